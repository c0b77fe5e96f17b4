abbrev MX3_init : mm_M := (yX3_init, cX3_init, 1, none, [])
theorem tw_44 : Cond.methodLink "SootQueen$Fan" 3 ⟨"java/lang/Object", "<init>", "()V"⟩ ∈ lw_tbl := List.mem_append_right _ (List.mem_of_getElem? (i := 44) (by decide +kernel))
theorem tw_57 : Cond.arrayClass Jvm.ClassFile.FieldType.int ∈ lw_tbl := List.mem_append_right _ (List.mem_of_getElem? (i := 57) (by decide +kernel))
theorem fi_X3_9 : mm_FI RX3 9 3 0 2 (.array .int) := ⟨(RX3, TX3, 2), rfl, rfl, by decide, by decide, tw_45, rfl, rfl, by decide +kernel⟩
abbrev MX10_init : mm_M := (yX10_init, cX10_init, 2, none, [])
theorem tw_37 : Cond.methodLink "SootQueen$Told" 3 ⟨"java/lang/Object", "<init>", "()V"⟩ ∈ lw_tbl := List.mem_append_right _ (List.mem_of_getElem? (i := 37) (by decide +kernel))
theorem tw_38 : Cond.classLink "SootQueen$Told" 9 "SootQueen$Fan" ∈ lw_tbl := List.mem_append_right _ (List.mem_of_getElem? (i := 38) (by decide +kernel))
theorem tw_39 : Cond.arrayOver (Jvm.ClassFile.FieldType.object "SootQueen$Fan") ∈ lw_tbl := List.mem_append_right _ (List.mem_of_getElem? (i := 39) (by decide +kernel))
theorem fi_X10_11 : mm_FI RX10 11 10 0 11 (.array (.object "SootQueen$Fan")) := ⟨(RX10, TX10, 11), rfl, rfl, by decide, by decide, tw_66, rfl, rfl, by decide +kernel⟩
theorem fi_X10_17 : mm_FI RX10 17 10 1 11 (.array .int) := ⟨(RX10, TX10, 11), rfl, rfl, by decide, by decide, tw_69, rfl, rfl, by decide +kernel⟩
theorem fi_X10_21 : mm_FI RX10 21 10 2 11 (.array .int) := ⟨(RX10, TX10, 11), rfl, rfl, by decide, by decide, tw_70, rfl, rfl, by decide +kernel⟩
theorem fi_X10_24 : mm_FI RX10 24 10 3 11 (.array .int) := ⟨(RX10, TX10, 11), rfl, rfl, by decide, by decide, tw_71, rfl, rfl, by decide +kernel⟩
theorem fi_X10_27 : mm_FI RX10 27 10 4 11 (.array .int) := ⟨(RX10, TX10, 11), rfl, rfl, by decide, by decide, tw_72, rfl, rfl, by decide +kernel⟩
theorem fi_X10_30 : mm_FI RX10 30 10 5 11 (.array .int) := ⟨(RX10, TX10, 11), rfl, rfl, by decide, by decide, tw_73, rfl, rfl, by decide +kernel⟩
theorem tw_58 : Cond.methodLink "SootQueen$Told" 34 ⟨"SootQueen$Told", "clear", "()V"⟩ ∈ lw_tbl := List.mem_append_right _ (List.mem_of_getElem? (i := 58) (by decide +kernel))
theorem cw_X10_34 : mm_CV RX10 34 MX10_clear 10 0 := ⟨⟨Or.inl tw_58, tw_61, tw_2, ⟨by decide, by decide⟩, by decide +kernel, by decide⟩, tw_59, by decide, (RX10, TX10, 11), rfl, tw_60⟩
def df_X3 : Nat → Value := fun k => match k with | 0 => .null | _ => .int 0
theorem tw_40 : Cond.instantiable "SootQueen$Fan" 2 ∈ lw_tbl := List.mem_append_right _ (List.mem_of_getElem? (i := 40) (by decide +kernel))
theorem nw_X10_9 : mm_NW RX10 9 3 2 df_X3 := ⟨(RX3, TX3, 2), rfl, rfl, tw_38, tw_40, tw_3, tyX3, tyX3_ok, by decide +kernel⟩
theorem tw_41 : Cond.methodLinkNest "SootQueen$Told" 33 ⟨"SootQueen$Fan", "<init>", "()V"⟩ "SootQueen" ∈ lw_tbl := List.mem_append_right _ (List.mem_of_getElem? (i := 41) (by decide +kernel))
theorem tw_43 : Cond.code ⟨"SootQueen$Fan", "<init>", "()V"⟩ prog_5_method_1_code 1 none ∈ lw_tbl := List.mem_append_right _ (List.mem_of_getElem? (i := 43) (by decide +kernel))
theorem tw_42 : Cond.instanceMethod ⟨"SootQueen$Fan", "<init>", "()V"⟩ ∈ lw_tbl := List.mem_append_right _ (List.mem_of_getElem? (i := 42) (by decide +kernel))
theorem cw_X10_33 : mm_CI RX10 33 MX3_init 0 := ⟨⟨Or.inr ⟨_, tw_41⟩, tw_43, tw_3, ⟨by decide, by decide⟩, by decide +kernel, by decide⟩, tw_42, rfl, rfl⟩
abbrev MX9_init : mm_M := (yX9_init, cX9_init, 1, none, [])
theorem tw_125 : Cond.methodLink "SootQueen$Tokens" 3 ⟨"java/lang/Object", "<init>", "()V"⟩ ∈ lw_tbl := List.mem_append_right _ (List.mem_of_getElem? (i := 125) (by decide +kernel))
abbrev MX1_init : mm_M := (yX1_init, cX1_init, 3, none, [])
theorem tw_155 : Cond.methodLink "SootQueen$Compiler" 3 ⟨"java/lang/Object", "<init>", "()V"⟩ ∈ lw_tbl := List.mem_append_right _ (List.mem_of_getElem? (i := 155) (by decide +kernel))
theorem fi_X1_9 : mm_FI RX1 9 1 0 6 (.array .int) := ⟨(RX1, TX1, 6), rfl, rfl, by decide, by decide, tw_156, rfl, rfl, by decide +kernel⟩
theorem fi_X1_15 : mm_FI RX1 15 1 4 6 (.object "SootQueen$Tokens") := ⟨(RX1, TX1, 6), rfl, rfl, by decide, by decide, tw_160, rfl, rfl, by decide +kernel⟩
abbrev MX8_init : mm_M := (yX8_init, cX8_init, 2, none, [])
theorem tw_119 : Cond.methodLink "SootQueen$Reader" 3 ⟨"java/lang/Object", "<init>", "()V"⟩ ∈ lw_tbl := List.mem_append_right _ (List.mem_of_getElem? (i := 119) (by decide +kernel))
def df_X9 : Nat → Value := fun k => match k with | 0 => .null | 1 => .int 0 | 2 => .int 0 | 3 => .int 0 | 4 => .int 0 | _ => .int 0
theorem tw_120 : Cond.classLink "SootQueen$Reader" 9 "SootQueen$Tokens" ∈ lw_tbl := List.mem_append_right _ (List.mem_of_getElem? (i := 120) (by decide +kernel))
theorem tw_121 : Cond.instantiable "SootQueen$Tokens" 6 ∈ lw_tbl := List.mem_append_right _ (List.mem_of_getElem? (i := 121) (by decide +kernel))
theorem nw_X8_9 : mm_NW RX8 9 9 6 df_X9 := ⟨(RX9, TX9, 6), rfl, rfl, tw_120, tw_121, tw_5, tyX9, tyX9_ok, by decide +kernel⟩
theorem tw_122 : Cond.methodLinkNest "SootQueen$Reader" 11 ⟨"SootQueen$Tokens", "<init>", "()V"⟩ "SootQueen" ∈ lw_tbl := List.mem_append_right _ (List.mem_of_getElem? (i := 122) (by decide +kernel))
theorem tw_124 : Cond.code ⟨"SootQueen$Tokens", "<init>", "()V"⟩ prog_11_method_1_code 1 none ∈ lw_tbl := List.mem_append_right _ (List.mem_of_getElem? (i := 124) (by decide +kernel))
theorem tw_123 : Cond.instanceMethod ⟨"SootQueen$Tokens", "<init>", "()V"⟩ ∈ lw_tbl := List.mem_append_right _ (List.mem_of_getElem? (i := 123) (by decide +kernel))
theorem cw_X8_11 : mm_CI RX8 11 MX9_init 0 := ⟨⟨Or.inr ⟨_, tw_122⟩, tw_124, tw_5, ⟨by decide, by decide⟩, by decide +kernel, by decide⟩, tw_123, rfl, rfl⟩
theorem fi_X8_12 : mm_FI RX8 12 8 0 7 (.object "SootQueen$Tokens") := ⟨(RX8, TX8, 7), rfl, rfl, by decide, by decide, tw_176, rfl, rfl, by decide +kernel⟩
theorem fi_X8_18 : mm_FI RX8 18 8 2 7 (.array .int) := ⟨(RX8, TX8, 7), rfl, rfl, by decide, by decide, tw_178, rfl, rfl, by decide +kernel⟩
theorem tw_175 : Cond.arrayClass Jvm.ClassFile.FieldType.boolean ∈ lw_tbl := List.mem_append_right _ (List.mem_of_getElem? (i := 175) (by decide +kernel))
theorem fi_X8_22 : mm_FI RX8 22 8 3 7 (.array .boolean) := ⟨(RX8, TX8, 7), rfl, rfl, by decide, by decide, tw_179, rfl, rfl, by decide +kernel⟩
def df_X1 : Nat → Value := fun k => match k with | 0 => .null | 1 => .int 0 | 2 => .int 0 | 3 => .int 0 | 4 => .null | _ => .null
theorem tw_150 : Cond.classLink "SootQueen$Reader" 30 "SootQueen$Compiler" ∈ lw_tbl := List.mem_append_right _ (List.mem_of_getElem? (i := 150) (by decide +kernel))
theorem tw_151 : Cond.instantiable "SootQueen$Compiler" 6 ∈ lw_tbl := List.mem_append_right _ (List.mem_of_getElem? (i := 151) (by decide +kernel))
theorem nw_X8_30 : mm_NW RX8 30 1 6 df_X1 := ⟨(RX1, TX1, 6), rfl, rfl, tw_150, tw_151, tw_6, tyX1, tyX1_ok, by decide +kernel⟩
theorem tw_152 : Cond.methodLink "SootQueen$Reader" 32 ⟨"SootQueen$Compiler", "<init>", "(LSootQueen$Tokens;LSootQueen$Told;)V"⟩ ∈ lw_tbl := List.mem_append_right _ (List.mem_of_getElem? (i := 152) (by decide +kernel))
theorem tw_154 : Cond.code ⟨"SootQueen$Compiler", "<init>", "(LSootQueen$Tokens;LSootQueen$Told;)V"⟩ prog_3_method_1_code 3 none ∈ lw_tbl := List.mem_append_right _ (List.mem_of_getElem? (i := 154) (by decide +kernel))
theorem tw_153 : Cond.instanceMethod ⟨"SootQueen$Compiler", "<init>", "(LSootQueen$Tokens;LSootQueen$Told;)V"⟩ ∈ lw_tbl := List.mem_append_right _ (List.mem_of_getElem? (i := 153) (by decide +kernel))
theorem cw_X8_32 : mm_CI RX8 32 MX1_init 2 := ⟨⟨Or.inl tw_152, tw_154, tw_6, ⟨by decide, by decide⟩, by decide +kernel, by decide⟩, tw_153, rfl, rfl⟩
theorem fi_X8_35 : mm_FI RX8 35 8 1 7 (.object "SootQueen$Compiler") := ⟨(RX8, TX8, 7), rfl, rfl, by decide, by decide, tw_177, rfl, rfl, by decide +kernel⟩
abbrev MX2_init : mm_M := (yX2_init, cX2_init, 1, none, [])
theorem tw_211 : Cond.methodLink "SootQueen$Draw" 1 ⟨"java/lang/Object", "<init>", "()V"⟩ ∈ lw_tbl := List.mem_append_right _ (List.mem_of_getElem? (i := 211) (by decide +kernel))
abbrev MX5_init : mm_M := (yX5_init, cX5_init, 2, none, [])
theorem tw_204 : Cond.methodLink "SootQueen$Log" 3 ⟨"java/lang/Object", "<init>", "()V"⟩ ∈ lw_tbl := List.mem_append_right _ (List.mem_of_getElem? (i := 204) (by decide +kernel))
theorem tw_205 : Cond.classLink "SootQueen$Log" 9 "SootQueen$Draw" ∈ lw_tbl := List.mem_append_right _ (List.mem_of_getElem? (i := 205) (by decide +kernel))
theorem tw_206 : Cond.arrayOver (Jvm.ClassFile.FieldType.object "SootQueen$Draw") ∈ lw_tbl := List.mem_append_right _ (List.mem_of_getElem? (i := 206) (by decide +kernel))
theorem fi_X5_11 : mm_FI RX5 11 5 0 4 (.array (.object "SootQueen$Draw")) := ⟨(RX5, TX5, 4), rfl, rfl, by decide, by decide, tw_262, rfl, rfl, by decide +kernel⟩
def df_X2 : Nat → Value := fun k => match k with | 0 => .int 0 | 1 => .int 0 | 2 => .int 0 | 3 => .int 0 | 4 => .int 0 | 5 => .int 0 | 6 => .int 0 | 7 => .int 0 | _ => .int 0
theorem tw_207 : Cond.instantiable "SootQueen$Draw" 9 ∈ lw_tbl := List.mem_append_right _ (List.mem_of_getElem? (i := 207) (by decide +kernel))
theorem nw_X5_9 : mm_NW RX5 9 2 9 df_X2 := ⟨(RX2, TX2, 9), rfl, rfl, tw_205, tw_207, tw_8, tyX2, tyX2_ok, by decide +kernel⟩
theorem tw_208 : Cond.methodLinkNest "SootQueen$Log" 17 ⟨"SootQueen$Draw", "<init>", "()V"⟩ "SootQueen" ∈ lw_tbl := List.mem_append_right _ (List.mem_of_getElem? (i := 208) (by decide +kernel))
theorem tw_210 : Cond.code ⟨"SootQueen$Draw", "<init>", "()V"⟩ prog_4_method_1_code 1 none ∈ lw_tbl := List.mem_append_right _ (List.mem_of_getElem? (i := 210) (by decide +kernel))
theorem tw_209 : Cond.instanceMethod ⟨"SootQueen$Draw", "<init>", "()V"⟩ ∈ lw_tbl := List.mem_append_right _ (List.mem_of_getElem? (i := 209) (by decide +kernel))
theorem cw_X5_17 : mm_CI RX5 17 MX2_init 0 := ⟨⟨Or.inr ⟨_, tw_208⟩, tw_210, tw_8, ⟨by decide, by decide⟩, by decide +kernel, by decide⟩, tw_209, rfl, rfl⟩
theorem fi_X5_18 : mm_FI RX5 18 5 1 4 (.object "SootQueen$Draw") := ⟨(RX5, TX5, 4), rfl, rfl, by decide, by decide, tw_263, rfl, rfl, by decide +kernel⟩
abbrev MX4_init : mm_M := (yX4_init, cX4_init, 3, none, [])
theorem tw_282 : Cond.methodLink "SootQueen$Game" 3 ⟨"java/lang/Object", "<init>", "()V"⟩ ∈ lw_tbl := List.mem_append_right _ (List.mem_of_getElem? (i := 282) (by decide +kernel))
theorem tw_283 : Cond.classLink "SootQueen$Game" 9 "SootQueen$Fan" ∈ lw_tbl := List.mem_append_right _ (List.mem_of_getElem? (i := 283) (by decide +kernel))
theorem fi_X4_11 : mm_FI RX4 11 4 0 12 (.array (.object "SootQueen$Fan")) := ⟨(RX4, TX4, 12), rfl, rfl, by decide, by decide, tw_285, rfl, rfl, by decide +kernel⟩
theorem nw_X4_9 : mm_NW RX4 9 3 2 df_X3 := ⟨(RX3, TX3, 2), rfl, rfl, tw_283, tw_40, tw_3, tyX3, tyX3_ok, by decide +kernel⟩
theorem tw_284 : Cond.methodLinkNest "SootQueen$Game" 17 ⟨"SootQueen$Fan", "<init>", "()V"⟩ "SootQueen" ∈ lw_tbl := List.mem_append_right _ (List.mem_of_getElem? (i := 284) (by decide +kernel))
theorem cw_X4_17 : mm_CI RX4 17 MX3_init 0 := ⟨⟨Or.inr ⟨_, tw_284⟩, tw_43, tw_3, ⟨by decide, by decide⟩, by decide +kernel, by decide⟩, tw_42, rfl, rfl⟩
theorem fi_X4_18 : mm_FI RX4 18 4 1 12 (.object "SootQueen$Fan") := ⟨(RX4, TX4, 12), rfl, rfl, by decide, by decide, tw_286, rfl, rfl, by decide +kernel⟩
theorem fi_X4_22 : mm_FI RX4 22 4 2 12 (.array .int) := ⟨(RX4, TX4, 12), rfl, rfl, by decide, by decide, tw_287, rfl, rfl, by decide +kernel⟩
theorem fi_X4_26 : mm_FI RX4 26 4 3 12 (.array .int) := ⟨(RX4, TX4, 12), rfl, rfl, by decide, by decide, tw_288, rfl, rfl, by decide +kernel⟩
theorem fi_X4_29 : mm_FI RX4 29 4 4 12 (.array .int) := ⟨(RX4, TX4, 12), rfl, rfl, by decide, by decide, tw_289, rfl, rfl, by decide +kernel⟩
theorem fi_X4_32 : mm_FI RX4 32 4 5 12 (.array .int) := ⟨(RX4, TX4, 12), rfl, rfl, by decide, by decide, tw_290, rfl, rfl, by decide +kernel⟩
abbrev MX7_init : mm_M := (yX7_init, cX7_init, 1, none, [])
theorem tw_333 : Cond.methodLink "SootQueen$Played" 3 ⟨"java/lang/Object", "<init>", "()V"⟩ ∈ lw_tbl := List.mem_append_right _ (List.mem_of_getElem? (i := 333) (by decide +kernel))
theorem fi_X7_9 : mm_FI RX7 9 7 0 8 (.array .int) := ⟨(RX7, TX7, 8), rfl, rfl, by decide, by decide, tw_336, rfl, rfl, by decide +kernel⟩
theorem fi_X7_15 : mm_FI RX7 15 7 1 8 (.array .int) := ⟨(RX7, TX7, 8), rfl, rfl, by decide, by decide, tw_337, rfl, rfl, by decide +kernel⟩
theorem fi_X7_18 : mm_FI RX7 18 7 2 8 (.array .int) := ⟨(RX7, TX7, 8), rfl, rfl, by decide, by decide, tw_338, rfl, rfl, by decide +kernel⟩
theorem tw_334 : Cond.classLink "SootQueen$Played" 21 "SootQueen$Draw" ∈ lw_tbl := List.mem_append_right _ (List.mem_of_getElem? (i := 334) (by decide +kernel))
theorem nw_X7_21 : mm_NW RX7 21 2 9 df_X2 := ⟨(RX2, TX2, 9), rfl, rfl, tw_334, tw_207, tw_8, tyX2, tyX2_ok, by decide +kernel⟩
theorem tw_335 : Cond.methodLinkNest "SootQueen$Played" 23 ⟨"SootQueen$Draw", "<init>", "()V"⟩ "SootQueen" ∈ lw_tbl := List.mem_append_right _ (List.mem_of_getElem? (i := 335) (by decide +kernel))
theorem cw_X7_23 : mm_CI RX7 23 MX2_init 0 := ⟨⟨Or.inr ⟨_, tw_335⟩, tw_210, tw_8, ⟨by decide, by decide⟩, by decide +kernel, by decide⟩, tw_209, rfl, rfl⟩
theorem fi_X7_24 : mm_FI RX7 24 7 3 8 (.object "SootQueen$Draw") := ⟨(RX7, TX7, 8), rfl, rfl, by decide, by decide, tw_339, rfl, rfl, by decide +kernel⟩
abbrev MX6_init : mm_M := (yX6_init, cX6_init, 3, none, [])
theorem tw_370 : Cond.methodLink "SootQueen$Outlook" 3 ⟨"java/lang/Object", "<init>", "()V"⟩ ∈ lw_tbl := List.mem_append_right _ (List.mem_of_getElem? (i := 370) (by decide +kernel))
theorem tw_371 : Cond.classLink "SootQueen$Outlook" 9 "SootQueen$Game" ∈ lw_tbl := List.mem_append_right _ (List.mem_of_getElem? (i := 371) (by decide +kernel))
theorem tw_372 : Cond.arrayOver (Jvm.ClassFile.FieldType.object "SootQueen$Game") ∈ lw_tbl := List.mem_append_right _ (List.mem_of_getElem? (i := 372) (by decide +kernel))
theorem fi_X6_11 : mm_FI RX6 11 6 0 12 (.array (.object "SootQueen$Game")) := ⟨(RX6, TX6, 12), rfl, rfl, by decide, by decide, tw_378, rfl, rfl, by decide +kernel⟩
def df_X7 : Nat → Value := fun k => match k with | 0 => .null | 1 => .null | 2 => .null | 3 => .null | 4 => .int 0 | 5 => .int 0 | 6 => .int 0 | _ => .int 0
theorem tw_373 : Cond.classLink "SootQueen$Outlook" 17 "SootQueen$Played" ∈ lw_tbl := List.mem_append_right _ (List.mem_of_getElem? (i := 373) (by decide +kernel))
theorem tw_329 : Cond.instantiable "SootQueen$Played" 8 ∈ lw_tbl := List.mem_append_right _ (List.mem_of_getElem? (i := 329) (by decide +kernel))
theorem nw_X6_17 : mm_NW RX6 17 7 8 df_X7 := ⟨(RX7, TX7, 8), rfl, rfl, tw_373, tw_329, tw_10, tyX7, tyX7_ok, by decide +kernel⟩
theorem tw_374 : Cond.methodLinkNest "SootQueen$Outlook" 19 ⟨"SootQueen$Played", "<init>", "()V"⟩ "SootQueen" ∈ lw_tbl := List.mem_append_right _ (List.mem_of_getElem? (i := 374) (by decide +kernel))
theorem tw_332 : Cond.code ⟨"SootQueen$Played", "<init>", "()V"⟩ prog_9_method_1_code 1 none ∈ lw_tbl := List.mem_append_right _ (List.mem_of_getElem? (i := 332) (by decide +kernel))
theorem tw_331 : Cond.instanceMethod ⟨"SootQueen$Played", "<init>", "()V"⟩ ∈ lw_tbl := List.mem_append_right _ (List.mem_of_getElem? (i := 331) (by decide +kernel))
theorem cw_X6_19 : mm_CI RX6 19 MX7_init 0 := ⟨⟨Or.inr ⟨_, tw_374⟩, tw_332, tw_10, ⟨by decide, by decide⟩, by decide +kernel, by decide⟩, tw_331, rfl, rfl⟩
theorem fi_X6_20 : mm_FI RX6 20 6 1 12 (.object "SootQueen$Played") := ⟨(RX6, TX6, 12), rfl, rfl, by decide, by decide, tw_379, rfl, rfl, by decide +kernel⟩
theorem tw_375 : Cond.classLink "SootQueen$Outlook" 24 "SootQueen$Draw" ∈ lw_tbl := List.mem_append_right _ (List.mem_of_getElem? (i := 375) (by decide +kernel))
theorem nw_X6_24 : mm_NW RX6 24 2 9 df_X2 := ⟨(RX2, TX2, 9), rfl, rfl, tw_375, tw_207, tw_8, tyX2, tyX2_ok, by decide +kernel⟩
theorem tw_376 : Cond.methodLinkNest "SootQueen$Outlook" 26 ⟨"SootQueen$Draw", "<init>", "()V"⟩ "SootQueen" ∈ lw_tbl := List.mem_append_right _ (List.mem_of_getElem? (i := 376) (by decide +kernel))
theorem cw_X6_26 : mm_CI RX6 26 MX2_init 0 := ⟨⟨Or.inr ⟨_, tw_376⟩, tw_210, tw_8, ⟨by decide, by decide⟩, by decide +kernel, by decide⟩, tw_209, rfl, rfl⟩
theorem fi_X6_27 : mm_FI RX6 27 6 2 12 (.object "SootQueen$Draw") := ⟨(RX6, TX6, 12), rfl, rfl, by decide, by decide, tw_380, rfl, rfl, by decide +kernel⟩
theorem fi_X6_31 : mm_FI RX6 31 6 3 12 (.array .int) := ⟨(RX6, TX6, 12), rfl, rfl, by decide, by decide, tw_381, rfl, rfl, by decide +kernel⟩
theorem fi_X6_35 : mm_FI RX6 35 6 4 12 (.array .int) := ⟨(RX6, TX6, 12), rfl, rfl, by decide, by decide, tw_382, rfl, rfl, by decide +kernel⟩
def df_X4 : Nat → Value := fun k => match k with | 0 => .null | 1 => .null | 2 => .null | 3 => .null | 4 => .null | 5 => .null | 6 => .null | 7 => .int 0 | 8 => .int 0 | 9 => .int 0 | 10 => .int 0 | _ => .int 0
theorem tw_278 : Cond.instantiable "SootQueen$Game" 12 ∈ lw_tbl := List.mem_append_right _ (List.mem_of_getElem? (i := 278) (by decide +kernel))
theorem nw_X6_9 : mm_NW RX6 9 4 12 df_X4 := ⟨(RX4, TX4, 12), rfl, rfl, tw_371, tw_278, tw_9, tyX4, tyX4_ok, by decide +kernel⟩
theorem tw_377 : Cond.methodLink "SootQueen$Outlook" 38 ⟨"SootQueen$Game", "<init>", "(LSootQueen$Told;)V"⟩ ∈ lw_tbl := List.mem_append_right _ (List.mem_of_getElem? (i := 377) (by decide +kernel))
theorem tw_281 : Cond.code ⟨"SootQueen$Game", "<init>", "(LSootQueen$Told;)V"⟩ prog_6_method_1_code 3 none ∈ lw_tbl := List.mem_append_right _ (List.mem_of_getElem? (i := 281) (by decide +kernel))
theorem tw_280 : Cond.instanceMethod ⟨"SootQueen$Game", "<init>", "(LSootQueen$Told;)V"⟩ ∈ lw_tbl := List.mem_append_right _ (List.mem_of_getElem? (i := 280) (by decide +kernel))
theorem cw_X6_38 : mm_CI RX6 38 MX4_init 1 := ⟨⟨Or.inl tw_377, tw_281, tw_9, ⟨by decide, by decide⟩, by decide +kernel, by decide⟩, tw_280, rfl, rfl⟩
abbrev MX0_init : mm_M := (yX0_init, cX0_init, 3, none, [])
theorem tw_427 : Cond.methodLink "SootQueen$Belief" 3 ⟨"java/lang/Object", "<init>", "()V"⟩ ∈ lw_tbl := List.mem_append_right _ (List.mem_of_getElem? (i := 427) (by decide +kernel))
theorem tw_428 : Cond.classLink "SootQueen$Belief" 9 "SootQueen$Fan" ∈ lw_tbl := List.mem_append_right _ (List.mem_of_getElem? (i := 428) (by decide +kernel))
theorem fi_X0_11 : mm_FI RX0 11 0 0 13 (.array (.object "SootQueen$Fan")) := ⟨(RX0, TX0, 13), rfl, rfl, by decide, by decide, tw_430, rfl, rfl, by decide +kernel⟩
theorem fi_X0_17 : mm_FI RX0 17 0 1 13 (.array (.object "SootQueen$Fan")) := ⟨(RX0, TX0, 13), rfl, rfl, by decide, by decide, tw_431, rfl, rfl, by decide +kernel⟩
theorem nw_X0_9 : mm_NW RX0 9 3 2 df_X3 := ⟨(RX3, TX3, 2), rfl, rfl, tw_428, tw_40, tw_3, tyX3, tyX3_ok, by decide +kernel⟩
theorem tw_429 : Cond.methodLinkNest "SootQueen$Belief" 20 ⟨"SootQueen$Fan", "<init>", "()V"⟩ "SootQueen" ∈ lw_tbl := List.mem_append_right _ (List.mem_of_getElem? (i := 429) (by decide +kernel))
theorem cw_X0_20 : mm_CI RX0 20 MX3_init 0 := ⟨⟨Or.inr ⟨_, tw_429⟩, tw_43, tw_3, ⟨by decide, by decide⟩, by decide +kernel, by decide⟩, tw_42, rfl, rfl⟩
theorem fi_X0_21 : mm_FI RX0 21 0 2 13 (.object "SootQueen$Fan") := ⟨(RX0, TX0, 13), rfl, rfl, by decide, by decide, tw_432, rfl, rfl, by decide +kernel⟩
theorem fi_X0_25 : mm_FI RX0 25 0 3 13 (.array .int) := ⟨(RX0, TX0, 13), rfl, rfl, by decide, by decide, tw_433, rfl, rfl, by decide +kernel⟩
theorem fi_X0_29 : mm_FI RX0 29 0 4 13 (.array .int) := ⟨(RX0, TX0, 13), rfl, rfl, by decide, by decide, tw_434, rfl, rfl, by decide +kernel⟩
theorem fi_X0_32 : mm_FI RX0 32 0 5 13 (.array .int) := ⟨(RX0, TX0, 13), rfl, rfl, by decide, by decide, tw_435, rfl, rfl, by decide +kernel⟩
theorem fi_X0_35 : mm_FI RX0 35 0 6 13 (.array .int) := ⟨(RX0, TX0, 13), rfl, rfl, by decide, by decide, tw_436, rfl, rfl, by decide +kernel⟩
abbrev MX11_init : mm_M := (yX11_init, cX11_init, 1, none, [])
theorem tw_29 : Cond.methodLink "SootQueen" 1 ⟨"java/lang/Object", "<init>", "()V"⟩ ∈ lw_tbl := List.mem_append_right _ (List.mem_of_getElem? (i := 29) (by decide +kernel))
theorem fi_X11_9 : mm_FI RX11 9 11 0 19 (.array .int) := ⟨(RX11, TX11, 19), rfl, rfl, by decide, by decide, tw_540, rfl, rfl, by decide +kernel⟩
def df_X10 : Nat → Value := fun k => match k with | 0 => .null | 1 => .null | 2 => .null | 3 => .null | 4 => .null | 5 => .null | 6 => .int 0 | 7 => .int 0 | 8 => .int 0 | 9 => .int 0 | _ => .int 0
theorem tw_32 : Cond.classLink "SootQueen" 13 "SootQueen$Told" ∈ lw_tbl := List.mem_append_right _ (List.mem_of_getElem? (i := 32) (by decide +kernel))
theorem tw_33 : Cond.instantiable "SootQueen$Told" 11 ∈ lw_tbl := List.mem_append_right _ (List.mem_of_getElem? (i := 33) (by decide +kernel))
theorem nw_X11_13 : mm_NW RX11 13 10 11 df_X10 := ⟨(RX10, TX10, 11), rfl, rfl, tw_32, tw_33, tw_2, tyX10, tyX10_ok, by decide +kernel⟩
theorem tw_34 : Cond.methodLink "SootQueen" 15 ⟨"SootQueen$Told", "<init>", "()V"⟩ ∈ lw_tbl := List.mem_append_right _ (List.mem_of_getElem? (i := 34) (by decide +kernel))
theorem tw_36 : Cond.code ⟨"SootQueen$Told", "<init>", "()V"⟩ prog_12_method_1_code 2 none ∈ lw_tbl := List.mem_append_right _ (List.mem_of_getElem? (i := 36) (by decide +kernel))
theorem tw_35 : Cond.instanceMethod ⟨"SootQueen$Told", "<init>", "()V"⟩ ∈ lw_tbl := List.mem_append_right _ (List.mem_of_getElem? (i := 35) (by decide +kernel))
theorem cw_X11_15 : mm_CI RX11 15 MX10_init 0 := ⟨⟨Or.inl tw_34, tw_36, tw_2, ⟨by decide, by decide⟩, by decide +kernel, by decide⟩, tw_35, rfl, rfl⟩
def df_X8 : Nat → Value := fun k => match k with | 0 => .null | 1 => .null | 2 => .null | 3 => .null | 4 => .null | 5 => .int 0 | _ => .int 0
theorem tw_114 : Cond.classLink "SootQueen" 23 "SootQueen$Reader" ∈ lw_tbl := List.mem_append_right _ (List.mem_of_getElem? (i := 114) (by decide +kernel))
theorem tw_115 : Cond.instantiable "SootQueen$Reader" 7 ∈ lw_tbl := List.mem_append_right _ (List.mem_of_getElem? (i := 115) (by decide +kernel))
theorem nw_X11_23 : mm_NW RX11 23 8 7 df_X8 := ⟨(RX8, TX8, 7), rfl, rfl, tw_114, tw_115, tw_4, tyX8, tyX8_ok, by decide +kernel⟩
theorem tw_116 : Cond.methodLink "SootQueen" 25 ⟨"SootQueen$Reader", "<init>", "(LSootQueen$Told;)V"⟩ ∈ lw_tbl := List.mem_append_right _ (List.mem_of_getElem? (i := 116) (by decide +kernel))
theorem tw_118 : Cond.code ⟨"SootQueen$Reader", "<init>", "(LSootQueen$Told;)V"⟩ prog_10_method_1_code 2 none ∈ lw_tbl := List.mem_append_right _ (List.mem_of_getElem? (i := 118) (by decide +kernel))
theorem tw_117 : Cond.instanceMethod ⟨"SootQueen$Reader", "<init>", "(LSootQueen$Told;)V"⟩ ∈ lw_tbl := List.mem_append_right _ (List.mem_of_getElem? (i := 117) (by decide +kernel))
theorem cw_X11_25 : mm_CI RX11 25 MX8_init 1 := ⟨⟨Or.inl tw_116, tw_118, tw_4, ⟨by decide, by decide⟩, by decide +kernel, by decide⟩, tw_117, rfl, rfl⟩
theorem fi_X11_28 : mm_FI RX11 28 11 3 19 (.object "SootQueen$Reader") := ⟨(RX11, TX11, 19), rfl, rfl, by decide, by decide, tw_543, rfl, rfl, by decide +kernel⟩
def df_X5 : Nat → Value := fun k => match k with | 0 => .null | 1 => .null | 2 => .int 0 | _ => .int 0
theorem tw_199 : Cond.classLink "SootQueen" 32 "SootQueen$Log" ∈ lw_tbl := List.mem_append_right _ (List.mem_of_getElem? (i := 199) (by decide +kernel))
theorem tw_200 : Cond.instantiable "SootQueen$Log" 4 ∈ lw_tbl := List.mem_append_right _ (List.mem_of_getElem? (i := 200) (by decide +kernel))
theorem nw_X11_32 : mm_NW RX11 32 5 4 df_X5 := ⟨(RX5, TX5, 4), rfl, rfl, tw_199, tw_200, tw_7, tyX5, tyX5_ok, by decide +kernel⟩
theorem tw_201 : Cond.methodLink "SootQueen" 34 ⟨"SootQueen$Log", "<init>", "()V"⟩ ∈ lw_tbl := List.mem_append_right _ (List.mem_of_getElem? (i := 201) (by decide +kernel))
theorem tw_203 : Cond.code ⟨"SootQueen$Log", "<init>", "()V"⟩ prog_7_method_1_code 2 none ∈ lw_tbl := List.mem_append_right _ (List.mem_of_getElem? (i := 203) (by decide +kernel))
theorem tw_202 : Cond.instanceMethod ⟨"SootQueen$Log", "<init>", "()V"⟩ ∈ lw_tbl := List.mem_append_right _ (List.mem_of_getElem? (i := 202) (by decide +kernel))
theorem cw_X11_34 : mm_CI RX11 34 MX5_init 0 := ⟨⟨Or.inl tw_201, tw_203, tw_7, ⟨by decide, by decide⟩, by decide +kernel, by decide⟩, tw_202, rfl, rfl⟩
theorem fi_X11_35 : mm_FI RX11 35 11 4 19 (.object "SootQueen$Log") := ⟨(RX11, TX11, 19), rfl, rfl, by decide, by decide, tw_544, rfl, rfl, by decide +kernel⟩
theorem fi_X11_39 : mm_FI RX11 39 11 5 19 (.object "SootQueen$Log") := ⟨(RX11, TX11, 19), rfl, rfl, by decide, by decide, tw_545, rfl, rfl, by decide +kernel⟩
theorem tw_277 : Cond.classLink "SootQueen" 42 "SootQueen$Game" ∈ lw_tbl := List.mem_append_right _ (List.mem_of_getElem? (i := 277) (by decide +kernel))
theorem nw_X11_42 : mm_NW RX11 42 4 12 df_X4 := ⟨(RX4, TX4, 12), rfl, rfl, tw_277, tw_278, tw_9, tyX4, tyX4_ok, by decide +kernel⟩
theorem tw_279 : Cond.methodLink "SootQueen" 44 ⟨"SootQueen$Game", "<init>", "(LSootQueen$Told;)V"⟩ ∈ lw_tbl := List.mem_append_right _ (List.mem_of_getElem? (i := 279) (by decide +kernel))
theorem cw_X11_44 : mm_CI RX11 44 MX4_init 1 := ⟨⟨Or.inl tw_279, tw_281, tw_9, ⟨by decide, by decide⟩, by decide +kernel, by decide⟩, tw_280, rfl, rfl⟩
theorem fi_X11_45 : mm_FI RX11 45 11 6 19 (.object "SootQueen$Game") := ⟨(RX11, TX11, 19), rfl, rfl, by decide, by decide, tw_546, rfl, rfl, by decide +kernel⟩
theorem fi_X11_49 : mm_FI RX11 49 11 7 19 (.object "SootQueen$Game") := ⟨(RX11, TX11, 19), rfl, rfl, by decide, by decide, tw_547, rfl, rfl, by decide +kernel⟩
theorem fi_X11_52 : mm_FI RX11 52 11 8 19 (.object "SootQueen$Game") := ⟨(RX11, TX11, 19), rfl, rfl, by decide, by decide, tw_548, rfl, rfl, by decide +kernel⟩
theorem fi_X11_55 : mm_FI RX11 55 11 9 19 (.object "SootQueen$Game") := ⟨(RX11, TX11, 19), rfl, rfl, by decide, by decide, tw_549, rfl, rfl, by decide +kernel⟩
theorem tw_326 : Cond.classLink "SootQueen" 58 "SootQueen$Draw" ∈ lw_tbl := List.mem_append_right _ (List.mem_of_getElem? (i := 326) (by decide +kernel))
theorem nw_X11_58 : mm_NW RX11 58 2 9 df_X2 := ⟨(RX2, TX2, 9), rfl, rfl, tw_326, tw_207, tw_8, tyX2, tyX2_ok, by decide +kernel⟩
theorem tw_327 : Cond.methodLinkNest "SootQueen" 60 ⟨"SootQueen$Draw", "<init>", "()V"⟩ "SootQueen" ∈ lw_tbl := List.mem_append_right _ (List.mem_of_getElem? (i := 327) (by decide +kernel))
theorem cw_X11_60 : mm_CI RX11 60 MX2_init 0 := ⟨⟨Or.inr ⟨_, tw_327⟩, tw_210, tw_8, ⟨by decide, by decide⟩, by decide +kernel, by decide⟩, tw_209, rfl, rfl⟩
theorem fi_X11_61 : mm_FI RX11 61 11 10 19 (.object "SootQueen$Draw") := ⟨(RX11, TX11, 19), rfl, rfl, by decide, by decide, tw_550, rfl, rfl, by decide +kernel⟩
theorem tw_328 : Cond.classLink "SootQueen" 65 "SootQueen$Played" ∈ lw_tbl := List.mem_append_right _ (List.mem_of_getElem? (i := 328) (by decide +kernel))
theorem nw_X11_65 : mm_NW RX11 65 7 8 df_X7 := ⟨(RX7, TX7, 8), rfl, rfl, tw_328, tw_329, tw_10, tyX7, tyX7_ok, by decide +kernel⟩
theorem tw_330 : Cond.methodLinkNest "SootQueen" 67 ⟨"SootQueen$Played", "<init>", "()V"⟩ "SootQueen" ∈ lw_tbl := List.mem_append_right _ (List.mem_of_getElem? (i := 330) (by decide +kernel))
theorem cw_X11_67 : mm_CI RX11 67 MX7_init 0 := ⟨⟨Or.inr ⟨_, tw_330⟩, tw_332, tw_10, ⟨by decide, by decide⟩, by decide +kernel, by decide⟩, tw_331, rfl, rfl⟩
theorem fi_X11_68 : mm_FI RX11 68 11 11 19 (.object "SootQueen$Played") := ⟨(RX11, TX11, 19), rfl, rfl, by decide, by decide, tw_551, rfl, rfl, by decide +kernel⟩
def df_X6 : Nat → Value := fun k => match k with | 0 => .null | 1 => .null | 2 => .null | 3 => .null | 4 => .null | 5 => .int 0 | 6 => .int 0 | 7 => .int 0 | 8 => .long 0 | 9 => .long 0 | 10 => .long 0 | _ => .long 0
theorem tw_365 : Cond.classLink "SootQueen" 72 "SootQueen$Outlook" ∈ lw_tbl := List.mem_append_right _ (List.mem_of_getElem? (i := 365) (by decide +kernel))
theorem tw_366 : Cond.instantiable "SootQueen$Outlook" 12 ∈ lw_tbl := List.mem_append_right _ (List.mem_of_getElem? (i := 366) (by decide +kernel))
theorem nw_X11_72 : mm_NW RX11 72 6 12 df_X6 := ⟨(RX6, TX6, 12), rfl, rfl, tw_365, tw_366, tw_11, tyX6, tyX6_ok, by decide +kernel⟩
theorem tw_367 : Cond.methodLink "SootQueen" 74 ⟨"SootQueen$Outlook", "<init>", "(LSootQueen$Told;)V"⟩ ∈ lw_tbl := List.mem_append_right _ (List.mem_of_getElem? (i := 367) (by decide +kernel))
theorem tw_369 : Cond.code ⟨"SootQueen$Outlook", "<init>", "(LSootQueen$Told;)V"⟩ prog_8_method_1_code 3 none ∈ lw_tbl := List.mem_append_right _ (List.mem_of_getElem? (i := 369) (by decide +kernel))
theorem tw_368 : Cond.instanceMethod ⟨"SootQueen$Outlook", "<init>", "(LSootQueen$Told;)V"⟩ ∈ lw_tbl := List.mem_append_right _ (List.mem_of_getElem? (i := 368) (by decide +kernel))
theorem cw_X11_74 : mm_CI RX11 74 MX6_init 1 := ⟨⟨Or.inl tw_367, tw_369, tw_11, ⟨by decide, by decide⟩, by decide +kernel, by decide⟩, tw_368, rfl, rfl⟩
theorem fi_X11_75 : mm_FI RX11 75 11 12 19 (.object "SootQueen$Outlook") := ⟨(RX11, TX11, 19), rfl, rfl, by decide, by decide, tw_552, rfl, rfl, by decide +kernel⟩
def df_X0 : Nat → Value := fun k => match k with | 0 => .null | 1 => .null | 2 => .null | 3 => .null | 4 => .null | 5 => .null | 6 => .null | 7 => .null | 8 => .int 0 | 9 => .int 0 | 10 => .int 0 | 11 => .int 0 | _ => .int 0
theorem tw_422 : Cond.classLink "SootQueen" 79 "SootQueen$Belief" ∈ lw_tbl := List.mem_append_right _ (List.mem_of_getElem? (i := 422) (by decide +kernel))
theorem tw_423 : Cond.instantiable "SootQueen$Belief" 13 ∈ lw_tbl := List.mem_append_right _ (List.mem_of_getElem? (i := 423) (by decide +kernel))
theorem nw_X11_79 : mm_NW RX11 79 0 13 df_X0 := ⟨(RX0, TX0, 13), rfl, rfl, tw_422, tw_423, tw_12, tyX0, tyX0_ok, by decide +kernel⟩
theorem tw_424 : Cond.methodLink "SootQueen" 81 ⟨"SootQueen$Belief", "<init>", "(LSootQueen$Log;)V"⟩ ∈ lw_tbl := List.mem_append_right _ (List.mem_of_getElem? (i := 424) (by decide +kernel))
theorem tw_426 : Cond.code ⟨"SootQueen$Belief", "<init>", "(LSootQueen$Log;)V"⟩ prog_2_method_1_code 3 none ∈ lw_tbl := List.mem_append_right _ (List.mem_of_getElem? (i := 426) (by decide +kernel))
theorem tw_425 : Cond.instanceMethod ⟨"SootQueen$Belief", "<init>", "(LSootQueen$Log;)V"⟩ ∈ lw_tbl := List.mem_append_right _ (List.mem_of_getElem? (i := 425) (by decide +kernel))
theorem cw_X11_81 : mm_CI RX11 81 MX0_init 1 := ⟨⟨Or.inl tw_424, tw_426, tw_12, ⟨by decide, by decide⟩, by decide +kernel, by decide⟩, tw_425, rfl, rfl⟩
theorem fi_X11_84 : mm_FI RX11 84 11 13 19 (.object "SootQueen$Belief") := ⟨(RX11, TX11, 19), rfl, rfl, by decide, by decide, tw_553, rfl, rfl, by decide +kernel⟩
abbrev MX12_init : mm_M := (yX12_init, cX12_init, 1, none, [])
theorem tw_1353 : Cond.methodLink "SootQueenModel" 1 ⟨"java/lang/Object", "<init>", "()V"⟩ ∈ lw_tbl := List.mem_append_right _ (List.mem_of_getElem? (i := 1353) (by decide +kernel))
theorem fi_X12_16 : mm_FI RX12 16 12 5 75 (.array .int) := ⟨(RX12, TX12, 75), rfl, rfl, by decide, by decide, tw_1407, rfl, rfl, by decide +kernel⟩
theorem fi_X12_20 : mm_FI RX12 20 12 6 75 (.array .int) := ⟨(RX12, TX12, 75), rfl, rfl, by decide, by decide, tw_1408, rfl, rfl, by decide +kernel⟩
theorem ks_1600 : (Int16.ofInt (1600)).toInt32 = (1600 : Int32) := by decide
theorem fi_X12_23 : mm_FI RX12 23 12 7 75 (.array .int) := ⟨(RX12, TX12, 75), rfl, rfl, by decide, by decide, tw_1409, rfl, rfl, by decide +kernel⟩
theorem fi_X12_26 : mm_FI RX12 26 12 8 75 (.array .int) := ⟨(RX12, TX12, 75), rfl, rfl, by decide, by decide, tw_1410, rfl, rfl, by decide +kernel⟩
theorem fi_X12_32 : mm_FI RX12 32 12 12 75 (.array .int) := ⟨(RX12, TX12, 75), rfl, rfl, by decide, by decide, tw_1414, rfl, rfl, by decide +kernel⟩
theorem fi_X12_35 : mm_FI RX12 35 12 31 75 (.array .int) := ⟨(RX12, TX12, 75), rfl, rfl, by decide, by decide, tw_1433, rfl, rfl, by decide +kernel⟩
theorem fi_X12_38 : mm_FI RX12 38 12 32 75 (.array .int) := ⟨(RX12, TX12, 75), rfl, rfl, by decide, by decide, tw_1434, rfl, rfl, by decide +kernel⟩
theorem fi_X12_41 : mm_FI RX12 41 12 33 75 (.array .int) := ⟨(RX12, TX12, 75), rfl, rfl, by decide, by decide, tw_1435, rfl, rfl, by decide +kernel⟩
theorem fi_X12_44 : mm_FI RX12 44 12 34 75 (.array .int) := ⟨(RX12, TX12, 75), rfl, rfl, by decide, by decide, tw_1436, rfl, rfl, by decide +kernel⟩
theorem ks_800 : (Int16.ofInt (800)).toInt32 = (800 : Int32) := by decide
theorem fi_X12_47 : mm_FI RX12 47 12 35 75 (.array .int) := ⟨(RX12, TX12, 75), rfl, rfl, by decide, by decide, tw_1437, rfl, rfl, by decide +kernel⟩
theorem fi_X12_50 : mm_FI RX12 50 12 36 75 (.array .int) := ⟨(RX12, TX12, 75), rfl, rfl, by decide, by decide, tw_1438, rfl, rfl, by decide +kernel⟩
theorem fi_X12_53 : mm_FI RX12 53 12 37 75 (.array .boolean) := ⟨(RX12, TX12, 75), rfl, rfl, by decide, by decide, tw_1439, rfl, rfl, by decide +kernel⟩
theorem fi_X12_57 : mm_FI RX12 57 12 38 75 (.array .int) := ⟨(RX12, TX12, 75), rfl, rfl, by decide, by decide, tw_1440, rfl, rfl, by decide +kernel⟩
theorem fi_X12_60 : mm_FI RX12 60 12 39 75 (.array .int) := ⟨(RX12, TX12, 75), rfl, rfl, by decide, by decide, tw_1441, rfl, rfl, by decide +kernel⟩
theorem fi_X12_63 : mm_FI RX12 63 12 40 75 (.array .int) := ⟨(RX12, TX12, 75), rfl, rfl, by decide, by decide, tw_1442, rfl, rfl, by decide +kernel⟩
theorem fi_X12_66 : mm_FI RX12 66 12 42 75 (.array .int) := ⟨(RX12, TX12, 75), rfl, rfl, by decide, by decide, tw_1444, rfl, rfl, by decide +kernel⟩
theorem fi_X12_69 : mm_FI RX12 69 12 43 75 (.array .int) := ⟨(RX12, TX12, 75), rfl, rfl, by decide, by decide, tw_1445, rfl, rfl, by decide +kernel⟩
theorem fi_X12_72 : mm_FI RX12 72 12 44 75 (.array .int) := ⟨(RX12, TX12, 75), rfl, rfl, by decide, by decide, tw_1446, rfl, rfl, by decide +kernel⟩
theorem fi_X12_75 : mm_FI RX12 75 12 49 75 (.array .int) := ⟨(RX12, TX12, 75), rfl, rfl, by decide, by decide, tw_1451, rfl, rfl, by decide +kernel⟩
theorem fi_X12_78 : mm_FI RX12 78 12 50 75 (.array .int) := ⟨(RX12, TX12, 75), rfl, rfl, by decide, by decide, tw_1452, rfl, rfl, by decide +kernel⟩
theorem fi_X12_81 : mm_FI RX12 81 12 51 75 (.array .int) := ⟨(RX12, TX12, 75), rfl, rfl, by decide, by decide, tw_1453, rfl, rfl, by decide +kernel⟩
theorem fi_X12_84 : mm_FI RX12 84 12 52 75 (.array .int) := ⟨(RX12, TX12, 75), rfl, rfl, by decide, by decide, tw_1454, rfl, rfl, by decide +kernel⟩
theorem fi_X12_87 : mm_FI RX12 87 12 53 75 (.array .int) := ⟨(RX12, TX12, 75), rfl, rfl, by decide, by decide, tw_1455, rfl, rfl, by decide +kernel⟩
theorem ks_640 : (Int16.ofInt (640)).toInt32 = (640 : Int32) := by decide
theorem fi_X12_90 : mm_FI RX12 90 12 55 75 (.array .int) := ⟨(RX12, TX12, 75), rfl, rfl, by decide, by decide, tw_1457, rfl, rfl, by decide +kernel⟩
theorem fi_X12_93 : mm_FI RX12 93 12 56 75 (.array .int) := ⟨(RX12, TX12, 75), rfl, rfl, by decide, by decide, tw_1458, rfl, rfl, by decide +kernel⟩
theorem fi_X12_96 : mm_FI RX12 96 12 57 75 (.array .int) := ⟨(RX12, TX12, 75), rfl, rfl, by decide, by decide, tw_1459, rfl, rfl, by decide +kernel⟩
theorem tw_1628 : Cond.arrayClass Jvm.ClassFile.FieldType.long ∈ lw_tbl := List.mem_append_right _ (List.mem_of_getElem? (i := 1628) (by decide +kernel))
theorem fi_X12_99 : mm_FI RX12 99 12 58 75 (.array .long) := ⟨(RX12, TX12, 75), rfl, rfl, by decide, by decide, tw_1460, rfl, rfl, by decide +kernel⟩
theorem fi_X12_103 : mm_FI RX12 103 12 59 75 (.array .int) := ⟨(RX12, TX12, 75), rfl, rfl, by decide, by decide, tw_1461, rfl, rfl, by decide +kernel⟩
theorem fi_X12_106 : mm_FI RX12 106 12 60 75 (.array .int) := ⟨(RX12, TX12, 75), rfl, rfl, by decide, by decide, tw_1462, rfl, rfl, by decide +kernel⟩
theorem fi_X12_109 : mm_FI RX12 109 12 61 75 (.array .int) := ⟨(RX12, TX12, 75), rfl, rfl, by decide, by decide, tw_1463, rfl, rfl, by decide +kernel⟩
theorem fi_X12_112 : mm_FI RX12 112 12 62 75 (.array .int) := ⟨(RX12, TX12, 75), rfl, rfl, by decide, by decide, tw_1464, rfl, rfl, by decide +kernel⟩
theorem fi_X12_115 : mm_FI RX12 115 12 63 75 (.array .int) := ⟨(RX12, TX12, 75), rfl, rfl, by decide, by decide, tw_1465, rfl, rfl, by decide +kernel⟩
theorem fi_X12_118 : mm_FI RX12 118 12 64 75 (.array .int) := ⟨(RX12, TX12, 75), rfl, rfl, by decide, by decide, tw_1466, rfl, rfl, by decide +kernel⟩
theorem fi_X12_121 : mm_FI RX12 121 12 65 75 (.array .int) := ⟨(RX12, TX12, 75), rfl, rfl, by decide, by decide, tw_1467, rfl, rfl, by decide +kernel⟩
theorem fi_X12_124 : mm_FI RX12 124 12 68 75 (.array .int) := ⟨(RX12, TX12, 75), rfl, rfl, by decide, by decide, tw_1470, rfl, rfl, by decide +kernel⟩
theorem fi_X12_127 : mm_FI RX12 127 12 69 75 (.array .int) := ⟨(RX12, TX12, 75), rfl, rfl, by decide, by decide, tw_1471, rfl, rfl, by decide +kernel⟩
theorem fi_X12_130 : mm_FI RX12 130 12 70 75 (.array .int) := ⟨(RX12, TX12, 75), rfl, rfl, by decide, by decide, tw_1472, rfl, rfl, by decide +kernel⟩
theorem fi_X12_133 : mm_FI RX12 133 12 73 75 (.array .int) := ⟨(RX12, TX12, 75), rfl, rfl, by decide, by decide, tw_1475, rfl, rfl, by decide +kernel⟩
theorem fi_X12_136 : mm_FI RX12 136 12 74 75 (.array .int) := ⟨(RX12, TX12, 75), rfl, rfl, by decide, by decide, tw_1476, rfl, rfl, by decide +kernel⟩
theorem dX3_init_0 : decode cX3_init 0 = .ok (.aload_n 0, 1) := by decide +kernel
theorem dX3_init_1 : decode cX3_init 1 = .ok (.invokespecial 3, 3) := by decide +kernel
theorem dX3_init_4 : decode cX3_init 4 = .ok (.aload_n 0, 1) := by decide +kernel
theorem dX3_init_5 : decode cX3_init 5 = .ok (.bipush 10, 2) := by decide +kernel
theorem dX3_init_7 : decode cX3_init 7 = .ok (.newarray .int, 2) := by decide +kernel
theorem dX3_init_9 : decode cX3_init 9 = .ok (.putfield 9, 3) := by decide +kernel
theorem dX3_init_12 : decode cX3_init 12 = .ok (.return_, 1) := by decide +kernel
def X3_init (e : (Nat → Nat) × Nat) (a0 : Nat) (g : mm_T) (m : mm_V) (z : Nat) : Option mm_S := (mm_new g m z 20 10 (fun _ => defaultValue (mm_aty 20))).bind fun s1 => (mm_pf s1.1 s1.2.1 3 2 a0 0 (.ref z)).bind fun m2 => some (s1.1, m2, s1.2.2)
theorem X3_init_ok {K : mm_K} {e : (Nat → Nat) × Nat} (hz : e.1 = K.2.2.2.2) {d : Nat} (hd : 1 ≤ d) {a0 : Nat} {g : mm_T} {m : mm_V} {z : Nat} {r : mm_S} (hr : X3_init e a0 g m z = some r) : mm_Cn K MX3_init d (1, 10, .inl none, (r.1, r.2.1), some r.2.2) [.ref a0] (g, m) (some z) := by
  obtain ⟨d, rfl⟩ : ∃ d', d = d' + 1 := ⟨d - 1, by omega⟩
  refine mm_entry (by decide) (Nat.le_of_ble_eq_true rfl) rfl (fun hok => ?_)
  unfold X3_init at hr
  refine mg_weak (L' := [some (.ref a0)]) (mm_le_s mm_le_0) ?_
  refine ml_aload_n (pc := 0) dX3_init_0 rfl mm_get_0 ?_
  refine mg_obj (pc := 1) dX3_init_1 tw_44 (Nat.le_of_ble_eq_true rfl) ?_
  refine ml_aload_n (pc := 4) dX3_init_4 rfl mm_get_0 ?_
  refine mg_bipush (pc := 5) dX3_init_5 kb_10 ?_
  refine mb_newa (pc := 7) dX3_init_7 (t := 20) (by decide) (by decide) rfl tw_57 (by decide) (by decide) (by decide) hr (Nat.le_of_ble_eq_true rfl) (Nat.le_of_ble_eq_true rfl) (fun s1 hr => ?_)
  refine mb_putF (pc := 9) dX3_init_9 fi_X3_9 rfl rfl hr (fun m2 hr => ?_)
  exact mb_mret dX3_init_12 rfl rfl rfl (Nat.le_of_ble_eq_true rfl) (Nat.le_of_ble_eq_true rfl) hr
theorem dX10_init_0 : decode cX10_init 0 = .ok (.aload_n 0, 1) := by decide +kernel
theorem dX10_init_1 : decode cX10_init 1 = .ok (.invokespecial 3, 3) := by decide +kernel
theorem dX10_init_4 : decode cX10_init 4 = .ok (.aload_n 0, 1) := by decide +kernel
theorem dX10_init_5 : decode cX10_init 5 = .ok (.bipush 6, 2) := by decide +kernel
theorem dX10_init_7 : decode cX10_init 7 = .ok (.anewarray 9, 3) := by decide +kernel
theorem dX10_init_10 : decode cX10_init 10 = .ok (.putfield 11, 3) := by decide +kernel
theorem dX10_init_13 : decode cX10_init 13 = .ok (.aload_n 0, 1) := by decide +kernel
theorem dX10_init_14 : decode cX10_init 14 = .ok (.bipush 36, 2) := by decide +kernel
theorem dX10_init_16 : decode cX10_init 16 = .ok (.newarray .int, 2) := by decide +kernel
theorem dX10_init_18 : decode cX10_init 18 = .ok (.putfield 17, 3) := by decide +kernel
theorem dX10_init_21 : decode cX10_init 21 = .ok (.aload_n 0, 1) := by decide +kernel
theorem dX10_init_22 : decode cX10_init 22 = .ok (.sipush 600, 3) := by decide +kernel
theorem dX10_init_25 : decode cX10_init 25 = .ok (.newarray .int, 2) := by decide +kernel
theorem dX10_init_27 : decode cX10_init 27 = .ok (.putfield 21, 3) := by decide +kernel
theorem dX10_init_30 : decode cX10_init 30 = .ok (.aload_n 0, 1) := by decide +kernel
theorem dX10_init_31 : decode cX10_init 31 = .ok (.bipush 12, 2) := by decide +kernel
theorem dX10_init_33 : decode cX10_init 33 = .ok (.newarray .int, 2) := by decide +kernel
theorem dX10_init_35 : decode cX10_init 35 = .ok (.putfield 24, 3) := by decide +kernel
theorem dX10_init_38 : decode cX10_init 38 = .ok (.aload_n 0, 1) := by decide +kernel
theorem dX10_init_39 : decode cX10_init 39 = .ok (.bipush 12, 2) := by decide +kernel
theorem dX10_init_41 : decode cX10_init 41 = .ok (.newarray .int, 2) := by decide +kernel
theorem dX10_init_43 : decode cX10_init 43 = .ok (.putfield 27, 3) := by decide +kernel
theorem dX10_init_46 : decode cX10_init 46 = .ok (.aload_n 0, 1) := by decide +kernel
theorem dX10_init_47 : decode cX10_init 47 = .ok (.sipush 128, 3) := by decide +kernel
theorem dX10_init_50 : decode cX10_init 50 = .ok (.newarray .int, 2) := by decide +kernel
theorem dX10_init_52 : decode cX10_init 52 = .ok (.putfield 30, 3) := by decide +kernel
theorem dX10_init_55 : decode cX10_init 55 = .ok (.iconst 0, 1) := by decide +kernel
theorem dX10_init_56 : decode cX10_init 56 = .ok (.istore_n 1, 1) := by decide +kernel
theorem dX10_init_57 : decode cX10_init 57 = .ok (.iload_n 1, 1) := by decide +kernel
theorem dX10_init_58 : decode cX10_init 58 = .ok (.bipush 6, 2) := by decide +kernel
theorem dX10_init_60 : decode cX10_init 60 = .ok (.if_icmp .ge 22, 3) := by decide +kernel
theorem dX10_init_63 : decode cX10_init 63 = .ok (.aload_n 0, 1) := by decide +kernel
theorem dX10_init_64 : decode cX10_init 64 = .ok (.getfield 11, 3) := by decide +kernel
theorem dX10_init_67 : decode cX10_init 67 = .ok (.iload_n 1, 1) := by decide +kernel
theorem dX10_init_68 : decode cX10_init 68 = .ok (.new 9, 3) := by decide +kernel
theorem dX10_init_71 : decode cX10_init 71 = .ok (.dup, 1) := by decide +kernel
theorem dX10_init_72 : decode cX10_init 72 = .ok (.invokespecial 33, 3) := by decide +kernel
theorem dX10_init_75 : decode cX10_init 75 = .ok (.aastore, 1) := by decide +kernel
theorem dX10_init_76 : decode cX10_init 76 = .ok (.iinc 1 1, 3) := by decide +kernel
theorem dX10_init_79 : decode cX10_init 79 = .ok (.goto (-22), 3) := by decide +kernel
theorem dX10_init_82 : decode cX10_init 82 = .ok (.aload_n 0, 1) := by decide +kernel
theorem dX10_init_83 : decode cX10_init 83 = .ok (.invokevirtual 34, 3) := by decide +kernel
theorem dX10_init_86 : decode cX10_init 86 = .ok (.return_, 1) := by decide +kernel
def X10_init_L57 (e : (Nat → Nat) × Nat) (a0 : Nat) : Nat → Int32 → mm_T → mm_V → Nat → Option mm_S
  | 0, _, _, _, _ => none
  | n + 1, i1, g, m, z => if (6 : Int32) ≤ i1 then (if g a0 = some (10, 11) then ((X10_clear (g, e) a0 m).bind fun r2 => some (g, r2, z)) else none) else ((mm_gr g m 10 11 a0 0).bind fun c3 => (mm_new g m z 3 2 df_X3).bind fun s4 => (X3_init e z s4.1 s4.2.1 s4.2.2).bind fun s5 => (mm_sr s5.1 s5.2.1 23 3 2 c3 i1 z).bind fun m6 => X10_init_L57 e a0 n (i1 + 1) s5.1 m6 s5.2.2)
theorem X10_init_L57_ok {K : mm_K} {e : (Nat → Nat) × Nat} (hz : e.1 = K.2.2.2.2) {d : Nat} (hd : 2 ≤ d) {a0 : Nat} : ∀ (n k : Nat) (i1 : Int32) (g : mm_T) (m : mm_V) (z : Nat) (r : mm_S), k + n = 7 → X10_init_L57 e a0 n i1 g m z = some r → mm_G K MX10_init d (20, 878, .inl none, (r.1, r.2.1), some r.2.2) 57 [some (.ref a0), some (.int i1)] [] (g, m) (some z) (6 + 2 * k) (794 + 12 * k) := by
  obtain ⟨d, rfl⟩ : ∃ d', d = d' + 1 := ⟨d - 1, by omega⟩
  intro n
  induction n with
  | zero => intro k i1 g m z r hk hr; unfold X10_init_L57 at hr; cases hr
  | succ n ih =>
    intro k i1 g m z r hk hr
    unfold X10_init_L57 at hr
    refine ml_iload_n (pc := 57) dX10_init_57 rfl (mm_get_s mm_get_0) ?_
    refine mg_bipush (pc := 58) dX10_init_58 kb_6 ?_
    refine mb_icmp_ge (pc := 60) 82 dX10_init_60 rfl hr (fun hr => ?_) (fun hr => ?_)
    · refine mg_cs (c2 := 20) (s2 := 878) (by omega) (by omega) ?_
      refine ml_aload_n (pc := 82) dX10_init_82 rfl mm_get_0 ?_
      refine mb_ck hr (fun hb1 hr => ?_)
      refine mb_cVv (pc := 83) (As := []) (rest := []) dX10_init_83 cw_X10_34 hb1 hr (fun v hv => X10_clear_ok (e := (g, e)) hz (by omega) hb1 hv) rfl (Nat.le_of_ble_eq_true rfl) (Nat.le_of_ble_eq_true rfl) (Nat.le_of_ble_eq_true rfl) (fun r2 hr => ?_)
      exact mb_mret dX10_init_86 rfl rfl rfl (Nat.le_of_ble_eq_true rfl) (Nat.le_of_ble_eq_true rfl) hr
    · refine ml_aload_n (pc := 63) dX10_init_63 rfl mm_get_0 ?_
      refine mb_gr (pc := 64) dX10_init_64 fl_X10_11 hr (fun c3 hr => ?_)
      refine ml_iload_n (pc := 67) dX10_init_67 rfl (mm_get_s mm_get_0) ?_
      refine mb_new (pc := 68) dX10_init_68 nw_X10_9 hr (by simp only; omega) (by simp only; omega) (fun s4 hr => ?_)
      refine mg_dup (pc := 71) dX10_init_71 rfl ?_
      refine mb_cI (pc := 72) (C := 1) (W0 := 10) (As := []) (rest := [.ref z, .int i1, .ref c3]) dX10_init_72 cw_X10_33 hr (fun v hv => X3_init_ok hz (by omega) hv) rfl (Nat.le_of_ble_eq_true rfl) (by simp only; omega) (by simp only; omega) (fun s5 hr => ?_)
      refine mb_sr (pc := 75) dX10_init_75 (by decide) (by decide) ⟨(RX3, TX3, 2), rfl, rfl⟩ hr (fun m6 hr => ?_)
      refine ml_iinc (pc := 76) dX10_init_76 (mm_get_s mm_get_0) (congrArg (fun z => i1 + z) kc_1) (Nat.le_of_ble_eq_true rfl) mm_st1_r ?_
      refine mg_goto (pc := 79) 57 dX10_init_79 rfl ?_
      refine mg_cs (c2 := 6 + 2 * (k + 1)) (s2 := 794 + 12 * (k + 1)) (by omega) (by omega) ?_
      exact mg_weak (mm_le_s (mm_le_s mm_le_0)) (ih (k + 1) _ _ _ _ _ (by omega) hr)
def X10_init (e : (Nat → Nat) × Nat) (a0 : Nat) (g : mm_T) (m : mm_V) (z : Nat) : Option mm_S := (mm_new g m z 23 6 (fun _ => .null)).bind fun s1 => (mm_pf s1.1 s1.2.1 10 11 a0 0 (.ref z)).bind fun m2 => (mm_new s1.1 m2 s1.2.2 20 36 (fun _ => defaultValue (mm_aty 20))).bind fun s3 => (mm_pf s3.1 s3.2.1 10 11 a0 1 (.ref s1.2.2)).bind fun m4 => (mm_new s3.1 m4 s3.2.2 20 600 (fun _ => defaultValue (mm_aty 20))).bind fun s5 => (mm_pf s5.1 s5.2.1 10 11 a0 2 (.ref s3.2.2)).bind fun m6 => (mm_new s5.1 m6 s5.2.2 20 12 (fun _ => defaultValue (mm_aty 20))).bind fun s7 => (mm_pf s7.1 s7.2.1 10 11 a0 3 (.ref s5.2.2)).bind fun m8 => (mm_new s7.1 m8 s7.2.2 20 12 (fun _ => defaultValue (mm_aty 20))).bind fun s9 => (mm_pf s9.1 s9.2.1 10 11 a0 4 (.ref s7.2.2)).bind fun m10 => (mm_new s9.1 m10 s9.2.2 20 128 (fun _ => defaultValue (mm_aty 20))).bind fun s11 => (mm_pf s11.1 s11.2.1 10 11 a0 5 (.ref s9.2.2)).bind fun m12 => X10_init_L57 e a0 7 (0 : Int32) s11.1 m12 s11.2.2
theorem X10_init_ok {K : mm_K} {e : (Nat → Nat) × Nat} (hz : e.1 = K.2.2.2.2) {d : Nat} (hd : 2 ≤ d) {a0 : Nat} {g : mm_T} {m : mm_V} {z : Nat} {r : mm_S} (hr : X10_init e a0 g m z = some r) : mm_Cn K MX10_init d (20, 878, .inl none, (r.1, r.2.1), some r.2.2) [.ref a0] (g, m) (some z) := by
  obtain ⟨d, rfl⟩ : ∃ d', d = d' + 1 := ⟨d - 1, by omega⟩
  refine mm_entry (by decide) (Nat.le_of_ble_eq_true rfl) rfl (fun hok => ?_)
  unfold X10_init at hr
  refine mg_weak (L' := [some (.ref a0), none]) (mm_le_s (mm_le_e mm_le_0)) ?_
  refine ml_aload_n (pc := 0) dX10_init_0 rfl mm_get_0 ?_
  refine mg_obj (pc := 1) dX10_init_1 tw_37 (Nat.le_of_ble_eq_true rfl) ?_
  refine ml_aload_n (pc := 4) dX10_init_4 rfl mm_get_0 ?_
  refine mg_bipush (pc := 5) dX10_init_5 kb_6 ?_
  refine mb_anew (pc := 7) dX10_init_7 (t := 23) (by decide) (by decide) rfl tw_38 tw_39 (by decide) (by decide) (by decide) hr (Nat.le_of_ble_eq_true rfl) (Nat.le_of_ble_eq_true rfl) (fun s1 hr => ?_)
  refine mb_putF (pc := 10) dX10_init_10 fi_X10_11 rfl rfl hr (fun m2 hr => ?_)
  refine ml_aload_n (pc := 13) dX10_init_13 rfl mm_get_0 ?_
  refine mg_bipush (pc := 14) dX10_init_14 kb_36 ?_
  refine mb_newa (pc := 16) dX10_init_16 (t := 20) (by decide) (by decide) rfl tw_57 (by decide) (by decide) (by decide) hr (Nat.le_of_ble_eq_true rfl) (Nat.le_of_ble_eq_true rfl) (fun s3 hr => ?_)
  refine mb_putF (pc := 18) dX10_init_18 fi_X10_17 rfl rfl hr (fun m4 hr => ?_)
  refine ml_aload_n (pc := 21) dX10_init_21 rfl mm_get_0 ?_
  refine mg_sipush (pc := 22) dX10_init_22 ks_600 ?_
  refine mb_newa (pc := 25) dX10_init_25 (t := 20) (by decide) (by decide) rfl tw_57 (by decide) (by decide) (by decide) hr (Nat.le_of_ble_eq_true rfl) (Nat.le_of_ble_eq_true rfl) (fun s5 hr => ?_)
  refine mb_putF (pc := 27) dX10_init_27 fi_X10_21 rfl rfl hr (fun m6 hr => ?_)
  refine ml_aload_n (pc := 30) dX10_init_30 rfl mm_get_0 ?_
  refine mg_bipush (pc := 31) dX10_init_31 kb_12 ?_
  refine mb_newa (pc := 33) dX10_init_33 (t := 20) (by decide) (by decide) rfl tw_57 (by decide) (by decide) (by decide) hr (Nat.le_of_ble_eq_true rfl) (Nat.le_of_ble_eq_true rfl) (fun s7 hr => ?_)
  refine mb_putF (pc := 35) dX10_init_35 fi_X10_24 rfl rfl hr (fun m8 hr => ?_)
  refine ml_aload_n (pc := 38) dX10_init_38 rfl mm_get_0 ?_
  refine mg_bipush (pc := 39) dX10_init_39 kb_12 ?_
  refine mb_newa (pc := 41) dX10_init_41 (t := 20) (by decide) (by decide) rfl tw_57 (by decide) (by decide) (by decide) hr (Nat.le_of_ble_eq_true rfl) (Nat.le_of_ble_eq_true rfl) (fun s9 hr => ?_)
  refine mb_putF (pc := 43) dX10_init_43 fi_X10_27 rfl rfl hr (fun m10 hr => ?_)
  refine ml_aload_n (pc := 46) dX10_init_46 rfl mm_get_0 ?_
  refine mg_sipush (pc := 47) dX10_init_47 ks_128 ?_
  refine mb_newa (pc := 50) dX10_init_50 (t := 20) (by decide) (by decide) rfl tw_57 (by decide) (by decide) (by decide) hr (Nat.le_of_ble_eq_true rfl) (Nat.le_of_ble_eq_true rfl) (fun s11 hr => ?_)
  refine mb_putF (pc := 52) dX10_init_52 fi_X10_30 rfl rfl hr (fun m12 hr => ?_)
  refine mg_iconst (pc := 55) dX10_init_55 kc_0 ?_
  refine ml_istore_n (pc := 56) dX10_init_56 rfl (Nat.le_of_ble_eq_true rfl) mm_st1_r ?_
  exact mg_weak (mm_le_s (mm_le_s mm_le_0)) (X10_init_L57_ok hz hd 7 0 _ _ _ _ _ rfl hr)
theorem dX9_init_0 : decode cX9_init 0 = .ok (.aload_n 0, 1) := by decide +kernel
theorem dX9_init_1 : decode cX9_init 1 = .ok (.invokespecial 3, 3) := by decide +kernel
theorem dX9_init_4 : decode cX9_init 4 = .ok (.aload_n 0, 1) := by decide +kernel
theorem dX9_init_5 : decode cX9_init 5 = .ok (.iconst 0, 1) := by decide +kernel
theorem dX9_init_6 : decode cX9_init 6 = .ok (.newarray .int, 2) := by decide +kernel
theorem dX9_init_8 : decode cX9_init 8 = .ok (.putfield 9, 3) := by decide +kernel
theorem dX9_init_11 : decode cX9_init 11 = .ok (.aload_n 0, 1) := by decide +kernel
theorem dX9_init_12 : decode cX9_init 12 = .ok (.iconst (-1), 1) := by decide +kernel
theorem dX9_init_13 : decode cX9_init 13 = .ok (.putfield 15, 3) := by decide +kernel
theorem dX9_init_16 : decode cX9_init 16 = .ok (.return_, 1) := by decide +kernel
def X9_init (e : (Nat → Nat) × Nat) (a0 : Nat) (g : mm_T) (m : mm_V) (z : Nat) : Option mm_S := (mm_new g m z 20 0 (fun _ => defaultValue (mm_aty 20))).bind fun s1 => (mm_pf s1.1 s1.2.1 9 6 a0 0 (.ref z)).bind fun m2 => (mm_pf s1.1 m2 9 6 a0 4 (.int (-1 : Int32))).bind fun m3 => some (s1.1, m3, s1.2.2)
theorem X9_init_ok {K : mm_K} {e : (Nat → Nat) × Nat} (hz : e.1 = K.2.2.2.2) {d : Nat} (hd : 1 ≤ d) {a0 : Nat} {g : mm_T} {m : mm_V} {z : Nat} {r : mm_S} (hr : X9_init e a0 g m z = some r) : mm_Cn K MX9_init d (1, 0, .inl none, (r.1, r.2.1), some r.2.2) [.ref a0] (g, m) (some z) := by
  obtain ⟨d, rfl⟩ : ∃ d', d = d' + 1 := ⟨d - 1, by omega⟩
  refine mm_entry (by decide) (Nat.le_of_ble_eq_true rfl) rfl (fun hok => ?_)
  unfold X9_init at hr
  refine mg_weak (L' := [some (.ref a0)]) (mm_le_s mm_le_0) ?_
  refine ml_aload_n (pc := 0) dX9_init_0 rfl mm_get_0 ?_
  refine mg_obj (pc := 1) dX9_init_1 tw_125 (Nat.le_of_ble_eq_true rfl) ?_
  refine ml_aload_n (pc := 4) dX9_init_4 rfl mm_get_0 ?_
  refine mg_iconst (pc := 5) dX9_init_5 kc_0 ?_
  refine mb_newa (pc := 6) dX9_init_6 (t := 20) (by decide) (by decide) rfl tw_57 (by decide) (by decide) (by decide) hr (Nat.le_of_ble_eq_true rfl) (Nat.le_of_ble_eq_true rfl) (fun s1 hr => ?_)
  refine mb_pq (pc := 8) dX9_init_8 fp_X9_9 hr (fun m2 hr => ?_)
  refine ml_aload_n (pc := 11) dX9_init_11 rfl mm_get_0 ?_
  refine mg_iconst (pc := 12) dX9_init_12 kc_m1 ?_
  refine mb_pi (pc := 13) dX9_init_13 fp_X9_15 hr (fun m3 hr => ?_)
  exact mb_mret dX9_init_16 rfl rfl rfl (Nat.le_of_ble_eq_true rfl) (Nat.le_of_ble_eq_true rfl) hr
theorem dX1_init_0 : decode cX1_init 0 = .ok (.aload_n 0, 1) := by decide +kernel
theorem dX1_init_1 : decode cX1_init 1 = .ok (.invokespecial 3, 3) := by decide +kernel
theorem dX1_init_4 : decode cX1_init 4 = .ok (.aload_n 0, 1) := by decide +kernel
theorem dX1_init_5 : decode cX1_init 5 = .ok (.sipush 128, 3) := by decide +kernel
theorem dX1_init_8 : decode cX1_init 8 = .ok (.newarray .int, 2) := by decide +kernel
theorem dX1_init_10 : decode cX1_init 10 = .ok (.putfield 9, 3) := by decide +kernel
theorem dX1_init_13 : decode cX1_init 13 = .ok (.aload_n 0, 1) := by decide +kernel
theorem dX1_init_14 : decode cX1_init 14 = .ok (.aload_n 1, 1) := by decide +kernel
theorem dX1_init_15 : decode cX1_init 15 = .ok (.putfield 15, 3) := by decide +kernel
theorem dX1_init_18 : decode cX1_init 18 = .ok (.aload_n 0, 1) := by decide +kernel
theorem dX1_init_19 : decode cX1_init 19 = .ok (.aload_n 2, 1) := by decide +kernel
theorem dX1_init_20 : decode cX1_init 20 = .ok (.putfield 19, 3) := by decide +kernel
theorem dX1_init_23 : decode cX1_init 23 = .ok (.return_, 1) := by decide +kernel
def X1_init (e : (Nat → Nat) × Nat) (a0 : Nat) (a1 : Nat) (a2 : Nat) (g : mm_T) (m : mm_V) (z : Nat) : Option mm_S := (mm_new g m z 20 128 (fun _ => defaultValue (mm_aty 20))).bind fun s1 => (mm_pf s1.1 s1.2.1 1 6 a0 0 (.ref z)).bind fun m2 => (mm_pf s1.1 m2 1 6 a0 4 (.ref a1)).bind fun m3 => (mm_pf s1.1 m3 1 6 a0 5 (.ref a2)).bind fun m4 => some (s1.1, m4, s1.2.2)
theorem X1_init_ok {K : mm_K} {e : (Nat → Nat) × Nat} (hz : e.1 = K.2.2.2.2) {d : Nat} (hd : 1 ≤ d) {a0 : Nat} {a1 : Nat} {a2 : Nat} {g : mm_T} {m : mm_V} {z : Nat} {r : mm_S} (hr : X1_init e a0 a1 a2 g m z = some r) : mm_Cn K MX1_init d (1, 128, .inl none, (r.1, r.2.1), some r.2.2) [.ref a0, .ref a1, .ref a2] (g, m) (some z) := by
  obtain ⟨d, rfl⟩ : ∃ d', d = d' + 1 := ⟨d - 1, by omega⟩
  refine mm_entry (by decide) (Nat.le_of_ble_eq_true rfl) rfl (fun hok => ?_)
  unfold X1_init at hr
  refine mg_weak (L' := [some (.ref a0), some (.ref a1), some (.ref a2)]) (mm_le_s (mm_le_s (mm_le_s mm_le_0))) ?_
  refine ml_aload_n (pc := 0) dX1_init_0 rfl mm_get_0 ?_
  refine mg_obj (pc := 1) dX1_init_1 tw_155 (Nat.le_of_ble_eq_true rfl) ?_
  refine ml_aload_n (pc := 4) dX1_init_4 rfl mm_get_0 ?_
  refine mg_sipush (pc := 5) dX1_init_5 ks_128 ?_
  refine mb_newa (pc := 8) dX1_init_8 (t := 20) (by decide) (by decide) rfl tw_57 (by decide) (by decide) (by decide) hr (Nat.le_of_ble_eq_true rfl) (Nat.le_of_ble_eq_true rfl) (fun s1 hr => ?_)
  refine mb_putF (pc := 10) dX1_init_10 fi_X1_9 rfl rfl hr (fun m2 hr => ?_)
  refine ml_aload_n (pc := 13) dX1_init_13 rfl mm_get_0 ?_
  refine ml_aload_n (pc := 14) dX1_init_14 rfl (mm_get_s mm_get_0) ?_
  refine mb_putF (pc := 15) dX1_init_15 fi_X1_15 rfl rfl hr (fun m3 hr => ?_)
  refine ml_aload_n (pc := 18) dX1_init_18 rfl mm_get_0 ?_
  refine ml_aload_n (pc := 19) dX1_init_19 rfl (mm_get_s (mm_get_s mm_get_0)) ?_
  refine mb_pr (pc := 20) dX1_init_20 fp_X1_19 hr (fun m4 hr => ?_)
  exact mb_mret dX1_init_23 rfl rfl rfl (Nat.le_of_ble_eq_true rfl) (Nat.le_of_ble_eq_true rfl) hr
theorem dX8_init_0 : decode cX8_init 0 = .ok (.aload_n 0, 1) := by decide +kernel
theorem dX8_init_1 : decode cX8_init 1 = .ok (.invokespecial 3, 3) := by decide +kernel
theorem dX8_init_4 : decode cX8_init 4 = .ok (.aload_n 0, 1) := by decide +kernel
theorem dX8_init_5 : decode cX8_init 5 = .ok (.new 9, 3) := by decide +kernel
theorem dX8_init_8 : decode cX8_init 8 = .ok (.dup, 1) := by decide +kernel
theorem dX8_init_9 : decode cX8_init 9 = .ok (.invokespecial 11, 3) := by decide +kernel
theorem dX8_init_12 : decode cX8_init 12 = .ok (.putfield 12, 3) := by decide +kernel
theorem dX8_init_15 : decode cX8_init 15 = .ok (.aload_n 0, 1) := by decide +kernel
theorem dX8_init_16 : decode cX8_init 16 = .ok (.bipush 10, 2) := by decide +kernel
theorem dX8_init_18 : decode cX8_init 18 = .ok (.newarray .int, 2) := by decide +kernel
theorem dX8_init_20 : decode cX8_init 20 = .ok (.putfield 18, 3) := by decide +kernel
theorem dX8_init_23 : decode cX8_init 23 = .ok (.aload_n 0, 1) := by decide +kernel
theorem dX8_init_24 : decode cX8_init 24 = .ok (.bipush 42, 2) := by decide +kernel
theorem dX8_init_26 : decode cX8_init 26 = .ok (.newarray .boolean, 2) := by decide +kernel
theorem dX8_init_28 : decode cX8_init 28 = .ok (.putfield 22, 3) := by decide +kernel
theorem dX8_init_31 : decode cX8_init 31 = .ok (.aload_n 0, 1) := by decide +kernel
theorem dX8_init_32 : decode cX8_init 32 = .ok (.aload_n 1, 1) := by decide +kernel
theorem dX8_init_33 : decode cX8_init 33 = .ok (.putfield 26, 3) := by decide +kernel
theorem dX8_init_36 : decode cX8_init 36 = .ok (.aload_n 0, 1) := by decide +kernel
theorem dX8_init_37 : decode cX8_init 37 = .ok (.new 30, 3) := by decide +kernel
theorem dX8_init_40 : decode cX8_init 40 = .ok (.dup, 1) := by decide +kernel
theorem dX8_init_41 : decode cX8_init 41 = .ok (.aload_n 0, 1) := by decide +kernel
theorem dX8_init_42 : decode cX8_init 42 = .ok (.getfield 12, 3) := by decide +kernel
theorem dX8_init_45 : decode cX8_init 45 = .ok (.aload_n 1, 1) := by decide +kernel
theorem dX8_init_46 : decode cX8_init 46 = .ok (.invokespecial 32, 3) := by decide +kernel
theorem dX8_init_49 : decode cX8_init 49 = .ok (.putfield 35, 3) := by decide +kernel
theorem dX8_init_52 : decode cX8_init 52 = .ok (.return_, 1) := by decide +kernel
def X8_init (e : (Nat → Nat) × Nat) (a0 : Nat) (a1 : Nat) (g : mm_T) (m : mm_V) (z : Nat) : Option mm_S := (mm_new g m z 9 6 df_X9).bind fun s1 => (X9_init e z s1.1 s1.2.1 s1.2.2).bind fun s2 => (mm_pf s2.1 s2.2.1 8 7 a0 0 (.ref z)).bind fun m3 => (mm_new s2.1 m3 s2.2.2 20 10 (fun _ => defaultValue (mm_aty 20))).bind fun s4 => (mm_pf s4.1 s4.2.1 8 7 a0 2 (.ref s2.2.2)).bind fun m5 => (mm_new s4.1 m5 s4.2.2 22 42 (fun _ => defaultValue (mm_aty 22))).bind fun s6 => (mm_pf s6.1 s6.2.1 8 7 a0 3 (.ref s4.2.2)).bind fun m7 => (mm_pf s6.1 m7 8 7 a0 4 (.ref a1)).bind fun m8 => (mm_new s6.1 m8 s6.2.2 1 6 df_X1).bind fun s9 => (mm_gr s9.1 s9.2.1 8 7 a0 0).bind fun c10 => (X1_init e s6.2.2 c10 a1 s9.1 s9.2.1 s9.2.2).bind fun s11 => (mm_pf s11.1 s11.2.1 8 7 a0 1 (.ref s6.2.2)).bind fun m12 => some (s11.1, m12, s11.2.2)
theorem X8_init_ok {K : mm_K} {e : (Nat → Nat) × Nat} (hz : e.1 = K.2.2.2.2) {d : Nat} (hd : 2 ≤ d) {a0 : Nat} {a1 : Nat} {g : mm_T} {m : mm_V} {z : Nat} {r : mm_S} (hr : X8_init e a0 a1 g m z = some r) : mm_Cn K MX8_init d (6, 192, .inl none, (r.1, r.2.1), some r.2.2) [.ref a0, .ref a1] (g, m) (some z) := by
  obtain ⟨d, rfl⟩ : ∃ d', d = d' + 1 := ⟨d - 1, by omega⟩
  refine mm_entry (by decide) (Nat.le_of_ble_eq_true rfl) rfl (fun hok => ?_)
  unfold X8_init at hr
  refine mg_weak (L' := [some (.ref a0), some (.ref a1)]) (mm_le_s (mm_le_s mm_le_0)) ?_
  refine ml_aload_n (pc := 0) dX8_init_0 rfl mm_get_0 ?_
  refine mg_obj (pc := 1) dX8_init_1 tw_119 (Nat.le_of_ble_eq_true rfl) ?_
  refine ml_aload_n (pc := 4) dX8_init_4 rfl mm_get_0 ?_
  refine mb_new (pc := 5) dX8_init_5 nw_X8_9 hr (Nat.le_of_ble_eq_true rfl) (Nat.le_of_ble_eq_true rfl) (fun s1 hr => ?_)
  refine mg_dup (pc := 8) dX8_init_8 rfl ?_
  refine mb_cI (pc := 9) (C := 1) (W0 := 0) (As := []) (rest := [.ref z, .ref a0]) dX8_init_9 cw_X8_11 hr (fun v hv => X9_init_ok hz (by omega) hv) rfl (Nat.le_of_ble_eq_true rfl) (Nat.le_of_ble_eq_true rfl) (Nat.le_of_ble_eq_true rfl) (fun s2 hr => ?_)
  refine mb_putF (pc := 12) dX8_init_12 fi_X8_12 rfl rfl hr (fun m3 hr => ?_)
  refine ml_aload_n (pc := 15) dX8_init_15 rfl mm_get_0 ?_
  refine mg_bipush (pc := 16) dX8_init_16 kb_10 ?_
  refine mb_newa (pc := 18) dX8_init_18 (t := 20) (by decide) (by decide) rfl tw_57 (by decide) (by decide) (by decide) hr (Nat.le_of_ble_eq_true rfl) (Nat.le_of_ble_eq_true rfl) (fun s4 hr => ?_)
  refine mb_putF (pc := 20) dX8_init_20 fi_X8_18 rfl rfl hr (fun m5 hr => ?_)
  refine ml_aload_n (pc := 23) dX8_init_23 rfl mm_get_0 ?_
  refine mg_bipush (pc := 24) dX8_init_24 kb_42 ?_
  refine mb_newa (pc := 26) dX8_init_26 (t := 22) (by decide) (by decide) rfl tw_175 (by decide) (by decide) (by decide) hr (Nat.le_of_ble_eq_true rfl) (Nat.le_of_ble_eq_true rfl) (fun s6 hr => ?_)
  refine mb_putF (pc := 28) dX8_init_28 fi_X8_22 rfl rfl hr (fun m7 hr => ?_)
  refine ml_aload_n (pc := 31) dX8_init_31 rfl mm_get_0 ?_
  refine ml_aload_n (pc := 32) dX8_init_32 rfl (mm_get_s mm_get_0) ?_
  refine mb_pr (pc := 33) dX8_init_33 fp_X8_26 hr (fun m8 hr => ?_)
  refine ml_aload_n (pc := 36) dX8_init_36 rfl mm_get_0 ?_
  refine mb_new (pc := 37) dX8_init_37 nw_X8_30 hr (Nat.le_of_ble_eq_true rfl) (Nat.le_of_ble_eq_true rfl) (fun s9 hr => ?_)
  refine mg_dup (pc := 40) dX8_init_40 rfl ?_
  refine ml_aload_n (pc := 41) dX8_init_41 rfl mm_get_0 ?_
  refine mb_gr (pc := 42) dX8_init_42 fl_X8_12 hr (fun c10 hr => ?_)
  refine ml_aload_n (pc := 45) dX8_init_45 rfl (mm_get_s mm_get_0) ?_
  refine mb_cI (pc := 46) (C := 1) (W0 := 128) (As := [.ref c10, .ref a1]) (rest := [.ref s6.2.2, .ref a0]) dX8_init_46 cw_X8_32 hr (fun v hv => X1_init_ok hz (by omega) hv) rfl (Nat.le_of_ble_eq_true rfl) (Nat.le_of_ble_eq_true rfl) (Nat.le_of_ble_eq_true rfl) (fun s11 hr => ?_)
  refine mb_putF (pc := 49) dX8_init_49 fi_X8_35 rfl rfl hr (fun m12 hr => ?_)
  exact mb_mret dX8_init_52 rfl rfl rfl (Nat.le_of_ble_eq_true rfl) (Nat.le_of_ble_eq_true rfl) hr
theorem dX2_init_0 : decode cX2_init 0 = .ok (.aload_n 0, 1) := by decide +kernel
theorem dX2_init_1 : decode cX2_init 1 = .ok (.invokespecial 1, 3) := by decide +kernel
theorem dX2_init_4 : decode cX2_init 4 = .ok (.return_, 1) := by decide +kernel
def X2_init (e : (Nat → Nat) × Nat) (a0 : Nat) (g : mm_T) (m : mm_V) (z : Nat) : Option mm_S := some (g, m, z)
theorem X2_init_ok {K : mm_K} {e : (Nat → Nat) × Nat} (hz : e.1 = K.2.2.2.2) {d : Nat} (hd : 1 ≤ d) {a0 : Nat} {g : mm_T} {m : mm_V} {z : Nat} {r : mm_S} (hr : X2_init e a0 g m z = some r) : mm_Cn K MX2_init d (0, 0, .inl none, (r.1, r.2.1), some r.2.2) [.ref a0] (g, m) (some z) := by
  obtain ⟨d, rfl⟩ : ∃ d', d = d' + 1 := ⟨d - 1, by omega⟩
  refine mm_entry (by decide) (Nat.le_of_ble_eq_true rfl) rfl (fun hok => ?_)
  unfold X2_init at hr
  refine mg_weak (L' := [some (.ref a0)]) (mm_le_s mm_le_0) ?_
  refine ml_aload_n (pc := 0) dX2_init_0 rfl mm_get_0 ?_
  refine mg_obj (pc := 1) dX2_init_1 tw_211 (Nat.le_of_ble_eq_true rfl) ?_
  exact mb_mret dX2_init_4 rfl rfl rfl (Nat.le_of_ble_eq_true rfl) (Nat.le_of_ble_eq_true rfl) hr
theorem dX5_init_0 : decode cX5_init 0 = .ok (.aload_n 0, 1) := by decide +kernel
theorem dX5_init_1 : decode cX5_init 1 = .ok (.invokespecial 3, 3) := by decide +kernel
theorem dX5_init_4 : decode cX5_init 4 = .ok (.aload_n 0, 1) := by decide +kernel
theorem dX5_init_5 : decode cX5_init 5 = .ok (.bipush 60, 2) := by decide +kernel
theorem dX5_init_7 : decode cX5_init 7 = .ok (.anewarray 9, 3) := by decide +kernel
theorem dX5_init_10 : decode cX5_init 10 = .ok (.putfield 11, 3) := by decide +kernel
theorem dX5_init_13 : decode cX5_init 13 = .ok (.aload_n 0, 1) := by decide +kernel
theorem dX5_init_14 : decode cX5_init 14 = .ok (.new 9, 3) := by decide +kernel
theorem dX5_init_17 : decode cX5_init 17 = .ok (.dup, 1) := by decide +kernel
theorem dX5_init_18 : decode cX5_init 18 = .ok (.invokespecial 17, 3) := by decide +kernel
theorem dX5_init_21 : decode cX5_init 21 = .ok (.putfield 18, 3) := by decide +kernel
theorem dX5_init_24 : decode cX5_init 24 = .ok (.iconst 0, 1) := by decide +kernel
theorem dX5_init_25 : decode cX5_init 25 = .ok (.istore_n 1, 1) := by decide +kernel
theorem dX5_init_26 : decode cX5_init 26 = .ok (.iload_n 1, 1) := by decide +kernel
theorem dX5_init_27 : decode cX5_init 27 = .ok (.bipush 60, 2) := by decide +kernel
theorem dX5_init_29 : decode cX5_init 29 = .ok (.if_icmp .ge 22, 3) := by decide +kernel
theorem dX5_init_32 : decode cX5_init 32 = .ok (.aload_n 0, 1) := by decide +kernel
theorem dX5_init_33 : decode cX5_init 33 = .ok (.getfield 11, 3) := by decide +kernel
theorem dX5_init_36 : decode cX5_init 36 = .ok (.iload_n 1, 1) := by decide +kernel
theorem dX5_init_37 : decode cX5_init 37 = .ok (.new 9, 3) := by decide +kernel
theorem dX5_init_40 : decode cX5_init 40 = .ok (.dup, 1) := by decide +kernel
theorem dX5_init_41 : decode cX5_init 41 = .ok (.invokespecial 17, 3) := by decide +kernel
theorem dX5_init_44 : decode cX5_init 44 = .ok (.aastore, 1) := by decide +kernel
theorem dX5_init_45 : decode cX5_init 45 = .ok (.iinc 1 1, 3) := by decide +kernel
theorem dX5_init_48 : decode cX5_init 48 = .ok (.goto (-22), 3) := by decide +kernel
theorem dX5_init_51 : decode cX5_init 51 = .ok (.return_, 1) := by decide +kernel
def X5_init_L26 (e : (Nat → Nat) × Nat) (a0 : Nat) : Nat → Int32 → mm_T → mm_V → Nat → Option mm_S
  | 0, _, _, _, _ => none
  | n + 1, i1, g, m, z => if (60 : Int32) ≤ i1 then (some (g, m, z)) else ((mm_gr g m 5 4 a0 0).bind fun c1 => (mm_new g m z 2 9 df_X2).bind fun s2 => (X2_init e z s2.1 s2.2.1 s2.2.2).bind fun s3 => (mm_sr s3.1 s3.2.1 24 2 9 c1 i1 z).bind fun m4 => X5_init_L26 e a0 n (i1 + 1) s3.1 m4 s3.2.2)
theorem X5_init_L26_ok {K : mm_K} {e : (Nat → Nat) × Nat} (hz : e.1 = K.2.2.2.2) {d : Nat} (hd : 2 ≤ d) {a0 : Nat} : ∀ (n k : Nat) (i1 : Int32) (g : mm_T) (m : mm_V) (z : Nat) (r : mm_S), k + n = 61 → X5_init_L26 e a0 n i1 g m z = some r → mm_G K MX5_init d (63, 618, .inl none, (r.1, r.2.1), some r.2.2) 26 [some (.ref a0), some (.int i1)] [] (g, m) (some z) (2 + 1 * k) (69 + 9 * k) := by
  obtain ⟨d, rfl⟩ : ∃ d', d = d' + 1 := ⟨d - 1, by omega⟩
  intro n
  induction n with
  | zero => intro k i1 g m z r hk hr; unfold X5_init_L26 at hr; cases hr
  | succ n ih =>
    intro k i1 g m z r hk hr
    unfold X5_init_L26 at hr
    refine ml_iload_n (pc := 26) dX5_init_26 rfl (mm_get_s mm_get_0) ?_
    refine mg_bipush (pc := 27) dX5_init_27 kb_60 ?_
    refine mb_icmp_ge (pc := 29) 51 dX5_init_29 rfl hr (fun hr => ?_) (fun hr => ?_)
    · refine mg_cs (c2 := 63) (s2 := 618) (by omega) (by omega) ?_
      exact mb_mret dX5_init_51 rfl rfl rfl (Nat.le_of_ble_eq_true rfl) (Nat.le_of_ble_eq_true rfl) hr
    · refine ml_aload_n (pc := 32) dX5_init_32 rfl mm_get_0 ?_
      refine mb_gr (pc := 33) dX5_init_33 fl_X5_11 hr (fun c1 hr => ?_)
      refine ml_iload_n (pc := 36) dX5_init_36 rfl (mm_get_s mm_get_0) ?_
      refine mb_new (pc := 37) dX5_init_37 nw_X5_9 hr (by simp only; omega) (by simp only; omega) (fun s2 hr => ?_)
      refine mg_dup (pc := 40) dX5_init_40 rfl ?_
      refine mb_cI (pc := 41) (C := 0) (W0 := 0) (As := []) (rest := [.ref z, .int i1, .ref c1]) dX5_init_41 cw_X5_17 hr (fun v hv => X2_init_ok hz (by omega) hv) rfl (Nat.le_of_ble_eq_true rfl) (by simp only; omega) (by simp only; omega) (fun s3 hr => ?_)
      refine mb_sr (pc := 44) dX5_init_44 (by decide) (by decide) ⟨(RX2, TX2, 9), rfl, rfl⟩ hr (fun m4 hr => ?_)
      refine ml_iinc (pc := 45) dX5_init_45 (mm_get_s mm_get_0) (congrArg (fun z => i1 + z) kc_1) (Nat.le_of_ble_eq_true rfl) mm_st1_r ?_
      refine mg_goto (pc := 48) 26 dX5_init_48 rfl ?_
      refine mg_cs (c2 := 2 + 1 * (k + 1)) (s2 := 69 + 9 * (k + 1)) (by omega) (by omega) ?_
      exact mg_weak (mm_le_s (mm_le_s mm_le_0)) (ih (k + 1) _ _ _ _ _ (by omega) hr)
def X5_init (e : (Nat → Nat) × Nat) (a0 : Nat) (g : mm_T) (m : mm_V) (z : Nat) : Option mm_S := (mm_new g m z 24 60 (fun _ => .null)).bind fun s1 => (mm_pf s1.1 s1.2.1 5 4 a0 0 (.ref z)).bind fun m2 => (mm_new s1.1 m2 s1.2.2 2 9 df_X2).bind fun s3 => (X2_init e s1.2.2 s3.1 s3.2.1 s3.2.2).bind fun s4 => (mm_pf s4.1 s4.2.1 5 4 a0 1 (.ref s1.2.2)).bind fun m5 => X5_init_L26 e a0 61 (0 : Int32) s4.1 m5 s4.2.2
theorem X5_init_ok {K : mm_K} {e : (Nat → Nat) × Nat} (hz : e.1 = K.2.2.2.2) {d : Nat} (hd : 2 ≤ d) {a0 : Nat} {g : mm_T} {m : mm_V} {z : Nat} {r : mm_S} (hr : X5_init e a0 g m z = some r) : mm_Cn K MX5_init d (63, 618, .inl none, (r.1, r.2.1), some r.2.2) [.ref a0] (g, m) (some z) := by
  obtain ⟨d, rfl⟩ : ∃ d', d = d' + 1 := ⟨d - 1, by omega⟩
  refine mm_entry (by decide) (Nat.le_of_ble_eq_true rfl) rfl (fun hok => ?_)
  unfold X5_init at hr
  refine mg_weak (L' := [some (.ref a0), none]) (mm_le_s (mm_le_e mm_le_0)) ?_
  refine ml_aload_n (pc := 0) dX5_init_0 rfl mm_get_0 ?_
  refine mg_obj (pc := 1) dX5_init_1 tw_204 (Nat.le_of_ble_eq_true rfl) ?_
  refine ml_aload_n (pc := 4) dX5_init_4 rfl mm_get_0 ?_
  refine mg_bipush (pc := 5) dX5_init_5 kb_60 ?_
  refine mb_anew (pc := 7) dX5_init_7 (t := 24) (by decide) (by decide) rfl tw_205 tw_206 (by decide) (by decide) (by decide) hr (Nat.le_of_ble_eq_true rfl) (Nat.le_of_ble_eq_true rfl) (fun s1 hr => ?_)
  refine mb_putF (pc := 10) dX5_init_10 fi_X5_11 rfl rfl hr (fun m2 hr => ?_)
  refine ml_aload_n (pc := 13) dX5_init_13 rfl mm_get_0 ?_
  refine mb_new (pc := 14) dX5_init_14 nw_X5_9 hr (Nat.le_of_ble_eq_true rfl) (Nat.le_of_ble_eq_true rfl) (fun s3 hr => ?_)
  refine mg_dup (pc := 17) dX5_init_17 rfl ?_
  refine mb_cI (pc := 18) (C := 0) (W0 := 0) (As := []) (rest := [.ref s1.2.2, .ref a0]) dX5_init_18 cw_X5_17 hr (fun v hv => X2_init_ok hz (by omega) hv) rfl (Nat.le_of_ble_eq_true rfl) (Nat.le_of_ble_eq_true rfl) (Nat.le_of_ble_eq_true rfl) (fun s4 hr => ?_)
  refine mb_putF (pc := 21) dX5_init_21 fi_X5_18 rfl rfl hr (fun m5 hr => ?_)
  refine mg_iconst (pc := 24) dX5_init_24 kc_0 ?_
  refine ml_istore_n (pc := 25) dX5_init_25 rfl (Nat.le_of_ble_eq_true rfl) mm_st1_r ?_
  exact mg_weak (mm_le_s (mm_le_s mm_le_0)) (X5_init_L26_ok hz hd 61 0 _ _ _ _ _ rfl hr)
theorem dX4_init_0 : decode cX4_init 0 = .ok (.aload_n 0, 1) := by decide +kernel
theorem dX4_init_1 : decode cX4_init 1 = .ok (.invokespecial 3, 3) := by decide +kernel
theorem dX4_init_4 : decode cX4_init 4 = .ok (.aload_n 0, 1) := by decide +kernel
theorem dX4_init_5 : decode cX4_init 5 = .ok (.bipush 6, 2) := by decide +kernel
theorem dX4_init_7 : decode cX4_init 7 = .ok (.anewarray 9, 3) := by decide +kernel
theorem dX4_init_10 : decode cX4_init 10 = .ok (.putfield 11, 3) := by decide +kernel
theorem dX4_init_13 : decode cX4_init 13 = .ok (.aload_n 0, 1) := by decide +kernel
theorem dX4_init_14 : decode cX4_init 14 = .ok (.new 9, 3) := by decide +kernel
theorem dX4_init_17 : decode cX4_init 17 = .ok (.dup, 1) := by decide +kernel
theorem dX4_init_18 : decode cX4_init 18 = .ok (.invokespecial 17, 3) := by decide +kernel
theorem dX4_init_21 : decode cX4_init 21 = .ok (.putfield 18, 3) := by decide +kernel
theorem dX4_init_24 : decode cX4_init 24 = .ok (.aload_n 0, 1) := by decide +kernel
theorem dX4_init_25 : decode cX4_init 25 = .ok (.bipush 6, 2) := by decide +kernel
theorem dX4_init_27 : decode cX4_init 27 = .ok (.newarray .int, 2) := by decide +kernel
theorem dX4_init_29 : decode cX4_init 29 = .ok (.putfield 22, 3) := by decide +kernel
theorem dX4_init_32 : decode cX4_init 32 = .ok (.aload_n 0, 1) := by decide +kernel
theorem dX4_init_33 : decode cX4_init 33 = .ok (.bipush 6, 2) := by decide +kernel
theorem dX4_init_35 : decode cX4_init 35 = .ok (.newarray .int, 2) := by decide +kernel
theorem dX4_init_37 : decode cX4_init 37 = .ok (.putfield 26, 3) := by decide +kernel
theorem dX4_init_40 : decode cX4_init 40 = .ok (.aload_n 0, 1) := by decide +kernel
theorem dX4_init_41 : decode cX4_init 41 = .ok (.bipush 6, 2) := by decide +kernel
theorem dX4_init_43 : decode cX4_init 43 = .ok (.newarray .int, 2) := by decide +kernel
theorem dX4_init_45 : decode cX4_init 45 = .ok (.putfield 29, 3) := by decide +kernel
theorem dX4_init_48 : decode cX4_init 48 = .ok (.aload_n 0, 1) := by decide +kernel
theorem dX4_init_49 : decode cX4_init 49 = .ok (.bipush 19, 2) := by decide +kernel
theorem dX4_init_51 : decode cX4_init 51 = .ok (.newarray .int, 2) := by decide +kernel
theorem dX4_init_53 : decode cX4_init 53 = .ok (.putfield 32, 3) := by decide +kernel
theorem dX4_init_56 : decode cX4_init 56 = .ok (.aload_n 0, 1) := by decide +kernel
theorem dX4_init_57 : decode cX4_init 57 = .ok (.aload_n 1, 1) := by decide +kernel
theorem dX4_init_58 : decode cX4_init 58 = .ok (.putfield 35, 3) := by decide +kernel
theorem dX4_init_61 : decode cX4_init 61 = .ok (.iconst 0, 1) := by decide +kernel
theorem dX4_init_62 : decode cX4_init 62 = .ok (.istore_n 2, 1) := by decide +kernel
theorem dX4_init_63 : decode cX4_init 63 = .ok (.iload_n 2, 1) := by decide +kernel
theorem dX4_init_64 : decode cX4_init 64 = .ok (.bipush 6, 2) := by decide +kernel
theorem dX4_init_66 : decode cX4_init 66 = .ok (.if_icmp .ge 22, 3) := by decide +kernel
theorem dX4_init_69 : decode cX4_init 69 = .ok (.aload_n 0, 1) := by decide +kernel
theorem dX4_init_70 : decode cX4_init 70 = .ok (.getfield 11, 3) := by decide +kernel
theorem dX4_init_73 : decode cX4_init 73 = .ok (.iload_n 2, 1) := by decide +kernel
theorem dX4_init_74 : decode cX4_init 74 = .ok (.new 9, 3) := by decide +kernel
theorem dX4_init_77 : decode cX4_init 77 = .ok (.dup, 1) := by decide +kernel
theorem dX4_init_78 : decode cX4_init 78 = .ok (.invokespecial 17, 3) := by decide +kernel
theorem dX4_init_81 : decode cX4_init 81 = .ok (.aastore, 1) := by decide +kernel
theorem dX4_init_82 : decode cX4_init 82 = .ok (.iinc 2 1, 3) := by decide +kernel
theorem dX4_init_85 : decode cX4_init 85 = .ok (.goto (-22), 3) := by decide +kernel
theorem dX4_init_88 : decode cX4_init 88 = .ok (.return_, 1) := by decide +kernel
def X4_init_L63 (e : (Nat → Nat) × Nat) (a0 : Nat) : Nat → Int32 → mm_T → mm_V → Nat → Option mm_S
  | 0, _, _, _, _ => none
  | n + 1, i2, g, m, z => if (6 : Int32) ≤ i2 then (some (g, m, z)) else ((mm_gr g m 4 12 a0 0).bind fun c1 => (mm_new g m z 3 2 df_X3).bind fun s2 => (X3_init e z s2.1 s2.2.1 s2.2.2).bind fun s3 => (mm_sr s3.1 s3.2.1 23 3 2 c1 i2 z).bind fun m4 => X4_init_L63 e a0 n (i2 + 1) s3.1 m4 s3.2.2)
theorem X4_init_L63_ok {K : mm_K} {e : (Nat → Nat) × Nat} (hz : e.1 = K.2.2.2.2) {d : Nat} (hd : 2 ≤ d) {a0 : Nat} : ∀ (n k : Nat) (i2 : Int32) (g : mm_T) (m : mm_V) (z : Nat) (r : mm_S), k + n = 7 → X4_init_L63 e a0 n i2 g m z = some r → mm_G K MX4_init d (21, 139, .inl none, (r.1, r.2.1), some r.2.2) 63 [some (.ref a0), none, some (.int i2)] [] (g, m) (some z) (7 + 2 * k) (55 + 12 * k) := by
  obtain ⟨d, rfl⟩ : ∃ d', d = d' + 1 := ⟨d - 1, by omega⟩
  intro n
  induction n with
  | zero => intro k i2 g m z r hk hr; unfold X4_init_L63 at hr; cases hr
  | succ n ih =>
    intro k i2 g m z r hk hr
    unfold X4_init_L63 at hr
    refine ml_iload_n (pc := 63) dX4_init_63 rfl (mm_get_s (mm_get_s mm_get_0)) ?_
    refine mg_bipush (pc := 64) dX4_init_64 kb_6 ?_
    refine mb_icmp_ge (pc := 66) 88 dX4_init_66 rfl hr (fun hr => ?_) (fun hr => ?_)
    · refine mg_cs (c2 := 21) (s2 := 139) (by omega) (by omega) ?_
      exact mb_mret dX4_init_88 rfl rfl rfl (Nat.le_of_ble_eq_true rfl) (Nat.le_of_ble_eq_true rfl) hr
    · refine ml_aload_n (pc := 69) dX4_init_69 rfl mm_get_0 ?_
      refine mb_gr (pc := 70) dX4_init_70 fl_X4_11 hr (fun c1 hr => ?_)
      refine ml_iload_n (pc := 73) dX4_init_73 rfl (mm_get_s (mm_get_s mm_get_0)) ?_
      refine mb_new (pc := 74) dX4_init_74 nw_X4_9 hr (by simp only; omega) (by simp only; omega) (fun s2 hr => ?_)
      refine mg_dup (pc := 77) dX4_init_77 rfl ?_
      refine mb_cI (pc := 78) (C := 1) (W0 := 10) (As := []) (rest := [.ref z, .int i2, .ref c1]) dX4_init_78 cw_X4_17 hr (fun v hv => X3_init_ok hz (by omega) hv) rfl (Nat.le_of_ble_eq_true rfl) (by simp only; omega) (by simp only; omega) (fun s3 hr => ?_)
      refine mb_sr (pc := 81) dX4_init_81 (by decide) (by decide) ⟨(RX3, TX3, 2), rfl, rfl⟩ hr (fun m4 hr => ?_)
      refine ml_iinc (pc := 82) dX4_init_82 (mm_get_s (mm_get_s mm_get_0)) (congrArg (fun z => i2 + z) kc_1) (Nat.le_of_ble_eq_true rfl) (mm_st1_s mm_st1_n) ?_
      refine mg_goto (pc := 85) 63 dX4_init_85 rfl ?_
      refine mg_cs (c2 := 7 + 2 * (k + 1)) (s2 := 55 + 12 * (k + 1)) (by omega) (by omega) ?_
      exact mg_weak (mm_le_s (mm_le_n (mm_le_s mm_le_0))) (ih (k + 1) _ _ _ _ _ (by omega) hr)
def X4_init (e : (Nat → Nat) × Nat) (a0 : Nat) (a1 : Nat) (g : mm_T) (m : mm_V) (z : Nat) : Option mm_S := (mm_new g m z 23 6 (fun _ => .null)).bind fun s1 => (mm_pf s1.1 s1.2.1 4 12 a0 0 (.ref z)).bind fun m2 => (mm_new s1.1 m2 s1.2.2 3 2 df_X3).bind fun s3 => (X3_init e s1.2.2 s3.1 s3.2.1 s3.2.2).bind fun s4 => (mm_pf s4.1 s4.2.1 4 12 a0 1 (.ref s1.2.2)).bind fun m5 => (mm_new s4.1 m5 s4.2.2 20 6 (fun _ => defaultValue (mm_aty 20))).bind fun s6 => (mm_pf s6.1 s6.2.1 4 12 a0 2 (.ref s4.2.2)).bind fun m7 => (mm_new s6.1 m7 s6.2.2 20 6 (fun _ => defaultValue (mm_aty 20))).bind fun s8 => (mm_pf s8.1 s8.2.1 4 12 a0 3 (.ref s6.2.2)).bind fun m9 => (mm_new s8.1 m9 s8.2.2 20 6 (fun _ => defaultValue (mm_aty 20))).bind fun s10 => (mm_pf s10.1 s10.2.1 4 12 a0 4 (.ref s8.2.2)).bind fun m11 => (mm_new s10.1 m11 s10.2.2 20 19 (fun _ => defaultValue (mm_aty 20))).bind fun s12 => (mm_pf s12.1 s12.2.1 4 12 a0 5 (.ref s10.2.2)).bind fun m13 => (mm_pf s12.1 m13 4 12 a0 6 (.ref a1)).bind fun m14 => X4_init_L63 e a0 7 (0 : Int32) s12.1 m14 s12.2.2
theorem X4_init_ok {K : mm_K} {e : (Nat → Nat) × Nat} (hz : e.1 = K.2.2.2.2) {d : Nat} (hd : 2 ≤ d) {a0 : Nat} {a1 : Nat} {g : mm_T} {m : mm_V} {z : Nat} {r : mm_S} (hr : X4_init e a0 a1 g m z = some r) : mm_Cn K MX4_init d (21, 139, .inl none, (r.1, r.2.1), some r.2.2) [.ref a0, .ref a1] (g, m) (some z) := by
  obtain ⟨d, rfl⟩ : ∃ d', d = d' + 1 := ⟨d - 1, by omega⟩
  refine mm_entry (by decide) (Nat.le_of_ble_eq_true rfl) rfl (fun hok => ?_)
  unfold X4_init at hr
  refine mg_weak (L' := [some (.ref a0), some (.ref a1), none]) (mm_le_s (mm_le_s (mm_le_e mm_le_0))) ?_
  refine ml_aload_n (pc := 0) dX4_init_0 rfl mm_get_0 ?_
  refine mg_obj (pc := 1) dX4_init_1 tw_282 (Nat.le_of_ble_eq_true rfl) ?_
  refine ml_aload_n (pc := 4) dX4_init_4 rfl mm_get_0 ?_
  refine mg_bipush (pc := 5) dX4_init_5 kb_6 ?_
  refine mb_anew (pc := 7) dX4_init_7 (t := 23) (by decide) (by decide) rfl tw_283 tw_39 (by decide) (by decide) (by decide) hr (Nat.le_of_ble_eq_true rfl) (Nat.le_of_ble_eq_true rfl) (fun s1 hr => ?_)
  refine mb_putF (pc := 10) dX4_init_10 fi_X4_11 rfl rfl hr (fun m2 hr => ?_)
  refine ml_aload_n (pc := 13) dX4_init_13 rfl mm_get_0 ?_
  refine mb_new (pc := 14) dX4_init_14 nw_X4_9 hr (Nat.le_of_ble_eq_true rfl) (Nat.le_of_ble_eq_true rfl) (fun s3 hr => ?_)
  refine mg_dup (pc := 17) dX4_init_17 rfl ?_
  refine mb_cI (pc := 18) (C := 1) (W0 := 10) (As := []) (rest := [.ref s1.2.2, .ref a0]) dX4_init_18 cw_X4_17 hr (fun v hv => X3_init_ok hz (by omega) hv) rfl (Nat.le_of_ble_eq_true rfl) (Nat.le_of_ble_eq_true rfl) (Nat.le_of_ble_eq_true rfl) (fun s4 hr => ?_)
  refine mb_putF (pc := 21) dX4_init_21 fi_X4_18 rfl rfl hr (fun m5 hr => ?_)
  refine ml_aload_n (pc := 24) dX4_init_24 rfl mm_get_0 ?_
  refine mg_bipush (pc := 25) dX4_init_25 kb_6 ?_
  refine mb_newa (pc := 27) dX4_init_27 (t := 20) (by decide) (by decide) rfl tw_57 (by decide) (by decide) (by decide) hr (Nat.le_of_ble_eq_true rfl) (Nat.le_of_ble_eq_true rfl) (fun s6 hr => ?_)
  refine mb_putF (pc := 29) dX4_init_29 fi_X4_22 rfl rfl hr (fun m7 hr => ?_)
  refine ml_aload_n (pc := 32) dX4_init_32 rfl mm_get_0 ?_
  refine mg_bipush (pc := 33) dX4_init_33 kb_6 ?_
  refine mb_newa (pc := 35) dX4_init_35 (t := 20) (by decide) (by decide) rfl tw_57 (by decide) (by decide) (by decide) hr (Nat.le_of_ble_eq_true rfl) (Nat.le_of_ble_eq_true rfl) (fun s8 hr => ?_)
  refine mb_putF (pc := 37) dX4_init_37 fi_X4_26 rfl rfl hr (fun m9 hr => ?_)
  refine ml_aload_n (pc := 40) dX4_init_40 rfl mm_get_0 ?_
  refine mg_bipush (pc := 41) dX4_init_41 kb_6 ?_
  refine mb_newa (pc := 43) dX4_init_43 (t := 20) (by decide) (by decide) rfl tw_57 (by decide) (by decide) (by decide) hr (Nat.le_of_ble_eq_true rfl) (Nat.le_of_ble_eq_true rfl) (fun s10 hr => ?_)
  refine mb_putF (pc := 45) dX4_init_45 fi_X4_29 rfl rfl hr (fun m11 hr => ?_)
  refine ml_aload_n (pc := 48) dX4_init_48 rfl mm_get_0 ?_
  refine mg_bipush (pc := 49) dX4_init_49 kb_19 ?_
  refine mb_newa (pc := 51) dX4_init_51 (t := 20) (by decide) (by decide) rfl tw_57 (by decide) (by decide) (by decide) hr (Nat.le_of_ble_eq_true rfl) (Nat.le_of_ble_eq_true rfl) (fun s12 hr => ?_)
  refine mb_putF (pc := 53) dX4_init_53 fi_X4_32 rfl rfl hr (fun m13 hr => ?_)
  refine ml_aload_n (pc := 56) dX4_init_56 rfl mm_get_0 ?_
  refine ml_aload_n (pc := 57) dX4_init_57 rfl (mm_get_s mm_get_0) ?_
  refine mb_pr (pc := 58) dX4_init_58 fp_X4_35 hr (fun m14 hr => ?_)
  refine mg_iconst (pc := 61) dX4_init_61 kc_0 ?_
  refine ml_istore_n (pc := 62) dX4_init_62 rfl (Nat.le_of_ble_eq_true rfl) (mm_st1_s mm_st1_r) ?_
  exact mg_weak (mm_le_s (mm_le_n (mm_le_s mm_le_0))) (X4_init_L63_ok hz hd 7 0 _ _ _ _ _ rfl hr)
theorem dX7_init_0 : decode cX7_init 0 = .ok (.aload_n 0, 1) := by decide +kernel
theorem dX7_init_1 : decode cX7_init 1 = .ok (.invokespecial 3, 3) := by decide +kernel
theorem dX7_init_4 : decode cX7_init 4 = .ok (.aload_n 0, 1) := by decide +kernel
theorem dX7_init_5 : decode cX7_init 5 = .ok (.bipush 6, 2) := by decide +kernel
theorem dX7_init_7 : decode cX7_init 7 = .ok (.newarray .int, 2) := by decide +kernel
theorem dX7_init_9 : decode cX7_init 9 = .ok (.putfield 9, 3) := by decide +kernel
theorem dX7_init_12 : decode cX7_init 12 = .ok (.aload_n 0, 1) := by decide +kernel
theorem dX7_init_13 : decode cX7_init 13 = .ok (.bipush 6, 2) := by decide +kernel
theorem dX7_init_15 : decode cX7_init 15 = .ok (.newarray .int, 2) := by decide +kernel
theorem dX7_init_17 : decode cX7_init 17 = .ok (.putfield 15, 3) := by decide +kernel
theorem dX7_init_20 : decode cX7_init 20 = .ok (.aload_n 0, 1) := by decide +kernel
theorem dX7_init_21 : decode cX7_init 21 = .ok (.bipush 6, 2) := by decide +kernel
theorem dX7_init_23 : decode cX7_init 23 = .ok (.newarray .int, 2) := by decide +kernel
theorem dX7_init_25 : decode cX7_init 25 = .ok (.putfield 18, 3) := by decide +kernel
theorem dX7_init_28 : decode cX7_init 28 = .ok (.aload_n 0, 1) := by decide +kernel
theorem dX7_init_29 : decode cX7_init 29 = .ok (.new 21, 3) := by decide +kernel
theorem dX7_init_32 : decode cX7_init 32 = .ok (.dup, 1) := by decide +kernel
theorem dX7_init_33 : decode cX7_init 33 = .ok (.invokespecial 23, 3) := by decide +kernel
theorem dX7_init_36 : decode cX7_init 36 = .ok (.putfield 24, 3) := by decide +kernel
theorem dX7_init_39 : decode cX7_init 39 = .ok (.return_, 1) := by decide +kernel
def X7_init (e : (Nat → Nat) × Nat) (a0 : Nat) (g : mm_T) (m : mm_V) (z : Nat) : Option mm_S := (mm_new g m z 20 6 (fun _ => defaultValue (mm_aty 20))).bind fun s1 => (mm_pf s1.1 s1.2.1 7 8 a0 0 (.ref z)).bind fun m2 => (mm_new s1.1 m2 s1.2.2 20 6 (fun _ => defaultValue (mm_aty 20))).bind fun s3 => (mm_pf s3.1 s3.2.1 7 8 a0 1 (.ref s1.2.2)).bind fun m4 => (mm_new s3.1 m4 s3.2.2 20 6 (fun _ => defaultValue (mm_aty 20))).bind fun s5 => (mm_pf s5.1 s5.2.1 7 8 a0 2 (.ref s3.2.2)).bind fun m6 => (mm_new s5.1 m6 s5.2.2 2 9 df_X2).bind fun s7 => (X2_init e s5.2.2 s7.1 s7.2.1 s7.2.2).bind fun s8 => (mm_pf s8.1 s8.2.1 7 8 a0 3 (.ref s5.2.2)).bind fun m9 => some (s8.1, m9, s8.2.2)
theorem X7_init_ok {K : mm_K} {e : (Nat → Nat) × Nat} (hz : e.1 = K.2.2.2.2) {d : Nat} (hd : 2 ≤ d) {a0 : Nat} {g : mm_T} {m : mm_V} {z : Nat} {r : mm_S} (hr : X7_init e a0 g m z = some r) : mm_Cn K MX7_init d (4, 27, .inl none, (r.1, r.2.1), some r.2.2) [.ref a0] (g, m) (some z) := by
  obtain ⟨d, rfl⟩ : ∃ d', d = d' + 1 := ⟨d - 1, by omega⟩
  refine mm_entry (by decide) (Nat.le_of_ble_eq_true rfl) rfl (fun hok => ?_)
  unfold X7_init at hr
  refine mg_weak (L' := [some (.ref a0)]) (mm_le_s mm_le_0) ?_
  refine ml_aload_n (pc := 0) dX7_init_0 rfl mm_get_0 ?_
  refine mg_obj (pc := 1) dX7_init_1 tw_333 (Nat.le_of_ble_eq_true rfl) ?_
  refine ml_aload_n (pc := 4) dX7_init_4 rfl mm_get_0 ?_
  refine mg_bipush (pc := 5) dX7_init_5 kb_6 ?_
  refine mb_newa (pc := 7) dX7_init_7 (t := 20) (by decide) (by decide) rfl tw_57 (by decide) (by decide) (by decide) hr (Nat.le_of_ble_eq_true rfl) (Nat.le_of_ble_eq_true rfl) (fun s1 hr => ?_)
  refine mb_putF (pc := 9) dX7_init_9 fi_X7_9 rfl rfl hr (fun m2 hr => ?_)
  refine ml_aload_n (pc := 12) dX7_init_12 rfl mm_get_0 ?_
  refine mg_bipush (pc := 13) dX7_init_13 kb_6 ?_
  refine mb_newa (pc := 15) dX7_init_15 (t := 20) (by decide) (by decide) rfl tw_57 (by decide) (by decide) (by decide) hr (Nat.le_of_ble_eq_true rfl) (Nat.le_of_ble_eq_true rfl) (fun s3 hr => ?_)
  refine mb_putF (pc := 17) dX7_init_17 fi_X7_15 rfl rfl hr (fun m4 hr => ?_)
  refine ml_aload_n (pc := 20) dX7_init_20 rfl mm_get_0 ?_
  refine mg_bipush (pc := 21) dX7_init_21 kb_6 ?_
  refine mb_newa (pc := 23) dX7_init_23 (t := 20) (by decide) (by decide) rfl tw_57 (by decide) (by decide) (by decide) hr (Nat.le_of_ble_eq_true rfl) (Nat.le_of_ble_eq_true rfl) (fun s5 hr => ?_)
  refine mb_putF (pc := 25) dX7_init_25 fi_X7_18 rfl rfl hr (fun m6 hr => ?_)
  refine ml_aload_n (pc := 28) dX7_init_28 rfl mm_get_0 ?_
  refine mb_new (pc := 29) dX7_init_29 nw_X7_21 hr (Nat.le_of_ble_eq_true rfl) (Nat.le_of_ble_eq_true rfl) (fun s7 hr => ?_)
  refine mg_dup (pc := 32) dX7_init_32 rfl ?_
  refine mb_cI (pc := 33) (C := 0) (W0 := 0) (As := []) (rest := [.ref s5.2.2, .ref a0]) dX7_init_33 cw_X7_23 hr (fun v hv => X2_init_ok hz (by omega) hv) rfl (Nat.le_of_ble_eq_true rfl) (Nat.le_of_ble_eq_true rfl) (Nat.le_of_ble_eq_true rfl) (fun s8 hr => ?_)
  refine mb_putF (pc := 36) dX7_init_36 fi_X7_24 rfl rfl hr (fun m9 hr => ?_)
  exact mb_mret dX7_init_39 rfl rfl rfl (Nat.le_of_ble_eq_true rfl) (Nat.le_of_ble_eq_true rfl) hr
theorem dX6_init_0 : decode cX6_init 0 = .ok (.aload_n 0, 1) := by decide +kernel
theorem dX6_init_1 : decode cX6_init 1 = .ok (.invokespecial 3, 3) := by decide +kernel
theorem dX6_init_4 : decode cX6_init 4 = .ok (.aload_n 0, 1) := by decide +kernel
theorem dX6_init_5 : decode cX6_init 5 = .ok (.iconst 5, 1) := by decide +kernel
theorem dX6_init_6 : decode cX6_init 6 = .ok (.anewarray 9, 3) := by decide +kernel
theorem dX6_init_9 : decode cX6_init 9 = .ok (.putfield 11, 3) := by decide +kernel
theorem dX6_init_12 : decode cX6_init 12 = .ok (.aload_n 0, 1) := by decide +kernel
theorem dX6_init_13 : decode cX6_init 13 = .ok (.new 17, 3) := by decide +kernel
theorem dX6_init_16 : decode cX6_init 16 = .ok (.dup, 1) := by decide +kernel
theorem dX6_init_17 : decode cX6_init 17 = .ok (.invokespecial 19, 3) := by decide +kernel
theorem dX6_init_20 : decode cX6_init 20 = .ok (.putfield 20, 3) := by decide +kernel
theorem dX6_init_23 : decode cX6_init 23 = .ok (.aload_n 0, 1) := by decide +kernel
theorem dX6_init_24 : decode cX6_init 24 = .ok (.new 24, 3) := by decide +kernel
theorem dX6_init_27 : decode cX6_init 27 = .ok (.dup, 1) := by decide +kernel
theorem dX6_init_28 : decode cX6_init 28 = .ok (.invokespecial 26, 3) := by decide +kernel
theorem dX6_init_31 : decode cX6_init 31 = .ok (.putfield 27, 3) := by decide +kernel
theorem dX6_init_34 : decode cX6_init 34 = .ok (.aload_n 0, 1) := by decide +kernel
theorem dX6_init_35 : decode cX6_init 35 = .ok (.bipush 6, 2) := by decide +kernel
theorem dX6_init_37 : decode cX6_init 37 = .ok (.newarray .int, 2) := by decide +kernel
theorem dX6_init_39 : decode cX6_init 39 = .ok (.putfield 31, 3) := by decide +kernel
theorem dX6_init_42 : decode cX6_init 42 = .ok (.aload_n 0, 1) := by decide +kernel
theorem dX6_init_43 : decode cX6_init 43 = .ok (.bipush 6, 2) := by decide +kernel
theorem dX6_init_45 : decode cX6_init 45 = .ok (.newarray .int, 2) := by decide +kernel
theorem dX6_init_47 : decode cX6_init 47 = .ok (.putfield 35, 3) := by decide +kernel
theorem dX6_init_50 : decode cX6_init 50 = .ok (.iconst 0, 1) := by decide +kernel
theorem dX6_init_51 : decode cX6_init 51 = .ok (.istore_n 2, 1) := by decide +kernel
theorem dX6_init_52 : decode cX6_init 52 = .ok (.iload_n 2, 1) := by decide +kernel
theorem dX6_init_53 : decode cX6_init 53 = .ok (.iconst 4, 1) := by decide +kernel
theorem dX6_init_54 : decode cX6_init 54 = .ok (.if_icmp .gt 23, 3) := by decide +kernel
theorem dX6_init_57 : decode cX6_init 57 = .ok (.aload_n 0, 1) := by decide +kernel
theorem dX6_init_58 : decode cX6_init 58 = .ok (.getfield 11, 3) := by decide +kernel
theorem dX6_init_61 : decode cX6_init 61 = .ok (.iload_n 2, 1) := by decide +kernel
theorem dX6_init_62 : decode cX6_init 62 = .ok (.new 9, 3) := by decide +kernel
theorem dX6_init_65 : decode cX6_init 65 = .ok (.dup, 1) := by decide +kernel
theorem dX6_init_66 : decode cX6_init 66 = .ok (.aload_n 1, 1) := by decide +kernel
theorem dX6_init_67 : decode cX6_init 67 = .ok (.invokespecial 38, 3) := by decide +kernel
theorem dX6_init_70 : decode cX6_init 70 = .ok (.aastore, 1) := by decide +kernel
theorem dX6_init_71 : decode cX6_init 71 = .ok (.iinc 2 1, 3) := by decide +kernel
theorem dX6_init_74 : decode cX6_init 74 = .ok (.goto (-22), 3) := by decide +kernel
theorem dX6_init_77 : decode cX6_init 77 = .ok (.return_, 1) := by decide +kernel
def X6_init_L52 (e : (Nat → Nat) × Nat) (a0 : Nat) (a1 : Nat) : Nat → Int32 → mm_T → mm_V → Nat → Option mm_S
  | 0, _, _, _, _ => none
  | n + 1, i2, g, m, z => if (4 : Int32) < i2 then (some (g, m, z)) else ((mm_gr g m 6 12 a0 0).bind fun c1 => (mm_new g m z 4 12 df_X4).bind fun s2 => (X4_init e z a1 s2.1 s2.2.1 s2.2.2).bind fun s3 => (mm_sr s3.1 s3.2.1 25 4 12 c1 i2 z).bind fun m4 => X6_init_L52 e a0 a1 n (i2 + 1) s3.1 m4 s3.2.2)
theorem X6_init_L52_ok {K : mm_K} {e : (Nat → Nat) × Nat} (hz : e.1 = K.2.2.2.2) {d : Nat} (hd : 3 ≤ d) {a0 : Nat} {a1 : Nat} : ∀ (n k : Nat) (i2 : Int32) (g : mm_T) (m : mm_V) (z : Nat) (r : mm_S), k + n = 6 → X6_init_L52 e a0 a1 n i2 g m z = some r → mm_G K MX6_init d (141, 967, .inl none, (r.1, r.2.1), some r.2.2) 52 [some (.ref a0), some (.ref a1), some (.int i2)] [] (g, m) (some z) (9 + 22 * k) (61 + 151 * k) := by
  obtain ⟨d, rfl⟩ : ∃ d', d = d' + 1 := ⟨d - 1, by omega⟩
  intro n
  induction n with
  | zero => intro k i2 g m z r hk hr; unfold X6_init_L52 at hr; cases hr
  | succ n ih =>
    intro k i2 g m z r hk hr
    unfold X6_init_L52 at hr
    refine ml_iload_n (pc := 52) dX6_init_52 rfl (mm_get_s (mm_get_s mm_get_0)) ?_
    refine mg_iconst (pc := 53) dX6_init_53 kc_4 ?_
    refine mb_icmp_gt (pc := 54) 77 dX6_init_54 rfl hr (fun hr => ?_) (fun hr => ?_)
    · refine mg_cs (c2 := 141) (s2 := 967) (by omega) (by omega) ?_
      exact mb_mret dX6_init_77 rfl rfl rfl (Nat.le_of_ble_eq_true rfl) (Nat.le_of_ble_eq_true rfl) hr
    · refine ml_aload_n (pc := 57) dX6_init_57 rfl mm_get_0 ?_
      refine mb_gr (pc := 58) dX6_init_58 fl_X6_11 hr (fun c1 hr => ?_)
      refine ml_iload_n (pc := 61) dX6_init_61 rfl (mm_get_s (mm_get_s mm_get_0)) ?_
      refine mb_new (pc := 62) dX6_init_62 nw_X6_9 hr (by simp only; omega) (by simp only; omega) (fun s2 hr => ?_)
      refine mg_dup (pc := 65) dX6_init_65 rfl ?_
      refine ml_aload_n (pc := 66) dX6_init_66 rfl (mm_get_s mm_get_0) ?_
      refine mb_cI (pc := 67) (C := 21) (W0 := 139) (As := [.ref a1]) (rest := [.ref z, .int i2, .ref c1]) dX6_init_67 cw_X6_38 hr (fun v hv => X4_init_ok hz (by omega) hv) rfl (Nat.le_of_ble_eq_true rfl) (by simp only; omega) (by simp only; omega) (fun s3 hr => ?_)
      refine mb_sr (pc := 70) dX6_init_70 (by decide) (by decide) ⟨(RX4, TX4, 12), rfl, rfl⟩ hr (fun m4 hr => ?_)
      refine ml_iinc (pc := 71) dX6_init_71 (mm_get_s (mm_get_s mm_get_0)) (congrArg (fun z => i2 + z) kc_1) (Nat.le_of_ble_eq_true rfl) (mm_st1_s mm_st1_r) ?_
      refine mg_goto (pc := 74) 52 dX6_init_74 rfl ?_
      refine mg_cs (c2 := 9 + 22 * (k + 1)) (s2 := 61 + 151 * (k + 1)) (by omega) (by omega) ?_
      exact mg_weak (mm_le_s (mm_le_s (mm_le_s mm_le_0))) (ih (k + 1) _ _ _ _ _ (by omega) hr)
def X6_init (e : (Nat → Nat) × Nat) (a0 : Nat) (a1 : Nat) (g : mm_T) (m : mm_V) (z : Nat) : Option mm_S := (mm_new g m z 25 5 (fun _ => .null)).bind fun s1 => (mm_pf s1.1 s1.2.1 6 12 a0 0 (.ref z)).bind fun m2 => (mm_new s1.1 m2 s1.2.2 7 8 df_X7).bind fun s3 => (X7_init e s1.2.2 s3.1 s3.2.1 s3.2.2).bind fun s4 => (mm_pf s4.1 s4.2.1 6 12 a0 1 (.ref s1.2.2)).bind fun m5 => (mm_new s4.1 m5 s4.2.2 2 9 df_X2).bind fun s6 => (X2_init e s4.2.2 s6.1 s6.2.1 s6.2.2).bind fun s7 => (mm_pf s7.1 s7.2.1 6 12 a0 2 (.ref s4.2.2)).bind fun m8 => (mm_new s7.1 m8 s7.2.2 20 6 (fun _ => defaultValue (mm_aty 20))).bind fun s9 => (mm_pf s9.1 s9.2.1 6 12 a0 3 (.ref s7.2.2)).bind fun m10 => (mm_new s9.1 m10 s9.2.2 20 6 (fun _ => defaultValue (mm_aty 20))).bind fun s11 => (mm_pf s11.1 s11.2.1 6 12 a0 4 (.ref s9.2.2)).bind fun m12 => X6_init_L52 e a0 a1 6 (0 : Int32) s11.1 m12 s11.2.2
theorem X6_init_ok {K : mm_K} {e : (Nat → Nat) × Nat} (hz : e.1 = K.2.2.2.2) {d : Nat} (hd : 3 ≤ d) {a0 : Nat} {a1 : Nat} {g : mm_T} {m : mm_V} {z : Nat} {r : mm_S} (hr : X6_init e a0 a1 g m z = some r) : mm_Cn K MX6_init d (141, 967, .inl none, (r.1, r.2.1), some r.2.2) [.ref a0, .ref a1] (g, m) (some z) := by
  obtain ⟨d, rfl⟩ : ∃ d', d = d' + 1 := ⟨d - 1, by omega⟩
  refine mm_entry (by decide) (Nat.le_of_ble_eq_true rfl) rfl (fun hok => ?_)
  unfold X6_init at hr
  refine mg_weak (L' := [some (.ref a0), some (.ref a1), none]) (mm_le_s (mm_le_s (mm_le_e mm_le_0))) ?_
  refine ml_aload_n (pc := 0) dX6_init_0 rfl mm_get_0 ?_
  refine mg_obj (pc := 1) dX6_init_1 tw_370 (Nat.le_of_ble_eq_true rfl) ?_
  refine ml_aload_n (pc := 4) dX6_init_4 rfl mm_get_0 ?_
  refine mg_iconst (pc := 5) dX6_init_5 kc_5 ?_
  refine mb_anew (pc := 6) dX6_init_6 (t := 25) (by decide) (by decide) rfl tw_371 tw_372 (by decide) (by decide) (by decide) hr (Nat.le_of_ble_eq_true rfl) (Nat.le_of_ble_eq_true rfl) (fun s1 hr => ?_)
  refine mb_putF (pc := 9) dX6_init_9 fi_X6_11 rfl rfl hr (fun m2 hr => ?_)
  refine ml_aload_n (pc := 12) dX6_init_12 rfl mm_get_0 ?_
  refine mb_new (pc := 13) dX6_init_13 nw_X6_17 hr (Nat.le_of_ble_eq_true rfl) (Nat.le_of_ble_eq_true rfl) (fun s3 hr => ?_)
  refine mg_dup (pc := 16) dX6_init_16 rfl ?_
  refine mb_cI (pc := 17) (C := 4) (W0 := 27) (As := []) (rest := [.ref s1.2.2, .ref a0]) dX6_init_17 cw_X6_19 hr (fun v hv => X7_init_ok hz (by omega) hv) rfl (Nat.le_of_ble_eq_true rfl) (Nat.le_of_ble_eq_true rfl) (Nat.le_of_ble_eq_true rfl) (fun s4 hr => ?_)
  refine mb_putF (pc := 20) dX6_init_20 fi_X6_20 rfl rfl hr (fun m5 hr => ?_)
  refine ml_aload_n (pc := 23) dX6_init_23 rfl mm_get_0 ?_
  refine mb_new (pc := 24) dX6_init_24 nw_X6_24 hr (Nat.le_of_ble_eq_true rfl) (Nat.le_of_ble_eq_true rfl) (fun s6 hr => ?_)
  refine mg_dup (pc := 27) dX6_init_27 rfl ?_
  refine mb_cI (pc := 28) (C := 0) (W0 := 0) (As := []) (rest := [.ref s4.2.2, .ref a0]) dX6_init_28 cw_X6_26 hr (fun v hv => X2_init_ok hz (by omega) hv) rfl (Nat.le_of_ble_eq_true rfl) (Nat.le_of_ble_eq_true rfl) (Nat.le_of_ble_eq_true rfl) (fun s7 hr => ?_)
  refine mb_putF (pc := 31) dX6_init_31 fi_X6_27 rfl rfl hr (fun m8 hr => ?_)
  refine ml_aload_n (pc := 34) dX6_init_34 rfl mm_get_0 ?_
  refine mg_bipush (pc := 35) dX6_init_35 kb_6 ?_
  refine mb_newa (pc := 37) dX6_init_37 (t := 20) (by decide) (by decide) rfl tw_57 (by decide) (by decide) (by decide) hr (Nat.le_of_ble_eq_true rfl) (Nat.le_of_ble_eq_true rfl) (fun s9 hr => ?_)
  refine mb_putF (pc := 39) dX6_init_39 fi_X6_31 rfl rfl hr (fun m10 hr => ?_)
  refine ml_aload_n (pc := 42) dX6_init_42 rfl mm_get_0 ?_
  refine mg_bipush (pc := 43) dX6_init_43 kb_6 ?_
  refine mb_newa (pc := 45) dX6_init_45 (t := 20) (by decide) (by decide) rfl tw_57 (by decide) (by decide) (by decide) hr (Nat.le_of_ble_eq_true rfl) (Nat.le_of_ble_eq_true rfl) (fun s11 hr => ?_)
  refine mb_putF (pc := 47) dX6_init_47 fi_X6_35 rfl rfl hr (fun m12 hr => ?_)
  refine mg_iconst (pc := 50) dX6_init_50 kc_0 ?_
  refine ml_istore_n (pc := 51) dX6_init_51 rfl (Nat.le_of_ble_eq_true rfl) (mm_st1_s mm_st1_r) ?_
  exact mg_weak (mm_le_s (mm_le_s (mm_le_s mm_le_0))) (X6_init_L52_ok hz hd 6 0 _ _ _ _ _ rfl hr)
theorem dX0_init_0 : decode cX0_init 0 = .ok (.aload_n 0, 1) := by decide +kernel
theorem dX0_init_1 : decode cX0_init 1 = .ok (.invokespecial 3, 3) := by decide +kernel
theorem dX0_init_4 : decode cX0_init 4 = .ok (.aload_n 0, 1) := by decide +kernel
theorem dX0_init_5 : decode cX0_init 5 = .ok (.bipush 6, 2) := by decide +kernel
theorem dX0_init_7 : decode cX0_init 7 = .ok (.anewarray 9, 3) := by decide +kernel
theorem dX0_init_10 : decode cX0_init 10 = .ok (.putfield 11, 3) := by decide +kernel
theorem dX0_init_13 : decode cX0_init 13 = .ok (.aload_n 0, 1) := by decide +kernel
theorem dX0_init_14 : decode cX0_init 14 = .ok (.bipush 6, 2) := by decide +kernel
theorem dX0_init_16 : decode cX0_init 16 = .ok (.anewarray 9, 3) := by decide +kernel
theorem dX0_init_19 : decode cX0_init 19 = .ok (.putfield 17, 3) := by decide +kernel
theorem dX0_init_22 : decode cX0_init 22 = .ok (.aload_n 0, 1) := by decide +kernel
theorem dX0_init_23 : decode cX0_init 23 = .ok (.new 9, 3) := by decide +kernel
theorem dX0_init_26 : decode cX0_init 26 = .ok (.dup, 1) := by decide +kernel
theorem dX0_init_27 : decode cX0_init 27 = .ok (.invokespecial 20, 3) := by decide +kernel
theorem dX0_init_30 : decode cX0_init 30 = .ok (.putfield 21, 3) := by decide +kernel
theorem dX0_init_33 : decode cX0_init 33 = .ok (.aload_n 0, 1) := by decide +kernel
theorem dX0_init_34 : decode cX0_init 34 = .ok (.bipush 10, 2) := by decide +kernel
theorem dX0_init_36 : decode cX0_init 36 = .ok (.newarray .int, 2) := by decide +kernel
theorem dX0_init_38 : decode cX0_init 38 = .ok (.putfield 25, 3) := by decide +kernel
theorem dX0_init_41 : decode cX0_init 41 = .ok (.aload_n 0, 1) := by decide +kernel
theorem dX0_init_42 : decode cX0_init 42 = .ok (.bipush 19, 2) := by decide +kernel
theorem dX0_init_44 : decode cX0_init 44 = .ok (.newarray .int, 2) := by decide +kernel
theorem dX0_init_46 : decode cX0_init 46 = .ok (.putfield 29, 3) := by decide +kernel
theorem dX0_init_49 : decode cX0_init 49 = .ok (.aload_n 0, 1) := by decide +kernel
theorem dX0_init_50 : decode cX0_init 50 = .ok (.bipush 6, 2) := by decide +kernel
theorem dX0_init_52 : decode cX0_init 52 = .ok (.newarray .int, 2) := by decide +kernel
theorem dX0_init_54 : decode cX0_init 54 = .ok (.putfield 32, 3) := by decide +kernel
theorem dX0_init_57 : decode cX0_init 57 = .ok (.aload_n 0, 1) := by decide +kernel
theorem dX0_init_58 : decode cX0_init 58 = .ok (.bipush 10, 2) := by decide +kernel
theorem dX0_init_60 : decode cX0_init 60 = .ok (.newarray .int, 2) := by decide +kernel
theorem dX0_init_62 : decode cX0_init 62 = .ok (.putfield 35, 3) := by decide +kernel
theorem dX0_init_65 : decode cX0_init 65 = .ok (.aload_n 0, 1) := by decide +kernel
theorem dX0_init_66 : decode cX0_init 66 = .ok (.aload_n 1, 1) := by decide +kernel
theorem dX0_init_67 : decode cX0_init 67 = .ok (.putfield 38, 3) := by decide +kernel
theorem dX0_init_70 : decode cX0_init 70 = .ok (.iconst 0, 1) := by decide +kernel
theorem dX0_init_71 : decode cX0_init 71 = .ok (.istore_n 2, 1) := by decide +kernel
theorem dX0_init_72 : decode cX0_init 72 = .ok (.iload_n 2, 1) := by decide +kernel
theorem dX0_init_73 : decode cX0_init 73 = .ok (.bipush 6, 2) := by decide +kernel
theorem dX0_init_75 : decode cX0_init 75 = .ok (.if_icmp .ge 35, 3) := by decide +kernel
theorem dX0_init_78 : decode cX0_init 78 = .ok (.aload_n 0, 1) := by decide +kernel
theorem dX0_init_79 : decode cX0_init 79 = .ok (.getfield 11, 3) := by decide +kernel
theorem dX0_init_82 : decode cX0_init 82 = .ok (.iload_n 2, 1) := by decide +kernel
theorem dX0_init_83 : decode cX0_init 83 = .ok (.new 9, 3) := by decide +kernel
theorem dX0_init_86 : decode cX0_init 86 = .ok (.dup, 1) := by decide +kernel
theorem dX0_init_87 : decode cX0_init 87 = .ok (.invokespecial 20, 3) := by decide +kernel
theorem dX0_init_90 : decode cX0_init 90 = .ok (.aastore, 1) := by decide +kernel
theorem dX0_init_91 : decode cX0_init 91 = .ok (.aload_n 0, 1) := by decide +kernel
theorem dX0_init_92 : decode cX0_init 92 = .ok (.getfield 17, 3) := by decide +kernel
theorem dX0_init_95 : decode cX0_init 95 = .ok (.iload_n 2, 1) := by decide +kernel
theorem dX0_init_96 : decode cX0_init 96 = .ok (.new 9, 3) := by decide +kernel
theorem dX0_init_99 : decode cX0_init 99 = .ok (.dup, 1) := by decide +kernel
theorem dX0_init_100 : decode cX0_init 100 = .ok (.invokespecial 20, 3) := by decide +kernel
theorem dX0_init_103 : decode cX0_init 103 = .ok (.aastore, 1) := by decide +kernel
theorem dX0_init_104 : decode cX0_init 104 = .ok (.iinc 2 1, 3) := by decide +kernel
theorem dX0_init_107 : decode cX0_init 107 = .ok (.goto (-35), 3) := by decide +kernel
theorem dX0_init_110 : decode cX0_init 110 = .ok (.return_, 1) := by decide +kernel
def X0_init_L72 (e : (Nat → Nat) × Nat) (a0 : Nat) : Nat → Int32 → mm_T → mm_V → Nat → Option mm_S
  | 0, _, _, _, _ => none
  | n + 1, i2, g, m, z => if (6 : Int32) ≤ i2 then (some (g, m, z)) else ((mm_gr g m 0 13 a0 0).bind fun c1 => (mm_new g m z 3 2 df_X3).bind fun s2 => (X3_init e z s2.1 s2.2.1 s2.2.2).bind fun s3 => (mm_sr s3.1 s3.2.1 23 3 2 c1 i2 z).bind fun m4 => (mm_gr s3.1 m4 0 13 a0 1).bind fun c5 => (mm_new s3.1 m4 s3.2.2 3 2 df_X3).bind fun s6 => (X3_init e s3.2.2 s6.1 s6.2.1 s6.2.2).bind fun s7 => (mm_sr s7.1 s7.2.1 23 3 2 c5 i2 s3.2.2).bind fun m8 => X0_init_L72 e a0 n (i2 + 1) s7.1 m8 s7.2.2)
theorem X0_init_L72_ok {K : mm_K} {e : (Nat → Nat) × Nat} (hz : e.1 = K.2.2.2.2) {d : Nat} (hd : 2 ≤ d) {a0 : Nat} : ∀ (n k : Nat) (i2 : Int32) (g : mm_T) (m : mm_V) (z : Nat) (r : mm_S), k + n = 7 → X0_init_L72 e a0 n i2 g m z = some r → mm_G K MX0_init d (36, 237, .inl none, (r.1, r.2.1), some r.2.2) 72 [some (.ref a0), none, some (.int i2)] [] (g, m) (some z) (8 + 4 * k) (69 + 24 * k) := by
  obtain ⟨d, rfl⟩ : ∃ d', d = d' + 1 := ⟨d - 1, by omega⟩
  intro n
  induction n with
  | zero => intro k i2 g m z r hk hr; unfold X0_init_L72 at hr; cases hr
  | succ n ih =>
    intro k i2 g m z r hk hr
    unfold X0_init_L72 at hr
    refine ml_iload_n (pc := 72) dX0_init_72 rfl (mm_get_s (mm_get_s mm_get_0)) ?_
    refine mg_bipush (pc := 73) dX0_init_73 kb_6 ?_
    refine mb_icmp_ge (pc := 75) 110 dX0_init_75 rfl hr (fun hr => ?_) (fun hr => ?_)
    · refine mg_cs (c2 := 36) (s2 := 237) (by omega) (by omega) ?_
      exact mb_mret dX0_init_110 rfl rfl rfl (Nat.le_of_ble_eq_true rfl) (Nat.le_of_ble_eq_true rfl) hr
    · refine ml_aload_n (pc := 78) dX0_init_78 rfl mm_get_0 ?_
      refine mb_gr (pc := 79) dX0_init_79 fl_X0_11 hr (fun c1 hr => ?_)
      refine ml_iload_n (pc := 82) dX0_init_82 rfl (mm_get_s (mm_get_s mm_get_0)) ?_
      refine mb_new (pc := 83) dX0_init_83 nw_X0_9 hr (by simp only; omega) (by simp only; omega) (fun s2 hr => ?_)
      refine mg_dup (pc := 86) dX0_init_86 rfl ?_
      refine mb_cI (pc := 87) (C := 1) (W0 := 10) (As := []) (rest := [.ref z, .int i2, .ref c1]) dX0_init_87 cw_X0_20 hr (fun v hv => X3_init_ok hz (by omega) hv) rfl (Nat.le_of_ble_eq_true rfl) (by simp only; omega) (by simp only; omega) (fun s3 hr => ?_)
      refine mb_sr (pc := 90) dX0_init_90 (by decide) (by decide) ⟨(RX3, TX3, 2), rfl, rfl⟩ hr (fun m4 hr => ?_)
      refine ml_aload_n (pc := 91) dX0_init_91 rfl mm_get_0 ?_
      refine mb_gr (pc := 92) dX0_init_92 fl_X0_17 hr (fun c5 hr => ?_)
      refine ml_iload_n (pc := 95) dX0_init_95 rfl (mm_get_s (mm_get_s mm_get_0)) ?_
      refine mb_new (pc := 96) dX0_init_96 nw_X0_9 hr (by simp only; omega) (by simp only; omega) (fun s6 hr => ?_)
      refine mg_dup (pc := 99) dX0_init_99 rfl ?_
      refine mb_cI (pc := 100) (C := 1) (W0 := 10) (As := []) (rest := [.ref s3.2.2, .int i2, .ref c5]) dX0_init_100 cw_X0_20 hr (fun v hv => X3_init_ok hz (by omega) hv) rfl (Nat.le_of_ble_eq_true rfl) (by simp only; omega) (by simp only; omega) (fun s7 hr => ?_)
      refine mb_sr (pc := 103) dX0_init_103 (by decide) (by decide) ⟨(RX3, TX3, 2), rfl, rfl⟩ hr (fun m8 hr => ?_)
      refine ml_iinc (pc := 104) dX0_init_104 (mm_get_s (mm_get_s mm_get_0)) (congrArg (fun z => i2 + z) kc_1) (Nat.le_of_ble_eq_true rfl) (mm_st1_s mm_st1_n) ?_
      refine mg_goto (pc := 107) 72 dX0_init_107 rfl ?_
      refine mg_cs (c2 := 8 + 4 * (k + 1)) (s2 := 69 + 24 * (k + 1)) (by omega) (by omega) ?_
      exact mg_weak (mm_le_s (mm_le_n (mm_le_s mm_le_0))) (ih (k + 1) _ _ _ _ _ (by omega) hr)
def X0_init (e : (Nat → Nat) × Nat) (a0 : Nat) (a1 : Nat) (g : mm_T) (m : mm_V) (z : Nat) : Option mm_S := (mm_new g m z 23 6 (fun _ => .null)).bind fun s1 => (mm_pf s1.1 s1.2.1 0 13 a0 0 (.ref z)).bind fun m2 => (mm_new s1.1 m2 s1.2.2 23 6 (fun _ => .null)).bind fun s3 => (mm_pf s3.1 s3.2.1 0 13 a0 1 (.ref s1.2.2)).bind fun m4 => (mm_new s3.1 m4 s3.2.2 3 2 df_X3).bind fun s5 => (X3_init e s3.2.2 s5.1 s5.2.1 s5.2.2).bind fun s6 => (mm_pf s6.1 s6.2.1 0 13 a0 2 (.ref s3.2.2)).bind fun m7 => (mm_new s6.1 m7 s6.2.2 20 10 (fun _ => defaultValue (mm_aty 20))).bind fun s8 => (mm_pf s8.1 s8.2.1 0 13 a0 3 (.ref s6.2.2)).bind fun m9 => (mm_new s8.1 m9 s8.2.2 20 19 (fun _ => defaultValue (mm_aty 20))).bind fun s10 => (mm_pf s10.1 s10.2.1 0 13 a0 4 (.ref s8.2.2)).bind fun m11 => (mm_new s10.1 m11 s10.2.2 20 6 (fun _ => defaultValue (mm_aty 20))).bind fun s12 => (mm_pf s12.1 s12.2.1 0 13 a0 5 (.ref s10.2.2)).bind fun m13 => (mm_new s12.1 m13 s12.2.2 20 10 (fun _ => defaultValue (mm_aty 20))).bind fun s14 => (mm_pf s14.1 s14.2.1 0 13 a0 6 (.ref s12.2.2)).bind fun m15 => (mm_pf s14.1 m15 0 13 a0 7 (.ref a1)).bind fun m16 => X0_init_L72 e a0 7 (0 : Int32) s14.1 m16 s14.2.2
theorem X0_init_ok {K : mm_K} {e : (Nat → Nat) × Nat} (hz : e.1 = K.2.2.2.2) {d : Nat} (hd : 2 ≤ d) {a0 : Nat} {a1 : Nat} {g : mm_T} {m : mm_V} {z : Nat} {r : mm_S} (hr : X0_init e a0 a1 g m z = some r) : mm_Cn K MX0_init d (36, 237, .inl none, (r.1, r.2.1), some r.2.2) [.ref a0, .ref a1] (g, m) (some z) := by
  obtain ⟨d, rfl⟩ : ∃ d', d = d' + 1 := ⟨d - 1, by omega⟩
  refine mm_entry (by decide) (Nat.le_of_ble_eq_true rfl) rfl (fun hok => ?_)
  unfold X0_init at hr
  refine mg_weak (L' := [some (.ref a0), some (.ref a1), none]) (mm_le_s (mm_le_s (mm_le_e mm_le_0))) ?_
  refine ml_aload_n (pc := 0) dX0_init_0 rfl mm_get_0 ?_
  refine mg_obj (pc := 1) dX0_init_1 tw_427 (Nat.le_of_ble_eq_true rfl) ?_
  refine ml_aload_n (pc := 4) dX0_init_4 rfl mm_get_0 ?_
  refine mg_bipush (pc := 5) dX0_init_5 kb_6 ?_
  refine mb_anew (pc := 7) dX0_init_7 (t := 23) (by decide) (by decide) rfl tw_428 tw_39 (by decide) (by decide) (by decide) hr (Nat.le_of_ble_eq_true rfl) (Nat.le_of_ble_eq_true rfl) (fun s1 hr => ?_)
  refine mb_putF (pc := 10) dX0_init_10 fi_X0_11 rfl rfl hr (fun m2 hr => ?_)
  refine ml_aload_n (pc := 13) dX0_init_13 rfl mm_get_0 ?_
  refine mg_bipush (pc := 14) dX0_init_14 kb_6 ?_
  refine mb_anew (pc := 16) dX0_init_16 (t := 23) (by decide) (by decide) rfl tw_428 tw_39 (by decide) (by decide) (by decide) hr (Nat.le_of_ble_eq_true rfl) (Nat.le_of_ble_eq_true rfl) (fun s3 hr => ?_)
  refine mb_putF (pc := 19) dX0_init_19 fi_X0_17 rfl rfl hr (fun m4 hr => ?_)
  refine ml_aload_n (pc := 22) dX0_init_22 rfl mm_get_0 ?_
  refine mb_new (pc := 23) dX0_init_23 nw_X0_9 hr (Nat.le_of_ble_eq_true rfl) (Nat.le_of_ble_eq_true rfl) (fun s5 hr => ?_)
  refine mg_dup (pc := 26) dX0_init_26 rfl ?_
  refine mb_cI (pc := 27) (C := 1) (W0 := 10) (As := []) (rest := [.ref s3.2.2, .ref a0]) dX0_init_27 cw_X0_20 hr (fun v hv => X3_init_ok hz (by omega) hv) rfl (Nat.le_of_ble_eq_true rfl) (Nat.le_of_ble_eq_true rfl) (Nat.le_of_ble_eq_true rfl) (fun s6 hr => ?_)
  refine mb_putF (pc := 30) dX0_init_30 fi_X0_21 rfl rfl hr (fun m7 hr => ?_)
  refine ml_aload_n (pc := 33) dX0_init_33 rfl mm_get_0 ?_
  refine mg_bipush (pc := 34) dX0_init_34 kb_10 ?_
  refine mb_newa (pc := 36) dX0_init_36 (t := 20) (by decide) (by decide) rfl tw_57 (by decide) (by decide) (by decide) hr (Nat.le_of_ble_eq_true rfl) (Nat.le_of_ble_eq_true rfl) (fun s8 hr => ?_)
  refine mb_putF (pc := 38) dX0_init_38 fi_X0_25 rfl rfl hr (fun m9 hr => ?_)
  refine ml_aload_n (pc := 41) dX0_init_41 rfl mm_get_0 ?_
  refine mg_bipush (pc := 42) dX0_init_42 kb_19 ?_
  refine mb_newa (pc := 44) dX0_init_44 (t := 20) (by decide) (by decide) rfl tw_57 (by decide) (by decide) (by decide) hr (Nat.le_of_ble_eq_true rfl) (Nat.le_of_ble_eq_true rfl) (fun s10 hr => ?_)
  refine mb_putF (pc := 46) dX0_init_46 fi_X0_29 rfl rfl hr (fun m11 hr => ?_)
  refine ml_aload_n (pc := 49) dX0_init_49 rfl mm_get_0 ?_
  refine mg_bipush (pc := 50) dX0_init_50 kb_6 ?_
  refine mb_newa (pc := 52) dX0_init_52 (t := 20) (by decide) (by decide) rfl tw_57 (by decide) (by decide) (by decide) hr (Nat.le_of_ble_eq_true rfl) (Nat.le_of_ble_eq_true rfl) (fun s12 hr => ?_)
  refine mb_putF (pc := 54) dX0_init_54 fi_X0_32 rfl rfl hr (fun m13 hr => ?_)
  refine ml_aload_n (pc := 57) dX0_init_57 rfl mm_get_0 ?_
  refine mg_bipush (pc := 58) dX0_init_58 kb_10 ?_
  refine mb_newa (pc := 60) dX0_init_60 (t := 20) (by decide) (by decide) rfl tw_57 (by decide) (by decide) (by decide) hr (Nat.le_of_ble_eq_true rfl) (Nat.le_of_ble_eq_true rfl) (fun s14 hr => ?_)
  refine mb_putF (pc := 62) dX0_init_62 fi_X0_35 rfl rfl hr (fun m15 hr => ?_)
  refine ml_aload_n (pc := 65) dX0_init_65 rfl mm_get_0 ?_
  refine ml_aload_n (pc := 66) dX0_init_66 rfl (mm_get_s mm_get_0) ?_
  refine mb_pr (pc := 67) dX0_init_67 fp_X0_38 hr (fun m16 hr => ?_)
  refine mg_iconst (pc := 70) dX0_init_70 kc_0 ?_
  refine ml_istore_n (pc := 71) dX0_init_71 rfl (Nat.le_of_ble_eq_true rfl) (mm_st1_s mm_st1_r) ?_
  exact mg_weak (mm_le_s (mm_le_n (mm_le_s mm_le_0))) (X0_init_L72_ok hz hd 7 0 _ _ _ _ _ rfl hr)
theorem dX11_init_0 : decode cX11_init 0 = .ok (.aload_n 0, 1) := by decide +kernel
theorem dX11_init_1 : decode cX11_init 1 = .ok (.invokespecial 1, 3) := by decide +kernel
theorem dX11_init_4 : decode cX11_init 4 = .ok (.aload_n 0, 1) := by decide +kernel
theorem dX11_init_5 : decode cX11_init 5 = .ok (.sipush 600, 3) := by decide +kernel
theorem dX11_init_8 : decode cX11_init 8 = .ok (.newarray .int, 2) := by decide +kernel
theorem dX11_init_10 : decode cX11_init 10 = .ok (.putfield 9, 3) := by decide +kernel
theorem dX11_init_13 : decode cX11_init 13 = .ok (.aload_n 0, 1) := by decide +kernel
theorem dX11_init_14 : decode cX11_init 14 = .ok (.new 13, 3) := by decide +kernel
theorem dX11_init_17 : decode cX11_init 17 = .ok (.dup, 1) := by decide +kernel
theorem dX11_init_18 : decode cX11_init 18 = .ok (.invokespecial 15, 3) := by decide +kernel
theorem dX11_init_21 : decode cX11_init 21 = .ok (.putfield 16, 3) := by decide +kernel
theorem dX11_init_24 : decode cX11_init 24 = .ok (.aload_n 0, 1) := by decide +kernel
theorem dX11_init_25 : decode cX11_init 25 = .ok (.new 13, 3) := by decide +kernel
theorem dX11_init_28 : decode cX11_init 28 = .ok (.dup, 1) := by decide +kernel
theorem dX11_init_29 : decode cX11_init 29 = .ok (.invokespecial 15, 3) := by decide +kernel
theorem dX11_init_32 : decode cX11_init 32 = .ok (.putfield 20, 3) := by decide +kernel
theorem dX11_init_35 : decode cX11_init 35 = .ok (.aload_n 0, 1) := by decide +kernel
theorem dX11_init_36 : decode cX11_init 36 = .ok (.new 23, 3) := by decide +kernel
theorem dX11_init_39 : decode cX11_init 39 = .ok (.dup, 1) := by decide +kernel
theorem dX11_init_40 : decode cX11_init 40 = .ok (.aload_n 0, 1) := by decide +kernel
theorem dX11_init_41 : decode cX11_init 41 = .ok (.getfield 20, 3) := by decide +kernel
theorem dX11_init_44 : decode cX11_init 44 = .ok (.invokespecial 25, 3) := by decide +kernel
theorem dX11_init_47 : decode cX11_init 47 = .ok (.putfield 28, 3) := by decide +kernel
theorem dX11_init_50 : decode cX11_init 50 = .ok (.aload_n 0, 1) := by decide +kernel
theorem dX11_init_51 : decode cX11_init 51 = .ok (.new 32, 3) := by decide +kernel
theorem dX11_init_54 : decode cX11_init 54 = .ok (.dup, 1) := by decide +kernel
theorem dX11_init_55 : decode cX11_init 55 = .ok (.invokespecial 34, 3) := by decide +kernel
theorem dX11_init_58 : decode cX11_init 58 = .ok (.putfield 35, 3) := by decide +kernel
theorem dX11_init_61 : decode cX11_init 61 = .ok (.aload_n 0, 1) := by decide +kernel
theorem dX11_init_62 : decode cX11_init 62 = .ok (.new 32, 3) := by decide +kernel
theorem dX11_init_65 : decode cX11_init 65 = .ok (.dup, 1) := by decide +kernel
theorem dX11_init_66 : decode cX11_init 66 = .ok (.invokespecial 34, 3) := by decide +kernel
theorem dX11_init_69 : decode cX11_init 69 = .ok (.putfield 39, 3) := by decide +kernel
theorem dX11_init_72 : decode cX11_init 72 = .ok (.aload_n 0, 1) := by decide +kernel
theorem dX11_init_73 : decode cX11_init 73 = .ok (.new 42, 3) := by decide +kernel
theorem dX11_init_76 : decode cX11_init 76 = .ok (.dup, 1) := by decide +kernel
theorem dX11_init_77 : decode cX11_init 77 = .ok (.aload_n 0, 1) := by decide +kernel
theorem dX11_init_78 : decode cX11_init 78 = .ok (.getfield 16, 3) := by decide +kernel
theorem dX11_init_81 : decode cX11_init 81 = .ok (.invokespecial 44, 3) := by decide +kernel
theorem dX11_init_84 : decode cX11_init 84 = .ok (.putfield 45, 3) := by decide +kernel
theorem dX11_init_87 : decode cX11_init 87 = .ok (.aload_n 0, 1) := by decide +kernel
theorem dX11_init_88 : decode cX11_init 88 = .ok (.new 42, 3) := by decide +kernel
theorem dX11_init_91 : decode cX11_init 91 = .ok (.dup, 1) := by decide +kernel
theorem dX11_init_92 : decode cX11_init 92 = .ok (.aload_n 0, 1) := by decide +kernel
theorem dX11_init_93 : decode cX11_init 93 = .ok (.getfield 16, 3) := by decide +kernel
theorem dX11_init_96 : decode cX11_init 96 = .ok (.invokespecial 44, 3) := by decide +kernel
theorem dX11_init_99 : decode cX11_init 99 = .ok (.putfield 49, 3) := by decide +kernel
theorem dX11_init_102 : decode cX11_init 102 = .ok (.aload_n 0, 1) := by decide +kernel
theorem dX11_init_103 : decode cX11_init 103 = .ok (.new 42, 3) := by decide +kernel
theorem dX11_init_106 : decode cX11_init 106 = .ok (.dup, 1) := by decide +kernel
theorem dX11_init_107 : decode cX11_init 107 = .ok (.aload_n 0, 1) := by decide +kernel
theorem dX11_init_108 : decode cX11_init 108 = .ok (.getfield 16, 3) := by decide +kernel
theorem dX11_init_111 : decode cX11_init 111 = .ok (.invokespecial 44, 3) := by decide +kernel
theorem dX11_init_114 : decode cX11_init 114 = .ok (.putfield 52, 3) := by decide +kernel
theorem dX11_init_117 : decode cX11_init 117 = .ok (.aload_n 0, 1) := by decide +kernel
theorem dX11_init_118 : decode cX11_init 118 = .ok (.new 42, 3) := by decide +kernel
theorem dX11_init_121 : decode cX11_init 121 = .ok (.dup, 1) := by decide +kernel
theorem dX11_init_122 : decode cX11_init 122 = .ok (.aload_n 0, 1) := by decide +kernel
theorem dX11_init_123 : decode cX11_init 123 = .ok (.getfield 16, 3) := by decide +kernel
theorem dX11_init_126 : decode cX11_init 126 = .ok (.invokespecial 44, 3) := by decide +kernel
theorem dX11_init_129 : decode cX11_init 129 = .ok (.putfield 55, 3) := by decide +kernel
theorem dX11_init_132 : decode cX11_init 132 = .ok (.aload_n 0, 1) := by decide +kernel
theorem dX11_init_133 : decode cX11_init 133 = .ok (.new 58, 3) := by decide +kernel
theorem dX11_init_136 : decode cX11_init 136 = .ok (.dup, 1) := by decide +kernel
theorem dX11_init_137 : decode cX11_init 137 = .ok (.invokespecial 60, 3) := by decide +kernel
theorem dX11_init_140 : decode cX11_init 140 = .ok (.putfield 61, 3) := by decide +kernel
theorem dX11_init_143 : decode cX11_init 143 = .ok (.aload_n 0, 1) := by decide +kernel
theorem dX11_init_144 : decode cX11_init 144 = .ok (.new 65, 3) := by decide +kernel
theorem dX11_init_147 : decode cX11_init 147 = .ok (.dup, 1) := by decide +kernel
theorem dX11_init_148 : decode cX11_init 148 = .ok (.invokespecial 67, 3) := by decide +kernel
theorem dX11_init_151 : decode cX11_init 151 = .ok (.putfield 68, 3) := by decide +kernel
theorem dX11_init_154 : decode cX11_init 154 = .ok (.aload_n 0, 1) := by decide +kernel
theorem dX11_init_155 : decode cX11_init 155 = .ok (.new 72, 3) := by decide +kernel
theorem dX11_init_158 : decode cX11_init 158 = .ok (.dup, 1) := by decide +kernel
theorem dX11_init_159 : decode cX11_init 159 = .ok (.aload_n 0, 1) := by decide +kernel
theorem dX11_init_160 : decode cX11_init 160 = .ok (.getfield 16, 3) := by decide +kernel
theorem dX11_init_163 : decode cX11_init 163 = .ok (.invokespecial 74, 3) := by decide +kernel
theorem dX11_init_166 : decode cX11_init 166 = .ok (.putfield 75, 3) := by decide +kernel
theorem dX11_init_169 : decode cX11_init 169 = .ok (.aload_n 0, 1) := by decide +kernel
theorem dX11_init_170 : decode cX11_init 170 = .ok (.new 79, 3) := by decide +kernel
theorem dX11_init_173 : decode cX11_init 173 = .ok (.dup, 1) := by decide +kernel
theorem dX11_init_174 : decode cX11_init 174 = .ok (.aload_n 0, 1) := by decide +kernel
theorem dX11_init_175 : decode cX11_init 175 = .ok (.getfield 35, 3) := by decide +kernel
theorem dX11_init_178 : decode cX11_init 178 = .ok (.invokespecial 81, 3) := by decide +kernel
theorem dX11_init_181 : decode cX11_init 181 = .ok (.putfield 84, 3) := by decide +kernel
theorem dX11_init_184 : decode cX11_init 184 = .ok (.aload_n 0, 1) := by decide +kernel
theorem dX11_init_185 : decode cX11_init 185 = .ok (.iconst (-1), 1) := by decide +kernel
theorem dX11_init_186 : decode cX11_init 186 = .ok (.putfield 88, 3) := by decide +kernel
theorem dX11_init_189 : decode cX11_init 189 = .ok (.aload_n 0, 1) := by decide +kernel
theorem dX11_init_190 : decode cX11_init 190 = .ok (.invokevirtual 92, 3) := by decide +kernel
theorem dX11_init_193 : decode cX11_init 193 = .ok (.return_, 1) := by decide +kernel
def X11_init (e : (Nat → Nat) × Nat) (a0 : Nat) (g : mm_T) (m : mm_V) (z : Nat) : Option mm_S := (mm_new g m z 20 600 (fun _ => defaultValue (mm_aty 20))).bind fun s1 => (mm_pf s1.1 s1.2.1 11 19 a0 0 (.ref z)).bind fun m2 => (mm_new s1.1 m2 s1.2.2 10 11 df_X10).bind fun s3 => (X10_init e s1.2.2 s3.1 s3.2.1 s3.2.2).bind fun s4 => (mm_pf s4.1 s4.2.1 11 19 a0 1 (.ref s1.2.2)).bind fun m5 => (mm_new s4.1 m5 s4.2.2 10 11 df_X10).bind fun s6 => (X10_init e s4.2.2 s6.1 s6.2.1 s6.2.2).bind fun s7 => (mm_pf s7.1 s7.2.1 11 19 a0 2 (.ref s4.2.2)).bind fun m8 => (mm_new s7.1 m8 s7.2.2 8 7 df_X8).bind fun s9 => (mm_gr s9.1 s9.2.1 11 19 a0 2).bind fun c10 => (X8_init e s7.2.2 c10 s9.1 s9.2.1 s9.2.2).bind fun s11 => (mm_pf s11.1 s11.2.1 11 19 a0 3 (.ref s7.2.2)).bind fun m12 => (mm_new s11.1 m12 s11.2.2 5 4 df_X5).bind fun s13 => (X5_init e s11.2.2 s13.1 s13.2.1 s13.2.2).bind fun s14 => (mm_pf s14.1 s14.2.1 11 19 a0 4 (.ref s11.2.2)).bind fun m15 => (mm_new s14.1 m15 s14.2.2 5 4 df_X5).bind fun s16 => (X5_init e s14.2.2 s16.1 s16.2.1 s16.2.2).bind fun s17 => (mm_pf s17.1 s17.2.1 11 19 a0 5 (.ref s14.2.2)).bind fun m18 => (mm_new s17.1 m18 s17.2.2 4 12 df_X4).bind fun s19 => (mm_gr s19.1 s19.2.1 11 19 a0 1).bind fun c20 => (X4_init e s17.2.2 c20 s19.1 s19.2.1 s19.2.2).bind fun s21 => (mm_pf s21.1 s21.2.1 11 19 a0 6 (.ref s17.2.2)).bind fun m22 => (mm_new s21.1 m22 s21.2.2 4 12 df_X4).bind fun s23 => (mm_gr s23.1 s23.2.1 11 19 a0 1).bind fun c24 => (X4_init e s21.2.2 c24 s23.1 s23.2.1 s23.2.2).bind fun s25 => (mm_pf s25.1 s25.2.1 11 19 a0 7 (.ref s21.2.2)).bind fun m26 => (mm_new s25.1 m26 s25.2.2 4 12 df_X4).bind fun s27 => (mm_gr s27.1 s27.2.1 11 19 a0 1).bind fun c28 => (X4_init e s25.2.2 c28 s27.1 s27.2.1 s27.2.2).bind fun s29 => (mm_pf s29.1 s29.2.1 11 19 a0 8 (.ref s25.2.2)).bind fun m30 => (mm_new s29.1 m30 s29.2.2 4 12 df_X4).bind fun s31 => (mm_gr s31.1 s31.2.1 11 19 a0 1).bind fun c32 => (X4_init e s29.2.2 c32 s31.1 s31.2.1 s31.2.2).bind fun s33 => (mm_pf s33.1 s33.2.1 11 19 a0 9 (.ref s29.2.2)).bind fun m34 => (mm_new s33.1 m34 s33.2.2 2 9 df_X2).bind fun s35 => (X2_init e s33.2.2 s35.1 s35.2.1 s35.2.2).bind fun s36 => (mm_pf s36.1 s36.2.1 11 19 a0 10 (.ref s33.2.2)).bind fun m37 => (mm_new s36.1 m37 s36.2.2 7 8 df_X7).bind fun s38 => (X7_init e s36.2.2 s38.1 s38.2.1 s38.2.2).bind fun s39 => (mm_pf s39.1 s39.2.1 11 19 a0 11 (.ref s36.2.2)).bind fun m40 => (mm_new s39.1 m40 s39.2.2 6 12 df_X6).bind fun s41 => (mm_gr s41.1 s41.2.1 11 19 a0 1).bind fun c42 => (X6_init e s39.2.2 c42 s41.1 s41.2.1 s41.2.2).bind fun s43 => (mm_pf s43.1 s43.2.1 11 19 a0 12 (.ref s39.2.2)).bind fun m44 => (mm_new s43.1 m44 s43.2.2 0 13 df_X0).bind fun s45 => (mm_gr s45.1 s45.2.1 11 19 a0 4).bind fun c46 => (X0_init e s43.2.2 c46 s45.1 s45.2.1 s45.2.2).bind fun s47 => (mm_pf s47.1 s47.2.1 11 19 a0 13 (.ref s43.2.2)).bind fun m48 => (mm_pf s47.1 m48 11 19 a0 16 (.int (-1 : Int32))).bind fun m49 => if s47.1 a0 = some (11, 19) then ((X11_lay (s47.1, e) a0 m49).bind fun r51 => some (s47.1, r51, s47.2.2)) else none
theorem X11_init_ok {K : mm_K} {e : (Nat → Nat) × Nat} (hz : e.1 = K.2.2.2.2) {d : Nat} (hd : 5 ≤ d) {a0 : Nat} {g : mm_T} {m : mm_V} {z : Nat} {r : mm_S} (hr : X11_init e a0 g m z = some r) : mm_Cn K MX11_init d (451, 5698, .inl none, (r.1, r.2.1), some r.2.2) [.ref a0] (g, m) (some z) := by
  obtain ⟨d, rfl⟩ : ∃ d', d = d' + 1 := ⟨d - 1, by omega⟩
  refine mm_entry (by decide) (Nat.le_of_ble_eq_true rfl) rfl (fun hok => ?_)
  unfold X11_init at hr
  refine mg_weak (L' := [some (.ref a0)]) (mm_le_s mm_le_0) ?_
  refine ml_aload_n (pc := 0) dX11_init_0 rfl mm_get_0 ?_
  refine mg_obj (pc := 1) dX11_init_1 tw_29 (Nat.le_of_ble_eq_true rfl) ?_
  refine ml_aload_n (pc := 4) dX11_init_4 rfl mm_get_0 ?_
  refine mg_sipush (pc := 5) dX11_init_5 ks_600 ?_
  refine mb_newa (pc := 8) dX11_init_8 (t := 20) (by decide) (by decide) rfl tw_57 (by decide) (by decide) (by decide) hr (Nat.le_of_ble_eq_true rfl) (Nat.le_of_ble_eq_true rfl) (fun s1 hr => ?_)
  refine mb_putF (pc := 10) dX11_init_10 fi_X11_9 rfl rfl hr (fun m2 hr => ?_)
  refine ml_aload_n (pc := 13) dX11_init_13 rfl mm_get_0 ?_
  refine mb_new (pc := 14) dX11_init_14 nw_X11_13 hr (Nat.le_of_ble_eq_true rfl) (Nat.le_of_ble_eq_true rfl) (fun s3 hr => ?_)
  refine mg_dup (pc := 17) dX11_init_17 rfl ?_
  refine mb_cI (pc := 18) (C := 20) (W0 := 878) (As := []) (rest := [.ref s1.2.2, .ref a0]) dX11_init_18 cw_X11_15 hr (fun v hv => X10_init_ok hz (by omega) hv) rfl (Nat.le_of_ble_eq_true rfl) (Nat.le_of_ble_eq_true rfl) (Nat.le_of_ble_eq_true rfl) (fun s4 hr => ?_)
  refine mb_pr (pc := 21) dX11_init_21 fp_X11_16 hr (fun m5 hr => ?_)
  refine ml_aload_n (pc := 24) dX11_init_24 rfl mm_get_0 ?_
  refine mb_new (pc := 25) dX11_init_25 nw_X11_13 hr (Nat.le_of_ble_eq_true rfl) (Nat.le_of_ble_eq_true rfl) (fun s6 hr => ?_)
  refine mg_dup (pc := 28) dX11_init_28 rfl ?_
  refine mb_cI (pc := 29) (C := 20) (W0 := 878) (As := []) (rest := [.ref s4.2.2, .ref a0]) dX11_init_29 cw_X11_15 hr (fun v hv => X10_init_ok hz (by omega) hv) rfl (Nat.le_of_ble_eq_true rfl) (Nat.le_of_ble_eq_true rfl) (Nat.le_of_ble_eq_true rfl) (fun s7 hr => ?_)
  refine mb_pr (pc := 32) dX11_init_32 fp_X11_20 hr (fun m8 hr => ?_)
  refine ml_aload_n (pc := 35) dX11_init_35 rfl mm_get_0 ?_
  refine mb_new (pc := 36) dX11_init_36 nw_X11_23 hr (Nat.le_of_ble_eq_true rfl) (Nat.le_of_ble_eq_true rfl) (fun s9 hr => ?_)
  refine mg_dup (pc := 39) dX11_init_39 rfl ?_
  refine ml_aload_n (pc := 40) dX11_init_40 rfl mm_get_0 ?_
  refine mb_gr (pc := 41) dX11_init_41 fl_X11_20 hr (fun c10 hr => ?_)
  refine mb_cI (pc := 44) (C := 6) (W0 := 192) (As := [.ref c10]) (rest := [.ref s7.2.2, .ref a0]) dX11_init_44 cw_X11_25 hr (fun v hv => X8_init_ok hz (by omega) hv) rfl (Nat.le_of_ble_eq_true rfl) (Nat.le_of_ble_eq_true rfl) (Nat.le_of_ble_eq_true rfl) (fun s11 hr => ?_)
  refine mb_putF (pc := 47) dX11_init_47 fi_X11_28 rfl rfl hr (fun m12 hr => ?_)
  refine ml_aload_n (pc := 50) dX11_init_50 rfl mm_get_0 ?_
  refine mb_new (pc := 51) dX11_init_51 nw_X11_32 hr (Nat.le_of_ble_eq_true rfl) (Nat.le_of_ble_eq_true rfl) (fun s13 hr => ?_)
  refine mg_dup (pc := 54) dX11_init_54 rfl ?_
  refine mb_cI (pc := 55) (C := 63) (W0 := 618) (As := []) (rest := [.ref s11.2.2, .ref a0]) dX11_init_55 cw_X11_34 hr (fun v hv => X5_init_ok hz (by omega) hv) rfl (Nat.le_of_ble_eq_true rfl) (Nat.le_of_ble_eq_true rfl) (Nat.le_of_ble_eq_true rfl) (fun s14 hr => ?_)
  refine mb_putF (pc := 58) dX11_init_58 fi_X11_35 rfl rfl hr (fun m15 hr => ?_)
  refine ml_aload_n (pc := 61) dX11_init_61 rfl mm_get_0 ?_
  refine mb_new (pc := 62) dX11_init_62 nw_X11_32 hr (Nat.le_of_ble_eq_true rfl) (Nat.le_of_ble_eq_true rfl) (fun s16 hr => ?_)
  refine mg_dup (pc := 65) dX11_init_65 rfl ?_
  refine mb_cI (pc := 66) (C := 63) (W0 := 618) (As := []) (rest := [.ref s14.2.2, .ref a0]) dX11_init_66 cw_X11_34 hr (fun v hv => X5_init_ok hz (by omega) hv) rfl (Nat.le_of_ble_eq_true rfl) (Nat.le_of_ble_eq_true rfl) (Nat.le_of_ble_eq_true rfl) (fun s17 hr => ?_)
  refine mb_putF (pc := 69) dX11_init_69 fi_X11_39 rfl rfl hr (fun m18 hr => ?_)
  refine ml_aload_n (pc := 72) dX11_init_72 rfl mm_get_0 ?_
  refine mb_new (pc := 73) dX11_init_73 nw_X11_42 hr (Nat.le_of_ble_eq_true rfl) (Nat.le_of_ble_eq_true rfl) (fun s19 hr => ?_)
  refine mg_dup (pc := 76) dX11_init_76 rfl ?_
  refine ml_aload_n (pc := 77) dX11_init_77 rfl mm_get_0 ?_
  refine mb_gr (pc := 78) dX11_init_78 fl_X11_16 hr (fun c20 hr => ?_)
  refine mb_cI (pc := 81) (C := 21) (W0 := 139) (As := [.ref c20]) (rest := [.ref s17.2.2, .ref a0]) dX11_init_81 cw_X11_44 hr (fun v hv => X4_init_ok hz (by omega) hv) rfl (Nat.le_of_ble_eq_true rfl) (Nat.le_of_ble_eq_true rfl) (Nat.le_of_ble_eq_true rfl) (fun s21 hr => ?_)
  refine mb_putF (pc := 84) dX11_init_84 fi_X11_45 rfl rfl hr (fun m22 hr => ?_)
  refine ml_aload_n (pc := 87) dX11_init_87 rfl mm_get_0 ?_
  refine mb_new (pc := 88) dX11_init_88 nw_X11_42 hr (Nat.le_of_ble_eq_true rfl) (Nat.le_of_ble_eq_true rfl) (fun s23 hr => ?_)
  refine mg_dup (pc := 91) dX11_init_91 rfl ?_
  refine ml_aload_n (pc := 92) dX11_init_92 rfl mm_get_0 ?_
  refine mb_gr (pc := 93) dX11_init_93 fl_X11_16 hr (fun c24 hr => ?_)
  refine mb_cI (pc := 96) (C := 21) (W0 := 139) (As := [.ref c24]) (rest := [.ref s21.2.2, .ref a0]) dX11_init_96 cw_X11_44 hr (fun v hv => X4_init_ok hz (by omega) hv) rfl (Nat.le_of_ble_eq_true rfl) (Nat.le_of_ble_eq_true rfl) (Nat.le_of_ble_eq_true rfl) (fun s25 hr => ?_)
  refine mb_putF (pc := 99) dX11_init_99 fi_X11_49 rfl rfl hr (fun m26 hr => ?_)
  refine ml_aload_n (pc := 102) dX11_init_102 rfl mm_get_0 ?_
  refine mb_new (pc := 103) dX11_init_103 nw_X11_42 hr (Nat.le_of_ble_eq_true rfl) (Nat.le_of_ble_eq_true rfl) (fun s27 hr => ?_)
  refine mg_dup (pc := 106) dX11_init_106 rfl ?_
  refine ml_aload_n (pc := 107) dX11_init_107 rfl mm_get_0 ?_
  refine mb_gr (pc := 108) dX11_init_108 fl_X11_16 hr (fun c28 hr => ?_)
  refine mb_cI (pc := 111) (C := 21) (W0 := 139) (As := [.ref c28]) (rest := [.ref s25.2.2, .ref a0]) dX11_init_111 cw_X11_44 hr (fun v hv => X4_init_ok hz (by omega) hv) rfl (Nat.le_of_ble_eq_true rfl) (Nat.le_of_ble_eq_true rfl) (Nat.le_of_ble_eq_true rfl) (fun s29 hr => ?_)
  refine mb_putF (pc := 114) dX11_init_114 fi_X11_52 rfl rfl hr (fun m30 hr => ?_)
  refine ml_aload_n (pc := 117) dX11_init_117 rfl mm_get_0 ?_
  refine mb_new (pc := 118) dX11_init_118 nw_X11_42 hr (Nat.le_of_ble_eq_true rfl) (Nat.le_of_ble_eq_true rfl) (fun s31 hr => ?_)
  refine mg_dup (pc := 121) dX11_init_121 rfl ?_
  refine ml_aload_n (pc := 122) dX11_init_122 rfl mm_get_0 ?_
  refine mb_gr (pc := 123) dX11_init_123 fl_X11_16 hr (fun c32 hr => ?_)
  refine mb_cI (pc := 126) (C := 21) (W0 := 139) (As := [.ref c32]) (rest := [.ref s29.2.2, .ref a0]) dX11_init_126 cw_X11_44 hr (fun v hv => X4_init_ok hz (by omega) hv) rfl (Nat.le_of_ble_eq_true rfl) (Nat.le_of_ble_eq_true rfl) (Nat.le_of_ble_eq_true rfl) (fun s33 hr => ?_)
  refine mb_putF (pc := 129) dX11_init_129 fi_X11_55 rfl rfl hr (fun m34 hr => ?_)
  refine ml_aload_n (pc := 132) dX11_init_132 rfl mm_get_0 ?_
  refine mb_new (pc := 133) dX11_init_133 nw_X11_58 hr (Nat.le_of_ble_eq_true rfl) (Nat.le_of_ble_eq_true rfl) (fun s35 hr => ?_)
  refine mg_dup (pc := 136) dX11_init_136 rfl ?_
  refine mb_cI (pc := 137) (C := 0) (W0 := 0) (As := []) (rest := [.ref s33.2.2, .ref a0]) dX11_init_137 cw_X11_60 hr (fun v hv => X2_init_ok hz (by omega) hv) rfl (Nat.le_of_ble_eq_true rfl) (Nat.le_of_ble_eq_true rfl) (Nat.le_of_ble_eq_true rfl) (fun s36 hr => ?_)
  refine mb_putF (pc := 140) dX11_init_140 fi_X11_61 rfl rfl hr (fun m37 hr => ?_)
  refine ml_aload_n (pc := 143) dX11_init_143 rfl mm_get_0 ?_
  refine mb_new (pc := 144) dX11_init_144 nw_X11_65 hr (Nat.le_of_ble_eq_true rfl) (Nat.le_of_ble_eq_true rfl) (fun s38 hr => ?_)
  refine mg_dup (pc := 147) dX11_init_147 rfl ?_
  refine mb_cI (pc := 148) (C := 4) (W0 := 27) (As := []) (rest := [.ref s36.2.2, .ref a0]) dX11_init_148 cw_X11_67 hr (fun v hv => X7_init_ok hz (by omega) hv) rfl (Nat.le_of_ble_eq_true rfl) (Nat.le_of_ble_eq_true rfl) (Nat.le_of_ble_eq_true rfl) (fun s39 hr => ?_)
  refine mb_putF (pc := 151) dX11_init_151 fi_X11_68 rfl rfl hr (fun m40 hr => ?_)
  refine ml_aload_n (pc := 154) dX11_init_154 rfl mm_get_0 ?_
  refine mb_new (pc := 155) dX11_init_155 nw_X11_72 hr (Nat.le_of_ble_eq_true rfl) (Nat.le_of_ble_eq_true rfl) (fun s41 hr => ?_)
  refine mg_dup (pc := 158) dX11_init_158 rfl ?_
  refine ml_aload_n (pc := 159) dX11_init_159 rfl mm_get_0 ?_
  refine mb_gr (pc := 160) dX11_init_160 fl_X11_16 hr (fun c42 hr => ?_)
  refine mb_cI (pc := 163) (C := 141) (W0 := 967) (As := [.ref c42]) (rest := [.ref s39.2.2, .ref a0]) dX11_init_163 cw_X11_74 hr (fun v hv => X6_init_ok hz (by omega) hv) rfl (Nat.le_of_ble_eq_true rfl) (Nat.le_of_ble_eq_true rfl) (Nat.le_of_ble_eq_true rfl) (fun s43 hr => ?_)
  refine mb_putF (pc := 166) dX11_init_166 fi_X11_75 rfl rfl hr (fun m44 hr => ?_)
  refine ml_aload_n (pc := 169) dX11_init_169 rfl mm_get_0 ?_
  refine mb_new (pc := 170) dX11_init_170 nw_X11_79 hr (Nat.le_of_ble_eq_true rfl) (Nat.le_of_ble_eq_true rfl) (fun s45 hr => ?_)
  refine mg_dup (pc := 173) dX11_init_173 rfl ?_
  refine ml_aload_n (pc := 174) dX11_init_174 rfl mm_get_0 ?_
  refine mb_gr (pc := 175) dX11_init_175 fl_X11_35 hr (fun c46 hr => ?_)
  refine mb_cI (pc := 178) (C := 36) (W0 := 237) (As := [.ref c46]) (rest := [.ref s43.2.2, .ref a0]) dX11_init_178 cw_X11_81 hr (fun v hv => X0_init_ok hz (by omega) hv) rfl (Nat.le_of_ble_eq_true rfl) (Nat.le_of_ble_eq_true rfl) (Nat.le_of_ble_eq_true rfl) (fun s47 hr => ?_)
  refine mb_putF (pc := 181) dX11_init_181 fi_X11_84 rfl rfl hr (fun m48 hr => ?_)
  refine ml_aload_n (pc := 184) dX11_init_184 rfl mm_get_0 ?_
  refine mg_iconst (pc := 185) dX11_init_185 kc_m1 ?_
  refine mb_pi (pc := 186) dX11_init_186 fp_X11_88 hr (fun m49 hr => ?_)
  refine ml_aload_n (pc := 189) dX11_init_189 rfl mm_get_0 ?_
  refine mb_ck hr (fun hb50 hr => ?_)
  refine mb_cVv (pc := 190) (As := []) (rest := []) dX11_init_190 cw_X11_92 hb50 hr (fun v hv => X11_lay_ok (e := (s47.1, e)) hz (by omega) hb50 hv) rfl (Nat.le_of_ble_eq_true rfl) (Nat.le_of_ble_eq_true rfl) (Nat.le_of_ble_eq_true rfl) (fun r51 hr => ?_)
  exact mb_mret dX11_init_193 rfl rfl rfl (Nat.le_of_ble_eq_true rfl) (Nat.le_of_ble_eq_true rfl) hr
theorem dX12_init_0 : decode cX12_init 0 = .ok (.aload_n 0, 1) := by decide +kernel
theorem dX12_init_1 : decode cX12_init 1 = .ok (.invokespecial 1, 3) := by decide +kernel
theorem dX12_init_4 : decode cX12_init 4 = .ok (.aload_n 0, 1) := by decide +kernel
theorem dX12_init_5 : decode cX12_init 5 = .ok (.iconst 3, 1) := by decide +kernel
theorem dX12_init_6 : decode cX12_init 6 = .ok (.putfield 7, 3) := by decide +kernel
theorem dX12_init_9 : decode cX12_init 9 = .ok (.aload_n 0, 1) := by decide +kernel
theorem dX12_init_10 : decode cX12_init 10 = .ok (.iconst 5, 1) := by decide +kernel
theorem dX12_init_11 : decode cX12_init 11 = .ok (.putfield 13, 3) := by decide +kernel
theorem dX12_init_14 : decode cX12_init 14 = .ok (.aload_n 0, 1) := by decide +kernel
theorem dX12_init_15 : decode cX12_init 15 = .ok (.bipush 12, 2) := by decide +kernel
theorem dX12_init_17 : decode cX12_init 17 = .ok (.newarray .int, 2) := by decide +kernel
theorem dX12_init_19 : decode cX12_init 19 = .ok (.putfield 16, 3) := by decide +kernel
theorem dX12_init_22 : decode cX12_init 22 = .ok (.aload_n 0, 1) := by decide +kernel
theorem dX12_init_23 : decode cX12_init 23 = .ok (.bipush 36, 2) := by decide +kernel
theorem dX12_init_25 : decode cX12_init 25 = .ok (.newarray .int, 2) := by decide +kernel
theorem dX12_init_27 : decode cX12_init 27 = .ok (.putfield 20, 3) := by decide +kernel
theorem dX12_init_30 : decode cX12_init 30 = .ok (.aload_n 0, 1) := by decide +kernel
theorem dX12_init_31 : decode cX12_init 31 = .ok (.sipush 1600, 3) := by decide +kernel
theorem dX12_init_34 : decode cX12_init 34 = .ok (.newarray .int, 2) := by decide +kernel
theorem dX12_init_36 : decode cX12_init 36 = .ok (.putfield 23, 3) := by decide +kernel
theorem dX12_init_39 : decode cX12_init 39 = .ok (.aload_n 0, 1) := by decide +kernel
theorem dX12_init_40 : decode cX12_init 40 = .ok (.sipush 600, 3) := by decide +kernel
theorem dX12_init_43 : decode cX12_init 43 = .ok (.newarray .int, 2) := by decide +kernel
theorem dX12_init_45 : decode cX12_init 45 = .ok (.putfield 26, 3) := by decide +kernel
theorem dX12_init_48 : decode cX12_init 48 = .ok (.aload_n 0, 1) := by decide +kernel
theorem dX12_init_49 : decode cX12_init 49 = .ok (.iconst (-1), 1) := by decide +kernel
theorem dX12_init_50 : decode cX12_init 50 = .ok (.putfield 29, 3) := by decide +kernel
theorem dX12_init_53 : decode cX12_init 53 = .ok (.aload_n 0, 1) := by decide +kernel
theorem dX12_init_54 : decode cX12_init 54 = .ok (.iconst 2, 1) := by decide +kernel
theorem dX12_init_55 : decode cX12_init 55 = .ok (.newarray .int, 2) := by decide +kernel
theorem dX12_init_57 : decode cX12_init 57 = .ok (.putfield 32, 3) := by decide +kernel
theorem dX12_init_60 : decode cX12_init 60 = .ok (.aload_n 0, 1) := by decide +kernel
theorem dX12_init_61 : decode cX12_init 61 = .ok (.bipush 12, 2) := by decide +kernel
theorem dX12_init_63 : decode cX12_init 63 = .ok (.newarray .int, 2) := by decide +kernel
theorem dX12_init_65 : decode cX12_init 65 = .ok (.putfield 35, 3) := by decide +kernel
theorem dX12_init_68 : decode cX12_init 68 = .ok (.aload_n 0, 1) := by decide +kernel
theorem dX12_init_69 : decode cX12_init 69 = .ok (.bipush 36, 2) := by decide +kernel
theorem dX12_init_71 : decode cX12_init 71 = .ok (.newarray .int, 2) := by decide +kernel
theorem dX12_init_73 : decode cX12_init 73 = .ok (.putfield 38, 3) := by decide +kernel
theorem dX12_init_76 : decode cX12_init 76 = .ok (.aload_n 0, 1) := by decide +kernel
theorem dX12_init_77 : decode cX12_init 77 = .ok (.bipush 121, 2) := by decide +kernel
theorem dX12_init_79 : decode cX12_init 79 = .ok (.newarray .int, 2) := by decide +kernel
theorem dX12_init_81 : decode cX12_init 81 = .ok (.putfield 41, 3) := by decide +kernel
theorem dX12_init_84 : decode cX12_init 84 = .ok (.aload_n 0, 1) := by decide +kernel
theorem dX12_init_85 : decode cX12_init 85 = .ok (.sipush 1600, 3) := by decide +kernel
theorem dX12_init_88 : decode cX12_init 88 = .ok (.newarray .int, 2) := by decide +kernel
theorem dX12_init_90 : decode cX12_init 90 = .ok (.putfield 44, 3) := by decide +kernel
theorem dX12_init_93 : decode cX12_init 93 = .ok (.aload_n 0, 1) := by decide +kernel
theorem dX12_init_94 : decode cX12_init 94 = .ok (.sipush 800, 3) := by decide +kernel
theorem dX12_init_97 : decode cX12_init 97 = .ok (.newarray .int, 2) := by decide +kernel
theorem dX12_init_99 : decode cX12_init 99 = .ok (.putfield 47, 3) := by decide +kernel
theorem dX12_init_102 : decode cX12_init 102 = .ok (.aload_n 0, 1) := by decide +kernel
theorem dX12_init_103 : decode cX12_init 103 = .ok (.bipush 10, 2) := by decide +kernel
theorem dX12_init_105 : decode cX12_init 105 = .ok (.newarray .int, 2) := by decide +kernel
theorem dX12_init_107 : decode cX12_init 107 = .ok (.putfield 50, 3) := by decide +kernel
theorem dX12_init_110 : decode cX12_init 110 = .ok (.aload_n 0, 1) := by decide +kernel
theorem dX12_init_111 : decode cX12_init 111 = .ok (.bipush 9, 2) := by decide +kernel
theorem dX12_init_113 : decode cX12_init 113 = .ok (.newarray .boolean, 2) := by decide +kernel
theorem dX12_init_115 : decode cX12_init 115 = .ok (.putfield 53, 3) := by decide +kernel
theorem dX12_init_118 : decode cX12_init 118 = .ok (.aload_n 0, 1) := by decide +kernel
theorem dX12_init_119 : decode cX12_init 119 = .ok (.sipush 128, 3) := by decide +kernel
theorem dX12_init_122 : decode cX12_init 122 = .ok (.newarray .int, 2) := by decide +kernel
theorem dX12_init_124 : decode cX12_init 124 = .ok (.putfield 57, 3) := by decide +kernel
theorem dX12_init_127 : decode cX12_init 127 = .ok (.aload_n 0, 1) := by decide +kernel
theorem dX12_init_128 : decode cX12_init 128 = .ok (.sipush 128, 3) := by decide +kernel
theorem dX12_init_131 : decode cX12_init 131 = .ok (.newarray .int, 2) := by decide +kernel
theorem dX12_init_133 : decode cX12_init 133 = .ok (.putfield 60, 3) := by decide +kernel
theorem dX12_init_136 : decode cX12_init 136 = .ok (.aload_n 0, 1) := by decide +kernel
theorem dX12_init_137 : decode cX12_init 137 = .ok (.sipush 128, 3) := by decide +kernel
theorem dX12_init_140 : decode cX12_init 140 = .ok (.newarray .int, 2) := by decide +kernel
theorem dX12_init_142 : decode cX12_init 142 = .ok (.putfield 63, 3) := by decide +kernel
theorem dX12_init_145 : decode cX12_init 145 = .ok (.aload_n 0, 1) := by decide +kernel
theorem dX12_init_146 : decode cX12_init 146 = .ok (.bipush 19, 2) := by decide +kernel
theorem dX12_init_148 : decode cX12_init 148 = .ok (.newarray .int, 2) := by decide +kernel
theorem dX12_init_150 : decode cX12_init 150 = .ok (.putfield 66, 3) := by decide +kernel
theorem dX12_init_153 : decode cX12_init 153 = .ok (.aload_n 0, 1) := by decide +kernel
theorem dX12_init_154 : decode cX12_init 154 = .ok (.sipush 800, 3) := by decide +kernel
theorem dX12_init_157 : decode cX12_init 157 = .ok (.newarray .int, 2) := by decide +kernel
theorem dX12_init_159 : decode cX12_init 159 = .ok (.putfield 69, 3) := by decide +kernel
theorem dX12_init_162 : decode cX12_init 162 = .ok (.aload_n 0, 1) := by decide +kernel
theorem dX12_init_163 : decode cX12_init 163 = .ok (.bipush 6, 2) := by decide +kernel
theorem dX12_init_165 : decode cX12_init 165 = .ok (.newarray .int, 2) := by decide +kernel
theorem dX12_init_167 : decode cX12_init 167 = .ok (.dup, 1) := by decide +kernel
theorem dX12_init_168 : decode cX12_init 168 = .ok (.iconst 0, 1) := by decide +kernel
theorem dX12_init_169 : decode cX12_init 169 = .ok (.iconst 0, 1) := by decide +kernel
theorem dX12_init_170 : decode cX12_init 170 = .ok (.iastore, 1) := by decide +kernel
theorem dX12_init_171 : decode cX12_init 171 = .ok (.dup, 1) := by decide +kernel
theorem dX12_init_172 : decode cX12_init 172 = .ok (.iconst 1, 1) := by decide +kernel
theorem dX12_init_173 : decode cX12_init 173 = .ok (.iconst 1, 1) := by decide +kernel
theorem dX12_init_174 : decode cX12_init 174 = .ok (.iastore, 1) := by decide +kernel
theorem dX12_init_175 : decode cX12_init 175 = .ok (.dup, 1) := by decide +kernel
theorem dX12_init_176 : decode cX12_init 176 = .ok (.iconst 2, 1) := by decide +kernel
theorem dX12_init_177 : decode cX12_init 177 = .ok (.iconst 2, 1) := by decide +kernel
theorem dX12_init_178 : decode cX12_init 178 = .ok (.iastore, 1) := by decide +kernel
theorem dX12_init_179 : decode cX12_init 179 = .ok (.dup, 1) := by decide +kernel
theorem dX12_init_180 : decode cX12_init 180 = .ok (.iconst 3, 1) := by decide +kernel
theorem dX12_init_181 : decode cX12_init 181 = .ok (.iconst 3, 1) := by decide +kernel
theorem dX12_init_182 : decode cX12_init 182 = .ok (.iastore, 1) := by decide +kernel
theorem dX12_init_183 : decode cX12_init 183 = .ok (.dup, 1) := by decide +kernel
theorem dX12_init_184 : decode cX12_init 184 = .ok (.iconst 4, 1) := by decide +kernel
theorem dX12_init_185 : decode cX12_init 185 = .ok (.iconst 4, 1) := by decide +kernel
theorem dX12_init_186 : decode cX12_init 186 = .ok (.iastore, 1) := by decide +kernel
theorem dX12_init_187 : decode cX12_init 187 = .ok (.dup, 1) := by decide +kernel
theorem dX12_init_188 : decode cX12_init 188 = .ok (.iconst 5, 1) := by decide +kernel
theorem dX12_init_189 : decode cX12_init 189 = .ok (.iconst 5, 1) := by decide +kernel
theorem dX12_init_190 : decode cX12_init 190 = .ok (.iastore, 1) := by decide +kernel
theorem dX12_init_191 : decode cX12_init 191 = .ok (.putfield 72, 3) := by decide +kernel
theorem dX12_init_194 : decode cX12_init 194 = .ok (.aload_n 0, 1) := by decide +kernel
theorem dX12_init_195 : decode cX12_init 195 = .ok (.sipush 540, 3) := by decide +kernel
theorem dX12_init_198 : decode cX12_init 198 = .ok (.newarray .int, 2) := by decide +kernel
theorem dX12_init_200 : decode cX12_init 200 = .ok (.putfield 75, 3) := by decide +kernel
theorem dX12_init_203 : decode cX12_init 203 = .ok (.aload_n 0, 1) := by decide +kernel
theorem dX12_init_204 : decode cX12_init 204 = .ok (.bipush 6, 2) := by decide +kernel
theorem dX12_init_206 : decode cX12_init 206 = .ok (.newarray .int, 2) := by decide +kernel
theorem dX12_init_208 : decode cX12_init 208 = .ok (.putfield 78, 3) := by decide +kernel
theorem dX12_init_211 : decode cX12_init 211 = .ok (.aload_n 0, 1) := by decide +kernel
theorem dX12_init_212 : decode cX12_init 212 = .ok (.bipush 6, 2) := by decide +kernel
theorem dX12_init_214 : decode cX12_init 214 = .ok (.newarray .int, 2) := by decide +kernel
theorem dX12_init_216 : decode cX12_init 216 = .ok (.putfield 81, 3) := by decide +kernel
theorem dX12_init_219 : decode cX12_init 219 = .ok (.aload_n 0, 1) := by decide +kernel
theorem dX12_init_220 : decode cX12_init 220 = .ok (.bipush 6, 2) := by decide +kernel
theorem dX12_init_222 : decode cX12_init 222 = .ok (.newarray .int, 2) := by decide +kernel
theorem dX12_init_224 : decode cX12_init 224 = .ok (.putfield 84, 3) := by decide +kernel
theorem dX12_init_227 : decode cX12_init 227 = .ok (.aload_n 0, 1) := by decide +kernel
theorem dX12_init_228 : decode cX12_init 228 = .ok (.bipush 6, 2) := by decide +kernel
theorem dX12_init_230 : decode cX12_init 230 = .ok (.newarray .int, 2) := by decide +kernel
theorem dX12_init_232 : decode cX12_init 232 = .ok (.putfield 87, 3) := by decide +kernel
theorem dX12_init_235 : decode cX12_init 235 = .ok (.aload_n 0, 1) := by decide +kernel
theorem dX12_init_236 : decode cX12_init 236 = .ok (.sipush 640, 3) := by decide +kernel
theorem dX12_init_239 : decode cX12_init 239 = .ok (.newarray .int, 2) := by decide +kernel
theorem dX12_init_241 : decode cX12_init 241 = .ok (.putfield 90, 3) := by decide +kernel
theorem dX12_init_244 : decode cX12_init 244 = .ok (.aload_n 0, 1) := by decide +kernel
theorem dX12_init_245 : decode cX12_init 245 = .ok (.iconst 5, 1) := by decide +kernel
theorem dX12_init_246 : decode cX12_init 246 = .ok (.newarray .int, 2) := by decide +kernel
theorem dX12_init_248 : decode cX12_init 248 = .ok (.putfield 93, 3) := by decide +kernel
theorem dX12_init_251 : decode cX12_init 251 = .ok (.aload_n 0, 1) := by decide +kernel
theorem dX12_init_252 : decode cX12_init 252 = .ok (.sipush 128, 3) := by decide +kernel
theorem dX12_init_255 : decode cX12_init 255 = .ok (.newarray .int, 2) := by decide +kernel
theorem dX12_init_257 : decode cX12_init 257 = .ok (.putfield 96, 3) := by decide +kernel
theorem dX12_init_260 : decode cX12_init 260 = .ok (.aload_n 0, 1) := by decide +kernel
theorem dX12_init_261 : decode cX12_init 261 = .ok (.iconst 5, 1) := by decide +kernel
theorem dX12_init_262 : decode cX12_init 262 = .ok (.newarray .long, 2) := by decide +kernel
theorem dX12_init_264 : decode cX12_init 264 = .ok (.putfield 99, 3) := by decide +kernel
theorem dX12_init_267 : decode cX12_init 267 = .ok (.aload_n 0, 1) := by decide +kernel
theorem dX12_init_268 : decode cX12_init 268 = .ok (.bipush 19, 2) := by decide +kernel
theorem dX12_init_270 : decode cX12_init 270 = .ok (.newarray .int, 2) := by decide +kernel
theorem dX12_init_272 : decode cX12_init 272 = .ok (.putfield 103, 3) := by decide +kernel
theorem dX12_init_275 : decode cX12_init 275 = .ok (.aload_n 0, 1) := by decide +kernel
theorem dX12_init_276 : decode cX12_init 276 = .ok (.bipush 19, 2) := by decide +kernel
theorem dX12_init_278 : decode cX12_init 278 = .ok (.newarray .int, 2) := by decide +kernel
theorem dX12_init_280 : decode cX12_init 280 = .ok (.putfield 106, 3) := by decide +kernel
theorem dX12_init_283 : decode cX12_init 283 = .ok (.aload_n 0, 1) := by decide +kernel
theorem dX12_init_284 : decode cX12_init 284 = .ok (.bipush 19, 2) := by decide +kernel
theorem dX12_init_286 : decode cX12_init 286 = .ok (.newarray .int, 2) := by decide +kernel
theorem dX12_init_288 : decode cX12_init 288 = .ok (.putfield 109, 3) := by decide +kernel
theorem dX12_init_291 : decode cX12_init 291 = .ok (.aload_n 0, 1) := by decide +kernel
theorem dX12_init_292 : decode cX12_init 292 = .ok (.bipush 10, 2) := by decide +kernel
theorem dX12_init_294 : decode cX12_init 294 = .ok (.newarray .int, 2) := by decide +kernel
theorem dX12_init_296 : decode cX12_init 296 = .ok (.putfield 112, 3) := by decide +kernel
theorem dX12_init_299 : decode cX12_init 299 = .ok (.aload_n 0, 1) := by decide +kernel
theorem dX12_init_300 : decode cX12_init 300 = .ok (.sipush 128, 3) := by decide +kernel
theorem dX12_init_303 : decode cX12_init 303 = .ok (.newarray .int, 2) := by decide +kernel
theorem dX12_init_305 : decode cX12_init 305 = .ok (.putfield 115, 3) := by decide +kernel
theorem dX12_init_308 : decode cX12_init 308 = .ok (.aload_n 0, 1) := by decide +kernel
theorem dX12_init_309 : decode cX12_init 309 = .ok (.bipush 19, 2) := by decide +kernel
theorem dX12_init_311 : decode cX12_init 311 = .ok (.newarray .int, 2) := by decide +kernel
theorem dX12_init_313 : decode cX12_init 313 = .ok (.putfield 118, 3) := by decide +kernel
theorem dX12_init_316 : decode cX12_init 316 = .ok (.aload_n 0, 1) := by decide +kernel
theorem dX12_init_317 : decode cX12_init 317 = .ok (.bipush 6, 2) := by decide +kernel
theorem dX12_init_319 : decode cX12_init 319 = .ok (.newarray .int, 2) := by decide +kernel
theorem dX12_init_321 : decode cX12_init 321 = .ok (.putfield 121, 3) := by decide +kernel
theorem dX12_init_324 : decode cX12_init 324 = .ok (.aload_n 0, 1) := by decide +kernel
theorem dX12_init_325 : decode cX12_init 325 = .ok (.sipush 128, 3) := by decide +kernel
theorem dX12_init_328 : decode cX12_init 328 = .ok (.newarray .int, 2) := by decide +kernel
theorem dX12_init_330 : decode cX12_init 330 = .ok (.putfield 124, 3) := by decide +kernel
theorem dX12_init_333 : decode cX12_init 333 = .ok (.aload_n 0, 1) := by decide +kernel
theorem dX12_init_334 : decode cX12_init 334 = .ok (.sipush 128, 3) := by decide +kernel
theorem dX12_init_337 : decode cX12_init 337 = .ok (.newarray .int, 2) := by decide +kernel
theorem dX12_init_339 : decode cX12_init 339 = .ok (.putfield 127, 3) := by decide +kernel
theorem dX12_init_342 : decode cX12_init 342 = .ok (.aload_n 0, 1) := by decide +kernel
theorem dX12_init_343 : decode cX12_init 343 = .ok (.bipush 6, 2) := by decide +kernel
theorem dX12_init_345 : decode cX12_init 345 = .ok (.newarray .int, 2) := by decide +kernel
theorem dX12_init_347 : decode cX12_init 347 = .ok (.putfield 130, 3) := by decide +kernel
theorem dX12_init_350 : decode cX12_init 350 = .ok (.aload_n 0, 1) := by decide +kernel
theorem dX12_init_351 : decode cX12_init 351 = .ok (.sipush 128, 3) := by decide +kernel
theorem dX12_init_354 : decode cX12_init 354 = .ok (.newarray .int, 2) := by decide +kernel
theorem dX12_init_356 : decode cX12_init 356 = .ok (.putfield 133, 3) := by decide +kernel
theorem dX12_init_359 : decode cX12_init 359 = .ok (.aload_n 0, 1) := by decide +kernel
theorem dX12_init_360 : decode cX12_init 360 = .ok (.sipush 540, 3) := by decide +kernel
theorem dX12_init_363 : decode cX12_init 363 = .ok (.newarray .int, 2) := by decide +kernel
theorem dX12_init_365 : decode cX12_init 365 = .ok (.putfield 136, 3) := by decide +kernel
theorem dX12_init_368 : decode cX12_init 368 = .ok (.aload_n 0, 1) := by decide +kernel
theorem dX12_init_369 : decode cX12_init 369 = .ok (.iconst 1, 1) := by decide +kernel
theorem dX12_init_370 : decode cX12_init 370 = .ok (.putfield 139, 3) := by decide +kernel
theorem dX12_init_373 : decode cX12_init 373 = .ok (.aload_n 0, 1) := by decide +kernel
theorem dX12_init_374 : decode cX12_init 374 = .ok (.aload_n 0, 1) := by decide +kernel
theorem dX12_init_375 : decode cX12_init 375 = .ok (.getfield 142, 3) := by decide +kernel
theorem dX12_init_378 : decode cX12_init 378 = .ok (.aload_n 0, 1) := by decide +kernel
theorem dX12_init_379 : decode cX12_init 379 = .ok (.getfield 57, 3) := by decide +kernel
theorem dX12_init_382 : decode cX12_init 382 = .ok (.invokevirtual 145, 3) := by decide +kernel
theorem dX12_init_385 : decode cX12_init 385 = .ok (.aload_n 0, 1) := by decide +kernel
theorem dX12_init_386 : decode cX12_init 386 = .ok (.invokevirtual 149, 3) := by decide +kernel
theorem dX12_init_389 : decode cX12_init 389 = .ok (.return_, 1) := by decide +kernel
def X12_init (e : (Nat → Nat) × Nat) (a0 : Nat) (g : mm_T) (m : mm_V) (z : Nat) : Option mm_S := (mm_pf g m 12 75 a0 1 (.int (3 : Int32))).bind fun m1 => (mm_pf g m1 12 75 a0 2 (.int (5 : Int32))).bind fun m2 => (mm_new g m2 z 20 12 (fun _ => defaultValue (mm_aty 20))).bind fun s3 => (mm_pf s3.1 s3.2.1 12 75 a0 5 (.ref z)).bind fun m4 => (mm_new s3.1 m4 s3.2.2 20 36 (fun _ => defaultValue (mm_aty 20))).bind fun s5 => (mm_pf s5.1 s5.2.1 12 75 a0 6 (.ref s3.2.2)).bind fun m6 => (mm_new s5.1 m6 s5.2.2 20 1600 (fun _ => defaultValue (mm_aty 20))).bind fun s7 => (mm_pf s7.1 s7.2.1 12 75 a0 7 (.ref s5.2.2)).bind fun m8 => (mm_new s7.1 m8 s7.2.2 20 600 (fun _ => defaultValue (mm_aty 20))).bind fun s9 => (mm_pf s9.1 s9.2.1 12 75 a0 8 (.ref s7.2.2)).bind fun m10 => (mm_pf s9.1 m10 12 75 a0 11 (.int (-1 : Int32))).bind fun m11 => (mm_new s9.1 m11 s9.2.2 20 2 (fun _ => defaultValue (mm_aty 20))).bind fun s12 => (mm_pf s12.1 s12.2.1 12 75 a0 12 (.ref s9.2.2)).bind fun m13 => (mm_new s12.1 m13 s12.2.2 20 12 (fun _ => defaultValue (mm_aty 20))).bind fun s14 => (mm_pf s14.1 s14.2.1 12 75 a0 31 (.ref s12.2.2)).bind fun m15 => (mm_new s14.1 m15 s14.2.2 20 36 (fun _ => defaultValue (mm_aty 20))).bind fun s16 => (mm_pf s16.1 s16.2.1 12 75 a0 32 (.ref s14.2.2)).bind fun m17 => (mm_new s16.1 m17 s16.2.2 20 121 (fun _ => defaultValue (mm_aty 20))).bind fun s18 => (mm_pf s18.1 s18.2.1 12 75 a0 33 (.ref s16.2.2)).bind fun m19 => (mm_new s18.1 m19 s18.2.2 20 1600 (fun _ => defaultValue (mm_aty 20))).bind fun s20 => (mm_pf s20.1 s20.2.1 12 75 a0 34 (.ref s18.2.2)).bind fun m21 => (mm_new s20.1 m21 s20.2.2 20 800 (fun _ => defaultValue (mm_aty 20))).bind fun s22 => (mm_pf s22.1 s22.2.1 12 75 a0 35 (.ref s20.2.2)).bind fun m23 => (mm_new s22.1 m23 s22.2.2 20 10 (fun _ => defaultValue (mm_aty 20))).bind fun s24 => (mm_pf s24.1 s24.2.1 12 75 a0 36 (.ref s22.2.2)).bind fun m25 => (mm_new s24.1 m25 s24.2.2 22 9 (fun _ => defaultValue (mm_aty 22))).bind fun s26 => (mm_pf s26.1 s26.2.1 12 75 a0 37 (.ref s24.2.2)).bind fun m27 => (mm_new s26.1 m27 s26.2.2 20 128 (fun _ => defaultValue (mm_aty 20))).bind fun s28 => (mm_pf s28.1 s28.2.1 12 75 a0 38 (.ref s26.2.2)).bind fun m29 => (mm_new s28.1 m29 s28.2.2 20 128 (fun _ => defaultValue (mm_aty 20))).bind fun s30 => (mm_pf s30.1 s30.2.1 12 75 a0 39 (.ref s28.2.2)).bind fun m31 => (mm_new s30.1 m31 s30.2.2 20 128 (fun _ => defaultValue (mm_aty 20))).bind fun s32 => (mm_pf s32.1 s32.2.1 12 75 a0 40 (.ref s30.2.2)).bind fun m33 => (mm_new s32.1 m33 s32.2.2 20 19 (fun _ => defaultValue (mm_aty 20))).bind fun s34 => (mm_pf s34.1 s34.2.1 12 75 a0 42 (.ref s32.2.2)).bind fun m35 => (mm_new s34.1 m35 s34.2.2 20 800 (fun _ => defaultValue (mm_aty 20))).bind fun s36 => (mm_pf s36.1 s36.2.1 12 75 a0 43 (.ref s34.2.2)).bind fun m37 => (mm_new s36.1 m37 s36.2.2 20 6 (fun _ => defaultValue (mm_aty 20))).bind fun s38 => (mm_si s38.1 s38.2.1 s36.2.2 (0 : Int32) (0 : Int32)).bind fun m39 => (mm_si s38.1 m39 s36.2.2 (1 : Int32) (1 : Int32)).bind fun m40 => (mm_si s38.1 m40 s36.2.2 (2 : Int32) (2 : Int32)).bind fun m41 => (mm_si s38.1 m41 s36.2.2 (3 : Int32) (3 : Int32)).bind fun m42 => (mm_si s38.1 m42 s36.2.2 (4 : Int32) (4 : Int32)).bind fun m43 => (mm_si s38.1 m43 s36.2.2 (5 : Int32) (5 : Int32)).bind fun m44 => (mm_pf s38.1 m44 12 75 a0 44 (.ref s36.2.2)).bind fun m45 => (mm_new s38.1 m45 s38.2.2 20 540 (fun _ => defaultValue (mm_aty 20))).bind fun s46 => (mm_pf s46.1 s46.2.1 12 75 a0 49 (.ref s38.2.2)).bind fun m47 => (mm_new s46.1 m47 s46.2.2 20 6 (fun _ => defaultValue (mm_aty 20))).bind fun s48 => (mm_pf s48.1 s48.2.1 12 75 a0 50 (.ref s46.2.2)).bind fun m49 => (mm_new s48.1 m49 s48.2.2 20 6 (fun _ => defaultValue (mm_aty 20))).bind fun s50 => (mm_pf s50.1 s50.2.1 12 75 a0 51 (.ref s48.2.2)).bind fun m51 => (mm_new s50.1 m51 s50.2.2 20 6 (fun _ => defaultValue (mm_aty 20))).bind fun s52 => (mm_pf s52.1 s52.2.1 12 75 a0 52 (.ref s50.2.2)).bind fun m53 => (mm_new s52.1 m53 s52.2.2 20 6 (fun _ => defaultValue (mm_aty 20))).bind fun s54 => (mm_pf s54.1 s54.2.1 12 75 a0 53 (.ref s52.2.2)).bind fun m55 => (mm_new s54.1 m55 s54.2.2 20 640 (fun _ => defaultValue (mm_aty 20))).bind fun s56 => (mm_pf s56.1 s56.2.1 12 75 a0 55 (.ref s54.2.2)).bind fun m57 => (mm_new s56.1 m57 s56.2.2 20 5 (fun _ => defaultValue (mm_aty 20))).bind fun s58 => (mm_pf s58.1 s58.2.1 12 75 a0 56 (.ref s56.2.2)).bind fun m59 => (mm_new s58.1 m59 s58.2.2 20 128 (fun _ => defaultValue (mm_aty 20))).bind fun s60 => (mm_pf s60.1 s60.2.1 12 75 a0 57 (.ref s58.2.2)).bind fun m61 => (mm_new s60.1 m61 s60.2.2 21 5 (fun _ => defaultValue (mm_aty 21))).bind fun s62 => (mm_pf s62.1 s62.2.1 12 75 a0 58 (.ref s60.2.2)).bind fun m63 => (mm_new s62.1 m63 s62.2.2 20 19 (fun _ => defaultValue (mm_aty 20))).bind fun s64 => (mm_pf s64.1 s64.2.1 12 75 a0 59 (.ref s62.2.2)).bind fun m65 => (mm_new s64.1 m65 s64.2.2 20 19 (fun _ => defaultValue (mm_aty 20))).bind fun s66 => (mm_pf s66.1 s66.2.1 12 75 a0 60 (.ref s64.2.2)).bind fun m67 => (mm_new s66.1 m67 s66.2.2 20 19 (fun _ => defaultValue (mm_aty 20))).bind fun s68 => (mm_pf s68.1 s68.2.1 12 75 a0 61 (.ref s66.2.2)).bind fun m69 => (mm_new s68.1 m69 s68.2.2 20 10 (fun _ => defaultValue (mm_aty 20))).bind fun s70 => (mm_pf s70.1 s70.2.1 12 75 a0 62 (.ref s68.2.2)).bind fun m71 => (mm_new s70.1 m71 s70.2.2 20 128 (fun _ => defaultValue (mm_aty 20))).bind fun s72 => (mm_pf s72.1 s72.2.1 12 75 a0 63 (.ref s70.2.2)).bind fun m73 => (mm_new s72.1 m73 s72.2.2 20 19 (fun _ => defaultValue (mm_aty 20))).bind fun s74 => (mm_pf s74.1 s74.2.1 12 75 a0 64 (.ref s72.2.2)).bind fun m75 => (mm_new s74.1 m75 s74.2.2 20 6 (fun _ => defaultValue (mm_aty 20))).bind fun s76 => (mm_pf s76.1 s76.2.1 12 75 a0 65 (.ref s74.2.2)).bind fun m77 => (mm_new s76.1 m77 s76.2.2 20 128 (fun _ => defaultValue (mm_aty 20))).bind fun s78 => (mm_pf s78.1 s78.2.1 12 75 a0 68 (.ref s76.2.2)).bind fun m79 => (mm_new s78.1 m79 s78.2.2 20 128 (fun _ => defaultValue (mm_aty 20))).bind fun s80 => (mm_pf s80.1 s80.2.1 12 75 a0 69 (.ref s78.2.2)).bind fun m81 => (mm_new s80.1 m81 s80.2.2 20 6 (fun _ => defaultValue (mm_aty 20))).bind fun s82 => (mm_pf s82.1 s82.2.1 12 75 a0 70 (.ref s80.2.2)).bind fun m83 => (mm_new s82.1 m83 s82.2.2 20 128 (fun _ => defaultValue (mm_aty 20))).bind fun s84 => (mm_pf s84.1 s84.2.1 12 75 a0 73 (.ref s82.2.2)).bind fun m85 => (mm_new s84.1 m85 s84.2.2 20 540 (fun _ => defaultValue (mm_aty 20))).bind fun s86 => (mm_pf s86.1 s86.2.1 12 75 a0 74 (.ref s84.2.2)).bind fun m87 => (mm_pf s86.1 m87 12 75 a0 25 (.int (1 : Int32))).bind fun m88 => (mm_gi s86.1 m88 12 75 a0 3).bind fun x89 => (mm_gr s86.1 m88 12 75 a0 38).bind fun c90 => if s86.1 a0 = some (12, 75) then ((X12_deals (s86.1, e) a0 x89 c90 m88).bind fun r92 => if s86.1 a0 = some (12, 75) then ((X12_begins (s86.1, e) a0 r92).bind fun r94 => some (s86.1, r94, s86.2.2)) else none) else none
theorem X12_init_ok {K : mm_K} {e : (Nat → Nat) × Nat} (hz : e.1 = K.2.2.2.2) {d : Nat} (hd : 4 ≤ d) {a0 : Nat} {g : mm_T} {m : mm_V} {z : Nat} {r : mm_S} (hr : X12_init e a0 g m z = some r) : mm_Cn K MX12_init d (39, 8539, .inl none, (r.1, r.2.1), some r.2.2) [.ref a0] (g, m) (some z) := by
  obtain ⟨d, rfl⟩ : ∃ d', d = d' + 1 := ⟨d - 1, by omega⟩
  refine mm_entry (by decide) (Nat.le_of_ble_eq_true rfl) rfl (fun hok => ?_)
  unfold X12_init at hr
  refine mg_weak (L' := [some (.ref a0)]) (mm_le_s mm_le_0) ?_
  refine ml_aload_n (pc := 0) dX12_init_0 rfl mm_get_0 ?_
  refine mg_obj (pc := 1) dX12_init_1 tw_1353 (Nat.le_of_ble_eq_true rfl) ?_
  refine ml_aload_n (pc := 4) dX12_init_4 rfl mm_get_0 ?_
  refine mg_iconst (pc := 5) dX12_init_5 kc_3 ?_
  refine mb_pi (pc := 6) dX12_init_6 fp_X12_7 hr (fun m1 hr => ?_)
  refine ml_aload_n (pc := 9) dX12_init_9 rfl mm_get_0 ?_
  refine mg_iconst (pc := 10) dX12_init_10 kc_5 ?_
  refine mb_pi (pc := 11) dX12_init_11 fp_X12_13 hr (fun m2 hr => ?_)
  refine ml_aload_n (pc := 14) dX12_init_14 rfl mm_get_0 ?_
  refine mg_bipush (pc := 15) dX12_init_15 kb_12 ?_
  refine mb_newa (pc := 17) dX12_init_17 (t := 20) (by decide) (by decide) rfl tw_57 (by decide) (by decide) (by decide) hr (Nat.le_of_ble_eq_true rfl) (Nat.le_of_ble_eq_true rfl) (fun s3 hr => ?_)
  refine mb_putF (pc := 19) dX12_init_19 fi_X12_16 rfl rfl hr (fun m4 hr => ?_)
  refine ml_aload_n (pc := 22) dX12_init_22 rfl mm_get_0 ?_
  refine mg_bipush (pc := 23) dX12_init_23 kb_36 ?_
  refine mb_newa (pc := 25) dX12_init_25 (t := 20) (by decide) (by decide) rfl tw_57 (by decide) (by decide) (by decide) hr (Nat.le_of_ble_eq_true rfl) (Nat.le_of_ble_eq_true rfl) (fun s5 hr => ?_)
  refine mb_putF (pc := 27) dX12_init_27 fi_X12_20 rfl rfl hr (fun m6 hr => ?_)
  refine ml_aload_n (pc := 30) dX12_init_30 rfl mm_get_0 ?_
  refine mg_sipush (pc := 31) dX12_init_31 ks_1600 ?_
  refine mb_newa (pc := 34) dX12_init_34 (t := 20) (by decide) (by decide) rfl tw_57 (by decide) (by decide) (by decide) hr (Nat.le_of_ble_eq_true rfl) (Nat.le_of_ble_eq_true rfl) (fun s7 hr => ?_)
  refine mb_putF (pc := 36) dX12_init_36 fi_X12_23 rfl rfl hr (fun m8 hr => ?_)
  refine ml_aload_n (pc := 39) dX12_init_39 rfl mm_get_0 ?_
  refine mg_sipush (pc := 40) dX12_init_40 ks_600 ?_
  refine mb_newa (pc := 43) dX12_init_43 (t := 20) (by decide) (by decide) rfl tw_57 (by decide) (by decide) (by decide) hr (Nat.le_of_ble_eq_true rfl) (Nat.le_of_ble_eq_true rfl) (fun s9 hr => ?_)
  refine mb_putF (pc := 45) dX12_init_45 fi_X12_26 rfl rfl hr (fun m10 hr => ?_)
  refine ml_aload_n (pc := 48) dX12_init_48 rfl mm_get_0 ?_
  refine mg_iconst (pc := 49) dX12_init_49 kc_m1 ?_
  refine mb_pi (pc := 50) dX12_init_50 fp_X12_29 hr (fun m11 hr => ?_)
  refine ml_aload_n (pc := 53) dX12_init_53 rfl mm_get_0 ?_
  refine mg_iconst (pc := 54) dX12_init_54 kc_2 ?_
  refine mb_newa (pc := 55) dX12_init_55 (t := 20) (by decide) (by decide) rfl tw_57 (by decide) (by decide) (by decide) hr (Nat.le_of_ble_eq_true rfl) (Nat.le_of_ble_eq_true rfl) (fun s12 hr => ?_)
  refine mb_putF (pc := 57) dX12_init_57 fi_X12_32 rfl rfl hr (fun m13 hr => ?_)
  refine ml_aload_n (pc := 60) dX12_init_60 rfl mm_get_0 ?_
  refine mg_bipush (pc := 61) dX12_init_61 kb_12 ?_
  refine mb_newa (pc := 63) dX12_init_63 (t := 20) (by decide) (by decide) rfl tw_57 (by decide) (by decide) (by decide) hr (Nat.le_of_ble_eq_true rfl) (Nat.le_of_ble_eq_true rfl) (fun s14 hr => ?_)
  refine mb_putF (pc := 65) dX12_init_65 fi_X12_35 rfl rfl hr (fun m15 hr => ?_)
  refine ml_aload_n (pc := 68) dX12_init_68 rfl mm_get_0 ?_
  refine mg_bipush (pc := 69) dX12_init_69 kb_36 ?_
  refine mb_newa (pc := 71) dX12_init_71 (t := 20) (by decide) (by decide) rfl tw_57 (by decide) (by decide) (by decide) hr (Nat.le_of_ble_eq_true rfl) (Nat.le_of_ble_eq_true rfl) (fun s16 hr => ?_)
  refine mb_putF (pc := 73) dX12_init_73 fi_X12_38 rfl rfl hr (fun m17 hr => ?_)
  refine ml_aload_n (pc := 76) dX12_init_76 rfl mm_get_0 ?_
  refine mg_bipush (pc := 77) dX12_init_77 kb_121 ?_
  refine mb_newa (pc := 79) dX12_init_79 (t := 20) (by decide) (by decide) rfl tw_57 (by decide) (by decide) (by decide) hr (Nat.le_of_ble_eq_true rfl) (Nat.le_of_ble_eq_true rfl) (fun s18 hr => ?_)
  refine mb_putF (pc := 81) dX12_init_81 fi_X12_41 rfl rfl hr (fun m19 hr => ?_)
  refine ml_aload_n (pc := 84) dX12_init_84 rfl mm_get_0 ?_
  refine mg_sipush (pc := 85) dX12_init_85 ks_1600 ?_
  refine mb_newa (pc := 88) dX12_init_88 (t := 20) (by decide) (by decide) rfl tw_57 (by decide) (by decide) (by decide) hr (Nat.le_of_ble_eq_true rfl) (Nat.le_of_ble_eq_true rfl) (fun s20 hr => ?_)
  refine mb_putF (pc := 90) dX12_init_90 fi_X12_44 rfl rfl hr (fun m21 hr => ?_)
  refine ml_aload_n (pc := 93) dX12_init_93 rfl mm_get_0 ?_
  refine mg_sipush (pc := 94) dX12_init_94 ks_800 ?_
  refine mb_newa (pc := 97) dX12_init_97 (t := 20) (by decide) (by decide) rfl tw_57 (by decide) (by decide) (by decide) hr (Nat.le_of_ble_eq_true rfl) (Nat.le_of_ble_eq_true rfl) (fun s22 hr => ?_)
  refine mb_putF (pc := 99) dX12_init_99 fi_X12_47 rfl rfl hr (fun m23 hr => ?_)
  refine ml_aload_n (pc := 102) dX12_init_102 rfl mm_get_0 ?_
  refine mg_bipush (pc := 103) dX12_init_103 kb_10 ?_
  refine mb_newa (pc := 105) dX12_init_105 (t := 20) (by decide) (by decide) rfl tw_57 (by decide) (by decide) (by decide) hr (Nat.le_of_ble_eq_true rfl) (Nat.le_of_ble_eq_true rfl) (fun s24 hr => ?_)
  refine mb_putF (pc := 107) dX12_init_107 fi_X12_50 rfl rfl hr (fun m25 hr => ?_)
  refine ml_aload_n (pc := 110) dX12_init_110 rfl mm_get_0 ?_
  refine mg_bipush (pc := 111) dX12_init_111 kb_9 ?_
  refine mb_newa (pc := 113) dX12_init_113 (t := 22) (by decide) (by decide) rfl tw_175 (by decide) (by decide) (by decide) hr (Nat.le_of_ble_eq_true rfl) (Nat.le_of_ble_eq_true rfl) (fun s26 hr => ?_)
  refine mb_putF (pc := 115) dX12_init_115 fi_X12_53 rfl rfl hr (fun m27 hr => ?_)
  refine ml_aload_n (pc := 118) dX12_init_118 rfl mm_get_0 ?_
  refine mg_sipush (pc := 119) dX12_init_119 ks_128 ?_
  refine mb_newa (pc := 122) dX12_init_122 (t := 20) (by decide) (by decide) rfl tw_57 (by decide) (by decide) (by decide) hr (Nat.le_of_ble_eq_true rfl) (Nat.le_of_ble_eq_true rfl) (fun s28 hr => ?_)
  refine mb_putF (pc := 124) dX12_init_124 fi_X12_57 rfl rfl hr (fun m29 hr => ?_)
  refine ml_aload_n (pc := 127) dX12_init_127 rfl mm_get_0 ?_
  refine mg_sipush (pc := 128) dX12_init_128 ks_128 ?_
  refine mb_newa (pc := 131) dX12_init_131 (t := 20) (by decide) (by decide) rfl tw_57 (by decide) (by decide) (by decide) hr (Nat.le_of_ble_eq_true rfl) (Nat.le_of_ble_eq_true rfl) (fun s30 hr => ?_)
  refine mb_putF (pc := 133) dX12_init_133 fi_X12_60 rfl rfl hr (fun m31 hr => ?_)
  refine ml_aload_n (pc := 136) dX12_init_136 rfl mm_get_0 ?_
  refine mg_sipush (pc := 137) dX12_init_137 ks_128 ?_
  refine mb_newa (pc := 140) dX12_init_140 (t := 20) (by decide) (by decide) rfl tw_57 (by decide) (by decide) (by decide) hr (Nat.le_of_ble_eq_true rfl) (Nat.le_of_ble_eq_true rfl) (fun s32 hr => ?_)
  refine mb_putF (pc := 142) dX12_init_142 fi_X12_63 rfl rfl hr (fun m33 hr => ?_)
  refine ml_aload_n (pc := 145) dX12_init_145 rfl mm_get_0 ?_
  refine mg_bipush (pc := 146) dX12_init_146 kb_19 ?_
  refine mb_newa (pc := 148) dX12_init_148 (t := 20) (by decide) (by decide) rfl tw_57 (by decide) (by decide) (by decide) hr (Nat.le_of_ble_eq_true rfl) (Nat.le_of_ble_eq_true rfl) (fun s34 hr => ?_)
  refine mb_putF (pc := 150) dX12_init_150 fi_X12_66 rfl rfl hr (fun m35 hr => ?_)
  refine ml_aload_n (pc := 153) dX12_init_153 rfl mm_get_0 ?_
  refine mg_sipush (pc := 154) dX12_init_154 ks_800 ?_
  refine mb_newa (pc := 157) dX12_init_157 (t := 20) (by decide) (by decide) rfl tw_57 (by decide) (by decide) (by decide) hr (Nat.le_of_ble_eq_true rfl) (Nat.le_of_ble_eq_true rfl) (fun s36 hr => ?_)
  refine mb_putF (pc := 159) dX12_init_159 fi_X12_69 rfl rfl hr (fun m37 hr => ?_)
  refine ml_aload_n (pc := 162) dX12_init_162 rfl mm_get_0 ?_
  refine mg_bipush (pc := 163) dX12_init_163 kb_6 ?_
  refine mb_newa (pc := 165) dX12_init_165 (t := 20) (by decide) (by decide) rfl tw_57 (by decide) (by decide) (by decide) hr (Nat.le_of_ble_eq_true rfl) (Nat.le_of_ble_eq_true rfl) (fun s38 hr => ?_)
  refine mg_dup (pc := 167) dX12_init_167 rfl ?_
  refine mg_iconst (pc := 168) dX12_init_168 kc_0 ?_
  refine mg_iconst (pc := 169) dX12_init_169 kc_0 ?_
  refine mb_si (pc := 170) dX12_init_170 hr (fun m39 hr => ?_)
  refine mg_dup (pc := 171) dX12_init_171 rfl ?_
  refine mg_iconst (pc := 172) dX12_init_172 kc_1 ?_
  refine mg_iconst (pc := 173) dX12_init_173 kc_1 ?_
  refine mb_si (pc := 174) dX12_init_174 hr (fun m40 hr => ?_)
  refine mg_dup (pc := 175) dX12_init_175 rfl ?_
  refine mg_iconst (pc := 176) dX12_init_176 kc_2 ?_
  refine mg_iconst (pc := 177) dX12_init_177 kc_2 ?_
  refine mb_si (pc := 178) dX12_init_178 hr (fun m41 hr => ?_)
  refine mg_dup (pc := 179) dX12_init_179 rfl ?_
  refine mg_iconst (pc := 180) dX12_init_180 kc_3 ?_
  refine mg_iconst (pc := 181) dX12_init_181 kc_3 ?_
  refine mb_si (pc := 182) dX12_init_182 hr (fun m42 hr => ?_)
  refine mg_dup (pc := 183) dX12_init_183 rfl ?_
  refine mg_iconst (pc := 184) dX12_init_184 kc_4 ?_
  refine mg_iconst (pc := 185) dX12_init_185 kc_4 ?_
  refine mb_si (pc := 186) dX12_init_186 hr (fun m43 hr => ?_)
  refine mg_dup (pc := 187) dX12_init_187 rfl ?_
  refine mg_iconst (pc := 188) dX12_init_188 kc_5 ?_
  refine mg_iconst (pc := 189) dX12_init_189 kc_5 ?_
  refine mb_si (pc := 190) dX12_init_190 hr (fun m44 hr => ?_)
  refine mb_putF (pc := 191) dX12_init_191 fi_X12_72 rfl rfl hr (fun m45 hr => ?_)
  refine ml_aload_n (pc := 194) dX12_init_194 rfl mm_get_0 ?_
  refine mg_sipush (pc := 195) dX12_init_195 ks_540 ?_
  refine mb_newa (pc := 198) dX12_init_198 (t := 20) (by decide) (by decide) rfl tw_57 (by decide) (by decide) (by decide) hr (Nat.le_of_ble_eq_true rfl) (Nat.le_of_ble_eq_true rfl) (fun s46 hr => ?_)
  refine mb_putF (pc := 200) dX12_init_200 fi_X12_75 rfl rfl hr (fun m47 hr => ?_)
  refine ml_aload_n (pc := 203) dX12_init_203 rfl mm_get_0 ?_
  refine mg_bipush (pc := 204) dX12_init_204 kb_6 ?_
  refine mb_newa (pc := 206) dX12_init_206 (t := 20) (by decide) (by decide) rfl tw_57 (by decide) (by decide) (by decide) hr (Nat.le_of_ble_eq_true rfl) (Nat.le_of_ble_eq_true rfl) (fun s48 hr => ?_)
  refine mb_putF (pc := 208) dX12_init_208 fi_X12_78 rfl rfl hr (fun m49 hr => ?_)
  refine ml_aload_n (pc := 211) dX12_init_211 rfl mm_get_0 ?_
  refine mg_bipush (pc := 212) dX12_init_212 kb_6 ?_
  refine mb_newa (pc := 214) dX12_init_214 (t := 20) (by decide) (by decide) rfl tw_57 (by decide) (by decide) (by decide) hr (Nat.le_of_ble_eq_true rfl) (Nat.le_of_ble_eq_true rfl) (fun s50 hr => ?_)
  refine mb_putF (pc := 216) dX12_init_216 fi_X12_81 rfl rfl hr (fun m51 hr => ?_)
  refine ml_aload_n (pc := 219) dX12_init_219 rfl mm_get_0 ?_
  refine mg_bipush (pc := 220) dX12_init_220 kb_6 ?_
  refine mb_newa (pc := 222) dX12_init_222 (t := 20) (by decide) (by decide) rfl tw_57 (by decide) (by decide) (by decide) hr (Nat.le_of_ble_eq_true rfl) (Nat.le_of_ble_eq_true rfl) (fun s52 hr => ?_)
  refine mb_putF (pc := 224) dX12_init_224 fi_X12_84 rfl rfl hr (fun m53 hr => ?_)
  refine ml_aload_n (pc := 227) dX12_init_227 rfl mm_get_0 ?_
  refine mg_bipush (pc := 228) dX12_init_228 kb_6 ?_
  refine mb_newa (pc := 230) dX12_init_230 (t := 20) (by decide) (by decide) rfl tw_57 (by decide) (by decide) (by decide) hr (Nat.le_of_ble_eq_true rfl) (Nat.le_of_ble_eq_true rfl) (fun s54 hr => ?_)
  refine mb_putF (pc := 232) dX12_init_232 fi_X12_87 rfl rfl hr (fun m55 hr => ?_)
  refine ml_aload_n (pc := 235) dX12_init_235 rfl mm_get_0 ?_
  refine mg_sipush (pc := 236) dX12_init_236 ks_640 ?_
  refine mb_newa (pc := 239) dX12_init_239 (t := 20) (by decide) (by decide) rfl tw_57 (by decide) (by decide) (by decide) hr (Nat.le_of_ble_eq_true rfl) (Nat.le_of_ble_eq_true rfl) (fun s56 hr => ?_)
  refine mb_putF (pc := 241) dX12_init_241 fi_X12_90 rfl rfl hr (fun m57 hr => ?_)
  refine ml_aload_n (pc := 244) dX12_init_244 rfl mm_get_0 ?_
  refine mg_iconst (pc := 245) dX12_init_245 kc_5 ?_
  refine mb_newa (pc := 246) dX12_init_246 (t := 20) (by decide) (by decide) rfl tw_57 (by decide) (by decide) (by decide) hr (Nat.le_of_ble_eq_true rfl) (Nat.le_of_ble_eq_true rfl) (fun s58 hr => ?_)
  refine mb_putF (pc := 248) dX12_init_248 fi_X12_93 rfl rfl hr (fun m59 hr => ?_)
  refine ml_aload_n (pc := 251) dX12_init_251 rfl mm_get_0 ?_
  refine mg_sipush (pc := 252) dX12_init_252 ks_128 ?_
  refine mb_newa (pc := 255) dX12_init_255 (t := 20) (by decide) (by decide) rfl tw_57 (by decide) (by decide) (by decide) hr (Nat.le_of_ble_eq_true rfl) (Nat.le_of_ble_eq_true rfl) (fun s60 hr => ?_)
  refine mb_putF (pc := 257) dX12_init_257 fi_X12_96 rfl rfl hr (fun m61 hr => ?_)
  refine ml_aload_n (pc := 260) dX12_init_260 rfl mm_get_0 ?_
  refine mg_iconst (pc := 261) dX12_init_261 kc_5 ?_
  refine mb_newa (pc := 262) dX12_init_262 (t := 21) (by decide) (by decide) rfl tw_1628 (by decide) (by decide) (by decide) hr (Nat.le_of_ble_eq_true rfl) (Nat.le_of_ble_eq_true rfl) (fun s62 hr => ?_)
  refine mb_putF (pc := 264) dX12_init_264 fi_X12_99 rfl rfl hr (fun m63 hr => ?_)
  refine ml_aload_n (pc := 267) dX12_init_267 rfl mm_get_0 ?_
  refine mg_bipush (pc := 268) dX12_init_268 kb_19 ?_
  refine mb_newa (pc := 270) dX12_init_270 (t := 20) (by decide) (by decide) rfl tw_57 (by decide) (by decide) (by decide) hr (Nat.le_of_ble_eq_true rfl) (Nat.le_of_ble_eq_true rfl) (fun s64 hr => ?_)
  refine mb_putF (pc := 272) dX12_init_272 fi_X12_103 rfl rfl hr (fun m65 hr => ?_)
  refine ml_aload_n (pc := 275) dX12_init_275 rfl mm_get_0 ?_
  refine mg_bipush (pc := 276) dX12_init_276 kb_19 ?_
  refine mb_newa (pc := 278) dX12_init_278 (t := 20) (by decide) (by decide) rfl tw_57 (by decide) (by decide) (by decide) hr (Nat.le_of_ble_eq_true rfl) (Nat.le_of_ble_eq_true rfl) (fun s66 hr => ?_)
  refine mb_putF (pc := 280) dX12_init_280 fi_X12_106 rfl rfl hr (fun m67 hr => ?_)
  refine ml_aload_n (pc := 283) dX12_init_283 rfl mm_get_0 ?_
  refine mg_bipush (pc := 284) dX12_init_284 kb_19 ?_
  refine mb_newa (pc := 286) dX12_init_286 (t := 20) (by decide) (by decide) rfl tw_57 (by decide) (by decide) (by decide) hr (Nat.le_of_ble_eq_true rfl) (Nat.le_of_ble_eq_true rfl) (fun s68 hr => ?_)
  refine mb_putF (pc := 288) dX12_init_288 fi_X12_109 rfl rfl hr (fun m69 hr => ?_)
  refine ml_aload_n (pc := 291) dX12_init_291 rfl mm_get_0 ?_
  refine mg_bipush (pc := 292) dX12_init_292 kb_10 ?_
  refine mb_newa (pc := 294) dX12_init_294 (t := 20) (by decide) (by decide) rfl tw_57 (by decide) (by decide) (by decide) hr (Nat.le_of_ble_eq_true rfl) (Nat.le_of_ble_eq_true rfl) (fun s70 hr => ?_)
  refine mb_putF (pc := 296) dX12_init_296 fi_X12_112 rfl rfl hr (fun m71 hr => ?_)
  refine ml_aload_n (pc := 299) dX12_init_299 rfl mm_get_0 ?_
  refine mg_sipush (pc := 300) dX12_init_300 ks_128 ?_
  refine mb_newa (pc := 303) dX12_init_303 (t := 20) (by decide) (by decide) rfl tw_57 (by decide) (by decide) (by decide) hr (Nat.le_of_ble_eq_true rfl) (Nat.le_of_ble_eq_true rfl) (fun s72 hr => ?_)
  refine mb_putF (pc := 305) dX12_init_305 fi_X12_115 rfl rfl hr (fun m73 hr => ?_)
  refine ml_aload_n (pc := 308) dX12_init_308 rfl mm_get_0 ?_
  refine mg_bipush (pc := 309) dX12_init_309 kb_19 ?_
  refine mb_newa (pc := 311) dX12_init_311 (t := 20) (by decide) (by decide) rfl tw_57 (by decide) (by decide) (by decide) hr (Nat.le_of_ble_eq_true rfl) (Nat.le_of_ble_eq_true rfl) (fun s74 hr => ?_)
  refine mb_putF (pc := 313) dX12_init_313 fi_X12_118 rfl rfl hr (fun m75 hr => ?_)
  refine ml_aload_n (pc := 316) dX12_init_316 rfl mm_get_0 ?_
  refine mg_bipush (pc := 317) dX12_init_317 kb_6 ?_
  refine mb_newa (pc := 319) dX12_init_319 (t := 20) (by decide) (by decide) rfl tw_57 (by decide) (by decide) (by decide) hr (Nat.le_of_ble_eq_true rfl) (Nat.le_of_ble_eq_true rfl) (fun s76 hr => ?_)
  refine mb_putF (pc := 321) dX12_init_321 fi_X12_121 rfl rfl hr (fun m77 hr => ?_)
  refine ml_aload_n (pc := 324) dX12_init_324 rfl mm_get_0 ?_
  refine mg_sipush (pc := 325) dX12_init_325 ks_128 ?_
  refine mb_newa (pc := 328) dX12_init_328 (t := 20) (by decide) (by decide) rfl tw_57 (by decide) (by decide) (by decide) hr (Nat.le_of_ble_eq_true rfl) (Nat.le_of_ble_eq_true rfl) (fun s78 hr => ?_)
  refine mb_putF (pc := 330) dX12_init_330 fi_X12_124 rfl rfl hr (fun m79 hr => ?_)
  refine ml_aload_n (pc := 333) dX12_init_333 rfl mm_get_0 ?_
  refine mg_sipush (pc := 334) dX12_init_334 ks_128 ?_
  refine mb_newa (pc := 337) dX12_init_337 (t := 20) (by decide) (by decide) rfl tw_57 (by decide) (by decide) (by decide) hr (Nat.le_of_ble_eq_true rfl) (Nat.le_of_ble_eq_true rfl) (fun s80 hr => ?_)
  refine mb_putF (pc := 339) dX12_init_339 fi_X12_127 rfl rfl hr (fun m81 hr => ?_)
  refine ml_aload_n (pc := 342) dX12_init_342 rfl mm_get_0 ?_
  refine mg_bipush (pc := 343) dX12_init_343 kb_6 ?_
  refine mb_newa (pc := 345) dX12_init_345 (t := 20) (by decide) (by decide) rfl tw_57 (by decide) (by decide) (by decide) hr (Nat.le_of_ble_eq_true rfl) (Nat.le_of_ble_eq_true rfl) (fun s82 hr => ?_)
  refine mb_putF (pc := 347) dX12_init_347 fi_X12_130 rfl rfl hr (fun m83 hr => ?_)
  refine ml_aload_n (pc := 350) dX12_init_350 rfl mm_get_0 ?_
  refine mg_sipush (pc := 351) dX12_init_351 ks_128 ?_
  refine mb_newa (pc := 354) dX12_init_354 (t := 20) (by decide) (by decide) rfl tw_57 (by decide) (by decide) (by decide) hr (Nat.le_of_ble_eq_true rfl) (Nat.le_of_ble_eq_true rfl) (fun s84 hr => ?_)
  refine mb_putF (pc := 356) dX12_init_356 fi_X12_133 rfl rfl hr (fun m85 hr => ?_)
  refine ml_aload_n (pc := 359) dX12_init_359 rfl mm_get_0 ?_
  refine mg_sipush (pc := 360) dX12_init_360 ks_540 ?_
  refine mb_newa (pc := 363) dX12_init_363 (t := 20) (by decide) (by decide) rfl tw_57 (by decide) (by decide) (by decide) hr (Nat.le_of_ble_eq_true rfl) (Nat.le_of_ble_eq_true rfl) (fun s86 hr => ?_)
  refine mb_putF (pc := 365) dX12_init_365 fi_X12_136 rfl rfl hr (fun m87 hr => ?_)
  refine ml_aload_n (pc := 368) dX12_init_368 rfl mm_get_0 ?_
  refine mg_iconst (pc := 369) dX12_init_369 kc_1 ?_
  refine mb_pi (pc := 370) dX12_init_370 fp_X12_139 hr (fun m88 hr => ?_)
  refine ml_aload_n (pc := 373) dX12_init_373 rfl mm_get_0 ?_
  refine ml_aload_n (pc := 374) dX12_init_374 rfl mm_get_0 ?_
  refine mb_gi (pc := 375) dX12_init_375 fl_X12_142 hr (fun x89 hr => ?_)
  refine ml_aload_n (pc := 378) dX12_init_378 rfl mm_get_0 ?_
  refine mb_gr (pc := 379) dX12_init_379 fl_X12_57 hr (fun c90 hr => ?_)
  refine mb_ck hr (fun hb91 hr => ?_)
  refine mb_cVv (pc := 382) (As := [.int x89, .ref c90]) (rest := []) dX12_init_382 cw_X12_145 hb91 hr (fun v hv => X12_deals_ok (e := (s86.1, e)) hz (by omega) hb91 hv) rfl (Nat.le_of_ble_eq_true rfl) (Nat.le_of_ble_eq_true rfl) (Nat.le_of_ble_eq_true rfl) (fun r92 hr => ?_)
  refine ml_aload_n (pc := 385) dX12_init_385 rfl mm_get_0 ?_
  refine mb_ck hr (fun hb93 hr => ?_)
  refine mb_cVv (pc := 386) (As := []) (rest := []) dX12_init_386 cw_X12_149 hb93 hr (fun v hv => X12_begins_ok (e := (s86.1, e)) hz (by omega) hb93 hv) rfl (Nat.le_of_ble_eq_true rfl) (Nat.le_of_ble_eq_true rfl) (Nat.le_of_ble_eq_true rfl) (fun r94 hr => ?_)
  exact mb_mret dX12_init_389 rfl rfl rfl (Nat.le_of_ble_eq_true rfl) (Nat.le_of_ble_eq_true rfl) hr
