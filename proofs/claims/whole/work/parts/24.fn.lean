theorem tw_555 : Cond.fieldLink "SootQueen" 95 "SootQueen" "tapeSize" "I" ∈ lw_tbl := List.mem_append_right _ (List.mem_of_getElem? (i := 555) (by decide +kernel))
theorem fl_X11_95 : mm_FL RX11 95 11 15 19 := ⟨(RX11, TX11, 19), rfl, rfl, by decide, by decide, Or.inl tw_555⟩
theorem tw_540 : Cond.fieldLink "SootQueen" 9 "SootQueen" "tape" "[I" ∈ lw_tbl := List.mem_append_right _ (List.mem_of_getElem? (i := 540) (by decide +kernel))
theorem fl_X11_9 : mm_FL RX11 9 11 0 19 := ⟨(RX11, TX11, 19), rfl, rfl, by decide, by decide, Or.inl tw_540⟩
theorem ks_255 : (Int16.ofInt (255)).toInt32 = (255 : Int32) := by decide
theorem fp_X11_95 : mm_FP RX11 95 11 15 19 .int := ⟨fl_X11_95, (RX11, TX11, 19), rfl, rfl, by decide +kernel⟩
theorem kc_m8 : Int32.ofInt (-8) = (-8 : Int32) := by decide
theorem kb_24 : (Int8.ofInt (24)).toInt32 = (24 : Int32) := by decide
theorem ks_580 : (Int16.ofInt (580)).toInt32 = (580 : Int32) := by decide
theorem tw_602 : Cond.methodLink "SootQueen" 98 ⟨"SootQueen", "append", "(I)V"⟩ ∈ lw_tbl := List.mem_append_right _ (List.mem_of_getElem? (i := 602) (by decide +kernel))
theorem tw_605 : Cond.code ⟨"SootQueen", "append", "(I)V"⟩ prog_1_method_29_code 3 none ∈ lw_tbl := List.mem_append_right _ (List.mem_of_getElem? (i := 605) (by decide +kernel))
theorem tw_1 : Cond.initialized "SootQueen" ∈ lw_tbl := List.mem_append_right _ (List.mem_of_getElem? (i := 1) (by decide +kernel))
theorem tw_604 : Cond.instanceMethod ⟨"SootQueen", "append", "(I)V"⟩ ∈ lw_tbl := List.mem_append_right _ (List.mem_of_getElem? (i := 604) (by decide +kernel))
theorem sw_5 : Cond.selects "SootQueen" ⟨"SootQueen", "append", "(I)V"⟩ ⟨"SootQueen", "append", "(I)V"⟩ ∈ lw_tbl := List.mem_append_left _ (List.mem_of_getElem? (i := 5) (by decide +kernel))
theorem cw_X11_98 : mm_CV RX11 98 MX11_append 11 1 := ⟨⟨Or.inl tw_602, tw_605, tw_1, ⟨by decide, by decide⟩, by decide +kernel, by decide⟩, tw_604, by decide, (RX11, TX11, 19), rfl, sw_5⟩
theorem tw_556 : Cond.fieldLink "SootQueen" 88 "SootQueen" "faultPlace" "I" ∈ lw_tbl := List.mem_append_right _ (List.mem_of_getElem? (i := 556) (by decide +kernel))
theorem fl_X11_88 : mm_FL RX11 88 11 16 19 := ⟨(RX11, TX11, 19), rfl, rfl, by decide, by decide, Or.inl tw_556⟩
theorem tw_558 : Cond.fieldLink "SootQueen" 144 "SootQueen" "refusedDraws" "I" ∈ lw_tbl := List.mem_append_right _ (List.mem_of_getElem? (i := 558) (by decide +kernel))
theorem fl_X11_144 : mm_FL RX11 144 11 18 19 := ⟨(RX11, TX11, 19), rfl, rfl, by decide, by decide, Or.inl tw_558⟩
theorem fp_X11_144 : mm_FP RX11 144 11 18 19 .int := ⟨fl_X11_144, (RX11, TX11, 19), rfl, rfl, by decide +kernel⟩
theorem tw_546 : Cond.fieldLink "SootQueen" 45 "SootQueen" "game" "LSootQueen$Game;" ∈ lw_tbl := List.mem_append_right _ (List.mem_of_getElem? (i := 546) (by decide +kernel))
theorem fl_X11_45 : mm_FL RX11 45 11 6 19 := ⟨(RX11, TX11, 19), rfl, rfl, by decide, by decide, Or.inl tw_546⟩
theorem tw_614 : Cond.methodLink "SootQueen" 124 ⟨"SootQueen$Game", "over", "()Z"⟩ ∈ lw_tbl := List.mem_append_right _ (List.mem_of_getElem? (i := 614) (by decide +kernel))
theorem cw_X11_124 : mm_CV RX11 124 MX4_over 4 0 := ⟨⟨Or.inl tw_614, tw_617, tw_9, ⟨by decide, by decide⟩, by decide +kernel, by decide⟩, tw_615, by decide, (RX4, TX4, 12), rfl, tw_616⟩
theorem tw_297 : Cond.fieldLinkNest "SootQueen" 128 "SootQueen$Game" "turn" "I" "SootQueen" ∈ lw_tbl := List.mem_append_right _ (List.mem_of_getElem? (i := 297) (by decide +kernel))
theorem fl_X11_128 : mm_FL RX11 128 4 10 12 := ⟨(RX4, TX4, 12), rfl, rfl, by decide, by decide, Or.inr ⟨_, tw_297⟩⟩
theorem tw_618 : Cond.methodLink "SootQueen" 179 ⟨"SootQueen$Game", "source", "(I)I"⟩ ∈ lw_tbl := List.mem_append_right _ (List.mem_of_getElem? (i := 618) (by decide +kernel))
theorem cw_X11_179 : mm_CV RX11 179 MX4_source 4 1 := ⟨⟨Or.inl tw_618, tw_621, tw_9, ⟨by decide, by decide⟩, by decide +kernel, by decide⟩, tw_619, by decide, (RX4, TX4, 12), rfl, tw_620⟩
theorem tw_622 : Cond.methodLink "SootQueen" 153 ⟨"SootQueen$Game", "fanAt", "(I)LSootQueen$Fan;"⟩ ∈ lw_tbl := List.mem_append_right _ (List.mem_of_getElem? (i := 622) (by decide +kernel))
theorem cw_X11_153 : mm_CV RX11 153 MX4_fanAt 4 1 := ⟨⟨Or.inl tw_622, tw_499, tw_9, ⟨by decide, by decide⟩, by decide +kernel, by decide⟩, tw_497, by decide, (RX4, TX4, 12), rfl, tw_498⟩
theorem tw_623 : Cond.methodLink "SootQueen" 160 ⟨"SootQueen$Fan", "hasPlace", "(I)Z"⟩ ∈ lw_tbl := List.mem_append_right _ (List.mem_of_getElem? (i := 623) (by decide +kernel))
theorem tw_626 : Cond.code ⟨"SootQueen$Fan", "hasPlace", "(I)Z"⟩ prog_5_method_2_code 2 (some .boolean) ∈ lw_tbl := List.mem_append_right _ (List.mem_of_getElem? (i := 626) (by decide +kernel))
theorem tw_624 : Cond.instanceMethod ⟨"SootQueen$Fan", "hasPlace", "(I)Z"⟩ ∈ lw_tbl := List.mem_append_right _ (List.mem_of_getElem? (i := 624) (by decide +kernel))
theorem tw_625 : Cond.selects "SootQueen$Fan" ⟨"SootQueen$Fan", "hasPlace", "(I)Z"⟩ ⟨"SootQueen$Fan", "hasPlace", "(I)Z"⟩ ∈ lw_tbl := List.mem_append_right _ (List.mem_of_getElem? (i := 625) (by decide +kernel))
theorem cw_X11_160 : mm_CV RX11 160 MX3_hasPlace 3 1 := ⟨⟨Or.inl tw_623, tw_626, tw_3, ⟨by decide, by decide⟩, by decide +kernel, by decide⟩, tw_624, by decide, (RX3, TX3, 2), rfl, tw_625⟩
theorem tw_544 : Cond.fieldLink "SootQueen" 35 "SootQueen" "log" "LSootQueen$Log;" ∈ lw_tbl := List.mem_append_right _ (List.mem_of_getElem? (i := 544) (by decide +kernel))
theorem fl_X11_35 : mm_FL RX11 35 11 4 19 := ⟨(RX11, TX11, 19), rfl, rfl, by decide, by decide, Or.inl tw_544⟩
theorem tw_627 : Cond.methodLink "SootQueen" 185 ⟨"SootQueen$Log", "fresh", "()LSootQueen$Draw;"⟩ ∈ lw_tbl := List.mem_append_right _ (List.mem_of_getElem? (i := 627) (by decide +kernel))
theorem tw_630 : Cond.code ⟨"SootQueen$Log", "fresh", "()LSootQueen$Draw;"⟩ prog_7_method_2_code 1 (some (.object "SootQueen$Draw")) ∈ lw_tbl := List.mem_append_right _ (List.mem_of_getElem? (i := 630) (by decide +kernel))
theorem tw_628 : Cond.instanceMethod ⟨"SootQueen$Log", "fresh", "()LSootQueen$Draw;"⟩ ∈ lw_tbl := List.mem_append_right _ (List.mem_of_getElem? (i := 628) (by decide +kernel))
theorem tw_629 : Cond.selects "SootQueen$Log" ⟨"SootQueen$Log", "fresh", "()LSootQueen$Draw;"⟩ ⟨"SootQueen$Log", "fresh", "()LSootQueen$Draw;"⟩ ∈ lw_tbl := List.mem_append_right _ (List.mem_of_getElem? (i := 629) (by decide +kernel))
theorem cw_X11_185 : mm_CV RX11 185 MX5_fresh 5 0 := ⟨⟨Or.inl tw_627, tw_630, tw_7, ⟨by decide, by decide⟩, by decide +kernel, by decide⟩, tw_628, by decide, (RX5, TX5, 4), rfl, tw_629⟩
theorem tw_635 : Cond.methodLink "SootQueen" 189 ⟨"SootQueen$Game", "step", "(ILSootQueen$Draw;)V"⟩ ∈ lw_tbl := List.mem_append_right _ (List.mem_of_getElem? (i := 635) (by decide +kernel))
theorem cw_X11_189 : mm_CV RX11 189 MX4_step 4 2 := ⟨⟨Or.inl tw_635, tw_638, tw_9, ⟨by decide, by decide⟩, by decide +kernel, by decide⟩, tw_636, by decide, (RX4, TX4, 12), rfl, tw_637⟩
theorem tw_236 : Cond.fieldLinkNest "SootQueen" 193 "SootQueen$Draw" "aside" "Z" "SootQueen" ∈ lw_tbl := List.mem_append_right _ (List.mem_of_getElem? (i := 236) (by decide +kernel))
theorem fl_X11_193 : mm_FL RX11 193 2 6 9 := ⟨(RX2, TX2, 9), rfl, rfl, by decide, by decide, Or.inr ⟨_, tw_236⟩⟩
theorem tw_231 : Cond.fieldLinkNest "SootQueen" 197 "SootQueen$Draw" "card" "I" "SootQueen" ∈ lw_tbl := List.mem_append_right _ (List.mem_of_getElem? (i := 231) (by decide +kernel))
theorem fl_X11_197 : mm_FL RX11 197 2 5 9 := ⟨(RX2, TX2, 9), rfl, rfl, by decide, by decide, Or.inr ⟨_, tw_231⟩⟩
theorem kb_100 : (Int8.ofInt (100)).toInt32 = (100 : Int32) := by decide
theorem tw_266 : Cond.fieldLinkNest "SootQueen" 134 "SootQueen$Log" "size" "I" "SootQueen" ∈ lw_tbl := List.mem_append_right _ (List.mem_of_getElem? (i := 266) (by decide +kernel))
theorem fl_X11_134 : mm_FL RX11 134 5 3 4 := ⟨(RX5, TX5, 4), rfl, rfl, by decide, by decide, Or.inr ⟨_, tw_266⟩⟩
theorem tw_685 : Cond.methodLink "SootQueen" 205 ⟨"SootQueen$Log", "at", "(I)LSootQueen$Draw;"⟩ ∈ lw_tbl := List.mem_append_right _ (List.mem_of_getElem? (i := 685) (by decide +kernel))
theorem cw_X11_205 : mm_CV RX11 205 MX5_at 5 1 := ⟨⟨Or.inl tw_685, tw_634, tw_7, ⟨by decide, by decide⟩, by decide +kernel, by decide⟩, tw_632, by decide, (RX5, TX5, 4), rfl, tw_633⟩
theorem tw_686 : Cond.methodLink "SootQueen" 209 ⟨"SootQueen$Game", "takeBack", "(LSootQueen$Draw;)V"⟩ ∈ lw_tbl := List.mem_append_right _ (List.mem_of_getElem? (i := 686) (by decide +kernel))
theorem tw_689 : Cond.code ⟨"SootQueen$Game", "takeBack", "(LSootQueen$Draw;)V"⟩ prog_6_method_25_code 3 none ∈ lw_tbl := List.mem_append_right _ (List.mem_of_getElem? (i := 689) (by decide +kernel))
theorem tw_687 : Cond.instanceMethod ⟨"SootQueen$Game", "takeBack", "(LSootQueen$Draw;)V"⟩ ∈ lw_tbl := List.mem_append_right _ (List.mem_of_getElem? (i := 687) (by decide +kernel))
theorem tw_688 : Cond.selects "SootQueen$Game" ⟨"SootQueen$Game", "takeBack", "(LSootQueen$Draw;)V"⟩ ⟨"SootQueen$Game", "takeBack", "(LSootQueen$Draw;)V"⟩ ∈ lw_tbl := List.mem_append_right _ (List.mem_of_getElem? (i := 688) (by decide +kernel))
theorem cw_X11_209 : mm_CV RX11 209 MX4_takeBack 4 1 := ⟨⟨Or.inl tw_686, tw_689, tw_9, ⟨by decide, by decide⟩, by decide +kernel, by decide⟩, tw_687, by decide, (RX4, TX4, 12), rfl, tw_688⟩
theorem tw_690 : Cond.methodLink "SootQueen" 213 ⟨"SootQueen$Log", "dropLast", "()V"⟩ ∈ lw_tbl := List.mem_append_right _ (List.mem_of_getElem? (i := 690) (by decide +kernel))
theorem tw_693 : Cond.code ⟨"SootQueen$Log", "dropLast", "()V"⟩ prog_7_method_4_code 1 none ∈ lw_tbl := List.mem_append_right _ (List.mem_of_getElem? (i := 693) (by decide +kernel))
theorem tw_691 : Cond.instanceMethod ⟨"SootQueen$Log", "dropLast", "()V"⟩ ∈ lw_tbl := List.mem_append_right _ (List.mem_of_getElem? (i := 691) (by decide +kernel))
theorem tw_692 : Cond.selects "SootQueen$Log" ⟨"SootQueen$Log", "dropLast", "()V"⟩ ⟨"SootQueen$Log", "dropLast", "()V"⟩ ∈ lw_tbl := List.mem_append_right _ (List.mem_of_getElem? (i := 692) (by decide +kernel))
theorem cw_X11_213 : mm_CV RX11 213 MX5_dropLast 5 0 := ⟨⟨Or.inl tw_690, tw_693, tw_7, ⟨by decide, by decide⟩, by decide +kernel, by decide⟩, tw_691, by decide, (RX5, TX5, 4), rfl, tw_692⟩
theorem tw_548 : Cond.fieldLink "SootQueen" 52 "SootQueen" "imageGame" "LSootQueen$Game;" ∈ lw_tbl := List.mem_append_right _ (List.mem_of_getElem? (i := 548) (by decide +kernel))
theorem fl_X11_52 : mm_FL RX11 52 11 8 19 := ⟨(RX11, TX11, 19), rfl, rfl, by decide, by decide, Or.inl tw_548⟩
theorem tw_532 : Cond.methodLink "SootQueen" 330 ⟨"SootQueen$Game", "copyFrom", "(LSootQueen$Game;)V"⟩ ∈ lw_tbl := List.mem_append_right _ (List.mem_of_getElem? (i := 532) (by decide +kernel))
theorem cw_X11_330 : mm_CV RX11 330 MX4_copyFrom 4 1 := ⟨⟨Or.inl tw_532, tw_535, tw_9, ⟨by decide, by decide⟩, by decide +kernel, by decide⟩, tw_533, by decide, (RX4, TX4, 12), rfl, tw_534⟩
theorem tw_545 : Cond.fieldLink "SootQueen" 39 "SootQueen" "imageLog" "LSootQueen$Log;" ∈ lw_tbl := List.mem_append_right _ (List.mem_of_getElem? (i := 545) (by decide +kernel))
theorem fl_X11_39 : mm_FL RX11 39 11 5 19 := ⟨(RX11, TX11, 19), rfl, rfl, by decide, by decide, Or.inl tw_545⟩
theorem tw_698 : Cond.methodLink "SootQueen" 334 ⟨"SootQueen$Log", "copyFrom", "(LSootQueen$Log;)V"⟩ ∈ lw_tbl := List.mem_append_right _ (List.mem_of_getElem? (i := 698) (by decide +kernel))
theorem tw_701 : Cond.code ⟨"SootQueen$Log", "copyFrom", "(LSootQueen$Log;)V"⟩ prog_7_method_6_code 3 none ∈ lw_tbl := List.mem_append_right _ (List.mem_of_getElem? (i := 701) (by decide +kernel))
theorem tw_699 : Cond.instanceMethod ⟨"SootQueen$Log", "copyFrom", "(LSootQueen$Log;)V"⟩ ∈ lw_tbl := List.mem_append_right _ (List.mem_of_getElem? (i := 699) (by decide +kernel))
theorem tw_700 : Cond.selects "SootQueen$Log" ⟨"SootQueen$Log", "copyFrom", "(LSootQueen$Log;)V"⟩ ⟨"SootQueen$Log", "copyFrom", "(LSootQueen$Log;)V"⟩ ∈ lw_tbl := List.mem_append_right _ (List.mem_of_getElem? (i := 700) (by decide +kernel))
theorem cw_X11_334 : mm_CV RX11 334 MX5_copyFrom 5 1 := ⟨⟨Or.inl tw_698, tw_701, tw_7, ⟨by decide, by decide⟩, by decide +kernel, by decide⟩, tw_699, by decide, (RX5, TX5, 4), rfl, tw_700⟩
theorem tw_554 : Cond.fieldLink "SootQueen" 336 "SootQueen" "imaged" "Z" ∈ lw_tbl := List.mem_append_right _ (List.mem_of_getElem? (i := 554) (by decide +kernel))
theorem fl_X11_336 : mm_FL RX11 336 11 14 19 := ⟨(RX11, TX11, 19), rfl, rfl, by decide, by decide, Or.inl tw_554⟩
theorem fp_X11_336 : mm_FP RX11 336 11 14 19 .boolean := ⟨fl_X11_336, (RX11, TX11, 19), rfl, rfl, by decide +kernel⟩
theorem tw_547 : Cond.fieldLink "SootQueen" 49 "SootQueen" "beginning" "LSootQueen$Game;" ∈ lw_tbl := List.mem_append_right _ (List.mem_of_getElem? (i := 547) (by decide +kernel))
theorem fl_X11_49 : mm_FL RX11 49 11 7 19 := ⟨(RX11, TX11, 19), rfl, rfl, by decide, by decide, Or.inl tw_547⟩
theorem tw_536 : Cond.methodLink "SootQueen" 345 ⟨"SootQueen$Log", "clear", "()V"⟩ ∈ lw_tbl := List.mem_append_right _ (List.mem_of_getElem? (i := 536) (by decide +kernel))
theorem tw_539 : Cond.code ⟨"SootQueen$Log", "clear", "()V"⟩ prog_7_method_5_code 1 none ∈ lw_tbl := List.mem_append_right _ (List.mem_of_getElem? (i := 539) (by decide +kernel))
theorem tw_537 : Cond.instanceMethod ⟨"SootQueen$Log", "clear", "()V"⟩ ∈ lw_tbl := List.mem_append_right _ (List.mem_of_getElem? (i := 537) (by decide +kernel))
theorem tw_538 : Cond.selects "SootQueen$Log" ⟨"SootQueen$Log", "clear", "()V"⟩ ⟨"SootQueen$Log", "clear", "()V"⟩ ∈ lw_tbl := List.mem_append_right _ (List.mem_of_getElem? (i := 538) (by decide +kernel))
theorem cw_X11_345 : mm_CV RX11 345 MX5_clear 5 0 := ⟨⟨Or.inl tw_536, tw_539, tw_7, ⟨by decide, by decide⟩, by decide +kernel, by decide⟩, tw_537, by decide, (RX5, TX5, 4), rfl, tw_538⟩
theorem tw_541 : Cond.fieldLink "SootQueen" 16 "SootQueen" "told" "LSootQueen$Told;" ∈ lw_tbl := List.mem_append_right _ (List.mem_of_getElem? (i := 541) (by decide +kernel))
theorem fl_X11_16 : mm_FL RX11 16 11 1 19 := ⟨(RX11, TX11, 19), rfl, rfl, by decide, by decide, Or.inl tw_541⟩
theorem tw_475 : Cond.methodLink "SootQueen" 296 ⟨"SootQueen$Game", "open", "(LSootQueen$Told;IZ)V"⟩ ∈ lw_tbl := List.mem_append_right _ (List.mem_of_getElem? (i := 475) (by decide +kernel))
theorem cw_X11_296 : mm_CV RX11 296 MX4_open 4 3 := ⟨⟨Or.inl tw_475, tw_478, tw_9, ⟨by decide, by decide⟩, by decide +kernel, by decide⟩, tw_476, by decide, (RX4, TX4, 12), rfl, tw_477⟩
theorem tw_90 : Cond.fieldLinkNest "SootQueen" 339 "SootQueen$Told" "fansTold" "Z" "SootQueen" ∈ lw_tbl := List.mem_append_right _ (List.mem_of_getElem? (i := 90) (by decide +kernel))
theorem fl_X11_339 : mm_FL RX11 339 10 10 11 := ⟨(RX10, TX10, 11), rfl, rfl, by decide, by decide, Or.inr ⟨_, tw_90⟩⟩
theorem tw_84 : Cond.fieldLinkNest "SootQueen" 121 "SootQueen$Told" "seed" "I" "SootQueen" ∈ lw_tbl := List.mem_append_right _ (List.mem_of_getElem? (i := 84) (by decide +kernel))
theorem fl_X11_121 : mm_FL RX11 121 10 8 11 := ⟨(RX10, TX10, 11), rfl, rfl, by decide, by decide, Or.inr ⟨_, tw_84⟩⟩
theorem tw_504 : Cond.methodLink "SootQueen" 300 ⟨"SootQueen$Game", "deal", "(I)V"⟩ ∈ lw_tbl := List.mem_append_right _ (List.mem_of_getElem? (i := 504) (by decide +kernel))
theorem tw_507 : Cond.code ⟨"SootQueen$Game", "deal", "(I)V"⟩ prog_6_method_4_code 6 none ∈ lw_tbl := List.mem_append_right _ (List.mem_of_getElem? (i := 507) (by decide +kernel))
theorem tw_505 : Cond.instanceMethod ⟨"SootQueen$Game", "deal", "(I)V"⟩ ∈ lw_tbl := List.mem_append_right _ (List.mem_of_getElem? (i := 505) (by decide +kernel))
theorem tw_506 : Cond.selects "SootQueen$Game" ⟨"SootQueen$Game", "deal", "(I)V"⟩ ⟨"SootQueen$Game", "deal", "(I)V"⟩ ∈ lw_tbl := List.mem_append_right _ (List.mem_of_getElem? (i := 506) (by decide +kernel))
theorem cw_X11_300 : mm_CV RX11 300 MX4_deal 4 1 := ⟨⟨Or.inl tw_504, tw_507, tw_9, ⟨by decide, by decide⟩, by decide +kernel, by decide⟩, tw_505, by decide, (RX4, TX4, 12), rfl, tw_506⟩
theorem tw_480 : Cond.methodLink "SootQueen" 342 ⟨"SootQueen$Game", "takeTold", "()V"⟩ ∈ lw_tbl := List.mem_append_right _ (List.mem_of_getElem? (i := 480) (by decide +kernel))
theorem tw_483 : Cond.code ⟨"SootQueen$Game", "takeTold", "()V"⟩ prog_6_method_3_code 2 none ∈ lw_tbl := List.mem_append_right _ (List.mem_of_getElem? (i := 483) (by decide +kernel))
theorem tw_481 : Cond.instanceMethod ⟨"SootQueen$Game", "takeTold", "()V"⟩ ∈ lw_tbl := List.mem_append_right _ (List.mem_of_getElem? (i := 481) (by decide +kernel))
theorem tw_482 : Cond.selects "SootQueen$Game" ⟨"SootQueen$Game", "takeTold", "()V"⟩ ⟨"SootQueen$Game", "takeTold", "()V"⟩ ∈ lw_tbl := List.mem_append_right _ (List.mem_of_getElem? (i := 482) (by decide +kernel))
theorem cw_X11_342 : mm_CV RX11 342 MX4_takeTold 4 0 := ⟨⟨Or.inl tw_480, tw_483, tw_9, ⟨by decide, by decide⟩, by decide +kernel, by decide⟩, tw_481, by decide, (RX4, TX4, 12), rfl, tw_482⟩
theorem tw_76 : Cond.fieldLinkNest "SootQueen" 115 "SootQueen$Told" "people" "I" "SootQueen" ∈ lw_tbl := List.mem_append_right _ (List.mem_of_getElem? (i := 76) (by decide +kernel))
theorem fl_X11_115 : mm_FL RX11 115 10 6 11 := ⟨(RX10, TX10, 11), rfl, rfl, by decide, by decide, Or.inr ⟨_, tw_76⟩⟩
theorem tw_549 : Cond.fieldLink "SootQueen" 55 "SootQueen" "trial" "LSootQueen$Game;" ∈ lw_tbl := List.mem_append_right _ (List.mem_of_getElem? (i := 549) (by decide +kernel))
theorem fl_X11_55 : mm_FL RX11 55 11 9 19 := ⟨(RX11, TX11, 19), rfl, rfl, by decide, by decide, Or.inl tw_549⟩
theorem tw_551 : Cond.fieldLink "SootQueen" 68 "SootQueen" "played" "LSootQueen$Played;" ∈ lw_tbl := List.mem_append_right _ (List.mem_of_getElem? (i := 551) (by decide +kernel))
theorem fl_X11_68 : mm_FL RX11 68 11 11 19 := ⟨(RX11, TX11, 19), rfl, rfl, by decide, by decide, Or.inl tw_551⟩
theorem tw_1083 : Cond.methodLink "SootQueen" 348 ⟨"SootQueen$Played", "watch", "(LSootQueen$Game;)V"⟩ ∈ lw_tbl := List.mem_append_right _ (List.mem_of_getElem? (i := 1083) (by decide +kernel))
theorem cw_X11_348 : mm_CV RX11 348 MX7_watch 7 1 := ⟨⟨Or.inl tw_1083, tw_1086, tw_10, ⟨by decide, by decide⟩, by decide +kernel, by decide⟩, tw_1084, by decide, (RX7, TX7, 8), rfl, tw_1085⟩
theorem tw_550 : Cond.fieldLink "SootQueen" 61 "SootQueen" "trialDraw" "LSootQueen$Draw;" ∈ lw_tbl := List.mem_append_right _ (List.mem_of_getElem? (i := 550) (by decide +kernel))
theorem fl_X11_61 : mm_FL RX11 61 11 10 19 := ⟨(RX11, TX11, 19), rfl, rfl, by decide, by decide, Or.inl tw_550⟩
theorem tw_342 : Cond.fieldLinkNest "SootQueen" 219 "SootQueen$Played" "loser" "I" "SootQueen" ∈ lw_tbl := List.mem_append_right _ (List.mem_of_getElem? (i := 342) (by decide +kernel))
theorem fl_X11_219 : mm_FL RX11 219 7 4 8 := ⟨(RX7, TX7, 8), rfl, rfl, by decide, by decide, Or.inr ⟨_, tw_342⟩⟩
theorem tw_299 : Cond.fieldLinkNest "SootQueen" 131 "SootQueen$Game" "done" "I" "SootQueen" ∈ lw_tbl := List.mem_append_right _ (List.mem_of_getElem? (i := 299) (by decide +kernel))
theorem fl_X11_131 : mm_FL RX11 131 4 11 12 := ⟨(RX4, TX4, 12), rfl, rfl, by decide, by decide, Or.inr ⟨_, tw_299⟩⟩
theorem tw_553 : Cond.fieldLink "SootQueen" 84 "SootQueen" "beliefs" "LSootQueen$Belief;" ∈ lw_tbl := List.mem_append_right _ (List.mem_of_getElem? (i := 553) (by decide +kernel))
theorem fl_X11_84 : mm_FL RX11 84 11 13 19 := ⟨(RX11, TX11, 19), rfl, rfl, by decide, by decide, Or.inl tw_553⟩
theorem tw_1168 : Cond.methodLink "SootQueen" 351 ⟨"SootQueen$Belief", "weigh", "(LSootQueen$Game;LSootQueen$Log;II)Z"⟩ ∈ lw_tbl := List.mem_append_right _ (List.mem_of_getElem? (i := 1168) (by decide +kernel))
theorem tw_1171 : Cond.code ⟨"SootQueen$Belief", "weigh", "(LSootQueen$Game;LSootQueen$Log;II)Z"⟩ prog_2_method_2_code 6 (some .boolean) ∈ lw_tbl := List.mem_append_right _ (List.mem_of_getElem? (i := 1171) (by decide +kernel))
theorem tw_1169 : Cond.instanceMethod ⟨"SootQueen$Belief", "weigh", "(LSootQueen$Game;LSootQueen$Log;II)Z"⟩ ∈ lw_tbl := List.mem_append_right _ (List.mem_of_getElem? (i := 1169) (by decide +kernel))
theorem tw_1170 : Cond.selects "SootQueen$Belief" ⟨"SootQueen$Belief", "weigh", "(LSootQueen$Game;LSootQueen$Log;II)Z"⟩ ⟨"SootQueen$Belief", "weigh", "(LSootQueen$Game;LSootQueen$Log;II)Z"⟩ ∈ lw_tbl := List.mem_append_right _ (List.mem_of_getElem? (i := 1170) (by decide +kernel))
theorem cw_X11_351 : mm_CV RX11 351 MX0_weigh 0 4 := ⟨⟨Or.inl tw_1168, tw_1171, tw_12, ⟨by decide, by decide⟩, by decide +kernel, by decide⟩, tw_1169, by decide, (RX0, TX0, 13), rfl, tw_1170⟩
theorem tw_214 : Cond.fieldLinkNest "SootQueen" 271 "SootQueen$Draw" "drawer" "I" "SootQueen" ∈ lw_tbl := List.mem_append_right _ (List.mem_of_getElem? (i := 214) (by decide +kernel))
theorem fl_X11_271 : mm_FL RX11 271 2 0 9 := ⟨(RX2, TX2, 9), rfl, rfl, by decide, by decide, Or.inr ⟨_, tw_214⟩⟩
theorem tw_223 : Cond.fieldLinkNest "SootQueen" 355 "SootQueen$Draw" "place" "I" "SootQueen" ∈ lw_tbl := List.mem_append_right _ (List.mem_of_getElem? (i := 223) (by decide +kernel))
theorem fl_X11_355 : mm_FL RX11 355 2 2 9 := ⟨(RX2, TX2, 9), rfl, rfl, by decide, by decide, Or.inr ⟨_, tw_223⟩⟩
theorem tw_1335 : Cond.methodLink "SootQueen" 356 ⟨"java/lang/Math", "min", "(II)I"⟩ ∈ lw_tbl := List.mem_append_right _ (List.mem_of_getElem? (i := 1335) (by decide +kernel))
theorem cw_X11_356 : mm_CS RX11 356 MJ9_min_7cf53 2 := ⟨⟨Or.inl tw_1335, tw_510, tw_13, ⟨by decide, by decide⟩, by decide +kernel, by decide⟩, tw_509⟩
theorem tw_1331 : Cond.methodLink "SootQueen" 319 ⟨"SootQueen", "drawnAt", "(II)I"⟩ ∈ lw_tbl := List.mem_append_right _ (List.mem_of_getElem? (i := 1331) (by decide +kernel))
theorem tw_1334 : Cond.code ⟨"SootQueen", "drawnAt", "(II)I"⟩ prog_1_method_37_code 6 (some .int) ∈ lw_tbl := List.mem_append_right _ (List.mem_of_getElem? (i := 1334) (by decide +kernel))
theorem tw_1333 : Cond.instanceMethod ⟨"SootQueen", "drawnAt", "(II)I"⟩ ∈ lw_tbl := List.mem_append_right _ (List.mem_of_getElem? (i := 1333) (by decide +kernel))
theorem sw_50 : Cond.selects "SootQueen" ⟨"SootQueen", "drawnAt", "(II)I"⟩ ⟨"SootQueen", "drawnAt", "(II)I"⟩ ∈ lw_tbl := List.mem_append_left _ (List.mem_of_getElem? (i := 50) (by decide +kernel))
theorem cw_X11_319 : mm_CV RX11 319 MX11_drawnAt 11 2 := ⟨⟨Or.inl tw_1331, tw_1334, tw_1, ⟨by decide, by decide⟩, by decide +kernel, by decide⟩, tw_1333, by decide, (RX11, TX11, 19), rfl, sw_50⟩
theorem tw_1140 : Cond.methodLink "SootQueen" 247 ⟨"SootQueen", "lowest", "(JJZ)J"⟩ ∈ lw_tbl := List.mem_append_right _ (List.mem_of_getElem? (i := 1140) (by decide +kernel))
theorem tw_1142 : Cond.code ⟨"SootQueen", "lowest", "(JJZ)J"⟩ prog_1_method_41_code 12 (some .long) ∈ lw_tbl := List.mem_append_right _ (List.mem_of_getElem? (i := 1142) (by decide +kernel))
theorem tw_1141 : Cond.static ⟨"SootQueen", "lowest", "(JJZ)J"⟩ ∈ lw_tbl := List.mem_append_right _ (List.mem_of_getElem? (i := 1141) (by decide +kernel))
theorem cw_X11_247 : mm_CS RX11 247 MX11_lowest 3 := ⟨⟨Or.inl tw_1140, tw_1142, tw_1, ⟨by decide, by decide⟩, by decide +kernel, by decide⟩, tw_1141⟩
theorem tw_1156 : Cond.constantLong "SootQueen" 361 (3) ∈ lw_tbl := List.mem_append_right _ (List.mem_of_getElem? (i := 1156) (by decide +kernel))
theorem tw_1153 : Cond.methodLink "SootQueen" 255 ⟨"SootQueen", "twoWithout", "(IZ)J"⟩ ∈ lw_tbl := List.mem_append_right _ (List.mem_of_getElem? (i := 1153) (by decide +kernel))
theorem tw_1155 : Cond.code ⟨"SootQueen", "twoWithout", "(IZ)J"⟩ prog_1_method_39_code 8 (some .long) ∈ lw_tbl := List.mem_append_right _ (List.mem_of_getElem? (i := 1155) (by decide +kernel))
theorem tw_1154 : Cond.static ⟨"SootQueen", "twoWithout", "(IZ)J"⟩ ∈ lw_tbl := List.mem_append_right _ (List.mem_of_getElem? (i := 1154) (by decide +kernel))
theorem cw_X11_255 : mm_CS RX11 255 MX11_twoWithout 2 := ⟨⟨Or.inl tw_1153, tw_1155, tw_1, ⟨by decide, by decide⟩, by decide +kernel, by decide⟩, tw_1154⟩
theorem tw_1402 : Cond.fieldLink "SootQueenModel" 152 "SootQueenModel" "thrown" "I" ∈ lw_tbl := List.mem_append_right _ (List.mem_of_getElem? (i := 1402) (by decide +kernel))
theorem fl_X12_152 : mm_FL RX12 152 12 0 75 := ⟨(RX12, TX12, 75), rfl, rfl, by decide, by decide, Or.inl tw_1402⟩
theorem fp_X12_152 : mm_FP RX12 152 12 0 75 .int := ⟨fl_X12_152, (RX12, TX12, 75), rfl, rfl, by decide +kernel⟩
theorem tw_1410 : Cond.fieldLink "SootQueenModel" 26 "SootQueenModel" "tape" "[I" ∈ lw_tbl := List.mem_append_right _ (List.mem_of_getElem? (i := 1410) (by decide +kernel))
theorem fl_X12_26 : mm_FL RX12 26 12 8 75 := ⟨(RX12, TX12, 75), rfl, rfl, by decide, by decide, Or.inl tw_1410⟩
theorem tw_1411 : Cond.fieldLink "SootQueenModel" 155 "SootQueenModel" "taped" "I" ∈ lw_tbl := List.mem_append_right _ (List.mem_of_getElem? (i := 1411) (by decide +kernel))
theorem fl_X12_155 : mm_FL RX12 155 12 9 75 := ⟨(RX12, TX12, 75), rfl, rfl, by decide, by decide, Or.inl tw_1411⟩
theorem fp_X12_155 : mm_FP RX12 155 12 9 75 .int := ⟨fl_X12_155, (RX12, TX12, 75), rfl, rfl, by decide +kernel⟩
theorem kb_20 : (Int8.ofInt (20)).toInt32 = (20 : Int32) := by decide
theorem tw_1637 : Cond.methodLink "SootQueenModel" 158 ⟨"SootQueenModel", "lays", "(I)V"⟩ ∈ lw_tbl := List.mem_append_right _ (List.mem_of_getElem? (i := 1637) (by decide +kernel))
theorem tw_1640 : Cond.code ⟨"SootQueenModel", "lays", "(I)V"⟩ prog_14_method_7_code 3 none ∈ lw_tbl := List.mem_append_right _ (List.mem_of_getElem? (i := 1640) (by decide +kernel))
theorem tw_14 : Cond.initialized "SootQueenModel" ∈ lw_tbl := List.mem_append_right _ (List.mem_of_getElem? (i := 14) (by decide +kernel))
theorem tw_1639 : Cond.instanceMethod ⟨"SootQueenModel", "lays", "(I)V"⟩ ∈ lw_tbl := List.mem_append_right _ (List.mem_of_getElem? (i := 1639) (by decide +kernel))
theorem sw_60 : Cond.selects "SootQueenModel" ⟨"SootQueenModel", "lays", "(I)V"⟩ ⟨"SootQueenModel", "lays", "(I)V"⟩ ∈ lw_tbl := List.mem_append_left _ (List.mem_of_getElem? (i := 60) (by decide +kernel))
theorem cw_X12_158 : mm_CV RX12 158 MX12_lays 12 1 := ⟨⟨Or.inl tw_1637, tw_1640, tw_14, ⟨by decide, by decide⟩, by decide +kernel, by decide⟩, tw_1639, by decide, (RX12, TX12, 75), rfl, sw_60⟩
theorem tw_1415 : Cond.fieldLink "SootQueenModel" 162 "SootQueenModel" "long1" "I" ∈ lw_tbl := List.mem_append_right _ (List.mem_of_getElem? (i := 1415) (by decide +kernel))
theorem fl_X12_162 : mm_FL RX12 162 12 13 75 := ⟨(RX12, TX12, 75), rfl, rfl, by decide, by decide, Or.inl tw_1415⟩
theorem tw_1416 : Cond.fieldLink "SootQueenModel" 165 "SootQueenModel" "next" "I" ∈ lw_tbl := List.mem_append_right _ (List.mem_of_getElem? (i := 1416) (by decide +kernel))
theorem fl_X12_165 : mm_FL RX12 165 12 14 75 := ⟨(RX12, TX12, 75), rfl, rfl, by decide, by decide, Or.inl tw_1416⟩
theorem tw_1418 : Cond.fieldLink "SootQueenModel" 172 "SootQueenModel" "place" "I" ∈ lw_tbl := List.mem_append_right _ (List.mem_of_getElem? (i := 1418) (by decide +kernel))
theorem fl_X12_172 : mm_FL RX12 172 12 16 75 := ⟨(RX12, TX12, 75), rfl, rfl, by decide, by decide, Or.inl tw_1418⟩
theorem tw_1419 : Cond.fieldLink "SootQueenModel" 195 "SootQueenModel" "long0" "I" ∈ lw_tbl := List.mem_append_right _ (List.mem_of_getElem? (i := 1419) (by decide +kernel))
theorem fl_X12_195 : mm_FL RX12 195 12 17 75 := ⟨(RX12, TX12, 75), rfl, rfl, by decide, by decide, Or.inl tw_1419⟩
theorem fp_X12_195 : mm_FP RX12 195 12 17 75 .int := ⟨fl_X12_195, (RX12, TX12, 75), rfl, rfl, by decide +kernel⟩
theorem tw_1417 : Cond.fieldLink "SootQueenModel" 185 "SootQueenModel" "sort" "I" ∈ lw_tbl := List.mem_append_right _ (List.mem_of_getElem? (i := 1417) (by decide +kernel))
theorem fl_X12_185 : mm_FL RX12 185 12 15 75 := ⟨(RX12, TX12, 75), rfl, rfl, by decide, by decide, Or.inl tw_1417⟩
theorem fp_X12_185 : mm_FP RX12 185 12 15 75 .int := ⟨fl_X12_185, (RX12, TX12, 75), rfl, rfl, by decide +kernel⟩
theorem fp_X12_165 : mm_FP RX12 165 12 14 75 .int := ⟨fl_X12_165, (RX12, TX12, 75), rfl, rfl, by decide +kernel⟩
theorem tw_1653 : Cond.methodLink "SootQueenModel" 168 ⟨"SootQueenModel", "byteAt", "(I)I"⟩ ∈ lw_tbl := List.mem_append_right _ (List.mem_of_getElem? (i := 1653) (by decide +kernel))
theorem tw_1656 : Cond.code ⟨"SootQueenModel", "byteAt", "(I)I"⟩ prog_14_method_8_code 2 (some .int) ∈ lw_tbl := List.mem_append_right _ (List.mem_of_getElem? (i := 1656) (by decide +kernel))
theorem tw_1655 : Cond.instanceMethod ⟨"SootQueenModel", "byteAt", "(I)I"⟩ ∈ lw_tbl := List.mem_append_right _ (List.mem_of_getElem? (i := 1655) (by decide +kernel))
theorem sw_63 : Cond.selects "SootQueenModel" ⟨"SootQueenModel", "byteAt", "(I)I"⟩ ⟨"SootQueenModel", "byteAt", "(I)I"⟩ ∈ lw_tbl := List.mem_append_left _ (List.mem_of_getElem? (i := 63) (by decide +kernel))
theorem cw_X12_168 : mm_CV RX12 168 MX12_byteAt 12 1 := ⟨⟨Or.inl tw_1653, tw_1656, tw_14, ⟨by decide, by decide⟩, by decide +kernel, by decide⟩, tw_1655, by decide, (RX12, TX12, 75), rfl, sw_63⟩
theorem tw_1660 : Cond.methodLink "SootQueenModel" 192 ⟨"SootQueenModel", "isDigit", "(I)Z"⟩ ∈ lw_tbl := List.mem_append_right _ (List.mem_of_getElem? (i := 1660) (by decide +kernel))
theorem tw_1662 : Cond.code ⟨"SootQueenModel", "isDigit", "(I)Z"⟩ prog_14_method_10_code 1 (some .boolean) ∈ lw_tbl := List.mem_append_right _ (List.mem_of_getElem? (i := 1662) (by decide +kernel))
theorem tw_1661 : Cond.static ⟨"SootQueenModel", "isDigit", "(I)Z"⟩ ∈ lw_tbl := List.mem_append_right _ (List.mem_of_getElem? (i := 1661) (by decide +kernel))
theorem cw_X12_192 : mm_CS RX12 192 MX12_isDigit 1 := ⟨⟨Or.inl tw_1660, tw_1662, tw_14, ⟨by decide, by decide⟩, by decide +kernel, by decide⟩, tw_1661⟩
theorem tw_1420 : Cond.fieldLink "SootQueenModel" 179 "SootQueenModel" "value" "I" ∈ lw_tbl := List.mem_append_right _ (List.mem_of_getElem? (i := 1420) (by decide +kernel))
theorem fl_X12_179 : mm_FL RX12 179 12 18 75 := ⟨(RX12, TX12, 75), rfl, rfl, by decide, by decide, Or.inl tw_1420⟩
theorem fp_X12_179 : mm_FP RX12 179 12 18 75 .int := ⟨fl_X12_179, (RX12, TX12, 75), rfl, rfl, by decide +kernel⟩
theorem tw_1657 : Cond.methodLink "SootQueenModel" 188 ⟨"SootQueenModel", "isLetter", "(I)Z"⟩ ∈ lw_tbl := List.mem_append_right _ (List.mem_of_getElem? (i := 1657) (by decide +kernel))
theorem tw_1659 : Cond.code ⟨"SootQueenModel", "isLetter", "(I)Z"⟩ prog_14_method_9_code 1 (some .boolean) ∈ lw_tbl := List.mem_append_right _ (List.mem_of_getElem? (i := 1659) (by decide +kernel))
theorem tw_1658 : Cond.static ⟨"SootQueenModel", "isLetter", "(I)Z"⟩ ∈ lw_tbl := List.mem_append_right _ (List.mem_of_getElem? (i := 1658) (by decide +kernel))
theorem cw_X12_188 : mm_CS RX12 188 MX12_isLetter 1 := ⟨⟨Or.inl tw_1657, tw_1659, tw_14, ⟨by decide, by decide⟩, by decide +kernel, by decide⟩, tw_1658⟩
theorem tw_1422 : Cond.fieldLink "SootQueenModel" 175 "SootQueenModel" "word" "J" ∈ lw_tbl := List.mem_append_right _ (List.mem_of_getElem? (i := 1422) (by decide +kernel))
theorem fl_X12_175 : mm_FL RX12 175 12 20 75 := ⟨(RX12, TX12, 75), rfl, rfl, by decide, by decide, Or.inl tw_1422⟩
theorem kb_96 : (Int8.ofInt (96)).toInt32 = (96 : Int32) := by decide
theorem fp_X12_175 : mm_FP RX12 175 12 20 75 .long := ⟨fl_X12_175, (RX12, TX12, 75), rfl, rfl, by decide +kernel⟩
theorem fp_X12_172 : mm_FP RX12 172 12 16 75 .int := ⟨fl_X12_172, (RX12, TX12, 75), rfl, rfl, by decide +kernel⟩
theorem tw_1421 : Cond.fieldLink "SootQueenModel" 182 "SootQueenModel" "sign" "I" ∈ lw_tbl := List.mem_append_right _ (List.mem_of_getElem? (i := 1421) (by decide +kernel))
theorem fl_X12_182 : mm_FL RX12 182 12 19 75 := ⟨(RX12, TX12, 75), rfl, rfl, by decide, by decide, Or.inl tw_1421⟩
theorem fp_X12_182 : mm_FP RX12 182 12 19 75 .int := ⟨fl_X12_182, (RX12, TX12, 75), rfl, rfl, by decide +kernel⟩
theorem kb_43 : (Int8.ofInt (43)).toInt32 = (43 : Int32) := by decide
theorem kb_45 : (Int8.ofInt (45)).toInt32 = (45 : Int32) := by decide
theorem kb_42 : (Int8.ofInt (42)).toInt32 = (42 : Int32) := by decide
theorem kb_47 : (Int8.ofInt (47)).toInt32 = (47 : Int32) := by decide
theorem kb_61 : (Int8.ofInt (61)).toInt32 = (61 : Int32) := by decide
theorem tw_1681 : Cond.constantLong "SootQueenModel" 198 (96) ∈ lw_tbl := List.mem_append_right _ (List.mem_of_getElem? (i := 1681) (by decide +kernel))
theorem kb_115 : (Int8.ofInt (115)).toInt32 = (115 : Int32) := by decide
theorem kb_105 : (Int8.ofInt (105)).toInt32 = (105 : Int32) := by decide
theorem kb_101 : (Int8.ofInt (101)).toInt32 = (101 : Int32) := by decide
theorem tw_1678 : Cond.methodLink "SootQueenModel" 200 ⟨"SootQueenModel", "spelled", "(IIIIII)J"⟩ ∈ lw_tbl := List.mem_append_right _ (List.mem_of_getElem? (i := 1678) (by decide +kernel))
theorem tw_1680 : Cond.code ⟨"SootQueenModel", "spelled", "(IIIIII)J"⟩ prog_14_method_12_code 8 (some .long) ∈ lw_tbl := List.mem_append_right _ (List.mem_of_getElem? (i := 1680) (by decide +kernel))
theorem tw_1679 : Cond.static ⟨"SootQueenModel", "spelled", "(IIIIII)J"⟩ ∈ lw_tbl := List.mem_append_right _ (List.mem_of_getElem? (i := 1679) (by decide +kernel))
theorem cw_X12_200 : mm_CS RX12 200 MX12_spelled 6 := ⟨⟨Or.inl tw_1678, tw_1680, tw_14, ⟨by decide, by decide⟩, by decide +kernel, by decide⟩, tw_1679⟩
theorem kb_111 : (Int8.ofInt (111)).toInt32 = (111 : Int32) := by decide
theorem kb_119 : (Int8.ofInt (119)).toInt32 = (119 : Int32) := by decide
theorem kb_110 : (Int8.ofInt (110)).toInt32 = (110 : Int32) := by decide
theorem kb_116 : (Int8.ofInt (116)).toInt32 = (116 : Int32) := by decide
theorem kb_117 : (Int8.ofInt (117)).toInt32 = (117 : Int32) := by decide
theorem kb_114 : (Int8.ofInt (114)).toInt32 = (114 : Int32) := by decide
theorem kb_109 : (Int8.ofInt (109)).toInt32 = (109 : Int32) := by decide
theorem kb_108 : (Int8.ofInt (108)).toInt32 = (108 : Int32) := by decide
theorem kb_112 : (Int8.ofInt (112)).toInt32 = (112 : Int32) := by decide
theorem kb_102 : (Int8.ofInt (102)).toInt32 = (102 : Int32) := by decide
theorem kb_104 : (Int8.ofInt (104)).toInt32 = (104 : Int32) := by decide
theorem kb_98 : (Int8.ofInt (98)).toInt32 = (98 : Int32) := by decide
theorem kb_113 : (Int8.ofInt (113)).toInt32 = (113 : Int32) := by decide
theorem dX10_weight_0 : decode cX10_weight 0 = .ok (.iload_n 1, 1) := by decide +kernel
theorem dX10_weight_1 : decode cX10_weight 1 = .ok (.bipush 6, 2) := by decide +kernel
theorem dX10_weight_3 : decode cX10_weight 3 = .ok (.imul, 1) := by decide +kernel
theorem dX10_weight_4 : decode cX10_weight 4 = .ok (.iload_n 2, 1) := by decide +kernel
theorem dX10_weight_5 : decode cX10_weight 5 = .ok (.iadd, 1) := by decide +kernel
theorem dX10_weight_6 : decode cX10_weight 6 = .ok (.istore_n 3, 1) := by decide +kernel
theorem dX10_weight_7 : decode cX10_weight 7 = .ok (.iload_n 3, 1) := by decide +kernel
theorem dX10_weight_8 : decode cX10_weight 8 = .ok (.ifCond .lt 21, 3) := by decide +kernel
theorem dX10_weight_11 : decode cX10_weight 11 = .ok (.iload_n 3, 1) := by decide +kernel
theorem dX10_weight_12 : decode cX10_weight 12 = .ok (.aload_n 0, 1) := by decide +kernel
theorem dX10_weight_13 : decode cX10_weight 13 = .ok (.getfield 17, 3) := by decide +kernel
theorem dX10_weight_16 : decode cX10_weight 16 = .ok (.arraylength, 1) := by decide +kernel
theorem dX10_weight_17 : decode cX10_weight 17 = .ok (.if_icmp .ge 12, 3) := by decide +kernel
theorem dX10_weight_20 : decode cX10_weight 20 = .ok (.aload_n 0, 1) := by decide +kernel
theorem dX10_weight_21 : decode cX10_weight 21 = .ok (.getfield 17, 3) := by decide +kernel
theorem dX10_weight_24 : decode cX10_weight 24 = .ok (.iload_n 3, 1) := by decide +kernel
theorem dX10_weight_25 : decode cX10_weight 25 = .ok (.iaload, 1) := by decide +kernel
theorem dX10_weight_26 : decode cX10_weight 26 = .ok (.goto 4, 3) := by decide +kernel
theorem dX10_weight_29 : decode cX10_weight 29 = .ok (.iconst 0, 1) := by decide +kernel
theorem dX10_weight_30 : decode cX10_weight 30 = .ok (.ireturn, 1) := by decide +kernel
def X10_weight_b30 (e : mm_E) (t0 : Int32) (m : mm_V) : Option (Int32 × mm_V) := some (t0, m)
theorem X10_weight_b30_ok {K : mm_K} {nx : Option Nat} {e : mm_E} (hz : e.2.1 = K.2.2.2.2) {d : Nat} (hd : 0 ≤ d) {t0 : Int32} {a0 : Nat} (h0 : e.1 a0 = some (10, 11)) {m : mm_V} {r : (Int32 × mm_V)} (hr : X10_weight_b30 e t0 m = some r) : mm_G K MX10_weight d (mm_Fi e.1 nx r) 30 [none, none, none, none] [.int t0] (e.1, m) nx 0 0 := by
  unfold X10_weight_b30 at hr
  exact mb_iret dX10_weight_30 rfl hr
def X10_weight_b29 (e : mm_E) (m : mm_V) : Option (Int32 × mm_V) := X10_weight_b30 e  (0 : Int32) m
theorem X10_weight_b29_ok {K : mm_K} {nx : Option Nat} {e : mm_E} (hz : e.2.1 = K.2.2.2.2) {d : Nat} (hd : 0 ≤ d) {a0 : Nat} (h0 : e.1 a0 = some (10, 11)) {m : mm_V} {r : (Int32 × mm_V)} (hr : X10_weight_b29 e m = some r) : mm_G K MX10_weight d (mm_Fi e.1 nx r) 29 [none, none, none, none] [] (e.1, m) nx 0 0 := by
  unfold X10_weight_b29 at hr
  refine mg_iconst (pc := 29) dX10_weight_29 kc_0 ?_
  exact mg_weak (mm_le_n (mm_le_n (mm_le_n (mm_le_n mm_le_0)))) (X10_weight_b30_ok hz hd h0 hr)
def X10_weight (e : mm_E) (a0 : Nat) (i1 : Int32) (i2 : Int32) (m : mm_V) : Option (Int32 × mm_V) := if ((i1 * (6 : Int32)) + i2) < 0 then (X10_weight_b29 e   m) else ((mm_gr e.1 m 10 11 a0 1).bind fun c1 => (mm_ln e.1 c1).bind fun x2 => if x2 ≤ ((i1 * (6 : Int32)) + i2) then (X10_weight_b29 e   m) else ((mm_gr e.1 m 10 11 a0 1).bind fun c3 => (mm_ai e.1 m 20 c3 ((i1 * (6 : Int32)) + i2)).bind fun x4 => X10_weight_b30 e  x4 m))
theorem X10_weight_ok {K : mm_K} {nx : Option Nat} {e : mm_E} (hz : e.2.1 = K.2.2.2.2) {d : Nat} (hd : 0 ≤ d) {a0 : Nat} {i1 : Int32} {i2 : Int32} (h0 : e.1 a0 = some (10, 11)) {m : mm_V} {r : (Int32 × mm_V)} (hr : X10_weight e a0 i1 i2 m = some r) : mm_Cn K MX10_weight d (mm_Fi e.1 nx r) [.ref a0, .int i1, .int i2] (e.1, m) nx := by
  refine mm_entry (by decide) (Nat.le_of_ble_eq_true rfl) rfl (fun hok => ?_)
  unfold X10_weight at hr
  refine mg_weak (L' := [some (.ref a0), some (.int i1), some (.int i2), none]) (mm_le_s (mm_le_s (mm_le_s (mm_le_e mm_le_0)))) ?_
  refine ml_iload_n (pc := 0) dX10_weight_0 rfl (mm_get_s mm_get_0) ?_
  refine mg_bipush (pc := 1) dX10_weight_1 kb_6 ?_
  refine mg_imul (pc := 3) dX10_weight_3 ?_
  refine ml_iload_n (pc := 4) dX10_weight_4 rfl (mm_get_s (mm_get_s mm_get_0)) ?_
  refine mg_iadd (pc := 5) dX10_weight_5 ?_
  refine ml_istore_n (pc := 6) dX10_weight_6 rfl (Nat.le_of_ble_eq_true rfl) (mm_st1_s (mm_st1_s mm_st1_i)) ?_
  refine ml_iload_n (pc := 7) dX10_weight_7 rfl (mm_get_s (mm_get_s (mm_get_s mm_get_0))) ?_
  refine mb_if_lt (pc := 8) 29 dX10_weight_8 rfl hr (fun hr => ?_) (fun hr => ?_)
  · exact mg_weak (mm_le_n (mm_le_n (mm_le_n (mm_le_n mm_le_0)))) (X10_weight_b29_ok hz hd h0 hr)
  · refine ml_iload_n (pc := 11) dX10_weight_11 rfl (mm_get_s (mm_get_s (mm_get_s mm_get_0))) ?_
    refine ml_aload_n (pc := 12) dX10_weight_12 rfl mm_get_0 ?_
    refine mb_gr (pc := 13) dX10_weight_13 fl_X10_17 hr (fun c1 hr => ?_)
    refine mb_ln (pc := 16) dX10_weight_16 hr (fun x2 hr => ?_)
    refine mb_icmp_ge (pc := 17) 29 dX10_weight_17 rfl hr (fun hr => ?_) (fun hr => ?_)
    · exact mg_weak (mm_le_n (mm_le_n (mm_le_n (mm_le_n mm_le_0)))) (X10_weight_b29_ok hz hd h0 hr)
    · refine ml_aload_n (pc := 20) dX10_weight_20 rfl mm_get_0 ?_
      refine mb_gr (pc := 21) dX10_weight_21 fl_X10_17 hr (fun c3 hr => ?_)
      refine ml_iload_n (pc := 24) dX10_weight_24 rfl (mm_get_s (mm_get_s (mm_get_s mm_get_0))) ?_
      refine mb_ai (pc := 25) dX10_weight_25 hr (fun x4 hr => ?_)
      refine mg_goto (pc := 26) 30 dX10_weight_26 rfl ?_
      exact mg_weak (mm_le_n (mm_le_n (mm_le_n (mm_le_n mm_le_0)))) (X10_weight_b30_ok hz hd h0 hr)
theorem dX11_append_0 : decode cX11_append 0 = .ok (.bipush 24, 2) := by decide +kernel
theorem dX11_append_2 : decode cX11_append 2 = .ok (.istore_n 2, 1) := by decide +kernel
theorem dX11_append_3 : decode cX11_append 3 = .ok (.iload_n 2, 1) := by decide +kernel
theorem dX11_append_4 : decode cX11_append 4 = .ok (.ifCond .lt 45, 3) := by decide +kernel
theorem dX11_append_7 : decode cX11_append 7 = .ok (.aload_n 0, 1) := by decide +kernel
theorem dX11_append_8 : decode cX11_append 8 = .ok (.getfield 95, 3) := by decide +kernel
theorem dX11_append_11 : decode cX11_append 11 = .ok (.sipush 600, 3) := by decide +kernel
theorem dX11_append_14 : decode cX11_append 14 = .ok (.if_icmp .ge 35, 3) := by decide +kernel
theorem dX11_append_17 : decode cX11_append 17 = .ok (.aload_n 0, 1) := by decide +kernel
theorem dX11_append_18 : decode cX11_append 18 = .ok (.getfield 9, 3) := by decide +kernel
theorem dX11_append_21 : decode cX11_append 21 = .ok (.aload_n 0, 1) := by decide +kernel
theorem dX11_append_22 : decode cX11_append 22 = .ok (.getfield 95, 3) := by decide +kernel
theorem dX11_append_25 : decode cX11_append 25 = .ok (.iload_n 1, 1) := by decide +kernel
theorem dX11_append_26 : decode cX11_append 26 = .ok (.iload_n 2, 1) := by decide +kernel
theorem dX11_append_27 : decode cX11_append 27 = .ok (.iushr, 1) := by decide +kernel
theorem dX11_append_28 : decode cX11_append 28 = .ok (.sipush 255, 3) := by decide +kernel
theorem dX11_append_31 : decode cX11_append 31 = .ok (.iand, 1) := by decide +kernel
theorem dX11_append_32 : decode cX11_append 32 = .ok (.iastore, 1) := by decide +kernel
theorem dX11_append_33 : decode cX11_append 33 = .ok (.aload_n 0, 1) := by decide +kernel
theorem dX11_append_34 : decode cX11_append 34 = .ok (.dup, 1) := by decide +kernel
theorem dX11_append_35 : decode cX11_append 35 = .ok (.getfield 95, 3) := by decide +kernel
theorem dX11_append_38 : decode cX11_append 38 = .ok (.iconst 1, 1) := by decide +kernel
theorem dX11_append_39 : decode cX11_append 39 = .ok (.iadd, 1) := by decide +kernel
theorem dX11_append_40 : decode cX11_append 40 = .ok (.putfield 95, 3) := by decide +kernel
theorem dX11_append_43 : decode cX11_append 43 = .ok (.iinc 2 (-8), 3) := by decide +kernel
theorem dX11_append_46 : decode cX11_append 46 = .ok (.goto (-43), 3) := by decide +kernel
theorem dX11_append_49 : decode cX11_append 49 = .ok (.return_, 1) := by decide +kernel
def X11_append_b49 (e : mm_E) (m : mm_V) : Option mm_V := some m
theorem X11_append_b49_ok {K : mm_K} {nx : Option Nat} {e : mm_E} (hz : e.2.1 = K.2.2.2.2) {d : Nat} (hd : 0 ≤ d) {a0 : Nat} (h0 : e.1 a0 = some (11, 19)) {m : mm_V} {r : mm_V} (hr : X11_append_b49 e m = some r) : mm_G K MX11_append d (mm_Fv e.1 nx r) 49 [none, none, none] [] (e.1, m) nx 0 0 := by
  unfold X11_append_b49 at hr
  exact mb_vret dX11_append_49 rfl hr
def X11_append_L3 (e : mm_E) (a0 : Nat) (i1 : Int32) : Nat → Int32 → mm_V → Option mm_V
  | 0, _, _ => none
  | n + 1, i2, m => if i2 < 0 then (X11_append_b49 e   m) else ((mm_gi e.1 m 11 19 a0 15).bind fun x1 => if (600 : Int32) ≤ x1 then (X11_append_b49 e   m) else ((mm_gr e.1 m 11 19 a0 0).bind fun c2 => (mm_gi e.1 m 11 19 a0 15).bind fun x3 => (mm_si e.1 m c2 x3 (((i1.toUInt32 >>> (i2.toUInt32 &&& Int32.toUInt32 31)).toInt32) &&& (255 : Int32))).bind fun m4 => (mm_gi e.1 m4 11 19 a0 15).bind fun x5 => (mm_pf e.1 m4 11 19 a0 15 (.int (x5 + (1 : Int32)))).bind fun m6 => X11_append_L3 e a0 i1 n (i2 + (-8)) m6))
theorem X11_append_L3_ok {K : mm_K} {nx : Option Nat} {e : mm_E} (hz : e.2.1 = K.2.2.2.2) {d : Nat} (hd : 0 ≤ d) {a0 : Nat} {i1 : Int32} (h0 : e.1 a0 = some (11, 19)) : ∀ (n : Nat) (i2 : Int32) (m : mm_V) (r : mm_V), X11_append_L3 e a0 i1 n i2 m = some r → mm_G K MX11_append d (mm_Fv e.1 nx r) 3 [some (.ref a0), some (.int i1), some (.int i2)] [] (e.1, m) nx 0 0 := by
  intro n
  induction n with
  | zero => intro i2 m r hr; unfold X11_append_L3 at hr; cases hr
  | succ n ih =>
    intro i2 m r hr
    unfold X11_append_L3 at hr
    refine ml_iload_n (pc := 3) dX11_append_3 rfl (mm_get_s (mm_get_s mm_get_0)) ?_
    refine mb_if_lt (pc := 4) 49 dX11_append_4 rfl hr (fun hr => ?_) (fun hr => ?_)
    · exact mg_weak (mm_le_n (mm_le_n (mm_le_n mm_le_0))) (X11_append_b49_ok hz hd h0 hr)
    · refine ml_aload_n (pc := 7) dX11_append_7 rfl mm_get_0 ?_
      refine mb_gi (pc := 8) dX11_append_8 fl_X11_95 hr (fun x1 hr => ?_)
      refine mg_sipush (pc := 11) dX11_append_11 ks_600 ?_
      refine mb_icmp_ge (pc := 14) 49 dX11_append_14 rfl hr (fun hr => ?_) (fun hr => ?_)
      · exact mg_weak (mm_le_n (mm_le_n (mm_le_n mm_le_0))) (X11_append_b49_ok hz hd h0 hr)
      · refine ml_aload_n (pc := 17) dX11_append_17 rfl mm_get_0 ?_
        refine mb_gr (pc := 18) dX11_append_18 fl_X11_9 hr (fun c2 hr => ?_)
        refine ml_aload_n (pc := 21) dX11_append_21 rfl mm_get_0 ?_
        refine mb_gi (pc := 22) dX11_append_22 fl_X11_95 hr (fun x3 hr => ?_)
        refine ml_iload_n (pc := 25) dX11_append_25 rfl (mm_get_s mm_get_0) ?_
        refine ml_iload_n (pc := 26) dX11_append_26 rfl (mm_get_s (mm_get_s mm_get_0)) ?_
        refine mg_iushr (pc := 27) dX11_append_27 ?_
        refine mg_sipush (pc := 28) dX11_append_28 ks_255 ?_
        refine mg_iand (pc := 31) dX11_append_31 ?_
        refine mb_si (pc := 32) dX11_append_32 hr (fun m4 hr => ?_)
        refine ml_aload_n (pc := 33) dX11_append_33 rfl mm_get_0 ?_
        refine mg_dup (pc := 34) dX11_append_34 rfl ?_
        refine mb_gi (pc := 35) dX11_append_35 fl_X11_95 hr (fun x5 hr => ?_)
        refine mg_iconst (pc := 38) dX11_append_38 kc_1 ?_
        refine mg_iadd (pc := 39) dX11_append_39 ?_
        refine mb_pi (pc := 40) dX11_append_40 fp_X11_95 hr (fun m6 hr => ?_)
        refine ml_iinc (pc := 43) dX11_append_43 (mm_get_s (mm_get_s mm_get_0)) (congrArg (fun z => i2 + z) kc_m8) (Nat.le_of_ble_eq_true rfl) (mm_st1_s mm_st1_i) ?_
        refine mg_goto (pc := 46) 3 dX11_append_46 rfl ?_
        exact mg_weak (mm_le_s (mm_le_s (mm_le_s mm_le_0))) (ih _ _ _ hr)
def X11_append (e : mm_E) (a0 : Nat) (i1 : Int32) (m : mm_V) : Option mm_V := X11_append_L3 e a0 i1 e.2.2 (24 : Int32) m
theorem X11_append_ok {K : mm_K} {nx : Option Nat} {e : mm_E} (hz : e.2.1 = K.2.2.2.2) {d : Nat} (hd : 0 ≤ d) {a0 : Nat} {i1 : Int32} (h0 : e.1 a0 = some (11, 19)) {m : mm_V} {r : mm_V} (hr : X11_append e a0 i1 m = some r) : mm_Cn K MX11_append d (mm_Fv e.1 nx r) [.ref a0, .int i1] (e.1, m) nx := by
  refine mm_entry (by decide) (Nat.le_of_ble_eq_true rfl) rfl (fun hok => ?_)
  unfold X11_append at hr
  refine mg_weak (L' := [some (.ref a0), some (.int i1), none]) (mm_le_s (mm_le_s (mm_le_e mm_le_0))) ?_
  refine mg_bipush (pc := 0) dX11_append_0 kb_24 ?_
  refine ml_istore_n (pc := 2) dX11_append_2 rfl (Nat.le_of_ble_eq_true rfl) (mm_st1_s mm_st1_i) ?_
  exact mg_weak (mm_le_s (mm_le_s (mm_le_s mm_le_0))) (X11_append_L3_ok hz hd h0 _ _ _ _ hr)
theorem dX11_feed_0 : decode cX11_feed 0 = .ok (.aload_n 0, 1) := by decide +kernel
theorem dX11_feed_1 : decode cX11_feed 1 = .ok (.getfield 95, 3) := by decide +kernel
theorem dX11_feed_4 : decode cX11_feed 4 = .ok (.sipush 580, 3) := by decide +kernel
theorem dX11_feed_7 : decode cX11_feed 7 = .ok (.if_icmp .le 5, 3) := by decide +kernel
theorem dX11_feed_10 : decode cX11_feed 10 = .ok (.iconst (-1), 1) := by decide +kernel
theorem dX11_feed_11 : decode cX11_feed 11 = .ok (.ireturn, 1) := by decide +kernel
theorem dX11_feed_12 : decode cX11_feed 12 = .ok (.aload_n 0, 1) := by decide +kernel
theorem dX11_feed_13 : decode cX11_feed 13 = .ok (.iload_n 1, 1) := by decide +kernel
theorem dX11_feed_14 : decode cX11_feed 14 = .ok (.invokevirtual 98, 3) := by decide +kernel
theorem dX11_feed_17 : decode cX11_feed 17 = .ok (.aload_n 0, 1) := by decide +kernel
theorem dX11_feed_18 : decode cX11_feed 18 = .ok (.iload_n 2, 1) := by decide +kernel
theorem dX11_feed_19 : decode cX11_feed 19 = .ok (.invokevirtual 98, 3) := by decide +kernel
theorem dX11_feed_22 : decode cX11_feed 22 = .ok (.aload_n 0, 1) := by decide +kernel
theorem dX11_feed_23 : decode cX11_feed 23 = .ok (.iload_n 3, 1) := by decide +kernel
theorem dX11_feed_24 : decode cX11_feed 24 = .ok (.invokevirtual 98, 3) := by decide +kernel
theorem dX11_feed_27 : decode cX11_feed 27 = .ok (.aload_n 0, 1) := by decide +kernel
theorem dX11_feed_28 : decode cX11_feed 28 = .ok (.iload 4, 2) := by decide +kernel
theorem dX11_feed_30 : decode cX11_feed 30 = .ok (.invokevirtual 98, 3) := by decide +kernel
theorem dX11_feed_33 : decode cX11_feed 33 = .ok (.aload_n 0, 1) := by decide +kernel
theorem dX11_feed_34 : decode cX11_feed 34 = .ok (.iload 5, 2) := by decide +kernel
theorem dX11_feed_36 : decode cX11_feed 36 = .ok (.invokevirtual 98, 3) := by decide +kernel
theorem dX11_feed_39 : decode cX11_feed 39 = .ok (.aload_n 0, 1) := by decide +kernel
theorem dX11_feed_40 : decode cX11_feed 40 = .ok (.getfield 95, 3) := by decide +kernel
theorem dX11_feed_43 : decode cX11_feed 43 = .ok (.ireturn, 1) := by decide +kernel
def X11_feed (e : mm_E) (a0 : Nat) (i1 : Int32) (i2 : Int32) (i3 : Int32) (i4 : Int32) (i5 : Int32) (m : mm_V) : Option (Int32 × mm_V) := (mm_gi e.1 m 11 19 a0 15).bind fun x1 => if x1 ≤ (580 : Int32) then ((X11_append e a0 i1 m).bind fun r2 => (X11_append e a0 i2 r2).bind fun r3 => (X11_append e a0 i3 r3).bind fun r4 => (X11_append e a0 i4 r4).bind fun r5 => (X11_append e a0 i5 r5).bind fun r6 => (mm_gi e.1 r6 11 19 a0 15).bind fun x7 => some (x7, r6)) else (some ((-1 : Int32), m))
theorem X11_feed_ok {K : mm_K} {nx : Option Nat} {e : mm_E} (hz : e.2.1 = K.2.2.2.2) {d : Nat} (hd : 1 ≤ d) {a0 : Nat} {i1 : Int32} {i2 : Int32} {i3 : Int32} {i4 : Int32} {i5 : Int32} (h0 : e.1 a0 = some (11, 19)) {m : mm_V} {r : (Int32 × mm_V)} (hr : X11_feed e a0 i1 i2 i3 i4 i5 m = some r) : mm_Cn K MX11_feed d (mm_Fi e.1 nx r) [.ref a0, .int i1, .int i2, .int i3, .int i4, .int i5] (e.1, m) nx := by
  obtain ⟨d, rfl⟩ : ∃ d', d = d' + 1 := ⟨d - 1, by omega⟩
  refine mm_entry (by decide) (Nat.le_of_ble_eq_true rfl) rfl (fun hok => ?_)
  unfold X11_feed at hr
  refine mg_weak (L' := [some (.ref a0), some (.int i1), some (.int i2), some (.int i3), some (.int i4), some (.int i5)]) (mm_le_s (mm_le_s (mm_le_s (mm_le_s (mm_le_s (mm_le_s mm_le_0)))))) ?_
  refine ml_aload_n (pc := 0) dX11_feed_0 rfl mm_get_0 ?_
  refine mb_gi (pc := 1) dX11_feed_1 fl_X11_95 hr (fun x1 hr => ?_)
  refine mg_sipush (pc := 4) dX11_feed_4 ks_580 ?_
  refine mb_icmp_le (pc := 7) 12 dX11_feed_7 rfl hr (fun hr => ?_) (fun hr => ?_)
  · refine ml_aload_n (pc := 12) dX11_feed_12 rfl mm_get_0 ?_
    refine ml_iload_n (pc := 13) dX11_feed_13 rfl (mm_get_s mm_get_0) ?_
    refine mb_cVv (pc := 14) (As := [.int i1]) (rest := []) dX11_feed_14 cw_X11_98 h0 hr (fun v hv => X11_append_ok hz (by omega) h0 hv) rfl (Nat.le_of_ble_eq_true rfl) (Nat.zero_le _) (Nat.zero_le _) (fun r2 hr => ?_)
    refine ml_aload_n (pc := 17) dX11_feed_17 rfl mm_get_0 ?_
    refine ml_iload_n (pc := 18) dX11_feed_18 rfl (mm_get_s (mm_get_s mm_get_0)) ?_
    refine mb_cVv (pc := 19) (As := [.int i2]) (rest := []) dX11_feed_19 cw_X11_98 h0 hr (fun v hv => X11_append_ok hz (by omega) h0 hv) rfl (Nat.le_of_ble_eq_true rfl) (Nat.zero_le _) (Nat.zero_le _) (fun r3 hr => ?_)
    refine ml_aload_n (pc := 22) dX11_feed_22 rfl mm_get_0 ?_
    refine ml_iload_n (pc := 23) dX11_feed_23 rfl (mm_get_s (mm_get_s (mm_get_s mm_get_0))) ?_
    refine mb_cVv (pc := 24) (As := [.int i3]) (rest := []) dX11_feed_24 cw_X11_98 h0 hr (fun v hv => X11_append_ok hz (by omega) h0 hv) rfl (Nat.le_of_ble_eq_true rfl) (Nat.zero_le _) (Nat.zero_le _) (fun r4 hr => ?_)
    refine ml_aload_n (pc := 27) dX11_feed_27 rfl mm_get_0 ?_
    refine ml_iload (pc := 28) dX11_feed_28 (mm_get_s (mm_get_s (mm_get_s (mm_get_s mm_get_0)))) ?_
    refine mb_cVv (pc := 30) (As := [.int i4]) (rest := []) dX11_feed_30 cw_X11_98 h0 hr (fun v hv => X11_append_ok hz (by omega) h0 hv) rfl (Nat.le_of_ble_eq_true rfl) (Nat.zero_le _) (Nat.zero_le _) (fun r5 hr => ?_)
    refine ml_aload_n (pc := 33) dX11_feed_33 rfl mm_get_0 ?_
    refine ml_iload (pc := 34) dX11_feed_34 (mm_get_s (mm_get_s (mm_get_s (mm_get_s (mm_get_s mm_get_0))))) ?_
    refine mb_cVv (pc := 36) (As := [.int i5]) (rest := []) dX11_feed_36 cw_X11_98 h0 hr (fun v hv => X11_append_ok hz (by omega) h0 hv) rfl (Nat.le_of_ble_eq_true rfl) (Nat.zero_le _) (Nat.zero_le _) (fun r6 hr => ?_)
    refine ml_aload_n (pc := 39) dX11_feed_39 rfl mm_get_0 ?_
    refine mb_gi (pc := 40) dX11_feed_40 fl_X11_95 hr (fun x7 hr => ?_)
    exact mb_iret dX11_feed_43 rfl hr
  · refine mg_iconst (pc := 10) dX11_feed_10 kc_m1 ?_
    exact mb_iret dX11_feed_11 rfl hr
theorem dX11_fault_0 : decode cX11_fault 0 = .ok (.aload_n 0, 1) := by decide +kernel
theorem dX11_fault_1 : decode cX11_fault 1 = .ok (.getfield 88, 3) := by decide +kernel
theorem dX11_fault_4 : decode cX11_fault 4 = .ok (.ireturn, 1) := by decide +kernel
def X11_fault (e : mm_E) (a0 : Nat) (m : mm_V) : Option (Int32 × mm_V) := (mm_gi e.1 m 11 19 a0 16).bind fun x1 => some (x1, m)
theorem X11_fault_ok {K : mm_K} {nx : Option Nat} {e : mm_E} (hz : e.2.1 = K.2.2.2.2) {d : Nat} (hd : 0 ≤ d) {a0 : Nat} (h0 : e.1 a0 = some (11, 19)) {m : mm_V} {r : (Int32 × mm_V)} (hr : X11_fault e a0 m = some r) : mm_Cn K MX11_fault d (mm_Fi e.1 nx r) [.ref a0] (e.1, m) nx := by
  refine mm_entry (by decide) (Nat.le_of_ble_eq_true rfl) rfl (fun hok => ?_)
  unfold X11_fault at hr
  refine mg_weak (L' := [some (.ref a0)]) (mm_le_s mm_le_0) ?_
  refine ml_aload_n (pc := 0) dX11_fault_0 rfl mm_get_0 ?_
  refine mb_gi (pc := 1) dX11_fault_1 fl_X11_88 hr (fun x1 hr => ?_)
  exact mb_iret dX11_fault_4 rfl hr
theorem dX11_draw_0 : decode cX11_draw 0 = .ok (.aload_n 0, 1) := by decide +kernel
theorem dX11_draw_1 : decode cX11_draw 1 = .ok (.getfield 45, 3) := by decide +kernel
theorem dX11_draw_4 : decode cX11_draw 4 = .ok (.invokevirtual 124, 3) := by decide +kernel
theorem dX11_draw_7 : decode cX11_draw 7 = .ok (.ifCond .ne 31, 3) := by decide +kernel
theorem dX11_draw_10 : decode cX11_draw 10 = .ok (.aload_n 0, 1) := by decide +kernel
theorem dX11_draw_11 : decode cX11_draw 11 = .ok (.getfield 45, 3) := by decide +kernel
theorem dX11_draw_14 : decode cX11_draw 14 = .ok (.aload_n 0, 1) := by decide +kernel
theorem dX11_draw_15 : decode cX11_draw 15 = .ok (.getfield 45, 3) := by decide +kernel
theorem dX11_draw_18 : decode cX11_draw 18 = .ok (.aload_n 0, 1) := by decide +kernel
theorem dX11_draw_19 : decode cX11_draw 19 = .ok (.getfield 45, 3) := by decide +kernel
theorem dX11_draw_22 : decode cX11_draw 22 = .ok (.getfield 128, 3) := by decide +kernel
theorem dX11_draw_25 : decode cX11_draw 25 = .ok (.invokevirtual 179, 3) := by decide +kernel
theorem dX11_draw_28 : decode cX11_draw 28 = .ok (.invokevirtual 153, 3) := by decide +kernel
theorem dX11_draw_31 : decode cX11_draw 31 = .ok (.iload_n 1, 1) := by decide +kernel
theorem dX11_draw_32 : decode cX11_draw 32 = .ok (.invokevirtual 160, 3) := by decide +kernel
theorem dX11_draw_35 : decode cX11_draw 35 = .ok (.ifCond .ne 15, 3) := by decide +kernel
theorem dX11_draw_38 : decode cX11_draw 38 = .ok (.aload_n 0, 1) := by decide +kernel
theorem dX11_draw_39 : decode cX11_draw 39 = .ok (.dup, 1) := by decide +kernel
theorem dX11_draw_40 : decode cX11_draw 40 = .ok (.getfield 144, 3) := by decide +kernel
theorem dX11_draw_43 : decode cX11_draw 43 = .ok (.iconst 1, 1) := by decide +kernel
theorem dX11_draw_44 : decode cX11_draw 44 = .ok (.iadd, 1) := by decide +kernel
theorem dX11_draw_45 : decode cX11_draw 45 = .ok (.putfield 144, 3) := by decide +kernel
theorem dX11_draw_48 : decode cX11_draw 48 = .ok (.iconst (-1), 1) := by decide +kernel
theorem dX11_draw_49 : decode cX11_draw 49 = .ok (.ireturn, 1) := by decide +kernel
theorem dX11_draw_50 : decode cX11_draw 50 = .ok (.aload_n 0, 1) := by decide +kernel
theorem dX11_draw_51 : decode cX11_draw 51 = .ok (.getfield 35, 3) := by decide +kernel
theorem dX11_draw_54 : decode cX11_draw 54 = .ok (.invokevirtual 185, 3) := by decide +kernel
theorem dX11_draw_57 : decode cX11_draw 57 = .ok (.astore_n 2, 1) := by decide +kernel
theorem dX11_draw_58 : decode cX11_draw 58 = .ok (.aload_n 0, 1) := by decide +kernel
theorem dX11_draw_59 : decode cX11_draw 59 = .ok (.getfield 45, 3) := by decide +kernel
theorem dX11_draw_62 : decode cX11_draw 62 = .ok (.iload_n 1, 1) := by decide +kernel
theorem dX11_draw_63 : decode cX11_draw 63 = .ok (.aload_n 2, 1) := by decide +kernel
theorem dX11_draw_64 : decode cX11_draw 64 = .ok (.invokevirtual 189, 3) := by decide +kernel
theorem dX11_draw_67 : decode cX11_draw 67 = .ok (.aload_n 2, 1) := by decide +kernel
theorem dX11_draw_68 : decode cX11_draw 68 = .ok (.getfield 193, 3) := by decide +kernel
theorem dX11_draw_71 : decode cX11_draw 71 = .ok (.ifCond .eq 13, 3) := by decide +kernel
theorem dX11_draw_74 : decode cX11_draw 74 = .ok (.aload_n 2, 1) := by decide +kernel
theorem dX11_draw_75 : decode cX11_draw 75 = .ok (.getfield 197, 3) := by decide +kernel
theorem dX11_draw_78 : decode cX11_draw 78 = .ok (.bipush 100, 2) := by decide +kernel
theorem dX11_draw_80 : decode cX11_draw 80 = .ok (.iadd, 1) := by decide +kernel
theorem dX11_draw_81 : decode cX11_draw 81 = .ok (.goto 7, 3) := by decide +kernel
theorem dX11_draw_84 : decode cX11_draw 84 = .ok (.aload_n 2, 1) := by decide +kernel
theorem dX11_draw_85 : decode cX11_draw 85 = .ok (.getfield 197, 3) := by decide +kernel
theorem dX11_draw_88 : decode cX11_draw 88 = .ok (.ireturn, 1) := by decide +kernel
def X11_draw_b88 (e : mm_E) (t0 : Int32) (m : mm_V) : Option (Int32 × mm_V) := some (t0, m)
theorem X11_draw_b88_ok {K : mm_K} {nx : Option Nat} {e : mm_E} (hz : e.2.1 = K.2.2.2.2) {d : Nat} (hd : 4 ≤ d) {t0 : Int32} {a0 : Nat} (h0 : e.1 a0 = some (11, 19)) {m : mm_V} {r : (Int32 × mm_V)} (hr : X11_draw_b88 e t0 m = some r) : mm_G K MX11_draw d (mm_Fi e.1 nx r) 88 [none, none, none] [.int t0] (e.1, m) nx 0 0 := by
  obtain ⟨d, rfl⟩ : ∃ d', d = d' + 1 := ⟨d - 1, by omega⟩
  unfold X11_draw_b88 at hr
  exact mb_iret dX11_draw_88 rfl hr
def X11_draw_b38 (e : mm_E) (a0 : Nat) (m : mm_V) : Option (Int32 × mm_V) := (mm_gi e.1 m 11 19 a0 18).bind fun x1 => (mm_pf e.1 m 11 19 a0 18 (.int (x1 + (1 : Int32)))).bind fun m2 => some ((-1 : Int32), m2)
theorem X11_draw_b38_ok {K : mm_K} {nx : Option Nat} {e : mm_E} (hz : e.2.1 = K.2.2.2.2) {d : Nat} (hd : 4 ≤ d) {a0 : Nat} (h0 : e.1 a0 = some (11, 19)) {m : mm_V} {r : (Int32 × mm_V)} (hr : X11_draw_b38 e a0 m = some r) : mm_G K MX11_draw d (mm_Fi e.1 nx r) 38 [some (.ref a0), none, none] [] (e.1, m) nx 0 0 := by
  obtain ⟨d, rfl⟩ : ∃ d', d = d' + 1 := ⟨d - 1, by omega⟩
  unfold X11_draw_b38 at hr
  refine ml_aload_n (pc := 38) dX11_draw_38 rfl mm_get_0 ?_
  refine mg_dup (pc := 39) dX11_draw_39 rfl ?_
  refine mb_gi (pc := 40) dX11_draw_40 fl_X11_144 hr (fun x1 hr => ?_)
  refine mg_iconst (pc := 43) dX11_draw_43 kc_1 ?_
  refine mg_iadd (pc := 44) dX11_draw_44 ?_
  refine mb_pi (pc := 45) dX11_draw_45 fp_X11_144 hr (fun m2 hr => ?_)
  refine mg_iconst (pc := 48) dX11_draw_48 kc_m1 ?_
  exact mb_iret dX11_draw_49 rfl hr
def X11_draw (e : mm_E) (a0 : Nat) (i1 : Int32) (m : mm_V) : Option (Int32 × mm_V) := (mm_gr e.1 m 11 19 a0 6).bind fun c1 => if e.1 c1 = some (4, 12) then ((X4_over e c1 m).bind fun r2 => if ¬ r2.1 = 0 then (X11_draw_b38 e a0  r2.2) else ((mm_gr e.1 r2.2 11 19 a0 6).bind fun c4 => (mm_gr e.1 r2.2 11 19 a0 6).bind fun c5 => (mm_gr e.1 r2.2 11 19 a0 6).bind fun c6 => (mm_gi e.1 r2.2 4 12 c6 10).bind fun x7 => if e.1 c5 = some (4, 12) then ((X4_source e c5 x7 r2.2).bind fun r8 => if e.1 c4 = some (4, 12) then ((X4_fanAt e c4 r8.1 r8.2).bind fun r10 => if e.1 r10.1 = some (3, 2) then ((X3_hasPlace e r10.1 i1 r10.2).bind fun r12 => if ¬ r12.1 = 0 then ((mm_gr e.1 r12.2 11 19 a0 4).bind fun c14 => if e.1 c14 = some (5, 4) then ((X5_fresh e c14 r12.2).bind fun r15 => (mm_gr e.1 r15.2 11 19 a0 6).bind fun c17 => if e.1 c17 = some (4, 12) then ((X4_step e c17 i1 r15.1 r15.2).bind fun r18 => (mm_gi e.1 r18 2 9 r15.1 6).bind fun x20 => if x20 = 0 then ((mm_gi e.1 r18 2 9 r15.1 5).bind fun x21 => X11_draw_b88 e  x21 r18) else ((mm_gi e.1 r18 2 9 r15.1 5).bind fun x22 => X11_draw_b88 e  (x22 + (100 : Int32)) r18)) else none) else none) else (X11_draw_b38 e a0  r12.2)) else none) else none) else none)) else none
theorem X11_draw_ok {K : mm_K} {nx : Option Nat} {e : mm_E} (hz : e.2.1 = K.2.2.2.2) {d : Nat} (hd : 4 ≤ d) {a0 : Nat} {i1 : Int32} (h0 : e.1 a0 = some (11, 19)) {m : mm_V} {r : (Int32 × mm_V)} (hr : X11_draw e a0 i1 m = some r) : mm_Cn K MX11_draw d (mm_Fi e.1 nx r) [.ref a0, .int i1] (e.1, m) nx := by
  obtain ⟨d, rfl⟩ : ∃ d', d = d' + 1 := ⟨d - 1, by omega⟩
  refine mm_entry (by decide) (Nat.le_of_ble_eq_true rfl) rfl (fun hok => ?_)
  unfold X11_draw at hr
  refine mg_weak (L' := [some (.ref a0), some (.int i1), none]) (mm_le_s (mm_le_s (mm_le_e mm_le_0))) ?_
  refine ml_aload_n (pc := 0) dX11_draw_0 rfl mm_get_0 ?_
  refine mb_gr (pc := 1) dX11_draw_1 fl_X11_45 hr (fun c1 hr => ?_)
  refine mb_ck hr (fun hb3 hr => ?_)
  refine mb_cVi (pc := 4) (As := []) (rest := []) dX11_draw_4 cw_X11_124 hb3 hr (fun v hv => X4_over_ok hz (by omega) hb3 hv) rfl (Nat.le_of_ble_eq_true rfl) (Nat.zero_le _) (Nat.zero_le _) (fun r2 hr => ?_)
  refine mb_if_ne (pc := 7) 38 dX11_draw_7 rfl hr (fun hr => ?_) (fun hr => ?_)
  · exact mg_weak (mm_le_s (mm_le_n (mm_le_n mm_le_0))) (X11_draw_b38_ok hz hd h0 hr)
  · refine ml_aload_n (pc := 10) dX11_draw_10 rfl mm_get_0 ?_
    refine mb_gr (pc := 11) dX11_draw_11 fl_X11_45 hr (fun c4 hr => ?_)
    refine ml_aload_n (pc := 14) dX11_draw_14 rfl mm_get_0 ?_
    refine mb_gr (pc := 15) dX11_draw_15 fl_X11_45 hr (fun c5 hr => ?_)
    refine ml_aload_n (pc := 18) dX11_draw_18 rfl mm_get_0 ?_
    refine mb_gr (pc := 19) dX11_draw_19 fl_X11_45 hr (fun c6 hr => ?_)
    refine mb_gi (pc := 22) dX11_draw_22 fl_X11_128 hr (fun x7 hr => ?_)
    refine mb_ck hr (fun hb9 hr => ?_)
    refine mb_cVi (pc := 25) (As := [.int x7]) (rest := [.ref c4]) dX11_draw_25 cw_X11_179 hb9 hr (fun v hv => X4_source_ok hz (by omega) hb9 hv) rfl (Nat.le_of_ble_eq_true rfl) (Nat.zero_le _) (Nat.zero_le _) (fun r8 hr => ?_)
    refine mb_ck hr (fun hb11 hr => ?_)
    refine mb_cVr (pc := 28) (As := [.int r8.1]) (rest := []) dX11_draw_28 cw_X11_153 hb11 hr (fun v hv => X4_fanAt_ok hz (by omega) hb11 hv) rfl (Nat.le_of_ble_eq_true rfl) (Nat.zero_le _) (Nat.zero_le _) (fun r10 hr => ?_)
    refine ml_iload_n (pc := 31) dX11_draw_31 rfl (mm_get_s mm_get_0) ?_
    refine mb_ck hr (fun hb13 hr => ?_)
    refine mb_cVi (pc := 32) (As := [.int i1]) (rest := []) dX11_draw_32 cw_X11_160 hb13 hr (fun v hv => X3_hasPlace_ok hz (by omega) hb13 hv) rfl (Nat.le_of_ble_eq_true rfl) (Nat.zero_le _) (Nat.zero_le _) (fun r12 hr => ?_)
    refine mb_if_ne (pc := 35) 50 dX11_draw_35 rfl hr (fun hr => ?_) (fun hr => ?_)
    · refine ml_aload_n (pc := 50) dX11_draw_50 rfl mm_get_0 ?_
      refine mb_gr (pc := 51) dX11_draw_51 fl_X11_35 hr (fun c14 hr => ?_)
      refine mb_ck hr (fun hb16 hr => ?_)
      refine mb_cVr (pc := 54) (As := []) (rest := []) dX11_draw_54 cw_X11_185 hb16 hr (fun v hv => X5_fresh_ok hz (by omega) hb16 hv) rfl (Nat.le_of_ble_eq_true rfl) (Nat.zero_le _) (Nat.zero_le _) (fun r15 hr => ?_)
      refine ml_astore_n (pc := 57) dX11_draw_57 rfl (Nat.le_of_ble_eq_true rfl) (mm_st1_s mm_st1_i) ?_
      refine ml_aload_n (pc := 58) dX11_draw_58 rfl mm_get_0 ?_
      refine mb_gr (pc := 59) dX11_draw_59 fl_X11_45 hr (fun c17 hr => ?_)
      refine ml_iload_n (pc := 62) dX11_draw_62 rfl (mm_get_s mm_get_0) ?_
      refine ml_aload_n (pc := 63) dX11_draw_63 rfl (mm_get_s (mm_get_s mm_get_0)) ?_
      refine mb_ck hr (fun hb19 hr => ?_)
      refine mb_cVv (pc := 64) (As := [.int i1, .ref r15.1]) (rest := []) dX11_draw_64 cw_X11_189 hb19 hr (fun v hv => X4_step_ok hz (by omega) hb19 hv) rfl (Nat.le_of_ble_eq_true rfl) (Nat.zero_le _) (Nat.zero_le _) (fun r18 hr => ?_)
      refine ml_aload_n (pc := 67) dX11_draw_67 rfl (mm_get_s (mm_get_s mm_get_0)) ?_
      refine mb_gi (pc := 68) dX11_draw_68 fl_X11_193 hr (fun x20 hr => ?_)
      refine mb_if_eq (pc := 71) 84 dX11_draw_71 rfl hr (fun hr => ?_) (fun hr => ?_)
      · refine ml_aload_n (pc := 84) dX11_draw_84 rfl (mm_get_s (mm_get_s mm_get_0)) ?_
        refine mb_gi (pc := 85) dX11_draw_85 fl_X11_197 hr (fun x21 hr => ?_)
        exact mg_weak (mm_le_n (mm_le_n (mm_le_n mm_le_0))) (X11_draw_b88_ok hz hd h0 hr)
      · refine ml_aload_n (pc := 74) dX11_draw_74 rfl (mm_get_s (mm_get_s mm_get_0)) ?_
        refine mb_gi (pc := 75) dX11_draw_75 fl_X11_197 hr (fun x22 hr => ?_)
        refine mg_bipush (pc := 78) dX11_draw_78 kb_100 ?_
        refine mg_iadd (pc := 80) dX11_draw_80 ?_
        refine mg_goto (pc := 81) 88 dX11_draw_81 rfl ?_
        exact mg_weak (mm_le_n (mm_le_n (mm_le_n mm_le_0))) (X11_draw_b88_ok hz hd h0 hr)
    · exact mg_weak (mm_le_s (mm_le_n (mm_le_n mm_le_0))) (X11_draw_b38_ok hz hd h0 hr)
theorem dX11_undo_0 : decode cX11_undo 0 = .ok (.aload_n 0, 1) := by decide +kernel
theorem dX11_undo_1 : decode cX11_undo 1 = .ok (.getfield 35, 3) := by decide +kernel
theorem dX11_undo_4 : decode cX11_undo 4 = .ok (.getfield 134, 3) := by decide +kernel
theorem dX11_undo_7 : decode cX11_undo 7 = .ok (.ifCond .gt 5, 3) := by decide +kernel
theorem dX11_undo_10 : decode cX11_undo 10 = .ok (.iconst (-1), 1) := by decide +kernel
theorem dX11_undo_11 : decode cX11_undo 11 = .ok (.ireturn, 1) := by decide +kernel
theorem dX11_undo_12 : decode cX11_undo 12 = .ok (.aload_n 0, 1) := by decide +kernel
theorem dX11_undo_13 : decode cX11_undo 13 = .ok (.getfield 45, 3) := by decide +kernel
theorem dX11_undo_16 : decode cX11_undo 16 = .ok (.aload_n 0, 1) := by decide +kernel
theorem dX11_undo_17 : decode cX11_undo 17 = .ok (.getfield 35, 3) := by decide +kernel
theorem dX11_undo_20 : decode cX11_undo 20 = .ok (.aload_n 0, 1) := by decide +kernel
theorem dX11_undo_21 : decode cX11_undo 21 = .ok (.getfield 35, 3) := by decide +kernel
theorem dX11_undo_24 : decode cX11_undo 24 = .ok (.getfield 134, 3) := by decide +kernel
theorem dX11_undo_27 : decode cX11_undo 27 = .ok (.iconst 1, 1) := by decide +kernel
theorem dX11_undo_28 : decode cX11_undo 28 = .ok (.isub, 1) := by decide +kernel
theorem dX11_undo_29 : decode cX11_undo 29 = .ok (.invokevirtual 205, 3) := by decide +kernel
theorem dX11_undo_32 : decode cX11_undo 32 = .ok (.invokevirtual 209, 3) := by decide +kernel
theorem dX11_undo_35 : decode cX11_undo 35 = .ok (.aload_n 0, 1) := by decide +kernel
theorem dX11_undo_36 : decode cX11_undo 36 = .ok (.getfield 35, 3) := by decide +kernel
theorem dX11_undo_39 : decode cX11_undo 39 = .ok (.invokevirtual 213, 3) := by decide +kernel
theorem dX11_undo_42 : decode cX11_undo 42 = .ok (.aload_n 0, 1) := by decide +kernel
theorem dX11_undo_43 : decode cX11_undo 43 = .ok (.getfield 35, 3) := by decide +kernel
theorem dX11_undo_46 : decode cX11_undo 46 = .ok (.getfield 134, 3) := by decide +kernel
theorem dX11_undo_49 : decode cX11_undo 49 = .ok (.ireturn, 1) := by decide +kernel
def X11_undo (e : mm_E) (a0 : Nat) (m : mm_V) : Option (Int32 × mm_V) := (mm_gr e.1 m 11 19 a0 4).bind fun c1 => (mm_gi e.1 m 5 4 c1 3).bind fun x2 => if 0 < x2 then ((mm_gr e.1 m 11 19 a0 6).bind fun c3 => (mm_gr e.1 m 11 19 a0 4).bind fun c4 => (mm_gr e.1 m 11 19 a0 4).bind fun c5 => (mm_gi e.1 m 5 4 c5 3).bind fun x6 => if e.1 c4 = some (5, 4) then ((X5_at e c4 (x6 - (1 : Int32)) m).bind fun r7 => if e.1 c3 = some (4, 12) then ((X4_takeBack e c3 r7.1 r7.2).bind fun r9 => (mm_gr e.1 r9 11 19 a0 4).bind fun c11 => if e.1 c11 = some (5, 4) then ((X5_dropLast e c11 r9).bind fun r12 => (mm_gr e.1 r12 11 19 a0 4).bind fun c14 => (mm_gi e.1 r12 5 4 c14 3).bind fun x15 => some (x15, r12)) else none) else none) else none) else (some ((-1 : Int32), m))
theorem X11_undo_ok {K : mm_K} {nx : Option Nat} {e : mm_E} (hz : e.2.1 = K.2.2.2.2) {d : Nat} (hd : 2 ≤ d) {a0 : Nat} (h0 : e.1 a0 = some (11, 19)) {m : mm_V} {r : (Int32 × mm_V)} (hr : X11_undo e a0 m = some r) : mm_Cn K MX11_undo d (mm_Fi e.1 nx r) [.ref a0] (e.1, m) nx := by
  obtain ⟨d, rfl⟩ : ∃ d', d = d' + 1 := ⟨d - 1, by omega⟩
  refine mm_entry (by decide) (Nat.le_of_ble_eq_true rfl) rfl (fun hok => ?_)
  unfold X11_undo at hr
  refine mg_weak (L' := [some (.ref a0)]) (mm_le_s mm_le_0) ?_
  refine ml_aload_n (pc := 0) dX11_undo_0 rfl mm_get_0 ?_
  refine mb_gr (pc := 1) dX11_undo_1 fl_X11_35 hr (fun c1 hr => ?_)
  refine mb_gi (pc := 4) dX11_undo_4 fl_X11_134 hr (fun x2 hr => ?_)
  refine mb_if_gt (pc := 7) 12 dX11_undo_7 rfl hr (fun hr => ?_) (fun hr => ?_)
  · refine ml_aload_n (pc := 12) dX11_undo_12 rfl mm_get_0 ?_
    refine mb_gr (pc := 13) dX11_undo_13 fl_X11_45 hr (fun c3 hr => ?_)
    refine ml_aload_n (pc := 16) dX11_undo_16 rfl mm_get_0 ?_
    refine mb_gr (pc := 17) dX11_undo_17 fl_X11_35 hr (fun c4 hr => ?_)
    refine ml_aload_n (pc := 20) dX11_undo_20 rfl mm_get_0 ?_
    refine mb_gr (pc := 21) dX11_undo_21 fl_X11_35 hr (fun c5 hr => ?_)
    refine mb_gi (pc := 24) dX11_undo_24 fl_X11_134 hr (fun x6 hr => ?_)
    refine mg_iconst (pc := 27) dX11_undo_27 kc_1 ?_
    refine mg_isub (pc := 28) dX11_undo_28 ?_
    refine mb_ck hr (fun hb8 hr => ?_)
    refine mb_cVr (pc := 29) (As := [.int (x6 - (1 : Int32))]) (rest := [.ref c3]) dX11_undo_29 cw_X11_205 hb8 hr (fun v hv => X5_at_ok hz (by omega) hb8 hv) rfl (Nat.le_of_ble_eq_true rfl) (Nat.zero_le _) (Nat.zero_le _) (fun r7 hr => ?_)
    refine mb_ck hr (fun hb10 hr => ?_)
    refine mb_cVv (pc := 32) (As := [.ref r7.1]) (rest := []) dX11_undo_32 cw_X11_209 hb10 hr (fun v hv => X4_takeBack_ok hz (by omega) hb10 hv) rfl (Nat.le_of_ble_eq_true rfl) (Nat.zero_le _) (Nat.zero_le _) (fun r9 hr => ?_)
    refine ml_aload_n (pc := 35) dX11_undo_35 rfl mm_get_0 ?_
    refine mb_gr (pc := 36) dX11_undo_36 fl_X11_35 hr (fun c11 hr => ?_)
    refine mb_ck hr (fun hb13 hr => ?_)
    refine mb_cVv (pc := 39) (As := []) (rest := []) dX11_undo_39 cw_X11_213 hb13 hr (fun v hv => X5_dropLast_ok hz (by omega) hb13 hv) rfl (Nat.le_of_ble_eq_true rfl) (Nat.zero_le _) (Nat.zero_le _) (fun r12 hr => ?_)
    refine ml_aload_n (pc := 42) dX11_undo_42 rfl mm_get_0 ?_
    refine mb_gr (pc := 43) dX11_undo_43 fl_X11_35 hr (fun c14 hr => ?_)
    refine mb_gi (pc := 46) dX11_undo_46 fl_X11_134 hr (fun x15 hr => ?_)
    exact mb_iret dX11_undo_49 rfl hr
  · refine mg_iconst (pc := 10) dX11_undo_10 kc_m1 ?_
    exact mb_iret dX11_undo_11 rfl hr
theorem dX11_image_0 : decode cX11_image 0 = .ok (.aload_n 0, 1) := by decide +kernel
theorem dX11_image_1 : decode cX11_image 1 = .ok (.getfield 52, 3) := by decide +kernel
theorem dX11_image_4 : decode cX11_image 4 = .ok (.aload_n 0, 1) := by decide +kernel
theorem dX11_image_5 : decode cX11_image 5 = .ok (.getfield 45, 3) := by decide +kernel
theorem dX11_image_8 : decode cX11_image 8 = .ok (.invokevirtual 330, 3) := by decide +kernel
theorem dX11_image_11 : decode cX11_image 11 = .ok (.aload_n 0, 1) := by decide +kernel
theorem dX11_image_12 : decode cX11_image 12 = .ok (.getfield 39, 3) := by decide +kernel
theorem dX11_image_15 : decode cX11_image 15 = .ok (.aload_n 0, 1) := by decide +kernel
theorem dX11_image_16 : decode cX11_image 16 = .ok (.getfield 35, 3) := by decide +kernel
theorem dX11_image_19 : decode cX11_image 19 = .ok (.invokevirtual 334, 3) := by decide +kernel
theorem dX11_image_22 : decode cX11_image 22 = .ok (.aload_n 0, 1) := by decide +kernel
theorem dX11_image_23 : decode cX11_image 23 = .ok (.iconst 1, 1) := by decide +kernel
theorem dX11_image_24 : decode cX11_image 24 = .ok (.putfield 336, 3) := by decide +kernel
theorem dX11_image_27 : decode cX11_image 27 = .ok (.return_, 1) := by decide +kernel
def X11_image (e : mm_E) (a0 : Nat) (m : mm_V) : Option mm_V := (mm_gr e.1 m 11 19 a0 8).bind fun c1 => (mm_gr e.1 m 11 19 a0 6).bind fun c2 => if e.1 c1 = some (4, 12) then ((X4_copyFrom e c1 c2 m).bind fun r3 => (mm_gr e.1 r3 11 19 a0 5).bind fun c5 => (mm_gr e.1 r3 11 19 a0 4).bind fun c6 => if e.1 c5 = some (5, 4) then ((X5_copyFrom e c5 c6 r3).bind fun r7 => (mm_pz e.1 r7 11 19 a0 14 (1 : Int32)).bind fun m9 => some m9) else none) else none
theorem X11_image_ok {K : mm_K} {nx : Option Nat} {e : mm_E} (hz : e.2.1 = K.2.2.2.2) {d : Nat} (hd : 2 ≤ d) {a0 : Nat} (h0 : e.1 a0 = some (11, 19)) {m : mm_V} {r : mm_V} (hr : X11_image e a0 m = some r) : mm_Cn K MX11_image d (mm_Fv e.1 nx r) [.ref a0] (e.1, m) nx := by
  obtain ⟨d, rfl⟩ : ∃ d', d = d' + 1 := ⟨d - 1, by omega⟩
  refine mm_entry (by decide) (Nat.le_of_ble_eq_true rfl) rfl (fun hok => ?_)
  unfold X11_image at hr
  refine mg_weak (L' := [some (.ref a0)]) (mm_le_s mm_le_0) ?_
  refine ml_aload_n (pc := 0) dX11_image_0 rfl mm_get_0 ?_
  refine mb_gr (pc := 1) dX11_image_1 fl_X11_52 hr (fun c1 hr => ?_)
  refine ml_aload_n (pc := 4) dX11_image_4 rfl mm_get_0 ?_
  refine mb_gr (pc := 5) dX11_image_5 fl_X11_45 hr (fun c2 hr => ?_)
  refine mb_ck hr (fun hb4 hr => ?_)
  refine mb_cVv (pc := 8) (As := [.ref c2]) (rest := []) dX11_image_8 cw_X11_330 hb4 hr (fun v hv => X4_copyFrom_ok hz (by omega) hb4 hv) rfl (Nat.le_of_ble_eq_true rfl) (Nat.zero_le _) (Nat.zero_le _) (fun r3 hr => ?_)
  refine ml_aload_n (pc := 11) dX11_image_11 rfl mm_get_0 ?_
  refine mb_gr (pc := 12) dX11_image_12 fl_X11_39 hr (fun c5 hr => ?_)
  refine ml_aload_n (pc := 15) dX11_image_15 rfl mm_get_0 ?_
  refine mb_gr (pc := 16) dX11_image_16 fl_X11_35 hr (fun c6 hr => ?_)
  refine mb_ck hr (fun hb8 hr => ?_)
  refine mb_cVv (pc := 19) (As := [.ref c6]) (rest := []) dX11_image_19 cw_X11_334 hb8 hr (fun v hv => X5_copyFrom_ok hz (by omega) hb8 hv) rfl (Nat.le_of_ble_eq_true rfl) (Nat.zero_le _) (Nat.zero_le _) (fun r7 hr => ?_)
  refine ml_aload_n (pc := 22) dX11_image_22 rfl mm_get_0 ?_
  refine mg_iconst (pc := 23) dX11_image_23 kc_1 ?_
  refine mb_pz (pc := 24) dX11_image_24 fp_X11_336 hr (fun m9 hr => ?_)
  exact mb_vret dX11_image_27 rfl hr
theorem dX11_restore_0 : decode cX11_restore 0 = .ok (.aload_n 0, 1) := by decide +kernel
theorem dX11_restore_1 : decode cX11_restore 1 = .ok (.getfield 336, 3) := by decide +kernel
theorem dX11_restore_4 : decode cX11_restore 4 = .ok (.ifCond .ne 5, 3) := by decide +kernel
theorem dX11_restore_7 : decode cX11_restore 7 = .ok (.iconst 0, 1) := by decide +kernel
theorem dX11_restore_8 : decode cX11_restore 8 = .ok (.ireturn, 1) := by decide +kernel
theorem dX11_restore_9 : decode cX11_restore 9 = .ok (.aload_n 0, 1) := by decide +kernel
theorem dX11_restore_10 : decode cX11_restore 10 = .ok (.getfield 45, 3) := by decide +kernel
theorem dX11_restore_13 : decode cX11_restore 13 = .ok (.aload_n 0, 1) := by decide +kernel
theorem dX11_restore_14 : decode cX11_restore 14 = .ok (.getfield 52, 3) := by decide +kernel
theorem dX11_restore_17 : decode cX11_restore 17 = .ok (.invokevirtual 330, 3) := by decide +kernel
theorem dX11_restore_20 : decode cX11_restore 20 = .ok (.aload_n 0, 1) := by decide +kernel
theorem dX11_restore_21 : decode cX11_restore 21 = .ok (.getfield 35, 3) := by decide +kernel
theorem dX11_restore_24 : decode cX11_restore 24 = .ok (.aload_n 0, 1) := by decide +kernel
theorem dX11_restore_25 : decode cX11_restore 25 = .ok (.getfield 39, 3) := by decide +kernel
theorem dX11_restore_28 : decode cX11_restore 28 = .ok (.invokevirtual 334, 3) := by decide +kernel
theorem dX11_restore_31 : decode cX11_restore 31 = .ok (.iconst 1, 1) := by decide +kernel
theorem dX11_restore_32 : decode cX11_restore 32 = .ok (.ireturn, 1) := by decide +kernel
def X11_restore (e : mm_E) (a0 : Nat) (m : mm_V) : Option (Int32 × mm_V) := (mm_gi e.1 m 11 19 a0 14).bind fun x1 => if ¬ x1 = 0 then ((mm_gr e.1 m 11 19 a0 6).bind fun c2 => (mm_gr e.1 m 11 19 a0 8).bind fun c3 => if e.1 c2 = some (4, 12) then ((X4_copyFrom e c2 c3 m).bind fun r4 => (mm_gr e.1 r4 11 19 a0 4).bind fun c6 => (mm_gr e.1 r4 11 19 a0 5).bind fun c7 => if e.1 c6 = some (5, 4) then ((X5_copyFrom e c6 c7 r4).bind fun r8 => mm_rz (1 : Int32) r8) else none) else none) else (mm_rz (0 : Int32) m)
theorem X11_restore_ok {K : mm_K} {nx : Option Nat} {e : mm_E} (hz : e.2.1 = K.2.2.2.2) {d : Nat} (hd : 2 ≤ d) {a0 : Nat} (h0 : e.1 a0 = some (11, 19)) {m : mm_V} {r : (Int32 × mm_V)} (hr : X11_restore e a0 m = some r) : mm_Cn K MX11_restore d (mm_Fi e.1 nx r) [.ref a0] (e.1, m) nx := by
  obtain ⟨d, rfl⟩ : ∃ d', d = d' + 1 := ⟨d - 1, by omega⟩
  refine mm_entry (by decide) (Nat.le_of_ble_eq_true rfl) rfl (fun hok => ?_)
  unfold X11_restore at hr
  refine mg_weak (L' := [some (.ref a0)]) (mm_le_s mm_le_0) ?_
  refine ml_aload_n (pc := 0) dX11_restore_0 rfl mm_get_0 ?_
  refine mb_gi (pc := 1) dX11_restore_1 fl_X11_336 hr (fun x1 hr => ?_)
  refine mb_if_ne (pc := 4) 9 dX11_restore_4 rfl hr (fun hr => ?_) (fun hr => ?_)
  · refine ml_aload_n (pc := 9) dX11_restore_9 rfl mm_get_0 ?_
    refine mb_gr (pc := 10) dX11_restore_10 fl_X11_45 hr (fun c2 hr => ?_)
    refine ml_aload_n (pc := 13) dX11_restore_13 rfl mm_get_0 ?_
    refine mb_gr (pc := 14) dX11_restore_14 fl_X11_52 hr (fun c3 hr => ?_)
    refine mb_ck hr (fun hb5 hr => ?_)
    refine mb_cVv (pc := 17) (As := [.ref c3]) (rest := []) dX11_restore_17 cw_X11_330 hb5 hr (fun v hv => X4_copyFrom_ok hz (by omega) hb5 hv) rfl (Nat.le_of_ble_eq_true rfl) (Nat.zero_le _) (Nat.zero_le _) (fun r4 hr => ?_)
    refine ml_aload_n (pc := 20) dX11_restore_20 rfl mm_get_0 ?_
    refine mb_gr (pc := 21) dX11_restore_21 fl_X11_35 hr (fun c6 hr => ?_)
    refine ml_aload_n (pc := 24) dX11_restore_24 rfl mm_get_0 ?_
    refine mb_gr (pc := 25) dX11_restore_25 fl_X11_39 hr (fun c7 hr => ?_)
    refine mb_ck hr (fun hb9 hr => ?_)
    refine mb_cVv (pc := 28) (As := [.ref c7]) (rest := []) dX11_restore_28 cw_X11_334 hb9 hr (fun v hv => X5_copyFrom_ok hz (by omega) hb9 hv) rfl (Nat.le_of_ble_eq_true rfl) (Nat.zero_le _) (Nat.zero_le _) (fun r8 hr => ?_)
    refine mg_iconst (pc := 31) dX11_restore_31 kc_1 ?_
    exact mb_zret dX11_restore_32 rfl hr
  · refine mg_iconst (pc := 7) dX11_restore_7 kc_0 ?_
    exact mb_zret dX11_restore_8 rfl hr
theorem dX11_lay_0 : decode cX11_lay 0 = .ok (.aload_n 0, 1) := by decide +kernel
theorem dX11_lay_1 : decode cX11_lay 1 = .ok (.getfield 45, 3) := by decide +kernel
theorem dX11_lay_4 : decode cX11_lay 4 = .ok (.aload_n 0, 1) := by decide +kernel
theorem dX11_lay_5 : decode cX11_lay 5 = .ok (.getfield 16, 3) := by decide +kernel
theorem dX11_lay_8 : decode cX11_lay 8 = .ok (.iconst 0, 1) := by decide +kernel
theorem dX11_lay_9 : decode cX11_lay 9 = .ok (.iconst 0, 1) := by decide +kernel
theorem dX11_lay_10 : decode cX11_lay 10 = .ok (.invokevirtual 296, 3) := by decide +kernel
theorem dX11_lay_13 : decode cX11_lay 13 = .ok (.aload_n 0, 1) := by decide +kernel
theorem dX11_lay_14 : decode cX11_lay 14 = .ok (.getfield 16, 3) := by decide +kernel
theorem dX11_lay_17 : decode cX11_lay 17 = .ok (.getfield 339, 3) := by decide +kernel
theorem dX11_lay_20 : decode cX11_lay 20 = .ok (.ifCond .eq 13, 3) := by decide +kernel
theorem dX11_lay_23 : decode cX11_lay 23 = .ok (.aload_n 0, 1) := by decide +kernel
theorem dX11_lay_24 : decode cX11_lay 24 = .ok (.getfield 45, 3) := by decide +kernel
theorem dX11_lay_27 : decode cX11_lay 27 = .ok (.invokevirtual 342, 3) := by decide +kernel
theorem dX11_lay_30 : decode cX11_lay 30 = .ok (.goto 17, 3) := by decide +kernel
theorem dX11_lay_33 : decode cX11_lay 33 = .ok (.aload_n 0, 1) := by decide +kernel
theorem dX11_lay_34 : decode cX11_lay 34 = .ok (.getfield 45, 3) := by decide +kernel
theorem dX11_lay_37 : decode cX11_lay 37 = .ok (.aload_n 0, 1) := by decide +kernel
theorem dX11_lay_38 : decode cX11_lay 38 = .ok (.getfield 16, 3) := by decide +kernel
theorem dX11_lay_41 : decode cX11_lay 41 = .ok (.getfield 121, 3) := by decide +kernel
theorem dX11_lay_44 : decode cX11_lay 44 = .ok (.invokevirtual 300, 3) := by decide +kernel
theorem dX11_lay_47 : decode cX11_lay 47 = .ok (.aload_n 0, 1) := by decide +kernel
theorem dX11_lay_48 : decode cX11_lay 48 = .ok (.getfield 49, 3) := by decide +kernel
theorem dX11_lay_51 : decode cX11_lay 51 = .ok (.aload_n 0, 1) := by decide +kernel
theorem dX11_lay_52 : decode cX11_lay 52 = .ok (.getfield 45, 3) := by decide +kernel
theorem dX11_lay_55 : decode cX11_lay 55 = .ok (.invokevirtual 330, 3) := by decide +kernel
theorem dX11_lay_58 : decode cX11_lay 58 = .ok (.aload_n 0, 1) := by decide +kernel
theorem dX11_lay_59 : decode cX11_lay 59 = .ok (.getfield 35, 3) := by decide +kernel
theorem dX11_lay_62 : decode cX11_lay 62 = .ok (.invokevirtual 345, 3) := by decide +kernel
theorem dX11_lay_65 : decode cX11_lay 65 = .ok (.aload_n 0, 1) := by decide +kernel
theorem dX11_lay_66 : decode cX11_lay 66 = .ok (.iconst 0, 1) := by decide +kernel
theorem dX11_lay_67 : decode cX11_lay 67 = .ok (.putfield 336, 3) := by decide +kernel
theorem dX11_lay_70 : decode cX11_lay 70 = .ok (.return_, 1) := by decide +kernel
def X11_lay_b47 (e : mm_E) (a0 : Nat) (m : mm_V) : Option mm_V := (mm_gr e.1 m 11 19 a0 7).bind fun c1 => (mm_gr e.1 m 11 19 a0 6).bind fun c2 => if e.1 c1 = some (4, 12) then ((X4_copyFrom e c1 c2 m).bind fun r3 => (mm_gr e.1 r3 11 19 a0 4).bind fun c5 => if e.1 c5 = some (5, 4) then ((X5_clear e c5 r3).bind fun r6 => (mm_pz e.1 r6 11 19 a0 14 (0 : Int32)).bind fun m8 => some m8) else none) else none
theorem X11_lay_b47_ok {K : mm_K} {nx : Option Nat} {e : mm_E} (hz : e.2.1 = K.2.2.2.2) {d : Nat} (hd : 4 ≤ d) {a0 : Nat} (h0 : e.1 a0 = some (11, 19)) {m : mm_V} {r : mm_V} (hr : X11_lay_b47 e a0 m = some r) : mm_G K MX11_lay d (mm_Fv e.1 nx r) 47 [some (.ref a0)] [] (e.1, m) nx 0 0 := by
  obtain ⟨d, rfl⟩ : ∃ d', d = d' + 1 := ⟨d - 1, by omega⟩
  unfold X11_lay_b47 at hr
  refine ml_aload_n (pc := 47) dX11_lay_47 rfl mm_get_0 ?_
  refine mb_gr (pc := 48) dX11_lay_48 fl_X11_49 hr (fun c1 hr => ?_)
  refine ml_aload_n (pc := 51) dX11_lay_51 rfl mm_get_0 ?_
  refine mb_gr (pc := 52) dX11_lay_52 fl_X11_45 hr (fun c2 hr => ?_)
  refine mb_ck hr (fun hb4 hr => ?_)
  refine mb_cVv (pc := 55) (As := [.ref c2]) (rest := []) dX11_lay_55 cw_X11_330 hb4 hr (fun v hv => X4_copyFrom_ok hz (by omega) hb4 hv) rfl (Nat.le_of_ble_eq_true rfl) (Nat.zero_le _) (Nat.zero_le _) (fun r3 hr => ?_)
  refine ml_aload_n (pc := 58) dX11_lay_58 rfl mm_get_0 ?_
  refine mb_gr (pc := 59) dX11_lay_59 fl_X11_35 hr (fun c5 hr => ?_)
  refine mb_ck hr (fun hb7 hr => ?_)
  refine mb_cVv (pc := 62) (As := []) (rest := []) dX11_lay_62 cw_X11_345 hb7 hr (fun v hv => X5_clear_ok hz (by omega) hb7 hv) rfl (Nat.le_of_ble_eq_true rfl) (Nat.zero_le _) (Nat.zero_le _) (fun r6 hr => ?_)
  refine ml_aload_n (pc := 65) dX11_lay_65 rfl mm_get_0 ?_
  refine mg_iconst (pc := 66) dX11_lay_66 kc_0 ?_
  refine mb_pz (pc := 67) dX11_lay_67 fp_X11_336 hr (fun m8 hr => ?_)
  exact mb_vret dX11_lay_70 rfl hr
def X11_lay (e : mm_E) (a0 : Nat) (m : mm_V) : Option mm_V := (mm_gr e.1 m 11 19 a0 6).bind fun c1 => (mm_gr e.1 m 11 19 a0 1).bind fun c2 => if e.1 c1 = some (4, 12) then ((X4_open e c1 c2 (0 : Int32) (0 : Int32) m).bind fun r3 => (mm_gr e.1 r3 11 19 a0 1).bind fun c5 => (mm_gi e.1 r3 10 11 c5 10).bind fun x6 => if x6 = 0 then ((mm_gr e.1 r3 11 19 a0 6).bind fun c7 => (mm_gr e.1 r3 11 19 a0 1).bind fun c8 => (mm_gi e.1 r3 10 11 c8 8).bind fun x9 => if e.1 c7 = some (4, 12) then ((X4_deal e c7 x9 r3).bind fun r10 => X11_lay_b47 e a0  r10) else none) else ((mm_gr e.1 r3 11 19 a0 6).bind fun c12 => if e.1 c12 = some (4, 12) then ((X4_takeTold e c12 r3).bind fun r13 => X11_lay_b47 e a0  r13) else none)) else none
theorem X11_lay_ok {K : mm_K} {nx : Option Nat} {e : mm_E} (hz : e.2.1 = K.2.2.2.2) {d : Nat} (hd : 4 ≤ d) {a0 : Nat} (h0 : e.1 a0 = some (11, 19)) {m : mm_V} {r : mm_V} (hr : X11_lay e a0 m = some r) : mm_Cn K MX11_lay d (mm_Fv e.1 nx r) [.ref a0] (e.1, m) nx := by
  obtain ⟨d, rfl⟩ : ∃ d', d = d' + 1 := ⟨d - 1, by omega⟩
  refine mm_entry (by decide) (Nat.le_of_ble_eq_true rfl) rfl (fun hok => ?_)
  unfold X11_lay at hr
  refine mg_weak (L' := [some (.ref a0)]) (mm_le_s mm_le_0) ?_
  refine ml_aload_n (pc := 0) dX11_lay_0 rfl mm_get_0 ?_
  refine mb_gr (pc := 1) dX11_lay_1 fl_X11_45 hr (fun c1 hr => ?_)
  refine ml_aload_n (pc := 4) dX11_lay_4 rfl mm_get_0 ?_
  refine mb_gr (pc := 5) dX11_lay_5 fl_X11_16 hr (fun c2 hr => ?_)
  refine mg_iconst (pc := 8) dX11_lay_8 kc_0 ?_
  refine mg_iconst (pc := 9) dX11_lay_9 kc_0 ?_
  refine mb_ck hr (fun hb4 hr => ?_)
  refine mb_cVv (pc := 10) (As := [.ref c2, .int (0 : Int32), .int (0 : Int32)]) (rest := []) dX11_lay_10 cw_X11_296 hb4 hr (fun v hv => X4_open_ok hz (by omega) hb4 hv) rfl (Nat.le_of_ble_eq_true rfl) (Nat.zero_le _) (Nat.zero_le _) (fun r3 hr => ?_)
  refine ml_aload_n (pc := 13) dX11_lay_13 rfl mm_get_0 ?_
  refine mb_gr (pc := 14) dX11_lay_14 fl_X11_16 hr (fun c5 hr => ?_)
  refine mb_gi (pc := 17) dX11_lay_17 fl_X11_339 hr (fun x6 hr => ?_)
  refine mb_if_eq (pc := 20) 33 dX11_lay_20 rfl hr (fun hr => ?_) (fun hr => ?_)
  · refine ml_aload_n (pc := 33) dX11_lay_33 rfl mm_get_0 ?_
    refine mb_gr (pc := 34) dX11_lay_34 fl_X11_45 hr (fun c7 hr => ?_)
    refine ml_aload_n (pc := 37) dX11_lay_37 rfl mm_get_0 ?_
    refine mb_gr (pc := 38) dX11_lay_38 fl_X11_16 hr (fun c8 hr => ?_)
    refine mb_gi (pc := 41) dX11_lay_41 fl_X11_121 hr (fun x9 hr => ?_)
    refine mb_ck hr (fun hb11 hr => ?_)
    refine mb_cVv (pc := 44) (As := [.int x9]) (rest := []) dX11_lay_44 cw_X11_300 hb11 hr (fun v hv => X4_deal_ok hz (by omega) hb11 hv) rfl (Nat.le_of_ble_eq_true rfl) (Nat.zero_le _) (Nat.zero_le _) (fun r10 hr => ?_)
    exact mg_weak (mm_le_s mm_le_0) (X11_lay_b47_ok hz hd h0 hr)
  · refine ml_aload_n (pc := 23) dX11_lay_23 rfl mm_get_0 ?_
    refine mb_gr (pc := 24) dX11_lay_24 fl_X11_45 hr (fun c12 hr => ?_)
    refine mb_ck hr (fun hb14 hr => ?_)
    refine mb_cVv (pc := 27) (As := []) (rest := []) dX11_lay_27 cw_X11_342 hb14 hr (fun v hv => X4_takeTold_ok hz (by omega) hb14 hv) rfl (Nat.le_of_ble_eq_true rfl) (Nat.zero_le _) (Nat.zero_le _) (fun r13 hr => ?_)
    refine mg_goto (pc := 30) 47 dX11_lay_30 rfl ?_
    exact mg_weak (mm_le_s mm_le_0) (X11_lay_b47_ok hz hd h0 hr)
theorem dX11_isPerson_0 : decode cX11_isPerson 0 = .ok (.iload_n 1, 1) := by decide +kernel
theorem dX11_isPerson_1 : decode cX11_isPerson 1 = .ok (.ifCond .lt 18, 3) := by decide +kernel
theorem dX11_isPerson_4 : decode cX11_isPerson 4 = .ok (.iload_n 1, 1) := by decide +kernel
theorem dX11_isPerson_5 : decode cX11_isPerson 5 = .ok (.aload_n 0, 1) := by decide +kernel
theorem dX11_isPerson_6 : decode cX11_isPerson 6 = .ok (.getfield 16, 3) := by decide +kernel
theorem dX11_isPerson_9 : decode cX11_isPerson 9 = .ok (.getfield 115, 3) := by decide +kernel
theorem dX11_isPerson_12 : decode cX11_isPerson 12 = .ok (.if_icmp .ge 7, 3) := by decide +kernel
theorem dX11_isPerson_15 : decode cX11_isPerson 15 = .ok (.iconst 1, 1) := by decide +kernel
theorem dX11_isPerson_16 : decode cX11_isPerson 16 = .ok (.goto 4, 3) := by decide +kernel
theorem dX11_isPerson_19 : decode cX11_isPerson 19 = .ok (.iconst 0, 1) := by decide +kernel
theorem dX11_isPerson_20 : decode cX11_isPerson 20 = .ok (.ireturn, 1) := by decide +kernel
def X11_isPerson_b20 (e : mm_E) (t0 : Int32) (m : mm_V) : Option (Int32 × mm_V) := mm_rz t0 m
theorem X11_isPerson_b20_ok {K : mm_K} {nx : Option Nat} {e : mm_E} (hz : e.2.1 = K.2.2.2.2) {d : Nat} (hd : 0 ≤ d) {t0 : Int32} {a0 : Nat} (h0 : e.1 a0 = some (11, 19)) {m : mm_V} {r : (Int32 × mm_V)} (hr : X11_isPerson_b20 e t0 m = some r) : mm_G K MX11_isPerson d (mm_Fi e.1 nx r) 20 [none, none] [.int t0] (e.1, m) nx 0 0 := by
  unfold X11_isPerson_b20 at hr
  exact mb_zret dX11_isPerson_20 rfl hr
def X11_isPerson_b19 (e : mm_E) (m : mm_V) : Option (Int32 × mm_V) := X11_isPerson_b20 e  (0 : Int32) m
theorem X11_isPerson_b19_ok {K : mm_K} {nx : Option Nat} {e : mm_E} (hz : e.2.1 = K.2.2.2.2) {d : Nat} (hd : 0 ≤ d) {a0 : Nat} (h0 : e.1 a0 = some (11, 19)) {m : mm_V} {r : (Int32 × mm_V)} (hr : X11_isPerson_b19 e m = some r) : mm_G K MX11_isPerson d (mm_Fi e.1 nx r) 19 [none, none] [] (e.1, m) nx 0 0 := by
  unfold X11_isPerson_b19 at hr
  refine mg_iconst (pc := 19) dX11_isPerson_19 kc_0 ?_
  exact mg_weak (mm_le_n (mm_le_n mm_le_0)) (X11_isPerson_b20_ok hz hd h0 hr)
def X11_isPerson (e : mm_E) (a0 : Nat) (i1 : Int32) (m : mm_V) : Option (Int32 × mm_V) := if i1 < 0 then (X11_isPerson_b19 e   m) else ((mm_gr e.1 m 11 19 a0 1).bind fun c1 => (mm_gi e.1 m 10 11 c1 6).bind fun x2 => if x2 ≤ i1 then (X11_isPerson_b19 e   m) else (X11_isPerson_b20 e  (1 : Int32) m))
theorem X11_isPerson_ok {K : mm_K} {nx : Option Nat} {e : mm_E} (hz : e.2.1 = K.2.2.2.2) {d : Nat} (hd : 0 ≤ d) {a0 : Nat} {i1 : Int32} (h0 : e.1 a0 = some (11, 19)) {m : mm_V} {r : (Int32 × mm_V)} (hr : X11_isPerson e a0 i1 m = some r) : mm_Cn K MX11_isPerson d (mm_Fi e.1 nx r) [.ref a0, .int i1] (e.1, m) nx := by
  refine mm_entry (by decide) (Nat.le_of_ble_eq_true rfl) rfl (fun hok => ?_)
  unfold X11_isPerson at hr
  refine mg_weak (L' := [some (.ref a0), some (.int i1)]) (mm_le_s (mm_le_s mm_le_0)) ?_
  refine ml_iload_n (pc := 0) dX11_isPerson_0 rfl (mm_get_s mm_get_0) ?_
  refine mb_if_lt (pc := 1) 19 dX11_isPerson_1 rfl hr (fun hr => ?_) (fun hr => ?_)
  · exact mg_weak (mm_le_n (mm_le_n mm_le_0)) (X11_isPerson_b19_ok hz hd h0 hr)
  · refine ml_iload_n (pc := 4) dX11_isPerson_4 rfl (mm_get_s mm_get_0) ?_
    refine ml_aload_n (pc := 5) dX11_isPerson_5 rfl mm_get_0 ?_
    refine mb_gr (pc := 6) dX11_isPerson_6 fl_X11_16 hr (fun c1 hr => ?_)
    refine mb_gi (pc := 9) dX11_isPerson_9 fl_X11_115 hr (fun x2 hr => ?_)
    refine mb_icmp_ge (pc := 12) 19 dX11_isPerson_12 rfl hr (fun hr => ?_) (fun hr => ?_)
    · exact mg_weak (mm_le_n (mm_le_n mm_le_0)) (X11_isPerson_b19_ok hz hd h0 hr)
    · refine mg_iconst (pc := 15) dX11_isPerson_15 kc_1 ?_
      refine mg_goto (pc := 16) 20 dX11_isPerson_16 rfl ?_
      exact mg_weak (mm_le_n (mm_le_n mm_le_0)) (X11_isPerson_b20_ok hz hd h0 hr)
theorem dX11_playFromNow_0 : decode cX11_playFromNow 0 = .ok (.aload_n 0, 1) := by decide +kernel
theorem dX11_playFromNow_1 : decode cX11_playFromNow 1 = .ok (.getfield 55, 3) := by decide +kernel
theorem dX11_playFromNow_4 : decode cX11_playFromNow 4 = .ok (.aload_n 0, 1) := by decide +kernel
theorem dX11_playFromNow_5 : decode cX11_playFromNow 5 = .ok (.getfield 45, 3) := by decide +kernel
theorem dX11_playFromNow_8 : decode cX11_playFromNow 8 = .ok (.invokevirtual 330, 3) := by decide +kernel
theorem dX11_playFromNow_11 : decode cX11_playFromNow 11 = .ok (.aload_n 0, 1) := by decide +kernel
theorem dX11_playFromNow_12 : decode cX11_playFromNow 12 = .ok (.getfield 68, 3) := by decide +kernel
theorem dX11_playFromNow_15 : decode cX11_playFromNow 15 = .ok (.aload_n 0, 1) := by decide +kernel
theorem dX11_playFromNow_16 : decode cX11_playFromNow 16 = .ok (.getfield 55, 3) := by decide +kernel
theorem dX11_playFromNow_19 : decode cX11_playFromNow 19 = .ok (.invokevirtual 348, 3) := by decide +kernel
theorem dX11_playFromNow_22 : decode cX11_playFromNow 22 = .ok (.return_, 1) := by decide +kernel
def X11_playFromNow (e : mm_E) (a0 : Nat) (m : mm_V) : Option mm_V := (mm_gr e.1 m 11 19 a0 9).bind fun c1 => (mm_gr e.1 m 11 19 a0 6).bind fun c2 => if e.1 c1 = some (4, 12) then ((X4_copyFrom e c1 c2 m).bind fun r3 => (mm_gr e.1 r3 11 19 a0 11).bind fun c5 => (mm_gr e.1 r3 11 19 a0 9).bind fun c6 => if e.1 c5 = some (7, 8) then ((X7_watch e c5 c6 r3).bind fun r7 => some r7) else none) else none
theorem X11_playFromNow_ok {K : mm_K} {nx : Option Nat} {e : mm_E} (hz : e.2.1 = K.2.2.2.2) {d : Nat} (hd : 5 ≤ d) {a0 : Nat} (h0 : e.1 a0 = some (11, 19)) {m : mm_V} {r : mm_V} (hr : X11_playFromNow e a0 m = some r) : mm_Cn K MX11_playFromNow d (mm_Fv e.1 nx r) [.ref a0] (e.1, m) nx := by
  obtain ⟨d, rfl⟩ : ∃ d', d = d' + 1 := ⟨d - 1, by omega⟩
  refine mm_entry (by decide) (Nat.le_of_ble_eq_true rfl) rfl (fun hok => ?_)
  unfold X11_playFromNow at hr
  refine mg_weak (L' := [some (.ref a0)]) (mm_le_s mm_le_0) ?_
  refine ml_aload_n (pc := 0) dX11_playFromNow_0 rfl mm_get_0 ?_
  refine mb_gr (pc := 1) dX11_playFromNow_1 fl_X11_55 hr (fun c1 hr => ?_)
  refine ml_aload_n (pc := 4) dX11_playFromNow_4 rfl mm_get_0 ?_
  refine mb_gr (pc := 5) dX11_playFromNow_5 fl_X11_45 hr (fun c2 hr => ?_)
  refine mb_ck hr (fun hb4 hr => ?_)
  refine mb_cVv (pc := 8) (As := [.ref c2]) (rest := []) dX11_playFromNow_8 cw_X11_330 hb4 hr (fun v hv => X4_copyFrom_ok hz (by omega) hb4 hv) rfl (Nat.le_of_ble_eq_true rfl) (Nat.zero_le _) (Nat.zero_le _) (fun r3 hr => ?_)
  refine ml_aload_n (pc := 11) dX11_playFromNow_11 rfl mm_get_0 ?_
  refine mb_gr (pc := 12) dX11_playFromNow_12 fl_X11_68 hr (fun c5 hr => ?_)
  refine ml_aload_n (pc := 15) dX11_playFromNow_15 rfl mm_get_0 ?_
  refine mb_gr (pc := 16) dX11_playFromNow_16 fl_X11_55 hr (fun c6 hr => ?_)
  refine mb_ck hr (fun hb8 hr => ?_)
  refine mb_cVv (pc := 19) (As := [.ref c6]) (rest := []) dX11_playFromNow_19 cw_X11_348 hb8 hr (fun v hv => X7_watch_ok hz (by omega) hb8 hv) rfl (Nat.le_of_ble_eq_true rfl) (Nat.zero_le _) (Nat.zero_le _) (fun r7 hr => ?_)
  exact mb_vret dX11_playFromNow_22 rfl hr
theorem dX11_loserIf_0 : decode cX11_loserIf 0 = .ok (.aload_n 0, 1) := by decide +kernel
theorem dX11_loserIf_1 : decode cX11_loserIf 1 = .ok (.getfield 55, 3) := by decide +kernel
theorem dX11_loserIf_4 : decode cX11_loserIf 4 = .ok (.aload_n 0, 1) := by decide +kernel
theorem dX11_loserIf_5 : decode cX11_loserIf 5 = .ok (.getfield 45, 3) := by decide +kernel
theorem dX11_loserIf_8 : decode cX11_loserIf 8 = .ok (.invokevirtual 330, 3) := by decide +kernel
theorem dX11_loserIf_11 : decode cX11_loserIf 11 = .ok (.aload_n 0, 1) := by decide +kernel
theorem dX11_loserIf_12 : decode cX11_loserIf 12 = .ok (.getfield 55, 3) := by decide +kernel
theorem dX11_loserIf_15 : decode cX11_loserIf 15 = .ok (.iload_n 1, 1) := by decide +kernel
theorem dX11_loserIf_16 : decode cX11_loserIf 16 = .ok (.aload_n 0, 1) := by decide +kernel
theorem dX11_loserIf_17 : decode cX11_loserIf 17 = .ok (.getfield 61, 3) := by decide +kernel
theorem dX11_loserIf_20 : decode cX11_loserIf 20 = .ok (.invokevirtual 189, 3) := by decide +kernel
theorem dX11_loserIf_23 : decode cX11_loserIf 23 = .ok (.aload_n 0, 1) := by decide +kernel
theorem dX11_loserIf_24 : decode cX11_loserIf 24 = .ok (.getfield 68, 3) := by decide +kernel
theorem dX11_loserIf_27 : decode cX11_loserIf 27 = .ok (.aload_n 0, 1) := by decide +kernel
theorem dX11_loserIf_28 : decode cX11_loserIf 28 = .ok (.getfield 55, 3) := by decide +kernel
theorem dX11_loserIf_31 : decode cX11_loserIf 31 = .ok (.invokevirtual 348, 3) := by decide +kernel
theorem dX11_loserIf_34 : decode cX11_loserIf 34 = .ok (.aload_n 0, 1) := by decide +kernel
theorem dX11_loserIf_35 : decode cX11_loserIf 35 = .ok (.getfield 68, 3) := by decide +kernel
theorem dX11_loserIf_38 : decode cX11_loserIf 38 = .ok (.getfield 219, 3) := by decide +kernel
theorem dX11_loserIf_41 : decode cX11_loserIf 41 = .ok (.ireturn, 1) := by decide +kernel
def X11_loserIf (e : mm_E) (a0 : Nat) (i1 : Int32) (m : mm_V) : Option (Int32 × mm_V) := (mm_gr e.1 m 11 19 a0 9).bind fun c1 => (mm_gr e.1 m 11 19 a0 6).bind fun c2 => if e.1 c1 = some (4, 12) then ((X4_copyFrom e c1 c2 m).bind fun r3 => (mm_gr e.1 r3 11 19 a0 9).bind fun c5 => (mm_gr e.1 r3 11 19 a0 10).bind fun c6 => if e.1 c5 = some (4, 12) then ((X4_step e c5 i1 c6 r3).bind fun r7 => (mm_gr e.1 r7 11 19 a0 11).bind fun c9 => (mm_gr e.1 r7 11 19 a0 9).bind fun c10 => if e.1 c9 = some (7, 8) then ((X7_watch e c9 c10 r7).bind fun r11 => (mm_gr e.1 r11 11 19 a0 11).bind fun c13 => (mm_gi e.1 r11 7 8 c13 4).bind fun x14 => some (x14, r11)) else none) else none) else none
theorem X11_loserIf_ok {K : mm_K} {nx : Option Nat} {e : mm_E} (hz : e.2.1 = K.2.2.2.2) {d : Nat} (hd : 5 ≤ d) {a0 : Nat} {i1 : Int32} (h0 : e.1 a0 = some (11, 19)) {m : mm_V} {r : (Int32 × mm_V)} (hr : X11_loserIf e a0 i1 m = some r) : mm_Cn K MX11_loserIf d (mm_Fi e.1 nx r) [.ref a0, .int i1] (e.1, m) nx := by
  obtain ⟨d, rfl⟩ : ∃ d', d = d' + 1 := ⟨d - 1, by omega⟩
  refine mm_entry (by decide) (Nat.le_of_ble_eq_true rfl) rfl (fun hok => ?_)
  unfold X11_loserIf at hr
  refine mg_weak (L' := [some (.ref a0), some (.int i1)]) (mm_le_s (mm_le_s mm_le_0)) ?_
  refine ml_aload_n (pc := 0) dX11_loserIf_0 rfl mm_get_0 ?_
  refine mb_gr (pc := 1) dX11_loserIf_1 fl_X11_55 hr (fun c1 hr => ?_)
  refine ml_aload_n (pc := 4) dX11_loserIf_4 rfl mm_get_0 ?_
  refine mb_gr (pc := 5) dX11_loserIf_5 fl_X11_45 hr (fun c2 hr => ?_)
  refine mb_ck hr (fun hb4 hr => ?_)
  refine mb_cVv (pc := 8) (As := [.ref c2]) (rest := []) dX11_loserIf_8 cw_X11_330 hb4 hr (fun v hv => X4_copyFrom_ok hz (by omega) hb4 hv) rfl (Nat.le_of_ble_eq_true rfl) (Nat.zero_le _) (Nat.zero_le _) (fun r3 hr => ?_)
  refine ml_aload_n (pc := 11) dX11_loserIf_11 rfl mm_get_0 ?_
  refine mb_gr (pc := 12) dX11_loserIf_12 fl_X11_55 hr (fun c5 hr => ?_)
  refine ml_iload_n (pc := 15) dX11_loserIf_15 rfl (mm_get_s mm_get_0) ?_
  refine ml_aload_n (pc := 16) dX11_loserIf_16 rfl mm_get_0 ?_
  refine mb_gr (pc := 17) dX11_loserIf_17 fl_X11_61 hr (fun c6 hr => ?_)
  refine mb_ck hr (fun hb8 hr => ?_)
  refine mb_cVv (pc := 20) (As := [.int i1, .ref c6]) (rest := []) dX11_loserIf_20 cw_X11_189 hb8 hr (fun v hv => X4_step_ok hz (by omega) hb8 hv) rfl (Nat.le_of_ble_eq_true rfl) (Nat.zero_le _) (Nat.zero_le _) (fun r7 hr => ?_)
  refine ml_aload_n (pc := 23) dX11_loserIf_23 rfl mm_get_0 ?_
  refine mb_gr (pc := 24) dX11_loserIf_24 fl_X11_68 hr (fun c9 hr => ?_)
  refine ml_aload_n (pc := 27) dX11_loserIf_27 rfl mm_get_0 ?_
  refine mb_gr (pc := 28) dX11_loserIf_28 fl_X11_55 hr (fun c10 hr => ?_)
  refine mb_ck hr (fun hb12 hr => ?_)
  refine mb_cVv (pc := 31) (As := [.ref c10]) (rest := []) dX11_loserIf_31 cw_X11_348 hb12 hr (fun v hv => X7_watch_ok hz (by omega) hb12 hv) rfl (Nat.le_of_ble_eq_true rfl) (Nat.zero_le _) (Nat.zero_le _) (fun r11 hr => ?_)
  refine ml_aload_n (pc := 34) dX11_loserIf_34 rfl mm_get_0 ?_
  refine mb_gr (pc := 35) dX11_loserIf_35 fl_X11_68 hr (fun c13 hr => ?_)
  refine mb_gi (pc := 38) dX11_loserIf_38 fl_X11_219 hr (fun x14 hr => ?_)
  exact mb_iret dX11_loserIf_41 rfl hr
theorem dX11_believe_0 : decode cX11_believe 0 = .ok (.aload_n 0, 1) := by decide +kernel
theorem dX11_believe_1 : decode cX11_believe 1 = .ok (.getfield 35, 3) := by decide +kernel
theorem dX11_believe_4 : decode cX11_believe 4 = .ok (.getfield 134, 3) := by decide +kernel
theorem dX11_believe_7 : decode cX11_believe 7 = .ok (.aload_n 0, 1) := by decide +kernel
theorem dX11_believe_8 : decode cX11_believe 8 = .ok (.getfield 45, 3) := by decide +kernel
theorem dX11_believe_11 : decode cX11_believe 11 = .ok (.getfield 131, 3) := by decide +kernel
theorem dX11_believe_14 : decode cX11_believe 14 = .ok (.if_icmp .ne 27, 3) := by decide +kernel
theorem dX11_believe_17 : decode cX11_believe 17 = .ok (.aload_n 0, 1) := by decide +kernel
theorem dX11_believe_18 : decode cX11_believe 18 = .ok (.getfield 84, 3) := by decide +kernel
theorem dX11_believe_21 : decode cX11_believe 21 = .ok (.aload_n 0, 1) := by decide +kernel
theorem dX11_believe_22 : decode cX11_believe 22 = .ok (.getfield 49, 3) := by decide +kernel
theorem dX11_believe_25 : decode cX11_believe 25 = .ok (.aload_n 0, 1) := by decide +kernel
theorem dX11_believe_26 : decode cX11_believe 26 = .ok (.getfield 35, 3) := by decide +kernel
theorem dX11_believe_29 : decode cX11_believe 29 = .ok (.iload_n 1, 1) := by decide +kernel
theorem dX11_believe_30 : decode cX11_believe 30 = .ok (.iload_n 2, 1) := by decide +kernel
theorem dX11_believe_31 : decode cX11_believe 31 = .ok (.invokevirtual 351, 3) := by decide +kernel
theorem dX11_believe_34 : decode cX11_believe 34 = .ok (.ifCond .eq 7, 3) := by decide +kernel
theorem dX11_believe_37 : decode cX11_believe 37 = .ok (.iconst 1, 1) := by decide +kernel
theorem dX11_believe_38 : decode cX11_believe 38 = .ok (.goto 4, 3) := by decide +kernel
theorem dX11_believe_41 : decode cX11_believe 41 = .ok (.iconst 0, 1) := by decide +kernel
theorem dX11_believe_42 : decode cX11_believe 42 = .ok (.ireturn, 1) := by decide +kernel
def X11_believe_b42 (e : mm_E) (t0 : Int32) (m : mm_V) : Option (Int32 × mm_V) := mm_rz t0 m
theorem X11_believe_b42_ok {K : mm_K} {nx : Option Nat} {e : mm_E} (hz : e.2.1 = K.2.2.2.2) {d : Nat} (hd : 254 ≤ d) {t0 : Int32} {a0 : Nat} (h0 : e.1 a0 = some (11, 19)) {m : mm_V} {r : (Int32 × mm_V)} (hr : X11_believe_b42 e t0 m = some r) : mm_G K MX11_believe d (mm_Fi e.1 nx r) 42 [none, none, none] [.int t0] (e.1, m) nx 0 0 := by
  obtain ⟨d, rfl⟩ : ∃ d', d = d' + 1 := ⟨d - 1, by omega⟩
  unfold X11_believe_b42 at hr
  exact mb_zret dX11_believe_42 rfl hr
def X11_believe_b41 (e : mm_E) (m : mm_V) : Option (Int32 × mm_V) := X11_believe_b42 e  (0 : Int32) m
theorem X11_believe_b41_ok {K : mm_K} {nx : Option Nat} {e : mm_E} (hz : e.2.1 = K.2.2.2.2) {d : Nat} (hd : 254 ≤ d) {a0 : Nat} (h0 : e.1 a0 = some (11, 19)) {m : mm_V} {r : (Int32 × mm_V)} (hr : X11_believe_b41 e m = some r) : mm_G K MX11_believe d (mm_Fi e.1 nx r) 41 [none, none, none] [] (e.1, m) nx 0 0 := by
  obtain ⟨d, rfl⟩ : ∃ d', d = d' + 1 := ⟨d - 1, by omega⟩
  unfold X11_believe_b41 at hr
  refine mg_iconst (pc := 41) dX11_believe_41 kc_0 ?_
  exact mg_weak (mm_le_n (mm_le_n (mm_le_n mm_le_0))) (X11_believe_b42_ok hz hd h0 hr)
def X11_believe (e : mm_E) (a0 : Nat) (i1 : Int32) (i2 : Int32) (m : mm_V) : Option (Int32 × mm_V) := (mm_gr e.1 m 11 19 a0 4).bind fun c1 => (mm_gi e.1 m 5 4 c1 3).bind fun x2 => (mm_gr e.1 m 11 19 a0 6).bind fun c3 => (mm_gi e.1 m 4 12 c3 11).bind fun x4 => if ¬ x2 = x4 then (X11_believe_b41 e   m) else ((mm_gr e.1 m 11 19 a0 13).bind fun c5 => (mm_gr e.1 m 11 19 a0 7).bind fun c6 => (mm_gr e.1 m 11 19 a0 4).bind fun c7 => if e.1 c5 = some (0, 13) then ((X0_weigh e c5 c6 c7 i1 i2 m).bind fun r8 => if r8.1 = 0 then (X11_believe_b41 e   r8.2) else (X11_believe_b42 e  (1 : Int32) r8.2)) else none)
theorem X11_believe_ok {K : mm_K} {nx : Option Nat} {e : mm_E} (hz : e.2.1 = K.2.2.2.2) {d : Nat} (hd : 254 ≤ d) {a0 : Nat} {i1 : Int32} {i2 : Int32} (h0 : e.1 a0 = some (11, 19)) {m : mm_V} {r : (Int32 × mm_V)} (hr : X11_believe e a0 i1 i2 m = some r) : mm_Cn K MX11_believe d (mm_Fi e.1 nx r) [.ref a0, .int i1, .int i2] (e.1, m) nx := by
  obtain ⟨d, rfl⟩ : ∃ d', d = d' + 1 := ⟨d - 1, by omega⟩
  refine mm_entry (by decide) (Nat.le_of_ble_eq_true rfl) rfl (fun hok => ?_)
  unfold X11_believe at hr
  refine mg_weak (L' := [some (.ref a0), some (.int i1), some (.int i2)]) (mm_le_s (mm_le_s (mm_le_s mm_le_0))) ?_
  refine ml_aload_n (pc := 0) dX11_believe_0 rfl mm_get_0 ?_
  refine mb_gr (pc := 1) dX11_believe_1 fl_X11_35 hr (fun c1 hr => ?_)
  refine mb_gi (pc := 4) dX11_believe_4 fl_X11_134 hr (fun x2 hr => ?_)
  refine ml_aload_n (pc := 7) dX11_believe_7 rfl mm_get_0 ?_
  refine mb_gr (pc := 8) dX11_believe_8 fl_X11_45 hr (fun c3 hr => ?_)
  refine mb_gi (pc := 11) dX11_believe_11 fl_X11_131 hr (fun x4 hr => ?_)
  refine mb_icmp_ne (pc := 14) 41 dX11_believe_14 rfl hr (fun hr => ?_) (fun hr => ?_)
  · exact mg_weak (mm_le_n (mm_le_n (mm_le_n mm_le_0))) (X11_believe_b41_ok hz hd h0 hr)
  · refine ml_aload_n (pc := 17) dX11_believe_17 rfl mm_get_0 ?_
    refine mb_gr (pc := 18) dX11_believe_18 fl_X11_84 hr (fun c5 hr => ?_)
    refine ml_aload_n (pc := 21) dX11_believe_21 rfl mm_get_0 ?_
    refine mb_gr (pc := 22) dX11_believe_22 fl_X11_49 hr (fun c6 hr => ?_)
    refine ml_aload_n (pc := 25) dX11_believe_25 rfl mm_get_0 ?_
    refine mb_gr (pc := 26) dX11_believe_26 fl_X11_35 hr (fun c7 hr => ?_)
    refine ml_iload_n (pc := 29) dX11_believe_29 rfl (mm_get_s mm_get_0) ?_
    refine ml_iload_n (pc := 30) dX11_believe_30 rfl (mm_get_s (mm_get_s mm_get_0)) ?_
    refine mb_ck hr (fun hb9 hr => ?_)
    refine mb_cVi (pc := 31) (As := [.ref c6, .ref c7, .int i1, .int i2]) (rest := []) dX11_believe_31 cw_X11_351 hb9 hr (fun v hv => X0_weigh_ok hz (by omega) hb9 hv) rfl (Nat.le_of_ble_eq_true rfl) (Nat.zero_le _) (Nat.zero_le _) (fun r8 hr => ?_)
    refine mb_if_eq (pc := 34) 41 dX11_believe_34 rfl hr (fun hr => ?_) (fun hr => ?_)
    · exact mg_weak (mm_le_n (mm_le_n (mm_le_n mm_le_0))) (X11_believe_b41_ok hz hd h0 hr)
    · refine mg_iconst (pc := 37) dX11_believe_37 kc_1 ?_
      refine mg_goto (pc := 38) 42 dX11_believe_38 rfl ?_
      exact mg_weak (mm_le_n (mm_le_n (mm_le_n mm_le_0))) (X11_believe_b42_ok hz hd h0 hr)
theorem dX11_drawnAt_0 : decode cX11_drawnAt 0 = .ok (.iconst 0, 1) := by decide +kernel
theorem dX11_drawnAt_1 : decode cX11_drawnAt 1 = .ok (.istore_n 3, 1) := by decide +kernel
theorem dX11_drawnAt_2 : decode cX11_drawnAt 2 = .ok (.iconst 0, 1) := by decide +kernel
theorem dX11_drawnAt_3 : decode cX11_drawnAt 3 = .ok (.istore 4, 2) := by decide +kernel
theorem dX11_drawnAt_5 : decode cX11_drawnAt 5 = .ok (.iload 4, 2) := by decide +kernel
theorem dX11_drawnAt_7 : decode cX11_drawnAt 7 = .ok (.aload_n 0, 1) := by decide +kernel
theorem dX11_drawnAt_8 : decode cX11_drawnAt 8 = .ok (.getfield 35, 3) := by decide +kernel
theorem dX11_drawnAt_11 : decode cX11_drawnAt 11 = .ok (.getfield 134, 3) := by decide +kernel
theorem dX11_drawnAt_14 : decode cX11_drawnAt 14 = .ok (.if_icmp .ge 46, 3) := by decide +kernel
theorem dX11_drawnAt_17 : decode cX11_drawnAt 17 = .ok (.aload_n 0, 1) := by decide +kernel
theorem dX11_drawnAt_18 : decode cX11_drawnAt 18 = .ok (.getfield 35, 3) := by decide +kernel
theorem dX11_drawnAt_21 : decode cX11_drawnAt 21 = .ok (.iload 4, 2) := by decide +kernel
theorem dX11_drawnAt_23 : decode cX11_drawnAt 23 = .ok (.invokevirtual 205, 3) := by decide +kernel
theorem dX11_drawnAt_26 : decode cX11_drawnAt 26 = .ok (.astore 5, 2) := by decide +kernel
theorem dX11_drawnAt_28 : decode cX11_drawnAt 28 = .ok (.aload 5, 2) := by decide +kernel
theorem dX11_drawnAt_30 : decode cX11_drawnAt 30 = .ok (.getfield 271, 3) := by decide +kernel
theorem dX11_drawnAt_33 : decode cX11_drawnAt 33 = .ok (.iload_n 1, 1) := by decide +kernel
theorem dX11_drawnAt_34 : decode cX11_drawnAt 34 = .ok (.if_icmp .ne 20, 3) := by decide +kernel
theorem dX11_drawnAt_37 : decode cX11_drawnAt 37 = .ok (.aload 5, 2) := by decide +kernel
theorem dX11_drawnAt_39 : decode cX11_drawnAt 39 = .ok (.getfield 355, 3) := by decide +kernel
theorem dX11_drawnAt_42 : decode cX11_drawnAt 42 = .ok (.bipush 6, 2) := by decide +kernel
theorem dX11_drawnAt_44 : decode cX11_drawnAt 44 = .ok (.invokestatic 356, 3) := by decide +kernel
theorem dX11_drawnAt_47 : decode cX11_drawnAt 47 = .ok (.iload_n 2, 1) := by decide +kernel
theorem dX11_drawnAt_48 : decode cX11_drawnAt 48 = .ok (.if_icmp .ne 6, 3) := by decide +kernel
theorem dX11_drawnAt_51 : decode cX11_drawnAt 51 = .ok (.iinc 3 1, 3) := by decide +kernel
theorem dX11_drawnAt_54 : decode cX11_drawnAt 54 = .ok (.iinc 4 1, 3) := by decide +kernel
theorem dX11_drawnAt_57 : decode cX11_drawnAt 57 = .ok (.goto (-52), 3) := by decide +kernel
theorem dX11_drawnAt_60 : decode cX11_drawnAt 60 = .ok (.iload_n 3, 1) := by decide +kernel
theorem dX11_drawnAt_61 : decode cX11_drawnAt 61 = .ok (.ireturn, 1) := by decide +kernel
def X11_drawnAt_b54 (e : mm_E) (k5 : Int32 → Int32 → mm_V → Option (Int32 × mm_V)) (a0 : Nat) (i1 : Int32) (i2 : Int32) (i3 : Int32) (i4 : Int32) (m : mm_V) : Option (Int32 × mm_V) := k5 i3 (i4 + 1) m
theorem X11_drawnAt_b54_ok {K : mm_K} {nx : Option Nat} {e : mm_E} (hz : e.2.1 = K.2.2.2.2) {d : Nat} (hd : 1 ≤ d) {a0 : Nat} {i1 : Int32} {i2 : Int32} {i3 : Int32} {i4 : Int32} (h0 : e.1 a0 = some (11, 19)) {k5 : Int32 → Int32 → mm_V → Option (Int32 × mm_V)} (hk5 : ∀ (w3 : Int32) (w4 : Int32) (m : mm_V) (r : (Int32 × mm_V)), k5 w3 w4 m = some r → mm_G K MX11_drawnAt d (mm_Fi e.1 nx r) 5 [some (.ref a0), some (.int i1), some (.int i2), some (.int w3), some (.int w4), none] [] (e.1, m) nx 0 0) {m : mm_V} {r : (Int32 × mm_V)} (hr : X11_drawnAt_b54 e k5 a0 i1 i2 i3 i4 m = some r) : mm_G K MX11_drawnAt d (mm_Fi e.1 nx r) 54 [some (.ref a0), some (.int i1), some (.int i2), some (.int i3), some (.int i4), none] [] (e.1, m) nx 0 0 := by
  obtain ⟨d, rfl⟩ : ∃ d', d = d' + 1 := ⟨d - 1, by omega⟩
  unfold X11_drawnAt_b54 at hr
  refine ml_iinc (pc := 54) dX11_drawnAt_54 (mm_get_s (mm_get_s (mm_get_s (mm_get_s mm_get_0)))) (congrArg (fun z => i4 + z) kc_1) (Nat.le_of_ble_eq_true rfl) (mm_st1_s (mm_st1_s (mm_st1_s mm_st1_i))) ?_
  refine mg_goto (pc := 57) 5 dX11_drawnAt_57 rfl ?_
  exact mg_weak (mm_le_s (mm_le_s (mm_le_s (mm_le_s (mm_le_s (mm_le_n mm_le_0)))))) (hk5 _ _ _ _ hr)
def X11_drawnAt_L5 (e : mm_E) (a0 : Nat) (i1 : Int32) (i2 : Int32) : Nat → Int32 → Int32 → mm_V → Option (Int32 × mm_V)
  | 0, _, _, _ => none
  | n + 1, i3, i4, m => (mm_gr e.1 m 11 19 a0 4).bind fun c1 => (mm_gi e.1 m 5 4 c1 3).bind fun x2 => if x2 ≤ i4 then (some (i3, m)) else ((mm_gr e.1 m 11 19 a0 4).bind fun c3 => if e.1 c3 = some (5, 4) then ((X5_at e c3 i4 m).bind fun r4 => (mm_gi e.1 r4.2 2 9 r4.1 0).bind fun x6 => if ¬ x6 = i1 then (X11_drawnAt_b54 e (X11_drawnAt_L5 e a0 i1 i2 n) a0 i1 i2 i3 i4  r4.2) else ((mm_gi e.1 r4.2 2 9 r4.1 2).bind fun x7 => (J9_min_7cf53 e x7 (6 : Int32) r4.2).bind fun r8 => if ¬ r8.1 = i2 then (X11_drawnAt_b54 e (X11_drawnAt_L5 e a0 i1 i2 n) a0 i1 i2 i3 i4  r8.2) else (X11_drawnAt_b54 e (X11_drawnAt_L5 e a0 i1 i2 n) a0 i1 i2 (i3 + 1) i4  r8.2))) else none)
theorem X11_drawnAt_L5_ok {K : mm_K} {nx : Option Nat} {e : mm_E} (hz : e.2.1 = K.2.2.2.2) {d : Nat} (hd : 1 ≤ d) {a0 : Nat} {i1 : Int32} {i2 : Int32} (h0 : e.1 a0 = some (11, 19)) : ∀ (n : Nat) (i3 : Int32) (i4 : Int32) (m : mm_V) (r : (Int32 × mm_V)), X11_drawnAt_L5 e a0 i1 i2 n i3 i4 m = some r → mm_G K MX11_drawnAt d (mm_Fi e.1 nx r) 5 [some (.ref a0), some (.int i1), some (.int i2), some (.int i3), some (.int i4), none] [] (e.1, m) nx 0 0 := by
  obtain ⟨d, rfl⟩ : ∃ d', d = d' + 1 := ⟨d - 1, by omega⟩
  intro n
  induction n with
  | zero => intro i3 i4 m r hr; unfold X11_drawnAt_L5 at hr; cases hr
  | succ n ih =>
    intro i3 i4 m r hr
    unfold X11_drawnAt_L5 at hr
    refine ml_iload (pc := 5) dX11_drawnAt_5 (mm_get_s (mm_get_s (mm_get_s (mm_get_s mm_get_0)))) ?_
    refine ml_aload_n (pc := 7) dX11_drawnAt_7 rfl mm_get_0 ?_
    refine mb_gr (pc := 8) dX11_drawnAt_8 fl_X11_35 hr (fun c1 hr => ?_)
    refine mb_gi (pc := 11) dX11_drawnAt_11 fl_X11_134 hr (fun x2 hr => ?_)
    refine mb_icmp_ge (pc := 14) 60 dX11_drawnAt_14 rfl hr (fun hr => ?_) (fun hr => ?_)
    · refine ml_iload_n (pc := 60) dX11_drawnAt_60 rfl (mm_get_s (mm_get_s (mm_get_s mm_get_0))) ?_
      exact mb_iret dX11_drawnAt_61 rfl hr
    · refine ml_aload_n (pc := 17) dX11_drawnAt_17 rfl mm_get_0 ?_
      refine mb_gr (pc := 18) dX11_drawnAt_18 fl_X11_35 hr (fun c3 hr => ?_)
      refine ml_iload (pc := 21) dX11_drawnAt_21 (mm_get_s (mm_get_s (mm_get_s (mm_get_s mm_get_0)))) ?_
      refine mb_ck hr (fun hb5 hr => ?_)
      refine mb_cVr (pc := 23) (As := [.int i4]) (rest := []) dX11_drawnAt_23 cw_X11_205 hb5 hr (fun v hv => X5_at_ok hz (by omega) hb5 hv) rfl (Nat.le_of_ble_eq_true rfl) (Nat.zero_le _) (Nat.zero_le _) (fun r4 hr => ?_)
      refine ml_astore (pc := 26) dX11_drawnAt_26 (Nat.le_of_ble_eq_true rfl) (mm_st1_s (mm_st1_s (mm_st1_s (mm_st1_s mm_st1_i)))) ?_
      refine ml_aload (pc := 28) dX11_drawnAt_28 (mm_get_s (mm_get_s (mm_get_s (mm_get_s (mm_get_s mm_get_0))))) ?_
      refine mb_gi (pc := 30) dX11_drawnAt_30 fl_X11_271 hr (fun x6 hr => ?_)
      refine ml_iload_n (pc := 33) dX11_drawnAt_33 rfl (mm_get_s mm_get_0) ?_
      refine mb_icmp_ne (pc := 34) 54 dX11_drawnAt_34 rfl hr (fun hr => ?_) (fun hr => ?_)
      · exact mg_weak (mm_le_s (mm_le_s (mm_le_s (mm_le_s (mm_le_s (mm_le_n mm_le_0)))))) (X11_drawnAt_b54_ok hz hd h0 ih hr)
      · refine ml_aload (pc := 37) dX11_drawnAt_37 (mm_get_s (mm_get_s (mm_get_s (mm_get_s (mm_get_s mm_get_0))))) ?_
        refine mb_gi (pc := 39) dX11_drawnAt_39 fl_X11_355 hr (fun x7 hr => ?_)
        refine mg_bipush (pc := 42) dX11_drawnAt_42 kb_6 ?_
        refine mb_cSi (pc := 44) (As := [.int x7, .int (6 : Int32)]) (rest := []) dX11_drawnAt_44 cw_X11_356  hr (fun v hv => J9_min_7cf53_ok hz (by omega)  hv) rfl (Nat.le_of_ble_eq_true rfl) (Nat.zero_le _) (Nat.zero_le _) (fun r8 hr => ?_)
        refine ml_iload_n (pc := 47) dX11_drawnAt_47 rfl (mm_get_s (mm_get_s mm_get_0)) ?_
        refine mb_icmp_ne (pc := 48) 54 dX11_drawnAt_48 rfl hr (fun hr => ?_) (fun hr => ?_)
        · exact mg_weak (mm_le_s (mm_le_s (mm_le_s (mm_le_s (mm_le_s (mm_le_n mm_le_0)))))) (X11_drawnAt_b54_ok hz hd h0 ih hr)
        · refine ml_iinc (pc := 51) dX11_drawnAt_51 (mm_get_s (mm_get_s (mm_get_s mm_get_0))) (congrArg (fun z => i3 + z) kc_1) (Nat.le_of_ble_eq_true rfl) (mm_st1_s (mm_st1_s mm_st1_i)) ?_
          exact mg_weak (mm_le_s (mm_le_s (mm_le_s (mm_le_s (mm_le_s (mm_le_n mm_le_0)))))) (X11_drawnAt_b54_ok hz hd h0 ih hr)
def X11_drawnAt (e : mm_E) (a0 : Nat) (i1 : Int32) (i2 : Int32) (m : mm_V) : Option (Int32 × mm_V) := X11_drawnAt_L5 e a0 i1 i2 e.2.2 (0 : Int32) (0 : Int32) m
theorem X11_drawnAt_ok {K : mm_K} {nx : Option Nat} {e : mm_E} (hz : e.2.1 = K.2.2.2.2) {d : Nat} (hd : 1 ≤ d) {a0 : Nat} {i1 : Int32} {i2 : Int32} (h0 : e.1 a0 = some (11, 19)) {m : mm_V} {r : (Int32 × mm_V)} (hr : X11_drawnAt e a0 i1 i2 m = some r) : mm_Cn K MX11_drawnAt d (mm_Fi e.1 nx r) [.ref a0, .int i1, .int i2] (e.1, m) nx := by
  obtain ⟨d, rfl⟩ : ∃ d', d = d' + 1 := ⟨d - 1, by omega⟩
  refine mm_entry (by decide) (Nat.le_of_ble_eq_true rfl) rfl (fun hok => ?_)
  unfold X11_drawnAt at hr
  refine mg_weak (L' := [some (.ref a0), some (.int i1), some (.int i2), none, none, none]) (mm_le_s (mm_le_s (mm_le_s (mm_le_e (mm_le_e (mm_le_e mm_le_0)))))) ?_
  refine mg_iconst (pc := 0) dX11_drawnAt_0 kc_0 ?_
  refine ml_istore_n (pc := 1) dX11_drawnAt_1 rfl (Nat.le_of_ble_eq_true rfl) (mm_st1_s (mm_st1_s mm_st1_i)) ?_
  refine mg_iconst (pc := 2) dX11_drawnAt_2 kc_0 ?_
  refine ml_istore (pc := 3) dX11_drawnAt_3 (Nat.le_of_ble_eq_true rfl) (mm_st1_s (mm_st1_s (mm_st1_s mm_st1_i))) ?_
  exact mg_weak (mm_le_s (mm_le_s (mm_le_s (mm_le_s (mm_le_s (mm_le_n mm_le_0)))))) (X11_drawnAt_L5_ok hz hd h0 _ _ _ _ _ hr)
theorem dX11_favourite_0 : decode cX11_favourite 0 = .ok (.iconst (-1), 1) := by decide +kernel
theorem dX11_favourite_1 : decode cX11_favourite 1 = .ok (.istore_n 2, 1) := by decide +kernel
theorem dX11_favourite_2 : decode cX11_favourite 2 = .ok (.iconst 0, 1) := by decide +kernel
theorem dX11_favourite_3 : decode cX11_favourite 3 = .ok (.istore_n 3, 1) := by decide +kernel
theorem dX11_favourite_4 : decode cX11_favourite 4 = .ok (.iconst 0, 1) := by decide +kernel
theorem dX11_favourite_5 : decode cX11_favourite 5 = .ok (.istore 4, 2) := by decide +kernel
theorem dX11_favourite_7 : decode cX11_favourite 7 = .ok (.iload 4, 2) := by decide +kernel
theorem dX11_favourite_9 : decode cX11_favourite 9 = .ok (.bipush 6, 2) := by decide +kernel
theorem dX11_favourite_11 : decode cX11_favourite 11 = .ok (.if_icmp .gt 30, 3) := by decide +kernel
theorem dX11_favourite_14 : decode cX11_favourite 14 = .ok (.aload_n 0, 1) := by decide +kernel
theorem dX11_favourite_15 : decode cX11_favourite 15 = .ok (.iload_n 1, 1) := by decide +kernel
theorem dX11_favourite_16 : decode cX11_favourite 16 = .ok (.iload 4, 2) := by decide +kernel
theorem dX11_favourite_18 : decode cX11_favourite 18 = .ok (.invokevirtual 319, 3) := by decide +kernel
theorem dX11_favourite_21 : decode cX11_favourite 21 = .ok (.istore 5, 2) := by decide +kernel
theorem dX11_favourite_23 : decode cX11_favourite 23 = .ok (.iload 5, 2) := by decide +kernel
theorem dX11_favourite_25 : decode cX11_favourite 25 = .ok (.iload_n 3, 1) := by decide +kernel
theorem dX11_favourite_26 : decode cX11_favourite 26 = .ok (.if_icmp .le 9, 3) := by decide +kernel
theorem dX11_favourite_29 : decode cX11_favourite 29 = .ok (.iload 5, 2) := by decide +kernel
theorem dX11_favourite_31 : decode cX11_favourite 31 = .ok (.istore_n 3, 1) := by decide +kernel
theorem dX11_favourite_32 : decode cX11_favourite 32 = .ok (.iload 4, 2) := by decide +kernel
theorem dX11_favourite_34 : decode cX11_favourite 34 = .ok (.istore_n 2, 1) := by decide +kernel
theorem dX11_favourite_35 : decode cX11_favourite 35 = .ok (.iinc 4 1, 3) := by decide +kernel
theorem dX11_favourite_38 : decode cX11_favourite 38 = .ok (.goto (-31), 3) := by decide +kernel
theorem dX11_favourite_41 : decode cX11_favourite 41 = .ok (.iload_n 2, 1) := by decide +kernel
theorem dX11_favourite_42 : decode cX11_favourite 42 = .ok (.ireturn, 1) := by decide +kernel
def X11_favourite_b35 (e : mm_E) (k7 : Int32 → Int32 → Int32 → mm_V → Option (Int32 × mm_V)) (a0 : Nat) (i1 : Int32) (i2 : Int32) (i3 : Int32) (i4 : Int32) (m : mm_V) : Option (Int32 × mm_V) := k7 i2 i3 (i4 + 1) m
theorem X11_favourite_b35_ok {K : mm_K} {nx : Option Nat} {e : mm_E} (hz : e.2.1 = K.2.2.2.2) {d : Nat} (hd : 2 ≤ d) {a0 : Nat} {i1 : Int32} {i2 : Int32} {i3 : Int32} {i4 : Int32} (h0 : e.1 a0 = some (11, 19)) {k7 : Int32 → Int32 → Int32 → mm_V → Option (Int32 × mm_V)} (hk7 : ∀ (w2 : Int32) (w3 : Int32) (w4 : Int32) (m : mm_V) (r : (Int32 × mm_V)), k7 w2 w3 w4 m = some r → mm_G K MX11_favourite d (mm_Fi e.1 nx r) 7 [some (.ref a0), some (.int i1), some (.int w2), some (.int w3), some (.int w4), none] [] (e.1, m) nx 0 0) {m : mm_V} {r : (Int32 × mm_V)} (hr : X11_favourite_b35 e k7 a0 i1 i2 i3 i4 m = some r) : mm_G K MX11_favourite d (mm_Fi e.1 nx r) 35 [some (.ref a0), some (.int i1), some (.int i2), some (.int i3), some (.int i4), none] [] (e.1, m) nx 0 0 := by
  obtain ⟨d, rfl⟩ : ∃ d', d = d' + 1 := ⟨d - 1, by omega⟩
  unfold X11_favourite_b35 at hr
  refine ml_iinc (pc := 35) dX11_favourite_35 (mm_get_s (mm_get_s (mm_get_s (mm_get_s mm_get_0)))) (congrArg (fun z => i4 + z) kc_1) (Nat.le_of_ble_eq_true rfl) (mm_st1_s (mm_st1_s (mm_st1_s mm_st1_i))) ?_
  refine mg_goto (pc := 38) 7 dX11_favourite_38 rfl ?_
  exact mg_weak (mm_le_s (mm_le_s (mm_le_s (mm_le_s (mm_le_s (mm_le_n mm_le_0)))))) (hk7 _ _ _ _ _ hr)
def X11_favourite_L7 (e : mm_E) (a0 : Nat) (i1 : Int32) : Nat → Int32 → Int32 → Int32 → mm_V → Option (Int32 × mm_V)
  | 0, _, _, _, _ => none
  | n + 1, i2, i3, i4, m => if (6 : Int32) < i4 then (some (i2, m)) else ((X11_drawnAt e a0 i1 i4 m).bind fun r1 => if r1.1 ≤ i3 then (X11_favourite_b35 e (X11_favourite_L7 e a0 i1 n) a0 i1 i2 i3 i4  r1.2) else (X11_favourite_b35 e (X11_favourite_L7 e a0 i1 n) a0 i1 i4 r1.1 i4  r1.2))
theorem X11_favourite_L7_ok {K : mm_K} {nx : Option Nat} {e : mm_E} (hz : e.2.1 = K.2.2.2.2) {d : Nat} (hd : 2 ≤ d) {a0 : Nat} {i1 : Int32} (h0 : e.1 a0 = some (11, 19)) : ∀ (n : Nat) (i2 : Int32) (i3 : Int32) (i4 : Int32) (m : mm_V) (r : (Int32 × mm_V)), X11_favourite_L7 e a0 i1 n i2 i3 i4 m = some r → mm_G K MX11_favourite d (mm_Fi e.1 nx r) 7 [some (.ref a0), some (.int i1), some (.int i2), some (.int i3), some (.int i4), none] [] (e.1, m) nx 0 0 := by
  obtain ⟨d, rfl⟩ : ∃ d', d = d' + 1 := ⟨d - 1, by omega⟩
  intro n
  induction n with
  | zero => intro i2 i3 i4 m r hr; unfold X11_favourite_L7 at hr; cases hr
  | succ n ih =>
    intro i2 i3 i4 m r hr
    unfold X11_favourite_L7 at hr
    refine ml_iload (pc := 7) dX11_favourite_7 (mm_get_s (mm_get_s (mm_get_s (mm_get_s mm_get_0)))) ?_
    refine mg_bipush (pc := 9) dX11_favourite_9 kb_6 ?_
    refine mb_icmp_gt (pc := 11) 41 dX11_favourite_11 rfl hr (fun hr => ?_) (fun hr => ?_)
    · refine ml_iload_n (pc := 41) dX11_favourite_41 rfl (mm_get_s (mm_get_s mm_get_0)) ?_
      exact mb_iret dX11_favourite_42 rfl hr
    · refine ml_aload_n (pc := 14) dX11_favourite_14 rfl mm_get_0 ?_
      refine ml_iload_n (pc := 15) dX11_favourite_15 rfl (mm_get_s mm_get_0) ?_
      refine ml_iload (pc := 16) dX11_favourite_16 (mm_get_s (mm_get_s (mm_get_s (mm_get_s mm_get_0)))) ?_
      refine mb_cVi (pc := 18) (As := [.int i1, .int i4]) (rest := []) dX11_favourite_18 cw_X11_319 h0 hr (fun v hv => X11_drawnAt_ok hz (by omega) h0 hv) rfl (Nat.le_of_ble_eq_true rfl) (Nat.zero_le _) (Nat.zero_le _) (fun r1 hr => ?_)
      refine ml_istore (pc := 21) dX11_favourite_21 (Nat.le_of_ble_eq_true rfl) (mm_st1_s (mm_st1_s (mm_st1_s (mm_st1_s mm_st1_i)))) ?_
      refine ml_iload (pc := 23) dX11_favourite_23 (mm_get_s (mm_get_s (mm_get_s (mm_get_s (mm_get_s mm_get_0))))) ?_
      refine ml_iload_n (pc := 25) dX11_favourite_25 rfl (mm_get_s (mm_get_s (mm_get_s mm_get_0))) ?_
      refine mb_icmp_le (pc := 26) 35 dX11_favourite_26 rfl hr (fun hr => ?_) (fun hr => ?_)
      · exact mg_weak (mm_le_s (mm_le_s (mm_le_s (mm_le_s (mm_le_s (mm_le_n mm_le_0)))))) (X11_favourite_b35_ok hz hd h0 ih hr)
      · refine ml_iload (pc := 29) dX11_favourite_29 (mm_get_s (mm_get_s (mm_get_s (mm_get_s (mm_get_s mm_get_0))))) ?_
        refine ml_istore_n (pc := 31) dX11_favourite_31 rfl (Nat.le_of_ble_eq_true rfl) (mm_st1_s (mm_st1_s mm_st1_i)) ?_
        refine ml_iload (pc := 32) dX11_favourite_32 (mm_get_s (mm_get_s (mm_get_s (mm_get_s mm_get_0)))) ?_
        refine ml_istore_n (pc := 34) dX11_favourite_34 rfl (Nat.le_of_ble_eq_true rfl) (mm_st1_s mm_st1_i) ?_
        exact mg_weak (mm_le_s (mm_le_s (mm_le_s (mm_le_s (mm_le_s (mm_le_n mm_le_0)))))) (X11_favourite_b35_ok hz hd h0 ih hr)
def X11_favourite (e : mm_E) (a0 : Nat) (i1 : Int32) (m : mm_V) : Option (Int32 × mm_V) := X11_favourite_L7 e a0 i1 e.2.2 (-1 : Int32) (0 : Int32) (0 : Int32) m
theorem X11_favourite_ok {K : mm_K} {nx : Option Nat} {e : mm_E} (hz : e.2.1 = K.2.2.2.2) {d : Nat} (hd : 2 ≤ d) {a0 : Nat} {i1 : Int32} (h0 : e.1 a0 = some (11, 19)) {m : mm_V} {r : (Int32 × mm_V)} (hr : X11_favourite e a0 i1 m = some r) : mm_Cn K MX11_favourite d (mm_Fi e.1 nx r) [.ref a0, .int i1] (e.1, m) nx := by
  obtain ⟨d, rfl⟩ : ∃ d', d = d' + 1 := ⟨d - 1, by omega⟩
  refine mm_entry (by decide) (Nat.le_of_ble_eq_true rfl) rfl (fun hok => ?_)
  unfold X11_favourite at hr
  refine mg_weak (L' := [some (.ref a0), some (.int i1), none, none, none, none]) (mm_le_s (mm_le_s (mm_le_e (mm_le_e (mm_le_e (mm_le_e mm_le_0)))))) ?_
  refine mg_iconst (pc := 0) dX11_favourite_0 kc_m1 ?_
  refine ml_istore_n (pc := 1) dX11_favourite_1 rfl (Nat.le_of_ble_eq_true rfl) (mm_st1_s mm_st1_i) ?_
  refine mg_iconst (pc := 2) dX11_favourite_2 kc_0 ?_
  refine ml_istore_n (pc := 3) dX11_favourite_3 rfl (Nat.le_of_ble_eq_true rfl) (mm_st1_s (mm_st1_s mm_st1_i)) ?_
  refine mg_iconst (pc := 4) dX11_favourite_4 kc_0 ?_
  refine ml_istore (pc := 5) dX11_favourite_5 (Nat.le_of_ble_eq_true rfl) (mm_st1_s (mm_st1_s (mm_st1_s mm_st1_i))) ?_
  exact mg_weak (mm_le_s (mm_le_s (mm_le_s (mm_le_s (mm_le_s (mm_le_n mm_le_0)))))) (X11_favourite_L7_ok hz hd h0 _ _ _ _ _ _ hr)
theorem dX11_lowest_0 : decode cX11_lowest 0 = .ok (.lload_n 2, 1) := by decide +kernel
theorem dX11_lowest_1 : decode cX11_lowest 1 = .ok (.lstore 5, 2) := by decide +kernel
theorem dX11_lowest_3 : decode cX11_lowest 3 = .ok (.lload_n 0, 1) := by decide +kernel
theorem dX11_lowest_4 : decode cX11_lowest 4 = .ok (.lstore 7, 2) := by decide +kernel
theorem dX11_lowest_6 : decode cX11_lowest 6 = .ok (.iconst 0, 1) := by decide +kernel
theorem dX11_lowest_7 : decode cX11_lowest 7 = .ok (.istore 9, 2) := by decide +kernel
theorem dX11_lowest_9 : decode cX11_lowest 9 = .ok (.iload 9, 2) := by decide +kernel
theorem dX11_lowest_11 : decode cX11_lowest 11 = .ok (.sipush 200, 3) := by decide +kernel
theorem dX11_lowest_14 : decode cX11_lowest 14 = .ok (.if_icmp .ge 31, 3) := by decide +kernel
theorem dX11_lowest_17 : decode cX11_lowest 17 = .ok (.lload 7, 2) := by decide +kernel
theorem dX11_lowest_19 : decode cX11_lowest 19 = .ok (.lconst 0, 1) := by decide +kernel
theorem dX11_lowest_20 : decode cX11_lowest 20 = .ok (.lcmp, 1) := by decide +kernel
theorem dX11_lowest_21 : decode cX11_lowest 21 = .ok (.ifCond .eq 24, 3) := by decide +kernel
theorem dX11_lowest_24 : decode cX11_lowest 24 = .ok (.lload 5, 2) := by decide +kernel
theorem dX11_lowest_26 : decode cX11_lowest 26 = .ok (.lload 7, 2) := by decide +kernel
theorem dX11_lowest_28 : decode cX11_lowest 28 = .ok (.lrem, 1) := by decide +kernel
theorem dX11_lowest_29 : decode cX11_lowest 29 = .ok (.lstore 10, 2) := by decide +kernel
theorem dX11_lowest_31 : decode cX11_lowest 31 = .ok (.lload 7, 2) := by decide +kernel
theorem dX11_lowest_33 : decode cX11_lowest 33 = .ok (.lstore 5, 2) := by decide +kernel
theorem dX11_lowest_35 : decode cX11_lowest 35 = .ok (.lload 10, 2) := by decide +kernel
theorem dX11_lowest_37 : decode cX11_lowest 37 = .ok (.lstore 7, 2) := by decide +kernel
theorem dX11_lowest_39 : decode cX11_lowest 39 = .ok (.iinc 9 1, 3) := by decide +kernel
theorem dX11_lowest_42 : decode cX11_lowest 42 = .ok (.goto (-33), 3) := by decide +kernel
theorem dX11_lowest_45 : decode cX11_lowest 45 = .ok (.iload 4, 2) := by decide +kernel
theorem dX11_lowest_47 : decode cX11_lowest 47 = .ok (.ifCond .eq 7, 3) := by decide +kernel
theorem dX11_lowest_50 : decode cX11_lowest 50 = .ok (.lload_n 0, 1) := by decide +kernel
theorem dX11_lowest_51 : decode cX11_lowest 51 = .ok (.goto 4, 3) := by decide +kernel
theorem dX11_lowest_54 : decode cX11_lowest 54 = .ok (.lload_n 2, 1) := by decide +kernel
theorem dX11_lowest_55 : decode cX11_lowest 55 = .ok (.lstore 9, 2) := by decide +kernel
theorem dX11_lowest_57 : decode cX11_lowest 57 = .ok (.lload 5, 2) := by decide +kernel
theorem dX11_lowest_59 : decode cX11_lowest 59 = .ok (.lconst 0, 1) := by decide +kernel
theorem dX11_lowest_60 : decode cX11_lowest 60 = .ok (.lcmp, 1) := by decide +kernel
theorem dX11_lowest_61 : decode cX11_lowest 61 = .ok (.ifCond .ne 8, 3) := by decide +kernel
theorem dX11_lowest_64 : decode cX11_lowest 64 = .ok (.lload 9, 2) := by decide +kernel
theorem dX11_lowest_66 : decode cX11_lowest 66 = .ok (.goto 8, 3) := by decide +kernel
theorem dX11_lowest_69 : decode cX11_lowest 69 = .ok (.lload 9, 2) := by decide +kernel
theorem dX11_lowest_71 : decode cX11_lowest 71 = .ok (.lload 5, 2) := by decide +kernel
theorem dX11_lowest_73 : decode cX11_lowest 73 = .ok (.ldiv, 1) := by decide +kernel
theorem dX11_lowest_74 : decode cX11_lowest 74 = .ok (.lreturn, 1) := by decide +kernel
def X11_lowest_b74 (e : mm_E) (t0 : Int64) (m : mm_V) : Option (Int64 × mm_V) := some (t0, m)
theorem X11_lowest_b74_ok {K : mm_K} {nx : Option Nat} {e : mm_E} (hz : e.2.1 = K.2.2.2.2) {d : Nat} (hd : 0 ≤ d) {t0 : Int64} {m : mm_V} {r : (Int64 × mm_V)} (hr : X11_lowest_b74 e t0 m = some r) : mm_G K MX11_lowest d (mm_Fl e.1 nx r) 74 [none, none, none, none, none, none, none, none, none, none, none, none] [.long t0] (e.1, m) nx 0 0 := by
  unfold X11_lowest_b74 at hr
  exact mb_lret dX11_lowest_74 rfl hr
def X11_lowest_b55 (e : mm_E) (j5 : Int64) (t0 : Int64) (m : mm_V) : Option (Int64 × mm_V) := if ¬ (lg_cmp j5 (0 : Int64)) = 0 then (if j5 = 0 then none else X11_lowest_b74 e  (t0 / j5) m) else (X11_lowest_b74 e  t0 m)
theorem X11_lowest_b55_ok {K : mm_K} {nx : Option Nat} {e : mm_E} (hz : e.2.1 = K.2.2.2.2) {d : Nat} (hd : 0 ≤ d) {j5 : Int64} {t0 : Int64} {m : mm_V} {r : (Int64 × mm_V)} (hr : X11_lowest_b55 e j5 t0 m = some r) : mm_G K MX11_lowest d (mm_Fl e.1 nx r) 55 [none, none, none, none, none, some (.long j5), none, none, none, none, none, none] [.long t0] (e.1, m) nx 0 0 := by
  unfold X11_lowest_b55 at hr
  refine ml_lstore (pc := 55) dX11_lowest_55 (Nat.le_of_ble_eq_true rfl) (mm_st2_s (mm_st2_s (mm_st2_s (mm_st2_s (mm_st2_s (mm_st2_s (mm_st2_s (mm_st2_s mm_st2_n)))))))) ?_
  refine ml_lload (pc := 57) dX11_lowest_57 (mm_get_s (mm_get_s (mm_get_s (mm_get_s (mm_get_s mm_get_0))))) ?_
  refine mg_lconst (pc := 59) dX11_lowest_59 (v := (0 : Int64)) (by decide) ?_
  refine mg_lcmp (pc := 60) dX11_lowest_60 ?_
  refine mb_if_ne (pc := 61) 69 dX11_lowest_61 rfl hr (fun hr => ?_) (fun hr => ?_)
  · refine ml_lload (pc := 69) dX11_lowest_69 (mm_get_s (mm_get_s (mm_get_s (mm_get_s (mm_get_s (mm_get_s (mm_get_s (mm_get_s (mm_get_s mm_get_0))))))))) ?_
    refine ml_lload (pc := 71) dX11_lowest_71 (mm_get_s (mm_get_s (mm_get_s (mm_get_s (mm_get_s mm_get_0))))) ?_
    refine mb_ldiv (pc := 73) dX11_lowest_73 hr (fun hr => ?_)
    exact mg_weak (mm_le_n (mm_le_n (mm_le_n (mm_le_n (mm_le_n (mm_le_n (mm_le_n (mm_le_n (mm_le_n (mm_le_n (mm_le_n (mm_le_n mm_le_0)))))))))))) (X11_lowest_b74_ok hz hd hr)
  · refine ml_lload (pc := 64) dX11_lowest_64 (mm_get_s (mm_get_s (mm_get_s (mm_get_s (mm_get_s (mm_get_s (mm_get_s (mm_get_s (mm_get_s mm_get_0))))))))) ?_
    refine mg_goto (pc := 66) 74 dX11_lowest_66 rfl ?_
    exact mg_weak (mm_le_n (mm_le_n (mm_le_n (mm_le_n (mm_le_n (mm_le_n (mm_le_n (mm_le_n (mm_le_n (mm_le_n (mm_le_n (mm_le_n mm_le_0)))))))))))) (X11_lowest_b74_ok hz hd hr)
def X11_lowest_b45 (e : mm_E) (j0 : Int64) (j2 : Int64) (i4 : Int32) (j5 : Int64) (m : mm_V) : Option (Int64 × mm_V) := if i4 = 0 then (X11_lowest_b55 e j5 j2 m) else (X11_lowest_b55 e j5 j0 m)
theorem X11_lowest_b45_ok {K : mm_K} {nx : Option Nat} {e : mm_E} (hz : e.2.1 = K.2.2.2.2) {d : Nat} (hd : 0 ≤ d) {j0 : Int64} {j2 : Int64} {i4 : Int32} {j5 : Int64} {m : mm_V} {r : (Int64 × mm_V)} (hr : X11_lowest_b45 e j0 j2 i4 j5 m = some r) : mm_G K MX11_lowest d (mm_Fl e.1 nx r) 45 [some (.long j0), none, some (.long j2), none, some (.int i4), some (.long j5), none, none, none, none, none, none] [] (e.1, m) nx 0 0 := by
  unfold X11_lowest_b45 at hr
  refine ml_iload (pc := 45) dX11_lowest_45 (mm_get_s (mm_get_s (mm_get_s (mm_get_s mm_get_0)))) ?_
  refine mb_if_eq (pc := 47) 54 dX11_lowest_47 rfl hr (fun hr => ?_) (fun hr => ?_)
  · refine ml_lload_n (pc := 54) dX11_lowest_54 rfl (mm_get_s (mm_get_s mm_get_0)) ?_
    exact mg_weak (mm_le_n (mm_le_n (mm_le_n (mm_le_n (mm_le_n (mm_le_s (mm_le_n (mm_le_n (mm_le_n (mm_le_n (mm_le_n (mm_le_n mm_le_0)))))))))))) (X11_lowest_b55_ok hz hd hr)
  · refine ml_lload_n (pc := 50) dX11_lowest_50 rfl mm_get_0 ?_
    refine mg_goto (pc := 51) 55 dX11_lowest_51 rfl ?_
    exact mg_weak (mm_le_n (mm_le_n (mm_le_n (mm_le_n (mm_le_n (mm_le_s (mm_le_n (mm_le_n (mm_le_n (mm_le_n (mm_le_n (mm_le_n mm_le_0)))))))))))) (X11_lowest_b55_ok hz hd hr)
def X11_lowest_L9 (e : mm_E) (j0 : Int64) (j2 : Int64) (i4 : Int32) : Nat → Int64 → Int64 → Int32 → mm_V → Option (Int64 × mm_V)
  | 0, _, _, _, _ => none
  | n + 1, j5, j7, i9, m => if (200 : Int32) ≤ i9 then (X11_lowest_b45 e j0 j2 i4 j5  m) else (if (lg_cmp j7 (0 : Int64)) = 0 then (X11_lowest_b45 e j0 j2 i4 j5  m) else (if j7 = 0 then none else X11_lowest_L9 e j0 j2 i4 n j7 (j5 - j5 / j7 * j7) (i9 + 1) m))
theorem X11_lowest_L9_ok {K : mm_K} {nx : Option Nat} {e : mm_E} (hz : e.2.1 = K.2.2.2.2) {d : Nat} (hd : 0 ≤ d) {j0 : Int64} {j2 : Int64} {i4 : Int32} : ∀ (n : Nat) (j5 : Int64) (j7 : Int64) (i9 : Int32) (m : mm_V) (r : (Int64 × mm_V)), X11_lowest_L9 e j0 j2 i4 n j5 j7 i9 m = some r → mm_G K MX11_lowest d (mm_Fl e.1 nx r) 9 [some (.long j0), none, some (.long j2), none, some (.int i4), some (.long j5), none, some (.long j7), none, some (.int i9), none, none] [] (e.1, m) nx 0 0 := by
  intro n
  induction n with
  | zero => intro j5 j7 i9 m r hr; unfold X11_lowest_L9 at hr; cases hr
  | succ n ih =>
    intro j5 j7 i9 m r hr
    unfold X11_lowest_L9 at hr
    refine ml_iload (pc := 9) dX11_lowest_9 (mm_get_s (mm_get_s (mm_get_s (mm_get_s (mm_get_s (mm_get_s (mm_get_s (mm_get_s (mm_get_s mm_get_0))))))))) ?_
    refine mg_sipush (pc := 11) dX11_lowest_11 ks_200 ?_
    refine mb_icmp_ge (pc := 14) 45 dX11_lowest_14 rfl hr (fun hr => ?_) (fun hr => ?_)
    · exact mg_weak (mm_le_s (mm_le_n (mm_le_s (mm_le_n (mm_le_s (mm_le_s (mm_le_n (mm_le_n (mm_le_n (mm_le_n (mm_le_n (mm_le_n mm_le_0)))))))))))) (X11_lowest_b45_ok hz hd hr)
    · refine ml_lload (pc := 17) dX11_lowest_17 (mm_get_s (mm_get_s (mm_get_s (mm_get_s (mm_get_s (mm_get_s (mm_get_s mm_get_0))))))) ?_
      refine mg_lconst (pc := 19) dX11_lowest_19 (v := (0 : Int64)) (by decide) ?_
      refine mg_lcmp (pc := 20) dX11_lowest_20 ?_
      refine mb_if_eq (pc := 21) 45 dX11_lowest_21 rfl hr (fun hr => ?_) (fun hr => ?_)
      · exact mg_weak (mm_le_s (mm_le_n (mm_le_s (mm_le_n (mm_le_s (mm_le_s (mm_le_n (mm_le_n (mm_le_n (mm_le_n (mm_le_n (mm_le_n mm_le_0)))))))))))) (X11_lowest_b45_ok hz hd hr)
      · refine ml_lload (pc := 24) dX11_lowest_24 (mm_get_s (mm_get_s (mm_get_s (mm_get_s (mm_get_s mm_get_0))))) ?_
        refine ml_lload (pc := 26) dX11_lowest_26 (mm_get_s (mm_get_s (mm_get_s (mm_get_s (mm_get_s (mm_get_s (mm_get_s mm_get_0))))))) ?_
        refine mb_lrem (pc := 28) dX11_lowest_28 hr (fun hr => ?_)
        refine ml_lstore (pc := 29) dX11_lowest_29 (Nat.le_of_ble_eq_true rfl) (mm_st2_s (mm_st2_s (mm_st2_s (mm_st2_s (mm_st2_s (mm_st2_s (mm_st2_s (mm_st2_s (mm_st2_s mm_st2_i))))))))) ?_
        refine ml_lload (pc := 31) dX11_lowest_31 (mm_get_s (mm_get_s (mm_get_s (mm_get_s (mm_get_s (mm_get_s (mm_get_s mm_get_0))))))) ?_
        refine ml_lstore (pc := 33) dX11_lowest_33 (Nat.le_of_ble_eq_true rfl) (mm_st2_s (mm_st2_s (mm_st2_s (mm_st2_s mm_st2_i)))) ?_
        refine ml_lload (pc := 35) dX11_lowest_35 (mm_get_s (mm_get_s (mm_get_s (mm_get_s (mm_get_s (mm_get_s (mm_get_s (mm_get_s (mm_get_s (mm_get_s mm_get_0)))))))))) ?_
        refine ml_lstore (pc := 37) dX11_lowest_37 (Nat.le_of_ble_eq_true rfl) (mm_st2_s (mm_st2_s (mm_st2_s (mm_st2_s (mm_st2_s (mm_st2_s mm_st2_n)))))) ?_
        refine ml_iinc (pc := 39) dX11_lowest_39 (mm_get_s (mm_get_s (mm_get_s (mm_get_s (mm_get_s (mm_get_s (mm_get_s (mm_get_s (mm_get_s mm_get_0))))))))) (congrArg (fun z => i9 + z) kc_1) (Nat.le_of_ble_eq_true rfl) (mm_st1_s (mm_st1_s (mm_st1_s (mm_st1_s (mm_st1_s (mm_st1_s (mm_st1_s (mm_st1_s mm_st1_n)))))))) ?_
        refine mg_goto (pc := 42) 9 dX11_lowest_42 rfl ?_
        exact mg_weak (mm_le_s (mm_le_n (mm_le_s (mm_le_n (mm_le_s (mm_le_s (mm_le_n (mm_le_s (mm_le_n (mm_le_s (mm_le_n (mm_le_n mm_le_0)))))))))))) (ih _ _ _ _ _ hr)
def X11_lowest (e : mm_E) (j0 : Int64) (j2 : Int64) (i4 : Int32) (m : mm_V) : Option (Int64 × mm_V) := X11_lowest_L9 e j0 j2 i4 e.2.2 j2 j0 (0 : Int32) m
theorem X11_lowest_ok {K : mm_K} {nx : Option Nat} {e : mm_E} (hz : e.2.1 = K.2.2.2.2) {d : Nat} (hd : 0 ≤ d) {j0 : Int64} {j2 : Int64} {i4 : Int32} {m : mm_V} {r : (Int64 × mm_V)} (hr : X11_lowest e j0 j2 i4 m = some r) : mm_Cn K MX11_lowest d (mm_Fl e.1 nx r) [.long j0, .long j2, .int i4] (e.1, m) nx := by
  refine mm_entry (by decide) (Nat.le_of_ble_eq_true rfl) rfl (fun hok => ?_)
  unfold X11_lowest at hr
  refine mg_weak (L' := [some (.long j0), none, some (.long j2), none, some (.int i4), none, none, none, none, none, none, none]) (mm_le_s (mm_le_n (mm_le_s (mm_le_n (mm_le_s (mm_le_e (mm_le_e (mm_le_e (mm_le_e (mm_le_e (mm_le_e (mm_le_e mm_le_0)))))))))))) ?_
  refine ml_lload_n (pc := 0) dX11_lowest_0 rfl (mm_get_s (mm_get_s mm_get_0)) ?_
  refine ml_lstore (pc := 1) dX11_lowest_1 (Nat.le_of_ble_eq_true rfl) (mm_st2_s (mm_st2_s (mm_st2_s (mm_st2_s mm_st2_i)))) ?_
  refine ml_lload_n (pc := 3) dX11_lowest_3 rfl mm_get_0 ?_
  refine ml_lstore (pc := 4) dX11_lowest_4 (Nat.le_of_ble_eq_true rfl) (mm_st2_s (mm_st2_s (mm_st2_s (mm_st2_s (mm_st2_s (mm_st2_s mm_st2_n)))))) ?_
  refine mg_iconst (pc := 6) dX11_lowest_6 kc_0 ?_
  refine ml_istore (pc := 7) dX11_lowest_7 (Nat.le_of_ble_eq_true rfl) (mm_st1_s (mm_st1_s (mm_st1_s (mm_st1_s (mm_st1_s (mm_st1_s (mm_st1_s (mm_st1_s mm_st1_n)))))))) ?_
  exact mg_weak (mm_le_s (mm_le_n (mm_le_s (mm_le_n (mm_le_s (mm_le_s (mm_le_n (mm_le_s (mm_le_n (mm_le_s (mm_le_n (mm_le_n mm_le_0)))))))))))) (X11_lowest_L9_ok hz hd _ _ _ _ _ _ hr)
theorem dX11_twoWithout_0 : decode cX11_twoWithout 0 = .ok (.iload_n 0, 1) := by decide +kernel
theorem dX11_twoWithout_1 : decode cX11_twoWithout 1 = .ok (.iconst 1, 1) := by decide +kernel
theorem dX11_twoWithout_2 : decode cX11_twoWithout 2 = .ok (.iand, 1) := by decide +kernel
theorem dX11_twoWithout_3 : decode cX11_twoWithout 3 = .ok (.iconst 1, 1) := by decide +kernel
theorem dX11_twoWithout_4 : decode cX11_twoWithout 4 = .ok (.if_icmp .ne 7, 3) := by decide +kernel
theorem dX11_twoWithout_7 : decode cX11_twoWithout 7 = .ok (.iconst 1, 1) := by decide +kernel
theorem dX11_twoWithout_8 : decode cX11_twoWithout 8 = .ok (.goto 4, 3) := by decide +kernel
theorem dX11_twoWithout_11 : decode cX11_twoWithout 11 = .ok (.iconst 0, 1) := by decide +kernel
theorem dX11_twoWithout_12 : decode cX11_twoWithout 12 = .ok (.istore_n 2, 1) := by decide +kernel
theorem dX11_twoWithout_13 : decode cX11_twoWithout 13 = .ok (.iload_n 2, 1) := by decide +kernel
theorem dX11_twoWithout_14 : decode cX11_twoWithout 14 = .ok (.ifCond .eq 7, 3) := by decide +kernel
theorem dX11_twoWithout_17 : decode cX11_twoWithout 17 = .ok (.lconst 1, 1) := by decide +kernel
theorem dX11_twoWithout_18 : decode cX11_twoWithout 18 = .ok (.goto 4, 3) := by decide +kernel
theorem dX11_twoWithout_21 : decode cX11_twoWithout 21 = .ok (.lconst 0, 1) := by decide +kernel
theorem dX11_twoWithout_22 : decode cX11_twoWithout 22 = .ok (.lstore_n 3, 1) := by decide +kernel
theorem dX11_twoWithout_23 : decode cX11_twoWithout 23 = .ok (.iload_n 2, 1) := by decide +kernel
theorem dX11_twoWithout_24 : decode cX11_twoWithout 24 = .ok (.ifCond .eq 9, 3) := by decide +kernel
theorem dX11_twoWithout_27 : decode cX11_twoWithout 27 = .ok (.ldc2_w 361, 3) := by decide +kernel
theorem dX11_twoWithout_30 : decode cX11_twoWithout 30 = .ok (.goto 4, 3) := by decide +kernel
theorem dX11_twoWithout_33 : decode cX11_twoWithout 33 = .ok (.lconst 1, 1) := by decide +kernel
theorem dX11_twoWithout_34 : decode cX11_twoWithout 34 = .ok (.lstore 5, 2) := by decide +kernel
theorem dX11_twoWithout_36 : decode cX11_twoWithout 36 = .ok (.iload_n 2, 1) := by decide +kernel
theorem dX11_twoWithout_37 : decode cX11_twoWithout 37 = .ok (.ifCond .eq 7, 3) := by decide +kernel
theorem dX11_twoWithout_40 : decode cX11_twoWithout 40 = .ok (.iconst 3, 1) := by decide +kernel
theorem dX11_twoWithout_41 : decode cX11_twoWithout 41 = .ok (.goto 4, 3) := by decide +kernel
theorem dX11_twoWithout_44 : decode cX11_twoWithout 44 = .ok (.iconst 2, 1) := by decide +kernel
theorem dX11_twoWithout_45 : decode cX11_twoWithout 45 = .ok (.istore 7, 2) := by decide +kernel
theorem dX11_twoWithout_47 : decode cX11_twoWithout 47 = .ok (.iload 7, 2) := by decide +kernel
theorem dX11_twoWithout_49 : decode cX11_twoWithout 49 = .ok (.iload_n 0, 1) := by decide +kernel
theorem dX11_twoWithout_50 : decode cX11_twoWithout 50 = .ok (.if_icmp .gt 28, 3) := by decide +kernel
theorem dX11_twoWithout_53 : decode cX11_twoWithout 53 = .ok (.lload 5, 2) := by decide +kernel
theorem dX11_twoWithout_55 : decode cX11_twoWithout 55 = .ok (.iload 7, 2) := by decide +kernel
theorem dX11_twoWithout_57 : decode cX11_twoWithout 57 = .ok (.i2l, 1) := by decide +kernel
theorem dX11_twoWithout_58 : decode cX11_twoWithout 58 = .ok (.lload_n 3, 1) := by decide +kernel
theorem dX11_twoWithout_59 : decode cX11_twoWithout 59 = .ok (.lmul, 1) := by decide +kernel
theorem dX11_twoWithout_60 : decode cX11_twoWithout 60 = .ok (.ladd, 1) := by decide +kernel
theorem dX11_twoWithout_61 : decode cX11_twoWithout 61 = .ok (.lstore_n 3, 1) := by decide +kernel
theorem dX11_twoWithout_62 : decode cX11_twoWithout 62 = .ok (.lload 5, 2) := by decide +kernel
theorem dX11_twoWithout_64 : decode cX11_twoWithout 64 = .ok (.iload 7, 2) := by decide +kernel
theorem dX11_twoWithout_66 : decode cX11_twoWithout 66 = .ok (.iconst 2, 1) := by decide +kernel
theorem dX11_twoWithout_67 : decode cX11_twoWithout 67 = .ok (.iadd, 1) := by decide +kernel
theorem dX11_twoWithout_68 : decode cX11_twoWithout 68 = .ok (.i2l, 1) := by decide +kernel
theorem dX11_twoWithout_69 : decode cX11_twoWithout 69 = .ok (.lmul, 1) := by decide +kernel
theorem dX11_twoWithout_70 : decode cX11_twoWithout 70 = .ok (.lstore 5, 2) := by decide +kernel
theorem dX11_twoWithout_72 : decode cX11_twoWithout 72 = .ok (.iinc 7 2, 3) := by decide +kernel
theorem dX11_twoWithout_75 : decode cX11_twoWithout 75 = .ok (.goto (-28), 3) := by decide +kernel
theorem dX11_twoWithout_78 : decode cX11_twoWithout 78 = .ok (.lload_n 3, 1) := by decide +kernel
theorem dX11_twoWithout_79 : decode cX11_twoWithout 79 = .ok (.lload 5, 2) := by decide +kernel
theorem dX11_twoWithout_81 : decode cX11_twoWithout 81 = .ok (.iload_n 1, 1) := by decide +kernel
theorem dX11_twoWithout_82 : decode cX11_twoWithout 82 = .ok (.invokestatic 247, 3) := by decide +kernel
theorem dX11_twoWithout_85 : decode cX11_twoWithout 85 = .ok (.lreturn, 1) := by decide +kernel
def X11_twoWithout_L47 (e : mm_E) (i0 : Int32) (i1 : Int32) : Nat → Int64 → Int64 → Int32 → mm_V → Option (Int64 × mm_V)
  | 0, _, _, _, _ => none
  | n + 1, j3, j5, i7, m => if i0 < i7 then ((X11_lowest e j3 j5 i1 m).bind fun r1 => some (r1.1, r1.2)) else (X11_twoWithout_L47 e i0 i1 n (j5 + (i7.toInt64 * j3)) (j5 * (i7 + (2 : Int32)).toInt64) (i7 + 2) m)
theorem X11_twoWithout_L47_ok {K : mm_K} {nx : Option Nat} {e : mm_E} (hz : e.2.1 = K.2.2.2.2) {d : Nat} (hd : 1 ≤ d) {i0 : Int32} {i1 : Int32} : ∀ (n : Nat) (j3 : Int64) (j5 : Int64) (i7 : Int32) (m : mm_V) (r : (Int64 × mm_V)), X11_twoWithout_L47 e i0 i1 n j3 j5 i7 m = some r → mm_G K MX11_twoWithout d (mm_Fl e.1 nx r) 47 [some (.int i0), some (.int i1), none, some (.long j3), none, some (.long j5), none, some (.int i7)] [] (e.1, m) nx 0 0 := by
  obtain ⟨d, rfl⟩ : ∃ d', d = d' + 1 := ⟨d - 1, by omega⟩
  intro n
  induction n with
  | zero => intro j3 j5 i7 m r hr; unfold X11_twoWithout_L47 at hr; cases hr
  | succ n ih =>
    intro j3 j5 i7 m r hr
    unfold X11_twoWithout_L47 at hr
    refine ml_iload (pc := 47) dX11_twoWithout_47 (mm_get_s (mm_get_s (mm_get_s (mm_get_s (mm_get_s (mm_get_s (mm_get_s mm_get_0))))))) ?_
    refine ml_iload_n (pc := 49) dX11_twoWithout_49 rfl mm_get_0 ?_
    refine mb_icmp_gt (pc := 50) 78 dX11_twoWithout_50 rfl hr (fun hr => ?_) (fun hr => ?_)
    · refine ml_lload_n (pc := 78) dX11_twoWithout_78 rfl (mm_get_s (mm_get_s (mm_get_s mm_get_0))) ?_
      refine ml_lload (pc := 79) dX11_twoWithout_79 (mm_get_s (mm_get_s (mm_get_s (mm_get_s (mm_get_s mm_get_0))))) ?_
      refine ml_iload_n (pc := 81) dX11_twoWithout_81 rfl (mm_get_s mm_get_0) ?_
      refine mb_cSl (pc := 82) (As := [.long j3, .long j5, .int i1]) (rest := []) dX11_twoWithout_82 cw_X11_247  hr (fun v hv => X11_lowest_ok hz (by omega)  hv) rfl (Nat.le_of_ble_eq_true rfl) (Nat.zero_le _) (Nat.zero_le _) (fun r1 hr => ?_)
      exact mb_lret dX11_twoWithout_85 rfl hr
    · refine ml_lload (pc := 53) dX11_twoWithout_53 (mm_get_s (mm_get_s (mm_get_s (mm_get_s (mm_get_s mm_get_0))))) ?_
      refine ml_iload (pc := 55) dX11_twoWithout_55 (mm_get_s (mm_get_s (mm_get_s (mm_get_s (mm_get_s (mm_get_s (mm_get_s mm_get_0))))))) ?_
      refine mg_i2l (pc := 57) dX11_twoWithout_57 ?_
      refine ml_lload_n (pc := 58) dX11_twoWithout_58 rfl (mm_get_s (mm_get_s (mm_get_s mm_get_0))) ?_
      refine mg_lmul (pc := 59) dX11_twoWithout_59 ?_
      refine mg_ladd (pc := 60) dX11_twoWithout_60 ?_
      refine ml_lstore_n (pc := 61) dX11_twoWithout_61 rfl (Nat.le_of_ble_eq_true rfl) (mm_st2_s (mm_st2_s mm_st2_n)) ?_
      refine ml_lload (pc := 62) dX11_twoWithout_62 (mm_get_s (mm_get_s (mm_get_s (mm_get_s (mm_get_s mm_get_0))))) ?_
      refine ml_iload (pc := 64) dX11_twoWithout_64 (mm_get_s (mm_get_s (mm_get_s (mm_get_s (mm_get_s (mm_get_s (mm_get_s mm_get_0))))))) ?_
      refine mg_iconst (pc := 66) dX11_twoWithout_66 kc_2 ?_
      refine mg_iadd (pc := 67) dX11_twoWithout_67 ?_
      refine mg_i2l (pc := 68) dX11_twoWithout_68 ?_
      refine mg_lmul (pc := 69) dX11_twoWithout_69 ?_
      refine ml_lstore (pc := 70) dX11_twoWithout_70 (Nat.le_of_ble_eq_true rfl) (mm_st2_s (mm_st2_s (mm_st2_s (mm_st2_s mm_st2_n)))) ?_
      refine ml_iinc (pc := 72) dX11_twoWithout_72 (mm_get_s (mm_get_s (mm_get_s (mm_get_s (mm_get_s (mm_get_s (mm_get_s mm_get_0))))))) (congrArg (fun z => i7 + z) kc_2) (Nat.le_of_ble_eq_true rfl) (mm_st1_s (mm_st1_s (mm_st1_s (mm_st1_s (mm_st1_s (mm_st1_s mm_st1_n)))))) ?_
      refine mg_goto (pc := 75) 47 dX11_twoWithout_75 rfl ?_
      exact mg_weak (mm_le_s (mm_le_s (mm_le_n (mm_le_s (mm_le_n (mm_le_s (mm_le_n (mm_le_s mm_le_0)))))))) (ih _ _ _ _ _ hr)
def X11_twoWithout_b45 (e : mm_E) (i0 : Int32) (i1 : Int32) (j3 : Int64) (j5 : Int64) (t0 : Int32) (m : mm_V) : Option (Int64 × mm_V) := X11_twoWithout_L47 e i0 i1 e.2.2 j3 j5 t0 m
theorem X11_twoWithout_b45_ok {K : mm_K} {nx : Option Nat} {e : mm_E} (hz : e.2.1 = K.2.2.2.2) {d : Nat} (hd : 1 ≤ d) {i0 : Int32} {i1 : Int32} {j3 : Int64} {j5 : Int64} {t0 : Int32} {m : mm_V} {r : (Int64 × mm_V)} (hr : X11_twoWithout_b45 e i0 i1 j3 j5 t0 m = some r) : mm_G K MX11_twoWithout d (mm_Fl e.1 nx r) 45 [some (.int i0), some (.int i1), none, some (.long j3), none, some (.long j5), none, none] [.int t0] (e.1, m) nx 0 0 := by
  obtain ⟨d, rfl⟩ : ∃ d', d = d' + 1 := ⟨d - 1, by omega⟩
  unfold X11_twoWithout_b45 at hr
  refine ml_istore (pc := 45) dX11_twoWithout_45 (Nat.le_of_ble_eq_true rfl) (mm_st1_s (mm_st1_s (mm_st1_s (mm_st1_s (mm_st1_s (mm_st1_s mm_st1_n)))))) ?_
  exact mg_weak (mm_le_s (mm_le_s (mm_le_n (mm_le_s (mm_le_n (mm_le_s (mm_le_n (mm_le_s mm_le_0)))))))) (X11_twoWithout_L47_ok hz hd _ _ _ _ _ _ hr)
def X11_twoWithout_b34 (e : mm_E) (i0 : Int32) (i1 : Int32) (i2 : Int32) (j3 : Int64) (t0 : Int64) (m : mm_V) : Option (Int64 × mm_V) := if i2 = 0 then (X11_twoWithout_b45 e i0 i1 j3 t0 (2 : Int32) m) else (X11_twoWithout_b45 e i0 i1 j3 t0 (3 : Int32) m)
theorem X11_twoWithout_b34_ok {K : mm_K} {nx : Option Nat} {e : mm_E} (hz : e.2.1 = K.2.2.2.2) {d : Nat} (hd : 1 ≤ d) {i0 : Int32} {i1 : Int32} {i2 : Int32} {j3 : Int64} {t0 : Int64} {m : mm_V} {r : (Int64 × mm_V)} (hr : X11_twoWithout_b34 e i0 i1 i2 j3 t0 m = some r) : mm_G K MX11_twoWithout d (mm_Fl e.1 nx r) 34 [some (.int i0), some (.int i1), some (.int i2), some (.long j3), none, none, none, none] [.long t0] (e.1, m) nx 0 0 := by
  obtain ⟨d, rfl⟩ : ∃ d', d = d' + 1 := ⟨d - 1, by omega⟩
  unfold X11_twoWithout_b34 at hr
  refine ml_lstore (pc := 34) dX11_twoWithout_34 (Nat.le_of_ble_eq_true rfl) (mm_st2_s (mm_st2_s (mm_st2_s (mm_st2_s mm_st2_n)))) ?_
  refine ml_iload_n (pc := 36) dX11_twoWithout_36 rfl (mm_get_s (mm_get_s mm_get_0)) ?_
  refine mb_if_eq (pc := 37) 44 dX11_twoWithout_37 rfl hr (fun hr => ?_) (fun hr => ?_)
  · refine mg_iconst (pc := 44) dX11_twoWithout_44 kc_2 ?_
    exact mg_weak (mm_le_s (mm_le_s (mm_le_n (mm_le_s (mm_le_n (mm_le_s (mm_le_n (mm_le_n mm_le_0)))))))) (X11_twoWithout_b45_ok hz hd hr)
  · refine mg_iconst (pc := 40) dX11_twoWithout_40 kc_3 ?_
    refine mg_goto (pc := 41) 45 dX11_twoWithout_41 rfl ?_
    exact mg_weak (mm_le_s (mm_le_s (mm_le_n (mm_le_s (mm_le_n (mm_le_s (mm_le_n (mm_le_n mm_le_0)))))))) (X11_twoWithout_b45_ok hz hd hr)
def X11_twoWithout_b22 (e : mm_E) (i0 : Int32) (i1 : Int32) (i2 : Int32) (t0 : Int64) (m : mm_V) : Option (Int64 × mm_V) := if i2 = 0 then (X11_twoWithout_b34 e i0 i1 i2 t0 (1 : Int64) m) else (X11_twoWithout_b34 e i0 i1 i2 t0 (3 : Int64) m)
theorem X11_twoWithout_b22_ok {K : mm_K} {nx : Option Nat} {e : mm_E} (hz : e.2.1 = K.2.2.2.2) {d : Nat} (hd : 1 ≤ d) {i0 : Int32} {i1 : Int32} {i2 : Int32} {t0 : Int64} {m : mm_V} {r : (Int64 × mm_V)} (hr : X11_twoWithout_b22 e i0 i1 i2 t0 m = some r) : mm_G K MX11_twoWithout d (mm_Fl e.1 nx r) 22 [some (.int i0), some (.int i1), some (.int i2), none, none, none, none, none] [.long t0] (e.1, m) nx 0 0 := by
  obtain ⟨d, rfl⟩ : ∃ d', d = d' + 1 := ⟨d - 1, by omega⟩
  unfold X11_twoWithout_b22 at hr
  refine ml_lstore_n (pc := 22) dX11_twoWithout_22 rfl (Nat.le_of_ble_eq_true rfl) (mm_st2_s (mm_st2_s mm_st2_i)) ?_
  refine ml_iload_n (pc := 23) dX11_twoWithout_23 rfl (mm_get_s (mm_get_s mm_get_0)) ?_
  refine mb_if_eq (pc := 24) 33 dX11_twoWithout_24 rfl hr (fun hr => ?_) (fun hr => ?_)
  · refine mg_lconst (pc := 33) dX11_twoWithout_33 (v := (1 : Int64)) (by decide) ?_
    exact mg_weak (mm_le_s (mm_le_s (mm_le_s (mm_le_s (mm_le_n (mm_le_n (mm_le_n (mm_le_n mm_le_0)))))))) (X11_twoWithout_b34_ok hz hd hr)
  · refine mg_ldc2 (pc := 27) dX11_twoWithout_27 (v := (3 : Int64)) tw_1156 ?_
    refine mg_goto (pc := 30) 34 dX11_twoWithout_30 rfl ?_
    exact mg_weak (mm_le_s (mm_le_s (mm_le_s (mm_le_s (mm_le_n (mm_le_n (mm_le_n (mm_le_n mm_le_0)))))))) (X11_twoWithout_b34_ok hz hd hr)
def X11_twoWithout_b12 (e : mm_E) (i0 : Int32) (i1 : Int32) (t0 : Int32) (m : mm_V) : Option (Int64 × mm_V) := if t0 = 0 then (X11_twoWithout_b22 e i0 i1 t0 (0 : Int64) m) else (X11_twoWithout_b22 e i0 i1 t0 (1 : Int64) m)
theorem X11_twoWithout_b12_ok {K : mm_K} {nx : Option Nat} {e : mm_E} (hz : e.2.1 = K.2.2.2.2) {d : Nat} (hd : 1 ≤ d) {i0 : Int32} {i1 : Int32} {t0 : Int32} {m : mm_V} {r : (Int64 × mm_V)} (hr : X11_twoWithout_b12 e i0 i1 t0 m = some r) : mm_G K MX11_twoWithout d (mm_Fl e.1 nx r) 12 [some (.int i0), some (.int i1), none, none, none, none, none, none] [.int t0] (e.1, m) nx 0 0 := by
  obtain ⟨d, rfl⟩ : ∃ d', d = d' + 1 := ⟨d - 1, by omega⟩
  unfold X11_twoWithout_b12 at hr
  refine ml_istore_n (pc := 12) dX11_twoWithout_12 rfl (Nat.le_of_ble_eq_true rfl) (mm_st1_s mm_st1_i) ?_
  refine ml_iload_n (pc := 13) dX11_twoWithout_13 rfl (mm_get_s (mm_get_s mm_get_0)) ?_
  refine mb_if_eq (pc := 14) 21 dX11_twoWithout_14 rfl hr (fun hr => ?_) (fun hr => ?_)
  · refine mg_lconst (pc := 21) dX11_twoWithout_21 (v := (0 : Int64)) (by decide) ?_
    exact mg_weak (mm_le_s (mm_le_s (mm_le_s (mm_le_n (mm_le_n (mm_le_n (mm_le_n (mm_le_n mm_le_0)))))))) (X11_twoWithout_b22_ok hz hd hr)
  · refine mg_lconst (pc := 17) dX11_twoWithout_17 (v := (1 : Int64)) (by decide) ?_
    refine mg_goto (pc := 18) 22 dX11_twoWithout_18 rfl ?_
    exact mg_weak (mm_le_s (mm_le_s (mm_le_s (mm_le_n (mm_le_n (mm_le_n (mm_le_n (mm_le_n mm_le_0)))))))) (X11_twoWithout_b22_ok hz hd hr)
def X11_twoWithout (e : mm_E) (i0 : Int32) (i1 : Int32) (m : mm_V) : Option (Int64 × mm_V) := if ¬ (i0 &&& (1 : Int32)) = (1 : Int32) then (X11_twoWithout_b12 e i0 i1 (0 : Int32) m) else (X11_twoWithout_b12 e i0 i1 (1 : Int32) m)
theorem X11_twoWithout_ok {K : mm_K} {nx : Option Nat} {e : mm_E} (hz : e.2.1 = K.2.2.2.2) {d : Nat} (hd : 1 ≤ d) {i0 : Int32} {i1 : Int32} {m : mm_V} {r : (Int64 × mm_V)} (hr : X11_twoWithout e i0 i1 m = some r) : mm_Cn K MX11_twoWithout d (mm_Fl e.1 nx r) [.int i0, .int i1] (e.1, m) nx := by
  obtain ⟨d, rfl⟩ : ∃ d', d = d' + 1 := ⟨d - 1, by omega⟩
  refine mm_entry (by decide) (Nat.le_of_ble_eq_true rfl) rfl (fun hok => ?_)
  unfold X11_twoWithout at hr
  refine mg_weak (L' := [some (.int i0), some (.int i1), none, none, none, none, none, none]) (mm_le_s (mm_le_s (mm_le_e (mm_le_e (mm_le_e (mm_le_e (mm_le_e (mm_le_e mm_le_0)))))))) ?_
  refine ml_iload_n (pc := 0) dX11_twoWithout_0 rfl mm_get_0 ?_
  refine mg_iconst (pc := 1) dX11_twoWithout_1 kc_1 ?_
  refine mg_iand (pc := 2) dX11_twoWithout_2 ?_
  refine mg_iconst (pc := 3) dX11_twoWithout_3 kc_1 ?_
  refine mb_icmp_ne (pc := 4) 11 dX11_twoWithout_4 rfl hr (fun hr => ?_) (fun hr => ?_)
  · refine mg_iconst (pc := 11) dX11_twoWithout_11 kc_0 ?_
    exact mg_weak (mm_le_s (mm_le_s (mm_le_n (mm_le_n (mm_le_n (mm_le_n (mm_le_n (mm_le_n mm_le_0)))))))) (X11_twoWithout_b12_ok hz hd hr)
  · refine mg_iconst (pc := 7) dX11_twoWithout_7 kc_1 ?_
    refine mg_goto (pc := 8) 12 dX11_twoWithout_8 rfl ?_
    exact mg_weak (mm_le_s (mm_le_s (mm_le_n (mm_le_n (mm_le_n (mm_le_n (mm_le_n (mm_le_n mm_le_0)))))))) (X11_twoWithout_b12_ok hz hd hr)
theorem dX11_twoWithQueen_0 : decode cX11_twoWithQueen 0 = .ok (.iload_n 0, 1) := by decide +kernel
theorem dX11_twoWithQueen_1 : decode cX11_twoWithQueen 1 = .ok (.iconst 1, 1) := by decide +kernel
theorem dX11_twoWithQueen_2 : decode cX11_twoWithQueen 2 = .ok (.isub, 1) := by decide +kernel
theorem dX11_twoWithQueen_3 : decode cX11_twoWithQueen 3 = .ok (.iconst 0, 1) := by decide +kernel
theorem dX11_twoWithQueen_4 : decode cX11_twoWithQueen 4 = .ok (.invokestatic 255, 3) := by decide +kernel
theorem dX11_twoWithQueen_7 : decode cX11_twoWithQueen 7 = .ok (.lstore_n 2, 1) := by decide +kernel
theorem dX11_twoWithQueen_8 : decode cX11_twoWithQueen 8 = .ok (.lload_n 2, 1) := by decide +kernel
theorem dX11_twoWithQueen_9 : decode cX11_twoWithQueen 9 = .ok (.iload_n 0, 1) := by decide +kernel
theorem dX11_twoWithQueen_10 : decode cX11_twoWithQueen 10 = .ok (.iconst 1, 1) := by decide +kernel
theorem dX11_twoWithQueen_11 : decode cX11_twoWithQueen 11 = .ok (.isub, 1) := by decide +kernel
theorem dX11_twoWithQueen_12 : decode cX11_twoWithQueen 12 = .ok (.iconst 1, 1) := by decide +kernel
theorem dX11_twoWithQueen_13 : decode cX11_twoWithQueen 13 = .ok (.invokestatic 255, 3) := by decide +kernel
theorem dX11_twoWithQueen_16 : decode cX11_twoWithQueen 16 = .ok (.lsub, 1) := by decide +kernel
theorem dX11_twoWithQueen_17 : decode cX11_twoWithQueen 17 = .ok (.lload_n 2, 1) := by decide +kernel
theorem dX11_twoWithQueen_18 : decode cX11_twoWithQueen 18 = .ok (.iload_n 1, 1) := by decide +kernel
theorem dX11_twoWithQueen_19 : decode cX11_twoWithQueen 19 = .ok (.invokestatic 247, 3) := by decide +kernel
theorem dX11_twoWithQueen_22 : decode cX11_twoWithQueen 22 = .ok (.lreturn, 1) := by decide +kernel
def X11_twoWithQueen (e : mm_E) (i0 : Int32) (i1 : Int32) (m : mm_V) : Option (Int64 × mm_V) := (X11_twoWithout e (i0 - (1 : Int32)) (0 : Int32) m).bind fun r1 => (X11_twoWithout e (i0 - (1 : Int32)) (1 : Int32) r1.2).bind fun r2 => (X11_lowest e (r1.1 - r2.1) r1.1 i1 r2.2).bind fun r3 => some (r3.1, r3.2)
theorem X11_twoWithQueen_ok {K : mm_K} {nx : Option Nat} {e : mm_E} (hz : e.2.1 = K.2.2.2.2) {d : Nat} (hd : 2 ≤ d) {i0 : Int32} {i1 : Int32} {m : mm_V} {r : (Int64 × mm_V)} (hr : X11_twoWithQueen e i0 i1 m = some r) : mm_Cn K MX11_twoWithQueen d (mm_Fl e.1 nx r) [.int i0, .int i1] (e.1, m) nx := by
  obtain ⟨d, rfl⟩ : ∃ d', d = d' + 1 := ⟨d - 1, by omega⟩
  refine mm_entry (by decide) (Nat.le_of_ble_eq_true rfl) rfl (fun hok => ?_)
  unfold X11_twoWithQueen at hr
  refine mg_weak (L' := [some (.int i0), some (.int i1), none, none]) (mm_le_s (mm_le_s (mm_le_e (mm_le_e mm_le_0)))) ?_
  refine ml_iload_n (pc := 0) dX11_twoWithQueen_0 rfl mm_get_0 ?_
  refine mg_iconst (pc := 1) dX11_twoWithQueen_1 kc_1 ?_
  refine mg_isub (pc := 2) dX11_twoWithQueen_2 ?_
  refine mg_iconst (pc := 3) dX11_twoWithQueen_3 kc_0 ?_
  refine mb_cSl (pc := 4) (As := [.int (i0 - (1 : Int32)), .int (0 : Int32)]) (rest := []) dX11_twoWithQueen_4 cw_X11_255  hr (fun v hv => X11_twoWithout_ok hz (by omega)  hv) rfl (Nat.le_of_ble_eq_true rfl) (Nat.zero_le _) (Nat.zero_le _) (fun r1 hr => ?_)
  refine ml_lstore_n (pc := 7) dX11_twoWithQueen_7 rfl (Nat.le_of_ble_eq_true rfl) (mm_st2_s mm_st2_i) ?_
  refine ml_lload_n (pc := 8) dX11_twoWithQueen_8 rfl (mm_get_s (mm_get_s mm_get_0)) ?_
  refine ml_iload_n (pc := 9) dX11_twoWithQueen_9 rfl mm_get_0 ?_
  refine mg_iconst (pc := 10) dX11_twoWithQueen_10 kc_1 ?_
  refine mg_isub (pc := 11) dX11_twoWithQueen_11 ?_
  refine mg_iconst (pc := 12) dX11_twoWithQueen_12 kc_1 ?_
  refine mb_cSl (pc := 13) (As := [.int (i0 - (1 : Int32)), .int (1 : Int32)]) (rest := [.long r1.1]) dX11_twoWithQueen_13 cw_X11_255  hr (fun v hv => X11_twoWithout_ok hz (by omega)  hv) rfl (Nat.le_of_ble_eq_true rfl) (Nat.zero_le _) (Nat.zero_le _) (fun r2 hr => ?_)
  refine mg_lsub (pc := 16) dX11_twoWithQueen_16 ?_
  refine ml_lload_n (pc := 17) dX11_twoWithQueen_17 rfl (mm_get_s (mm_get_s mm_get_0)) ?_
  refine ml_iload_n (pc := 18) dX11_twoWithQueen_18 rfl (mm_get_s mm_get_0) ?_
  refine mb_cSl (pc := 19) (As := [.long (r1.1 - r2.1), .long r1.1, .int i1]) (rest := []) dX11_twoWithQueen_19 cw_X11_247  hr (fun v hv => X11_lowest_ok hz (by omega)  hv) rfl (Nat.le_of_ble_eq_true rfl) (Nat.zero_le _) (Nat.zero_le _) (fun r3 hr => ?_)
  exact mb_lret dX11_twoWithQueen_22 rfl hr
theorem dX12_thrown_0 : decode cX12_thrown 0 = .ok (.aload_n 0, 1) := by decide +kernel
theorem dX12_thrown_1 : decode cX12_thrown 1 = .ok (.getfield 152, 3) := by decide +kernel
theorem dX12_thrown_4 : decode cX12_thrown 4 = .ok (.ireturn, 1) := by decide +kernel
def X12_thrown (e : mm_E) (a0 : Nat) (m : mm_V) : Option (Int32 × mm_V) := (mm_gi e.1 m 12 75 a0 0).bind fun x1 => some (x1, m)
theorem X12_thrown_ok {K : mm_K} {nx : Option Nat} {e : mm_E} (hz : e.2.1 = K.2.2.2.2) {d : Nat} (hd : 0 ≤ d) {a0 : Nat} (h0 : e.1 a0 = some (12, 75)) {m : mm_V} {r : (Int32 × mm_V)} (hr : X12_thrown e a0 m = some r) : mm_Cn K MX12_thrown d (mm_Fi e.1 nx r) [.ref a0] (e.1, m) nx := by
  refine mm_entry (by decide) (Nat.le_of_ble_eq_true rfl) rfl (fun hok => ?_)
  unfold X12_thrown at hr
  refine mg_weak (L' := [some (.ref a0)]) (mm_le_s mm_le_0) ?_
  refine ml_aload_n (pc := 0) dX12_thrown_0 rfl mm_get_0 ?_
  refine mb_gi (pc := 1) dX12_thrown_1 fl_X12_152 hr (fun x1 hr => ?_)
  exact mb_iret dX12_thrown_4 rfl hr
theorem dX12_right_0 : decode cX12_right 0 = .ok (.aload_n 0, 1) := by decide +kernel
theorem dX12_right_1 : decode cX12_right 1 = .ok (.getfield 152, 3) := by decide +kernel
theorem dX12_right_4 : decode cX12_right 4 = .ok (.ifCond .ne 12, 3) := by decide +kernel
theorem dX12_right_7 : decode cX12_right 7 = .ok (.iload_n 1, 1) := by decide +kernel
theorem dX12_right_8 : decode cX12_right 8 = .ok (.ifCond .ne 8, 3) := by decide +kernel
theorem dX12_right_11 : decode cX12_right 11 = .ok (.aload_n 0, 1) := by decide +kernel
theorem dX12_right_12 : decode cX12_right 12 = .ok (.iload_n 2, 1) := by decide +kernel
theorem dX12_right_13 : decode cX12_right 13 = .ok (.putfield 152, 3) := by decide +kernel
theorem dX12_right_16 : decode cX12_right 16 = .ok (.aload_n 0, 1) := by decide +kernel
theorem dX12_right_17 : decode cX12_right 17 = .ok (.getfield 152, 3) := by decide +kernel
theorem dX12_right_20 : decode cX12_right 20 = .ok (.ifCond .ne 7, 3) := by decide +kernel
theorem dX12_right_23 : decode cX12_right 23 = .ok (.iconst 1, 1) := by decide +kernel
theorem dX12_right_24 : decode cX12_right 24 = .ok (.goto 4, 3) := by decide +kernel
theorem dX12_right_27 : decode cX12_right 27 = .ok (.iconst 0, 1) := by decide +kernel
theorem dX12_right_28 : decode cX12_right 28 = .ok (.ireturn, 1) := by decide +kernel
def X12_right_b28 (e : mm_E) (t0 : Int32) (m : mm_V) : Option (Int32 × mm_V) := mm_rz t0 m
theorem X12_right_b28_ok {K : mm_K} {nx : Option Nat} {e : mm_E} (hz : e.2.1 = K.2.2.2.2) {d : Nat} (hd : 0 ≤ d) {t0 : Int32} {a0 : Nat} (h0 : e.1 a0 = some (12, 75)) {m : mm_V} {r : (Int32 × mm_V)} (hr : X12_right_b28 e t0 m = some r) : mm_G K MX12_right d (mm_Fi e.1 nx r) 28 [none, none, none] [.int t0] (e.1, m) nx 0 0 := by
  unfold X12_right_b28 at hr
  exact mb_zret dX12_right_28 rfl hr
def X12_right_b16 (e : mm_E) (a0 : Nat) (m : mm_V) : Option (Int32 × mm_V) := (mm_gi e.1 m 12 75 a0 0).bind fun x1 => if ¬ x1 = 0 then (X12_right_b28 e  (0 : Int32) m) else (X12_right_b28 e  (1 : Int32) m)
theorem X12_right_b16_ok {K : mm_K} {nx : Option Nat} {e : mm_E} (hz : e.2.1 = K.2.2.2.2) {d : Nat} (hd : 0 ≤ d) {a0 : Nat} (h0 : e.1 a0 = some (12, 75)) {m : mm_V} {r : (Int32 × mm_V)} (hr : X12_right_b16 e a0 m = some r) : mm_G K MX12_right d (mm_Fi e.1 nx r) 16 [some (.ref a0), none, none] [] (e.1, m) nx 0 0 := by
  unfold X12_right_b16 at hr
  refine ml_aload_n (pc := 16) dX12_right_16 rfl mm_get_0 ?_
  refine mb_gi (pc := 17) dX12_right_17 fl_X12_152 hr (fun x1 hr => ?_)
  refine mb_if_ne (pc := 20) 27 dX12_right_20 rfl hr (fun hr => ?_) (fun hr => ?_)
  · refine mg_iconst (pc := 27) dX12_right_27 kc_0 ?_
    exact mg_weak (mm_le_n (mm_le_n (mm_le_n mm_le_0))) (X12_right_b28_ok hz hd h0 hr)
  · refine mg_iconst (pc := 23) dX12_right_23 kc_1 ?_
    refine mg_goto (pc := 24) 28 dX12_right_24 rfl ?_
    exact mg_weak (mm_le_n (mm_le_n (mm_le_n mm_le_0))) (X12_right_b28_ok hz hd h0 hr)
def X12_right (e : mm_E) (a0 : Nat) (i1 : Int32) (i2 : Int32) (m : mm_V) : Option (Int32 × mm_V) := (mm_gi e.1 m 12 75 a0 0).bind fun x1 => if ¬ x1 = 0 then (X12_right_b16 e a0  m) else (if ¬ i1 = 0 then (X12_right_b16 e a0  m) else ((mm_pf e.1 m 12 75 a0 0 (.int i2)).bind fun m2 => X12_right_b16 e a0  m2))
theorem X12_right_ok {K : mm_K} {nx : Option Nat} {e : mm_E} (hz : e.2.1 = K.2.2.2.2) {d : Nat} (hd : 0 ≤ d) {a0 : Nat} {i1 : Int32} {i2 : Int32} (h0 : e.1 a0 = some (12, 75)) {m : mm_V} {r : (Int32 × mm_V)} (hr : X12_right e a0 i1 i2 m = some r) : mm_Cn K MX12_right d (mm_Fi e.1 nx r) [.ref a0, .int i1, .int i2] (e.1, m) nx := by
  refine mm_entry (by decide) (Nat.le_of_ble_eq_true rfl) rfl (fun hok => ?_)
  unfold X12_right at hr
  refine mg_weak (L' := [some (.ref a0), some (.int i1), some (.int i2)]) (mm_le_s (mm_le_s (mm_le_s mm_le_0))) ?_
  refine ml_aload_n (pc := 0) dX12_right_0 rfl mm_get_0 ?_
  refine mb_gi (pc := 1) dX12_right_1 fl_X12_152 hr (fun x1 hr => ?_)
  refine mb_if_ne (pc := 4) 16 dX12_right_4 rfl hr (fun hr => ?_) (fun hr => ?_)
  · exact mg_weak (mm_le_s (mm_le_n (mm_le_n mm_le_0))) (X12_right_b16_ok hz hd h0 hr)
  · refine ml_iload_n (pc := 7) dX12_right_7 rfl (mm_get_s mm_get_0) ?_
    refine mb_if_ne (pc := 8) 16 dX12_right_8 rfl hr (fun hr => ?_) (fun hr => ?_)
    · exact mg_weak (mm_le_s (mm_le_n (mm_le_n mm_le_0))) (X12_right_b16_ok hz hd h0 hr)
    · refine ml_aload_n (pc := 11) dX12_right_11 rfl mm_get_0 ?_
      refine ml_iload_n (pc := 12) dX12_right_12 rfl (mm_get_s (mm_get_s mm_get_0)) ?_
      refine mb_pi (pc := 13) dX12_right_13 fp_X12_152 hr (fun m2 hr => ?_)
      exact mg_weak (mm_le_s (mm_le_n (mm_le_n mm_le_0))) (X12_right_b16_ok hz hd h0 hr)
theorem dX12_within_0 : decode cX12_within 0 = .ok (.iload_n 0, 1) := by decide +kernel
theorem dX12_within_1 : decode cX12_within 1 = .ok (.iload_n 1, 1) := by decide +kernel
theorem dX12_within_2 : decode cX12_within 2 = .ok (.if_icmp .lt 12, 3) := by decide +kernel
theorem dX12_within_5 : decode cX12_within 5 = .ok (.iload_n 0, 1) := by decide +kernel
theorem dX12_within_6 : decode cX12_within 6 = .ok (.iload_n 2, 1) := by decide +kernel
theorem dX12_within_7 : decode cX12_within 7 = .ok (.if_icmp .gt 7, 3) := by decide +kernel
theorem dX12_within_10 : decode cX12_within 10 = .ok (.iconst 1, 1) := by decide +kernel
theorem dX12_within_11 : decode cX12_within 11 = .ok (.goto 4, 3) := by decide +kernel
theorem dX12_within_14 : decode cX12_within 14 = .ok (.iconst 0, 1) := by decide +kernel
theorem dX12_within_15 : decode cX12_within 15 = .ok (.ireturn, 1) := by decide +kernel
def X12_within_b15 (e : mm_E) (t0 : Int32) (m : mm_V) : Option (Int32 × mm_V) := mm_rz t0 m
theorem X12_within_b15_ok {K : mm_K} {nx : Option Nat} {e : mm_E} (hz : e.2.1 = K.2.2.2.2) {d : Nat} (hd : 0 ≤ d) {t0 : Int32} {m : mm_V} {r : (Int32 × mm_V)} (hr : X12_within_b15 e t0 m = some r) : mm_G K MX12_within d (mm_Fi e.1 nx r) 15 [none, none, none] [.int t0] (e.1, m) nx 0 0 := by
  unfold X12_within_b15 at hr
  exact mb_zret dX12_within_15 rfl hr
def X12_within_b14 (e : mm_E) (m : mm_V) : Option (Int32 × mm_V) := X12_within_b15 e  (0 : Int32) m
theorem X12_within_b14_ok {K : mm_K} {nx : Option Nat} {e : mm_E} (hz : e.2.1 = K.2.2.2.2) {d : Nat} (hd : 0 ≤ d) {m : mm_V} {r : (Int32 × mm_V)} (hr : X12_within_b14 e m = some r) : mm_G K MX12_within d (mm_Fi e.1 nx r) 14 [none, none, none] [] (e.1, m) nx 0 0 := by
  unfold X12_within_b14 at hr
  refine mg_iconst (pc := 14) dX12_within_14 kc_0 ?_
  exact mg_weak (mm_le_n (mm_le_n (mm_le_n mm_le_0))) (X12_within_b15_ok hz hd hr)
def X12_within (e : mm_E) (i0 : Int32) (i1 : Int32) (i2 : Int32) (m : mm_V) : Option (Int32 × mm_V) := if i0 < i1 then (X12_within_b14 e   m) else (if i2 < i0 then (X12_within_b14 e   m) else (X12_within_b15 e  (1 : Int32) m))
theorem X12_within_ok {K : mm_K} {nx : Option Nat} {e : mm_E} (hz : e.2.1 = K.2.2.2.2) {d : Nat} (hd : 0 ≤ d) {i0 : Int32} {i1 : Int32} {i2 : Int32} {m : mm_V} {r : (Int32 × mm_V)} (hr : X12_within e i0 i1 i2 m = some r) : mm_Cn K MX12_within d (mm_Fi e.1 nx r) [.int i0, .int i1, .int i2] (e.1, m) nx := by
  refine mm_entry (by decide) (Nat.le_of_ble_eq_true rfl) rfl (fun hok => ?_)
  unfold X12_within at hr
  refine mg_weak (L' := [some (.int i0), some (.int i1), some (.int i2)]) (mm_le_s (mm_le_s (mm_le_s mm_le_0))) ?_
  refine ml_iload_n (pc := 0) dX12_within_0 rfl mm_get_0 ?_
  refine ml_iload_n (pc := 1) dX12_within_1 rfl (mm_get_s mm_get_0) ?_
  refine mb_icmp_lt (pc := 2) 14 dX12_within_2 rfl hr (fun hr => ?_) (fun hr => ?_)
  · exact mg_weak (mm_le_n (mm_le_n (mm_le_n mm_le_0))) (X12_within_b14_ok hz hd hr)
  · refine ml_iload_n (pc := 5) dX12_within_5 rfl mm_get_0 ?_
    refine ml_iload_n (pc := 6) dX12_within_6 rfl (mm_get_s (mm_get_s mm_get_0)) ?_
    refine mb_icmp_gt (pc := 7) 14 dX12_within_7 rfl hr (fun hr => ?_) (fun hr => ?_)
    · exact mg_weak (mm_le_n (mm_le_n (mm_le_n mm_le_0))) (X12_within_b14_ok hz hd hr)
    · refine mg_iconst (pc := 10) dX12_within_10 kc_1 ?_
      refine mg_goto (pc := 11) 15 dX12_within_11 rfl ?_
      exact mg_weak (mm_le_n (mm_le_n (mm_le_n mm_le_0))) (X12_within_b15_ok hz hd hr)
theorem dX12_copies_0 : decode cX12_copies 0 = .ok (.iconst 0, 1) := by decide +kernel
theorem dX12_copies_1 : decode cX12_copies 1 = .ok (.istore_n 3, 1) := by decide +kernel
theorem dX12_copies_2 : decode cX12_copies 2 = .ok (.iload_n 3, 1) := by decide +kernel
theorem dX12_copies_3 : decode cX12_copies 3 = .ok (.aload_n 1, 1) := by decide +kernel
theorem dX12_copies_4 : decode cX12_copies 4 = .ok (.arraylength, 1) := by decide +kernel
theorem dX12_copies_5 : decode cX12_copies 5 = .ok (.if_icmp .ge 15, 3) := by decide +kernel
theorem dX12_copies_8 : decode cX12_copies 8 = .ok (.aload_n 2, 1) := by decide +kernel
theorem dX12_copies_9 : decode cX12_copies 9 = .ok (.iload_n 3, 1) := by decide +kernel
theorem dX12_copies_10 : decode cX12_copies 10 = .ok (.aload_n 1, 1) := by decide +kernel
theorem dX12_copies_11 : decode cX12_copies 11 = .ok (.iload_n 3, 1) := by decide +kernel
theorem dX12_copies_12 : decode cX12_copies 12 = .ok (.iaload, 1) := by decide +kernel
theorem dX12_copies_13 : decode cX12_copies 13 = .ok (.iastore, 1) := by decide +kernel
theorem dX12_copies_14 : decode cX12_copies 14 = .ok (.iinc 3 1, 3) := by decide +kernel
theorem dX12_copies_17 : decode cX12_copies 17 = .ok (.goto (-15), 3) := by decide +kernel
theorem dX12_copies_20 : decode cX12_copies 20 = .ok (.return_, 1) := by decide +kernel
def X12_copies_L2 (e : mm_E) (a1 : Nat) (a2 : Nat) : Nat → Int32 → mm_V → Option mm_V
  | 0, _, _ => none
  | n + 1, i3, m => (mm_ln e.1 a1).bind fun x1 => if x1 ≤ i3 then (some m) else ((mm_ai e.1 m 20 a1 i3).bind fun x2 => (mm_si e.1 m a2 i3 x2).bind fun m3 => X12_copies_L2 e a1 a2 n (i3 + 1) m3)
theorem X12_copies_L2_ok {K : mm_K} {nx : Option Nat} {e : mm_E} (hz : e.2.1 = K.2.2.2.2) {d : Nat} (hd : 0 ≤ d) {a1 : Nat} {a2 : Nat} {a0 : Nat} (h0 : e.1 a0 = some (12, 75)) : ∀ (n : Nat) (i3 : Int32) (m : mm_V) (r : mm_V), X12_copies_L2 e a1 a2 n i3 m = some r → mm_G K MX12_copies d (mm_Fv e.1 nx r) 2 [none, some (.ref a1), some (.ref a2), some (.int i3)] [] (e.1, m) nx 0 0 := by
  intro n
  induction n with
  | zero => intro i3 m r hr; unfold X12_copies_L2 at hr; cases hr
  | succ n ih =>
    intro i3 m r hr
    unfold X12_copies_L2 at hr
    refine ml_iload_n (pc := 2) dX12_copies_2 rfl (mm_get_s (mm_get_s (mm_get_s mm_get_0))) ?_
    refine ml_aload_n (pc := 3) dX12_copies_3 rfl (mm_get_s mm_get_0) ?_
    refine mb_ln (pc := 4) dX12_copies_4 hr (fun x1 hr => ?_)
    refine mb_icmp_ge (pc := 5) 20 dX12_copies_5 rfl hr (fun hr => ?_) (fun hr => ?_)
    · exact mb_vret dX12_copies_20 rfl hr
    · refine ml_aload_n (pc := 8) dX12_copies_8 rfl (mm_get_s (mm_get_s mm_get_0)) ?_
      refine ml_iload_n (pc := 9) dX12_copies_9 rfl (mm_get_s (mm_get_s (mm_get_s mm_get_0))) ?_
      refine ml_aload_n (pc := 10) dX12_copies_10 rfl (mm_get_s mm_get_0) ?_
      refine ml_iload_n (pc := 11) dX12_copies_11 rfl (mm_get_s (mm_get_s (mm_get_s mm_get_0))) ?_
      refine mb_ai (pc := 12) dX12_copies_12 hr (fun x2 hr => ?_)
      refine mb_si (pc := 13) dX12_copies_13 hr (fun m3 hr => ?_)
      refine ml_iinc (pc := 14) dX12_copies_14 (mm_get_s (mm_get_s (mm_get_s mm_get_0))) (congrArg (fun z => i3 + z) kc_1) (Nat.le_of_ble_eq_true rfl) (mm_st1_s (mm_st1_s mm_st1_r)) ?_
      refine mg_goto (pc := 17) 2 dX12_copies_17 rfl ?_
      exact mg_weak (mm_le_n (mm_le_s (mm_le_s (mm_le_s mm_le_0)))) (ih _ _ _ hr)
def X12_copies (e : mm_E) (a0 : Nat) (a1 : Nat) (a2 : Nat) (m : mm_V) : Option mm_V := X12_copies_L2 e a1 a2 e.2.2 (0 : Int32) m
theorem X12_copies_ok {K : mm_K} {nx : Option Nat} {e : mm_E} (hz : e.2.1 = K.2.2.2.2) {d : Nat} (hd : 0 ≤ d) {a0 : Nat} {a1 : Nat} {a2 : Nat} (h0 : e.1 a0 = some (12, 75)) {m : mm_V} {r : mm_V} (hr : X12_copies e a0 a1 a2 m = some r) : mm_Cn K MX12_copies d (mm_Fv e.1 nx r) [.ref a0, .ref a1, .ref a2] (e.1, m) nx := by
  refine mm_entry (by decide) (Nat.le_of_ble_eq_true rfl) rfl (fun hok => ?_)
  unfold X12_copies at hr
  refine mg_weak (L' := [some (.ref a0), some (.ref a1), some (.ref a2), none]) (mm_le_s (mm_le_s (mm_le_s (mm_le_e mm_le_0)))) ?_
  refine mg_iconst (pc := 0) dX12_copies_0 kc_0 ?_
  refine ml_istore_n (pc := 1) dX12_copies_1 rfl (Nat.le_of_ble_eq_true rfl) (mm_st1_s (mm_st1_s mm_st1_r)) ?_
  exact mg_weak (mm_le_n (mm_le_s (mm_le_s (mm_le_s mm_le_0)))) (X12_copies_L2_ok hz hd h0 _ _ _ _ hr)
theorem dX12_lays_0 : decode cX12_lays 0 = .ok (.bipush 24, 2) := by decide +kernel
theorem dX12_lays_2 : decode cX12_lays 2 = .ok (.istore_n 2, 1) := by decide +kernel
theorem dX12_lays_3 : decode cX12_lays 3 = .ok (.iload_n 2, 1) := by decide +kernel
theorem dX12_lays_4 : decode cX12_lays 4 = .ok (.ifCond .lt 35, 3) := by decide +kernel
theorem dX12_lays_7 : decode cX12_lays 7 = .ok (.aload_n 0, 1) := by decide +kernel
theorem dX12_lays_8 : decode cX12_lays 8 = .ok (.getfield 26, 3) := by decide +kernel
theorem dX12_lays_11 : decode cX12_lays 11 = .ok (.aload_n 0, 1) := by decide +kernel
theorem dX12_lays_12 : decode cX12_lays 12 = .ok (.getfield 155, 3) := by decide +kernel
theorem dX12_lays_15 : decode cX12_lays 15 = .ok (.iload_n 1, 1) := by decide +kernel
theorem dX12_lays_16 : decode cX12_lays 16 = .ok (.iload_n 2, 1) := by decide +kernel
theorem dX12_lays_17 : decode cX12_lays 17 = .ok (.ishr, 1) := by decide +kernel
theorem dX12_lays_18 : decode cX12_lays 18 = .ok (.sipush 255, 3) := by decide +kernel
theorem dX12_lays_21 : decode cX12_lays 21 = .ok (.iand, 1) := by decide +kernel
theorem dX12_lays_22 : decode cX12_lays 22 = .ok (.iastore, 1) := by decide +kernel
theorem dX12_lays_23 : decode cX12_lays 23 = .ok (.aload_n 0, 1) := by decide +kernel
theorem dX12_lays_24 : decode cX12_lays 24 = .ok (.dup, 1) := by decide +kernel
theorem dX12_lays_25 : decode cX12_lays 25 = .ok (.getfield 155, 3) := by decide +kernel
theorem dX12_lays_28 : decode cX12_lays 28 = .ok (.iconst 1, 1) := by decide +kernel
theorem dX12_lays_29 : decode cX12_lays 29 = .ok (.iadd, 1) := by decide +kernel
theorem dX12_lays_30 : decode cX12_lays 30 = .ok (.putfield 155, 3) := by decide +kernel
theorem dX12_lays_33 : decode cX12_lays 33 = .ok (.iinc 2 (-8), 3) := by decide +kernel
theorem dX12_lays_36 : decode cX12_lays 36 = .ok (.goto (-33), 3) := by decide +kernel
theorem dX12_lays_39 : decode cX12_lays 39 = .ok (.return_, 1) := by decide +kernel
def X12_lays_L3 (e : mm_E) (a0 : Nat) (i1 : Int32) : Nat → Int32 → mm_V → Option mm_V
  | 0, _, _ => none
  | n + 1, i2, m => if i2 < 0 then (some m) else ((mm_gr e.1 m 12 75 a0 8).bind fun c1 => (mm_gi e.1 m 12 75 a0 9).bind fun x2 => (mm_si e.1 m c1 x2 ((i1 >>> (i2 &&& 31)) &&& (255 : Int32))).bind fun m3 => (mm_gi e.1 m3 12 75 a0 9).bind fun x4 => (mm_pf e.1 m3 12 75 a0 9 (.int (x4 + (1 : Int32)))).bind fun m5 => X12_lays_L3 e a0 i1 n (i2 + (-8)) m5)
theorem X12_lays_L3_ok {K : mm_K} {nx : Option Nat} {e : mm_E} (hz : e.2.1 = K.2.2.2.2) {d : Nat} (hd : 0 ≤ d) {a0 : Nat} {i1 : Int32} (h0 : e.1 a0 = some (12, 75)) : ∀ (n : Nat) (i2 : Int32) (m : mm_V) (r : mm_V), X12_lays_L3 e a0 i1 n i2 m = some r → mm_G K MX12_lays d (mm_Fv e.1 nx r) 3 [some (.ref a0), some (.int i1), some (.int i2)] [] (e.1, m) nx 0 0 := by
  intro n
  induction n with
  | zero => intro i2 m r hr; unfold X12_lays_L3 at hr; cases hr
  | succ n ih =>
    intro i2 m r hr
    unfold X12_lays_L3 at hr
    refine ml_iload_n (pc := 3) dX12_lays_3 rfl (mm_get_s (mm_get_s mm_get_0)) ?_
    refine mb_if_lt (pc := 4) 39 dX12_lays_4 rfl hr (fun hr => ?_) (fun hr => ?_)
    · exact mb_vret dX12_lays_39 rfl hr
    · refine ml_aload_n (pc := 7) dX12_lays_7 rfl mm_get_0 ?_
      refine mb_gr (pc := 8) dX12_lays_8 fl_X12_26 hr (fun c1 hr => ?_)
      refine ml_aload_n (pc := 11) dX12_lays_11 rfl mm_get_0 ?_
      refine mb_gi (pc := 12) dX12_lays_12 fl_X12_155 hr (fun x2 hr => ?_)
      refine ml_iload_n (pc := 15) dX12_lays_15 rfl (mm_get_s mm_get_0) ?_
      refine ml_iload_n (pc := 16) dX12_lays_16 rfl (mm_get_s (mm_get_s mm_get_0)) ?_
      refine mg_ishr (pc := 17) dX12_lays_17 ?_
      refine mg_sipush (pc := 18) dX12_lays_18 ks_255 ?_
      refine mg_iand (pc := 21) dX12_lays_21 ?_
      refine mb_si (pc := 22) dX12_lays_22 hr (fun m3 hr => ?_)
      refine ml_aload_n (pc := 23) dX12_lays_23 rfl mm_get_0 ?_
      refine mg_dup (pc := 24) dX12_lays_24 rfl ?_
      refine mb_gi (pc := 25) dX12_lays_25 fl_X12_155 hr (fun x4 hr => ?_)
      refine mg_iconst (pc := 28) dX12_lays_28 kc_1 ?_
      refine mg_iadd (pc := 29) dX12_lays_29 ?_
      refine mb_pi (pc := 30) dX12_lays_30 fp_X12_155 hr (fun m5 hr => ?_)
      refine ml_iinc (pc := 33) dX12_lays_33 (mm_get_s (mm_get_s mm_get_0)) (congrArg (fun z => i2 + z) kc_m8) (Nat.le_of_ble_eq_true rfl) (mm_st1_s mm_st1_i) ?_
      refine mg_goto (pc := 36) 3 dX12_lays_36 rfl ?_
      exact mg_weak (mm_le_s (mm_le_s (mm_le_s mm_le_0))) (ih _ _ _ hr)
def X12_lays (e : mm_E) (a0 : Nat) (i1 : Int32) (m : mm_V) : Option mm_V := X12_lays_L3 e a0 i1 e.2.2 (24 : Int32) m
theorem X12_lays_ok {K : mm_K} {nx : Option Nat} {e : mm_E} (hz : e.2.1 = K.2.2.2.2) {d : Nat} (hd : 0 ≤ d) {a0 : Nat} {i1 : Int32} (h0 : e.1 a0 = some (12, 75)) {m : mm_V} {r : mm_V} (hr : X12_lays e a0 i1 m = some r) : mm_Cn K MX12_lays d (mm_Fv e.1 nx r) [.ref a0, .int i1] (e.1, m) nx := by
  refine mm_entry (by decide) (Nat.le_of_ble_eq_true rfl) rfl (fun hok => ?_)
  unfold X12_lays at hr
  refine mg_weak (L' := [some (.ref a0), some (.int i1), none]) (mm_le_s (mm_le_s (mm_le_e mm_le_0))) ?_
  refine mg_bipush (pc := 0) dX12_lays_0 kb_24 ?_
  refine ml_istore_n (pc := 2) dX12_lays_2 rfl (Nat.le_of_ble_eq_true rfl) (mm_st1_s mm_st1_i) ?_
  exact mg_weak (mm_le_s (mm_le_s (mm_le_s mm_le_0))) (X12_lays_L3_ok hz hd h0 _ _ _ _ hr)
theorem dX12_feed_0 : decode cX12_feed 0 = .ok (.aload_n 0, 1) := by decide +kernel
theorem dX12_feed_1 : decode cX12_feed 1 = .ok (.iconst 0, 1) := by decide +kernel
theorem dX12_feed_2 : decode cX12_feed 2 = .ok (.putfield 152, 3) := by decide +kernel
theorem dX12_feed_5 : decode cX12_feed 5 = .ok (.aload_n 0, 1) := by decide +kernel
theorem dX12_feed_6 : decode cX12_feed 6 = .ok (.getfield 155, 3) := by decide +kernel
theorem dX12_feed_9 : decode cX12_feed 9 = .ok (.bipush 20, 2) := by decide +kernel
theorem dX12_feed_11 : decode cX12_feed 11 = .ok (.iadd, 1) := by decide +kernel
theorem dX12_feed_12 : decode cX12_feed 12 = .ok (.sipush 600, 3) := by decide +kernel
theorem dX12_feed_15 : decode cX12_feed 15 = .ok (.if_icmp .le 5, 3) := by decide +kernel
theorem dX12_feed_18 : decode cX12_feed 18 = .ok (.iconst (-1), 1) := by decide +kernel
theorem dX12_feed_19 : decode cX12_feed 19 = .ok (.ireturn, 1) := by decide +kernel
theorem dX12_feed_20 : decode cX12_feed 20 = .ok (.aload_n 0, 1) := by decide +kernel
theorem dX12_feed_21 : decode cX12_feed 21 = .ok (.iload_n 1, 1) := by decide +kernel
theorem dX12_feed_22 : decode cX12_feed 22 = .ok (.invokevirtual 158, 3) := by decide +kernel
theorem dX12_feed_25 : decode cX12_feed 25 = .ok (.aload_n 0, 1) := by decide +kernel
theorem dX12_feed_26 : decode cX12_feed 26 = .ok (.iload_n 2, 1) := by decide +kernel
theorem dX12_feed_27 : decode cX12_feed 27 = .ok (.invokevirtual 158, 3) := by decide +kernel
theorem dX12_feed_30 : decode cX12_feed 30 = .ok (.aload_n 0, 1) := by decide +kernel
theorem dX12_feed_31 : decode cX12_feed 31 = .ok (.iload_n 3, 1) := by decide +kernel
theorem dX12_feed_32 : decode cX12_feed 32 = .ok (.invokevirtual 158, 3) := by decide +kernel
theorem dX12_feed_35 : decode cX12_feed 35 = .ok (.aload_n 0, 1) := by decide +kernel
theorem dX12_feed_36 : decode cX12_feed 36 = .ok (.iload 4, 2) := by decide +kernel
theorem dX12_feed_38 : decode cX12_feed 38 = .ok (.invokevirtual 158, 3) := by decide +kernel
theorem dX12_feed_41 : decode cX12_feed 41 = .ok (.aload_n 0, 1) := by decide +kernel
theorem dX12_feed_42 : decode cX12_feed 42 = .ok (.iload 5, 2) := by decide +kernel
theorem dX12_feed_44 : decode cX12_feed 44 = .ok (.invokevirtual 158, 3) := by decide +kernel
theorem dX12_feed_47 : decode cX12_feed 47 = .ok (.aload_n 0, 1) := by decide +kernel
theorem dX12_feed_48 : decode cX12_feed 48 = .ok (.getfield 155, 3) := by decide +kernel
theorem dX12_feed_51 : decode cX12_feed 51 = .ok (.ireturn, 1) := by decide +kernel
def X12_feed (e : mm_E) (a0 : Nat) (i1 : Int32) (i2 : Int32) (i3 : Int32) (i4 : Int32) (i5 : Int32) (m : mm_V) : Option (Int32 × mm_V) := (mm_pf e.1 m 12 75 a0 0 (.int (0 : Int32))).bind fun m1 => (mm_gi e.1 m1 12 75 a0 9).bind fun x2 => if (x2 + (20 : Int32)) ≤ (600 : Int32) then ((X12_lays e a0 i1 m1).bind fun r3 => (X12_lays e a0 i2 r3).bind fun r4 => (X12_lays e a0 i3 r4).bind fun r5 => (X12_lays e a0 i4 r5).bind fun r6 => (X12_lays e a0 i5 r6).bind fun r7 => (mm_gi e.1 r7 12 75 a0 9).bind fun x8 => some (x8, r7)) else (some ((-1 : Int32), m1))
theorem X12_feed_ok {K : mm_K} {nx : Option Nat} {e : mm_E} (hz : e.2.1 = K.2.2.2.2) {d : Nat} (hd : 1 ≤ d) {a0 : Nat} {i1 : Int32} {i2 : Int32} {i3 : Int32} {i4 : Int32} {i5 : Int32} (h0 : e.1 a0 = some (12, 75)) {m : mm_V} {r : (Int32 × mm_V)} (hr : X12_feed e a0 i1 i2 i3 i4 i5 m = some r) : mm_Cn K MX12_feed d (mm_Fi e.1 nx r) [.ref a0, .int i1, .int i2, .int i3, .int i4, .int i5] (e.1, m) nx := by
  obtain ⟨d, rfl⟩ : ∃ d', d = d' + 1 := ⟨d - 1, by omega⟩
  refine mm_entry (by decide) (Nat.le_of_ble_eq_true rfl) rfl (fun hok => ?_)
  unfold X12_feed at hr
  refine mg_weak (L' := [some (.ref a0), some (.int i1), some (.int i2), some (.int i3), some (.int i4), some (.int i5)]) (mm_le_s (mm_le_s (mm_le_s (mm_le_s (mm_le_s (mm_le_s mm_le_0)))))) ?_
  refine ml_aload_n (pc := 0) dX12_feed_0 rfl mm_get_0 ?_
  refine mg_iconst (pc := 1) dX12_feed_1 kc_0 ?_
  refine mb_pi (pc := 2) dX12_feed_2 fp_X12_152 hr (fun m1 hr => ?_)
  refine ml_aload_n (pc := 5) dX12_feed_5 rfl mm_get_0 ?_
  refine mb_gi (pc := 6) dX12_feed_6 fl_X12_155 hr (fun x2 hr => ?_)
  refine mg_bipush (pc := 9) dX12_feed_9 kb_20 ?_
  refine mg_iadd (pc := 11) dX12_feed_11 ?_
  refine mg_sipush (pc := 12) dX12_feed_12 ks_600 ?_
  refine mb_icmp_le (pc := 15) 20 dX12_feed_15 rfl hr (fun hr => ?_) (fun hr => ?_)
  · refine ml_aload_n (pc := 20) dX12_feed_20 rfl mm_get_0 ?_
    refine ml_iload_n (pc := 21) dX12_feed_21 rfl (mm_get_s mm_get_0) ?_
    refine mb_cVv (pc := 22) (As := [.int i1]) (rest := []) dX12_feed_22 cw_X12_158 h0 hr (fun v hv => X12_lays_ok hz (by omega) h0 hv) rfl (Nat.le_of_ble_eq_true rfl) (Nat.zero_le _) (Nat.zero_le _) (fun r3 hr => ?_)
    refine ml_aload_n (pc := 25) dX12_feed_25 rfl mm_get_0 ?_
    refine ml_iload_n (pc := 26) dX12_feed_26 rfl (mm_get_s (mm_get_s mm_get_0)) ?_
    refine mb_cVv (pc := 27) (As := [.int i2]) (rest := []) dX12_feed_27 cw_X12_158 h0 hr (fun v hv => X12_lays_ok hz (by omega) h0 hv) rfl (Nat.le_of_ble_eq_true rfl) (Nat.zero_le _) (Nat.zero_le _) (fun r4 hr => ?_)
    refine ml_aload_n (pc := 30) dX12_feed_30 rfl mm_get_0 ?_
    refine ml_iload_n (pc := 31) dX12_feed_31 rfl (mm_get_s (mm_get_s (mm_get_s mm_get_0))) ?_
    refine mb_cVv (pc := 32) (As := [.int i3]) (rest := []) dX12_feed_32 cw_X12_158 h0 hr (fun v hv => X12_lays_ok hz (by omega) h0 hv) rfl (Nat.le_of_ble_eq_true rfl) (Nat.zero_le _) (Nat.zero_le _) (fun r5 hr => ?_)
    refine ml_aload_n (pc := 35) dX12_feed_35 rfl mm_get_0 ?_
    refine ml_iload (pc := 36) dX12_feed_36 (mm_get_s (mm_get_s (mm_get_s (mm_get_s mm_get_0)))) ?_
    refine mb_cVv (pc := 38) (As := [.int i4]) (rest := []) dX12_feed_38 cw_X12_158 h0 hr (fun v hv => X12_lays_ok hz (by omega) h0 hv) rfl (Nat.le_of_ble_eq_true rfl) (Nat.zero_le _) (Nat.zero_le _) (fun r6 hr => ?_)
    refine ml_aload_n (pc := 41) dX12_feed_41 rfl mm_get_0 ?_
    refine ml_iload (pc := 42) dX12_feed_42 (mm_get_s (mm_get_s (mm_get_s (mm_get_s (mm_get_s mm_get_0))))) ?_
    refine mb_cVv (pc := 44) (As := [.int i5]) (rest := []) dX12_feed_44 cw_X12_158 h0 hr (fun v hv => X12_lays_ok hz (by omega) h0 hv) rfl (Nat.le_of_ble_eq_true rfl) (Nat.zero_le _) (Nat.zero_le _) (fun r7 hr => ?_)
    refine ml_aload_n (pc := 47) dX12_feed_47 rfl mm_get_0 ?_
    refine mb_gi (pc := 48) dX12_feed_48 fl_X12_155 hr (fun x8 hr => ?_)
    exact mb_iret dX12_feed_51 rfl hr
  · refine mg_iconst (pc := 18) dX12_feed_18 kc_m1 ?_
    exact mb_iret dX12_feed_19 rfl hr
theorem dX12_byteAt_0 : decode cX12_byteAt 0 = .ok (.iload_n 1, 1) := by decide +kernel
theorem dX12_byteAt_1 : decode cX12_byteAt 1 = .ok (.aload_n 0, 1) := by decide +kernel
theorem dX12_byteAt_2 : decode cX12_byteAt 2 = .ok (.getfield 162, 3) := by decide +kernel
theorem dX12_byteAt_5 : decode cX12_byteAt 5 = .ok (.if_icmp .ge 12, 3) := by decide +kernel
theorem dX12_byteAt_8 : decode cX12_byteAt 8 = .ok (.aload_n 0, 1) := by decide +kernel
theorem dX12_byteAt_9 : decode cX12_byteAt 9 = .ok (.getfield 26, 3) := by decide +kernel
theorem dX12_byteAt_12 : decode cX12_byteAt 12 = .ok (.iload_n 1, 1) := by decide +kernel
theorem dX12_byteAt_13 : decode cX12_byteAt 13 = .ok (.iaload, 1) := by decide +kernel
theorem dX12_byteAt_14 : decode cX12_byteAt 14 = .ok (.goto 4, 3) := by decide +kernel
theorem dX12_byteAt_17 : decode cX12_byteAt 17 = .ok (.iconst 0, 1) := by decide +kernel
theorem dX12_byteAt_18 : decode cX12_byteAt 18 = .ok (.ireturn, 1) := by decide +kernel
def X12_byteAt_b18 (e : mm_E) (t0 : Int32) (m : mm_V) : Option (Int32 × mm_V) := some (t0, m)
theorem X12_byteAt_b18_ok {K : mm_K} {nx : Option Nat} {e : mm_E} (hz : e.2.1 = K.2.2.2.2) {d : Nat} (hd : 0 ≤ d) {t0 : Int32} {a0 : Nat} (h0 : e.1 a0 = some (12, 75)) {m : mm_V} {r : (Int32 × mm_V)} (hr : X12_byteAt_b18 e t0 m = some r) : mm_G K MX12_byteAt d (mm_Fi e.1 nx r) 18 [none, none] [.int t0] (e.1, m) nx 0 0 := by
  unfold X12_byteAt_b18 at hr
  exact mb_iret dX12_byteAt_18 rfl hr
def X12_byteAt (e : mm_E) (a0 : Nat) (i1 : Int32) (m : mm_V) : Option (Int32 × mm_V) := (mm_gi e.1 m 12 75 a0 13).bind fun x1 => if x1 ≤ i1 then (X12_byteAt_b18 e  (0 : Int32) m) else ((mm_gr e.1 m 12 75 a0 8).bind fun c2 => (mm_ai e.1 m 20 c2 i1).bind fun x3 => X12_byteAt_b18 e  x3 m)
theorem X12_byteAt_ok {K : mm_K} {nx : Option Nat} {e : mm_E} (hz : e.2.1 = K.2.2.2.2) {d : Nat} (hd : 0 ≤ d) {a0 : Nat} {i1 : Int32} (h0 : e.1 a0 = some (12, 75)) {m : mm_V} {r : (Int32 × mm_V)} (hr : X12_byteAt e a0 i1 m = some r) : mm_Cn K MX12_byteAt d (mm_Fi e.1 nx r) [.ref a0, .int i1] (e.1, m) nx := by
  refine mm_entry (by decide) (Nat.le_of_ble_eq_true rfl) rfl (fun hok => ?_)
  unfold X12_byteAt at hr
  refine mg_weak (L' := [some (.ref a0), some (.int i1)]) (mm_le_s (mm_le_s mm_le_0)) ?_
  refine ml_iload_n (pc := 0) dX12_byteAt_0 rfl (mm_get_s mm_get_0) ?_
  refine ml_aload_n (pc := 1) dX12_byteAt_1 rfl mm_get_0 ?_
  refine mb_gi (pc := 2) dX12_byteAt_2 fl_X12_162 hr (fun x1 hr => ?_)
  refine mb_icmp_ge (pc := 5) 17 dX12_byteAt_5 rfl hr (fun hr => ?_) (fun hr => ?_)
  · refine mg_iconst (pc := 17) dX12_byteAt_17 kc_0 ?_
    exact mg_weak (mm_le_n (mm_le_n mm_le_0)) (X12_byteAt_b18_ok hz hd h0 hr)
  · refine ml_aload_n (pc := 8) dX12_byteAt_8 rfl mm_get_0 ?_
    refine mb_gr (pc := 9) dX12_byteAt_9 fl_X12_26 hr (fun c2 hr => ?_)
    refine ml_iload_n (pc := 12) dX12_byteAt_12 rfl (mm_get_s mm_get_0) ?_
    refine mb_ai (pc := 13) dX12_byteAt_13 hr (fun x3 hr => ?_)
    refine mg_goto (pc := 14) 18 dX12_byteAt_14 rfl ?_
    exact mg_weak (mm_le_n (mm_le_n mm_le_0)) (X12_byteAt_b18_ok hz hd h0 hr)
theorem dX12_isLetter_0 : decode cX12_isLetter 0 = .ok (.iload_n 0, 1) := by decide +kernel
theorem dX12_isLetter_1 : decode cX12_isLetter 1 = .ok (.bipush 97, 2) := by decide +kernel
theorem dX12_isLetter_3 : decode cX12_isLetter 3 = .ok (.if_icmp .lt 13, 3) := by decide +kernel
theorem dX12_isLetter_6 : decode cX12_isLetter 6 = .ok (.iload_n 0, 1) := by decide +kernel
theorem dX12_isLetter_7 : decode cX12_isLetter 7 = .ok (.bipush 122, 2) := by decide +kernel
theorem dX12_isLetter_9 : decode cX12_isLetter 9 = .ok (.if_icmp .gt 7, 3) := by decide +kernel
theorem dX12_isLetter_12 : decode cX12_isLetter 12 = .ok (.iconst 1, 1) := by decide +kernel
theorem dX12_isLetter_13 : decode cX12_isLetter 13 = .ok (.goto 4, 3) := by decide +kernel
theorem dX12_isLetter_16 : decode cX12_isLetter 16 = .ok (.iconst 0, 1) := by decide +kernel
theorem dX12_isLetter_17 : decode cX12_isLetter 17 = .ok (.ireturn, 1) := by decide +kernel
def X12_isLetter_b17 (e : mm_E) (t0 : Int32) (m : mm_V) : Option (Int32 × mm_V) := mm_rz t0 m
theorem X12_isLetter_b17_ok {K : mm_K} {nx : Option Nat} {e : mm_E} (hz : e.2.1 = K.2.2.2.2) {d : Nat} (hd : 0 ≤ d) {t0 : Int32} {m : mm_V} {r : (Int32 × mm_V)} (hr : X12_isLetter_b17 e t0 m = some r) : mm_G K MX12_isLetter d (mm_Fi e.1 nx r) 17 [none] [.int t0] (e.1, m) nx 0 0 := by
  unfold X12_isLetter_b17 at hr
  exact mb_zret dX12_isLetter_17 rfl hr
def X12_isLetter_b16 (e : mm_E) (m : mm_V) : Option (Int32 × mm_V) := X12_isLetter_b17 e  (0 : Int32) m
theorem X12_isLetter_b16_ok {K : mm_K} {nx : Option Nat} {e : mm_E} (hz : e.2.1 = K.2.2.2.2) {d : Nat} (hd : 0 ≤ d) {m : mm_V} {r : (Int32 × mm_V)} (hr : X12_isLetter_b16 e m = some r) : mm_G K MX12_isLetter d (mm_Fi e.1 nx r) 16 [none] [] (e.1, m) nx 0 0 := by
  unfold X12_isLetter_b16 at hr
  refine mg_iconst (pc := 16) dX12_isLetter_16 kc_0 ?_
  exact mg_weak (mm_le_n mm_le_0) (X12_isLetter_b17_ok hz hd hr)
def X12_isLetter (e : mm_E) (i0 : Int32) (m : mm_V) : Option (Int32 × mm_V) := if i0 < (97 : Int32) then (X12_isLetter_b16 e   m) else (if (122 : Int32) < i0 then (X12_isLetter_b16 e   m) else (X12_isLetter_b17 e  (1 : Int32) m))
theorem X12_isLetter_ok {K : mm_K} {nx : Option Nat} {e : mm_E} (hz : e.2.1 = K.2.2.2.2) {d : Nat} (hd : 0 ≤ d) {i0 : Int32} {m : mm_V} {r : (Int32 × mm_V)} (hr : X12_isLetter e i0 m = some r) : mm_Cn K MX12_isLetter d (mm_Fi e.1 nx r) [.int i0] (e.1, m) nx := by
  refine mm_entry (by decide) (Nat.le_of_ble_eq_true rfl) rfl (fun hok => ?_)
  unfold X12_isLetter at hr
  refine mg_weak (L' := [some (.int i0)]) (mm_le_s mm_le_0) ?_
  refine ml_iload_n (pc := 0) dX12_isLetter_0 rfl mm_get_0 ?_
  refine mg_bipush (pc := 1) dX12_isLetter_1 kb_97 ?_
  refine mb_icmp_lt (pc := 3) 16 dX12_isLetter_3 rfl hr (fun hr => ?_) (fun hr => ?_)
  · exact mg_weak (mm_le_n mm_le_0) (X12_isLetter_b16_ok hz hd hr)
  · refine ml_iload_n (pc := 6) dX12_isLetter_6 rfl mm_get_0 ?_
    refine mg_bipush (pc := 7) dX12_isLetter_7 kb_122 ?_
    refine mb_icmp_gt (pc := 9) 16 dX12_isLetter_9 rfl hr (fun hr => ?_) (fun hr => ?_)
    · exact mg_weak (mm_le_n mm_le_0) (X12_isLetter_b16_ok hz hd hr)
    · refine mg_iconst (pc := 12) dX12_isLetter_12 kc_1 ?_
      refine mg_goto (pc := 13) 17 dX12_isLetter_13 rfl ?_
      exact mg_weak (mm_le_n mm_le_0) (X12_isLetter_b17_ok hz hd hr)
theorem dX12_isDigit_0 : decode cX12_isDigit 0 = .ok (.iload_n 0, 1) := by decide +kernel
theorem dX12_isDigit_1 : decode cX12_isDigit 1 = .ok (.bipush 48, 2) := by decide +kernel
theorem dX12_isDigit_3 : decode cX12_isDigit 3 = .ok (.if_icmp .lt 13, 3) := by decide +kernel
theorem dX12_isDigit_6 : decode cX12_isDigit 6 = .ok (.iload_n 0, 1) := by decide +kernel
theorem dX12_isDigit_7 : decode cX12_isDigit 7 = .ok (.bipush 57, 2) := by decide +kernel
theorem dX12_isDigit_9 : decode cX12_isDigit 9 = .ok (.if_icmp .gt 7, 3) := by decide +kernel
theorem dX12_isDigit_12 : decode cX12_isDigit 12 = .ok (.iconst 1, 1) := by decide +kernel
theorem dX12_isDigit_13 : decode cX12_isDigit 13 = .ok (.goto 4, 3) := by decide +kernel
theorem dX12_isDigit_16 : decode cX12_isDigit 16 = .ok (.iconst 0, 1) := by decide +kernel
theorem dX12_isDigit_17 : decode cX12_isDigit 17 = .ok (.ireturn, 1) := by decide +kernel
def X12_isDigit_b17 (e : mm_E) (t0 : Int32) (m : mm_V) : Option (Int32 × mm_V) := mm_rz t0 m
theorem X12_isDigit_b17_ok {K : mm_K} {nx : Option Nat} {e : mm_E} (hz : e.2.1 = K.2.2.2.2) {d : Nat} (hd : 0 ≤ d) {t0 : Int32} {m : mm_V} {r : (Int32 × mm_V)} (hr : X12_isDigit_b17 e t0 m = some r) : mm_G K MX12_isDigit d (mm_Fi e.1 nx r) 17 [none] [.int t0] (e.1, m) nx 0 0 := by
  unfold X12_isDigit_b17 at hr
  exact mb_zret dX12_isDigit_17 rfl hr
def X12_isDigit_b16 (e : mm_E) (m : mm_V) : Option (Int32 × mm_V) := X12_isDigit_b17 e  (0 : Int32) m
theorem X12_isDigit_b16_ok {K : mm_K} {nx : Option Nat} {e : mm_E} (hz : e.2.1 = K.2.2.2.2) {d : Nat} (hd : 0 ≤ d) {m : mm_V} {r : (Int32 × mm_V)} (hr : X12_isDigit_b16 e m = some r) : mm_G K MX12_isDigit d (mm_Fi e.1 nx r) 16 [none] [] (e.1, m) nx 0 0 := by
  unfold X12_isDigit_b16 at hr
  refine mg_iconst (pc := 16) dX12_isDigit_16 kc_0 ?_
  exact mg_weak (mm_le_n mm_le_0) (X12_isDigit_b17_ok hz hd hr)
def X12_isDigit (e : mm_E) (i0 : Int32) (m : mm_V) : Option (Int32 × mm_V) := if i0 < (48 : Int32) then (X12_isDigit_b16 e   m) else (if (57 : Int32) < i0 then (X12_isDigit_b16 e   m) else (X12_isDigit_b17 e  (1 : Int32) m))
theorem X12_isDigit_ok {K : mm_K} {nx : Option Nat} {e : mm_E} (hz : e.2.1 = K.2.2.2.2) {d : Nat} (hd : 0 ≤ d) {i0 : Int32} {m : mm_V} {r : (Int32 × mm_V)} (hr : X12_isDigit e i0 m = some r) : mm_Cn K MX12_isDigit d (mm_Fi e.1 nx r) [.int i0] (e.1, m) nx := by
  refine mm_entry (by decide) (Nat.le_of_ble_eq_true rfl) rfl (fun hok => ?_)
  unfold X12_isDigit at hr
  refine mg_weak (L' := [some (.int i0)]) (mm_le_s mm_le_0) ?_
  refine ml_iload_n (pc := 0) dX12_isDigit_0 rfl mm_get_0 ?_
  refine mg_bipush (pc := 1) dX12_isDigit_1 kb_48 ?_
  refine mb_icmp_lt (pc := 3) 16 dX12_isDigit_3 rfl hr (fun hr => ?_) (fun hr => ?_)
  · exact mg_weak (mm_le_n mm_le_0) (X12_isDigit_b16_ok hz hd hr)
  · refine ml_iload_n (pc := 6) dX12_isDigit_6 rfl mm_get_0 ?_
    refine mg_bipush (pc := 7) dX12_isDigit_7 kb_57 ?_
    refine mb_icmp_gt (pc := 9) 16 dX12_isDigit_9 rfl hr (fun hr => ?_) (fun hr => ?_)
    · exact mg_weak (mm_le_n mm_le_0) (X12_isDigit_b16_ok hz hd hr)
    · refine mg_iconst (pc := 12) dX12_isDigit_12 kc_1 ?_
      refine mg_goto (pc := 13) 17 dX12_isDigit_13 rfl ?_
      exact mg_weak (mm_le_n mm_le_0) (X12_isDigit_b17_ok hz hd hr)
theorem dX12_goes_0 : decode cX12_goes 0 = .ok (.aload_n 0, 1) := by decide +kernel
theorem dX12_goes_1 : decode cX12_goes 1 = .ok (.getfield 165, 3) := by decide +kernel
theorem dX12_goes_4 : decode cX12_goes 4 = .ok (.aload_n 0, 1) := by decide +kernel
theorem dX12_goes_5 : decode cX12_goes 5 = .ok (.getfield 162, 3) := by decide +kernel
theorem dX12_goes_8 : decode cX12_goes 8 = .ok (.if_icmp .ge 42, 3) := by decide +kernel
theorem dX12_goes_11 : decode cX12_goes 11 = .ok (.aload_n 0, 1) := by decide +kernel
theorem dX12_goes_12 : decode cX12_goes 12 = .ok (.aload_n 0, 1) := by decide +kernel
theorem dX12_goes_13 : decode cX12_goes 13 = .ok (.getfield 165, 3) := by decide +kernel
theorem dX12_goes_16 : decode cX12_goes 16 = .ok (.invokevirtual 168, 3) := by decide +kernel
theorem dX12_goes_19 : decode cX12_goes 19 = .ok (.bipush 32, 2) := by decide +kernel
theorem dX12_goes_21 : decode cX12_goes 21 = .ok (.if_icmp .eq 16, 3) := by decide +kernel
theorem dX12_goes_24 : decode cX12_goes 24 = .ok (.aload_n 0, 1) := by decide +kernel
theorem dX12_goes_25 : decode cX12_goes 25 = .ok (.aload_n 0, 1) := by decide +kernel
theorem dX12_goes_26 : decode cX12_goes 26 = .ok (.getfield 165, 3) := by decide +kernel
theorem dX12_goes_29 : decode cX12_goes 29 = .ok (.invokevirtual 168, 3) := by decide +kernel
theorem dX12_goes_32 : decode cX12_goes 32 = .ok (.bipush 10, 2) := by decide +kernel
theorem dX12_goes_34 : decode cX12_goes 34 = .ok (.if_icmp .ne 16, 3) := by decide +kernel
theorem dX12_goes_37 : decode cX12_goes 37 = .ok (.aload_n 0, 1) := by decide +kernel
theorem dX12_goes_38 : decode cX12_goes 38 = .ok (.dup, 1) := by decide +kernel
theorem dX12_goes_39 : decode cX12_goes 39 = .ok (.getfield 165, 3) := by decide +kernel
theorem dX12_goes_42 : decode cX12_goes 42 = .ok (.iconst 1, 1) := by decide +kernel
theorem dX12_goes_43 : decode cX12_goes 43 = .ok (.iadd, 1) := by decide +kernel
theorem dX12_goes_44 : decode cX12_goes 44 = .ok (.putfield 165, 3) := by decide +kernel
theorem dX12_goes_47 : decode cX12_goes 47 = .ok (.goto (-47), 3) := by decide +kernel
theorem dX12_goes_50 : decode cX12_goes 50 = .ok (.aload_n 0, 1) := by decide +kernel
theorem dX12_goes_51 : decode cX12_goes 51 = .ok (.aload_n 0, 1) := by decide +kernel
theorem dX12_goes_52 : decode cX12_goes 52 = .ok (.getfield 165, 3) := by decide +kernel
theorem dX12_goes_55 : decode cX12_goes 55 = .ok (.putfield 172, 3) := by decide +kernel
theorem dX12_goes_58 : decode cX12_goes 58 = .ok (.aload_n 0, 1) := by decide +kernel
theorem dX12_goes_59 : decode cX12_goes 59 = .ok (.lconst 0, 1) := by decide +kernel
theorem dX12_goes_60 : decode cX12_goes 60 = .ok (.putfield 175, 3) := by decide +kernel
theorem dX12_goes_63 : decode cX12_goes 63 = .ok (.aload_n 0, 1) := by decide +kernel
theorem dX12_goes_64 : decode cX12_goes 64 = .ok (.iconst 0, 1) := by decide +kernel
theorem dX12_goes_65 : decode cX12_goes 65 = .ok (.putfield 179, 3) := by decide +kernel
theorem dX12_goes_68 : decode cX12_goes 68 = .ok (.aload_n 0, 1) := by decide +kernel
theorem dX12_goes_69 : decode cX12_goes 69 = .ok (.aload_n 0, 1) := by decide +kernel
theorem dX12_goes_70 : decode cX12_goes 70 = .ok (.getfield 165, 3) := by decide +kernel
theorem dX12_goes_73 : decode cX12_goes 73 = .ok (.invokevirtual 168, 3) := by decide +kernel
theorem dX12_goes_76 : decode cX12_goes 76 = .ok (.istore_n 1, 1) := by decide +kernel
theorem dX12_goes_77 : decode cX12_goes 77 = .ok (.aload_n 0, 1) := by decide +kernel
theorem dX12_goes_78 : decode cX12_goes 78 = .ok (.iload_n 1, 1) := by decide +kernel
theorem dX12_goes_79 : decode cX12_goes 79 = .ok (.putfield 182, 3) := by decide +kernel
theorem dX12_goes_82 : decode cX12_goes 82 = .ok (.aload_n 0, 1) := by decide +kernel
theorem dX12_goes_83 : decode cX12_goes 83 = .ok (.getfield 165, 3) := by decide +kernel
theorem dX12_goes_86 : decode cX12_goes 86 = .ok (.aload_n 0, 1) := by decide +kernel
theorem dX12_goes_87 : decode cX12_goes 87 = .ok (.getfield 162, 3) := by decide +kernel
theorem dX12_goes_90 : decode cX12_goes 90 = .ok (.if_icmp .lt 11, 3) := by decide +kernel
theorem dX12_goes_93 : decode cX12_goes 93 = .ok (.aload_n 0, 1) := by decide +kernel
theorem dX12_goes_94 : decode cX12_goes 94 = .ok (.iconst 0, 1) := by decide +kernel
theorem dX12_goes_95 : decode cX12_goes 95 = .ok (.putfield 185, 3) := by decide +kernel
theorem dX12_goes_98 : decode cX12_goes 98 = .ok (.goto 233, 3) := by decide +kernel
theorem dX12_goes_101 : decode cX12_goes 101 = .ok (.iload_n 1, 1) := by decide +kernel
theorem dX12_goes_102 : decode cX12_goes 102 = .ok (.invokestatic 188, 3) := by decide +kernel
theorem dX12_goes_105 : decode cX12_goes 105 = .ok (.ifCond .eq 75, 3) := by decide +kernel
theorem dX12_goes_108 : decode cX12_goes 108 = .ok (.aload_n 0, 1) := by decide +kernel
theorem dX12_goes_109 : decode cX12_goes 109 = .ok (.aload_n 0, 1) := by decide +kernel
theorem dX12_goes_110 : decode cX12_goes 110 = .ok (.getfield 165, 3) := by decide +kernel
theorem dX12_goes_113 : decode cX12_goes 113 = .ok (.invokevirtual 168, 3) := by decide +kernel
theorem dX12_goes_116 : decode cX12_goes 116 = .ok (.invokestatic 188, 3) := by decide +kernel
theorem dX12_goes_119 : decode cX12_goes 119 = .ok (.ifCond .eq 53, 3) := by decide +kernel
theorem dX12_goes_122 : decode cX12_goes 122 = .ok (.aload_n 0, 1) := by decide +kernel
theorem dX12_goes_123 : decode cX12_goes 123 = .ok (.getfield 165, 3) := by decide +kernel
theorem dX12_goes_126 : decode cX12_goes 126 = .ok (.aload_n 0, 1) := by decide +kernel
theorem dX12_goes_127 : decode cX12_goes 127 = .ok (.getfield 172, 3) := by decide +kernel
theorem dX12_goes_130 : decode cX12_goes 130 = .ok (.isub, 1) := by decide +kernel
theorem dX12_goes_131 : decode cX12_goes 131 = .ok (.bipush 6, 2) := by decide +kernel
theorem dX12_goes_133 : decode cX12_goes 133 = .ok (.if_icmp .ge 26, 3) := by decide +kernel
theorem dX12_goes_136 : decode cX12_goes 136 = .ok (.aload_n 0, 1) := by decide +kernel
theorem dX12_goes_137 : decode cX12_goes 137 = .ok (.aload_n 0, 1) := by decide +kernel
theorem dX12_goes_138 : decode cX12_goes 138 = .ok (.getfield 175, 3) := by decide +kernel
theorem dX12_goes_141 : decode cX12_goes 141 = .ok (.iconst 5, 1) := by decide +kernel
theorem dX12_goes_142 : decode cX12_goes 142 = .ok (.lshl, 1) := by decide +kernel
theorem dX12_goes_143 : decode cX12_goes 143 = .ok (.aload_n 0, 1) := by decide +kernel
theorem dX12_goes_144 : decode cX12_goes 144 = .ok (.aload_n 0, 1) := by decide +kernel
theorem dX12_goes_145 : decode cX12_goes 145 = .ok (.getfield 165, 3) := by decide +kernel
theorem dX12_goes_148 : decode cX12_goes 148 = .ok (.invokevirtual 168, 3) := by decide +kernel
theorem dX12_goes_151 : decode cX12_goes 151 = .ok (.bipush 96, 2) := by decide +kernel
theorem dX12_goes_153 : decode cX12_goes 153 = .ok (.isub, 1) := by decide +kernel
theorem dX12_goes_154 : decode cX12_goes 154 = .ok (.i2l, 1) := by decide +kernel
theorem dX12_goes_155 : decode cX12_goes 155 = .ok (.lor, 1) := by decide +kernel
theorem dX12_goes_156 : decode cX12_goes 156 = .ok (.putfield 175, 3) := by decide +kernel
theorem dX12_goes_159 : decode cX12_goes 159 = .ok (.aload_n 0, 1) := by decide +kernel
theorem dX12_goes_160 : decode cX12_goes 160 = .ok (.dup, 1) := by decide +kernel
theorem dX12_goes_161 : decode cX12_goes 161 = .ok (.getfield 165, 3) := by decide +kernel
theorem dX12_goes_164 : decode cX12_goes 164 = .ok (.iconst 1, 1) := by decide +kernel
theorem dX12_goes_165 : decode cX12_goes 165 = .ok (.iadd, 1) := by decide +kernel
theorem dX12_goes_166 : decode cX12_goes 166 = .ok (.putfield 165, 3) := by decide +kernel
theorem dX12_goes_169 : decode cX12_goes 169 = .ok (.goto (-61), 3) := by decide +kernel
theorem dX12_goes_172 : decode cX12_goes 172 = .ok (.aload_n 0, 1) := by decide +kernel
theorem dX12_goes_173 : decode cX12_goes 173 = .ok (.iconst 1, 1) := by decide +kernel
theorem dX12_goes_174 : decode cX12_goes 174 = .ok (.putfield 185, 3) := by decide +kernel
theorem dX12_goes_177 : decode cX12_goes 177 = .ok (.goto 154, 3) := by decide +kernel
theorem dX12_goes_180 : decode cX12_goes 180 = .ok (.iload_n 1, 1) := by decide +kernel
theorem dX12_goes_181 : decode cX12_goes 181 = .ok (.invokestatic 192, 3) := by decide +kernel
theorem dX12_goes_184 : decode cX12_goes 184 = .ok (.ifCond .eq 74, 3) := by decide +kernel
theorem dX12_goes_187 : decode cX12_goes 187 = .ok (.aload_n 0, 1) := by decide +kernel
theorem dX12_goes_188 : decode cX12_goes 188 = .ok (.aload_n 0, 1) := by decide +kernel
theorem dX12_goes_189 : decode cX12_goes 189 = .ok (.getfield 165, 3) := by decide +kernel
theorem dX12_goes_192 : decode cX12_goes 192 = .ok (.invokevirtual 168, 3) := by decide +kernel
theorem dX12_goes_195 : decode cX12_goes 195 = .ok (.invokestatic 192, 3) := by decide +kernel
theorem dX12_goes_198 : decode cX12_goes 198 = .ok (.ifCond .eq 52, 3) := by decide +kernel
theorem dX12_goes_201 : decode cX12_goes 201 = .ok (.aload_n 0, 1) := by decide +kernel
theorem dX12_goes_202 : decode cX12_goes 202 = .ok (.getfield 165, 3) := by decide +kernel
theorem dX12_goes_205 : decode cX12_goes 205 = .ok (.aload_n 0, 1) := by decide +kernel
theorem dX12_goes_206 : decode cX12_goes 206 = .ok (.getfield 172, 3) := by decide +kernel
theorem dX12_goes_209 : decode cX12_goes 209 = .ok (.isub, 1) := by decide +kernel
theorem dX12_goes_210 : decode cX12_goes 210 = .ok (.iconst 4, 1) := by decide +kernel
theorem dX12_goes_211 : decode cX12_goes 211 = .ok (.if_icmp .ge 26, 3) := by decide +kernel
theorem dX12_goes_214 : decode cX12_goes 214 = .ok (.aload_n 0, 1) := by decide +kernel
theorem dX12_goes_215 : decode cX12_goes 215 = .ok (.bipush 10, 2) := by decide +kernel
theorem dX12_goes_217 : decode cX12_goes 217 = .ok (.aload_n 0, 1) := by decide +kernel
theorem dX12_goes_218 : decode cX12_goes 218 = .ok (.getfield 179, 3) := by decide +kernel
theorem dX12_goes_221 : decode cX12_goes 221 = .ok (.imul, 1) := by decide +kernel
theorem dX12_goes_222 : decode cX12_goes 222 = .ok (.aload_n 0, 1) := by decide +kernel
theorem dX12_goes_223 : decode cX12_goes 223 = .ok (.aload_n 0, 1) := by decide +kernel
theorem dX12_goes_224 : decode cX12_goes 224 = .ok (.getfield 165, 3) := by decide +kernel
theorem dX12_goes_227 : decode cX12_goes 227 = .ok (.invokevirtual 168, 3) := by decide +kernel
theorem dX12_goes_230 : decode cX12_goes 230 = .ok (.iadd, 1) := by decide +kernel
theorem dX12_goes_231 : decode cX12_goes 231 = .ok (.bipush 48, 2) := by decide +kernel
theorem dX12_goes_233 : decode cX12_goes 233 = .ok (.isub, 1) := by decide +kernel
theorem dX12_goes_234 : decode cX12_goes 234 = .ok (.putfield 179, 3) := by decide +kernel
theorem dX12_goes_237 : decode cX12_goes 237 = .ok (.aload_n 0, 1) := by decide +kernel
theorem dX12_goes_238 : decode cX12_goes 238 = .ok (.dup, 1) := by decide +kernel
theorem dX12_goes_239 : decode cX12_goes 239 = .ok (.getfield 165, 3) := by decide +kernel
theorem dX12_goes_242 : decode cX12_goes 242 = .ok (.iconst 1, 1) := by decide +kernel
theorem dX12_goes_243 : decode cX12_goes 243 = .ok (.iadd, 1) := by decide +kernel
theorem dX12_goes_244 : decode cX12_goes 244 = .ok (.putfield 165, 3) := by decide +kernel
theorem dX12_goes_247 : decode cX12_goes 247 = .ok (.goto (-60), 3) := by decide +kernel
theorem dX12_goes_250 : decode cX12_goes 250 = .ok (.aload_n 0, 1) := by decide +kernel
theorem dX12_goes_251 : decode cX12_goes 251 = .ok (.iconst 2, 1) := by decide +kernel
theorem dX12_goes_252 : decode cX12_goes 252 = .ok (.putfield 185, 3) := by decide +kernel
theorem dX12_goes_255 : decode cX12_goes 255 = .ok (.goto 76, 3) := by decide +kernel
theorem dX12_goes_258 : decode cX12_goes 258 = .ok (.aload_n 0, 1) := by decide +kernel
theorem dX12_goes_259 : decode cX12_goes 259 = .ok (.dup, 1) := by decide +kernel
theorem dX12_goes_260 : decode cX12_goes 260 = .ok (.getfield 165, 3) := by decide +kernel
theorem dX12_goes_263 : decode cX12_goes 263 = .ok (.iconst 1, 1) := by decide +kernel
theorem dX12_goes_264 : decode cX12_goes 264 = .ok (.iadd, 1) := by decide +kernel
theorem dX12_goes_265 : decode cX12_goes 265 = .ok (.putfield 165, 3) := by decide +kernel
theorem dX12_goes_268 : decode cX12_goes 268 = .ok (.aload_n 0, 1) := by decide +kernel
theorem dX12_goes_269 : decode cX12_goes 269 = .ok (.iload_n 1, 1) := by decide +kernel
theorem dX12_goes_270 : decode cX12_goes 270 = .ok (.bipush 59, 2) := by decide +kernel
theorem dX12_goes_272 : decode cX12_goes 272 = .ok (.if_icmp .eq 51, 3) := by decide +kernel
theorem dX12_goes_275 : decode cX12_goes 275 = .ok (.iload_n 1, 1) := by decide +kernel
theorem dX12_goes_276 : decode cX12_goes 276 = .ok (.bipush 40, 2) := by decide +kernel
theorem dX12_goes_278 : decode cX12_goes 278 = .ok (.if_icmp .eq 45, 3) := by decide +kernel
theorem dX12_goes_281 : decode cX12_goes 281 = .ok (.iload_n 1, 1) := by decide +kernel
theorem dX12_goes_282 : decode cX12_goes 282 = .ok (.bipush 41, 2) := by decide +kernel
theorem dX12_goes_284 : decode cX12_goes 284 = .ok (.if_icmp .eq 39, 3) := by decide +kernel
theorem dX12_goes_287 : decode cX12_goes 287 = .ok (.iload_n 1, 1) := by decide +kernel
theorem dX12_goes_288 : decode cX12_goes 288 = .ok (.bipush 43, 2) := by decide +kernel
theorem dX12_goes_290 : decode cX12_goes 290 = .ok (.if_icmp .eq 33, 3) := by decide +kernel
theorem dX12_goes_293 : decode cX12_goes 293 = .ok (.iload_n 1, 1) := by decide +kernel
theorem dX12_goes_294 : decode cX12_goes 294 = .ok (.bipush 45, 2) := by decide +kernel
theorem dX12_goes_296 : decode cX12_goes 296 = .ok (.if_icmp .eq 27, 3) := by decide +kernel
theorem dX12_goes_299 : decode cX12_goes 299 = .ok (.iload_n 1, 1) := by decide +kernel
theorem dX12_goes_300 : decode cX12_goes 300 = .ok (.bipush 42, 2) := by decide +kernel
theorem dX12_goes_302 : decode cX12_goes 302 = .ok (.if_icmp .eq 21, 3) := by decide +kernel
theorem dX12_goes_305 : decode cX12_goes 305 = .ok (.iload_n 1, 1) := by decide +kernel
theorem dX12_goes_306 : decode cX12_goes 306 = .ok (.bipush 47, 2) := by decide +kernel
theorem dX12_goes_308 : decode cX12_goes 308 = .ok (.if_icmp .eq 15, 3) := by decide +kernel
theorem dX12_goes_311 : decode cX12_goes 311 = .ok (.iload_n 1, 1) := by decide +kernel
theorem dX12_goes_312 : decode cX12_goes 312 = .ok (.bipush 60, 2) := by decide +kernel
theorem dX12_goes_314 : decode cX12_goes 314 = .ok (.if_icmp .eq 9, 3) := by decide +kernel
theorem dX12_goes_317 : decode cX12_goes 317 = .ok (.iload_n 1, 1) := by decide +kernel
theorem dX12_goes_318 : decode cX12_goes 318 = .ok (.bipush 61, 2) := by decide +kernel
theorem dX12_goes_320 : decode cX12_goes 320 = .ok (.if_icmp .ne 7, 3) := by decide +kernel
theorem dX12_goes_323 : decode cX12_goes 323 = .ok (.iconst 3, 1) := by decide +kernel
theorem dX12_goes_324 : decode cX12_goes 324 = .ok (.goto 4, 3) := by decide +kernel
theorem dX12_goes_327 : decode cX12_goes 327 = .ok (.iconst 4, 1) := by decide +kernel
theorem dX12_goes_328 : decode cX12_goes 328 = .ok (.putfield 185, 3) := by decide +kernel
theorem dX12_goes_331 : decode cX12_goes 331 = .ok (.aload_n 0, 1) := by decide +kernel
theorem dX12_goes_332 : decode cX12_goes 332 = .ok (.aload_n 0, 1) := by decide +kernel
theorem dX12_goes_333 : decode cX12_goes 333 = .ok (.getfield 165, 3) := by decide +kernel
theorem dX12_goes_336 : decode cX12_goes 336 = .ok (.aload_n 0, 1) := by decide +kernel
theorem dX12_goes_337 : decode cX12_goes 337 = .ok (.getfield 172, 3) := by decide +kernel
theorem dX12_goes_340 : decode cX12_goes 340 = .ok (.isub, 1) := by decide +kernel
theorem dX12_goes_341 : decode cX12_goes 341 = .ok (.putfield 195, 3) := by decide +kernel
theorem dX12_goes_344 : decode cX12_goes 344 = .ok (.return_, 1) := by decide +kernel
def X12_goes_b331 (e : mm_E) (a0 : Nat) (m : mm_V) : Option mm_V := (mm_gi e.1 m 12 75 a0 14).bind fun x1 => (mm_gi e.1 m 12 75 a0 16).bind fun x2 => (mm_pf e.1 m 12 75 a0 17 (.int (x1 - x2))).bind fun m3 => some m3
theorem X12_goes_b331_ok {K : mm_K} {nx : Option Nat} {e : mm_E} (hz : e.2.1 = K.2.2.2.2) {d : Nat} (hd : 1 ≤ d) {a0 : Nat} (h0 : e.1 a0 = some (12, 75)) {m : mm_V} {r : mm_V} (hr : X12_goes_b331 e a0 m = some r) : mm_G K MX12_goes d (mm_Fv e.1 nx r) 331 [some (.ref a0), none] [] (e.1, m) nx 0 0 := by
  obtain ⟨d, rfl⟩ : ∃ d', d = d' + 1 := ⟨d - 1, by omega⟩
  unfold X12_goes_b331 at hr
  refine ml_aload_n (pc := 331) dX12_goes_331 rfl mm_get_0 ?_
  refine ml_aload_n (pc := 332) dX12_goes_332 rfl mm_get_0 ?_
  refine mb_gi (pc := 333) dX12_goes_333 fl_X12_165 hr (fun x1 hr => ?_)
  refine ml_aload_n (pc := 336) dX12_goes_336 rfl mm_get_0 ?_
  refine mb_gi (pc := 337) dX12_goes_337 fl_X12_172 hr (fun x2 hr => ?_)
  refine mg_isub (pc := 340) dX12_goes_340 ?_
  refine mb_pi (pc := 341) dX12_goes_341 fp_X12_195 hr (fun m3 hr => ?_)
  exact mb_vret dX12_goes_344 rfl hr
def X12_goes_b328 (e : mm_E) (a0 : Nat) (t0 : Nat) (t1 : Int32) (m : mm_V) : Option mm_V := (mm_pf e.1 m 12 75 t0 15 (.int t1)).bind fun m1 => X12_goes_b331 e a0  m1
theorem X12_goes_b328_ok {K : mm_K} {nx : Option Nat} {e : mm_E} (hz : e.2.1 = K.2.2.2.2) {d : Nat} (hd : 1 ≤ d) {a0 : Nat} {t0 : Nat} {t1 : Int32} (h0 : e.1 a0 = some (12, 75)) {m : mm_V} {r : mm_V} (hr : X12_goes_b328 e a0 t0 t1 m = some r) : mm_G K MX12_goes d (mm_Fv e.1 nx r) 328 [some (.ref a0), none] [.int t1, .ref t0] (e.1, m) nx 0 0 := by
  obtain ⟨d, rfl⟩ : ∃ d', d = d' + 1 := ⟨d - 1, by omega⟩
  unfold X12_goes_b328 at hr
  refine mb_pi (pc := 328) dX12_goes_328 fp_X12_185 hr (fun m1 hr => ?_)
  exact mg_weak (mm_le_s (mm_le_n mm_le_0)) (X12_goes_b331_ok hz hd h0 hr)
def X12_goes_b323 (e : mm_E) (a0 : Nat) (t0 : Nat) (m : mm_V) : Option mm_V := X12_goes_b328 e a0 t0 (3 : Int32) m
theorem X12_goes_b323_ok {K : mm_K} {nx : Option Nat} {e : mm_E} (hz : e.2.1 = K.2.2.2.2) {d : Nat} (hd : 1 ≤ d) {a0 : Nat} {t0 : Nat} (h0 : e.1 a0 = some (12, 75)) {m : mm_V} {r : mm_V} (hr : X12_goes_b323 e a0 t0 m = some r) : mm_G K MX12_goes d (mm_Fv e.1 nx r) 323 [some (.ref a0), none] [.ref t0] (e.1, m) nx 0 0 := by
  obtain ⟨d, rfl⟩ : ∃ d', d = d' + 1 := ⟨d - 1, by omega⟩
  unfold X12_goes_b323 at hr
  refine mg_iconst (pc := 323) dX12_goes_323 kc_3 ?_
  refine mg_goto (pc := 324) 328 dX12_goes_324 rfl ?_
  exact mg_weak (mm_le_s (mm_le_n mm_le_0)) (X12_goes_b328_ok hz hd h0 hr)
def X12_goes_b237 (e : mm_E) (k187 : mm_V → Option mm_V) (a0 : Nat) (m : mm_V) : Option mm_V := (mm_gi e.1 m 12 75 a0 14).bind fun x1 => (mm_pf e.1 m 12 75 a0 14 (.int (x1 + (1 : Int32)))).bind fun m2 => k187  m2
theorem X12_goes_b237_ok {K : mm_K} {nx : Option Nat} {e : mm_E} (hz : e.2.1 = K.2.2.2.2) {d : Nat} (hd : 1 ≤ d) {a0 : Nat} (h0 : e.1 a0 = some (12, 75)) {k187 : mm_V → Option mm_V} (hk187 : ∀ (m : mm_V) (r : mm_V), k187  m = some r → mm_G K MX12_goes d (mm_Fv e.1 nx r) 187 [some (.ref a0), none] [] (e.1, m) nx 0 0) {m : mm_V} {r : mm_V} (hr : X12_goes_b237 e k187 a0 m = some r) : mm_G K MX12_goes d (mm_Fv e.1 nx r) 237 [some (.ref a0), none] [] (e.1, m) nx 0 0 := by
  obtain ⟨d, rfl⟩ : ∃ d', d = d' + 1 := ⟨d - 1, by omega⟩
  unfold X12_goes_b237 at hr
  refine ml_aload_n (pc := 237) dX12_goes_237 rfl mm_get_0 ?_
  refine mg_dup (pc := 238) dX12_goes_238 rfl ?_
  refine mb_gi (pc := 239) dX12_goes_239 fl_X12_165 hr (fun x1 hr => ?_)
  refine mg_iconst (pc := 242) dX12_goes_242 kc_1 ?_
  refine mg_iadd (pc := 243) dX12_goes_243 ?_
  refine mb_pi (pc := 244) dX12_goes_244 fp_X12_165 hr (fun m2 hr => ?_)
  refine mg_goto (pc := 247) 187 dX12_goes_247 rfl ?_
  exact mg_weak (mm_le_s (mm_le_n mm_le_0)) (hk187  _ _ hr)
def X12_goes_L187 (e : mm_E) (a0 : Nat) : Nat → mm_V → Option mm_V
  | 0, _ => none
  | n + 1, m => (mm_gi e.1 m 12 75 a0 14).bind fun x1 => (X12_byteAt e a0 x1 m).bind fun r2 => (X12_isDigit e r2.1 r2.2).bind fun r3 => if r3.1 = 0 then ((mm_pf e.1 r3.2 12 75 a0 15 (.int (2 : Int32))).bind fun m4 => X12_goes_b331 e a0  m4) else ((mm_gi e.1 r3.2 12 75 a0 14).bind fun x5 => (mm_gi e.1 r3.2 12 75 a0 16).bind fun x6 => if (4 : Int32) ≤ (x5 - x6) then (X12_goes_b237 e (X12_goes_L187 e a0 n) a0  r3.2) else ((mm_gi e.1 r3.2 12 75 a0 18).bind fun x7 => (mm_gi e.1 r3.2 12 75 a0 14).bind fun x8 => (X12_byteAt e a0 x8 r3.2).bind fun r9 => (mm_pf e.1 r9.2 12 75 a0 18 (.int ((((10 : Int32) * x7) + r9.1) - (48 : Int32)))).bind fun m10 => X12_goes_b237 e (X12_goes_L187 e a0 n) a0  m10))
theorem X12_goes_L187_ok {K : mm_K} {nx : Option Nat} {e : mm_E} (hz : e.2.1 = K.2.2.2.2) {d : Nat} (hd : 1 ≤ d) {a0 : Nat} (h0 : e.1 a0 = some (12, 75)) : ∀ (n : Nat) (m : mm_V) (r : mm_V), X12_goes_L187 e a0 n  m = some r → mm_G K MX12_goes d (mm_Fv e.1 nx r) 187 [some (.ref a0), none] [] (e.1, m) nx 0 0 := by
  obtain ⟨d, rfl⟩ : ∃ d', d = d' + 1 := ⟨d - 1, by omega⟩
  intro n
  induction n with
  | zero => intro m r hr; unfold X12_goes_L187 at hr; cases hr
  | succ n ih =>
    intro m r hr
    unfold X12_goes_L187 at hr
    refine ml_aload_n (pc := 187) dX12_goes_187 rfl mm_get_0 ?_
    refine ml_aload_n (pc := 188) dX12_goes_188 rfl mm_get_0 ?_
    refine mb_gi (pc := 189) dX12_goes_189 fl_X12_165 hr (fun x1 hr => ?_)
    refine mb_cVi (pc := 192) (As := [.int x1]) (rest := []) dX12_goes_192 cw_X12_168 h0 hr (fun v hv => X12_byteAt_ok hz (by omega) h0 hv) rfl (Nat.le_of_ble_eq_true rfl) (Nat.zero_le _) (Nat.zero_le _) (fun r2 hr => ?_)
    refine mb_cSi (pc := 195) (As := [.int r2.1]) (rest := []) dX12_goes_195 cw_X12_192  hr (fun v hv => X12_isDigit_ok hz (by omega)  hv) rfl (Nat.le_of_ble_eq_true rfl) (Nat.zero_le _) (Nat.zero_le _) (fun r3 hr => ?_)
    refine mb_if_eq (pc := 198) 250 dX12_goes_198 rfl hr (fun hr => ?_) (fun hr => ?_)
    · refine ml_aload_n (pc := 250) dX12_goes_250 rfl mm_get_0 ?_
      refine mg_iconst (pc := 251) dX12_goes_251 kc_2 ?_
      refine mb_pi (pc := 252) dX12_goes_252 fp_X12_185 hr (fun m4 hr => ?_)
      refine mg_goto (pc := 255) 331 dX12_goes_255 rfl ?_
      exact mg_weak (mm_le_s (mm_le_n mm_le_0)) (X12_goes_b331_ok hz hd h0 hr)
    · refine ml_aload_n (pc := 201) dX12_goes_201 rfl mm_get_0 ?_
      refine mb_gi (pc := 202) dX12_goes_202 fl_X12_165 hr (fun x5 hr => ?_)
      refine ml_aload_n (pc := 205) dX12_goes_205 rfl mm_get_0 ?_
      refine mb_gi (pc := 206) dX12_goes_206 fl_X12_172 hr (fun x6 hr => ?_)
      refine mg_isub (pc := 209) dX12_goes_209 ?_
      refine mg_iconst (pc := 210) dX12_goes_210 kc_4 ?_
      refine mb_icmp_ge (pc := 211) 237 dX12_goes_211 rfl hr (fun hr => ?_) (fun hr => ?_)
      · exact mg_weak (mm_le_s (mm_le_n mm_le_0)) (X12_goes_b237_ok hz hd h0 ih hr)
      · refine ml_aload_n (pc := 214) dX12_goes_214 rfl mm_get_0 ?_
        refine mg_bipush (pc := 215) dX12_goes_215 kb_10 ?_
        refine ml_aload_n (pc := 217) dX12_goes_217 rfl mm_get_0 ?_
        refine mb_gi (pc := 218) dX12_goes_218 fl_X12_179 hr (fun x7 hr => ?_)
        refine mg_imul (pc := 221) dX12_goes_221 ?_
        refine ml_aload_n (pc := 222) dX12_goes_222 rfl mm_get_0 ?_
        refine ml_aload_n (pc := 223) dX12_goes_223 rfl mm_get_0 ?_
        refine mb_gi (pc := 224) dX12_goes_224 fl_X12_165 hr (fun x8 hr => ?_)
        refine mb_cVi (pc := 227) (As := [.int x8]) (rest := [.int ((10 : Int32) * x7), .ref a0]) dX12_goes_227 cw_X12_168 h0 hr (fun v hv => X12_byteAt_ok hz (by omega) h0 hv) rfl (Nat.le_of_ble_eq_true rfl) (Nat.zero_le _) (Nat.zero_le _) (fun r9 hr => ?_)
        refine mg_iadd (pc := 230) dX12_goes_230 ?_
        refine mg_bipush (pc := 231) dX12_goes_231 kb_48 ?_
        refine mg_isub (pc := 233) dX12_goes_233 ?_
        refine mb_pi (pc := 234) dX12_goes_234 fp_X12_179 hr (fun m10 hr => ?_)
        exact mg_weak (mm_le_s (mm_le_n mm_le_0)) (X12_goes_b237_ok hz hd h0 ih hr)
def X12_goes_b159 (e : mm_E) (k108 : mm_V → Option mm_V) (a0 : Nat) (m : mm_V) : Option mm_V := (mm_gi e.1 m 12 75 a0 14).bind fun x1 => (mm_pf e.1 m 12 75 a0 14 (.int (x1 + (1 : Int32)))).bind fun m2 => k108  m2
theorem X12_goes_b159_ok {K : mm_K} {nx : Option Nat} {e : mm_E} (hz : e.2.1 = K.2.2.2.2) {d : Nat} (hd : 1 ≤ d) {a0 : Nat} (h0 : e.1 a0 = some (12, 75)) {k108 : mm_V → Option mm_V} (hk108 : ∀ (m : mm_V) (r : mm_V), k108  m = some r → mm_G K MX12_goes d (mm_Fv e.1 nx r) 108 [some (.ref a0), none] [] (e.1, m) nx 0 0) {m : mm_V} {r : mm_V} (hr : X12_goes_b159 e k108 a0 m = some r) : mm_G K MX12_goes d (mm_Fv e.1 nx r) 159 [some (.ref a0), none] [] (e.1, m) nx 0 0 := by
  obtain ⟨d, rfl⟩ : ∃ d', d = d' + 1 := ⟨d - 1, by omega⟩
  unfold X12_goes_b159 at hr
  refine ml_aload_n (pc := 159) dX12_goes_159 rfl mm_get_0 ?_
  refine mg_dup (pc := 160) dX12_goes_160 rfl ?_
  refine mb_gi (pc := 161) dX12_goes_161 fl_X12_165 hr (fun x1 hr => ?_)
  refine mg_iconst (pc := 164) dX12_goes_164 kc_1 ?_
  refine mg_iadd (pc := 165) dX12_goes_165 ?_
  refine mb_pi (pc := 166) dX12_goes_166 fp_X12_165 hr (fun m2 hr => ?_)
  refine mg_goto (pc := 169) 108 dX12_goes_169 rfl ?_
  exact mg_weak (mm_le_s (mm_le_n mm_le_0)) (hk108  _ _ hr)
def X12_goes_L108 (e : mm_E) (a0 : Nat) : Nat → mm_V → Option mm_V
  | 0, _ => none
  | n + 1, m => (mm_gi e.1 m 12 75 a0 14).bind fun x1 => (X12_byteAt e a0 x1 m).bind fun r2 => (X12_isLetter e r2.1 r2.2).bind fun r3 => if r3.1 = 0 then ((mm_pf e.1 r3.2 12 75 a0 15 (.int (1 : Int32))).bind fun m4 => X12_goes_b331 e a0  m4) else ((mm_gi e.1 r3.2 12 75 a0 14).bind fun x5 => (mm_gi e.1 r3.2 12 75 a0 16).bind fun x6 => if (6 : Int32) ≤ (x5 - x6) then (X12_goes_b159 e (X12_goes_L108 e a0 n) a0  r3.2) else ((mm_gl e.1 r3.2 12 75 a0 20).bind fun y7 => (mm_gi e.1 r3.2 12 75 a0 14).bind fun x8 => (X12_byteAt e a0 x8 r3.2).bind fun r9 => (mm_pf e.1 r9.2 12 75 a0 20 (.long ((y7 <<< ((5 : Int32).toInt64 &&& 63)) ||| (r9.1 - (96 : Int32)).toInt64))).bind fun m10 => X12_goes_b159 e (X12_goes_L108 e a0 n) a0  m10))
theorem X12_goes_L108_ok {K : mm_K} {nx : Option Nat} {e : mm_E} (hz : e.2.1 = K.2.2.2.2) {d : Nat} (hd : 1 ≤ d) {a0 : Nat} (h0 : e.1 a0 = some (12, 75)) : ∀ (n : Nat) (m : mm_V) (r : mm_V), X12_goes_L108 e a0 n  m = some r → mm_G K MX12_goes d (mm_Fv e.1 nx r) 108 [some (.ref a0), none] [] (e.1, m) nx 0 0 := by
  obtain ⟨d, rfl⟩ : ∃ d', d = d' + 1 := ⟨d - 1, by omega⟩
  intro n
  induction n with
  | zero => intro m r hr; unfold X12_goes_L108 at hr; cases hr
  | succ n ih =>
    intro m r hr
    unfold X12_goes_L108 at hr
    refine ml_aload_n (pc := 108) dX12_goes_108 rfl mm_get_0 ?_
    refine ml_aload_n (pc := 109) dX12_goes_109 rfl mm_get_0 ?_
    refine mb_gi (pc := 110) dX12_goes_110 fl_X12_165 hr (fun x1 hr => ?_)
    refine mb_cVi (pc := 113) (As := [.int x1]) (rest := []) dX12_goes_113 cw_X12_168 h0 hr (fun v hv => X12_byteAt_ok hz (by omega) h0 hv) rfl (Nat.le_of_ble_eq_true rfl) (Nat.zero_le _) (Nat.zero_le _) (fun r2 hr => ?_)
    refine mb_cSi (pc := 116) (As := [.int r2.1]) (rest := []) dX12_goes_116 cw_X12_188  hr (fun v hv => X12_isLetter_ok hz (by omega)  hv) rfl (Nat.le_of_ble_eq_true rfl) (Nat.zero_le _) (Nat.zero_le _) (fun r3 hr => ?_)
    refine mb_if_eq (pc := 119) 172 dX12_goes_119 rfl hr (fun hr => ?_) (fun hr => ?_)
    · refine ml_aload_n (pc := 172) dX12_goes_172 rfl mm_get_0 ?_
      refine mg_iconst (pc := 173) dX12_goes_173 kc_1 ?_
      refine mb_pi (pc := 174) dX12_goes_174 fp_X12_185 hr (fun m4 hr => ?_)
      refine mg_goto (pc := 177) 331 dX12_goes_177 rfl ?_
      exact mg_weak (mm_le_s (mm_le_n mm_le_0)) (X12_goes_b331_ok hz hd h0 hr)
    · refine ml_aload_n (pc := 122) dX12_goes_122 rfl mm_get_0 ?_
      refine mb_gi (pc := 123) dX12_goes_123 fl_X12_165 hr (fun x5 hr => ?_)
      refine ml_aload_n (pc := 126) dX12_goes_126 rfl mm_get_0 ?_
      refine mb_gi (pc := 127) dX12_goes_127 fl_X12_172 hr (fun x6 hr => ?_)
      refine mg_isub (pc := 130) dX12_goes_130 ?_
      refine mg_bipush (pc := 131) dX12_goes_131 kb_6 ?_
      refine mb_icmp_ge (pc := 133) 159 dX12_goes_133 rfl hr (fun hr => ?_) (fun hr => ?_)
      · exact mg_weak (mm_le_s (mm_le_n mm_le_0)) (X12_goes_b159_ok hz hd h0 ih hr)
      · refine ml_aload_n (pc := 136) dX12_goes_136 rfl mm_get_0 ?_
        refine ml_aload_n (pc := 137) dX12_goes_137 rfl mm_get_0 ?_
        refine mb_gl (pc := 138) dX12_goes_138 fl_X12_175 hr (fun y7 hr => ?_)
        refine mg_iconst (pc := 141) dX12_goes_141 kc_5 ?_
        refine mg_lshl (pc := 142) dX12_goes_142 ?_
        refine ml_aload_n (pc := 143) dX12_goes_143 rfl mm_get_0 ?_
        refine ml_aload_n (pc := 144) dX12_goes_144 rfl mm_get_0 ?_
        refine mb_gi (pc := 145) dX12_goes_145 fl_X12_165 hr (fun x8 hr => ?_)
        refine mb_cVi (pc := 148) (As := [.int x8]) (rest := [.long (y7 <<< ((5 : Int32).toInt64 &&& 63)), .ref a0]) dX12_goes_148 cw_X12_168 h0 hr (fun v hv => X12_byteAt_ok hz (by omega) h0 hv) rfl (Nat.le_of_ble_eq_true rfl) (Nat.zero_le _) (Nat.zero_le _) (fun r9 hr => ?_)
        refine mg_bipush (pc := 151) dX12_goes_151 kb_96 ?_
        refine mg_isub (pc := 153) dX12_goes_153 ?_
        refine mg_i2l (pc := 154) dX12_goes_154 ?_
        refine mg_lor (pc := 155) dX12_goes_155 ?_
        refine mb_pl (pc := 156) dX12_goes_156 fp_X12_175 hr (fun m10 hr => ?_)
        exact mg_weak (mm_le_s (mm_le_n mm_le_0)) (X12_goes_b159_ok hz hd h0 ih hr)
def X12_goes_b50 (e : mm_E) (a0 : Nat) (m : mm_V) : Option mm_V := (mm_gi e.1 m 12 75 a0 14).bind fun x1 => (mm_pf e.1 m 12 75 a0 16 (.int x1)).bind fun m2 => (mm_pf e.1 m2 12 75 a0 20 (.long (0 : Int64))).bind fun m3 => (mm_pf e.1 m3 12 75 a0 18 (.int (0 : Int32))).bind fun m4 => (mm_gi e.1 m4 12 75 a0 14).bind fun x5 => (X12_byteAt e a0 x5 m4).bind fun r6 => (mm_pf e.1 r6.2 12 75 a0 19 (.int r6.1)).bind fun m7 => (mm_gi e.1 m7 12 75 a0 14).bind fun x8 => (mm_gi e.1 m7 12 75 a0 13).bind fun x9 => if x8 < x9 then ((X12_isLetter e r6.1 m7).bind fun r10 => if r10.1 = 0 then ((X12_isDigit e r6.1 r10.2).bind fun r11 => if r11.1 = 0 then ((mm_gi e.1 r11.2 12 75 a0 14).bind fun x12 => (mm_pf e.1 r11.2 12 75 a0 14 (.int (x12 + (1 : Int32)))).bind fun m13 => if r6.1 = (59 : Int32) then (X12_goes_b323 e a0 a0 m13) else (if r6.1 = (40 : Int32) then (X12_goes_b323 e a0 a0 m13) else (if r6.1 = (41 : Int32) then (X12_goes_b323 e a0 a0 m13) else (if r6.1 = (43 : Int32) then (X12_goes_b323 e a0 a0 m13) else (if r6.1 = (45 : Int32) then (X12_goes_b323 e a0 a0 m13) else (if r6.1 = (42 : Int32) then (X12_goes_b323 e a0 a0 m13) else (if r6.1 = (47 : Int32) then (X12_goes_b323 e a0 a0 m13) else (if r6.1 = (60 : Int32) then (X12_goes_b323 e a0 a0 m13) else (if ¬ r6.1 = (61 : Int32) then (X12_goes_b328 e a0 a0 (4 : Int32) m13) else (X12_goes_b323 e a0 a0 m13)))))))))) else (X12_goes_L187 e a0 e.2.2  r11.2)) else (X12_goes_L108 e a0 e.2.2  r10.2)) else ((mm_pf e.1 m7 12 75 a0 15 (.int (0 : Int32))).bind fun m14 => X12_goes_b331 e a0  m14)
theorem X12_goes_b50_ok {K : mm_K} {nx : Option Nat} {e : mm_E} (hz : e.2.1 = K.2.2.2.2) {d : Nat} (hd : 1 ≤ d) {a0 : Nat} (h0 : e.1 a0 = some (12, 75)) {m : mm_V} {r : mm_V} (hr : X12_goes_b50 e a0 m = some r) : mm_G K MX12_goes d (mm_Fv e.1 nx r) 50 [some (.ref a0), none] [] (e.1, m) nx 0 0 := by
  obtain ⟨d, rfl⟩ : ∃ d', d = d' + 1 := ⟨d - 1, by omega⟩
  unfold X12_goes_b50 at hr
  refine ml_aload_n (pc := 50) dX12_goes_50 rfl mm_get_0 ?_
  refine ml_aload_n (pc := 51) dX12_goes_51 rfl mm_get_0 ?_
  refine mb_gi (pc := 52) dX12_goes_52 fl_X12_165 hr (fun x1 hr => ?_)
  refine mb_pi (pc := 55) dX12_goes_55 fp_X12_172 hr (fun m2 hr => ?_)
  refine ml_aload_n (pc := 58) dX12_goes_58 rfl mm_get_0 ?_
  refine mg_lconst (pc := 59) dX12_goes_59 (v := (0 : Int64)) (by decide) ?_
  refine mb_pl (pc := 60) dX12_goes_60 fp_X12_175 hr (fun m3 hr => ?_)
  refine ml_aload_n (pc := 63) dX12_goes_63 rfl mm_get_0 ?_
  refine mg_iconst (pc := 64) dX12_goes_64 kc_0 ?_
  refine mb_pi (pc := 65) dX12_goes_65 fp_X12_179 hr (fun m4 hr => ?_)
  refine ml_aload_n (pc := 68) dX12_goes_68 rfl mm_get_0 ?_
  refine ml_aload_n (pc := 69) dX12_goes_69 rfl mm_get_0 ?_
  refine mb_gi (pc := 70) dX12_goes_70 fl_X12_165 hr (fun x5 hr => ?_)
  refine mb_cVi (pc := 73) (As := [.int x5]) (rest := []) dX12_goes_73 cw_X12_168 h0 hr (fun v hv => X12_byteAt_ok hz (by omega) h0 hv) rfl (Nat.le_of_ble_eq_true rfl) (Nat.zero_le _) (Nat.zero_le _) (fun r6 hr => ?_)
  refine ml_istore_n (pc := 76) dX12_goes_76 rfl (Nat.le_of_ble_eq_true rfl) mm_st1_r ?_
  refine ml_aload_n (pc := 77) dX12_goes_77 rfl mm_get_0 ?_
  refine ml_iload_n (pc := 78) dX12_goes_78 rfl (mm_get_s mm_get_0) ?_
  refine mb_pi (pc := 79) dX12_goes_79 fp_X12_182 hr (fun m7 hr => ?_)
  refine ml_aload_n (pc := 82) dX12_goes_82 rfl mm_get_0 ?_
  refine mb_gi (pc := 83) dX12_goes_83 fl_X12_165 hr (fun x8 hr => ?_)
  refine ml_aload_n (pc := 86) dX12_goes_86 rfl mm_get_0 ?_
  refine mb_gi (pc := 87) dX12_goes_87 fl_X12_162 hr (fun x9 hr => ?_)
  refine mb_icmp_lt (pc := 90) 101 dX12_goes_90 rfl hr (fun hr => ?_) (fun hr => ?_)
  · refine ml_iload_n (pc := 101) dX12_goes_101 rfl (mm_get_s mm_get_0) ?_
    refine mb_cSi (pc := 102) (As := [.int r6.1]) (rest := []) dX12_goes_102 cw_X12_188  hr (fun v hv => X12_isLetter_ok hz (by omega)  hv) rfl (Nat.le_of_ble_eq_true rfl) (Nat.zero_le _) (Nat.zero_le _) (fun r10 hr => ?_)
    refine mb_if_eq (pc := 105) 180 dX12_goes_105 rfl hr (fun hr => ?_) (fun hr => ?_)
    · refine ml_iload_n (pc := 180) dX12_goes_180 rfl (mm_get_s mm_get_0) ?_
      refine mb_cSi (pc := 181) (As := [.int r6.1]) (rest := []) dX12_goes_181 cw_X12_192  hr (fun v hv => X12_isDigit_ok hz (by omega)  hv) rfl (Nat.le_of_ble_eq_true rfl) (Nat.zero_le _) (Nat.zero_le _) (fun r11 hr => ?_)
      refine mb_if_eq (pc := 184) 258 dX12_goes_184 rfl hr (fun hr => ?_) (fun hr => ?_)
      · refine ml_aload_n (pc := 258) dX12_goes_258 rfl mm_get_0 ?_
        refine mg_dup (pc := 259) dX12_goes_259 rfl ?_
        refine mb_gi (pc := 260) dX12_goes_260 fl_X12_165 hr (fun x12 hr => ?_)
        refine mg_iconst (pc := 263) dX12_goes_263 kc_1 ?_
        refine mg_iadd (pc := 264) dX12_goes_264 ?_
        refine mb_pi (pc := 265) dX12_goes_265 fp_X12_165 hr (fun m13 hr => ?_)
        refine ml_aload_n (pc := 268) dX12_goes_268 rfl mm_get_0 ?_
        refine ml_iload_n (pc := 269) dX12_goes_269 rfl (mm_get_s mm_get_0) ?_
        refine mg_bipush (pc := 270) dX12_goes_270 kb_59 ?_
        refine mb_icmp_eq (pc := 272) 323 dX12_goes_272 rfl hr (fun hr => ?_) (fun hr => ?_)
        · exact mg_weak (mm_le_s (mm_le_n mm_le_0)) (X12_goes_b323_ok hz hd h0 hr)
        · refine ml_iload_n (pc := 275) dX12_goes_275 rfl (mm_get_s mm_get_0) ?_
          refine mg_bipush (pc := 276) dX12_goes_276 kb_40 ?_
          refine mb_icmp_eq (pc := 278) 323 dX12_goes_278 rfl hr (fun hr => ?_) (fun hr => ?_)
          · exact mg_weak (mm_le_s (mm_le_n mm_le_0)) (X12_goes_b323_ok hz hd h0 hr)
          · refine ml_iload_n (pc := 281) dX12_goes_281 rfl (mm_get_s mm_get_0) ?_
            refine mg_bipush (pc := 282) dX12_goes_282 kb_41 ?_
            refine mb_icmp_eq (pc := 284) 323 dX12_goes_284 rfl hr (fun hr => ?_) (fun hr => ?_)
            · exact mg_weak (mm_le_s (mm_le_n mm_le_0)) (X12_goes_b323_ok hz hd h0 hr)
            · refine ml_iload_n (pc := 287) dX12_goes_287 rfl (mm_get_s mm_get_0) ?_
              refine mg_bipush (pc := 288) dX12_goes_288 kb_43 ?_
              refine mb_icmp_eq (pc := 290) 323 dX12_goes_290 rfl hr (fun hr => ?_) (fun hr => ?_)
              · exact mg_weak (mm_le_s (mm_le_n mm_le_0)) (X12_goes_b323_ok hz hd h0 hr)
              · refine ml_iload_n (pc := 293) dX12_goes_293 rfl (mm_get_s mm_get_0) ?_
                refine mg_bipush (pc := 294) dX12_goes_294 kb_45 ?_
                refine mb_icmp_eq (pc := 296) 323 dX12_goes_296 rfl hr (fun hr => ?_) (fun hr => ?_)
                · exact mg_weak (mm_le_s (mm_le_n mm_le_0)) (X12_goes_b323_ok hz hd h0 hr)
                · refine ml_iload_n (pc := 299) dX12_goes_299 rfl (mm_get_s mm_get_0) ?_
                  refine mg_bipush (pc := 300) dX12_goes_300 kb_42 ?_
                  refine mb_icmp_eq (pc := 302) 323 dX12_goes_302 rfl hr (fun hr => ?_) (fun hr => ?_)
                  · exact mg_weak (mm_le_s (mm_le_n mm_le_0)) (X12_goes_b323_ok hz hd h0 hr)
                  · refine ml_iload_n (pc := 305) dX12_goes_305 rfl (mm_get_s mm_get_0) ?_
                    refine mg_bipush (pc := 306) dX12_goes_306 kb_47 ?_
                    refine mb_icmp_eq (pc := 308) 323 dX12_goes_308 rfl hr (fun hr => ?_) (fun hr => ?_)
                    · exact mg_weak (mm_le_s (mm_le_n mm_le_0)) (X12_goes_b323_ok hz hd h0 hr)
                    · refine ml_iload_n (pc := 311) dX12_goes_311 rfl (mm_get_s mm_get_0) ?_
                      refine mg_bipush (pc := 312) dX12_goes_312 kb_60 ?_
                      refine mb_icmp_eq (pc := 314) 323 dX12_goes_314 rfl hr (fun hr => ?_) (fun hr => ?_)
                      · exact mg_weak (mm_le_s (mm_le_n mm_le_0)) (X12_goes_b323_ok hz hd h0 hr)
                      · refine ml_iload_n (pc := 317) dX12_goes_317 rfl (mm_get_s mm_get_0) ?_
                        refine mg_bipush (pc := 318) dX12_goes_318 kb_61 ?_
                        refine mb_icmp_ne (pc := 320) 327 dX12_goes_320 rfl hr (fun hr => ?_) (fun hr => ?_)
                        · refine mg_iconst (pc := 327) dX12_goes_327 kc_4 ?_
                          exact mg_weak (mm_le_s (mm_le_n mm_le_0)) (X12_goes_b328_ok hz hd h0 hr)
                        · exact mg_weak (mm_le_s (mm_le_n mm_le_0)) (X12_goes_b323_ok hz hd h0 hr)
      · exact mg_weak (mm_le_s (mm_le_n mm_le_0)) (X12_goes_L187_ok hz hd h0 _  _ _ hr)
    · exact mg_weak (mm_le_s (mm_le_n mm_le_0)) (X12_goes_L108_ok hz hd h0 _  _ _ hr)
  · refine ml_aload_n (pc := 93) dX12_goes_93 rfl mm_get_0 ?_
    refine mg_iconst (pc := 94) dX12_goes_94 kc_0 ?_
    refine mb_pi (pc := 95) dX12_goes_95 fp_X12_185 hr (fun m14 hr => ?_)
    refine mg_goto (pc := 98) 331 dX12_goes_98 rfl ?_
    exact mg_weak (mm_le_s (mm_le_n mm_le_0)) (X12_goes_b331_ok hz hd h0 hr)
def X12_goes_b37 (e : mm_E) (k0 : mm_V → Option mm_V) (a0 : Nat) (m : mm_V) : Option mm_V := (mm_gi e.1 m 12 75 a0 14).bind fun x1 => (mm_pf e.1 m 12 75 a0 14 (.int (x1 + (1 : Int32)))).bind fun m2 => k0  m2
theorem X12_goes_b37_ok {K : mm_K} {nx : Option Nat} {e : mm_E} (hz : e.2.1 = K.2.2.2.2) {d : Nat} (hd : 1 ≤ d) {a0 : Nat} (h0 : e.1 a0 = some (12, 75)) {k0 : mm_V → Option mm_V} (hk0 : ∀ (m : mm_V) (r : mm_V), k0  m = some r → mm_G K MX12_goes d (mm_Fv e.1 nx r) 0 [some (.ref a0), none] [] (e.1, m) nx 0 0) {m : mm_V} {r : mm_V} (hr : X12_goes_b37 e k0 a0 m = some r) : mm_G K MX12_goes d (mm_Fv e.1 nx r) 37 [some (.ref a0), none] [] (e.1, m) nx 0 0 := by
  obtain ⟨d, rfl⟩ : ∃ d', d = d' + 1 := ⟨d - 1, by omega⟩
  unfold X12_goes_b37 at hr
  refine ml_aload_n (pc := 37) dX12_goes_37 rfl mm_get_0 ?_
  refine mg_dup (pc := 38) dX12_goes_38 rfl ?_
  refine mb_gi (pc := 39) dX12_goes_39 fl_X12_165 hr (fun x1 hr => ?_)
  refine mg_iconst (pc := 42) dX12_goes_42 kc_1 ?_
  refine mg_iadd (pc := 43) dX12_goes_43 ?_
  refine mb_pi (pc := 44) dX12_goes_44 fp_X12_165 hr (fun m2 hr => ?_)
  refine mg_goto (pc := 47) 0 dX12_goes_47 rfl ?_
  exact mg_weak (mm_le_s (mm_le_n mm_le_0)) (hk0  _ _ hr)
def X12_goes_L0 (e : mm_E) (a0 : Nat) : Nat → mm_V → Option mm_V
  | 0, _ => none
  | n + 1, m => (mm_gi e.1 m 12 75 a0 14).bind fun x1 => (mm_gi e.1 m 12 75 a0 13).bind fun x2 => if x2 ≤ x1 then (X12_goes_b50 e a0  m) else ((mm_gi e.1 m 12 75 a0 14).bind fun x3 => (X12_byteAt e a0 x3 m).bind fun r4 => if r4.1 = (32 : Int32) then (X12_goes_b37 e (X12_goes_L0 e a0 n) a0  r4.2) else ((mm_gi e.1 r4.2 12 75 a0 14).bind fun x5 => (X12_byteAt e a0 x5 r4.2).bind fun r6 => if ¬ r6.1 = (10 : Int32) then (X12_goes_b50 e a0  r6.2) else (X12_goes_b37 e (X12_goes_L0 e a0 n) a0  r6.2)))
theorem X12_goes_L0_ok {K : mm_K} {nx : Option Nat} {e : mm_E} (hz : e.2.1 = K.2.2.2.2) {d : Nat} (hd : 1 ≤ d) {a0 : Nat} (h0 : e.1 a0 = some (12, 75)) : ∀ (n : Nat) (m : mm_V) (r : mm_V), X12_goes_L0 e a0 n  m = some r → mm_G K MX12_goes d (mm_Fv e.1 nx r) 0 [some (.ref a0), none] [] (e.1, m) nx 0 0 := by
  obtain ⟨d, rfl⟩ : ∃ d', d = d' + 1 := ⟨d - 1, by omega⟩
  intro n
  induction n with
  | zero => intro m r hr; unfold X12_goes_L0 at hr; cases hr
  | succ n ih =>
    intro m r hr
    unfold X12_goes_L0 at hr
    refine ml_aload_n (pc := 0) dX12_goes_0 rfl mm_get_0 ?_
    refine mb_gi (pc := 1) dX12_goes_1 fl_X12_165 hr (fun x1 hr => ?_)
    refine ml_aload_n (pc := 4) dX12_goes_4 rfl mm_get_0 ?_
    refine mb_gi (pc := 5) dX12_goes_5 fl_X12_162 hr (fun x2 hr => ?_)
    refine mb_icmp_ge (pc := 8) 50 dX12_goes_8 rfl hr (fun hr => ?_) (fun hr => ?_)
    · exact mg_weak (mm_le_s (mm_le_n mm_le_0)) (X12_goes_b50_ok hz hd h0 hr)
    · refine ml_aload_n (pc := 11) dX12_goes_11 rfl mm_get_0 ?_
      refine ml_aload_n (pc := 12) dX12_goes_12 rfl mm_get_0 ?_
      refine mb_gi (pc := 13) dX12_goes_13 fl_X12_165 hr (fun x3 hr => ?_)
      refine mb_cVi (pc := 16) (As := [.int x3]) (rest := []) dX12_goes_16 cw_X12_168 h0 hr (fun v hv => X12_byteAt_ok hz (by omega) h0 hv) rfl (Nat.le_of_ble_eq_true rfl) (Nat.zero_le _) (Nat.zero_le _) (fun r4 hr => ?_)
      refine mg_bipush (pc := 19) dX12_goes_19 kb_32 ?_
      refine mb_icmp_eq (pc := 21) 37 dX12_goes_21 rfl hr (fun hr => ?_) (fun hr => ?_)
      · exact mg_weak (mm_le_s (mm_le_n mm_le_0)) (X12_goes_b37_ok hz hd h0 ih hr)
      · refine ml_aload_n (pc := 24) dX12_goes_24 rfl mm_get_0 ?_
        refine ml_aload_n (pc := 25) dX12_goes_25 rfl mm_get_0 ?_
        refine mb_gi (pc := 26) dX12_goes_26 fl_X12_165 hr (fun x5 hr => ?_)
        refine mb_cVi (pc := 29) (As := [.int x5]) (rest := []) dX12_goes_29 cw_X12_168 h0 hr (fun v hv => X12_byteAt_ok hz (by omega) h0 hv) rfl (Nat.le_of_ble_eq_true rfl) (Nat.zero_le _) (Nat.zero_le _) (fun r6 hr => ?_)
        refine mg_bipush (pc := 32) dX12_goes_32 kb_10 ?_
        refine mb_icmp_ne (pc := 34) 50 dX12_goes_34 rfl hr (fun hr => ?_) (fun hr => ?_)
        · exact mg_weak (mm_le_s (mm_le_n mm_le_0)) (X12_goes_b50_ok hz hd h0 hr)
        · exact mg_weak (mm_le_s (mm_le_n mm_le_0)) (X12_goes_b37_ok hz hd h0 ih hr)
def X12_goes (e : mm_E) (a0 : Nat) (m : mm_V) : Option mm_V := X12_goes_L0 e a0 e.2.2  m
theorem X12_goes_ok {K : mm_K} {nx : Option Nat} {e : mm_E} (hz : e.2.1 = K.2.2.2.2) {d : Nat} (hd : 1 ≤ d) {a0 : Nat} (h0 : e.1 a0 = some (12, 75)) {m : mm_V} {r : mm_V} (hr : X12_goes e a0 m = some r) : mm_Cn K MX12_goes d (mm_Fv e.1 nx r) [.ref a0] (e.1, m) nx := by
  obtain ⟨d, rfl⟩ : ∃ d', d = d' + 1 := ⟨d - 1, by omega⟩
  refine mm_entry (by decide) (Nat.le_of_ble_eq_true rfl) rfl (fun hok => ?_)
  unfold X12_goes at hr
  refine mg_weak (L' := [some (.ref a0), none]) (mm_le_s (mm_le_e mm_le_0)) ?_
  exact mg_weak (mm_le_s (mm_le_n mm_le_0)) (X12_goes_L0_ok hz hd h0 _  _ _ hr)
theorem dX12_spelled_0 : decode cX12_spelled 0 = .ok (.iload_n 0, 1) := by decide +kernel
theorem dX12_spelled_1 : decode cX12_spelled 1 = .ok (.i2l, 1) := by decide +kernel
theorem dX12_spelled_2 : decode cX12_spelled 2 = .ok (.ldc2_w 198, 3) := by decide +kernel
theorem dX12_spelled_5 : decode cX12_spelled 5 = .ok (.lsub, 1) := by decide +kernel
theorem dX12_spelled_6 : decode cX12_spelled 6 = .ok (.iconst 5, 1) := by decide +kernel
theorem dX12_spelled_7 : decode cX12_spelled 7 = .ok (.lshl, 1) := by decide +kernel
theorem dX12_spelled_8 : decode cX12_spelled 8 = .ok (.iload_n 1, 1) := by decide +kernel
theorem dX12_spelled_9 : decode cX12_spelled 9 = .ok (.bipush 96, 2) := by decide +kernel
theorem dX12_spelled_11 : decode cX12_spelled 11 = .ok (.isub, 1) := by decide +kernel
theorem dX12_spelled_12 : decode cX12_spelled 12 = .ok (.i2l, 1) := by decide +kernel
theorem dX12_spelled_13 : decode cX12_spelled 13 = .ok (.lor, 1) := by decide +kernel
theorem dX12_spelled_14 : decode cX12_spelled 14 = .ok (.lstore 6, 2) := by decide +kernel
theorem dX12_spelled_16 : decode cX12_spelled 16 = .ok (.iload_n 2, 1) := by decide +kernel
theorem dX12_spelled_17 : decode cX12_spelled 17 = .ok (.ifCond .eq 15, 3) := by decide +kernel
theorem dX12_spelled_20 : decode cX12_spelled 20 = .ok (.lload 6, 2) := by decide +kernel
theorem dX12_spelled_22 : decode cX12_spelled 22 = .ok (.iconst 5, 1) := by decide +kernel
theorem dX12_spelled_23 : decode cX12_spelled 23 = .ok (.lshl, 1) := by decide +kernel
theorem dX12_spelled_24 : decode cX12_spelled 24 = .ok (.iload_n 2, 1) := by decide +kernel
theorem dX12_spelled_25 : decode cX12_spelled 25 = .ok (.bipush 96, 2) := by decide +kernel
theorem dX12_spelled_27 : decode cX12_spelled 27 = .ok (.isub, 1) := by decide +kernel
theorem dX12_spelled_28 : decode cX12_spelled 28 = .ok (.i2l, 1) := by decide +kernel
theorem dX12_spelled_29 : decode cX12_spelled 29 = .ok (.lor, 1) := by decide +kernel
theorem dX12_spelled_30 : decode cX12_spelled 30 = .ok (.lstore 6, 2) := by decide +kernel
theorem dX12_spelled_32 : decode cX12_spelled 32 = .ok (.iload_n 3, 1) := by decide +kernel
theorem dX12_spelled_33 : decode cX12_spelled 33 = .ok (.ifCond .eq 15, 3) := by decide +kernel
theorem dX12_spelled_36 : decode cX12_spelled 36 = .ok (.lload 6, 2) := by decide +kernel
theorem dX12_spelled_38 : decode cX12_spelled 38 = .ok (.iconst 5, 1) := by decide +kernel
theorem dX12_spelled_39 : decode cX12_spelled 39 = .ok (.lshl, 1) := by decide +kernel
theorem dX12_spelled_40 : decode cX12_spelled 40 = .ok (.iload_n 3, 1) := by decide +kernel
theorem dX12_spelled_41 : decode cX12_spelled 41 = .ok (.bipush 96, 2) := by decide +kernel
theorem dX12_spelled_43 : decode cX12_spelled 43 = .ok (.isub, 1) := by decide +kernel
theorem dX12_spelled_44 : decode cX12_spelled 44 = .ok (.i2l, 1) := by decide +kernel
theorem dX12_spelled_45 : decode cX12_spelled 45 = .ok (.lor, 1) := by decide +kernel
theorem dX12_spelled_46 : decode cX12_spelled 46 = .ok (.lstore 6, 2) := by decide +kernel
theorem dX12_spelled_48 : decode cX12_spelled 48 = .ok (.iload 4, 2) := by decide +kernel
theorem dX12_spelled_50 : decode cX12_spelled 50 = .ok (.ifCond .eq 16, 3) := by decide +kernel
theorem dX12_spelled_53 : decode cX12_spelled 53 = .ok (.lload 6, 2) := by decide +kernel
theorem dX12_spelled_55 : decode cX12_spelled 55 = .ok (.iconst 5, 1) := by decide +kernel
theorem dX12_spelled_56 : decode cX12_spelled 56 = .ok (.lshl, 1) := by decide +kernel
theorem dX12_spelled_57 : decode cX12_spelled 57 = .ok (.iload 4, 2) := by decide +kernel
theorem dX12_spelled_59 : decode cX12_spelled 59 = .ok (.bipush 96, 2) := by decide +kernel
theorem dX12_spelled_61 : decode cX12_spelled 61 = .ok (.isub, 1) := by decide +kernel
theorem dX12_spelled_62 : decode cX12_spelled 62 = .ok (.i2l, 1) := by decide +kernel
theorem dX12_spelled_63 : decode cX12_spelled 63 = .ok (.lor, 1) := by decide +kernel
theorem dX12_spelled_64 : decode cX12_spelled 64 = .ok (.lstore 6, 2) := by decide +kernel
theorem dX12_spelled_66 : decode cX12_spelled 66 = .ok (.iload 5, 2) := by decide +kernel
theorem dX12_spelled_68 : decode cX12_spelled 68 = .ok (.ifCond .eq 16, 3) := by decide +kernel
theorem dX12_spelled_71 : decode cX12_spelled 71 = .ok (.lload 6, 2) := by decide +kernel
theorem dX12_spelled_73 : decode cX12_spelled 73 = .ok (.iconst 5, 1) := by decide +kernel
theorem dX12_spelled_74 : decode cX12_spelled 74 = .ok (.lshl, 1) := by decide +kernel
theorem dX12_spelled_75 : decode cX12_spelled 75 = .ok (.iload 5, 2) := by decide +kernel
theorem dX12_spelled_77 : decode cX12_spelled 77 = .ok (.bipush 96, 2) := by decide +kernel
theorem dX12_spelled_79 : decode cX12_spelled 79 = .ok (.isub, 1) := by decide +kernel
theorem dX12_spelled_80 : decode cX12_spelled 80 = .ok (.i2l, 1) := by decide +kernel
theorem dX12_spelled_81 : decode cX12_spelled 81 = .ok (.lor, 1) := by decide +kernel
theorem dX12_spelled_82 : decode cX12_spelled 82 = .ok (.lstore 6, 2) := by decide +kernel
theorem dX12_spelled_84 : decode cX12_spelled 84 = .ok (.lload 6, 2) := by decide +kernel
theorem dX12_spelled_86 : decode cX12_spelled 86 = .ok (.lreturn, 1) := by decide +kernel
def X12_spelled_b84 (e : mm_E) (j6 : Int64) (m : mm_V) : Option (Int64 × mm_V) := some (j6, m)
theorem X12_spelled_b84_ok {K : mm_K} {nx : Option Nat} {e : mm_E} (hz : e.2.1 = K.2.2.2.2) {d : Nat} (hd : 0 ≤ d) {j6 : Int64} {m : mm_V} {r : (Int64 × mm_V)} (hr : X12_spelled_b84 e j6 m = some r) : mm_G K MX12_spelled d (mm_Fl e.1 nx r) 84 [none, none, none, none, none, none, some (.long j6), none] [] (e.1, m) nx 0 0 := by
  unfold X12_spelled_b84 at hr
  refine ml_lload (pc := 84) dX12_spelled_84 (mm_get_s (mm_get_s (mm_get_s (mm_get_s (mm_get_s (mm_get_s mm_get_0)))))) ?_
  exact mb_lret dX12_spelled_86 rfl hr
def X12_spelled_b66 (e : mm_E) (i5 : Int32) (j6 : Int64) (m : mm_V) : Option (Int64 × mm_V) := if i5 = 0 then (X12_spelled_b84 e j6  m) else (X12_spelled_b84 e ((j6 <<< ((5 : Int32).toInt64 &&& 63)) ||| (i5 - (96 : Int32)).toInt64)  m)
theorem X12_spelled_b66_ok {K : mm_K} {nx : Option Nat} {e : mm_E} (hz : e.2.1 = K.2.2.2.2) {d : Nat} (hd : 0 ≤ d) {i5 : Int32} {j6 : Int64} {m : mm_V} {r : (Int64 × mm_V)} (hr : X12_spelled_b66 e i5 j6 m = some r) : mm_G K MX12_spelled d (mm_Fl e.1 nx r) 66 [none, none, none, none, none, some (.int i5), some (.long j6), none] [] (e.1, m) nx 0 0 := by
  unfold X12_spelled_b66 at hr
  refine ml_iload (pc := 66) dX12_spelled_66 (mm_get_s (mm_get_s (mm_get_s (mm_get_s (mm_get_s mm_get_0))))) ?_
  refine mb_if_eq (pc := 68) 84 dX12_spelled_68 rfl hr (fun hr => ?_) (fun hr => ?_)
  · exact mg_weak (mm_le_n (mm_le_n (mm_le_n (mm_le_n (mm_le_n (mm_le_n (mm_le_s (mm_le_n mm_le_0)))))))) (X12_spelled_b84_ok hz hd hr)
  · refine ml_lload (pc := 71) dX12_spelled_71 (mm_get_s (mm_get_s (mm_get_s (mm_get_s (mm_get_s (mm_get_s mm_get_0)))))) ?_
    refine mg_iconst (pc := 73) dX12_spelled_73 kc_5 ?_
    refine mg_lshl (pc := 74) dX12_spelled_74 ?_
    refine ml_iload (pc := 75) dX12_spelled_75 (mm_get_s (mm_get_s (mm_get_s (mm_get_s (mm_get_s mm_get_0))))) ?_
    refine mg_bipush (pc := 77) dX12_spelled_77 kb_96 ?_
    refine mg_isub (pc := 79) dX12_spelled_79 ?_
    refine mg_i2l (pc := 80) dX12_spelled_80 ?_
    refine mg_lor (pc := 81) dX12_spelled_81 ?_
    refine ml_lstore (pc := 82) dX12_spelled_82 (Nat.le_of_ble_eq_true rfl) (mm_st2_s (mm_st2_s (mm_st2_s (mm_st2_s (mm_st2_s mm_st2_i))))) ?_
    exact mg_weak (mm_le_n (mm_le_n (mm_le_n (mm_le_n (mm_le_n (mm_le_n (mm_le_s (mm_le_n mm_le_0)))))))) (X12_spelled_b84_ok hz hd hr)
def X12_spelled_b48 (e : mm_E) (i4 : Int32) (i5 : Int32) (j6 : Int64) (m : mm_V) : Option (Int64 × mm_V) := if i4 = 0 then (X12_spelled_b66 e i5 j6  m) else (X12_spelled_b66 e i5 ((j6 <<< ((5 : Int32).toInt64 &&& 63)) ||| (i4 - (96 : Int32)).toInt64)  m)
theorem X12_spelled_b48_ok {K : mm_K} {nx : Option Nat} {e : mm_E} (hz : e.2.1 = K.2.2.2.2) {d : Nat} (hd : 0 ≤ d) {i4 : Int32} {i5 : Int32} {j6 : Int64} {m : mm_V} {r : (Int64 × mm_V)} (hr : X12_spelled_b48 e i4 i5 j6 m = some r) : mm_G K MX12_spelled d (mm_Fl e.1 nx r) 48 [none, none, none, none, some (.int i4), some (.int i5), some (.long j6), none] [] (e.1, m) nx 0 0 := by
  unfold X12_spelled_b48 at hr
  refine ml_iload (pc := 48) dX12_spelled_48 (mm_get_s (mm_get_s (mm_get_s (mm_get_s mm_get_0)))) ?_
  refine mb_if_eq (pc := 50) 66 dX12_spelled_50 rfl hr (fun hr => ?_) (fun hr => ?_)
  · exact mg_weak (mm_le_n (mm_le_n (mm_le_n (mm_le_n (mm_le_n (mm_le_s (mm_le_s (mm_le_n mm_le_0)))))))) (X12_spelled_b66_ok hz hd hr)
  · refine ml_lload (pc := 53) dX12_spelled_53 (mm_get_s (mm_get_s (mm_get_s (mm_get_s (mm_get_s (mm_get_s mm_get_0)))))) ?_
    refine mg_iconst (pc := 55) dX12_spelled_55 kc_5 ?_
    refine mg_lshl (pc := 56) dX12_spelled_56 ?_
    refine ml_iload (pc := 57) dX12_spelled_57 (mm_get_s (mm_get_s (mm_get_s (mm_get_s mm_get_0)))) ?_
    refine mg_bipush (pc := 59) dX12_spelled_59 kb_96 ?_
    refine mg_isub (pc := 61) dX12_spelled_61 ?_
    refine mg_i2l (pc := 62) dX12_spelled_62 ?_
    refine mg_lor (pc := 63) dX12_spelled_63 ?_
    refine ml_lstore (pc := 64) dX12_spelled_64 (Nat.le_of_ble_eq_true rfl) (mm_st2_s (mm_st2_s (mm_st2_s (mm_st2_s (mm_st2_s mm_st2_i))))) ?_
    exact mg_weak (mm_le_n (mm_le_n (mm_le_n (mm_le_n (mm_le_n (mm_le_s (mm_le_s (mm_le_n mm_le_0)))))))) (X12_spelled_b66_ok hz hd hr)
def X12_spelled_b32 (e : mm_E) (i3 : Int32) (i4 : Int32) (i5 : Int32) (j6 : Int64) (m : mm_V) : Option (Int64 × mm_V) := if i3 = 0 then (X12_spelled_b48 e i4 i5 j6  m) else (X12_spelled_b48 e i4 i5 ((j6 <<< ((5 : Int32).toInt64 &&& 63)) ||| (i3 - (96 : Int32)).toInt64)  m)
theorem X12_spelled_b32_ok {K : mm_K} {nx : Option Nat} {e : mm_E} (hz : e.2.1 = K.2.2.2.2) {d : Nat} (hd : 0 ≤ d) {i3 : Int32} {i4 : Int32} {i5 : Int32} {j6 : Int64} {m : mm_V} {r : (Int64 × mm_V)} (hr : X12_spelled_b32 e i3 i4 i5 j6 m = some r) : mm_G K MX12_spelled d (mm_Fl e.1 nx r) 32 [none, none, none, some (.int i3), some (.int i4), some (.int i5), some (.long j6), none] [] (e.1, m) nx 0 0 := by
  unfold X12_spelled_b32 at hr
  refine ml_iload_n (pc := 32) dX12_spelled_32 rfl (mm_get_s (mm_get_s (mm_get_s mm_get_0))) ?_
  refine mb_if_eq (pc := 33) 48 dX12_spelled_33 rfl hr (fun hr => ?_) (fun hr => ?_)
  · exact mg_weak (mm_le_n (mm_le_n (mm_le_n (mm_le_n (mm_le_s (mm_le_s (mm_le_s (mm_le_n mm_le_0)))))))) (X12_spelled_b48_ok hz hd hr)
  · refine ml_lload (pc := 36) dX12_spelled_36 (mm_get_s (mm_get_s (mm_get_s (mm_get_s (mm_get_s (mm_get_s mm_get_0)))))) ?_
    refine mg_iconst (pc := 38) dX12_spelled_38 kc_5 ?_
    refine mg_lshl (pc := 39) dX12_spelled_39 ?_
    refine ml_iload_n (pc := 40) dX12_spelled_40 rfl (mm_get_s (mm_get_s (mm_get_s mm_get_0))) ?_
    refine mg_bipush (pc := 41) dX12_spelled_41 kb_96 ?_
    refine mg_isub (pc := 43) dX12_spelled_43 ?_
    refine mg_i2l (pc := 44) dX12_spelled_44 ?_
    refine mg_lor (pc := 45) dX12_spelled_45 ?_
    refine ml_lstore (pc := 46) dX12_spelled_46 (Nat.le_of_ble_eq_true rfl) (mm_st2_s (mm_st2_s (mm_st2_s (mm_st2_s (mm_st2_s mm_st2_i))))) ?_
    exact mg_weak (mm_le_n (mm_le_n (mm_le_n (mm_le_n (mm_le_s (mm_le_s (mm_le_s (mm_le_n mm_le_0)))))))) (X12_spelled_b48_ok hz hd hr)
def X12_spelled (e : mm_E) (i0 : Int32) (i1 : Int32) (i2 : Int32) (i3 : Int32) (i4 : Int32) (i5 : Int32) (m : mm_V) : Option (Int64 × mm_V) := if i2 = 0 then (X12_spelled_b32 e i3 i4 i5 (((i0.toInt64 - (96 : Int64)) <<< ((5 : Int32).toInt64 &&& 63)) ||| (i1 - (96 : Int32)).toInt64)  m) else (X12_spelled_b32 e i3 i4 i5 (((((i0.toInt64 - (96 : Int64)) <<< ((5 : Int32).toInt64 &&& 63)) ||| (i1 - (96 : Int32)).toInt64) <<< ((5 : Int32).toInt64 &&& 63)) ||| (i2 - (96 : Int32)).toInt64)  m)
theorem X12_spelled_ok {K : mm_K} {nx : Option Nat} {e : mm_E} (hz : e.2.1 = K.2.2.2.2) {d : Nat} (hd : 0 ≤ d) {i0 : Int32} {i1 : Int32} {i2 : Int32} {i3 : Int32} {i4 : Int32} {i5 : Int32} {m : mm_V} {r : (Int64 × mm_V)} (hr : X12_spelled e i0 i1 i2 i3 i4 i5 m = some r) : mm_Cn K MX12_spelled d (mm_Fl e.1 nx r) [.int i0, .int i1, .int i2, .int i3, .int i4, .int i5] (e.1, m) nx := by
  refine mm_entry (by decide) (Nat.le_of_ble_eq_true rfl) rfl (fun hok => ?_)
  unfold X12_spelled at hr
  refine mg_weak (L' := [some (.int i0), some (.int i1), some (.int i2), some (.int i3), some (.int i4), some (.int i5), none, none]) (mm_le_s (mm_le_s (mm_le_s (mm_le_s (mm_le_s (mm_le_s (mm_le_e (mm_le_e mm_le_0)))))))) ?_
  refine ml_iload_n (pc := 0) dX12_spelled_0 rfl mm_get_0 ?_
  refine mg_i2l (pc := 1) dX12_spelled_1 ?_
  refine mg_ldc2 (pc := 2) dX12_spelled_2 (v := (96 : Int64)) tw_1681 ?_
  refine mg_lsub (pc := 5) dX12_spelled_5 ?_
  refine mg_iconst (pc := 6) dX12_spelled_6 kc_5 ?_
  refine mg_lshl (pc := 7) dX12_spelled_7 ?_
  refine ml_iload_n (pc := 8) dX12_spelled_8 rfl (mm_get_s mm_get_0) ?_
  refine mg_bipush (pc := 9) dX12_spelled_9 kb_96 ?_
  refine mg_isub (pc := 11) dX12_spelled_11 ?_
  refine mg_i2l (pc := 12) dX12_spelled_12 ?_
  refine mg_lor (pc := 13) dX12_spelled_13 ?_
  refine ml_lstore (pc := 14) dX12_spelled_14 (Nat.le_of_ble_eq_true rfl) (mm_st2_s (mm_st2_s (mm_st2_s (mm_st2_s (mm_st2_s mm_st2_i))))) ?_
  refine ml_iload_n (pc := 16) dX12_spelled_16 rfl (mm_get_s (mm_get_s mm_get_0)) ?_
  refine mb_if_eq (pc := 17) 32 dX12_spelled_17 rfl hr (fun hr => ?_) (fun hr => ?_)
  · exact mg_weak (mm_le_n (mm_le_n (mm_le_n (mm_le_s (mm_le_s (mm_le_s (mm_le_s (mm_le_n mm_le_0)))))))) (X12_spelled_b32_ok hz hd hr)
  · refine ml_lload (pc := 20) dX12_spelled_20 (mm_get_s (mm_get_s (mm_get_s (mm_get_s (mm_get_s (mm_get_s mm_get_0)))))) ?_
    refine mg_iconst (pc := 22) dX12_spelled_22 kc_5 ?_
    refine mg_lshl (pc := 23) dX12_spelled_23 ?_
    refine ml_iload_n (pc := 24) dX12_spelled_24 rfl (mm_get_s (mm_get_s mm_get_0)) ?_
    refine mg_bipush (pc := 25) dX12_spelled_25 kb_96 ?_
    refine mg_isub (pc := 27) dX12_spelled_27 ?_
    refine mg_i2l (pc := 28) dX12_spelled_28 ?_
    refine mg_lor (pc := 29) dX12_spelled_29 ?_
    refine ml_lstore (pc := 30) dX12_spelled_30 (Nat.le_of_ble_eq_true rfl) (mm_st2_s (mm_st2_s (mm_st2_s (mm_st2_s (mm_st2_s mm_st2_i))))) ?_
    exact mg_weak (mm_le_n (mm_le_n (mm_le_n (mm_le_s (mm_le_s (mm_le_s (mm_le_s (mm_le_n mm_le_0)))))))) (X12_spelled_b32_ok hz hd hr)
theorem dX12_letters_0 : decode cX12_letters 0 = .ok (.iload_n 0, 1) := by decide +kernel
theorem dX12_letters_1 : decode cX12_letters 1 = .ok (.tableswitch 304 0 15 #[79, 93, 106, 120, 132, 146, 160, 176, 191, 205, 218, 233, 248, 264, 279, 292], 79) := by decide +kernel
theorem dX12_letters_80 : decode cX12_letters 80 = .ok (.bipush 115, 2) := by decide +kernel
theorem dX12_letters_82 : decode cX12_letters 82 = .ok (.bipush 105, 2) := by decide +kernel
theorem dX12_letters_84 : decode cX12_letters 84 = .ok (.bipush 122, 2) := by decide +kernel
theorem dX12_letters_86 : decode cX12_letters 86 = .ok (.bipush 101, 2) := by decide +kernel
theorem dX12_letters_88 : decode cX12_letters 88 = .ok (.iconst 0, 1) := by decide +kernel
theorem dX12_letters_89 : decode cX12_letters 89 = .ok (.iconst 0, 1) := by decide +kernel
theorem dX12_letters_90 : decode cX12_letters 90 = .ok (.invokestatic 200, 3) := by decide +kernel
theorem dX12_letters_93 : decode cX12_letters 93 = .ok (.lreturn, 1) := by decide +kernel
theorem dX12_letters_94 : decode cX12_letters 94 = .ok (.bipush 111, 2) := by decide +kernel
theorem dX12_letters_96 : decode cX12_letters 96 = .ok (.bipush 119, 2) := by decide +kernel
theorem dX12_letters_98 : decode cX12_letters 98 = .ok (.bipush 110, 2) := by decide +kernel
theorem dX12_letters_100 : decode cX12_letters 100 = .ok (.iconst 0, 1) := by decide +kernel
theorem dX12_letters_101 : decode cX12_letters 101 = .ok (.iconst 0, 1) := by decide +kernel
theorem dX12_letters_102 : decode cX12_letters 102 = .ok (.iconst 0, 1) := by decide +kernel
theorem dX12_letters_103 : decode cX12_letters 103 = .ok (.invokestatic 200, 3) := by decide +kernel
theorem dX12_letters_106 : decode cX12_letters 106 = .ok (.lreturn, 1) := by decide +kernel
theorem dX12_letters_107 : decode cX12_letters 107 = .ok (.bipush 116, 2) := by decide +kernel
theorem dX12_letters_109 : decode cX12_letters 109 = .ok (.bipush 117, 2) := by decide +kernel
theorem dX12_letters_111 : decode cX12_letters 111 = .ok (.bipush 114, 2) := by decide +kernel
theorem dX12_letters_113 : decode cX12_letters 113 = .ok (.bipush 110, 2) := by decide +kernel
theorem dX12_letters_115 : decode cX12_letters 115 = .ok (.iconst 0, 1) := by decide +kernel
theorem dX12_letters_116 : decode cX12_letters 116 = .ok (.iconst 0, 1) := by decide +kernel
theorem dX12_letters_117 : decode cX12_letters 117 = .ok (.invokestatic 200, 3) := by decide +kernel
theorem dX12_letters_120 : decode cX12_letters 120 = .ok (.lreturn, 1) := by decide +kernel
theorem dX12_letters_121 : decode cX12_letters 121 = .ok (.bipush 109, 2) := by decide +kernel
theorem dX12_letters_123 : decode cX12_letters 123 = .ok (.bipush 101, 2) := by decide +kernel
theorem dX12_letters_125 : decode cX12_letters 125 = .ok (.iconst 0, 1) := by decide +kernel
theorem dX12_letters_126 : decode cX12_letters 126 = .ok (.iconst 0, 1) := by decide +kernel
theorem dX12_letters_127 : decode cX12_letters 127 = .ok (.iconst 0, 1) := by decide +kernel
theorem dX12_letters_128 : decode cX12_letters 128 = .ok (.iconst 0, 1) := by decide +kernel
theorem dX12_letters_129 : decode cX12_letters 129 = .ok (.invokestatic 200, 3) := by decide +kernel
theorem dX12_letters_132 : decode cX12_letters 132 = .ok (.lreturn, 1) := by decide +kernel
theorem dX12_letters_133 : decode cX12_letters 133 = .ok (.bipush 108, 2) := by decide +kernel
theorem dX12_letters_135 : decode cX12_letters 135 = .ok (.bipush 97, 2) := by decide +kernel
theorem dX12_letters_137 : decode cX12_letters 137 = .ok (.bipush 115, 2) := by decide +kernel
theorem dX12_letters_139 : decode cX12_letters 139 = .ok (.bipush 116, 2) := by decide +kernel
theorem dX12_letters_141 : decode cX12_letters 141 = .ok (.iconst 0, 1) := by decide +kernel
theorem dX12_letters_142 : decode cX12_letters 142 = .ok (.iconst 0, 1) := by decide +kernel
theorem dX12_letters_143 : decode cX12_letters 143 = .ok (.invokestatic 200, 3) := by decide +kernel
theorem dX12_letters_146 : decode cX12_letters 146 = .ok (.lreturn, 1) := by decide +kernel
theorem dX12_letters_147 : decode cX12_letters 147 = .ok (.bipush 99, 2) := by decide +kernel
theorem dX12_letters_149 : decode cX12_letters 149 = .ok (.bipush 97, 2) := by decide +kernel
theorem dX12_letters_151 : decode cX12_letters 151 = .ok (.bipush 114, 2) := by decide +kernel
theorem dX12_letters_153 : decode cX12_letters 153 = .ok (.bipush 100, 2) := by decide +kernel
theorem dX12_letters_155 : decode cX12_letters 155 = .ok (.iconst 0, 1) := by decide +kernel
theorem dX12_letters_156 : decode cX12_letters 156 = .ok (.iconst 0, 1) := by decide +kernel
theorem dX12_letters_157 : decode cX12_letters 157 = .ok (.invokestatic 200, 3) := by decide +kernel
theorem dX12_letters_160 : decode cX12_letters 160 = .ok (.lreturn, 1) := by decide +kernel
theorem dX12_letters_161 : decode cX12_letters 161 = .ok (.bipush 112, 2) := by decide +kernel
theorem dX12_letters_163 : decode cX12_letters 163 = .ok (.bipush 101, 2) := by decide +kernel
theorem dX12_letters_165 : decode cX12_letters 165 = .ok (.bipush 111, 2) := by decide +kernel
theorem dX12_letters_167 : decode cX12_letters 167 = .ok (.bipush 112, 2) := by decide +kernel
theorem dX12_letters_169 : decode cX12_letters 169 = .ok (.bipush 108, 2) := by decide +kernel
theorem dX12_letters_171 : decode cX12_letters 171 = .ok (.bipush 101, 2) := by decide +kernel
theorem dX12_letters_173 : decode cX12_letters 173 = .ok (.invokestatic 200, 3) := by decide +kernel
theorem dX12_letters_176 : decode cX12_letters 176 = .ok (.lreturn, 1) := by decide +kernel
theorem dX12_letters_177 : decode cX12_letters 177 = .ok (.bipush 112, 2) := by decide +kernel
theorem dX12_letters_179 : decode cX12_letters 179 = .ok (.bipush 97, 2) := by decide +kernel
theorem dX12_letters_181 : decode cX12_letters 181 = .ok (.bipush 105, 2) := by decide +kernel
theorem dX12_letters_183 : decode cX12_letters 183 = .ok (.bipush 114, 2) := by decide +kernel
theorem dX12_letters_185 : decode cX12_letters 185 = .ok (.bipush 115, 2) := by decide +kernel
theorem dX12_letters_187 : decode cX12_letters 187 = .ok (.iconst 0, 1) := by decide +kernel
theorem dX12_letters_188 : decode cX12_letters 188 = .ok (.invokestatic 200, 3) := by decide +kernel
theorem dX12_letters_191 : decode cX12_letters 191 = .ok (.lreturn, 1) := by decide +kernel
theorem dX12_letters_192 : decode cX12_letters 192 = .ok (.bipush 115, 2) := by decide +kernel
theorem dX12_letters_194 : decode cX12_letters 194 = .ok (.bipush 101, 2) := by decide +kernel
theorem dX12_letters_196 : decode cX12_letters 196 = .ok (.bipush 101, 2) := by decide +kernel
theorem dX12_letters_198 : decode cX12_letters 198 = .ok (.bipush 100, 2) := by decide +kernel
theorem dX12_letters_200 : decode cX12_letters 200 = .ok (.iconst 0, 1) := by decide +kernel
theorem dX12_letters_201 : decode cX12_letters 201 = .ok (.iconst 0, 1) := by decide +kernel
theorem dX12_letters_202 : decode cX12_letters 202 = .ok (.invokestatic 200, 3) := by decide +kernel
theorem dX12_letters_205 : decode cX12_letters 205 = .ok (.lreturn, 1) := by decide +kernel
theorem dX12_letters_206 : decode cX12_letters 206 = .ok (.bipush 102, 2) := by decide +kernel
theorem dX12_letters_208 : decode cX12_letters 208 = .ok (.bipush 97, 2) := by decide +kernel
theorem dX12_letters_210 : decode cX12_letters 210 = .ok (.bipush 110, 2) := by decide +kernel
theorem dX12_letters_212 : decode cX12_letters 212 = .ok (.iconst 0, 1) := by decide +kernel
theorem dX12_letters_213 : decode cX12_letters 213 = .ok (.iconst 0, 1) := by decide +kernel
theorem dX12_letters_214 : decode cX12_letters 214 = .ok (.iconst 0, 1) := by decide +kernel
theorem dX12_letters_215 : decode cX12_letters 215 = .ok (.invokestatic 200, 3) := by decide +kernel
theorem dX12_letters_218 : decode cX12_letters 218 = .ok (.lreturn, 1) := by decide +kernel
theorem dX12_letters_219 : decode cX12_letters 219 = .ok (.bipush 100, 2) := by decide +kernel
theorem dX12_letters_221 : decode cX12_letters 221 = .ok (.bipush 114, 2) := by decide +kernel
theorem dX12_letters_223 : decode cX12_letters 223 = .ok (.bipush 97, 2) := by decide +kernel
theorem dX12_letters_225 : decode cX12_letters 225 = .ok (.bipush 119, 2) := by decide +kernel
theorem dX12_letters_227 : decode cX12_letters 227 = .ok (.bipush 115, 2) := by decide +kernel
theorem dX12_letters_229 : decode cX12_letters 229 = .ok (.iconst 0, 1) := by decide +kernel
theorem dX12_letters_230 : decode cX12_letters 230 = .ok (.invokestatic 200, 3) := by decide +kernel
theorem dX12_letters_233 : decode cX12_letters 233 = .ok (.lreturn, 1) := by decide +kernel
theorem dX12_letters_234 : decode cX12_letters 234 = .ok (.bipush 104, 2) := by decide +kernel
theorem dX12_letters_236 : decode cX12_letters 236 = .ok (.bipush 111, 2) := by decide +kernel
theorem dX12_letters_238 : decode cX12_letters 238 = .ok (.bipush 108, 2) := by decide +kernel
theorem dX12_letters_240 : decode cX12_letters 240 = .ok (.bipush 100, 2) := by decide +kernel
theorem dX12_letters_242 : decode cX12_letters 242 = .ok (.bipush 115, 2) := by decide +kernel
theorem dX12_letters_244 : decode cX12_letters 244 = .ok (.iconst 0, 1) := by decide +kernel
theorem dX12_letters_245 : decode cX12_letters 245 = .ok (.invokestatic 200, 3) := by decide +kernel
theorem dX12_letters_248 : decode cX12_letters 248 = .ok (.lreturn, 1) := by decide +kernel
theorem dX12_letters_249 : decode cX12_letters 249 = .ok (.bipush 104, 2) := by decide +kernel
theorem dX12_letters_251 : decode cX12_letters 251 = .ok (.bipush 97, 2) := by decide +kernel
theorem dX12_letters_253 : decode cX12_letters 253 = .ok (.bipush 98, 2) := by decide +kernel
theorem dX12_letters_255 : decode cX12_letters 255 = .ok (.bipush 105, 2) := by decide +kernel
theorem dX12_letters_257 : decode cX12_letters 257 = .ok (.bipush 116, 2) := by decide +kernel
theorem dX12_letters_259 : decode cX12_letters 259 = .ok (.bipush 115, 2) := by decide +kernel
theorem dX12_letters_261 : decode cX12_letters 261 = .ok (.invokestatic 200, 3) := by decide +kernel
theorem dX12_letters_264 : decode cX12_letters 264 = .ok (.lreturn, 1) := by decide +kernel
theorem dX12_letters_265 : decode cX12_letters 265 = .ok (.bipush 113, 2) := by decide +kernel
theorem dX12_letters_267 : decode cX12_letters 267 = .ok (.bipush 117, 2) := by decide +kernel
theorem dX12_letters_269 : decode cX12_letters 269 = .ok (.bipush 101, 2) := by decide +kernel
theorem dX12_letters_271 : decode cX12_letters 271 = .ok (.bipush 101, 2) := by decide +kernel
theorem dX12_letters_273 : decode cX12_letters 273 = .ok (.bipush 110, 2) := by decide +kernel
theorem dX12_letters_275 : decode cX12_letters 275 = .ok (.iconst 0, 1) := by decide +kernel
theorem dX12_letters_276 : decode cX12_letters 276 = .ok (.invokestatic 200, 3) := by decide +kernel
theorem dX12_letters_279 : decode cX12_letters 279 = .ok (.lreturn, 1) := by decide +kernel
theorem dX12_letters_280 : decode cX12_letters 280 = .ok (.bipush 97, 2) := by decide +kernel
theorem dX12_letters_282 : decode cX12_letters 282 = .ok (.bipush 110, 2) := by decide +kernel
theorem dX12_letters_284 : decode cX12_letters 284 = .ok (.bipush 100, 2) := by decide +kernel
theorem dX12_letters_286 : decode cX12_letters 286 = .ok (.iconst 0, 1) := by decide +kernel
theorem dX12_letters_287 : decode cX12_letters 287 = .ok (.iconst 0, 1) := by decide +kernel
theorem dX12_letters_288 : decode cX12_letters 288 = .ok (.iconst 0, 1) := by decide +kernel
theorem dX12_letters_289 : decode cX12_letters 289 = .ok (.invokestatic 200, 3) := by decide +kernel
theorem dX12_letters_292 : decode cX12_letters 292 = .ok (.lreturn, 1) := by decide +kernel
theorem dX12_letters_293 : decode cX12_letters 293 = .ok (.bipush 111, 2) := by decide +kernel
theorem dX12_letters_295 : decode cX12_letters 295 = .ok (.bipush 114, 2) := by decide +kernel
theorem dX12_letters_297 : decode cX12_letters 297 = .ok (.iconst 0, 1) := by decide +kernel
theorem dX12_letters_298 : decode cX12_letters 298 = .ok (.iconst 0, 1) := by decide +kernel
theorem dX12_letters_299 : decode cX12_letters 299 = .ok (.iconst 0, 1) := by decide +kernel
theorem dX12_letters_300 : decode cX12_letters 300 = .ok (.iconst 0, 1) := by decide +kernel
theorem dX12_letters_301 : decode cX12_letters 301 = .ok (.invokestatic 200, 3) := by decide +kernel
theorem dX12_letters_304 : decode cX12_letters 304 = .ok (.lreturn, 1) := by decide +kernel
theorem dX12_letters_305 : decode cX12_letters 305 = .ok (.bipush 110, 2) := by decide +kernel
theorem dX12_letters_307 : decode cX12_letters 307 = .ok (.bipush 111, 2) := by decide +kernel
theorem dX12_letters_309 : decode cX12_letters 309 = .ok (.bipush 116, 2) := by decide +kernel
theorem dX12_letters_311 : decode cX12_letters 311 = .ok (.iconst 0, 1) := by decide +kernel
theorem dX12_letters_312 : decode cX12_letters 312 = .ok (.iconst 0, 1) := by decide +kernel
theorem dX12_letters_313 : decode cX12_letters 313 = .ok (.iconst 0, 1) := by decide +kernel
theorem dX12_letters_314 : decode cX12_letters 314 = .ok (.invokestatic 200, 3) := by decide +kernel
theorem dX12_letters_317 : decode cX12_letters 317 = .ok (.lreturn, 1) := by decide +kernel
def X12_letters (e : mm_E) (i0 : Int32) (m : mm_V) : Option (Int64 × mm_V) := if i0 = (0 : Int32) then ((X12_spelled e (115 : Int32) (105 : Int32) (122 : Int32) (101 : Int32) (0 : Int32) (0 : Int32) m).bind fun r1 => some (r1.1, r1.2)) else (if i0 = (1 : Int32) then ((X12_spelled e (111 : Int32) (119 : Int32) (110 : Int32) (0 : Int32) (0 : Int32) (0 : Int32) m).bind fun r3 => some (r3.1, r3.2)) else (if i0 = (2 : Int32) then ((X12_spelled e (116 : Int32) (117 : Int32) (114 : Int32) (110 : Int32) (0 : Int32) (0 : Int32) m).bind fun r5 => some (r5.1, r5.2)) else (if i0 = (3 : Int32) then ((X12_spelled e (109 : Int32) (101 : Int32) (0 : Int32) (0 : Int32) (0 : Int32) (0 : Int32) m).bind fun r7 => some (r7.1, r7.2)) else (if i0 = (4 : Int32) then ((X12_spelled e (108 : Int32) (97 : Int32) (115 : Int32) (116 : Int32) (0 : Int32) (0 : Int32) m).bind fun r9 => some (r9.1, r9.2)) else (if i0 = (5 : Int32) then ((X12_spelled e (99 : Int32) (97 : Int32) (114 : Int32) (100 : Int32) (0 : Int32) (0 : Int32) m).bind fun r11 => some (r11.1, r11.2)) else (if i0 = (6 : Int32) then ((X12_spelled e (112 : Int32) (101 : Int32) (111 : Int32) (112 : Int32) (108 : Int32) (101 : Int32) m).bind fun r13 => some (r13.1, r13.2)) else (if i0 = (7 : Int32) then ((X12_spelled e (112 : Int32) (97 : Int32) (105 : Int32) (114 : Int32) (115 : Int32) (0 : Int32) m).bind fun r15 => some (r15.1, r15.2)) else (if i0 = (8 : Int32) then ((X12_spelled e (115 : Int32) (101 : Int32) (101 : Int32) (100 : Int32) (0 : Int32) (0 : Int32) m).bind fun r17 => some (r17.1, r17.2)) else (if i0 = (9 : Int32) then ((X12_spelled e (102 : Int32) (97 : Int32) (110 : Int32) (0 : Int32) (0 : Int32) (0 : Int32) m).bind fun r19 => some (r19.1, r19.2)) else (if i0 = (10 : Int32) then ((X12_spelled e (100 : Int32) (114 : Int32) (97 : Int32) (119 : Int32) (115 : Int32) (0 : Int32) m).bind fun r21 => some (r21.1, r21.2)) else (if i0 = (11 : Int32) then ((X12_spelled e (104 : Int32) (111 : Int32) (108 : Int32) (100 : Int32) (115 : Int32) (0 : Int32) m).bind fun r23 => some (r23.1, r23.2)) else (if i0 = (12 : Int32) then ((X12_spelled e (104 : Int32) (97 : Int32) (98 : Int32) (105 : Int32) (116 : Int32) (115 : Int32) m).bind fun r25 => some (r25.1, r25.2)) else (if i0 = (13 : Int32) then ((X12_spelled e (113 : Int32) (117 : Int32) (101 : Int32) (101 : Int32) (110 : Int32) (0 : Int32) m).bind fun r27 => some (r27.1, r27.2)) else (if i0 = (14 : Int32) then ((X12_spelled e (97 : Int32) (110 : Int32) (100 : Int32) (0 : Int32) (0 : Int32) (0 : Int32) m).bind fun r29 => some (r29.1, r29.2)) else (if i0 = (15 : Int32) then ((X12_spelled e (111 : Int32) (114 : Int32) (0 : Int32) (0 : Int32) (0 : Int32) (0 : Int32) m).bind fun r31 => some (r31.1, r31.2)) else ((X12_spelled e (110 : Int32) (111 : Int32) (116 : Int32) (0 : Int32) (0 : Int32) (0 : Int32) m).bind fun r33 => some (r33.1, r33.2)))))))))))))))))
theorem X12_letters_ok {K : mm_K} {nx : Option Nat} {e : mm_E} (hz : e.2.1 = K.2.2.2.2) {d : Nat} (hd : 1 ≤ d) {i0 : Int32} {m : mm_V} {r : (Int64 × mm_V)} (hr : X12_letters e i0 m = some r) : mm_Cn K MX12_letters d (mm_Fl e.1 nx r) [.int i0] (e.1, m) nx := by
  obtain ⟨d, rfl⟩ : ∃ d', d = d' + 1 := ⟨d - 1, by omega⟩
  refine mm_entry (by decide) (Nat.le_of_ble_eq_true rfl) rfl (fun hok => ?_)
  unfold X12_letters at hr
  refine mg_weak (L' := [some (.int i0)]) (mm_le_s mm_le_0) ?_
  refine ml_iload_n (pc := 0) dX12_letters_0 rfl mm_get_0 ?_
  refine mb_ite hr (fun hc hr => ?_) (fun hc2 hr => ?_)
  · refine mg_tableK (pc := 1) (79) 80 dX12_letters_1 hc (by decide +kernel) rfl ?_
    refine mg_bipush (pc := 80) dX12_letters_80 kb_115 ?_
    refine mg_bipush (pc := 82) dX12_letters_82 kb_105 ?_
    refine mg_bipush (pc := 84) dX12_letters_84 kb_122 ?_
    refine mg_bipush (pc := 86) dX12_letters_86 kb_101 ?_
    refine mg_iconst (pc := 88) dX12_letters_88 kc_0 ?_
    refine mg_iconst (pc := 89) dX12_letters_89 kc_0 ?_
    refine mb_cSl (pc := 90) (As := [.int (115 : Int32), .int (105 : Int32), .int (122 : Int32), .int (101 : Int32), .int (0 : Int32), .int (0 : Int32)]) (rest := []) dX12_letters_90 cw_X12_200  hr (fun v hv => X12_spelled_ok hz (by omega)  hv) rfl (Nat.le_of_ble_eq_true rfl) (Nat.zero_le _) (Nat.zero_le _) (fun r1 hr => ?_)
    exact mb_lret dX12_letters_93 rfl hr
  refine mb_ite hr (fun hc hr => ?_) (fun hc4 hr => ?_)
  · refine mg_tableK (pc := 1) (93) 94 dX12_letters_1 hc (by decide +kernel) rfl ?_
    refine mg_bipush (pc := 94) dX12_letters_94 kb_111 ?_
    refine mg_bipush (pc := 96) dX12_letters_96 kb_119 ?_
    refine mg_bipush (pc := 98) dX12_letters_98 kb_110 ?_
    refine mg_iconst (pc := 100) dX12_letters_100 kc_0 ?_
    refine mg_iconst (pc := 101) dX12_letters_101 kc_0 ?_
    refine mg_iconst (pc := 102) dX12_letters_102 kc_0 ?_
    refine mb_cSl (pc := 103) (As := [.int (111 : Int32), .int (119 : Int32), .int (110 : Int32), .int (0 : Int32), .int (0 : Int32), .int (0 : Int32)]) (rest := []) dX12_letters_103 cw_X12_200  hr (fun v hv => X12_spelled_ok hz (by omega)  hv) rfl (Nat.le_of_ble_eq_true rfl) (Nat.zero_le _) (Nat.zero_le _) (fun r3 hr => ?_)
    exact mb_lret dX12_letters_106 rfl hr
  refine mb_ite hr (fun hc hr => ?_) (fun hc6 hr => ?_)
  · refine mg_tableK (pc := 1) (106) 107 dX12_letters_1 hc (by decide +kernel) rfl ?_
    refine mg_bipush (pc := 107) dX12_letters_107 kb_116 ?_
    refine mg_bipush (pc := 109) dX12_letters_109 kb_117 ?_
    refine mg_bipush (pc := 111) dX12_letters_111 kb_114 ?_
    refine mg_bipush (pc := 113) dX12_letters_113 kb_110 ?_
    refine mg_iconst (pc := 115) dX12_letters_115 kc_0 ?_
    refine mg_iconst (pc := 116) dX12_letters_116 kc_0 ?_
    refine mb_cSl (pc := 117) (As := [.int (116 : Int32), .int (117 : Int32), .int (114 : Int32), .int (110 : Int32), .int (0 : Int32), .int (0 : Int32)]) (rest := []) dX12_letters_117 cw_X12_200  hr (fun v hv => X12_spelled_ok hz (by omega)  hv) rfl (Nat.le_of_ble_eq_true rfl) (Nat.zero_le _) (Nat.zero_le _) (fun r5 hr => ?_)
    exact mb_lret dX12_letters_120 rfl hr
  refine mb_ite hr (fun hc hr => ?_) (fun hc8 hr => ?_)
  · refine mg_tableK (pc := 1) (120) 121 dX12_letters_1 hc (by decide +kernel) rfl ?_
    refine mg_bipush (pc := 121) dX12_letters_121 kb_109 ?_
    refine mg_bipush (pc := 123) dX12_letters_123 kb_101 ?_
    refine mg_iconst (pc := 125) dX12_letters_125 kc_0 ?_
    refine mg_iconst (pc := 126) dX12_letters_126 kc_0 ?_
    refine mg_iconst (pc := 127) dX12_letters_127 kc_0 ?_
    refine mg_iconst (pc := 128) dX12_letters_128 kc_0 ?_
    refine mb_cSl (pc := 129) (As := [.int (109 : Int32), .int (101 : Int32), .int (0 : Int32), .int (0 : Int32), .int (0 : Int32), .int (0 : Int32)]) (rest := []) dX12_letters_129 cw_X12_200  hr (fun v hv => X12_spelled_ok hz (by omega)  hv) rfl (Nat.le_of_ble_eq_true rfl) (Nat.zero_le _) (Nat.zero_le _) (fun r7 hr => ?_)
    exact mb_lret dX12_letters_132 rfl hr
  refine mb_ite hr (fun hc hr => ?_) (fun hc10 hr => ?_)
  · refine mg_tableK (pc := 1) (132) 133 dX12_letters_1 hc (by decide +kernel) rfl ?_
    refine mg_bipush (pc := 133) dX12_letters_133 kb_108 ?_
    refine mg_bipush (pc := 135) dX12_letters_135 kb_97 ?_
    refine mg_bipush (pc := 137) dX12_letters_137 kb_115 ?_
    refine mg_bipush (pc := 139) dX12_letters_139 kb_116 ?_
    refine mg_iconst (pc := 141) dX12_letters_141 kc_0 ?_
    refine mg_iconst (pc := 142) dX12_letters_142 kc_0 ?_
    refine mb_cSl (pc := 143) (As := [.int (108 : Int32), .int (97 : Int32), .int (115 : Int32), .int (116 : Int32), .int (0 : Int32), .int (0 : Int32)]) (rest := []) dX12_letters_143 cw_X12_200  hr (fun v hv => X12_spelled_ok hz (by omega)  hv) rfl (Nat.le_of_ble_eq_true rfl) (Nat.zero_le _) (Nat.zero_le _) (fun r9 hr => ?_)
    exact mb_lret dX12_letters_146 rfl hr
  refine mb_ite hr (fun hc hr => ?_) (fun hc12 hr => ?_)
  · refine mg_tableK (pc := 1) (146) 147 dX12_letters_1 hc (by decide +kernel) rfl ?_
    refine mg_bipush (pc := 147) dX12_letters_147 kb_99 ?_
    refine mg_bipush (pc := 149) dX12_letters_149 kb_97 ?_
    refine mg_bipush (pc := 151) dX12_letters_151 kb_114 ?_
    refine mg_bipush (pc := 153) dX12_letters_153 kb_100 ?_
    refine mg_iconst (pc := 155) dX12_letters_155 kc_0 ?_
    refine mg_iconst (pc := 156) dX12_letters_156 kc_0 ?_
    refine mb_cSl (pc := 157) (As := [.int (99 : Int32), .int (97 : Int32), .int (114 : Int32), .int (100 : Int32), .int (0 : Int32), .int (0 : Int32)]) (rest := []) dX12_letters_157 cw_X12_200  hr (fun v hv => X12_spelled_ok hz (by omega)  hv) rfl (Nat.le_of_ble_eq_true rfl) (Nat.zero_le _) (Nat.zero_le _) (fun r11 hr => ?_)
    exact mb_lret dX12_letters_160 rfl hr
  refine mb_ite hr (fun hc hr => ?_) (fun hc14 hr => ?_)
  · refine mg_tableK (pc := 1) (160) 161 dX12_letters_1 hc (by decide +kernel) rfl ?_
    refine mg_bipush (pc := 161) dX12_letters_161 kb_112 ?_
    refine mg_bipush (pc := 163) dX12_letters_163 kb_101 ?_
    refine mg_bipush (pc := 165) dX12_letters_165 kb_111 ?_
    refine mg_bipush (pc := 167) dX12_letters_167 kb_112 ?_
    refine mg_bipush (pc := 169) dX12_letters_169 kb_108 ?_
    refine mg_bipush (pc := 171) dX12_letters_171 kb_101 ?_
    refine mb_cSl (pc := 173) (As := [.int (112 : Int32), .int (101 : Int32), .int (111 : Int32), .int (112 : Int32), .int (108 : Int32), .int (101 : Int32)]) (rest := []) dX12_letters_173 cw_X12_200  hr (fun v hv => X12_spelled_ok hz (by omega)  hv) rfl (Nat.le_of_ble_eq_true rfl) (Nat.zero_le _) (Nat.zero_le _) (fun r13 hr => ?_)
    exact mb_lret dX12_letters_176 rfl hr
  refine mb_ite hr (fun hc hr => ?_) (fun hc16 hr => ?_)
  · refine mg_tableK (pc := 1) (176) 177 dX12_letters_1 hc (by decide +kernel) rfl ?_
    refine mg_bipush (pc := 177) dX12_letters_177 kb_112 ?_
    refine mg_bipush (pc := 179) dX12_letters_179 kb_97 ?_
    refine mg_bipush (pc := 181) dX12_letters_181 kb_105 ?_
    refine mg_bipush (pc := 183) dX12_letters_183 kb_114 ?_
    refine mg_bipush (pc := 185) dX12_letters_185 kb_115 ?_
    refine mg_iconst (pc := 187) dX12_letters_187 kc_0 ?_
    refine mb_cSl (pc := 188) (As := [.int (112 : Int32), .int (97 : Int32), .int (105 : Int32), .int (114 : Int32), .int (115 : Int32), .int (0 : Int32)]) (rest := []) dX12_letters_188 cw_X12_200  hr (fun v hv => X12_spelled_ok hz (by omega)  hv) rfl (Nat.le_of_ble_eq_true rfl) (Nat.zero_le _) (Nat.zero_le _) (fun r15 hr => ?_)
    exact mb_lret dX12_letters_191 rfl hr
  refine mb_ite hr (fun hc hr => ?_) (fun hc18 hr => ?_)
  · refine mg_tableK (pc := 1) (191) 192 dX12_letters_1 hc (by decide +kernel) rfl ?_
    refine mg_bipush (pc := 192) dX12_letters_192 kb_115 ?_
    refine mg_bipush (pc := 194) dX12_letters_194 kb_101 ?_
    refine mg_bipush (pc := 196) dX12_letters_196 kb_101 ?_
    refine mg_bipush (pc := 198) dX12_letters_198 kb_100 ?_
    refine mg_iconst (pc := 200) dX12_letters_200 kc_0 ?_
    refine mg_iconst (pc := 201) dX12_letters_201 kc_0 ?_
    refine mb_cSl (pc := 202) (As := [.int (115 : Int32), .int (101 : Int32), .int (101 : Int32), .int (100 : Int32), .int (0 : Int32), .int (0 : Int32)]) (rest := []) dX12_letters_202 cw_X12_200  hr (fun v hv => X12_spelled_ok hz (by omega)  hv) rfl (Nat.le_of_ble_eq_true rfl) (Nat.zero_le _) (Nat.zero_le _) (fun r17 hr => ?_)
    exact mb_lret dX12_letters_205 rfl hr
  refine mb_ite hr (fun hc hr => ?_) (fun hc20 hr => ?_)
  · refine mg_tableK (pc := 1) (205) 206 dX12_letters_1 hc (by decide +kernel) rfl ?_
    refine mg_bipush (pc := 206) dX12_letters_206 kb_102 ?_
    refine mg_bipush (pc := 208) dX12_letters_208 kb_97 ?_
    refine mg_bipush (pc := 210) dX12_letters_210 kb_110 ?_
    refine mg_iconst (pc := 212) dX12_letters_212 kc_0 ?_
    refine mg_iconst (pc := 213) dX12_letters_213 kc_0 ?_
    refine mg_iconst (pc := 214) dX12_letters_214 kc_0 ?_
    refine mb_cSl (pc := 215) (As := [.int (102 : Int32), .int (97 : Int32), .int (110 : Int32), .int (0 : Int32), .int (0 : Int32), .int (0 : Int32)]) (rest := []) dX12_letters_215 cw_X12_200  hr (fun v hv => X12_spelled_ok hz (by omega)  hv) rfl (Nat.le_of_ble_eq_true rfl) (Nat.zero_le _) (Nat.zero_le _) (fun r19 hr => ?_)
    exact mb_lret dX12_letters_218 rfl hr
  refine mb_ite hr (fun hc hr => ?_) (fun hc22 hr => ?_)
  · refine mg_tableK (pc := 1) (218) 219 dX12_letters_1 hc (by decide +kernel) rfl ?_
    refine mg_bipush (pc := 219) dX12_letters_219 kb_100 ?_
    refine mg_bipush (pc := 221) dX12_letters_221 kb_114 ?_
    refine mg_bipush (pc := 223) dX12_letters_223 kb_97 ?_
    refine mg_bipush (pc := 225) dX12_letters_225 kb_119 ?_
    refine mg_bipush (pc := 227) dX12_letters_227 kb_115 ?_
    refine mg_iconst (pc := 229) dX12_letters_229 kc_0 ?_
    refine mb_cSl (pc := 230) (As := [.int (100 : Int32), .int (114 : Int32), .int (97 : Int32), .int (119 : Int32), .int (115 : Int32), .int (0 : Int32)]) (rest := []) dX12_letters_230 cw_X12_200  hr (fun v hv => X12_spelled_ok hz (by omega)  hv) rfl (Nat.le_of_ble_eq_true rfl) (Nat.zero_le _) (Nat.zero_le _) (fun r21 hr => ?_)
    exact mb_lret dX12_letters_233 rfl hr
  refine mb_ite hr (fun hc hr => ?_) (fun hc24 hr => ?_)
  · refine mg_tableK (pc := 1) (233) 234 dX12_letters_1 hc (by decide +kernel) rfl ?_
    refine mg_bipush (pc := 234) dX12_letters_234 kb_104 ?_
    refine mg_bipush (pc := 236) dX12_letters_236 kb_111 ?_
    refine mg_bipush (pc := 238) dX12_letters_238 kb_108 ?_
    refine mg_bipush (pc := 240) dX12_letters_240 kb_100 ?_
    refine mg_bipush (pc := 242) dX12_letters_242 kb_115 ?_
    refine mg_iconst (pc := 244) dX12_letters_244 kc_0 ?_
    refine mb_cSl (pc := 245) (As := [.int (104 : Int32), .int (111 : Int32), .int (108 : Int32), .int (100 : Int32), .int (115 : Int32), .int (0 : Int32)]) (rest := []) dX12_letters_245 cw_X12_200  hr (fun v hv => X12_spelled_ok hz (by omega)  hv) rfl (Nat.le_of_ble_eq_true rfl) (Nat.zero_le _) (Nat.zero_le _) (fun r23 hr => ?_)
    exact mb_lret dX12_letters_248 rfl hr
  refine mb_ite hr (fun hc hr => ?_) (fun hc26 hr => ?_)
  · refine mg_tableK (pc := 1) (248) 249 dX12_letters_1 hc (by decide +kernel) rfl ?_
    refine mg_bipush (pc := 249) dX12_letters_249 kb_104 ?_
    refine mg_bipush (pc := 251) dX12_letters_251 kb_97 ?_
    refine mg_bipush (pc := 253) dX12_letters_253 kb_98 ?_
    refine mg_bipush (pc := 255) dX12_letters_255 kb_105 ?_
    refine mg_bipush (pc := 257) dX12_letters_257 kb_116 ?_
    refine mg_bipush (pc := 259) dX12_letters_259 kb_115 ?_
    refine mb_cSl (pc := 261) (As := [.int (104 : Int32), .int (97 : Int32), .int (98 : Int32), .int (105 : Int32), .int (116 : Int32), .int (115 : Int32)]) (rest := []) dX12_letters_261 cw_X12_200  hr (fun v hv => X12_spelled_ok hz (by omega)  hv) rfl (Nat.le_of_ble_eq_true rfl) (Nat.zero_le _) (Nat.zero_le _) (fun r25 hr => ?_)
    exact mb_lret dX12_letters_264 rfl hr
  refine mb_ite hr (fun hc hr => ?_) (fun hc28 hr => ?_)
  · refine mg_tableK (pc := 1) (264) 265 dX12_letters_1 hc (by decide +kernel) rfl ?_
    refine mg_bipush (pc := 265) dX12_letters_265 kb_113 ?_
    refine mg_bipush (pc := 267) dX12_letters_267 kb_117 ?_
    refine mg_bipush (pc := 269) dX12_letters_269 kb_101 ?_
    refine mg_bipush (pc := 271) dX12_letters_271 kb_101 ?_
    refine mg_bipush (pc := 273) dX12_letters_273 kb_110 ?_
    refine mg_iconst (pc := 275) dX12_letters_275 kc_0 ?_
    refine mb_cSl (pc := 276) (As := [.int (113 : Int32), .int (117 : Int32), .int (101 : Int32), .int (101 : Int32), .int (110 : Int32), .int (0 : Int32)]) (rest := []) dX12_letters_276 cw_X12_200  hr (fun v hv => X12_spelled_ok hz (by omega)  hv) rfl (Nat.le_of_ble_eq_true rfl) (Nat.zero_le _) (Nat.zero_le _) (fun r27 hr => ?_)
    exact mb_lret dX12_letters_279 rfl hr
  refine mb_ite hr (fun hc hr => ?_) (fun hc30 hr => ?_)
  · refine mg_tableK (pc := 1) (279) 280 dX12_letters_1 hc (by decide +kernel) rfl ?_
    refine mg_bipush (pc := 280) dX12_letters_280 kb_97 ?_
    refine mg_bipush (pc := 282) dX12_letters_282 kb_110 ?_
    refine mg_bipush (pc := 284) dX12_letters_284 kb_100 ?_
    refine mg_iconst (pc := 286) dX12_letters_286 kc_0 ?_
    refine mg_iconst (pc := 287) dX12_letters_287 kc_0 ?_
    refine mg_iconst (pc := 288) dX12_letters_288 kc_0 ?_
    refine mb_cSl (pc := 289) (As := [.int (97 : Int32), .int (110 : Int32), .int (100 : Int32), .int (0 : Int32), .int (0 : Int32), .int (0 : Int32)]) (rest := []) dX12_letters_289 cw_X12_200  hr (fun v hv => X12_spelled_ok hz (by omega)  hv) rfl (Nat.le_of_ble_eq_true rfl) (Nat.zero_le _) (Nat.zero_le _) (fun r29 hr => ?_)
    exact mb_lret dX12_letters_292 rfl hr
  refine mb_ite hr (fun hc hr => ?_) (fun hc32 hr => ?_)
  · refine mg_tableK (pc := 1) (292) 293 dX12_letters_1 hc (by decide +kernel) rfl ?_
    refine mg_bipush (pc := 293) dX12_letters_293 kb_111 ?_
    refine mg_bipush (pc := 295) dX12_letters_295 kb_114 ?_
    refine mg_iconst (pc := 297) dX12_letters_297 kc_0 ?_
    refine mg_iconst (pc := 298) dX12_letters_298 kc_0 ?_
    refine mg_iconst (pc := 299) dX12_letters_299 kc_0 ?_
    refine mg_iconst (pc := 300) dX12_letters_300 kc_0 ?_
    refine mb_cSl (pc := 301) (As := [.int (111 : Int32), .int (114 : Int32), .int (0 : Int32), .int (0 : Int32), .int (0 : Int32), .int (0 : Int32)]) (rest := []) dX12_letters_301 cw_X12_200  hr (fun v hv => X12_spelled_ok hz (by omega)  hv) rfl (Nat.le_of_ble_eq_true rfl) (Nat.zero_le _) (Nat.zero_le _) (fun r31 hr => ?_)
    exact mb_lret dX12_letters_304 rfl hr
  refine mg_tableD (pc := 1) 305 dX12_letters_1 ((mm_nin_c hc2 (mm_nin_c hc4 (mm_nin_c hc6 (mm_nin_c hc8 (mm_nin_c hc10 (mm_nin_c hc12 (mm_nin_c hc14 (mm_nin_c hc16 (mm_nin_c hc18 (mm_nin_c hc20 (mm_nin_c hc22 (mm_nin_c hc24 (mm_nin_c hc26 (mm_nin_c hc28 (mm_nin_c hc30 (mm_nin_c hc32 mm_nin_0)))))))))))))))) : ∀ y ∈ [(0 : Int32), (1 : Int32), (2 : Int32), (3 : Int32), (4 : Int32), (5 : Int32), (6 : Int32), (7 : Int32), (8 : Int32), (9 : Int32), (10 : Int32), (11 : Int32), (12 : Int32), (13 : Int32), (14 : Int32), (15 : Int32)], ¬ i0 = y) (by decide +kernel) rfl ?_
  refine mg_bipush (pc := 305) dX12_letters_305 kb_110 ?_
  refine mg_bipush (pc := 307) dX12_letters_307 kb_111 ?_
  refine mg_bipush (pc := 309) dX12_letters_309 kb_116 ?_
  refine mg_iconst (pc := 311) dX12_letters_311 kc_0 ?_
  refine mg_iconst (pc := 312) dX12_letters_312 kc_0 ?_
  refine mg_iconst (pc := 313) dX12_letters_313 kc_0 ?_
  refine mb_cSl (pc := 314) (As := [.int (110 : Int32), .int (111 : Int32), .int (116 : Int32), .int (0 : Int32), .int (0 : Int32), .int (0 : Int32)]) (rest := []) dX12_letters_314 cw_X12_200  hr (fun v hv => X12_spelled_ok hz (by omega)  hv) rfl (Nat.le_of_ble_eq_true rfl) (Nat.zero_le _) (Nat.zero_le _) (fun r33 hr => ?_)
  exact mb_lret dX12_letters_317 rfl hr
