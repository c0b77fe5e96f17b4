theorem ks_128 : (Int16.ofInt (128)).toInt32 = (128 : Int32) := by decide
theorem tw_1373 : Cond.methodLink "SootQueenModel" 331 ⟨"SootQueenModel", "card", "([III)I"⟩ ∈ lw_tbl := List.mem_append_right _ (List.mem_of_getElem? (i := 1373) (by decide +kernel))
theorem tw_1375 : Cond.code ⟨"SootQueenModel", "card", "([III)I"⟩ prog_14_method_37_code 3 (some .int) ∈ lw_tbl := List.mem_append_right _ (List.mem_of_getElem? (i := 1375) (by decide +kernel))
theorem tw_1374 : Cond.static ⟨"SootQueenModel", "card", "([III)I"⟩ ∈ lw_tbl := List.mem_append_right _ (List.mem_of_getElem? (i := 1374) (by decide +kernel))
theorem cw_X12_331 : mm_CS RX12 331 MX12_card 3 := ⟨⟨Or.inl tw_1373, tw_1375, tw_14, ⟨by decide, by decide⟩, by decide +kernel, by decide⟩, tw_1374⟩
theorem tw_1367 : Cond.methodLink "SootQueenModel" 327 ⟨"SootQueenModel", "size", "([II)I"⟩ ∈ lw_tbl := List.mem_append_right _ (List.mem_of_getElem? (i := 1367) (by decide +kernel))
theorem tw_1369 : Cond.code ⟨"SootQueenModel", "size", "([II)I"⟩ prog_14_method_38_code 2 (some .int) ∈ lw_tbl := List.mem_append_right _ (List.mem_of_getElem? (i := 1369) (by decide +kernel))
theorem tw_1368 : Cond.static ⟨"SootQueenModel", "size", "([II)I"⟩ ∈ lw_tbl := List.mem_append_right _ (List.mem_of_getElem? (i := 1368) (by decide +kernel))
theorem cw_X12_327 : mm_CS RX12 327 MX12_size 2 := ⟨⟨Or.inl tw_1367, tw_1369, tw_14, ⟨by decide, by decide⟩, by decide +kernel, by decide⟩, tw_1368⟩
theorem tw_1403 : Cond.fieldLink "SootQueenModel" 7 "SootQueenModel" "people" "I" ∈ lw_tbl := List.mem_append_right _ (List.mem_of_getElem? (i := 1403) (by decide +kernel))
theorem fl_X12_7 : mm_FL RX12 7 12 1 75 := ⟨(RX12, TX12, 75), rfl, rfl, by decide, by decide, Or.inl tw_1403⟩
theorem tw_1386 : Cond.methodLink "SootQueenModel" 338 ⟨"SootQueenModel", "isOver", "([I)Z"⟩ ∈ lw_tbl := List.mem_append_right _ (List.mem_of_getElem? (i := 1386) (by decide +kernel))
theorem tw_1389 : Cond.code ⟨"SootQueenModel", "isOver", "([I)Z"⟩ prog_14_method_41_code 4 (some .boolean) ∈ lw_tbl := List.mem_append_right _ (List.mem_of_getElem? (i := 1389) (by decide +kernel))
theorem tw_1388 : Cond.instanceMethod ⟨"SootQueenModel", "isOver", "([I)Z"⟩ ∈ lw_tbl := List.mem_append_right _ (List.mem_of_getElem? (i := 1388) (by decide +kernel))
theorem sw_56 : Cond.selects "SootQueenModel" ⟨"SootQueenModel", "isOver", "([I)Z"⟩ ⟨"SootQueenModel", "isOver", "([I)Z"⟩ ∈ lw_tbl := List.mem_append_left _ (List.mem_of_getElem? (i := 56) (by decide +kernel))
theorem cw_X12_338 : mm_CV RX12 338 MX12_isOver 12 1 := ⟨⟨Or.inl tw_1386, tw_1389, tw_14, ⟨by decide, by decide⟩, by decide +kernel, by decide⟩, tw_1388, by decide, (RX12, TX12, 75), rfl, sw_56⟩
theorem tw_1390 : Cond.methodLink "SootQueenModel" 342 ⟨"SootQueenModel", "nextOf", "([II)I"⟩ ∈ lw_tbl := List.mem_append_right _ (List.mem_of_getElem? (i := 1390) (by decide +kernel))
theorem tw_1393 : Cond.code ⟨"SootQueenModel", "nextOf", "([II)I"⟩ prog_14_method_39_code 5 (some .int) ∈ lw_tbl := List.mem_append_right _ (List.mem_of_getElem? (i := 1393) (by decide +kernel))
theorem tw_1392 : Cond.instanceMethod ⟨"SootQueenModel", "nextOf", "([II)I"⟩ ∈ lw_tbl := List.mem_append_right _ (List.mem_of_getElem? (i := 1392) (by decide +kernel))
theorem sw_57 : Cond.selects "SootQueenModel" ⟨"SootQueenModel", "nextOf", "([II)I"⟩ ⟨"SootQueenModel", "nextOf", "([II)I"⟩ ∈ lw_tbl := List.mem_append_left _ (List.mem_of_getElem? (i := 57) (by decide +kernel))
theorem cw_X12_342 : mm_CV RX12 342 MX12_nextOf 12 2 := ⟨⟨Or.inl tw_1390, tw_1393, tw_14, ⟨by decide, by decide⟩, by decide +kernel, by decide⟩, tw_1392, by decide, (RX12, TX12, 75), rfl, sw_57⟩
theorem tw_1370 : Cond.methodLink "SootQueenModel" 348 ⟨"SootQueenModel", "inserts", "([IIII)V"⟩ ∈ lw_tbl := List.mem_append_right _ (List.mem_of_getElem? (i := 1370) (by decide +kernel))
theorem tw_1372 : Cond.code ⟨"SootQueenModel", "inserts", "([IIII)V"⟩ prog_14_method_45_code 5 none ∈ lw_tbl := List.mem_append_right _ (List.mem_of_getElem? (i := 1372) (by decide +kernel))
theorem tw_1371 : Cond.static ⟨"SootQueenModel", "inserts", "([IIII)V"⟩ ∈ lw_tbl := List.mem_append_right _ (List.mem_of_getElem? (i := 1371) (by decide +kernel))
theorem cw_X12_348 : mm_CS RX12 348 MX12_inserts 4 := ⟨⟨Or.inl tw_1370, tw_1372, tw_14, ⟨by decide, by decide⟩, by decide +kernel, by decide⟩, tw_1371⟩
theorem tw_1382 : Cond.methodLink "SootQueenModel" 352 ⟨"SootQueenModel", "opens", "([I)V"⟩ ∈ lw_tbl := List.mem_append_right _ (List.mem_of_getElem? (i := 1382) (by decide +kernel))
theorem tw_1385 : Cond.code ⟨"SootQueenModel", "opens", "([I)V"⟩ prog_14_method_47_code 2 none ∈ lw_tbl := List.mem_append_right _ (List.mem_of_getElem? (i := 1385) (by decide +kernel))
theorem tw_1384 : Cond.instanceMethod ⟨"SootQueenModel", "opens", "([I)V"⟩ ∈ lw_tbl := List.mem_append_right _ (List.mem_of_getElem? (i := 1384) (by decide +kernel))
theorem sw_55 : Cond.selects "SootQueenModel" ⟨"SootQueenModel", "opens", "([I)V"⟩ ⟨"SootQueenModel", "opens", "([I)V"⟩ ∈ lw_tbl := List.mem_append_left _ (List.mem_of_getElem? (i := 55) (by decide +kernel))
theorem cw_X12_352 : mm_CV RX12 352 MX12_opens 12 1 := ⟨⟨Or.inl tw_1382, tw_1385, tw_14, ⟨by decide, by decide⟩, by decide +kernel, by decide⟩, tw_1384, by decide, (RX12, TX12, 75), rfl, sw_55⟩
theorem tw_1358 : Cond.methodLink "SootQueenModel" 345 ⟨"SootQueenModel", "clears", "([I)V"⟩ ∈ lw_tbl := List.mem_append_right _ (List.mem_of_getElem? (i := 1358) (by decide +kernel))
theorem tw_1361 : Cond.code ⟨"SootQueenModel", "clears", "([I)V"⟩ prog_14_method_46_code 3 none ∈ lw_tbl := List.mem_append_right _ (List.mem_of_getElem? (i := 1361) (by decide +kernel))
theorem tw_1360 : Cond.instanceMethod ⟨"SootQueenModel", "clears", "([I)V"⟩ ∈ lw_tbl := List.mem_append_right _ (List.mem_of_getElem? (i := 1360) (by decide +kernel))
theorem sw_53 : Cond.selects "SootQueenModel" ⟨"SootQueenModel", "clears", "([I)V"⟩ ⟨"SootQueenModel", "clears", "([I)V"⟩ ∈ lw_tbl := List.mem_append_left _ (List.mem_of_getElem? (i := 53) (by decide +kernel))
theorem cw_X12_345 : mm_CV RX12 345 MX12_clears 12 1 := ⟨⟨Or.inl tw_1358, tw_1361, tw_14, ⟨by decide, by decide⟩, by decide +kernel, by decide⟩, tw_1360, by decide, (RX12, TX12, 75), rfl, sw_53⟩
theorem tw_1443 : Cond.fieldLink "SootQueenModel" 355 "SootQueenModel" "its" "I" ∈ lw_tbl := List.mem_append_right _ (List.mem_of_getElem? (i := 1443) (by decide +kernel))
theorem fl_X12_355 : mm_FL RX12 355 12 41 75 := ⟨(RX12, TX12, 75), rfl, rfl, by decide, by decide, Or.inl tw_1443⟩
theorem tw_1366 : Cond.constant "SootQueenModel" 358 (1103515245) ∈ lw_tbl := List.mem_append_right _ (List.mem_of_getElem? (i := 1366) (by decide +kernel))
theorem fp_X12_355 : mm_FP RX12 355 12 41 75 .int := ⟨fl_X12_355, (RX12, TX12, 75), rfl, rfl, by decide +kernel⟩
theorem tw_1379 : Cond.methodLink "SootQueenModel" 362 ⟨"SootQueenModel", "takes", "([III)I"⟩ ∈ lw_tbl := List.mem_append_right _ (List.mem_of_getElem? (i := 1379) (by decide +kernel))
theorem tw_1381 : Cond.code ⟨"SootQueenModel", "takes", "([III)I"⟩ prog_14_method_44_code 5 (some .int) ∈ lw_tbl := List.mem_append_right _ (List.mem_of_getElem? (i := 1381) (by decide +kernel))
theorem tw_1380 : Cond.static ⟨"SootQueenModel", "takes", "([III)I"⟩ ∈ lw_tbl := List.mem_append_right _ (List.mem_of_getElem? (i := 1380) (by decide +kernel))
theorem cw_X12_362 : mm_CS RX12 362 MX12_takes 3 := ⟨⟨Or.inl tw_1379, tw_1381, tw_14, ⟨by decide, by decide⟩, by decide +kernel, by decide⟩, tw_1380⟩
theorem tw_1404 : Cond.fieldLink "SootQueenModel" 13 "SootQueenModel" "pairs" "I" ∈ lw_tbl := List.mem_append_right _ (List.mem_of_getElem? (i := 1404) (by decide +kernel))
theorem fl_X12_13 : mm_FL RX12 13 12 2 75 := ⟨(RX12, TX12, 75), rfl, rfl, by decide, by decide, Or.inl tw_1404⟩
theorem tw_1376 : Cond.methodLink "SootQueenModel" 335 ⟨"SootQueenModel", "placeOf", "([III)I"⟩ ∈ lw_tbl := List.mem_append_right _ (List.mem_of_getElem? (i := 1376) (by decide +kernel))
theorem tw_1378 : Cond.code ⟨"SootQueenModel", "placeOf", "([III)I"⟩ prog_14_method_42_code 4 (some .int) ∈ lw_tbl := List.mem_append_right _ (List.mem_of_getElem? (i := 1378) (by decide +kernel))
theorem tw_1377 : Cond.static ⟨"SootQueenModel", "placeOf", "([III)I"⟩ ∈ lw_tbl := List.mem_append_right _ (List.mem_of_getElem? (i := 1377) (by decide +kernel))
theorem cw_X12_335 : mm_CS RX12 335 MX12_placeOf 3 := ⟨⟨Or.inl tw_1376, tw_1378, tw_14, ⟨by decide, by decide⟩, by decide +kernel, by decide⟩, tw_1377⟩
theorem tw_1444 : Cond.fieldLink "SootQueenModel" 66 "SootQueenModel" "pack" "[I" ∈ lw_tbl := List.mem_append_right _ (List.mem_of_getElem? (i := 1444) (by decide +kernel))
theorem fl_X12_66 : mm_FL RX12 66 12 42 75 := ⟨(RX12, TX12, 75), rfl, rfl, by decide, by decide, Or.inl tw_1444⟩
theorem tw_1362 : Cond.methodLink "SootQueenModel" 359 ⟨"SootQueenModel", "draws", "(I)I"⟩ ∈ lw_tbl := List.mem_append_right _ (List.mem_of_getElem? (i := 1362) (by decide +kernel))
theorem tw_1365 : Cond.code ⟨"SootQueenModel", "draws", "(I)I"⟩ prog_14_method_49_code 2 (some .int) ∈ lw_tbl := List.mem_append_right _ (List.mem_of_getElem? (i := 1365) (by decide +kernel))
theorem tw_1364 : Cond.instanceMethod ⟨"SootQueenModel", "draws", "(I)I"⟩ ∈ lw_tbl := List.mem_append_right _ (List.mem_of_getElem? (i := 1364) (by decide +kernel))
theorem sw_54 : Cond.selects "SootQueenModel" ⟨"SootQueenModel", "draws", "(I)I"⟩ ⟨"SootQueenModel", "draws", "(I)I"⟩ ∈ lw_tbl := List.mem_append_left _ (List.mem_of_getElem? (i := 54) (by decide +kernel))
theorem cw_X12_359 : mm_CV RX12 359 MX12_draws 12 1 := ⟨⟨Or.inl tw_1362, tw_1365, tw_14, ⟨by decide, by decide⟩, by decide +kernel, by decide⟩, tw_1364, by decide, (RX12, TX12, 75), rfl, sw_54⟩
theorem tw_1440 : Cond.fieldLink "SootQueenModel" 57 "SootQueenModel" "start" "[I" ∈ lw_tbl := List.mem_append_right _ (List.mem_of_getElem? (i := 1440) (by decide +kernel))
theorem fl_X12_57 : mm_FL RX12 57 12 38 75 := ⟨(RX12, TX12, 75), rfl, rfl, by decide, by decide, Or.inl tw_1440⟩
theorem tw_1441 : Cond.fieldLink "SootQueenModel" 60 "SootQueenModel" "now" "[I" ∈ lw_tbl := List.mem_append_right _ (List.mem_of_getElem? (i := 1441) (by decide +kernel))
theorem fl_X12_60 : mm_FL RX12 60 12 39 75 := ⟨(RX12, TX12, 75), rfl, rfl, by decide, by decide, Or.inl tw_1441⟩
theorem tw_1398 : Cond.methodLink "SootQueenModel" 316 ⟨"SootQueenModel", "copies", "([I[I)V"⟩ ∈ lw_tbl := List.mem_append_right _ (List.mem_of_getElem? (i := 1398) (by decide +kernel))
theorem tw_1401 : Cond.code ⟨"SootQueenModel", "copies", "([I[I)V"⟩ prog_14_method_5_code 4 none ∈ lw_tbl := List.mem_append_right _ (List.mem_of_getElem? (i := 1401) (by decide +kernel))
theorem tw_1400 : Cond.instanceMethod ⟨"SootQueenModel", "copies", "([I[I)V"⟩ ∈ lw_tbl := List.mem_append_right _ (List.mem_of_getElem? (i := 1400) (by decide +kernel))
theorem sw_59 : Cond.selects "SootQueenModel" ⟨"SootQueenModel", "copies", "([I[I)V"⟩ ⟨"SootQueenModel", "copies", "([I[I)V"⟩ ∈ lw_tbl := List.mem_append_left _ (List.mem_of_getElem? (i := 59) (by decide +kernel))
theorem cw_X12_316 : mm_CV RX12 316 MX12_copies 12 2 := ⟨⟨Or.inl tw_1398, tw_1401, tw_14, ⟨by decide, by decide⟩, by decide +kernel, by decide⟩, tw_1400, by decide, (RX12, TX12, 75), rfl, sw_59⟩
theorem tw_1450 : Cond.fieldLink "SootQueenModel" 365 "SootQueenModel" "kept" "I" ∈ lw_tbl := List.mem_append_right _ (List.mem_of_getElem? (i := 1450) (by decide +kernel))
theorem fl_X12_365 : mm_FL RX12 365 12 48 75 := ⟨(RX12, TX12, 75), rfl, rfl, by decide, by decide, Or.inl tw_1450⟩
theorem fp_X12_365 : mm_FP RX12 365 12 48 75 .int := ⟨fl_X12_365, (RX12, TX12, 75), rfl, rfl, by decide +kernel⟩
theorem tw_1394 : Cond.methodLink "SootQueenModel" 149 ⟨"SootQueenModel", "begins", "()V"⟩ ∈ lw_tbl := List.mem_append_right _ (List.mem_of_getElem? (i := 1394) (by decide +kernel))
theorem tw_1397 : Cond.code ⟨"SootQueenModel", "begins", "()V"⟩ prog_14_method_51_code 1 none ∈ lw_tbl := List.mem_append_right _ (List.mem_of_getElem? (i := 1397) (by decide +kernel))
theorem tw_1396 : Cond.instanceMethod ⟨"SootQueenModel", "begins", "()V"⟩ ∈ lw_tbl := List.mem_append_right _ (List.mem_of_getElem? (i := 1396) (by decide +kernel))
theorem sw_58 : Cond.selects "SootQueenModel" ⟨"SootQueenModel", "begins", "()V"⟩ ⟨"SootQueenModel", "begins", "()V"⟩ ∈ lw_tbl := List.mem_append_left _ (List.mem_of_getElem? (i := 58) (by decide +kernel))
theorem cw_X12_149 : mm_CV RX12 149 MX12_begins 12 0 := ⟨⟨Or.inl tw_1394, tw_1397, tw_14, ⟨by decide, by decide⟩, by decide +kernel, by decide⟩, tw_1396, by decide, (RX12, TX12, 75), rfl, sw_58⟩
theorem tw_1473 : Cond.fieldLink "SootQueenModel" 324 "SootQueenModel" "hasImage" "Z" ∈ lw_tbl := List.mem_append_right _ (List.mem_of_getElem? (i := 1473) (by decide +kernel))
theorem fl_X12_324 : mm_FL RX12 324 12 71 75 := ⟨(RX12, TX12, 75), rfl, rfl, by decide, by decide, Or.inl tw_1473⟩
theorem fp_X12_324 : mm_FP RX12 324 12 71 75 .boolean := ⟨fl_X12_324, (RX12, TX12, 75), rfl, rfl, by decide +kernel⟩
theorem fp_X12_7 : mm_FP RX12 7 12 1 75 .int := ⟨fl_X12_7, (RX12, TX12, 75), rfl, rfl, by decide +kernel⟩
theorem fp_X12_13 : mm_FP RX12 13 12 2 75 .int := ⟨fl_X12_13, (RX12, TX12, 75), rfl, rfl, by decide +kernel⟩
theorem tw_1405 : Cond.fieldLink "SootQueenModel" 142 "SootQueenModel" "seed" "I" ∈ lw_tbl := List.mem_append_right _ (List.mem_of_getElem? (i := 1405) (by decide +kernel))
theorem fl_X12_142 : mm_FL RX12 142 12 3 75 := ⟨(RX12, TX12, 75), rfl, rfl, by decide, by decide, Or.inl tw_1405⟩
theorem fp_X12_142 : mm_FP RX12 142 12 3 75 .int := ⟨fl_X12_142, (RX12, TX12, 75), rfl, rfl, by decide +kernel⟩
theorem tw_1406 : Cond.fieldLink "SootQueenModel" 313 "SootQueenModel" "hasFans" "Z" ∈ lw_tbl := List.mem_append_right _ (List.mem_of_getElem? (i := 1406) (by decide +kernel))
theorem fl_X12_313 : mm_FL RX12 313 12 4 75 := ⟨(RX12, TX12, 75), rfl, rfl, by decide, by decide, Or.inl tw_1406⟩
theorem fp_X12_313 : mm_FP RX12 313 12 4 75 .boolean := ⟨fl_X12_313, (RX12, TX12, 75), rfl, rfl, by decide +kernel⟩
theorem tw_1407 : Cond.fieldLink "SootQueenModel" 16 "SootQueenModel" "ruleAt" "[I" ∈ lw_tbl := List.mem_append_right _ (List.mem_of_getElem? (i := 1407) (by decide +kernel))
theorem fl_X12_16 : mm_FL RX12 16 12 5 75 := ⟨(RX12, TX12, 75), rfl, rfl, by decide, by decide, Or.inl tw_1407⟩
theorem tw_1408 : Cond.fieldLink "SootQueenModel" 20 "SootQueenModel" "habits" "[I" ∈ lw_tbl := List.mem_append_right _ (List.mem_of_getElem? (i := 1408) (by decide +kernel))
theorem fl_X12_20 : mm_FL RX12 20 12 6 75 := ⟨(RX12, TX12, 75), rfl, rfl, by decide, by decide, Or.inl tw_1408⟩
theorem tw_1409 : Cond.fieldLink "SootQueenModel" 23 "SootQueenModel" "code" "[I" ∈ lw_tbl := List.mem_append_right _ (List.mem_of_getElem? (i := 1409) (by decide +kernel))
theorem fl_X12_23 : mm_FL RX12 23 12 7 75 := ⟨(RX12, TX12, 75), rfl, rfl, by decide, by decide, Or.inl tw_1409⟩
theorem tw_1354 : Cond.methodLink "SootQueenModel" 145 ⟨"SootQueenModel", "deals", "(I[I)V"⟩ ∈ lw_tbl := List.mem_append_right _ (List.mem_of_getElem? (i := 1354) (by decide +kernel))
theorem tw_1357 : Cond.code ⟨"SootQueenModel", "deals", "(I[I)V"⟩ prog_14_method_50_code 8 none ∈ lw_tbl := List.mem_append_right _ (List.mem_of_getElem? (i := 1357) (by decide +kernel))
theorem tw_1356 : Cond.instanceMethod ⟨"SootQueenModel", "deals", "(I[I)V"⟩ ∈ lw_tbl := List.mem_append_right _ (List.mem_of_getElem? (i := 1356) (by decide +kernel))
theorem sw_52 : Cond.selects "SootQueenModel" ⟨"SootQueenModel", "deals", "(I[I)V"⟩ ⟨"SootQueenModel", "deals", "(I[I)V"⟩ ∈ lw_tbl := List.mem_append_left _ (List.mem_of_getElem? (i := 52) (by decide +kernel))
theorem cw_X12_145 : mm_CV RX12 145 MX12_deals 12 2 := ⟨⟨Or.inl tw_1354, tw_1357, tw_14, ⟨by decide, by decide⟩, by decide +kernel, by decide⟩, tw_1356, by decide, (RX12, TX12, 75), rfl, sw_52⟩
theorem tw_1752 : Cond.methodLink "SootQueenModel" 320 ⟨"SootQueenModel", "tells", "([I)V"⟩ ∈ lw_tbl := List.mem_append_right _ (List.mem_of_getElem? (i := 1752) (by decide +kernel))
theorem tw_1755 : Cond.code ⟨"SootQueenModel", "tells", "([I)V"⟩ prog_14_method_48_code 4 none ∈ lw_tbl := List.mem_append_right _ (List.mem_of_getElem? (i := 1755) (by decide +kernel))
theorem tw_1754 : Cond.instanceMethod ⟨"SootQueenModel", "tells", "([I)V"⟩ ∈ lw_tbl := List.mem_append_right _ (List.mem_of_getElem? (i := 1754) (by decide +kernel))
theorem sw_83 : Cond.selects "SootQueenModel" ⟨"SootQueenModel", "tells", "([I)V"⟩ ⟨"SootQueenModel", "tells", "([I)V"⟩ ∈ lw_tbl := List.mem_append_left _ (List.mem_of_getElem? (i := 83) (by decide +kernel))
theorem cw_X12_320 : mm_CV RX12 320 MX12_tells 12 1 := ⟨⟨Or.inl tw_1752, tw_1755, tw_14, ⟨by decide, by decide⟩, by decide +kernel, by decide⟩, tw_1754, by decide, (RX12, TX12, 75), rfl, sw_83⟩
theorem tw_1414 : Cond.fieldLink "SootQueenModel" 32 "SootQueenModel" "refused" "[I" ∈ lw_tbl := List.mem_append_right _ (List.mem_of_getElem? (i := 1414) (by decide +kernel))
theorem fl_X12_32 : mm_FL RX12 32 12 12 75 := ⟨(RX12, TX12, 75), rfl, rfl, by decide, by decide, Or.inl tw_1414⟩
theorem tw_1667 : Cond.methodLink "SootQueenModel" 310 ⟨"SootQueenModel", "line", "()V"⟩ ∈ lw_tbl := List.mem_append_right _ (List.mem_of_getElem? (i := 1667) (by decide +kernel))
theorem tw_1670 : Cond.code ⟨"SootQueenModel", "line", "()V"⟩ prog_14_method_34_code 4 none ∈ lw_tbl := List.mem_append_right _ (List.mem_of_getElem? (i := 1670) (by decide +kernel))
theorem tw_1669 : Cond.instanceMethod ⟨"SootQueenModel", "line", "()V"⟩ ∈ lw_tbl := List.mem_append_right _ (List.mem_of_getElem? (i := 1669) (by decide +kernel))
theorem sw_65 : Cond.selects "SootQueenModel" ⟨"SootQueenModel", "line", "()V"⟩ ⟨"SootQueenModel", "line", "()V"⟩ ∈ lw_tbl := List.mem_append_left _ (List.mem_of_getElem? (i := 65) (by decide +kernel))
theorem cw_X12_310 : mm_CV RX12 310 MX12_line 12 0 := ⟨⟨Or.inl tw_1667, tw_1670, tw_14, ⟨by decide, by decide⟩, by decide +kernel, by decide⟩, tw_1669, by decide, (RX12, TX12, 75), rfl, sw_65⟩
theorem kb_121 : (Int8.ofInt (121)).toInt32 = (121 : Int32) := by decide
theorem kb_36 : (Int8.ofInt (36)).toInt32 = (36 : Int32) := by decide
theorem tw_1645 : Cond.methodLink "SootQueenModel" 306 ⟨"SootQueenModel", "right", "(ZI)Z"⟩ ∈ lw_tbl := List.mem_append_right _ (List.mem_of_getElem? (i := 1645) (by decide +kernel))
theorem tw_1648 : Cond.code ⟨"SootQueenModel", "right", "(ZI)Z"⟩ prog_14_method_3_code 3 (some .boolean) ∈ lw_tbl := List.mem_append_right _ (List.mem_of_getElem? (i := 1648) (by decide +kernel))
theorem tw_1647 : Cond.instanceMethod ⟨"SootQueenModel", "right", "(ZI)Z"⟩ ∈ lw_tbl := List.mem_append_right _ (List.mem_of_getElem? (i := 1647) (by decide +kernel))
theorem sw_61 : Cond.selects "SootQueenModel" ⟨"SootQueenModel", "right", "(ZI)Z"⟩ ⟨"SootQueenModel", "right", "(ZI)Z"⟩ ∈ lw_tbl := List.mem_append_left _ (List.mem_of_getElem? (i := 61) (by decide +kernel))
theorem cw_X12_306 : mm_CV RX12 306 MX12_right 12 2 := ⟨⟨Or.inl tw_1645, tw_1648, tw_14, ⟨by decide, by decide⟩, by decide +kernel, by decide⟩, tw_1647, by decide, (RX12, TX12, 75), rfl, sw_61⟩
theorem fp_X12_162 : mm_FP RX12 162 12 13 75 .int := ⟨fl_X12_162, (RX12, TX12, 75), rfl, rfl, by decide +kernel⟩
theorem tw_1764 : Cond.methodLink "SootQueenModel" 368 ⟨"SootQueenModel", "within", "(III)Z"⟩ ∈ lw_tbl := List.mem_append_right _ (List.mem_of_getElem? (i := 1764) (by decide +kernel))
theorem tw_1766 : Cond.code ⟨"SootQueenModel", "within", "(III)Z"⟩ prog_14_method_4_code 3 (some .boolean) ∈ lw_tbl := List.mem_append_right _ (List.mem_of_getElem? (i := 1766) (by decide +kernel))
theorem tw_1765 : Cond.static ⟨"SootQueenModel", "within", "(III)Z"⟩ ∈ lw_tbl := List.mem_append_right _ (List.mem_of_getElem? (i := 1765) (by decide +kernel))
theorem cw_X12_368 : mm_CS RX12 368 MX12_within 3 := ⟨⟨Or.inl tw_1764, tw_1766, tw_14, ⟨by decide, by decide⟩, by decide +kernel, by decide⟩, tw_1765⟩
theorem tw_1767 : Cond.methodLink "SootQueenModel" 372 ⟨"SootQueenModel", "queen", "([I)I"⟩ ∈ lw_tbl := List.mem_append_right _ (List.mem_of_getElem? (i := 1767) (by decide +kernel))
theorem tw_1770 : Cond.code ⟨"SootQueenModel", "queen", "([I)I"⟩ prog_14_method_43_code 3 (some .int) ∈ lw_tbl := List.mem_append_right _ (List.mem_of_getElem? (i := 1770) (by decide +kernel))
theorem tw_1769 : Cond.instanceMethod ⟨"SootQueenModel", "queen", "([I)I"⟩ ∈ lw_tbl := List.mem_append_right _ (List.mem_of_getElem? (i := 1769) (by decide +kernel))
theorem sw_84 : Cond.selects "SootQueenModel" ⟨"SootQueenModel", "queen", "([I)I"⟩ ⟨"SootQueenModel", "queen", "([I)I"⟩ ∈ lw_tbl := List.mem_append_left _ (List.mem_of_getElem? (i := 84) (by decide +kernel))
theorem cw_X12_372 : mm_CV RX12 372 MX12_queen 12 1 := ⟨⟨Or.inl tw_1767, tw_1770, tw_14, ⟨by decide, by decide⟩, by decide +kernel, by decide⟩, tw_1769, by decide, (RX12, TX12, 75), rfl, sw_84⟩
theorem tw_1775 : Cond.methodLink "SootQueenModel" 376 ⟨"SootQueenModel", "isPerson", "(I)Z"⟩ ∈ lw_tbl := List.mem_append_right _ (List.mem_of_getElem? (i := 1775) (by decide +kernel))
theorem tw_1778 : Cond.code ⟨"SootQueenModel", "isPerson", "(I)Z"⟩ prog_14_method_53_code 2 (some .boolean) ∈ lw_tbl := List.mem_append_right _ (List.mem_of_getElem? (i := 1778) (by decide +kernel))
theorem tw_1777 : Cond.instanceMethod ⟨"SootQueenModel", "isPerson", "(I)Z"⟩ ∈ lw_tbl := List.mem_append_right _ (List.mem_of_getElem? (i := 1777) (by decide +kernel))
theorem sw_85 : Cond.selects "SootQueenModel" ⟨"SootQueenModel", "isPerson", "(I)Z"⟩ ⟨"SootQueenModel", "isPerson", "(I)Z"⟩ ∈ lw_tbl := List.mem_append_left _ (List.mem_of_getElem? (i := 85) (by decide +kernel))
theorem cw_X12_376 : mm_CV RX12 376 MX12_isPerson 12 1 := ⟨⟨Or.inl tw_1775, tw_1778, tw_14, ⟨by decide, by decide⟩, by decide +kernel, by decide⟩, tw_1777, by decide, (RX12, TX12, 75), rfl, sw_85⟩
theorem tw_1445 : Cond.fieldLink "SootQueenModel" 69 "SootQueenModel" "pile" "[I" ∈ lw_tbl := List.mem_append_right _ (List.mem_of_getElem? (i := 1445) (by decide +kernel))
theorem fl_X12_69 : mm_FL RX12 69 12 43 75 := ⟨(RX12, TX12, 75), rfl, rfl, by decide, by decide, Or.inl tw_1445⟩
theorem tw_1795 : Cond.methodLink "SootQueenModel" 379 ⟨"SootQueenModel", "valueOf", "(I[IIII)I"⟩ ∈ lw_tbl := List.mem_append_right _ (List.mem_of_getElem? (i := 1795) (by decide +kernel))
theorem tw_1798 : Cond.code ⟨"SootQueenModel", "valueOf", "(I[IIII)I"⟩ prog_14_method_57_code 6 (some .int) ∈ lw_tbl := List.mem_append_right _ (List.mem_of_getElem? (i := 1798) (by decide +kernel))
theorem tw_1797 : Cond.instanceMethod ⟨"SootQueenModel", "valueOf", "(I[IIII)I"⟩ ∈ lw_tbl := List.mem_append_right _ (List.mem_of_getElem? (i := 1797) (by decide +kernel))
theorem sw_89 : Cond.selects "SootQueenModel" ⟨"SootQueenModel", "valueOf", "(I[IIII)I"⟩ ⟨"SootQueenModel", "valueOf", "(I[IIII)I"⟩ ∈ lw_tbl := List.mem_append_left _ (List.mem_of_getElem? (i := 89) (by decide +kernel))
theorem cw_X12_379 : mm_CV RX12 379 MX12_valueOf 12 5 := ⟨⟨Or.inl tw_1795, tw_1798, tw_14, ⟨by decide, by decide⟩, by decide +kernel, by decide⟩, tw_1797, by decide, (RX12, TX12, 75), rfl, sw_89⟩
theorem tw_1799 : Cond.methodLink "SootQueenModel" 383 ⟨"SootQueenModel", "works", "(III)I"⟩ ∈ lw_tbl := List.mem_append_right _ (List.mem_of_getElem? (i := 1799) (by decide +kernel))
theorem tw_1801 : Cond.code ⟨"SootQueenModel", "works", "(III)I"⟩ prog_14_method_56_code 3 (some .int) ∈ lw_tbl := List.mem_append_right _ (List.mem_of_getElem? (i := 1801) (by decide +kernel))
theorem tw_1800 : Cond.static ⟨"SootQueenModel", "works", "(III)I"⟩ ∈ lw_tbl := List.mem_append_right _ (List.mem_of_getElem? (i := 1800) (by decide +kernel))
theorem cw_X12_383 : mm_CS RX12 383 MX12_works 3 := ⟨⟨Or.inl tw_1799, tw_1801, tw_14, ⟨by decide, by decide⟩, by decide +kernel, by decide⟩, tw_1800⟩
theorem dX12_clears_0 : decode cX12_clears 0 = .ok (.iconst 0, 1) := by decide +kernel
theorem dX12_clears_1 : decode cX12_clears 1 = .ok (.istore_n 2, 1) := by decide +kernel
theorem dX12_clears_2 : decode cX12_clears 2 = .ok (.iload_n 2, 1) := by decide +kernel
theorem dX12_clears_3 : decode cX12_clears 3 = .ok (.sipush 128, 3) := by decide +kernel
theorem dX12_clears_6 : decode cX12_clears 6 = .ok (.if_icmp .ge 13, 3) := by decide +kernel
theorem dX12_clears_9 : decode cX12_clears 9 = .ok (.aload_n 1, 1) := by decide +kernel
theorem dX12_clears_10 : decode cX12_clears 10 = .ok (.iload_n 2, 1) := by decide +kernel
theorem dX12_clears_11 : decode cX12_clears 11 = .ok (.iconst 0, 1) := by decide +kernel
theorem dX12_clears_12 : decode cX12_clears 12 = .ok (.iastore, 1) := by decide +kernel
theorem dX12_clears_13 : decode cX12_clears 13 = .ok (.iinc 2 1, 3) := by decide +kernel
theorem dX12_clears_16 : decode cX12_clears 16 = .ok (.goto (-14), 3) := by decide +kernel
theorem dX12_clears_19 : decode cX12_clears 19 = .ok (.return_, 1) := by decide +kernel
def X12_clears_L2 (e : mm_E) (a1 : Nat) : Nat → Int32 → mm_V → Option mm_V
  | 0, _, _ => none
  | n + 1, i2, m => if (128 : Int32) ≤ i2 then (some m) else ((mm_si e.1 m a1 i2 (0 : Int32)).bind fun m1 => X12_clears_L2 e a1 n (i2 + 1) m1)
theorem X12_clears_L2_ok {K : mm_K} {nx : Option Nat} {e : mm_E} (hz : e.2.1 = K.2.2.2.2) {d : Nat} (hd : 0 ≤ d) {a1 : Nat} {a0 : Nat} (h0 : e.1 a0 = some (12, 75)) : ∀ (n : Nat) (i2 : Int32) (m : mm_V) (r : mm_V), X12_clears_L2 e a1 n i2 m = some r → mm_G K MX12_clears d (mm_Fv e.1 nx r) 2 [none, some (.ref a1), some (.int i2)] [] (e.1, m) nx 0 0 := by
  intro n
  induction n with
  | zero => intro i2 m r hr; unfold X12_clears_L2 at hr; cases hr
  | succ n ih =>
    intro i2 m r hr
    unfold X12_clears_L2 at hr
    refine ml_iload_n (pc := 2) dX12_clears_2 rfl (mm_get_s (mm_get_s mm_get_0)) ?_
    refine mg_sipush (pc := 3) dX12_clears_3 ks_128 ?_
    refine mb_icmp_ge (pc := 6) 19 dX12_clears_6 rfl hr (fun hr => ?_) (fun hr => ?_)
    · exact mb_vret dX12_clears_19 rfl hr
    · refine ml_aload_n (pc := 9) dX12_clears_9 rfl (mm_get_s mm_get_0) ?_
      refine ml_iload_n (pc := 10) dX12_clears_10 rfl (mm_get_s (mm_get_s mm_get_0)) ?_
      refine mg_iconst (pc := 11) dX12_clears_11 kc_0 ?_
      refine mb_si (pc := 12) dX12_clears_12 hr (fun m1 hr => ?_)
      refine ml_iinc (pc := 13) dX12_clears_13 (mm_get_s (mm_get_s mm_get_0)) (congrArg (fun z => i2 + z) kc_1) (Nat.le_of_ble_eq_true rfl) (mm_st1_s mm_st1_r) ?_
      refine mg_goto (pc := 16) 2 dX12_clears_16 rfl ?_
      exact mg_weak (mm_le_n (mm_le_s (mm_le_s mm_le_0))) (ih _ _ _ hr)
def X12_clears (e : mm_E) (a0 : Nat) (a1 : Nat) (m : mm_V) : Option mm_V := X12_clears_L2 e a1 e.2.2 (0 : Int32) m
theorem X12_clears_ok {K : mm_K} {nx : Option Nat} {e : mm_E} (hz : e.2.1 = K.2.2.2.2) {d : Nat} (hd : 0 ≤ d) {a0 : Nat} {a1 : Nat} (h0 : e.1 a0 = some (12, 75)) {m : mm_V} {r : mm_V} (hr : X12_clears e a0 a1 m = some r) : mm_Cn K MX12_clears d (mm_Fv e.1 nx r) [.ref a0, .ref a1] (e.1, m) nx := by
  refine mm_entry (by decide) (Nat.le_of_ble_eq_true rfl) rfl (fun hok => ?_)
  unfold X12_clears at hr
  refine mg_weak (L' := [some (.ref a0), some (.ref a1), none]) (mm_le_s (mm_le_s (mm_le_e mm_le_0))) ?_
  refine mg_iconst (pc := 0) dX12_clears_0 kc_0 ?_
  refine ml_istore_n (pc := 1) dX12_clears_1 rfl (Nat.le_of_ble_eq_true rfl) (mm_st1_s mm_st1_r) ?_
  exact mg_weak (mm_le_n (mm_le_s (mm_le_s mm_le_0))) (X12_clears_L2_ok hz hd h0 _ _ _ _ hr)
theorem dX12_size_0 : decode cX12_size 0 = .ok (.aload_n 0, 1) := by decide +kernel
theorem dX12_size_1 : decode cX12_size 1 = .ok (.iconst 2, 1) := by decide +kernel
theorem dX12_size_2 : decode cX12_size 2 = .ok (.iload_n 1, 1) := by decide +kernel
theorem dX12_size_3 : decode cX12_size 3 = .ok (.iadd, 1) := by decide +kernel
theorem dX12_size_4 : decode cX12_size 4 = .ok (.iaload, 1) := by decide +kernel
theorem dX12_size_5 : decode cX12_size 5 = .ok (.ireturn, 1) := by decide +kernel
def X12_size (e : mm_E) (a0 : Nat) (i1 : Int32) (m : mm_V) : Option (Int32 × mm_V) := (mm_ai e.1 m 20 a0 ((2 : Int32) + i1)).bind fun x1 => some (x1, m)
theorem X12_size_ok {K : mm_K} {nx : Option Nat} {e : mm_E} (hz : e.2.1 = K.2.2.2.2) {d : Nat} (hd : 0 ≤ d) {a0 : Nat} {i1 : Int32} {m : mm_V} {r : (Int32 × mm_V)} (hr : X12_size e a0 i1 m = some r) : mm_Cn K MX12_size d (mm_Fi e.1 nx r) [.ref a0, .int i1] (e.1, m) nx := by
  refine mm_entry (by decide) (Nat.le_of_ble_eq_true rfl) rfl (fun hok => ?_)
  unfold X12_size at hr
  refine mg_weak (L' := [some (.ref a0), some (.int i1)]) (mm_le_s (mm_le_s mm_le_0)) ?_
  refine ml_aload_n (pc := 0) dX12_size_0 rfl mm_get_0 ?_
  refine mg_iconst (pc := 1) dX12_size_1 kc_2 ?_
  refine ml_iload_n (pc := 2) dX12_size_2 rfl (mm_get_s mm_get_0) ?_
  refine mg_iadd (pc := 3) dX12_size_3 ?_
  refine mb_ai (pc := 4) dX12_size_4 hr (fun x1 hr => ?_)
  exact mb_iret dX12_size_5 rfl hr
theorem dX12_card_0 : decode cX12_card 0 = .ok (.aload_n 0, 1) := by decide +kernel
theorem dX12_card_1 : decode cX12_card 1 = .ok (.bipush 14, 2) := by decide +kernel
theorem dX12_card_3 : decode cX12_card 3 = .ok (.bipush 19, 2) := by decide +kernel
theorem dX12_card_5 : decode cX12_card 5 = .ok (.iload_n 1, 1) := by decide +kernel
theorem dX12_card_6 : decode cX12_card 6 = .ok (.imul, 1) := by decide +kernel
theorem dX12_card_7 : decode cX12_card 7 = .ok (.iadd, 1) := by decide +kernel
theorem dX12_card_8 : decode cX12_card 8 = .ok (.iload_n 2, 1) := by decide +kernel
theorem dX12_card_9 : decode cX12_card 9 = .ok (.iadd, 1) := by decide +kernel
theorem dX12_card_10 : decode cX12_card 10 = .ok (.iaload, 1) := by decide +kernel
theorem dX12_card_11 : decode cX12_card 11 = .ok (.ireturn, 1) := by decide +kernel
def X12_card (e : mm_E) (a0 : Nat) (i1 : Int32) (i2 : Int32) (m : mm_V) : Option (Int32 × mm_V) := (mm_ai e.1 m 20 a0 (((14 : Int32) + ((19 : Int32) * i1)) + i2)).bind fun x1 => some (x1, m)
theorem X12_card_ok {K : mm_K} {nx : Option Nat} {e : mm_E} (hz : e.2.1 = K.2.2.2.2) {d : Nat} (hd : 0 ≤ d) {a0 : Nat} {i1 : Int32} {i2 : Int32} {m : mm_V} {r : (Int32 × mm_V)} (hr : X12_card e a0 i1 i2 m = some r) : mm_Cn K MX12_card d (mm_Fi e.1 nx r) [.ref a0, .int i1, .int i2] (e.1, m) nx := by
  refine mm_entry (by decide) (Nat.le_of_ble_eq_true rfl) rfl (fun hok => ?_)
  unfold X12_card at hr
  refine mg_weak (L' := [some (.ref a0), some (.int i1), some (.int i2)]) (mm_le_s (mm_le_s (mm_le_s mm_le_0))) ?_
  refine ml_aload_n (pc := 0) dX12_card_0 rfl mm_get_0 ?_
  refine mg_bipush (pc := 1) dX12_card_1 kb_14 ?_
  refine mg_bipush (pc := 3) dX12_card_3 kb_19 ?_
  refine ml_iload_n (pc := 5) dX12_card_5 rfl (mm_get_s mm_get_0) ?_
  refine mg_imul (pc := 6) dX12_card_6 ?_
  refine mg_iadd (pc := 7) dX12_card_7 ?_
  refine ml_iload_n (pc := 8) dX12_card_8 rfl (mm_get_s (mm_get_s mm_get_0)) ?_
  refine mg_iadd (pc := 9) dX12_card_9 ?_
  refine mb_ai (pc := 10) dX12_card_10 hr (fun x1 hr => ?_)
  exact mb_iret dX12_card_11 rfl hr
theorem dX12_inserts_0 : decode cX12_inserts 0 = .ok (.aload_n 0, 1) := by decide +kernel
theorem dX12_inserts_1 : decode cX12_inserts 1 = .ok (.iload_n 1, 1) := by decide +kernel
theorem dX12_inserts_2 : decode cX12_inserts 2 = .ok (.invokestatic 327, 3) := by decide +kernel
theorem dX12_inserts_5 : decode cX12_inserts 5 = .ok (.istore 4, 2) := by decide +kernel
theorem dX12_inserts_7 : decode cX12_inserts 7 = .ok (.iload 4, 2) := by decide +kernel
theorem dX12_inserts_9 : decode cX12_inserts 9 = .ok (.iload_n 2, 1) := by decide +kernel
theorem dX12_inserts_10 : decode cX12_inserts 10 = .ok (.if_icmp .le 30, 3) := by decide +kernel
theorem dX12_inserts_13 : decode cX12_inserts 13 = .ok (.aload_n 0, 1) := by decide +kernel
theorem dX12_inserts_14 : decode cX12_inserts 14 = .ok (.bipush 14, 2) := by decide +kernel
theorem dX12_inserts_16 : decode cX12_inserts 16 = .ok (.bipush 19, 2) := by decide +kernel
theorem dX12_inserts_18 : decode cX12_inserts 18 = .ok (.iload_n 1, 1) := by decide +kernel
theorem dX12_inserts_19 : decode cX12_inserts 19 = .ok (.imul, 1) := by decide +kernel
theorem dX12_inserts_20 : decode cX12_inserts 20 = .ok (.iadd, 1) := by decide +kernel
theorem dX12_inserts_21 : decode cX12_inserts 21 = .ok (.iload 4, 2) := by decide +kernel
theorem dX12_inserts_23 : decode cX12_inserts 23 = .ok (.iadd, 1) := by decide +kernel
theorem dX12_inserts_24 : decode cX12_inserts 24 = .ok (.aload_n 0, 1) := by decide +kernel
theorem dX12_inserts_25 : decode cX12_inserts 25 = .ok (.iload_n 1, 1) := by decide +kernel
theorem dX12_inserts_26 : decode cX12_inserts 26 = .ok (.iload 4, 2) := by decide +kernel
theorem dX12_inserts_28 : decode cX12_inserts 28 = .ok (.iconst 1, 1) := by decide +kernel
theorem dX12_inserts_29 : decode cX12_inserts 29 = .ok (.isub, 1) := by decide +kernel
theorem dX12_inserts_30 : decode cX12_inserts 30 = .ok (.invokestatic 331, 3) := by decide +kernel
theorem dX12_inserts_33 : decode cX12_inserts 33 = .ok (.iastore, 1) := by decide +kernel
theorem dX12_inserts_34 : decode cX12_inserts 34 = .ok (.iinc 4 (-1), 3) := by decide +kernel
theorem dX12_inserts_37 : decode cX12_inserts 37 = .ok (.goto (-30), 3) := by decide +kernel
theorem dX12_inserts_40 : decode cX12_inserts 40 = .ok (.aload_n 0, 1) := by decide +kernel
theorem dX12_inserts_41 : decode cX12_inserts 41 = .ok (.bipush 14, 2) := by decide +kernel
theorem dX12_inserts_43 : decode cX12_inserts 43 = .ok (.bipush 19, 2) := by decide +kernel
theorem dX12_inserts_45 : decode cX12_inserts 45 = .ok (.iload_n 1, 1) := by decide +kernel
theorem dX12_inserts_46 : decode cX12_inserts 46 = .ok (.imul, 1) := by decide +kernel
theorem dX12_inserts_47 : decode cX12_inserts 47 = .ok (.iadd, 1) := by decide +kernel
theorem dX12_inserts_48 : decode cX12_inserts 48 = .ok (.iload_n 2, 1) := by decide +kernel
theorem dX12_inserts_49 : decode cX12_inserts 49 = .ok (.iadd, 1) := by decide +kernel
theorem dX12_inserts_50 : decode cX12_inserts 50 = .ok (.iload_n 3, 1) := by decide +kernel
theorem dX12_inserts_51 : decode cX12_inserts 51 = .ok (.iastore, 1) := by decide +kernel
theorem dX12_inserts_52 : decode cX12_inserts 52 = .ok (.aload_n 0, 1) := by decide +kernel
theorem dX12_inserts_53 : decode cX12_inserts 53 = .ok (.iconst 2, 1) := by decide +kernel
theorem dX12_inserts_54 : decode cX12_inserts 54 = .ok (.iload_n 1, 1) := by decide +kernel
theorem dX12_inserts_55 : decode cX12_inserts 55 = .ok (.iadd, 1) := by decide +kernel
theorem dX12_inserts_56 : decode cX12_inserts 56 = .ok (.dup2, 1) := by decide +kernel
theorem dX12_inserts_57 : decode cX12_inserts 57 = .ok (.iaload, 1) := by decide +kernel
theorem dX12_inserts_58 : decode cX12_inserts 58 = .ok (.iconst 1, 1) := by decide +kernel
theorem dX12_inserts_59 : decode cX12_inserts 59 = .ok (.iadd, 1) := by decide +kernel
theorem dX12_inserts_60 : decode cX12_inserts 60 = .ok (.iastore, 1) := by decide +kernel
theorem dX12_inserts_61 : decode cX12_inserts 61 = .ok (.return_, 1) := by decide +kernel
def X12_inserts_L7 (e : mm_E) (a0 : Nat) (i1 : Int32) (i2 : Int32) (i3 : Int32) : Nat → Int32 → mm_V → Option mm_V
  | 0, _, _ => none
  | n + 1, i4, m => if i4 ≤ i2 then ((mm_si e.1 m a0 (((14 : Int32) + ((19 : Int32) * i1)) + i2) i3).bind fun m1 => (mm_ai e.1 m1 20 a0 ((2 : Int32) + i1)).bind fun x2 => (mm_si e.1 m1 a0 ((2 : Int32) + i1) (x2 + (1 : Int32))).bind fun m3 => some m3) else ((X12_card e a0 i1 (i4 - (1 : Int32)) m).bind fun r4 => (mm_si e.1 r4.2 a0 (((14 : Int32) + ((19 : Int32) * i1)) + i4) r4.1).bind fun m5 => X12_inserts_L7 e a0 i1 i2 i3 n (i4 + (-1)) m5)
theorem X12_inserts_L7_ok {K : mm_K} {nx : Option Nat} {e : mm_E} (hz : e.2.1 = K.2.2.2.2) {d : Nat} (hd : 1 ≤ d) {a0 : Nat} {i1 : Int32} {i2 : Int32} {i3 : Int32} : ∀ (n : Nat) (i4 : Int32) (m : mm_V) (r : mm_V), X12_inserts_L7 e a0 i1 i2 i3 n i4 m = some r → mm_G K MX12_inserts d (mm_Fv e.1 nx r) 7 [some (.ref a0), some (.int i1), some (.int i2), some (.int i3), some (.int i4)] [] (e.1, m) nx 0 0 := by
  obtain ⟨d, rfl⟩ : ∃ d', d = d' + 1 := ⟨d - 1, by omega⟩
  intro n
  induction n with
  | zero => intro i4 m r hr; unfold X12_inserts_L7 at hr; cases hr
  | succ n ih =>
    intro i4 m r hr
    unfold X12_inserts_L7 at hr
    refine ml_iload (pc := 7) dX12_inserts_7 (mm_get_s (mm_get_s (mm_get_s (mm_get_s mm_get_0)))) ?_
    refine ml_iload_n (pc := 9) dX12_inserts_9 rfl (mm_get_s (mm_get_s mm_get_0)) ?_
    refine mb_icmp_le (pc := 10) 40 dX12_inserts_10 rfl hr (fun hr => ?_) (fun hr => ?_)
    · refine ml_aload_n (pc := 40) dX12_inserts_40 rfl mm_get_0 ?_
      refine mg_bipush (pc := 41) dX12_inserts_41 kb_14 ?_
      refine mg_bipush (pc := 43) dX12_inserts_43 kb_19 ?_
      refine ml_iload_n (pc := 45) dX12_inserts_45 rfl (mm_get_s mm_get_0) ?_
      refine mg_imul (pc := 46) dX12_inserts_46 ?_
      refine mg_iadd (pc := 47) dX12_inserts_47 ?_
      refine ml_iload_n (pc := 48) dX12_inserts_48 rfl (mm_get_s (mm_get_s mm_get_0)) ?_
      refine mg_iadd (pc := 49) dX12_inserts_49 ?_
      refine ml_iload_n (pc := 50) dX12_inserts_50 rfl (mm_get_s (mm_get_s (mm_get_s mm_get_0))) ?_
      refine mb_si (pc := 51) dX12_inserts_51 hr (fun m1 hr => ?_)
      refine ml_aload_n (pc := 52) dX12_inserts_52 rfl mm_get_0 ?_
      refine mg_iconst (pc := 53) dX12_inserts_53 kc_2 ?_
      refine ml_iload_n (pc := 54) dX12_inserts_54 rfl (mm_get_s mm_get_0) ?_
      refine mg_iadd (pc := 55) dX12_inserts_55 ?_
      refine mg_dup2 (pc := 56) dX12_inserts_56 rfl rfl ?_
      refine mb_ai (pc := 57) dX12_inserts_57 hr (fun x2 hr => ?_)
      refine mg_iconst (pc := 58) dX12_inserts_58 kc_1 ?_
      refine mg_iadd (pc := 59) dX12_inserts_59 ?_
      refine mb_si (pc := 60) dX12_inserts_60 hr (fun m3 hr => ?_)
      exact mb_vret dX12_inserts_61 rfl hr
    · refine ml_aload_n (pc := 13) dX12_inserts_13 rfl mm_get_0 ?_
      refine mg_bipush (pc := 14) dX12_inserts_14 kb_14 ?_
      refine mg_bipush (pc := 16) dX12_inserts_16 kb_19 ?_
      refine ml_iload_n (pc := 18) dX12_inserts_18 rfl (mm_get_s mm_get_0) ?_
      refine mg_imul (pc := 19) dX12_inserts_19 ?_
      refine mg_iadd (pc := 20) dX12_inserts_20 ?_
      refine ml_iload (pc := 21) dX12_inserts_21 (mm_get_s (mm_get_s (mm_get_s (mm_get_s mm_get_0)))) ?_
      refine mg_iadd (pc := 23) dX12_inserts_23 ?_
      refine ml_aload_n (pc := 24) dX12_inserts_24 rfl mm_get_0 ?_
      refine ml_iload_n (pc := 25) dX12_inserts_25 rfl (mm_get_s mm_get_0) ?_
      refine ml_iload (pc := 26) dX12_inserts_26 (mm_get_s (mm_get_s (mm_get_s (mm_get_s mm_get_0)))) ?_
      refine mg_iconst (pc := 28) dX12_inserts_28 kc_1 ?_
      refine mg_isub (pc := 29) dX12_inserts_29 ?_
      refine mb_cSi (pc := 30) (As := [.ref a0, .int i1, .int (i4 - (1 : Int32))]) (rest := [.int (((14 : Int32) + ((19 : Int32) * i1)) + i4), .ref a0]) dX12_inserts_30 cw_X12_331  hr (fun v hv => X12_card_ok hz (by omega)  hv) rfl (Nat.le_of_ble_eq_true rfl) (Nat.zero_le _) (Nat.zero_le _) (fun r4 hr => ?_)
      refine mb_si (pc := 33) dX12_inserts_33 hr (fun m5 hr => ?_)
      refine ml_iinc (pc := 34) dX12_inserts_34 (mm_get_s (mm_get_s (mm_get_s (mm_get_s mm_get_0)))) (congrArg (fun z => i4 + z) kc_m1) (Nat.le_of_ble_eq_true rfl) (mm_st1_s (mm_st1_s (mm_st1_s mm_st1_i))) ?_
      refine mg_goto (pc := 37) 7 dX12_inserts_37 rfl ?_
      exact mg_weak (mm_le_s (mm_le_s (mm_le_s (mm_le_s (mm_le_s mm_le_0))))) (ih _ _ _ hr)
def X12_inserts (e : mm_E) (a0 : Nat) (i1 : Int32) (i2 : Int32) (i3 : Int32) (m : mm_V) : Option mm_V := (X12_size e a0 i1 m).bind fun r1 => X12_inserts_L7 e a0 i1 i2 i3 e.2.2 r1.1 r1.2
theorem X12_inserts_ok {K : mm_K} {nx : Option Nat} {e : mm_E} (hz : e.2.1 = K.2.2.2.2) {d : Nat} (hd : 1 ≤ d) {a0 : Nat} {i1 : Int32} {i2 : Int32} {i3 : Int32} {m : mm_V} {r : mm_V} (hr : X12_inserts e a0 i1 i2 i3 m = some r) : mm_Cn K MX12_inserts d (mm_Fv e.1 nx r) [.ref a0, .int i1, .int i2, .int i3] (e.1, m) nx := by
  obtain ⟨d, rfl⟩ : ∃ d', d = d' + 1 := ⟨d - 1, by omega⟩
  refine mm_entry (by decide) (Nat.le_of_ble_eq_true rfl) rfl (fun hok => ?_)
  unfold X12_inserts at hr
  refine mg_weak (L' := [some (.ref a0), some (.int i1), some (.int i2), some (.int i3), none]) (mm_le_s (mm_le_s (mm_le_s (mm_le_s (mm_le_e mm_le_0))))) ?_
  refine ml_aload_n (pc := 0) dX12_inserts_0 rfl mm_get_0 ?_
  refine ml_iload_n (pc := 1) dX12_inserts_1 rfl (mm_get_s mm_get_0) ?_
  refine mb_cSi (pc := 2) (As := [.ref a0, .int i1]) (rest := []) dX12_inserts_2 cw_X12_327  hr (fun v hv => X12_size_ok hz (by omega)  hv) rfl (Nat.le_of_ble_eq_true rfl) (Nat.zero_le _) (Nat.zero_le _) (fun r1 hr => ?_)
  refine ml_istore (pc := 5) dX12_inserts_5 (Nat.le_of_ble_eq_true rfl) (mm_st1_s (mm_st1_s (mm_st1_s mm_st1_i))) ?_
  exact mg_weak (mm_le_s (mm_le_s (mm_le_s (mm_le_s (mm_le_s mm_le_0))))) (X12_inserts_L7_ok hz hd _ _ _ _ hr)
theorem dX12_isOver_0 : decode cX12_isOver 0 = .ok (.iconst 0, 1) := by decide +kernel
theorem dX12_isOver_1 : decode cX12_isOver 1 = .ok (.istore_n 2, 1) := by decide +kernel
theorem dX12_isOver_2 : decode cX12_isOver 2 = .ok (.iconst 0, 1) := by decide +kernel
theorem dX12_isOver_3 : decode cX12_isOver 3 = .ok (.istore_n 3, 1) := by decide +kernel
theorem dX12_isOver_4 : decode cX12_isOver 4 = .ok (.iload_n 3, 1) := by decide +kernel
theorem dX12_isOver_5 : decode cX12_isOver 5 = .ok (.aload_n 0, 1) := by decide +kernel
theorem dX12_isOver_6 : decode cX12_isOver 6 = .ok (.getfield 7, 3) := by decide +kernel
theorem dX12_isOver_9 : decode cX12_isOver 9 = .ok (.if_icmp .ge 25, 3) := by decide +kernel
theorem dX12_isOver_12 : decode cX12_isOver 12 = .ok (.iload_n 2, 1) := by decide +kernel
theorem dX12_isOver_13 : decode cX12_isOver 13 = .ok (.aload_n 1, 1) := by decide +kernel
theorem dX12_isOver_14 : decode cX12_isOver 14 = .ok (.iload_n 3, 1) := by decide +kernel
theorem dX12_isOver_15 : decode cX12_isOver 15 = .ok (.invokestatic 327, 3) := by decide +kernel
theorem dX12_isOver_18 : decode cX12_isOver 18 = .ok (.ifCond .le 7, 3) := by decide +kernel
theorem dX12_isOver_21 : decode cX12_isOver 21 = .ok (.iconst 1, 1) := by decide +kernel
theorem dX12_isOver_22 : decode cX12_isOver 22 = .ok (.goto 4, 3) := by decide +kernel
theorem dX12_isOver_25 : decode cX12_isOver 25 = .ok (.iconst 0, 1) := by decide +kernel
theorem dX12_isOver_26 : decode cX12_isOver 26 = .ok (.iadd, 1) := by decide +kernel
theorem dX12_isOver_27 : decode cX12_isOver 27 = .ok (.istore_n 2, 1) := by decide +kernel
theorem dX12_isOver_28 : decode cX12_isOver 28 = .ok (.iinc 3 1, 3) := by decide +kernel
theorem dX12_isOver_31 : decode cX12_isOver 31 = .ok (.goto (-27), 3) := by decide +kernel
theorem dX12_isOver_34 : decode cX12_isOver 34 = .ok (.iload_n 2, 1) := by decide +kernel
theorem dX12_isOver_35 : decode cX12_isOver 35 = .ok (.iconst 2, 1) := by decide +kernel
theorem dX12_isOver_36 : decode cX12_isOver 36 = .ok (.if_icmp .ge 7, 3) := by decide +kernel
theorem dX12_isOver_39 : decode cX12_isOver 39 = .ok (.iconst 1, 1) := by decide +kernel
theorem dX12_isOver_40 : decode cX12_isOver 40 = .ok (.goto 4, 3) := by decide +kernel
theorem dX12_isOver_43 : decode cX12_isOver 43 = .ok (.iconst 0, 1) := by decide +kernel
theorem dX12_isOver_44 : decode cX12_isOver 44 = .ok (.ireturn, 1) := by decide +kernel
def X12_isOver_b44 (e : mm_E) (t0 : Int32) (m : mm_V) : Option (Int32 × mm_V) := mm_rz t0 m
theorem X12_isOver_b44_ok {K : mm_K} {nx : Option Nat} {e : mm_E} (hz : e.2.1 = K.2.2.2.2) {d : Nat} (hd : 1 ≤ d) {t0 : Int32} {a0 : Nat} (h0 : e.1 a0 = some (12, 75)) {m : mm_V} {r : (Int32 × mm_V)} (hr : X12_isOver_b44 e t0 m = some r) : mm_G K MX12_isOver d (mm_Fi e.1 nx r) 44 [none, none, none, none] [.int t0] (e.1, m) nx 0 0 := by
  obtain ⟨d, rfl⟩ : ∃ d', d = d' + 1 := ⟨d - 1, by omega⟩
  unfold X12_isOver_b44 at hr
  exact mb_zret dX12_isOver_44 rfl hr
def X12_isOver_b26 (e : mm_E) (k4 : Int32 → Int32 → mm_V → Option (Int32 × mm_V)) (a0 : Nat) (a1 : Nat) (i3 : Int32) (t0 : Int32) (t1 : Int32) (m : mm_V) : Option (Int32 × mm_V) := k4 (t0 + t1) (i3 + 1) m
theorem X12_isOver_b26_ok {K : mm_K} {nx : Option Nat} {e : mm_E} (hz : e.2.1 = K.2.2.2.2) {d : Nat} (hd : 1 ≤ d) {a0 : Nat} {a1 : Nat} {i3 : Int32} {t0 : Int32} {t1 : Int32} (h0 : e.1 a0 = some (12, 75)) {k4 : Int32 → Int32 → mm_V → Option (Int32 × mm_V)} (hk4 : ∀ (w2 : Int32) (w3 : Int32) (m : mm_V) (r : (Int32 × mm_V)), k4 w2 w3 m = some r → mm_G K MX12_isOver d (mm_Fi e.1 nx r) 4 [some (.ref a0), some (.ref a1), some (.int w2), some (.int w3)] [] (e.1, m) nx 0 0) {m : mm_V} {r : (Int32 × mm_V)} (hr : X12_isOver_b26 e k4 a0 a1 i3 t0 t1 m = some r) : mm_G K MX12_isOver d (mm_Fi e.1 nx r) 26 [some (.ref a0), some (.ref a1), none, some (.int i3)] [.int t1, .int t0] (e.1, m) nx 0 0 := by
  obtain ⟨d, rfl⟩ : ∃ d', d = d' + 1 := ⟨d - 1, by omega⟩
  unfold X12_isOver_b26 at hr
  refine mg_iadd (pc := 26) dX12_isOver_26 ?_
  refine ml_istore_n (pc := 27) dX12_isOver_27 rfl (Nat.le_of_ble_eq_true rfl) (mm_st1_s mm_st1_r) ?_
  refine ml_iinc (pc := 28) dX12_isOver_28 (mm_get_s (mm_get_s (mm_get_s mm_get_0))) (congrArg (fun z => i3 + z) kc_1) (Nat.le_of_ble_eq_true rfl) (mm_st1_s (mm_st1_s mm_st1_i)) ?_
  refine mg_goto (pc := 31) 4 dX12_isOver_31 rfl ?_
  exact mg_weak (mm_le_s (mm_le_s (mm_le_s (mm_le_s mm_le_0)))) (hk4 _ _ _ _ hr)
def X12_isOver_L4 (e : mm_E) (a0 : Nat) (a1 : Nat) : Nat → Int32 → Int32 → mm_V → Option (Int32 × mm_V)
  | 0, _, _, _ => none
  | n + 1, i2, i3, m => (mm_gi e.1 m 12 75 a0 1).bind fun x1 => if x1 ≤ i3 then (if (2 : Int32) ≤ i2 then (X12_isOver_b44 e  (0 : Int32) m) else (X12_isOver_b44 e  (1 : Int32) m)) else ((X12_size e a1 i3 m).bind fun r2 => if r2.1 ≤ 0 then (X12_isOver_b26 e (X12_isOver_L4 e a0 a1 n) a0 a1 i3 i2 (0 : Int32) r2.2) else (X12_isOver_b26 e (X12_isOver_L4 e a0 a1 n) a0 a1 i3 i2 (1 : Int32) r2.2))
theorem X12_isOver_L4_ok {K : mm_K} {nx : Option Nat} {e : mm_E} (hz : e.2.1 = K.2.2.2.2) {d : Nat} (hd : 1 ≤ d) {a0 : Nat} {a1 : Nat} (h0 : e.1 a0 = some (12, 75)) : ∀ (n : Nat) (i2 : Int32) (i3 : Int32) (m : mm_V) (r : (Int32 × mm_V)), X12_isOver_L4 e a0 a1 n i2 i3 m = some r → mm_G K MX12_isOver d (mm_Fi e.1 nx r) 4 [some (.ref a0), some (.ref a1), some (.int i2), some (.int i3)] [] (e.1, m) nx 0 0 := by
  obtain ⟨d, rfl⟩ : ∃ d', d = d' + 1 := ⟨d - 1, by omega⟩
  intro n
  induction n with
  | zero => intro i2 i3 m r hr; unfold X12_isOver_L4 at hr; cases hr
  | succ n ih =>
    intro i2 i3 m r hr
    unfold X12_isOver_L4 at hr
    refine ml_iload_n (pc := 4) dX12_isOver_4 rfl (mm_get_s (mm_get_s (mm_get_s mm_get_0))) ?_
    refine ml_aload_n (pc := 5) dX12_isOver_5 rfl mm_get_0 ?_
    refine mb_gi (pc := 6) dX12_isOver_6 fl_X12_7 hr (fun x1 hr => ?_)
    refine mb_icmp_ge (pc := 9) 34 dX12_isOver_9 rfl hr (fun hr => ?_) (fun hr => ?_)
    · refine ml_iload_n (pc := 34) dX12_isOver_34 rfl (mm_get_s (mm_get_s mm_get_0)) ?_
      refine mg_iconst (pc := 35) dX12_isOver_35 kc_2 ?_
      refine mb_icmp_ge (pc := 36) 43 dX12_isOver_36 rfl hr (fun hr => ?_) (fun hr => ?_)
      · refine mg_iconst (pc := 43) dX12_isOver_43 kc_0 ?_
        exact mg_weak (mm_le_n (mm_le_n (mm_le_n (mm_le_n mm_le_0)))) (X12_isOver_b44_ok hz hd h0 hr)
      · refine mg_iconst (pc := 39) dX12_isOver_39 kc_1 ?_
        refine mg_goto (pc := 40) 44 dX12_isOver_40 rfl ?_
        exact mg_weak (mm_le_n (mm_le_n (mm_le_n (mm_le_n mm_le_0)))) (X12_isOver_b44_ok hz hd h0 hr)
    · refine ml_iload_n (pc := 12) dX12_isOver_12 rfl (mm_get_s (mm_get_s mm_get_0)) ?_
      refine ml_aload_n (pc := 13) dX12_isOver_13 rfl (mm_get_s mm_get_0) ?_
      refine ml_iload_n (pc := 14) dX12_isOver_14 rfl (mm_get_s (mm_get_s (mm_get_s mm_get_0))) ?_
      refine mb_cSi (pc := 15) (As := [.ref a1, .int i3]) (rest := [.int i2]) dX12_isOver_15 cw_X12_327  hr (fun v hv => X12_size_ok hz (by omega)  hv) rfl (Nat.le_of_ble_eq_true rfl) (Nat.zero_le _) (Nat.zero_le _) (fun r2 hr => ?_)
      refine mb_if_le (pc := 18) 25 dX12_isOver_18 rfl hr (fun hr => ?_) (fun hr => ?_)
      · refine mg_iconst (pc := 25) dX12_isOver_25 kc_0 ?_
        exact mg_weak (mm_le_s (mm_le_s (mm_le_n (mm_le_s mm_le_0)))) (X12_isOver_b26_ok hz hd h0 ih hr)
      · refine mg_iconst (pc := 21) dX12_isOver_21 kc_1 ?_
        refine mg_goto (pc := 22) 26 dX12_isOver_22 rfl ?_
        exact mg_weak (mm_le_s (mm_le_s (mm_le_n (mm_le_s mm_le_0)))) (X12_isOver_b26_ok hz hd h0 ih hr)
def X12_isOver (e : mm_E) (a0 : Nat) (a1 : Nat) (m : mm_V) : Option (Int32 × mm_V) := X12_isOver_L4 e a0 a1 e.2.2 (0 : Int32) (0 : Int32) m
theorem X12_isOver_ok {K : mm_K} {nx : Option Nat} {e : mm_E} (hz : e.2.1 = K.2.2.2.2) {d : Nat} (hd : 1 ≤ d) {a0 : Nat} {a1 : Nat} (h0 : e.1 a0 = some (12, 75)) {m : mm_V} {r : (Int32 × mm_V)} (hr : X12_isOver e a0 a1 m = some r) : mm_Cn K MX12_isOver d (mm_Fi e.1 nx r) [.ref a0, .ref a1] (e.1, m) nx := by
  obtain ⟨d, rfl⟩ : ∃ d', d = d' + 1 := ⟨d - 1, by omega⟩
  refine mm_entry (by decide) (Nat.le_of_ble_eq_true rfl) rfl (fun hok => ?_)
  unfold X12_isOver at hr
  refine mg_weak (L' := [some (.ref a0), some (.ref a1), none, none]) (mm_le_s (mm_le_s (mm_le_e (mm_le_e mm_le_0)))) ?_
  refine mg_iconst (pc := 0) dX12_isOver_0 kc_0 ?_
  refine ml_istore_n (pc := 1) dX12_isOver_1 rfl (Nat.le_of_ble_eq_true rfl) (mm_st1_s mm_st1_r) ?_
  refine mg_iconst (pc := 2) dX12_isOver_2 kc_0 ?_
  refine ml_istore_n (pc := 3) dX12_isOver_3 rfl (Nat.le_of_ble_eq_true rfl) (mm_st1_s (mm_st1_s mm_st1_i)) ?_
  exact mg_weak (mm_le_s (mm_le_s (mm_le_s (mm_le_s mm_le_0)))) (X12_isOver_L4_ok hz hd h0 _ _ _ _ _ hr)
theorem dX12_nextOf_0 : decode cX12_nextOf 0 = .ok (.iload_n 2, 1) := by decide +kernel
theorem dX12_nextOf_1 : decode cX12_nextOf 1 = .ok (.istore_n 3, 1) := by decide +kernel
theorem dX12_nextOf_2 : decode cX12_nextOf 2 = .ok (.iconst 0, 1) := by decide +kernel
theorem dX12_nextOf_3 : decode cX12_nextOf 3 = .ok (.istore 4, 2) := by decide +kernel
theorem dX12_nextOf_5 : decode cX12_nextOf 5 = .ok (.iload 4, 2) := by decide +kernel
theorem dX12_nextOf_7 : decode cX12_nextOf 7 = .ok (.aload_n 0, 1) := by decide +kernel
theorem dX12_nextOf_8 : decode cX12_nextOf 8 = .ok (.getfield 7, 3) := by decide +kernel
theorem dX12_nextOf_11 : decode cX12_nextOf 11 = .ok (.if_icmp .ge 28, 3) := by decide +kernel
theorem dX12_nextOf_14 : decode cX12_nextOf 14 = .ok (.iload_n 3, 1) := by decide +kernel
theorem dX12_nextOf_15 : decode cX12_nextOf 15 = .ok (.iconst 1, 1) := by decide +kernel
theorem dX12_nextOf_16 : decode cX12_nextOf 16 = .ok (.iadd, 1) := by decide +kernel
theorem dX12_nextOf_17 : decode cX12_nextOf 17 = .ok (.aload_n 0, 1) := by decide +kernel
theorem dX12_nextOf_18 : decode cX12_nextOf 18 = .ok (.getfield 7, 3) := by decide +kernel
theorem dX12_nextOf_21 : decode cX12_nextOf 21 = .ok (.irem, 1) := by decide +kernel
theorem dX12_nextOf_22 : decode cX12_nextOf 22 = .ok (.istore_n 3, 1) := by decide +kernel
theorem dX12_nextOf_23 : decode cX12_nextOf 23 = .ok (.aload_n 1, 1) := by decide +kernel
theorem dX12_nextOf_24 : decode cX12_nextOf 24 = .ok (.iload_n 3, 1) := by decide +kernel
theorem dX12_nextOf_25 : decode cX12_nextOf 25 = .ok (.invokestatic 327, 3) := by decide +kernel
theorem dX12_nextOf_28 : decode cX12_nextOf 28 = .ok (.ifCond .le 5, 3) := by decide +kernel
theorem dX12_nextOf_31 : decode cX12_nextOf 31 = .ok (.iload_n 3, 1) := by decide +kernel
theorem dX12_nextOf_32 : decode cX12_nextOf 32 = .ok (.ireturn, 1) := by decide +kernel
theorem dX12_nextOf_33 : decode cX12_nextOf 33 = .ok (.iinc 4 1, 3) := by decide +kernel
theorem dX12_nextOf_36 : decode cX12_nextOf 36 = .ok (.goto (-31), 3) := by decide +kernel
theorem dX12_nextOf_39 : decode cX12_nextOf 39 = .ok (.iconst (-1), 1) := by decide +kernel
theorem dX12_nextOf_40 : decode cX12_nextOf 40 = .ok (.ireturn, 1) := by decide +kernel
def X12_nextOf_L5 (e : mm_E) (a0 : Nat) (a1 : Nat) : Nat → Int32 → Int32 → mm_V → Option (Int32 × mm_V)
  | 0, _, _, _ => none
  | n + 1, i3, i4, m => (mm_gi e.1 m 12 75 a0 1).bind fun x1 => if x1 ≤ i4 then (some ((-1 : Int32), m)) else ((mm_gi e.1 m 12 75 a0 1).bind fun x2 => if x2 = 0 then none else (X12_size e a1 ((i3 + (1 : Int32)) - (i3 + (1 : Int32)) / x2 * x2) m).bind fun r3 => if r3.1 ≤ 0 then (X12_nextOf_L5 e a0 a1 n ((i3 + (1 : Int32)) - (i3 + (1 : Int32)) / x2 * x2) (i4 + 1) r3.2) else (some (((i3 + (1 : Int32)) - (i3 + (1 : Int32)) / x2 * x2), r3.2)))
theorem X12_nextOf_L5_ok {K : mm_K} {nx : Option Nat} {e : mm_E} (hz : e.2.1 = K.2.2.2.2) {d : Nat} (hd : 1 ≤ d) {a0 : Nat} {a1 : Nat} (h0 : e.1 a0 = some (12, 75)) : ∀ (n : Nat) (i3 : Int32) (i4 : Int32) (m : mm_V) (r : (Int32 × mm_V)), X12_nextOf_L5 e a0 a1 n i3 i4 m = some r → mm_G K MX12_nextOf d (mm_Fi e.1 nx r) 5 [some (.ref a0), some (.ref a1), none, some (.int i3), some (.int i4)] [] (e.1, m) nx 0 0 := by
  obtain ⟨d, rfl⟩ : ∃ d', d = d' + 1 := ⟨d - 1, by omega⟩
  intro n
  induction n with
  | zero => intro i3 i4 m r hr; unfold X12_nextOf_L5 at hr; cases hr
  | succ n ih =>
    intro i3 i4 m r hr
    unfold X12_nextOf_L5 at hr
    refine ml_iload (pc := 5) dX12_nextOf_5 (mm_get_s (mm_get_s (mm_get_s (mm_get_s mm_get_0)))) ?_
    refine ml_aload_n (pc := 7) dX12_nextOf_7 rfl mm_get_0 ?_
    refine mb_gi (pc := 8) dX12_nextOf_8 fl_X12_7 hr (fun x1 hr => ?_)
    refine mb_icmp_ge (pc := 11) 39 dX12_nextOf_11 rfl hr (fun hr => ?_) (fun hr => ?_)
    · refine mg_iconst (pc := 39) dX12_nextOf_39 kc_m1 ?_
      exact mb_iret dX12_nextOf_40 rfl hr
    · refine ml_iload_n (pc := 14) dX12_nextOf_14 rfl (mm_get_s (mm_get_s (mm_get_s mm_get_0))) ?_
      refine mg_iconst (pc := 15) dX12_nextOf_15 kc_1 ?_
      refine mg_iadd (pc := 16) dX12_nextOf_16 ?_
      refine ml_aload_n (pc := 17) dX12_nextOf_17 rfl mm_get_0 ?_
      refine mb_gi (pc := 18) dX12_nextOf_18 fl_X12_7 hr (fun x2 hr => ?_)
      refine mb_irem (pc := 21) dX12_nextOf_21 hr (fun hr => ?_)
      refine ml_istore_n (pc := 22) dX12_nextOf_22 rfl (Nat.le_of_ble_eq_true rfl) (mm_st1_s (mm_st1_s mm_st1_n)) ?_
      refine ml_aload_n (pc := 23) dX12_nextOf_23 rfl (mm_get_s mm_get_0) ?_
      refine ml_iload_n (pc := 24) dX12_nextOf_24 rfl (mm_get_s (mm_get_s (mm_get_s mm_get_0))) ?_
      refine mb_cSi (pc := 25) (As := [.ref a1, .int ((i3 + (1 : Int32)) - (i3 + (1 : Int32)) / x2 * x2)]) (rest := []) dX12_nextOf_25 cw_X12_327  hr (fun v hv => X12_size_ok hz (by omega)  hv) rfl (Nat.le_of_ble_eq_true rfl) (Nat.zero_le _) (Nat.zero_le _) (fun r3 hr => ?_)
      refine mb_if_le (pc := 28) 33 dX12_nextOf_28 rfl hr (fun hr => ?_) (fun hr => ?_)
      · refine ml_iinc (pc := 33) dX12_nextOf_33 (mm_get_s (mm_get_s (mm_get_s (mm_get_s mm_get_0)))) (congrArg (fun z => i4 + z) kc_1) (Nat.le_of_ble_eq_true rfl) (mm_st1_s (mm_st1_s (mm_st1_s mm_st1_i))) ?_
        refine mg_goto (pc := 36) 5 dX12_nextOf_36 rfl ?_
        exact mg_weak (mm_le_s (mm_le_s (mm_le_n (mm_le_s (mm_le_s mm_le_0))))) (ih _ _ _ _ hr)
      · refine ml_iload_n (pc := 31) dX12_nextOf_31 rfl (mm_get_s (mm_get_s (mm_get_s mm_get_0))) ?_
        exact mb_iret dX12_nextOf_32 rfl hr
def X12_nextOf (e : mm_E) (a0 : Nat) (a1 : Nat) (i2 : Int32) (m : mm_V) : Option (Int32 × mm_V) := X12_nextOf_L5 e a0 a1 e.2.2 i2 (0 : Int32) m
theorem X12_nextOf_ok {K : mm_K} {nx : Option Nat} {e : mm_E} (hz : e.2.1 = K.2.2.2.2) {d : Nat} (hd : 1 ≤ d) {a0 : Nat} {a1 : Nat} {i2 : Int32} (h0 : e.1 a0 = some (12, 75)) {m : mm_V} {r : (Int32 × mm_V)} (hr : X12_nextOf e a0 a1 i2 m = some r) : mm_Cn K MX12_nextOf d (mm_Fi e.1 nx r) [.ref a0, .ref a1, .int i2] (e.1, m) nx := by
  obtain ⟨d, rfl⟩ : ∃ d', d = d' + 1 := ⟨d - 1, by omega⟩
  refine mm_entry (by decide) (Nat.le_of_ble_eq_true rfl) rfl (fun hok => ?_)
  unfold X12_nextOf at hr
  refine mg_weak (L' := [some (.ref a0), some (.ref a1), some (.int i2), none, none]) (mm_le_s (mm_le_s (mm_le_s (mm_le_e (mm_le_e mm_le_0))))) ?_
  refine ml_iload_n (pc := 0) dX12_nextOf_0 rfl (mm_get_s (mm_get_s mm_get_0)) ?_
  refine ml_istore_n (pc := 1) dX12_nextOf_1 rfl (Nat.le_of_ble_eq_true rfl) (mm_st1_s (mm_st1_s mm_st1_i)) ?_
  refine mg_iconst (pc := 2) dX12_nextOf_2 kc_0 ?_
  refine ml_istore (pc := 3) dX12_nextOf_3 (Nat.le_of_ble_eq_true rfl) (mm_st1_s (mm_st1_s (mm_st1_s mm_st1_i))) ?_
  exact mg_weak (mm_le_s (mm_le_s (mm_le_n (mm_le_s (mm_le_s mm_le_0))))) (X12_nextOf_L5_ok hz hd h0 _ _ _ _ _ hr)
theorem dX12_opens_0 : decode cX12_opens 0 = .ok (.aload_n 1, 1) := by decide +kernel
theorem dX12_opens_1 : decode cX12_opens 1 = .ok (.iconst 0, 1) := by decide +kernel
theorem dX12_opens_2 : decode cX12_opens 2 = .ok (.aload_n 0, 1) := by decide +kernel
theorem dX12_opens_3 : decode cX12_opens 3 = .ok (.aload_n 1, 1) := by decide +kernel
theorem dX12_opens_4 : decode cX12_opens 4 = .ok (.invokevirtual 338, 3) := by decide +kernel
theorem dX12_opens_7 : decode cX12_opens 7 = .ok (.ifCond .eq 7, 3) := by decide +kernel
theorem dX12_opens_10 : decode cX12_opens 10 = .ok (.iconst (-1), 1) := by decide +kernel
theorem dX12_opens_11 : decode cX12_opens 11 = .ok (.goto 21, 3) := by decide +kernel
theorem dX12_opens_14 : decode cX12_opens 14 = .ok (.aload_n 1, 1) := by decide +kernel
theorem dX12_opens_15 : decode cX12_opens 15 = .ok (.iconst 0, 1) := by decide +kernel
theorem dX12_opens_16 : decode cX12_opens 16 = .ok (.invokestatic 327, 3) := by decide +kernel
theorem dX12_opens_19 : decode cX12_opens 19 = .ok (.ifCond .le 7, 3) := by decide +kernel
theorem dX12_opens_22 : decode cX12_opens 22 = .ok (.iconst 0, 1) := by decide +kernel
theorem dX12_opens_23 : decode cX12_opens 23 = .ok (.goto 9, 3) := by decide +kernel
theorem dX12_opens_26 : decode cX12_opens 26 = .ok (.aload_n 0, 1) := by decide +kernel
theorem dX12_opens_27 : decode cX12_opens 27 = .ok (.aload_n 1, 1) := by decide +kernel
theorem dX12_opens_28 : decode cX12_opens 28 = .ok (.iconst 0, 1) := by decide +kernel
theorem dX12_opens_29 : decode cX12_opens 29 = .ok (.invokevirtual 342, 3) := by decide +kernel
theorem dX12_opens_32 : decode cX12_opens 32 = .ok (.iastore, 1) := by decide +kernel
theorem dX12_opens_33 : decode cX12_opens 33 = .ok (.return_, 1) := by decide +kernel
def X12_opens_b32 (e : mm_E) (t0 : Nat) (t1 : Int32) (t2 : Int32) (m : mm_V) : Option mm_V := (mm_si e.1 m t0 t1 t2).bind fun m1 => some m1
theorem X12_opens_b32_ok {K : mm_K} {nx : Option Nat} {e : mm_E} (hz : e.2.1 = K.2.2.2.2) {d : Nat} (hd : 2 ≤ d) {t0 : Nat} {t1 : Int32} {t2 : Int32} {a0 : Nat} (h0 : e.1 a0 = some (12, 75)) {m : mm_V} {r : mm_V} (hr : X12_opens_b32 e t0 t1 t2 m = some r) : mm_G K MX12_opens d (mm_Fv e.1 nx r) 32 [none, none] [.int t2, .int t1, .ref t0] (e.1, m) nx 0 0 := by
  obtain ⟨d, rfl⟩ : ∃ d', d = d' + 1 := ⟨d - 1, by omega⟩
  unfold X12_opens_b32 at hr
  refine mb_si (pc := 32) dX12_opens_32 hr (fun m1 hr => ?_)
  exact mb_vret dX12_opens_33 rfl hr
def X12_opens (e : mm_E) (a0 : Nat) (a1 : Nat) (m : mm_V) : Option mm_V := (X12_isOver e a0 a1 m).bind fun r1 => if r1.1 = 0 then ((X12_size e a1 (0 : Int32) r1.2).bind fun r2 => if r2.1 ≤ 0 then ((X12_nextOf e a0 a1 (0 : Int32) r2.2).bind fun r3 => X12_opens_b32 e  a1 (0 : Int32) r3.1 r3.2) else (X12_opens_b32 e  a1 (0 : Int32) (0 : Int32) r2.2)) else (X12_opens_b32 e  a1 (0 : Int32) (-1 : Int32) r1.2)
theorem X12_opens_ok {K : mm_K} {nx : Option Nat} {e : mm_E} (hz : e.2.1 = K.2.2.2.2) {d : Nat} (hd : 2 ≤ d) {a0 : Nat} {a1 : Nat} (h0 : e.1 a0 = some (12, 75)) {m : mm_V} {r : mm_V} (hr : X12_opens e a0 a1 m = some r) : mm_Cn K MX12_opens d (mm_Fv e.1 nx r) [.ref a0, .ref a1] (e.1, m) nx := by
  obtain ⟨d, rfl⟩ : ∃ d', d = d' + 1 := ⟨d - 1, by omega⟩
  refine mm_entry (by decide) (Nat.le_of_ble_eq_true rfl) rfl (fun hok => ?_)
  unfold X12_opens at hr
  refine mg_weak (L' := [some (.ref a0), some (.ref a1)]) (mm_le_s (mm_le_s mm_le_0)) ?_
  refine ml_aload_n (pc := 0) dX12_opens_0 rfl (mm_get_s mm_get_0) ?_
  refine mg_iconst (pc := 1) dX12_opens_1 kc_0 ?_
  refine ml_aload_n (pc := 2) dX12_opens_2 rfl mm_get_0 ?_
  refine ml_aload_n (pc := 3) dX12_opens_3 rfl (mm_get_s mm_get_0) ?_
  refine mb_cVi (pc := 4) (As := [.ref a1]) (rest := [.int (0 : Int32), .ref a1]) dX12_opens_4 cw_X12_338 h0 hr (fun v hv => X12_isOver_ok hz (by omega) h0 hv) rfl (Nat.le_of_ble_eq_true rfl) (Nat.zero_le _) (Nat.zero_le _) (fun r1 hr => ?_)
  refine mb_if_eq (pc := 7) 14 dX12_opens_7 rfl hr (fun hr => ?_) (fun hr => ?_)
  · refine ml_aload_n (pc := 14) dX12_opens_14 rfl (mm_get_s mm_get_0) ?_
    refine mg_iconst (pc := 15) dX12_opens_15 kc_0 ?_
    refine mb_cSi (pc := 16) (As := [.ref a1, .int (0 : Int32)]) (rest := [.int (0 : Int32), .ref a1]) dX12_opens_16 cw_X12_327  hr (fun v hv => X12_size_ok hz (by omega)  hv) rfl (Nat.le_of_ble_eq_true rfl) (Nat.zero_le _) (Nat.zero_le _) (fun r2 hr => ?_)
    refine mb_if_le (pc := 19) 26 dX12_opens_19 rfl hr (fun hr => ?_) (fun hr => ?_)
    · refine ml_aload_n (pc := 26) dX12_opens_26 rfl mm_get_0 ?_
      refine ml_aload_n (pc := 27) dX12_opens_27 rfl (mm_get_s mm_get_0) ?_
      refine mg_iconst (pc := 28) dX12_opens_28 kc_0 ?_
      refine mb_cVi (pc := 29) (As := [.ref a1, .int (0 : Int32)]) (rest := [.int (0 : Int32), .ref a1]) dX12_opens_29 cw_X12_342 h0 hr (fun v hv => X12_nextOf_ok hz (by omega) h0 hv) rfl (Nat.le_of_ble_eq_true rfl) (Nat.zero_le _) (Nat.zero_le _) (fun r3 hr => ?_)
      exact mg_weak (mm_le_n (mm_le_n mm_le_0)) (X12_opens_b32_ok hz hd h0 hr)
    · refine mg_iconst (pc := 22) dX12_opens_22 kc_0 ?_
      refine mg_goto (pc := 23) 32 dX12_opens_23 rfl ?_
      exact mg_weak (mm_le_n (mm_le_n mm_le_0)) (X12_opens_b32_ok hz hd h0 hr)
  · refine mg_iconst (pc := 10) dX12_opens_10 kc_m1 ?_
    refine mg_goto (pc := 11) 32 dX12_opens_11 rfl ?_
    exact mg_weak (mm_le_n (mm_le_n mm_le_0)) (X12_opens_b32_ok hz hd h0 hr)
theorem dX12_tells_0 : decode cX12_tells 0 = .ok (.aload_n 0, 1) := by decide +kernel
theorem dX12_tells_1 : decode cX12_tells 1 = .ok (.aload_n 1, 1) := by decide +kernel
theorem dX12_tells_2 : decode cX12_tells 2 = .ok (.invokevirtual 345, 3) := by decide +kernel
theorem dX12_tells_5 : decode cX12_tells 5 = .ok (.iconst 0, 1) := by decide +kernel
theorem dX12_tells_6 : decode cX12_tells 6 = .ok (.istore_n 2, 1) := by decide +kernel
theorem dX12_tells_7 : decode cX12_tells 7 = .ok (.iload_n 2, 1) := by decide +kernel
theorem dX12_tells_8 : decode cX12_tells 8 = .ok (.aload_n 0, 1) := by decide +kernel
theorem dX12_tells_9 : decode cX12_tells 9 = .ok (.getfield 7, 3) := by decide +kernel
theorem dX12_tells_12 : decode cX12_tells 12 = .ok (.if_icmp .ge 49, 3) := by decide +kernel
theorem dX12_tells_15 : decode cX12_tells 15 = .ok (.iconst 0, 1) := by decide +kernel
theorem dX12_tells_16 : decode cX12_tells 16 = .ok (.istore_n 3, 1) := by decide +kernel
theorem dX12_tells_17 : decode cX12_tells 17 = .ok (.iload_n 3, 1) := by decide +kernel
theorem dX12_tells_18 : decode cX12_tells 18 = .ok (.aload_n 0, 1) := by decide +kernel
theorem dX12_tells_19 : decode cX12_tells 19 = .ok (.getfield 41, 3) := by decide +kernel
theorem dX12_tells_22 : decode cX12_tells 22 = .ok (.bipush 20, 2) := by decide +kernel
theorem dX12_tells_24 : decode cX12_tells 24 = .ok (.iload_n 2, 1) := by decide +kernel
theorem dX12_tells_25 : decode cX12_tells 25 = .ok (.imul, 1) := by decide +kernel
theorem dX12_tells_26 : decode cX12_tells 26 = .ok (.iaload, 1) := by decide +kernel
theorem dX12_tells_27 : decode cX12_tells 27 = .ok (.if_icmp .ge 28, 3) := by decide +kernel
theorem dX12_tells_30 : decode cX12_tells 30 = .ok (.aload_n 1, 1) := by decide +kernel
theorem dX12_tells_31 : decode cX12_tells 31 = .ok (.iload_n 2, 1) := by decide +kernel
theorem dX12_tells_32 : decode cX12_tells 32 = .ok (.iload_n 3, 1) := by decide +kernel
theorem dX12_tells_33 : decode cX12_tells 33 = .ok (.aload_n 0, 1) := by decide +kernel
theorem dX12_tells_34 : decode cX12_tells 34 = .ok (.getfield 41, 3) := by decide +kernel
theorem dX12_tells_37 : decode cX12_tells 37 = .ok (.bipush 20, 2) := by decide +kernel
theorem dX12_tells_39 : decode cX12_tells 39 = .ok (.iload_n 2, 1) := by decide +kernel
theorem dX12_tells_40 : decode cX12_tells 40 = .ok (.imul, 1) := by decide +kernel
theorem dX12_tells_41 : decode cX12_tells 41 = .ok (.iload_n 3, 1) := by decide +kernel
theorem dX12_tells_42 : decode cX12_tells 42 = .ok (.iadd, 1) := by decide +kernel
theorem dX12_tells_43 : decode cX12_tells 43 = .ok (.iconst 1, 1) := by decide +kernel
theorem dX12_tells_44 : decode cX12_tells 44 = .ok (.iadd, 1) := by decide +kernel
theorem dX12_tells_45 : decode cX12_tells 45 = .ok (.iaload, 1) := by decide +kernel
theorem dX12_tells_46 : decode cX12_tells 46 = .ok (.invokestatic 348, 3) := by decide +kernel
theorem dX12_tells_49 : decode cX12_tells 49 = .ok (.iinc 3 1, 3) := by decide +kernel
theorem dX12_tells_52 : decode cX12_tells 52 = .ok (.goto (-35), 3) := by decide +kernel
theorem dX12_tells_55 : decode cX12_tells 55 = .ok (.iinc 2 1, 3) := by decide +kernel
theorem dX12_tells_58 : decode cX12_tells 58 = .ok (.goto (-51), 3) := by decide +kernel
theorem dX12_tells_61 : decode cX12_tells 61 = .ok (.aload_n 0, 1) := by decide +kernel
theorem dX12_tells_62 : decode cX12_tells 62 = .ok (.aload_n 1, 1) := by decide +kernel
theorem dX12_tells_63 : decode cX12_tells 63 = .ok (.invokevirtual 352, 3) := by decide +kernel
theorem dX12_tells_66 : decode cX12_tells 66 = .ok (.return_, 1) := by decide +kernel
def X12_tells_L17 (e : mm_E) (k7 : Int32 → mm_V → Option mm_V) (a0 : Nat) (a1 : Nat) (i2 : Int32) : Nat → Int32 → mm_V → Option mm_V
  | 0, _, _ => none
  | n + 1, i3, m => (mm_gr e.1 m 12 75 a0 33).bind fun c1 => (mm_ai e.1 m 20 c1 ((20 : Int32) * i2)).bind fun x2 => if x2 ≤ i3 then (k7 (i2 + 1) m) else ((mm_gr e.1 m 12 75 a0 33).bind fun c3 => (mm_ai e.1 m 20 c3 ((((20 : Int32) * i2) + i3) + (1 : Int32))).bind fun x4 => (X12_inserts e a1 i2 i3 x4 m).bind fun r5 => X12_tells_L17 e k7 a0 a1 i2 n (i3 + 1) r5)
theorem X12_tells_L17_ok {K : mm_K} {nx : Option Nat} {e : mm_E} (hz : e.2.1 = K.2.2.2.2) {d : Nat} (hd : 3 ≤ d) {a0 : Nat} {a1 : Nat} {i2 : Int32} (h0 : e.1 a0 = some (12, 75)) {k7 : Int32 → mm_V → Option mm_V} (hk7 : ∀ (w2 : Int32) (m : mm_V) (r : mm_V), k7 w2 m = some r → mm_G K MX12_tells d (mm_Fv e.1 nx r) 7 [some (.ref a0), some (.ref a1), some (.int w2), none] [] (e.1, m) nx 0 0) : ∀ (n : Nat) (i3 : Int32) (m : mm_V) (r : mm_V), X12_tells_L17 e k7 a0 a1 i2 n i3 m = some r → mm_G K MX12_tells d (mm_Fv e.1 nx r) 17 [some (.ref a0), some (.ref a1), some (.int i2), some (.int i3)] [] (e.1, m) nx 0 0 := by
  obtain ⟨d, rfl⟩ : ∃ d', d = d' + 1 := ⟨d - 1, by omega⟩
  intro n
  induction n with
  | zero => intro i3 m r hr; unfold X12_tells_L17 at hr; cases hr
  | succ n ih =>
    intro i3 m r hr
    unfold X12_tells_L17 at hr
    refine ml_iload_n (pc := 17) dX12_tells_17 rfl (mm_get_s (mm_get_s (mm_get_s mm_get_0))) ?_
    refine ml_aload_n (pc := 18) dX12_tells_18 rfl mm_get_0 ?_
    refine mb_gr (pc := 19) dX12_tells_19 fl_X12_41 hr (fun c1 hr => ?_)
    refine mg_bipush (pc := 22) dX12_tells_22 kb_20 ?_
    refine ml_iload_n (pc := 24) dX12_tells_24 rfl (mm_get_s (mm_get_s mm_get_0)) ?_
    refine mg_imul (pc := 25) dX12_tells_25 ?_
    refine mb_ai (pc := 26) dX12_tells_26 hr (fun x2 hr => ?_)
    refine mb_icmp_ge (pc := 27) 55 dX12_tells_27 rfl hr (fun hr => ?_) (fun hr => ?_)
    · refine ml_iinc (pc := 55) dX12_tells_55 (mm_get_s (mm_get_s mm_get_0)) (congrArg (fun z => i2 + z) kc_1) (Nat.le_of_ble_eq_true rfl) (mm_st1_s mm_st1_r) ?_
      refine mg_goto (pc := 58) 7 dX12_tells_58 rfl ?_
      exact mg_weak (mm_le_s (mm_le_s (mm_le_s (mm_le_n mm_le_0)))) (hk7 _ _ _ hr)
    · refine ml_aload_n (pc := 30) dX12_tells_30 rfl (mm_get_s mm_get_0) ?_
      refine ml_iload_n (pc := 31) dX12_tells_31 rfl (mm_get_s (mm_get_s mm_get_0)) ?_
      refine ml_iload_n (pc := 32) dX12_tells_32 rfl (mm_get_s (mm_get_s (mm_get_s mm_get_0))) ?_
      refine ml_aload_n (pc := 33) dX12_tells_33 rfl mm_get_0 ?_
      refine mb_gr (pc := 34) dX12_tells_34 fl_X12_41 hr (fun c3 hr => ?_)
      refine mg_bipush (pc := 37) dX12_tells_37 kb_20 ?_
      refine ml_iload_n (pc := 39) dX12_tells_39 rfl (mm_get_s (mm_get_s mm_get_0)) ?_
      refine mg_imul (pc := 40) dX12_tells_40 ?_
      refine ml_iload_n (pc := 41) dX12_tells_41 rfl (mm_get_s (mm_get_s (mm_get_s mm_get_0))) ?_
      refine mg_iadd (pc := 42) dX12_tells_42 ?_
      refine mg_iconst (pc := 43) dX12_tells_43 kc_1 ?_
      refine mg_iadd (pc := 44) dX12_tells_44 ?_
      refine mb_ai (pc := 45) dX12_tells_45 hr (fun x4 hr => ?_)
      refine mb_cSv (pc := 46) (As := [.ref a1, .int i2, .int i3, .int x4]) (rest := []) dX12_tells_46 cw_X12_348  hr (fun v hv => X12_inserts_ok hz (by omega)  hv) rfl (Nat.le_of_ble_eq_true rfl) (Nat.zero_le _) (Nat.zero_le _) (fun r5 hr => ?_)
      refine ml_iinc (pc := 49) dX12_tells_49 (mm_get_s (mm_get_s (mm_get_s mm_get_0))) (congrArg (fun z => i3 + z) kc_1) (Nat.le_of_ble_eq_true rfl) (mm_st1_s (mm_st1_s mm_st1_i)) ?_
      refine mg_goto (pc := 52) 17 dX12_tells_52 rfl ?_
      exact mg_weak (mm_le_s (mm_le_s (mm_le_s (mm_le_s mm_le_0)))) (ih _ _ _ hr)
def X12_tells_L7 (e : mm_E) (a0 : Nat) (a1 : Nat) : Nat → Int32 → mm_V → Option mm_V
  | 0, _, _ => none
  | n + 1, i2, m => (mm_gi e.1 m 12 75 a0 1).bind fun x1 => if x1 ≤ i2 then ((X12_opens e a0 a1 m).bind fun r2 => some r2) else (X12_tells_L17 e (X12_tells_L7 e a0 a1 n) a0 a1 i2 e.2.2 (0 : Int32) m)
theorem X12_tells_L7_ok {K : mm_K} {nx : Option Nat} {e : mm_E} (hz : e.2.1 = K.2.2.2.2) {d : Nat} (hd : 3 ≤ d) {a0 : Nat} {a1 : Nat} (h0 : e.1 a0 = some (12, 75)) : ∀ (n : Nat) (i2 : Int32) (m : mm_V) (r : mm_V), X12_tells_L7 e a0 a1 n i2 m = some r → mm_G K MX12_tells d (mm_Fv e.1 nx r) 7 [some (.ref a0), some (.ref a1), some (.int i2), none] [] (e.1, m) nx 0 0 := by
  obtain ⟨d, rfl⟩ : ∃ d', d = d' + 1 := ⟨d - 1, by omega⟩
  intro n
  induction n with
  | zero => intro i2 m r hr; unfold X12_tells_L7 at hr; cases hr
  | succ n ih =>
    intro i2 m r hr
    unfold X12_tells_L7 at hr
    refine ml_iload_n (pc := 7) dX12_tells_7 rfl (mm_get_s (mm_get_s mm_get_0)) ?_
    refine ml_aload_n (pc := 8) dX12_tells_8 rfl mm_get_0 ?_
    refine mb_gi (pc := 9) dX12_tells_9 fl_X12_7 hr (fun x1 hr => ?_)
    refine mb_icmp_ge (pc := 12) 61 dX12_tells_12 rfl hr (fun hr => ?_) (fun hr => ?_)
    · refine ml_aload_n (pc := 61) dX12_tells_61 rfl mm_get_0 ?_
      refine ml_aload_n (pc := 62) dX12_tells_62 rfl (mm_get_s mm_get_0) ?_
      refine mb_cVv (pc := 63) (As := [.ref a1]) (rest := []) dX12_tells_63 cw_X12_352 h0 hr (fun v hv => X12_opens_ok hz (by omega) h0 hv) rfl (Nat.le_of_ble_eq_true rfl) (Nat.zero_le _) (Nat.zero_le _) (fun r2 hr => ?_)
      exact mb_vret dX12_tells_66 rfl hr
    · refine mg_iconst (pc := 15) dX12_tells_15 kc_0 ?_
      refine ml_istore_n (pc := 16) dX12_tells_16 rfl (Nat.le_of_ble_eq_true rfl) (mm_st1_s (mm_st1_s mm_st1_i)) ?_
      exact mg_weak (mm_le_s (mm_le_s (mm_le_s (mm_le_s mm_le_0)))) (X12_tells_L17_ok hz hd h0 ih _ _ _ _ hr)
def X12_tells (e : mm_E) (a0 : Nat) (a1 : Nat) (m : mm_V) : Option mm_V := (X12_clears e a0 a1 m).bind fun r1 => X12_tells_L7 e a0 a1 e.2.2 (0 : Int32) r1
theorem X12_tells_ok {K : mm_K} {nx : Option Nat} {e : mm_E} (hz : e.2.1 = K.2.2.2.2) {d : Nat} (hd : 3 ≤ d) {a0 : Nat} {a1 : Nat} (h0 : e.1 a0 = some (12, 75)) {m : mm_V} {r : mm_V} (hr : X12_tells e a0 a1 m = some r) : mm_Cn K MX12_tells d (mm_Fv e.1 nx r) [.ref a0, .ref a1] (e.1, m) nx := by
  obtain ⟨d, rfl⟩ : ∃ d', d = d' + 1 := ⟨d - 1, by omega⟩
  refine mm_entry (by decide) (Nat.le_of_ble_eq_true rfl) rfl (fun hok => ?_)
  unfold X12_tells at hr
  refine mg_weak (L' := [some (.ref a0), some (.ref a1), none, none]) (mm_le_s (mm_le_s (mm_le_e (mm_le_e mm_le_0)))) ?_
  refine ml_aload_n (pc := 0) dX12_tells_0 rfl mm_get_0 ?_
  refine ml_aload_n (pc := 1) dX12_tells_1 rfl (mm_get_s mm_get_0) ?_
  refine mb_cVv (pc := 2) (As := [.ref a1]) (rest := []) dX12_tells_2 cw_X12_345 h0 hr (fun v hv => X12_clears_ok hz (by omega) h0 hv) rfl (Nat.le_of_ble_eq_true rfl) (Nat.zero_le _) (Nat.zero_le _) (fun r1 hr => ?_)
  refine mg_iconst (pc := 5) dX12_tells_5 kc_0 ?_
  refine ml_istore_n (pc := 6) dX12_tells_6 rfl (Nat.le_of_ble_eq_true rfl) (mm_st1_s mm_st1_r) ?_
  exact mg_weak (mm_le_s (mm_le_s (mm_le_s (mm_le_n mm_le_0)))) (X12_tells_L7_ok hz hd h0 _ _ _ _ hr)
theorem dX12_draws_0 : decode cX12_draws 0 = .ok (.aload_n 0, 1) := by decide +kernel
theorem dX12_draws_1 : decode cX12_draws 1 = .ok (.aload_n 0, 1) := by decide +kernel
theorem dX12_draws_2 : decode cX12_draws 2 = .ok (.getfield 355, 3) := by decide +kernel
theorem dX12_draws_5 : decode cX12_draws 5 = .ok (.ldc_w 358, 3) := by decide +kernel
theorem dX12_draws_8 : decode cX12_draws 8 = .ok (.imul, 1) := by decide +kernel
theorem dX12_draws_9 : decode cX12_draws 9 = .ok (.sipush 12345, 3) := by decide +kernel
theorem dX12_draws_12 : decode cX12_draws 12 = .ok (.iadd, 1) := by decide +kernel
theorem dX12_draws_13 : decode cX12_draws 13 = .ok (.putfield 355, 3) := by decide +kernel
theorem dX12_draws_16 : decode cX12_draws 16 = .ok (.aload_n 0, 1) := by decide +kernel
theorem dX12_draws_17 : decode cX12_draws 17 = .ok (.getfield 355, 3) := by decide +kernel
theorem dX12_draws_20 : decode cX12_draws 20 = .ok (.bipush 16, 2) := by decide +kernel
theorem dX12_draws_22 : decode cX12_draws 22 = .ok (.ishr, 1) := by decide +kernel
theorem dX12_draws_23 : decode cX12_draws 23 = .ok (.sipush 32767, 3) := by decide +kernel
theorem dX12_draws_26 : decode cX12_draws 26 = .ok (.iand, 1) := by decide +kernel
theorem dX12_draws_27 : decode cX12_draws 27 = .ok (.iload_n 1, 1) := by decide +kernel
theorem dX12_draws_28 : decode cX12_draws 28 = .ok (.irem, 1) := by decide +kernel
theorem dX12_draws_29 : decode cX12_draws 29 = .ok (.ireturn, 1) := by decide +kernel
def X12_draws (e : mm_E) (a0 : Nat) (i1 : Int32) (m : mm_V) : Option (Int32 × mm_V) := (mm_gi e.1 m 12 75 a0 41).bind fun x1 => (mm_pf e.1 m 12 75 a0 41 (.int ((x1 * (1103515245 : Int32)) + (12345 : Int32)))).bind fun m2 => (mm_gi e.1 m2 12 75 a0 41).bind fun x3 => if i1 = 0 then none else some ((((x3 >>> ((16 : Int32) &&& 31)) &&& (32767 : Int32)) - ((x3 >>> ((16 : Int32) &&& 31)) &&& (32767 : Int32)) / i1 * i1), m2)
theorem X12_draws_ok {K : mm_K} {nx : Option Nat} {e : mm_E} (hz : e.2.1 = K.2.2.2.2) {d : Nat} (hd : 0 ≤ d) {a0 : Nat} {i1 : Int32} (h0 : e.1 a0 = some (12, 75)) {m : mm_V} {r : (Int32 × mm_V)} (hr : X12_draws e a0 i1 m = some r) : mm_Cn K MX12_draws d (mm_Fi e.1 nx r) [.ref a0, .int i1] (e.1, m) nx := by
  refine mm_entry (by decide) (Nat.le_of_ble_eq_true rfl) rfl (fun hok => ?_)
  unfold X12_draws at hr
  refine mg_weak (L' := [some (.ref a0), some (.int i1)]) (mm_le_s (mm_le_s mm_le_0)) ?_
  refine ml_aload_n (pc := 0) dX12_draws_0 rfl mm_get_0 ?_
  refine ml_aload_n (pc := 1) dX12_draws_1 rfl mm_get_0 ?_
  refine mb_gi (pc := 2) dX12_draws_2 fl_X12_355 hr (fun x1 hr => ?_)
  refine mg_ldc_w (pc := 5) dX12_draws_5 (v := (1103515245 : Int32)) tw_1366 ?_
  refine mg_imul (pc := 8) dX12_draws_8 ?_
  refine mg_sipush (pc := 9) dX12_draws_9 ks_12345 ?_
  refine mg_iadd (pc := 12) dX12_draws_12 ?_
  refine mb_pi (pc := 13) dX12_draws_13 fp_X12_355 hr (fun m2 hr => ?_)
  refine ml_aload_n (pc := 16) dX12_draws_16 rfl mm_get_0 ?_
  refine mb_gi (pc := 17) dX12_draws_17 fl_X12_355 hr (fun x3 hr => ?_)
  refine mg_bipush (pc := 20) dX12_draws_20 kb_16 ?_
  refine mg_ishr (pc := 22) dX12_draws_22 ?_
  refine mg_sipush (pc := 23) dX12_draws_23 ks_32767 ?_
  refine mg_iand (pc := 26) dX12_draws_26 ?_
  refine ml_iload_n (pc := 27) dX12_draws_27 rfl (mm_get_s mm_get_0) ?_
  refine mb_irem (pc := 28) dX12_draws_28 hr (fun hr => ?_)
  exact mb_iret dX12_draws_29 rfl hr
theorem dX12_placeOf_0 : decode cX12_placeOf 0 = .ok (.iconst 0, 1) := by decide +kernel
theorem dX12_placeOf_1 : decode cX12_placeOf 1 = .ok (.istore_n 3, 1) := by decide +kernel
theorem dX12_placeOf_2 : decode cX12_placeOf 2 = .ok (.iload_n 3, 1) := by decide +kernel
theorem dX12_placeOf_3 : decode cX12_placeOf 3 = .ok (.aload_n 0, 1) := by decide +kernel
theorem dX12_placeOf_4 : decode cX12_placeOf 4 = .ok (.iload_n 1, 1) := by decide +kernel
theorem dX12_placeOf_5 : decode cX12_placeOf 5 = .ok (.invokestatic 327, 3) := by decide +kernel
theorem dX12_placeOf_8 : decode cX12_placeOf 8 = .ok (.if_icmp .ge 21, 3) := by decide +kernel
theorem dX12_placeOf_11 : decode cX12_placeOf 11 = .ok (.aload_n 0, 1) := by decide +kernel
theorem dX12_placeOf_12 : decode cX12_placeOf 12 = .ok (.iload_n 1, 1) := by decide +kernel
theorem dX12_placeOf_13 : decode cX12_placeOf 13 = .ok (.iload_n 3, 1) := by decide +kernel
theorem dX12_placeOf_14 : decode cX12_placeOf 14 = .ok (.invokestatic 331, 3) := by decide +kernel
theorem dX12_placeOf_17 : decode cX12_placeOf 17 = .ok (.iload_n 2, 1) := by decide +kernel
theorem dX12_placeOf_18 : decode cX12_placeOf 18 = .ok (.if_icmp .ne 5, 3) := by decide +kernel
theorem dX12_placeOf_21 : decode cX12_placeOf 21 = .ok (.iload_n 3, 1) := by decide +kernel
theorem dX12_placeOf_22 : decode cX12_placeOf 22 = .ok (.ireturn, 1) := by decide +kernel
theorem dX12_placeOf_23 : decode cX12_placeOf 23 = .ok (.iinc 3 1, 3) := by decide +kernel
theorem dX12_placeOf_26 : decode cX12_placeOf 26 = .ok (.goto (-24), 3) := by decide +kernel
theorem dX12_placeOf_29 : decode cX12_placeOf 29 = .ok (.iconst (-1), 1) := by decide +kernel
theorem dX12_placeOf_30 : decode cX12_placeOf 30 = .ok (.ireturn, 1) := by decide +kernel
def X12_placeOf_L2 (e : mm_E) (a0 : Nat) (i1 : Int32) (i2 : Int32) : Nat → Int32 → mm_V → Option (Int32 × mm_V)
  | 0, _, _ => none
  | n + 1, i3, m => (X12_size e a0 i1 m).bind fun r1 => if r1.1 ≤ i3 then (some ((-1 : Int32), r1.2)) else ((X12_card e a0 i1 i3 r1.2).bind fun r2 => if ¬ r2.1 = i2 then (X12_placeOf_L2 e a0 i1 i2 n (i3 + 1) r2.2) else (some (i3, r2.2)))
theorem X12_placeOf_L2_ok {K : mm_K} {nx : Option Nat} {e : mm_E} (hz : e.2.1 = K.2.2.2.2) {d : Nat} (hd : 1 ≤ d) {a0 : Nat} {i1 : Int32} {i2 : Int32} : ∀ (n : Nat) (i3 : Int32) (m : mm_V) (r : (Int32 × mm_V)), X12_placeOf_L2 e a0 i1 i2 n i3 m = some r → mm_G K MX12_placeOf d (mm_Fi e.1 nx r) 2 [some (.ref a0), some (.int i1), some (.int i2), some (.int i3)] [] (e.1, m) nx 0 0 := by
  obtain ⟨d, rfl⟩ : ∃ d', d = d' + 1 := ⟨d - 1, by omega⟩
  intro n
  induction n with
  | zero => intro i3 m r hr; unfold X12_placeOf_L2 at hr; cases hr
  | succ n ih =>
    intro i3 m r hr
    unfold X12_placeOf_L2 at hr
    refine ml_iload_n (pc := 2) dX12_placeOf_2 rfl (mm_get_s (mm_get_s (mm_get_s mm_get_0))) ?_
    refine ml_aload_n (pc := 3) dX12_placeOf_3 rfl mm_get_0 ?_
    refine ml_iload_n (pc := 4) dX12_placeOf_4 rfl (mm_get_s mm_get_0) ?_
    refine mb_cSi (pc := 5) (As := [.ref a0, .int i1]) (rest := [.int i3]) dX12_placeOf_5 cw_X12_327  hr (fun v hv => X12_size_ok hz (by omega)  hv) rfl (Nat.le_of_ble_eq_true rfl) (Nat.zero_le _) (Nat.zero_le _) (fun r1 hr => ?_)
    refine mb_icmp_ge (pc := 8) 29 dX12_placeOf_8 rfl hr (fun hr => ?_) (fun hr => ?_)
    · refine mg_iconst (pc := 29) dX12_placeOf_29 kc_m1 ?_
      exact mb_iret dX12_placeOf_30 rfl hr
    · refine ml_aload_n (pc := 11) dX12_placeOf_11 rfl mm_get_0 ?_
      refine ml_iload_n (pc := 12) dX12_placeOf_12 rfl (mm_get_s mm_get_0) ?_
      refine ml_iload_n (pc := 13) dX12_placeOf_13 rfl (mm_get_s (mm_get_s (mm_get_s mm_get_0))) ?_
      refine mb_cSi (pc := 14) (As := [.ref a0, .int i1, .int i3]) (rest := []) dX12_placeOf_14 cw_X12_331  hr (fun v hv => X12_card_ok hz (by omega)  hv) rfl (Nat.le_of_ble_eq_true rfl) (Nat.zero_le _) (Nat.zero_le _) (fun r2 hr => ?_)
      refine ml_iload_n (pc := 17) dX12_placeOf_17 rfl (mm_get_s (mm_get_s mm_get_0)) ?_
      refine mb_icmp_ne (pc := 18) 23 dX12_placeOf_18 rfl hr (fun hr => ?_) (fun hr => ?_)
      · refine ml_iinc (pc := 23) dX12_placeOf_23 (mm_get_s (mm_get_s (mm_get_s mm_get_0))) (congrArg (fun z => i3 + z) kc_1) (Nat.le_of_ble_eq_true rfl) (mm_st1_s (mm_st1_s mm_st1_i)) ?_
        refine mg_goto (pc := 26) 2 dX12_placeOf_26 rfl ?_
        exact mg_weak (mm_le_s (mm_le_s (mm_le_s (mm_le_s mm_le_0)))) (ih _ _ _ hr)
      · refine ml_iload_n (pc := 21) dX12_placeOf_21 rfl (mm_get_s (mm_get_s (mm_get_s mm_get_0))) ?_
        exact mb_iret dX12_placeOf_22 rfl hr
def X12_placeOf (e : mm_E) (a0 : Nat) (i1 : Int32) (i2 : Int32) (m : mm_V) : Option (Int32 × mm_V) := X12_placeOf_L2 e a0 i1 i2 e.2.2 (0 : Int32) m
theorem X12_placeOf_ok {K : mm_K} {nx : Option Nat} {e : mm_E} (hz : e.2.1 = K.2.2.2.2) {d : Nat} (hd : 1 ≤ d) {a0 : Nat} {i1 : Int32} {i2 : Int32} {m : mm_V} {r : (Int32 × mm_V)} (hr : X12_placeOf e a0 i1 i2 m = some r) : mm_Cn K MX12_placeOf d (mm_Fi e.1 nx r) [.ref a0, .int i1, .int i2] (e.1, m) nx := by
  obtain ⟨d, rfl⟩ : ∃ d', d = d' + 1 := ⟨d - 1, by omega⟩
  refine mm_entry (by decide) (Nat.le_of_ble_eq_true rfl) rfl (fun hok => ?_)
  unfold X12_placeOf at hr
  refine mg_weak (L' := [some (.ref a0), some (.int i1), some (.int i2), none]) (mm_le_s (mm_le_s (mm_le_s (mm_le_e mm_le_0)))) ?_
  refine mg_iconst (pc := 0) dX12_placeOf_0 kc_0 ?_
  refine ml_istore_n (pc := 1) dX12_placeOf_1 rfl (Nat.le_of_ble_eq_true rfl) (mm_st1_s (mm_st1_s mm_st1_i)) ?_
  exact mg_weak (mm_le_s (mm_le_s (mm_le_s (mm_le_s mm_le_0)))) (X12_placeOf_L2_ok hz hd _ _ _ _ hr)
theorem dX12_takes_0 : decode cX12_takes 0 = .ok (.aload_n 0, 1) := by decide +kernel
theorem dX12_takes_1 : decode cX12_takes 1 = .ok (.iload_n 1, 1) := by decide +kernel
theorem dX12_takes_2 : decode cX12_takes 2 = .ok (.iload_n 2, 1) := by decide +kernel
theorem dX12_takes_3 : decode cX12_takes 3 = .ok (.invokestatic 331, 3) := by decide +kernel
theorem dX12_takes_6 : decode cX12_takes 6 = .ok (.istore_n 3, 1) := by decide +kernel
theorem dX12_takes_7 : decode cX12_takes 7 = .ok (.aload_n 0, 1) := by decide +kernel
theorem dX12_takes_8 : decode cX12_takes 8 = .ok (.iconst 2, 1) := by decide +kernel
theorem dX12_takes_9 : decode cX12_takes 9 = .ok (.iload_n 1, 1) := by decide +kernel
theorem dX12_takes_10 : decode cX12_takes 10 = .ok (.iadd, 1) := by decide +kernel
theorem dX12_takes_11 : decode cX12_takes 11 = .ok (.dup2, 1) := by decide +kernel
theorem dX12_takes_12 : decode cX12_takes 12 = .ok (.iaload, 1) := by decide +kernel
theorem dX12_takes_13 : decode cX12_takes 13 = .ok (.iconst 1, 1) := by decide +kernel
theorem dX12_takes_14 : decode cX12_takes 14 = .ok (.isub, 1) := by decide +kernel
theorem dX12_takes_15 : decode cX12_takes 15 = .ok (.iastore, 1) := by decide +kernel
theorem dX12_takes_16 : decode cX12_takes 16 = .ok (.iload_n 2, 1) := by decide +kernel
theorem dX12_takes_17 : decode cX12_takes 17 = .ok (.istore 4, 2) := by decide +kernel
theorem dX12_takes_19 : decode cX12_takes 19 = .ok (.iload 4, 2) := by decide +kernel
theorem dX12_takes_21 : decode cX12_takes 21 = .ok (.aload_n 0, 1) := by decide +kernel
theorem dX12_takes_22 : decode cX12_takes 22 = .ok (.iload_n 1, 1) := by decide +kernel
theorem dX12_takes_23 : decode cX12_takes 23 = .ok (.invokestatic 327, 3) := by decide +kernel
theorem dX12_takes_26 : decode cX12_takes 26 = .ok (.if_icmp .ge 30, 3) := by decide +kernel
theorem dX12_takes_29 : decode cX12_takes 29 = .ok (.aload_n 0, 1) := by decide +kernel
theorem dX12_takes_30 : decode cX12_takes 30 = .ok (.bipush 14, 2) := by decide +kernel
theorem dX12_takes_32 : decode cX12_takes 32 = .ok (.bipush 19, 2) := by decide +kernel
theorem dX12_takes_34 : decode cX12_takes 34 = .ok (.iload_n 1, 1) := by decide +kernel
theorem dX12_takes_35 : decode cX12_takes 35 = .ok (.imul, 1) := by decide +kernel
theorem dX12_takes_36 : decode cX12_takes 36 = .ok (.iadd, 1) := by decide +kernel
theorem dX12_takes_37 : decode cX12_takes 37 = .ok (.iload 4, 2) := by decide +kernel
theorem dX12_takes_39 : decode cX12_takes 39 = .ok (.iadd, 1) := by decide +kernel
theorem dX12_takes_40 : decode cX12_takes 40 = .ok (.aload_n 0, 1) := by decide +kernel
theorem dX12_takes_41 : decode cX12_takes 41 = .ok (.iload_n 1, 1) := by decide +kernel
theorem dX12_takes_42 : decode cX12_takes 42 = .ok (.iload 4, 2) := by decide +kernel
theorem dX12_takes_44 : decode cX12_takes 44 = .ok (.iconst 1, 1) := by decide +kernel
theorem dX12_takes_45 : decode cX12_takes 45 = .ok (.iadd, 1) := by decide +kernel
theorem dX12_takes_46 : decode cX12_takes 46 = .ok (.invokestatic 331, 3) := by decide +kernel
theorem dX12_takes_49 : decode cX12_takes 49 = .ok (.iastore, 1) := by decide +kernel
theorem dX12_takes_50 : decode cX12_takes 50 = .ok (.iinc 4 1, 3) := by decide +kernel
theorem dX12_takes_53 : decode cX12_takes 53 = .ok (.goto (-34), 3) := by decide +kernel
theorem dX12_takes_56 : decode cX12_takes 56 = .ok (.iload_n 3, 1) := by decide +kernel
theorem dX12_takes_57 : decode cX12_takes 57 = .ok (.ireturn, 1) := by decide +kernel
def X12_takes_L19 (e : mm_E) (a0 : Nat) (i1 : Int32) (i3 : Int32) : Nat → Int32 → mm_V → Option (Int32 × mm_V)
  | 0, _, _ => none
  | n + 1, i4, m => (X12_size e a0 i1 m).bind fun r1 => if r1.1 ≤ i4 then (some (i3, r1.2)) else ((X12_card e a0 i1 (i4 + (1 : Int32)) r1.2).bind fun r2 => (mm_si e.1 r2.2 a0 (((14 : Int32) + ((19 : Int32) * i1)) + i4) r2.1).bind fun m3 => X12_takes_L19 e a0 i1 i3 n (i4 + 1) m3)
theorem X12_takes_L19_ok {K : mm_K} {nx : Option Nat} {e : mm_E} (hz : e.2.1 = K.2.2.2.2) {d : Nat} (hd : 1 ≤ d) {a0 : Nat} {i1 : Int32} {i3 : Int32} : ∀ (n : Nat) (i4 : Int32) (m : mm_V) (r : (Int32 × mm_V)), X12_takes_L19 e a0 i1 i3 n i4 m = some r → mm_G K MX12_takes d (mm_Fi e.1 nx r) 19 [some (.ref a0), some (.int i1), none, some (.int i3), some (.int i4)] [] (e.1, m) nx 0 0 := by
  obtain ⟨d, rfl⟩ : ∃ d', d = d' + 1 := ⟨d - 1, by omega⟩
  intro n
  induction n with
  | zero => intro i4 m r hr; unfold X12_takes_L19 at hr; cases hr
  | succ n ih =>
    intro i4 m r hr
    unfold X12_takes_L19 at hr
    refine ml_iload (pc := 19) dX12_takes_19 (mm_get_s (mm_get_s (mm_get_s (mm_get_s mm_get_0)))) ?_
    refine ml_aload_n (pc := 21) dX12_takes_21 rfl mm_get_0 ?_
    refine ml_iload_n (pc := 22) dX12_takes_22 rfl (mm_get_s mm_get_0) ?_
    refine mb_cSi (pc := 23) (As := [.ref a0, .int i1]) (rest := [.int i4]) dX12_takes_23 cw_X12_327  hr (fun v hv => X12_size_ok hz (by omega)  hv) rfl (Nat.le_of_ble_eq_true rfl) (Nat.zero_le _) (Nat.zero_le _) (fun r1 hr => ?_)
    refine mb_icmp_ge (pc := 26) 56 dX12_takes_26 rfl hr (fun hr => ?_) (fun hr => ?_)
    · refine ml_iload_n (pc := 56) dX12_takes_56 rfl (mm_get_s (mm_get_s (mm_get_s mm_get_0))) ?_
      exact mb_iret dX12_takes_57 rfl hr
    · refine ml_aload_n (pc := 29) dX12_takes_29 rfl mm_get_0 ?_
      refine mg_bipush (pc := 30) dX12_takes_30 kb_14 ?_
      refine mg_bipush (pc := 32) dX12_takes_32 kb_19 ?_
      refine ml_iload_n (pc := 34) dX12_takes_34 rfl (mm_get_s mm_get_0) ?_
      refine mg_imul (pc := 35) dX12_takes_35 ?_
      refine mg_iadd (pc := 36) dX12_takes_36 ?_
      refine ml_iload (pc := 37) dX12_takes_37 (mm_get_s (mm_get_s (mm_get_s (mm_get_s mm_get_0)))) ?_
      refine mg_iadd (pc := 39) dX12_takes_39 ?_
      refine ml_aload_n (pc := 40) dX12_takes_40 rfl mm_get_0 ?_
      refine ml_iload_n (pc := 41) dX12_takes_41 rfl (mm_get_s mm_get_0) ?_
      refine ml_iload (pc := 42) dX12_takes_42 (mm_get_s (mm_get_s (mm_get_s (mm_get_s mm_get_0)))) ?_
      refine mg_iconst (pc := 44) dX12_takes_44 kc_1 ?_
      refine mg_iadd (pc := 45) dX12_takes_45 ?_
      refine mb_cSi (pc := 46) (As := [.ref a0, .int i1, .int (i4 + (1 : Int32))]) (rest := [.int (((14 : Int32) + ((19 : Int32) * i1)) + i4), .ref a0]) dX12_takes_46 cw_X12_331  hr (fun v hv => X12_card_ok hz (by omega)  hv) rfl (Nat.le_of_ble_eq_true rfl) (Nat.zero_le _) (Nat.zero_le _) (fun r2 hr => ?_)
      refine mb_si (pc := 49) dX12_takes_49 hr (fun m3 hr => ?_)
      refine ml_iinc (pc := 50) dX12_takes_50 (mm_get_s (mm_get_s (mm_get_s (mm_get_s mm_get_0)))) (congrArg (fun z => i4 + z) kc_1) (Nat.le_of_ble_eq_true rfl) (mm_st1_s (mm_st1_s (mm_st1_s mm_st1_i))) ?_
      refine mg_goto (pc := 53) 19 dX12_takes_53 rfl ?_
      exact mg_weak (mm_le_s (mm_le_s (mm_le_n (mm_le_s (mm_le_s mm_le_0))))) (ih _ _ _ hr)
def X12_takes (e : mm_E) (a0 : Nat) (i1 : Int32) (i2 : Int32) (m : mm_V) : Option (Int32 × mm_V) := (X12_card e a0 i1 i2 m).bind fun r1 => (mm_ai e.1 r1.2 20 a0 ((2 : Int32) + i1)).bind fun x2 => (mm_si e.1 r1.2 a0 ((2 : Int32) + i1) (x2 - (1 : Int32))).bind fun m3 => X12_takes_L19 e a0 i1 r1.1 e.2.2 i2 m3
theorem X12_takes_ok {K : mm_K} {nx : Option Nat} {e : mm_E} (hz : e.2.1 = K.2.2.2.2) {d : Nat} (hd : 1 ≤ d) {a0 : Nat} {i1 : Int32} {i2 : Int32} {m : mm_V} {r : (Int32 × mm_V)} (hr : X12_takes e a0 i1 i2 m = some r) : mm_Cn K MX12_takes d (mm_Fi e.1 nx r) [.ref a0, .int i1, .int i2] (e.1, m) nx := by
  obtain ⟨d, rfl⟩ : ∃ d', d = d' + 1 := ⟨d - 1, by omega⟩
  refine mm_entry (by decide) (Nat.le_of_ble_eq_true rfl) rfl (fun hok => ?_)
  unfold X12_takes at hr
  refine mg_weak (L' := [some (.ref a0), some (.int i1), some (.int i2), none, none]) (mm_le_s (mm_le_s (mm_le_s (mm_le_e (mm_le_e mm_le_0))))) ?_
  refine ml_aload_n (pc := 0) dX12_takes_0 rfl mm_get_0 ?_
  refine ml_iload_n (pc := 1) dX12_takes_1 rfl (mm_get_s mm_get_0) ?_
  refine ml_iload_n (pc := 2) dX12_takes_2 rfl (mm_get_s (mm_get_s mm_get_0)) ?_
  refine mb_cSi (pc := 3) (As := [.ref a0, .int i1, .int i2]) (rest := []) dX12_takes_3 cw_X12_331  hr (fun v hv => X12_card_ok hz (by omega)  hv) rfl (Nat.le_of_ble_eq_true rfl) (Nat.zero_le _) (Nat.zero_le _) (fun r1 hr => ?_)
  refine ml_istore_n (pc := 6) dX12_takes_6 rfl (Nat.le_of_ble_eq_true rfl) (mm_st1_s (mm_st1_s mm_st1_i)) ?_
  refine ml_aload_n (pc := 7) dX12_takes_7 rfl mm_get_0 ?_
  refine mg_iconst (pc := 8) dX12_takes_8 kc_2 ?_
  refine ml_iload_n (pc := 9) dX12_takes_9 rfl (mm_get_s mm_get_0) ?_
  refine mg_iadd (pc := 10) dX12_takes_10 ?_
  refine mg_dup2 (pc := 11) dX12_takes_11 rfl rfl ?_
  refine mb_ai (pc := 12) dX12_takes_12 hr (fun x2 hr => ?_)
  refine mg_iconst (pc := 13) dX12_takes_13 kc_1 ?_
  refine mg_isub (pc := 14) dX12_takes_14 ?_
  refine mb_si (pc := 15) dX12_takes_15 hr (fun m3 hr => ?_)
  refine ml_iload_n (pc := 16) dX12_takes_16 rfl (mm_get_s (mm_get_s mm_get_0)) ?_
  refine ml_istore (pc := 17) dX12_takes_17 (Nat.le_of_ble_eq_true rfl) (mm_st1_s (mm_st1_s (mm_st1_s mm_st1_i))) ?_
  exact mg_weak (mm_le_s (mm_le_s (mm_le_n (mm_le_s (mm_le_s mm_le_0))))) (X12_takes_L19_ok hz hd _ _ _ _ hr)
theorem dX12_deals_0 : decode cX12_deals 0 = .ok (.aload_n 0, 1) := by decide +kernel
theorem dX12_deals_1 : decode cX12_deals 1 = .ok (.aload_n 2, 1) := by decide +kernel
theorem dX12_deals_2 : decode cX12_deals 2 = .ok (.invokevirtual 345, 3) := by decide +kernel
theorem dX12_deals_5 : decode cX12_deals 5 = .ok (.aload_n 0, 1) := by decide +kernel
theorem dX12_deals_6 : decode cX12_deals 6 = .ok (.iload_n 1, 1) := by decide +kernel
theorem dX12_deals_7 : decode cX12_deals 7 = .ok (.putfield 355, 3) := by decide +kernel
theorem dX12_deals_10 : decode cX12_deals 10 = .ok (.iconst 2, 1) := by decide +kernel
theorem dX12_deals_11 : decode cX12_deals 11 = .ok (.aload_n 0, 1) := by decide +kernel
theorem dX12_deals_12 : decode cX12_deals 12 = .ok (.getfield 13, 3) := by decide +kernel
theorem dX12_deals_15 : decode cX12_deals 15 = .ok (.imul, 1) := by decide +kernel
theorem dX12_deals_16 : decode cX12_deals 16 = .ok (.iconst 1, 1) := by decide +kernel
theorem dX12_deals_17 : decode cX12_deals 17 = .ok (.iadd, 1) := by decide +kernel
theorem dX12_deals_18 : decode cX12_deals 18 = .ok (.istore_n 3, 1) := by decide +kernel
theorem dX12_deals_19 : decode cX12_deals 19 = .ok (.iconst 0, 1) := by decide +kernel
theorem dX12_deals_20 : decode cX12_deals 20 = .ok (.istore 4, 2) := by decide +kernel
theorem dX12_deals_22 : decode cX12_deals 22 = .ok (.iload 4, 2) := by decide +kernel
theorem dX12_deals_24 : decode cX12_deals 24 = .ok (.iload_n 3, 1) := by decide +kernel
theorem dX12_deals_25 : decode cX12_deals 25 = .ok (.iconst 1, 1) := by decide +kernel
theorem dX12_deals_26 : decode cX12_deals 26 = .ok (.isub, 1) := by decide +kernel
theorem dX12_deals_27 : decode cX12_deals 27 = .ok (.if_icmp .ge 22, 3) := by decide +kernel
theorem dX12_deals_30 : decode cX12_deals 30 = .ok (.aload_n 0, 1) := by decide +kernel
theorem dX12_deals_31 : decode cX12_deals 31 = .ok (.getfield 66, 3) := by decide +kernel
theorem dX12_deals_34 : decode cX12_deals 34 = .ok (.iload 4, 2) := by decide +kernel
theorem dX12_deals_36 : decode cX12_deals 36 = .ok (.iload 4, 2) := by decide +kernel
theorem dX12_deals_38 : decode cX12_deals 38 = .ok (.iconst 2, 1) := by decide +kernel
theorem dX12_deals_39 : decode cX12_deals 39 = .ok (.idiv, 1) := by decide +kernel
theorem dX12_deals_40 : decode cX12_deals 40 = .ok (.iconst 1, 1) := by decide +kernel
theorem dX12_deals_41 : decode cX12_deals 41 = .ok (.iadd, 1) := by decide +kernel
theorem dX12_deals_42 : decode cX12_deals 42 = .ok (.iastore, 1) := by decide +kernel
theorem dX12_deals_43 : decode cX12_deals 43 = .ok (.iinc 4 1, 3) := by decide +kernel
theorem dX12_deals_46 : decode cX12_deals 46 = .ok (.goto (-24), 3) := by decide +kernel
theorem dX12_deals_49 : decode cX12_deals 49 = .ok (.aload_n 0, 1) := by decide +kernel
theorem dX12_deals_50 : decode cX12_deals 50 = .ok (.getfield 66, 3) := by decide +kernel
theorem dX12_deals_53 : decode cX12_deals 53 = .ok (.iload_n 3, 1) := by decide +kernel
theorem dX12_deals_54 : decode cX12_deals 54 = .ok (.iconst 1, 1) := by decide +kernel
theorem dX12_deals_55 : decode cX12_deals 55 = .ok (.isub, 1) := by decide +kernel
theorem dX12_deals_56 : decode cX12_deals 56 = .ok (.iconst 0, 1) := by decide +kernel
theorem dX12_deals_57 : decode cX12_deals 57 = .ok (.iastore, 1) := by decide +kernel
theorem dX12_deals_58 : decode cX12_deals 58 = .ok (.iload_n 3, 1) := by decide +kernel
theorem dX12_deals_59 : decode cX12_deals 59 = .ok (.iconst 1, 1) := by decide +kernel
theorem dX12_deals_60 : decode cX12_deals 60 = .ok (.isub, 1) := by decide +kernel
theorem dX12_deals_61 : decode cX12_deals 61 = .ok (.istore 4, 2) := by decide +kernel
theorem dX12_deals_63 : decode cX12_deals 63 = .ok (.iload 4, 2) := by decide +kernel
theorem dX12_deals_65 : decode cX12_deals 65 = .ok (.ifCond .le 51, 3) := by decide +kernel
theorem dX12_deals_68 : decode cX12_deals 68 = .ok (.aload_n 0, 1) := by decide +kernel
theorem dX12_deals_69 : decode cX12_deals 69 = .ok (.iload 4, 2) := by decide +kernel
theorem dX12_deals_71 : decode cX12_deals 71 = .ok (.iconst 1, 1) := by decide +kernel
theorem dX12_deals_72 : decode cX12_deals 72 = .ok (.iadd, 1) := by decide +kernel
theorem dX12_deals_73 : decode cX12_deals 73 = .ok (.invokevirtual 359, 3) := by decide +kernel
theorem dX12_deals_76 : decode cX12_deals 76 = .ok (.istore 5, 2) := by decide +kernel
theorem dX12_deals_78 : decode cX12_deals 78 = .ok (.aload_n 0, 1) := by decide +kernel
theorem dX12_deals_79 : decode cX12_deals 79 = .ok (.getfield 66, 3) := by decide +kernel
theorem dX12_deals_82 : decode cX12_deals 82 = .ok (.iload 4, 2) := by decide +kernel
theorem dX12_deals_84 : decode cX12_deals 84 = .ok (.iaload, 1) := by decide +kernel
theorem dX12_deals_85 : decode cX12_deals 85 = .ok (.istore 6, 2) := by decide +kernel
theorem dX12_deals_87 : decode cX12_deals 87 = .ok (.aload_n 0, 1) := by decide +kernel
theorem dX12_deals_88 : decode cX12_deals 88 = .ok (.getfield 66, 3) := by decide +kernel
theorem dX12_deals_91 : decode cX12_deals 91 = .ok (.iload 4, 2) := by decide +kernel
theorem dX12_deals_93 : decode cX12_deals 93 = .ok (.aload_n 0, 1) := by decide +kernel
theorem dX12_deals_94 : decode cX12_deals 94 = .ok (.getfield 66, 3) := by decide +kernel
theorem dX12_deals_97 : decode cX12_deals 97 = .ok (.iload 5, 2) := by decide +kernel
theorem dX12_deals_99 : decode cX12_deals 99 = .ok (.iaload, 1) := by decide +kernel
theorem dX12_deals_100 : decode cX12_deals 100 = .ok (.iastore, 1) := by decide +kernel
theorem dX12_deals_101 : decode cX12_deals 101 = .ok (.aload_n 0, 1) := by decide +kernel
theorem dX12_deals_102 : decode cX12_deals 102 = .ok (.getfield 66, 3) := by decide +kernel
theorem dX12_deals_105 : decode cX12_deals 105 = .ok (.iload 5, 2) := by decide +kernel
theorem dX12_deals_107 : decode cX12_deals 107 = .ok (.iload 6, 2) := by decide +kernel
theorem dX12_deals_109 : decode cX12_deals 109 = .ok (.iastore, 1) := by decide +kernel
theorem dX12_deals_110 : decode cX12_deals 110 = .ok (.iinc 4 (-1), 3) := by decide +kernel
theorem dX12_deals_113 : decode cX12_deals 113 = .ok (.goto (-50), 3) := by decide +kernel
theorem dX12_deals_116 : decode cX12_deals 116 = .ok (.iconst 0, 1) := by decide +kernel
theorem dX12_deals_117 : decode cX12_deals 117 = .ok (.istore 4, 2) := by decide +kernel
theorem dX12_deals_119 : decode cX12_deals 119 = .ok (.iload 4, 2) := by decide +kernel
theorem dX12_deals_121 : decode cX12_deals 121 = .ok (.iload_n 3, 1) := by decide +kernel
theorem dX12_deals_122 : decode cX12_deals 122 = .ok (.if_icmp .ge 38, 3) := by decide +kernel
theorem dX12_deals_125 : decode cX12_deals 125 = .ok (.aload_n 2, 1) := by decide +kernel
theorem dX12_deals_126 : decode cX12_deals 126 = .ok (.iload 4, 2) := by decide +kernel
theorem dX12_deals_128 : decode cX12_deals 128 = .ok (.aload_n 0, 1) := by decide +kernel
theorem dX12_deals_129 : decode cX12_deals 129 = .ok (.getfield 7, 3) := by decide +kernel
theorem dX12_deals_132 : decode cX12_deals 132 = .ok (.irem, 1) := by decide +kernel
theorem dX12_deals_133 : decode cX12_deals 133 = .ok (.aload_n 2, 1) := by decide +kernel
theorem dX12_deals_134 : decode cX12_deals 134 = .ok (.iload 4, 2) := by decide +kernel
theorem dX12_deals_136 : decode cX12_deals 136 = .ok (.aload_n 0, 1) := by decide +kernel
theorem dX12_deals_137 : decode cX12_deals 137 = .ok (.getfield 7, 3) := by decide +kernel
theorem dX12_deals_140 : decode cX12_deals 140 = .ok (.irem, 1) := by decide +kernel
theorem dX12_deals_141 : decode cX12_deals 141 = .ok (.invokestatic 327, 3) := by decide +kernel
theorem dX12_deals_144 : decode cX12_deals 144 = .ok (.aload_n 0, 1) := by decide +kernel
theorem dX12_deals_145 : decode cX12_deals 145 = .ok (.getfield 66, 3) := by decide +kernel
theorem dX12_deals_148 : decode cX12_deals 148 = .ok (.iload 4, 2) := by decide +kernel
theorem dX12_deals_150 : decode cX12_deals 150 = .ok (.iaload, 1) := by decide +kernel
theorem dX12_deals_151 : decode cX12_deals 151 = .ok (.invokestatic 348, 3) := by decide +kernel
theorem dX12_deals_154 : decode cX12_deals 154 = .ok (.iinc 4 1, 3) := by decide +kernel
theorem dX12_deals_157 : decode cX12_deals 157 = .ok (.goto (-38), 3) := by decide +kernel
theorem dX12_deals_160 : decode cX12_deals 160 = .ok (.iconst 0, 1) := by decide +kernel
theorem dX12_deals_161 : decode cX12_deals 161 = .ok (.istore 4, 2) := by decide +kernel
theorem dX12_deals_163 : decode cX12_deals 163 = .ok (.iload 4, 2) := by decide +kernel
theorem dX12_deals_165 : decode cX12_deals 165 = .ok (.aload_n 0, 1) := by decide +kernel
theorem dX12_deals_166 : decode cX12_deals 166 = .ok (.getfield 7, 3) := by decide +kernel
theorem dX12_deals_169 : decode cX12_deals 169 = .ok (.if_icmp .ge 103, 3) := by decide +kernel
theorem dX12_deals_172 : decode cX12_deals 172 = .ok (.iconst 1, 1) := by decide +kernel
theorem dX12_deals_173 : decode cX12_deals 173 = .ok (.istore 5, 2) := by decide +kernel
theorem dX12_deals_175 : decode cX12_deals 175 = .ok (.iload 5, 2) := by decide +kernel
theorem dX12_deals_177 : decode cX12_deals 177 = .ok (.aload_n 0, 1) := by decide +kernel
theorem dX12_deals_178 : decode cX12_deals 178 = .ok (.getfield 13, 3) := by decide +kernel
theorem dX12_deals_181 : decode cX12_deals 181 = .ok (.if_icmp .gt 85, 3) := by decide +kernel
theorem dX12_deals_184 : decode cX12_deals 184 = .ok (.aload_n 2, 1) := by decide +kernel
theorem dX12_deals_185 : decode cX12_deals 185 = .ok (.iload 4, 2) := by decide +kernel
theorem dX12_deals_187 : decode cX12_deals 187 = .ok (.iload 5, 2) := by decide +kernel
theorem dX12_deals_189 : decode cX12_deals 189 = .ok (.invokestatic 335, 3) := by decide +kernel
theorem dX12_deals_192 : decode cX12_deals 192 = .ok (.istore 6, 2) := by decide +kernel
theorem dX12_deals_194 : decode cX12_deals 194 = .ok (.iload 6, 2) := by decide +kernel
theorem dX12_deals_196 : decode cX12_deals 196 = .ok (.iconst (-1), 1) := by decide +kernel
theorem dX12_deals_197 : decode cX12_deals 197 = .ok (.if_icmp .ne 6, 3) := by decide +kernel
theorem dX12_deals_200 : decode cX12_deals 200 = .ok (.goto 60, 3) := by decide +kernel
theorem dX12_deals_203 : decode cX12_deals 203 = .ok (.aload_n 2, 1) := by decide +kernel
theorem dX12_deals_204 : decode cX12_deals 204 = .ok (.iload 4, 2) := by decide +kernel
theorem dX12_deals_206 : decode cX12_deals 206 = .ok (.invokestatic 327, 3) := by decide +kernel
theorem dX12_deals_209 : decode cX12_deals 209 = .ok (.iconst 1, 1) := by decide +kernel
theorem dX12_deals_210 : decode cX12_deals 210 = .ok (.isub, 1) := by decide +kernel
theorem dX12_deals_211 : decode cX12_deals 211 = .ok (.istore 7, 2) := by decide +kernel
theorem dX12_deals_213 : decode cX12_deals 213 = .ok (.aload_n 2, 1) := by decide +kernel
theorem dX12_deals_214 : decode cX12_deals 214 = .ok (.iload 4, 2) := by decide +kernel
theorem dX12_deals_216 : decode cX12_deals 216 = .ok (.iload 7, 2) := by decide +kernel
theorem dX12_deals_218 : decode cX12_deals 218 = .ok (.invokestatic 331, 3) := by decide +kernel
theorem dX12_deals_221 : decode cX12_deals 221 = .ok (.iload 5, 2) := by decide +kernel
theorem dX12_deals_223 : decode cX12_deals 223 = .ok (.if_icmp .eq 9, 3) := by decide +kernel
theorem dX12_deals_226 : decode cX12_deals 226 = .ok (.iinc 7 (-1), 3) := by decide +kernel
theorem dX12_deals_229 : decode cX12_deals 229 = .ok (.goto (-16), 3) := by decide +kernel
theorem dX12_deals_232 : decode cX12_deals 232 = .ok (.iload 7, 2) := by decide +kernel
theorem dX12_deals_234 : decode cX12_deals 234 = .ok (.iload 6, 2) := by decide +kernel
theorem dX12_deals_236 : decode cX12_deals 236 = .ok (.if_icmp .ne 6, 3) := by decide +kernel
theorem dX12_deals_239 : decode cX12_deals 239 = .ok (.goto 21, 3) := by decide +kernel
theorem dX12_deals_242 : decode cX12_deals 242 = .ok (.aload_n 2, 1) := by decide +kernel
theorem dX12_deals_243 : decode cX12_deals 243 = .ok (.iload 4, 2) := by decide +kernel
theorem dX12_deals_245 : decode cX12_deals 245 = .ok (.iload 7, 2) := by decide +kernel
theorem dX12_deals_247 : decode cX12_deals 247 = .ok (.invokestatic 362, 3) := by decide +kernel
theorem dX12_deals_250 : decode cX12_deals 250 = .ok (.pop, 1) := by decide +kernel
theorem dX12_deals_251 : decode cX12_deals 251 = .ok (.aload_n 2, 1) := by decide +kernel
theorem dX12_deals_252 : decode cX12_deals 252 = .ok (.iload 4, 2) := by decide +kernel
theorem dX12_deals_254 : decode cX12_deals 254 = .ok (.iload 6, 2) := by decide +kernel
theorem dX12_deals_256 : decode cX12_deals 256 = .ok (.invokestatic 362, 3) := by decide +kernel
theorem dX12_deals_259 : decode cX12_deals 259 = .ok (.pop, 1) := by decide +kernel
theorem dX12_deals_260 : decode cX12_deals 260 = .ok (.iinc 5 1, 3) := by decide +kernel
theorem dX12_deals_263 : decode cX12_deals 263 = .ok (.goto (-88), 3) := by decide +kernel
theorem dX12_deals_266 : decode cX12_deals 266 = .ok (.iinc 4 1, 3) := by decide +kernel
theorem dX12_deals_269 : decode cX12_deals 269 = .ok (.goto (-106), 3) := by decide +kernel
theorem dX12_deals_272 : decode cX12_deals 272 = .ok (.aload_n 0, 1) := by decide +kernel
theorem dX12_deals_273 : decode cX12_deals 273 = .ok (.aload_n 2, 1) := by decide +kernel
theorem dX12_deals_274 : decode cX12_deals 274 = .ok (.invokevirtual 352, 3) := by decide +kernel
theorem dX12_deals_277 : decode cX12_deals 277 = .ok (.return_, 1) := by decide +kernel
def X12_deals_b260 (e : mm_E) (k163 : Int32 → mm_V → Option mm_V) (k175 : Int32 → mm_V → Option mm_V) (a0 : Nat) (a2 : Nat) (i4 : Int32) (i5 : Int32) (m : mm_V) : Option mm_V := k175 (i5 + 1) m
theorem X12_deals_b260_ok {K : mm_K} {nx : Option Nat} {e : mm_E} (hz : e.2.1 = K.2.2.2.2) {d : Nat} (hd : 3 ≤ d) {a0 : Nat} {a2 : Nat} {i4 : Int32} {i5 : Int32} (h0 : e.1 a0 = some (12, 75)) {k163 : Int32 → mm_V → Option mm_V} {k175 : Int32 → mm_V → Option mm_V} (hk163 : ∀ (w4 : Int32) (m : mm_V) (r : mm_V), k163 w4 m = some r → mm_G K MX12_deals d (mm_Fv e.1 nx r) 163 [some (.ref a0), none, some (.ref a2), none, some (.int w4), none, none, none] [] (e.1, m) nx 0 0) (hk175 : ∀ (w5 : Int32) (m : mm_V) (r : mm_V), k175 w5 m = some r → mm_G K MX12_deals d (mm_Fv e.1 nx r) 175 [some (.ref a0), none, some (.ref a2), none, some (.int i4), some (.int w5), none, none] [] (e.1, m) nx 0 0) {m : mm_V} {r : mm_V} (hr : X12_deals_b260 e k163 k175 a0 a2 i4 i5 m = some r) : mm_G K MX12_deals d (mm_Fv e.1 nx r) 260 [some (.ref a0), none, some (.ref a2), none, some (.int i4), some (.int i5), none, none] [] (e.1, m) nx 0 0 := by
  obtain ⟨d, rfl⟩ : ∃ d', d = d' + 1 := ⟨d - 1, by omega⟩
  unfold X12_deals_b260 at hr
  refine ml_iinc (pc := 260) dX12_deals_260 (mm_get_s (mm_get_s (mm_get_s (mm_get_s (mm_get_s mm_get_0))))) (congrArg (fun z => i5 + z) kc_1) (Nat.le_of_ble_eq_true rfl) (mm_st1_s (mm_st1_s (mm_st1_s (mm_st1_s mm_st1_i)))) ?_
  refine mg_goto (pc := 263) 175 dX12_deals_263 rfl ?_
  exact mg_weak (mm_le_s (mm_le_n (mm_le_s (mm_le_n (mm_le_s (mm_le_s (mm_le_n (mm_le_n mm_le_0)))))))) (hk175 _ _ _ hr)
def X12_deals_L213 (e : mm_E) (k163 : Int32 → mm_V → Option mm_V) (k175 : Int32 → mm_V → Option mm_V) (a0 : Nat) (a2 : Nat) (i4 : Int32) (i5 : Int32) (i6 : Int32) : Nat → Int32 → mm_V → Option mm_V
  | 0, _, _ => none
  | n + 1, i7, m => (X12_card e a2 i4 i7 m).bind fun r1 => if r1.1 = i5 then (if ¬ i7 = i6 then ((X12_takes e a2 i4 i7 r1.2).bind fun r2 => (X12_takes e a2 i4 i6 r2.2).bind fun r3 => X12_deals_b260 e k163 k175 a0 a2 i4 i5  r3.2) else (X12_deals_b260 e k163 k175 a0 a2 i4 i5  r1.2)) else (X12_deals_L213 e k163 k175 a0 a2 i4 i5 i6 n (i7 + (-1)) r1.2)
theorem X12_deals_L213_ok {K : mm_K} {nx : Option Nat} {e : mm_E} (hz : e.2.1 = K.2.2.2.2) {d : Nat} (hd : 3 ≤ d) {a0 : Nat} {a2 : Nat} {i4 : Int32} {i5 : Int32} {i6 : Int32} (h0 : e.1 a0 = some (12, 75)) {k163 : Int32 → mm_V → Option mm_V} {k175 : Int32 → mm_V → Option mm_V} (hk163 : ∀ (w4 : Int32) (m : mm_V) (r : mm_V), k163 w4 m = some r → mm_G K MX12_deals d (mm_Fv e.1 nx r) 163 [some (.ref a0), none, some (.ref a2), none, some (.int w4), none, none, none] [] (e.1, m) nx 0 0) (hk175 : ∀ (w5 : Int32) (m : mm_V) (r : mm_V), k175 w5 m = some r → mm_G K MX12_deals d (mm_Fv e.1 nx r) 175 [some (.ref a0), none, some (.ref a2), none, some (.int i4), some (.int w5), none, none] [] (e.1, m) nx 0 0) : ∀ (n : Nat) (i7 : Int32) (m : mm_V) (r : mm_V), X12_deals_L213 e k163 k175 a0 a2 i4 i5 i6 n i7 m = some r → mm_G K MX12_deals d (mm_Fv e.1 nx r) 213 [some (.ref a0), none, some (.ref a2), none, some (.int i4), some (.int i5), some (.int i6), some (.int i7)] [] (e.1, m) nx 0 0 := by
  obtain ⟨d, rfl⟩ : ∃ d', d = d' + 1 := ⟨d - 1, by omega⟩
  intro n
  induction n with
  | zero => intro i7 m r hr; unfold X12_deals_L213 at hr; cases hr
  | succ n ih =>
    intro i7 m r hr
    unfold X12_deals_L213 at hr
    refine ml_aload_n (pc := 213) dX12_deals_213 rfl (mm_get_s (mm_get_s mm_get_0)) ?_
    refine ml_iload (pc := 214) dX12_deals_214 (mm_get_s (mm_get_s (mm_get_s (mm_get_s mm_get_0)))) ?_
    refine ml_iload (pc := 216) dX12_deals_216 (mm_get_s (mm_get_s (mm_get_s (mm_get_s (mm_get_s (mm_get_s (mm_get_s mm_get_0))))))) ?_
    refine mb_cSi (pc := 218) (As := [.ref a2, .int i4, .int i7]) (rest := []) dX12_deals_218 cw_X12_331  hr (fun v hv => X12_card_ok hz (by omega)  hv) rfl (Nat.le_of_ble_eq_true rfl) (Nat.zero_le _) (Nat.zero_le _) (fun r1 hr => ?_)
    refine ml_iload (pc := 221) dX12_deals_221 (mm_get_s (mm_get_s (mm_get_s (mm_get_s (mm_get_s mm_get_0))))) ?_
    refine mb_icmp_eq (pc := 223) 232 dX12_deals_223 rfl hr (fun hr => ?_) (fun hr => ?_)
    · refine ml_iload (pc := 232) dX12_deals_232 (mm_get_s (mm_get_s (mm_get_s (mm_get_s (mm_get_s (mm_get_s (mm_get_s mm_get_0))))))) ?_
      refine ml_iload (pc := 234) dX12_deals_234 (mm_get_s (mm_get_s (mm_get_s (mm_get_s (mm_get_s (mm_get_s mm_get_0)))))) ?_
      refine mb_icmp_ne (pc := 236) 242 dX12_deals_236 rfl hr (fun hr => ?_) (fun hr => ?_)
      · refine ml_aload_n (pc := 242) dX12_deals_242 rfl (mm_get_s (mm_get_s mm_get_0)) ?_
        refine ml_iload (pc := 243) dX12_deals_243 (mm_get_s (mm_get_s (mm_get_s (mm_get_s mm_get_0)))) ?_
        refine ml_iload (pc := 245) dX12_deals_245 (mm_get_s (mm_get_s (mm_get_s (mm_get_s (mm_get_s (mm_get_s (mm_get_s mm_get_0))))))) ?_
        refine mb_cSi (pc := 247) (As := [.ref a2, .int i4, .int i7]) (rest := []) dX12_deals_247 cw_X12_362  hr (fun v hv => X12_takes_ok hz (by omega)  hv) rfl (Nat.le_of_ble_eq_true rfl) (Nat.zero_le _) (Nat.zero_le _) (fun r2 hr => ?_)
        refine mg_pop (pc := 250) dX12_deals_250 rfl ?_
        refine ml_aload_n (pc := 251) dX12_deals_251 rfl (mm_get_s (mm_get_s mm_get_0)) ?_
        refine ml_iload (pc := 252) dX12_deals_252 (mm_get_s (mm_get_s (mm_get_s (mm_get_s mm_get_0)))) ?_
        refine ml_iload (pc := 254) dX12_deals_254 (mm_get_s (mm_get_s (mm_get_s (mm_get_s (mm_get_s (mm_get_s mm_get_0)))))) ?_
        refine mb_cSi (pc := 256) (As := [.ref a2, .int i4, .int i6]) (rest := []) dX12_deals_256 cw_X12_362  hr (fun v hv => X12_takes_ok hz (by omega)  hv) rfl (Nat.le_of_ble_eq_true rfl) (Nat.zero_le _) (Nat.zero_le _) (fun r3 hr => ?_)
        refine mg_pop (pc := 259) dX12_deals_259 rfl ?_
        exact mg_weak (mm_le_s (mm_le_n (mm_le_s (mm_le_n (mm_le_s (mm_le_s (mm_le_n (mm_le_n mm_le_0)))))))) (X12_deals_b260_ok hz hd h0 hk163 hk175 hr)
      · refine mg_goto (pc := 239) 260 dX12_deals_239 rfl ?_
        exact mg_weak (mm_le_s (mm_le_n (mm_le_s (mm_le_n (mm_le_s (mm_le_s (mm_le_n (mm_le_n mm_le_0)))))))) (X12_deals_b260_ok hz hd h0 hk163 hk175 hr)
    · refine ml_iinc (pc := 226) dX12_deals_226 (mm_get_s (mm_get_s (mm_get_s (mm_get_s (mm_get_s (mm_get_s (mm_get_s mm_get_0))))))) (congrArg (fun z => i7 + z) kc_m1) (Nat.le_of_ble_eq_true rfl) (mm_st1_s (mm_st1_s (mm_st1_s (mm_st1_s (mm_st1_s (mm_st1_s mm_st1_i)))))) ?_
      refine mg_goto (pc := 229) 213 dX12_deals_229 rfl ?_
      exact mg_weak (mm_le_s (mm_le_n (mm_le_s (mm_le_n (mm_le_s (mm_le_s (mm_le_s (mm_le_s mm_le_0)))))))) (ih _ _ _ hr)
def X12_deals_L175 (e : mm_E) (k163 : Int32 → mm_V → Option mm_V) (a0 : Nat) (a2 : Nat) (i4 : Int32) : Nat → Int32 → mm_V → Option mm_V
  | 0, _, _ => none
  | n + 1, i5, m => (mm_gi e.1 m 12 75 a0 2).bind fun x1 => if x1 < i5 then (k163 (i4 + 1) m) else ((X12_placeOf e a2 i4 i5 m).bind fun r2 => if ¬ r2.1 = (-1 : Int32) then ((X12_size e a2 i4 r2.2).bind fun r3 => X12_deals_L213 e k163 (X12_deals_L175 e k163 a0 a2 i4 n) a0 a2 i4 i5 r2.1 e.2.2 (r3.1 - (1 : Int32)) r3.2) else (X12_deals_b260 e k163 (X12_deals_L175 e k163 a0 a2 i4 n) a0 a2 i4 i5  r2.2))
theorem X12_deals_L175_ok {K : mm_K} {nx : Option Nat} {e : mm_E} (hz : e.2.1 = K.2.2.2.2) {d : Nat} (hd : 3 ≤ d) {a0 : Nat} {a2 : Nat} {i4 : Int32} (h0 : e.1 a0 = some (12, 75)) {k163 : Int32 → mm_V → Option mm_V} (hk163 : ∀ (w4 : Int32) (m : mm_V) (r : mm_V), k163 w4 m = some r → mm_G K MX12_deals d (mm_Fv e.1 nx r) 163 [some (.ref a0), none, some (.ref a2), none, some (.int w4), none, none, none] [] (e.1, m) nx 0 0) : ∀ (n : Nat) (i5 : Int32) (m : mm_V) (r : mm_V), X12_deals_L175 e k163 a0 a2 i4 n i5 m = some r → mm_G K MX12_deals d (mm_Fv e.1 nx r) 175 [some (.ref a0), none, some (.ref a2), none, some (.int i4), some (.int i5), none, none] [] (e.1, m) nx 0 0 := by
  obtain ⟨d, rfl⟩ : ∃ d', d = d' + 1 := ⟨d - 1, by omega⟩
  intro n
  induction n with
  | zero => intro i5 m r hr; unfold X12_deals_L175 at hr; cases hr
  | succ n ih =>
    intro i5 m r hr
    unfold X12_deals_L175 at hr
    refine ml_iload (pc := 175) dX12_deals_175 (mm_get_s (mm_get_s (mm_get_s (mm_get_s (mm_get_s mm_get_0))))) ?_
    refine ml_aload_n (pc := 177) dX12_deals_177 rfl mm_get_0 ?_
    refine mb_gi (pc := 178) dX12_deals_178 fl_X12_13 hr (fun x1 hr => ?_)
    refine mb_icmp_gt (pc := 181) 266 dX12_deals_181 rfl hr (fun hr => ?_) (fun hr => ?_)
    · refine ml_iinc (pc := 266) dX12_deals_266 (mm_get_s (mm_get_s (mm_get_s (mm_get_s mm_get_0)))) (congrArg (fun z => i4 + z) kc_1) (Nat.le_of_ble_eq_true rfl) (mm_st1_s (mm_st1_s (mm_st1_s mm_st1_n))) ?_
      refine mg_goto (pc := 269) 163 dX12_deals_269 rfl ?_
      exact mg_weak (mm_le_s (mm_le_n (mm_le_s (mm_le_n (mm_le_s (mm_le_n (mm_le_n (mm_le_n mm_le_0)))))))) (hk163 _ _ _ hr)
    · refine ml_aload_n (pc := 184) dX12_deals_184 rfl (mm_get_s (mm_get_s mm_get_0)) ?_
      refine ml_iload (pc := 185) dX12_deals_185 (mm_get_s (mm_get_s (mm_get_s (mm_get_s mm_get_0)))) ?_
      refine ml_iload (pc := 187) dX12_deals_187 (mm_get_s (mm_get_s (mm_get_s (mm_get_s (mm_get_s mm_get_0))))) ?_
      refine mb_cSi (pc := 189) (As := [.ref a2, .int i4, .int i5]) (rest := []) dX12_deals_189 cw_X12_335  hr (fun v hv => X12_placeOf_ok hz (by omega)  hv) rfl (Nat.le_of_ble_eq_true rfl) (Nat.zero_le _) (Nat.zero_le _) (fun r2 hr => ?_)
      refine ml_istore (pc := 192) dX12_deals_192 (Nat.le_of_ble_eq_true rfl) (mm_st1_s (mm_st1_s (mm_st1_s (mm_st1_s (mm_st1_s mm_st1_i))))) ?_
      refine ml_iload (pc := 194) dX12_deals_194 (mm_get_s (mm_get_s (mm_get_s (mm_get_s (mm_get_s (mm_get_s mm_get_0)))))) ?_
      refine mg_iconst (pc := 196) dX12_deals_196 kc_m1 ?_
      refine mb_icmp_ne (pc := 197) 203 dX12_deals_197 rfl hr (fun hr => ?_) (fun hr => ?_)
      · refine ml_aload_n (pc := 203) dX12_deals_203 rfl (mm_get_s (mm_get_s mm_get_0)) ?_
        refine ml_iload (pc := 204) dX12_deals_204 (mm_get_s (mm_get_s (mm_get_s (mm_get_s mm_get_0)))) ?_
        refine mb_cSi (pc := 206) (As := [.ref a2, .int i4]) (rest := []) dX12_deals_206 cw_X12_327  hr (fun v hv => X12_size_ok hz (by omega)  hv) rfl (Nat.le_of_ble_eq_true rfl) (Nat.zero_le _) (Nat.zero_le _) (fun r3 hr => ?_)
        refine mg_iconst (pc := 209) dX12_deals_209 kc_1 ?_
        refine mg_isub (pc := 210) dX12_deals_210 ?_
        refine ml_istore (pc := 211) dX12_deals_211 (Nat.le_of_ble_eq_true rfl) (mm_st1_s (mm_st1_s (mm_st1_s (mm_st1_s (mm_st1_s (mm_st1_s mm_st1_i)))))) ?_
        exact mg_weak (mm_le_s (mm_le_n (mm_le_s (mm_le_n (mm_le_s (mm_le_s (mm_le_s (mm_le_s mm_le_0)))))))) (X12_deals_L213_ok hz hd h0 hk163 ih _ _ _ _ hr)
      · refine mg_goto (pc := 200) 260 dX12_deals_200 rfl ?_
        exact mg_weak (mm_le_s (mm_le_n (mm_le_s (mm_le_n (mm_le_s (mm_le_s (mm_le_n (mm_le_n mm_le_0)))))))) (X12_deals_b260_ok hz hd h0 hk163 ih hr)
def X12_deals_L163 (e : mm_E) (a0 : Nat) (a2 : Nat) : Nat → Int32 → mm_V → Option mm_V
  | 0, _, _ => none
  | n + 1, i4, m => (mm_gi e.1 m 12 75 a0 1).bind fun x1 => if x1 ≤ i4 then ((X12_opens e a0 a2 m).bind fun r2 => some r2) else (X12_deals_L175 e (X12_deals_L163 e a0 a2 n) a0 a2 i4 e.2.2 (1 : Int32) m)
theorem X12_deals_L163_ok {K : mm_K} {nx : Option Nat} {e : mm_E} (hz : e.2.1 = K.2.2.2.2) {d : Nat} (hd : 3 ≤ d) {a0 : Nat} {a2 : Nat} (h0 : e.1 a0 = some (12, 75)) : ∀ (n : Nat) (i4 : Int32) (m : mm_V) (r : mm_V), X12_deals_L163 e a0 a2 n i4 m = some r → mm_G K MX12_deals d (mm_Fv e.1 nx r) 163 [some (.ref a0), none, some (.ref a2), none, some (.int i4), none, none, none] [] (e.1, m) nx 0 0 := by
  obtain ⟨d, rfl⟩ : ∃ d', d = d' + 1 := ⟨d - 1, by omega⟩
  intro n
  induction n with
  | zero => intro i4 m r hr; unfold X12_deals_L163 at hr; cases hr
  | succ n ih =>
    intro i4 m r hr
    unfold X12_deals_L163 at hr
    refine ml_iload (pc := 163) dX12_deals_163 (mm_get_s (mm_get_s (mm_get_s (mm_get_s mm_get_0)))) ?_
    refine ml_aload_n (pc := 165) dX12_deals_165 rfl mm_get_0 ?_
    refine mb_gi (pc := 166) dX12_deals_166 fl_X12_7 hr (fun x1 hr => ?_)
    refine mb_icmp_ge (pc := 169) 272 dX12_deals_169 rfl hr (fun hr => ?_) (fun hr => ?_)
    · refine ml_aload_n (pc := 272) dX12_deals_272 rfl mm_get_0 ?_
      refine ml_aload_n (pc := 273) dX12_deals_273 rfl (mm_get_s (mm_get_s mm_get_0)) ?_
      refine mb_cVv (pc := 274) (As := [.ref a2]) (rest := []) dX12_deals_274 cw_X12_352 h0 hr (fun v hv => X12_opens_ok hz (by omega) h0 hv) rfl (Nat.le_of_ble_eq_true rfl) (Nat.zero_le _) (Nat.zero_le _) (fun r2 hr => ?_)
      exact mb_vret dX12_deals_277 rfl hr
    · refine mg_iconst (pc := 172) dX12_deals_172 kc_1 ?_
      refine ml_istore (pc := 173) dX12_deals_173 (Nat.le_of_ble_eq_true rfl) (mm_st1_s (mm_st1_s (mm_st1_s (mm_st1_s mm_st1_i)))) ?_
      exact mg_weak (mm_le_s (mm_le_n (mm_le_s (mm_le_n (mm_le_s (mm_le_s (mm_le_n (mm_le_n mm_le_0)))))))) (X12_deals_L175_ok hz hd h0 ih _ _ _ _ hr)
def X12_deals_L119 (e : mm_E) (a0 : Nat) (a2 : Nat) (i3 : Int32) : Nat → Int32 → mm_V → Option mm_V
  | 0, _, _ => none
  | n + 1, i4, m => if i3 ≤ i4 then (X12_deals_L163 e a0 a2 e.2.2 (0 : Int32) m) else ((mm_gi e.1 m 12 75 a0 1).bind fun x1 => if x1 = 0 then none else (mm_gi e.1 m 12 75 a0 1).bind fun x2 => if x2 = 0 then none else (X12_size e a2 (i4 - i4 / x2 * x2) m).bind fun r3 => (mm_gr e.1 r3.2 12 75 a0 42).bind fun c4 => (mm_ai e.1 r3.2 20 c4 i4).bind fun x5 => (X12_inserts e a2 (i4 - i4 / x1 * x1) r3.1 x5 r3.2).bind fun r6 => X12_deals_L119 e a0 a2 i3 n (i4 + 1) r6)
theorem X12_deals_L119_ok {K : mm_K} {nx : Option Nat} {e : mm_E} (hz : e.2.1 = K.2.2.2.2) {d : Nat} (hd : 3 ≤ d) {a0 : Nat} {a2 : Nat} {i3 : Int32} (h0 : e.1 a0 = some (12, 75)) : ∀ (n : Nat) (i4 : Int32) (m : mm_V) (r : mm_V), X12_deals_L119 e a0 a2 i3 n i4 m = some r → mm_G K MX12_deals d (mm_Fv e.1 nx r) 119 [some (.ref a0), none, some (.ref a2), some (.int i3), some (.int i4), none, none, none] [] (e.1, m) nx 0 0 := by
  obtain ⟨d, rfl⟩ : ∃ d', d = d' + 1 := ⟨d - 1, by omega⟩
  intro n
  induction n with
  | zero => intro i4 m r hr; unfold X12_deals_L119 at hr; cases hr
  | succ n ih =>
    intro i4 m r hr
    unfold X12_deals_L119 at hr
    refine ml_iload (pc := 119) dX12_deals_119 (mm_get_s (mm_get_s (mm_get_s (mm_get_s mm_get_0)))) ?_
    refine ml_iload_n (pc := 121) dX12_deals_121 rfl (mm_get_s (mm_get_s (mm_get_s mm_get_0))) ?_
    refine mb_icmp_ge (pc := 122) 160 dX12_deals_122 rfl hr (fun hr => ?_) (fun hr => ?_)
    · refine mg_iconst (pc := 160) dX12_deals_160 kc_0 ?_
      refine ml_istore (pc := 161) dX12_deals_161 (Nat.le_of_ble_eq_true rfl) (mm_st1_s (mm_st1_s (mm_st1_s mm_st1_i))) ?_
      exact mg_weak (mm_le_s (mm_le_n (mm_le_s (mm_le_n (mm_le_s (mm_le_n (mm_le_n (mm_le_n mm_le_0)))))))) (X12_deals_L163_ok hz hd h0 _ _ _ _ hr)
    · refine ml_aload_n (pc := 125) dX12_deals_125 rfl (mm_get_s (mm_get_s mm_get_0)) ?_
      refine ml_iload (pc := 126) dX12_deals_126 (mm_get_s (mm_get_s (mm_get_s (mm_get_s mm_get_0)))) ?_
      refine ml_aload_n (pc := 128) dX12_deals_128 rfl mm_get_0 ?_
      refine mb_gi (pc := 129) dX12_deals_129 fl_X12_7 hr (fun x1 hr => ?_)
      refine mb_irem (pc := 132) dX12_deals_132 hr (fun hr => ?_)
      refine ml_aload_n (pc := 133) dX12_deals_133 rfl (mm_get_s (mm_get_s mm_get_0)) ?_
      refine ml_iload (pc := 134) dX12_deals_134 (mm_get_s (mm_get_s (mm_get_s (mm_get_s mm_get_0)))) ?_
      refine ml_aload_n (pc := 136) dX12_deals_136 rfl mm_get_0 ?_
      refine mb_gi (pc := 137) dX12_deals_137 fl_X12_7 hr (fun x2 hr => ?_)
      refine mb_irem (pc := 140) dX12_deals_140 hr (fun hr => ?_)
      refine mb_cSi (pc := 141) (As := [.ref a2, .int (i4 - i4 / x2 * x2)]) (rest := [.int (i4 - i4 / x1 * x1), .ref a2]) dX12_deals_141 cw_X12_327  hr (fun v hv => X12_size_ok hz (by omega)  hv) rfl (Nat.le_of_ble_eq_true rfl) (Nat.zero_le _) (Nat.zero_le _) (fun r3 hr => ?_)
      refine ml_aload_n (pc := 144) dX12_deals_144 rfl mm_get_0 ?_
      refine mb_gr (pc := 145) dX12_deals_145 fl_X12_66 hr (fun c4 hr => ?_)
      refine ml_iload (pc := 148) dX12_deals_148 (mm_get_s (mm_get_s (mm_get_s (mm_get_s mm_get_0)))) ?_
      refine mb_ai (pc := 150) dX12_deals_150 hr (fun x5 hr => ?_)
      refine mb_cSv (pc := 151) (As := [.ref a2, .int (i4 - i4 / x1 * x1), .int r3.1, .int x5]) (rest := []) dX12_deals_151 cw_X12_348  hr (fun v hv => X12_inserts_ok hz (by omega)  hv) rfl (Nat.le_of_ble_eq_true rfl) (Nat.zero_le _) (Nat.zero_le _) (fun r6 hr => ?_)
      refine ml_iinc (pc := 154) dX12_deals_154 (mm_get_s (mm_get_s (mm_get_s (mm_get_s mm_get_0)))) (congrArg (fun z => i4 + z) kc_1) (Nat.le_of_ble_eq_true rfl) (mm_st1_s (mm_st1_s (mm_st1_s mm_st1_i))) ?_
      refine mg_goto (pc := 157) 119 dX12_deals_157 rfl ?_
      exact mg_weak (mm_le_s (mm_le_n (mm_le_s (mm_le_s (mm_le_s (mm_le_n (mm_le_n (mm_le_n mm_le_0)))))))) (ih _ _ _ hr)
def X12_deals_L63 (e : mm_E) (a0 : Nat) (a2 : Nat) (i3 : Int32) : Nat → Int32 → mm_V → Option mm_V
  | 0, _, _ => none
  | n + 1, i4, m => if i4 ≤ 0 then (X12_deals_L119 e a0 a2 i3 e.2.2 (0 : Int32) m) else ((X12_draws e a0 (i4 + (1 : Int32)) m).bind fun r1 => (mm_gr e.1 r1.2 12 75 a0 42).bind fun c2 => (mm_ai e.1 r1.2 20 c2 i4).bind fun x3 => (mm_gr e.1 r1.2 12 75 a0 42).bind fun c4 => (mm_gr e.1 r1.2 12 75 a0 42).bind fun c5 => (mm_ai e.1 r1.2 20 c5 r1.1).bind fun x6 => (mm_si e.1 r1.2 c4 i4 x6).bind fun m7 => (mm_gr e.1 m7 12 75 a0 42).bind fun c8 => (mm_si e.1 m7 c8 r1.1 x3).bind fun m9 => X12_deals_L63 e a0 a2 i3 n (i4 + (-1)) m9)
theorem X12_deals_L63_ok {K : mm_K} {nx : Option Nat} {e : mm_E} (hz : e.2.1 = K.2.2.2.2) {d : Nat} (hd : 3 ≤ d) {a0 : Nat} {a2 : Nat} {i3 : Int32} (h0 : e.1 a0 = some (12, 75)) : ∀ (n : Nat) (i4 : Int32) (m : mm_V) (r : mm_V), X12_deals_L63 e a0 a2 i3 n i4 m = some r → mm_G K MX12_deals d (mm_Fv e.1 nx r) 63 [some (.ref a0), none, some (.ref a2), some (.int i3), some (.int i4), none, none, none] [] (e.1, m) nx 0 0 := by
  obtain ⟨d, rfl⟩ : ∃ d', d = d' + 1 := ⟨d - 1, by omega⟩
  intro n
  induction n with
  | zero => intro i4 m r hr; unfold X12_deals_L63 at hr; cases hr
  | succ n ih =>
    intro i4 m r hr
    unfold X12_deals_L63 at hr
    refine ml_iload (pc := 63) dX12_deals_63 (mm_get_s (mm_get_s (mm_get_s (mm_get_s mm_get_0)))) ?_
    refine mb_if_le (pc := 65) 116 dX12_deals_65 rfl hr (fun hr => ?_) (fun hr => ?_)
    · refine mg_iconst (pc := 116) dX12_deals_116 kc_0 ?_
      refine ml_istore (pc := 117) dX12_deals_117 (Nat.le_of_ble_eq_true rfl) (mm_st1_s (mm_st1_s (mm_st1_s mm_st1_i))) ?_
      exact mg_weak (mm_le_s (mm_le_n (mm_le_s (mm_le_s (mm_le_s (mm_le_n (mm_le_n (mm_le_n mm_le_0)))))))) (X12_deals_L119_ok hz hd h0 _ _ _ _ hr)
    · refine ml_aload_n (pc := 68) dX12_deals_68 rfl mm_get_0 ?_
      refine ml_iload (pc := 69) dX12_deals_69 (mm_get_s (mm_get_s (mm_get_s (mm_get_s mm_get_0)))) ?_
      refine mg_iconst (pc := 71) dX12_deals_71 kc_1 ?_
      refine mg_iadd (pc := 72) dX12_deals_72 ?_
      refine mb_cVi (pc := 73) (As := [.int (i4 + (1 : Int32))]) (rest := []) dX12_deals_73 cw_X12_359 h0 hr (fun v hv => X12_draws_ok hz (by omega) h0 hv) rfl (Nat.le_of_ble_eq_true rfl) (Nat.zero_le _) (Nat.zero_le _) (fun r1 hr => ?_)
      refine ml_istore (pc := 76) dX12_deals_76 (Nat.le_of_ble_eq_true rfl) (mm_st1_s (mm_st1_s (mm_st1_s (mm_st1_s mm_st1_i)))) ?_
      refine ml_aload_n (pc := 78) dX12_deals_78 rfl mm_get_0 ?_
      refine mb_gr (pc := 79) dX12_deals_79 fl_X12_66 hr (fun c2 hr => ?_)
      refine ml_iload (pc := 82) dX12_deals_82 (mm_get_s (mm_get_s (mm_get_s (mm_get_s mm_get_0)))) ?_
      refine mb_ai (pc := 84) dX12_deals_84 hr (fun x3 hr => ?_)
      refine ml_istore (pc := 85) dX12_deals_85 (Nat.le_of_ble_eq_true rfl) (mm_st1_s (mm_st1_s (mm_st1_s (mm_st1_s (mm_st1_s mm_st1_i))))) ?_
      refine ml_aload_n (pc := 87) dX12_deals_87 rfl mm_get_0 ?_
      refine mb_gr (pc := 88) dX12_deals_88 fl_X12_66 hr (fun c4 hr => ?_)
      refine ml_iload (pc := 91) dX12_deals_91 (mm_get_s (mm_get_s (mm_get_s (mm_get_s mm_get_0)))) ?_
      refine ml_aload_n (pc := 93) dX12_deals_93 rfl mm_get_0 ?_
      refine mb_gr (pc := 94) dX12_deals_94 fl_X12_66 hr (fun c5 hr => ?_)
      refine ml_iload (pc := 97) dX12_deals_97 (mm_get_s (mm_get_s (mm_get_s (mm_get_s (mm_get_s mm_get_0))))) ?_
      refine mb_ai (pc := 99) dX12_deals_99 hr (fun x6 hr => ?_)
      refine mb_si (pc := 100) dX12_deals_100 hr (fun m7 hr => ?_)
      refine ml_aload_n (pc := 101) dX12_deals_101 rfl mm_get_0 ?_
      refine mb_gr (pc := 102) dX12_deals_102 fl_X12_66 hr (fun c8 hr => ?_)
      refine ml_iload (pc := 105) dX12_deals_105 (mm_get_s (mm_get_s (mm_get_s (mm_get_s (mm_get_s mm_get_0))))) ?_
      refine ml_iload (pc := 107) dX12_deals_107 (mm_get_s (mm_get_s (mm_get_s (mm_get_s (mm_get_s (mm_get_s mm_get_0)))))) ?_
      refine mb_si (pc := 109) dX12_deals_109 hr (fun m9 hr => ?_)
      refine ml_iinc (pc := 110) dX12_deals_110 (mm_get_s (mm_get_s (mm_get_s (mm_get_s mm_get_0)))) (congrArg (fun z => i4 + z) kc_m1) (Nat.le_of_ble_eq_true rfl) (mm_st1_s (mm_st1_s (mm_st1_s mm_st1_i))) ?_
      refine mg_goto (pc := 113) 63 dX12_deals_113 rfl ?_
      exact mg_weak (mm_le_s (mm_le_n (mm_le_s (mm_le_s (mm_le_s (mm_le_n (mm_le_n (mm_le_n mm_le_0)))))))) (ih _ _ _ hr)
def X12_deals_L22 (e : mm_E) (a0 : Nat) (a2 : Nat) (i3 : Int32) : Nat → Int32 → mm_V → Option mm_V
  | 0, _, _ => none
  | n + 1, i4, m => if (i3 - (1 : Int32)) ≤ i4 then ((mm_gr e.1 m 12 75 a0 42).bind fun c1 => (mm_si e.1 m c1 (i3 - (1 : Int32)) (0 : Int32)).bind fun m2 => X12_deals_L63 e a0 a2 i3 e.2.2 (i3 - (1 : Int32)) m2) else ((mm_gr e.1 m 12 75 a0 42).bind fun c3 => (mm_si e.1 m c3 i4 ((i4 / (2 : Int32)) + (1 : Int32))).bind fun m4 => X12_deals_L22 e a0 a2 i3 n (i4 + 1) m4)
theorem X12_deals_L22_ok {K : mm_K} {nx : Option Nat} {e : mm_E} (hz : e.2.1 = K.2.2.2.2) {d : Nat} (hd : 3 ≤ d) {a0 : Nat} {a2 : Nat} {i3 : Int32} (h0 : e.1 a0 = some (12, 75)) : ∀ (n : Nat) (i4 : Int32) (m : mm_V) (r : mm_V), X12_deals_L22 e a0 a2 i3 n i4 m = some r → mm_G K MX12_deals d (mm_Fv e.1 nx r) 22 [some (.ref a0), none, some (.ref a2), some (.int i3), some (.int i4), none, none, none] [] (e.1, m) nx 0 0 := by
  obtain ⟨d, rfl⟩ : ∃ d', d = d' + 1 := ⟨d - 1, by omega⟩
  intro n
  induction n with
  | zero => intro i4 m r hr; unfold X12_deals_L22 at hr; cases hr
  | succ n ih =>
    intro i4 m r hr
    unfold X12_deals_L22 at hr
    refine ml_iload (pc := 22) dX12_deals_22 (mm_get_s (mm_get_s (mm_get_s (mm_get_s mm_get_0)))) ?_
    refine ml_iload_n (pc := 24) dX12_deals_24 rfl (mm_get_s (mm_get_s (mm_get_s mm_get_0))) ?_
    refine mg_iconst (pc := 25) dX12_deals_25 kc_1 ?_
    refine mg_isub (pc := 26) dX12_deals_26 ?_
    refine mb_icmp_ge (pc := 27) 49 dX12_deals_27 rfl hr (fun hr => ?_) (fun hr => ?_)
    · refine ml_aload_n (pc := 49) dX12_deals_49 rfl mm_get_0 ?_
      refine mb_gr (pc := 50) dX12_deals_50 fl_X12_66 hr (fun c1 hr => ?_)
      refine ml_iload_n (pc := 53) dX12_deals_53 rfl (mm_get_s (mm_get_s (mm_get_s mm_get_0))) ?_
      refine mg_iconst (pc := 54) dX12_deals_54 kc_1 ?_
      refine mg_isub (pc := 55) dX12_deals_55 ?_
      refine mg_iconst (pc := 56) dX12_deals_56 kc_0 ?_
      refine mb_si (pc := 57) dX12_deals_57 hr (fun m2 hr => ?_)
      refine ml_iload_n (pc := 58) dX12_deals_58 rfl (mm_get_s (mm_get_s (mm_get_s mm_get_0))) ?_
      refine mg_iconst (pc := 59) dX12_deals_59 kc_1 ?_
      refine mg_isub (pc := 60) dX12_deals_60 ?_
      refine ml_istore (pc := 61) dX12_deals_61 (Nat.le_of_ble_eq_true rfl) (mm_st1_s (mm_st1_s (mm_st1_s mm_st1_i))) ?_
      exact mg_weak (mm_le_s (mm_le_n (mm_le_s (mm_le_s (mm_le_s (mm_le_n (mm_le_n (mm_le_n mm_le_0)))))))) (X12_deals_L63_ok hz hd h0 _ _ _ _ hr)
    · refine ml_aload_n (pc := 30) dX12_deals_30 rfl mm_get_0 ?_
      refine mb_gr (pc := 31) dX12_deals_31 fl_X12_66 hr (fun c3 hr => ?_)
      refine ml_iload (pc := 34) dX12_deals_34 (mm_get_s (mm_get_s (mm_get_s (mm_get_s mm_get_0)))) ?_
      refine ml_iload (pc := 36) dX12_deals_36 (mm_get_s (mm_get_s (mm_get_s (mm_get_s mm_get_0)))) ?_
      refine mg_iconst (pc := 38) dX12_deals_38 kc_2 ?_
      refine mg_idiv (pc := 39) dX12_deals_39 (by decide) ?_
      refine mg_iconst (pc := 40) dX12_deals_40 kc_1 ?_
      refine mg_iadd (pc := 41) dX12_deals_41 ?_
      refine mb_si (pc := 42) dX12_deals_42 hr (fun m4 hr => ?_)
      refine ml_iinc (pc := 43) dX12_deals_43 (mm_get_s (mm_get_s (mm_get_s (mm_get_s mm_get_0)))) (congrArg (fun z => i4 + z) kc_1) (Nat.le_of_ble_eq_true rfl) (mm_st1_s (mm_st1_s (mm_st1_s mm_st1_i))) ?_
      refine mg_goto (pc := 46) 22 dX12_deals_46 rfl ?_
      exact mg_weak (mm_le_s (mm_le_n (mm_le_s (mm_le_s (mm_le_s (mm_le_n (mm_le_n (mm_le_n mm_le_0)))))))) (ih _ _ _ hr)
def X12_deals (e : mm_E) (a0 : Nat) (i1 : Int32) (a2 : Nat) (m : mm_V) : Option mm_V := (X12_clears e a0 a2 m).bind fun r1 => (mm_pf e.1 r1 12 75 a0 41 (.int i1)).bind fun m2 => (mm_gi e.1 m2 12 75 a0 2).bind fun x3 => X12_deals_L22 e a0 a2 (((2 : Int32) * x3) + (1 : Int32)) e.2.2 (0 : Int32) m2
theorem X12_deals_ok {K : mm_K} {nx : Option Nat} {e : mm_E} (hz : e.2.1 = K.2.2.2.2) {d : Nat} (hd : 3 ≤ d) {a0 : Nat} {i1 : Int32} {a2 : Nat} (h0 : e.1 a0 = some (12, 75)) {m : mm_V} {r : mm_V} (hr : X12_deals e a0 i1 a2 m = some r) : mm_Cn K MX12_deals d (mm_Fv e.1 nx r) [.ref a0, .int i1, .ref a2] (e.1, m) nx := by
  obtain ⟨d, rfl⟩ : ∃ d', d = d' + 1 := ⟨d - 1, by omega⟩
  refine mm_entry (by decide) (Nat.le_of_ble_eq_true rfl) rfl (fun hok => ?_)
  unfold X12_deals at hr
  refine mg_weak (L' := [some (.ref a0), some (.int i1), some (.ref a2), none, none, none, none, none]) (mm_le_s (mm_le_s (mm_le_s (mm_le_e (mm_le_e (mm_le_e (mm_le_e (mm_le_e mm_le_0)))))))) ?_
  refine ml_aload_n (pc := 0) dX12_deals_0 rfl mm_get_0 ?_
  refine ml_aload_n (pc := 1) dX12_deals_1 rfl (mm_get_s (mm_get_s mm_get_0)) ?_
  refine mb_cVv (pc := 2) (As := [.ref a2]) (rest := []) dX12_deals_2 cw_X12_345 h0 hr (fun v hv => X12_clears_ok hz (by omega) h0 hv) rfl (Nat.le_of_ble_eq_true rfl) (Nat.zero_le _) (Nat.zero_le _) (fun r1 hr => ?_)
  refine ml_aload_n (pc := 5) dX12_deals_5 rfl mm_get_0 ?_
  refine ml_iload_n (pc := 6) dX12_deals_6 rfl (mm_get_s mm_get_0) ?_
  refine mb_pi (pc := 7) dX12_deals_7 fp_X12_355 hr (fun m2 hr => ?_)
  refine mg_iconst (pc := 10) dX12_deals_10 kc_2 ?_
  refine ml_aload_n (pc := 11) dX12_deals_11 rfl mm_get_0 ?_
  refine mb_gi (pc := 12) dX12_deals_12 fl_X12_13 hr (fun x3 hr => ?_)
  refine mg_imul (pc := 15) dX12_deals_15 ?_
  refine mg_iconst (pc := 16) dX12_deals_16 kc_1 ?_
  refine mg_iadd (pc := 17) dX12_deals_17 ?_
  refine ml_istore_n (pc := 18) dX12_deals_18 rfl (Nat.le_of_ble_eq_true rfl) (mm_st1_s (mm_st1_s mm_st1_r)) ?_
  refine mg_iconst (pc := 19) dX12_deals_19 kc_0 ?_
  refine ml_istore (pc := 20) dX12_deals_20 (Nat.le_of_ble_eq_true rfl) (mm_st1_s (mm_st1_s (mm_st1_s mm_st1_i))) ?_
  exact mg_weak (mm_le_s (mm_le_n (mm_le_s (mm_le_s (mm_le_s (mm_le_n (mm_le_n (mm_le_n mm_le_0)))))))) (X12_deals_L22_ok hz hd h0 _ _ _ _ hr)
theorem dX12_begins_0 : decode cX12_begins 0 = .ok (.aload_n 0, 1) := by decide +kernel
theorem dX12_begins_1 : decode cX12_begins 1 = .ok (.aload_n 0, 1) := by decide +kernel
theorem dX12_begins_2 : decode cX12_begins 2 = .ok (.getfield 57, 3) := by decide +kernel
theorem dX12_begins_5 : decode cX12_begins 5 = .ok (.aload_n 0, 1) := by decide +kernel
theorem dX12_begins_6 : decode cX12_begins 6 = .ok (.getfield 60, 3) := by decide +kernel
theorem dX12_begins_9 : decode cX12_begins 9 = .ok (.invokevirtual 316, 3) := by decide +kernel
theorem dX12_begins_12 : decode cX12_begins 12 = .ok (.aload_n 0, 1) := by decide +kernel
theorem dX12_begins_13 : decode cX12_begins 13 = .ok (.iconst 0, 1) := by decide +kernel
theorem dX12_begins_14 : decode cX12_begins 14 = .ok (.putfield 365, 3) := by decide +kernel
theorem dX12_begins_17 : decode cX12_begins 17 = .ok (.return_, 1) := by decide +kernel
def X12_begins (e : mm_E) (a0 : Nat) (m : mm_V) : Option mm_V := (mm_gr e.1 m 12 75 a0 38).bind fun c1 => (mm_gr e.1 m 12 75 a0 39).bind fun c2 => (X12_copies e a0 c1 c2 m).bind fun r3 => (mm_pf e.1 r3 12 75 a0 48 (.int (0 : Int32))).bind fun m4 => some m4
theorem X12_begins_ok {K : mm_K} {nx : Option Nat} {e : mm_E} (hz : e.2.1 = K.2.2.2.2) {d : Nat} (hd : 1 ≤ d) {a0 : Nat} (h0 : e.1 a0 = some (12, 75)) {m : mm_V} {r : mm_V} (hr : X12_begins e a0 m = some r) : mm_Cn K MX12_begins d (mm_Fv e.1 nx r) [.ref a0] (e.1, m) nx := by
  obtain ⟨d, rfl⟩ : ∃ d', d = d' + 1 := ⟨d - 1, by omega⟩
  refine mm_entry (by decide) (Nat.le_of_ble_eq_true rfl) rfl (fun hok => ?_)
  unfold X12_begins at hr
  refine mg_weak (L' := [some (.ref a0)]) (mm_le_s mm_le_0) ?_
  refine ml_aload_n (pc := 0) dX12_begins_0 rfl mm_get_0 ?_
  refine ml_aload_n (pc := 1) dX12_begins_1 rfl mm_get_0 ?_
  refine mb_gr (pc := 2) dX12_begins_2 fl_X12_57 hr (fun c1 hr => ?_)
  refine ml_aload_n (pc := 5) dX12_begins_5 rfl mm_get_0 ?_
  refine mb_gr (pc := 6) dX12_begins_6 fl_X12_60 hr (fun c2 hr => ?_)
  refine mb_cVv (pc := 9) (As := [.ref c1, .ref c2]) (rest := []) dX12_begins_9 cw_X12_316 h0 hr (fun v hv => X12_copies_ok hz (by omega) h0 hv) rfl (Nat.le_of_ble_eq_true rfl) (Nat.zero_le _) (Nat.zero_le _) (fun r3 hr => ?_)
  refine ml_aload_n (pc := 12) dX12_begins_12 rfl mm_get_0 ?_
  refine mg_iconst (pc := 13) dX12_begins_13 kc_0 ?_
  refine mb_pi (pc := 14) dX12_begins_14 fp_X12_365 hr (fun m4 hr => ?_)
  exact mb_vret dX12_begins_17 rfl hr
theorem dX12_table_0 : decode cX12_table 0 = .ok (.aload_n 0, 1) := by decide +kernel
theorem dX12_table_1 : decode cX12_table 1 = .ok (.iconst 0, 1) := by decide +kernel
theorem dX12_table_2 : decode cX12_table 2 = .ok (.putfield 152, 3) := by decide +kernel
theorem dX12_table_5 : decode cX12_table 5 = .ok (.aload_n 0, 1) := by decide +kernel
theorem dX12_table_6 : decode cX12_table 6 = .ok (.iload_n 1, 1) := by decide +kernel
theorem dX12_table_7 : decode cX12_table 7 = .ok (.ifCond .lt 15, 3) := by decide +kernel
theorem dX12_table_10 : decode cX12_table 10 = .ok (.iload_n 1, 1) := by decide +kernel
theorem dX12_table_11 : decode cX12_table 11 = .ok (.aload_n 0, 1) := by decide +kernel
theorem dX12_table_12 : decode cX12_table 12 = .ok (.getfield 155, 3) := by decide +kernel
theorem dX12_table_15 : decode cX12_table 15 = .ok (.if_icmp .gt 7, 3) := by decide +kernel
theorem dX12_table_18 : decode cX12_table 18 = .ok (.iconst 1, 1) := by decide +kernel
theorem dX12_table_19 : decode cX12_table 19 = .ok (.goto 4, 3) := by decide +kernel
theorem dX12_table_22 : decode cX12_table 22 = .ok (.iconst 0, 1) := by decide +kernel
theorem dX12_table_23 : decode cX12_table 23 = .ok (.iconst 1, 1) := by decide +kernel
theorem dX12_table_24 : decode cX12_table 24 = .ok (.invokevirtual 306, 3) := by decide +kernel
theorem dX12_table_27 : decode cX12_table 27 = .ok (.ifCond .ne 5, 3) := by decide +kernel
theorem dX12_table_30 : decode cX12_table 30 = .ok (.iconst 0, 1) := by decide +kernel
theorem dX12_table_31 : decode cX12_table 31 = .ok (.ireturn, 1) := by decide +kernel
theorem dX12_table_32 : decode cX12_table 32 = .ok (.aload_n 0, 1) := by decide +kernel
theorem dX12_table_33 : decode cX12_table 33 = .ok (.iconst 0, 1) := by decide +kernel
theorem dX12_table_34 : decode cX12_table 34 = .ok (.putfield 155, 3) := by decide +kernel
theorem dX12_table_37 : decode cX12_table 37 = .ok (.aload_n 0, 1) := by decide +kernel
theorem dX12_table_38 : decode cX12_table 38 = .ok (.iconst (-1), 1) := by decide +kernel
theorem dX12_table_39 : decode cX12_table 39 = .ok (.putfield 29, 3) := by decide +kernel
theorem dX12_table_42 : decode cX12_table 42 = .ok (.aload_n 0, 1) := by decide +kernel
theorem dX12_table_43 : decode cX12_table 43 = .ok (.iconst 0, 1) := by decide +kernel
theorem dX12_table_44 : decode cX12_table 44 = .ok (.putfield 208, 3) := by decide +kernel
theorem dX12_table_47 : decode cX12_table 47 = .ok (.aload_n 0, 1) := by decide +kernel
theorem dX12_table_48 : decode cX12_table 48 = .ok (.iload_n 1, 1) := by decide +kernel
theorem dX12_table_49 : decode cX12_table 49 = .ok (.putfield 162, 3) := by decide +kernel
theorem dX12_table_52 : decode cX12_table 52 = .ok (.aload_n 0, 1) := by decide +kernel
theorem dX12_table_53 : decode cX12_table 53 = .ok (.iconst 0, 1) := by decide +kernel
theorem dX12_table_54 : decode cX12_table 54 = .ok (.putfield 165, 3) := by decide +kernel
theorem dX12_table_57 : decode cX12_table 57 = .ok (.aload_n 0, 1) := by decide +kernel
theorem dX12_table_58 : decode cX12_table 58 = .ok (.iconst 3, 1) := by decide +kernel
theorem dX12_table_59 : decode cX12_table 59 = .ok (.putfield 265, 3) := by decide +kernel
theorem dX12_table_62 : decode cX12_table 62 = .ok (.aload_n 0, 1) := by decide +kernel
theorem dX12_table_63 : decode cX12_table 63 = .ok (.iconst 5, 1) := by decide +kernel
theorem dX12_table_64 : decode cX12_table 64 = .ok (.putfield 282, 3) := by decide +kernel
theorem dX12_table_67 : decode cX12_table 67 = .ok (.aload_n 0, 1) := by decide +kernel
theorem dX12_table_68 : decode cX12_table 68 = .ok (.iconst 0, 1) := by decide +kernel
theorem dX12_table_69 : decode cX12_table 69 = .ok (.putfield 285, 3) := by decide +kernel
theorem dX12_table_72 : decode cX12_table 72 = .ok (.aload_n 0, 1) := by decide +kernel
theorem dX12_table_73 : decode cX12_table 73 = .ok (.iconst 0, 1) := by decide +kernel
theorem dX12_table_74 : decode cX12_table 74 = .ok (.putfield 275, 3) := by decide +kernel
theorem dX12_table_77 : decode cX12_table 77 = .ok (.aload_n 0, 1) := by decide +kernel
theorem dX12_table_78 : decode cX12_table 78 = .ok (.iconst 0, 1) := by decide +kernel
theorem dX12_table_79 : decode cX12_table 79 = .ok (.putfield 268, 3) := by decide +kernel
theorem dX12_table_82 : decode cX12_table 82 = .ok (.aload_n 0, 1) := by decide +kernel
theorem dX12_table_83 : decode cX12_table 83 = .ok (.iconst 0, 1) := by decide +kernel
theorem dX12_table_84 : decode cX12_table 84 = .ok (.putfield 271, 3) := by decide +kernel
theorem dX12_table_87 : decode cX12_table 87 = .ok (.aload_n 0, 1) := by decide +kernel
theorem dX12_table_88 : decode cX12_table 88 = .ok (.iconst 0, 1) := by decide +kernel
theorem dX12_table_89 : decode cX12_table 89 = .ok (.putfield 291, 3) := by decide +kernel
theorem dX12_table_92 : decode cX12_table 92 = .ok (.aload_n 0, 1) := by decide +kernel
theorem dX12_table_93 : decode cX12_table 93 = .ok (.iconst 1, 1) := by decide +kernel
theorem dX12_table_94 : decode cX12_table 94 = .ok (.putfield 139, 3) := by decide +kernel
theorem dX12_table_97 : decode cX12_table 97 = .ok (.iconst 0, 1) := by decide +kernel
theorem dX12_table_98 : decode cX12_table 98 = .ok (.istore_n 2, 1) := by decide +kernel
theorem dX12_table_99 : decode cX12_table 99 = .ok (.iload_n 2, 1) := by decide +kernel
theorem dX12_table_100 : decode cX12_table 100 = .ok (.bipush 12, 2) := by decide +kernel
theorem dX12_table_102 : decode cX12_table 102 = .ok (.if_icmp .ge 16, 3) := by decide +kernel
theorem dX12_table_105 : decode cX12_table 105 = .ok (.aload_n 0, 1) := by decide +kernel
theorem dX12_table_106 : decode cX12_table 106 = .ok (.getfield 35, 3) := by decide +kernel
theorem dX12_table_109 : decode cX12_table 109 = .ok (.iload_n 2, 1) := by decide +kernel
theorem dX12_table_110 : decode cX12_table 110 = .ok (.iconst 0, 1) := by decide +kernel
theorem dX12_table_111 : decode cX12_table 111 = .ok (.iastore, 1) := by decide +kernel
theorem dX12_table_112 : decode cX12_table 112 = .ok (.iinc 2 1, 3) := by decide +kernel
theorem dX12_table_115 : decode cX12_table 115 = .ok (.goto (-16), 3) := by decide +kernel
theorem dX12_table_118 : decode cX12_table 118 = .ok (.iconst 0, 1) := by decide +kernel
theorem dX12_table_119 : decode cX12_table 119 = .ok (.istore_n 2, 1) := by decide +kernel
theorem dX12_table_120 : decode cX12_table 120 = .ok (.iload_n 2, 1) := by decide +kernel
theorem dX12_table_121 : decode cX12_table 121 = .ok (.bipush 36, 2) := by decide +kernel
theorem dX12_table_123 : decode cX12_table 123 = .ok (.if_icmp .ge 16, 3) := by decide +kernel
theorem dX12_table_126 : decode cX12_table 126 = .ok (.aload_n 0, 1) := by decide +kernel
theorem dX12_table_127 : decode cX12_table 127 = .ok (.getfield 38, 3) := by decide +kernel
theorem dX12_table_130 : decode cX12_table 130 = .ok (.iload_n 2, 1) := by decide +kernel
theorem dX12_table_131 : decode cX12_table 131 = .ok (.iconst 0, 1) := by decide +kernel
theorem dX12_table_132 : decode cX12_table 132 = .ok (.iastore, 1) := by decide +kernel
theorem dX12_table_133 : decode cX12_table 133 = .ok (.iinc 2 1, 3) := by decide +kernel
theorem dX12_table_136 : decode cX12_table 136 = .ok (.goto (-16), 3) := by decide +kernel
theorem dX12_table_139 : decode cX12_table 139 = .ok (.iconst 0, 1) := by decide +kernel
theorem dX12_table_140 : decode cX12_table 140 = .ok (.istore_n 2, 1) := by decide +kernel
theorem dX12_table_141 : decode cX12_table 141 = .ok (.iload_n 2, 1) := by decide +kernel
theorem dX12_table_142 : decode cX12_table 142 = .ok (.bipush 121, 2) := by decide +kernel
theorem dX12_table_144 : decode cX12_table 144 = .ok (.if_icmp .ge 16, 3) := by decide +kernel
theorem dX12_table_147 : decode cX12_table 147 = .ok (.aload_n 0, 1) := by decide +kernel
theorem dX12_table_148 : decode cX12_table 148 = .ok (.getfield 41, 3) := by decide +kernel
theorem dX12_table_151 : decode cX12_table 151 = .ok (.iload_n 2, 1) := by decide +kernel
theorem dX12_table_152 : decode cX12_table 152 = .ok (.iconst 0, 1) := by decide +kernel
theorem dX12_table_153 : decode cX12_table 153 = .ok (.iastore, 1) := by decide +kernel
theorem dX12_table_154 : decode cX12_table 154 = .ok (.iinc 2 1, 3) := by decide +kernel
theorem dX12_table_157 : decode cX12_table 157 = .ok (.goto (-16), 3) := by decide +kernel
theorem dX12_table_160 : decode cX12_table 160 = .ok (.iconst 0, 1) := by decide +kernel
theorem dX12_table_161 : decode cX12_table 161 = .ok (.istore_n 2, 1) := by decide +kernel
theorem dX12_table_162 : decode cX12_table 162 = .ok (.iload_n 2, 1) := by decide +kernel
theorem dX12_table_163 : decode cX12_table 163 = .ok (.bipush 10, 2) := by decide +kernel
theorem dX12_table_165 : decode cX12_table 165 = .ok (.if_icmp .ge 16, 3) := by decide +kernel
theorem dX12_table_168 : decode cX12_table 168 = .ok (.aload_n 0, 1) := by decide +kernel
theorem dX12_table_169 : decode cX12_table 169 = .ok (.getfield 50, 3) := by decide +kernel
theorem dX12_table_172 : decode cX12_table 172 = .ok (.iload_n 2, 1) := by decide +kernel
theorem dX12_table_173 : decode cX12_table 173 = .ok (.iconst 0, 1) := by decide +kernel
theorem dX12_table_174 : decode cX12_table 174 = .ok (.iastore, 1) := by decide +kernel
theorem dX12_table_175 : decode cX12_table 175 = .ok (.iinc 2 1, 3) := by decide +kernel
theorem dX12_table_178 : decode cX12_table 178 = .ok (.goto (-16), 3) := by decide +kernel
theorem dX12_table_181 : decode cX12_table 181 = .ok (.aload_n 0, 1) := by decide +kernel
theorem dX12_table_182 : decode cX12_table 182 = .ok (.invokevirtual 215, 3) := by decide +kernel
theorem dX12_table_185 : decode cX12_table 185 = .ok (.aload_n 0, 1) := by decide +kernel
theorem dX12_table_186 : decode cX12_table 186 = .ok (.invokevirtual 211, 3) := by decide +kernel
theorem dX12_table_189 : decode cX12_table 189 = .ok (.ifCond .eq 17, 3) := by decide +kernel
theorem dX12_table_192 : decode cX12_table 192 = .ok (.aload_n 0, 1) := by decide +kernel
theorem dX12_table_193 : decode cX12_table 193 = .ok (.getfield 185, 3) := by decide +kernel
theorem dX12_table_196 : decode cX12_table 196 = .ok (.ifCond .eq 10, 3) := by decide +kernel
theorem dX12_table_199 : decode cX12_table 199 = .ok (.aload_n 0, 1) := by decide +kernel
theorem dX12_table_200 : decode cX12_table 200 = .ok (.invokevirtual 310, 3) := by decide +kernel
theorem dX12_table_203 : decode cX12_table 203 = .ok (.goto (-18), 3) := by decide +kernel
theorem dX12_table_206 : decode cX12_table 206 = .ok (.aload_n 0, 1) := by decide +kernel
theorem dX12_table_207 : decode cX12_table 207 = .ok (.getfield 50, 3) := by decide +kernel
theorem dX12_table_210 : decode cX12_table 210 = .ok (.iconst 0, 1) := by decide +kernel
theorem dX12_table_211 : decode cX12_table 211 = .ok (.iaload, 1) := by decide +kernel
theorem dX12_table_212 : decode cX12_table 212 = .ok (.iconst 1, 1) := by decide +kernel
theorem dX12_table_213 : decode cX12_table 213 = .ok (.if_icmp .ne 7, 3) := by decide +kernel
theorem dX12_table_216 : decode cX12_table 216 = .ok (.iconst 1, 1) := by decide +kernel
theorem dX12_table_217 : decode cX12_table 217 = .ok (.goto 4, 3) := by decide +kernel
theorem dX12_table_220 : decode cX12_table 220 = .ok (.iconst 0, 1) := by decide +kernel
theorem dX12_table_221 : decode cX12_table 221 = .ok (.istore_n 2, 1) := by decide +kernel
theorem dX12_table_222 : decode cX12_table 222 = .ok (.iconst 1, 1) := by decide +kernel
theorem dX12_table_223 : decode cX12_table 223 = .ok (.istore_n 3, 1) := by decide +kernel
theorem dX12_table_224 : decode cX12_table 224 = .ok (.iload_n 3, 1) := by decide +kernel
theorem dX12_table_225 : decode cX12_table 225 = .ok (.bipush 10, 2) := by decide +kernel
theorem dX12_table_227 : decode cX12_table 227 = .ok (.if_icmp .ge 29, 3) := by decide +kernel
theorem dX12_table_230 : decode cX12_table 230 = .ok (.iload_n 2, 1) := by decide +kernel
theorem dX12_table_231 : decode cX12_table 231 = .ok (.ifCond .eq 17, 3) := by decide +kernel
theorem dX12_table_234 : decode cX12_table 234 = .ok (.aload_n 0, 1) := by decide +kernel
theorem dX12_table_235 : decode cX12_table 235 = .ok (.getfield 50, 3) := by decide +kernel
theorem dX12_table_238 : decode cX12_table 238 = .ok (.iload_n 3, 1) := by decide +kernel
theorem dX12_table_239 : decode cX12_table 239 = .ok (.iaload, 1) := by decide +kernel
theorem dX12_table_240 : decode cX12_table 240 = .ok (.iconst 1, 1) := by decide +kernel
theorem dX12_table_241 : decode cX12_table 241 = .ok (.if_icmp .eq 7, 3) := by decide +kernel
theorem dX12_table_244 : decode cX12_table 244 = .ok (.iconst 1, 1) := by decide +kernel
theorem dX12_table_245 : decode cX12_table 245 = .ok (.goto 4, 3) := by decide +kernel
theorem dX12_table_248 : decode cX12_table 248 = .ok (.iconst 0, 1) := by decide +kernel
theorem dX12_table_249 : decode cX12_table 249 = .ok (.istore_n 2, 1) := by decide +kernel
theorem dX12_table_250 : decode cX12_table 250 = .ok (.iinc 3 1, 3) := by decide +kernel
theorem dX12_table_253 : decode cX12_table 253 = .ok (.goto (-29), 3) := by decide +kernel
theorem dX12_table_256 : decode cX12_table 256 = .ok (.aload_n 0, 1) := by decide +kernel
theorem dX12_table_257 : decode cX12_table 257 = .ok (.invokevirtual 211, 3) := by decide +kernel
theorem dX12_table_260 : decode cX12_table 260 = .ok (.ifCond .eq 25, 3) := by decide +kernel
theorem dX12_table_263 : decode cX12_table 263 = .ok (.aload_n 0, 1) := by decide +kernel
theorem dX12_table_264 : decode cX12_table 264 = .ok (.getfield 291, 3) := by decide +kernel
theorem dX12_table_267 : decode cX12_table 267 = .ok (.ifCond .eq 18, 3) := by decide +kernel
theorem dX12_table_270 : decode cX12_table 270 = .ok (.iload_n 2, 1) := by decide +kernel
theorem dX12_table_271 : decode cX12_table 271 = .ok (.ifCond .ne 14, 3) := by decide +kernel
theorem dX12_table_274 : decode cX12_table 274 = .ok (.aload_n 0, 1) := by decide +kernel
theorem dX12_table_275 : decode cX12_table 275 = .ok (.iload_n 1, 1) := by decide +kernel
theorem dX12_table_276 : decode cX12_table 276 = .ok (.putfield 172, 3) := by decide +kernel
theorem dX12_table_279 : decode cX12_table 279 = .ok (.aload_n 0, 1) := by decide +kernel
theorem dX12_table_280 : decode cX12_table 280 = .ok (.bipush 6, 2) := by decide +kernel
theorem dX12_table_282 : decode cX12_table 282 = .ok (.invokevirtual 218, 3) := by decide +kernel
theorem dX12_table_285 : decode cX12_table 285 = .ok (.aload_n 0, 1) := by decide +kernel
theorem dX12_table_286 : decode cX12_table 286 = .ok (.invokevirtual 211, 3) := by decide +kernel
theorem dX12_table_289 : decode cX12_table 289 = .ok (.ifCond .ne 18, 3) := by decide +kernel
theorem dX12_table_292 : decode cX12_table 292 = .ok (.aload_n 0, 1) := by decide +kernel
theorem dX12_table_293 : decode cX12_table 293 = .ok (.getfield 32, 3) := by decide +kernel
theorem dX12_table_296 : decode cX12_table 296 = .ok (.iconst 0, 1) := by decide +kernel
theorem dX12_table_297 : decode cX12_table 297 = .ok (.dup2, 1) := by decide +kernel
theorem dX12_table_298 : decode cX12_table 298 = .ok (.iaload, 1) := by decide +kernel
theorem dX12_table_299 : decode cX12_table 299 = .ok (.iconst 1, 1) := by decide +kernel
theorem dX12_table_300 : decode cX12_table 300 = .ok (.iadd, 1) := by decide +kernel
theorem dX12_table_301 : decode cX12_table 301 = .ok (.iastore, 1) := by decide +kernel
theorem dX12_table_302 : decode cX12_table 302 = .ok (.aload_n 0, 1) := by decide +kernel
theorem dX12_table_303 : decode cX12_table 303 = .ok (.getfield 208, 3) := by decide +kernel
theorem dX12_table_306 : decode cX12_table 306 = .ok (.ireturn, 1) := by decide +kernel
theorem dX12_table_307 : decode cX12_table 307 = .ok (.aload_n 0, 1) := by decide +kernel
theorem dX12_table_308 : decode cX12_table 308 = .ok (.aload_n 0, 1) := by decide +kernel
theorem dX12_table_309 : decode cX12_table 309 = .ok (.getfield 265, 3) := by decide +kernel
theorem dX12_table_312 : decode cX12_table 312 = .ok (.putfield 7, 3) := by decide +kernel
theorem dX12_table_315 : decode cX12_table 315 = .ok (.aload_n 0, 1) := by decide +kernel
theorem dX12_table_316 : decode cX12_table 316 = .ok (.aload_n 0, 1) := by decide +kernel
theorem dX12_table_317 : decode cX12_table 317 = .ok (.getfield 282, 3) := by decide +kernel
theorem dX12_table_320 : decode cX12_table 320 = .ok (.putfield 13, 3) := by decide +kernel
theorem dX12_table_323 : decode cX12_table 323 = .ok (.aload_n 0, 1) := by decide +kernel
theorem dX12_table_324 : decode cX12_table 324 = .ok (.aload_n 0, 1) := by decide +kernel
theorem dX12_table_325 : decode cX12_table 325 = .ok (.getfield 285, 3) := by decide +kernel
theorem dX12_table_328 : decode cX12_table 328 = .ok (.putfield 142, 3) := by decide +kernel
theorem dX12_table_331 : decode cX12_table 331 = .ok (.aload_n 0, 1) := by decide +kernel
theorem dX12_table_332 : decode cX12_table 332 = .ok (.aload_n 0, 1) := by decide +kernel
theorem dX12_table_333 : decode cX12_table 333 = .ok (.getfield 291, 3) := by decide +kernel
theorem dX12_table_336 : decode cX12_table 336 = .ok (.putfield 313, 3) := by decide +kernel
theorem dX12_table_339 : decode cX12_table 339 = .ok (.aload_n 0, 1) := by decide +kernel
theorem dX12_table_340 : decode cX12_table 340 = .ok (.aload_n 0, 1) := by decide +kernel
theorem dX12_table_341 : decode cX12_table 341 = .ok (.getfield 35, 3) := by decide +kernel
theorem dX12_table_344 : decode cX12_table 344 = .ok (.aload_n 0, 1) := by decide +kernel
theorem dX12_table_345 : decode cX12_table 345 = .ok (.getfield 16, 3) := by decide +kernel
theorem dX12_table_348 : decode cX12_table 348 = .ok (.invokevirtual 316, 3) := by decide +kernel
theorem dX12_table_351 : decode cX12_table 351 = .ok (.aload_n 0, 1) := by decide +kernel
theorem dX12_table_352 : decode cX12_table 352 = .ok (.aload_n 0, 1) := by decide +kernel
theorem dX12_table_353 : decode cX12_table 353 = .ok (.getfield 38, 3) := by decide +kernel
theorem dX12_table_356 : decode cX12_table 356 = .ok (.aload_n 0, 1) := by decide +kernel
theorem dX12_table_357 : decode cX12_table 357 = .ok (.getfield 20, 3) := by decide +kernel
theorem dX12_table_360 : decode cX12_table 360 = .ok (.invokevirtual 316, 3) := by decide +kernel
theorem dX12_table_363 : decode cX12_table 363 = .ok (.aload_n 0, 1) := by decide +kernel
theorem dX12_table_364 : decode cX12_table 364 = .ok (.aload_n 0, 1) := by decide +kernel
theorem dX12_table_365 : decode cX12_table 365 = .ok (.getfield 44, 3) := by decide +kernel
theorem dX12_table_368 : decode cX12_table 368 = .ok (.aload_n 0, 1) := by decide +kernel
theorem dX12_table_369 : decode cX12_table 369 = .ok (.getfield 23, 3) := by decide +kernel
theorem dX12_table_372 : decode cX12_table 372 = .ok (.invokevirtual 316, 3) := by decide +kernel
theorem dX12_table_375 : decode cX12_table 375 = .ok (.aload_n 0, 1) := by decide +kernel
theorem dX12_table_376 : decode cX12_table 376 = .ok (.getfield 313, 3) := by decide +kernel
theorem dX12_table_379 : decode cX12_table 379 = .ok (.ifCond .eq 14, 3) := by decide +kernel
theorem dX12_table_382 : decode cX12_table 382 = .ok (.aload_n 0, 1) := by decide +kernel
theorem dX12_table_383 : decode cX12_table 383 = .ok (.aload_n 0, 1) := by decide +kernel
theorem dX12_table_384 : decode cX12_table 384 = .ok (.getfield 57, 3) := by decide +kernel
theorem dX12_table_387 : decode cX12_table 387 = .ok (.invokevirtual 320, 3) := by decide +kernel
theorem dX12_table_390 : decode cX12_table 390 = .ok (.goto 15, 3) := by decide +kernel
theorem dX12_table_393 : decode cX12_table 393 = .ok (.aload_n 0, 1) := by decide +kernel
theorem dX12_table_394 : decode cX12_table 394 = .ok (.aload_n 0, 1) := by decide +kernel
theorem dX12_table_395 : decode cX12_table 395 = .ok (.getfield 142, 3) := by decide +kernel
theorem dX12_table_398 : decode cX12_table 398 = .ok (.aload_n 0, 1) := by decide +kernel
theorem dX12_table_399 : decode cX12_table 399 = .ok (.getfield 57, 3) := by decide +kernel
theorem dX12_table_402 : decode cX12_table 402 = .ok (.invokevirtual 145, 3) := by decide +kernel
theorem dX12_table_405 : decode cX12_table 405 = .ok (.aload_n 0, 1) := by decide +kernel
theorem dX12_table_406 : decode cX12_table 406 = .ok (.invokevirtual 149, 3) := by decide +kernel
theorem dX12_table_409 : decode cX12_table 409 = .ok (.aload_n 0, 1) := by decide +kernel
theorem dX12_table_410 : decode cX12_table 410 = .ok (.iconst 0, 1) := by decide +kernel
theorem dX12_table_411 : decode cX12_table 411 = .ok (.putfield 324, 3) := by decide +kernel
theorem dX12_table_414 : decode cX12_table 414 = .ok (.iconst 0, 1) := by decide +kernel
theorem dX12_table_415 : decode cX12_table 415 = .ok (.ireturn, 1) := by decide +kernel
def X12_table_b405 (e : mm_E) (a0 : Nat) (m : mm_V) : Option (Int32 × mm_V) := (X12_begins e a0 m).bind fun r1 => (mm_pz e.1 r1 12 75 a0 71 (0 : Int32)).bind fun m2 => some ((0 : Int32), m2)
theorem X12_table_b405_ok {K : mm_K} {nx : Option Nat} {e : mm_E} (hz : e.2.1 = K.2.2.2.2) {d : Nat} (hd : 7 ≤ d) {a0 : Nat} (h0 : e.1 a0 = some (12, 75)) {m : mm_V} {r : (Int32 × mm_V)} (hr : X12_table_b405 e a0 m = some r) : mm_G K MX12_table d (mm_Fi e.1 nx r) 405 [some (.ref a0), none, none, none] [] (e.1, m) nx 0 0 := by
  obtain ⟨d, rfl⟩ : ∃ d', d = d' + 1 := ⟨d - 1, by omega⟩
  unfold X12_table_b405 at hr
  refine ml_aload_n (pc := 405) dX12_table_405 rfl mm_get_0 ?_
  refine mb_cVv (pc := 406) (As := []) (rest := []) dX12_table_406 cw_X12_149 h0 hr (fun v hv => X12_begins_ok hz (by omega) h0 hv) rfl (Nat.le_of_ble_eq_true rfl) (Nat.zero_le _) (Nat.zero_le _) (fun r1 hr => ?_)
  refine ml_aload_n (pc := 409) dX12_table_409 rfl mm_get_0 ?_
  refine mg_iconst (pc := 410) dX12_table_410 kc_0 ?_
  refine mb_pz (pc := 411) dX12_table_411 fp_X12_324 hr (fun m2 hr => ?_)
  refine mg_iconst (pc := 414) dX12_table_414 kc_0 ?_
  exact mb_iret dX12_table_415 rfl hr
def X12_table_b285 (e : mm_E) (a0 : Nat) (m : mm_V) : Option (Int32 × mm_V) := (X12_isGood e a0 m).bind fun r1 => if ¬ r1.1 = 0 then ((mm_gi e.1 r1.2 12 75 a0 21).bind fun x2 => (mm_pf e.1 r1.2 12 75 a0 1 (.int x2)).bind fun m3 => (mm_gi e.1 m3 12 75 a0 22).bind fun x4 => (mm_pf e.1 m3 12 75 a0 2 (.int x4)).bind fun m5 => (mm_gi e.1 m5 12 75 a0 23).bind fun x6 => (mm_pf e.1 m5 12 75 a0 3 (.int x6)).bind fun m7 => (mm_gi e.1 m7 12 75 a0 29).bind fun x8 => (mm_pz e.1 m7 12 75 a0 4 x8).bind fun m9 => (mm_gr e.1 m9 12 75 a0 31).bind fun c10 => (mm_gr e.1 m9 12 75 a0 5).bind fun c11 => (X12_copies e a0 c10 c11 m9).bind fun r12 => (mm_gr e.1 r12 12 75 a0 32).bind fun c13 => (mm_gr e.1 r12 12 75 a0 6).bind fun c14 => (X12_copies e a0 c13 c14 r12).bind fun r15 => (mm_gr e.1 r15 12 75 a0 34).bind fun c16 => (mm_gr e.1 r15 12 75 a0 7).bind fun c17 => (X12_copies e a0 c16 c17 r15).bind fun r18 => (mm_gi e.1 r18 12 75 a0 4).bind fun x19 => if x19 = 0 then ((mm_gi e.1 r18 12 75 a0 3).bind fun x20 => (mm_gr e.1 r18 12 75 a0 38).bind fun c21 => (X12_deals e a0 x20 c21 r18).bind fun r22 => X12_table_b405 e a0  r22) else ((mm_gr e.1 r18 12 75 a0 38).bind fun c23 => (X12_tells e a0 c23 r18).bind fun r24 => X12_table_b405 e a0  r24)) else ((mm_gr e.1 r1.2 12 75 a0 12).bind fun c25 => (mm_ai e.1 r1.2 20 c25 (0 : Int32)).bind fun x26 => (mm_si e.1 r1.2 c25 (0 : Int32) (x26 + (1 : Int32))).bind fun m27 => (mm_gi e.1 m27 12 75 a0 10).bind fun x28 => some (x28, m27))
theorem X12_table_b285_ok {K : mm_K} {nx : Option Nat} {e : mm_E} (hz : e.2.1 = K.2.2.2.2) {d : Nat} (hd : 7 ≤ d) {a0 : Nat} (h0 : e.1 a0 = some (12, 75)) {m : mm_V} {r : (Int32 × mm_V)} (hr : X12_table_b285 e a0 m = some r) : mm_G K MX12_table d (mm_Fi e.1 nx r) 285 [some (.ref a0), none, none, none] [] (e.1, m) nx 0 0 := by
  obtain ⟨d, rfl⟩ : ∃ d', d = d' + 1 := ⟨d - 1, by omega⟩
  unfold X12_table_b285 at hr
  refine ml_aload_n (pc := 285) dX12_table_285 rfl mm_get_0 ?_
  refine mb_cVi (pc := 286) (As := []) (rest := []) dX12_table_286 cw_X12_211 h0 hr (fun v hv => X12_isGood_ok hz (by omega) h0 hv) rfl (Nat.le_of_ble_eq_true rfl) (Nat.zero_le _) (Nat.zero_le _) (fun r1 hr => ?_)
  refine mb_if_ne (pc := 289) 307 dX12_table_289 rfl hr (fun hr => ?_) (fun hr => ?_)
  · refine ml_aload_n (pc := 307) dX12_table_307 rfl mm_get_0 ?_
    refine ml_aload_n (pc := 308) dX12_table_308 rfl mm_get_0 ?_
    refine mb_gi (pc := 309) dX12_table_309 fl_X12_265 hr (fun x2 hr => ?_)
    refine mb_pi (pc := 312) dX12_table_312 fp_X12_7 hr (fun m3 hr => ?_)
    refine ml_aload_n (pc := 315) dX12_table_315 rfl mm_get_0 ?_
    refine ml_aload_n (pc := 316) dX12_table_316 rfl mm_get_0 ?_
    refine mb_gi (pc := 317) dX12_table_317 fl_X12_282 hr (fun x4 hr => ?_)
    refine mb_pi (pc := 320) dX12_table_320 fp_X12_13 hr (fun m5 hr => ?_)
    refine ml_aload_n (pc := 323) dX12_table_323 rfl mm_get_0 ?_
    refine ml_aload_n (pc := 324) dX12_table_324 rfl mm_get_0 ?_
    refine mb_gi (pc := 325) dX12_table_325 fl_X12_285 hr (fun x6 hr => ?_)
    refine mb_pi (pc := 328) dX12_table_328 fp_X12_142 hr (fun m7 hr => ?_)
    refine ml_aload_n (pc := 331) dX12_table_331 rfl mm_get_0 ?_
    refine ml_aload_n (pc := 332) dX12_table_332 rfl mm_get_0 ?_
    refine mb_gi (pc := 333) dX12_table_333 fl_X12_291 hr (fun x8 hr => ?_)
    refine mb_pz (pc := 336) dX12_table_336 fp_X12_313 hr (fun m9 hr => ?_)
    refine ml_aload_n (pc := 339) dX12_table_339 rfl mm_get_0 ?_
    refine ml_aload_n (pc := 340) dX12_table_340 rfl mm_get_0 ?_
    refine mb_gr (pc := 341) dX12_table_341 fl_X12_35 hr (fun c10 hr => ?_)
    refine ml_aload_n (pc := 344) dX12_table_344 rfl mm_get_0 ?_
    refine mb_gr (pc := 345) dX12_table_345 fl_X12_16 hr (fun c11 hr => ?_)
    refine mb_cVv (pc := 348) (As := [.ref c10, .ref c11]) (rest := []) dX12_table_348 cw_X12_316 h0 hr (fun v hv => X12_copies_ok hz (by omega) h0 hv) rfl (Nat.le_of_ble_eq_true rfl) (Nat.zero_le _) (Nat.zero_le _) (fun r12 hr => ?_)
    refine ml_aload_n (pc := 351) dX12_table_351 rfl mm_get_0 ?_
    refine ml_aload_n (pc := 352) dX12_table_352 rfl mm_get_0 ?_
    refine mb_gr (pc := 353) dX12_table_353 fl_X12_38 hr (fun c13 hr => ?_)
    refine ml_aload_n (pc := 356) dX12_table_356 rfl mm_get_0 ?_
    refine mb_gr (pc := 357) dX12_table_357 fl_X12_20 hr (fun c14 hr => ?_)
    refine mb_cVv (pc := 360) (As := [.ref c13, .ref c14]) (rest := []) dX12_table_360 cw_X12_316 h0 hr (fun v hv => X12_copies_ok hz (by omega) h0 hv) rfl (Nat.le_of_ble_eq_true rfl) (Nat.zero_le _) (Nat.zero_le _) (fun r15 hr => ?_)
    refine ml_aload_n (pc := 363) dX12_table_363 rfl mm_get_0 ?_
    refine ml_aload_n (pc := 364) dX12_table_364 rfl mm_get_0 ?_
    refine mb_gr (pc := 365) dX12_table_365 fl_X12_44 hr (fun c16 hr => ?_)
    refine ml_aload_n (pc := 368) dX12_table_368 rfl mm_get_0 ?_
    refine mb_gr (pc := 369) dX12_table_369 fl_X12_23 hr (fun c17 hr => ?_)
    refine mb_cVv (pc := 372) (As := [.ref c16, .ref c17]) (rest := []) dX12_table_372 cw_X12_316 h0 hr (fun v hv => X12_copies_ok hz (by omega) h0 hv) rfl (Nat.le_of_ble_eq_true rfl) (Nat.zero_le _) (Nat.zero_le _) (fun r18 hr => ?_)
    refine ml_aload_n (pc := 375) dX12_table_375 rfl mm_get_0 ?_
    refine mb_gi (pc := 376) dX12_table_376 fl_X12_313 hr (fun x19 hr => ?_)
    refine mb_if_eq (pc := 379) 393 dX12_table_379 rfl hr (fun hr => ?_) (fun hr => ?_)
    · refine ml_aload_n (pc := 393) dX12_table_393 rfl mm_get_0 ?_
      refine ml_aload_n (pc := 394) dX12_table_394 rfl mm_get_0 ?_
      refine mb_gi (pc := 395) dX12_table_395 fl_X12_142 hr (fun x20 hr => ?_)
      refine ml_aload_n (pc := 398) dX12_table_398 rfl mm_get_0 ?_
      refine mb_gr (pc := 399) dX12_table_399 fl_X12_57 hr (fun c21 hr => ?_)
      refine mb_cVv (pc := 402) (As := [.int x20, .ref c21]) (rest := []) dX12_table_402 cw_X12_145 h0 hr (fun v hv => X12_deals_ok hz (by omega) h0 hv) rfl (Nat.le_of_ble_eq_true rfl) (Nat.zero_le _) (Nat.zero_le _) (fun r22 hr => ?_)
      exact mg_weak (mm_le_s (mm_le_n (mm_le_n (mm_le_n mm_le_0)))) (X12_table_b405_ok hz hd h0 hr)
    · refine ml_aload_n (pc := 382) dX12_table_382 rfl mm_get_0 ?_
      refine ml_aload_n (pc := 383) dX12_table_383 rfl mm_get_0 ?_
      refine mb_gr (pc := 384) dX12_table_384 fl_X12_57 hr (fun c23 hr => ?_)
      refine mb_cVv (pc := 387) (As := [.ref c23]) (rest := []) dX12_table_387 cw_X12_320 h0 hr (fun v hv => X12_tells_ok hz (by omega) h0 hv) rfl (Nat.le_of_ble_eq_true rfl) (Nat.zero_le _) (Nat.zero_le _) (fun r24 hr => ?_)
      refine mg_goto (pc := 390) 405 dX12_table_390 rfl ?_
      exact mg_weak (mm_le_s (mm_le_n (mm_le_n (mm_le_n mm_le_0)))) (X12_table_b405_ok hz hd h0 hr)
  · refine ml_aload_n (pc := 292) dX12_table_292 rfl mm_get_0 ?_
    refine mb_gr (pc := 293) dX12_table_293 fl_X12_32 hr (fun c25 hr => ?_)
    refine mg_iconst (pc := 296) dX12_table_296 kc_0 ?_
    refine mg_dup2 (pc := 297) dX12_table_297 rfl rfl ?_
    refine mb_ai (pc := 298) dX12_table_298 hr (fun x26 hr => ?_)
    refine mg_iconst (pc := 299) dX12_table_299 kc_1 ?_
    refine mg_iadd (pc := 300) dX12_table_300 ?_
    refine mb_si (pc := 301) dX12_table_301 hr (fun m27 hr => ?_)
    refine ml_aload_n (pc := 302) dX12_table_302 rfl mm_get_0 ?_
    refine mb_gi (pc := 303) dX12_table_303 fl_X12_208 hr (fun x28 hr => ?_)
    exact mb_iret dX12_table_306 rfl hr
def X12_table_b249 (e : mm_E) (k224 : Int32 → Int32 → mm_V → Option (Int32 × mm_V)) (a0 : Nat) (i1 : Int32) (i3 : Int32) (t0 : Int32) (m : mm_V) : Option (Int32 × mm_V) := k224 t0 (i3 + 1) m
theorem X12_table_b249_ok {K : mm_K} {nx : Option Nat} {e : mm_E} (hz : e.2.1 = K.2.2.2.2) {d : Nat} (hd : 7 ≤ d) {a0 : Nat} {i1 : Int32} {i3 : Int32} {t0 : Int32} (h0 : e.1 a0 = some (12, 75)) {k224 : Int32 → Int32 → mm_V → Option (Int32 × mm_V)} (hk224 : ∀ (w2 : Int32) (w3 : Int32) (m : mm_V) (r : (Int32 × mm_V)), k224 w2 w3 m = some r → mm_G K MX12_table d (mm_Fi e.1 nx r) 224 [some (.ref a0), some (.int i1), some (.int w2), some (.int w3)] [] (e.1, m) nx 0 0) {m : mm_V} {r : (Int32 × mm_V)} (hr : X12_table_b249 e k224 a0 i1 i3 t0 m = some r) : mm_G K MX12_table d (mm_Fi e.1 nx r) 249 [some (.ref a0), some (.int i1), none, some (.int i3)] [.int t0] (e.1, m) nx 0 0 := by
  obtain ⟨d, rfl⟩ : ∃ d', d = d' + 1 := ⟨d - 1, by omega⟩
  unfold X12_table_b249 at hr
  refine ml_istore_n (pc := 249) dX12_table_249 rfl (Nat.le_of_ble_eq_true rfl) (mm_st1_s mm_st1_i) ?_
  refine ml_iinc (pc := 250) dX12_table_250 (mm_get_s (mm_get_s (mm_get_s mm_get_0))) (congrArg (fun z => i3 + z) kc_1) (Nat.le_of_ble_eq_true rfl) (mm_st1_s (mm_st1_s mm_st1_i)) ?_
  refine mg_goto (pc := 253) 224 dX12_table_253 rfl ?_
  exact mg_weak (mm_le_s (mm_le_s (mm_le_s (mm_le_s mm_le_0)))) (hk224 _ _ _ _ hr)
def X12_table_b248 (e : mm_E) (k224 : Int32 → Int32 → mm_V → Option (Int32 × mm_V)) (a0 : Nat) (i1 : Int32) (i3 : Int32) (m : mm_V) : Option (Int32 × mm_V) := X12_table_b249 e k224 a0 i1 i3 (0 : Int32) m
theorem X12_table_b248_ok {K : mm_K} {nx : Option Nat} {e : mm_E} (hz : e.2.1 = K.2.2.2.2) {d : Nat} (hd : 7 ≤ d) {a0 : Nat} {i1 : Int32} {i3 : Int32} (h0 : e.1 a0 = some (12, 75)) {k224 : Int32 → Int32 → mm_V → Option (Int32 × mm_V)} (hk224 : ∀ (w2 : Int32) (w3 : Int32) (m : mm_V) (r : (Int32 × mm_V)), k224 w2 w3 m = some r → mm_G K MX12_table d (mm_Fi e.1 nx r) 224 [some (.ref a0), some (.int i1), some (.int w2), some (.int w3)] [] (e.1, m) nx 0 0) {m : mm_V} {r : (Int32 × mm_V)} (hr : X12_table_b248 e k224 a0 i1 i3 m = some r) : mm_G K MX12_table d (mm_Fi e.1 nx r) 248 [some (.ref a0), some (.int i1), none, some (.int i3)] [] (e.1, m) nx 0 0 := by
  obtain ⟨d, rfl⟩ : ∃ d', d = d' + 1 := ⟨d - 1, by omega⟩
  unfold X12_table_b248 at hr
  refine mg_iconst (pc := 248) dX12_table_248 kc_0 ?_
  exact mg_weak (mm_le_s (mm_le_s (mm_le_n (mm_le_s mm_le_0)))) (X12_table_b249_ok hz hd h0 hk224 hr)
def X12_table_L224 (e : mm_E) (a0 : Nat) (i1 : Int32) : Nat → Int32 → Int32 → mm_V → Option (Int32 × mm_V)
  | 0, _, _, _ => none
  | n + 1, i2, i3, m => if (10 : Int32) ≤ i3 then ((X12_isGood e a0 m).bind fun r1 => if r1.1 = 0 then (X12_table_b285 e a0  r1.2) else ((mm_gi e.1 r1.2 12 75 a0 29).bind fun x2 => if x2 = 0 then (X12_table_b285 e a0  r1.2) else (if ¬ i2 = 0 then (X12_table_b285 e a0  r1.2) else ((mm_pf e.1 r1.2 12 75 a0 16 (.int i1)).bind fun m3 => (X12_wrong e a0 (6 : Int32) m3).bind fun r4 => X12_table_b285 e a0  r4)))) else (if i2 = 0 then (X12_table_b248 e (X12_table_L224 e a0 i1 n) a0 i1 i3  m) else ((mm_gr e.1 m 12 75 a0 36).bind fun c5 => (mm_ai e.1 m 20 c5 i3).bind fun x6 => if x6 = (1 : Int32) then (X12_table_b248 e (X12_table_L224 e a0 i1 n) a0 i1 i3  m) else (X12_table_b249 e (X12_table_L224 e a0 i1 n) a0 i1 i3 (1 : Int32) m)))
theorem X12_table_L224_ok {K : mm_K} {nx : Option Nat} {e : mm_E} (hz : e.2.1 = K.2.2.2.2) {d : Nat} (hd : 7 ≤ d) {a0 : Nat} {i1 : Int32} (h0 : e.1 a0 = some (12, 75)) : ∀ (n : Nat) (i2 : Int32) (i3 : Int32) (m : mm_V) (r : (Int32 × mm_V)), X12_table_L224 e a0 i1 n i2 i3 m = some r → mm_G K MX12_table d (mm_Fi e.1 nx r) 224 [some (.ref a0), some (.int i1), some (.int i2), some (.int i3)] [] (e.1, m) nx 0 0 := by
  obtain ⟨d, rfl⟩ : ∃ d', d = d' + 1 := ⟨d - 1, by omega⟩
  intro n
  induction n with
  | zero => intro i2 i3 m r hr; unfold X12_table_L224 at hr; cases hr
  | succ n ih =>
    intro i2 i3 m r hr
    unfold X12_table_L224 at hr
    refine ml_iload_n (pc := 224) dX12_table_224 rfl (mm_get_s (mm_get_s (mm_get_s mm_get_0))) ?_
    refine mg_bipush (pc := 225) dX12_table_225 kb_10 ?_
    refine mb_icmp_ge (pc := 227) 256 dX12_table_227 rfl hr (fun hr => ?_) (fun hr => ?_)
    · refine ml_aload_n (pc := 256) dX12_table_256 rfl mm_get_0 ?_
      refine mb_cVi (pc := 257) (As := []) (rest := []) dX12_table_257 cw_X12_211 h0 hr (fun v hv => X12_isGood_ok hz (by omega) h0 hv) rfl (Nat.le_of_ble_eq_true rfl) (Nat.zero_le _) (Nat.zero_le _) (fun r1 hr => ?_)
      refine mb_if_eq (pc := 260) 285 dX12_table_260 rfl hr (fun hr => ?_) (fun hr => ?_)
      · exact mg_weak (mm_le_s (mm_le_n (mm_le_n (mm_le_n mm_le_0)))) (X12_table_b285_ok hz hd h0 hr)
      · refine ml_aload_n (pc := 263) dX12_table_263 rfl mm_get_0 ?_
        refine mb_gi (pc := 264) dX12_table_264 fl_X12_291 hr (fun x2 hr => ?_)
        refine mb_if_eq (pc := 267) 285 dX12_table_267 rfl hr (fun hr => ?_) (fun hr => ?_)
        · exact mg_weak (mm_le_s (mm_le_n (mm_le_n (mm_le_n mm_le_0)))) (X12_table_b285_ok hz hd h0 hr)
        · refine ml_iload_n (pc := 270) dX12_table_270 rfl (mm_get_s (mm_get_s mm_get_0)) ?_
          refine mb_if_ne (pc := 271) 285 dX12_table_271 rfl hr (fun hr => ?_) (fun hr => ?_)
          · exact mg_weak (mm_le_s (mm_le_n (mm_le_n (mm_le_n mm_le_0)))) (X12_table_b285_ok hz hd h0 hr)
          · refine ml_aload_n (pc := 274) dX12_table_274 rfl mm_get_0 ?_
            refine ml_iload_n (pc := 275) dX12_table_275 rfl (mm_get_s mm_get_0) ?_
            refine mb_pi (pc := 276) dX12_table_276 fp_X12_172 hr (fun m3 hr => ?_)
            refine ml_aload_n (pc := 279) dX12_table_279 rfl mm_get_0 ?_
            refine mg_bipush (pc := 280) dX12_table_280 kb_6 ?_
            refine mb_cVv (pc := 282) (As := [.int (6 : Int32)]) (rest := []) dX12_table_282 cw_X12_218 h0 hr (fun v hv => X12_wrong_ok hz (by omega) h0 hv) rfl (Nat.le_of_ble_eq_true rfl) (Nat.zero_le _) (Nat.zero_le _) (fun r4 hr => ?_)
            exact mg_weak (mm_le_s (mm_le_n (mm_le_n (mm_le_n mm_le_0)))) (X12_table_b285_ok hz hd h0 hr)
    · refine ml_iload_n (pc := 230) dX12_table_230 rfl (mm_get_s (mm_get_s mm_get_0)) ?_
      refine mb_if_eq (pc := 231) 248 dX12_table_231 rfl hr (fun hr => ?_) (fun hr => ?_)
      · exact mg_weak (mm_le_s (mm_le_s (mm_le_n (mm_le_s mm_le_0)))) (X12_table_b248_ok hz hd h0 ih hr)
      · refine ml_aload_n (pc := 234) dX12_table_234 rfl mm_get_0 ?_
        refine mb_gr (pc := 235) dX12_table_235 fl_X12_50 hr (fun c5 hr => ?_)
        refine ml_iload_n (pc := 238) dX12_table_238 rfl (mm_get_s (mm_get_s (mm_get_s mm_get_0))) ?_
        refine mb_ai (pc := 239) dX12_table_239 hr (fun x6 hr => ?_)
        refine mg_iconst (pc := 240) dX12_table_240 kc_1 ?_
        refine mb_icmp_eq (pc := 241) 248 dX12_table_241 rfl hr (fun hr => ?_) (fun hr => ?_)
        · exact mg_weak (mm_le_s (mm_le_s (mm_le_n (mm_le_s mm_le_0)))) (X12_table_b248_ok hz hd h0 ih hr)
        · refine mg_iconst (pc := 244) dX12_table_244 kc_1 ?_
          refine mg_goto (pc := 245) 249 dX12_table_245 rfl ?_
          exact mg_weak (mm_le_s (mm_le_s (mm_le_n (mm_le_s mm_le_0)))) (X12_table_b249_ok hz hd h0 ih hr)
def X12_table_b221 (e : mm_E) (a0 : Nat) (i1 : Int32) (t0 : Int32) (m : mm_V) : Option (Int32 × mm_V) := X12_table_L224 e a0 i1 e.2.2 t0 (1 : Int32) m
theorem X12_table_b221_ok {K : mm_K} {nx : Option Nat} {e : mm_E} (hz : e.2.1 = K.2.2.2.2) {d : Nat} (hd : 7 ≤ d) {a0 : Nat} {i1 : Int32} {t0 : Int32} (h0 : e.1 a0 = some (12, 75)) {m : mm_V} {r : (Int32 × mm_V)} (hr : X12_table_b221 e a0 i1 t0 m = some r) : mm_G K MX12_table d (mm_Fi e.1 nx r) 221 [some (.ref a0), some (.int i1), none, none] [.int t0] (e.1, m) nx 0 0 := by
  obtain ⟨d, rfl⟩ : ∃ d', d = d' + 1 := ⟨d - 1, by omega⟩
  unfold X12_table_b221 at hr
  refine ml_istore_n (pc := 221) dX12_table_221 rfl (Nat.le_of_ble_eq_true rfl) (mm_st1_s mm_st1_i) ?_
  refine mg_iconst (pc := 222) dX12_table_222 kc_1 ?_
  refine ml_istore_n (pc := 223) dX12_table_223 rfl (Nat.le_of_ble_eq_true rfl) (mm_st1_s (mm_st1_s mm_st1_i)) ?_
  exact mg_weak (mm_le_s (mm_le_s (mm_le_s (mm_le_s mm_le_0)))) (X12_table_L224_ok hz hd h0 _ _ _ _ _ hr)
def X12_table_b206 (e : mm_E) (a0 : Nat) (i1 : Int32) (m : mm_V) : Option (Int32 × mm_V) := (mm_gr e.1 m 12 75 a0 36).bind fun c1 => (mm_ai e.1 m 20 c1 (0 : Int32)).bind fun x2 => if ¬ x2 = (1 : Int32) then (X12_table_b221 e a0 i1 (0 : Int32) m) else (X12_table_b221 e a0 i1 (1 : Int32) m)
theorem X12_table_b206_ok {K : mm_K} {nx : Option Nat} {e : mm_E} (hz : e.2.1 = K.2.2.2.2) {d : Nat} (hd : 7 ≤ d) {a0 : Nat} {i1 : Int32} (h0 : e.1 a0 = some (12, 75)) {m : mm_V} {r : (Int32 × mm_V)} (hr : X12_table_b206 e a0 i1 m = some r) : mm_G K MX12_table d (mm_Fi e.1 nx r) 206 [some (.ref a0), some (.int i1), none, none] [] (e.1, m) nx 0 0 := by
  obtain ⟨d, rfl⟩ : ∃ d', d = d' + 1 := ⟨d - 1, by omega⟩
  unfold X12_table_b206 at hr
  refine ml_aload_n (pc := 206) dX12_table_206 rfl mm_get_0 ?_
  refine mb_gr (pc := 207) dX12_table_207 fl_X12_50 hr (fun c1 hr => ?_)
  refine mg_iconst (pc := 210) dX12_table_210 kc_0 ?_
  refine mb_ai (pc := 211) dX12_table_211 hr (fun x2 hr => ?_)
  refine mg_iconst (pc := 212) dX12_table_212 kc_1 ?_
  refine mb_icmp_ne (pc := 213) 220 dX12_table_213 rfl hr (fun hr => ?_) (fun hr => ?_)
  · refine mg_iconst (pc := 220) dX12_table_220 kc_0 ?_
    exact mg_weak (mm_le_s (mm_le_s (mm_le_n (mm_le_n mm_le_0)))) (X12_table_b221_ok hz hd h0 hr)
  · refine mg_iconst (pc := 216) dX12_table_216 kc_1 ?_
    refine mg_goto (pc := 217) 221 dX12_table_217 rfl ?_
    exact mg_weak (mm_le_s (mm_le_s (mm_le_n (mm_le_n mm_le_0)))) (X12_table_b221_ok hz hd h0 hr)
def X12_table_L185 (e : mm_E) (a0 : Nat) (i1 : Int32) : Nat → mm_V → Option (Int32 × mm_V)
  | 0, _ => none
  | n + 1, m => (X12_isGood e a0 m).bind fun r1 => if r1.1 = 0 then (X12_table_b206 e a0 i1  r1.2) else ((mm_gi e.1 r1.2 12 75 a0 15).bind fun x2 => if x2 = 0 then (X12_table_b206 e a0 i1  r1.2) else ((X12_line e a0 r1.2).bind fun r3 => X12_table_L185 e a0 i1 n  r3))
theorem X12_table_L185_ok {K : mm_K} {nx : Option Nat} {e : mm_E} (hz : e.2.1 = K.2.2.2.2) {d : Nat} (hd : 7 ≤ d) {a0 : Nat} {i1 : Int32} (h0 : e.1 a0 = some (12, 75)) : ∀ (n : Nat) (m : mm_V) (r : (Int32 × mm_V)), X12_table_L185 e a0 i1 n  m = some r → mm_G K MX12_table d (mm_Fi e.1 nx r) 185 [some (.ref a0), some (.int i1), none, none] [] (e.1, m) nx 0 0 := by
  obtain ⟨d, rfl⟩ : ∃ d', d = d' + 1 := ⟨d - 1, by omega⟩
  intro n
  induction n with
  | zero => intro m r hr; unfold X12_table_L185 at hr; cases hr
  | succ n ih =>
    intro m r hr
    unfold X12_table_L185 at hr
    refine ml_aload_n (pc := 185) dX12_table_185 rfl mm_get_0 ?_
    refine mb_cVi (pc := 186) (As := []) (rest := []) dX12_table_186 cw_X12_211 h0 hr (fun v hv => X12_isGood_ok hz (by omega) h0 hv) rfl (Nat.le_of_ble_eq_true rfl) (Nat.zero_le _) (Nat.zero_le _) (fun r1 hr => ?_)
    refine mb_if_eq (pc := 189) 206 dX12_table_189 rfl hr (fun hr => ?_) (fun hr => ?_)
    · exact mg_weak (mm_le_s (mm_le_s (mm_le_n (mm_le_n mm_le_0)))) (X12_table_b206_ok hz hd h0 hr)
    · refine ml_aload_n (pc := 192) dX12_table_192 rfl mm_get_0 ?_
      refine mb_gi (pc := 193) dX12_table_193 fl_X12_185 hr (fun x2 hr => ?_)
      refine mb_if_eq (pc := 196) 206 dX12_table_196 rfl hr (fun hr => ?_) (fun hr => ?_)
      · exact mg_weak (mm_le_s (mm_le_s (mm_le_n (mm_le_n mm_le_0)))) (X12_table_b206_ok hz hd h0 hr)
      · refine ml_aload_n (pc := 199) dX12_table_199 rfl mm_get_0 ?_
        refine mb_cVv (pc := 200) (As := []) (rest := []) dX12_table_200 cw_X12_310 h0 hr (fun v hv => X12_line_ok hz (by omega) h0 hv) rfl (Nat.le_of_ble_eq_true rfl) (Nat.zero_le _) (Nat.zero_le _) (fun r3 hr => ?_)
        refine mg_goto (pc := 203) 185 dX12_table_203 rfl ?_
        exact mg_weak (mm_le_s (mm_le_s (mm_le_n (mm_le_n mm_le_0)))) (ih  _ _ hr)
def X12_table_L162 (e : mm_E) (a0 : Nat) (i1 : Int32) : Nat → Int32 → mm_V → Option (Int32 × mm_V)
  | 0, _, _ => none
  | n + 1, i2, m => if (10 : Int32) ≤ i2 then ((X12_goes e a0 m).bind fun r1 => X12_table_L185 e a0 i1 e.2.2  r1) else ((mm_gr e.1 m 12 75 a0 36).bind fun c2 => (mm_si e.1 m c2 i2 (0 : Int32)).bind fun m3 => X12_table_L162 e a0 i1 n (i2 + 1) m3)
theorem X12_table_L162_ok {K : mm_K} {nx : Option Nat} {e : mm_E} (hz : e.2.1 = K.2.2.2.2) {d : Nat} (hd : 7 ≤ d) {a0 : Nat} {i1 : Int32} (h0 : e.1 a0 = some (12, 75)) : ∀ (n : Nat) (i2 : Int32) (m : mm_V) (r : (Int32 × mm_V)), X12_table_L162 e a0 i1 n i2 m = some r → mm_G K MX12_table d (mm_Fi e.1 nx r) 162 [some (.ref a0), some (.int i1), some (.int i2), none] [] (e.1, m) nx 0 0 := by
  obtain ⟨d, rfl⟩ : ∃ d', d = d' + 1 := ⟨d - 1, by omega⟩
  intro n
  induction n with
  | zero => intro i2 m r hr; unfold X12_table_L162 at hr; cases hr
  | succ n ih =>
    intro i2 m r hr
    unfold X12_table_L162 at hr
    refine ml_iload_n (pc := 162) dX12_table_162 rfl (mm_get_s (mm_get_s mm_get_0)) ?_
    refine mg_bipush (pc := 163) dX12_table_163 kb_10 ?_
    refine mb_icmp_ge (pc := 165) 181 dX12_table_165 rfl hr (fun hr => ?_) (fun hr => ?_)
    · refine ml_aload_n (pc := 181) dX12_table_181 rfl mm_get_0 ?_
      refine mb_cVv (pc := 182) (As := []) (rest := []) dX12_table_182 cw_X12_215 h0 hr (fun v hv => X12_goes_ok hz (by omega) h0 hv) rfl (Nat.le_of_ble_eq_true rfl) (Nat.zero_le _) (Nat.zero_le _) (fun r1 hr => ?_)
      exact mg_weak (mm_le_s (mm_le_s (mm_le_n (mm_le_n mm_le_0)))) (X12_table_L185_ok hz hd h0 _  _ _ hr)
    · refine ml_aload_n (pc := 168) dX12_table_168 rfl mm_get_0 ?_
      refine mb_gr (pc := 169) dX12_table_169 fl_X12_50 hr (fun c2 hr => ?_)
      refine ml_iload_n (pc := 172) dX12_table_172 rfl (mm_get_s (mm_get_s mm_get_0)) ?_
      refine mg_iconst (pc := 173) dX12_table_173 kc_0 ?_
      refine mb_si (pc := 174) dX12_table_174 hr (fun m3 hr => ?_)
      refine ml_iinc (pc := 175) dX12_table_175 (mm_get_s (mm_get_s mm_get_0)) (congrArg (fun z => i2 + z) kc_1) (Nat.le_of_ble_eq_true rfl) (mm_st1_s mm_st1_i) ?_
      refine mg_goto (pc := 178) 162 dX12_table_178 rfl ?_
      exact mg_weak (mm_le_s (mm_le_s (mm_le_s (mm_le_n mm_le_0)))) (ih _ _ _ hr)
def X12_table_L141 (e : mm_E) (a0 : Nat) (i1 : Int32) : Nat → Int32 → mm_V → Option (Int32 × mm_V)
  | 0, _, _ => none
  | n + 1, i2, m => if (121 : Int32) ≤ i2 then (X12_table_L162 e a0 i1 e.2.2 (0 : Int32) m) else ((mm_gr e.1 m 12 75 a0 33).bind fun c1 => (mm_si e.1 m c1 i2 (0 : Int32)).bind fun m2 => X12_table_L141 e a0 i1 n (i2 + 1) m2)
theorem X12_table_L141_ok {K : mm_K} {nx : Option Nat} {e : mm_E} (hz : e.2.1 = K.2.2.2.2) {d : Nat} (hd : 7 ≤ d) {a0 : Nat} {i1 : Int32} (h0 : e.1 a0 = some (12, 75)) : ∀ (n : Nat) (i2 : Int32) (m : mm_V) (r : (Int32 × mm_V)), X12_table_L141 e a0 i1 n i2 m = some r → mm_G K MX12_table d (mm_Fi e.1 nx r) 141 [some (.ref a0), some (.int i1), some (.int i2), none] [] (e.1, m) nx 0 0 := by
  obtain ⟨d, rfl⟩ : ∃ d', d = d' + 1 := ⟨d - 1, by omega⟩
  intro n
  induction n with
  | zero => intro i2 m r hr; unfold X12_table_L141 at hr; cases hr
  | succ n ih =>
    intro i2 m r hr
    unfold X12_table_L141 at hr
    refine ml_iload_n (pc := 141) dX12_table_141 rfl (mm_get_s (mm_get_s mm_get_0)) ?_
    refine mg_bipush (pc := 142) dX12_table_142 kb_121 ?_
    refine mb_icmp_ge (pc := 144) 160 dX12_table_144 rfl hr (fun hr => ?_) (fun hr => ?_)
    · refine mg_iconst (pc := 160) dX12_table_160 kc_0 ?_
      refine ml_istore_n (pc := 161) dX12_table_161 rfl (Nat.le_of_ble_eq_true rfl) (mm_st1_s mm_st1_i) ?_
      exact mg_weak (mm_le_s (mm_le_s (mm_le_s (mm_le_n mm_le_0)))) (X12_table_L162_ok hz hd h0 _ _ _ _ hr)
    · refine ml_aload_n (pc := 147) dX12_table_147 rfl mm_get_0 ?_
      refine mb_gr (pc := 148) dX12_table_148 fl_X12_41 hr (fun c1 hr => ?_)
      refine ml_iload_n (pc := 151) dX12_table_151 rfl (mm_get_s (mm_get_s mm_get_0)) ?_
      refine mg_iconst (pc := 152) dX12_table_152 kc_0 ?_
      refine mb_si (pc := 153) dX12_table_153 hr (fun m2 hr => ?_)
      refine ml_iinc (pc := 154) dX12_table_154 (mm_get_s (mm_get_s mm_get_0)) (congrArg (fun z => i2 + z) kc_1) (Nat.le_of_ble_eq_true rfl) (mm_st1_s mm_st1_i) ?_
      refine mg_goto (pc := 157) 141 dX12_table_157 rfl ?_
      exact mg_weak (mm_le_s (mm_le_s (mm_le_s (mm_le_n mm_le_0)))) (ih _ _ _ hr)
def X12_table_L120 (e : mm_E) (a0 : Nat) (i1 : Int32) : Nat → Int32 → mm_V → Option (Int32 × mm_V)
  | 0, _, _ => none
  | n + 1, i2, m => if (36 : Int32) ≤ i2 then (X12_table_L141 e a0 i1 e.2.2 (0 : Int32) m) else ((mm_gr e.1 m 12 75 a0 32).bind fun c1 => (mm_si e.1 m c1 i2 (0 : Int32)).bind fun m2 => X12_table_L120 e a0 i1 n (i2 + 1) m2)
theorem X12_table_L120_ok {K : mm_K} {nx : Option Nat} {e : mm_E} (hz : e.2.1 = K.2.2.2.2) {d : Nat} (hd : 7 ≤ d) {a0 : Nat} {i1 : Int32} (h0 : e.1 a0 = some (12, 75)) : ∀ (n : Nat) (i2 : Int32) (m : mm_V) (r : (Int32 × mm_V)), X12_table_L120 e a0 i1 n i2 m = some r → mm_G K MX12_table d (mm_Fi e.1 nx r) 120 [some (.ref a0), some (.int i1), some (.int i2), none] [] (e.1, m) nx 0 0 := by
  obtain ⟨d, rfl⟩ : ∃ d', d = d' + 1 := ⟨d - 1, by omega⟩
  intro n
  induction n with
  | zero => intro i2 m r hr; unfold X12_table_L120 at hr; cases hr
  | succ n ih =>
    intro i2 m r hr
    unfold X12_table_L120 at hr
    refine ml_iload_n (pc := 120) dX12_table_120 rfl (mm_get_s (mm_get_s mm_get_0)) ?_
    refine mg_bipush (pc := 121) dX12_table_121 kb_36 ?_
    refine mb_icmp_ge (pc := 123) 139 dX12_table_123 rfl hr (fun hr => ?_) (fun hr => ?_)
    · refine mg_iconst (pc := 139) dX12_table_139 kc_0 ?_
      refine ml_istore_n (pc := 140) dX12_table_140 rfl (Nat.le_of_ble_eq_true rfl) (mm_st1_s mm_st1_i) ?_
      exact mg_weak (mm_le_s (mm_le_s (mm_le_s (mm_le_n mm_le_0)))) (X12_table_L141_ok hz hd h0 _ _ _ _ hr)
    · refine ml_aload_n (pc := 126) dX12_table_126 rfl mm_get_0 ?_
      refine mb_gr (pc := 127) dX12_table_127 fl_X12_38 hr (fun c1 hr => ?_)
      refine ml_iload_n (pc := 130) dX12_table_130 rfl (mm_get_s (mm_get_s mm_get_0)) ?_
      refine mg_iconst (pc := 131) dX12_table_131 kc_0 ?_
      refine mb_si (pc := 132) dX12_table_132 hr (fun m2 hr => ?_)
      refine ml_iinc (pc := 133) dX12_table_133 (mm_get_s (mm_get_s mm_get_0)) (congrArg (fun z => i2 + z) kc_1) (Nat.le_of_ble_eq_true rfl) (mm_st1_s mm_st1_i) ?_
      refine mg_goto (pc := 136) 120 dX12_table_136 rfl ?_
      exact mg_weak (mm_le_s (mm_le_s (mm_le_s (mm_le_n mm_le_0)))) (ih _ _ _ hr)
def X12_table_L99 (e : mm_E) (a0 : Nat) (i1 : Int32) : Nat → Int32 → mm_V → Option (Int32 × mm_V)
  | 0, _, _ => none
  | n + 1, i2, m => if (12 : Int32) ≤ i2 then (X12_table_L120 e a0 i1 e.2.2 (0 : Int32) m) else ((mm_gr e.1 m 12 75 a0 31).bind fun c1 => (mm_si e.1 m c1 i2 (0 : Int32)).bind fun m2 => X12_table_L99 e a0 i1 n (i2 + 1) m2)
theorem X12_table_L99_ok {K : mm_K} {nx : Option Nat} {e : mm_E} (hz : e.2.1 = K.2.2.2.2) {d : Nat} (hd : 7 ≤ d) {a0 : Nat} {i1 : Int32} (h0 : e.1 a0 = some (12, 75)) : ∀ (n : Nat) (i2 : Int32) (m : mm_V) (r : (Int32 × mm_V)), X12_table_L99 e a0 i1 n i2 m = some r → mm_G K MX12_table d (mm_Fi e.1 nx r) 99 [some (.ref a0), some (.int i1), some (.int i2), none] [] (e.1, m) nx 0 0 := by
  obtain ⟨d, rfl⟩ : ∃ d', d = d' + 1 := ⟨d - 1, by omega⟩
  intro n
  induction n with
  | zero => intro i2 m r hr; unfold X12_table_L99 at hr; cases hr
  | succ n ih =>
    intro i2 m r hr
    unfold X12_table_L99 at hr
    refine ml_iload_n (pc := 99) dX12_table_99 rfl (mm_get_s (mm_get_s mm_get_0)) ?_
    refine mg_bipush (pc := 100) dX12_table_100 kb_12 ?_
    refine mb_icmp_ge (pc := 102) 118 dX12_table_102 rfl hr (fun hr => ?_) (fun hr => ?_)
    · refine mg_iconst (pc := 118) dX12_table_118 kc_0 ?_
      refine ml_istore_n (pc := 119) dX12_table_119 rfl (Nat.le_of_ble_eq_true rfl) (mm_st1_s mm_st1_i) ?_
      exact mg_weak (mm_le_s (mm_le_s (mm_le_s (mm_le_n mm_le_0)))) (X12_table_L120_ok hz hd h0 _ _ _ _ hr)
    · refine ml_aload_n (pc := 105) dX12_table_105 rfl mm_get_0 ?_
      refine mb_gr (pc := 106) dX12_table_106 fl_X12_35 hr (fun c1 hr => ?_)
      refine ml_iload_n (pc := 109) dX12_table_109 rfl (mm_get_s (mm_get_s mm_get_0)) ?_
      refine mg_iconst (pc := 110) dX12_table_110 kc_0 ?_
      refine mb_si (pc := 111) dX12_table_111 hr (fun m2 hr => ?_)
      refine ml_iinc (pc := 112) dX12_table_112 (mm_get_s (mm_get_s mm_get_0)) (congrArg (fun z => i2 + z) kc_1) (Nat.le_of_ble_eq_true rfl) (mm_st1_s mm_st1_i) ?_
      refine mg_goto (pc := 115) 99 dX12_table_115 rfl ?_
      exact mg_weak (mm_le_s (mm_le_s (mm_le_s (mm_le_n mm_le_0)))) (ih _ _ _ hr)
def X12_table_b23 (e : mm_E) (a0 : Nat) (i1 : Int32) (t0 : Nat) (t1 : Int32) (m : mm_V) : Option (Int32 × mm_V) := if e.1 t0 = some (12, 75) then ((X12_right e t0 t1 (1 : Int32) m).bind fun r1 => if ¬ r1.1 = 0 then ((mm_pf e.1 r1.2 12 75 a0 9 (.int (0 : Int32))).bind fun m3 => (mm_pf e.1 m3 12 75 a0 11 (.int (-1 : Int32))).bind fun m4 => (mm_pf e.1 m4 12 75 a0 10 (.int (0 : Int32))).bind fun m5 => (mm_pf e.1 m5 12 75 a0 13 (.int i1)).bind fun m6 => (mm_pf e.1 m6 12 75 a0 14 (.int (0 : Int32))).bind fun m7 => (mm_pf e.1 m7 12 75 a0 21 (.int (3 : Int32))).bind fun m8 => (mm_pf e.1 m8 12 75 a0 22 (.int (5 : Int32))).bind fun m9 => (mm_pf e.1 m9 12 75 a0 23 (.int (0 : Int32))).bind fun m10 => (mm_pf e.1 m10 12 75 a0 24 (.int (0 : Int32))).bind fun m11 => (mm_pf e.1 m11 12 75 a0 30 (.int (0 : Int32))).bind fun m12 => (mm_pz e.1 m12 12 75 a0 28 (0 : Int32)).bind fun m13 => (mm_pz e.1 m13 12 75 a0 29 (0 : Int32)).bind fun m14 => (mm_pf e.1 m14 12 75 a0 25 (.int (1 : Int32))).bind fun m15 => X12_table_L99 e a0 i1 e.2.2 (0 : Int32) m15) else (some ((0 : Int32), r1.2))) else none
theorem X12_table_b23_ok {K : mm_K} {nx : Option Nat} {e : mm_E} (hz : e.2.1 = K.2.2.2.2) {d : Nat} (hd : 7 ≤ d) {a0 : Nat} {i1 : Int32} {t0 : Nat} {t1 : Int32} (h0 : e.1 a0 = some (12, 75)) {m : mm_V} {r : (Int32 × mm_V)} (hr : X12_table_b23 e a0 i1 t0 t1 m = some r) : mm_G K MX12_table d (mm_Fi e.1 nx r) 23 [some (.ref a0), some (.int i1), none, none] [.int t1, .ref t0] (e.1, m) nx 0 0 := by
  obtain ⟨d, rfl⟩ : ∃ d', d = d' + 1 := ⟨d - 1, by omega⟩
  unfold X12_table_b23 at hr
  refine mg_iconst (pc := 23) dX12_table_23 kc_1 ?_
  refine mb_ck hr (fun hb2 hr => ?_)
  refine mb_cVi (pc := 24) (As := [.int t1, .int (1 : Int32)]) (rest := []) dX12_table_24 cw_X12_306 hb2 hr (fun v hv => X12_right_ok hz (by omega) hb2 hv) rfl (Nat.le_of_ble_eq_true rfl) (Nat.zero_le _) (Nat.zero_le _) (fun r1 hr => ?_)
  refine mb_if_ne (pc := 27) 32 dX12_table_27 rfl hr (fun hr => ?_) (fun hr => ?_)
  · refine ml_aload_n (pc := 32) dX12_table_32 rfl mm_get_0 ?_
    refine mg_iconst (pc := 33) dX12_table_33 kc_0 ?_
    refine mb_pi (pc := 34) dX12_table_34 fp_X12_155 hr (fun m3 hr => ?_)
    refine ml_aload_n (pc := 37) dX12_table_37 rfl mm_get_0 ?_
    refine mg_iconst (pc := 38) dX12_table_38 kc_m1 ?_
    refine mb_pi (pc := 39) dX12_table_39 fp_X12_29 hr (fun m4 hr => ?_)
    refine ml_aload_n (pc := 42) dX12_table_42 rfl mm_get_0 ?_
    refine mg_iconst (pc := 43) dX12_table_43 kc_0 ?_
    refine mb_pi (pc := 44) dX12_table_44 fp_X12_208 hr (fun m5 hr => ?_)
    refine ml_aload_n (pc := 47) dX12_table_47 rfl mm_get_0 ?_
    refine ml_iload_n (pc := 48) dX12_table_48 rfl (mm_get_s mm_get_0) ?_
    refine mb_pi (pc := 49) dX12_table_49 fp_X12_162 hr (fun m6 hr => ?_)
    refine ml_aload_n (pc := 52) dX12_table_52 rfl mm_get_0 ?_
    refine mg_iconst (pc := 53) dX12_table_53 kc_0 ?_
    refine mb_pi (pc := 54) dX12_table_54 fp_X12_165 hr (fun m7 hr => ?_)
    refine ml_aload_n (pc := 57) dX12_table_57 rfl mm_get_0 ?_
    refine mg_iconst (pc := 58) dX12_table_58 kc_3 ?_
    refine mb_pi (pc := 59) dX12_table_59 fp_X12_265 hr (fun m8 hr => ?_)
    refine ml_aload_n (pc := 62) dX12_table_62 rfl mm_get_0 ?_
    refine mg_iconst (pc := 63) dX12_table_63 kc_5 ?_
    refine mb_pi (pc := 64) dX12_table_64 fp_X12_282 hr (fun m9 hr => ?_)
    refine ml_aload_n (pc := 67) dX12_table_67 rfl mm_get_0 ?_
    refine mg_iconst (pc := 68) dX12_table_68 kc_0 ?_
    refine mb_pi (pc := 69) dX12_table_69 fp_X12_285 hr (fun m10 hr => ?_)
    refine ml_aload_n (pc := 72) dX12_table_72 rfl mm_get_0 ?_
    refine mg_iconst (pc := 73) dX12_table_73 kc_0 ?_
    refine mb_pi (pc := 74) dX12_table_74 fp_X12_275 hr (fun m11 hr => ?_)
    refine ml_aload_n (pc := 77) dX12_table_77 rfl mm_get_0 ?_
    refine mg_iconst (pc := 78) dX12_table_78 kc_0 ?_
    refine mb_pi (pc := 79) dX12_table_79 fp_X12_268 hr (fun m12 hr => ?_)
    refine ml_aload_n (pc := 82) dX12_table_82 rfl mm_get_0 ?_
    refine mg_iconst (pc := 83) dX12_table_83 kc_0 ?_
    refine mb_pz (pc := 84) dX12_table_84 fp_X12_271 hr (fun m13 hr => ?_)
    refine ml_aload_n (pc := 87) dX12_table_87 rfl mm_get_0 ?_
    refine mg_iconst (pc := 88) dX12_table_88 kc_0 ?_
    refine mb_pz (pc := 89) dX12_table_89 fp_X12_291 hr (fun m14 hr => ?_)
    refine ml_aload_n (pc := 92) dX12_table_92 rfl mm_get_0 ?_
    refine mg_iconst (pc := 93) dX12_table_93 kc_1 ?_
    refine mb_pi (pc := 94) dX12_table_94 fp_X12_139 hr (fun m15 hr => ?_)
    refine mg_iconst (pc := 97) dX12_table_97 kc_0 ?_
    refine ml_istore_n (pc := 98) dX12_table_98 rfl (Nat.le_of_ble_eq_true rfl) (mm_st1_s mm_st1_i) ?_
    exact mg_weak (mm_le_s (mm_le_s (mm_le_s (mm_le_n mm_le_0)))) (X12_table_L99_ok hz hd h0 _ _ _ _ hr)
  · refine mg_iconst (pc := 30) dX12_table_30 kc_0 ?_
    exact mb_iret dX12_table_31 rfl hr
def X12_table_b22 (e : mm_E) (a0 : Nat) (i1 : Int32) (t0 : Nat) (m : mm_V) : Option (Int32 × mm_V) := X12_table_b23 e a0 i1 t0 (0 : Int32) m
theorem X12_table_b22_ok {K : mm_K} {nx : Option Nat} {e : mm_E} (hz : e.2.1 = K.2.2.2.2) {d : Nat} (hd : 7 ≤ d) {a0 : Nat} {i1 : Int32} {t0 : Nat} (h0 : e.1 a0 = some (12, 75)) {m : mm_V} {r : (Int32 × mm_V)} (hr : X12_table_b22 e a0 i1 t0 m = some r) : mm_G K MX12_table d (mm_Fi e.1 nx r) 22 [some (.ref a0), some (.int i1), none, none] [.ref t0] (e.1, m) nx 0 0 := by
  obtain ⟨d, rfl⟩ : ∃ d', d = d' + 1 := ⟨d - 1, by omega⟩
  unfold X12_table_b22 at hr
  refine mg_iconst (pc := 22) dX12_table_22 kc_0 ?_
  exact mg_weak (mm_le_s (mm_le_s (mm_le_n (mm_le_n mm_le_0)))) (X12_table_b23_ok hz hd h0 hr)
def X12_table (e : mm_E) (a0 : Nat) (i1 : Int32) (m : mm_V) : Option (Int32 × mm_V) := (mm_pf e.1 m 12 75 a0 0 (.int (0 : Int32))).bind fun m1 => if i1 < 0 then (X12_table_b22 e a0 i1 a0 m1) else ((mm_gi e.1 m1 12 75 a0 9).bind fun x2 => if x2 < i1 then (X12_table_b22 e a0 i1 a0 m1) else (X12_table_b23 e a0 i1 a0 (1 : Int32) m1))
theorem X12_table_ok {K : mm_K} {nx : Option Nat} {e : mm_E} (hz : e.2.1 = K.2.2.2.2) {d : Nat} (hd : 7 ≤ d) {a0 : Nat} {i1 : Int32} (h0 : e.1 a0 = some (12, 75)) {m : mm_V} {r : (Int32 × mm_V)} (hr : X12_table e a0 i1 m = some r) : mm_Cn K MX12_table d (mm_Fi e.1 nx r) [.ref a0, .int i1] (e.1, m) nx := by
  obtain ⟨d, rfl⟩ : ∃ d', d = d' + 1 := ⟨d - 1, by omega⟩
  refine mm_entry (by decide) (Nat.le_of_ble_eq_true rfl) rfl (fun hok => ?_)
  unfold X12_table at hr
  refine mg_weak (L' := [some (.ref a0), some (.int i1), none, none]) (mm_le_s (mm_le_s (mm_le_e (mm_le_e mm_le_0)))) ?_
  refine ml_aload_n (pc := 0) dX12_table_0 rfl mm_get_0 ?_
  refine mg_iconst (pc := 1) dX12_table_1 kc_0 ?_
  refine mb_pi (pc := 2) dX12_table_2 fp_X12_152 hr (fun m1 hr => ?_)
  refine ml_aload_n (pc := 5) dX12_table_5 rfl mm_get_0 ?_
  refine ml_iload_n (pc := 6) dX12_table_6 rfl (mm_get_s mm_get_0) ?_
  refine mb_if_lt (pc := 7) 22 dX12_table_7 rfl hr (fun hr => ?_) (fun hr => ?_)
  · exact mg_weak (mm_le_s (mm_le_s (mm_le_n (mm_le_n mm_le_0)))) (X12_table_b22_ok hz hd h0 hr)
  · refine ml_iload_n (pc := 10) dX12_table_10 rfl (mm_get_s mm_get_0) ?_
    refine ml_aload_n (pc := 11) dX12_table_11 rfl mm_get_0 ?_
    refine mb_gi (pc := 12) dX12_table_12 fl_X12_155 hr (fun x2 hr => ?_)
    refine mb_icmp_gt (pc := 15) 22 dX12_table_15 rfl hr (fun hr => ?_) (fun hr => ?_)
    · exact mg_weak (mm_le_s (mm_le_s (mm_le_n (mm_le_n mm_le_0)))) (X12_table_b22_ok hz hd h0 hr)
    · refine mg_iconst (pc := 18) dX12_table_18 kc_1 ?_
      refine mg_goto (pc := 19) 23 dX12_table_19 rfl ?_
      exact mg_weak (mm_le_s (mm_le_s (mm_le_n (mm_le_n mm_le_0)))) (X12_table_b23_ok hz hd h0 hr)
theorem dX12_fault_0 : decode cX12_fault 0 = .ok (.aload_n 0, 1) := by decide +kernel
theorem dX12_fault_1 : decode cX12_fault 1 = .ok (.iconst 0, 1) := by decide +kernel
theorem dX12_fault_2 : decode cX12_fault 2 = .ok (.putfield 152, 3) := by decide +kernel
theorem dX12_fault_5 : decode cX12_fault 5 = .ok (.aload_n 0, 1) := by decide +kernel
theorem dX12_fault_6 : decode cX12_fault 6 = .ok (.getfield 29, 3) := by decide +kernel
theorem dX12_fault_9 : decode cX12_fault 9 = .ok (.ireturn, 1) := by decide +kernel
def X12_fault (e : mm_E) (a0 : Nat) (m : mm_V) : Option (Int32 × mm_V) := (mm_pf e.1 m 12 75 a0 0 (.int (0 : Int32))).bind fun m1 => (mm_gi e.1 m1 12 75 a0 11).bind fun x2 => some (x2, m1)
theorem X12_fault_ok {K : mm_K} {nx : Option Nat} {e : mm_E} (hz : e.2.1 = K.2.2.2.2) {d : Nat} (hd : 0 ≤ d) {a0 : Nat} (h0 : e.1 a0 = some (12, 75)) {m : mm_V} {r : (Int32 × mm_V)} (hr : X12_fault e a0 m = some r) : mm_Cn K MX12_fault d (mm_Fi e.1 nx r) [.ref a0] (e.1, m) nx := by
  refine mm_entry (by decide) (Nat.le_of_ble_eq_true rfl) rfl (fun hok => ?_)
  unfold X12_fault at hr
  refine mg_weak (L' := [some (.ref a0)]) (mm_le_s mm_le_0) ?_
  refine ml_aload_n (pc := 0) dX12_fault_0 rfl mm_get_0 ?_
  refine mg_iconst (pc := 1) dX12_fault_1 kc_0 ?_
  refine mb_pi (pc := 2) dX12_fault_2 fp_X12_152 hr (fun m1 hr => ?_)
  refine ml_aload_n (pc := 5) dX12_fault_5 rfl mm_get_0 ?_
  refine mb_gi (pc := 6) dX12_fault_6 fl_X12_29 hr (fun x2 hr => ?_)
  exact mb_iret dX12_fault_9 rfl hr
theorem dX12_aheadOf_0 : decode cX12_aheadOf 0 = .ok (.iload_n 2, 1) := by decide +kernel
theorem dX12_aheadOf_1 : decode cX12_aheadOf 1 = .ok (.istore_n 3, 1) := by decide +kernel
theorem dX12_aheadOf_2 : decode cX12_aheadOf 2 = .ok (.iconst 0, 1) := by decide +kernel
theorem dX12_aheadOf_3 : decode cX12_aheadOf 3 = .ok (.istore 4, 2) := by decide +kernel
theorem dX12_aheadOf_5 : decode cX12_aheadOf 5 = .ok (.iload 4, 2) := by decide +kernel
theorem dX12_aheadOf_7 : decode cX12_aheadOf 7 = .ok (.aload_n 0, 1) := by decide +kernel
theorem dX12_aheadOf_8 : decode cX12_aheadOf 8 = .ok (.getfield 7, 3) := by decide +kernel
theorem dX12_aheadOf_11 : decode cX12_aheadOf 11 = .ok (.if_icmp .ge 33, 3) := by decide +kernel
theorem dX12_aheadOf_14 : decode cX12_aheadOf 14 = .ok (.iload_n 3, 1) := by decide +kernel
theorem dX12_aheadOf_15 : decode cX12_aheadOf 15 = .ok (.aload_n 0, 1) := by decide +kernel
theorem dX12_aheadOf_16 : decode cX12_aheadOf 16 = .ok (.getfield 7, 3) := by decide +kernel
theorem dX12_aheadOf_19 : decode cX12_aheadOf 19 = .ok (.iadd, 1) := by decide +kernel
theorem dX12_aheadOf_20 : decode cX12_aheadOf 20 = .ok (.iconst 1, 1) := by decide +kernel
theorem dX12_aheadOf_21 : decode cX12_aheadOf 21 = .ok (.isub, 1) := by decide +kernel
theorem dX12_aheadOf_22 : decode cX12_aheadOf 22 = .ok (.aload_n 0, 1) := by decide +kernel
theorem dX12_aheadOf_23 : decode cX12_aheadOf 23 = .ok (.getfield 7, 3) := by decide +kernel
theorem dX12_aheadOf_26 : decode cX12_aheadOf 26 = .ok (.irem, 1) := by decide +kernel
theorem dX12_aheadOf_27 : decode cX12_aheadOf 27 = .ok (.istore_n 3, 1) := by decide +kernel
theorem dX12_aheadOf_28 : decode cX12_aheadOf 28 = .ok (.aload_n 1, 1) := by decide +kernel
theorem dX12_aheadOf_29 : decode cX12_aheadOf 29 = .ok (.iload_n 3, 1) := by decide +kernel
theorem dX12_aheadOf_30 : decode cX12_aheadOf 30 = .ok (.invokestatic 327, 3) := by decide +kernel
theorem dX12_aheadOf_33 : decode cX12_aheadOf 33 = .ok (.ifCond .le 5, 3) := by decide +kernel
theorem dX12_aheadOf_36 : decode cX12_aheadOf 36 = .ok (.iload_n 3, 1) := by decide +kernel
theorem dX12_aheadOf_37 : decode cX12_aheadOf 37 = .ok (.ireturn, 1) := by decide +kernel
theorem dX12_aheadOf_38 : decode cX12_aheadOf 38 = .ok (.iinc 4 1, 3) := by decide +kernel
theorem dX12_aheadOf_41 : decode cX12_aheadOf 41 = .ok (.goto (-36), 3) := by decide +kernel
theorem dX12_aheadOf_44 : decode cX12_aheadOf 44 = .ok (.iconst (-1), 1) := by decide +kernel
theorem dX12_aheadOf_45 : decode cX12_aheadOf 45 = .ok (.ireturn, 1) := by decide +kernel
def X12_aheadOf_L5 (e : mm_E) (a0 : Nat) (a1 : Nat) : Nat → Int32 → Int32 → mm_V → Option (Int32 × mm_V)
  | 0, _, _, _ => none
  | n + 1, i3, i4, m => (mm_gi e.1 m 12 75 a0 1).bind fun x1 => if x1 ≤ i4 then (some ((-1 : Int32), m)) else ((mm_gi e.1 m 12 75 a0 1).bind fun x2 => (mm_gi e.1 m 12 75 a0 1).bind fun x3 => if x3 = 0 then none else (X12_size e a1 (((i3 + x2) - (1 : Int32)) - ((i3 + x2) - (1 : Int32)) / x3 * x3) m).bind fun r4 => if r4.1 ≤ 0 then (X12_aheadOf_L5 e a0 a1 n (((i3 + x2) - (1 : Int32)) - ((i3 + x2) - (1 : Int32)) / x3 * x3) (i4 + 1) r4.2) else (some ((((i3 + x2) - (1 : Int32)) - ((i3 + x2) - (1 : Int32)) / x3 * x3), r4.2)))
theorem X12_aheadOf_L5_ok {K : mm_K} {nx : Option Nat} {e : mm_E} (hz : e.2.1 = K.2.2.2.2) {d : Nat} (hd : 1 ≤ d) {a0 : Nat} {a1 : Nat} (h0 : e.1 a0 = some (12, 75)) : ∀ (n : Nat) (i3 : Int32) (i4 : Int32) (m : mm_V) (r : (Int32 × mm_V)), X12_aheadOf_L5 e a0 a1 n i3 i4 m = some r → mm_G K MX12_aheadOf d (mm_Fi e.1 nx r) 5 [some (.ref a0), some (.ref a1), none, some (.int i3), some (.int i4)] [] (e.1, m) nx 0 0 := by
  obtain ⟨d, rfl⟩ : ∃ d', d = d' + 1 := ⟨d - 1, by omega⟩
  intro n
  induction n with
  | zero => intro i3 i4 m r hr; unfold X12_aheadOf_L5 at hr; cases hr
  | succ n ih =>
    intro i3 i4 m r hr
    unfold X12_aheadOf_L5 at hr
    refine ml_iload (pc := 5) dX12_aheadOf_5 (mm_get_s (mm_get_s (mm_get_s (mm_get_s mm_get_0)))) ?_
    refine ml_aload_n (pc := 7) dX12_aheadOf_7 rfl mm_get_0 ?_
    refine mb_gi (pc := 8) dX12_aheadOf_8 fl_X12_7 hr (fun x1 hr => ?_)
    refine mb_icmp_ge (pc := 11) 44 dX12_aheadOf_11 rfl hr (fun hr => ?_) (fun hr => ?_)
    · refine mg_iconst (pc := 44) dX12_aheadOf_44 kc_m1 ?_
      exact mb_iret dX12_aheadOf_45 rfl hr
    · refine ml_iload_n (pc := 14) dX12_aheadOf_14 rfl (mm_get_s (mm_get_s (mm_get_s mm_get_0))) ?_
      refine ml_aload_n (pc := 15) dX12_aheadOf_15 rfl mm_get_0 ?_
      refine mb_gi (pc := 16) dX12_aheadOf_16 fl_X12_7 hr (fun x2 hr => ?_)
      refine mg_iadd (pc := 19) dX12_aheadOf_19 ?_
      refine mg_iconst (pc := 20) dX12_aheadOf_20 kc_1 ?_
      refine mg_isub (pc := 21) dX12_aheadOf_21 ?_
      refine ml_aload_n (pc := 22) dX12_aheadOf_22 rfl mm_get_0 ?_
      refine mb_gi (pc := 23) dX12_aheadOf_23 fl_X12_7 hr (fun x3 hr => ?_)
      refine mb_irem (pc := 26) dX12_aheadOf_26 hr (fun hr => ?_)
      refine ml_istore_n (pc := 27) dX12_aheadOf_27 rfl (Nat.le_of_ble_eq_true rfl) (mm_st1_s (mm_st1_s mm_st1_n)) ?_
      refine ml_aload_n (pc := 28) dX12_aheadOf_28 rfl (mm_get_s mm_get_0) ?_
      refine ml_iload_n (pc := 29) dX12_aheadOf_29 rfl (mm_get_s (mm_get_s (mm_get_s mm_get_0))) ?_
      refine mb_cSi (pc := 30) (As := [.ref a1, .int (((i3 + x2) - (1 : Int32)) - ((i3 + x2) - (1 : Int32)) / x3 * x3)]) (rest := []) dX12_aheadOf_30 cw_X12_327  hr (fun v hv => X12_size_ok hz (by omega)  hv) rfl (Nat.le_of_ble_eq_true rfl) (Nat.zero_le _) (Nat.zero_le _) (fun r4 hr => ?_)
      refine mb_if_le (pc := 33) 38 dX12_aheadOf_33 rfl hr (fun hr => ?_) (fun hr => ?_)
      · refine ml_iinc (pc := 38) dX12_aheadOf_38 (mm_get_s (mm_get_s (mm_get_s (mm_get_s mm_get_0)))) (congrArg (fun z => i4 + z) kc_1) (Nat.le_of_ble_eq_true rfl) (mm_st1_s (mm_st1_s (mm_st1_s mm_st1_i))) ?_
        refine mg_goto (pc := 41) 5 dX12_aheadOf_41 rfl ?_
        exact mg_weak (mm_le_s (mm_le_s (mm_le_n (mm_le_s (mm_le_s mm_le_0))))) (ih _ _ _ _ hr)
      · refine ml_iload_n (pc := 36) dX12_aheadOf_36 rfl (mm_get_s (mm_get_s (mm_get_s mm_get_0))) ?_
        exact mb_iret dX12_aheadOf_37 rfl hr
def X12_aheadOf (e : mm_E) (a0 : Nat) (a1 : Nat) (i2 : Int32) (m : mm_V) : Option (Int32 × mm_V) := X12_aheadOf_L5 e a0 a1 e.2.2 i2 (0 : Int32) m
theorem X12_aheadOf_ok {K : mm_K} {nx : Option Nat} {e : mm_E} (hz : e.2.1 = K.2.2.2.2) {d : Nat} (hd : 1 ≤ d) {a0 : Nat} {a1 : Nat} {i2 : Int32} (h0 : e.1 a0 = some (12, 75)) {m : mm_V} {r : (Int32 × mm_V)} (hr : X12_aheadOf e a0 a1 i2 m = some r) : mm_Cn K MX12_aheadOf d (mm_Fi e.1 nx r) [.ref a0, .ref a1, .int i2] (e.1, m) nx := by
  obtain ⟨d, rfl⟩ : ∃ d', d = d' + 1 := ⟨d - 1, by omega⟩
  refine mm_entry (by decide) (Nat.le_of_ble_eq_true rfl) rfl (fun hok => ?_)
  unfold X12_aheadOf at hr
  refine mg_weak (L' := [some (.ref a0), some (.ref a1), some (.int i2), none, none]) (mm_le_s (mm_le_s (mm_le_s (mm_le_e (mm_le_e mm_le_0))))) ?_
  refine ml_iload_n (pc := 0) dX12_aheadOf_0 rfl (mm_get_s (mm_get_s mm_get_0)) ?_
  refine ml_istore_n (pc := 1) dX12_aheadOf_1 rfl (Nat.le_of_ble_eq_true rfl) (mm_st1_s (mm_st1_s mm_st1_i)) ?_
  refine mg_iconst (pc := 2) dX12_aheadOf_2 kc_0 ?_
  refine ml_istore (pc := 3) dX12_aheadOf_3 (Nat.le_of_ble_eq_true rfl) (mm_st1_s (mm_st1_s (mm_st1_s mm_st1_i))) ?_
  exact mg_weak (mm_le_s (mm_le_s (mm_le_n (mm_le_s (mm_le_s mm_le_0))))) (X12_aheadOf_L5_ok hz hd h0 _ _ _ _ _ hr)
theorem dX12_queen_0 : decode cX12_queen 0 = .ok (.iconst 0, 1) := by decide +kernel
theorem dX12_queen_1 : decode cX12_queen 1 = .ok (.istore_n 2, 1) := by decide +kernel
theorem dX12_queen_2 : decode cX12_queen 2 = .ok (.iload_n 2, 1) := by decide +kernel
theorem dX12_queen_3 : decode cX12_queen 3 = .ok (.aload_n 0, 1) := by decide +kernel
theorem dX12_queen_4 : decode cX12_queen 4 = .ok (.getfield 7, 3) := by decide +kernel
theorem dX12_queen_7 : decode cX12_queen 7 = .ok (.if_icmp .ge 21, 3) := by decide +kernel
theorem dX12_queen_10 : decode cX12_queen 10 = .ok (.aload_n 1, 1) := by decide +kernel
theorem dX12_queen_11 : decode cX12_queen 11 = .ok (.iload_n 2, 1) := by decide +kernel
theorem dX12_queen_12 : decode cX12_queen 12 = .ok (.iconst 0, 1) := by decide +kernel
theorem dX12_queen_13 : decode cX12_queen 13 = .ok (.invokestatic 335, 3) := by decide +kernel
theorem dX12_queen_16 : decode cX12_queen 16 = .ok (.iconst (-1), 1) := by decide +kernel
theorem dX12_queen_17 : decode cX12_queen 17 = .ok (.if_icmp .eq 5, 3) := by decide +kernel
theorem dX12_queen_20 : decode cX12_queen 20 = .ok (.iload_n 2, 1) := by decide +kernel
theorem dX12_queen_21 : decode cX12_queen 21 = .ok (.ireturn, 1) := by decide +kernel
theorem dX12_queen_22 : decode cX12_queen 22 = .ok (.iinc 2 1, 3) := by decide +kernel
theorem dX12_queen_25 : decode cX12_queen 25 = .ok (.goto (-23), 3) := by decide +kernel
theorem dX12_queen_28 : decode cX12_queen 28 = .ok (.iconst (-1), 1) := by decide +kernel
theorem dX12_queen_29 : decode cX12_queen 29 = .ok (.ireturn, 1) := by decide +kernel
def X12_queen_L2 (e : mm_E) (a0 : Nat) (a1 : Nat) : Nat → Int32 → mm_V → Option (Int32 × mm_V)
  | 0, _, _ => none
  | n + 1, i2, m => (mm_gi e.1 m 12 75 a0 1).bind fun x1 => if x1 ≤ i2 then (some ((-1 : Int32), m)) else ((X12_placeOf e a1 i2 (0 : Int32) m).bind fun r2 => if r2.1 = (-1 : Int32) then (X12_queen_L2 e a0 a1 n (i2 + 1) r2.2) else (some (i2, r2.2)))
theorem X12_queen_L2_ok {K : mm_K} {nx : Option Nat} {e : mm_E} (hz : e.2.1 = K.2.2.2.2) {d : Nat} (hd : 2 ≤ d) {a0 : Nat} {a1 : Nat} (h0 : e.1 a0 = some (12, 75)) : ∀ (n : Nat) (i2 : Int32) (m : mm_V) (r : (Int32 × mm_V)), X12_queen_L2 e a0 a1 n i2 m = some r → mm_G K MX12_queen d (mm_Fi e.1 nx r) 2 [some (.ref a0), some (.ref a1), some (.int i2)] [] (e.1, m) nx 0 0 := by
  obtain ⟨d, rfl⟩ : ∃ d', d = d' + 1 := ⟨d - 1, by omega⟩
  intro n
  induction n with
  | zero => intro i2 m r hr; unfold X12_queen_L2 at hr; cases hr
  | succ n ih =>
    intro i2 m r hr
    unfold X12_queen_L2 at hr
    refine ml_iload_n (pc := 2) dX12_queen_2 rfl (mm_get_s (mm_get_s mm_get_0)) ?_
    refine ml_aload_n (pc := 3) dX12_queen_3 rfl mm_get_0 ?_
    refine mb_gi (pc := 4) dX12_queen_4 fl_X12_7 hr (fun x1 hr => ?_)
    refine mb_icmp_ge (pc := 7) 28 dX12_queen_7 rfl hr (fun hr => ?_) (fun hr => ?_)
    · refine mg_iconst (pc := 28) dX12_queen_28 kc_m1 ?_
      exact mb_iret dX12_queen_29 rfl hr
    · refine ml_aload_n (pc := 10) dX12_queen_10 rfl (mm_get_s mm_get_0) ?_
      refine ml_iload_n (pc := 11) dX12_queen_11 rfl (mm_get_s (mm_get_s mm_get_0)) ?_
      refine mg_iconst (pc := 12) dX12_queen_12 kc_0 ?_
      refine mb_cSi (pc := 13) (As := [.ref a1, .int i2, .int (0 : Int32)]) (rest := []) dX12_queen_13 cw_X12_335  hr (fun v hv => X12_placeOf_ok hz (by omega)  hv) rfl (Nat.le_of_ble_eq_true rfl) (Nat.zero_le _) (Nat.zero_le _) (fun r2 hr => ?_)
      refine mg_iconst (pc := 16) dX12_queen_16 kc_m1 ?_
      refine mb_icmp_eq (pc := 17) 22 dX12_queen_17 rfl hr (fun hr => ?_) (fun hr => ?_)
      · refine ml_iinc (pc := 22) dX12_queen_22 (mm_get_s (mm_get_s mm_get_0)) (congrArg (fun z => i2 + z) kc_1) (Nat.le_of_ble_eq_true rfl) (mm_st1_s mm_st1_r) ?_
        refine mg_goto (pc := 25) 2 dX12_queen_25 rfl ?_
        exact mg_weak (mm_le_s (mm_le_s (mm_le_s mm_le_0))) (ih _ _ _ hr)
      · refine ml_iload_n (pc := 20) dX12_queen_20 rfl (mm_get_s (mm_get_s mm_get_0)) ?_
        exact mb_iret dX12_queen_21 rfl hr
def X12_queen (e : mm_E) (a0 : Nat) (a1 : Nat) (m : mm_V) : Option (Int32 × mm_V) := X12_queen_L2 e a0 a1 e.2.2 (0 : Int32) m
theorem X12_queen_ok {K : mm_K} {nx : Option Nat} {e : mm_E} (hz : e.2.1 = K.2.2.2.2) {d : Nat} (hd : 2 ≤ d) {a0 : Nat} {a1 : Nat} (h0 : e.1 a0 = some (12, 75)) {m : mm_V} {r : (Int32 × mm_V)} (hr : X12_queen e a0 a1 m = some r) : mm_Cn K MX12_queen d (mm_Fi e.1 nx r) [.ref a0, .ref a1] (e.1, m) nx := by
  obtain ⟨d, rfl⟩ : ∃ d', d = d' + 1 := ⟨d - 1, by omega⟩
  refine mm_entry (by decide) (Nat.le_of_ble_eq_true rfl) rfl (fun hok => ?_)
  unfold X12_queen at hr
  refine mg_weak (L' := [some (.ref a0), some (.ref a1), none]) (mm_le_s (mm_le_s (mm_le_e mm_le_0))) ?_
  refine mg_iconst (pc := 0) dX12_queen_0 kc_0 ?_
  refine ml_istore_n (pc := 1) dX12_queen_1 rfl (Nat.le_of_ble_eq_true rfl) (mm_st1_s mm_st1_r) ?_
  exact mg_weak (mm_le_s (mm_le_s (mm_le_s mm_le_0))) (X12_queen_L2_ok hz hd h0 _ _ _ _ hr)
theorem dX12_count_0 : decode cX12_count 0 = .ok (.aload_n 0, 1) := by decide +kernel
theorem dX12_count_1 : decode cX12_count 1 = .ok (.iconst 0, 1) := by decide +kernel
theorem dX12_count_2 : decode cX12_count 2 = .ok (.putfield 152, 3) := by decide +kernel
theorem dX12_count_5 : decode cX12_count 5 = .ok (.aload_n 0, 1) := by decide +kernel
theorem dX12_count_6 : decode cX12_count 6 = .ok (.iload_n 1, 1) := by decide +kernel
theorem dX12_count_7 : decode cX12_count 7 = .ok (.iconst 0, 1) := by decide +kernel
theorem dX12_count_8 : decode cX12_count 8 = .ok (.bipush 10, 2) := by decide +kernel
theorem dX12_count_10 : decode cX12_count 10 = .ok (.invokestatic 368, 3) := by decide +kernel
theorem dX12_count_13 : decode cX12_count 13 = .ok (.iconst 1, 1) := by decide +kernel
theorem dX12_count_14 : decode cX12_count 14 = .ok (.invokevirtual 306, 3) := by decide +kernel
theorem dX12_count_17 : decode cX12_count 17 = .ok (.ifCond .ne 5, 3) := by decide +kernel
theorem dX12_count_20 : decode cX12_count 20 = .ok (.iconst 0, 1) := by decide +kernel
theorem dX12_count_21 : decode cX12_count 21 = .ok (.ireturn, 1) := by decide +kernel
theorem dX12_count_22 : decode cX12_count 22 = .ok (.iload_n 1, 1) := by decide +kernel
theorem dX12_count_23 : decode cX12_count 23 = .ok (.tableswitch 121 0 8 #[49, 54, 59, 64, 71, 78, 83, 92, 116], 49) := by decide +kernel
theorem dX12_count_72 : decode cX12_count 72 = .ok (.aload_n 0, 1) := by decide +kernel
theorem dX12_count_73 : decode cX12_count 73 = .ok (.getfield 7, 3) := by decide +kernel
theorem dX12_count_76 : decode cX12_count 76 = .ok (.ireturn, 1) := by decide +kernel
theorem dX12_count_77 : decode cX12_count 77 = .ok (.aload_n 0, 1) := by decide +kernel
theorem dX12_count_78 : decode cX12_count 78 = .ok (.getfield 13, 3) := by decide +kernel
theorem dX12_count_81 : decode cX12_count 81 = .ok (.ireturn, 1) := by decide +kernel
theorem dX12_count_82 : decode cX12_count 82 = .ok (.aload_n 0, 1) := by decide +kernel
theorem dX12_count_83 : decode cX12_count 83 = .ok (.getfield 142, 3) := by decide +kernel
theorem dX12_count_86 : decode cX12_count 86 = .ok (.ireturn, 1) := by decide +kernel
theorem dX12_count_87 : decode cX12_count 87 = .ok (.aload_n 0, 1) := by decide +kernel
theorem dX12_count_88 : decode cX12_count 88 = .ok (.getfield 60, 3) := by decide +kernel
theorem dX12_count_91 : decode cX12_count 91 = .ok (.iconst 0, 1) := by decide +kernel
theorem dX12_count_92 : decode cX12_count 92 = .ok (.iaload, 1) := by decide +kernel
theorem dX12_count_93 : decode cX12_count 93 = .ok (.ireturn, 1) := by decide +kernel
theorem dX12_count_94 : decode cX12_count 94 = .ok (.aload_n 0, 1) := by decide +kernel
theorem dX12_count_95 : decode cX12_count 95 = .ok (.getfield 60, 3) := by decide +kernel
theorem dX12_count_98 : decode cX12_count 98 = .ok (.iconst 1, 1) := by decide +kernel
theorem dX12_count_99 : decode cX12_count 99 = .ok (.iaload, 1) := by decide +kernel
theorem dX12_count_100 : decode cX12_count 100 = .ok (.ireturn, 1) := by decide +kernel
theorem dX12_count_101 : decode cX12_count 101 = .ok (.aload_n 0, 1) := by decide +kernel
theorem dX12_count_102 : decode cX12_count 102 = .ok (.getfield 365, 3) := by decide +kernel
theorem dX12_count_105 : decode cX12_count 105 = .ok (.ireturn, 1) := by decide +kernel
theorem dX12_count_106 : decode cX12_count 106 = .ok (.aload_n 0, 1) := by decide +kernel
theorem dX12_count_107 : decode cX12_count 107 = .ok (.aload_n 0, 1) := by decide +kernel
theorem dX12_count_108 : decode cX12_count 108 = .ok (.getfield 60, 3) := by decide +kernel
theorem dX12_count_111 : decode cX12_count 111 = .ok (.invokevirtual 372, 3) := by decide +kernel
theorem dX12_count_114 : decode cX12_count 114 = .ok (.ireturn, 1) := by decide +kernel
theorem dX12_count_115 : decode cX12_count 115 = .ok (.aload_n 0, 1) := by decide +kernel
theorem dX12_count_116 : decode cX12_count 116 = .ok (.aload_n 0, 1) := by decide +kernel
theorem dX12_count_117 : decode cX12_count 117 = .ok (.getfield 60, 3) := by decide +kernel
theorem dX12_count_120 : decode cX12_count 120 = .ok (.invokevirtual 338, 3) := by decide +kernel
theorem dX12_count_123 : decode cX12_count 123 = .ok (.ifCond .eq 14, 3) := by decide +kernel
theorem dX12_count_126 : decode cX12_count 126 = .ok (.aload_n 0, 1) := by decide +kernel
theorem dX12_count_127 : decode cX12_count 127 = .ok (.aload_n 0, 1) := by decide +kernel
theorem dX12_count_128 : decode cX12_count 128 = .ok (.getfield 60, 3) := by decide +kernel
theorem dX12_count_131 : decode cX12_count 131 = .ok (.invokevirtual 372, 3) := by decide +kernel
theorem dX12_count_134 : decode cX12_count 134 = .ok (.goto 4, 3) := by decide +kernel
theorem dX12_count_137 : decode cX12_count 137 = .ok (.iconst (-1), 1) := by decide +kernel
theorem dX12_count_138 : decode cX12_count 138 = .ok (.ireturn, 1) := by decide +kernel
theorem dX12_count_139 : decode cX12_count 139 = .ok (.aload_n 0, 1) := by decide +kernel
theorem dX12_count_140 : decode cX12_count 140 = .ok (.getfield 155, 3) := by decide +kernel
theorem dX12_count_143 : decode cX12_count 143 = .ok (.ireturn, 1) := by decide +kernel
theorem dX12_count_144 : decode cX12_count 144 = .ok (.aload_n 0, 1) := by decide +kernel
theorem dX12_count_145 : decode cX12_count 145 = .ok (.getfield 32, 3) := by decide +kernel
theorem dX12_count_148 : decode cX12_count 148 = .ok (.iload_n 1, 1) := by decide +kernel
theorem dX12_count_149 : decode cX12_count 149 = .ok (.bipush 9, 2) := by decide +kernel
theorem dX12_count_151 : decode cX12_count 151 = .ok (.isub, 1) := by decide +kernel
theorem dX12_count_152 : decode cX12_count 152 = .ok (.iaload, 1) := by decide +kernel
theorem dX12_count_153 : decode cX12_count 153 = .ok (.ireturn, 1) := by decide +kernel
def X12_count_b138 (e : mm_E) (t0 : Int32) (m : mm_V) : Option (Int32 × mm_V) := some (t0, m)
theorem X12_count_b138_ok {K : mm_K} {nx : Option Nat} {e : mm_E} (hz : e.2.1 = K.2.2.2.2) {d : Nat} (hd : 3 ≤ d) {t0 : Int32} {a0 : Nat} (h0 : e.1 a0 = some (12, 75)) {m : mm_V} {r : (Int32 × mm_V)} (hr : X12_count_b138 e t0 m = some r) : mm_G K MX12_count d (mm_Fi e.1 nx r) 138 [none, none] [.int t0] (e.1, m) nx 0 0 := by
  obtain ⟨d, rfl⟩ : ∃ d', d = d' + 1 := ⟨d - 1, by omega⟩
  unfold X12_count_b138 at hr
  exact mb_iret dX12_count_138 rfl hr
def X12_count (e : mm_E) (a0 : Nat) (i1 : Int32) (m : mm_V) : Option (Int32 × mm_V) := (mm_pf e.1 m 12 75 a0 0 (.int (0 : Int32))).bind fun m1 => (X12_within e i1 (0 : Int32) (10 : Int32) m1).bind fun r2 => (X12_right e a0 r2.1 (1 : Int32) r2.2).bind fun r3 => if ¬ r3.1 = 0 then (if i1 = (0 : Int32) then ((mm_gi e.1 r3.2 12 75 a0 1).bind fun x4 => some (x4, r3.2)) else (if i1 = (1 : Int32) then ((mm_gi e.1 r3.2 12 75 a0 2).bind fun x6 => some (x6, r3.2)) else (if i1 = (2 : Int32) then ((mm_gi e.1 r3.2 12 75 a0 3).bind fun x8 => some (x8, r3.2)) else (if i1 = (3 : Int32) then ((mm_gr e.1 r3.2 12 75 a0 39).bind fun c10 => (mm_ai e.1 r3.2 20 c10 (0 : Int32)).bind fun x11 => some (x11, r3.2)) else (if i1 = (4 : Int32) then ((mm_gr e.1 r3.2 12 75 a0 39).bind fun c13 => (mm_ai e.1 r3.2 20 c13 (1 : Int32)).bind fun x14 => some (x14, r3.2)) else (if i1 = (5 : Int32) then ((mm_gi e.1 r3.2 12 75 a0 48).bind fun x16 => some (x16, r3.2)) else (if i1 = (6 : Int32) then ((mm_gr e.1 r3.2 12 75 a0 39).bind fun c18 => (X12_queen e a0 c18 r3.2).bind fun r19 => some (r19.1, r19.2)) else (if i1 = (7 : Int32) then ((mm_gr e.1 r3.2 12 75 a0 39).bind fun c21 => (X12_isOver e a0 c21 r3.2).bind fun r22 => if r22.1 = 0 then (X12_count_b138 e  (-1 : Int32) r22.2) else ((mm_gr e.1 r22.2 12 75 a0 39).bind fun c23 => (X12_queen e a0 c23 r22.2).bind fun r24 => X12_count_b138 e  r24.1 r24.2)) else (if i1 = (8 : Int32) then ((mm_gi e.1 r3.2 12 75 a0 9).bind fun x26 => some (x26, r3.2)) else ((mm_gr e.1 r3.2 12 75 a0 12).bind fun c28 => (mm_ai e.1 r3.2 20 c28 (i1 - (9 : Int32))).bind fun x29 => some (x29, r3.2))))))))))) else (some ((0 : Int32), r3.2))
theorem X12_count_ok {K : mm_K} {nx : Option Nat} {e : mm_E} (hz : e.2.1 = K.2.2.2.2) {d : Nat} (hd : 3 ≤ d) {a0 : Nat} {i1 : Int32} (h0 : e.1 a0 = some (12, 75)) {m : mm_V} {r : (Int32 × mm_V)} (hr : X12_count e a0 i1 m = some r) : mm_Cn K MX12_count d (mm_Fi e.1 nx r) [.ref a0, .int i1] (e.1, m) nx := by
  obtain ⟨d, rfl⟩ : ∃ d', d = d' + 1 := ⟨d - 1, by omega⟩
  refine mm_entry (by decide) (Nat.le_of_ble_eq_true rfl) rfl (fun hok => ?_)
  unfold X12_count at hr
  refine mg_weak (L' := [some (.ref a0), some (.int i1)]) (mm_le_s (mm_le_s mm_le_0)) ?_
  refine ml_aload_n (pc := 0) dX12_count_0 rfl mm_get_0 ?_
  refine mg_iconst (pc := 1) dX12_count_1 kc_0 ?_
  refine mb_pi (pc := 2) dX12_count_2 fp_X12_152 hr (fun m1 hr => ?_)
  refine ml_aload_n (pc := 5) dX12_count_5 rfl mm_get_0 ?_
  refine ml_iload_n (pc := 6) dX12_count_6 rfl (mm_get_s mm_get_0) ?_
  refine mg_iconst (pc := 7) dX12_count_7 kc_0 ?_
  refine mg_bipush (pc := 8) dX12_count_8 kb_10 ?_
  refine mb_cSi (pc := 10) (As := [.int i1, .int (0 : Int32), .int (10 : Int32)]) (rest := [.ref a0]) dX12_count_10 cw_X12_368  hr (fun v hv => X12_within_ok hz (by omega)  hv) rfl (Nat.le_of_ble_eq_true rfl) (Nat.zero_le _) (Nat.zero_le _) (fun r2 hr => ?_)
  refine mg_iconst (pc := 13) dX12_count_13 kc_1 ?_
  refine mb_cVi (pc := 14) (As := [.int r2.1, .int (1 : Int32)]) (rest := []) dX12_count_14 cw_X12_306 h0 hr (fun v hv => X12_right_ok hz (by omega) h0 hv) rfl (Nat.le_of_ble_eq_true rfl) (Nat.zero_le _) (Nat.zero_le _) (fun r3 hr => ?_)
  refine mb_if_ne (pc := 17) 22 dX12_count_17 rfl hr (fun hr => ?_) (fun hr => ?_)
  · refine ml_iload_n (pc := 22) dX12_count_22 rfl (mm_get_s mm_get_0) ?_
    refine mb_ite hr (fun hc hr => ?_) (fun hc5 hr => ?_)
    · refine mg_tableK (pc := 23) (49) 72 dX12_count_23 hc (by decide +kernel) rfl ?_
      refine ml_aload_n (pc := 72) dX12_count_72 rfl mm_get_0 ?_
      refine mb_gi (pc := 73) dX12_count_73 fl_X12_7 hr (fun x4 hr => ?_)
      exact mb_iret dX12_count_76 rfl hr
    refine mb_ite hr (fun hc hr => ?_) (fun hc7 hr => ?_)
    · refine mg_tableK (pc := 23) (54) 77 dX12_count_23 hc (by decide +kernel) rfl ?_
      refine ml_aload_n (pc := 77) dX12_count_77 rfl mm_get_0 ?_
      refine mb_gi (pc := 78) dX12_count_78 fl_X12_13 hr (fun x6 hr => ?_)
      exact mb_iret dX12_count_81 rfl hr
    refine mb_ite hr (fun hc hr => ?_) (fun hc9 hr => ?_)
    · refine mg_tableK (pc := 23) (59) 82 dX12_count_23 hc (by decide +kernel) rfl ?_
      refine ml_aload_n (pc := 82) dX12_count_82 rfl mm_get_0 ?_
      refine mb_gi (pc := 83) dX12_count_83 fl_X12_142 hr (fun x8 hr => ?_)
      exact mb_iret dX12_count_86 rfl hr
    refine mb_ite hr (fun hc hr => ?_) (fun hc12 hr => ?_)
    · refine mg_tableK (pc := 23) (64) 87 dX12_count_23 hc (by decide +kernel) rfl ?_
      refine ml_aload_n (pc := 87) dX12_count_87 rfl mm_get_0 ?_
      refine mb_gr (pc := 88) dX12_count_88 fl_X12_60 hr (fun c10 hr => ?_)
      refine mg_iconst (pc := 91) dX12_count_91 kc_0 ?_
      refine mb_ai (pc := 92) dX12_count_92 hr (fun x11 hr => ?_)
      exact mb_iret dX12_count_93 rfl hr
    refine mb_ite hr (fun hc hr => ?_) (fun hc15 hr => ?_)
    · refine mg_tableK (pc := 23) (71) 94 dX12_count_23 hc (by decide +kernel) rfl ?_
      refine ml_aload_n (pc := 94) dX12_count_94 rfl mm_get_0 ?_
      refine mb_gr (pc := 95) dX12_count_95 fl_X12_60 hr (fun c13 hr => ?_)
      refine mg_iconst (pc := 98) dX12_count_98 kc_1 ?_
      refine mb_ai (pc := 99) dX12_count_99 hr (fun x14 hr => ?_)
      exact mb_iret dX12_count_100 rfl hr
    refine mb_ite hr (fun hc hr => ?_) (fun hc17 hr => ?_)
    · refine mg_tableK (pc := 23) (78) 101 dX12_count_23 hc (by decide +kernel) rfl ?_
      refine ml_aload_n (pc := 101) dX12_count_101 rfl mm_get_0 ?_
      refine mb_gi (pc := 102) dX12_count_102 fl_X12_365 hr (fun x16 hr => ?_)
      exact mb_iret dX12_count_105 rfl hr
    refine mb_ite hr (fun hc hr => ?_) (fun hc20 hr => ?_)
    · refine mg_tableK (pc := 23) (83) 106 dX12_count_23 hc (by decide +kernel) rfl ?_
      refine ml_aload_n (pc := 106) dX12_count_106 rfl mm_get_0 ?_
      refine ml_aload_n (pc := 107) dX12_count_107 rfl mm_get_0 ?_
      refine mb_gr (pc := 108) dX12_count_108 fl_X12_60 hr (fun c18 hr => ?_)
      refine mb_cVi (pc := 111) (As := [.ref c18]) (rest := []) dX12_count_111 cw_X12_372 h0 hr (fun v hv => X12_queen_ok hz (by omega) h0 hv) rfl (Nat.le_of_ble_eq_true rfl) (Nat.zero_le _) (Nat.zero_le _) (fun r19 hr => ?_)
      exact mb_iret dX12_count_114 rfl hr
    refine mb_ite hr (fun hc hr => ?_) (fun hc25 hr => ?_)
    · refine mg_tableK (pc := 23) (92) 115 dX12_count_23 hc (by decide +kernel) rfl ?_
      refine ml_aload_n (pc := 115) dX12_count_115 rfl mm_get_0 ?_
      refine ml_aload_n (pc := 116) dX12_count_116 rfl mm_get_0 ?_
      refine mb_gr (pc := 117) dX12_count_117 fl_X12_60 hr (fun c21 hr => ?_)
      refine mb_cVi (pc := 120) (As := [.ref c21]) (rest := []) dX12_count_120 cw_X12_338 h0 hr (fun v hv => X12_isOver_ok hz (by omega) h0 hv) rfl (Nat.le_of_ble_eq_true rfl) (Nat.zero_le _) (Nat.zero_le _) (fun r22 hr => ?_)
      refine mb_if_eq (pc := 123) 137 dX12_count_123 rfl hr (fun hr => ?_) (fun hr => ?_)
      · refine mg_iconst (pc := 137) dX12_count_137 kc_m1 ?_
        exact mg_weak (mm_le_n (mm_le_n mm_le_0)) (X12_count_b138_ok hz hd h0 hr)
      · refine ml_aload_n (pc := 126) dX12_count_126 rfl mm_get_0 ?_
        refine ml_aload_n (pc := 127) dX12_count_127 rfl mm_get_0 ?_
        refine mb_gr (pc := 128) dX12_count_128 fl_X12_60 hr (fun c23 hr => ?_)
        refine mb_cVi (pc := 131) (As := [.ref c23]) (rest := []) dX12_count_131 cw_X12_372 h0 hr (fun v hv => X12_queen_ok hz (by omega) h0 hv) rfl (Nat.le_of_ble_eq_true rfl) (Nat.zero_le _) (Nat.zero_le _) (fun r24 hr => ?_)
        refine mg_goto (pc := 134) 138 dX12_count_134 rfl ?_
        exact mg_weak (mm_le_n (mm_le_n mm_le_0)) (X12_count_b138_ok hz hd h0 hr)
    refine mb_ite hr (fun hc hr => ?_) (fun hc27 hr => ?_)
    · refine mg_tableK (pc := 23) (116) 139 dX12_count_23 hc (by decide +kernel) rfl ?_
      refine ml_aload_n (pc := 139) dX12_count_139 rfl mm_get_0 ?_
      refine mb_gi (pc := 140) dX12_count_140 fl_X12_155 hr (fun x26 hr => ?_)
      exact mb_iret dX12_count_143 rfl hr
    refine mg_tableD (pc := 23) 144 dX12_count_23 ((mm_nin_c hc5 (mm_nin_c hc7 (mm_nin_c hc9 (mm_nin_c hc12 (mm_nin_c hc15 (mm_nin_c hc17 (mm_nin_c hc20 (mm_nin_c hc25 (mm_nin_c hc27 mm_nin_0))))))))) : ∀ y ∈ [(0 : Int32), (1 : Int32), (2 : Int32), (3 : Int32), (4 : Int32), (5 : Int32), (6 : Int32), (7 : Int32), (8 : Int32)], ¬ i1 = y) (by decide +kernel) rfl ?_
    refine ml_aload_n (pc := 144) dX12_count_144 rfl mm_get_0 ?_
    refine mb_gr (pc := 145) dX12_count_145 fl_X12_32 hr (fun c28 hr => ?_)
    refine ml_iload_n (pc := 148) dX12_count_148 rfl (mm_get_s mm_get_0) ?_
    refine mg_bipush (pc := 149) dX12_count_149 kb_9 ?_
    refine mg_isub (pc := 151) dX12_count_151 ?_
    refine mb_ai (pc := 152) dX12_count_152 hr (fun x29 hr => ?_)
    exact mb_iret dX12_count_153 rfl hr
  · refine mg_iconst (pc := 20) dX12_count_20 kc_0 ?_
    exact mb_iret dX12_count_21 rfl hr
theorem dX12_isPerson_0 : decode cX12_isPerson 0 = .ok (.aload_n 0, 1) := by decide +kernel
theorem dX12_isPerson_1 : decode cX12_isPerson 1 = .ok (.iload_n 1, 1) := by decide +kernel
theorem dX12_isPerson_2 : decode cX12_isPerson 2 = .ok (.ifCond .lt 15, 3) := by decide +kernel
theorem dX12_isPerson_5 : decode cX12_isPerson 5 = .ok (.iload_n 1, 1) := by decide +kernel
theorem dX12_isPerson_6 : decode cX12_isPerson 6 = .ok (.aload_n 0, 1) := by decide +kernel
theorem dX12_isPerson_7 : decode cX12_isPerson 7 = .ok (.getfield 7, 3) := by decide +kernel
theorem dX12_isPerson_10 : decode cX12_isPerson 10 = .ok (.if_icmp .ge 7, 3) := by decide +kernel
theorem dX12_isPerson_13 : decode cX12_isPerson 13 = .ok (.iconst 1, 1) := by decide +kernel
theorem dX12_isPerson_14 : decode cX12_isPerson 14 = .ok (.goto 4, 3) := by decide +kernel
theorem dX12_isPerson_17 : decode cX12_isPerson 17 = .ok (.iconst 0, 1) := by decide +kernel
theorem dX12_isPerson_18 : decode cX12_isPerson 18 = .ok (.iconst 1, 1) := by decide +kernel
theorem dX12_isPerson_19 : decode cX12_isPerson 19 = .ok (.invokevirtual 306, 3) := by decide +kernel
theorem dX12_isPerson_22 : decode cX12_isPerson 22 = .ok (.ireturn, 1) := by decide +kernel
def X12_isPerson_b18 (e : mm_E) (t0 : Nat) (t1 : Int32) (m : mm_V) : Option (Int32 × mm_V) := if e.1 t0 = some (12, 75) then ((X12_right e t0 t1 (1 : Int32) m).bind fun r1 => mm_rz r1.1 r1.2) else none
theorem X12_isPerson_b18_ok {K : mm_K} {nx : Option Nat} {e : mm_E} (hz : e.2.1 = K.2.2.2.2) {d : Nat} (hd : 1 ≤ d) {t0 : Nat} {t1 : Int32} {a0 : Nat} (h0 : e.1 a0 = some (12, 75)) {m : mm_V} {r : (Int32 × mm_V)} (hr : X12_isPerson_b18 e t0 t1 m = some r) : mm_G K MX12_isPerson d (mm_Fi e.1 nx r) 18 [none, none] [.int t1, .ref t0] (e.1, m) nx 0 0 := by
  obtain ⟨d, rfl⟩ : ∃ d', d = d' + 1 := ⟨d - 1, by omega⟩
  unfold X12_isPerson_b18 at hr
  refine mg_iconst (pc := 18) dX12_isPerson_18 kc_1 ?_
  refine mb_ck hr (fun hb2 hr => ?_)
  refine mb_cVi (pc := 19) (As := [.int t1, .int (1 : Int32)]) (rest := []) dX12_isPerson_19 cw_X12_306 hb2 hr (fun v hv => X12_right_ok hz (by omega) hb2 hv) rfl (Nat.le_of_ble_eq_true rfl) (Nat.zero_le _) (Nat.zero_le _) (fun r1 hr => ?_)
  exact mb_zret dX12_isPerson_22 rfl hr
def X12_isPerson_b17 (e : mm_E) (t0 : Nat) (m : mm_V) : Option (Int32 × mm_V) := X12_isPerson_b18 e  t0 (0 : Int32) m
theorem X12_isPerson_b17_ok {K : mm_K} {nx : Option Nat} {e : mm_E} (hz : e.2.1 = K.2.2.2.2) {d : Nat} (hd : 1 ≤ d) {t0 : Nat} {a0 : Nat} (h0 : e.1 a0 = some (12, 75)) {m : mm_V} {r : (Int32 × mm_V)} (hr : X12_isPerson_b17 e t0 m = some r) : mm_G K MX12_isPerson d (mm_Fi e.1 nx r) 17 [none, none] [.ref t0] (e.1, m) nx 0 0 := by
  obtain ⟨d, rfl⟩ : ∃ d', d = d' + 1 := ⟨d - 1, by omega⟩
  unfold X12_isPerson_b17 at hr
  refine mg_iconst (pc := 17) dX12_isPerson_17 kc_0 ?_
  exact mg_weak (mm_le_n (mm_le_n mm_le_0)) (X12_isPerson_b18_ok hz hd h0 hr)
def X12_isPerson (e : mm_E) (a0 : Nat) (i1 : Int32) (m : mm_V) : Option (Int32 × mm_V) := if i1 < 0 then (X12_isPerson_b17 e  a0 m) else ((mm_gi e.1 m 12 75 a0 1).bind fun x1 => if x1 ≤ i1 then (X12_isPerson_b17 e  a0 m) else (X12_isPerson_b18 e  a0 (1 : Int32) m))
theorem X12_isPerson_ok {K : mm_K} {nx : Option Nat} {e : mm_E} (hz : e.2.1 = K.2.2.2.2) {d : Nat} (hd : 1 ≤ d) {a0 : Nat} {i1 : Int32} (h0 : e.1 a0 = some (12, 75)) {m : mm_V} {r : (Int32 × mm_V)} (hr : X12_isPerson e a0 i1 m = some r) : mm_Cn K MX12_isPerson d (mm_Fi e.1 nx r) [.ref a0, .int i1] (e.1, m) nx := by
  obtain ⟨d, rfl⟩ : ∃ d', d = d' + 1 := ⟨d - 1, by omega⟩
  refine mm_entry (by decide) (Nat.le_of_ble_eq_true rfl) rfl (fun hok => ?_)
  unfold X12_isPerson at hr
  refine mg_weak (L' := [some (.ref a0), some (.int i1)]) (mm_le_s (mm_le_s mm_le_0)) ?_
  refine ml_aload_n (pc := 0) dX12_isPerson_0 rfl mm_get_0 ?_
  refine ml_iload_n (pc := 1) dX12_isPerson_1 rfl (mm_get_s mm_get_0) ?_
  refine mb_if_lt (pc := 2) 17 dX12_isPerson_2 rfl hr (fun hr => ?_) (fun hr => ?_)
  · exact mg_weak (mm_le_n (mm_le_n mm_le_0)) (X12_isPerson_b17_ok hz hd h0 hr)
  · refine ml_iload_n (pc := 5) dX12_isPerson_5 rfl (mm_get_s mm_get_0) ?_
    refine ml_aload_n (pc := 6) dX12_isPerson_6 rfl mm_get_0 ?_
    refine mb_gi (pc := 7) dX12_isPerson_7 fl_X12_7 hr (fun x1 hr => ?_)
    refine mb_icmp_ge (pc := 10) 17 dX12_isPerson_10 rfl hr (fun hr => ?_) (fun hr => ?_)
    · exact mg_weak (mm_le_n (mm_le_n mm_le_0)) (X12_isPerson_b17_ok hz hd h0 hr)
    · refine mg_iconst (pc := 13) dX12_isPerson_13 kc_1 ?_
      refine mg_goto (pc := 14) 18 dX12_isPerson_14 rfl ?_
      exact mg_weak (mm_le_n (mm_le_n mm_le_0)) (X12_isPerson_b18_ok hz hd h0 hr)
theorem dX12_isWhat_0 : decode cX12_isWhat 0 = .ok (.aload_n 0, 1) := by decide +kernel
theorem dX12_isWhat_1 : decode cX12_isWhat 1 = .ok (.iload_n 1, 1) := by decide +kernel
theorem dX12_isWhat_2 : decode cX12_isWhat 2 = .ok (.iconst 0, 1) := by decide +kernel
theorem dX12_isWhat_3 : decode cX12_isWhat 3 = .ok (.iload_n 2, 1) := by decide +kernel
theorem dX12_isWhat_4 : decode cX12_isWhat 4 = .ok (.invokestatic 368, 3) := by decide +kernel
theorem dX12_isWhat_7 : decode cX12_isWhat 7 = .ok (.iconst 1, 1) := by decide +kernel
theorem dX12_isWhat_8 : decode cX12_isWhat 8 = .ok (.invokevirtual 306, 3) := by decide +kernel
theorem dX12_isWhat_11 : decode cX12_isWhat 11 = .ok (.ireturn, 1) := by decide +kernel
def X12_isWhat (e : mm_E) (a0 : Nat) (i1 : Int32) (i2 : Int32) (m : mm_V) : Option (Int32 × mm_V) := (X12_within e i1 (0 : Int32) i2 m).bind fun r1 => (X12_right e a0 r1.1 (1 : Int32) r1.2).bind fun r2 => mm_rz r2.1 r2.2
theorem X12_isWhat_ok {K : mm_K} {nx : Option Nat} {e : mm_E} (hz : e.2.1 = K.2.2.2.2) {d : Nat} (hd : 1 ≤ d) {a0 : Nat} {i1 : Int32} {i2 : Int32} (h0 : e.1 a0 = some (12, 75)) {m : mm_V} {r : (Int32 × mm_V)} (hr : X12_isWhat e a0 i1 i2 m = some r) : mm_Cn K MX12_isWhat d (mm_Fi e.1 nx r) [.ref a0, .int i1, .int i2] (e.1, m) nx := by
  obtain ⟨d, rfl⟩ : ∃ d', d = d' + 1 := ⟨d - 1, by omega⟩
  refine mm_entry (by decide) (Nat.le_of_ble_eq_true rfl) rfl (fun hok => ?_)
  unfold X12_isWhat at hr
  refine mg_weak (L' := [some (.ref a0), some (.int i1), some (.int i2)]) (mm_le_s (mm_le_s (mm_le_s mm_le_0))) ?_
  refine ml_aload_n (pc := 0) dX12_isWhat_0 rfl mm_get_0 ?_
  refine ml_iload_n (pc := 1) dX12_isWhat_1 rfl (mm_get_s mm_get_0) ?_
  refine mg_iconst (pc := 2) dX12_isWhat_2 kc_0 ?_
  refine ml_iload_n (pc := 3) dX12_isWhat_3 rfl (mm_get_s (mm_get_s mm_get_0)) ?_
  refine mb_cSi (pc := 4) (As := [.int i1, .int (0 : Int32), .int i2]) (rest := [.ref a0]) dX12_isWhat_4 cw_X12_368  hr (fun v hv => X12_within_ok hz (by omega)  hv) rfl (Nat.le_of_ble_eq_true rfl) (Nat.zero_le _) (Nat.zero_le _) (fun r1 hr => ?_)
  refine mg_iconst (pc := 7) dX12_isWhat_7 kc_1 ?_
  refine mb_cVi (pc := 8) (As := [.int r1.1, .int (1 : Int32)]) (rest := []) dX12_isWhat_8 cw_X12_306 h0 hr (fun v hv => X12_right_ok hz (by omega) h0 hv) rfl (Nat.le_of_ble_eq_true rfl) (Nat.zero_le _) (Nat.zero_le _) (fun r2 hr => ?_)
  exact mb_zret dX12_isWhat_11 rfl hr
theorem dX12_fan_0 : decode cX12_fan 0 = .ok (.aload_n 0, 1) := by decide +kernel
theorem dX12_fan_1 : decode cX12_fan 1 = .ok (.iconst 0, 1) := by decide +kernel
theorem dX12_fan_2 : decode cX12_fan 2 = .ok (.putfield 152, 3) := by decide +kernel
theorem dX12_fan_5 : decode cX12_fan 5 = .ok (.aload_n 0, 1) := by decide +kernel
theorem dX12_fan_6 : decode cX12_fan 6 = .ok (.iload_n 1, 1) := by decide +kernel
theorem dX12_fan_7 : decode cX12_fan 7 = .ok (.invokevirtual 376, 3) := by decide +kernel
theorem dX12_fan_10 : decode cX12_fan 10 = .ok (.ifCond .eq 33, 3) := by decide +kernel
theorem dX12_fan_13 : decode cX12_fan 13 = .ok (.aload_n 0, 1) := by decide +kernel
theorem dX12_fan_14 : decode cX12_fan 14 = .ok (.iload_n 2, 1) := by decide +kernel
theorem dX12_fan_15 : decode cX12_fan 15 = .ok (.iconst (-1), 1) := by decide +kernel
theorem dX12_fan_16 : decode cX12_fan 16 = .ok (.if_icmp .lt 19, 3) := by decide +kernel
theorem dX12_fan_19 : decode cX12_fan 19 = .ok (.iload_n 2, 1) := by decide +kernel
theorem dX12_fan_20 : decode cX12_fan 20 = .ok (.aload_n 0, 1) := by decide +kernel
theorem dX12_fan_21 : decode cX12_fan 21 = .ok (.getfield 60, 3) := by decide +kernel
theorem dX12_fan_24 : decode cX12_fan 24 = .ok (.iload_n 1, 1) := by decide +kernel
theorem dX12_fan_25 : decode cX12_fan 25 = .ok (.invokestatic 327, 3) := by decide +kernel
theorem dX12_fan_28 : decode cX12_fan 28 = .ok (.if_icmp .ge 7, 3) := by decide +kernel
theorem dX12_fan_31 : decode cX12_fan 31 = .ok (.iconst 1, 1) := by decide +kernel
theorem dX12_fan_32 : decode cX12_fan 32 = .ok (.goto 4, 3) := by decide +kernel
theorem dX12_fan_35 : decode cX12_fan 35 = .ok (.iconst 0, 1) := by decide +kernel
theorem dX12_fan_36 : decode cX12_fan 36 = .ok (.iconst 1, 1) := by decide +kernel
theorem dX12_fan_37 : decode cX12_fan 37 = .ok (.invokevirtual 306, 3) := by decide +kernel
theorem dX12_fan_40 : decode cX12_fan 40 = .ok (.ifCond .ne 5, 3) := by decide +kernel
theorem dX12_fan_43 : decode cX12_fan 43 = .ok (.iconst 0, 1) := by decide +kernel
theorem dX12_fan_44 : decode cX12_fan 44 = .ok (.ireturn, 1) := by decide +kernel
theorem dX12_fan_45 : decode cX12_fan 45 = .ok (.iload_n 2, 1) := by decide +kernel
theorem dX12_fan_46 : decode cX12_fan 46 = .ok (.iconst (-1), 1) := by decide +kernel
theorem dX12_fan_47 : decode cX12_fan 47 = .ok (.if_icmp .ne 14, 3) := by decide +kernel
theorem dX12_fan_50 : decode cX12_fan 50 = .ok (.aload_n 0, 1) := by decide +kernel
theorem dX12_fan_51 : decode cX12_fan 51 = .ok (.getfield 60, 3) := by decide +kernel
theorem dX12_fan_54 : decode cX12_fan 54 = .ok (.iload_n 1, 1) := by decide +kernel
theorem dX12_fan_55 : decode cX12_fan 55 = .ok (.invokestatic 327, 3) := by decide +kernel
theorem dX12_fan_58 : decode cX12_fan 58 = .ok (.goto 12, 3) := by decide +kernel
theorem dX12_fan_61 : decode cX12_fan 61 = .ok (.aload_n 0, 1) := by decide +kernel
theorem dX12_fan_62 : decode cX12_fan 62 = .ok (.getfield 60, 3) := by decide +kernel
theorem dX12_fan_65 : decode cX12_fan 65 = .ok (.iload_n 1, 1) := by decide +kernel
theorem dX12_fan_66 : decode cX12_fan 66 = .ok (.iload_n 2, 1) := by decide +kernel
theorem dX12_fan_67 : decode cX12_fan 67 = .ok (.invokestatic 331, 3) := by decide +kernel
theorem dX12_fan_70 : decode cX12_fan 70 = .ok (.ireturn, 1) := by decide +kernel
def X12_fan_b70 (e : mm_E) (t0 : Int32) (m : mm_V) : Option (Int32 × mm_V) := some (t0, m)
theorem X12_fan_b70_ok {K : mm_K} {nx : Option Nat} {e : mm_E} (hz : e.2.1 = K.2.2.2.2) {d : Nat} (hd : 2 ≤ d) {t0 : Int32} {a0 : Nat} (h0 : e.1 a0 = some (12, 75)) {m : mm_V} {r : (Int32 × mm_V)} (hr : X12_fan_b70 e t0 m = some r) : mm_G K MX12_fan d (mm_Fi e.1 nx r) 70 [none, none, none] [.int t0] (e.1, m) nx 0 0 := by
  obtain ⟨d, rfl⟩ : ∃ d', d = d' + 1 := ⟨d - 1, by omega⟩
  unfold X12_fan_b70 at hr
  exact mb_iret dX12_fan_70 rfl hr
def X12_fan_b43 (e : mm_E) (m : mm_V) : Option (Int32 × mm_V) := some ((0 : Int32), m)
theorem X12_fan_b43_ok {K : mm_K} {nx : Option Nat} {e : mm_E} (hz : e.2.1 = K.2.2.2.2) {d : Nat} (hd : 2 ≤ d) {a0 : Nat} (h0 : e.1 a0 = some (12, 75)) {m : mm_V} {r : (Int32 × mm_V)} (hr : X12_fan_b43 e m = some r) : mm_G K MX12_fan d (mm_Fi e.1 nx r) 43 [none, none, none] [] (e.1, m) nx 0 0 := by
  obtain ⟨d, rfl⟩ : ∃ d', d = d' + 1 := ⟨d - 1, by omega⟩
  unfold X12_fan_b43 at hr
  refine mg_iconst (pc := 43) dX12_fan_43 kc_0 ?_
  exact mb_iret dX12_fan_44 rfl hr
def X12_fan_b36 (e : mm_E) (a0 : Nat) (i1 : Int32) (i2 : Int32) (t0 : Nat) (t1 : Int32) (m : mm_V) : Option (Int32 × mm_V) := if e.1 t0 = some (12, 75) then ((X12_right e t0 t1 (1 : Int32) m).bind fun r1 => if ¬ r1.1 = 0 then (if ¬ i2 = (-1 : Int32) then ((mm_gr e.1 r1.2 12 75 a0 39).bind fun c3 => (X12_card e c3 i1 i2 r1.2).bind fun r4 => X12_fan_b70 e  r4.1 r4.2) else ((mm_gr e.1 r1.2 12 75 a0 39).bind fun c5 => (X12_size e c5 i1 r1.2).bind fun r6 => X12_fan_b70 e  r6.1 r6.2)) else (X12_fan_b43 e   r1.2)) else none
theorem X12_fan_b36_ok {K : mm_K} {nx : Option Nat} {e : mm_E} (hz : e.2.1 = K.2.2.2.2) {d : Nat} (hd : 2 ≤ d) {a0 : Nat} {i1 : Int32} {i2 : Int32} {t0 : Nat} {t1 : Int32} (h0 : e.1 a0 = some (12, 75)) {m : mm_V} {r : (Int32 × mm_V)} (hr : X12_fan_b36 e a0 i1 i2 t0 t1 m = some r) : mm_G K MX12_fan d (mm_Fi e.1 nx r) 36 [some (.ref a0), some (.int i1), some (.int i2)] [.int t1, .ref t0] (e.1, m) nx 0 0 := by
  obtain ⟨d, rfl⟩ : ∃ d', d = d' + 1 := ⟨d - 1, by omega⟩
  unfold X12_fan_b36 at hr
  refine mg_iconst (pc := 36) dX12_fan_36 kc_1 ?_
  refine mb_ck hr (fun hb2 hr => ?_)
  refine mb_cVi (pc := 37) (As := [.int t1, .int (1 : Int32)]) (rest := []) dX12_fan_37 cw_X12_306 hb2 hr (fun v hv => X12_right_ok hz (by omega) hb2 hv) rfl (Nat.le_of_ble_eq_true rfl) (Nat.zero_le _) (Nat.zero_le _) (fun r1 hr => ?_)
  refine mb_if_ne (pc := 40) 45 dX12_fan_40 rfl hr (fun hr => ?_) (fun hr => ?_)
  · refine ml_iload_n (pc := 45) dX12_fan_45 rfl (mm_get_s (mm_get_s mm_get_0)) ?_
    refine mg_iconst (pc := 46) dX12_fan_46 kc_m1 ?_
    refine mb_icmp_ne (pc := 47) 61 dX12_fan_47 rfl hr (fun hr => ?_) (fun hr => ?_)
    · refine ml_aload_n (pc := 61) dX12_fan_61 rfl mm_get_0 ?_
      refine mb_gr (pc := 62) dX12_fan_62 fl_X12_60 hr (fun c3 hr => ?_)
      refine ml_iload_n (pc := 65) dX12_fan_65 rfl (mm_get_s mm_get_0) ?_
      refine ml_iload_n (pc := 66) dX12_fan_66 rfl (mm_get_s (mm_get_s mm_get_0)) ?_
      refine mb_cSi (pc := 67) (As := [.ref c3, .int i1, .int i2]) (rest := []) dX12_fan_67 cw_X12_331  hr (fun v hv => X12_card_ok hz (by omega)  hv) rfl (Nat.le_of_ble_eq_true rfl) (Nat.zero_le _) (Nat.zero_le _) (fun r4 hr => ?_)
      exact mg_weak (mm_le_n (mm_le_n (mm_le_n mm_le_0))) (X12_fan_b70_ok hz hd h0 hr)
    · refine ml_aload_n (pc := 50) dX12_fan_50 rfl mm_get_0 ?_
      refine mb_gr (pc := 51) dX12_fan_51 fl_X12_60 hr (fun c5 hr => ?_)
      refine ml_iload_n (pc := 54) dX12_fan_54 rfl (mm_get_s mm_get_0) ?_
      refine mb_cSi (pc := 55) (As := [.ref c5, .int i1]) (rest := []) dX12_fan_55 cw_X12_327  hr (fun v hv => X12_size_ok hz (by omega)  hv) rfl (Nat.le_of_ble_eq_true rfl) (Nat.zero_le _) (Nat.zero_le _) (fun r6 hr => ?_)
      refine mg_goto (pc := 58) 70 dX12_fan_58 rfl ?_
      exact mg_weak (mm_le_n (mm_le_n (mm_le_n mm_le_0))) (X12_fan_b70_ok hz hd h0 hr)
  · exact mg_weak (mm_le_n (mm_le_n (mm_le_n mm_le_0))) (X12_fan_b43_ok hz hd h0 hr)
def X12_fan_b35 (e : mm_E) (a0 : Nat) (i1 : Int32) (i2 : Int32) (t0 : Nat) (m : mm_V) : Option (Int32 × mm_V) := X12_fan_b36 e a0 i1 i2 t0 (0 : Int32) m
theorem X12_fan_b35_ok {K : mm_K} {nx : Option Nat} {e : mm_E} (hz : e.2.1 = K.2.2.2.2) {d : Nat} (hd : 2 ≤ d) {a0 : Nat} {i1 : Int32} {i2 : Int32} {t0 : Nat} (h0 : e.1 a0 = some (12, 75)) {m : mm_V} {r : (Int32 × mm_V)} (hr : X12_fan_b35 e a0 i1 i2 t0 m = some r) : mm_G K MX12_fan d (mm_Fi e.1 nx r) 35 [some (.ref a0), some (.int i1), some (.int i2)] [.ref t0] (e.1, m) nx 0 0 := by
  obtain ⟨d, rfl⟩ : ∃ d', d = d' + 1 := ⟨d - 1, by omega⟩
  unfold X12_fan_b35 at hr
  refine mg_iconst (pc := 35) dX12_fan_35 kc_0 ?_
  exact mg_weak (mm_le_s (mm_le_s (mm_le_s mm_le_0))) (X12_fan_b36_ok hz hd h0 hr)
def X12_fan (e : mm_E) (a0 : Nat) (i1 : Int32) (i2 : Int32) (m : mm_V) : Option (Int32 × mm_V) := (mm_pf e.1 m 12 75 a0 0 (.int (0 : Int32))).bind fun m1 => (X12_isPerson e a0 i1 m1).bind fun r2 => if r2.1 = 0 then (X12_fan_b43 e   r2.2) else (if i2 < (-1 : Int32) then (X12_fan_b35 e a0 i1 i2 a0 r2.2) else ((mm_gr e.1 r2.2 12 75 a0 39).bind fun c3 => (X12_size e c3 i1 r2.2).bind fun r4 => if r4.1 ≤ i2 then (X12_fan_b35 e a0 i1 i2 a0 r4.2) else (X12_fan_b36 e a0 i1 i2 a0 (1 : Int32) r4.2)))
theorem X12_fan_ok {K : mm_K} {nx : Option Nat} {e : mm_E} (hz : e.2.1 = K.2.2.2.2) {d : Nat} (hd : 2 ≤ d) {a0 : Nat} {i1 : Int32} {i2 : Int32} (h0 : e.1 a0 = some (12, 75)) {m : mm_V} {r : (Int32 × mm_V)} (hr : X12_fan e a0 i1 i2 m = some r) : mm_Cn K MX12_fan d (mm_Fi e.1 nx r) [.ref a0, .int i1, .int i2] (e.1, m) nx := by
  obtain ⟨d, rfl⟩ : ∃ d', d = d' + 1 := ⟨d - 1, by omega⟩
  refine mm_entry (by decide) (Nat.le_of_ble_eq_true rfl) rfl (fun hok => ?_)
  unfold X12_fan at hr
  refine mg_weak (L' := [some (.ref a0), some (.int i1), some (.int i2)]) (mm_le_s (mm_le_s (mm_le_s mm_le_0))) ?_
  refine ml_aload_n (pc := 0) dX12_fan_0 rfl mm_get_0 ?_
  refine mg_iconst (pc := 1) dX12_fan_1 kc_0 ?_
  refine mb_pi (pc := 2) dX12_fan_2 fp_X12_152 hr (fun m1 hr => ?_)
  refine ml_aload_n (pc := 5) dX12_fan_5 rfl mm_get_0 ?_
  refine ml_iload_n (pc := 6) dX12_fan_6 rfl (mm_get_s mm_get_0) ?_
  refine mb_cVi (pc := 7) (As := [.int i1]) (rest := []) dX12_fan_7 cw_X12_376 h0 hr (fun v hv => X12_isPerson_ok hz (by omega) h0 hv) rfl (Nat.le_of_ble_eq_true rfl) (Nat.zero_le _) (Nat.zero_le _) (fun r2 hr => ?_)
  refine mb_if_eq (pc := 10) 43 dX12_fan_10 rfl hr (fun hr => ?_) (fun hr => ?_)
  · exact mg_weak (mm_le_n (mm_le_n (mm_le_n mm_le_0))) (X12_fan_b43_ok hz hd h0 hr)
  · refine ml_aload_n (pc := 13) dX12_fan_13 rfl mm_get_0 ?_
    refine ml_iload_n (pc := 14) dX12_fan_14 rfl (mm_get_s (mm_get_s mm_get_0)) ?_
    refine mg_iconst (pc := 15) dX12_fan_15 kc_m1 ?_
    refine mb_icmp_lt (pc := 16) 35 dX12_fan_16 rfl hr (fun hr => ?_) (fun hr => ?_)
    · exact mg_weak (mm_le_s (mm_le_s (mm_le_s mm_le_0))) (X12_fan_b35_ok hz hd h0 hr)
    · refine ml_iload_n (pc := 19) dX12_fan_19 rfl (mm_get_s (mm_get_s mm_get_0)) ?_
      refine ml_aload_n (pc := 20) dX12_fan_20 rfl mm_get_0 ?_
      refine mb_gr (pc := 21) dX12_fan_21 fl_X12_60 hr (fun c3 hr => ?_)
      refine ml_iload_n (pc := 24) dX12_fan_24 rfl (mm_get_s mm_get_0) ?_
      refine mb_cSi (pc := 25) (As := [.ref c3, .int i1]) (rest := [.int i2, .ref a0]) dX12_fan_25 cw_X12_327  hr (fun v hv => X12_size_ok hz (by omega)  hv) rfl (Nat.le_of_ble_eq_true rfl) (Nat.zero_le _) (Nat.zero_le _) (fun r4 hr => ?_)
      refine mb_icmp_ge (pc := 28) 35 dX12_fan_28 rfl hr (fun hr => ?_) (fun hr => ?_)
      · exact mg_weak (mm_le_s (mm_le_s (mm_le_s mm_le_0))) (X12_fan_b35_ok hz hd h0 hr)
      · refine mg_iconst (pc := 31) dX12_fan_31 kc_1 ?_
        refine mg_goto (pc := 32) 36 dX12_fan_32 rfl ?_
        exact mg_weak (mm_le_s (mm_le_s (mm_le_s mm_le_0))) (X12_fan_b36_ok hz hd h0 hr)
theorem dX12_works_0 : decode cX12_works 0 = .ok (.iload_n 0, 1) := by decide +kernel
theorem dX12_works_1 : decode cX12_works 1 = .ok (.tableswitch 105 4 10 #[43, 57, 71, 82, 93, 97, 101], 43) := by decide +kernel
theorem dX12_works_44 : decode cX12_works 44 = .ok (.iload_n 1, 1) := by decide +kernel
theorem dX12_works_45 : decode cX12_works 45 = .ok (.ifCond .eq 11, 3) := by decide +kernel
theorem dX12_works_48 : decode cX12_works 48 = .ok (.iload_n 2, 1) := by decide +kernel
theorem dX12_works_49 : decode cX12_works 49 = .ok (.ifCond .eq 7, 3) := by decide +kernel
theorem dX12_works_52 : decode cX12_works 52 = .ok (.iconst 1, 1) := by decide +kernel
theorem dX12_works_53 : decode cX12_works 53 = .ok (.goto 4, 3) := by decide +kernel
theorem dX12_works_56 : decode cX12_works 56 = .ok (.iconst 0, 1) := by decide +kernel
theorem dX12_works_57 : decode cX12_works 57 = .ok (.ireturn, 1) := by decide +kernel
theorem dX12_works_58 : decode cX12_works 58 = .ok (.iload_n 1, 1) := by decide +kernel
theorem dX12_works_59 : decode cX12_works 59 = .ok (.ifCond .ne 7, 3) := by decide +kernel
theorem dX12_works_62 : decode cX12_works 62 = .ok (.iload_n 2, 1) := by decide +kernel
theorem dX12_works_63 : decode cX12_works 63 = .ok (.ifCond .eq 7, 3) := by decide +kernel
theorem dX12_works_66 : decode cX12_works 66 = .ok (.iconst 1, 1) := by decide +kernel
theorem dX12_works_67 : decode cX12_works 67 = .ok (.goto 4, 3) := by decide +kernel
theorem dX12_works_70 : decode cX12_works 70 = .ok (.iconst 0, 1) := by decide +kernel
theorem dX12_works_71 : decode cX12_works 71 = .ok (.ireturn, 1) := by decide +kernel
theorem dX12_works_72 : decode cX12_works 72 = .ok (.iload_n 1, 1) := by decide +kernel
theorem dX12_works_73 : decode cX12_works 73 = .ok (.iload_n 2, 1) := by decide +kernel
theorem dX12_works_74 : decode cX12_works 74 = .ok (.if_icmp .ge 7, 3) := by decide +kernel
theorem dX12_works_77 : decode cX12_works 77 = .ok (.iconst 1, 1) := by decide +kernel
theorem dX12_works_78 : decode cX12_works 78 = .ok (.goto 4, 3) := by decide +kernel
theorem dX12_works_81 : decode cX12_works 81 = .ok (.iconst 0, 1) := by decide +kernel
theorem dX12_works_82 : decode cX12_works 82 = .ok (.ireturn, 1) := by decide +kernel
theorem dX12_works_83 : decode cX12_works 83 = .ok (.iload_n 1, 1) := by decide +kernel
theorem dX12_works_84 : decode cX12_works 84 = .ok (.iload_n 2, 1) := by decide +kernel
theorem dX12_works_85 : decode cX12_works 85 = .ok (.if_icmp .ne 7, 3) := by decide +kernel
theorem dX12_works_88 : decode cX12_works 88 = .ok (.iconst 1, 1) := by decide +kernel
theorem dX12_works_89 : decode cX12_works 89 = .ok (.goto 4, 3) := by decide +kernel
theorem dX12_works_92 : decode cX12_works 92 = .ok (.iconst 0, 1) := by decide +kernel
theorem dX12_works_93 : decode cX12_works 93 = .ok (.ireturn, 1) := by decide +kernel
theorem dX12_works_94 : decode cX12_works 94 = .ok (.iload_n 1, 1) := by decide +kernel
theorem dX12_works_95 : decode cX12_works 95 = .ok (.iload_n 2, 1) := by decide +kernel
theorem dX12_works_96 : decode cX12_works 96 = .ok (.iadd, 1) := by decide +kernel
theorem dX12_works_97 : decode cX12_works 97 = .ok (.ireturn, 1) := by decide +kernel
theorem dX12_works_98 : decode cX12_works 98 = .ok (.iload_n 1, 1) := by decide +kernel
theorem dX12_works_99 : decode cX12_works 99 = .ok (.iload_n 2, 1) := by decide +kernel
theorem dX12_works_100 : decode cX12_works 100 = .ok (.isub, 1) := by decide +kernel
theorem dX12_works_101 : decode cX12_works 101 = .ok (.ireturn, 1) := by decide +kernel
theorem dX12_works_102 : decode cX12_works 102 = .ok (.iload_n 1, 1) := by decide +kernel
theorem dX12_works_103 : decode cX12_works 103 = .ok (.iload_n 2, 1) := by decide +kernel
theorem dX12_works_104 : decode cX12_works 104 = .ok (.imul, 1) := by decide +kernel
theorem dX12_works_105 : decode cX12_works 105 = .ok (.ireturn, 1) := by decide +kernel
theorem dX12_works_106 : decode cX12_works 106 = .ok (.iload_n 2, 1) := by decide +kernel
theorem dX12_works_107 : decode cX12_works 107 = .ok (.ifCond .ne 7, 3) := by decide +kernel
theorem dX12_works_110 : decode cX12_works 110 = .ok (.iconst 0, 1) := by decide +kernel
theorem dX12_works_111 : decode cX12_works 111 = .ok (.goto 6, 3) := by decide +kernel
theorem dX12_works_114 : decode cX12_works 114 = .ok (.iload_n 1, 1) := by decide +kernel
theorem dX12_works_115 : decode cX12_works 115 = .ok (.iload_n 2, 1) := by decide +kernel
theorem dX12_works_116 : decode cX12_works 116 = .ok (.idiv, 1) := by decide +kernel
theorem dX12_works_117 : decode cX12_works 117 = .ok (.ireturn, 1) := by decide +kernel
def X12_works_b117 (e : mm_E) (t0 : Int32) (m : mm_V) : Option (Int32 × mm_V) := some (t0, m)
theorem X12_works_b117_ok {K : mm_K} {nx : Option Nat} {e : mm_E} (hz : e.2.1 = K.2.2.2.2) {d : Nat} (hd : 0 ≤ d) {t0 : Int32} {m : mm_V} {r : (Int32 × mm_V)} (hr : X12_works_b117 e t0 m = some r) : mm_G K MX12_works d (mm_Fi e.1 nx r) 117 [none, none, none] [.int t0] (e.1, m) nx 0 0 := by
  unfold X12_works_b117 at hr
  exact mb_iret dX12_works_117 rfl hr
def X12_works_b93 (e : mm_E) (t0 : Int32) (m : mm_V) : Option (Int32 × mm_V) := some (t0, m)
theorem X12_works_b93_ok {K : mm_K} {nx : Option Nat} {e : mm_E} (hz : e.2.1 = K.2.2.2.2) {d : Nat} (hd : 0 ≤ d) {t0 : Int32} {m : mm_V} {r : (Int32 × mm_V)} (hr : X12_works_b93 e t0 m = some r) : mm_G K MX12_works d (mm_Fi e.1 nx r) 93 [none, none, none] [.int t0] (e.1, m) nx 0 0 := by
  unfold X12_works_b93 at hr
  exact mb_iret dX12_works_93 rfl hr
def X12_works_b82 (e : mm_E) (t0 : Int32) (m : mm_V) : Option (Int32 × mm_V) := some (t0, m)
theorem X12_works_b82_ok {K : mm_K} {nx : Option Nat} {e : mm_E} (hz : e.2.1 = K.2.2.2.2) {d : Nat} (hd : 0 ≤ d) {t0 : Int32} {m : mm_V} {r : (Int32 × mm_V)} (hr : X12_works_b82 e t0 m = some r) : mm_G K MX12_works d (mm_Fi e.1 nx r) 82 [none, none, none] [.int t0] (e.1, m) nx 0 0 := by
  unfold X12_works_b82 at hr
  exact mb_iret dX12_works_82 rfl hr
def X12_works_b71 (e : mm_E) (t0 : Int32) (m : mm_V) : Option (Int32 × mm_V) := some (t0, m)
theorem X12_works_b71_ok {K : mm_K} {nx : Option Nat} {e : mm_E} (hz : e.2.1 = K.2.2.2.2) {d : Nat} (hd : 0 ≤ d) {t0 : Int32} {m : mm_V} {r : (Int32 × mm_V)} (hr : X12_works_b71 e t0 m = some r) : mm_G K MX12_works d (mm_Fi e.1 nx r) 71 [none, none, none] [.int t0] (e.1, m) nx 0 0 := by
  unfold X12_works_b71 at hr
  exact mb_iret dX12_works_71 rfl hr
def X12_works_b66 (e : mm_E) (m : mm_V) : Option (Int32 × mm_V) := X12_works_b71 e  (1 : Int32) m
theorem X12_works_b66_ok {K : mm_K} {nx : Option Nat} {e : mm_E} (hz : e.2.1 = K.2.2.2.2) {d : Nat} (hd : 0 ≤ d) {m : mm_V} {r : (Int32 × mm_V)} (hr : X12_works_b66 e m = some r) : mm_G K MX12_works d (mm_Fi e.1 nx r) 66 [none, none, none] [] (e.1, m) nx 0 0 := by
  unfold X12_works_b66 at hr
  refine mg_iconst (pc := 66) dX12_works_66 kc_1 ?_
  refine mg_goto (pc := 67) 71 dX12_works_67 rfl ?_
  exact mg_weak (mm_le_n (mm_le_n (mm_le_n mm_le_0))) (X12_works_b71_ok hz hd hr)
def X12_works_b57 (e : mm_E) (t0 : Int32) (m : mm_V) : Option (Int32 × mm_V) := some (t0, m)
theorem X12_works_b57_ok {K : mm_K} {nx : Option Nat} {e : mm_E} (hz : e.2.1 = K.2.2.2.2) {d : Nat} (hd : 0 ≤ d) {t0 : Int32} {m : mm_V} {r : (Int32 × mm_V)} (hr : X12_works_b57 e t0 m = some r) : mm_G K MX12_works d (mm_Fi e.1 nx r) 57 [none, none, none] [.int t0] (e.1, m) nx 0 0 := by
  unfold X12_works_b57 at hr
  exact mb_iret dX12_works_57 rfl hr
def X12_works_b56 (e : mm_E) (m : mm_V) : Option (Int32 × mm_V) := X12_works_b57 e  (0 : Int32) m
theorem X12_works_b56_ok {K : mm_K} {nx : Option Nat} {e : mm_E} (hz : e.2.1 = K.2.2.2.2) {d : Nat} (hd : 0 ≤ d) {m : mm_V} {r : (Int32 × mm_V)} (hr : X12_works_b56 e m = some r) : mm_G K MX12_works d (mm_Fi e.1 nx r) 56 [none, none, none] [] (e.1, m) nx 0 0 := by
  unfold X12_works_b56 at hr
  refine mg_iconst (pc := 56) dX12_works_56 kc_0 ?_
  exact mg_weak (mm_le_n (mm_le_n (mm_le_n mm_le_0))) (X12_works_b57_ok hz hd hr)
def X12_works (e : mm_E) (i0 : Int32) (i1 : Int32) (i2 : Int32) (m : mm_V) : Option (Int32 × mm_V) := if i0 = (4 : Int32) then (if i1 = 0 then (X12_works_b56 e   m) else (if i2 = 0 then (X12_works_b56 e   m) else (X12_works_b57 e  (1 : Int32) m))) else (if i0 = (5 : Int32) then (if ¬ i1 = 0 then (X12_works_b66 e   m) else (if i2 = 0 then (X12_works_b71 e  (0 : Int32) m) else (X12_works_b66 e   m))) else (if i0 = (6 : Int32) then (if i2 ≤ i1 then (X12_works_b82 e  (0 : Int32) m) else (X12_works_b82 e  (1 : Int32) m)) else (if i0 = (7 : Int32) then (if ¬ i1 = i2 then (X12_works_b93 e  (0 : Int32) m) else (X12_works_b93 e  (1 : Int32) m)) else (if i0 = (8 : Int32) then (some ((i1 + i2), m)) else (if i0 = (9 : Int32) then (some ((i1 - i2), m)) else (if i0 = (10 : Int32) then (some ((i1 * i2), m)) else (if ¬ i2 = 0 then (if i2 = 0 then none else X12_works_b117 e  (i1 / i2) m) else (X12_works_b117 e  (0 : Int32) m))))))))
theorem X12_works_ok {K : mm_K} {nx : Option Nat} {e : mm_E} (hz : e.2.1 = K.2.2.2.2) {d : Nat} (hd : 0 ≤ d) {i0 : Int32} {i1 : Int32} {i2 : Int32} {m : mm_V} {r : (Int32 × mm_V)} (hr : X12_works e i0 i1 i2 m = some r) : mm_Cn K MX12_works d (mm_Fi e.1 nx r) [.int i0, .int i1, .int i2] (e.1, m) nx := by
  refine mm_entry (by decide) (Nat.le_of_ble_eq_true rfl) rfl (fun hok => ?_)
  unfold X12_works at hr
  refine mg_weak (L' := [some (.int i0), some (.int i1), some (.int i2)]) (mm_le_s (mm_le_s (mm_le_s mm_le_0))) ?_
  refine ml_iload_n (pc := 0) dX12_works_0 rfl mm_get_0 ?_
  refine mb_ite hr (fun hc hr => ?_) (fun hc1 hr => ?_)
  · refine mg_tableK (pc := 1) (43) 44 dX12_works_1 hc (by decide +kernel) rfl ?_
    refine ml_iload_n (pc := 44) dX12_works_44 rfl (mm_get_s mm_get_0) ?_
    refine mb_if_eq (pc := 45) 56 dX12_works_45 rfl hr (fun hr => ?_) (fun hr => ?_)
    · exact mg_weak (mm_le_n (mm_le_n (mm_le_n mm_le_0))) (X12_works_b56_ok hz hd hr)
    · refine ml_iload_n (pc := 48) dX12_works_48 rfl (mm_get_s (mm_get_s mm_get_0)) ?_
      refine mb_if_eq (pc := 49) 56 dX12_works_49 rfl hr (fun hr => ?_) (fun hr => ?_)
      · exact mg_weak (mm_le_n (mm_le_n (mm_le_n mm_le_0))) (X12_works_b56_ok hz hd hr)
      · refine mg_iconst (pc := 52) dX12_works_52 kc_1 ?_
        refine mg_goto (pc := 53) 57 dX12_works_53 rfl ?_
        exact mg_weak (mm_le_n (mm_le_n (mm_le_n mm_le_0))) (X12_works_b57_ok hz hd hr)
  refine mb_ite hr (fun hc hr => ?_) (fun hc2 hr => ?_)
  · refine mg_tableK (pc := 1) (57) 58 dX12_works_1 hc (by decide +kernel) rfl ?_
    refine ml_iload_n (pc := 58) dX12_works_58 rfl (mm_get_s mm_get_0) ?_
    refine mb_if_ne (pc := 59) 66 dX12_works_59 rfl hr (fun hr => ?_) (fun hr => ?_)
    · exact mg_weak (mm_le_n (mm_le_n (mm_le_n mm_le_0))) (X12_works_b66_ok hz hd hr)
    · refine ml_iload_n (pc := 62) dX12_works_62 rfl (mm_get_s (mm_get_s mm_get_0)) ?_
      refine mb_if_eq (pc := 63) 70 dX12_works_63 rfl hr (fun hr => ?_) (fun hr => ?_)
      · refine mg_iconst (pc := 70) dX12_works_70 kc_0 ?_
        exact mg_weak (mm_le_n (mm_le_n (mm_le_n mm_le_0))) (X12_works_b71_ok hz hd hr)
      · exact mg_weak (mm_le_n (mm_le_n (mm_le_n mm_le_0))) (X12_works_b66_ok hz hd hr)
  refine mb_ite hr (fun hc hr => ?_) (fun hc3 hr => ?_)
  · refine mg_tableK (pc := 1) (71) 72 dX12_works_1 hc (by decide +kernel) rfl ?_
    refine ml_iload_n (pc := 72) dX12_works_72 rfl (mm_get_s mm_get_0) ?_
    refine ml_iload_n (pc := 73) dX12_works_73 rfl (mm_get_s (mm_get_s mm_get_0)) ?_
    refine mb_icmp_ge (pc := 74) 81 dX12_works_74 rfl hr (fun hr => ?_) (fun hr => ?_)
    · refine mg_iconst (pc := 81) dX12_works_81 kc_0 ?_
      exact mg_weak (mm_le_n (mm_le_n (mm_le_n mm_le_0))) (X12_works_b82_ok hz hd hr)
    · refine mg_iconst (pc := 77) dX12_works_77 kc_1 ?_
      refine mg_goto (pc := 78) 82 dX12_works_78 rfl ?_
      exact mg_weak (mm_le_n (mm_le_n (mm_le_n mm_le_0))) (X12_works_b82_ok hz hd hr)
  refine mb_ite hr (fun hc hr => ?_) (fun hc4 hr => ?_)
  · refine mg_tableK (pc := 1) (82) 83 dX12_works_1 hc (by decide +kernel) rfl ?_
    refine ml_iload_n (pc := 83) dX12_works_83 rfl (mm_get_s mm_get_0) ?_
    refine ml_iload_n (pc := 84) dX12_works_84 rfl (mm_get_s (mm_get_s mm_get_0)) ?_
    refine mb_icmp_ne (pc := 85) 92 dX12_works_85 rfl hr (fun hr => ?_) (fun hr => ?_)
    · refine mg_iconst (pc := 92) dX12_works_92 kc_0 ?_
      exact mg_weak (mm_le_n (mm_le_n (mm_le_n mm_le_0))) (X12_works_b93_ok hz hd hr)
    · refine mg_iconst (pc := 88) dX12_works_88 kc_1 ?_
      refine mg_goto (pc := 89) 93 dX12_works_89 rfl ?_
      exact mg_weak (mm_le_n (mm_le_n (mm_le_n mm_le_0))) (X12_works_b93_ok hz hd hr)
  refine mb_ite hr (fun hc hr => ?_) (fun hc5 hr => ?_)
  · refine mg_tableK (pc := 1) (93) 94 dX12_works_1 hc (by decide +kernel) rfl ?_
    refine ml_iload_n (pc := 94) dX12_works_94 rfl (mm_get_s mm_get_0) ?_
    refine ml_iload_n (pc := 95) dX12_works_95 rfl (mm_get_s (mm_get_s mm_get_0)) ?_
    refine mg_iadd (pc := 96) dX12_works_96 ?_
    exact mb_iret dX12_works_97 rfl hr
  refine mb_ite hr (fun hc hr => ?_) (fun hc6 hr => ?_)
  · refine mg_tableK (pc := 1) (97) 98 dX12_works_1 hc (by decide +kernel) rfl ?_
    refine ml_iload_n (pc := 98) dX12_works_98 rfl (mm_get_s mm_get_0) ?_
    refine ml_iload_n (pc := 99) dX12_works_99 rfl (mm_get_s (mm_get_s mm_get_0)) ?_
    refine mg_isub (pc := 100) dX12_works_100 ?_
    exact mb_iret dX12_works_101 rfl hr
  refine mb_ite hr (fun hc hr => ?_) (fun hc7 hr => ?_)
  · refine mg_tableK (pc := 1) (101) 102 dX12_works_1 hc (by decide +kernel) rfl ?_
    refine ml_iload_n (pc := 102) dX12_works_102 rfl (mm_get_s mm_get_0) ?_
    refine ml_iload_n (pc := 103) dX12_works_103 rfl (mm_get_s (mm_get_s mm_get_0)) ?_
    refine mg_imul (pc := 104) dX12_works_104 ?_
    exact mb_iret dX12_works_105 rfl hr
  refine mg_tableD (pc := 1) 106 dX12_works_1 ((mm_nin_c hc1 (mm_nin_c hc2 (mm_nin_c hc3 (mm_nin_c hc4 (mm_nin_c hc5 (mm_nin_c hc6 (mm_nin_c hc7 mm_nin_0))))))) : ∀ y ∈ [(4 : Int32), (5 : Int32), (6 : Int32), (7 : Int32), (8 : Int32), (9 : Int32), (10 : Int32)], ¬ i0 = y) (by decide +kernel) rfl ?_
  refine ml_iload_n (pc := 106) dX12_works_106 rfl (mm_get_s (mm_get_s mm_get_0)) ?_
  refine mb_if_ne (pc := 107) 114 dX12_works_107 rfl hr (fun hr => ?_) (fun hr => ?_)
  · refine ml_iload_n (pc := 114) dX12_works_114 rfl (mm_get_s mm_get_0) ?_
    refine ml_iload_n (pc := 115) dX12_works_115 rfl (mm_get_s (mm_get_s mm_get_0)) ?_
    refine mb_idiv (pc := 116) dX12_works_116 hr (fun hr => ?_)
    exact mg_weak (mm_le_n (mm_le_n (mm_le_n mm_le_0))) (X12_works_b117_ok hz hd hr)
  · refine mg_iconst (pc := 110) dX12_works_110 kc_0 ?_
    refine mg_goto (pc := 111) 117 dX12_works_111 rfl ?_
    exact mg_weak (mm_le_n (mm_le_n (mm_le_n mm_le_0))) (X12_works_b117_ok hz hd hr)
theorem dX12_valueOf_0 : decode cX12_valueOf 0 = .ok (.iload_n 1, 1) := by decide +kernel
theorem dX12_valueOf_1 : decode cX12_valueOf 1 = .ok (.tableswitch 57 0 4 #[35, 38, 44, 48, 50], 35) := by decide +kernel
theorem dX12_valueOf_36 : decode cX12_valueOf 36 = .ok (.iload 4, 2) := by decide +kernel
theorem dX12_valueOf_38 : decode cX12_valueOf 38 = .ok (.ireturn, 1) := by decide +kernel
theorem dX12_valueOf_39 : decode cX12_valueOf 39 = .ok (.aload_n 2, 1) := by decide +kernel
theorem dX12_valueOf_40 : decode cX12_valueOf 40 = .ok (.iload_n 3, 1) := by decide +kernel
theorem dX12_valueOf_41 : decode cX12_valueOf 41 = .ok (.invokestatic 327, 3) := by decide +kernel
theorem dX12_valueOf_44 : decode cX12_valueOf 44 = .ok (.ireturn, 1) := by decide +kernel
theorem dX12_valueOf_45 : decode cX12_valueOf 45 = .ok (.aload_n 2, 1) := by decide +kernel
theorem dX12_valueOf_46 : decode cX12_valueOf 46 = .ok (.iconst 1, 1) := by decide +kernel
theorem dX12_valueOf_47 : decode cX12_valueOf 47 = .ok (.iaload, 1) := by decide +kernel
theorem dX12_valueOf_48 : decode cX12_valueOf 48 = .ok (.ireturn, 1) := by decide +kernel
theorem dX12_valueOf_49 : decode cX12_valueOf 49 = .ok (.iload_n 3, 1) := by decide +kernel
theorem dX12_valueOf_50 : decode cX12_valueOf 50 = .ok (.ireturn, 1) := by decide +kernel
theorem dX12_valueOf_51 : decode cX12_valueOf 51 = .ok (.aload_n 2, 1) := by decide +kernel
theorem dX12_valueOf_52 : decode cX12_valueOf 52 = .ok (.bipush 8, 2) := by decide +kernel
theorem dX12_valueOf_54 : decode cX12_valueOf 54 = .ok (.iload_n 3, 1) := by decide +kernel
theorem dX12_valueOf_55 : decode cX12_valueOf 55 = .ok (.iadd, 1) := by decide +kernel
theorem dX12_valueOf_56 : decode cX12_valueOf 56 = .ok (.iaload, 1) := by decide +kernel
theorem dX12_valueOf_57 : decode cX12_valueOf 57 = .ok (.ireturn, 1) := by decide +kernel
theorem dX12_valueOf_58 : decode cX12_valueOf 58 = .ok (.iload 5, 2) := by decide +kernel
theorem dX12_valueOf_60 : decode cX12_valueOf 60 = .ok (.ireturn, 1) := by decide +kernel
def X12_valueOf (e : mm_E) (a0 : Nat) (i1 : Int32) (a2 : Nat) (i3 : Int32) (i4 : Int32) (i5 : Int32) (m : mm_V) : Option (Int32 × mm_V) := if i1 = (0 : Int32) then (some (i4, m)) else (if i1 = (1 : Int32) then ((X12_size e a2 i3 m).bind fun r2 => some (r2.1, r2.2)) else (if i1 = (2 : Int32) then ((mm_ai e.1 m 20 a2 (1 : Int32)).bind fun x4 => some (x4, m)) else (if i1 = (3 : Int32) then (some (i3, m)) else (if i1 = (4 : Int32) then ((mm_ai e.1 m 20 a2 ((8 : Int32) + i3)).bind fun x7 => some (x7, m)) else (some (i5, m))))))
theorem X12_valueOf_ok {K : mm_K} {nx : Option Nat} {e : mm_E} (hz : e.2.1 = K.2.2.2.2) {d : Nat} (hd : 1 ≤ d) {a0 : Nat} {i1 : Int32} {a2 : Nat} {i3 : Int32} {i4 : Int32} {i5 : Int32} (h0 : e.1 a0 = some (12, 75)) {m : mm_V} {r : (Int32 × mm_V)} (hr : X12_valueOf e a0 i1 a2 i3 i4 i5 m = some r) : mm_Cn K MX12_valueOf d (mm_Fi e.1 nx r) [.ref a0, .int i1, .ref a2, .int i3, .int i4, .int i5] (e.1, m) nx := by
  obtain ⟨d, rfl⟩ : ∃ d', d = d' + 1 := ⟨d - 1, by omega⟩
  refine mm_entry (by decide) (Nat.le_of_ble_eq_true rfl) rfl (fun hok => ?_)
  unfold X12_valueOf at hr
  refine mg_weak (L' := [some (.ref a0), some (.int i1), some (.ref a2), some (.int i3), some (.int i4), some (.int i5)]) (mm_le_s (mm_le_s (mm_le_s (mm_le_s (mm_le_s (mm_le_s mm_le_0)))))) ?_
  refine ml_iload_n (pc := 0) dX12_valueOf_0 rfl (mm_get_s mm_get_0) ?_
  refine mb_ite hr (fun hc hr => ?_) (fun hc1 hr => ?_)
  · refine mg_tableK (pc := 1) (35) 36 dX12_valueOf_1 hc (by decide +kernel) rfl ?_
    refine ml_iload (pc := 36) dX12_valueOf_36 (mm_get_s (mm_get_s (mm_get_s (mm_get_s mm_get_0)))) ?_
    exact mb_iret dX12_valueOf_38 rfl hr
  refine mb_ite hr (fun hc hr => ?_) (fun hc3 hr => ?_)
  · refine mg_tableK (pc := 1) (38) 39 dX12_valueOf_1 hc (by decide +kernel) rfl ?_
    refine ml_aload_n (pc := 39) dX12_valueOf_39 rfl (mm_get_s (mm_get_s mm_get_0)) ?_
    refine ml_iload_n (pc := 40) dX12_valueOf_40 rfl (mm_get_s (mm_get_s (mm_get_s mm_get_0))) ?_
    refine mb_cSi (pc := 41) (As := [.ref a2, .int i3]) (rest := []) dX12_valueOf_41 cw_X12_327  hr (fun v hv => X12_size_ok hz (by omega)  hv) rfl (Nat.le_of_ble_eq_true rfl) (Nat.zero_le _) (Nat.zero_le _) (fun r2 hr => ?_)
    exact mb_iret dX12_valueOf_44 rfl hr
  refine mb_ite hr (fun hc hr => ?_) (fun hc5 hr => ?_)
  · refine mg_tableK (pc := 1) (44) 45 dX12_valueOf_1 hc (by decide +kernel) rfl ?_
    refine ml_aload_n (pc := 45) dX12_valueOf_45 rfl (mm_get_s (mm_get_s mm_get_0)) ?_
    refine mg_iconst (pc := 46) dX12_valueOf_46 kc_1 ?_
    refine mb_ai (pc := 47) dX12_valueOf_47 hr (fun x4 hr => ?_)
    exact mb_iret dX12_valueOf_48 rfl hr
  refine mb_ite hr (fun hc hr => ?_) (fun hc6 hr => ?_)
  · refine mg_tableK (pc := 1) (48) 49 dX12_valueOf_1 hc (by decide +kernel) rfl ?_
    refine ml_iload_n (pc := 49) dX12_valueOf_49 rfl (mm_get_s (mm_get_s (mm_get_s mm_get_0))) ?_
    exact mb_iret dX12_valueOf_50 rfl hr
  refine mb_ite hr (fun hc hr => ?_) (fun hc8 hr => ?_)
  · refine mg_tableK (pc := 1) (50) 51 dX12_valueOf_1 hc (by decide +kernel) rfl ?_
    refine ml_aload_n (pc := 51) dX12_valueOf_51 rfl (mm_get_s (mm_get_s mm_get_0)) ?_
    refine mg_bipush (pc := 52) dX12_valueOf_52 kb_8 ?_
    refine ml_iload_n (pc := 54) dX12_valueOf_54 rfl (mm_get_s (mm_get_s (mm_get_s mm_get_0))) ?_
    refine mg_iadd (pc := 55) dX12_valueOf_55 ?_
    refine mb_ai (pc := 56) dX12_valueOf_56 hr (fun x7 hr => ?_)
    exact mb_iret dX12_valueOf_57 rfl hr
  refine mg_tableD (pc := 1) 58 dX12_valueOf_1 ((mm_nin_c hc1 (mm_nin_c hc3 (mm_nin_c hc5 (mm_nin_c hc6 (mm_nin_c hc8 mm_nin_0))))) : ∀ y ∈ [(0 : Int32), (1 : Int32), (2 : Int32), (3 : Int32), (4 : Int32)], ¬ i1 = y) (by decide +kernel) rfl ?_
  refine ml_iload (pc := 58) dX12_valueOf_58 (mm_get_s (mm_get_s (mm_get_s (mm_get_s (mm_get_s mm_get_0))))) ?_
  exact mb_iret dX12_valueOf_60 rfl hr
theorem dX12_reckons_0 : decode cX12_reckons 0 = .ok (.iconst 0, 1) := by decide +kernel
theorem dX12_reckons_1 : decode cX12_reckons 1 = .ok (.istore 6, 2) := by decide +kernel
theorem dX12_reckons_3 : decode cX12_reckons 3 = .ok (.iload_n 1, 1) := by decide +kernel
theorem dX12_reckons_4 : decode cX12_reckons 4 = .ok (.istore 7, 2) := by decide +kernel
theorem dX12_reckons_6 : decode cX12_reckons 6 = .ok (.aload_n 0, 1) := by decide +kernel
theorem dX12_reckons_7 : decode cX12_reckons 7 = .ok (.getfield 23, 3) := by decide +kernel
theorem dX12_reckons_10 : decode cX12_reckons 10 = .ok (.iload 7, 2) := by decide +kernel
theorem dX12_reckons_12 : decode cX12_reckons 12 = .ok (.iaload, 1) := by decide +kernel
theorem dX12_reckons_13 : decode cX12_reckons 13 = .ok (.ifCond .eq 147, 3) := by decide +kernel
theorem dX12_reckons_16 : decode cX12_reckons 16 = .ok (.aload_n 0, 1) := by decide +kernel
theorem dX12_reckons_17 : decode cX12_reckons 17 = .ok (.getfield 23, 3) := by decide +kernel
theorem dX12_reckons_20 : decode cX12_reckons 20 = .ok (.iload 7, 2) := by decide +kernel
theorem dX12_reckons_22 : decode cX12_reckons 22 = .ok (.iaload, 1) := by decide +kernel
theorem dX12_reckons_23 : decode cX12_reckons 23 = .ok (.istore 8, 2) := by decide +kernel
theorem dX12_reckons_25 : decode cX12_reckons 25 = .ok (.iinc 7 1, 3) := by decide +kernel
theorem dX12_reckons_28 : decode cX12_reckons 28 = .ok (.iload 8, 2) := by decide +kernel
theorem dX12_reckons_30 : decode cX12_reckons 30 = .ok (.iconst 1, 1) := by decide +kernel
theorem dX12_reckons_31 : decode cX12_reckons 31 = .ok (.if_icmp .eq 9, 3) := by decide +kernel
theorem dX12_reckons_34 : decode cX12_reckons 34 = .ok (.iload 8, 2) := by decide +kernel
theorem dX12_reckons_36 : decode cX12_reckons 36 = .ok (.iconst 2, 1) := by decide +kernel
theorem dX12_reckons_37 : decode cX12_reckons 37 = .ok (.if_icmp .ne 52, 3) := by decide +kernel
theorem dX12_reckons_40 : decode cX12_reckons 40 = .ok (.aload_n 0, 1) := by decide +kernel
theorem dX12_reckons_41 : decode cX12_reckons 41 = .ok (.getfield 69, 3) := by decide +kernel
theorem dX12_reckons_44 : decode cX12_reckons 44 = .ok (.iload 6, 2) := by decide +kernel
theorem dX12_reckons_46 : decode cX12_reckons 46 = .ok (.iload 8, 2) := by decide +kernel
theorem dX12_reckons_48 : decode cX12_reckons 48 = .ok (.iconst 1, 1) := by decide +kernel
theorem dX12_reckons_49 : decode cX12_reckons 49 = .ok (.if_icmp .ne 13, 3) := by decide +kernel
theorem dX12_reckons_52 : decode cX12_reckons 52 = .ok (.aload_n 0, 1) := by decide +kernel
theorem dX12_reckons_53 : decode cX12_reckons 53 = .ok (.getfield 23, 3) := by decide +kernel
theorem dX12_reckons_56 : decode cX12_reckons 56 = .ok (.iload 7, 2) := by decide +kernel
theorem dX12_reckons_58 : decode cX12_reckons 58 = .ok (.iaload, 1) := by decide +kernel
theorem dX12_reckons_59 : decode cX12_reckons 59 = .ok (.goto 20, 3) := by decide +kernel
theorem dX12_reckons_62 : decode cX12_reckons 62 = .ok (.aload_n 0, 1) := by decide +kernel
theorem dX12_reckons_63 : decode cX12_reckons 63 = .ok (.aload_n 0, 1) := by decide +kernel
theorem dX12_reckons_64 : decode cX12_reckons 64 = .ok (.getfield 23, 3) := by decide +kernel
theorem dX12_reckons_67 : decode cX12_reckons 67 = .ok (.iload 7, 2) := by decide +kernel
theorem dX12_reckons_69 : decode cX12_reckons 69 = .ok (.iaload, 1) := by decide +kernel
theorem dX12_reckons_70 : decode cX12_reckons 70 = .ok (.aload_n 2, 1) := by decide +kernel
theorem dX12_reckons_71 : decode cX12_reckons 71 = .ok (.iload_n 3, 1) := by decide +kernel
theorem dX12_reckons_72 : decode cX12_reckons 72 = .ok (.iload 4, 2) := by decide +kernel
theorem dX12_reckons_74 : decode cX12_reckons 74 = .ok (.iload 5, 2) := by decide +kernel
theorem dX12_reckons_76 : decode cX12_reckons 76 = .ok (.invokevirtual 379, 3) := by decide +kernel
theorem dX12_reckons_79 : decode cX12_reckons 79 = .ok (.iastore, 1) := by decide +kernel
theorem dX12_reckons_80 : decode cX12_reckons 80 = .ok (.iinc 7 1, 3) := by decide +kernel
theorem dX12_reckons_83 : decode cX12_reckons 83 = .ok (.iinc 6 1, 3) := by decide +kernel
theorem dX12_reckons_86 : decode cX12_reckons 86 = .ok (.goto 71, 3) := by decide +kernel
theorem dX12_reckons_89 : decode cX12_reckons 89 = .ok (.iload 8, 2) := by decide +kernel
theorem dX12_reckons_91 : decode cX12_reckons 91 = .ok (.iconst 3, 1) := by decide +kernel
theorem dX12_reckons_92 : decode cX12_reckons 92 = .ok (.if_icmp .ne 32, 3) := by decide +kernel
theorem dX12_reckons_95 : decode cX12_reckons 95 = .ok (.aload_n 0, 1) := by decide +kernel
theorem dX12_reckons_96 : decode cX12_reckons 96 = .ok (.getfield 69, 3) := by decide +kernel
theorem dX12_reckons_99 : decode cX12_reckons 99 = .ok (.iload 6, 2) := by decide +kernel
theorem dX12_reckons_101 : decode cX12_reckons 101 = .ok (.iconst 1, 1) := by decide +kernel
theorem dX12_reckons_102 : decode cX12_reckons 102 = .ok (.isub, 1) := by decide +kernel
theorem dX12_reckons_103 : decode cX12_reckons 103 = .ok (.aload_n 0, 1) := by decide +kernel
theorem dX12_reckons_104 : decode cX12_reckons 104 = .ok (.getfield 69, 3) := by decide +kernel
theorem dX12_reckons_107 : decode cX12_reckons 107 = .ok (.iload 6, 2) := by decide +kernel
theorem dX12_reckons_109 : decode cX12_reckons 109 = .ok (.iconst 1, 1) := by decide +kernel
theorem dX12_reckons_110 : decode cX12_reckons 110 = .ok (.isub, 1) := by decide +kernel
theorem dX12_reckons_111 : decode cX12_reckons 111 = .ok (.iaload, 1) := by decide +kernel
theorem dX12_reckons_112 : decode cX12_reckons 112 = .ok (.ifCond .ne 7, 3) := by decide +kernel
theorem dX12_reckons_115 : decode cX12_reckons 115 = .ok (.iconst 1, 1) := by decide +kernel
theorem dX12_reckons_116 : decode cX12_reckons 116 = .ok (.goto 4, 3) := by decide +kernel
theorem dX12_reckons_119 : decode cX12_reckons 119 = .ok (.iconst 0, 1) := by decide +kernel
theorem dX12_reckons_120 : decode cX12_reckons 120 = .ok (.iastore, 1) := by decide +kernel
theorem dX12_reckons_121 : decode cX12_reckons 121 = .ok (.goto 36, 3) := by decide +kernel
theorem dX12_reckons_124 : decode cX12_reckons 124 = .ok (.iinc 6 (-1), 3) := by decide +kernel
theorem dX12_reckons_127 : decode cX12_reckons 127 = .ok (.aload_n 0, 1) := by decide +kernel
theorem dX12_reckons_128 : decode cX12_reckons 128 = .ok (.getfield 69, 3) := by decide +kernel
theorem dX12_reckons_131 : decode cX12_reckons 131 = .ok (.iload 6, 2) := by decide +kernel
theorem dX12_reckons_133 : decode cX12_reckons 133 = .ok (.iconst 1, 1) := by decide +kernel
theorem dX12_reckons_134 : decode cX12_reckons 134 = .ok (.isub, 1) := by decide +kernel
theorem dX12_reckons_135 : decode cX12_reckons 135 = .ok (.iload 8, 2) := by decide +kernel
theorem dX12_reckons_137 : decode cX12_reckons 137 = .ok (.aload_n 0, 1) := by decide +kernel
theorem dX12_reckons_138 : decode cX12_reckons 138 = .ok (.getfield 69, 3) := by decide +kernel
theorem dX12_reckons_141 : decode cX12_reckons 141 = .ok (.iload 6, 2) := by decide +kernel
theorem dX12_reckons_143 : decode cX12_reckons 143 = .ok (.iconst 1, 1) := by decide +kernel
theorem dX12_reckons_144 : decode cX12_reckons 144 = .ok (.isub, 1) := by decide +kernel
theorem dX12_reckons_145 : decode cX12_reckons 145 = .ok (.iaload, 1) := by decide +kernel
theorem dX12_reckons_146 : decode cX12_reckons 146 = .ok (.aload_n 0, 1) := by decide +kernel
theorem dX12_reckons_147 : decode cX12_reckons 147 = .ok (.getfield 69, 3) := by decide +kernel
theorem dX12_reckons_150 : decode cX12_reckons 150 = .ok (.iload 6, 2) := by decide +kernel
theorem dX12_reckons_152 : decode cX12_reckons 152 = .ok (.iaload, 1) := by decide +kernel
theorem dX12_reckons_153 : decode cX12_reckons 153 = .ok (.invokestatic 383, 3) := by decide +kernel
theorem dX12_reckons_156 : decode cX12_reckons 156 = .ok (.iastore, 1) := by decide +kernel
theorem dX12_reckons_157 : decode cX12_reckons 157 = .ok (.goto (-151), 3) := by decide +kernel
theorem dX12_reckons_160 : decode cX12_reckons 160 = .ok (.aload_n 0, 1) := by decide +kernel
theorem dX12_reckons_161 : decode cX12_reckons 161 = .ok (.getfield 69, 3) := by decide +kernel
theorem dX12_reckons_164 : decode cX12_reckons 164 = .ok (.iconst 0, 1) := by decide +kernel
theorem dX12_reckons_165 : decode cX12_reckons 165 = .ok (.iaload, 1) := by decide +kernel
theorem dX12_reckons_166 : decode cX12_reckons 166 = .ok (.ireturn, 1) := by decide +kernel
def X12_reckons_b157 (e : mm_E) (k6 : Int32 → Int32 → mm_V → Option (Int32 × mm_V)) (a0 : Nat) (a2 : Nat) (i3 : Int32) (i4 : Int32) (i5 : Int32) (i6 : Int32) (i7 : Int32) (m : mm_V) : Option (Int32 × mm_V) := k6 i6 i7 m
theorem X12_reckons_b157_ok {K : mm_K} {nx : Option Nat} {e : mm_E} (hz : e.2.1 = K.2.2.2.2) {d : Nat} (hd : 2 ≤ d) {a0 : Nat} {a2 : Nat} {i3 : Int32} {i4 : Int32} {i5 : Int32} {i6 : Int32} {i7 : Int32} (h0 : e.1 a0 = some (12, 75)) {k6 : Int32 → Int32 → mm_V → Option (Int32 × mm_V)} (hk6 : ∀ (w6 : Int32) (w7 : Int32) (m : mm_V) (r : (Int32 × mm_V)), k6 w6 w7 m = some r → mm_G K MX12_reckons d (mm_Fi e.1 nx r) 6 [some (.ref a0), none, some (.ref a2), some (.int i3), some (.int i4), some (.int i5), some (.int w6), some (.int w7), none] [] (e.1, m) nx 0 0) {m : mm_V} {r : (Int32 × mm_V)} (hr : X12_reckons_b157 e k6 a0 a2 i3 i4 i5 i6 i7 m = some r) : mm_G K MX12_reckons d (mm_Fi e.1 nx r) 157 [some (.ref a0), none, some (.ref a2), some (.int i3), some (.int i4), some (.int i5), some (.int i6), some (.int i7), none] [] (e.1, m) nx 0 0 := by
  obtain ⟨d, rfl⟩ : ∃ d', d = d' + 1 := ⟨d - 1, by omega⟩
  unfold X12_reckons_b157 at hr
  refine mg_goto (pc := 157) 6 dX12_reckons_157 rfl ?_
  exact mg_weak (mm_le_s (mm_le_n (mm_le_s (mm_le_s (mm_le_s (mm_le_s (mm_le_s (mm_le_s (mm_le_n mm_le_0))))))))) (hk6 _ _ _ _ hr)
def X12_reckons_b120 (e : mm_E) (k6 : Int32 → Int32 → mm_V → Option (Int32 × mm_V)) (a0 : Nat) (a2 : Nat) (i3 : Int32) (i4 : Int32) (i5 : Int32) (i6 : Int32) (i7 : Int32) (t0 : Nat) (t1 : Int32) (t2 : Int32) (m : mm_V) : Option (Int32 × mm_V) := (mm_si e.1 m t0 t1 t2).bind fun m1 => X12_reckons_b157 e k6 a0 a2 i3 i4 i5 i6 i7  m1
theorem X12_reckons_b120_ok {K : mm_K} {nx : Option Nat} {e : mm_E} (hz : e.2.1 = K.2.2.2.2) {d : Nat} (hd : 2 ≤ d) {a0 : Nat} {a2 : Nat} {i3 : Int32} {i4 : Int32} {i5 : Int32} {i6 : Int32} {i7 : Int32} {t0 : Nat} {t1 : Int32} {t2 : Int32} (h0 : e.1 a0 = some (12, 75)) {k6 : Int32 → Int32 → mm_V → Option (Int32 × mm_V)} (hk6 : ∀ (w6 : Int32) (w7 : Int32) (m : mm_V) (r : (Int32 × mm_V)), k6 w6 w7 m = some r → mm_G K MX12_reckons d (mm_Fi e.1 nx r) 6 [some (.ref a0), none, some (.ref a2), some (.int i3), some (.int i4), some (.int i5), some (.int w6), some (.int w7), none] [] (e.1, m) nx 0 0) {m : mm_V} {r : (Int32 × mm_V)} (hr : X12_reckons_b120 e k6 a0 a2 i3 i4 i5 i6 i7 t0 t1 t2 m = some r) : mm_G K MX12_reckons d (mm_Fi e.1 nx r) 120 [some (.ref a0), none, some (.ref a2), some (.int i3), some (.int i4), some (.int i5), some (.int i6), some (.int i7), none] [.int t2, .int t1, .ref t0] (e.1, m) nx 0 0 := by
  obtain ⟨d, rfl⟩ : ∃ d', d = d' + 1 := ⟨d - 1, by omega⟩
  unfold X12_reckons_b120 at hr
  refine mb_si (pc := 120) dX12_reckons_120 hr (fun m1 hr => ?_)
  refine mg_goto (pc := 121) 157 dX12_reckons_121 rfl ?_
  exact mg_weak (mm_le_s (mm_le_n (mm_le_s (mm_le_s (mm_le_s (mm_le_s (mm_le_s (mm_le_s (mm_le_n mm_le_0))))))))) (X12_reckons_b157_ok hz hd h0 hk6 hr)
def X12_reckons_b79 (e : mm_E) (k6 : Int32 → Int32 → mm_V → Option (Int32 × mm_V)) (a0 : Nat) (a2 : Nat) (i3 : Int32) (i4 : Int32) (i5 : Int32) (i6 : Int32) (i7 : Int32) (t0 : Nat) (t1 : Int32) (t2 : Int32) (m : mm_V) : Option (Int32 × mm_V) := (mm_si e.1 m t0 t1 t2).bind fun m1 => X12_reckons_b157 e k6 a0 a2 i3 i4 i5 (i6 + 1) (i7 + 1)  m1
theorem X12_reckons_b79_ok {K : mm_K} {nx : Option Nat} {e : mm_E} (hz : e.2.1 = K.2.2.2.2) {d : Nat} (hd : 2 ≤ d) {a0 : Nat} {a2 : Nat} {i3 : Int32} {i4 : Int32} {i5 : Int32} {i6 : Int32} {i7 : Int32} {t0 : Nat} {t1 : Int32} {t2 : Int32} (h0 : e.1 a0 = some (12, 75)) {k6 : Int32 → Int32 → mm_V → Option (Int32 × mm_V)} (hk6 : ∀ (w6 : Int32) (w7 : Int32) (m : mm_V) (r : (Int32 × mm_V)), k6 w6 w7 m = some r → mm_G K MX12_reckons d (mm_Fi e.1 nx r) 6 [some (.ref a0), none, some (.ref a2), some (.int i3), some (.int i4), some (.int i5), some (.int w6), some (.int w7), none] [] (e.1, m) nx 0 0) {m : mm_V} {r : (Int32 × mm_V)} (hr : X12_reckons_b79 e k6 a0 a2 i3 i4 i5 i6 i7 t0 t1 t2 m = some r) : mm_G K MX12_reckons d (mm_Fi e.1 nx r) 79 [some (.ref a0), none, some (.ref a2), some (.int i3), some (.int i4), some (.int i5), some (.int i6), some (.int i7), none] [.int t2, .int t1, .ref t0] (e.1, m) nx 0 0 := by
  obtain ⟨d, rfl⟩ : ∃ d', d = d' + 1 := ⟨d - 1, by omega⟩
  unfold X12_reckons_b79 at hr
  refine mb_si (pc := 79) dX12_reckons_79 hr (fun m1 hr => ?_)
  refine ml_iinc (pc := 80) dX12_reckons_80 (mm_get_s (mm_get_s (mm_get_s (mm_get_s (mm_get_s (mm_get_s (mm_get_s mm_get_0))))))) (congrArg (fun z => i7 + z) kc_1) (Nat.le_of_ble_eq_true rfl) (mm_st1_s (mm_st1_s (mm_st1_s (mm_st1_s (mm_st1_s (mm_st1_s mm_st1_i)))))) ?_
  refine ml_iinc (pc := 83) dX12_reckons_83 (mm_get_s (mm_get_s (mm_get_s (mm_get_s (mm_get_s (mm_get_s mm_get_0)))))) (congrArg (fun z => i6 + z) kc_1) (Nat.le_of_ble_eq_true rfl) (mm_st1_s (mm_st1_s (mm_st1_s (mm_st1_s (mm_st1_s mm_st1_i))))) ?_
  refine mg_goto (pc := 86) 157 dX12_reckons_86 rfl ?_
  exact mg_weak (mm_le_s (mm_le_n (mm_le_s (mm_le_s (mm_le_s (mm_le_s (mm_le_s (mm_le_s (mm_le_n mm_le_0))))))))) (X12_reckons_b157_ok hz hd h0 hk6 hr)
def X12_reckons_b40 (e : mm_E) (k6 : Int32 → Int32 → mm_V → Option (Int32 × mm_V)) (a0 : Nat) (a2 : Nat) (i3 : Int32) (i4 : Int32) (i5 : Int32) (i6 : Int32) (i7 : Int32) (i8 : Int32) (m : mm_V) : Option (Int32 × mm_V) := (mm_gr e.1 m 12 75 a0 43).bind fun c1 => if ¬ i8 = (1 : Int32) then ((mm_gr e.1 m 12 75 a0 7).bind fun c2 => (mm_ai e.1 m 20 c2 i7).bind fun x3 => (X12_valueOf e a0 x3 a2 i3 i4 i5 m).bind fun r4 => X12_reckons_b79 e k6 a0 a2 i3 i4 i5 i6 i7 c1 i6 r4.1 r4.2) else ((mm_gr e.1 m 12 75 a0 7).bind fun c5 => (mm_ai e.1 m 20 c5 i7).bind fun x6 => X12_reckons_b79 e k6 a0 a2 i3 i4 i5 i6 i7 c1 i6 x6 m)
theorem X12_reckons_b40_ok {K : mm_K} {nx : Option Nat} {e : mm_E} (hz : e.2.1 = K.2.2.2.2) {d : Nat} (hd : 2 ≤ d) {a0 : Nat} {a2 : Nat} {i3 : Int32} {i4 : Int32} {i5 : Int32} {i6 : Int32} {i7 : Int32} {i8 : Int32} (h0 : e.1 a0 = some (12, 75)) {k6 : Int32 → Int32 → mm_V → Option (Int32 × mm_V)} (hk6 : ∀ (w6 : Int32) (w7 : Int32) (m : mm_V) (r : (Int32 × mm_V)), k6 w6 w7 m = some r → mm_G K MX12_reckons d (mm_Fi e.1 nx r) 6 [some (.ref a0), none, some (.ref a2), some (.int i3), some (.int i4), some (.int i5), some (.int w6), some (.int w7), none] [] (e.1, m) nx 0 0) {m : mm_V} {r : (Int32 × mm_V)} (hr : X12_reckons_b40 e k6 a0 a2 i3 i4 i5 i6 i7 i8 m = some r) : mm_G K MX12_reckons d (mm_Fi e.1 nx r) 40 [some (.ref a0), none, some (.ref a2), some (.int i3), some (.int i4), some (.int i5), some (.int i6), some (.int i7), some (.int i8)] [] (e.1, m) nx 0 0 := by
  obtain ⟨d, rfl⟩ : ∃ d', d = d' + 1 := ⟨d - 1, by omega⟩
  unfold X12_reckons_b40 at hr
  refine ml_aload_n (pc := 40) dX12_reckons_40 rfl mm_get_0 ?_
  refine mb_gr (pc := 41) dX12_reckons_41 fl_X12_69 hr (fun c1 hr => ?_)
  refine ml_iload (pc := 44) dX12_reckons_44 (mm_get_s (mm_get_s (mm_get_s (mm_get_s (mm_get_s (mm_get_s mm_get_0)))))) ?_
  refine ml_iload (pc := 46) dX12_reckons_46 (mm_get_s (mm_get_s (mm_get_s (mm_get_s (mm_get_s (mm_get_s (mm_get_s (mm_get_s mm_get_0)))))))) ?_
  refine mg_iconst (pc := 48) dX12_reckons_48 kc_1 ?_
  refine mb_icmp_ne (pc := 49) 62 dX12_reckons_49 rfl hr (fun hr => ?_) (fun hr => ?_)
  · refine ml_aload_n (pc := 62) dX12_reckons_62 rfl mm_get_0 ?_
    refine ml_aload_n (pc := 63) dX12_reckons_63 rfl mm_get_0 ?_
    refine mb_gr (pc := 64) dX12_reckons_64 fl_X12_23 hr (fun c2 hr => ?_)
    refine ml_iload (pc := 67) dX12_reckons_67 (mm_get_s (mm_get_s (mm_get_s (mm_get_s (mm_get_s (mm_get_s (mm_get_s mm_get_0))))))) ?_
    refine mb_ai (pc := 69) dX12_reckons_69 hr (fun x3 hr => ?_)
    refine ml_aload_n (pc := 70) dX12_reckons_70 rfl (mm_get_s (mm_get_s mm_get_0)) ?_
    refine ml_iload_n (pc := 71) dX12_reckons_71 rfl (mm_get_s (mm_get_s (mm_get_s mm_get_0))) ?_
    refine ml_iload (pc := 72) dX12_reckons_72 (mm_get_s (mm_get_s (mm_get_s (mm_get_s mm_get_0)))) ?_
    refine ml_iload (pc := 74) dX12_reckons_74 (mm_get_s (mm_get_s (mm_get_s (mm_get_s (mm_get_s mm_get_0))))) ?_
    refine mb_cVi (pc := 76) (As := [.int x3, .ref a2, .int i3, .int i4, .int i5]) (rest := [.int i6, .ref c1]) dX12_reckons_76 cw_X12_379 h0 hr (fun v hv => X12_valueOf_ok hz (by omega) h0 hv) rfl (Nat.le_of_ble_eq_true rfl) (Nat.zero_le _) (Nat.zero_le _) (fun r4 hr => ?_)
    exact mg_weak (mm_le_s (mm_le_n (mm_le_s (mm_le_s (mm_le_s (mm_le_s (mm_le_s (mm_le_s (mm_le_n mm_le_0))))))))) (X12_reckons_b79_ok hz hd h0 hk6 hr)
  · refine ml_aload_n (pc := 52) dX12_reckons_52 rfl mm_get_0 ?_
    refine mb_gr (pc := 53) dX12_reckons_53 fl_X12_23 hr (fun c5 hr => ?_)
    refine ml_iload (pc := 56) dX12_reckons_56 (mm_get_s (mm_get_s (mm_get_s (mm_get_s (mm_get_s (mm_get_s (mm_get_s mm_get_0))))))) ?_
    refine mb_ai (pc := 58) dX12_reckons_58 hr (fun x6 hr => ?_)
    refine mg_goto (pc := 59) 79 dX12_reckons_59 rfl ?_
    exact mg_weak (mm_le_s (mm_le_n (mm_le_s (mm_le_s (mm_le_s (mm_le_s (mm_le_s (mm_le_s (mm_le_n mm_le_0))))))))) (X12_reckons_b79_ok hz hd h0 hk6 hr)
def X12_reckons_L6 (e : mm_E) (a0 : Nat) (a2 : Nat) (i3 : Int32) (i4 : Int32) (i5 : Int32) : Nat → Int32 → Int32 → mm_V → Option (Int32 × mm_V)
  | 0, _, _, _ => none
  | n + 1, i6, i7, m => (mm_gr e.1 m 12 75 a0 7).bind fun c1 => (mm_ai e.1 m 20 c1 i7).bind fun x2 => if x2 = 0 then ((mm_gr e.1 m 12 75 a0 43).bind fun c3 => (mm_ai e.1 m 20 c3 (0 : Int32)).bind fun x4 => some (x4, m)) else ((mm_gr e.1 m 12 75 a0 7).bind fun c5 => (mm_ai e.1 m 20 c5 i7).bind fun x6 => if x6 = (1 : Int32) then (X12_reckons_b40 e (X12_reckons_L6 e a0 a2 i3 i4 i5 n) a0 a2 i3 i4 i5 i6 (i7 + 1) x6  m) else (if ¬ x6 = (2 : Int32) then (if ¬ x6 = (3 : Int32) then ((mm_gr e.1 m 12 75 a0 43).bind fun c7 => (mm_gr e.1 m 12 75 a0 43).bind fun c8 => (mm_ai e.1 m 20 c8 ((i6 + (-1)) - (1 : Int32))).bind fun x9 => (mm_gr e.1 m 12 75 a0 43).bind fun c10 => (mm_ai e.1 m 20 c10 (i6 + (-1))).bind fun x11 => (X12_works e x6 x9 x11 m).bind fun r12 => (mm_si e.1 r12.2 c7 ((i6 + (-1)) - (1 : Int32)) r12.1).bind fun m13 => X12_reckons_b157 e (X12_reckons_L6 e a0 a2 i3 i4 i5 n) a0 a2 i3 i4 i5 (i6 + (-1)) (i7 + 1)  m13) else ((mm_gr e.1 m 12 75 a0 43).bind fun c14 => (mm_gr e.1 m 12 75 a0 43).bind fun c15 => (mm_ai e.1 m 20 c15 (i6 - (1 : Int32))).bind fun x16 => if ¬ x16 = 0 then (X12_reckons_b120 e (X12_reckons_L6 e a0 a2 i3 i4 i5 n) a0 a2 i3 i4 i5 i6 (i7 + 1) c14 (i6 - (1 : Int32)) (0 : Int32) m) else (X12_reckons_b120 e (X12_reckons_L6 e a0 a2 i3 i4 i5 n) a0 a2 i3 i4 i5 i6 (i7 + 1) c14 (i6 - (1 : Int32)) (1 : Int32) m))) else (X12_reckons_b40 e (X12_reckons_L6 e a0 a2 i3 i4 i5 n) a0 a2 i3 i4 i5 i6 (i7 + 1) x6  m)))
theorem X12_reckons_L6_ok {K : mm_K} {nx : Option Nat} {e : mm_E} (hz : e.2.1 = K.2.2.2.2) {d : Nat} (hd : 2 ≤ d) {a0 : Nat} {a2 : Nat} {i3 : Int32} {i4 : Int32} {i5 : Int32} (h0 : e.1 a0 = some (12, 75)) : ∀ (n : Nat) (i6 : Int32) (i7 : Int32) (m : mm_V) (r : (Int32 × mm_V)), X12_reckons_L6 e a0 a2 i3 i4 i5 n i6 i7 m = some r → mm_G K MX12_reckons d (mm_Fi e.1 nx r) 6 [some (.ref a0), none, some (.ref a2), some (.int i3), some (.int i4), some (.int i5), some (.int i6), some (.int i7), none] [] (e.1, m) nx 0 0 := by
  obtain ⟨d, rfl⟩ : ∃ d', d = d' + 1 := ⟨d - 1, by omega⟩
  intro n
  induction n with
  | zero => intro i6 i7 m r hr; unfold X12_reckons_L6 at hr; cases hr
  | succ n ih =>
    intro i6 i7 m r hr
    unfold X12_reckons_L6 at hr
    refine ml_aload_n (pc := 6) dX12_reckons_6 rfl mm_get_0 ?_
    refine mb_gr (pc := 7) dX12_reckons_7 fl_X12_23 hr (fun c1 hr => ?_)
    refine ml_iload (pc := 10) dX12_reckons_10 (mm_get_s (mm_get_s (mm_get_s (mm_get_s (mm_get_s (mm_get_s (mm_get_s mm_get_0))))))) ?_
    refine mb_ai (pc := 12) dX12_reckons_12 hr (fun x2 hr => ?_)
    refine mb_if_eq (pc := 13) 160 dX12_reckons_13 rfl hr (fun hr => ?_) (fun hr => ?_)
    · refine ml_aload_n (pc := 160) dX12_reckons_160 rfl mm_get_0 ?_
      refine mb_gr (pc := 161) dX12_reckons_161 fl_X12_69 hr (fun c3 hr => ?_)
      refine mg_iconst (pc := 164) dX12_reckons_164 kc_0 ?_
      refine mb_ai (pc := 165) dX12_reckons_165 hr (fun x4 hr => ?_)
      exact mb_iret dX12_reckons_166 rfl hr
    · refine ml_aload_n (pc := 16) dX12_reckons_16 rfl mm_get_0 ?_
      refine mb_gr (pc := 17) dX12_reckons_17 fl_X12_23 hr (fun c5 hr => ?_)
      refine ml_iload (pc := 20) dX12_reckons_20 (mm_get_s (mm_get_s (mm_get_s (mm_get_s (mm_get_s (mm_get_s (mm_get_s mm_get_0))))))) ?_
      refine mb_ai (pc := 22) dX12_reckons_22 hr (fun x6 hr => ?_)
      refine ml_istore (pc := 23) dX12_reckons_23 (Nat.le_of_ble_eq_true rfl) (mm_st1_s (mm_st1_s (mm_st1_s (mm_st1_s (mm_st1_s (mm_st1_s (mm_st1_s mm_st1_i))))))) ?_
      refine ml_iinc (pc := 25) dX12_reckons_25 (mm_get_s (mm_get_s (mm_get_s (mm_get_s (mm_get_s (mm_get_s (mm_get_s mm_get_0))))))) (congrArg (fun z => i7 + z) kc_1) (Nat.le_of_ble_eq_true rfl) (mm_st1_s (mm_st1_s (mm_st1_s (mm_st1_s (mm_st1_s (mm_st1_s mm_st1_i)))))) ?_
      refine ml_iload (pc := 28) dX12_reckons_28 (mm_get_s (mm_get_s (mm_get_s (mm_get_s (mm_get_s (mm_get_s (mm_get_s (mm_get_s mm_get_0)))))))) ?_
      refine mg_iconst (pc := 30) dX12_reckons_30 kc_1 ?_
      refine mb_icmp_eq (pc := 31) 40 dX12_reckons_31 rfl hr (fun hr => ?_) (fun hr => ?_)
      · exact mg_weak (mm_le_s (mm_le_n (mm_le_s (mm_le_s (mm_le_s (mm_le_s (mm_le_s (mm_le_s (mm_le_s mm_le_0))))))))) (X12_reckons_b40_ok hz hd h0 ih hr)
      · refine ml_iload (pc := 34) dX12_reckons_34 (mm_get_s (mm_get_s (mm_get_s (mm_get_s (mm_get_s (mm_get_s (mm_get_s (mm_get_s mm_get_0)))))))) ?_
        refine mg_iconst (pc := 36) dX12_reckons_36 kc_2 ?_
        refine mb_icmp_ne (pc := 37) 89 dX12_reckons_37 rfl hr (fun hr => ?_) (fun hr => ?_)
        · refine ml_iload (pc := 89) dX12_reckons_89 (mm_get_s (mm_get_s (mm_get_s (mm_get_s (mm_get_s (mm_get_s (mm_get_s (mm_get_s mm_get_0)))))))) ?_
          refine mg_iconst (pc := 91) dX12_reckons_91 kc_3 ?_
          refine mb_icmp_ne (pc := 92) 124 dX12_reckons_92 rfl hr (fun hr => ?_) (fun hr => ?_)
          · refine ml_iinc (pc := 124) dX12_reckons_124 (mm_get_s (mm_get_s (mm_get_s (mm_get_s (mm_get_s (mm_get_s mm_get_0)))))) (congrArg (fun z => i6 + z) kc_m1) (Nat.le_of_ble_eq_true rfl) (mm_st1_s (mm_st1_s (mm_st1_s (mm_st1_s (mm_st1_s mm_st1_i))))) ?_
            refine ml_aload_n (pc := 127) dX12_reckons_127 rfl mm_get_0 ?_
            refine mb_gr (pc := 128) dX12_reckons_128 fl_X12_69 hr (fun c7 hr => ?_)
            refine ml_iload (pc := 131) dX12_reckons_131 (mm_get_s (mm_get_s (mm_get_s (mm_get_s (mm_get_s (mm_get_s mm_get_0)))))) ?_
            refine mg_iconst (pc := 133) dX12_reckons_133 kc_1 ?_
            refine mg_isub (pc := 134) dX12_reckons_134 ?_
            refine ml_iload (pc := 135) dX12_reckons_135 (mm_get_s (mm_get_s (mm_get_s (mm_get_s (mm_get_s (mm_get_s (mm_get_s (mm_get_s mm_get_0)))))))) ?_
            refine ml_aload_n (pc := 137) dX12_reckons_137 rfl mm_get_0 ?_
            refine mb_gr (pc := 138) dX12_reckons_138 fl_X12_69 hr (fun c8 hr => ?_)
            refine ml_iload (pc := 141) dX12_reckons_141 (mm_get_s (mm_get_s (mm_get_s (mm_get_s (mm_get_s (mm_get_s mm_get_0)))))) ?_
            refine mg_iconst (pc := 143) dX12_reckons_143 kc_1 ?_
            refine mg_isub (pc := 144) dX12_reckons_144 ?_
            refine mb_ai (pc := 145) dX12_reckons_145 hr (fun x9 hr => ?_)
            refine ml_aload_n (pc := 146) dX12_reckons_146 rfl mm_get_0 ?_
            refine mb_gr (pc := 147) dX12_reckons_147 fl_X12_69 hr (fun c10 hr => ?_)
            refine ml_iload (pc := 150) dX12_reckons_150 (mm_get_s (mm_get_s (mm_get_s (mm_get_s (mm_get_s (mm_get_s mm_get_0)))))) ?_
            refine mb_ai (pc := 152) dX12_reckons_152 hr (fun x11 hr => ?_)
            refine mb_cSi (pc := 153) (As := [.int x6, .int x9, .int x11]) (rest := [.int ((i6 + (-1)) - (1 : Int32)), .ref c7]) dX12_reckons_153 cw_X12_383  hr (fun v hv => X12_works_ok hz (by omega)  hv) rfl (Nat.le_of_ble_eq_true rfl) (Nat.zero_le _) (Nat.zero_le _) (fun r12 hr => ?_)
            refine mb_si (pc := 156) dX12_reckons_156 hr (fun m13 hr => ?_)
            exact mg_weak (mm_le_s (mm_le_n (mm_le_s (mm_le_s (mm_le_s (mm_le_s (mm_le_s (mm_le_s (mm_le_n mm_le_0))))))))) (X12_reckons_b157_ok hz hd h0 ih hr)
          · refine ml_aload_n (pc := 95) dX12_reckons_95 rfl mm_get_0 ?_
            refine mb_gr (pc := 96) dX12_reckons_96 fl_X12_69 hr (fun c14 hr => ?_)
            refine ml_iload (pc := 99) dX12_reckons_99 (mm_get_s (mm_get_s (mm_get_s (mm_get_s (mm_get_s (mm_get_s mm_get_0)))))) ?_
            refine mg_iconst (pc := 101) dX12_reckons_101 kc_1 ?_
            refine mg_isub (pc := 102) dX12_reckons_102 ?_
            refine ml_aload_n (pc := 103) dX12_reckons_103 rfl mm_get_0 ?_
            refine mb_gr (pc := 104) dX12_reckons_104 fl_X12_69 hr (fun c15 hr => ?_)
            refine ml_iload (pc := 107) dX12_reckons_107 (mm_get_s (mm_get_s (mm_get_s (mm_get_s (mm_get_s (mm_get_s mm_get_0)))))) ?_
            refine mg_iconst (pc := 109) dX12_reckons_109 kc_1 ?_
            refine mg_isub (pc := 110) dX12_reckons_110 ?_
            refine mb_ai (pc := 111) dX12_reckons_111 hr (fun x16 hr => ?_)
            refine mb_if_ne (pc := 112) 119 dX12_reckons_112 rfl hr (fun hr => ?_) (fun hr => ?_)
            · refine mg_iconst (pc := 119) dX12_reckons_119 kc_0 ?_
              exact mg_weak (mm_le_s (mm_le_n (mm_le_s (mm_le_s (mm_le_s (mm_le_s (mm_le_s (mm_le_s (mm_le_n mm_le_0))))))))) (X12_reckons_b120_ok hz hd h0 ih hr)
            · refine mg_iconst (pc := 115) dX12_reckons_115 kc_1 ?_
              refine mg_goto (pc := 116) 120 dX12_reckons_116 rfl ?_
              exact mg_weak (mm_le_s (mm_le_n (mm_le_s (mm_le_s (mm_le_s (mm_le_s (mm_le_s (mm_le_s (mm_le_n mm_le_0))))))))) (X12_reckons_b120_ok hz hd h0 ih hr)
        · exact mg_weak (mm_le_s (mm_le_n (mm_le_s (mm_le_s (mm_le_s (mm_le_s (mm_le_s (mm_le_s (mm_le_s mm_le_0))))))))) (X12_reckons_b40_ok hz hd h0 ih hr)
def X12_reckons (e : mm_E) (a0 : Nat) (i1 : Int32) (a2 : Nat) (i3 : Int32) (i4 : Int32) (i5 : Int32) (m : mm_V) : Option (Int32 × mm_V) := X12_reckons_L6 e a0 a2 i3 i4 i5 e.2.2 (0 : Int32) i1 m
theorem X12_reckons_ok {K : mm_K} {nx : Option Nat} {e : mm_E} (hz : e.2.1 = K.2.2.2.2) {d : Nat} (hd : 2 ≤ d) {a0 : Nat} {i1 : Int32} {a2 : Nat} {i3 : Int32} {i4 : Int32} {i5 : Int32} (h0 : e.1 a0 = some (12, 75)) {m : mm_V} {r : (Int32 × mm_V)} (hr : X12_reckons e a0 i1 a2 i3 i4 i5 m = some r) : mm_Cn K MX12_reckons d (mm_Fi e.1 nx r) [.ref a0, .int i1, .ref a2, .int i3, .int i4, .int i5] (e.1, m) nx := by
  obtain ⟨d, rfl⟩ : ∃ d', d = d' + 1 := ⟨d - 1, by omega⟩
  refine mm_entry (by decide) (Nat.le_of_ble_eq_true rfl) rfl (fun hok => ?_)
  unfold X12_reckons at hr
  refine mg_weak (L' := [some (.ref a0), some (.int i1), some (.ref a2), some (.int i3), some (.int i4), some (.int i5), none, none, none]) (mm_le_s (mm_le_s (mm_le_s (mm_le_s (mm_le_s (mm_le_s (mm_le_e (mm_le_e (mm_le_e mm_le_0))))))))) ?_
  refine mg_iconst (pc := 0) dX12_reckons_0 kc_0 ?_
  refine ml_istore (pc := 1) dX12_reckons_1 (Nat.le_of_ble_eq_true rfl) (mm_st1_s (mm_st1_s (mm_st1_s (mm_st1_s (mm_st1_s mm_st1_i))))) ?_
  refine ml_iload_n (pc := 3) dX12_reckons_3 rfl (mm_get_s mm_get_0) ?_
  refine ml_istore (pc := 4) dX12_reckons_4 (Nat.le_of_ble_eq_true rfl) (mm_st1_s (mm_st1_s (mm_st1_s (mm_st1_s (mm_st1_s (mm_st1_s mm_st1_i)))))) ?_
  exact mg_weak (mm_le_s (mm_le_n (mm_le_s (mm_le_s (mm_le_s (mm_le_s (mm_le_s (mm_le_s (mm_le_n mm_le_0))))))))) (X12_reckons_L6_ok hz hd h0 _ _ _ _ _ hr)
