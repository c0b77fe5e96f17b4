theorem tw_1878 : Cond.methodLink "SootQueenModel" 437 ⟨"SootQueenModel", "common", "(JJ)J"⟩ ∈ lw_tbl := List.mem_append_right _ (List.mem_of_getElem? (i := 1878) (by decide +kernel))
theorem tw_1880 : Cond.code ⟨"SootQueenModel", "common", "(JJ)J"⟩ prog_14_method_78_code 10 (some .long) ∈ lw_tbl := List.mem_append_right _ (List.mem_of_getElem? (i := 1880) (by decide +kernel))
theorem tw_1879 : Cond.static ⟨"SootQueenModel", "common", "(JJ)J"⟩ ∈ lw_tbl := List.mem_append_right _ (List.mem_of_getElem? (i := 1879) (by decide +kernel))
theorem cw_X12_437 : mm_CS RX12 437 MX12_common 2 := ⟨⟨Or.inl tw_1878, tw_1880, tw_14, ⟨by decide, by decide⟩, by decide +kernel, by decide⟩, tw_1879⟩
theorem tw_1460 : Cond.fieldLink "SootQueenModel" 99 "SootQueenModel" "much" "[J" ∈ lw_tbl := List.mem_append_right _ (List.mem_of_getElem? (i := 1460) (by decide +kernel))
theorem fl_X12_99 : mm_FL RX12 99 12 58 75 := ⟨(RX12, TX12, 75), rfl, rfl, by decide, by decide, Or.inl tw_1460⟩
theorem tw_1458 : Cond.fieldLink "SootQueenModel" 93 "SootQueenModel" "at" "[I" ∈ lw_tbl := List.mem_append_right _ (List.mem_of_getElem? (i := 1458) (by decide +kernel))
theorem fl_X12_93 : mm_FL RX12 93 12 56 75 := ⟨(RX12, TX12, 75), rfl, rfl, by decide, by decide, Or.inl tw_1458⟩
theorem tw_1457 : Cond.fieldLink "SootQueenModel" 90 "SootQueenModel" "below" "[I" ∈ lw_tbl := List.mem_append_right _ (List.mem_of_getElem? (i := 1457) (by decide +kernel))
theorem fl_X12_90 : mm_FL RX12 90 12 55 75 := ⟨(RX12, TX12, 75), rfl, rfl, by decide, by decide, Or.inl tw_1457⟩
theorem tw_1459 : Cond.fieldLink "SootQueenModel" 96 "SootQueenModel" "here" "[I" ∈ lw_tbl := List.mem_append_right _ (List.mem_of_getElem? (i := 1459) (by decide +kernel))
theorem fl_X12_96 : mm_FL RX12 96 12 57 75 := ⟨(RX12, TX12, 75), rfl, rfl, by decide, by decide, Or.inl tw_1459⟩
theorem tw_1874 : Cond.constantLong "SootQueenModel" 443 (-2) ∈ lw_tbl := List.mem_append_right _ (List.mem_of_getElem? (i := 1874) (by decide +kernel))
theorem tw_1875 : Cond.methodLink "SootQueenModel" 445 ⟨"SootQueenModel", "portion", "(JJI)J"⟩ ∈ lw_tbl := List.mem_append_right _ (List.mem_of_getElem? (i := 1875) (by decide +kernel))
theorem tw_1877 : Cond.code ⟨"SootQueenModel", "portion", "(JJI)J"⟩ prog_14_method_79_code 5 (some .long) ∈ lw_tbl := List.mem_append_right _ (List.mem_of_getElem? (i := 1877) (by decide +kernel))
theorem tw_1876 : Cond.static ⟨"SootQueenModel", "portion", "(JJI)J"⟩ ∈ lw_tbl := List.mem_append_right _ (List.mem_of_getElem? (i := 1876) (by decide +kernel))
theorem cw_X12_445 : mm_CS RX12 445 MX12_portion 3 := ⟨⟨Or.inl tw_1875, tw_1877, tw_14, ⟨by decide, by decide⟩, by decide +kernel, by decide⟩, tw_1876⟩
theorem tw_1873 : Cond.constantLong "SootQueenModel" 441 (2520) ∈ lw_tbl := List.mem_append_right _ (List.mem_of_getElem? (i := 1873) (by decide +kernel))
theorem tw_1885 : Cond.constantLong "SootQueenModel" 449 (3) ∈ lw_tbl := List.mem_append_right _ (List.mem_of_getElem? (i := 1885) (by decide +kernel))
theorem tw_1465 : Cond.fieldLink "SootQueenModel" 115 "SootQueenModel" "gone" "[I" ∈ lw_tbl := List.mem_append_right _ (List.mem_of_getElem? (i := 1465) (by decide +kernel))
theorem fl_X12_115 : mm_FL RX12 115 12 63 75 := ⟨(RX12, TX12, 75), rfl, rfl, by decide, by decide, Or.inl tw_1465⟩
theorem tw_1898 : Cond.methodLink "SootQueenModel" 464 ⟨"SootQueenModel", "goesSo", "(I)Z"⟩ ∈ lw_tbl := List.mem_append_right _ (List.mem_of_getElem? (i := 1898) (by decide +kernel))
theorem tw_1901 : Cond.code ⟨"SootQueenModel", "goesSo", "(I)Z"⟩ prog_14_method_82_code 7 (some .boolean) ∈ lw_tbl := List.mem_append_right _ (List.mem_of_getElem? (i := 1901) (by decide +kernel))
theorem tw_1900 : Cond.instanceMethod ⟨"SootQueenModel", "goesSo", "(I)Z"⟩ ∈ lw_tbl := List.mem_append_right _ (List.mem_of_getElem? (i := 1900) (by decide +kernel))
theorem sw_100 : Cond.selects "SootQueenModel" ⟨"SootQueenModel", "goesSo", "(I)Z"⟩ ⟨"SootQueenModel", "goesSo", "(I)Z"⟩ ∈ lw_tbl := List.mem_append_left _ (List.mem_of_getElem? (i := 100) (by decide +kernel))
theorem cw_X12_464 : mm_CV RX12 464 MX12_goesSo 12 1 := ⟨⟨Or.inl tw_1898, tw_1901, tw_14, ⟨by decide, by decide⟩, by decide +kernel, by decide⟩, tw_1900, by decide, (RX12, TX12, 75), rfl, sw_100⟩
theorem tw_1468 : Cond.fieldLink "SootQueenModel" 451 "SootQueenModel" "arrangements" "I" ∈ lw_tbl := List.mem_append_right _ (List.mem_of_getElem? (i := 1468) (by decide +kernel))
theorem fl_X12_451 : mm_FL RX12 451 12 66 75 := ⟨(RX12, TX12, 75), rfl, rfl, by decide, by decide, Or.inl tw_1468⟩
theorem fp_X12_451 : mm_FP RX12 451 12 66 75 .int := ⟨fl_X12_451, (RX12, TX12, 75), rfl, rfl, by decide +kernel⟩
theorem tw_1467 : Cond.fieldLink "SootQueenModel" 121 "SootQueenModel" "hereWho" "[I" ∈ lw_tbl := List.mem_append_right _ (List.mem_of_getElem? (i := 1467) (by decide +kernel))
theorem fl_X12_121 : mm_FL RX12 121 12 65 75 := ⟨(RX12, TX12, 75), rfl, rfl, by decide, by decide, Or.inl tw_1467⟩
theorem tw_1466 : Cond.fieldLink "SootQueenModel" 118 "SootQueenModel" "herePlaces" "[I" ∈ lw_tbl := List.mem_append_right _ (List.mem_of_getElem? (i := 1466) (by decide +kernel))
theorem fl_X12_118 : mm_FL RX12 118 12 64 75 := ⟨(RX12, TX12, 75), rfl, rfl, by decide, by decide, Or.inl tw_1466⟩
theorem tw_1461 : Cond.fieldLink "SootQueenModel" 103 "SootQueenModel" "spotOf" "[I" ∈ lw_tbl := List.mem_append_right _ (List.mem_of_getElem? (i := 1461) (by decide +kernel))
theorem fl_X12_103 : mm_FL RX12 103 12 59 75 := ⟨(RX12, TX12, 75), rfl, rfl, by decide, by decide, Or.inl tw_1461⟩
theorem tw_1462 : Cond.fieldLink "SootQueenModel" 106 "SootQueenModel" "spotAt" "[I" ∈ lw_tbl := List.mem_append_right _ (List.mem_of_getElem? (i := 1462) (by decide +kernel))
theorem fl_X12_106 : mm_FL RX12 106 12 60 75 := ⟨(RX12, TX12, 75), rfl, rfl, by decide, by decide, Or.inl tw_1462⟩
theorem tw_1463 : Cond.fieldLink "SootQueenModel" 109 "SootQueenModel" "holds" "[I" ∈ lw_tbl := List.mem_append_right _ (List.mem_of_getElem? (i := 1463) (by decide +kernel))
theorem fl_X12_109 : mm_FL RX12 109 12 61 75 := ⟨(RX12, TX12, 75), rfl, rfl, by decide, by decide, Or.inl tw_1463⟩
theorem tw_1464 : Cond.fieldLink "SootQueenModel" 112 "SootQueenModel" "over" "[I" ∈ lw_tbl := List.mem_append_right _ (List.mem_of_getElem? (i := 1464) (by decide +kernel))
theorem fl_X12_112 : mm_FL RX12 112 12 62 75 := ⟨(RX12, TX12, 75), rfl, rfl, by decide, by decide, Or.inl tw_1464⟩
theorem tw_1469 : Cond.fieldLink "SootQueenModel" 454 "SootQueenModel" "tries" "I" ∈ lw_tbl := List.mem_append_right _ (List.mem_of_getElem? (i := 1469) (by decide +kernel))
theorem fl_X12_454 : mm_FL RX12 454 12 67 75 := ⟨(RX12, TX12, 75), rfl, rfl, by decide, by decide, Or.inl tw_1469⟩
theorem fp_X12_454 : mm_FP RX12 454 12 67 75 .int := ⟨fl_X12_454, (RX12, TX12, 75), rfl, rfl, by decide +kernel⟩
theorem tw_1902 : Cond.methodLink "SootQueenModel" 461 ⟨"SootQueenModel", "isThere", "(I)Z"⟩ ∈ lw_tbl := List.mem_append_right _ (List.mem_of_getElem? (i := 1902) (by decide +kernel))
theorem tw_1905 : Cond.code ⟨"SootQueenModel", "isThere", "(I)Z"⟩ prog_14_method_84_code 3 (some .boolean) ∈ lw_tbl := List.mem_append_right _ (List.mem_of_getElem? (i := 1905) (by decide +kernel))
theorem tw_1904 : Cond.instanceMethod ⟨"SootQueenModel", "isThere", "(I)Z"⟩ ∈ lw_tbl := List.mem_append_right _ (List.mem_of_getElem? (i := 1904) (by decide +kernel))
theorem sw_101 : Cond.selects "SootQueenModel" ⟨"SootQueenModel", "isThere", "(I)Z"⟩ ⟨"SootQueenModel", "isThere", "(I)Z"⟩ ∈ lw_tbl := List.mem_append_left _ (List.mem_of_getElem? (i := 101) (by decide +kernel))
theorem cw_X12_461 : mm_CV RX12 461 MX12_isThere 12 1 := ⟨⟨Or.inl tw_1902, tw_1905, tw_14, ⟨by decide, by decide⟩, by decide +kernel, by decide⟩, tw_1904, by decide, (RX12, TX12, 75), rfl, sw_101⟩
theorem tw_1894 : Cond.methodLink "SootQueenModel" 457 ⟨"SootQueenModel", "counts", "(II)V"⟩ ∈ lw_tbl := List.mem_append_right _ (List.mem_of_getElem? (i := 1894) (by decide +kernel))
theorem tw_1897 : Cond.code ⟨"SootQueenModel", "counts", "(II)V"⟩ prog_14_method_85_code 4 none ∈ lw_tbl := List.mem_append_right _ (List.mem_of_getElem? (i := 1897) (by decide +kernel))
theorem tw_1896 : Cond.instanceMethod ⟨"SootQueenModel", "counts", "(II)V"⟩ ∈ lw_tbl := List.mem_append_right _ (List.mem_of_getElem? (i := 1896) (by decide +kernel))
theorem sw_99 : Cond.selects "SootQueenModel" ⟨"SootQueenModel", "counts", "(II)V"⟩ ⟨"SootQueenModel", "counts", "(II)V"⟩ ∈ lw_tbl := List.mem_append_left _ (List.mem_of_getElem? (i := 99) (by decide +kernel))
theorem cw_X12_457 : mm_CV RX12 457 MX12_counts 12 2 := ⟨⟨Or.inl tw_1894, tw_1897, tw_14, ⟨by decide, by decide⟩, by decide +kernel, by decide⟩, tw_1896, by decide, (RX12, TX12, 75), rfl, sw_99⟩
theorem tw_1890 : Cond.methodLink "SootQueenModel" 467 ⟨"SootQueenModel", "believes", "(I)Z"⟩ ∈ lw_tbl := List.mem_append_right _ (List.mem_of_getElem? (i := 1890) (by decide +kernel))
theorem tw_1893 : Cond.code ⟨"SootQueenModel", "believes", "(I)Z"⟩ prog_14_method_83_code 5 (some .boolean) ∈ lw_tbl := List.mem_append_right _ (List.mem_of_getElem? (i := 1893) (by decide +kernel))
theorem tw_1892 : Cond.instanceMethod ⟨"SootQueenModel", "believes", "(I)Z"⟩ ∈ lw_tbl := List.mem_append_right _ (List.mem_of_getElem? (i := 1892) (by decide +kernel))
theorem sw_98 : Cond.selects "SootQueenModel" ⟨"SootQueenModel", "believes", "(I)Z"⟩ ⟨"SootQueenModel", "believes", "(I)Z"⟩ ∈ lw_tbl := List.mem_append_left _ (List.mem_of_getElem? (i := 98) (by decide +kernel))
theorem cw_X12_467 : mm_CV RX12 467 MX12_believes 12 1 := ⟨⟨Or.inl tw_1890, tw_1893, tw_14, ⟨by decide, by decide⟩, by decide +kernel, by decide⟩, tw_1892, by decide, (RX12, TX12, 75), rfl, sw_98⟩
theorem dX12_isOut_0 : decode cX12_isOut 0 = .ok (.aload_n 0, 1) := by decide +kernel
theorem dX12_isOut_1 : decode cX12_isOut 1 = .ok (.iconst 0, 1) := by decide +kernel
theorem dX12_isOut_2 : decode cX12_isOut 2 = .ok (.putfield 152, 3) := by decide +kernel
theorem dX12_isOut_5 : decode cX12_isOut 5 = .ok (.aload_n 0, 1) := by decide +kernel
theorem dX12_isOut_6 : decode cX12_isOut 6 = .ok (.iload_n 1, 1) := by decide +kernel
theorem dX12_isOut_7 : decode cX12_isOut 7 = .ok (.invokevirtual 376, 3) := by decide +kernel
theorem dX12_isOut_10 : decode cX12_isOut 10 = .ok (.ifCond .ne 5, 3) := by decide +kernel
theorem dX12_isOut_13 : decode cX12_isOut 13 = .ok (.iconst 0, 1) := by decide +kernel
theorem dX12_isOut_14 : decode cX12_isOut 14 = .ok (.ireturn, 1) := by decide +kernel
theorem dX12_isOut_15 : decode cX12_isOut 15 = .ok (.aload_n 0, 1) := by decide +kernel
theorem dX12_isOut_16 : decode cX12_isOut 16 = .ok (.invokevirtual 431, 3) := by decide +kernel
theorem dX12_isOut_19 : decode cX12_isOut 19 = .ok (.aload_n 0, 1) := by decide +kernel
theorem dX12_isOut_20 : decode cX12_isOut 20 = .ok (.getfield 87, 3) := by decide +kernel
theorem dX12_isOut_23 : decode cX12_isOut 23 = .ok (.iload_n 1, 1) := by decide +kernel
theorem dX12_isOut_24 : decode cX12_isOut 24 = .ok (.iaload, 1) := by decide +kernel
theorem dX12_isOut_25 : decode cX12_isOut 25 = .ok (.ireturn, 1) := by decide +kernel
def X12_isOut (e : mm_E) (a0 : Nat) (i1 : Int32) (m : mm_V) : Option (Int32 × mm_V) := (mm_pf e.1 m 12 75 a0 0 (.int (0 : Int32))).bind fun m1 => (X12_isPerson e a0 i1 m1).bind fun r2 => if ¬ r2.1 = 0 then ((X12_playsOn e a0 r2.2).bind fun r3 => (mm_gr e.1 r3 12 75 a0 53).bind fun c4 => (mm_ai e.1 r3 20 c4 i1).bind fun x5 => some (x5, r3)) else (some ((0 : Int32), r2.2))
theorem X12_isOut_ok {K : mm_K} {nx : Option Nat} {e : mm_E} (hz : e.2.1 = K.2.2.2.2) {d : Nat} (hd : 8 ≤ d) {a0 : Nat} {i1 : Int32} (h0 : e.1 a0 = some (12, 75)) {m : mm_V} {r : (Int32 × mm_V)} (hr : X12_isOut e a0 i1 m = some r) : mm_Cn K MX12_isOut d (mm_Fi e.1 nx r) [.ref a0, .int i1] (e.1, m) nx := by
  obtain ⟨d, rfl⟩ : ∃ d', d = d' + 1 := ⟨d - 1, by omega⟩
  refine mm_entry (by decide) (Nat.le_of_ble_eq_true rfl) rfl (fun hok => ?_)
  unfold X12_isOut at hr
  refine mg_weak (L' := [some (.ref a0), some (.int i1)]) (mm_le_s (mm_le_s mm_le_0)) ?_
  refine ml_aload_n (pc := 0) dX12_isOut_0 rfl mm_get_0 ?_
  refine mg_iconst (pc := 1) dX12_isOut_1 kc_0 ?_
  refine mb_pi (pc := 2) dX12_isOut_2 fp_X12_152 hr (fun m1 hr => ?_)
  refine ml_aload_n (pc := 5) dX12_isOut_5 rfl mm_get_0 ?_
  refine ml_iload_n (pc := 6) dX12_isOut_6 rfl (mm_get_s mm_get_0) ?_
  refine mb_cVi (pc := 7) (As := [.int i1]) (rest := []) dX12_isOut_7 cw_X12_376 h0 hr (fun v hv => X12_isPerson_ok hz (by omega) h0 hv) rfl (Nat.le_of_ble_eq_true rfl) (Nat.zero_le _) (Nat.zero_le _) (fun r2 hr => ?_)
  refine mb_if_ne (pc := 10) 15 dX12_isOut_10 rfl hr (fun hr => ?_) (fun hr => ?_)
  · refine ml_aload_n (pc := 15) dX12_isOut_15 rfl mm_get_0 ?_
    refine mb_cVv (pc := 16) (As := []) (rest := []) dX12_isOut_16 cw_X12_431 h0 hr (fun v hv => X12_playsOn_ok hz (by omega) h0 hv) rfl (Nat.le_of_ble_eq_true rfl) (Nat.zero_le _) (Nat.zero_le _) (fun r3 hr => ?_)
    refine ml_aload_n (pc := 19) dX12_isOut_19 rfl mm_get_0 ?_
    refine mb_gr (pc := 20) dX12_isOut_20 fl_X12_87 hr (fun c4 hr => ?_)
    refine ml_iload_n (pc := 23) dX12_isOut_23 rfl (mm_get_s mm_get_0) ?_
    refine mb_ai (pc := 24) dX12_isOut_24 hr (fun x5 hr => ?_)
    exact mb_iret dX12_isOut_25 rfl hr
  · refine mg_iconst (pc := 13) dX12_isOut_13 kc_0 ?_
    exact mb_iret dX12_isOut_14 rfl hr
theorem dX12_rank_0 : decode cX12_rank 0 = .ok (.aload_n 0, 1) := by decide +kernel
theorem dX12_rank_1 : decode cX12_rank 1 = .ok (.iconst 0, 1) := by decide +kernel
theorem dX12_rank_2 : decode cX12_rank 2 = .ok (.putfield 152, 3) := by decide +kernel
theorem dX12_rank_5 : decode cX12_rank 5 = .ok (.aload_n 0, 1) := by decide +kernel
theorem dX12_rank_6 : decode cX12_rank 6 = .ok (.iload_n 1, 1) := by decide +kernel
theorem dX12_rank_7 : decode cX12_rank 7 = .ok (.invokevirtual 376, 3) := by decide +kernel
theorem dX12_rank_10 : decode cX12_rank 10 = .ok (.ifCond .ne 5, 3) := by decide +kernel
theorem dX12_rank_13 : decode cX12_rank 13 = .ok (.iconst 0, 1) := by decide +kernel
theorem dX12_rank_14 : decode cX12_rank 14 = .ok (.ireturn, 1) := by decide +kernel
theorem dX12_rank_15 : decode cX12_rank 15 = .ok (.aload_n 0, 1) := by decide +kernel
theorem dX12_rank_16 : decode cX12_rank 16 = .ok (.invokevirtual 431, 3) := by decide +kernel
theorem dX12_rank_19 : decode cX12_rank 19 = .ok (.aload_n 0, 1) := by decide +kernel
theorem dX12_rank_20 : decode cX12_rank 20 = .ok (.getfield 87, 3) := by decide +kernel
theorem dX12_rank_23 : decode cX12_rank 23 = .ok (.iload_n 1, 1) := by decide +kernel
theorem dX12_rank_24 : decode cX12_rank 24 = .ok (.iaload, 1) := by decide +kernel
theorem dX12_rank_25 : decode cX12_rank 25 = .ok (.iconst (-1), 1) := by decide +kernel
theorem dX12_rank_26 : decode cX12_rank 26 = .ok (.if_icmp .ne 5, 3) := by decide +kernel
theorem dX12_rank_29 : decode cX12_rank 29 = .ok (.iconst (-1), 1) := by decide +kernel
theorem dX12_rank_30 : decode cX12_rank 30 = .ok (.ireturn, 1) := by decide +kernel
theorem dX12_rank_31 : decode cX12_rank 31 = .ok (.iconst 0, 1) := by decide +kernel
theorem dX12_rank_32 : decode cX12_rank 32 = .ok (.istore_n 2, 1) := by decide +kernel
theorem dX12_rank_33 : decode cX12_rank 33 = .ok (.iconst 0, 1) := by decide +kernel
theorem dX12_rank_34 : decode cX12_rank 34 = .ok (.istore_n 3, 1) := by decide +kernel
theorem dX12_rank_35 : decode cX12_rank 35 = .ok (.iload_n 3, 1) := by decide +kernel
theorem dX12_rank_36 : decode cX12_rank 36 = .ok (.aload_n 0, 1) := by decide +kernel
theorem dX12_rank_37 : decode cX12_rank 37 = .ok (.getfield 7, 3) := by decide +kernel
theorem dX12_rank_40 : decode cX12_rank 40 = .ok (.if_icmp .ge 62, 3) := by decide +kernel
theorem dX12_rank_43 : decode cX12_rank 43 = .ok (.iload_n 2, 1) := by decide +kernel
theorem dX12_rank_44 : decode cX12_rank 44 = .ok (.aload_n 0, 1) := by decide +kernel
theorem dX12_rank_45 : decode cX12_rank 45 = .ok (.getfield 87, 3) := by decide +kernel
theorem dX12_rank_48 : decode cX12_rank 48 = .ok (.iload_n 3, 1) := by decide +kernel
theorem dX12_rank_49 : decode cX12_rank 49 = .ok (.iaload, 1) := by decide +kernel
theorem dX12_rank_50 : decode cX12_rank 50 = .ok (.iconst (-1), 1) := by decide +kernel
theorem dX12_rank_51 : decode cX12_rank 51 = .ok (.if_icmp .eq 42, 3) := by decide +kernel
theorem dX12_rank_54 : decode cX12_rank 54 = .ok (.aload_n 0, 1) := by decide +kernel
theorem dX12_rank_55 : decode cX12_rank 55 = .ok (.getfield 87, 3) := by decide +kernel
theorem dX12_rank_58 : decode cX12_rank 58 = .ok (.iload_n 3, 1) := by decide +kernel
theorem dX12_rank_59 : decode cX12_rank 59 = .ok (.iaload, 1) := by decide +kernel
theorem dX12_rank_60 : decode cX12_rank 60 = .ok (.aload_n 0, 1) := by decide +kernel
theorem dX12_rank_61 : decode cX12_rank 61 = .ok (.getfield 87, 3) := by decide +kernel
theorem dX12_rank_64 : decode cX12_rank 64 = .ok (.iload_n 1, 1) := by decide +kernel
theorem dX12_rank_65 : decode cX12_rank 65 = .ok (.iaload, 1) := by decide +kernel
theorem dX12_rank_66 : decode cX12_rank 66 = .ok (.if_icmp .lt 23, 3) := by decide +kernel
theorem dX12_rank_69 : decode cX12_rank 69 = .ok (.aload_n 0, 1) := by decide +kernel
theorem dX12_rank_70 : decode cX12_rank 70 = .ok (.getfield 87, 3) := by decide +kernel
theorem dX12_rank_73 : decode cX12_rank 73 = .ok (.iload_n 3, 1) := by decide +kernel
theorem dX12_rank_74 : decode cX12_rank 74 = .ok (.iaload, 1) := by decide +kernel
theorem dX12_rank_75 : decode cX12_rank 75 = .ok (.aload_n 0, 1) := by decide +kernel
theorem dX12_rank_76 : decode cX12_rank 76 = .ok (.getfield 87, 3) := by decide +kernel
theorem dX12_rank_79 : decode cX12_rank 79 = .ok (.iload_n 1, 1) := by decide +kernel
theorem dX12_rank_80 : decode cX12_rank 80 = .ok (.iaload, 1) := by decide +kernel
theorem dX12_rank_81 : decode cX12_rank 81 = .ok (.if_icmp .ne 12, 3) := by decide +kernel
theorem dX12_rank_84 : decode cX12_rank 84 = .ok (.iload_n 3, 1) := by decide +kernel
theorem dX12_rank_85 : decode cX12_rank 85 = .ok (.iload_n 1, 1) := by decide +kernel
theorem dX12_rank_86 : decode cX12_rank 86 = .ok (.if_icmp .ge 7, 3) := by decide +kernel
theorem dX12_rank_89 : decode cX12_rank 89 = .ok (.iconst 1, 1) := by decide +kernel
theorem dX12_rank_90 : decode cX12_rank 90 = .ok (.goto 4, 3) := by decide +kernel
theorem dX12_rank_93 : decode cX12_rank 93 = .ok (.iconst 0, 1) := by decide +kernel
theorem dX12_rank_94 : decode cX12_rank 94 = .ok (.iadd, 1) := by decide +kernel
theorem dX12_rank_95 : decode cX12_rank 95 = .ok (.istore_n 2, 1) := by decide +kernel
theorem dX12_rank_96 : decode cX12_rank 96 = .ok (.iinc 3 1, 3) := by decide +kernel
theorem dX12_rank_99 : decode cX12_rank 99 = .ok (.goto (-64), 3) := by decide +kernel
theorem dX12_rank_102 : decode cX12_rank 102 = .ok (.iload_n 2, 1) := by decide +kernel
theorem dX12_rank_103 : decode cX12_rank 103 = .ok (.ireturn, 1) := by decide +kernel
def X12_rank_b94 (e : mm_E) (k35 : Int32 → Int32 → mm_V → Option (Int32 × mm_V)) (a0 : Nat) (i1 : Int32) (i3 : Int32) (t0 : Int32) (t1 : Int32) (m : mm_V) : Option (Int32 × mm_V) := k35 (t0 + t1) (i3 + 1) m
theorem X12_rank_b94_ok {K : mm_K} {nx : Option Nat} {e : mm_E} (hz : e.2.1 = K.2.2.2.2) {d : Nat} (hd : 8 ≤ d) {a0 : Nat} {i1 : Int32} {i3 : Int32} {t0 : Int32} {t1 : Int32} (h0 : e.1 a0 = some (12, 75)) {k35 : Int32 → Int32 → mm_V → Option (Int32 × mm_V)} (hk35 : ∀ (w2 : Int32) (w3 : Int32) (m : mm_V) (r : (Int32 × mm_V)), k35 w2 w3 m = some r → mm_G K MX12_rank d (mm_Fi e.1 nx r) 35 [some (.ref a0), some (.int i1), some (.int w2), some (.int w3)] [] (e.1, m) nx 0 0) {m : mm_V} {r : (Int32 × mm_V)} (hr : X12_rank_b94 e k35 a0 i1 i3 t0 t1 m = some r) : mm_G K MX12_rank d (mm_Fi e.1 nx r) 94 [some (.ref a0), some (.int i1), none, some (.int i3)] [.int t1, .int t0] (e.1, m) nx 0 0 := by
  obtain ⟨d, rfl⟩ : ∃ d', d = d' + 1 := ⟨d - 1, by omega⟩
  unfold X12_rank_b94 at hr
  refine mg_iadd (pc := 94) dX12_rank_94 ?_
  refine ml_istore_n (pc := 95) dX12_rank_95 rfl (Nat.le_of_ble_eq_true rfl) (mm_st1_s mm_st1_i) ?_
  refine ml_iinc (pc := 96) dX12_rank_96 (mm_get_s (mm_get_s (mm_get_s mm_get_0))) (congrArg (fun z => i3 + z) kc_1) (Nat.le_of_ble_eq_true rfl) (mm_st1_s (mm_st1_s mm_st1_i)) ?_
  refine mg_goto (pc := 99) 35 dX12_rank_99 rfl ?_
  exact mg_weak (mm_le_s (mm_le_s (mm_le_s (mm_le_s mm_le_0)))) (hk35 _ _ _ _ hr)
def X12_rank_b93 (e : mm_E) (k35 : Int32 → Int32 → mm_V → Option (Int32 × mm_V)) (a0 : Nat) (i1 : Int32) (i3 : Int32) (t0 : Int32) (m : mm_V) : Option (Int32 × mm_V) := X12_rank_b94 e k35 a0 i1 i3 t0 (0 : Int32) m
theorem X12_rank_b93_ok {K : mm_K} {nx : Option Nat} {e : mm_E} (hz : e.2.1 = K.2.2.2.2) {d : Nat} (hd : 8 ≤ d) {a0 : Nat} {i1 : Int32} {i3 : Int32} {t0 : Int32} (h0 : e.1 a0 = some (12, 75)) {k35 : Int32 → Int32 → mm_V → Option (Int32 × mm_V)} (hk35 : ∀ (w2 : Int32) (w3 : Int32) (m : mm_V) (r : (Int32 × mm_V)), k35 w2 w3 m = some r → mm_G K MX12_rank d (mm_Fi e.1 nx r) 35 [some (.ref a0), some (.int i1), some (.int w2), some (.int w3)] [] (e.1, m) nx 0 0) {m : mm_V} {r : (Int32 × mm_V)} (hr : X12_rank_b93 e k35 a0 i1 i3 t0 m = some r) : mm_G K MX12_rank d (mm_Fi e.1 nx r) 93 [some (.ref a0), some (.int i1), none, some (.int i3)] [.int t0] (e.1, m) nx 0 0 := by
  obtain ⟨d, rfl⟩ : ∃ d', d = d' + 1 := ⟨d - 1, by omega⟩
  unfold X12_rank_b93 at hr
  refine mg_iconst (pc := 93) dX12_rank_93 kc_0 ?_
  exact mg_weak (mm_le_s (mm_le_s (mm_le_n (mm_le_s mm_le_0)))) (X12_rank_b94_ok hz hd h0 hk35 hr)
def X12_rank_b89 (e : mm_E) (k35 : Int32 → Int32 → mm_V → Option (Int32 × mm_V)) (a0 : Nat) (i1 : Int32) (i3 : Int32) (t0 : Int32) (m : mm_V) : Option (Int32 × mm_V) := X12_rank_b94 e k35 a0 i1 i3 t0 (1 : Int32) m
theorem X12_rank_b89_ok {K : mm_K} {nx : Option Nat} {e : mm_E} (hz : e.2.1 = K.2.2.2.2) {d : Nat} (hd : 8 ≤ d) {a0 : Nat} {i1 : Int32} {i3 : Int32} {t0 : Int32} (h0 : e.1 a0 = some (12, 75)) {k35 : Int32 → Int32 → mm_V → Option (Int32 × mm_V)} (hk35 : ∀ (w2 : Int32) (w3 : Int32) (m : mm_V) (r : (Int32 × mm_V)), k35 w2 w3 m = some r → mm_G K MX12_rank d (mm_Fi e.1 nx r) 35 [some (.ref a0), some (.int i1), some (.int w2), some (.int w3)] [] (e.1, m) nx 0 0) {m : mm_V} {r : (Int32 × mm_V)} (hr : X12_rank_b89 e k35 a0 i1 i3 t0 m = some r) : mm_G K MX12_rank d (mm_Fi e.1 nx r) 89 [some (.ref a0), some (.int i1), none, some (.int i3)] [.int t0] (e.1, m) nx 0 0 := by
  obtain ⟨d, rfl⟩ : ∃ d', d = d' + 1 := ⟨d - 1, by omega⟩
  unfold X12_rank_b89 at hr
  refine mg_iconst (pc := 89) dX12_rank_89 kc_1 ?_
  refine mg_goto (pc := 90) 94 dX12_rank_90 rfl ?_
  exact mg_weak (mm_le_s (mm_le_s (mm_le_n (mm_le_s mm_le_0)))) (X12_rank_b94_ok hz hd h0 hk35 hr)
def X12_rank_L35 (e : mm_E) (a0 : Nat) (i1 : Int32) : Nat → Int32 → Int32 → mm_V → Option (Int32 × mm_V)
  | 0, _, _, _ => none
  | n + 1, i2, i3, m => (mm_gi e.1 m 12 75 a0 1).bind fun x1 => if x1 ≤ i3 then (some (i2, m)) else ((mm_gr e.1 m 12 75 a0 53).bind fun c2 => (mm_ai e.1 m 20 c2 i3).bind fun x3 => if x3 = (-1 : Int32) then (X12_rank_b93 e (X12_rank_L35 e a0 i1 n) a0 i1 i3 i2 m) else ((mm_gr e.1 m 12 75 a0 53).bind fun c4 => (mm_ai e.1 m 20 c4 i3).bind fun x5 => (mm_gr e.1 m 12 75 a0 53).bind fun c6 => (mm_ai e.1 m 20 c6 i1).bind fun x7 => if x5 < x7 then (X12_rank_b89 e (X12_rank_L35 e a0 i1 n) a0 i1 i3 i2 m) else ((mm_gr e.1 m 12 75 a0 53).bind fun c8 => (mm_ai e.1 m 20 c8 i3).bind fun x9 => (mm_gr e.1 m 12 75 a0 53).bind fun c10 => (mm_ai e.1 m 20 c10 i1).bind fun x11 => if ¬ x9 = x11 then (X12_rank_b93 e (X12_rank_L35 e a0 i1 n) a0 i1 i3 i2 m) else (if i1 ≤ i3 then (X12_rank_b93 e (X12_rank_L35 e a0 i1 n) a0 i1 i3 i2 m) else (X12_rank_b89 e (X12_rank_L35 e a0 i1 n) a0 i1 i3 i2 m)))))
theorem X12_rank_L35_ok {K : mm_K} {nx : Option Nat} {e : mm_E} (hz : e.2.1 = K.2.2.2.2) {d : Nat} (hd : 8 ≤ d) {a0 : Nat} {i1 : Int32} (h0 : e.1 a0 = some (12, 75)) : ∀ (n : Nat) (i2 : Int32) (i3 : Int32) (m : mm_V) (r : (Int32 × mm_V)), X12_rank_L35 e a0 i1 n i2 i3 m = some r → mm_G K MX12_rank d (mm_Fi e.1 nx r) 35 [some (.ref a0), some (.int i1), some (.int i2), some (.int i3)] [] (e.1, m) nx 0 0 := by
  obtain ⟨d, rfl⟩ : ∃ d', d = d' + 1 := ⟨d - 1, by omega⟩
  intro n
  induction n with
  | zero => intro i2 i3 m r hr; unfold X12_rank_L35 at hr; cases hr
  | succ n ih =>
    intro i2 i3 m r hr
    unfold X12_rank_L35 at hr
    refine ml_iload_n (pc := 35) dX12_rank_35 rfl (mm_get_s (mm_get_s (mm_get_s mm_get_0))) ?_
    refine ml_aload_n (pc := 36) dX12_rank_36 rfl mm_get_0 ?_
    refine mb_gi (pc := 37) dX12_rank_37 fl_X12_7 hr (fun x1 hr => ?_)
    refine mb_icmp_ge (pc := 40) 102 dX12_rank_40 rfl hr (fun hr => ?_) (fun hr => ?_)
    · refine ml_iload_n (pc := 102) dX12_rank_102 rfl (mm_get_s (mm_get_s mm_get_0)) ?_
      exact mb_iret dX12_rank_103 rfl hr
    · refine ml_iload_n (pc := 43) dX12_rank_43 rfl (mm_get_s (mm_get_s mm_get_0)) ?_
      refine ml_aload_n (pc := 44) dX12_rank_44 rfl mm_get_0 ?_
      refine mb_gr (pc := 45) dX12_rank_45 fl_X12_87 hr (fun c2 hr => ?_)
      refine ml_iload_n (pc := 48) dX12_rank_48 rfl (mm_get_s (mm_get_s (mm_get_s mm_get_0))) ?_
      refine mb_ai (pc := 49) dX12_rank_49 hr (fun x3 hr => ?_)
      refine mg_iconst (pc := 50) dX12_rank_50 kc_m1 ?_
      refine mb_icmp_eq (pc := 51) 93 dX12_rank_51 rfl hr (fun hr => ?_) (fun hr => ?_)
      · exact mg_weak (mm_le_s (mm_le_s (mm_le_n (mm_le_s mm_le_0)))) (X12_rank_b93_ok hz hd h0 ih hr)
      · refine ml_aload_n (pc := 54) dX12_rank_54 rfl mm_get_0 ?_
        refine mb_gr (pc := 55) dX12_rank_55 fl_X12_87 hr (fun c4 hr => ?_)
        refine ml_iload_n (pc := 58) dX12_rank_58 rfl (mm_get_s (mm_get_s (mm_get_s mm_get_0))) ?_
        refine mb_ai (pc := 59) dX12_rank_59 hr (fun x5 hr => ?_)
        refine ml_aload_n (pc := 60) dX12_rank_60 rfl mm_get_0 ?_
        refine mb_gr (pc := 61) dX12_rank_61 fl_X12_87 hr (fun c6 hr => ?_)
        refine ml_iload_n (pc := 64) dX12_rank_64 rfl (mm_get_s mm_get_0) ?_
        refine mb_ai (pc := 65) dX12_rank_65 hr (fun x7 hr => ?_)
        refine mb_icmp_lt (pc := 66) 89 dX12_rank_66 rfl hr (fun hr => ?_) (fun hr => ?_)
        · exact mg_weak (mm_le_s (mm_le_s (mm_le_n (mm_le_s mm_le_0)))) (X12_rank_b89_ok hz hd h0 ih hr)
        · refine ml_aload_n (pc := 69) dX12_rank_69 rfl mm_get_0 ?_
          refine mb_gr (pc := 70) dX12_rank_70 fl_X12_87 hr (fun c8 hr => ?_)
          refine ml_iload_n (pc := 73) dX12_rank_73 rfl (mm_get_s (mm_get_s (mm_get_s mm_get_0))) ?_
          refine mb_ai (pc := 74) dX12_rank_74 hr (fun x9 hr => ?_)
          refine ml_aload_n (pc := 75) dX12_rank_75 rfl mm_get_0 ?_
          refine mb_gr (pc := 76) dX12_rank_76 fl_X12_87 hr (fun c10 hr => ?_)
          refine ml_iload_n (pc := 79) dX12_rank_79 rfl (mm_get_s mm_get_0) ?_
          refine mb_ai (pc := 80) dX12_rank_80 hr (fun x11 hr => ?_)
          refine mb_icmp_ne (pc := 81) 93 dX12_rank_81 rfl hr (fun hr => ?_) (fun hr => ?_)
          · exact mg_weak (mm_le_s (mm_le_s (mm_le_n (mm_le_s mm_le_0)))) (X12_rank_b93_ok hz hd h0 ih hr)
          · refine ml_iload_n (pc := 84) dX12_rank_84 rfl (mm_get_s (mm_get_s (mm_get_s mm_get_0))) ?_
            refine ml_iload_n (pc := 85) dX12_rank_85 rfl (mm_get_s mm_get_0) ?_
            refine mb_icmp_ge (pc := 86) 93 dX12_rank_86 rfl hr (fun hr => ?_) (fun hr => ?_)
            · exact mg_weak (mm_le_s (mm_le_s (mm_le_n (mm_le_s mm_le_0)))) (X12_rank_b93_ok hz hd h0 ih hr)
            · exact mg_weak (mm_le_s (mm_le_s (mm_le_n (mm_le_s mm_le_0)))) (X12_rank_b89_ok hz hd h0 ih hr)
def X12_rank (e : mm_E) (a0 : Nat) (i1 : Int32) (m : mm_V) : Option (Int32 × mm_V) := (mm_pf e.1 m 12 75 a0 0 (.int (0 : Int32))).bind fun m1 => (X12_isPerson e a0 i1 m1).bind fun r2 => if ¬ r2.1 = 0 then ((X12_playsOn e a0 r2.2).bind fun r3 => (mm_gr e.1 r3 12 75 a0 53).bind fun c4 => (mm_ai e.1 r3 20 c4 i1).bind fun x5 => if ¬ x5 = (-1 : Int32) then (X12_rank_L35 e a0 i1 e.2.2 (0 : Int32) (0 : Int32) r3) else (some ((-1 : Int32), r3))) else (some ((0 : Int32), r2.2))
theorem X12_rank_ok {K : mm_K} {nx : Option Nat} {e : mm_E} (hz : e.2.1 = K.2.2.2.2) {d : Nat} (hd : 8 ≤ d) {a0 : Nat} {i1 : Int32} (h0 : e.1 a0 = some (12, 75)) {m : mm_V} {r : (Int32 × mm_V)} (hr : X12_rank e a0 i1 m = some r) : mm_Cn K MX12_rank d (mm_Fi e.1 nx r) [.ref a0, .int i1] (e.1, m) nx := by
  obtain ⟨d, rfl⟩ : ∃ d', d = d' + 1 := ⟨d - 1, by omega⟩
  refine mm_entry (by decide) (Nat.le_of_ble_eq_true rfl) rfl (fun hok => ?_)
  unfold X12_rank at hr
  refine mg_weak (L' := [some (.ref a0), some (.int i1), none, none]) (mm_le_s (mm_le_s (mm_le_e (mm_le_e mm_le_0)))) ?_
  refine ml_aload_n (pc := 0) dX12_rank_0 rfl mm_get_0 ?_
  refine mg_iconst (pc := 1) dX12_rank_1 kc_0 ?_
  refine mb_pi (pc := 2) dX12_rank_2 fp_X12_152 hr (fun m1 hr => ?_)
  refine ml_aload_n (pc := 5) dX12_rank_5 rfl mm_get_0 ?_
  refine ml_iload_n (pc := 6) dX12_rank_6 rfl (mm_get_s mm_get_0) ?_
  refine mb_cVi (pc := 7) (As := [.int i1]) (rest := []) dX12_rank_7 cw_X12_376 h0 hr (fun v hv => X12_isPerson_ok hz (by omega) h0 hv) rfl (Nat.le_of_ble_eq_true rfl) (Nat.zero_le _) (Nat.zero_le _) (fun r2 hr => ?_)
  refine mb_if_ne (pc := 10) 15 dX12_rank_10 rfl hr (fun hr => ?_) (fun hr => ?_)
  · refine ml_aload_n (pc := 15) dX12_rank_15 rfl mm_get_0 ?_
    refine mb_cVv (pc := 16) (As := []) (rest := []) dX12_rank_16 cw_X12_431 h0 hr (fun v hv => X12_playsOn_ok hz (by omega) h0 hv) rfl (Nat.le_of_ble_eq_true rfl) (Nat.zero_le _) (Nat.zero_le _) (fun r3 hr => ?_)
    refine ml_aload_n (pc := 19) dX12_rank_19 rfl mm_get_0 ?_
    refine mb_gr (pc := 20) dX12_rank_20 fl_X12_87 hr (fun c4 hr => ?_)
    refine ml_iload_n (pc := 23) dX12_rank_23 rfl (mm_get_s mm_get_0) ?_
    refine mb_ai (pc := 24) dX12_rank_24 hr (fun x5 hr => ?_)
    refine mg_iconst (pc := 25) dX12_rank_25 kc_m1 ?_
    refine mb_icmp_ne (pc := 26) 31 dX12_rank_26 rfl hr (fun hr => ?_) (fun hr => ?_)
    · refine mg_iconst (pc := 31) dX12_rank_31 kc_0 ?_
      refine ml_istore_n (pc := 32) dX12_rank_32 rfl (Nat.le_of_ble_eq_true rfl) (mm_st1_s mm_st1_i) ?_
      refine mg_iconst (pc := 33) dX12_rank_33 kc_0 ?_
      refine ml_istore_n (pc := 34) dX12_rank_34 rfl (Nat.le_of_ble_eq_true rfl) (mm_st1_s (mm_st1_s mm_st1_i)) ?_
      exact mg_weak (mm_le_s (mm_le_s (mm_le_s (mm_le_s mm_le_0)))) (X12_rank_L35_ok hz hd h0 _ _ _ _ _ hr)
    · refine mg_iconst (pc := 29) dX12_rank_29 kc_m1 ?_
      exact mb_iret dX12_rank_30 rfl hr
  · refine mg_iconst (pc := 13) dX12_rank_13 kc_0 ?_
    exact mb_iret dX12_rank_14 rfl hr
theorem dX12_common_0 : decode cX12_common 0 = .ok (.lload_n 0, 1) := by decide +kernel
theorem dX12_common_1 : decode cX12_common 1 = .ok (.lstore 4, 2) := by decide +kernel
theorem dX12_common_3 : decode cX12_common 3 = .ok (.lload_n 2, 1) := by decide +kernel
theorem dX12_common_4 : decode cX12_common 4 = .ok (.lstore 6, 2) := by decide +kernel
theorem dX12_common_6 : decode cX12_common 6 = .ok (.lload 6, 2) := by decide +kernel
theorem dX12_common_8 : decode cX12_common 8 = .ok (.lconst 0, 1) := by decide +kernel
theorem dX12_common_9 : decode cX12_common 9 = .ok (.lcmp, 1) := by decide +kernel
theorem dX12_common_10 : decode cX12_common 10 = .ok (.ifCond .eq 21, 3) := by decide +kernel
theorem dX12_common_13 : decode cX12_common 13 = .ok (.lload 4, 2) := by decide +kernel
theorem dX12_common_15 : decode cX12_common 15 = .ok (.lload 6, 2) := by decide +kernel
theorem dX12_common_17 : decode cX12_common 17 = .ok (.lrem, 1) := by decide +kernel
theorem dX12_common_18 : decode cX12_common 18 = .ok (.lstore 8, 2) := by decide +kernel
theorem dX12_common_20 : decode cX12_common 20 = .ok (.lload 6, 2) := by decide +kernel
theorem dX12_common_22 : decode cX12_common 22 = .ok (.lstore 4, 2) := by decide +kernel
theorem dX12_common_24 : decode cX12_common 24 = .ok (.lload 8, 2) := by decide +kernel
theorem dX12_common_26 : decode cX12_common 26 = .ok (.lstore 6, 2) := by decide +kernel
theorem dX12_common_28 : decode cX12_common 28 = .ok (.goto (-22), 3) := by decide +kernel
theorem dX12_common_31 : decode cX12_common 31 = .ok (.lload 4, 2) := by decide +kernel
theorem dX12_common_33 : decode cX12_common 33 = .ok (.lreturn, 1) := by decide +kernel
def X12_common_L6 (e : mm_E) : Nat → Int64 → Int64 → mm_V → Option (Int64 × mm_V)
  | 0, _, _, _ => none
  | n + 1, j4, j6, m => if (lg_cmp j6 (0 : Int64)) = 0 then (some (j4, m)) else (if j6 = 0 then none else X12_common_L6 e n j6 (j4 - j4 / j6 * j6) m)
theorem X12_common_L6_ok {K : mm_K} {nx : Option Nat} {e : mm_E} (hz : e.2.1 = K.2.2.2.2) {d : Nat} (hd : 0 ≤ d) : ∀ (n : Nat) (j4 : Int64) (j6 : Int64) (m : mm_V) (r : (Int64 × mm_V)), X12_common_L6 e n j4 j6 m = some r → mm_G K MX12_common d (mm_Fl e.1 nx r) 6 [none, none, none, none, some (.long j4), none, some (.long j6), none, none, none] [] (e.1, m) nx 0 0 := by
  intro n
  induction n with
  | zero => intro j4 j6 m r hr; unfold X12_common_L6 at hr; cases hr
  | succ n ih =>
    intro j4 j6 m r hr
    unfold X12_common_L6 at hr
    refine ml_lload (pc := 6) dX12_common_6 (mm_get_s (mm_get_s (mm_get_s (mm_get_s (mm_get_s (mm_get_s mm_get_0)))))) ?_
    refine mg_lconst (pc := 8) dX12_common_8 (v := (0 : Int64)) (by decide) ?_
    refine mg_lcmp (pc := 9) dX12_common_9 ?_
    refine mb_if_eq (pc := 10) 31 dX12_common_10 rfl hr (fun hr => ?_) (fun hr => ?_)
    · refine ml_lload (pc := 31) dX12_common_31 (mm_get_s (mm_get_s (mm_get_s (mm_get_s mm_get_0)))) ?_
      exact mb_lret dX12_common_33 rfl hr
    · refine ml_lload (pc := 13) dX12_common_13 (mm_get_s (mm_get_s (mm_get_s (mm_get_s mm_get_0)))) ?_
      refine ml_lload (pc := 15) dX12_common_15 (mm_get_s (mm_get_s (mm_get_s (mm_get_s (mm_get_s (mm_get_s mm_get_0)))))) ?_
      refine mb_lrem (pc := 17) dX12_common_17 hr (fun hr => ?_)
      refine ml_lstore (pc := 18) dX12_common_18 (Nat.le_of_ble_eq_true rfl) (mm_st2_s (mm_st2_s (mm_st2_s (mm_st2_s (mm_st2_s (mm_st2_s (mm_st2_s mm_st2_n))))))) ?_
      refine ml_lload (pc := 20) dX12_common_20 (mm_get_s (mm_get_s (mm_get_s (mm_get_s (mm_get_s (mm_get_s mm_get_0)))))) ?_
      refine ml_lstore (pc := 22) dX12_common_22 (Nat.le_of_ble_eq_true rfl) (mm_st2_s (mm_st2_s (mm_st2_s mm_st2_n))) ?_
      refine ml_lload (pc := 24) dX12_common_24 (mm_get_s (mm_get_s (mm_get_s (mm_get_s (mm_get_s (mm_get_s (mm_get_s (mm_get_s mm_get_0)))))))) ?_
      refine ml_lstore (pc := 26) dX12_common_26 (Nat.le_of_ble_eq_true rfl) (mm_st2_s (mm_st2_s (mm_st2_s (mm_st2_s (mm_st2_s mm_st2_n))))) ?_
      refine mg_goto (pc := 28) 6 dX12_common_28 rfl ?_
      exact mg_weak (mm_le_n (mm_le_n (mm_le_n (mm_le_n (mm_le_s (mm_le_n (mm_le_s (mm_le_n (mm_le_n (mm_le_n mm_le_0)))))))))) (ih _ _ _ _ hr)
def X12_common (e : mm_E) (j0 : Int64) (j2 : Int64) (m : mm_V) : Option (Int64 × mm_V) := X12_common_L6 e  e.2.2 j0 j2 m
theorem X12_common_ok {K : mm_K} {nx : Option Nat} {e : mm_E} (hz : e.2.1 = K.2.2.2.2) {d : Nat} (hd : 0 ≤ d) {j0 : Int64} {j2 : Int64} {m : mm_V} {r : (Int64 × mm_V)} (hr : X12_common e j0 j2 m = some r) : mm_Cn K MX12_common d (mm_Fl e.1 nx r) [.long j0, .long j2] (e.1, m) nx := by
  refine mm_entry (by decide) (Nat.le_of_ble_eq_true rfl) rfl (fun hok => ?_)
  unfold X12_common at hr
  refine mg_weak (L' := [some (.long j0), none, some (.long j2), none, none, none, none, none, none, none]) (mm_le_s (mm_le_n (mm_le_s (mm_le_n (mm_le_e (mm_le_e (mm_le_e (mm_le_e (mm_le_e (mm_le_e mm_le_0)))))))))) ?_
  refine ml_lload_n (pc := 0) dX12_common_0 rfl mm_get_0 ?_
  refine ml_lstore (pc := 1) dX12_common_1 (Nat.le_of_ble_eq_true rfl) (mm_st2_s (mm_st2_s (mm_st2_s mm_st2_n))) ?_
  refine ml_lload_n (pc := 3) dX12_common_3 rfl (mm_get_s (mm_get_s mm_get_0)) ?_
  refine ml_lstore (pc := 4) dX12_common_4 (Nat.le_of_ble_eq_true rfl) (mm_st2_s (mm_st2_s (mm_st2_s (mm_st2_s (mm_st2_s mm_st2_n))))) ?_
  exact mg_weak (mm_le_n (mm_le_n (mm_le_n (mm_le_n (mm_le_s (mm_le_n (mm_le_s (mm_le_n (mm_le_n (mm_le_n mm_le_0)))))))))) (X12_common_L6_ok hz hd _ _ _ _ _ hr)
theorem dX12_portion_0 : decode cX12_portion 0 = .ok (.lload_n 2, 1) := by decide +kernel
theorem dX12_portion_1 : decode cX12_portion 1 = .ok (.lconst 0, 1) := by decide +kernel
theorem dX12_portion_2 : decode cX12_portion 2 = .ok (.lcmp, 1) := by decide +kernel
theorem dX12_portion_3 : decode cX12_portion 3 = .ok (.ifCond .ne 7, 3) := by decide +kernel
theorem dX12_portion_6 : decode cX12_portion 6 = .ok (.iload 4, 2) := by decide +kernel
theorem dX12_portion_8 : decode cX12_portion 8 = .ok (.i2l, 1) := by decide +kernel
theorem dX12_portion_9 : decode cX12_portion 9 = .ok (.lreturn, 1) := by decide +kernel
theorem dX12_portion_10 : decode cX12_portion 10 = .ok (.iload 4, 2) := by decide +kernel
theorem dX12_portion_12 : decode cX12_portion 12 = .ok (.ifCond .ne 7, 3) := by decide +kernel
theorem dX12_portion_15 : decode cX12_portion 15 = .ok (.lload_n 0, 1) := by decide +kernel
theorem dX12_portion_16 : decode cX12_portion 16 = .ok (.goto 4, 3) := by decide +kernel
theorem dX12_portion_19 : decode cX12_portion 19 = .ok (.lload_n 2, 1) := by decide +kernel
theorem dX12_portion_20 : decode cX12_portion 20 = .ok (.lload_n 2, 1) := by decide +kernel
theorem dX12_portion_21 : decode cX12_portion 21 = .ok (.lload_n 0, 1) := by decide +kernel
theorem dX12_portion_22 : decode cX12_portion 22 = .ok (.invokestatic 437, 3) := by decide +kernel
theorem dX12_portion_25 : decode cX12_portion 25 = .ok (.ldiv, 1) := by decide +kernel
theorem dX12_portion_26 : decode cX12_portion 26 = .ok (.lreturn, 1) := by decide +kernel
def X12_portion_b20 (e : mm_E) (j0 : Int64) (j2 : Int64) (t0 : Int64) (m : mm_V) : Option (Int64 × mm_V) := (X12_common e j2 j0 m).bind fun r1 => if r1.1 = 0 then none else some ((t0 / r1.1), r1.2)
theorem X12_portion_b20_ok {K : mm_K} {nx : Option Nat} {e : mm_E} (hz : e.2.1 = K.2.2.2.2) {d : Nat} (hd : 1 ≤ d) {j0 : Int64} {j2 : Int64} {t0 : Int64} {m : mm_V} {r : (Int64 × mm_V)} (hr : X12_portion_b20 e j0 j2 t0 m = some r) : mm_G K MX12_portion d (mm_Fl e.1 nx r) 20 [some (.long j0), none, some (.long j2), none, none] [.long t0] (e.1, m) nx 0 0 := by
  obtain ⟨d, rfl⟩ : ∃ d', d = d' + 1 := ⟨d - 1, by omega⟩
  unfold X12_portion_b20 at hr
  refine ml_lload_n (pc := 20) dX12_portion_20 rfl (mm_get_s (mm_get_s mm_get_0)) ?_
  refine ml_lload_n (pc := 21) dX12_portion_21 rfl mm_get_0 ?_
  refine mb_cSl (pc := 22) (As := [.long j2, .long j0]) (rest := [.long t0]) dX12_portion_22 cw_X12_437  hr (fun v hv => X12_common_ok hz (by omega)  hv) rfl (Nat.le_of_ble_eq_true rfl) (Nat.zero_le _) (Nat.zero_le _) (fun r1 hr => ?_)
  refine mb_ldiv (pc := 25) dX12_portion_25 hr (fun hr => ?_)
  exact mb_lret dX12_portion_26 rfl hr
def X12_portion (e : mm_E) (j0 : Int64) (j2 : Int64) (i4 : Int32) (m : mm_V) : Option (Int64 × mm_V) := if ¬ (lg_cmp j2 (0 : Int64)) = 0 then (if ¬ i4 = 0 then (X12_portion_b20 e j0 j2 j2 m) else (X12_portion_b20 e j0 j2 j0 m)) else (some (i4.toInt64, m))
theorem X12_portion_ok {K : mm_K} {nx : Option Nat} {e : mm_E} (hz : e.2.1 = K.2.2.2.2) {d : Nat} (hd : 1 ≤ d) {j0 : Int64} {j2 : Int64} {i4 : Int32} {m : mm_V} {r : (Int64 × mm_V)} (hr : X12_portion e j0 j2 i4 m = some r) : mm_Cn K MX12_portion d (mm_Fl e.1 nx r) [.long j0, .long j2, .int i4] (e.1, m) nx := by
  obtain ⟨d, rfl⟩ : ∃ d', d = d' + 1 := ⟨d - 1, by omega⟩
  refine mm_entry (by decide) (Nat.le_of_ble_eq_true rfl) rfl (fun hok => ?_)
  unfold X12_portion at hr
  refine mg_weak (L' := [some (.long j0), none, some (.long j2), none, some (.int i4)]) (mm_le_s (mm_le_n (mm_le_s (mm_le_n (mm_le_s mm_le_0))))) ?_
  refine ml_lload_n (pc := 0) dX12_portion_0 rfl (mm_get_s (mm_get_s mm_get_0)) ?_
  refine mg_lconst (pc := 1) dX12_portion_1 (v := (0 : Int64)) (by decide) ?_
  refine mg_lcmp (pc := 2) dX12_portion_2 ?_
  refine mb_if_ne (pc := 3) 10 dX12_portion_3 rfl hr (fun hr => ?_) (fun hr => ?_)
  · refine ml_iload (pc := 10) dX12_portion_10 (mm_get_s (mm_get_s (mm_get_s (mm_get_s mm_get_0)))) ?_
    refine mb_if_ne (pc := 12) 19 dX12_portion_12 rfl hr (fun hr => ?_) (fun hr => ?_)
    · refine ml_lload_n (pc := 19) dX12_portion_19 rfl (mm_get_s (mm_get_s mm_get_0)) ?_
      exact mg_weak (mm_le_s (mm_le_n (mm_le_s (mm_le_n (mm_le_n mm_le_0))))) (X12_portion_b20_ok hz hd hr)
    · refine ml_lload_n (pc := 15) dX12_portion_15 rfl mm_get_0 ?_
      refine mg_goto (pc := 16) 20 dX12_portion_16 rfl ?_
      exact mg_weak (mm_le_s (mm_le_n (mm_le_s (mm_le_n (mm_le_n mm_le_0))))) (X12_portion_b20_ok hz hd hr)
  · refine ml_iload (pc := 6) dX12_portion_6 (mm_get_s (mm_get_s (mm_get_s (mm_get_s mm_get_0)))) ?_
    refine mg_i2l (pc := 8) dX12_portion_8 ?_
    exact mb_lret dX12_portion_9 rfl hr
theorem dX12_blind_0 : decode cX12_blind 0 = .ok (.aload_n 0, 1) := by decide +kernel
theorem dX12_blind_1 : decode cX12_blind 1 = .ok (.iconst 0, 1) := by decide +kernel
theorem dX12_blind_2 : decode cX12_blind 2 = .ok (.putfield 152, 3) := by decide +kernel
theorem dX12_blind_5 : decode cX12_blind 5 = .ok (.aload_n 0, 1) := by decide +kernel
theorem dX12_blind_6 : decode cX12_blind 6 = .ok (.iload_n 1, 1) := by decide +kernel
theorem dX12_blind_7 : decode cX12_blind 7 = .ok (.invokevirtual 376, 3) := by decide +kernel
theorem dX12_blind_10 : decode cX12_blind 10 = .ok (.ifCond .eq 26, 3) := by decide +kernel
theorem dX12_blind_13 : decode cX12_blind 13 = .ok (.aload_n 0, 1) := by decide +kernel
theorem dX12_blind_14 : decode cX12_blind 14 = .ok (.iload_n 3, 1) := by decide +kernel
theorem dX12_blind_15 : decode cX12_blind 15 = .ok (.iconst 5, 1) := by decide +kernel
theorem dX12_blind_16 : decode cX12_blind 16 = .ok (.invokevirtual 393, 3) := by decide +kernel
theorem dX12_blind_19 : decode cX12_blind 19 = .ok (.ifCond .eq 17, 3) := by decide +kernel
theorem dX12_blind_22 : decode cX12_blind 22 = .ok (.aload_n 0, 1) := by decide +kernel
theorem dX12_blind_23 : decode cX12_blind 23 = .ok (.iload_n 2, 1) := by decide +kernel
theorem dX12_blind_24 : decode cX12_blind 24 = .ok (.iconst 0, 1) := by decide +kernel
theorem dX12_blind_25 : decode cX12_blind 25 = .ok (.iconst 4, 1) := by decide +kernel
theorem dX12_blind_26 : decode cX12_blind 26 = .ok (.invokestatic 368, 3) := by decide +kernel
theorem dX12_blind_29 : decode cX12_blind 29 = .ok (.iconst 2, 1) := by decide +kernel
theorem dX12_blind_30 : decode cX12_blind 30 = .ok (.invokevirtual 306, 3) := by decide +kernel
theorem dX12_blind_33 : decode cX12_blind 33 = .ok (.ifCond .ne 5, 3) := by decide +kernel
theorem dX12_blind_36 : decode cX12_blind 36 = .ok (.lconst 0, 1) := by decide +kernel
theorem dX12_blind_37 : decode cX12_blind 37 = .ok (.lreturn, 1) := by decide +kernel
theorem dX12_blind_38 : decode cX12_blind 38 = .ok (.lconst 1, 1) := by decide +kernel
theorem dX12_blind_39 : decode cX12_blind 39 = .ok (.lstore 4, 2) := by decide +kernel
theorem dX12_blind_41 : decode cX12_blind 41 = .ok (.iconst 0, 1) := by decide +kernel
theorem dX12_blind_42 : decode cX12_blind 42 = .ok (.istore 6, 2) := by decide +kernel
theorem dX12_blind_44 : decode cX12_blind 44 = .ok (.iload 6, 2) := by decide +kernel
theorem dX12_blind_46 : decode cX12_blind 46 = .ok (.iload_n 2, 1) := by decide +kernel
theorem dX12_blind_47 : decode cX12_blind 47 = .ok (.if_icmp .ge 17, 3) := by decide +kernel
theorem dX12_blind_50 : decode cX12_blind 50 = .ok (.lload 4, 2) := by decide +kernel
theorem dX12_blind_52 : decode cX12_blind 52 = .ok (.ldc2_w 441, 3) := by decide +kernel
theorem dX12_blind_55 : decode cX12_blind 55 = .ok (.lmul, 1) := by decide +kernel
theorem dX12_blind_56 : decode cX12_blind 56 = .ok (.lstore 4, 2) := by decide +kernel
theorem dX12_blind_58 : decode cX12_blind 58 = .ok (.iinc 6 1, 3) := by decide +kernel
theorem dX12_blind_61 : decode cX12_blind 61 = .ok (.goto (-17), 3) := by decide +kernel
theorem dX12_blind_64 : decode cX12_blind 64 = .ok (.lconst 0, 1) := by decide +kernel
theorem dX12_blind_65 : decode cX12_blind 65 = .ok (.lstore 6, 2) := by decide +kernel
theorem dX12_blind_67 : decode cX12_blind 67 = .ok (.iconst 0, 1) := by decide +kernel
theorem dX12_blind_68 : decode cX12_blind 68 = .ok (.istore 8, 2) := by decide +kernel
theorem dX12_blind_70 : decode cX12_blind 70 = .ok (.iconst 0, 1) := by decide +kernel
theorem dX12_blind_71 : decode cX12_blind 71 = .ok (.istore 9, 2) := by decide +kernel
theorem dX12_blind_73 : decode cX12_blind 73 = .ok (.iload 9, 2) := by decide +kernel
theorem dX12_blind_75 : decode cX12_blind 75 = .ok (.sipush 128, 3) := by decide +kernel
theorem dX12_blind_78 : decode cX12_blind 78 = .ok (.if_icmp .ge 23, 3) := by decide +kernel
theorem dX12_blind_81 : decode cX12_blind 81 = .ok (.aload_n 0, 1) := by decide +kernel
theorem dX12_blind_82 : decode cX12_blind 82 = .ok (.getfield 90, 3) := by decide +kernel
theorem dX12_blind_85 : decode cX12_blind 85 = .ok (.iload 9, 2) := by decide +kernel
theorem dX12_blind_87 : decode cX12_blind 87 = .ok (.aload_n 0, 1) := by decide +kernel
theorem dX12_blind_88 : decode cX12_blind 88 = .ok (.getfield 60, 3) := by decide +kernel
theorem dX12_blind_91 : decode cX12_blind 91 = .ok (.iload 9, 2) := by decide +kernel
theorem dX12_blind_93 : decode cX12_blind 93 = .ok (.iaload, 1) := by decide +kernel
theorem dX12_blind_94 : decode cX12_blind 94 = .ok (.iastore, 1) := by decide +kernel
theorem dX12_blind_95 : decode cX12_blind 95 = .ok (.iinc 9 1, 3) := by decide +kernel
theorem dX12_blind_98 : decode cX12_blind 98 = .ok (.goto (-25), 3) := by decide +kernel
theorem dX12_blind_101 : decode cX12_blind 101 = .ok (.aload_n 0, 1) := by decide +kernel
theorem dX12_blind_102 : decode cX12_blind 102 = .ok (.getfield 93, 3) := by decide +kernel
theorem dX12_blind_105 : decode cX12_blind 105 = .ok (.iconst 0, 1) := by decide +kernel
theorem dX12_blind_106 : decode cX12_blind 106 = .ok (.iconst 0, 1) := by decide +kernel
theorem dX12_blind_107 : decode cX12_blind 107 = .ok (.iastore, 1) := by decide +kernel
theorem dX12_blind_108 : decode cX12_blind 108 = .ok (.aload_n 0, 1) := by decide +kernel
theorem dX12_blind_109 : decode cX12_blind 109 = .ok (.getfield 99, 3) := by decide +kernel
theorem dX12_blind_112 : decode cX12_blind 112 = .ok (.iconst 0, 1) := by decide +kernel
theorem dX12_blind_113 : decode cX12_blind 113 = .ok (.lload 4, 2) := by decide +kernel
theorem dX12_blind_115 : decode cX12_blind 115 = .ok (.lastore, 1) := by decide +kernel
theorem dX12_blind_116 : decode cX12_blind 116 = .ok (.iload 8, 2) := by decide +kernel
theorem dX12_blind_118 : decode cX12_blind 118 = .ok (.ifCond .lt 313, 3) := by decide +kernel
theorem dX12_blind_121 : decode cX12_blind 121 = .ok (.iconst 0, 1) := by decide +kernel
theorem dX12_blind_122 : decode cX12_blind 122 = .ok (.istore 9, 2) := by decide +kernel
theorem dX12_blind_124 : decode cX12_blind 124 = .ok (.iload 9, 2) := by decide +kernel
theorem dX12_blind_126 : decode cX12_blind 126 = .ok (.sipush 128, 3) := by decide +kernel
theorem dX12_blind_129 : decode cX12_blind 129 = .ok (.if_icmp .ge 30, 3) := by decide +kernel
theorem dX12_blind_132 : decode cX12_blind 132 = .ok (.aload_n 0, 1) := by decide +kernel
theorem dX12_blind_133 : decode cX12_blind 133 = .ok (.getfield 96, 3) := by decide +kernel
theorem dX12_blind_136 : decode cX12_blind 136 = .ok (.iload 9, 2) := by decide +kernel
theorem dX12_blind_138 : decode cX12_blind 138 = .ok (.aload_n 0, 1) := by decide +kernel
theorem dX12_blind_139 : decode cX12_blind 139 = .ok (.getfield 90, 3) := by decide +kernel
theorem dX12_blind_142 : decode cX12_blind 142 = .ok (.sipush 128, 3) := by decide +kernel
theorem dX12_blind_145 : decode cX12_blind 145 = .ok (.iload 8, 2) := by decide +kernel
theorem dX12_blind_147 : decode cX12_blind 147 = .ok (.imul, 1) := by decide +kernel
theorem dX12_blind_148 : decode cX12_blind 148 = .ok (.iload 9, 2) := by decide +kernel
theorem dX12_blind_150 : decode cX12_blind 150 = .ok (.iadd, 1) := by decide +kernel
theorem dX12_blind_151 : decode cX12_blind 151 = .ok (.iaload, 1) := by decide +kernel
theorem dX12_blind_152 : decode cX12_blind 152 = .ok (.iastore, 1) := by decide +kernel
theorem dX12_blind_153 : decode cX12_blind 153 = .ok (.iinc 9 1, 3) := by decide +kernel
theorem dX12_blind_156 : decode cX12_blind 156 = .ok (.goto (-32), 3) := by decide +kernel
theorem dX12_blind_159 : decode cX12_blind 159 = .ok (.iload 8, 2) := by decide +kernel
theorem dX12_blind_161 : decode cX12_blind 161 = .ok (.iload_n 2, 1) := by decide +kernel
theorem dX12_blind_162 : decode cX12_blind 162 = .ok (.if_icmp .eq 14, 3) := by decide +kernel
theorem dX12_blind_165 : decode cX12_blind 165 = .ok (.aload_n 0, 1) := by decide +kernel
theorem dX12_blind_166 : decode cX12_blind 166 = .ok (.aload_n 0, 1) := by decide +kernel
theorem dX12_blind_167 : decode cX12_blind 167 = .ok (.getfield 96, 3) := by decide +kernel
theorem dX12_blind_170 : decode cX12_blind 170 = .ok (.invokevirtual 338, 3) := by decide +kernel
theorem dX12_blind_173 : decode cX12_blind 173 = .ok (.ifCond .eq 99, 3) := by decide +kernel
theorem dX12_blind_176 : decode cX12_blind 176 = .ok (.iload_n 3, 1) := by decide +kernel
theorem dX12_blind_177 : decode cX12_blind 177 = .ok (.iconst 2, 1) := by decide +kernel
theorem dX12_blind_178 : decode cX12_blind 178 = .ok (.if_icmp .ge 24, 3) := by decide +kernel
theorem dX12_blind_181 : decode cX12_blind 181 = .ok (.aload_n 0, 1) := by decide +kernel
theorem dX12_blind_182 : decode cX12_blind 182 = .ok (.getfield 96, 3) := by decide +kernel
theorem dX12_blind_185 : decode cX12_blind 185 = .ok (.iload_n 1, 1) := by decide +kernel
theorem dX12_blind_186 : decode cX12_blind 186 = .ok (.iconst 0, 1) := by decide +kernel
theorem dX12_blind_187 : decode cX12_blind 187 = .ok (.invokestatic 335, 3) := by decide +kernel
theorem dX12_blind_190 : decode cX12_blind 190 = .ok (.iconst (-1), 1) := by decide +kernel
theorem dX12_blind_191 : decode cX12_blind 191 = .ok (.if_icmp .eq 7, 3) := by decide +kernel
theorem dX12_blind_194 : decode cX12_blind 194 = .ok (.iconst 1, 1) := by decide +kernel
theorem dX12_blind_195 : decode cX12_blind 195 = .ok (.goto 48, 3) := by decide +kernel
theorem dX12_blind_198 : decode cX12_blind 198 = .ok (.iconst 0, 1) := by decide +kernel
theorem dX12_blind_199 : decode cX12_blind 199 = .ok (.goto 44, 3) := by decide +kernel
theorem dX12_blind_202 : decode cX12_blind 202 = .ok (.iload_n 3, 1) := by decide +kernel
theorem dX12_blind_203 : decode cX12_blind 203 = .ok (.iconst 4, 1) := by decide +kernel
theorem dX12_blind_204 : decode cX12_blind 204 = .ok (.if_icmp .ge 22, 3) := by decide +kernel
theorem dX12_blind_207 : decode cX12_blind 207 = .ok (.aload_n 0, 1) := by decide +kernel
theorem dX12_blind_208 : decode cX12_blind 208 = .ok (.getfield 96, 3) := by decide +kernel
theorem dX12_blind_211 : decode cX12_blind 211 = .ok (.iload_n 1, 1) := by decide +kernel
theorem dX12_blind_212 : decode cX12_blind 212 = .ok (.invokestatic 327, 3) := by decide +kernel
theorem dX12_blind_215 : decode cX12_blind 215 = .ok (.ifCond .ne 7, 3) := by decide +kernel
theorem dX12_blind_218 : decode cX12_blind 218 = .ok (.iconst 1, 1) := by decide +kernel
theorem dX12_blind_219 : decode cX12_blind 219 = .ok (.goto 24, 3) := by decide +kernel
theorem dX12_blind_222 : decode cX12_blind 222 = .ok (.iconst 0, 1) := by decide +kernel
theorem dX12_blind_223 : decode cX12_blind 223 = .ok (.goto 20, 3) := by decide +kernel
theorem dX12_blind_226 : decode cX12_blind 226 = .ok (.aload_n 0, 1) := by decide +kernel
theorem dX12_blind_227 : decode cX12_blind 227 = .ok (.aload_n 0, 1) := by decide +kernel
theorem dX12_blind_228 : decode cX12_blind 228 = .ok (.getfield 96, 3) := by decide +kernel
theorem dX12_blind_231 : decode cX12_blind 231 = .ok (.invokevirtual 434, 3) := by decide +kernel
theorem dX12_blind_234 : decode cX12_blind 234 = .ok (.iload_n 1, 1) := by decide +kernel
theorem dX12_blind_235 : decode cX12_blind 235 = .ok (.if_icmp .ne 7, 3) := by decide +kernel
theorem dX12_blind_238 : decode cX12_blind 238 = .ok (.iconst 1, 1) := by decide +kernel
theorem dX12_blind_239 : decode cX12_blind 239 = .ok (.goto 4, 3) := by decide +kernel
theorem dX12_blind_242 : decode cX12_blind 242 = .ok (.iconst 0, 1) := by decide +kernel
theorem dX12_blind_243 : decode cX12_blind 243 = .ok (.istore 9, 2) := by decide +kernel
theorem dX12_blind_245 : decode cX12_blind 245 = .ok (.lload 6, 2) := by decide +kernel
theorem dX12_blind_247 : decode cX12_blind 247 = .ok (.iload 9, 2) := by decide +kernel
theorem dX12_blind_249 : decode cX12_blind 249 = .ok (.ifCond .eq 13, 3) := by decide +kernel
theorem dX12_blind_252 : decode cX12_blind 252 = .ok (.aload_n 0, 1) := by decide +kernel
theorem dX12_blind_253 : decode cX12_blind 253 = .ok (.getfield 99, 3) := by decide +kernel
theorem dX12_blind_256 : decode cX12_blind 256 = .ok (.iload 8, 2) := by decide +kernel
theorem dX12_blind_258 : decode cX12_blind 258 = .ok (.laload, 1) := by decide +kernel
theorem dX12_blind_259 : decode cX12_blind 259 = .ok (.goto 4, 3) := by decide +kernel
theorem dX12_blind_262 : decode cX12_blind 262 = .ok (.lconst 0, 1) := by decide +kernel
theorem dX12_blind_263 : decode cX12_blind 263 = .ok (.ladd, 1) := by decide +kernel
theorem dX12_blind_264 : decode cX12_blind 264 = .ok (.lstore 6, 2) := by decide +kernel
theorem dX12_blind_266 : decode cX12_blind 266 = .ok (.iinc 8 (-1), 3) := by decide +kernel
theorem dX12_blind_269 : decode cX12_blind 269 = .ok (.goto (-153), 3) := by decide +kernel
theorem dX12_blind_272 : decode cX12_blind 272 = .ok (.aload_n 0, 1) := by decide +kernel
theorem dX12_blind_273 : decode cX12_blind 273 = .ok (.aload_n 0, 1) := by decide +kernel
theorem dX12_blind_274 : decode cX12_blind 274 = .ok (.getfield 96, 3) := by decide +kernel
theorem dX12_blind_277 : decode cX12_blind 277 = .ok (.aload_n 0, 1) := by decide +kernel
theorem dX12_blind_278 : decode cX12_blind 278 = .ok (.getfield 96, 3) := by decide +kernel
theorem dX12_blind_281 : decode cX12_blind 281 = .ok (.iconst 0, 1) := by decide +kernel
theorem dX12_blind_282 : decode cX12_blind 282 = .ok (.iaload, 1) := by decide +kernel
theorem dX12_blind_283 : decode cX12_blind 283 = .ok (.invokevirtual 342, 3) := by decide +kernel
theorem dX12_blind_286 : decode cX12_blind 286 = .ok (.istore 9, 2) := by decide +kernel
theorem dX12_blind_288 : decode cX12_blind 288 = .ok (.aload_n 0, 1) := by decide +kernel
theorem dX12_blind_289 : decode cX12_blind 289 = .ok (.getfield 96, 3) := by decide +kernel
theorem dX12_blind_292 : decode cX12_blind 292 = .ok (.iload 9, 2) := by decide +kernel
theorem dX12_blind_294 : decode cX12_blind 294 = .ok (.invokestatic 327, 3) := by decide +kernel
theorem dX12_blind_297 : decode cX12_blind 297 = .ok (.istore 10, 2) := by decide +kernel
theorem dX12_blind_299 : decode cX12_blind 299 = .ok (.iload 10, 2) := by decide +kernel
theorem dX12_blind_301 : decode cX12_blind 301 = .ok (.bipush 9, 2) := by decide +kernel
theorem dX12_blind_303 : decode cX12_blind 303 = .ok (.if_icmp .le 7, 3) := by decide +kernel
theorem dX12_blind_306 : decode cX12_blind 306 = .ok (.ldc2_w 443, 3) := by decide +kernel
theorem dX12_blind_309 : decode cX12_blind 309 = .ok (.lreturn, 1) := by decide +kernel
theorem dX12_blind_310 : decode cX12_blind 310 = .ok (.aload_n 0, 1) := by decide +kernel
theorem dX12_blind_311 : decode cX12_blind 311 = .ok (.getfield 93, 3) := by decide +kernel
theorem dX12_blind_314 : decode cX12_blind 314 = .ok (.iload 8, 2) := by decide +kernel
theorem dX12_blind_316 : decode cX12_blind 316 = .ok (.iaload, 1) := by decide +kernel
theorem dX12_blind_317 : decode cX12_blind 317 = .ok (.iload 10, 2) := by decide +kernel
theorem dX12_blind_319 : decode cX12_blind 319 = .ok (.if_icmp .ne 9, 3) := by decide +kernel
theorem dX12_blind_322 : decode cX12_blind 322 = .ok (.iinc 8 (-1), 3) := by decide +kernel
theorem dX12_blind_325 : decode cX12_blind 325 = .ok (.goto (-209), 3) := by decide +kernel
theorem dX12_blind_328 : decode cX12_blind 328 = .ok (.aload_n 0, 1) := by decide +kernel
theorem dX12_blind_329 : decode cX12_blind 329 = .ok (.aload_n 0, 1) := by decide +kernel
theorem dX12_blind_330 : decode cX12_blind 330 = .ok (.getfield 96, 3) := by decide +kernel
theorem dX12_blind_333 : decode cX12_blind 333 = .ok (.iload 9, 2) := by decide +kernel
theorem dX12_blind_335 : decode cX12_blind 335 = .ok (.aload_n 0, 1) := by decide +kernel
theorem dX12_blind_336 : decode cX12_blind 336 = .ok (.getfield 93, 3) := by decide +kernel
theorem dX12_blind_339 : decode cX12_blind 339 = .ok (.iload 8, 2) := by decide +kernel
theorem dX12_blind_341 : decode cX12_blind 341 = .ok (.iaload, 1) := by decide +kernel
theorem dX12_blind_342 : decode cX12_blind 342 = .ok (.iconst 0, 1) := by decide +kernel
theorem dX12_blind_343 : decode cX12_blind 343 = .ok (.invokevirtual 412, 3) := by decide +kernel
theorem dX12_blind_346 : decode cX12_blind 346 = .ok (.aload_n 0, 1) := by decide +kernel
theorem dX12_blind_347 : decode cX12_blind 347 = .ok (.getfield 93, 3) := by decide +kernel
theorem dX12_blind_350 : decode cX12_blind 350 = .ok (.iload 8, 2) := by decide +kernel
theorem dX12_blind_352 : decode cX12_blind 352 = .ok (.dup2, 1) := by decide +kernel
theorem dX12_blind_353 : decode cX12_blind 353 = .ok (.iaload, 1) := by decide +kernel
theorem dX12_blind_354 : decode cX12_blind 354 = .ok (.iconst 1, 1) := by decide +kernel
theorem dX12_blind_355 : decode cX12_blind 355 = .ok (.iadd, 1) := by decide +kernel
theorem dX12_blind_356 : decode cX12_blind 356 = .ok (.iastore, 1) := by decide +kernel
theorem dX12_blind_357 : decode cX12_blind 357 = .ok (.iconst 0, 1) := by decide +kernel
theorem dX12_blind_358 : decode cX12_blind 358 = .ok (.istore 11, 2) := by decide +kernel
theorem dX12_blind_360 : decode cX12_blind 360 = .ok (.iload 11, 2) := by decide +kernel
theorem dX12_blind_362 : decode cX12_blind 362 = .ok (.sipush 128, 3) := by decide +kernel
theorem dX12_blind_365 : decode cX12_blind 365 = .ok (.if_icmp .ge 32, 3) := by decide +kernel
theorem dX12_blind_368 : decode cX12_blind 368 = .ok (.aload_n 0, 1) := by decide +kernel
theorem dX12_blind_369 : decode cX12_blind 369 = .ok (.getfield 90, 3) := by decide +kernel
theorem dX12_blind_372 : decode cX12_blind 372 = .ok (.sipush 128, 3) := by decide +kernel
theorem dX12_blind_375 : decode cX12_blind 375 = .ok (.iload 8, 2) := by decide +kernel
theorem dX12_blind_377 : decode cX12_blind 377 = .ok (.iconst 1, 1) := by decide +kernel
theorem dX12_blind_378 : decode cX12_blind 378 = .ok (.iadd, 1) := by decide +kernel
theorem dX12_blind_379 : decode cX12_blind 379 = .ok (.imul, 1) := by decide +kernel
theorem dX12_blind_380 : decode cX12_blind 380 = .ok (.iload 11, 2) := by decide +kernel
theorem dX12_blind_382 : decode cX12_blind 382 = .ok (.iadd, 1) := by decide +kernel
theorem dX12_blind_383 : decode cX12_blind 383 = .ok (.aload_n 0, 1) := by decide +kernel
theorem dX12_blind_384 : decode cX12_blind 384 = .ok (.getfield 96, 3) := by decide +kernel
theorem dX12_blind_387 : decode cX12_blind 387 = .ok (.iload 11, 2) := by decide +kernel
theorem dX12_blind_389 : decode cX12_blind 389 = .ok (.iaload, 1) := by decide +kernel
theorem dX12_blind_390 : decode cX12_blind 390 = .ok (.iastore, 1) := by decide +kernel
theorem dX12_blind_391 : decode cX12_blind 391 = .ok (.iinc 11 1, 3) := by decide +kernel
theorem dX12_blind_394 : decode cX12_blind 394 = .ok (.goto (-34), 3) := by decide +kernel
theorem dX12_blind_397 : decode cX12_blind 397 = .ok (.aload_n 0, 1) := by decide +kernel
theorem dX12_blind_398 : decode cX12_blind 398 = .ok (.getfield 99, 3) := by decide +kernel
theorem dX12_blind_401 : decode cX12_blind 401 = .ok (.iload 8, 2) := by decide +kernel
theorem dX12_blind_403 : decode cX12_blind 403 = .ok (.iconst 1, 1) := by decide +kernel
theorem dX12_blind_404 : decode cX12_blind 404 = .ok (.iadd, 1) := by decide +kernel
theorem dX12_blind_405 : decode cX12_blind 405 = .ok (.aload_n 0, 1) := by decide +kernel
theorem dX12_blind_406 : decode cX12_blind 406 = .ok (.getfield 99, 3) := by decide +kernel
theorem dX12_blind_409 : decode cX12_blind 409 = .ok (.iload 8, 2) := by decide +kernel
theorem dX12_blind_411 : decode cX12_blind 411 = .ok (.laload, 1) := by decide +kernel
theorem dX12_blind_412 : decode cX12_blind 412 = .ok (.iload 10, 2) := by decide +kernel
theorem dX12_blind_414 : decode cX12_blind 414 = .ok (.i2l, 1) := by decide +kernel
theorem dX12_blind_415 : decode cX12_blind 415 = .ok (.ldiv, 1) := by decide +kernel
theorem dX12_blind_416 : decode cX12_blind 416 = .ok (.lastore, 1) := by decide +kernel
theorem dX12_blind_417 : decode cX12_blind 417 = .ok (.iinc 8 1, 3) := by decide +kernel
theorem dX12_blind_420 : decode cX12_blind 420 = .ok (.aload_n 0, 1) := by decide +kernel
theorem dX12_blind_421 : decode cX12_blind 421 = .ok (.getfield 93, 3) := by decide +kernel
theorem dX12_blind_424 : decode cX12_blind 424 = .ok (.iload 8, 2) := by decide +kernel
theorem dX12_blind_426 : decode cX12_blind 426 = .ok (.iconst 0, 1) := by decide +kernel
theorem dX12_blind_427 : decode cX12_blind 427 = .ok (.iastore, 1) := by decide +kernel
theorem dX12_blind_428 : decode cX12_blind 428 = .ok (.goto (-312), 3) := by decide +kernel
theorem dX12_blind_431 : decode cX12_blind 431 = .ok (.lload 6, 2) := by decide +kernel
theorem dX12_blind_433 : decode cX12_blind 433 = .ok (.lload 4, 2) := by decide +kernel
theorem dX12_blind_435 : decode cX12_blind 435 = .ok (.iload_n 3, 1) := by decide +kernel
theorem dX12_blind_436 : decode cX12_blind 436 = .ok (.iconst 2, 1) := by decide +kernel
theorem dX12_blind_437 : decode cX12_blind 437 = .ok (.irem, 1) := by decide +kernel
theorem dX12_blind_438 : decode cX12_blind 438 = .ok (.invokestatic 445, 3) := by decide +kernel
theorem dX12_blind_441 : decode cX12_blind 441 = .ok (.lreturn, 1) := by decide +kernel
def X12_blind_L360 (e : mm_E) (k116 : Int64 → Int32 → mm_V → Option (Int64 × mm_V)) (a0 : Nat) (i1 : Int32) (i2 : Int32) (i3 : Int32) (j4 : Int64) (j6 : Int64) (i8 : Int32) (i10 : Int32) : Nat → Int32 → mm_V → Option (Int64 × mm_V)
  | 0, _, _ => none
  | n + 1, i11, m => if (128 : Int32) ≤ i11 then ((mm_gr e.1 m 12 75 a0 58).bind fun c1 => (mm_gr e.1 m 12 75 a0 58).bind fun c2 => (mm_al e.1 m c2 i8).bind fun y3 => if i10.toInt64 = 0 then none else (mm_sj e.1 m c1 (i8 + (1 : Int32)) (y3 / i10.toInt64)).bind fun m4 => (mm_gr e.1 m4 12 75 a0 56).bind fun c5 => (mm_si e.1 m4 c5 (i8 + 1) (0 : Int32)).bind fun m6 => k116 j6 (i8 + 1) m6) else ((mm_gr e.1 m 12 75 a0 55).bind fun c7 => (mm_gr e.1 m 12 75 a0 57).bind fun c8 => (mm_ai e.1 m 20 c8 i11).bind fun x9 => (mm_si e.1 m c7 (((128 : Int32) * (i8 + (1 : Int32))) + i11) x9).bind fun m10 => X12_blind_L360 e k116 a0 i1 i2 i3 j4 j6 i8 i10 n (i11 + 1) m10)
theorem X12_blind_L360_ok {K : mm_K} {nx : Option Nat} {e : mm_E} (hz : e.2.1 = K.2.2.2.2) {d : Nat} (hd : 5 ≤ d) {a0 : Nat} {i1 : Int32} {i2 : Int32} {i3 : Int32} {j4 : Int64} {j6 : Int64} {i8 : Int32} {i10 : Int32} (h0 : e.1 a0 = some (12, 75)) {k116 : Int64 → Int32 → mm_V → Option (Int64 × mm_V)} (hk116 : ∀ (w6 : Int64) (w8 : Int32) (m : mm_V) (r : (Int64 × mm_V)), k116 w6 w8 m = some r → mm_G K MX12_blind d (mm_Fl e.1 nx r) 116 [some (.ref a0), some (.int i1), some (.int i2), some (.int i3), some (.long j4), none, some (.long w6), none, some (.int w8), none, none, none] [] (e.1, m) nx 0 0) : ∀ (n : Nat) (i11 : Int32) (m : mm_V) (r : (Int64 × mm_V)), X12_blind_L360 e k116 a0 i1 i2 i3 j4 j6 i8 i10 n i11 m = some r → mm_G K MX12_blind d (mm_Fl e.1 nx r) 360 [some (.ref a0), some (.int i1), some (.int i2), some (.int i3), some (.long j4), none, some (.long j6), none, some (.int i8), none, some (.int i10), some (.int i11)] [] (e.1, m) nx 0 0 := by
  obtain ⟨d, rfl⟩ : ∃ d', d = d' + 1 := ⟨d - 1, by omega⟩
  intro n
  induction n with
  | zero => intro i11 m r hr; unfold X12_blind_L360 at hr; cases hr
  | succ n ih =>
    intro i11 m r hr
    unfold X12_blind_L360 at hr
    refine ml_iload (pc := 360) dX12_blind_360 (mm_get_s (mm_get_s (mm_get_s (mm_get_s (mm_get_s (mm_get_s (mm_get_s (mm_get_s (mm_get_s (mm_get_s (mm_get_s mm_get_0))))))))))) ?_
    refine mg_sipush (pc := 362) dX12_blind_362 ks_128 ?_
    refine mb_icmp_ge (pc := 365) 397 dX12_blind_365 rfl hr (fun hr => ?_) (fun hr => ?_)
    · refine ml_aload_n (pc := 397) dX12_blind_397 rfl mm_get_0 ?_
      refine mb_gr (pc := 398) dX12_blind_398 fl_X12_99 hr (fun c1 hr => ?_)
      refine ml_iload (pc := 401) dX12_blind_401 (mm_get_s (mm_get_s (mm_get_s (mm_get_s (mm_get_s (mm_get_s (mm_get_s (mm_get_s mm_get_0)))))))) ?_
      refine mg_iconst (pc := 403) dX12_blind_403 kc_1 ?_
      refine mg_iadd (pc := 404) dX12_blind_404 ?_
      refine ml_aload_n (pc := 405) dX12_blind_405 rfl mm_get_0 ?_
      refine mb_gr (pc := 406) dX12_blind_406 fl_X12_99 hr (fun c2 hr => ?_)
      refine ml_iload (pc := 409) dX12_blind_409 (mm_get_s (mm_get_s (mm_get_s (mm_get_s (mm_get_s (mm_get_s (mm_get_s (mm_get_s mm_get_0)))))))) ?_
      refine mb_al (pc := 411) dX12_blind_411 hr (fun y3 hr => ?_)
      refine ml_iload (pc := 412) dX12_blind_412 (mm_get_s (mm_get_s (mm_get_s (mm_get_s (mm_get_s (mm_get_s (mm_get_s (mm_get_s (mm_get_s (mm_get_s mm_get_0)))))))))) ?_
      refine mg_i2l (pc := 414) dX12_blind_414 ?_
      refine mb_ldiv (pc := 415) dX12_blind_415 hr (fun hr => ?_)
      refine mb_sj (pc := 416) dX12_blind_416 hr (fun m4 hr => ?_)
      refine ml_iinc (pc := 417) dX12_blind_417 (mm_get_s (mm_get_s (mm_get_s (mm_get_s (mm_get_s (mm_get_s (mm_get_s (mm_get_s mm_get_0)))))))) (congrArg (fun z => i8 + z) kc_1) (Nat.le_of_ble_eq_true rfl) (mm_st1_s (mm_st1_s (mm_st1_s (mm_st1_s (mm_st1_s (mm_st1_s (mm_st1_s mm_st1_n))))))) ?_
      refine ml_aload_n (pc := 420) dX12_blind_420 rfl mm_get_0 ?_
      refine mb_gr (pc := 421) dX12_blind_421 fl_X12_93 hr (fun c5 hr => ?_)
      refine ml_iload (pc := 424) dX12_blind_424 (mm_get_s (mm_get_s (mm_get_s (mm_get_s (mm_get_s (mm_get_s (mm_get_s (mm_get_s mm_get_0)))))))) ?_
      refine mg_iconst (pc := 426) dX12_blind_426 kc_0 ?_
      refine mb_si (pc := 427) dX12_blind_427 hr (fun m6 hr => ?_)
      refine mg_goto (pc := 428) 116 dX12_blind_428 rfl ?_
      exact mg_weak (mm_le_s (mm_le_s (mm_le_s (mm_le_s (mm_le_s (mm_le_n (mm_le_s (mm_le_n (mm_le_s (mm_le_n (mm_le_n (mm_le_n mm_le_0)))))))))))) (hk116 _ _ _ _ hr)
    · refine ml_aload_n (pc := 368) dX12_blind_368 rfl mm_get_0 ?_
      refine mb_gr (pc := 369) dX12_blind_369 fl_X12_90 hr (fun c7 hr => ?_)
      refine mg_sipush (pc := 372) dX12_blind_372 ks_128 ?_
      refine ml_iload (pc := 375) dX12_blind_375 (mm_get_s (mm_get_s (mm_get_s (mm_get_s (mm_get_s (mm_get_s (mm_get_s (mm_get_s mm_get_0)))))))) ?_
      refine mg_iconst (pc := 377) dX12_blind_377 kc_1 ?_
      refine mg_iadd (pc := 378) dX12_blind_378 ?_
      refine mg_imul (pc := 379) dX12_blind_379 ?_
      refine ml_iload (pc := 380) dX12_blind_380 (mm_get_s (mm_get_s (mm_get_s (mm_get_s (mm_get_s (mm_get_s (mm_get_s (mm_get_s (mm_get_s (mm_get_s (mm_get_s mm_get_0))))))))))) ?_
      refine mg_iadd (pc := 382) dX12_blind_382 ?_
      refine ml_aload_n (pc := 383) dX12_blind_383 rfl mm_get_0 ?_
      refine mb_gr (pc := 384) dX12_blind_384 fl_X12_96 hr (fun c8 hr => ?_)
      refine ml_iload (pc := 387) dX12_blind_387 (mm_get_s (mm_get_s (mm_get_s (mm_get_s (mm_get_s (mm_get_s (mm_get_s (mm_get_s (mm_get_s (mm_get_s (mm_get_s mm_get_0))))))))))) ?_
      refine mb_ai (pc := 389) dX12_blind_389 hr (fun x9 hr => ?_)
      refine mb_si (pc := 390) dX12_blind_390 hr (fun m10 hr => ?_)
      refine ml_iinc (pc := 391) dX12_blind_391 (mm_get_s (mm_get_s (mm_get_s (mm_get_s (mm_get_s (mm_get_s (mm_get_s (mm_get_s (mm_get_s (mm_get_s (mm_get_s mm_get_0))))))))))) (congrArg (fun z => i11 + z) kc_1) (Nat.le_of_ble_eq_true rfl) (mm_st1_s (mm_st1_s (mm_st1_s (mm_st1_s (mm_st1_s (mm_st1_s (mm_st1_s (mm_st1_s (mm_st1_s (mm_st1_s mm_st1_i)))))))))) ?_
      refine mg_goto (pc := 394) 360 dX12_blind_394 rfl ?_
      exact mg_weak (mm_le_s (mm_le_s (mm_le_s (mm_le_s (mm_le_s (mm_le_n (mm_le_s (mm_le_n (mm_le_s (mm_le_n (mm_le_s (mm_le_s mm_le_0)))))))))))) (ih _ _ _ hr)
def X12_blind_b263 (e : mm_E) (k116 : Int64 → Int32 → mm_V → Option (Int64 × mm_V)) (a0 : Nat) (i1 : Int32) (i2 : Int32) (i3 : Int32) (j4 : Int64) (i8 : Int32) (t0 : Int64) (t1 : Int64) (m : mm_V) : Option (Int64 × mm_V) := k116 (t0 + t1) (i8 + (-1)) m
theorem X12_blind_b263_ok {K : mm_K} {nx : Option Nat} {e : mm_E} (hz : e.2.1 = K.2.2.2.2) {d : Nat} (hd : 5 ≤ d) {a0 : Nat} {i1 : Int32} {i2 : Int32} {i3 : Int32} {j4 : Int64} {i8 : Int32} {t0 : Int64} {t1 : Int64} (h0 : e.1 a0 = some (12, 75)) {k116 : Int64 → Int32 → mm_V → Option (Int64 × mm_V)} (hk116 : ∀ (w6 : Int64) (w8 : Int32) (m : mm_V) (r : (Int64 × mm_V)), k116 w6 w8 m = some r → mm_G K MX12_blind d (mm_Fl e.1 nx r) 116 [some (.ref a0), some (.int i1), some (.int i2), some (.int i3), some (.long j4), none, some (.long w6), none, some (.int w8), none, none, none] [] (e.1, m) nx 0 0) {m : mm_V} {r : (Int64 × mm_V)} (hr : X12_blind_b263 e k116 a0 i1 i2 i3 j4 i8 t0 t1 m = some r) : mm_G K MX12_blind d (mm_Fl e.1 nx r) 263 [some (.ref a0), some (.int i1), some (.int i2), some (.int i3), some (.long j4), none, none, none, some (.int i8), none, none, none] [.long t1, .long t0] (e.1, m) nx 0 0 := by
  obtain ⟨d, rfl⟩ : ∃ d', d = d' + 1 := ⟨d - 1, by omega⟩
  unfold X12_blind_b263 at hr
  refine mg_ladd (pc := 263) dX12_blind_263 ?_
  refine ml_lstore (pc := 264) dX12_blind_264 (Nat.le_of_ble_eq_true rfl) (mm_st2_s (mm_st2_s (mm_st2_s (mm_st2_s (mm_st2_s mm_st2_n))))) ?_
  refine ml_iinc (pc := 266) dX12_blind_266 (mm_get_s (mm_get_s (mm_get_s (mm_get_s (mm_get_s (mm_get_s (mm_get_s (mm_get_s mm_get_0)))))))) (congrArg (fun z => i8 + z) kc_m1) (Nat.le_of_ble_eq_true rfl) (mm_st1_s (mm_st1_s (mm_st1_s (mm_st1_s (mm_st1_s (mm_st1_s (mm_st1_s mm_st1_n))))))) ?_
  refine mg_goto (pc := 269) 116 dX12_blind_269 rfl ?_
  exact mg_weak (mm_le_s (mm_le_s (mm_le_s (mm_le_s (mm_le_s (mm_le_n (mm_le_s (mm_le_n (mm_le_s (mm_le_n (mm_le_n (mm_le_n mm_le_0)))))))))))) (hk116 _ _ _ _ hr)
def X12_blind_b243 (e : mm_E) (k116 : Int64 → Int32 → mm_V → Option (Int64 × mm_V)) (a0 : Nat) (i1 : Int32) (i2 : Int32) (i3 : Int32) (j4 : Int64) (j6 : Int64) (i8 : Int32) (t0 : Int32) (m : mm_V) : Option (Int64 × mm_V) := if t0 = 0 then (X12_blind_b263 e k116 a0 i1 i2 i3 j4 i8 j6 (0 : Int64) m) else ((mm_gr e.1 m 12 75 a0 58).bind fun c1 => (mm_al e.1 m c1 i8).bind fun y2 => X12_blind_b263 e k116 a0 i1 i2 i3 j4 i8 j6 y2 m)
theorem X12_blind_b243_ok {K : mm_K} {nx : Option Nat} {e : mm_E} (hz : e.2.1 = K.2.2.2.2) {d : Nat} (hd : 5 ≤ d) {a0 : Nat} {i1 : Int32} {i2 : Int32} {i3 : Int32} {j4 : Int64} {j6 : Int64} {i8 : Int32} {t0 : Int32} (h0 : e.1 a0 = some (12, 75)) {k116 : Int64 → Int32 → mm_V → Option (Int64 × mm_V)} (hk116 : ∀ (w6 : Int64) (w8 : Int32) (m : mm_V) (r : (Int64 × mm_V)), k116 w6 w8 m = some r → mm_G K MX12_blind d (mm_Fl e.1 nx r) 116 [some (.ref a0), some (.int i1), some (.int i2), some (.int i3), some (.long j4), none, some (.long w6), none, some (.int w8), none, none, none] [] (e.1, m) nx 0 0) {m : mm_V} {r : (Int64 × mm_V)} (hr : X12_blind_b243 e k116 a0 i1 i2 i3 j4 j6 i8 t0 m = some r) : mm_G K MX12_blind d (mm_Fl e.1 nx r) 243 [some (.ref a0), some (.int i1), some (.int i2), some (.int i3), some (.long j4), none, some (.long j6), none, some (.int i8), none, none, none] [.int t0] (e.1, m) nx 0 0 := by
  obtain ⟨d, rfl⟩ : ∃ d', d = d' + 1 := ⟨d - 1, by omega⟩
  unfold X12_blind_b243 at hr
  refine ml_istore (pc := 243) dX12_blind_243 (Nat.le_of_ble_eq_true rfl) (mm_st1_s (mm_st1_s (mm_st1_s (mm_st1_s (mm_st1_s (mm_st1_s (mm_st1_s (mm_st1_s mm_st1_i)))))))) ?_
  refine ml_lload (pc := 245) dX12_blind_245 (mm_get_s (mm_get_s (mm_get_s (mm_get_s (mm_get_s (mm_get_s mm_get_0)))))) ?_
  refine ml_iload (pc := 247) dX12_blind_247 (mm_get_s (mm_get_s (mm_get_s (mm_get_s (mm_get_s (mm_get_s (mm_get_s (mm_get_s (mm_get_s mm_get_0))))))))) ?_
  refine mb_if_eq (pc := 249) 262 dX12_blind_249 rfl hr (fun hr => ?_) (fun hr => ?_)
  · refine mg_lconst (pc := 262) dX12_blind_262 (v := (0 : Int64)) (by decide) ?_
    exact mg_weak (mm_le_s (mm_le_s (mm_le_s (mm_le_s (mm_le_s (mm_le_n (mm_le_n (mm_le_n (mm_le_s (mm_le_n (mm_le_n (mm_le_n mm_le_0)))))))))))) (X12_blind_b263_ok hz hd h0 hk116 hr)
  · refine ml_aload_n (pc := 252) dX12_blind_252 rfl mm_get_0 ?_
    refine mb_gr (pc := 253) dX12_blind_253 fl_X12_99 hr (fun c1 hr => ?_)
    refine ml_iload (pc := 256) dX12_blind_256 (mm_get_s (mm_get_s (mm_get_s (mm_get_s (mm_get_s (mm_get_s (mm_get_s (mm_get_s mm_get_0)))))))) ?_
    refine mb_al (pc := 258) dX12_blind_258 hr (fun y2 hr => ?_)
    refine mg_goto (pc := 259) 263 dX12_blind_259 rfl ?_
    exact mg_weak (mm_le_s (mm_le_s (mm_le_s (mm_le_s (mm_le_s (mm_le_n (mm_le_n (mm_le_n (mm_le_s (mm_le_n (mm_le_n (mm_le_n mm_le_0)))))))))))) (X12_blind_b263_ok hz hd h0 hk116 hr)
def X12_blind_b176 (e : mm_E) (k116 : Int64 → Int32 → mm_V → Option (Int64 × mm_V)) (a0 : Nat) (i1 : Int32) (i2 : Int32) (i3 : Int32) (j4 : Int64) (j6 : Int64) (i8 : Int32) (m : mm_V) : Option (Int64 × mm_V) := if (2 : Int32) ≤ i3 then (if (4 : Int32) ≤ i3 then ((mm_gr e.1 m 12 75 a0 57).bind fun c1 => (X12_loser e a0 c1 m).bind fun r2 => if ¬ r2.1 = i1 then (X12_blind_b243 e k116 a0 i1 i2 i3 j4 j6 i8 (0 : Int32) r2.2) else (X12_blind_b243 e k116 a0 i1 i2 i3 j4 j6 i8 (1 : Int32) r2.2)) else ((mm_gr e.1 m 12 75 a0 57).bind fun c3 => (X12_size e c3 i1 m).bind fun r4 => if ¬ r4.1 = 0 then (X12_blind_b243 e k116 a0 i1 i2 i3 j4 j6 i8 (0 : Int32) r4.2) else (X12_blind_b243 e k116 a0 i1 i2 i3 j4 j6 i8 (1 : Int32) r4.2))) else ((mm_gr e.1 m 12 75 a0 57).bind fun c5 => (X12_placeOf e c5 i1 (0 : Int32) m).bind fun r6 => if r6.1 = (-1 : Int32) then (X12_blind_b243 e k116 a0 i1 i2 i3 j4 j6 i8 (0 : Int32) r6.2) else (X12_blind_b243 e k116 a0 i1 i2 i3 j4 j6 i8 (1 : Int32) r6.2))
theorem X12_blind_b176_ok {K : mm_K} {nx : Option Nat} {e : mm_E} (hz : e.2.1 = K.2.2.2.2) {d : Nat} (hd : 5 ≤ d) {a0 : Nat} {i1 : Int32} {i2 : Int32} {i3 : Int32} {j4 : Int64} {j6 : Int64} {i8 : Int32} (h0 : e.1 a0 = some (12, 75)) {k116 : Int64 → Int32 → mm_V → Option (Int64 × mm_V)} (hk116 : ∀ (w6 : Int64) (w8 : Int32) (m : mm_V) (r : (Int64 × mm_V)), k116 w6 w8 m = some r → mm_G K MX12_blind d (mm_Fl e.1 nx r) 116 [some (.ref a0), some (.int i1), some (.int i2), some (.int i3), some (.long j4), none, some (.long w6), none, some (.int w8), none, none, none] [] (e.1, m) nx 0 0) {m : mm_V} {r : (Int64 × mm_V)} (hr : X12_blind_b176 e k116 a0 i1 i2 i3 j4 j6 i8 m = some r) : mm_G K MX12_blind d (mm_Fl e.1 nx r) 176 [some (.ref a0), some (.int i1), some (.int i2), some (.int i3), some (.long j4), none, some (.long j6), none, some (.int i8), none, none, none] [] (e.1, m) nx 0 0 := by
  obtain ⟨d, rfl⟩ : ∃ d', d = d' + 1 := ⟨d - 1, by omega⟩
  unfold X12_blind_b176 at hr
  refine ml_iload_n (pc := 176) dX12_blind_176 rfl (mm_get_s (mm_get_s (mm_get_s mm_get_0))) ?_
  refine mg_iconst (pc := 177) dX12_blind_177 kc_2 ?_
  refine mb_icmp_ge (pc := 178) 202 dX12_blind_178 rfl hr (fun hr => ?_) (fun hr => ?_)
  · refine ml_iload_n (pc := 202) dX12_blind_202 rfl (mm_get_s (mm_get_s (mm_get_s mm_get_0))) ?_
    refine mg_iconst (pc := 203) dX12_blind_203 kc_4 ?_
    refine mb_icmp_ge (pc := 204) 226 dX12_blind_204 rfl hr (fun hr => ?_) (fun hr => ?_)
    · refine ml_aload_n (pc := 226) dX12_blind_226 rfl mm_get_0 ?_
      refine ml_aload_n (pc := 227) dX12_blind_227 rfl mm_get_0 ?_
      refine mb_gr (pc := 228) dX12_blind_228 fl_X12_96 hr (fun c1 hr => ?_)
      refine mb_cVi (pc := 231) (As := [.ref c1]) (rest := []) dX12_blind_231 cw_X12_434 h0 hr (fun v hv => X12_loser_ok hz (by omega) h0 hv) rfl (Nat.le_of_ble_eq_true rfl) (Nat.zero_le _) (Nat.zero_le _) (fun r2 hr => ?_)
      refine ml_iload_n (pc := 234) dX12_blind_234 rfl (mm_get_s mm_get_0) ?_
      refine mb_icmp_ne (pc := 235) 242 dX12_blind_235 rfl hr (fun hr => ?_) (fun hr => ?_)
      · refine mg_iconst (pc := 242) dX12_blind_242 kc_0 ?_
        exact mg_weak (mm_le_s (mm_le_s (mm_le_s (mm_le_s (mm_le_s (mm_le_n (mm_le_s (mm_le_n (mm_le_s (mm_le_n (mm_le_n (mm_le_n mm_le_0)))))))))))) (X12_blind_b243_ok hz hd h0 hk116 hr)
      · refine mg_iconst (pc := 238) dX12_blind_238 kc_1 ?_
        refine mg_goto (pc := 239) 243 dX12_blind_239 rfl ?_
        exact mg_weak (mm_le_s (mm_le_s (mm_le_s (mm_le_s (mm_le_s (mm_le_n (mm_le_s (mm_le_n (mm_le_s (mm_le_n (mm_le_n (mm_le_n mm_le_0)))))))))))) (X12_blind_b243_ok hz hd h0 hk116 hr)
    · refine ml_aload_n (pc := 207) dX12_blind_207 rfl mm_get_0 ?_
      refine mb_gr (pc := 208) dX12_blind_208 fl_X12_96 hr (fun c3 hr => ?_)
      refine ml_iload_n (pc := 211) dX12_blind_211 rfl (mm_get_s mm_get_0) ?_
      refine mb_cSi (pc := 212) (As := [.ref c3, .int i1]) (rest := []) dX12_blind_212 cw_X12_327  hr (fun v hv => X12_size_ok hz (by omega)  hv) rfl (Nat.le_of_ble_eq_true rfl) (Nat.zero_le _) (Nat.zero_le _) (fun r4 hr => ?_)
      refine mb_if_ne (pc := 215) 222 dX12_blind_215 rfl hr (fun hr => ?_) (fun hr => ?_)
      · refine mg_iconst (pc := 222) dX12_blind_222 kc_0 ?_
        refine mg_goto (pc := 223) 243 dX12_blind_223 rfl ?_
        exact mg_weak (mm_le_s (mm_le_s (mm_le_s (mm_le_s (mm_le_s (mm_le_n (mm_le_s (mm_le_n (mm_le_s (mm_le_n (mm_le_n (mm_le_n mm_le_0)))))))))))) (X12_blind_b243_ok hz hd h0 hk116 hr)
      · refine mg_iconst (pc := 218) dX12_blind_218 kc_1 ?_
        refine mg_goto (pc := 219) 243 dX12_blind_219 rfl ?_
        exact mg_weak (mm_le_s (mm_le_s (mm_le_s (mm_le_s (mm_le_s (mm_le_n (mm_le_s (mm_le_n (mm_le_s (mm_le_n (mm_le_n (mm_le_n mm_le_0)))))))))))) (X12_blind_b243_ok hz hd h0 hk116 hr)
  · refine ml_aload_n (pc := 181) dX12_blind_181 rfl mm_get_0 ?_
    refine mb_gr (pc := 182) dX12_blind_182 fl_X12_96 hr (fun c5 hr => ?_)
    refine ml_iload_n (pc := 185) dX12_blind_185 rfl (mm_get_s mm_get_0) ?_
    refine mg_iconst (pc := 186) dX12_blind_186 kc_0 ?_
    refine mb_cSi (pc := 187) (As := [.ref c5, .int i1, .int (0 : Int32)]) (rest := []) dX12_blind_187 cw_X12_335  hr (fun v hv => X12_placeOf_ok hz (by omega)  hv) rfl (Nat.le_of_ble_eq_true rfl) (Nat.zero_le _) (Nat.zero_le _) (fun r6 hr => ?_)
    refine mg_iconst (pc := 190) dX12_blind_190 kc_m1 ?_
    refine mb_icmp_eq (pc := 191) 198 dX12_blind_191 rfl hr (fun hr => ?_) (fun hr => ?_)
    · refine mg_iconst (pc := 198) dX12_blind_198 kc_0 ?_
      refine mg_goto (pc := 199) 243 dX12_blind_199 rfl ?_
      exact mg_weak (mm_le_s (mm_le_s (mm_le_s (mm_le_s (mm_le_s (mm_le_n (mm_le_s (mm_le_n (mm_le_s (mm_le_n (mm_le_n (mm_le_n mm_le_0)))))))))))) (X12_blind_b243_ok hz hd h0 hk116 hr)
    · refine mg_iconst (pc := 194) dX12_blind_194 kc_1 ?_
      refine mg_goto (pc := 195) 243 dX12_blind_195 rfl ?_
      exact mg_weak (mm_le_s (mm_le_s (mm_le_s (mm_le_s (mm_le_s (mm_le_n (mm_le_s (mm_le_n (mm_le_s (mm_le_n (mm_le_n (mm_le_n mm_le_0)))))))))))) (X12_blind_b243_ok hz hd h0 hk116 hr)
def X12_blind_L124 (e : mm_E) (k116 : Int64 → Int32 → mm_V → Option (Int64 × mm_V)) (a0 : Nat) (i1 : Int32) (i2 : Int32) (i3 : Int32) (j4 : Int64) (j6 : Int64) (i8 : Int32) : Nat → Int32 → mm_V → Option (Int64 × mm_V)
  | 0, _, _ => none
  | n + 1, i9, m => if (128 : Int32) ≤ i9 then (if i8 = i2 then (X12_blind_b176 e k116 a0 i1 i2 i3 j4 j6 i8  m) else ((mm_gr e.1 m 12 75 a0 57).bind fun c1 => (X12_isOver e a0 c1 m).bind fun r2 => if r2.1 = 0 then ((mm_gr e.1 r2.2 12 75 a0 57).bind fun c3 => (mm_gr e.1 r2.2 12 75 a0 57).bind fun c4 => (mm_ai e.1 r2.2 20 c4 (0 : Int32)).bind fun x5 => (X12_nextOf e a0 c3 x5 r2.2).bind fun r6 => (mm_gr e.1 r6.2 12 75 a0 57).bind fun c7 => (X12_size e c7 r6.1 r6.2).bind fun r8 => if r8.1 ≤ (9 : Int32) then ((mm_gr e.1 r8.2 12 75 a0 56).bind fun c9 => (mm_ai e.1 r8.2 20 c9 i8).bind fun x10 => if ¬ x10 = r8.1 then ((mm_gr e.1 r8.2 12 75 a0 57).bind fun c11 => (mm_gr e.1 r8.2 12 75 a0 56).bind fun c12 => (mm_ai e.1 r8.2 20 c12 i8).bind fun x13 => (X12_drawsOf e a0 c11 r6.1 x13 (0 : Int32) r8.2).bind fun r14 => (mm_gr e.1 r14 12 75 a0 56).bind fun c15 => (mm_ai e.1 r14 20 c15 i8).bind fun x16 => (mm_si e.1 r14 c15 i8 (x16 + (1 : Int32))).bind fun m17 => X12_blind_L360 e k116 a0 i1 i2 i3 j4 j6 i8 r8.1 e.2.2 (0 : Int32) m17) else (k116 j6 (i8 + (-1)) r8.2)) else (some ((-2 : Int64), r8.2))) else (X12_blind_b176 e k116 a0 i1 i2 i3 j4 j6 i8  r2.2))) else ((mm_gr e.1 m 12 75 a0 57).bind fun c18 => (mm_gr e.1 m 12 75 a0 55).bind fun c19 => (mm_ai e.1 m 20 c19 (((128 : Int32) * i8) + i9)).bind fun x20 => (mm_si e.1 m c18 i9 x20).bind fun m21 => X12_blind_L124 e k116 a0 i1 i2 i3 j4 j6 i8 n (i9 + 1) m21)
theorem X12_blind_L124_ok {K : mm_K} {nx : Option Nat} {e : mm_E} (hz : e.2.1 = K.2.2.2.2) {d : Nat} (hd : 5 ≤ d) {a0 : Nat} {i1 : Int32} {i2 : Int32} {i3 : Int32} {j4 : Int64} {j6 : Int64} {i8 : Int32} (h0 : e.1 a0 = some (12, 75)) {k116 : Int64 → Int32 → mm_V → Option (Int64 × mm_V)} (hk116 : ∀ (w6 : Int64) (w8 : Int32) (m : mm_V) (r : (Int64 × mm_V)), k116 w6 w8 m = some r → mm_G K MX12_blind d (mm_Fl e.1 nx r) 116 [some (.ref a0), some (.int i1), some (.int i2), some (.int i3), some (.long j4), none, some (.long w6), none, some (.int w8), none, none, none] [] (e.1, m) nx 0 0) : ∀ (n : Nat) (i9 : Int32) (m : mm_V) (r : (Int64 × mm_V)), X12_blind_L124 e k116 a0 i1 i2 i3 j4 j6 i8 n i9 m = some r → mm_G K MX12_blind d (mm_Fl e.1 nx r) 124 [some (.ref a0), some (.int i1), some (.int i2), some (.int i3), some (.long j4), none, some (.long j6), none, some (.int i8), some (.int i9), none, none] [] (e.1, m) nx 0 0 := by
  obtain ⟨d, rfl⟩ : ∃ d', d = d' + 1 := ⟨d - 1, by omega⟩
  intro n
  induction n with
  | zero => intro i9 m r hr; unfold X12_blind_L124 at hr; cases hr
  | succ n ih =>
    intro i9 m r hr
    unfold X12_blind_L124 at hr
    refine ml_iload (pc := 124) dX12_blind_124 (mm_get_s (mm_get_s (mm_get_s (mm_get_s (mm_get_s (mm_get_s (mm_get_s (mm_get_s (mm_get_s mm_get_0))))))))) ?_
    refine mg_sipush (pc := 126) dX12_blind_126 ks_128 ?_
    refine mb_icmp_ge (pc := 129) 159 dX12_blind_129 rfl hr (fun hr => ?_) (fun hr => ?_)
    · refine ml_iload (pc := 159) dX12_blind_159 (mm_get_s (mm_get_s (mm_get_s (mm_get_s (mm_get_s (mm_get_s (mm_get_s (mm_get_s mm_get_0)))))))) ?_
      refine ml_iload_n (pc := 161) dX12_blind_161 rfl (mm_get_s (mm_get_s mm_get_0)) ?_
      refine mb_icmp_eq (pc := 162) 176 dX12_blind_162 rfl hr (fun hr => ?_) (fun hr => ?_)
      · exact mg_weak (mm_le_s (mm_le_s (mm_le_s (mm_le_s (mm_le_s (mm_le_n (mm_le_s (mm_le_n (mm_le_s (mm_le_n (mm_le_n (mm_le_n mm_le_0)))))))))))) (X12_blind_b176_ok hz hd h0 hk116 hr)
      · refine ml_aload_n (pc := 165) dX12_blind_165 rfl mm_get_0 ?_
        refine ml_aload_n (pc := 166) dX12_blind_166 rfl mm_get_0 ?_
        refine mb_gr (pc := 167) dX12_blind_167 fl_X12_96 hr (fun c1 hr => ?_)
        refine mb_cVi (pc := 170) (As := [.ref c1]) (rest := []) dX12_blind_170 cw_X12_338 h0 hr (fun v hv => X12_isOver_ok hz (by omega) h0 hv) rfl (Nat.le_of_ble_eq_true rfl) (Nat.zero_le _) (Nat.zero_le _) (fun r2 hr => ?_)
        refine mb_if_eq (pc := 173) 272 dX12_blind_173 rfl hr (fun hr => ?_) (fun hr => ?_)
        · refine ml_aload_n (pc := 272) dX12_blind_272 rfl mm_get_0 ?_
          refine ml_aload_n (pc := 273) dX12_blind_273 rfl mm_get_0 ?_
          refine mb_gr (pc := 274) dX12_blind_274 fl_X12_96 hr (fun c3 hr => ?_)
          refine ml_aload_n (pc := 277) dX12_blind_277 rfl mm_get_0 ?_
          refine mb_gr (pc := 278) dX12_blind_278 fl_X12_96 hr (fun c4 hr => ?_)
          refine mg_iconst (pc := 281) dX12_blind_281 kc_0 ?_
          refine mb_ai (pc := 282) dX12_blind_282 hr (fun x5 hr => ?_)
          refine mb_cVi (pc := 283) (As := [.ref c3, .int x5]) (rest := []) dX12_blind_283 cw_X12_342 h0 hr (fun v hv => X12_nextOf_ok hz (by omega) h0 hv) rfl (Nat.le_of_ble_eq_true rfl) (Nat.zero_le _) (Nat.zero_le _) (fun r6 hr => ?_)
          refine ml_istore (pc := 286) dX12_blind_286 (Nat.le_of_ble_eq_true rfl) (mm_st1_s (mm_st1_s (mm_st1_s (mm_st1_s (mm_st1_s (mm_st1_s (mm_st1_s (mm_st1_s mm_st1_i)))))))) ?_
          refine ml_aload_n (pc := 288) dX12_blind_288 rfl mm_get_0 ?_
          refine mb_gr (pc := 289) dX12_blind_289 fl_X12_96 hr (fun c7 hr => ?_)
          refine ml_iload (pc := 292) dX12_blind_292 (mm_get_s (mm_get_s (mm_get_s (mm_get_s (mm_get_s (mm_get_s (mm_get_s (mm_get_s (mm_get_s mm_get_0))))))))) ?_
          refine mb_cSi (pc := 294) (As := [.ref c7, .int r6.1]) (rest := []) dX12_blind_294 cw_X12_327  hr (fun v hv => X12_size_ok hz (by omega)  hv) rfl (Nat.le_of_ble_eq_true rfl) (Nat.zero_le _) (Nat.zero_le _) (fun r8 hr => ?_)
          refine ml_istore (pc := 297) dX12_blind_297 (Nat.le_of_ble_eq_true rfl) (mm_st1_s (mm_st1_s (mm_st1_s (mm_st1_s (mm_st1_s (mm_st1_s (mm_st1_s (mm_st1_s (mm_st1_s mm_st1_i))))))))) ?_
          refine ml_iload (pc := 299) dX12_blind_299 (mm_get_s (mm_get_s (mm_get_s (mm_get_s (mm_get_s (mm_get_s (mm_get_s (mm_get_s (mm_get_s (mm_get_s mm_get_0)))))))))) ?_
          refine mg_bipush (pc := 301) dX12_blind_301 kb_9 ?_
          refine mb_icmp_le (pc := 303) 310 dX12_blind_303 rfl hr (fun hr => ?_) (fun hr => ?_)
          · refine ml_aload_n (pc := 310) dX12_blind_310 rfl mm_get_0 ?_
            refine mb_gr (pc := 311) dX12_blind_311 fl_X12_93 hr (fun c9 hr => ?_)
            refine ml_iload (pc := 314) dX12_blind_314 (mm_get_s (mm_get_s (mm_get_s (mm_get_s (mm_get_s (mm_get_s (mm_get_s (mm_get_s mm_get_0)))))))) ?_
            refine mb_ai (pc := 316) dX12_blind_316 hr (fun x10 hr => ?_)
            refine ml_iload (pc := 317) dX12_blind_317 (mm_get_s (mm_get_s (mm_get_s (mm_get_s (mm_get_s (mm_get_s (mm_get_s (mm_get_s (mm_get_s (mm_get_s mm_get_0)))))))))) ?_
            refine mb_icmp_ne (pc := 319) 328 dX12_blind_319 rfl hr (fun hr => ?_) (fun hr => ?_)
            · refine ml_aload_n (pc := 328) dX12_blind_328 rfl mm_get_0 ?_
              refine ml_aload_n (pc := 329) dX12_blind_329 rfl mm_get_0 ?_
              refine mb_gr (pc := 330) dX12_blind_330 fl_X12_96 hr (fun c11 hr => ?_)
              refine ml_iload (pc := 333) dX12_blind_333 (mm_get_s (mm_get_s (mm_get_s (mm_get_s (mm_get_s (mm_get_s (mm_get_s (mm_get_s (mm_get_s mm_get_0))))))))) ?_
              refine ml_aload_n (pc := 335) dX12_blind_335 rfl mm_get_0 ?_
              refine mb_gr (pc := 336) dX12_blind_336 fl_X12_93 hr (fun c12 hr => ?_)
              refine ml_iload (pc := 339) dX12_blind_339 (mm_get_s (mm_get_s (mm_get_s (mm_get_s (mm_get_s (mm_get_s (mm_get_s (mm_get_s mm_get_0)))))))) ?_
              refine mb_ai (pc := 341) dX12_blind_341 hr (fun x13 hr => ?_)
              refine mg_iconst (pc := 342) dX12_blind_342 kc_0 ?_
              refine mb_cVv (pc := 343) (As := [.ref c11, .int r6.1, .int x13, .int (0 : Int32)]) (rest := []) dX12_blind_343 cw_X12_412 h0 hr (fun v hv => X12_drawsOf_ok hz (by omega) h0 hv) rfl (Nat.le_of_ble_eq_true rfl) (Nat.zero_le _) (Nat.zero_le _) (fun r14 hr => ?_)
              refine ml_aload_n (pc := 346) dX12_blind_346 rfl mm_get_0 ?_
              refine mb_gr (pc := 347) dX12_blind_347 fl_X12_93 hr (fun c15 hr => ?_)
              refine ml_iload (pc := 350) dX12_blind_350 (mm_get_s (mm_get_s (mm_get_s (mm_get_s (mm_get_s (mm_get_s (mm_get_s (mm_get_s mm_get_0)))))))) ?_
              refine mg_dup2 (pc := 352) dX12_blind_352 rfl rfl ?_
              refine mb_ai (pc := 353) dX12_blind_353 hr (fun x16 hr => ?_)
              refine mg_iconst (pc := 354) dX12_blind_354 kc_1 ?_
              refine mg_iadd (pc := 355) dX12_blind_355 ?_
              refine mb_si (pc := 356) dX12_blind_356 hr (fun m17 hr => ?_)
              refine mg_iconst (pc := 357) dX12_blind_357 kc_0 ?_
              refine ml_istore (pc := 358) dX12_blind_358 (Nat.le_of_ble_eq_true rfl) (mm_st1_s (mm_st1_s (mm_st1_s (mm_st1_s (mm_st1_s (mm_st1_s (mm_st1_s (mm_st1_s (mm_st1_s (mm_st1_s mm_st1_i)))))))))) ?_
              exact mg_weak (mm_le_s (mm_le_s (mm_le_s (mm_le_s (mm_le_s (mm_le_n (mm_le_s (mm_le_n (mm_le_s (mm_le_n (mm_le_s (mm_le_s mm_le_0)))))))))))) (X12_blind_L360_ok hz hd h0 hk116 _ _ _ _ hr)
            · refine ml_iinc (pc := 322) dX12_blind_322 (mm_get_s (mm_get_s (mm_get_s (mm_get_s (mm_get_s (mm_get_s (mm_get_s (mm_get_s mm_get_0)))))))) (congrArg (fun z => i8 + z) kc_m1) (Nat.le_of_ble_eq_true rfl) (mm_st1_s (mm_st1_s (mm_st1_s (mm_st1_s (mm_st1_s (mm_st1_s (mm_st1_s mm_st1_n))))))) ?_
              refine mg_goto (pc := 325) 116 dX12_blind_325 rfl ?_
              exact mg_weak (mm_le_s (mm_le_s (mm_le_s (mm_le_s (mm_le_s (mm_le_n (mm_le_s (mm_le_n (mm_le_s (mm_le_n (mm_le_n (mm_le_n mm_le_0)))))))))))) (hk116 _ _ _ _ hr)
          · refine mg_ldc2 (pc := 306) dX12_blind_306 (v := (-2 : Int64)) tw_1874 ?_
            exact mb_lret dX12_blind_309 rfl hr
        · exact mg_weak (mm_le_s (mm_le_s (mm_le_s (mm_le_s (mm_le_s (mm_le_n (mm_le_s (mm_le_n (mm_le_s (mm_le_n (mm_le_n (mm_le_n mm_le_0)))))))))))) (X12_blind_b176_ok hz hd h0 hk116 hr)
    · refine ml_aload_n (pc := 132) dX12_blind_132 rfl mm_get_0 ?_
      refine mb_gr (pc := 133) dX12_blind_133 fl_X12_96 hr (fun c18 hr => ?_)
      refine ml_iload (pc := 136) dX12_blind_136 (mm_get_s (mm_get_s (mm_get_s (mm_get_s (mm_get_s (mm_get_s (mm_get_s (mm_get_s (mm_get_s mm_get_0))))))))) ?_
      refine ml_aload_n (pc := 138) dX12_blind_138 rfl mm_get_0 ?_
      refine mb_gr (pc := 139) dX12_blind_139 fl_X12_90 hr (fun c19 hr => ?_)
      refine mg_sipush (pc := 142) dX12_blind_142 ks_128 ?_
      refine ml_iload (pc := 145) dX12_blind_145 (mm_get_s (mm_get_s (mm_get_s (mm_get_s (mm_get_s (mm_get_s (mm_get_s (mm_get_s mm_get_0)))))))) ?_
      refine mg_imul (pc := 147) dX12_blind_147 ?_
      refine ml_iload (pc := 148) dX12_blind_148 (mm_get_s (mm_get_s (mm_get_s (mm_get_s (mm_get_s (mm_get_s (mm_get_s (mm_get_s (mm_get_s mm_get_0))))))))) ?_
      refine mg_iadd (pc := 150) dX12_blind_150 ?_
      refine mb_ai (pc := 151) dX12_blind_151 hr (fun x20 hr => ?_)
      refine mb_si (pc := 152) dX12_blind_152 hr (fun m21 hr => ?_)
      refine ml_iinc (pc := 153) dX12_blind_153 (mm_get_s (mm_get_s (mm_get_s (mm_get_s (mm_get_s (mm_get_s (mm_get_s (mm_get_s (mm_get_s mm_get_0))))))))) (congrArg (fun z => i9 + z) kc_1) (Nat.le_of_ble_eq_true rfl) (mm_st1_s (mm_st1_s (mm_st1_s (mm_st1_s (mm_st1_s (mm_st1_s (mm_st1_s (mm_st1_s mm_st1_i)))))))) ?_
      refine mg_goto (pc := 156) 124 dX12_blind_156 rfl ?_
      exact mg_weak (mm_le_s (mm_le_s (mm_le_s (mm_le_s (mm_le_s (mm_le_n (mm_le_s (mm_le_n (mm_le_s (mm_le_s (mm_le_n (mm_le_n mm_le_0)))))))))))) (ih _ _ _ hr)
def X12_blind_L116 (e : mm_E) (a0 : Nat) (i1 : Int32) (i2 : Int32) (i3 : Int32) (j4 : Int64) : Nat → Int64 → Int32 → mm_V → Option (Int64 × mm_V)
  | 0, _, _, _ => none
  | n + 1, j6, i8, m => if i8 < 0 then ((X12_portion e j6 j4 (i3 - i3 / (2 : Int32) * (2 : Int32)) m).bind fun r1 => some (r1.1, r1.2)) else (X12_blind_L124 e (X12_blind_L116 e a0 i1 i2 i3 j4 n) a0 i1 i2 i3 j4 j6 i8 e.2.2 (0 : Int32) m)
theorem X12_blind_L116_ok {K : mm_K} {nx : Option Nat} {e : mm_E} (hz : e.2.1 = K.2.2.2.2) {d : Nat} (hd : 5 ≤ d) {a0 : Nat} {i1 : Int32} {i2 : Int32} {i3 : Int32} {j4 : Int64} (h0 : e.1 a0 = some (12, 75)) : ∀ (n : Nat) (j6 : Int64) (i8 : Int32) (m : mm_V) (r : (Int64 × mm_V)), X12_blind_L116 e a0 i1 i2 i3 j4 n j6 i8 m = some r → mm_G K MX12_blind d (mm_Fl e.1 nx r) 116 [some (.ref a0), some (.int i1), some (.int i2), some (.int i3), some (.long j4), none, some (.long j6), none, some (.int i8), none, none, none] [] (e.1, m) nx 0 0 := by
  obtain ⟨d, rfl⟩ : ∃ d', d = d' + 1 := ⟨d - 1, by omega⟩
  intro n
  induction n with
  | zero => intro j6 i8 m r hr; unfold X12_blind_L116 at hr; cases hr
  | succ n ih =>
    intro j6 i8 m r hr
    unfold X12_blind_L116 at hr
    refine ml_iload (pc := 116) dX12_blind_116 (mm_get_s (mm_get_s (mm_get_s (mm_get_s (mm_get_s (mm_get_s (mm_get_s (mm_get_s mm_get_0)))))))) ?_
    refine mb_if_lt (pc := 118) 431 dX12_blind_118 rfl hr (fun hr => ?_) (fun hr => ?_)
    · refine ml_lload (pc := 431) dX12_blind_431 (mm_get_s (mm_get_s (mm_get_s (mm_get_s (mm_get_s (mm_get_s mm_get_0)))))) ?_
      refine ml_lload (pc := 433) dX12_blind_433 (mm_get_s (mm_get_s (mm_get_s (mm_get_s mm_get_0)))) ?_
      refine ml_iload_n (pc := 435) dX12_blind_435 rfl (mm_get_s (mm_get_s (mm_get_s mm_get_0))) ?_
      refine mg_iconst (pc := 436) dX12_blind_436 kc_2 ?_
      refine mg_irem (pc := 437) dX12_blind_437 (by decide) ?_
      refine mb_cSl (pc := 438) (As := [.long j6, .long j4, .int (i3 - i3 / (2 : Int32) * (2 : Int32))]) (rest := []) dX12_blind_438 cw_X12_445  hr (fun v hv => X12_portion_ok hz (by omega)  hv) rfl (Nat.le_of_ble_eq_true rfl) (Nat.zero_le _) (Nat.zero_le _) (fun r1 hr => ?_)
      exact mb_lret dX12_blind_441 rfl hr
    · refine mg_iconst (pc := 121) dX12_blind_121 kc_0 ?_
      refine ml_istore (pc := 122) dX12_blind_122 (Nat.le_of_ble_eq_true rfl) (mm_st1_s (mm_st1_s (mm_st1_s (mm_st1_s (mm_st1_s (mm_st1_s (mm_st1_s (mm_st1_s mm_st1_i)))))))) ?_
      exact mg_weak (mm_le_s (mm_le_s (mm_le_s (mm_le_s (mm_le_s (mm_le_n (mm_le_s (mm_le_n (mm_le_s (mm_le_s (mm_le_n (mm_le_n mm_le_0)))))))))))) (X12_blind_L124_ok hz hd h0 ih _ _ _ _ hr)
def X12_blind_L73 (e : mm_E) (a0 : Nat) (i1 : Int32) (i2 : Int32) (i3 : Int32) (j4 : Int64) (j6 : Int64) (i8 : Int32) : Nat → Int32 → mm_V → Option (Int64 × mm_V)
  | 0, _, _ => none
  | n + 1, i9, m => if (128 : Int32) ≤ i9 then ((mm_gr e.1 m 12 75 a0 56).bind fun c1 => (mm_si e.1 m c1 (0 : Int32) (0 : Int32)).bind fun m2 => (mm_gr e.1 m2 12 75 a0 58).bind fun c3 => (mm_sj e.1 m2 c3 (0 : Int32) j4).bind fun m4 => X12_blind_L116 e a0 i1 i2 i3 j4 e.2.2 j6 i8 m4) else ((mm_gr e.1 m 12 75 a0 55).bind fun c5 => (mm_gr e.1 m 12 75 a0 39).bind fun c6 => (mm_ai e.1 m 20 c6 i9).bind fun x7 => (mm_si e.1 m c5 i9 x7).bind fun m8 => X12_blind_L73 e a0 i1 i2 i3 j4 j6 i8 n (i9 + 1) m8)
theorem X12_blind_L73_ok {K : mm_K} {nx : Option Nat} {e : mm_E} (hz : e.2.1 = K.2.2.2.2) {d : Nat} (hd : 5 ≤ d) {a0 : Nat} {i1 : Int32} {i2 : Int32} {i3 : Int32} {j4 : Int64} {j6 : Int64} {i8 : Int32} (h0 : e.1 a0 = some (12, 75)) : ∀ (n : Nat) (i9 : Int32) (m : mm_V) (r : (Int64 × mm_V)), X12_blind_L73 e a0 i1 i2 i3 j4 j6 i8 n i9 m = some r → mm_G K MX12_blind d (mm_Fl e.1 nx r) 73 [some (.ref a0), some (.int i1), some (.int i2), some (.int i3), some (.long j4), none, some (.long j6), none, some (.int i8), some (.int i9), none, none] [] (e.1, m) nx 0 0 := by
  obtain ⟨d, rfl⟩ : ∃ d', d = d' + 1 := ⟨d - 1, by omega⟩
  intro n
  induction n with
  | zero => intro i9 m r hr; unfold X12_blind_L73 at hr; cases hr
  | succ n ih =>
    intro i9 m r hr
    unfold X12_blind_L73 at hr
    refine ml_iload (pc := 73) dX12_blind_73 (mm_get_s (mm_get_s (mm_get_s (mm_get_s (mm_get_s (mm_get_s (mm_get_s (mm_get_s (mm_get_s mm_get_0))))))))) ?_
    refine mg_sipush (pc := 75) dX12_blind_75 ks_128 ?_
    refine mb_icmp_ge (pc := 78) 101 dX12_blind_78 rfl hr (fun hr => ?_) (fun hr => ?_)
    · refine ml_aload_n (pc := 101) dX12_blind_101 rfl mm_get_0 ?_
      refine mb_gr (pc := 102) dX12_blind_102 fl_X12_93 hr (fun c1 hr => ?_)
      refine mg_iconst (pc := 105) dX12_blind_105 kc_0 ?_
      refine mg_iconst (pc := 106) dX12_blind_106 kc_0 ?_
      refine mb_si (pc := 107) dX12_blind_107 hr (fun m2 hr => ?_)
      refine ml_aload_n (pc := 108) dX12_blind_108 rfl mm_get_0 ?_
      refine mb_gr (pc := 109) dX12_blind_109 fl_X12_99 hr (fun c3 hr => ?_)
      refine mg_iconst (pc := 112) dX12_blind_112 kc_0 ?_
      refine ml_lload (pc := 113) dX12_blind_113 (mm_get_s (mm_get_s (mm_get_s (mm_get_s mm_get_0)))) ?_
      refine mb_sj (pc := 115) dX12_blind_115 hr (fun m4 hr => ?_)
      exact mg_weak (mm_le_s (mm_le_s (mm_le_s (mm_le_s (mm_le_s (mm_le_n (mm_le_s (mm_le_n (mm_le_s (mm_le_n (mm_le_n (mm_le_n mm_le_0)))))))))))) (X12_blind_L116_ok hz hd h0 _ _ _ _ _ hr)
    · refine ml_aload_n (pc := 81) dX12_blind_81 rfl mm_get_0 ?_
      refine mb_gr (pc := 82) dX12_blind_82 fl_X12_90 hr (fun c5 hr => ?_)
      refine ml_iload (pc := 85) dX12_blind_85 (mm_get_s (mm_get_s (mm_get_s (mm_get_s (mm_get_s (mm_get_s (mm_get_s (mm_get_s (mm_get_s mm_get_0))))))))) ?_
      refine ml_aload_n (pc := 87) dX12_blind_87 rfl mm_get_0 ?_
      refine mb_gr (pc := 88) dX12_blind_88 fl_X12_60 hr (fun c6 hr => ?_)
      refine ml_iload (pc := 91) dX12_blind_91 (mm_get_s (mm_get_s (mm_get_s (mm_get_s (mm_get_s (mm_get_s (mm_get_s (mm_get_s (mm_get_s mm_get_0))))))))) ?_
      refine mb_ai (pc := 93) dX12_blind_93 hr (fun x7 hr => ?_)
      refine mb_si (pc := 94) dX12_blind_94 hr (fun m8 hr => ?_)
      refine ml_iinc (pc := 95) dX12_blind_95 (mm_get_s (mm_get_s (mm_get_s (mm_get_s (mm_get_s (mm_get_s (mm_get_s (mm_get_s (mm_get_s mm_get_0))))))))) (congrArg (fun z => i9 + z) kc_1) (Nat.le_of_ble_eq_true rfl) (mm_st1_s (mm_st1_s (mm_st1_s (mm_st1_s (mm_st1_s (mm_st1_s (mm_st1_s (mm_st1_s mm_st1_i)))))))) ?_
      refine mg_goto (pc := 98) 73 dX12_blind_98 rfl ?_
      exact mg_weak (mm_le_s (mm_le_s (mm_le_s (mm_le_s (mm_le_s (mm_le_n (mm_le_s (mm_le_n (mm_le_s (mm_le_s (mm_le_n (mm_le_n mm_le_0)))))))))))) (ih _ _ _ hr)
def X12_blind_L44 (e : mm_E) (a0 : Nat) (i1 : Int32) (i2 : Int32) (i3 : Int32) : Nat → Int64 → Int32 → mm_V → Option (Int64 × mm_V)
  | 0, _, _, _ => none
  | n + 1, j4, i6, m => if i2 ≤ i6 then (X12_blind_L73 e a0 i1 i2 i3 j4 (0 : Int64) (0 : Int32) e.2.2 (0 : Int32) m) else (X12_blind_L44 e a0 i1 i2 i3 n (j4 * (2520 : Int64)) (i6 + 1) m)
theorem X12_blind_L44_ok {K : mm_K} {nx : Option Nat} {e : mm_E} (hz : e.2.1 = K.2.2.2.2) {d : Nat} (hd : 5 ≤ d) {a0 : Nat} {i1 : Int32} {i2 : Int32} {i3 : Int32} (h0 : e.1 a0 = some (12, 75)) : ∀ (n : Nat) (j4 : Int64) (i6 : Int32) (m : mm_V) (r : (Int64 × mm_V)), X12_blind_L44 e a0 i1 i2 i3 n j4 i6 m = some r → mm_G K MX12_blind d (mm_Fl e.1 nx r) 44 [some (.ref a0), some (.int i1), some (.int i2), some (.int i3), some (.long j4), none, some (.int i6), none, none, none, none, none] [] (e.1, m) nx 0 0 := by
  obtain ⟨d, rfl⟩ : ∃ d', d = d' + 1 := ⟨d - 1, by omega⟩
  intro n
  induction n with
  | zero => intro j4 i6 m r hr; unfold X12_blind_L44 at hr; cases hr
  | succ n ih =>
    intro j4 i6 m r hr
    unfold X12_blind_L44 at hr
    refine ml_iload (pc := 44) dX12_blind_44 (mm_get_s (mm_get_s (mm_get_s (mm_get_s (mm_get_s (mm_get_s mm_get_0)))))) ?_
    refine ml_iload_n (pc := 46) dX12_blind_46 rfl (mm_get_s (mm_get_s mm_get_0)) ?_
    refine mb_icmp_ge (pc := 47) 64 dX12_blind_47 rfl hr (fun hr => ?_) (fun hr => ?_)
    · refine mg_lconst (pc := 64) dX12_blind_64 (v := (0 : Int64)) (by decide) ?_
      refine ml_lstore (pc := 65) dX12_blind_65 (Nat.le_of_ble_eq_true rfl) (mm_st2_s (mm_st2_s (mm_st2_s (mm_st2_s (mm_st2_s mm_st2_n))))) ?_
      refine mg_iconst (pc := 67) dX12_blind_67 kc_0 ?_
      refine ml_istore (pc := 68) dX12_blind_68 (Nat.le_of_ble_eq_true rfl) (mm_st1_s (mm_st1_s (mm_st1_s (mm_st1_s (mm_st1_s (mm_st1_s (mm_st1_s mm_st1_n))))))) ?_
      refine mg_iconst (pc := 70) dX12_blind_70 kc_0 ?_
      refine ml_istore (pc := 71) dX12_blind_71 (Nat.le_of_ble_eq_true rfl) (mm_st1_s (mm_st1_s (mm_st1_s (mm_st1_s (mm_st1_s (mm_st1_s (mm_st1_s (mm_st1_s mm_st1_i)))))))) ?_
      exact mg_weak (mm_le_s (mm_le_s (mm_le_s (mm_le_s (mm_le_s (mm_le_n (mm_le_s (mm_le_n (mm_le_s (mm_le_s (mm_le_n (mm_le_n mm_le_0)))))))))))) (X12_blind_L73_ok hz hd h0 _ _ _ _ hr)
    · refine ml_lload (pc := 50) dX12_blind_50 (mm_get_s (mm_get_s (mm_get_s (mm_get_s mm_get_0)))) ?_
      refine mg_ldc2 (pc := 52) dX12_blind_52 (v := (2520 : Int64)) tw_1873 ?_
      refine mg_lmul (pc := 55) dX12_blind_55 ?_
      refine ml_lstore (pc := 56) dX12_blind_56 (Nat.le_of_ble_eq_true rfl) (mm_st2_s (mm_st2_s (mm_st2_s mm_st2_i))) ?_
      refine ml_iinc (pc := 58) dX12_blind_58 (mm_get_s (mm_get_s (mm_get_s (mm_get_s (mm_get_s (mm_get_s mm_get_0)))))) (congrArg (fun z => i6 + z) kc_1) (Nat.le_of_ble_eq_true rfl) (mm_st1_s (mm_st1_s (mm_st1_s (mm_st1_s (mm_st1_s mm_st1_n))))) ?_
      refine mg_goto (pc := 61) 44 dX12_blind_61 rfl ?_
      exact mg_weak (mm_le_s (mm_le_s (mm_le_s (mm_le_s (mm_le_s (mm_le_n (mm_le_s (mm_le_n (mm_le_n (mm_le_n (mm_le_n (mm_le_n mm_le_0)))))))))))) (ih _ _ _ _ hr)
def X12_blind_b36 (e : mm_E) (m : mm_V) : Option (Int64 × mm_V) := some ((0 : Int64), m)
theorem X12_blind_b36_ok {K : mm_K} {nx : Option Nat} {e : mm_E} (hz : e.2.1 = K.2.2.2.2) {d : Nat} (hd : 5 ≤ d) {a0 : Nat} (h0 : e.1 a0 = some (12, 75)) {m : mm_V} {r : (Int64 × mm_V)} (hr : X12_blind_b36 e m = some r) : mm_G K MX12_blind d (mm_Fl e.1 nx r) 36 [none, none, none, none, none, none, none, none, none, none, none, none] [] (e.1, m) nx 0 0 := by
  obtain ⟨d, rfl⟩ : ∃ d', d = d' + 1 := ⟨d - 1, by omega⟩
  unfold X12_blind_b36 at hr
  refine mg_lconst (pc := 36) dX12_blind_36 (v := (0 : Int64)) (by decide) ?_
  exact mb_lret dX12_blind_37 rfl hr
def X12_blind (e : mm_E) (a0 : Nat) (i1 : Int32) (i2 : Int32) (i3 : Int32) (m : mm_V) : Option (Int64 × mm_V) := (mm_pf e.1 m 12 75 a0 0 (.int (0 : Int32))).bind fun m1 => (X12_isPerson e a0 i1 m1).bind fun r2 => if r2.1 = 0 then (X12_blind_b36 e   r2.2) else ((X12_isWhat e a0 i3 (5 : Int32) r2.2).bind fun r3 => if r3.1 = 0 then (X12_blind_b36 e   r3.2) else ((X12_within e i2 (0 : Int32) (4 : Int32) r3.2).bind fun r4 => (X12_right e a0 r4.1 (2 : Int32) r4.2).bind fun r5 => if ¬ r5.1 = 0 then (X12_blind_L44 e a0 i1 i2 i3 e.2.2 (1 : Int64) (0 : Int32) r5.2) else (X12_blind_b36 e   r5.2)))
theorem X12_blind_ok {K : mm_K} {nx : Option Nat} {e : mm_E} (hz : e.2.1 = K.2.2.2.2) {d : Nat} (hd : 5 ≤ d) {a0 : Nat} {i1 : Int32} {i2 : Int32} {i3 : Int32} (h0 : e.1 a0 = some (12, 75)) {m : mm_V} {r : (Int64 × mm_V)} (hr : X12_blind e a0 i1 i2 i3 m = some r) : mm_Cn K MX12_blind d (mm_Fl e.1 nx r) [.ref a0, .int i1, .int i2, .int i3] (e.1, m) nx := by
  obtain ⟨d, rfl⟩ : ∃ d', d = d' + 1 := ⟨d - 1, by omega⟩
  refine mm_entry (by decide) (Nat.le_of_ble_eq_true rfl) rfl (fun hok => ?_)
  unfold X12_blind at hr
  refine mg_weak (L' := [some (.ref a0), some (.int i1), some (.int i2), some (.int i3), none, none, none, none, none, none, none, none]) (mm_le_s (mm_le_s (mm_le_s (mm_le_s (mm_le_e (mm_le_e (mm_le_e (mm_le_e (mm_le_e (mm_le_e (mm_le_e (mm_le_e mm_le_0)))))))))))) ?_
  refine ml_aload_n (pc := 0) dX12_blind_0 rfl mm_get_0 ?_
  refine mg_iconst (pc := 1) dX12_blind_1 kc_0 ?_
  refine mb_pi (pc := 2) dX12_blind_2 fp_X12_152 hr (fun m1 hr => ?_)
  refine ml_aload_n (pc := 5) dX12_blind_5 rfl mm_get_0 ?_
  refine ml_iload_n (pc := 6) dX12_blind_6 rfl (mm_get_s mm_get_0) ?_
  refine mb_cVi (pc := 7) (As := [.int i1]) (rest := []) dX12_blind_7 cw_X12_376 h0 hr (fun v hv => X12_isPerson_ok hz (by omega) h0 hv) rfl (Nat.le_of_ble_eq_true rfl) (Nat.zero_le _) (Nat.zero_le _) (fun r2 hr => ?_)
  refine mb_if_eq (pc := 10) 36 dX12_blind_10 rfl hr (fun hr => ?_) (fun hr => ?_)
  · exact mg_weak (mm_le_n (mm_le_n (mm_le_n (mm_le_n (mm_le_n (mm_le_n (mm_le_n (mm_le_n (mm_le_n (mm_le_n (mm_le_n (mm_le_n mm_le_0)))))))))))) (X12_blind_b36_ok hz hd h0 hr)
  · refine ml_aload_n (pc := 13) dX12_blind_13 rfl mm_get_0 ?_
    refine ml_iload_n (pc := 14) dX12_blind_14 rfl (mm_get_s (mm_get_s (mm_get_s mm_get_0))) ?_
    refine mg_iconst (pc := 15) dX12_blind_15 kc_5 ?_
    refine mb_cVi (pc := 16) (As := [.int i3, .int (5 : Int32)]) (rest := []) dX12_blind_16 cw_X12_393 h0 hr (fun v hv => X12_isWhat_ok hz (by omega) h0 hv) rfl (Nat.le_of_ble_eq_true rfl) (Nat.zero_le _) (Nat.zero_le _) (fun r3 hr => ?_)
    refine mb_if_eq (pc := 19) 36 dX12_blind_19 rfl hr (fun hr => ?_) (fun hr => ?_)
    · exact mg_weak (mm_le_n (mm_le_n (mm_le_n (mm_le_n (mm_le_n (mm_le_n (mm_le_n (mm_le_n (mm_le_n (mm_le_n (mm_le_n (mm_le_n mm_le_0)))))))))))) (X12_blind_b36_ok hz hd h0 hr)
    · refine ml_aload_n (pc := 22) dX12_blind_22 rfl mm_get_0 ?_
      refine ml_iload_n (pc := 23) dX12_blind_23 rfl (mm_get_s (mm_get_s mm_get_0)) ?_
      refine mg_iconst (pc := 24) dX12_blind_24 kc_0 ?_
      refine mg_iconst (pc := 25) dX12_blind_25 kc_4 ?_
      refine mb_cSi (pc := 26) (As := [.int i2, .int (0 : Int32), .int (4 : Int32)]) (rest := [.ref a0]) dX12_blind_26 cw_X12_368  hr (fun v hv => X12_within_ok hz (by omega)  hv) rfl (Nat.le_of_ble_eq_true rfl) (Nat.zero_le _) (Nat.zero_le _) (fun r4 hr => ?_)
      refine mg_iconst (pc := 29) dX12_blind_29 kc_2 ?_
      refine mb_cVi (pc := 30) (As := [.int r4.1, .int (2 : Int32)]) (rest := []) dX12_blind_30 cw_X12_306 h0 hr (fun v hv => X12_right_ok hz (by omega) h0 hv) rfl (Nat.le_of_ble_eq_true rfl) (Nat.zero_le _) (Nat.zero_le _) (fun r5 hr => ?_)
      refine mb_if_ne (pc := 33) 38 dX12_blind_33 rfl hr (fun hr => ?_) (fun hr => ?_)
      · refine mg_lconst (pc := 38) dX12_blind_38 (v := (1 : Int64)) (by decide) ?_
        refine ml_lstore (pc := 39) dX12_blind_39 (Nat.le_of_ble_eq_true rfl) (mm_st2_s (mm_st2_s (mm_st2_s mm_st2_i))) ?_
        refine mg_iconst (pc := 41) dX12_blind_41 kc_0 ?_
        refine ml_istore (pc := 42) dX12_blind_42 (Nat.le_of_ble_eq_true rfl) (mm_st1_s (mm_st1_s (mm_st1_s (mm_st1_s (mm_st1_s mm_st1_n))))) ?_
        exact mg_weak (mm_le_s (mm_le_s (mm_le_s (mm_le_s (mm_le_s (mm_le_n (mm_le_s (mm_le_n (mm_le_n (mm_le_n (mm_le_n (mm_le_n mm_le_0)))))))))))) (X12_blind_L44_ok hz hd h0 _ _ _ _ _ hr)
      · exact mg_weak (mm_le_n (mm_le_n (mm_le_n (mm_le_n (mm_le_n (mm_le_n (mm_le_n (mm_le_n (mm_le_n (mm_le_n (mm_le_n (mm_le_n mm_le_0)))))))))))) (X12_blind_b36_ok hz hd h0 hr)
theorem dX12_two_0 : decode cX12_two 0 = .ok (.aload_n 0, 1) := by decide +kernel
theorem dX12_two_1 : decode cX12_two 1 = .ok (.iconst 0, 1) := by decide +kernel
theorem dX12_two_2 : decode cX12_two 2 = .ok (.putfield 152, 3) := by decide +kernel
theorem dX12_two_5 : decode cX12_two 5 = .ok (.aload_n 0, 1) := by decide +kernel
theorem dX12_two_6 : decode cX12_two 6 = .ok (.iload_n 3, 1) := by decide +kernel
theorem dX12_two_7 : decode cX12_two 7 = .ok (.iconst 1, 1) := by decide +kernel
theorem dX12_two_8 : decode cX12_two 8 = .ok (.invokevirtual 393, 3) := by decide +kernel
theorem dX12_two_11 : decode cX12_two 11 = .ok (.ifCond .eq 18, 3) := by decide +kernel
theorem dX12_two_14 : decode cX12_two 14 = .ok (.aload_n 0, 1) := by decide +kernel
theorem dX12_two_15 : decode cX12_two 15 = .ok (.iload_n 1, 1) := by decide +kernel
theorem dX12_two_16 : decode cX12_two 16 = .ok (.iconst 0, 1) := by decide +kernel
theorem dX12_two_17 : decode cX12_two 17 = .ok (.bipush 13, 2) := by decide +kernel
theorem dX12_two_19 : decode cX12_two 19 = .ok (.invokestatic 368, 3) := by decide +kernel
theorem dX12_two_22 : decode cX12_two 22 = .ok (.iconst 2, 1) := by decide +kernel
theorem dX12_two_23 : decode cX12_two 23 = .ok (.invokevirtual 306, 3) := by decide +kernel
theorem dX12_two_26 : decode cX12_two 26 = .ok (.ifCond .ne 5, 3) := by decide +kernel
theorem dX12_two_29 : decode cX12_two 29 = .ok (.lconst 0, 1) := by decide +kernel
theorem dX12_two_30 : decode cX12_two 30 = .ok (.lreturn, 1) := by decide +kernel
theorem dX12_two_31 : decode cX12_two 31 = .ok (.iload_n 2, 1) := by decide +kernel
theorem dX12_two_32 : decode cX12_two 32 = .ok (.ifCond .eq 9, 3) := by decide +kernel
theorem dX12_two_35 : decode cX12_two 35 = .ok (.iload_n 1, 1) := by decide +kernel
theorem dX12_two_36 : decode cX12_two 36 = .ok (.iconst 1, 1) := by decide +kernel
theorem dX12_two_37 : decode cX12_two 37 = .ok (.isub, 1) := by decide +kernel
theorem dX12_two_38 : decode cX12_two 38 = .ok (.goto 4, 3) := by decide +kernel
theorem dX12_two_41 : decode cX12_two 41 = .ok (.iload_n 1, 1) := by decide +kernel
theorem dX12_two_42 : decode cX12_two 42 = .ok (.istore 4, 2) := by decide +kernel
theorem dX12_two_44 : decode cX12_two 44 = .ok (.iload 4, 2) := by decide +kernel
theorem dX12_two_46 : decode cX12_two 46 = .ok (.ifCond .ge 5, 3) := by decide +kernel
theorem dX12_two_49 : decode cX12_two 49 = .ok (.lconst 1, 1) := by decide +kernel
theorem dX12_two_50 : decode cX12_two 50 = .ok (.lreturn, 1) := by decide +kernel
theorem dX12_two_51 : decode cX12_two 51 = .ok (.lconst 0, 1) := by decide +kernel
theorem dX12_two_52 : decode cX12_two 52 = .ok (.lstore 5, 2) := by decide +kernel
theorem dX12_two_54 : decode cX12_two 54 = .ok (.lconst 1, 1) := by decide +kernel
theorem dX12_two_55 : decode cX12_two 55 = .ok (.lstore 7, 2) := by decide +kernel
theorem dX12_two_57 : decode cX12_two 57 = .ok (.iload 4, 2) := by decide +kernel
theorem dX12_two_59 : decode cX12_two 59 = .ok (.iconst 2, 1) := by decide +kernel
theorem dX12_two_60 : decode cX12_two 60 = .ok (.irem, 1) := by decide +kernel
theorem dX12_two_61 : decode cX12_two 61 = .ok (.iconst 1, 1) := by decide +kernel
theorem dX12_two_62 : decode cX12_two 62 = .ok (.if_icmp .ne 11, 3) := by decide +kernel
theorem dX12_two_65 : decode cX12_two 65 = .ok (.lconst 1, 1) := by decide +kernel
theorem dX12_two_66 : decode cX12_two 66 = .ok (.lstore 5, 2) := by decide +kernel
theorem dX12_two_68 : decode cX12_two 68 = .ok (.ldc2_w 449, 3) := by decide +kernel
theorem dX12_two_71 : decode cX12_two 71 = .ok (.lstore 7, 2) := by decide +kernel
theorem dX12_two_73 : decode cX12_two 73 = .ok (.iload 4, 2) := by decide +kernel
theorem dX12_two_75 : decode cX12_two 75 = .ok (.iconst 2, 1) := by decide +kernel
theorem dX12_two_76 : decode cX12_two 76 = .ok (.irem, 1) := by decide +kernel
theorem dX12_two_77 : decode cX12_two 77 = .ok (.iconst 2, 1) := by decide +kernel
theorem dX12_two_78 : decode cX12_two 78 = .ok (.iadd, 1) := by decide +kernel
theorem dX12_two_79 : decode cX12_two 79 = .ok (.istore 9, 2) := by decide +kernel
theorem dX12_two_81 : decode cX12_two 81 = .ok (.iload 9, 2) := by decide +kernel
theorem dX12_two_83 : decode cX12_two 83 = .ok (.iload 4, 2) := by decide +kernel
theorem dX12_two_85 : decode cX12_two 85 = .ok (.if_icmp .gt 50, 3) := by decide +kernel
theorem dX12_two_88 : decode cX12_two 88 = .ok (.iload 9, 2) := by decide +kernel
theorem dX12_two_90 : decode cX12_two 90 = .ok (.i2l, 1) := by decide +kernel
theorem dX12_two_91 : decode cX12_two 91 = .ok (.lload 5, 2) := by decide +kernel
theorem dX12_two_93 : decode cX12_two 93 = .ok (.lmul, 1) := by decide +kernel
theorem dX12_two_94 : decode cX12_two 94 = .ok (.lload 7, 2) := by decide +kernel
theorem dX12_two_96 : decode cX12_two 96 = .ok (.ladd, 1) := by decide +kernel
theorem dX12_two_97 : decode cX12_two 97 = .ok (.lstore 10, 2) := by decide +kernel
theorem dX12_two_99 : decode cX12_two 99 = .ok (.lload 7, 2) := by decide +kernel
theorem dX12_two_101 : decode cX12_two 101 = .ok (.iload 9, 2) := by decide +kernel
theorem dX12_two_103 : decode cX12_two 103 = .ok (.iconst 2, 1) := by decide +kernel
theorem dX12_two_104 : decode cX12_two 104 = .ok (.iadd, 1) := by decide +kernel
theorem dX12_two_105 : decode cX12_two 105 = .ok (.i2l, 1) := by decide +kernel
theorem dX12_two_106 : decode cX12_two 106 = .ok (.lmul, 1) := by decide +kernel
theorem dX12_two_107 : decode cX12_two 107 = .ok (.lstore 12, 2) := by decide +kernel
theorem dX12_two_109 : decode cX12_two 109 = .ok (.lload 10, 2) := by decide +kernel
theorem dX12_two_111 : decode cX12_two 111 = .ok (.lload 12, 2) := by decide +kernel
theorem dX12_two_113 : decode cX12_two 113 = .ok (.iconst 0, 1) := by decide +kernel
theorem dX12_two_114 : decode cX12_two 114 = .ok (.invokestatic 445, 3) := by decide +kernel
theorem dX12_two_117 : decode cX12_two 117 = .ok (.lstore 5, 2) := by decide +kernel
theorem dX12_two_119 : decode cX12_two 119 = .ok (.lload 10, 2) := by decide +kernel
theorem dX12_two_121 : decode cX12_two 121 = .ok (.lload 12, 2) := by decide +kernel
theorem dX12_two_123 : decode cX12_two 123 = .ok (.iconst 1, 1) := by decide +kernel
theorem dX12_two_124 : decode cX12_two 124 = .ok (.invokestatic 445, 3) := by decide +kernel
theorem dX12_two_127 : decode cX12_two 127 = .ok (.lstore 7, 2) := by decide +kernel
theorem dX12_two_129 : decode cX12_two 129 = .ok (.iinc 9 2, 3) := by decide +kernel
theorem dX12_two_132 : decode cX12_two 132 = .ok (.goto (-51), 3) := by decide +kernel
theorem dX12_two_135 : decode cX12_two 135 = .ok (.iload_n 2, 1) := by decide +kernel
theorem dX12_two_136 : decode cX12_two 136 = .ok (.ifCond .eq 11, 3) := by decide +kernel
theorem dX12_two_139 : decode cX12_two 139 = .ok (.lload 7, 2) := by decide +kernel
theorem dX12_two_141 : decode cX12_two 141 = .ok (.lload 5, 2) := by decide +kernel
theorem dX12_two_143 : decode cX12_two 143 = .ok (.lsub, 1) := by decide +kernel
theorem dX12_two_144 : decode cX12_two 144 = .ok (.goto 5, 3) := by decide +kernel
theorem dX12_two_147 : decode cX12_two 147 = .ok (.lload 5, 2) := by decide +kernel
theorem dX12_two_149 : decode cX12_two 149 = .ok (.lload 7, 2) := by decide +kernel
theorem dX12_two_151 : decode cX12_two 151 = .ok (.iload_n 3, 1) := by decide +kernel
theorem dX12_two_152 : decode cX12_two 152 = .ok (.invokestatic 445, 3) := by decide +kernel
theorem dX12_two_155 : decode cX12_two 155 = .ok (.lreturn, 1) := by decide +kernel
def X12_two_b149 (e : mm_E) (i3 : Int32) (j7 : Int64) (t0 : Int64) (m : mm_V) : Option (Int64 × mm_V) := (X12_portion e t0 j7 i3 m).bind fun r1 => some (r1.1, r1.2)
theorem X12_two_b149_ok {K : mm_K} {nx : Option Nat} {e : mm_E} (hz : e.2.1 = K.2.2.2.2) {d : Nat} (hd : 2 ≤ d) {i3 : Int32} {j7 : Int64} {t0 : Int64} {a0 : Nat} (h0 : e.1 a0 = some (12, 75)) {m : mm_V} {r : (Int64 × mm_V)} (hr : X12_two_b149 e i3 j7 t0 m = some r) : mm_G K MX12_two d (mm_Fl e.1 nx r) 149 [none, none, none, some (.int i3), none, none, none, some (.long j7), none, none, none, none, none, none] [.long t0] (e.1, m) nx 0 0 := by
  obtain ⟨d, rfl⟩ : ∃ d', d = d' + 1 := ⟨d - 1, by omega⟩
  unfold X12_two_b149 at hr
  refine ml_lload (pc := 149) dX12_two_149 (mm_get_s (mm_get_s (mm_get_s (mm_get_s (mm_get_s (mm_get_s (mm_get_s mm_get_0))))))) ?_
  refine ml_iload_n (pc := 151) dX12_two_151 rfl (mm_get_s (mm_get_s (mm_get_s mm_get_0))) ?_
  refine mb_cSl (pc := 152) (As := [.long t0, .long j7, .int i3]) (rest := []) dX12_two_152 cw_X12_445  hr (fun v hv => X12_portion_ok hz (by omega)  hv) rfl (Nat.le_of_ble_eq_true rfl) (Nat.zero_le _) (Nat.zero_le _) (fun r1 hr => ?_)
  exact mb_lret dX12_two_155 rfl hr
def X12_two_L81 (e : mm_E) (i2 : Int32) (i3 : Int32) (i4 : Int32) : Nat → Int64 → Int64 → Int32 → mm_V → Option (Int64 × mm_V)
  | 0, _, _, _, _ => none
  | n + 1, j5, j7, i9, m => if i4 < i9 then (if i2 = 0 then (X12_two_b149 e i3 j7 j5 m) else (X12_two_b149 e i3 j7 (j7 - j5) m)) else ((X12_portion e ((i9.toInt64 * j5) + j7) (j7 * (i9 + (2 : Int32)).toInt64) (0 : Int32) m).bind fun r1 => (X12_portion e ((i9.toInt64 * j5) + j7) (j7 * (i9 + (2 : Int32)).toInt64) (1 : Int32) r1.2).bind fun r2 => X12_two_L81 e i2 i3 i4 n r1.1 r2.1 (i9 + 2) r2.2)
theorem X12_two_L81_ok {K : mm_K} {nx : Option Nat} {e : mm_E} (hz : e.2.1 = K.2.2.2.2) {d : Nat} (hd : 2 ≤ d) {i2 : Int32} {i3 : Int32} {i4 : Int32} {a0 : Nat} (h0 : e.1 a0 = some (12, 75)) : ∀ (n : Nat) (j5 : Int64) (j7 : Int64) (i9 : Int32) (m : mm_V) (r : (Int64 × mm_V)), X12_two_L81 e i2 i3 i4 n j5 j7 i9 m = some r → mm_G K MX12_two d (mm_Fl e.1 nx r) 81 [none, none, some (.int i2), some (.int i3), some (.int i4), some (.long j5), none, some (.long j7), none, some (.int i9), none, none, none, none] [] (e.1, m) nx 0 0 := by
  obtain ⟨d, rfl⟩ : ∃ d', d = d' + 1 := ⟨d - 1, by omega⟩
  intro n
  induction n with
  | zero => intro j5 j7 i9 m r hr; unfold X12_two_L81 at hr; cases hr
  | succ n ih =>
    intro j5 j7 i9 m r hr
    unfold X12_two_L81 at hr
    refine ml_iload (pc := 81) dX12_two_81 (mm_get_s (mm_get_s (mm_get_s (mm_get_s (mm_get_s (mm_get_s (mm_get_s (mm_get_s (mm_get_s mm_get_0))))))))) ?_
    refine ml_iload (pc := 83) dX12_two_83 (mm_get_s (mm_get_s (mm_get_s (mm_get_s mm_get_0)))) ?_
    refine mb_icmp_gt (pc := 85) 135 dX12_two_85 rfl hr (fun hr => ?_) (fun hr => ?_)
    · refine ml_iload_n (pc := 135) dX12_two_135 rfl (mm_get_s (mm_get_s mm_get_0)) ?_
      refine mb_if_eq (pc := 136) 147 dX12_two_136 rfl hr (fun hr => ?_) (fun hr => ?_)
      · refine ml_lload (pc := 147) dX12_two_147 (mm_get_s (mm_get_s (mm_get_s (mm_get_s (mm_get_s mm_get_0))))) ?_
        exact mg_weak (mm_le_n (mm_le_n (mm_le_n (mm_le_s (mm_le_n (mm_le_n (mm_le_n (mm_le_s (mm_le_n (mm_le_n (mm_le_n (mm_le_n (mm_le_n (mm_le_n mm_le_0)))))))))))))) (X12_two_b149_ok hz hd h0 hr)
      · refine ml_lload (pc := 139) dX12_two_139 (mm_get_s (mm_get_s (mm_get_s (mm_get_s (mm_get_s (mm_get_s (mm_get_s mm_get_0))))))) ?_
        refine ml_lload (pc := 141) dX12_two_141 (mm_get_s (mm_get_s (mm_get_s (mm_get_s (mm_get_s mm_get_0))))) ?_
        refine mg_lsub (pc := 143) dX12_two_143 ?_
        refine mg_goto (pc := 144) 149 dX12_two_144 rfl ?_
        exact mg_weak (mm_le_n (mm_le_n (mm_le_n (mm_le_s (mm_le_n (mm_le_n (mm_le_n (mm_le_s (mm_le_n (mm_le_n (mm_le_n (mm_le_n (mm_le_n (mm_le_n mm_le_0)))))))))))))) (X12_two_b149_ok hz hd h0 hr)
    · refine ml_iload (pc := 88) dX12_two_88 (mm_get_s (mm_get_s (mm_get_s (mm_get_s (mm_get_s (mm_get_s (mm_get_s (mm_get_s (mm_get_s mm_get_0))))))))) ?_
      refine mg_i2l (pc := 90) dX12_two_90 ?_
      refine ml_lload (pc := 91) dX12_two_91 (mm_get_s (mm_get_s (mm_get_s (mm_get_s (mm_get_s mm_get_0))))) ?_
      refine mg_lmul (pc := 93) dX12_two_93 ?_
      refine ml_lload (pc := 94) dX12_two_94 (mm_get_s (mm_get_s (mm_get_s (mm_get_s (mm_get_s (mm_get_s (mm_get_s mm_get_0))))))) ?_
      refine mg_ladd (pc := 96) dX12_two_96 ?_
      refine ml_lstore (pc := 97) dX12_two_97 (Nat.le_of_ble_eq_true rfl) (mm_st2_s (mm_st2_s (mm_st2_s (mm_st2_s (mm_st2_s (mm_st2_s (mm_st2_s (mm_st2_s (mm_st2_s mm_st2_i))))))))) ?_
      refine ml_lload (pc := 99) dX12_two_99 (mm_get_s (mm_get_s (mm_get_s (mm_get_s (mm_get_s (mm_get_s (mm_get_s mm_get_0))))))) ?_
      refine ml_iload (pc := 101) dX12_two_101 (mm_get_s (mm_get_s (mm_get_s (mm_get_s (mm_get_s (mm_get_s (mm_get_s (mm_get_s (mm_get_s mm_get_0))))))))) ?_
      refine mg_iconst (pc := 103) dX12_two_103 kc_2 ?_
      refine mg_iadd (pc := 104) dX12_two_104 ?_
      refine mg_i2l (pc := 105) dX12_two_105 ?_
      refine mg_lmul (pc := 106) dX12_two_106 ?_
      refine ml_lstore (pc := 107) dX12_two_107 (Nat.le_of_ble_eq_true rfl) (mm_st2_s (mm_st2_s (mm_st2_s (mm_st2_s (mm_st2_s (mm_st2_s (mm_st2_s (mm_st2_s (mm_st2_s (mm_st2_s (mm_st2_s mm_st2_n))))))))))) ?_
      refine ml_lload (pc := 109) dX12_two_109 (mm_get_s (mm_get_s (mm_get_s (mm_get_s (mm_get_s (mm_get_s (mm_get_s (mm_get_s (mm_get_s (mm_get_s mm_get_0)))))))))) ?_
      refine ml_lload (pc := 111) dX12_two_111 (mm_get_s (mm_get_s (mm_get_s (mm_get_s (mm_get_s (mm_get_s (mm_get_s (mm_get_s (mm_get_s (mm_get_s (mm_get_s (mm_get_s mm_get_0)))))))))))) ?_
      refine mg_iconst (pc := 113) dX12_two_113 kc_0 ?_
      refine mb_cSl (pc := 114) (As := [.long ((i9.toInt64 * j5) + j7), .long (j7 * (i9 + (2 : Int32)).toInt64), .int (0 : Int32)]) (rest := []) dX12_two_114 cw_X12_445  hr (fun v hv => X12_portion_ok hz (by omega)  hv) rfl (Nat.le_of_ble_eq_true rfl) (Nat.zero_le _) (Nat.zero_le _) (fun r1 hr => ?_)
      refine ml_lstore (pc := 117) dX12_two_117 (Nat.le_of_ble_eq_true rfl) (mm_st2_s (mm_st2_s (mm_st2_s (mm_st2_s mm_st2_i)))) ?_
      refine ml_lload (pc := 119) dX12_two_119 (mm_get_s (mm_get_s (mm_get_s (mm_get_s (mm_get_s (mm_get_s (mm_get_s (mm_get_s (mm_get_s (mm_get_s mm_get_0)))))))))) ?_
      refine ml_lload (pc := 121) dX12_two_121 (mm_get_s (mm_get_s (mm_get_s (mm_get_s (mm_get_s (mm_get_s (mm_get_s (mm_get_s (mm_get_s (mm_get_s (mm_get_s (mm_get_s mm_get_0)))))))))))) ?_
      refine mg_iconst (pc := 123) dX12_two_123 kc_1 ?_
      refine mb_cSl (pc := 124) (As := [.long ((i9.toInt64 * j5) + j7), .long (j7 * (i9 + (2 : Int32)).toInt64), .int (1 : Int32)]) (rest := []) dX12_two_124 cw_X12_445  hr (fun v hv => X12_portion_ok hz (by omega)  hv) rfl (Nat.le_of_ble_eq_true rfl) (Nat.zero_le _) (Nat.zero_le _) (fun r2 hr => ?_)
      refine ml_lstore (pc := 127) dX12_two_127 (Nat.le_of_ble_eq_true rfl) (mm_st2_s (mm_st2_s (mm_st2_s (mm_st2_s (mm_st2_s (mm_st2_s mm_st2_n)))))) ?_
      refine ml_iinc (pc := 129) dX12_two_129 (mm_get_s (mm_get_s (mm_get_s (mm_get_s (mm_get_s (mm_get_s (mm_get_s (mm_get_s (mm_get_s mm_get_0))))))))) (congrArg (fun z => i9 + z) kc_2) (Nat.le_of_ble_eq_true rfl) (mm_st1_s (mm_st1_s (mm_st1_s (mm_st1_s (mm_st1_s (mm_st1_s (mm_st1_s (mm_st1_s mm_st1_n)))))))) ?_
      refine mg_goto (pc := 132) 81 dX12_two_132 rfl ?_
      exact mg_weak (mm_le_n (mm_le_n (mm_le_s (mm_le_s (mm_le_s (mm_le_s (mm_le_n (mm_le_s (mm_le_n (mm_le_s (mm_le_n (mm_le_n (mm_le_n (mm_le_n mm_le_0)))))))))))))) (ih _ _ _ _ _ hr)
def X12_two_b73 (e : mm_E) (i2 : Int32) (i3 : Int32) (i4 : Int32) (j5 : Int64) (j7 : Int64) (m : mm_V) : Option (Int64 × mm_V) := X12_two_L81 e i2 i3 i4 e.2.2 j5 j7 ((i4 - i4 / (2 : Int32) * (2 : Int32)) + (2 : Int32)) m
theorem X12_two_b73_ok {K : mm_K} {nx : Option Nat} {e : mm_E} (hz : e.2.1 = K.2.2.2.2) {d : Nat} (hd : 2 ≤ d) {i2 : Int32} {i3 : Int32} {i4 : Int32} {j5 : Int64} {j7 : Int64} {a0 : Nat} (h0 : e.1 a0 = some (12, 75)) {m : mm_V} {r : (Int64 × mm_V)} (hr : X12_two_b73 e i2 i3 i4 j5 j7 m = some r) : mm_G K MX12_two d (mm_Fl e.1 nx r) 73 [none, none, some (.int i2), some (.int i3), some (.int i4), some (.long j5), none, some (.long j7), none, none, none, none, none, none] [] (e.1, m) nx 0 0 := by
  obtain ⟨d, rfl⟩ : ∃ d', d = d' + 1 := ⟨d - 1, by omega⟩
  unfold X12_two_b73 at hr
  refine ml_iload (pc := 73) dX12_two_73 (mm_get_s (mm_get_s (mm_get_s (mm_get_s mm_get_0)))) ?_
  refine mg_iconst (pc := 75) dX12_two_75 kc_2 ?_
  refine mg_irem (pc := 76) dX12_two_76 (by decide) ?_
  refine mg_iconst (pc := 77) dX12_two_77 kc_2 ?_
  refine mg_iadd (pc := 78) dX12_two_78 ?_
  refine ml_istore (pc := 79) dX12_two_79 (Nat.le_of_ble_eq_true rfl) (mm_st1_s (mm_st1_s (mm_st1_s (mm_st1_s (mm_st1_s (mm_st1_s (mm_st1_s (mm_st1_s mm_st1_n)))))))) ?_
  exact mg_weak (mm_le_n (mm_le_n (mm_le_s (mm_le_s (mm_le_s (mm_le_s (mm_le_n (mm_le_s (mm_le_n (mm_le_s (mm_le_n (mm_le_n (mm_le_n (mm_le_n mm_le_0)))))))))))))) (X12_two_L81_ok hz hd h0 _ _ _ _ _ _ hr)
def X12_two_b42 (e : mm_E) (i2 : Int32) (i3 : Int32) (t0 : Int32) (m : mm_V) : Option (Int64 × mm_V) := if 0 ≤ t0 then (if ¬ (t0 - t0 / (2 : Int32) * (2 : Int32)) = (1 : Int32) then (X12_two_b73 e i2 i3 t0 (0 : Int64) (1 : Int64)  m) else (X12_two_b73 e i2 i3 t0 (1 : Int64) (3 : Int64)  m)) else (some ((1 : Int64), m))
theorem X12_two_b42_ok {K : mm_K} {nx : Option Nat} {e : mm_E} (hz : e.2.1 = K.2.2.2.2) {d : Nat} (hd : 2 ≤ d) {i2 : Int32} {i3 : Int32} {t0 : Int32} {a0 : Nat} (h0 : e.1 a0 = some (12, 75)) {m : mm_V} {r : (Int64 × mm_V)} (hr : X12_two_b42 e i2 i3 t0 m = some r) : mm_G K MX12_two d (mm_Fl e.1 nx r) 42 [none, none, some (.int i2), some (.int i3), none, none, none, none, none, none, none, none, none, none] [.int t0] (e.1, m) nx 0 0 := by
  obtain ⟨d, rfl⟩ : ∃ d', d = d' + 1 := ⟨d - 1, by omega⟩
  unfold X12_two_b42 at hr
  refine ml_istore (pc := 42) dX12_two_42 (Nat.le_of_ble_eq_true rfl) (mm_st1_s (mm_st1_s (mm_st1_s mm_st1_i))) ?_
  refine ml_iload (pc := 44) dX12_two_44 (mm_get_s (mm_get_s (mm_get_s (mm_get_s mm_get_0)))) ?_
  refine mb_if_ge (pc := 46) 51 dX12_two_46 rfl hr (fun hr => ?_) (fun hr => ?_)
  · refine mg_lconst (pc := 51) dX12_two_51 (v := (0 : Int64)) (by decide) ?_
    refine ml_lstore (pc := 52) dX12_two_52 (Nat.le_of_ble_eq_true rfl) (mm_st2_s (mm_st2_s (mm_st2_s (mm_st2_s mm_st2_i)))) ?_
    refine mg_lconst (pc := 54) dX12_two_54 (v := (1 : Int64)) (by decide) ?_
    refine ml_lstore (pc := 55) dX12_two_55 (Nat.le_of_ble_eq_true rfl) (mm_st2_s (mm_st2_s (mm_st2_s (mm_st2_s (mm_st2_s (mm_st2_s mm_st2_n)))))) ?_
    refine ml_iload (pc := 57) dX12_two_57 (mm_get_s (mm_get_s (mm_get_s (mm_get_s mm_get_0)))) ?_
    refine mg_iconst (pc := 59) dX12_two_59 kc_2 ?_
    refine mg_irem (pc := 60) dX12_two_60 (by decide) ?_
    refine mg_iconst (pc := 61) dX12_two_61 kc_1 ?_
    refine mb_icmp_ne (pc := 62) 73 dX12_two_62 rfl hr (fun hr => ?_) (fun hr => ?_)
    · exact mg_weak (mm_le_n (mm_le_n (mm_le_s (mm_le_s (mm_le_s (mm_le_s (mm_le_n (mm_le_s (mm_le_n (mm_le_n (mm_le_n (mm_le_n (mm_le_n (mm_le_n mm_le_0)))))))))))))) (X12_two_b73_ok hz hd h0 hr)
    · refine mg_lconst (pc := 65) dX12_two_65 (v := (1 : Int64)) (by decide) ?_
      refine ml_lstore (pc := 66) dX12_two_66 (Nat.le_of_ble_eq_true rfl) (mm_st2_s (mm_st2_s (mm_st2_s (mm_st2_s mm_st2_i)))) ?_
      refine mg_ldc2 (pc := 68) dX12_two_68 (v := (3 : Int64)) tw_1885 ?_
      refine ml_lstore (pc := 71) dX12_two_71 (Nat.le_of_ble_eq_true rfl) (mm_st2_s (mm_st2_s (mm_st2_s (mm_st2_s (mm_st2_s (mm_st2_s mm_st2_n)))))) ?_
      exact mg_weak (mm_le_n (mm_le_n (mm_le_s (mm_le_s (mm_le_s (mm_le_s (mm_le_n (mm_le_s (mm_le_n (mm_le_n (mm_le_n (mm_le_n (mm_le_n (mm_le_n mm_le_0)))))))))))))) (X12_two_b73_ok hz hd h0 hr)
  · refine mg_lconst (pc := 49) dX12_two_49 (v := (1 : Int64)) (by decide) ?_
    exact mb_lret dX12_two_50 rfl hr
def X12_two_b29 (e : mm_E) (m : mm_V) : Option (Int64 × mm_V) := some ((0 : Int64), m)
theorem X12_two_b29_ok {K : mm_K} {nx : Option Nat} {e : mm_E} (hz : e.2.1 = K.2.2.2.2) {d : Nat} (hd : 2 ≤ d) {a0 : Nat} (h0 : e.1 a0 = some (12, 75)) {m : mm_V} {r : (Int64 × mm_V)} (hr : X12_two_b29 e m = some r) : mm_G K MX12_two d (mm_Fl e.1 nx r) 29 [none, none, none, none, none, none, none, none, none, none, none, none, none, none] [] (e.1, m) nx 0 0 := by
  obtain ⟨d, rfl⟩ : ∃ d', d = d' + 1 := ⟨d - 1, by omega⟩
  unfold X12_two_b29 at hr
  refine mg_lconst (pc := 29) dX12_two_29 (v := (0 : Int64)) (by decide) ?_
  exact mb_lret dX12_two_30 rfl hr
def X12_two (e : mm_E) (a0 : Nat) (i1 : Int32) (i2 : Int32) (i3 : Int32) (m : mm_V) : Option (Int64 × mm_V) := (mm_pf e.1 m 12 75 a0 0 (.int (0 : Int32))).bind fun m1 => (X12_isWhat e a0 i3 (1 : Int32) m1).bind fun r2 => if r2.1 = 0 then (X12_two_b29 e   r2.2) else ((X12_within e i1 (0 : Int32) (13 : Int32) r2.2).bind fun r3 => (X12_right e a0 r3.1 (2 : Int32) r3.2).bind fun r4 => if ¬ r4.1 = 0 then (if i2 = 0 then (X12_two_b42 e i2 i3 i1 r4.2) else (X12_two_b42 e i2 i3 (i1 - (1 : Int32)) r4.2)) else (X12_two_b29 e   r4.2))
theorem X12_two_ok {K : mm_K} {nx : Option Nat} {e : mm_E} (hz : e.2.1 = K.2.2.2.2) {d : Nat} (hd : 2 ≤ d) {a0 : Nat} {i1 : Int32} {i2 : Int32} {i3 : Int32} (h0 : e.1 a0 = some (12, 75)) {m : mm_V} {r : (Int64 × mm_V)} (hr : X12_two e a0 i1 i2 i3 m = some r) : mm_Cn K MX12_two d (mm_Fl e.1 nx r) [.ref a0, .int i1, .int i2, .int i3] (e.1, m) nx := by
  obtain ⟨d, rfl⟩ : ∃ d', d = d' + 1 := ⟨d - 1, by omega⟩
  refine mm_entry (by decide) (Nat.le_of_ble_eq_true rfl) rfl (fun hok => ?_)
  unfold X12_two at hr
  refine mg_weak (L' := [some (.ref a0), some (.int i1), some (.int i2), some (.int i3), none, none, none, none, none, none, none, none, none, none]) (mm_le_s (mm_le_s (mm_le_s (mm_le_s (mm_le_e (mm_le_e (mm_le_e (mm_le_e (mm_le_e (mm_le_e (mm_le_e (mm_le_e (mm_le_e (mm_le_e mm_le_0)))))))))))))) ?_
  refine ml_aload_n (pc := 0) dX12_two_0 rfl mm_get_0 ?_
  refine mg_iconst (pc := 1) dX12_two_1 kc_0 ?_
  refine mb_pi (pc := 2) dX12_two_2 fp_X12_152 hr (fun m1 hr => ?_)
  refine ml_aload_n (pc := 5) dX12_two_5 rfl mm_get_0 ?_
  refine ml_iload_n (pc := 6) dX12_two_6 rfl (mm_get_s (mm_get_s (mm_get_s mm_get_0))) ?_
  refine mg_iconst (pc := 7) dX12_two_7 kc_1 ?_
  refine mb_cVi (pc := 8) (As := [.int i3, .int (1 : Int32)]) (rest := []) dX12_two_8 cw_X12_393 h0 hr (fun v hv => X12_isWhat_ok hz (by omega) h0 hv) rfl (Nat.le_of_ble_eq_true rfl) (Nat.zero_le _) (Nat.zero_le _) (fun r2 hr => ?_)
  refine mb_if_eq (pc := 11) 29 dX12_two_11 rfl hr (fun hr => ?_) (fun hr => ?_)
  · exact mg_weak (mm_le_n (mm_le_n (mm_le_n (mm_le_n (mm_le_n (mm_le_n (mm_le_n (mm_le_n (mm_le_n (mm_le_n (mm_le_n (mm_le_n (mm_le_n (mm_le_n mm_le_0)))))))))))))) (X12_two_b29_ok hz hd h0 hr)
  · refine ml_aload_n (pc := 14) dX12_two_14 rfl mm_get_0 ?_
    refine ml_iload_n (pc := 15) dX12_two_15 rfl (mm_get_s mm_get_0) ?_
    refine mg_iconst (pc := 16) dX12_two_16 kc_0 ?_
    refine mg_bipush (pc := 17) dX12_two_17 kb_13 ?_
    refine mb_cSi (pc := 19) (As := [.int i1, .int (0 : Int32), .int (13 : Int32)]) (rest := [.ref a0]) dX12_two_19 cw_X12_368  hr (fun v hv => X12_within_ok hz (by omega)  hv) rfl (Nat.le_of_ble_eq_true rfl) (Nat.zero_le _) (Nat.zero_le _) (fun r3 hr => ?_)
    refine mg_iconst (pc := 22) dX12_two_22 kc_2 ?_
    refine mb_cVi (pc := 23) (As := [.int r3.1, .int (2 : Int32)]) (rest := []) dX12_two_23 cw_X12_306 h0 hr (fun v hv => X12_right_ok hz (by omega) h0 hv) rfl (Nat.le_of_ble_eq_true rfl) (Nat.zero_le _) (Nat.zero_le _) (fun r4 hr => ?_)
    refine mb_if_ne (pc := 26) 31 dX12_two_26 rfl hr (fun hr => ?_) (fun hr => ?_)
    · refine ml_iload_n (pc := 31) dX12_two_31 rfl (mm_get_s (mm_get_s mm_get_0)) ?_
      refine mb_if_eq (pc := 32) 41 dX12_two_32 rfl hr (fun hr => ?_) (fun hr => ?_)
      · refine ml_iload_n (pc := 41) dX12_two_41 rfl (mm_get_s mm_get_0) ?_
        exact mg_weak (mm_le_n (mm_le_n (mm_le_s (mm_le_s (mm_le_n (mm_le_n (mm_le_n (mm_le_n (mm_le_n (mm_le_n (mm_le_n (mm_le_n (mm_le_n (mm_le_n mm_le_0)))))))))))))) (X12_two_b42_ok hz hd h0 hr)
      · refine ml_iload_n (pc := 35) dX12_two_35 rfl (mm_get_s mm_get_0) ?_
        refine mg_iconst (pc := 36) dX12_two_36 kc_1 ?_
        refine mg_isub (pc := 37) dX12_two_37 ?_
        refine mg_goto (pc := 38) 42 dX12_two_38 rfl ?_
        exact mg_weak (mm_le_n (mm_le_n (mm_le_s (mm_le_s (mm_le_n (mm_le_n (mm_le_n (mm_le_n (mm_le_n (mm_le_n (mm_le_n (mm_le_n (mm_le_n (mm_le_n mm_le_0)))))))))))))) (X12_two_b42_ok hz hd h0 hr)
    · exact mg_weak (mm_le_n (mm_le_n (mm_le_n (mm_le_n (mm_le_n (mm_le_n (mm_le_n (mm_le_n (mm_le_n (mm_le_n (mm_le_n (mm_le_n (mm_le_n (mm_le_n mm_le_0)))))))))))))) (X12_two_b29_ok hz hd h0 hr)
theorem dX12_goesSo_0 : decode cX12_goesSo 0 = .ok (.iconst 0, 1) := by decide +kernel
theorem dX12_goesSo_1 : decode cX12_goesSo 1 = .ok (.istore_n 2, 1) := by decide +kernel
theorem dX12_goesSo_2 : decode cX12_goesSo 2 = .ok (.iload_n 2, 1) := by decide +kernel
theorem dX12_goesSo_3 : decode cX12_goesSo 3 = .ok (.aload_n 0, 1) := by decide +kernel
theorem dX12_goesSo_4 : decode cX12_goesSo 4 = .ok (.getfield 365, 3) := by decide +kernel
theorem dX12_goesSo_7 : decode cX12_goesSo 7 = .ok (.if_icmp .ge 166, 3) := by decide +kernel
theorem dX12_goesSo_10 : decode cX12_goesSo 10 = .ok (.aload_n 0, 1) := by decide +kernel
theorem dX12_goesSo_11 : decode cX12_goesSo 11 = .ok (.iload_n 2, 1) := by decide +kernel
theorem dX12_goesSo_12 : decode cX12_goesSo 12 = .ok (.iconst 0, 1) := by decide +kernel
theorem dX12_goesSo_13 : decode cX12_goesSo 13 = .ok (.invokevirtual 419, 3) := by decide +kernel
theorem dX12_goesSo_16 : decode cX12_goesSo 16 = .ok (.istore_n 3, 1) := by decide +kernel
theorem dX12_goesSo_17 : decode cX12_goesSo 17 = .ok (.aload_n 0, 1) := by decide +kernel
theorem dX12_goesSo_18 : decode cX12_goesSo 18 = .ok (.iload_n 2, 1) := by decide +kernel
theorem dX12_goesSo_19 : decode cX12_goesSo 19 = .ok (.iconst 1, 1) := by decide +kernel
theorem dX12_goesSo_20 : decode cX12_goesSo 20 = .ok (.invokevirtual 419, 3) := by decide +kernel
theorem dX12_goesSo_23 : decode cX12_goesSo 23 = .ok (.istore 4, 2) := by decide +kernel
theorem dX12_goesSo_25 : decode cX12_goesSo 25 = .ok (.aload_n 0, 1) := by decide +kernel
theorem dX12_goesSo_26 : decode cX12_goesSo 26 = .ok (.getfield 115, 3) := by decide +kernel
theorem dX12_goesSo_29 : decode cX12_goesSo 29 = .ok (.iload 4, 2) := by decide +kernel
theorem dX12_goesSo_31 : decode cX12_goesSo 31 = .ok (.aload_n 0, 1) := by decide +kernel
theorem dX12_goesSo_32 : decode cX12_goesSo 32 = .ok (.iload_n 2, 1) := by decide +kernel
theorem dX12_goesSo_33 : decode cX12_goesSo 33 = .ok (.iconst 2, 1) := by decide +kernel
theorem dX12_goesSo_34 : decode cX12_goesSo 34 = .ok (.invokevirtual 419, 3) := by decide +kernel
theorem dX12_goesSo_37 : decode cX12_goesSo 37 = .ok (.invokestatic 362, 3) := by decide +kernel
theorem dX12_goesSo_40 : decode cX12_goesSo 40 = .ok (.istore 5, 2) := by decide +kernel
theorem dX12_goesSo_42 : decode cX12_goesSo 42 = .ok (.iload_n 1, 1) := by decide +kernel
theorem dX12_goesSo_43 : decode cX12_goesSo 43 = .ok (.iload_n 3, 1) := by decide +kernel
theorem dX12_goesSo_44 : decode cX12_goesSo 44 = .ok (.if_icmp .eq 9, 3) := by decide +kernel
theorem dX12_goesSo_47 : decode cX12_goesSo 47 = .ok (.iload_n 1, 1) := by decide +kernel
theorem dX12_goesSo_48 : decode cX12_goesSo 48 = .ok (.iload 4, 2) := by decide +kernel
theorem dX12_goesSo_50 : decode cX12_goesSo 50 = .ok (.if_icmp .ne 16, 3) := by decide +kernel
theorem dX12_goesSo_53 : decode cX12_goesSo 53 = .ok (.iload 5, 2) := by decide +kernel
theorem dX12_goesSo_55 : decode cX12_goesSo 55 = .ok (.aload_n 0, 1) := by decide +kernel
theorem dX12_goesSo_56 : decode cX12_goesSo 56 = .ok (.iload_n 2, 1) := by decide +kernel
theorem dX12_goesSo_57 : decode cX12_goesSo 57 = .ok (.iconst 3, 1) := by decide +kernel
theorem dX12_goesSo_58 : decode cX12_goesSo 58 = .ok (.invokevirtual 419, 3) := by decide +kernel
theorem dX12_goesSo_61 : decode cX12_goesSo 61 = .ok (.if_icmp .eq 5, 3) := by decide +kernel
theorem dX12_goesSo_64 : decode cX12_goesSo 64 = .ok (.iconst 0, 1) := by decide +kernel
theorem dX12_goesSo_65 : decode cX12_goesSo 65 = .ok (.ireturn, 1) := by decide +kernel
theorem dX12_goesSo_66 : decode cX12_goesSo 66 = .ok (.iload 5, 2) := by decide +kernel
theorem dX12_goesSo_68 : decode cX12_goesSo 68 = .ok (.ifCond .le 16, 3) := by decide +kernel
theorem dX12_goesSo_71 : decode cX12_goesSo 71 = .ok (.aload_n 0, 1) := by decide +kernel
theorem dX12_goesSo_72 : decode cX12_goesSo 72 = .ok (.getfield 115, 3) := by decide +kernel
theorem dX12_goesSo_75 : decode cX12_goesSo 75 = .ok (.iload_n 3, 1) := by decide +kernel
theorem dX12_goesSo_76 : decode cX12_goesSo 76 = .ok (.iload 5, 2) := by decide +kernel
theorem dX12_goesSo_78 : decode cX12_goesSo 78 = .ok (.invokestatic 335, 3) := by decide +kernel
theorem dX12_goesSo_81 : decode cX12_goesSo 81 = .ok (.goto 4, 3) := by decide +kernel
theorem dX12_goesSo_84 : decode cX12_goesSo 84 = .ok (.iconst (-1), 1) := by decide +kernel
theorem dX12_goesSo_85 : decode cX12_goesSo 85 = .ok (.istore 6, 2) := by decide +kernel
theorem dX12_goesSo_87 : decode cX12_goesSo 87 = .ok (.iload 6, 2) := by decide +kernel
theorem dX12_goesSo_89 : decode cX12_goesSo 89 = .ok (.iconst (-1), 1) := by decide +kernel
theorem dX12_goesSo_90 : decode cX12_goesSo 90 = .ok (.if_icmp .eq 7, 3) := by decide +kernel
theorem dX12_goesSo_93 : decode cX12_goesSo 93 = .ok (.iconst 1, 1) := by decide +kernel
theorem dX12_goesSo_94 : decode cX12_goesSo 94 = .ok (.goto 4, 3) := by decide +kernel
theorem dX12_goesSo_97 : decode cX12_goesSo 97 = .ok (.iconst 0, 1) := by decide +kernel
theorem dX12_goesSo_98 : decode cX12_goesSo 98 = .ok (.aload_n 0, 1) := by decide +kernel
theorem dX12_goesSo_99 : decode cX12_goesSo 99 = .ok (.iload_n 2, 1) := by decide +kernel
theorem dX12_goesSo_100 : decode cX12_goesSo 100 = .ok (.iconst 4, 1) := by decide +kernel
theorem dX12_goesSo_101 : decode cX12_goesSo 101 = .ok (.invokevirtual 419, 3) := by decide +kernel
theorem dX12_goesSo_104 : decode cX12_goesSo 104 = .ok (.iconst 1, 1) := by decide +kernel
theorem dX12_goesSo_105 : decode cX12_goesSo 105 = .ok (.if_icmp .ne 7, 3) := by decide +kernel
theorem dX12_goesSo_108 : decode cX12_goesSo 108 = .ok (.iconst 1, 1) := by decide +kernel
theorem dX12_goesSo_109 : decode cX12_goesSo 109 = .ok (.goto 4, 3) := by decide +kernel
theorem dX12_goesSo_112 : decode cX12_goesSo 112 = .ok (.iconst 0, 1) := by decide +kernel
theorem dX12_goesSo_113 : decode cX12_goesSo 113 = .ok (.if_icmp .eq 5, 3) := by decide +kernel
theorem dX12_goesSo_116 : decode cX12_goesSo 116 = .ok (.iconst 0, 1) := by decide +kernel
theorem dX12_goesSo_117 : decode cX12_goesSo 117 = .ok (.ireturn, 1) := by decide +kernel
theorem dX12_goesSo_118 : decode cX12_goesSo 118 = .ok (.iload 6, 2) := by decide +kernel
theorem dX12_goesSo_120 : decode cX12_goesSo 120 = .ok (.iconst (-1), 1) := by decide +kernel
theorem dX12_goesSo_121 : decode cX12_goesSo 121 = .ok (.if_icmp .ne 22, 3) := by decide +kernel
theorem dX12_goesSo_124 : decode cX12_goesSo 124 = .ok (.aload_n 0, 1) := by decide +kernel
theorem dX12_goesSo_125 : decode cX12_goesSo 125 = .ok (.getfield 115, 3) := by decide +kernel
theorem dX12_goesSo_128 : decode cX12_goesSo 128 = .ok (.iload_n 3, 1) := by decide +kernel
theorem dX12_goesSo_129 : decode cX12_goesSo 129 = .ok (.aload_n 0, 1) := by decide +kernel
theorem dX12_goesSo_130 : decode cX12_goesSo 130 = .ok (.iload_n 2, 1) := by decide +kernel
theorem dX12_goesSo_131 : decode cX12_goesSo 131 = .ok (.iconst 5, 1) := by decide +kernel
theorem dX12_goesSo_132 : decode cX12_goesSo 132 = .ok (.invokevirtual 419, 3) := by decide +kernel
theorem dX12_goesSo_135 : decode cX12_goesSo 135 = .ok (.iload 5, 2) := by decide +kernel
theorem dX12_goesSo_137 : decode cX12_goesSo 137 = .ok (.invokestatic 348, 3) := by decide +kernel
theorem dX12_goesSo_140 : decode cX12_goesSo 140 = .ok (.goto 27, 3) := by decide +kernel
theorem dX12_goesSo_143 : decode cX12_goesSo 143 = .ok (.iload 5, 2) := by decide +kernel
theorem dX12_goesSo_145 : decode cX12_goesSo 145 = .ok (.aload_n 0, 1) := by decide +kernel
theorem dX12_goesSo_146 : decode cX12_goesSo 146 = .ok (.iload_n 2, 1) := by decide +kernel
theorem dX12_goesSo_147 : decode cX12_goesSo 147 = .ok (.iconst 3, 1) := by decide +kernel
theorem dX12_goesSo_148 : decode cX12_goesSo 148 = .ok (.invokevirtual 419, 3) := by decide +kernel
theorem dX12_goesSo_151 : decode cX12_goesSo 151 = .ok (.if_icmp .eq 5, 3) := by decide +kernel
theorem dX12_goesSo_154 : decode cX12_goesSo 154 = .ok (.iconst 0, 1) := by decide +kernel
theorem dX12_goesSo_155 : decode cX12_goesSo 155 = .ok (.ireturn, 1) := by decide +kernel
theorem dX12_goesSo_156 : decode cX12_goesSo 156 = .ok (.aload_n 0, 1) := by decide +kernel
theorem dX12_goesSo_157 : decode cX12_goesSo 157 = .ok (.getfield 115, 3) := by decide +kernel
theorem dX12_goesSo_160 : decode cX12_goesSo 160 = .ok (.iload_n 3, 1) := by decide +kernel
theorem dX12_goesSo_161 : decode cX12_goesSo 161 = .ok (.iload 6, 2) := by decide +kernel
theorem dX12_goesSo_163 : decode cX12_goesSo 163 = .ok (.invokestatic 362, 3) := by decide +kernel
theorem dX12_goesSo_166 : decode cX12_goesSo 166 = .ok (.pop, 1) := by decide +kernel
theorem dX12_goesSo_167 : decode cX12_goesSo 167 = .ok (.iinc 2 1, 3) := by decide +kernel
theorem dX12_goesSo_170 : decode cX12_goesSo 170 = .ok (.goto (-168), 3) := by decide +kernel
theorem dX12_goesSo_173 : decode cX12_goesSo 173 = .ok (.iconst 1, 1) := by decide +kernel
theorem dX12_goesSo_174 : decode cX12_goesSo 174 = .ok (.ireturn, 1) := by decide +kernel
def X12_goesSo_b167 (e : mm_E) (k2 : Int32 → mm_V → Option (Int32 × mm_V)) (a0 : Nat) (i1 : Int32) (i2 : Int32) (m : mm_V) : Option (Int32 × mm_V) := k2 (i2 + 1) m
theorem X12_goesSo_b167_ok {K : mm_K} {nx : Option Nat} {e : mm_E} (hz : e.2.1 = K.2.2.2.2) {d : Nat} (hd : 2 ≤ d) {a0 : Nat} {i1 : Int32} {i2 : Int32} (h0 : e.1 a0 = some (12, 75)) {k2 : Int32 → mm_V → Option (Int32 × mm_V)} (hk2 : ∀ (w2 : Int32) (m : mm_V) (r : (Int32 × mm_V)), k2 w2 m = some r → mm_G K MX12_goesSo d (mm_Fi e.1 nx r) 2 [some (.ref a0), some (.int i1), some (.int w2), none, none, none, none] [] (e.1, m) nx 0 0) {m : mm_V} {r : (Int32 × mm_V)} (hr : X12_goesSo_b167 e k2 a0 i1 i2 m = some r) : mm_G K MX12_goesSo d (mm_Fi e.1 nx r) 167 [some (.ref a0), some (.int i1), some (.int i2), none, none, none, none] [] (e.1, m) nx 0 0 := by
  obtain ⟨d, rfl⟩ : ∃ d', d = d' + 1 := ⟨d - 1, by omega⟩
  unfold X12_goesSo_b167 at hr
  refine ml_iinc (pc := 167) dX12_goesSo_167 (mm_get_s (mm_get_s mm_get_0)) (congrArg (fun z => i2 + z) kc_1) (Nat.le_of_ble_eq_true rfl) (mm_st1_s mm_st1_i) ?_
  refine mg_goto (pc := 170) 2 dX12_goesSo_170 rfl ?_
  exact mg_weak (mm_le_s (mm_le_s (mm_le_s (mm_le_n (mm_le_n (mm_le_n (mm_le_n mm_le_0))))))) (hk2 _ _ _ hr)
def X12_goesSo_b113 (e : mm_E) (k2 : Int32 → mm_V → Option (Int32 × mm_V)) (a0 : Nat) (i1 : Int32) (i2 : Int32) (i3 : Int32) (i5 : Int32) (i6 : Int32) (t0 : Int32) (t1 : Int32) (m : mm_V) : Option (Int32 × mm_V) := if t0 = t1 then (if ¬ i6 = (-1 : Int32) then ((X12_did e a0 i2 (3 : Int32) m).bind fun r1 => if i5 = r1.1 then ((mm_gr e.1 r1.2 12 75 a0 63).bind fun c2 => (X12_takes e c2 i3 i6 r1.2).bind fun r3 => X12_goesSo_b167 e k2 a0 i1 i2  r3.2) else (mm_rz (0 : Int32) r1.2)) else ((mm_gr e.1 m 12 75 a0 63).bind fun c4 => (X12_did e a0 i2 (5 : Int32) m).bind fun r5 => (X12_inserts e c4 i3 r5.1 i5 r5.2).bind fun r6 => X12_goesSo_b167 e k2 a0 i1 i2  r6)) else (mm_rz (0 : Int32) m)
theorem X12_goesSo_b113_ok {K : mm_K} {nx : Option Nat} {e : mm_E} (hz : e.2.1 = K.2.2.2.2) {d : Nat} (hd : 2 ≤ d) {a0 : Nat} {i1 : Int32} {i2 : Int32} {i3 : Int32} {i5 : Int32} {i6 : Int32} {t0 : Int32} {t1 : Int32} (h0 : e.1 a0 = some (12, 75)) {k2 : Int32 → mm_V → Option (Int32 × mm_V)} (hk2 : ∀ (w2 : Int32) (m : mm_V) (r : (Int32 × mm_V)), k2 w2 m = some r → mm_G K MX12_goesSo d (mm_Fi e.1 nx r) 2 [some (.ref a0), some (.int i1), some (.int w2), none, none, none, none] [] (e.1, m) nx 0 0) {m : mm_V} {r : (Int32 × mm_V)} (hr : X12_goesSo_b113 e k2 a0 i1 i2 i3 i5 i6 t0 t1 m = some r) : mm_G K MX12_goesSo d (mm_Fi e.1 nx r) 113 [some (.ref a0), some (.int i1), some (.int i2), some (.int i3), none, some (.int i5), some (.int i6)] [.int t1, .int t0] (e.1, m) nx 0 0 := by
  obtain ⟨d, rfl⟩ : ∃ d', d = d' + 1 := ⟨d - 1, by omega⟩
  unfold X12_goesSo_b113 at hr
  refine mb_icmp_eq (pc := 113) 118 dX12_goesSo_113 rfl hr (fun hr => ?_) (fun hr => ?_)
  · refine ml_iload (pc := 118) dX12_goesSo_118 (mm_get_s (mm_get_s (mm_get_s (mm_get_s (mm_get_s (mm_get_s mm_get_0)))))) ?_
    refine mg_iconst (pc := 120) dX12_goesSo_120 kc_m1 ?_
    refine mb_icmp_ne (pc := 121) 143 dX12_goesSo_121 rfl hr (fun hr => ?_) (fun hr => ?_)
    · refine ml_iload (pc := 143) dX12_goesSo_143 (mm_get_s (mm_get_s (mm_get_s (mm_get_s (mm_get_s mm_get_0))))) ?_
      refine ml_aload_n (pc := 145) dX12_goesSo_145 rfl mm_get_0 ?_
      refine ml_iload_n (pc := 146) dX12_goesSo_146 rfl (mm_get_s (mm_get_s mm_get_0)) ?_
      refine mg_iconst (pc := 147) dX12_goesSo_147 kc_3 ?_
      refine mb_cVi (pc := 148) (As := [.int i2, .int (3 : Int32)]) (rest := [.int i5]) dX12_goesSo_148 cw_X12_419 h0 hr (fun v hv => X12_did_ok hz (by omega) h0 hv) rfl (Nat.le_of_ble_eq_true rfl) (Nat.zero_le _) (Nat.zero_le _) (fun r1 hr => ?_)
      refine mb_icmp_eq (pc := 151) 156 dX12_goesSo_151 rfl hr (fun hr => ?_) (fun hr => ?_)
      · refine ml_aload_n (pc := 156) dX12_goesSo_156 rfl mm_get_0 ?_
        refine mb_gr (pc := 157) dX12_goesSo_157 fl_X12_115 hr (fun c2 hr => ?_)
        refine ml_iload_n (pc := 160) dX12_goesSo_160 rfl (mm_get_s (mm_get_s (mm_get_s mm_get_0))) ?_
        refine ml_iload (pc := 161) dX12_goesSo_161 (mm_get_s (mm_get_s (mm_get_s (mm_get_s (mm_get_s (mm_get_s mm_get_0)))))) ?_
        refine mb_cSi (pc := 163) (As := [.ref c2, .int i3, .int i6]) (rest := []) dX12_goesSo_163 cw_X12_362  hr (fun v hv => X12_takes_ok hz (by omega)  hv) rfl (Nat.le_of_ble_eq_true rfl) (Nat.zero_le _) (Nat.zero_le _) (fun r3 hr => ?_)
        refine mg_pop (pc := 166) dX12_goesSo_166 rfl ?_
        exact mg_weak (mm_le_s (mm_le_s (mm_le_s (mm_le_n (mm_le_n (mm_le_n (mm_le_n mm_le_0))))))) (X12_goesSo_b167_ok hz hd h0 hk2 hr)
      · refine mg_iconst (pc := 154) dX12_goesSo_154 kc_0 ?_
        exact mb_zret dX12_goesSo_155 rfl hr
    · refine ml_aload_n (pc := 124) dX12_goesSo_124 rfl mm_get_0 ?_
      refine mb_gr (pc := 125) dX12_goesSo_125 fl_X12_115 hr (fun c4 hr => ?_)
      refine ml_iload_n (pc := 128) dX12_goesSo_128 rfl (mm_get_s (mm_get_s (mm_get_s mm_get_0))) ?_
      refine ml_aload_n (pc := 129) dX12_goesSo_129 rfl mm_get_0 ?_
      refine ml_iload_n (pc := 130) dX12_goesSo_130 rfl (mm_get_s (mm_get_s mm_get_0)) ?_
      refine mg_iconst (pc := 131) dX12_goesSo_131 kc_5 ?_
      refine mb_cVi (pc := 132) (As := [.int i2, .int (5 : Int32)]) (rest := [.int i3, .ref c4]) dX12_goesSo_132 cw_X12_419 h0 hr (fun v hv => X12_did_ok hz (by omega) h0 hv) rfl (Nat.le_of_ble_eq_true rfl) (Nat.zero_le _) (Nat.zero_le _) (fun r5 hr => ?_)
      refine ml_iload (pc := 135) dX12_goesSo_135 (mm_get_s (mm_get_s (mm_get_s (mm_get_s (mm_get_s mm_get_0))))) ?_
      refine mb_cSv (pc := 137) (As := [.ref c4, .int i3, .int r5.1, .int i5]) (rest := []) dX12_goesSo_137 cw_X12_348  hr (fun v hv => X12_inserts_ok hz (by omega)  hv) rfl (Nat.le_of_ble_eq_true rfl) (Nat.zero_le _) (Nat.zero_le _) (fun r6 hr => ?_)
      refine mg_goto (pc := 140) 167 dX12_goesSo_140 rfl ?_
      exact mg_weak (mm_le_s (mm_le_s (mm_le_s (mm_le_n (mm_le_n (mm_le_n (mm_le_n mm_le_0))))))) (X12_goesSo_b167_ok hz hd h0 hk2 hr)
  · refine mg_iconst (pc := 116) dX12_goesSo_116 kc_0 ?_
    exact mb_zret dX12_goesSo_117 rfl hr
def X12_goesSo_b98 (e : mm_E) (k2 : Int32 → mm_V → Option (Int32 × mm_V)) (a0 : Nat) (i1 : Int32) (i2 : Int32) (i3 : Int32) (i5 : Int32) (i6 : Int32) (t0 : Int32) (m : mm_V) : Option (Int32 × mm_V) := (X12_did e a0 i2 (4 : Int32) m).bind fun r1 => if ¬ r1.1 = (1 : Int32) then (X12_goesSo_b113 e k2 a0 i1 i2 i3 i5 i6 t0 (0 : Int32) r1.2) else (X12_goesSo_b113 e k2 a0 i1 i2 i3 i5 i6 t0 (1 : Int32) r1.2)
theorem X12_goesSo_b98_ok {K : mm_K} {nx : Option Nat} {e : mm_E} (hz : e.2.1 = K.2.2.2.2) {d : Nat} (hd : 2 ≤ d) {a0 : Nat} {i1 : Int32} {i2 : Int32} {i3 : Int32} {i5 : Int32} {i6 : Int32} {t0 : Int32} (h0 : e.1 a0 = some (12, 75)) {k2 : Int32 → mm_V → Option (Int32 × mm_V)} (hk2 : ∀ (w2 : Int32) (m : mm_V) (r : (Int32 × mm_V)), k2 w2 m = some r → mm_G K MX12_goesSo d (mm_Fi e.1 nx r) 2 [some (.ref a0), some (.int i1), some (.int w2), none, none, none, none] [] (e.1, m) nx 0 0) {m : mm_V} {r : (Int32 × mm_V)} (hr : X12_goesSo_b98 e k2 a0 i1 i2 i3 i5 i6 t0 m = some r) : mm_G K MX12_goesSo d (mm_Fi e.1 nx r) 98 [some (.ref a0), some (.int i1), some (.int i2), some (.int i3), none, some (.int i5), some (.int i6)] [.int t0] (e.1, m) nx 0 0 := by
  obtain ⟨d, rfl⟩ : ∃ d', d = d' + 1 := ⟨d - 1, by omega⟩
  unfold X12_goesSo_b98 at hr
  refine ml_aload_n (pc := 98) dX12_goesSo_98 rfl mm_get_0 ?_
  refine ml_iload_n (pc := 99) dX12_goesSo_99 rfl (mm_get_s (mm_get_s mm_get_0)) ?_
  refine mg_iconst (pc := 100) dX12_goesSo_100 kc_4 ?_
  refine mb_cVi (pc := 101) (As := [.int i2, .int (4 : Int32)]) (rest := [.int t0]) dX12_goesSo_101 cw_X12_419 h0 hr (fun v hv => X12_did_ok hz (by omega) h0 hv) rfl (Nat.le_of_ble_eq_true rfl) (Nat.zero_le _) (Nat.zero_le _) (fun r1 hr => ?_)
  refine mg_iconst (pc := 104) dX12_goesSo_104 kc_1 ?_
  refine mb_icmp_ne (pc := 105) 112 dX12_goesSo_105 rfl hr (fun hr => ?_) (fun hr => ?_)
  · refine mg_iconst (pc := 112) dX12_goesSo_112 kc_0 ?_
    exact mg_weak (mm_le_s (mm_le_s (mm_le_s (mm_le_s (mm_le_n (mm_le_s (mm_le_s mm_le_0))))))) (X12_goesSo_b113_ok hz hd h0 hk2 hr)
  · refine mg_iconst (pc := 108) dX12_goesSo_108 kc_1 ?_
    refine mg_goto (pc := 109) 113 dX12_goesSo_109 rfl ?_
    exact mg_weak (mm_le_s (mm_le_s (mm_le_s (mm_le_s (mm_le_n (mm_le_s (mm_le_s mm_le_0))))))) (X12_goesSo_b113_ok hz hd h0 hk2 hr)
def X12_goesSo_b85 (e : mm_E) (k2 : Int32 → mm_V → Option (Int32 × mm_V)) (a0 : Nat) (i1 : Int32) (i2 : Int32) (i3 : Int32) (i5 : Int32) (t0 : Int32) (m : mm_V) : Option (Int32 × mm_V) := if t0 = (-1 : Int32) then (X12_goesSo_b98 e k2 a0 i1 i2 i3 i5 t0 (0 : Int32) m) else (X12_goesSo_b98 e k2 a0 i1 i2 i3 i5 t0 (1 : Int32) m)
theorem X12_goesSo_b85_ok {K : mm_K} {nx : Option Nat} {e : mm_E} (hz : e.2.1 = K.2.2.2.2) {d : Nat} (hd : 2 ≤ d) {a0 : Nat} {i1 : Int32} {i2 : Int32} {i3 : Int32} {i5 : Int32} {t0 : Int32} (h0 : e.1 a0 = some (12, 75)) {k2 : Int32 → mm_V → Option (Int32 × mm_V)} (hk2 : ∀ (w2 : Int32) (m : mm_V) (r : (Int32 × mm_V)), k2 w2 m = some r → mm_G K MX12_goesSo d (mm_Fi e.1 nx r) 2 [some (.ref a0), some (.int i1), some (.int w2), none, none, none, none] [] (e.1, m) nx 0 0) {m : mm_V} {r : (Int32 × mm_V)} (hr : X12_goesSo_b85 e k2 a0 i1 i2 i3 i5 t0 m = some r) : mm_G K MX12_goesSo d (mm_Fi e.1 nx r) 85 [some (.ref a0), some (.int i1), some (.int i2), some (.int i3), none, some (.int i5), none] [.int t0] (e.1, m) nx 0 0 := by
  obtain ⟨d, rfl⟩ : ∃ d', d = d' + 1 := ⟨d - 1, by omega⟩
  unfold X12_goesSo_b85 at hr
  refine ml_istore (pc := 85) dX12_goesSo_85 (Nat.le_of_ble_eq_true rfl) (mm_st1_s (mm_st1_s (mm_st1_s (mm_st1_s (mm_st1_s mm_st1_i))))) ?_
  refine ml_iload (pc := 87) dX12_goesSo_87 (mm_get_s (mm_get_s (mm_get_s (mm_get_s (mm_get_s (mm_get_s mm_get_0)))))) ?_
  refine mg_iconst (pc := 89) dX12_goesSo_89 kc_m1 ?_
  refine mb_icmp_eq (pc := 90) 97 dX12_goesSo_90 rfl hr (fun hr => ?_) (fun hr => ?_)
  · refine mg_iconst (pc := 97) dX12_goesSo_97 kc_0 ?_
    exact mg_weak (mm_le_s (mm_le_s (mm_le_s (mm_le_s (mm_le_n (mm_le_s (mm_le_s mm_le_0))))))) (X12_goesSo_b98_ok hz hd h0 hk2 hr)
  · refine mg_iconst (pc := 93) dX12_goesSo_93 kc_1 ?_
    refine mg_goto (pc := 94) 98 dX12_goesSo_94 rfl ?_
    exact mg_weak (mm_le_s (mm_le_s (mm_le_s (mm_le_s (mm_le_n (mm_le_s (mm_le_s mm_le_0))))))) (X12_goesSo_b98_ok hz hd h0 hk2 hr)
def X12_goesSo_b66 (e : mm_E) (k2 : Int32 → mm_V → Option (Int32 × mm_V)) (a0 : Nat) (i1 : Int32) (i2 : Int32) (i3 : Int32) (i5 : Int32) (m : mm_V) : Option (Int32 × mm_V) := if i5 ≤ 0 then (X12_goesSo_b85 e k2 a0 i1 i2 i3 i5 (-1 : Int32) m) else ((mm_gr e.1 m 12 75 a0 63).bind fun c1 => (X12_placeOf e c1 i3 i5 m).bind fun r2 => X12_goesSo_b85 e k2 a0 i1 i2 i3 i5 r2.1 r2.2)
theorem X12_goesSo_b66_ok {K : mm_K} {nx : Option Nat} {e : mm_E} (hz : e.2.1 = K.2.2.2.2) {d : Nat} (hd : 2 ≤ d) {a0 : Nat} {i1 : Int32} {i2 : Int32} {i3 : Int32} {i5 : Int32} (h0 : e.1 a0 = some (12, 75)) {k2 : Int32 → mm_V → Option (Int32 × mm_V)} (hk2 : ∀ (w2 : Int32) (m : mm_V) (r : (Int32 × mm_V)), k2 w2 m = some r → mm_G K MX12_goesSo d (mm_Fi e.1 nx r) 2 [some (.ref a0), some (.int i1), some (.int w2), none, none, none, none] [] (e.1, m) nx 0 0) {m : mm_V} {r : (Int32 × mm_V)} (hr : X12_goesSo_b66 e k2 a0 i1 i2 i3 i5 m = some r) : mm_G K MX12_goesSo d (mm_Fi e.1 nx r) 66 [some (.ref a0), some (.int i1), some (.int i2), some (.int i3), none, some (.int i5), none] [] (e.1, m) nx 0 0 := by
  obtain ⟨d, rfl⟩ : ∃ d', d = d' + 1 := ⟨d - 1, by omega⟩
  unfold X12_goesSo_b66 at hr
  refine ml_iload (pc := 66) dX12_goesSo_66 (mm_get_s (mm_get_s (mm_get_s (mm_get_s (mm_get_s mm_get_0))))) ?_
  refine mb_if_le (pc := 68) 84 dX12_goesSo_68 rfl hr (fun hr => ?_) (fun hr => ?_)
  · refine mg_iconst (pc := 84) dX12_goesSo_84 kc_m1 ?_
    exact mg_weak (mm_le_s (mm_le_s (mm_le_s (mm_le_s (mm_le_n (mm_le_s (mm_le_n mm_le_0))))))) (X12_goesSo_b85_ok hz hd h0 hk2 hr)
  · refine ml_aload_n (pc := 71) dX12_goesSo_71 rfl mm_get_0 ?_
    refine mb_gr (pc := 72) dX12_goesSo_72 fl_X12_115 hr (fun c1 hr => ?_)
    refine ml_iload_n (pc := 75) dX12_goesSo_75 rfl (mm_get_s (mm_get_s (mm_get_s mm_get_0))) ?_
    refine ml_iload (pc := 76) dX12_goesSo_76 (mm_get_s (mm_get_s (mm_get_s (mm_get_s (mm_get_s mm_get_0))))) ?_
    refine mb_cSi (pc := 78) (As := [.ref c1, .int i3, .int i5]) (rest := []) dX12_goesSo_78 cw_X12_335  hr (fun v hv => X12_placeOf_ok hz (by omega)  hv) rfl (Nat.le_of_ble_eq_true rfl) (Nat.zero_le _) (Nat.zero_le _) (fun r2 hr => ?_)
    refine mg_goto (pc := 81) 85 dX12_goesSo_81 rfl ?_
    exact mg_weak (mm_le_s (mm_le_s (mm_le_s (mm_le_s (mm_le_n (mm_le_s (mm_le_n mm_le_0))))))) (X12_goesSo_b85_ok hz hd h0 hk2 hr)
def X12_goesSo_b53 (e : mm_E) (k2 : Int32 → mm_V → Option (Int32 × mm_V)) (a0 : Nat) (i1 : Int32) (i2 : Int32) (i3 : Int32) (i5 : Int32) (m : mm_V) : Option (Int32 × mm_V) := (X12_did e a0 i2 (3 : Int32) m).bind fun r1 => if i5 = r1.1 then (X12_goesSo_b66 e k2 a0 i1 i2 i3 i5  r1.2) else (mm_rz (0 : Int32) r1.2)
theorem X12_goesSo_b53_ok {K : mm_K} {nx : Option Nat} {e : mm_E} (hz : e.2.1 = K.2.2.2.2) {d : Nat} (hd : 2 ≤ d) {a0 : Nat} {i1 : Int32} {i2 : Int32} {i3 : Int32} {i5 : Int32} (h0 : e.1 a0 = some (12, 75)) {k2 : Int32 → mm_V → Option (Int32 × mm_V)} (hk2 : ∀ (w2 : Int32) (m : mm_V) (r : (Int32 × mm_V)), k2 w2 m = some r → mm_G K MX12_goesSo d (mm_Fi e.1 nx r) 2 [some (.ref a0), some (.int i1), some (.int w2), none, none, none, none] [] (e.1, m) nx 0 0) {m : mm_V} {r : (Int32 × mm_V)} (hr : X12_goesSo_b53 e k2 a0 i1 i2 i3 i5 m = some r) : mm_G K MX12_goesSo d (mm_Fi e.1 nx r) 53 [some (.ref a0), some (.int i1), some (.int i2), some (.int i3), none, some (.int i5), none] [] (e.1, m) nx 0 0 := by
  obtain ⟨d, rfl⟩ : ∃ d', d = d' + 1 := ⟨d - 1, by omega⟩
  unfold X12_goesSo_b53 at hr
  refine ml_iload (pc := 53) dX12_goesSo_53 (mm_get_s (mm_get_s (mm_get_s (mm_get_s (mm_get_s mm_get_0))))) ?_
  refine ml_aload_n (pc := 55) dX12_goesSo_55 rfl mm_get_0 ?_
  refine ml_iload_n (pc := 56) dX12_goesSo_56 rfl (mm_get_s (mm_get_s mm_get_0)) ?_
  refine mg_iconst (pc := 57) dX12_goesSo_57 kc_3 ?_
  refine mb_cVi (pc := 58) (As := [.int i2, .int (3 : Int32)]) (rest := [.int i5]) dX12_goesSo_58 cw_X12_419 h0 hr (fun v hv => X12_did_ok hz (by omega) h0 hv) rfl (Nat.le_of_ble_eq_true rfl) (Nat.zero_le _) (Nat.zero_le _) (fun r1 hr => ?_)
  refine mb_icmp_eq (pc := 61) 66 dX12_goesSo_61 rfl hr (fun hr => ?_) (fun hr => ?_)
  · exact mg_weak (mm_le_s (mm_le_s (mm_le_s (mm_le_s (mm_le_n (mm_le_s (mm_le_n mm_le_0))))))) (X12_goesSo_b66_ok hz hd h0 hk2 hr)
  · refine mg_iconst (pc := 64) dX12_goesSo_64 kc_0 ?_
    exact mb_zret dX12_goesSo_65 rfl hr
def X12_goesSo_L2 (e : mm_E) (a0 : Nat) (i1 : Int32) : Nat → Int32 → mm_V → Option (Int32 × mm_V)
  | 0, _, _ => none
  | n + 1, i2, m => (mm_gi e.1 m 12 75 a0 48).bind fun x1 => if x1 ≤ i2 then (mm_rz (1 : Int32) m) else ((X12_did e a0 i2 (0 : Int32) m).bind fun r2 => (X12_did e a0 i2 (1 : Int32) r2.2).bind fun r3 => (mm_gr e.1 r3.2 12 75 a0 63).bind fun c4 => (X12_did e a0 i2 (2 : Int32) r3.2).bind fun r5 => (X12_takes e c4 r3.1 r5.1 r5.2).bind fun r6 => if i1 = r2.1 then (X12_goesSo_b53 e (X12_goesSo_L2 e a0 i1 n) a0 i1 i2 r2.1 r6.1  r6.2) else (if ¬ i1 = r3.1 then (X12_goesSo_b66 e (X12_goesSo_L2 e a0 i1 n) a0 i1 i2 r2.1 r6.1  r6.2) else (X12_goesSo_b53 e (X12_goesSo_L2 e a0 i1 n) a0 i1 i2 r2.1 r6.1  r6.2)))
theorem X12_goesSo_L2_ok {K : mm_K} {nx : Option Nat} {e : mm_E} (hz : e.2.1 = K.2.2.2.2) {d : Nat} (hd : 2 ≤ d) {a0 : Nat} {i1 : Int32} (h0 : e.1 a0 = some (12, 75)) : ∀ (n : Nat) (i2 : Int32) (m : mm_V) (r : (Int32 × mm_V)), X12_goesSo_L2 e a0 i1 n i2 m = some r → mm_G K MX12_goesSo d (mm_Fi e.1 nx r) 2 [some (.ref a0), some (.int i1), some (.int i2), none, none, none, none] [] (e.1, m) nx 0 0 := by
  obtain ⟨d, rfl⟩ : ∃ d', d = d' + 1 := ⟨d - 1, by omega⟩
  intro n
  induction n with
  | zero => intro i2 m r hr; unfold X12_goesSo_L2 at hr; cases hr
  | succ n ih =>
    intro i2 m r hr
    unfold X12_goesSo_L2 at hr
    refine ml_iload_n (pc := 2) dX12_goesSo_2 rfl (mm_get_s (mm_get_s mm_get_0)) ?_
    refine ml_aload_n (pc := 3) dX12_goesSo_3 rfl mm_get_0 ?_
    refine mb_gi (pc := 4) dX12_goesSo_4 fl_X12_365 hr (fun x1 hr => ?_)
    refine mb_icmp_ge (pc := 7) 173 dX12_goesSo_7 rfl hr (fun hr => ?_) (fun hr => ?_)
    · refine mg_iconst (pc := 173) dX12_goesSo_173 kc_1 ?_
      exact mb_zret dX12_goesSo_174 rfl hr
    · refine ml_aload_n (pc := 10) dX12_goesSo_10 rfl mm_get_0 ?_
      refine ml_iload_n (pc := 11) dX12_goesSo_11 rfl (mm_get_s (mm_get_s mm_get_0)) ?_
      refine mg_iconst (pc := 12) dX12_goesSo_12 kc_0 ?_
      refine mb_cVi (pc := 13) (As := [.int i2, .int (0 : Int32)]) (rest := []) dX12_goesSo_13 cw_X12_419 h0 hr (fun v hv => X12_did_ok hz (by omega) h0 hv) rfl (Nat.le_of_ble_eq_true rfl) (Nat.zero_le _) (Nat.zero_le _) (fun r2 hr => ?_)
      refine ml_istore_n (pc := 16) dX12_goesSo_16 rfl (Nat.le_of_ble_eq_true rfl) (mm_st1_s (mm_st1_s mm_st1_i)) ?_
      refine ml_aload_n (pc := 17) dX12_goesSo_17 rfl mm_get_0 ?_
      refine ml_iload_n (pc := 18) dX12_goesSo_18 rfl (mm_get_s (mm_get_s mm_get_0)) ?_
      refine mg_iconst (pc := 19) dX12_goesSo_19 kc_1 ?_
      refine mb_cVi (pc := 20) (As := [.int i2, .int (1 : Int32)]) (rest := []) dX12_goesSo_20 cw_X12_419 h0 hr (fun v hv => X12_did_ok hz (by omega) h0 hv) rfl (Nat.le_of_ble_eq_true rfl) (Nat.zero_le _) (Nat.zero_le _) (fun r3 hr => ?_)
      refine ml_istore (pc := 23) dX12_goesSo_23 (Nat.le_of_ble_eq_true rfl) (mm_st1_s (mm_st1_s (mm_st1_s mm_st1_i))) ?_
      refine ml_aload_n (pc := 25) dX12_goesSo_25 rfl mm_get_0 ?_
      refine mb_gr (pc := 26) dX12_goesSo_26 fl_X12_115 hr (fun c4 hr => ?_)
      refine ml_iload (pc := 29) dX12_goesSo_29 (mm_get_s (mm_get_s (mm_get_s (mm_get_s mm_get_0)))) ?_
      refine ml_aload_n (pc := 31) dX12_goesSo_31 rfl mm_get_0 ?_
      refine ml_iload_n (pc := 32) dX12_goesSo_32 rfl (mm_get_s (mm_get_s mm_get_0)) ?_
      refine mg_iconst (pc := 33) dX12_goesSo_33 kc_2 ?_
      refine mb_cVi (pc := 34) (As := [.int i2, .int (2 : Int32)]) (rest := [.int r3.1, .ref c4]) dX12_goesSo_34 cw_X12_419 h0 hr (fun v hv => X12_did_ok hz (by omega) h0 hv) rfl (Nat.le_of_ble_eq_true rfl) (Nat.zero_le _) (Nat.zero_le _) (fun r5 hr => ?_)
      refine mb_cSi (pc := 37) (As := [.ref c4, .int r3.1, .int r5.1]) (rest := []) dX12_goesSo_37 cw_X12_362  hr (fun v hv => X12_takes_ok hz (by omega)  hv) rfl (Nat.le_of_ble_eq_true rfl) (Nat.zero_le _) (Nat.zero_le _) (fun r6 hr => ?_)
      refine ml_istore (pc := 40) dX12_goesSo_40 (Nat.le_of_ble_eq_true rfl) (mm_st1_s (mm_st1_s (mm_st1_s (mm_st1_s mm_st1_i)))) ?_
      refine ml_iload_n (pc := 42) dX12_goesSo_42 rfl (mm_get_s mm_get_0) ?_
      refine ml_iload_n (pc := 43) dX12_goesSo_43 rfl (mm_get_s (mm_get_s (mm_get_s mm_get_0))) ?_
      refine mb_icmp_eq (pc := 44) 53 dX12_goesSo_44 rfl hr (fun hr => ?_) (fun hr => ?_)
      · exact mg_weak (mm_le_s (mm_le_s (mm_le_s (mm_le_s (mm_le_n (mm_le_s (mm_le_n mm_le_0))))))) (X12_goesSo_b53_ok hz hd h0 ih hr)
      · refine ml_iload_n (pc := 47) dX12_goesSo_47 rfl (mm_get_s mm_get_0) ?_
        refine ml_iload (pc := 48) dX12_goesSo_48 (mm_get_s (mm_get_s (mm_get_s (mm_get_s mm_get_0)))) ?_
        refine mb_icmp_ne (pc := 50) 66 dX12_goesSo_50 rfl hr (fun hr => ?_) (fun hr => ?_)
        · exact mg_weak (mm_le_s (mm_le_s (mm_le_s (mm_le_s (mm_le_n (mm_le_s (mm_le_n mm_le_0))))))) (X12_goesSo_b66_ok hz hd h0 ih hr)
        · exact mg_weak (mm_le_s (mm_le_s (mm_le_s (mm_le_s (mm_le_n (mm_le_s (mm_le_n mm_le_0))))))) (X12_goesSo_b53_ok hz hd h0 ih hr)
def X12_goesSo (e : mm_E) (a0 : Nat) (i1 : Int32) (m : mm_V) : Option (Int32 × mm_V) := X12_goesSo_L2 e a0 i1 e.2.2 (0 : Int32) m
theorem X12_goesSo_ok {K : mm_K} {nx : Option Nat} {e : mm_E} (hz : e.2.1 = K.2.2.2.2) {d : Nat} (hd : 2 ≤ d) {a0 : Nat} {i1 : Int32} (h0 : e.1 a0 = some (12, 75)) {m : mm_V} {r : (Int32 × mm_V)} (hr : X12_goesSo e a0 i1 m = some r) : mm_Cn K MX12_goesSo d (mm_Fi e.1 nx r) [.ref a0, .int i1] (e.1, m) nx := by
  obtain ⟨d, rfl⟩ : ∃ d', d = d' + 1 := ⟨d - 1, by omega⟩
  refine mm_entry (by decide) (Nat.le_of_ble_eq_true rfl) rfl (fun hok => ?_)
  unfold X12_goesSo at hr
  refine mg_weak (L' := [some (.ref a0), some (.int i1), none, none, none, none, none]) (mm_le_s (mm_le_s (mm_le_e (mm_le_e (mm_le_e (mm_le_e (mm_le_e mm_le_0))))))) ?_
  refine mg_iconst (pc := 0) dX12_goesSo_0 kc_0 ?_
  refine ml_istore_n (pc := 1) dX12_goesSo_1 rfl (Nat.le_of_ble_eq_true rfl) (mm_st1_s mm_st1_i) ?_
  exact mg_weak (mm_le_s (mm_le_s (mm_le_s (mm_le_n (mm_le_n (mm_le_n (mm_le_n mm_le_0))))))) (X12_goesSo_L2_ok hz hd h0 _ _ _ _ hr)
theorem dX12_counts_0 : decode cX12_counts 0 = .ok (.aload_n 0, 1) := by decide +kernel
theorem dX12_counts_1 : decode cX12_counts 1 = .ok (.aload_n 0, 1) := by decide +kernel
theorem dX12_counts_2 : decode cX12_counts 2 = .ok (.getfield 57, 3) := by decide +kernel
theorem dX12_counts_5 : decode cX12_counts 5 = .ok (.aload_n 0, 1) := by decide +kernel
theorem dX12_counts_6 : decode cX12_counts 6 = .ok (.getfield 115, 3) := by decide +kernel
theorem dX12_counts_9 : decode cX12_counts 9 = .ok (.invokevirtual 316, 3) := by decide +kernel
theorem dX12_counts_12 : decode cX12_counts 12 = .ok (.iconst 0, 1) := by decide +kernel
theorem dX12_counts_13 : decode cX12_counts 13 = .ok (.istore_n 3, 1) := by decide +kernel
theorem dX12_counts_14 : decode cX12_counts 14 = .ok (.iload_n 3, 1) := by decide +kernel
theorem dX12_counts_15 : decode cX12_counts 15 = .ok (.iload_n 2, 1) := by decide +kernel
theorem dX12_counts_16 : decode cX12_counts 16 = .ok (.if_icmp .ge 39, 3) := by decide +kernel
theorem dX12_counts_19 : decode cX12_counts 19 = .ok (.aload_n 0, 1) := by decide +kernel
theorem dX12_counts_20 : decode cX12_counts 20 = .ok (.getfield 115, 3) := by decide +kernel
theorem dX12_counts_23 : decode cX12_counts 23 = .ok (.bipush 14, 2) := by decide +kernel
theorem dX12_counts_25 : decode cX12_counts 25 = .ok (.bipush 19, 2) := by decide +kernel
theorem dX12_counts_27 : decode cX12_counts 27 = .ok (.aload_n 0, 1) := by decide +kernel
theorem dX12_counts_28 : decode cX12_counts 28 = .ok (.getfield 103, 3) := by decide +kernel
theorem dX12_counts_31 : decode cX12_counts 31 = .ok (.iload_n 3, 1) := by decide +kernel
theorem dX12_counts_32 : decode cX12_counts 32 = .ok (.iaload, 1) := by decide +kernel
theorem dX12_counts_33 : decode cX12_counts 33 = .ok (.imul, 1) := by decide +kernel
theorem dX12_counts_34 : decode cX12_counts 34 = .ok (.iadd, 1) := by decide +kernel
theorem dX12_counts_35 : decode cX12_counts 35 = .ok (.aload_n 0, 1) := by decide +kernel
theorem dX12_counts_36 : decode cX12_counts 36 = .ok (.getfield 106, 3) := by decide +kernel
theorem dX12_counts_39 : decode cX12_counts 39 = .ok (.iload_n 3, 1) := by decide +kernel
theorem dX12_counts_40 : decode cX12_counts 40 = .ok (.iaload, 1) := by decide +kernel
theorem dX12_counts_41 : decode cX12_counts 41 = .ok (.iadd, 1) := by decide +kernel
theorem dX12_counts_42 : decode cX12_counts 42 = .ok (.aload_n 0, 1) := by decide +kernel
theorem dX12_counts_43 : decode cX12_counts 43 = .ok (.getfield 109, 3) := by decide +kernel
theorem dX12_counts_46 : decode cX12_counts 46 = .ok (.iload_n 3, 1) := by decide +kernel
theorem dX12_counts_47 : decode cX12_counts 47 = .ok (.iaload, 1) := by decide +kernel
theorem dX12_counts_48 : decode cX12_counts 48 = .ok (.iastore, 1) := by decide +kernel
theorem dX12_counts_49 : decode cX12_counts 49 = .ok (.iinc 3 1, 3) := by decide +kernel
theorem dX12_counts_52 : decode cX12_counts 52 = .ok (.goto (-38), 3) := by decide +kernel
theorem dX12_counts_55 : decode cX12_counts 55 = .ok (.aload_n 0, 1) := by decide +kernel
theorem dX12_counts_56 : decode cX12_counts 56 = .ok (.iload_n 1, 1) := by decide +kernel
theorem dX12_counts_57 : decode cX12_counts 57 = .ok (.invokevirtual 464, 3) := by decide +kernel
theorem dX12_counts_60 : decode cX12_counts 60 = .ok (.ifCond .ne 4, 3) := by decide +kernel
theorem dX12_counts_63 : decode cX12_counts 63 = .ok (.return_, 1) := by decide +kernel
theorem dX12_counts_64 : decode cX12_counts 64 = .ok (.aload_n 0, 1) := by decide +kernel
theorem dX12_counts_65 : decode cX12_counts 65 = .ok (.dup, 1) := by decide +kernel
theorem dX12_counts_66 : decode cX12_counts 66 = .ok (.getfield 451, 3) := by decide +kernel
theorem dX12_counts_69 : decode cX12_counts 69 = .ok (.iconst 1, 1) := by decide +kernel
theorem dX12_counts_70 : decode cX12_counts 70 = .ok (.iadd, 1) := by decide +kernel
theorem dX12_counts_71 : decode cX12_counts 71 = .ok (.putfield 451, 3) := by decide +kernel
theorem dX12_counts_74 : decode cX12_counts 74 = .ok (.aload_n 0, 1) := by decide +kernel
theorem dX12_counts_75 : decode cX12_counts 75 = .ok (.aload_n 0, 1) := by decide +kernel
theorem dX12_counts_76 : decode cX12_counts 76 = .ok (.getfield 115, 3) := by decide +kernel
theorem dX12_counts_79 : decode cX12_counts 79 = .ok (.invokevirtual 372, 3) := by decide +kernel
theorem dX12_counts_82 : decode cX12_counts 82 = .ok (.istore_n 3, 1) := by decide +kernel
theorem dX12_counts_83 : decode cX12_counts 83 = .ok (.aload_n 0, 1) := by decide +kernel
theorem dX12_counts_84 : decode cX12_counts 84 = .ok (.getfield 121, 3) := by decide +kernel
theorem dX12_counts_87 : decode cX12_counts 87 = .ok (.iload_n 3, 1) := by decide +kernel
theorem dX12_counts_88 : decode cX12_counts 88 = .ok (.dup2, 1) := by decide +kernel
theorem dX12_counts_89 : decode cX12_counts 89 = .ok (.iaload, 1) := by decide +kernel
theorem dX12_counts_90 : decode cX12_counts 90 = .ok (.iconst 1, 1) := by decide +kernel
theorem dX12_counts_91 : decode cX12_counts 91 = .ok (.iadd, 1) := by decide +kernel
theorem dX12_counts_92 : decode cX12_counts 92 = .ok (.iastore, 1) := by decide +kernel
theorem dX12_counts_93 : decode cX12_counts 93 = .ok (.aload_n 0, 1) := by decide +kernel
theorem dX12_counts_94 : decode cX12_counts 94 = .ok (.getfield 60, 3) := by decide +kernel
theorem dX12_counts_97 : decode cX12_counts 97 = .ok (.iload_n 1, 1) := by decide +kernel
theorem dX12_counts_98 : decode cX12_counts 98 = .ok (.invokestatic 327, 3) := by decide +kernel
theorem dX12_counts_101 : decode cX12_counts 101 = .ok (.ifCond .le 34, 3) := by decide +kernel
theorem dX12_counts_104 : decode cX12_counts 104 = .ok (.iload_n 3, 1) := by decide +kernel
theorem dX12_counts_105 : decode cX12_counts 105 = .ok (.aload_n 0, 1) := by decide +kernel
theorem dX12_counts_106 : decode cX12_counts 106 = .ok (.aload_n 0, 1) := by decide +kernel
theorem dX12_counts_107 : decode cX12_counts 107 = .ok (.getfield 60, 3) := by decide +kernel
theorem dX12_counts_110 : decode cX12_counts 110 = .ok (.iload_n 1, 1) := by decide +kernel
theorem dX12_counts_111 : decode cX12_counts 111 = .ok (.invokevirtual 342, 3) := by decide +kernel
theorem dX12_counts_114 : decode cX12_counts 114 = .ok (.if_icmp .ne 21, 3) := by decide +kernel
theorem dX12_counts_117 : decode cX12_counts 117 = .ok (.aload_n 0, 1) := by decide +kernel
theorem dX12_counts_118 : decode cX12_counts 118 = .ok (.getfield 118, 3) := by decide +kernel
theorem dX12_counts_121 : decode cX12_counts 121 = .ok (.aload_n 0, 1) := by decide +kernel
theorem dX12_counts_122 : decode cX12_counts 122 = .ok (.getfield 115, 3) := by decide +kernel
theorem dX12_counts_125 : decode cX12_counts 125 = .ok (.iload_n 3, 1) := by decide +kernel
theorem dX12_counts_126 : decode cX12_counts 126 = .ok (.iconst 0, 1) := by decide +kernel
theorem dX12_counts_127 : decode cX12_counts 127 = .ok (.invokestatic 335, 3) := by decide +kernel
theorem dX12_counts_130 : decode cX12_counts 130 = .ok (.dup2, 1) := by decide +kernel
theorem dX12_counts_131 : decode cX12_counts 131 = .ok (.iaload, 1) := by decide +kernel
theorem dX12_counts_132 : decode cX12_counts 132 = .ok (.iconst 1, 1) := by decide +kernel
theorem dX12_counts_133 : decode cX12_counts 133 = .ok (.iadd, 1) := by decide +kernel
theorem dX12_counts_134 : decode cX12_counts 134 = .ok (.iastore, 1) := by decide +kernel
theorem dX12_counts_135 : decode cX12_counts 135 = .ok (.return_, 1) := by decide +kernel
def X12_counts_b135 (e : mm_E) (m : mm_V) : Option mm_V := some m
theorem X12_counts_b135_ok {K : mm_K} {nx : Option Nat} {e : mm_E} (hz : e.2.1 = K.2.2.2.2) {d : Nat} (hd : 3 ≤ d) {a0 : Nat} (h0 : e.1 a0 = some (12, 75)) {m : mm_V} {r : mm_V} (hr : X12_counts_b135 e m = some r) : mm_G K MX12_counts d (mm_Fv e.1 nx r) 135 [none, none, none, none] [] (e.1, m) nx 0 0 := by
  obtain ⟨d, rfl⟩ : ∃ d', d = d' + 1 := ⟨d - 1, by omega⟩
  unfold X12_counts_b135 at hr
  exact mb_vret dX12_counts_135 rfl hr
def X12_counts_L14 (e : mm_E) (a0 : Nat) (i1 : Int32) (i2 : Int32) : Nat → Int32 → mm_V → Option mm_V
  | 0, _, _ => none
  | n + 1, i3, m => if i2 ≤ i3 then ((X12_goesSo e a0 i1 m).bind fun r1 => if ¬ r1.1 = 0 then ((mm_gi e.1 r1.2 12 75 a0 66).bind fun x2 => (mm_pf e.1 r1.2 12 75 a0 66 (.int (x2 + (1 : Int32)))).bind fun m3 => (mm_gr e.1 m3 12 75 a0 63).bind fun c4 => (X12_queen e a0 c4 m3).bind fun r5 => (mm_gr e.1 r5.2 12 75 a0 65).bind fun c6 => (mm_ai e.1 r5.2 20 c6 r5.1).bind fun x7 => (mm_si e.1 r5.2 c6 r5.1 (x7 + (1 : Int32))).bind fun m8 => (mm_gr e.1 m8 12 75 a0 39).bind fun c9 => (X12_size e c9 i1 m8).bind fun r10 => if r10.1 ≤ 0 then (X12_counts_b135 e   r10.2) else ((mm_gr e.1 r10.2 12 75 a0 39).bind fun c11 => (X12_nextOf e a0 c11 i1 r10.2).bind fun r12 => if ¬ r5.1 = r12.1 then (X12_counts_b135 e   r12.2) else ((mm_gr e.1 r12.2 12 75 a0 64).bind fun c13 => (mm_gr e.1 r12.2 12 75 a0 63).bind fun c14 => (X12_placeOf e c14 r5.1 (0 : Int32) r12.2).bind fun r15 => (mm_ai e.1 r15.2 20 c13 r15.1).bind fun x16 => (mm_si e.1 r15.2 c13 r15.1 (x16 + (1 : Int32))).bind fun m17 => X12_counts_b135 e   m17))) else (some r1.2)) else ((mm_gr e.1 m 12 75 a0 63).bind fun c18 => (mm_gr e.1 m 12 75 a0 59).bind fun c19 => (mm_ai e.1 m 20 c19 i3).bind fun x20 => (mm_gr e.1 m 12 75 a0 60).bind fun c21 => (mm_ai e.1 m 20 c21 i3).bind fun x22 => (mm_gr e.1 m 12 75 a0 61).bind fun c23 => (mm_ai e.1 m 20 c23 i3).bind fun x24 => (mm_si e.1 m c18 (((14 : Int32) + ((19 : Int32) * x20)) + x22) x24).bind fun m25 => X12_counts_L14 e a0 i1 i2 n (i3 + 1) m25)
theorem X12_counts_L14_ok {K : mm_K} {nx : Option Nat} {e : mm_E} (hz : e.2.1 = K.2.2.2.2) {d : Nat} (hd : 3 ≤ d) {a0 : Nat} {i1 : Int32} {i2 : Int32} (h0 : e.1 a0 = some (12, 75)) : ∀ (n : Nat) (i3 : Int32) (m : mm_V) (r : mm_V), X12_counts_L14 e a0 i1 i2 n i3 m = some r → mm_G K MX12_counts d (mm_Fv e.1 nx r) 14 [some (.ref a0), some (.int i1), some (.int i2), some (.int i3)] [] (e.1, m) nx 0 0 := by
  obtain ⟨d, rfl⟩ : ∃ d', d = d' + 1 := ⟨d - 1, by omega⟩
  intro n
  induction n with
  | zero => intro i3 m r hr; unfold X12_counts_L14 at hr; cases hr
  | succ n ih =>
    intro i3 m r hr
    unfold X12_counts_L14 at hr
    refine ml_iload_n (pc := 14) dX12_counts_14 rfl (mm_get_s (mm_get_s (mm_get_s mm_get_0))) ?_
    refine ml_iload_n (pc := 15) dX12_counts_15 rfl (mm_get_s (mm_get_s mm_get_0)) ?_
    refine mb_icmp_ge (pc := 16) 55 dX12_counts_16 rfl hr (fun hr => ?_) (fun hr => ?_)
    · refine ml_aload_n (pc := 55) dX12_counts_55 rfl mm_get_0 ?_
      refine ml_iload_n (pc := 56) dX12_counts_56 rfl (mm_get_s mm_get_0) ?_
      refine mb_cVi (pc := 57) (As := [.int i1]) (rest := []) dX12_counts_57 cw_X12_464 h0 hr (fun v hv => X12_goesSo_ok hz (by omega) h0 hv) rfl (Nat.le_of_ble_eq_true rfl) (Nat.zero_le _) (Nat.zero_le _) (fun r1 hr => ?_)
      refine mb_if_ne (pc := 60) 64 dX12_counts_60 rfl hr (fun hr => ?_) (fun hr => ?_)
      · refine ml_aload_n (pc := 64) dX12_counts_64 rfl mm_get_0 ?_
        refine mg_dup (pc := 65) dX12_counts_65 rfl ?_
        refine mb_gi (pc := 66) dX12_counts_66 fl_X12_451 hr (fun x2 hr => ?_)
        refine mg_iconst (pc := 69) dX12_counts_69 kc_1 ?_
        refine mg_iadd (pc := 70) dX12_counts_70 ?_
        refine mb_pi (pc := 71) dX12_counts_71 fp_X12_451 hr (fun m3 hr => ?_)
        refine ml_aload_n (pc := 74) dX12_counts_74 rfl mm_get_0 ?_
        refine ml_aload_n (pc := 75) dX12_counts_75 rfl mm_get_0 ?_
        refine mb_gr (pc := 76) dX12_counts_76 fl_X12_115 hr (fun c4 hr => ?_)
        refine mb_cVi (pc := 79) (As := [.ref c4]) (rest := []) dX12_counts_79 cw_X12_372 h0 hr (fun v hv => X12_queen_ok hz (by omega) h0 hv) rfl (Nat.le_of_ble_eq_true rfl) (Nat.zero_le _) (Nat.zero_le _) (fun r5 hr => ?_)
        refine ml_istore_n (pc := 82) dX12_counts_82 rfl (Nat.le_of_ble_eq_true rfl) (mm_st1_s (mm_st1_s mm_st1_i)) ?_
        refine ml_aload_n (pc := 83) dX12_counts_83 rfl mm_get_0 ?_
        refine mb_gr (pc := 84) dX12_counts_84 fl_X12_121 hr (fun c6 hr => ?_)
        refine ml_iload_n (pc := 87) dX12_counts_87 rfl (mm_get_s (mm_get_s (mm_get_s mm_get_0))) ?_
        refine mg_dup2 (pc := 88) dX12_counts_88 rfl rfl ?_
        refine mb_ai (pc := 89) dX12_counts_89 hr (fun x7 hr => ?_)
        refine mg_iconst (pc := 90) dX12_counts_90 kc_1 ?_
        refine mg_iadd (pc := 91) dX12_counts_91 ?_
        refine mb_si (pc := 92) dX12_counts_92 hr (fun m8 hr => ?_)
        refine ml_aload_n (pc := 93) dX12_counts_93 rfl mm_get_0 ?_
        refine mb_gr (pc := 94) dX12_counts_94 fl_X12_60 hr (fun c9 hr => ?_)
        refine ml_iload_n (pc := 97) dX12_counts_97 rfl (mm_get_s mm_get_0) ?_
        refine mb_cSi (pc := 98) (As := [.ref c9, .int i1]) (rest := []) dX12_counts_98 cw_X12_327  hr (fun v hv => X12_size_ok hz (by omega)  hv) rfl (Nat.le_of_ble_eq_true rfl) (Nat.zero_le _) (Nat.zero_le _) (fun r10 hr => ?_)
        refine mb_if_le (pc := 101) 135 dX12_counts_101 rfl hr (fun hr => ?_) (fun hr => ?_)
        · exact mg_weak (mm_le_n (mm_le_n (mm_le_n (mm_le_n mm_le_0)))) (X12_counts_b135_ok hz hd h0 hr)
        · refine ml_iload_n (pc := 104) dX12_counts_104 rfl (mm_get_s (mm_get_s (mm_get_s mm_get_0))) ?_
          refine ml_aload_n (pc := 105) dX12_counts_105 rfl mm_get_0 ?_
          refine ml_aload_n (pc := 106) dX12_counts_106 rfl mm_get_0 ?_
          refine mb_gr (pc := 107) dX12_counts_107 fl_X12_60 hr (fun c11 hr => ?_)
          refine ml_iload_n (pc := 110) dX12_counts_110 rfl (mm_get_s mm_get_0) ?_
          refine mb_cVi (pc := 111) (As := [.ref c11, .int i1]) (rest := [.int r5.1]) dX12_counts_111 cw_X12_342 h0 hr (fun v hv => X12_nextOf_ok hz (by omega) h0 hv) rfl (Nat.le_of_ble_eq_true rfl) (Nat.zero_le _) (Nat.zero_le _) (fun r12 hr => ?_)
          refine mb_icmp_ne (pc := 114) 135 dX12_counts_114 rfl hr (fun hr => ?_) (fun hr => ?_)
          · exact mg_weak (mm_le_n (mm_le_n (mm_le_n (mm_le_n mm_le_0)))) (X12_counts_b135_ok hz hd h0 hr)
          · refine ml_aload_n (pc := 117) dX12_counts_117 rfl mm_get_0 ?_
            refine mb_gr (pc := 118) dX12_counts_118 fl_X12_118 hr (fun c13 hr => ?_)
            refine ml_aload_n (pc := 121) dX12_counts_121 rfl mm_get_0 ?_
            refine mb_gr (pc := 122) dX12_counts_122 fl_X12_115 hr (fun c14 hr => ?_)
            refine ml_iload_n (pc := 125) dX12_counts_125 rfl (mm_get_s (mm_get_s (mm_get_s mm_get_0))) ?_
            refine mg_iconst (pc := 126) dX12_counts_126 kc_0 ?_
            refine mb_cSi (pc := 127) (As := [.ref c14, .int r5.1, .int (0 : Int32)]) (rest := [.ref c13]) dX12_counts_127 cw_X12_335  hr (fun v hv => X12_placeOf_ok hz (by omega)  hv) rfl (Nat.le_of_ble_eq_true rfl) (Nat.zero_le _) (Nat.zero_le _) (fun r15 hr => ?_)
            refine mg_dup2 (pc := 130) dX12_counts_130 rfl rfl ?_
            refine mb_ai (pc := 131) dX12_counts_131 hr (fun x16 hr => ?_)
            refine mg_iconst (pc := 132) dX12_counts_132 kc_1 ?_
            refine mg_iadd (pc := 133) dX12_counts_133 ?_
            refine mb_si (pc := 134) dX12_counts_134 hr (fun m17 hr => ?_)
            exact mg_weak (mm_le_n (mm_le_n (mm_le_n (mm_le_n mm_le_0)))) (X12_counts_b135_ok hz hd h0 hr)
      · exact mb_vret dX12_counts_63 rfl hr
    · refine ml_aload_n (pc := 19) dX12_counts_19 rfl mm_get_0 ?_
      refine mb_gr (pc := 20) dX12_counts_20 fl_X12_115 hr (fun c18 hr => ?_)
      refine mg_bipush (pc := 23) dX12_counts_23 kb_14 ?_
      refine mg_bipush (pc := 25) dX12_counts_25 kb_19 ?_
      refine ml_aload_n (pc := 27) dX12_counts_27 rfl mm_get_0 ?_
      refine mb_gr (pc := 28) dX12_counts_28 fl_X12_103 hr (fun c19 hr => ?_)
      refine ml_iload_n (pc := 31) dX12_counts_31 rfl (mm_get_s (mm_get_s (mm_get_s mm_get_0))) ?_
      refine mb_ai (pc := 32) dX12_counts_32 hr (fun x20 hr => ?_)
      refine mg_imul (pc := 33) dX12_counts_33 ?_
      refine mg_iadd (pc := 34) dX12_counts_34 ?_
      refine ml_aload_n (pc := 35) dX12_counts_35 rfl mm_get_0 ?_
      refine mb_gr (pc := 36) dX12_counts_36 fl_X12_106 hr (fun c21 hr => ?_)
      refine ml_iload_n (pc := 39) dX12_counts_39 rfl (mm_get_s (mm_get_s (mm_get_s mm_get_0))) ?_
      refine mb_ai (pc := 40) dX12_counts_40 hr (fun x22 hr => ?_)
      refine mg_iadd (pc := 41) dX12_counts_41 ?_
      refine ml_aload_n (pc := 42) dX12_counts_42 rfl mm_get_0 ?_
      refine mb_gr (pc := 43) dX12_counts_43 fl_X12_109 hr (fun c23 hr => ?_)
      refine ml_iload_n (pc := 46) dX12_counts_46 rfl (mm_get_s (mm_get_s (mm_get_s mm_get_0))) ?_
      refine mb_ai (pc := 47) dX12_counts_47 hr (fun x24 hr => ?_)
      refine mb_si (pc := 48) dX12_counts_48 hr (fun m25 hr => ?_)
      refine ml_iinc (pc := 49) dX12_counts_49 (mm_get_s (mm_get_s (mm_get_s mm_get_0))) (congrArg (fun z => i3 + z) kc_1) (Nat.le_of_ble_eq_true rfl) (mm_st1_s (mm_st1_s mm_st1_i)) ?_
      refine mg_goto (pc := 52) 14 dX12_counts_52 rfl ?_
      exact mg_weak (mm_le_s (mm_le_s (mm_le_s (mm_le_s mm_le_0)))) (ih _ _ _ hr)
def X12_counts (e : mm_E) (a0 : Nat) (i1 : Int32) (i2 : Int32) (m : mm_V) : Option mm_V := (mm_gr e.1 m 12 75 a0 38).bind fun c1 => (mm_gr e.1 m 12 75 a0 63).bind fun c2 => (X12_copies e a0 c1 c2 m).bind fun r3 => X12_counts_L14 e a0 i1 i2 e.2.2 (0 : Int32) r3
theorem X12_counts_ok {K : mm_K} {nx : Option Nat} {e : mm_E} (hz : e.2.1 = K.2.2.2.2) {d : Nat} (hd : 3 ≤ d) {a0 : Nat} {i1 : Int32} {i2 : Int32} (h0 : e.1 a0 = some (12, 75)) {m : mm_V} {r : mm_V} (hr : X12_counts e a0 i1 i2 m = some r) : mm_Cn K MX12_counts d (mm_Fv e.1 nx r) [.ref a0, .int i1, .int i2] (e.1, m) nx := by
  obtain ⟨d, rfl⟩ : ∃ d', d = d' + 1 := ⟨d - 1, by omega⟩
  refine mm_entry (by decide) (Nat.le_of_ble_eq_true rfl) rfl (fun hok => ?_)
  unfold X12_counts at hr
  refine mg_weak (L' := [some (.ref a0), some (.int i1), some (.int i2), none]) (mm_le_s (mm_le_s (mm_le_s (mm_le_e mm_le_0)))) ?_
  refine ml_aload_n (pc := 0) dX12_counts_0 rfl mm_get_0 ?_
  refine ml_aload_n (pc := 1) dX12_counts_1 rfl mm_get_0 ?_
  refine mb_gr (pc := 2) dX12_counts_2 fl_X12_57 hr (fun c1 hr => ?_)
  refine ml_aload_n (pc := 5) dX12_counts_5 rfl mm_get_0 ?_
  refine mb_gr (pc := 6) dX12_counts_6 fl_X12_115 hr (fun c2 hr => ?_)
  refine mb_cVv (pc := 9) (As := [.ref c1, .ref c2]) (rest := []) dX12_counts_9 cw_X12_316 h0 hr (fun v hv => X12_copies_ok hz (by omega) h0 hv) rfl (Nat.le_of_ble_eq_true rfl) (Nat.zero_le _) (Nat.zero_le _) (fun r3 hr => ?_)
  refine mg_iconst (pc := 12) dX12_counts_12 kc_0 ?_
  refine ml_istore_n (pc := 13) dX12_counts_13 rfl (Nat.le_of_ble_eq_true rfl) (mm_st1_s (mm_st1_s mm_st1_i)) ?_
  exact mg_weak (mm_le_s (mm_le_s (mm_le_s (mm_le_s mm_le_0)))) (X12_counts_L14_ok hz hd h0 _ _ _ _ hr)
theorem dX12_isThere_0 : decode cX12_isThere 0 = .ok (.iconst 0, 1) := by decide +kernel
theorem dX12_isThere_1 : decode cX12_isThere 1 = .ok (.istore_n 2, 1) := by decide +kernel
theorem dX12_isThere_2 : decode cX12_isThere 2 = .ok (.iload_n 2, 1) := by decide +kernel
theorem dX12_isThere_3 : decode cX12_isThere 3 = .ok (.iload_n 1, 1) := by decide +kernel
theorem dX12_isThere_4 : decode cX12_isThere 4 = .ok (.if_icmp .ge 41, 3) := by decide +kernel
theorem dX12_isThere_7 : decode cX12_isThere 7 = .ok (.aload_n 0, 1) := by decide +kernel
theorem dX12_isThere_8 : decode cX12_isThere 8 = .ok (.getfield 103, 3) := by decide +kernel
theorem dX12_isThere_11 : decode cX12_isThere 11 = .ok (.iload_n 2, 1) := by decide +kernel
theorem dX12_isThere_12 : decode cX12_isThere 12 = .ok (.iaload, 1) := by decide +kernel
theorem dX12_isThere_13 : decode cX12_isThere 13 = .ok (.aload_n 0, 1) := by decide +kernel
theorem dX12_isThere_14 : decode cX12_isThere 14 = .ok (.getfield 103, 3) := by decide +kernel
theorem dX12_isThere_17 : decode cX12_isThere 17 = .ok (.iload_n 1, 1) := by decide +kernel
theorem dX12_isThere_18 : decode cX12_isThere 18 = .ok (.iaload, 1) := by decide +kernel
theorem dX12_isThere_19 : decode cX12_isThere 19 = .ok (.if_icmp .ne 20, 3) := by decide +kernel
theorem dX12_isThere_22 : decode cX12_isThere 22 = .ok (.aload_n 0, 1) := by decide +kernel
theorem dX12_isThere_23 : decode cX12_isThere 23 = .ok (.getfield 109, 3) := by decide +kernel
theorem dX12_isThere_26 : decode cX12_isThere 26 = .ok (.iload_n 2, 1) := by decide +kernel
theorem dX12_isThere_27 : decode cX12_isThere 27 = .ok (.iaload, 1) := by decide +kernel
theorem dX12_isThere_28 : decode cX12_isThere 28 = .ok (.aload_n 0, 1) := by decide +kernel
theorem dX12_isThere_29 : decode cX12_isThere 29 = .ok (.getfield 109, 3) := by decide +kernel
theorem dX12_isThere_32 : decode cX12_isThere 32 = .ok (.iload_n 1, 1) := by decide +kernel
theorem dX12_isThere_33 : decode cX12_isThere 33 = .ok (.iaload, 1) := by decide +kernel
theorem dX12_isThere_34 : decode cX12_isThere 34 = .ok (.if_icmp .ne 5, 3) := by decide +kernel
theorem dX12_isThere_37 : decode cX12_isThere 37 = .ok (.iconst 1, 1) := by decide +kernel
theorem dX12_isThere_38 : decode cX12_isThere 38 = .ok (.ireturn, 1) := by decide +kernel
theorem dX12_isThere_39 : decode cX12_isThere 39 = .ok (.iinc 2 1, 3) := by decide +kernel
theorem dX12_isThere_42 : decode cX12_isThere 42 = .ok (.goto (-40), 3) := by decide +kernel
theorem dX12_isThere_45 : decode cX12_isThere 45 = .ok (.iconst 0, 1) := by decide +kernel
theorem dX12_isThere_46 : decode cX12_isThere 46 = .ok (.ireturn, 1) := by decide +kernel
def X12_isThere_b39 (e : mm_E) (k2 : Int32 → mm_V → Option (Int32 × mm_V)) (a0 : Nat) (i1 : Int32) (i2 : Int32) (m : mm_V) : Option (Int32 × mm_V) := k2 (i2 + 1) m
theorem X12_isThere_b39_ok {K : mm_K} {nx : Option Nat} {e : mm_E} (hz : e.2.1 = K.2.2.2.2) {d : Nat} (hd : 0 ≤ d) {a0 : Nat} {i1 : Int32} {i2 : Int32} (h0 : e.1 a0 = some (12, 75)) {k2 : Int32 → mm_V → Option (Int32 × mm_V)} (hk2 : ∀ (w2 : Int32) (m : mm_V) (r : (Int32 × mm_V)), k2 w2 m = some r → mm_G K MX12_isThere d (mm_Fi e.1 nx r) 2 [some (.ref a0), some (.int i1), some (.int w2)] [] (e.1, m) nx 0 0) {m : mm_V} {r : (Int32 × mm_V)} (hr : X12_isThere_b39 e k2 a0 i1 i2 m = some r) : mm_G K MX12_isThere d (mm_Fi e.1 nx r) 39 [some (.ref a0), some (.int i1), some (.int i2)] [] (e.1, m) nx 0 0 := by
  unfold X12_isThere_b39 at hr
  refine ml_iinc (pc := 39) dX12_isThere_39 (mm_get_s (mm_get_s mm_get_0)) (congrArg (fun z => i2 + z) kc_1) (Nat.le_of_ble_eq_true rfl) (mm_st1_s mm_st1_i) ?_
  refine mg_goto (pc := 42) 2 dX12_isThere_42 rfl ?_
  exact mg_weak (mm_le_s (mm_le_s (mm_le_s mm_le_0))) (hk2 _ _ _ hr)
def X12_isThere_L2 (e : mm_E) (a0 : Nat) (i1 : Int32) : Nat → Int32 → mm_V → Option (Int32 × mm_V)
  | 0, _, _ => none
  | n + 1, i2, m => if i1 ≤ i2 then (mm_rz (0 : Int32) m) else ((mm_gr e.1 m 12 75 a0 59).bind fun c1 => (mm_ai e.1 m 20 c1 i2).bind fun x2 => (mm_gr e.1 m 12 75 a0 59).bind fun c3 => (mm_ai e.1 m 20 c3 i1).bind fun x4 => if ¬ x2 = x4 then (X12_isThere_b39 e (X12_isThere_L2 e a0 i1 n) a0 i1 i2  m) else ((mm_gr e.1 m 12 75 a0 61).bind fun c5 => (mm_ai e.1 m 20 c5 i2).bind fun x6 => (mm_gr e.1 m 12 75 a0 61).bind fun c7 => (mm_ai e.1 m 20 c7 i1).bind fun x8 => if ¬ x6 = x8 then (X12_isThere_b39 e (X12_isThere_L2 e a0 i1 n) a0 i1 i2  m) else (mm_rz (1 : Int32) m)))
theorem X12_isThere_L2_ok {K : mm_K} {nx : Option Nat} {e : mm_E} (hz : e.2.1 = K.2.2.2.2) {d : Nat} (hd : 0 ≤ d) {a0 : Nat} {i1 : Int32} (h0 : e.1 a0 = some (12, 75)) : ∀ (n : Nat) (i2 : Int32) (m : mm_V) (r : (Int32 × mm_V)), X12_isThere_L2 e a0 i1 n i2 m = some r → mm_G K MX12_isThere d (mm_Fi e.1 nx r) 2 [some (.ref a0), some (.int i1), some (.int i2)] [] (e.1, m) nx 0 0 := by
  intro n
  induction n with
  | zero => intro i2 m r hr; unfold X12_isThere_L2 at hr; cases hr
  | succ n ih =>
    intro i2 m r hr
    unfold X12_isThere_L2 at hr
    refine ml_iload_n (pc := 2) dX12_isThere_2 rfl (mm_get_s (mm_get_s mm_get_0)) ?_
    refine ml_iload_n (pc := 3) dX12_isThere_3 rfl (mm_get_s mm_get_0) ?_
    refine mb_icmp_ge (pc := 4) 45 dX12_isThere_4 rfl hr (fun hr => ?_) (fun hr => ?_)
    · refine mg_iconst (pc := 45) dX12_isThere_45 kc_0 ?_
      exact mb_zret dX12_isThere_46 rfl hr
    · refine ml_aload_n (pc := 7) dX12_isThere_7 rfl mm_get_0 ?_
      refine mb_gr (pc := 8) dX12_isThere_8 fl_X12_103 hr (fun c1 hr => ?_)
      refine ml_iload_n (pc := 11) dX12_isThere_11 rfl (mm_get_s (mm_get_s mm_get_0)) ?_
      refine mb_ai (pc := 12) dX12_isThere_12 hr (fun x2 hr => ?_)
      refine ml_aload_n (pc := 13) dX12_isThere_13 rfl mm_get_0 ?_
      refine mb_gr (pc := 14) dX12_isThere_14 fl_X12_103 hr (fun c3 hr => ?_)
      refine ml_iload_n (pc := 17) dX12_isThere_17 rfl (mm_get_s mm_get_0) ?_
      refine mb_ai (pc := 18) dX12_isThere_18 hr (fun x4 hr => ?_)
      refine mb_icmp_ne (pc := 19) 39 dX12_isThere_19 rfl hr (fun hr => ?_) (fun hr => ?_)
      · exact mg_weak (mm_le_s (mm_le_s (mm_le_s mm_le_0))) (X12_isThere_b39_ok hz hd h0 ih hr)
      · refine ml_aload_n (pc := 22) dX12_isThere_22 rfl mm_get_0 ?_
        refine mb_gr (pc := 23) dX12_isThere_23 fl_X12_109 hr (fun c5 hr => ?_)
        refine ml_iload_n (pc := 26) dX12_isThere_26 rfl (mm_get_s (mm_get_s mm_get_0)) ?_
        refine mb_ai (pc := 27) dX12_isThere_27 hr (fun x6 hr => ?_)
        refine ml_aload_n (pc := 28) dX12_isThere_28 rfl mm_get_0 ?_
        refine mb_gr (pc := 29) dX12_isThere_29 fl_X12_109 hr (fun c7 hr => ?_)
        refine ml_iload_n (pc := 32) dX12_isThere_32 rfl (mm_get_s mm_get_0) ?_
        refine mb_ai (pc := 33) dX12_isThere_33 hr (fun x8 hr => ?_)
        refine mb_icmp_ne (pc := 34) 39 dX12_isThere_34 rfl hr (fun hr => ?_) (fun hr => ?_)
        · exact mg_weak (mm_le_s (mm_le_s (mm_le_s mm_le_0))) (X12_isThere_b39_ok hz hd h0 ih hr)
        · refine mg_iconst (pc := 37) dX12_isThere_37 kc_1 ?_
          exact mb_zret dX12_isThere_38 rfl hr
def X12_isThere (e : mm_E) (a0 : Nat) (i1 : Int32) (m : mm_V) : Option (Int32 × mm_V) := X12_isThere_L2 e a0 i1 e.2.2 (0 : Int32) m
theorem X12_isThere_ok {K : mm_K} {nx : Option Nat} {e : mm_E} (hz : e.2.1 = K.2.2.2.2) {d : Nat} (hd : 0 ≤ d) {a0 : Nat} {i1 : Int32} (h0 : e.1 a0 = some (12, 75)) {m : mm_V} {r : (Int32 × mm_V)} (hr : X12_isThere e a0 i1 m = some r) : mm_Cn K MX12_isThere d (mm_Fi e.1 nx r) [.ref a0, .int i1] (e.1, m) nx := by
  refine mm_entry (by decide) (Nat.le_of_ble_eq_true rfl) rfl (fun hok => ?_)
  unfold X12_isThere at hr
  refine mg_weak (L' := [some (.ref a0), some (.int i1), none]) (mm_le_s (mm_le_s (mm_le_e mm_le_0))) ?_
  refine mg_iconst (pc := 0) dX12_isThere_0 kc_0 ?_
  refine ml_istore_n (pc := 1) dX12_isThere_1 rfl (Nat.le_of_ble_eq_true rfl) (mm_st1_s mm_st1_i) ?_
  exact mg_weak (mm_le_s (mm_le_s (mm_le_s mm_le_0))) (X12_isThere_L2_ok hz hd h0 _ _ _ _ hr)
theorem dX12_believes_0 : decode cX12_believes 0 = .ok (.aload_n 0, 1) := by decide +kernel
theorem dX12_believes_1 : decode cX12_believes 1 = .ok (.iconst 0, 1) := by decide +kernel
theorem dX12_believes_2 : decode cX12_believes 2 = .ok (.putfield 451, 3) := by decide +kernel
theorem dX12_believes_5 : decode cX12_believes 5 = .ok (.aload_n 0, 1) := by decide +kernel
theorem dX12_believes_6 : decode cX12_believes 6 = .ok (.iconst 0, 1) := by decide +kernel
theorem dX12_believes_7 : decode cX12_believes 7 = .ok (.putfield 454, 3) := by decide +kernel
theorem dX12_believes_10 : decode cX12_believes 10 = .ok (.iconst 0, 1) := by decide +kernel
theorem dX12_believes_11 : decode cX12_believes 11 = .ok (.istore_n 2, 1) := by decide +kernel
theorem dX12_believes_12 : decode cX12_believes 12 = .ok (.iload_n 2, 1) := by decide +kernel
theorem dX12_believes_13 : decode cX12_believes 13 = .ok (.bipush 6, 2) := by decide +kernel
theorem dX12_believes_15 : decode cX12_believes 15 = .ok (.if_icmp .ge 16, 3) := by decide +kernel
theorem dX12_believes_18 : decode cX12_believes 18 = .ok (.aload_n 0, 1) := by decide +kernel
theorem dX12_believes_19 : decode cX12_believes 19 = .ok (.getfield 121, 3) := by decide +kernel
theorem dX12_believes_22 : decode cX12_believes 22 = .ok (.iload_n 2, 1) := by decide +kernel
theorem dX12_believes_23 : decode cX12_believes 23 = .ok (.iconst 0, 1) := by decide +kernel
theorem dX12_believes_24 : decode cX12_believes 24 = .ok (.iastore, 1) := by decide +kernel
theorem dX12_believes_25 : decode cX12_believes 25 = .ok (.iinc 2 1, 3) := by decide +kernel
theorem dX12_believes_28 : decode cX12_believes 28 = .ok (.goto (-16), 3) := by decide +kernel
theorem dX12_believes_31 : decode cX12_believes 31 = .ok (.iconst 0, 1) := by decide +kernel
theorem dX12_believes_32 : decode cX12_believes 32 = .ok (.istore_n 2, 1) := by decide +kernel
theorem dX12_believes_33 : decode cX12_believes 33 = .ok (.iload_n 2, 1) := by decide +kernel
theorem dX12_believes_34 : decode cX12_believes 34 = .ok (.bipush 19, 2) := by decide +kernel
theorem dX12_believes_36 : decode cX12_believes 36 = .ok (.if_icmp .ge 16, 3) := by decide +kernel
theorem dX12_believes_39 : decode cX12_believes 39 = .ok (.aload_n 0, 1) := by decide +kernel
theorem dX12_believes_40 : decode cX12_believes 40 = .ok (.getfield 118, 3) := by decide +kernel
theorem dX12_believes_43 : decode cX12_believes 43 = .ok (.iload_n 2, 1) := by decide +kernel
theorem dX12_believes_44 : decode cX12_believes 44 = .ok (.iconst 0, 1) := by decide +kernel
theorem dX12_believes_45 : decode cX12_believes 45 = .ok (.iastore, 1) := by decide +kernel
theorem dX12_believes_46 : decode cX12_believes 46 = .ok (.iinc 2 1, 3) := by decide +kernel
theorem dX12_believes_49 : decode cX12_believes 49 = .ok (.goto (-16), 3) := by decide +kernel
theorem dX12_believes_52 : decode cX12_believes 52 = .ok (.aload_n 0, 1) := by decide +kernel
theorem dX12_believes_53 : decode cX12_believes 53 = .ok (.getfield 60, 3) := by decide +kernel
theorem dX12_believes_56 : decode cX12_believes 56 = .ok (.iconst 1, 1) := by decide +kernel
theorem dX12_believes_57 : decode cX12_believes 57 = .ok (.iaload, 1) := by decide +kernel
theorem dX12_believes_58 : decode cX12_believes 58 = .ok (.aload_n 0, 1) := by decide +kernel
theorem dX12_believes_59 : decode cX12_believes 59 = .ok (.getfield 365, 3) := by decide +kernel
theorem dX12_believes_62 : decode cX12_believes 62 = .ok (.if_icmp .eq 5, 3) := by decide +kernel
theorem dX12_believes_65 : decode cX12_believes 65 = .ok (.iconst 0, 1) := by decide +kernel
theorem dX12_believes_66 : decode cX12_believes 66 = .ok (.ireturn, 1) := by decide +kernel
theorem dX12_believes_67 : decode cX12_believes 67 = .ok (.iconst 0, 1) := by decide +kernel
theorem dX12_believes_68 : decode cX12_believes 68 = .ok (.istore_n 2, 1) := by decide +kernel
theorem dX12_believes_69 : decode cX12_believes 69 = .ok (.iconst 0, 1) := by decide +kernel
theorem dX12_believes_70 : decode cX12_believes 70 = .ok (.istore_n 3, 1) := by decide +kernel
theorem dX12_believes_71 : decode cX12_believes 71 = .ok (.iload_n 3, 1) := by decide +kernel
theorem dX12_believes_72 : decode cX12_believes 72 = .ok (.bipush 10, 2) := by decide +kernel
theorem dX12_believes_74 : decode cX12_believes 74 = .ok (.if_icmp .ge 16, 3) := by decide +kernel
theorem dX12_believes_77 : decode cX12_believes 77 = .ok (.aload_n 0, 1) := by decide +kernel
theorem dX12_believes_78 : decode cX12_believes 78 = .ok (.getfield 112, 3) := by decide +kernel
theorem dX12_believes_81 : decode cX12_believes 81 = .ok (.iload_n 3, 1) := by decide +kernel
theorem dX12_believes_82 : decode cX12_believes 82 = .ok (.iconst 0, 1) := by decide +kernel
theorem dX12_believes_83 : decode cX12_believes 83 = .ok (.iastore, 1) := by decide +kernel
theorem dX12_believes_84 : decode cX12_believes 84 = .ok (.iinc 3 1, 3) := by decide +kernel
theorem dX12_believes_87 : decode cX12_believes 87 = .ok (.goto (-16), 3) := by decide +kernel
theorem dX12_believes_90 : decode cX12_believes 90 = .ok (.iconst 0, 1) := by decide +kernel
theorem dX12_believes_91 : decode cX12_believes 91 = .ok (.istore_n 3, 1) := by decide +kernel
theorem dX12_believes_92 : decode cX12_believes 92 = .ok (.iload_n 3, 1) := by decide +kernel
theorem dX12_believes_93 : decode cX12_believes 93 = .ok (.aload_n 0, 1) := by decide +kernel
theorem dX12_believes_94 : decode cX12_believes 94 = .ok (.getfield 7, 3) := by decide +kernel
theorem dX12_believes_97 : decode cX12_believes 97 = .ok (.if_icmp .ge 73, 3) := by decide +kernel
theorem dX12_believes_100 : decode cX12_believes 100 = .ok (.iconst 0, 1) := by decide +kernel
theorem dX12_believes_101 : decode cX12_believes 101 = .ok (.istore 4, 2) := by decide +kernel
theorem dX12_believes_103 : decode cX12_believes 103 = .ok (.iload 4, 2) := by decide +kernel
theorem dX12_believes_105 : decode cX12_believes 105 = .ok (.aload_n 0, 1) := by decide +kernel
theorem dX12_believes_106 : decode cX12_believes 106 = .ok (.getfield 57, 3) := by decide +kernel
theorem dX12_believes_109 : decode cX12_believes 109 = .ok (.iload_n 3, 1) := by decide +kernel
theorem dX12_believes_110 : decode cX12_believes 110 = .ok (.invokestatic 327, 3) := by decide +kernel
theorem dX12_believes_113 : decode cX12_believes 113 = .ok (.if_icmp .ge 51, 3) := by decide +kernel
theorem dX12_believes_116 : decode cX12_believes 116 = .ok (.iload_n 3, 1) := by decide +kernel
theorem dX12_believes_117 : decode cX12_believes 117 = .ok (.iload_n 1, 1) := by decide +kernel
theorem dX12_believes_118 : decode cX12_believes 118 = .ok (.if_icmp .eq 46, 3) := by decide +kernel
theorem dX12_believes_121 : decode cX12_believes 121 = .ok (.aload_n 0, 1) := by decide +kernel
theorem dX12_believes_122 : decode cX12_believes 122 = .ok (.getfield 103, 3) := by decide +kernel
theorem dX12_believes_125 : decode cX12_believes 125 = .ok (.iload_n 2, 1) := by decide +kernel
theorem dX12_believes_126 : decode cX12_believes 126 = .ok (.iload_n 3, 1) := by decide +kernel
theorem dX12_believes_127 : decode cX12_believes 127 = .ok (.iastore, 1) := by decide +kernel
theorem dX12_believes_128 : decode cX12_believes 128 = .ok (.aload_n 0, 1) := by decide +kernel
theorem dX12_believes_129 : decode cX12_believes 129 = .ok (.getfield 106, 3) := by decide +kernel
theorem dX12_believes_132 : decode cX12_believes 132 = .ok (.iload_n 2, 1) := by decide +kernel
theorem dX12_believes_133 : decode cX12_believes 133 = .ok (.iload 4, 2) := by decide +kernel
theorem dX12_believes_135 : decode cX12_believes 135 = .ok (.iastore, 1) := by decide +kernel
theorem dX12_believes_136 : decode cX12_believes 136 = .ok (.iinc 2 1, 3) := by decide +kernel
theorem dX12_believes_139 : decode cX12_believes 139 = .ok (.aload_n 0, 1) := by decide +kernel
theorem dX12_believes_140 : decode cX12_believes 140 = .ok (.getfield 112, 3) := by decide +kernel
theorem dX12_believes_143 : decode cX12_believes 143 = .ok (.aload_n 0, 1) := by decide +kernel
theorem dX12_believes_144 : decode cX12_believes 144 = .ok (.getfield 57, 3) := by decide +kernel
theorem dX12_believes_147 : decode cX12_believes 147 = .ok (.iload_n 3, 1) := by decide +kernel
theorem dX12_believes_148 : decode cX12_believes 148 = .ok (.iload 4, 2) := by decide +kernel
theorem dX12_believes_150 : decode cX12_believes 150 = .ok (.invokestatic 331, 3) := by decide +kernel
theorem dX12_believes_153 : decode cX12_believes 153 = .ok (.dup2, 1) := by decide +kernel
theorem dX12_believes_154 : decode cX12_believes 154 = .ok (.iaload, 1) := by decide +kernel
theorem dX12_believes_155 : decode cX12_believes 155 = .ok (.iconst 1, 1) := by decide +kernel
theorem dX12_believes_156 : decode cX12_believes 156 = .ok (.iadd, 1) := by decide +kernel
theorem dX12_believes_157 : decode cX12_believes 157 = .ok (.iastore, 1) := by decide +kernel
theorem dX12_believes_158 : decode cX12_believes 158 = .ok (.iinc 4 1, 3) := by decide +kernel
theorem dX12_believes_161 : decode cX12_believes 161 = .ok (.goto (-58), 3) := by decide +kernel
theorem dX12_believes_164 : decode cX12_believes 164 = .ok (.iinc 3 1, 3) := by decide +kernel
theorem dX12_believes_167 : decode cX12_believes 167 = .ok (.goto (-75), 3) := by decide +kernel
theorem dX12_believes_170 : decode cX12_believes 170 = .ok (.iconst 0, 1) := by decide +kernel
theorem dX12_believes_171 : decode cX12_believes 171 = .ok (.istore_n 3, 1) := by decide +kernel
theorem dX12_believes_172 : decode cX12_believes 172 = .ok (.aload_n 0, 1) := by decide +kernel
theorem dX12_believes_173 : decode cX12_believes 173 = .ok (.getfield 109, 3) := by decide +kernel
theorem dX12_believes_176 : decode cX12_believes 176 = .ok (.iconst 0, 1) := by decide +kernel
theorem dX12_believes_177 : decode cX12_believes 177 = .ok (.iconst (-1), 1) := by decide +kernel
theorem dX12_believes_178 : decode cX12_believes 178 = .ok (.iastore, 1) := by decide +kernel
theorem dX12_believes_179 : decode cX12_believes 179 = .ok (.iload_n 3, 1) := by decide +kernel
theorem dX12_believes_180 : decode cX12_believes 180 = .ok (.ifCond .lt 170, 3) := by decide +kernel
theorem dX12_believes_183 : decode cX12_believes 183 = .ok (.iload_n 3, 1) := by decide +kernel
theorem dX12_believes_184 : decode cX12_believes 184 = .ok (.iload_n 2, 1) := by decide +kernel
theorem dX12_believes_185 : decode cX12_believes 185 = .ok (.if_icmp .ne 34, 3) := by decide +kernel
theorem dX12_believes_188 : decode cX12_believes 188 = .ok (.aload_n 0, 1) := by decide +kernel
theorem dX12_believes_189 : decode cX12_believes 189 = .ok (.iload_n 1, 1) := by decide +kernel
theorem dX12_believes_190 : decode cX12_believes 190 = .ok (.iload_n 2, 1) := by decide +kernel
theorem dX12_believes_191 : decode cX12_believes 191 = .ok (.invokevirtual 457, 3) := by decide +kernel
theorem dX12_believes_194 : decode cX12_believes 194 = .ok (.iinc 3 (-1), 3) := by decide +kernel
theorem dX12_believes_197 : decode cX12_believes 197 = .ok (.iload_n 3, 1) := by decide +kernel
theorem dX12_believes_198 : decode cX12_believes 198 = .ok (.ifCond .lt (-19), 3) := by decide +kernel
theorem dX12_believes_201 : decode cX12_believes 201 = .ok (.aload_n 0, 1) := by decide +kernel
theorem dX12_believes_202 : decode cX12_believes 202 = .ok (.getfield 112, 3) := by decide +kernel
theorem dX12_believes_205 : decode cX12_believes 205 = .ok (.aload_n 0, 1) := by decide +kernel
theorem dX12_believes_206 : decode cX12_believes 206 = .ok (.getfield 109, 3) := by decide +kernel
theorem dX12_believes_209 : decode cX12_believes 209 = .ok (.iload_n 3, 1) := by decide +kernel
theorem dX12_believes_210 : decode cX12_believes 210 = .ok (.iaload, 1) := by decide +kernel
theorem dX12_believes_211 : decode cX12_believes 211 = .ok (.dup2, 1) := by decide +kernel
theorem dX12_believes_212 : decode cX12_believes 212 = .ok (.iaload, 1) := by decide +kernel
theorem dX12_believes_213 : decode cX12_believes 213 = .ok (.iconst 1, 1) := by decide +kernel
theorem dX12_believes_214 : decode cX12_believes 214 = .ok (.iadd, 1) := by decide +kernel
theorem dX12_believes_215 : decode cX12_believes 215 = .ok (.iastore, 1) := by decide +kernel
theorem dX12_believes_216 : decode cX12_believes 216 = .ok (.goto (-37), 3) := by decide +kernel
theorem dX12_believes_219 : decode cX12_believes 219 = .ok (.aload_n 0, 1) := by decide +kernel
theorem dX12_believes_220 : decode cX12_believes 220 = .ok (.getfield 109, 3) := by decide +kernel
theorem dX12_believes_223 : decode cX12_believes 223 = .ok (.iload_n 3, 1) := by decide +kernel
theorem dX12_believes_224 : decode cX12_believes 224 = .ok (.dup2, 1) := by decide +kernel
theorem dX12_believes_225 : decode cX12_believes 225 = .ok (.iaload, 1) := by decide +kernel
theorem dX12_believes_226 : decode cX12_believes 226 = .ok (.iconst 1, 1) := by decide +kernel
theorem dX12_believes_227 : decode cX12_believes 227 = .ok (.iadd, 1) := by decide +kernel
theorem dX12_believes_228 : decode cX12_believes 228 = .ok (.iastore, 1) := by decide +kernel
theorem dX12_believes_229 : decode cX12_believes 229 = .ok (.aload_n 0, 1) := by decide +kernel
theorem dX12_believes_230 : decode cX12_believes 230 = .ok (.getfield 109, 3) := by decide +kernel
theorem dX12_believes_233 : decode cX12_believes 233 = .ok (.iload_n 3, 1) := by decide +kernel
theorem dX12_believes_234 : decode cX12_believes 234 = .ok (.iaload, 1) := by decide +kernel
theorem dX12_believes_235 : decode cX12_believes 235 = .ok (.aload_n 0, 1) := by decide +kernel
theorem dX12_believes_236 : decode cX12_believes 236 = .ok (.getfield 13, 3) := by decide +kernel
theorem dX12_believes_239 : decode cX12_believes 239 = .ok (.if_icmp .le 28, 3) := by decide +kernel
theorem dX12_believes_242 : decode cX12_believes 242 = .ok (.iinc 3 (-1), 3) := by decide +kernel
theorem dX12_believes_245 : decode cX12_believes 245 = .ok (.iload_n 3, 1) := by decide +kernel
theorem dX12_believes_246 : decode cX12_believes 246 = .ok (.ifCond .lt (-67), 3) := by decide +kernel
theorem dX12_believes_249 : decode cX12_believes 249 = .ok (.aload_n 0, 1) := by decide +kernel
theorem dX12_believes_250 : decode cX12_believes 250 = .ok (.getfield 112, 3) := by decide +kernel
theorem dX12_believes_253 : decode cX12_believes 253 = .ok (.aload_n 0, 1) := by decide +kernel
theorem dX12_believes_254 : decode cX12_believes 254 = .ok (.getfield 109, 3) := by decide +kernel
theorem dX12_believes_257 : decode cX12_believes 257 = .ok (.iload_n 3, 1) := by decide +kernel
theorem dX12_believes_258 : decode cX12_believes 258 = .ok (.iaload, 1) := by decide +kernel
theorem dX12_believes_259 : decode cX12_believes 259 = .ok (.dup2, 1) := by decide +kernel
theorem dX12_believes_260 : decode cX12_believes 260 = .ok (.iaload, 1) := by decide +kernel
theorem dX12_believes_261 : decode cX12_believes 261 = .ok (.iconst 1, 1) := by decide +kernel
theorem dX12_believes_262 : decode cX12_believes 262 = .ok (.iadd, 1) := by decide +kernel
theorem dX12_believes_263 : decode cX12_believes 263 = .ok (.iastore, 1) := by decide +kernel
theorem dX12_believes_264 : decode cX12_believes 264 = .ok (.goto (-85), 3) := by decide +kernel
theorem dX12_believes_267 : decode cX12_believes 267 = .ok (.aload_n 0, 1) := by decide +kernel
theorem dX12_believes_268 : decode cX12_believes 268 = .ok (.getfield 112, 3) := by decide +kernel
theorem dX12_believes_271 : decode cX12_believes 271 = .ok (.aload_n 0, 1) := by decide +kernel
theorem dX12_believes_272 : decode cX12_believes 272 = .ok (.getfield 109, 3) := by decide +kernel
theorem dX12_believes_275 : decode cX12_believes 275 = .ok (.iload_n 3, 1) := by decide +kernel
theorem dX12_believes_276 : decode cX12_believes 276 = .ok (.iaload, 1) := by decide +kernel
theorem dX12_believes_277 : decode cX12_believes 277 = .ok (.iaload, 1) := by decide +kernel
theorem dX12_believes_278 : decode cX12_believes 278 = .ok (.ifCond .ne 6, 3) := by decide +kernel
theorem dX12_believes_281 : decode cX12_believes 281 = .ok (.goto (-102), 3) := by decide +kernel
theorem dX12_believes_284 : decode cX12_believes 284 = .ok (.aload_n 0, 1) := by decide +kernel
theorem dX12_believes_285 : decode cX12_believes 285 = .ok (.getfield 454, 3) := by decide +kernel
theorem dX12_believes_288 : decode cX12_believes 288 = .ok (.sipush 20000, 3) := by decide +kernel
theorem dX12_believes_291 : decode cX12_believes 291 = .ok (.if_icmp .ne 5, 3) := by decide +kernel
theorem dX12_believes_294 : decode cX12_believes 294 = .ok (.iconst 0, 1) := by decide +kernel
theorem dX12_believes_295 : decode cX12_believes 295 = .ok (.ireturn, 1) := by decide +kernel
theorem dX12_believes_296 : decode cX12_believes 296 = .ok (.aload_n 0, 1) := by decide +kernel
theorem dX12_believes_297 : decode cX12_believes 297 = .ok (.dup, 1) := by decide +kernel
theorem dX12_believes_298 : decode cX12_believes 298 = .ok (.getfield 454, 3) := by decide +kernel
theorem dX12_believes_301 : decode cX12_believes 301 = .ok (.iconst 1, 1) := by decide +kernel
theorem dX12_believes_302 : decode cX12_believes 302 = .ok (.iadd, 1) := by decide +kernel
theorem dX12_believes_303 : decode cX12_believes 303 = .ok (.putfield 454, 3) := by decide +kernel
theorem dX12_believes_306 : decode cX12_believes 306 = .ok (.aload_n 0, 1) := by decide +kernel
theorem dX12_believes_307 : decode cX12_believes 307 = .ok (.iload_n 3, 1) := by decide +kernel
theorem dX12_believes_308 : decode cX12_believes 308 = .ok (.invokevirtual 461, 3) := by decide +kernel
theorem dX12_believes_311 : decode cX12_believes 311 = .ok (.ifCond .eq 6, 3) := by decide +kernel
theorem dX12_believes_314 : decode cX12_believes 314 = .ok (.goto (-135), 3) := by decide +kernel
theorem dX12_believes_317 : decode cX12_believes 317 = .ok (.aload_n 0, 1) := by decide +kernel
theorem dX12_believes_318 : decode cX12_believes 318 = .ok (.getfield 112, 3) := by decide +kernel
theorem dX12_believes_321 : decode cX12_believes 321 = .ok (.aload_n 0, 1) := by decide +kernel
theorem dX12_believes_322 : decode cX12_believes 322 = .ok (.getfield 109, 3) := by decide +kernel
theorem dX12_believes_325 : decode cX12_believes 325 = .ok (.iload_n 3, 1) := by decide +kernel
theorem dX12_believes_326 : decode cX12_believes 326 = .ok (.iaload, 1) := by decide +kernel
theorem dX12_believes_327 : decode cX12_believes 327 = .ok (.dup2, 1) := by decide +kernel
theorem dX12_believes_328 : decode cX12_believes 328 = .ok (.iaload, 1) := by decide +kernel
theorem dX12_believes_329 : decode cX12_believes 329 = .ok (.iconst 1, 1) := by decide +kernel
theorem dX12_believes_330 : decode cX12_believes 330 = .ok (.isub, 1) := by decide +kernel
theorem dX12_believes_331 : decode cX12_believes 331 = .ok (.iastore, 1) := by decide +kernel
theorem dX12_believes_332 : decode cX12_believes 332 = .ok (.iinc 3 1, 3) := by decide +kernel
theorem dX12_believes_335 : decode cX12_believes 335 = .ok (.iload_n 3, 1) := by decide +kernel
theorem dX12_believes_336 : decode cX12_believes 336 = .ok (.iload_n 2, 1) := by decide +kernel
theorem dX12_believes_337 : decode cX12_believes 337 = .ok (.if_icmp .ge (-158), 3) := by decide +kernel
theorem dX12_believes_340 : decode cX12_believes 340 = .ok (.aload_n 0, 1) := by decide +kernel
theorem dX12_believes_341 : decode cX12_believes 341 = .ok (.getfield 109, 3) := by decide +kernel
theorem dX12_believes_344 : decode cX12_believes 344 = .ok (.iload_n 3, 1) := by decide +kernel
theorem dX12_believes_345 : decode cX12_believes 345 = .ok (.iconst (-1), 1) := by decide +kernel
theorem dX12_believes_346 : decode cX12_believes 346 = .ok (.iastore, 1) := by decide +kernel
theorem dX12_believes_347 : decode cX12_believes 347 = .ok (.goto (-168), 3) := by decide +kernel
theorem dX12_believes_350 : decode cX12_believes 350 = .ok (.iconst 1, 1) := by decide +kernel
theorem dX12_believes_351 : decode cX12_believes 351 = .ok (.ireturn, 1) := by decide +kernel
def X12_believes_L179 (e : mm_E) (a0 : Nat) (i1 : Int32) (i2 : Int32) : Nat → Int32 → mm_V → Option (Int32 × mm_V)
  | 0, _, _ => none
  | n + 1, i3, m => if i3 < 0 then (mm_rz (1 : Int32) m) else (if ¬ i3 = i2 then ((mm_gr e.1 m 12 75 a0 61).bind fun c1 => (mm_ai e.1 m 20 c1 i3).bind fun x2 => (mm_si e.1 m c1 i3 (x2 + (1 : Int32))).bind fun m3 => (mm_gr e.1 m3 12 75 a0 61).bind fun c4 => (mm_ai e.1 m3 20 c4 i3).bind fun x5 => (mm_gi e.1 m3 12 75 a0 2).bind fun x6 => if x5 ≤ x6 then ((mm_gr e.1 m3 12 75 a0 62).bind fun c7 => (mm_gr e.1 m3 12 75 a0 61).bind fun c8 => (mm_ai e.1 m3 20 c8 i3).bind fun x9 => (mm_ai e.1 m3 20 c7 x9).bind fun x10 => if ¬ x10 = 0 then ((mm_gi e.1 m3 12 75 a0 67).bind fun x11 => if ¬ x11 = (20000 : Int32) then ((mm_gi e.1 m3 12 75 a0 67).bind fun x12 => (mm_pf e.1 m3 12 75 a0 67 (.int (x12 + (1 : Int32)))).bind fun m13 => (X12_isThere e a0 i3 m13).bind fun r14 => if r14.1 = 0 then ((mm_gr e.1 r14.2 12 75 a0 62).bind fun c15 => (mm_gr e.1 r14.2 12 75 a0 61).bind fun c16 => (mm_ai e.1 r14.2 20 c16 i3).bind fun x17 => (mm_ai e.1 r14.2 20 c15 x17).bind fun x18 => (mm_si e.1 r14.2 c15 x17 (x18 - (1 : Int32))).bind fun m19 => if i2 ≤ (i3 + 1) then (X12_believes_L179 e a0 i1 i2 n (i3 + 1) m19) else ((mm_gr e.1 m19 12 75 a0 61).bind fun c20 => (mm_si e.1 m19 c20 (i3 + 1) (-1 : Int32)).bind fun m21 => X12_believes_L179 e a0 i1 i2 n (i3 + 1) m21)) else (X12_believes_L179 e a0 i1 i2 n i3 r14.2)) else (mm_rz (0 : Int32) m3)) else (X12_believes_L179 e a0 i1 i2 n i3 m3)) else (if (i3 + (-1)) < 0 then (X12_believes_L179 e a0 i1 i2 n (i3 + (-1)) m3) else ((mm_gr e.1 m3 12 75 a0 62).bind fun c22 => (mm_gr e.1 m3 12 75 a0 61).bind fun c23 => (mm_ai e.1 m3 20 c23 (i3 + (-1))).bind fun x24 => (mm_ai e.1 m3 20 c22 x24).bind fun x25 => (mm_si e.1 m3 c22 x24 (x25 + (1 : Int32))).bind fun m26 => X12_believes_L179 e a0 i1 i2 n (i3 + (-1)) m26))) else ((X12_counts e a0 i1 i2 m).bind fun r27 => if (i3 + (-1)) < 0 then (X12_believes_L179 e a0 i1 i2 n (i3 + (-1)) r27) else ((mm_gr e.1 r27 12 75 a0 62).bind fun c28 => (mm_gr e.1 r27 12 75 a0 61).bind fun c29 => (mm_ai e.1 r27 20 c29 (i3 + (-1))).bind fun x30 => (mm_ai e.1 r27 20 c28 x30).bind fun x31 => (mm_si e.1 r27 c28 x30 (x31 + (1 : Int32))).bind fun m32 => X12_believes_L179 e a0 i1 i2 n (i3 + (-1)) m32)))
theorem X12_believes_L179_ok {K : mm_K} {nx : Option Nat} {e : mm_E} (hz : e.2.1 = K.2.2.2.2) {d : Nat} (hd : 4 ≤ d) {a0 : Nat} {i1 : Int32} {i2 : Int32} (h0 : e.1 a0 = some (12, 75)) : ∀ (n : Nat) (i3 : Int32) (m : mm_V) (r : (Int32 × mm_V)), X12_believes_L179 e a0 i1 i2 n i3 m = some r → mm_G K MX12_believes d (mm_Fi e.1 nx r) 179 [some (.ref a0), some (.int i1), some (.int i2), some (.int i3), none] [] (e.1, m) nx 0 0 := by
  obtain ⟨d, rfl⟩ : ∃ d', d = d' + 1 := ⟨d - 1, by omega⟩
  intro n
  induction n with
  | zero => intro i3 m r hr; unfold X12_believes_L179 at hr; cases hr
  | succ n ih =>
    intro i3 m r hr
    unfold X12_believes_L179 at hr
    refine ml_iload_n (pc := 179) dX12_believes_179 rfl (mm_get_s (mm_get_s (mm_get_s mm_get_0))) ?_
    refine mb_if_lt (pc := 180) 350 dX12_believes_180 rfl hr (fun hr => ?_) (fun hr => ?_)
    · refine mg_iconst (pc := 350) dX12_believes_350 kc_1 ?_
      exact mb_zret dX12_believes_351 rfl hr
    · refine ml_iload_n (pc := 183) dX12_believes_183 rfl (mm_get_s (mm_get_s (mm_get_s mm_get_0))) ?_
      refine ml_iload_n (pc := 184) dX12_believes_184 rfl (mm_get_s (mm_get_s mm_get_0)) ?_
      refine mb_icmp_ne (pc := 185) 219 dX12_believes_185 rfl hr (fun hr => ?_) (fun hr => ?_)
      · refine ml_aload_n (pc := 219) dX12_believes_219 rfl mm_get_0 ?_
        refine mb_gr (pc := 220) dX12_believes_220 fl_X12_109 hr (fun c1 hr => ?_)
        refine ml_iload_n (pc := 223) dX12_believes_223 rfl (mm_get_s (mm_get_s (mm_get_s mm_get_0))) ?_
        refine mg_dup2 (pc := 224) dX12_believes_224 rfl rfl ?_
        refine mb_ai (pc := 225) dX12_believes_225 hr (fun x2 hr => ?_)
        refine mg_iconst (pc := 226) dX12_believes_226 kc_1 ?_
        refine mg_iadd (pc := 227) dX12_believes_227 ?_
        refine mb_si (pc := 228) dX12_believes_228 hr (fun m3 hr => ?_)
        refine ml_aload_n (pc := 229) dX12_believes_229 rfl mm_get_0 ?_
        refine mb_gr (pc := 230) dX12_believes_230 fl_X12_109 hr (fun c4 hr => ?_)
        refine ml_iload_n (pc := 233) dX12_believes_233 rfl (mm_get_s (mm_get_s (mm_get_s mm_get_0))) ?_
        refine mb_ai (pc := 234) dX12_believes_234 hr (fun x5 hr => ?_)
        refine ml_aload_n (pc := 235) dX12_believes_235 rfl mm_get_0 ?_
        refine mb_gi (pc := 236) dX12_believes_236 fl_X12_13 hr (fun x6 hr => ?_)
        refine mb_icmp_le (pc := 239) 267 dX12_believes_239 rfl hr (fun hr => ?_) (fun hr => ?_)
        · refine ml_aload_n (pc := 267) dX12_believes_267 rfl mm_get_0 ?_
          refine mb_gr (pc := 268) dX12_believes_268 fl_X12_112 hr (fun c7 hr => ?_)
          refine ml_aload_n (pc := 271) dX12_believes_271 rfl mm_get_0 ?_
          refine mb_gr (pc := 272) dX12_believes_272 fl_X12_109 hr (fun c8 hr => ?_)
          refine ml_iload_n (pc := 275) dX12_believes_275 rfl (mm_get_s (mm_get_s (mm_get_s mm_get_0))) ?_
          refine mb_ai (pc := 276) dX12_believes_276 hr (fun x9 hr => ?_)
          refine mb_ai (pc := 277) dX12_believes_277 hr (fun x10 hr => ?_)
          refine mb_if_ne (pc := 278) 284 dX12_believes_278 rfl hr (fun hr => ?_) (fun hr => ?_)
          · refine ml_aload_n (pc := 284) dX12_believes_284 rfl mm_get_0 ?_
            refine mb_gi (pc := 285) dX12_believes_285 fl_X12_454 hr (fun x11 hr => ?_)
            refine mg_sipush (pc := 288) dX12_believes_288 ks_20000 ?_
            refine mb_icmp_ne (pc := 291) 296 dX12_believes_291 rfl hr (fun hr => ?_) (fun hr => ?_)
            · refine ml_aload_n (pc := 296) dX12_believes_296 rfl mm_get_0 ?_
              refine mg_dup (pc := 297) dX12_believes_297 rfl ?_
              refine mb_gi (pc := 298) dX12_believes_298 fl_X12_454 hr (fun x12 hr => ?_)
              refine mg_iconst (pc := 301) dX12_believes_301 kc_1 ?_
              refine mg_iadd (pc := 302) dX12_believes_302 ?_
              refine mb_pi (pc := 303) dX12_believes_303 fp_X12_454 hr (fun m13 hr => ?_)
              refine ml_aload_n (pc := 306) dX12_believes_306 rfl mm_get_0 ?_
              refine ml_iload_n (pc := 307) dX12_believes_307 rfl (mm_get_s (mm_get_s (mm_get_s mm_get_0))) ?_
              refine mb_cVi (pc := 308) (As := [.int i3]) (rest := []) dX12_believes_308 cw_X12_461 h0 hr (fun v hv => X12_isThere_ok hz (by omega) h0 hv) rfl (Nat.le_of_ble_eq_true rfl) (Nat.zero_le _) (Nat.zero_le _) (fun r14 hr => ?_)
              refine mb_if_eq (pc := 311) 317 dX12_believes_311 rfl hr (fun hr => ?_) (fun hr => ?_)
              · refine ml_aload_n (pc := 317) dX12_believes_317 rfl mm_get_0 ?_
                refine mb_gr (pc := 318) dX12_believes_318 fl_X12_112 hr (fun c15 hr => ?_)
                refine ml_aload_n (pc := 321) dX12_believes_321 rfl mm_get_0 ?_
                refine mb_gr (pc := 322) dX12_believes_322 fl_X12_109 hr (fun c16 hr => ?_)
                refine ml_iload_n (pc := 325) dX12_believes_325 rfl (mm_get_s (mm_get_s (mm_get_s mm_get_0))) ?_
                refine mb_ai (pc := 326) dX12_believes_326 hr (fun x17 hr => ?_)
                refine mg_dup2 (pc := 327) dX12_believes_327 rfl rfl ?_
                refine mb_ai (pc := 328) dX12_believes_328 hr (fun x18 hr => ?_)
                refine mg_iconst (pc := 329) dX12_believes_329 kc_1 ?_
                refine mg_isub (pc := 330) dX12_believes_330 ?_
                refine mb_si (pc := 331) dX12_believes_331 hr (fun m19 hr => ?_)
                refine ml_iinc (pc := 332) dX12_believes_332 (mm_get_s (mm_get_s (mm_get_s mm_get_0))) (congrArg (fun z => i3 + z) kc_1) (Nat.le_of_ble_eq_true rfl) (mm_st1_s (mm_st1_s mm_st1_i)) ?_
                refine ml_iload_n (pc := 335) dX12_believes_335 rfl (mm_get_s (mm_get_s (mm_get_s mm_get_0))) ?_
                refine ml_iload_n (pc := 336) dX12_believes_336 rfl (mm_get_s (mm_get_s mm_get_0)) ?_
                refine mb_icmp_ge (pc := 337) 179 dX12_believes_337 rfl hr (fun hr => ?_) (fun hr => ?_)
                · exact mg_weak (mm_le_s (mm_le_s (mm_le_s (mm_le_s (mm_le_n mm_le_0))))) (ih _ _ _ hr)
                · refine ml_aload_n (pc := 340) dX12_believes_340 rfl mm_get_0 ?_
                  refine mb_gr (pc := 341) dX12_believes_341 fl_X12_109 hr (fun c20 hr => ?_)
                  refine ml_iload_n (pc := 344) dX12_believes_344 rfl (mm_get_s (mm_get_s (mm_get_s mm_get_0))) ?_
                  refine mg_iconst (pc := 345) dX12_believes_345 kc_m1 ?_
                  refine mb_si (pc := 346) dX12_believes_346 hr (fun m21 hr => ?_)
                  refine mg_goto (pc := 347) 179 dX12_believes_347 rfl ?_
                  exact mg_weak (mm_le_s (mm_le_s (mm_le_s (mm_le_s (mm_le_n mm_le_0))))) (ih _ _ _ hr)
              · refine mg_goto (pc := 314) 179 dX12_believes_314 rfl ?_
                exact mg_weak (mm_le_s (mm_le_s (mm_le_s (mm_le_s (mm_le_n mm_le_0))))) (ih _ _ _ hr)
            · refine mg_iconst (pc := 294) dX12_believes_294 kc_0 ?_
              exact mb_zret dX12_believes_295 rfl hr
          · refine mg_goto (pc := 281) 179 dX12_believes_281 rfl ?_
            exact mg_weak (mm_le_s (mm_le_s (mm_le_s (mm_le_s (mm_le_n mm_le_0))))) (ih _ _ _ hr)
        · refine ml_iinc (pc := 242) dX12_believes_242 (mm_get_s (mm_get_s (mm_get_s mm_get_0))) (congrArg (fun z => i3 + z) kc_m1) (Nat.le_of_ble_eq_true rfl) (mm_st1_s (mm_st1_s mm_st1_i)) ?_
          refine ml_iload_n (pc := 245) dX12_believes_245 rfl (mm_get_s (mm_get_s (mm_get_s mm_get_0))) ?_
          refine mb_if_lt (pc := 246) 179 dX12_believes_246 rfl hr (fun hr => ?_) (fun hr => ?_)
          · exact mg_weak (mm_le_s (mm_le_s (mm_le_s (mm_le_s (mm_le_n mm_le_0))))) (ih _ _ _ hr)
          · refine ml_aload_n (pc := 249) dX12_believes_249 rfl mm_get_0 ?_
            refine mb_gr (pc := 250) dX12_believes_250 fl_X12_112 hr (fun c22 hr => ?_)
            refine ml_aload_n (pc := 253) dX12_believes_253 rfl mm_get_0 ?_
            refine mb_gr (pc := 254) dX12_believes_254 fl_X12_109 hr (fun c23 hr => ?_)
            refine ml_iload_n (pc := 257) dX12_believes_257 rfl (mm_get_s (mm_get_s (mm_get_s mm_get_0))) ?_
            refine mb_ai (pc := 258) dX12_believes_258 hr (fun x24 hr => ?_)
            refine mg_dup2 (pc := 259) dX12_believes_259 rfl rfl ?_
            refine mb_ai (pc := 260) dX12_believes_260 hr (fun x25 hr => ?_)
            refine mg_iconst (pc := 261) dX12_believes_261 kc_1 ?_
            refine mg_iadd (pc := 262) dX12_believes_262 ?_
            refine mb_si (pc := 263) dX12_believes_263 hr (fun m26 hr => ?_)
            refine mg_goto (pc := 264) 179 dX12_believes_264 rfl ?_
            exact mg_weak (mm_le_s (mm_le_s (mm_le_s (mm_le_s (mm_le_n mm_le_0))))) (ih _ _ _ hr)
      · refine ml_aload_n (pc := 188) dX12_believes_188 rfl mm_get_0 ?_
        refine ml_iload_n (pc := 189) dX12_believes_189 rfl (mm_get_s mm_get_0) ?_
        refine ml_iload_n (pc := 190) dX12_believes_190 rfl (mm_get_s (mm_get_s mm_get_0)) ?_
        refine mb_cVv (pc := 191) (As := [.int i1, .int i2]) (rest := []) dX12_believes_191 cw_X12_457 h0 hr (fun v hv => X12_counts_ok hz (by omega) h0 hv) rfl (Nat.le_of_ble_eq_true rfl) (Nat.zero_le _) (Nat.zero_le _) (fun r27 hr => ?_)
        refine ml_iinc (pc := 194) dX12_believes_194 (mm_get_s (mm_get_s (mm_get_s mm_get_0))) (congrArg (fun z => i3 + z) kc_m1) (Nat.le_of_ble_eq_true rfl) (mm_st1_s (mm_st1_s mm_st1_i)) ?_
        refine ml_iload_n (pc := 197) dX12_believes_197 rfl (mm_get_s (mm_get_s (mm_get_s mm_get_0))) ?_
        refine mb_if_lt (pc := 198) 179 dX12_believes_198 rfl hr (fun hr => ?_) (fun hr => ?_)
        · exact mg_weak (mm_le_s (mm_le_s (mm_le_s (mm_le_s (mm_le_n mm_le_0))))) (ih _ _ _ hr)
        · refine ml_aload_n (pc := 201) dX12_believes_201 rfl mm_get_0 ?_
          refine mb_gr (pc := 202) dX12_believes_202 fl_X12_112 hr (fun c28 hr => ?_)
          refine ml_aload_n (pc := 205) dX12_believes_205 rfl mm_get_0 ?_
          refine mb_gr (pc := 206) dX12_believes_206 fl_X12_109 hr (fun c29 hr => ?_)
          refine ml_iload_n (pc := 209) dX12_believes_209 rfl (mm_get_s (mm_get_s (mm_get_s mm_get_0))) ?_
          refine mb_ai (pc := 210) dX12_believes_210 hr (fun x30 hr => ?_)
          refine mg_dup2 (pc := 211) dX12_believes_211 rfl rfl ?_
          refine mb_ai (pc := 212) dX12_believes_212 hr (fun x31 hr => ?_)
          refine mg_iconst (pc := 213) dX12_believes_213 kc_1 ?_
          refine mg_iadd (pc := 214) dX12_believes_214 ?_
          refine mb_si (pc := 215) dX12_believes_215 hr (fun m32 hr => ?_)
          refine mg_goto (pc := 216) 179 dX12_believes_216 rfl ?_
          exact mg_weak (mm_le_s (mm_le_s (mm_le_s (mm_le_s (mm_le_n mm_le_0))))) (ih _ _ _ hr)
def X12_believes_b164 (e : mm_E) (k92 : Int32 → Int32 → mm_V → Option (Int32 × mm_V)) (a0 : Nat) (i1 : Int32) (i2 : Int32) (i3 : Int32) (m : mm_V) : Option (Int32 × mm_V) := k92 i2 (i3 + 1) m
theorem X12_believes_b164_ok {K : mm_K} {nx : Option Nat} {e : mm_E} (hz : e.2.1 = K.2.2.2.2) {d : Nat} (hd : 4 ≤ d) {a0 : Nat} {i1 : Int32} {i2 : Int32} {i3 : Int32} (h0 : e.1 a0 = some (12, 75)) {k92 : Int32 → Int32 → mm_V → Option (Int32 × mm_V)} (hk92 : ∀ (w2 : Int32) (w3 : Int32) (m : mm_V) (r : (Int32 × mm_V)), k92 w2 w3 m = some r → mm_G K MX12_believes d (mm_Fi e.1 nx r) 92 [some (.ref a0), some (.int i1), some (.int w2), some (.int w3), none] [] (e.1, m) nx 0 0) {m : mm_V} {r : (Int32 × mm_V)} (hr : X12_believes_b164 e k92 a0 i1 i2 i3 m = some r) : mm_G K MX12_believes d (mm_Fi e.1 nx r) 164 [some (.ref a0), some (.int i1), some (.int i2), some (.int i3), none] [] (e.1, m) nx 0 0 := by
  obtain ⟨d, rfl⟩ : ∃ d', d = d' + 1 := ⟨d - 1, by omega⟩
  unfold X12_believes_b164 at hr
  refine ml_iinc (pc := 164) dX12_believes_164 (mm_get_s (mm_get_s (mm_get_s mm_get_0))) (congrArg (fun z => i3 + z) kc_1) (Nat.le_of_ble_eq_true rfl) (mm_st1_s (mm_st1_s mm_st1_i)) ?_
  refine mg_goto (pc := 167) 92 dX12_believes_167 rfl ?_
  exact mg_weak (mm_le_s (mm_le_s (mm_le_s (mm_le_s (mm_le_n mm_le_0))))) (hk92 _ _ _ _ hr)
def X12_believes_L103 (e : mm_E) (k92 : Int32 → Int32 → mm_V → Option (Int32 × mm_V)) (a0 : Nat) (i1 : Int32) (i3 : Int32) : Nat → Int32 → Int32 → mm_V → Option (Int32 × mm_V)
  | 0, _, _, _ => none
  | n + 1, i2, i4, m => (mm_gr e.1 m 12 75 a0 38).bind fun c1 => (X12_size e c1 i3 m).bind fun r2 => if r2.1 ≤ i4 then (X12_believes_b164 e k92 a0 i1 i2 i3  r2.2) else (if i3 = i1 then (X12_believes_b164 e k92 a0 i1 i2 i3  r2.2) else ((mm_gr e.1 r2.2 12 75 a0 59).bind fun c3 => (mm_si e.1 r2.2 c3 i2 i3).bind fun m4 => (mm_gr e.1 m4 12 75 a0 60).bind fun c5 => (mm_si e.1 m4 c5 i2 i4).bind fun m6 => (mm_gr e.1 m6 12 75 a0 62).bind fun c7 => (mm_gr e.1 m6 12 75 a0 38).bind fun c8 => (X12_card e c8 i3 i4 m6).bind fun r9 => (mm_ai e.1 r9.2 20 c7 r9.1).bind fun x10 => (mm_si e.1 r9.2 c7 r9.1 (x10 + (1 : Int32))).bind fun m11 => X12_believes_L103 e k92 a0 i1 i3 n (i2 + 1) (i4 + 1) m11))
theorem X12_believes_L103_ok {K : mm_K} {nx : Option Nat} {e : mm_E} (hz : e.2.1 = K.2.2.2.2) {d : Nat} (hd : 4 ≤ d) {a0 : Nat} {i1 : Int32} {i3 : Int32} (h0 : e.1 a0 = some (12, 75)) {k92 : Int32 → Int32 → mm_V → Option (Int32 × mm_V)} (hk92 : ∀ (w2 : Int32) (w3 : Int32) (m : mm_V) (r : (Int32 × mm_V)), k92 w2 w3 m = some r → mm_G K MX12_believes d (mm_Fi e.1 nx r) 92 [some (.ref a0), some (.int i1), some (.int w2), some (.int w3), none] [] (e.1, m) nx 0 0) : ∀ (n : Nat) (i2 : Int32) (i4 : Int32) (m : mm_V) (r : (Int32 × mm_V)), X12_believes_L103 e k92 a0 i1 i3 n i2 i4 m = some r → mm_G K MX12_believes d (mm_Fi e.1 nx r) 103 [some (.ref a0), some (.int i1), some (.int i2), some (.int i3), some (.int i4)] [] (e.1, m) nx 0 0 := by
  obtain ⟨d, rfl⟩ : ∃ d', d = d' + 1 := ⟨d - 1, by omega⟩
  intro n
  induction n with
  | zero => intro i2 i4 m r hr; unfold X12_believes_L103 at hr; cases hr
  | succ n ih =>
    intro i2 i4 m r hr
    unfold X12_believes_L103 at hr
    refine ml_iload (pc := 103) dX12_believes_103 (mm_get_s (mm_get_s (mm_get_s (mm_get_s mm_get_0)))) ?_
    refine ml_aload_n (pc := 105) dX12_believes_105 rfl mm_get_0 ?_
    refine mb_gr (pc := 106) dX12_believes_106 fl_X12_57 hr (fun c1 hr => ?_)
    refine ml_iload_n (pc := 109) dX12_believes_109 rfl (mm_get_s (mm_get_s (mm_get_s mm_get_0))) ?_
    refine mb_cSi (pc := 110) (As := [.ref c1, .int i3]) (rest := [.int i4]) dX12_believes_110 cw_X12_327  hr (fun v hv => X12_size_ok hz (by omega)  hv) rfl (Nat.le_of_ble_eq_true rfl) (Nat.zero_le _) (Nat.zero_le _) (fun r2 hr => ?_)
    refine mb_icmp_ge (pc := 113) 164 dX12_believes_113 rfl hr (fun hr => ?_) (fun hr => ?_)
    · exact mg_weak (mm_le_s (mm_le_s (mm_le_s (mm_le_s (mm_le_n mm_le_0))))) (X12_believes_b164_ok hz hd h0 hk92 hr)
    · refine ml_iload_n (pc := 116) dX12_believes_116 rfl (mm_get_s (mm_get_s (mm_get_s mm_get_0))) ?_
      refine ml_iload_n (pc := 117) dX12_believes_117 rfl (mm_get_s mm_get_0) ?_
      refine mb_icmp_eq (pc := 118) 164 dX12_believes_118 rfl hr (fun hr => ?_) (fun hr => ?_)
      · exact mg_weak (mm_le_s (mm_le_s (mm_le_s (mm_le_s (mm_le_n mm_le_0))))) (X12_believes_b164_ok hz hd h0 hk92 hr)
      · refine ml_aload_n (pc := 121) dX12_believes_121 rfl mm_get_0 ?_
        refine mb_gr (pc := 122) dX12_believes_122 fl_X12_103 hr (fun c3 hr => ?_)
        refine ml_iload_n (pc := 125) dX12_believes_125 rfl (mm_get_s (mm_get_s mm_get_0)) ?_
        refine ml_iload_n (pc := 126) dX12_believes_126 rfl (mm_get_s (mm_get_s (mm_get_s mm_get_0))) ?_
        refine mb_si (pc := 127) dX12_believes_127 hr (fun m4 hr => ?_)
        refine ml_aload_n (pc := 128) dX12_believes_128 rfl mm_get_0 ?_
        refine mb_gr (pc := 129) dX12_believes_129 fl_X12_106 hr (fun c5 hr => ?_)
        refine ml_iload_n (pc := 132) dX12_believes_132 rfl (mm_get_s (mm_get_s mm_get_0)) ?_
        refine ml_iload (pc := 133) dX12_believes_133 (mm_get_s (mm_get_s (mm_get_s (mm_get_s mm_get_0)))) ?_
        refine mb_si (pc := 135) dX12_believes_135 hr (fun m6 hr => ?_)
        refine ml_iinc (pc := 136) dX12_believes_136 (mm_get_s (mm_get_s mm_get_0)) (congrArg (fun z => i2 + z) kc_1) (Nat.le_of_ble_eq_true rfl) (mm_st1_s mm_st1_i) ?_
        refine ml_aload_n (pc := 139) dX12_believes_139 rfl mm_get_0 ?_
        refine mb_gr (pc := 140) dX12_believes_140 fl_X12_112 hr (fun c7 hr => ?_)
        refine ml_aload_n (pc := 143) dX12_believes_143 rfl mm_get_0 ?_
        refine mb_gr (pc := 144) dX12_believes_144 fl_X12_57 hr (fun c8 hr => ?_)
        refine ml_iload_n (pc := 147) dX12_believes_147 rfl (mm_get_s (mm_get_s (mm_get_s mm_get_0))) ?_
        refine ml_iload (pc := 148) dX12_believes_148 (mm_get_s (mm_get_s (mm_get_s (mm_get_s mm_get_0)))) ?_
        refine mb_cSi (pc := 150) (As := [.ref c8, .int i3, .int i4]) (rest := [.ref c7]) dX12_believes_150 cw_X12_331  hr (fun v hv => X12_card_ok hz (by omega)  hv) rfl (Nat.le_of_ble_eq_true rfl) (Nat.zero_le _) (Nat.zero_le _) (fun r9 hr => ?_)
        refine mg_dup2 (pc := 153) dX12_believes_153 rfl rfl ?_
        refine mb_ai (pc := 154) dX12_believes_154 hr (fun x10 hr => ?_)
        refine mg_iconst (pc := 155) dX12_believes_155 kc_1 ?_
        refine mg_iadd (pc := 156) dX12_believes_156 ?_
        refine mb_si (pc := 157) dX12_believes_157 hr (fun m11 hr => ?_)
        refine ml_iinc (pc := 158) dX12_believes_158 (mm_get_s (mm_get_s (mm_get_s (mm_get_s mm_get_0)))) (congrArg (fun z => i4 + z) kc_1) (Nat.le_of_ble_eq_true rfl) (mm_st1_s (mm_st1_s (mm_st1_s mm_st1_i))) ?_
        refine mg_goto (pc := 161) 103 dX12_believes_161 rfl ?_
        exact mg_weak (mm_le_s (mm_le_s (mm_le_s (mm_le_s (mm_le_s mm_le_0))))) (ih _ _ _ _ hr)
def X12_believes_L92 (e : mm_E) (a0 : Nat) (i1 : Int32) : Nat → Int32 → Int32 → mm_V → Option (Int32 × mm_V)
  | 0, _, _, _ => none
  | n + 1, i2, i3, m => (mm_gi e.1 m 12 75 a0 1).bind fun x1 => if x1 ≤ i3 then ((mm_gr e.1 m 12 75 a0 61).bind fun c2 => (mm_si e.1 m c2 (0 : Int32) (-1 : Int32)).bind fun m3 => X12_believes_L179 e a0 i1 i2 e.2.2 (0 : Int32) m3) else (X12_believes_L103 e (X12_believes_L92 e a0 i1 n) a0 i1 i3 e.2.2 i2 (0 : Int32) m)
theorem X12_believes_L92_ok {K : mm_K} {nx : Option Nat} {e : mm_E} (hz : e.2.1 = K.2.2.2.2) {d : Nat} (hd : 4 ≤ d) {a0 : Nat} {i1 : Int32} (h0 : e.1 a0 = some (12, 75)) : ∀ (n : Nat) (i2 : Int32) (i3 : Int32) (m : mm_V) (r : (Int32 × mm_V)), X12_believes_L92 e a0 i1 n i2 i3 m = some r → mm_G K MX12_believes d (mm_Fi e.1 nx r) 92 [some (.ref a0), some (.int i1), some (.int i2), some (.int i3), none] [] (e.1, m) nx 0 0 := by
  obtain ⟨d, rfl⟩ : ∃ d', d = d' + 1 := ⟨d - 1, by omega⟩
  intro n
  induction n with
  | zero => intro i2 i3 m r hr; unfold X12_believes_L92 at hr; cases hr
  | succ n ih =>
    intro i2 i3 m r hr
    unfold X12_believes_L92 at hr
    refine ml_iload_n (pc := 92) dX12_believes_92 rfl (mm_get_s (mm_get_s (mm_get_s mm_get_0))) ?_
    refine ml_aload_n (pc := 93) dX12_believes_93 rfl mm_get_0 ?_
    refine mb_gi (pc := 94) dX12_believes_94 fl_X12_7 hr (fun x1 hr => ?_)
    refine mb_icmp_ge (pc := 97) 170 dX12_believes_97 rfl hr (fun hr => ?_) (fun hr => ?_)
    · refine mg_iconst (pc := 170) dX12_believes_170 kc_0 ?_
      refine ml_istore_n (pc := 171) dX12_believes_171 rfl (Nat.le_of_ble_eq_true rfl) (mm_st1_s (mm_st1_s mm_st1_i)) ?_
      refine ml_aload_n (pc := 172) dX12_believes_172 rfl mm_get_0 ?_
      refine mb_gr (pc := 173) dX12_believes_173 fl_X12_109 hr (fun c2 hr => ?_)
      refine mg_iconst (pc := 176) dX12_believes_176 kc_0 ?_
      refine mg_iconst (pc := 177) dX12_believes_177 kc_m1 ?_
      refine mb_si (pc := 178) dX12_believes_178 hr (fun m3 hr => ?_)
      exact mg_weak (mm_le_s (mm_le_s (mm_le_s (mm_le_s (mm_le_n mm_le_0))))) (X12_believes_L179_ok hz hd h0 _ _ _ _ hr)
    · refine mg_iconst (pc := 100) dX12_believes_100 kc_0 ?_
      refine ml_istore (pc := 101) dX12_believes_101 (Nat.le_of_ble_eq_true rfl) (mm_st1_s (mm_st1_s (mm_st1_s mm_st1_i))) ?_
      exact mg_weak (mm_le_s (mm_le_s (mm_le_s (mm_le_s (mm_le_s mm_le_0))))) (X12_believes_L103_ok hz hd h0 ih _ _ _ _ _ hr)
def X12_believes_L71 (e : mm_E) (a0 : Nat) (i1 : Int32) (i2 : Int32) : Nat → Int32 → mm_V → Option (Int32 × mm_V)
  | 0, _, _ => none
  | n + 1, i3, m => if (10 : Int32) ≤ i3 then (X12_believes_L92 e a0 i1 e.2.2 i2 (0 : Int32) m) else ((mm_gr e.1 m 12 75 a0 62).bind fun c1 => (mm_si e.1 m c1 i3 (0 : Int32)).bind fun m2 => X12_believes_L71 e a0 i1 i2 n (i3 + 1) m2)
theorem X12_believes_L71_ok {K : mm_K} {nx : Option Nat} {e : mm_E} (hz : e.2.1 = K.2.2.2.2) {d : Nat} (hd : 4 ≤ d) {a0 : Nat} {i1 : Int32} {i2 : Int32} (h0 : e.1 a0 = some (12, 75)) : ∀ (n : Nat) (i3 : Int32) (m : mm_V) (r : (Int32 × mm_V)), X12_believes_L71 e a0 i1 i2 n i3 m = some r → mm_G K MX12_believes d (mm_Fi e.1 nx r) 71 [some (.ref a0), some (.int i1), some (.int i2), some (.int i3), none] [] (e.1, m) nx 0 0 := by
  obtain ⟨d, rfl⟩ : ∃ d', d = d' + 1 := ⟨d - 1, by omega⟩
  intro n
  induction n with
  | zero => intro i3 m r hr; unfold X12_believes_L71 at hr; cases hr
  | succ n ih =>
    intro i3 m r hr
    unfold X12_believes_L71 at hr
    refine ml_iload_n (pc := 71) dX12_believes_71 rfl (mm_get_s (mm_get_s (mm_get_s mm_get_0))) ?_
    refine mg_bipush (pc := 72) dX12_believes_72 kb_10 ?_
    refine mb_icmp_ge (pc := 74) 90 dX12_believes_74 rfl hr (fun hr => ?_) (fun hr => ?_)
    · refine mg_iconst (pc := 90) dX12_believes_90 kc_0 ?_
      refine ml_istore_n (pc := 91) dX12_believes_91 rfl (Nat.le_of_ble_eq_true rfl) (mm_st1_s (mm_st1_s mm_st1_i)) ?_
      exact mg_weak (mm_le_s (mm_le_s (mm_le_s (mm_le_s (mm_le_n mm_le_0))))) (X12_believes_L92_ok hz hd h0 _ _ _ _ _ hr)
    · refine ml_aload_n (pc := 77) dX12_believes_77 rfl mm_get_0 ?_
      refine mb_gr (pc := 78) dX12_believes_78 fl_X12_112 hr (fun c1 hr => ?_)
      refine ml_iload_n (pc := 81) dX12_believes_81 rfl (mm_get_s (mm_get_s (mm_get_s mm_get_0))) ?_
      refine mg_iconst (pc := 82) dX12_believes_82 kc_0 ?_
      refine mb_si (pc := 83) dX12_believes_83 hr (fun m2 hr => ?_)
      refine ml_iinc (pc := 84) dX12_believes_84 (mm_get_s (mm_get_s (mm_get_s mm_get_0))) (congrArg (fun z => i3 + z) kc_1) (Nat.le_of_ble_eq_true rfl) (mm_st1_s (mm_st1_s mm_st1_i)) ?_
      refine mg_goto (pc := 87) 71 dX12_believes_87 rfl ?_
      exact mg_weak (mm_le_s (mm_le_s (mm_le_s (mm_le_s (mm_le_n mm_le_0))))) (ih _ _ _ hr)
def X12_believes_L33 (e : mm_E) (a0 : Nat) (i1 : Int32) : Nat → Int32 → mm_V → Option (Int32 × mm_V)
  | 0, _, _ => none
  | n + 1, i2, m => if (19 : Int32) ≤ i2 then ((mm_gr e.1 m 12 75 a0 39).bind fun c1 => (mm_ai e.1 m 20 c1 (1 : Int32)).bind fun x2 => (mm_gi e.1 m 12 75 a0 48).bind fun x3 => if x2 = x3 then (X12_believes_L71 e a0 i1 (0 : Int32) e.2.2 (0 : Int32) m) else (mm_rz (0 : Int32) m)) else ((mm_gr e.1 m 12 75 a0 64).bind fun c4 => (mm_si e.1 m c4 i2 (0 : Int32)).bind fun m5 => X12_believes_L33 e a0 i1 n (i2 + 1) m5)
theorem X12_believes_L33_ok {K : mm_K} {nx : Option Nat} {e : mm_E} (hz : e.2.1 = K.2.2.2.2) {d : Nat} (hd : 4 ≤ d) {a0 : Nat} {i1 : Int32} (h0 : e.1 a0 = some (12, 75)) : ∀ (n : Nat) (i2 : Int32) (m : mm_V) (r : (Int32 × mm_V)), X12_believes_L33 e a0 i1 n i2 m = some r → mm_G K MX12_believes d (mm_Fi e.1 nx r) 33 [some (.ref a0), some (.int i1), some (.int i2), none, none] [] (e.1, m) nx 0 0 := by
  obtain ⟨d, rfl⟩ : ∃ d', d = d' + 1 := ⟨d - 1, by omega⟩
  intro n
  induction n with
  | zero => intro i2 m r hr; unfold X12_believes_L33 at hr; cases hr
  | succ n ih =>
    intro i2 m r hr
    unfold X12_believes_L33 at hr
    refine ml_iload_n (pc := 33) dX12_believes_33 rfl (mm_get_s (mm_get_s mm_get_0)) ?_
    refine mg_bipush (pc := 34) dX12_believes_34 kb_19 ?_
    refine mb_icmp_ge (pc := 36) 52 dX12_believes_36 rfl hr (fun hr => ?_) (fun hr => ?_)
    · refine ml_aload_n (pc := 52) dX12_believes_52 rfl mm_get_0 ?_
      refine mb_gr (pc := 53) dX12_believes_53 fl_X12_60 hr (fun c1 hr => ?_)
      refine mg_iconst (pc := 56) dX12_believes_56 kc_1 ?_
      refine mb_ai (pc := 57) dX12_believes_57 hr (fun x2 hr => ?_)
      refine ml_aload_n (pc := 58) dX12_believes_58 rfl mm_get_0 ?_
      refine mb_gi (pc := 59) dX12_believes_59 fl_X12_365 hr (fun x3 hr => ?_)
      refine mb_icmp_eq (pc := 62) 67 dX12_believes_62 rfl hr (fun hr => ?_) (fun hr => ?_)
      · refine mg_iconst (pc := 67) dX12_believes_67 kc_0 ?_
        refine ml_istore_n (pc := 68) dX12_believes_68 rfl (Nat.le_of_ble_eq_true rfl) (mm_st1_s mm_st1_i) ?_
        refine mg_iconst (pc := 69) dX12_believes_69 kc_0 ?_
        refine ml_istore_n (pc := 70) dX12_believes_70 rfl (Nat.le_of_ble_eq_true rfl) (mm_st1_s (mm_st1_s mm_st1_i)) ?_
        exact mg_weak (mm_le_s (mm_le_s (mm_le_s (mm_le_s (mm_le_n mm_le_0))))) (X12_believes_L71_ok hz hd h0 _ _ _ _ hr)
      · refine mg_iconst (pc := 65) dX12_believes_65 kc_0 ?_
        exact mb_zret dX12_believes_66 rfl hr
    · refine ml_aload_n (pc := 39) dX12_believes_39 rfl mm_get_0 ?_
      refine mb_gr (pc := 40) dX12_believes_40 fl_X12_118 hr (fun c4 hr => ?_)
      refine ml_iload_n (pc := 43) dX12_believes_43 rfl (mm_get_s (mm_get_s mm_get_0)) ?_
      refine mg_iconst (pc := 44) dX12_believes_44 kc_0 ?_
      refine mb_si (pc := 45) dX12_believes_45 hr (fun m5 hr => ?_)
      refine ml_iinc (pc := 46) dX12_believes_46 (mm_get_s (mm_get_s mm_get_0)) (congrArg (fun z => i2 + z) kc_1) (Nat.le_of_ble_eq_true rfl) (mm_st1_s mm_st1_i) ?_
      refine mg_goto (pc := 49) 33 dX12_believes_49 rfl ?_
      exact mg_weak (mm_le_s (mm_le_s (mm_le_s (mm_le_n (mm_le_n mm_le_0))))) (ih _ _ _ hr)
def X12_believes_L12 (e : mm_E) (a0 : Nat) (i1 : Int32) : Nat → Int32 → mm_V → Option (Int32 × mm_V)
  | 0, _, _ => none
  | n + 1, i2, m => if (6 : Int32) ≤ i2 then (X12_believes_L33 e a0 i1 e.2.2 (0 : Int32) m) else ((mm_gr e.1 m 12 75 a0 65).bind fun c1 => (mm_si e.1 m c1 i2 (0 : Int32)).bind fun m2 => X12_believes_L12 e a0 i1 n (i2 + 1) m2)
theorem X12_believes_L12_ok {K : mm_K} {nx : Option Nat} {e : mm_E} (hz : e.2.1 = K.2.2.2.2) {d : Nat} (hd : 4 ≤ d) {a0 : Nat} {i1 : Int32} (h0 : e.1 a0 = some (12, 75)) : ∀ (n : Nat) (i2 : Int32) (m : mm_V) (r : (Int32 × mm_V)), X12_believes_L12 e a0 i1 n i2 m = some r → mm_G K MX12_believes d (mm_Fi e.1 nx r) 12 [some (.ref a0), some (.int i1), some (.int i2), none, none] [] (e.1, m) nx 0 0 := by
  obtain ⟨d, rfl⟩ : ∃ d', d = d' + 1 := ⟨d - 1, by omega⟩
  intro n
  induction n with
  | zero => intro i2 m r hr; unfold X12_believes_L12 at hr; cases hr
  | succ n ih =>
    intro i2 m r hr
    unfold X12_believes_L12 at hr
    refine ml_iload_n (pc := 12) dX12_believes_12 rfl (mm_get_s (mm_get_s mm_get_0)) ?_
    refine mg_bipush (pc := 13) dX12_believes_13 kb_6 ?_
    refine mb_icmp_ge (pc := 15) 31 dX12_believes_15 rfl hr (fun hr => ?_) (fun hr => ?_)
    · refine mg_iconst (pc := 31) dX12_believes_31 kc_0 ?_
      refine ml_istore_n (pc := 32) dX12_believes_32 rfl (Nat.le_of_ble_eq_true rfl) (mm_st1_s mm_st1_i) ?_
      exact mg_weak (mm_le_s (mm_le_s (mm_le_s (mm_le_n (mm_le_n mm_le_0))))) (X12_believes_L33_ok hz hd h0 _ _ _ _ hr)
    · refine ml_aload_n (pc := 18) dX12_believes_18 rfl mm_get_0 ?_
      refine mb_gr (pc := 19) dX12_believes_19 fl_X12_121 hr (fun c1 hr => ?_)
      refine ml_iload_n (pc := 22) dX12_believes_22 rfl (mm_get_s (mm_get_s mm_get_0)) ?_
      refine mg_iconst (pc := 23) dX12_believes_23 kc_0 ?_
      refine mb_si (pc := 24) dX12_believes_24 hr (fun m2 hr => ?_)
      refine ml_iinc (pc := 25) dX12_believes_25 (mm_get_s (mm_get_s mm_get_0)) (congrArg (fun z => i2 + z) kc_1) (Nat.le_of_ble_eq_true rfl) (mm_st1_s mm_st1_i) ?_
      refine mg_goto (pc := 28) 12 dX12_believes_28 rfl ?_
      exact mg_weak (mm_le_s (mm_le_s (mm_le_s (mm_le_n (mm_le_n mm_le_0))))) (ih _ _ _ hr)
def X12_believes (e : mm_E) (a0 : Nat) (i1 : Int32) (m : mm_V) : Option (Int32 × mm_V) := (mm_pf e.1 m 12 75 a0 66 (.int (0 : Int32))).bind fun m1 => (mm_pf e.1 m1 12 75 a0 67 (.int (0 : Int32))).bind fun m2 => X12_believes_L12 e a0 i1 e.2.2 (0 : Int32) m2
theorem X12_believes_ok {K : mm_K} {nx : Option Nat} {e : mm_E} (hz : e.2.1 = K.2.2.2.2) {d : Nat} (hd : 4 ≤ d) {a0 : Nat} {i1 : Int32} (h0 : e.1 a0 = some (12, 75)) {m : mm_V} {r : (Int32 × mm_V)} (hr : X12_believes e a0 i1 m = some r) : mm_Cn K MX12_believes d (mm_Fi e.1 nx r) [.ref a0, .int i1] (e.1, m) nx := by
  obtain ⟨d, rfl⟩ : ∃ d', d = d' + 1 := ⟨d - 1, by omega⟩
  refine mm_entry (by decide) (Nat.le_of_ble_eq_true rfl) rfl (fun hok => ?_)
  unfold X12_believes at hr
  refine mg_weak (L' := [some (.ref a0), some (.int i1), none, none, none]) (mm_le_s (mm_le_s (mm_le_e (mm_le_e (mm_le_e mm_le_0))))) ?_
  refine ml_aload_n (pc := 0) dX12_believes_0 rfl mm_get_0 ?_
  refine mg_iconst (pc := 1) dX12_believes_1 kc_0 ?_
  refine mb_pi (pc := 2) dX12_believes_2 fp_X12_451 hr (fun m1 hr => ?_)
  refine ml_aload_n (pc := 5) dX12_believes_5 rfl mm_get_0 ?_
  refine mg_iconst (pc := 6) dX12_believes_6 kc_0 ?_
  refine mb_pi (pc := 7) dX12_believes_7 fp_X12_454 hr (fun m2 hr => ?_)
  refine mg_iconst (pc := 10) dX12_believes_10 kc_0 ?_
  refine ml_istore_n (pc := 11) dX12_believes_11 rfl (Nat.le_of_ble_eq_true rfl) (mm_st1_s mm_st1_i) ?_
  exact mg_weak (mm_le_s (mm_le_s (mm_le_s (mm_le_n (mm_le_n mm_le_0))))) (X12_believes_L12_ok hz hd h0 _ _ _ _ hr)
theorem dX12_belief_0 : decode cX12_belief 0 = .ok (.aload_n 0, 1) := by decide +kernel
theorem dX12_belief_1 : decode cX12_belief 1 = .ok (.iconst 0, 1) := by decide +kernel
theorem dX12_belief_2 : decode cX12_belief 2 = .ok (.putfield 152, 3) := by decide +kernel
theorem dX12_belief_5 : decode cX12_belief 5 = .ok (.aload_n 0, 1) := by decide +kernel
theorem dX12_belief_6 : decode cX12_belief 6 = .ok (.iload_n 1, 1) := by decide +kernel
theorem dX12_belief_7 : decode cX12_belief 7 = .ok (.invokevirtual 376, 3) := by decide +kernel
theorem dX12_belief_10 : decode cX12_belief 10 = .ok (.ifCond .eq 16, 3) := by decide +kernel
theorem dX12_belief_13 : decode cX12_belief 13 = .ok (.iload_n 2, 1) := by decide +kernel
theorem dX12_belief_14 : decode cX12_belief 14 = .ok (.iconst (-1), 1) := by decide +kernel
theorem dX12_belief_15 : decode cX12_belief 15 = .ok (.if_icmp .eq 13, 3) := by decide +kernel
theorem dX12_belief_18 : decode cX12_belief 18 = .ok (.aload_n 0, 1) := by decide +kernel
theorem dX12_belief_19 : decode cX12_belief 19 = .ok (.iload_n 2, 1) := by decide +kernel
theorem dX12_belief_20 : decode cX12_belief 20 = .ok (.invokevirtual 376, 3) := by decide +kernel
theorem dX12_belief_23 : decode cX12_belief 23 = .ok (.ifCond .ne 5, 3) := by decide +kernel
theorem dX12_belief_26 : decode cX12_belief 26 = .ok (.iconst 0, 1) := by decide +kernel
theorem dX12_belief_27 : decode cX12_belief 27 = .ok (.ireturn, 1) := by decide +kernel
theorem dX12_belief_28 : decode cX12_belief 28 = .ok (.aload_n 0, 1) := by decide +kernel
theorem dX12_belief_29 : decode cX12_belief 29 = .ok (.iload_n 1, 1) := by decide +kernel
theorem dX12_belief_30 : decode cX12_belief 30 = .ok (.invokevirtual 467, 3) := by decide +kernel
theorem dX12_belief_33 : decode cX12_belief 33 = .ok (.ifCond .ne 6, 3) := by decide +kernel
theorem dX12_belief_36 : decode cX12_belief 36 = .ok (.bipush (-2), 2) := by decide +kernel
theorem dX12_belief_38 : decode cX12_belief 38 = .ok (.ireturn, 1) := by decide +kernel
theorem dX12_belief_39 : decode cX12_belief 39 = .ok (.iload_n 2, 1) := by decide +kernel
theorem dX12_belief_40 : decode cX12_belief 40 = .ok (.iconst (-1), 1) := by decide +kernel
theorem dX12_belief_41 : decode cX12_belief 41 = .ok (.if_icmp .ne 10, 3) := by decide +kernel
theorem dX12_belief_44 : decode cX12_belief 44 = .ok (.aload_n 0, 1) := by decide +kernel
theorem dX12_belief_45 : decode cX12_belief 45 = .ok (.getfield 451, 3) := by decide +kernel
theorem dX12_belief_48 : decode cX12_belief 48 = .ok (.goto 9, 3) := by decide +kernel
theorem dX12_belief_51 : decode cX12_belief 51 = .ok (.aload_n 0, 1) := by decide +kernel
theorem dX12_belief_52 : decode cX12_belief 52 = .ok (.getfield 121, 3) := by decide +kernel
theorem dX12_belief_55 : decode cX12_belief 55 = .ok (.iload_n 2, 1) := by decide +kernel
theorem dX12_belief_56 : decode cX12_belief 56 = .ok (.iaload, 1) := by decide +kernel
theorem dX12_belief_57 : decode cX12_belief 57 = .ok (.ireturn, 1) := by decide +kernel
def X12_belief_b57 (e : mm_E) (t0 : Int32) (m : mm_V) : Option (Int32 × mm_V) := some (t0, m)
theorem X12_belief_b57_ok {K : mm_K} {nx : Option Nat} {e : mm_E} (hz : e.2.1 = K.2.2.2.2) {d : Nat} (hd : 5 ≤ d) {t0 : Int32} {a0 : Nat} (h0 : e.1 a0 = some (12, 75)) {m : mm_V} {r : (Int32 × mm_V)} (hr : X12_belief_b57 e t0 m = some r) : mm_G K MX12_belief d (mm_Fi e.1 nx r) 57 [none, none, none] [.int t0] (e.1, m) nx 0 0 := by
  obtain ⟨d, rfl⟩ : ∃ d', d = d' + 1 := ⟨d - 1, by omega⟩
  unfold X12_belief_b57 at hr
  exact mb_iret dX12_belief_57 rfl hr
def X12_belief_b28 (e : mm_E) (a0 : Nat) (i1 : Int32) (i2 : Int32) (m : mm_V) : Option (Int32 × mm_V) := (X12_believes e a0 i1 m).bind fun r1 => if ¬ r1.1 = 0 then (if ¬ i2 = (-1 : Int32) then ((mm_gr e.1 r1.2 12 75 a0 65).bind fun c2 => (mm_ai e.1 r1.2 20 c2 i2).bind fun x3 => X12_belief_b57 e  x3 r1.2) else ((mm_gi e.1 r1.2 12 75 a0 66).bind fun x4 => X12_belief_b57 e  x4 r1.2)) else (some ((-2 : Int32), r1.2))
theorem X12_belief_b28_ok {K : mm_K} {nx : Option Nat} {e : mm_E} (hz : e.2.1 = K.2.2.2.2) {d : Nat} (hd : 5 ≤ d) {a0 : Nat} {i1 : Int32} {i2 : Int32} (h0 : e.1 a0 = some (12, 75)) {m : mm_V} {r : (Int32 × mm_V)} (hr : X12_belief_b28 e a0 i1 i2 m = some r) : mm_G K MX12_belief d (mm_Fi e.1 nx r) 28 [some (.ref a0), some (.int i1), some (.int i2)] [] (e.1, m) nx 0 0 := by
  obtain ⟨d, rfl⟩ : ∃ d', d = d' + 1 := ⟨d - 1, by omega⟩
  unfold X12_belief_b28 at hr
  refine ml_aload_n (pc := 28) dX12_belief_28 rfl mm_get_0 ?_
  refine ml_iload_n (pc := 29) dX12_belief_29 rfl (mm_get_s mm_get_0) ?_
  refine mb_cVi (pc := 30) (As := [.int i1]) (rest := []) dX12_belief_30 cw_X12_467 h0 hr (fun v hv => X12_believes_ok hz (by omega) h0 hv) rfl (Nat.le_of_ble_eq_true rfl) (Nat.zero_le _) (Nat.zero_le _) (fun r1 hr => ?_)
  refine mb_if_ne (pc := 33) 39 dX12_belief_33 rfl hr (fun hr => ?_) (fun hr => ?_)
  · refine ml_iload_n (pc := 39) dX12_belief_39 rfl (mm_get_s (mm_get_s mm_get_0)) ?_
    refine mg_iconst (pc := 40) dX12_belief_40 kc_m1 ?_
    refine mb_icmp_ne (pc := 41) 51 dX12_belief_41 rfl hr (fun hr => ?_) (fun hr => ?_)
    · refine ml_aload_n (pc := 51) dX12_belief_51 rfl mm_get_0 ?_
      refine mb_gr (pc := 52) dX12_belief_52 fl_X12_121 hr (fun c2 hr => ?_)
      refine ml_iload_n (pc := 55) dX12_belief_55 rfl (mm_get_s (mm_get_s mm_get_0)) ?_
      refine mb_ai (pc := 56) dX12_belief_56 hr (fun x3 hr => ?_)
      exact mg_weak (mm_le_n (mm_le_n (mm_le_n mm_le_0))) (X12_belief_b57_ok hz hd h0 hr)
    · refine ml_aload_n (pc := 44) dX12_belief_44 rfl mm_get_0 ?_
      refine mb_gi (pc := 45) dX12_belief_45 fl_X12_451 hr (fun x4 hr => ?_)
      refine mg_goto (pc := 48) 57 dX12_belief_48 rfl ?_
      exact mg_weak (mm_le_n (mm_le_n (mm_le_n mm_le_0))) (X12_belief_b57_ok hz hd h0 hr)
  · refine mg_bipush (pc := 36) dX12_belief_36 kb_m2 ?_
    exact mb_iret dX12_belief_38 rfl hr
def X12_belief_b26 (e : mm_E) (m : mm_V) : Option (Int32 × mm_V) := some ((0 : Int32), m)
theorem X12_belief_b26_ok {K : mm_K} {nx : Option Nat} {e : mm_E} (hz : e.2.1 = K.2.2.2.2) {d : Nat} (hd : 5 ≤ d) {a0 : Nat} (h0 : e.1 a0 = some (12, 75)) {m : mm_V} {r : (Int32 × mm_V)} (hr : X12_belief_b26 e m = some r) : mm_G K MX12_belief d (mm_Fi e.1 nx r) 26 [none, none, none] [] (e.1, m) nx 0 0 := by
  obtain ⟨d, rfl⟩ : ∃ d', d = d' + 1 := ⟨d - 1, by omega⟩
  unfold X12_belief_b26 at hr
  refine mg_iconst (pc := 26) dX12_belief_26 kc_0 ?_
  exact mb_iret dX12_belief_27 rfl hr
def X12_belief (e : mm_E) (a0 : Nat) (i1 : Int32) (i2 : Int32) (m : mm_V) : Option (Int32 × mm_V) := (mm_pf e.1 m 12 75 a0 0 (.int (0 : Int32))).bind fun m1 => (X12_isPerson e a0 i1 m1).bind fun r2 => if r2.1 = 0 then (X12_belief_b26 e   r2.2) else (if i2 = (-1 : Int32) then (X12_belief_b28 e a0 i1 i2  r2.2) else ((X12_isPerson e a0 i2 r2.2).bind fun r3 => if ¬ r3.1 = 0 then (X12_belief_b28 e a0 i1 i2  r3.2) else (X12_belief_b26 e   r3.2)))
theorem X12_belief_ok {K : mm_K} {nx : Option Nat} {e : mm_E} (hz : e.2.1 = K.2.2.2.2) {d : Nat} (hd : 5 ≤ d) {a0 : Nat} {i1 : Int32} {i2 : Int32} (h0 : e.1 a0 = some (12, 75)) {m : mm_V} {r : (Int32 × mm_V)} (hr : X12_belief e a0 i1 i2 m = some r) : mm_Cn K MX12_belief d (mm_Fi e.1 nx r) [.ref a0, .int i1, .int i2] (e.1, m) nx := by
  obtain ⟨d, rfl⟩ : ∃ d', d = d' + 1 := ⟨d - 1, by omega⟩
  refine mm_entry (by decide) (Nat.le_of_ble_eq_true rfl) rfl (fun hok => ?_)
  unfold X12_belief at hr
  refine mg_weak (L' := [some (.ref a0), some (.int i1), some (.int i2)]) (mm_le_s (mm_le_s (mm_le_s mm_le_0))) ?_
  refine ml_aload_n (pc := 0) dX12_belief_0 rfl mm_get_0 ?_
  refine mg_iconst (pc := 1) dX12_belief_1 kc_0 ?_
  refine mb_pi (pc := 2) dX12_belief_2 fp_X12_152 hr (fun m1 hr => ?_)
  refine ml_aload_n (pc := 5) dX12_belief_5 rfl mm_get_0 ?_
  refine ml_iload_n (pc := 6) dX12_belief_6 rfl (mm_get_s mm_get_0) ?_
  refine mb_cVi (pc := 7) (As := [.int i1]) (rest := []) dX12_belief_7 cw_X12_376 h0 hr (fun v hv => X12_isPerson_ok hz (by omega) h0 hv) rfl (Nat.le_of_ble_eq_true rfl) (Nat.zero_le _) (Nat.zero_le _) (fun r2 hr => ?_)
  refine mb_if_eq (pc := 10) 26 dX12_belief_10 rfl hr (fun hr => ?_) (fun hr => ?_)
  · exact mg_weak (mm_le_n (mm_le_n (mm_le_n mm_le_0))) (X12_belief_b26_ok hz hd h0 hr)
  · refine ml_iload_n (pc := 13) dX12_belief_13 rfl (mm_get_s (mm_get_s mm_get_0)) ?_
    refine mg_iconst (pc := 14) dX12_belief_14 kc_m1 ?_
    refine mb_icmp_eq (pc := 15) 28 dX12_belief_15 rfl hr (fun hr => ?_) (fun hr => ?_)
    · exact mg_weak (mm_le_s (mm_le_s (mm_le_s mm_le_0))) (X12_belief_b28_ok hz hd h0 hr)
    · refine ml_aload_n (pc := 18) dX12_belief_18 rfl mm_get_0 ?_
      refine ml_iload_n (pc := 19) dX12_belief_19 rfl (mm_get_s (mm_get_s mm_get_0)) ?_
      refine mb_cVi (pc := 20) (As := [.int i2]) (rest := []) dX12_belief_20 cw_X12_376 h0 hr (fun v hv => X12_isPerson_ok hz (by omega) h0 hv) rfl (Nat.le_of_ble_eq_true rfl) (Nat.zero_le _) (Nat.zero_le _) (fun r3 hr => ?_)
      refine mb_if_ne (pc := 23) 28 dX12_belief_23 rfl hr (fun hr => ?_) (fun hr => ?_)
      · exact mg_weak (mm_le_s (mm_le_s (mm_le_s mm_le_0))) (X12_belief_b28_ok hz hd h0 hr)
      · exact mg_weak (mm_le_n (mm_le_n (mm_le_n mm_le_0))) (X12_belief_b26_ok hz hd h0 hr)
theorem dX12_choose_0 : decode cX12_choose 0 = .ok (.aload_n 0, 1) := by decide +kernel
theorem dX12_choose_1 : decode cX12_choose 1 = .ok (.iconst 0, 1) := by decide +kernel
theorem dX12_choose_2 : decode cX12_choose 2 = .ok (.putfield 152, 3) := by decide +kernel
theorem dX12_choose_5 : decode cX12_choose 5 = .ok (.aload_n 0, 1) := by decide +kernel
theorem dX12_choose_6 : decode cX12_choose 6 = .ok (.iload_n 1, 1) := by decide +kernel
theorem dX12_choose_7 : decode cX12_choose 7 = .ok (.invokevirtual 376, 3) := by decide +kernel
theorem dX12_choose_10 : decode cX12_choose 10 = .ok (.ifCond .eq 12, 3) := by decide +kernel
theorem dX12_choose_13 : decode cX12_choose 13 = .ok (.aload_n 0, 1) := by decide +kernel
theorem dX12_choose_14 : decode cX12_choose 14 = .ok (.iload_n 2, 1) := by decide +kernel
theorem dX12_choose_15 : decode cX12_choose 15 = .ok (.iconst 1, 1) := by decide +kernel
theorem dX12_choose_16 : decode cX12_choose 16 = .ok (.invokevirtual 393, 3) := by decide +kernel
theorem dX12_choose_19 : decode cX12_choose 19 = .ok (.ifCond .ne 5, 3) := by decide +kernel
theorem dX12_choose_22 : decode cX12_choose 22 = .ok (.iconst 0, 1) := by decide +kernel
theorem dX12_choose_23 : decode cX12_choose 23 = .ok (.ireturn, 1) := by decide +kernel
theorem dX12_choose_24 : decode cX12_choose 24 = .ok (.aload_n 0, 1) := by decide +kernel
theorem dX12_choose_25 : decode cX12_choose 25 = .ok (.aload_n 0, 1) := by decide +kernel
theorem dX12_choose_26 : decode cX12_choose 26 = .ok (.getfield 60, 3) := by decide +kernel
theorem dX12_choose_29 : decode cX12_choose 29 = .ok (.invokevirtual 338, 3) := by decide +kernel
theorem dX12_choose_32 : decode cX12_choose 32 = .ok (.ifCond .ne 14, 3) := by decide +kernel
theorem dX12_choose_35 : decode cX12_choose 35 = .ok (.aload_n 0, 1) := by decide +kernel
theorem dX12_choose_36 : decode cX12_choose 36 = .ok (.getfield 60, 3) := by decide +kernel
theorem dX12_choose_39 : decode cX12_choose 39 = .ok (.iload_n 1, 1) := by decide +kernel
theorem dX12_choose_40 : decode cX12_choose 40 = .ok (.invokestatic 327, 3) := by decide +kernel
theorem dX12_choose_43 : decode cX12_choose 43 = .ok (.ifCond .ne 5, 3) := by decide +kernel
theorem dX12_choose_46 : decode cX12_choose 46 = .ok (.iconst (-1), 1) := by decide +kernel
theorem dX12_choose_47 : decode cX12_choose 47 = .ok (.ireturn, 1) := by decide +kernel
theorem dX12_choose_48 : decode cX12_choose 48 = .ok (.aload_n 0, 1) := by decide +kernel
theorem dX12_choose_49 : decode cX12_choose 49 = .ok (.iload_n 1, 1) := by decide +kernel
theorem dX12_choose_50 : decode cX12_choose 50 = .ok (.invokevirtual 467, 3) := by decide +kernel
theorem dX12_choose_53 : decode cX12_choose 53 = .ok (.ifCond .ne 6, 3) := by decide +kernel
theorem dX12_choose_56 : decode cX12_choose 56 = .ok (.bipush (-2), 2) := by decide +kernel
theorem dX12_choose_58 : decode cX12_choose 58 = .ok (.ireturn, 1) := by decide +kernel
theorem dX12_choose_59 : decode cX12_choose 59 = .ok (.iconst 0, 1) := by decide +kernel
theorem dX12_choose_60 : decode cX12_choose 60 = .ok (.istore_n 3, 1) := by decide +kernel
theorem dX12_choose_61 : decode cX12_choose 61 = .ok (.iconst 1, 1) := by decide +kernel
theorem dX12_choose_62 : decode cX12_choose 62 = .ok (.istore 4, 2) := by decide +kernel
theorem dX12_choose_64 : decode cX12_choose 64 = .ok (.iload 4, 2) := by decide +kernel
theorem dX12_choose_66 : decode cX12_choose 66 = .ok (.aload_n 0, 1) := by decide +kernel
theorem dX12_choose_67 : decode cX12_choose 67 = .ok (.getfield 60, 3) := by decide +kernel
theorem dX12_choose_70 : decode cX12_choose 70 = .ok (.aload_n 0, 1) := by decide +kernel
theorem dX12_choose_71 : decode cX12_choose 71 = .ok (.aload_n 0, 1) := by decide +kernel
theorem dX12_choose_72 : decode cX12_choose 72 = .ok (.getfield 60, 3) := by decide +kernel
theorem dX12_choose_75 : decode cX12_choose 75 = .ok (.iload_n 1, 1) := by decide +kernel
theorem dX12_choose_76 : decode cX12_choose 76 = .ok (.invokevirtual 342, 3) := by decide +kernel
theorem dX12_choose_79 : decode cX12_choose 79 = .ok (.invokestatic 327, 3) := by decide +kernel
theorem dX12_choose_82 : decode cX12_choose 82 = .ok (.if_icmp .ge 28, 3) := by decide +kernel
theorem dX12_choose_85 : decode cX12_choose 85 = .ok (.aload_n 0, 1) := by decide +kernel
theorem dX12_choose_86 : decode cX12_choose 86 = .ok (.getfield 118, 3) := by decide +kernel
theorem dX12_choose_89 : decode cX12_choose 89 = .ok (.iload 4, 2) := by decide +kernel
theorem dX12_choose_91 : decode cX12_choose 91 = .ok (.iaload, 1) := by decide +kernel
theorem dX12_choose_92 : decode cX12_choose 92 = .ok (.aload_n 0, 1) := by decide +kernel
theorem dX12_choose_93 : decode cX12_choose 93 = .ok (.getfield 118, 3) := by decide +kernel
theorem dX12_choose_96 : decode cX12_choose 96 = .ok (.iload_n 3, 1) := by decide +kernel
theorem dX12_choose_97 : decode cX12_choose 97 = .ok (.iaload, 1) := by decide +kernel
theorem dX12_choose_98 : decode cX12_choose 98 = .ok (.if_icmp .ge 6, 3) := by decide +kernel
theorem dX12_choose_101 : decode cX12_choose 101 = .ok (.iload 4, 2) := by decide +kernel
theorem dX12_choose_103 : decode cX12_choose 103 = .ok (.istore_n 3, 1) := by decide +kernel
theorem dX12_choose_104 : decode cX12_choose 104 = .ok (.iinc 4 1, 3) := by decide +kernel
theorem dX12_choose_107 : decode cX12_choose 107 = .ok (.goto (-43), 3) := by decide +kernel
theorem dX12_choose_110 : decode cX12_choose 110 = .ok (.iload_n 2, 1) := by decide +kernel
theorem dX12_choose_111 : decode cX12_choose 111 = .ok (.ifCond .ne 7, 3) := by decide +kernel
theorem dX12_choose_114 : decode cX12_choose 114 = .ok (.iload_n 3, 1) := by decide +kernel
theorem dX12_choose_115 : decode cX12_choose 115 = .ok (.goto 9, 3) := by decide +kernel
theorem dX12_choose_118 : decode cX12_choose 118 = .ok (.aload_n 0, 1) := by decide +kernel
theorem dX12_choose_119 : decode cX12_choose 119 = .ok (.getfield 118, 3) := by decide +kernel
theorem dX12_choose_122 : decode cX12_choose 122 = .ok (.iload_n 3, 1) := by decide +kernel
theorem dX12_choose_123 : decode cX12_choose 123 = .ok (.iaload, 1) := by decide +kernel
theorem dX12_choose_124 : decode cX12_choose 124 = .ok (.ireturn, 1) := by decide +kernel
def X12_choose_b124 (e : mm_E) (t0 : Int32) (m : mm_V) : Option (Int32 × mm_V) := some (t0, m)
theorem X12_choose_b124_ok {K : mm_K} {nx : Option Nat} {e : mm_E} (hz : e.2.1 = K.2.2.2.2) {d : Nat} (hd : 5 ≤ d) {t0 : Int32} {a0 : Nat} (h0 : e.1 a0 = some (12, 75)) {m : mm_V} {r : (Int32 × mm_V)} (hr : X12_choose_b124 e t0 m = some r) : mm_G K MX12_choose d (mm_Fi e.1 nx r) 124 [none, none, none, none, none] [.int t0] (e.1, m) nx 0 0 := by
  obtain ⟨d, rfl⟩ : ∃ d', d = d' + 1 := ⟨d - 1, by omega⟩
  unfold X12_choose_b124 at hr
  exact mb_iret dX12_choose_124 rfl hr
def X12_choose_b104 (e : mm_E) (k64 : Int32 → Int32 → mm_V → Option (Int32 × mm_V)) (a0 : Nat) (i1 : Int32) (i2 : Int32) (i3 : Int32) (i4 : Int32) (m : mm_V) : Option (Int32 × mm_V) := k64 i3 (i4 + 1) m
theorem X12_choose_b104_ok {K : mm_K} {nx : Option Nat} {e : mm_E} (hz : e.2.1 = K.2.2.2.2) {d : Nat} (hd : 5 ≤ d) {a0 : Nat} {i1 : Int32} {i2 : Int32} {i3 : Int32} {i4 : Int32} (h0 : e.1 a0 = some (12, 75)) {k64 : Int32 → Int32 → mm_V → Option (Int32 × mm_V)} (hk64 : ∀ (w3 : Int32) (w4 : Int32) (m : mm_V) (r : (Int32 × mm_V)), k64 w3 w4 m = some r → mm_G K MX12_choose d (mm_Fi e.1 nx r) 64 [some (.ref a0), some (.int i1), some (.int i2), some (.int w3), some (.int w4)] [] (e.1, m) nx 0 0) {m : mm_V} {r : (Int32 × mm_V)} (hr : X12_choose_b104 e k64 a0 i1 i2 i3 i4 m = some r) : mm_G K MX12_choose d (mm_Fi e.1 nx r) 104 [some (.ref a0), some (.int i1), some (.int i2), some (.int i3), some (.int i4)] [] (e.1, m) nx 0 0 := by
  obtain ⟨d, rfl⟩ : ∃ d', d = d' + 1 := ⟨d - 1, by omega⟩
  unfold X12_choose_b104 at hr
  refine ml_iinc (pc := 104) dX12_choose_104 (mm_get_s (mm_get_s (mm_get_s (mm_get_s mm_get_0)))) (congrArg (fun z => i4 + z) kc_1) (Nat.le_of_ble_eq_true rfl) (mm_st1_s (mm_st1_s (mm_st1_s mm_st1_i))) ?_
  refine mg_goto (pc := 107) 64 dX12_choose_107 rfl ?_
  exact mg_weak (mm_le_s (mm_le_s (mm_le_s (mm_le_s (mm_le_s mm_le_0))))) (hk64 _ _ _ _ hr)
def X12_choose_L64 (e : mm_E) (a0 : Nat) (i1 : Int32) (i2 : Int32) : Nat → Int32 → Int32 → mm_V → Option (Int32 × mm_V)
  | 0, _, _, _ => none
  | n + 1, i3, i4, m => (mm_gr e.1 m 12 75 a0 39).bind fun c1 => (mm_gr e.1 m 12 75 a0 39).bind fun c2 => (X12_nextOf e a0 c2 i1 m).bind fun r3 => (X12_size e c1 r3.1 r3.2).bind fun r4 => if r4.1 ≤ i4 then (if ¬ i2 = 0 then ((mm_gr e.1 r4.2 12 75 a0 64).bind fun c5 => (mm_ai e.1 r4.2 20 c5 i3).bind fun x6 => X12_choose_b124 e  x6 r4.2) else (X12_choose_b124 e  i3 r4.2)) else ((mm_gr e.1 r4.2 12 75 a0 64).bind fun c7 => (mm_ai e.1 r4.2 20 c7 i4).bind fun x8 => (mm_gr e.1 r4.2 12 75 a0 64).bind fun c9 => (mm_ai e.1 r4.2 20 c9 i3).bind fun x10 => if x10 ≤ x8 then (X12_choose_b104 e (X12_choose_L64 e a0 i1 i2 n) a0 i1 i2 i3 i4  r4.2) else (X12_choose_b104 e (X12_choose_L64 e a0 i1 i2 n) a0 i1 i2 i4 i4  r4.2))
theorem X12_choose_L64_ok {K : mm_K} {nx : Option Nat} {e : mm_E} (hz : e.2.1 = K.2.2.2.2) {d : Nat} (hd : 5 ≤ d) {a0 : Nat} {i1 : Int32} {i2 : Int32} (h0 : e.1 a0 = some (12, 75)) : ∀ (n : Nat) (i3 : Int32) (i4 : Int32) (m : mm_V) (r : (Int32 × mm_V)), X12_choose_L64 e a0 i1 i2 n i3 i4 m = some r → mm_G K MX12_choose d (mm_Fi e.1 nx r) 64 [some (.ref a0), some (.int i1), some (.int i2), some (.int i3), some (.int i4)] [] (e.1, m) nx 0 0 := by
  obtain ⟨d, rfl⟩ : ∃ d', d = d' + 1 := ⟨d - 1, by omega⟩
  intro n
  induction n with
  | zero => intro i3 i4 m r hr; unfold X12_choose_L64 at hr; cases hr
  | succ n ih =>
    intro i3 i4 m r hr
    unfold X12_choose_L64 at hr
    refine ml_iload (pc := 64) dX12_choose_64 (mm_get_s (mm_get_s (mm_get_s (mm_get_s mm_get_0)))) ?_
    refine ml_aload_n (pc := 66) dX12_choose_66 rfl mm_get_0 ?_
    refine mb_gr (pc := 67) dX12_choose_67 fl_X12_60 hr (fun c1 hr => ?_)
    refine ml_aload_n (pc := 70) dX12_choose_70 rfl mm_get_0 ?_
    refine ml_aload_n (pc := 71) dX12_choose_71 rfl mm_get_0 ?_
    refine mb_gr (pc := 72) dX12_choose_72 fl_X12_60 hr (fun c2 hr => ?_)
    refine ml_iload_n (pc := 75) dX12_choose_75 rfl (mm_get_s mm_get_0) ?_
    refine mb_cVi (pc := 76) (As := [.ref c2, .int i1]) (rest := [.ref c1, .int i4]) dX12_choose_76 cw_X12_342 h0 hr (fun v hv => X12_nextOf_ok hz (by omega) h0 hv) rfl (Nat.le_of_ble_eq_true rfl) (Nat.zero_le _) (Nat.zero_le _) (fun r3 hr => ?_)
    refine mb_cSi (pc := 79) (As := [.ref c1, .int r3.1]) (rest := [.int i4]) dX12_choose_79 cw_X12_327  hr (fun v hv => X12_size_ok hz (by omega)  hv) rfl (Nat.le_of_ble_eq_true rfl) (Nat.zero_le _) (Nat.zero_le _) (fun r4 hr => ?_)
    refine mb_icmp_ge (pc := 82) 110 dX12_choose_82 rfl hr (fun hr => ?_) (fun hr => ?_)
    · refine ml_iload_n (pc := 110) dX12_choose_110 rfl (mm_get_s (mm_get_s mm_get_0)) ?_
      refine mb_if_ne (pc := 111) 118 dX12_choose_111 rfl hr (fun hr => ?_) (fun hr => ?_)
      · refine ml_aload_n (pc := 118) dX12_choose_118 rfl mm_get_0 ?_
        refine mb_gr (pc := 119) dX12_choose_119 fl_X12_118 hr (fun c5 hr => ?_)
        refine ml_iload_n (pc := 122) dX12_choose_122 rfl (mm_get_s (mm_get_s (mm_get_s mm_get_0))) ?_
        refine mb_ai (pc := 123) dX12_choose_123 hr (fun x6 hr => ?_)
        exact mg_weak (mm_le_n (mm_le_n (mm_le_n (mm_le_n (mm_le_n mm_le_0))))) (X12_choose_b124_ok hz hd h0 hr)
      · refine ml_iload_n (pc := 114) dX12_choose_114 rfl (mm_get_s (mm_get_s (mm_get_s mm_get_0))) ?_
        refine mg_goto (pc := 115) 124 dX12_choose_115 rfl ?_
        exact mg_weak (mm_le_n (mm_le_n (mm_le_n (mm_le_n (mm_le_n mm_le_0))))) (X12_choose_b124_ok hz hd h0 hr)
    · refine ml_aload_n (pc := 85) dX12_choose_85 rfl mm_get_0 ?_
      refine mb_gr (pc := 86) dX12_choose_86 fl_X12_118 hr (fun c7 hr => ?_)
      refine ml_iload (pc := 89) dX12_choose_89 (mm_get_s (mm_get_s (mm_get_s (mm_get_s mm_get_0)))) ?_
      refine mb_ai (pc := 91) dX12_choose_91 hr (fun x8 hr => ?_)
      refine ml_aload_n (pc := 92) dX12_choose_92 rfl mm_get_0 ?_
      refine mb_gr (pc := 93) dX12_choose_93 fl_X12_118 hr (fun c9 hr => ?_)
      refine ml_iload_n (pc := 96) dX12_choose_96 rfl (mm_get_s (mm_get_s (mm_get_s mm_get_0))) ?_
      refine mb_ai (pc := 97) dX12_choose_97 hr (fun x10 hr => ?_)
      refine mb_icmp_ge (pc := 98) 104 dX12_choose_98 rfl hr (fun hr => ?_) (fun hr => ?_)
      · exact mg_weak (mm_le_s (mm_le_s (mm_le_s (mm_le_s (mm_le_s mm_le_0))))) (X12_choose_b104_ok hz hd h0 ih hr)
      · refine ml_iload (pc := 101) dX12_choose_101 (mm_get_s (mm_get_s (mm_get_s (mm_get_s mm_get_0)))) ?_
        refine ml_istore_n (pc := 103) dX12_choose_103 rfl (Nat.le_of_ble_eq_true rfl) (mm_st1_s (mm_st1_s mm_st1_i)) ?_
        exact mg_weak (mm_le_s (mm_le_s (mm_le_s (mm_le_s (mm_le_s mm_le_0))))) (X12_choose_b104_ok hz hd h0 ih hr)
def X12_choose_b46 (e : mm_E) (m : mm_V) : Option (Int32 × mm_V) := some ((-1 : Int32), m)
theorem X12_choose_b46_ok {K : mm_K} {nx : Option Nat} {e : mm_E} (hz : e.2.1 = K.2.2.2.2) {d : Nat} (hd : 5 ≤ d) {a0 : Nat} (h0 : e.1 a0 = some (12, 75)) {m : mm_V} {r : (Int32 × mm_V)} (hr : X12_choose_b46 e m = some r) : mm_G K MX12_choose d (mm_Fi e.1 nx r) 46 [none, none, none, none, none] [] (e.1, m) nx 0 0 := by
  obtain ⟨d, rfl⟩ : ∃ d', d = d' + 1 := ⟨d - 1, by omega⟩
  unfold X12_choose_b46 at hr
  refine mg_iconst (pc := 46) dX12_choose_46 kc_m1 ?_
  exact mb_iret dX12_choose_47 rfl hr
def X12_choose_b22 (e : mm_E) (m : mm_V) : Option (Int32 × mm_V) := some ((0 : Int32), m)
theorem X12_choose_b22_ok {K : mm_K} {nx : Option Nat} {e : mm_E} (hz : e.2.1 = K.2.2.2.2) {d : Nat} (hd : 5 ≤ d) {a0 : Nat} (h0 : e.1 a0 = some (12, 75)) {m : mm_V} {r : (Int32 × mm_V)} (hr : X12_choose_b22 e m = some r) : mm_G K MX12_choose d (mm_Fi e.1 nx r) 22 [none, none, none, none, none] [] (e.1, m) nx 0 0 := by
  obtain ⟨d, rfl⟩ : ∃ d', d = d' + 1 := ⟨d - 1, by omega⟩
  unfold X12_choose_b22 at hr
  refine mg_iconst (pc := 22) dX12_choose_22 kc_0 ?_
  exact mb_iret dX12_choose_23 rfl hr
def X12_choose (e : mm_E) (a0 : Nat) (i1 : Int32) (i2 : Int32) (m : mm_V) : Option (Int32 × mm_V) := (mm_pf e.1 m 12 75 a0 0 (.int (0 : Int32))).bind fun m1 => (X12_isPerson e a0 i1 m1).bind fun r2 => if r2.1 = 0 then (X12_choose_b22 e   r2.2) else ((X12_isWhat e a0 i2 (1 : Int32) r2.2).bind fun r3 => if ¬ r3.1 = 0 then ((mm_gr e.1 r3.2 12 75 a0 39).bind fun c4 => (X12_isOver e a0 c4 r3.2).bind fun r5 => if ¬ r5.1 = 0 then (X12_choose_b46 e   r5.2) else ((mm_gr e.1 r5.2 12 75 a0 39).bind fun c6 => (X12_size e c6 i1 r5.2).bind fun r7 => if ¬ r7.1 = 0 then ((X12_believes e a0 i1 r7.2).bind fun r8 => if ¬ r8.1 = 0 then (X12_choose_L64 e a0 i1 i2 e.2.2 (0 : Int32) (1 : Int32) r8.2) else (some ((-2 : Int32), r8.2))) else (X12_choose_b46 e   r7.2))) else (X12_choose_b22 e   r3.2))
theorem X12_choose_ok {K : mm_K} {nx : Option Nat} {e : mm_E} (hz : e.2.1 = K.2.2.2.2) {d : Nat} (hd : 5 ≤ d) {a0 : Nat} {i1 : Int32} {i2 : Int32} (h0 : e.1 a0 = some (12, 75)) {m : mm_V} {r : (Int32 × mm_V)} (hr : X12_choose e a0 i1 i2 m = some r) : mm_Cn K MX12_choose d (mm_Fi e.1 nx r) [.ref a0, .int i1, .int i2] (e.1, m) nx := by
  obtain ⟨d, rfl⟩ : ∃ d', d = d' + 1 := ⟨d - 1, by omega⟩
  refine mm_entry (by decide) (Nat.le_of_ble_eq_true rfl) rfl (fun hok => ?_)
  unfold X12_choose at hr
  refine mg_weak (L' := [some (.ref a0), some (.int i1), some (.int i2), none, none]) (mm_le_s (mm_le_s (mm_le_s (mm_le_e (mm_le_e mm_le_0))))) ?_
  refine ml_aload_n (pc := 0) dX12_choose_0 rfl mm_get_0 ?_
  refine mg_iconst (pc := 1) dX12_choose_1 kc_0 ?_
  refine mb_pi (pc := 2) dX12_choose_2 fp_X12_152 hr (fun m1 hr => ?_)
  refine ml_aload_n (pc := 5) dX12_choose_5 rfl mm_get_0 ?_
  refine ml_iload_n (pc := 6) dX12_choose_6 rfl (mm_get_s mm_get_0) ?_
  refine mb_cVi (pc := 7) (As := [.int i1]) (rest := []) dX12_choose_7 cw_X12_376 h0 hr (fun v hv => X12_isPerson_ok hz (by omega) h0 hv) rfl (Nat.le_of_ble_eq_true rfl) (Nat.zero_le _) (Nat.zero_le _) (fun r2 hr => ?_)
  refine mb_if_eq (pc := 10) 22 dX12_choose_10 rfl hr (fun hr => ?_) (fun hr => ?_)
  · exact mg_weak (mm_le_n (mm_le_n (mm_le_n (mm_le_n (mm_le_n mm_le_0))))) (X12_choose_b22_ok hz hd h0 hr)
  · refine ml_aload_n (pc := 13) dX12_choose_13 rfl mm_get_0 ?_
    refine ml_iload_n (pc := 14) dX12_choose_14 rfl (mm_get_s (mm_get_s mm_get_0)) ?_
    refine mg_iconst (pc := 15) dX12_choose_15 kc_1 ?_
    refine mb_cVi (pc := 16) (As := [.int i2, .int (1 : Int32)]) (rest := []) dX12_choose_16 cw_X12_393 h0 hr (fun v hv => X12_isWhat_ok hz (by omega) h0 hv) rfl (Nat.le_of_ble_eq_true rfl) (Nat.zero_le _) (Nat.zero_le _) (fun r3 hr => ?_)
    refine mb_if_ne (pc := 19) 24 dX12_choose_19 rfl hr (fun hr => ?_) (fun hr => ?_)
    · refine ml_aload_n (pc := 24) dX12_choose_24 rfl mm_get_0 ?_
      refine ml_aload_n (pc := 25) dX12_choose_25 rfl mm_get_0 ?_
      refine mb_gr (pc := 26) dX12_choose_26 fl_X12_60 hr (fun c4 hr => ?_)
      refine mb_cVi (pc := 29) (As := [.ref c4]) (rest := []) dX12_choose_29 cw_X12_338 h0 hr (fun v hv => X12_isOver_ok hz (by omega) h0 hv) rfl (Nat.le_of_ble_eq_true rfl) (Nat.zero_le _) (Nat.zero_le _) (fun r5 hr => ?_)
      refine mb_if_ne (pc := 32) 46 dX12_choose_32 rfl hr (fun hr => ?_) (fun hr => ?_)
      · exact mg_weak (mm_le_n (mm_le_n (mm_le_n (mm_le_n (mm_le_n mm_le_0))))) (X12_choose_b46_ok hz hd h0 hr)
      · refine ml_aload_n (pc := 35) dX12_choose_35 rfl mm_get_0 ?_
        refine mb_gr (pc := 36) dX12_choose_36 fl_X12_60 hr (fun c6 hr => ?_)
        refine ml_iload_n (pc := 39) dX12_choose_39 rfl (mm_get_s mm_get_0) ?_
        refine mb_cSi (pc := 40) (As := [.ref c6, .int i1]) (rest := []) dX12_choose_40 cw_X12_327  hr (fun v hv => X12_size_ok hz (by omega)  hv) rfl (Nat.le_of_ble_eq_true rfl) (Nat.zero_le _) (Nat.zero_le _) (fun r7 hr => ?_)
        refine mb_if_ne (pc := 43) 48 dX12_choose_43 rfl hr (fun hr => ?_) (fun hr => ?_)
        · refine ml_aload_n (pc := 48) dX12_choose_48 rfl mm_get_0 ?_
          refine ml_iload_n (pc := 49) dX12_choose_49 rfl (mm_get_s mm_get_0) ?_
          refine mb_cVi (pc := 50) (As := [.int i1]) (rest := []) dX12_choose_50 cw_X12_467 h0 hr (fun v hv => X12_believes_ok hz (by omega) h0 hv) rfl (Nat.le_of_ble_eq_true rfl) (Nat.zero_le _) (Nat.zero_le _) (fun r8 hr => ?_)
          refine mb_if_ne (pc := 53) 59 dX12_choose_53 rfl hr (fun hr => ?_) (fun hr => ?_)
          · refine mg_iconst (pc := 59) dX12_choose_59 kc_0 ?_
            refine ml_istore_n (pc := 60) dX12_choose_60 rfl (Nat.le_of_ble_eq_true rfl) (mm_st1_s (mm_st1_s mm_st1_i)) ?_
            refine mg_iconst (pc := 61) dX12_choose_61 kc_1 ?_
            refine ml_istore (pc := 62) dX12_choose_62 (Nat.le_of_ble_eq_true rfl) (mm_st1_s (mm_st1_s (mm_st1_s mm_st1_i))) ?_
            exact mg_weak (mm_le_s (mm_le_s (mm_le_s (mm_le_s (mm_le_s mm_le_0))))) (X12_choose_L64_ok hz hd h0 _ _ _ _ _ hr)
          · refine mg_bipush (pc := 56) dX12_choose_56 kb_m2 ?_
            exact mb_iret dX12_choose_58 rfl hr
        · exact mg_weak (mm_le_n (mm_le_n (mm_le_n (mm_le_n (mm_le_n mm_le_0))))) (X12_choose_b46_ok hz hd h0 hr)
    · exact mg_weak (mm_le_n (mm_le_n (mm_le_n (mm_le_n (mm_le_n mm_le_0))))) (X12_choose_b22_ok hz hd h0 hr)
