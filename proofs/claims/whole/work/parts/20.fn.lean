abbrev MX4_beside : mm_M := (yX4_beside, cX4_beside, 5, (some .int), [])
theorem kc_1 : Int32.ofInt (1) = (1 : Int32) := by decide
theorem kb_6 : (Int8.ofInt (6)).toInt32 = (6 : Int32) := by decide
theorem tw_285 : Cond.fieldLink "SootQueen$Game" 11 "SootQueen$Game" "fans" "[LSootQueen$Fan;" ∈ lw_tbl := List.mem_append_right _ (List.mem_of_getElem? (i := 285) (by decide +kernel))
theorem fl_X4_11 : mm_FL RX4 11 4 0 12 := ⟨(RX4, TX4, 12), rfl, rfl, by decide, by decide, Or.inl tw_285⟩
theorem tw_49 : Cond.fieldLinkNest "SootQueen$Game" 90 "SootQueen$Fan" "size" "I" "SootQueen" ∈ lw_tbl := List.mem_append_right _ (List.mem_of_getElem? (i := 49) (by decide +kernel))
theorem fl_X4_90 : mm_FL RX4 90 3 1 2 := ⟨(RX3, TX3, 2), rfl, rfl, by decide, by decide, Or.inr ⟨_, tw_49⟩⟩
theorem tw_291 : Cond.fieldLink "SootQueen$Game" 35 "SootQueen$Game" "told" "LSootQueen$Told;" ∈ lw_tbl := List.mem_append_right _ (List.mem_of_getElem? (i := 291) (by decide +kernel))
theorem fl_X4_35 : mm_FL RX4 35 4 6 12 := ⟨(RX4, TX4, 12), rfl, rfl, by decide, by decide, Or.inl tw_291⟩
theorem tw_75 : Cond.fieldLinkNest "SootQueen$Game" 84 "SootQueen$Told" "people" "I" "SootQueen" ∈ lw_tbl := List.mem_append_right _ (List.mem_of_getElem? (i := 75) (by decide +kernel))
theorem fl_X4_84 : mm_FL RX4 84 10 6 11 := ⟨(RX10, TX10, 11), rfl, rfl, by decide, by decide, Or.inr ⟨_, tw_75⟩⟩
theorem kc_m1 : Int32.ofInt (-1) = (-1 : Int32) := by decide
theorem kc_0 : Int32.ofInt (0) = (0 : Int32) := by decide
theorem dX4_beside_0 : decode cX4_beside 0 = .ok (.iload_n 1, 1) := by decide +kernel
theorem dX4_beside_1 : decode cX4_beside 1 = .ok (.istore_n 3, 1) := by decide +kernel
theorem dX4_beside_2 : decode cX4_beside 2 = .ok (.iconst 0, 1) := by decide +kernel
theorem dX4_beside_3 : decode cX4_beside 3 = .ok (.istore 4, 2) := by decide +kernel
theorem dX4_beside_5 : decode cX4_beside 5 = .ok (.iload 4, 2) := by decide +kernel
theorem dX4_beside_7 : decode cX4_beside 7 = .ok (.aload_n 0, 1) := by decide +kernel
theorem dX4_beside_8 : decode cX4_beside 8 = .ok (.getfield 35, 3) := by decide +kernel
theorem dX4_beside_11 : decode cX4_beside 11 = .ok (.getfield 84, 3) := by decide +kernel
theorem dX4_beside_14 : decode cX4_beside 14 = .ok (.if_icmp .ge 81, 3) := by decide +kernel
theorem dX4_beside_17 : decode cX4_beside 17 = .ok (.iload_n 2, 1) := by decide +kernel
theorem dX4_beside_18 : decode cX4_beside 18 = .ok (.ifCond .eq 27, 3) := by decide +kernel
theorem dX4_beside_21 : decode cX4_beside 21 = .ok (.iload_n 3, 1) := by decide +kernel
theorem dX4_beside_22 : decode cX4_beside 22 = .ok (.iconst 1, 1) := by decide +kernel
theorem dX4_beside_23 : decode cX4_beside 23 = .ok (.iadd, 1) := by decide +kernel
theorem dX4_beside_24 : decode cX4_beside 24 = .ok (.aload_n 0, 1) := by decide +kernel
theorem dX4_beside_25 : decode cX4_beside 25 = .ok (.getfield 35, 3) := by decide +kernel
theorem dX4_beside_28 : decode cX4_beside 28 = .ok (.getfield 84, 3) := by decide +kernel
theorem dX4_beside_31 : decode cX4_beside 31 = .ok (.if_icmp .ge 9, 3) := by decide +kernel
theorem dX4_beside_34 : decode cX4_beside 34 = .ok (.iload_n 3, 1) := by decide +kernel
theorem dX4_beside_35 : decode cX4_beside 35 = .ok (.iconst 1, 1) := by decide +kernel
theorem dX4_beside_36 : decode cX4_beside 36 = .ok (.iadd, 1) := by decide +kernel
theorem dX4_beside_37 : decode cX4_beside 37 = .ok (.goto 4, 3) := by decide +kernel
theorem dX4_beside_40 : decode cX4_beside 40 = .ok (.iconst 0, 1) := by decide +kernel
theorem dX4_beside_41 : decode cX4_beside 41 = .ok (.istore_n 3, 1) := by decide +kernel
theorem dX4_beside_42 : decode cX4_beside 42 = .ok (.goto 23, 3) := by decide +kernel
theorem dX4_beside_45 : decode cX4_beside 45 = .ok (.iload_n 3, 1) := by decide +kernel
theorem dX4_beside_46 : decode cX4_beside 46 = .ok (.ifCond .le 9, 3) := by decide +kernel
theorem dX4_beside_49 : decode cX4_beside 49 = .ok (.iload_n 3, 1) := by decide +kernel
theorem dX4_beside_50 : decode cX4_beside 50 = .ok (.iconst 1, 1) := by decide +kernel
theorem dX4_beside_51 : decode cX4_beside 51 = .ok (.isub, 1) := by decide +kernel
theorem dX4_beside_52 : decode cX4_beside 52 = .ok (.goto 12, 3) := by decide +kernel
theorem dX4_beside_55 : decode cX4_beside 55 = .ok (.aload_n 0, 1) := by decide +kernel
theorem dX4_beside_56 : decode cX4_beside 56 = .ok (.getfield 35, 3) := by decide +kernel
theorem dX4_beside_59 : decode cX4_beside 59 = .ok (.getfield 84, 3) := by decide +kernel
theorem dX4_beside_62 : decode cX4_beside 62 = .ok (.iconst 1, 1) := by decide +kernel
theorem dX4_beside_63 : decode cX4_beside 63 = .ok (.isub, 1) := by decide +kernel
theorem dX4_beside_64 : decode cX4_beside 64 = .ok (.istore_n 3, 1) := by decide +kernel
theorem dX4_beside_65 : decode cX4_beside 65 = .ok (.iload_n 3, 1) := by decide +kernel
theorem dX4_beside_66 : decode cX4_beside 66 = .ok (.ifCond .lt 23, 3) := by decide +kernel
theorem dX4_beside_69 : decode cX4_beside 69 = .ok (.iload_n 3, 1) := by decide +kernel
theorem dX4_beside_70 : decode cX4_beside 70 = .ok (.bipush 6, 2) := by decide +kernel
theorem dX4_beside_72 : decode cX4_beside 72 = .ok (.if_icmp .ge 17, 3) := by decide +kernel
theorem dX4_beside_75 : decode cX4_beside 75 = .ok (.aload_n 0, 1) := by decide +kernel
theorem dX4_beside_76 : decode cX4_beside 76 = .ok (.getfield 11, 3) := by decide +kernel
theorem dX4_beside_79 : decode cX4_beside 79 = .ok (.iload_n 3, 1) := by decide +kernel
theorem dX4_beside_80 : decode cX4_beside 80 = .ok (.aaload, 1) := by decide +kernel
theorem dX4_beside_81 : decode cX4_beside 81 = .ok (.getfield 90, 3) := by decide +kernel
theorem dX4_beside_84 : decode cX4_beside 84 = .ok (.ifCond .le 5, 3) := by decide +kernel
theorem dX4_beside_87 : decode cX4_beside 87 = .ok (.iload_n 3, 1) := by decide +kernel
theorem dX4_beside_88 : decode cX4_beside 88 = .ok (.ireturn, 1) := by decide +kernel
theorem dX4_beside_89 : decode cX4_beside 89 = .ok (.iinc 4 1, 3) := by decide +kernel
theorem dX4_beside_92 : decode cX4_beside 92 = .ok (.goto (-87), 3) := by decide +kernel
theorem dX4_beside_95 : decode cX4_beside 95 = .ok (.iconst (-1), 1) := by decide +kernel
theorem dX4_beside_96 : decode cX4_beside 96 = .ok (.ireturn, 1) := by decide +kernel
def X4_beside_b89 (e : mm_E) (k5 : Int32 → Int32 → mm_V → Option (Int32 × mm_V)) (a0 : Nat) (i2 : Int32) (i3 : Int32) (i4 : Int32) (m : mm_V) : Option (Int32 × mm_V) := k5 i3 (i4 + 1) m
theorem X4_beside_b89_ok {K : mm_K} {nx : Option Nat} {e : mm_E} (hz : e.2.1 = K.2.2.2.2) {d : Nat} (hd : 0 ≤ d) {a0 : Nat} {i2 : Int32} {i3 : Int32} {i4 : Int32} (h0 : e.1 a0 = some (4, 12)) {k5 : Int32 → Int32 → mm_V → Option (Int32 × mm_V)} (hk5 : ∀ (w3 : Int32) (w4 : Int32) (m : mm_V) (r : (Int32 × mm_V)), k5 w3 w4 m = some r → mm_G K MX4_beside d (mm_Fi e.1 nx r) 5 [some (.ref a0), none, some (.int i2), some (.int w3), some (.int w4)] [] (e.1, m) nx 0 0) {m : mm_V} {r : (Int32 × mm_V)} (hr : X4_beside_b89 e k5 a0 i2 i3 i4 m = some r) : mm_G K MX4_beside d (mm_Fi e.1 nx r) 89 [some (.ref a0), none, some (.int i2), some (.int i3), some (.int i4)] [] (e.1, m) nx 0 0 := by
  unfold X4_beside_b89 at hr
  refine ml_iinc (pc := 89) dX4_beside_89 (mm_get_s (mm_get_s (mm_get_s (mm_get_s mm_get_0)))) (congrArg (fun z => i4 + z) kc_1) (Nat.le_of_ble_eq_true rfl) (mm_st1_s (mm_st1_s (mm_st1_s mm_st1_i))) ?_
  refine mg_goto (pc := 92) 5 dX4_beside_92 rfl ?_
  exact mg_weak (mm_le_s (mm_le_n (mm_le_s (mm_le_s (mm_le_s mm_le_0))))) (hk5 _ _ _ _ hr)
def X4_beside_b65 (e : mm_E) (k5 : Int32 → Int32 → mm_V → Option (Int32 × mm_V)) (a0 : Nat) (i2 : Int32) (i3 : Int32) (i4 : Int32) (m : mm_V) : Option (Int32 × mm_V) := if i3 < 0 then (X4_beside_b89 e k5 a0 i2 i3 i4  m) else (if (6 : Int32) ≤ i3 then (X4_beside_b89 e k5 a0 i2 i3 i4  m) else ((mm_gr e.1 m 4 12 a0 0).bind fun c1 => (mm_aq e.1 m 23 c1 i3).bind fun c2 => (mm_gi e.1 m 3 2 c2 1).bind fun x3 => if x3 ≤ 0 then (X4_beside_b89 e k5 a0 i2 i3 i4  m) else (some (i3, m))))
theorem X4_beside_b65_ok {K : mm_K} {nx : Option Nat} {e : mm_E} (hz : e.2.1 = K.2.2.2.2) {d : Nat} (hd : 0 ≤ d) {a0 : Nat} {i2 : Int32} {i3 : Int32} {i4 : Int32} (h0 : e.1 a0 = some (4, 12)) {k5 : Int32 → Int32 → mm_V → Option (Int32 × mm_V)} (hk5 : ∀ (w3 : Int32) (w4 : Int32) (m : mm_V) (r : (Int32 × mm_V)), k5 w3 w4 m = some r → mm_G K MX4_beside d (mm_Fi e.1 nx r) 5 [some (.ref a0), none, some (.int i2), some (.int w3), some (.int w4)] [] (e.1, m) nx 0 0) {m : mm_V} {r : (Int32 × mm_V)} (hr : X4_beside_b65 e k5 a0 i2 i3 i4 m = some r) : mm_G K MX4_beside d (mm_Fi e.1 nx r) 65 [some (.ref a0), none, some (.int i2), some (.int i3), some (.int i4)] [] (e.1, m) nx 0 0 := by
  unfold X4_beside_b65 at hr
  refine ml_iload_n (pc := 65) dX4_beside_65 rfl (mm_get_s (mm_get_s (mm_get_s mm_get_0))) ?_
  refine mb_if_lt (pc := 66) 89 dX4_beside_66 rfl hr (fun hr => ?_) (fun hr => ?_)
  · exact mg_weak (mm_le_s (mm_le_n (mm_le_s (mm_le_s (mm_le_s mm_le_0))))) (X4_beside_b89_ok hz hd h0 hk5 hr)
  · refine ml_iload_n (pc := 69) dX4_beside_69 rfl (mm_get_s (mm_get_s (mm_get_s mm_get_0))) ?_
    refine mg_bipush (pc := 70) dX4_beside_70 kb_6 ?_
    refine mb_icmp_ge (pc := 72) 89 dX4_beside_72 rfl hr (fun hr => ?_) (fun hr => ?_)
    · exact mg_weak (mm_le_s (mm_le_n (mm_le_s (mm_le_s (mm_le_s mm_le_0))))) (X4_beside_b89_ok hz hd h0 hk5 hr)
    · refine ml_aload_n (pc := 75) dX4_beside_75 rfl mm_get_0 ?_
      refine mb_gr (pc := 76) dX4_beside_76 fl_X4_11 hr (fun c1 hr => ?_)
      refine ml_iload_n (pc := 79) dX4_beside_79 rfl (mm_get_s (mm_get_s (mm_get_s mm_get_0))) ?_
      refine mb_aq (pc := 80) dX4_beside_80 (by decide) (by decide) hr (fun c2 hr => ?_)
      refine mb_gi (pc := 81) dX4_beside_81 fl_X4_90 hr (fun x3 hr => ?_)
      refine mb_if_le (pc := 84) 89 dX4_beside_84 rfl hr (fun hr => ?_) (fun hr => ?_)
      · exact mg_weak (mm_le_s (mm_le_n (mm_le_s (mm_le_s (mm_le_s mm_le_0))))) (X4_beside_b89_ok hz hd h0 hk5 hr)
      · refine ml_iload_n (pc := 87) dX4_beside_87 rfl (mm_get_s (mm_get_s (mm_get_s mm_get_0))) ?_
        exact mb_iret dX4_beside_88 rfl hr
def X4_beside_b64 (e : mm_E) (k5 : Int32 → Int32 → mm_V → Option (Int32 × mm_V)) (a0 : Nat) (i2 : Int32) (i4 : Int32) (t0 : Int32) (m : mm_V) : Option (Int32 × mm_V) := X4_beside_b65 e k5 a0 i2 t0 i4  m
theorem X4_beside_b64_ok {K : mm_K} {nx : Option Nat} {e : mm_E} (hz : e.2.1 = K.2.2.2.2) {d : Nat} (hd : 0 ≤ d) {a0 : Nat} {i2 : Int32} {i4 : Int32} {t0 : Int32} (h0 : e.1 a0 = some (4, 12)) {k5 : Int32 → Int32 → mm_V → Option (Int32 × mm_V)} (hk5 : ∀ (w3 : Int32) (w4 : Int32) (m : mm_V) (r : (Int32 × mm_V)), k5 w3 w4 m = some r → mm_G K MX4_beside d (mm_Fi e.1 nx r) 5 [some (.ref a0), none, some (.int i2), some (.int w3), some (.int w4)] [] (e.1, m) nx 0 0) {m : mm_V} {r : (Int32 × mm_V)} (hr : X4_beside_b64 e k5 a0 i2 i4 t0 m = some r) : mm_G K MX4_beside d (mm_Fi e.1 nx r) 64 [some (.ref a0), none, some (.int i2), none, some (.int i4)] [.int t0] (e.1, m) nx 0 0 := by
  unfold X4_beside_b64 at hr
  refine ml_istore_n (pc := 64) dX4_beside_64 rfl (Nat.le_of_ble_eq_true rfl) (mm_st1_s (mm_st1_s mm_st1_i)) ?_
  exact mg_weak (mm_le_s (mm_le_n (mm_le_s (mm_le_s (mm_le_s mm_le_0))))) (X4_beside_b65_ok hz hd h0 hk5 hr)
def X4_beside_b41 (e : mm_E) (k5 : Int32 → Int32 → mm_V → Option (Int32 × mm_V)) (a0 : Nat) (i2 : Int32) (i4 : Int32) (t0 : Int32) (m : mm_V) : Option (Int32 × mm_V) := X4_beside_b65 e k5 a0 i2 t0 i4  m
theorem X4_beside_b41_ok {K : mm_K} {nx : Option Nat} {e : mm_E} (hz : e.2.1 = K.2.2.2.2) {d : Nat} (hd : 0 ≤ d) {a0 : Nat} {i2 : Int32} {i4 : Int32} {t0 : Int32} (h0 : e.1 a0 = some (4, 12)) {k5 : Int32 → Int32 → mm_V → Option (Int32 × mm_V)} (hk5 : ∀ (w3 : Int32) (w4 : Int32) (m : mm_V) (r : (Int32 × mm_V)), k5 w3 w4 m = some r → mm_G K MX4_beside d (mm_Fi e.1 nx r) 5 [some (.ref a0), none, some (.int i2), some (.int w3), some (.int w4)] [] (e.1, m) nx 0 0) {m : mm_V} {r : (Int32 × mm_V)} (hr : X4_beside_b41 e k5 a0 i2 i4 t0 m = some r) : mm_G K MX4_beside d (mm_Fi e.1 nx r) 41 [some (.ref a0), none, some (.int i2), none, some (.int i4)] [.int t0] (e.1, m) nx 0 0 := by
  unfold X4_beside_b41 at hr
  refine ml_istore_n (pc := 41) dX4_beside_41 rfl (Nat.le_of_ble_eq_true rfl) (mm_st1_s (mm_st1_s mm_st1_i)) ?_
  refine mg_goto (pc := 42) 65 dX4_beside_42 rfl ?_
  exact mg_weak (mm_le_s (mm_le_n (mm_le_s (mm_le_s (mm_le_s mm_le_0))))) (X4_beside_b65_ok hz hd h0 hk5 hr)
def X4_beside_L5 (e : mm_E) (a0 : Nat) (i2 : Int32) : Nat → Int32 → Int32 → mm_V → Option (Int32 × mm_V)
  | 0, _, _, _ => none
  | n + 1, i3, i4, m => (mm_gr e.1 m 4 12 a0 6).bind fun c1 => (mm_gi e.1 m 10 11 c1 6).bind fun x2 => if x2 ≤ i4 then (some ((-1 : Int32), m)) else (if i2 = 0 then (if i3 ≤ 0 then ((mm_gr e.1 m 4 12 a0 6).bind fun c3 => (mm_gi e.1 m 10 11 c3 6).bind fun x4 => X4_beside_b64 e (X4_beside_L5 e a0 i2 n) a0 i2 i4 (x4 - (1 : Int32)) m) else (X4_beside_b64 e (X4_beside_L5 e a0 i2 n) a0 i2 i4 (i3 - (1 : Int32)) m)) else ((mm_gr e.1 m 4 12 a0 6).bind fun c5 => (mm_gi e.1 m 10 11 c5 6).bind fun x6 => if x6 ≤ (i3 + (1 : Int32)) then (X4_beside_b41 e (X4_beside_L5 e a0 i2 n) a0 i2 i4 (0 : Int32) m) else (X4_beside_b41 e (X4_beside_L5 e a0 i2 n) a0 i2 i4 (i3 + (1 : Int32)) m)))
theorem X4_beside_L5_ok {K : mm_K} {nx : Option Nat} {e : mm_E} (hz : e.2.1 = K.2.2.2.2) {d : Nat} (hd : 0 ≤ d) {a0 : Nat} {i2 : Int32} (h0 : e.1 a0 = some (4, 12)) : ∀ (n : Nat) (i3 : Int32) (i4 : Int32) (m : mm_V) (r : (Int32 × mm_V)), X4_beside_L5 e a0 i2 n i3 i4 m = some r → mm_G K MX4_beside d (mm_Fi e.1 nx r) 5 [some (.ref a0), none, some (.int i2), some (.int i3), some (.int i4)] [] (e.1, m) nx 0 0 := by
  intro n
  induction n with
  | zero => intro i3 i4 m r hr; unfold X4_beside_L5 at hr; cases hr
  | succ n ih =>
    intro i3 i4 m r hr
    unfold X4_beside_L5 at hr
    refine ml_iload (pc := 5) dX4_beside_5 (mm_get_s (mm_get_s (mm_get_s (mm_get_s mm_get_0)))) ?_
    refine ml_aload_n (pc := 7) dX4_beside_7 rfl mm_get_0 ?_
    refine mb_gr (pc := 8) dX4_beside_8 fl_X4_35 hr (fun c1 hr => ?_)
    refine mb_gi (pc := 11) dX4_beside_11 fl_X4_84 hr (fun x2 hr => ?_)
    refine mb_icmp_ge (pc := 14) 95 dX4_beside_14 rfl hr (fun hr => ?_) (fun hr => ?_)
    · refine mg_iconst (pc := 95) dX4_beside_95 kc_m1 ?_
      exact mb_iret dX4_beside_96 rfl hr
    · refine ml_iload_n (pc := 17) dX4_beside_17 rfl (mm_get_s (mm_get_s mm_get_0)) ?_
      refine mb_if_eq (pc := 18) 45 dX4_beside_18 rfl hr (fun hr => ?_) (fun hr => ?_)
      · refine ml_iload_n (pc := 45) dX4_beside_45 rfl (mm_get_s (mm_get_s (mm_get_s mm_get_0))) ?_
        refine mb_if_le (pc := 46) 55 dX4_beside_46 rfl hr (fun hr => ?_) (fun hr => ?_)
        · refine ml_aload_n (pc := 55) dX4_beside_55 rfl mm_get_0 ?_
          refine mb_gr (pc := 56) dX4_beside_56 fl_X4_35 hr (fun c3 hr => ?_)
          refine mb_gi (pc := 59) dX4_beside_59 fl_X4_84 hr (fun x4 hr => ?_)
          refine mg_iconst (pc := 62) dX4_beside_62 kc_1 ?_
          refine mg_isub (pc := 63) dX4_beside_63 ?_
          exact mg_weak (mm_le_s (mm_le_n (mm_le_s (mm_le_n (mm_le_s mm_le_0))))) (X4_beside_b64_ok hz hd h0 ih hr)
        · refine ml_iload_n (pc := 49) dX4_beside_49 rfl (mm_get_s (mm_get_s (mm_get_s mm_get_0))) ?_
          refine mg_iconst (pc := 50) dX4_beside_50 kc_1 ?_
          refine mg_isub (pc := 51) dX4_beside_51 ?_
          refine mg_goto (pc := 52) 64 dX4_beside_52 rfl ?_
          exact mg_weak (mm_le_s (mm_le_n (mm_le_s (mm_le_n (mm_le_s mm_le_0))))) (X4_beside_b64_ok hz hd h0 ih hr)
      · refine ml_iload_n (pc := 21) dX4_beside_21 rfl (mm_get_s (mm_get_s (mm_get_s mm_get_0))) ?_
        refine mg_iconst (pc := 22) dX4_beside_22 kc_1 ?_
        refine mg_iadd (pc := 23) dX4_beside_23 ?_
        refine ml_aload_n (pc := 24) dX4_beside_24 rfl mm_get_0 ?_
        refine mb_gr (pc := 25) dX4_beside_25 fl_X4_35 hr (fun c5 hr => ?_)
        refine mb_gi (pc := 28) dX4_beside_28 fl_X4_84 hr (fun x6 hr => ?_)
        refine mb_icmp_ge (pc := 31) 40 dX4_beside_31 rfl hr (fun hr => ?_) (fun hr => ?_)
        · refine mg_iconst (pc := 40) dX4_beside_40 kc_0 ?_
          exact mg_weak (mm_le_s (mm_le_n (mm_le_s (mm_le_n (mm_le_s mm_le_0))))) (X4_beside_b41_ok hz hd h0 ih hr)
        · refine ml_iload_n (pc := 34) dX4_beside_34 rfl (mm_get_s (mm_get_s (mm_get_s mm_get_0))) ?_
          refine mg_iconst (pc := 35) dX4_beside_35 kc_1 ?_
          refine mg_iadd (pc := 36) dX4_beside_36 ?_
          refine mg_goto (pc := 37) 41 dX4_beside_37 rfl ?_
          exact mg_weak (mm_le_s (mm_le_n (mm_le_s (mm_le_n (mm_le_s mm_le_0))))) (X4_beside_b41_ok hz hd h0 ih hr)
def X4_beside (e : mm_E) (a0 : Nat) (i1 : Int32) (i2 : Int32) (m : mm_V) : Option (Int32 × mm_V) := X4_beside_L5 e a0 i2 e.2.2 i1 (0 : Int32) m
theorem X4_beside_ok {K : mm_K} {nx : Option Nat} {e : mm_E} (hz : e.2.1 = K.2.2.2.2) {d : Nat} (hd : 0 ≤ d) {a0 : Nat} {i1 : Int32} {i2 : Int32} (h0 : e.1 a0 = some (4, 12)) {m : mm_V} {r : (Int32 × mm_V)} (hr : X4_beside e a0 i1 i2 m = some r) : mm_Cn K MX4_beside d (mm_Fi e.1 nx r) [.ref a0, .int i1, .int i2] (e.1, m) nx := by
  refine mm_entry (by decide) (Nat.le_of_ble_eq_true rfl) rfl (fun hok => ?_)
  unfold X4_beside at hr
  refine mg_weak (L' := [some (.ref a0), some (.int i1), some (.int i2), none, none]) (mm_le_s (mm_le_s (mm_le_s (mm_le_e (mm_le_e mm_le_0))))) ?_
  refine ml_iload_n (pc := 0) dX4_beside_0 rfl (mm_get_s mm_get_0) ?_
  refine ml_istore_n (pc := 1) dX4_beside_1 rfl (Nat.le_of_ble_eq_true rfl) (mm_st1_s (mm_st1_s mm_st1_i)) ?_
  refine mg_iconst (pc := 2) dX4_beside_2 kc_0 ?_
  refine ml_istore (pc := 3) dX4_beside_3 (Nat.le_of_ble_eq_true rfl) (mm_st1_s (mm_st1_s (mm_st1_s mm_st1_i))) ?_
  exact mg_weak (mm_le_s (mm_le_n (mm_le_s (mm_le_s (mm_le_s mm_le_0))))) (X4_beside_L5_ok hz hd h0 _ _ _ _ _ hr)
