def L_law_b899 (e : mm_E) (k23 : Int32 → mm_V → Option (Int32 × mm_V)) (a0 : Nat) (a1 : Nat) (a2 : Nat) (a3 : Nat) (i4 : Int32) (m : mm_V) : Option (Int32 × mm_V) := L_law_b1713 e k23 a0 a1 a2 a3 i4  m
theorem L_law_b899_ok {K : mm_K} {q : String × List (Nat × Nat × Nat × Nat)} {e : mm_E} (hz : e.2.1 = K.2.2.2.2) (hnc : va_Nc "java/lang/IllegalArgumentException" "java/util/NoSuchElementException" K.2.1) {d : Nat} (hd : 258 ≤ d) {a0 : Nat} {a1 : Nat} {a2 : Nat} {a3 : Nat} {i4 : Int32} (hx : e.1 a1 = some (11, 19)) (hm : e.1 a2 = some (12, 75)) {k : Nat} (hk : k + 1 ≤ 514) {k23 : Int32 → mm_V → Option (Int32 × mm_V)} (hk23 : ∀ (w4 : Int32) (m : mm_V) (r : Int32 × mm_V), k23 w4 m = some r → mm_G K (ML_law q) d (1011, 17440, .inl (some (.int r.1)), (e.1, r.2), none) 23 [some (.ref a0), some (.ref a1), some (.ref a2), some (.ref a3), some (.int w4), none, none, none] [] (e.1, m) none (493 + (k + 1)) (14332 + 6 * (k + 1))) {m : mm_V} {r : Int32 × mm_V} (hr : L_law_b899 e k23 a0 a1 a2 a3 i4 m = some r) : mm_G K (ML_law q) d (1011, 17440, .inl (some (.int r.1)), (e.1, r.2), none) 899 [some (.ref a0), some (.ref a1), some (.ref a2), some (.ref a3), some (.int i4), none, none, none] [] (e.1, m) none (493 + (k + 1)) (14332 + 6 * (k + 1)) := by
  obtain ⟨d, rfl⟩ : ∃ d', d = d' + 1 := ⟨d - 1, by omega⟩
  unfold L_law_b899 at hr
  refine mg_goto (pc := 899) 1713 dL_law_899 rfl ?_
  exact mg_cs (by omega) (by omega) (mg_weak (mm_le_s (mm_le_s (mm_le_s (mm_le_s (mm_le_s (mm_le_n (mm_le_n (mm_le_n mm_le_0)))))))) (L_law_b1713_ok hz hnc hd hx hm (by omega) hk23 hr))
def L_law_b861 (e : mm_E) (k23 : Int32 → mm_V → Option (Int32 × mm_V)) (a0 : Nat) (a1 : Nat) (a2 : Nat) (a3 : Nat) (i4 : Int32) (i5 : Int32) (t1 : Int32) (t2 : Int32) (m : mm_V) : Option (Int32 × mm_V) := (mm_ai e.1 m 31 a0 (i4 + (3 : Int32))).bind fun x1 => (X12_two e a2 t1 t2 x1 m).bind fun r2 => (X12_thrown e a2 r2.2).bind fun r3 => if r3.1 = i5 then (if ¬ i5 = 0 then (L_law_b899 e k23 a0 a1 a2 a3 i4  r3.2) else ((mm_al e.1 r3.2 a3 (0 : Int32)).bind fun y4 => if (lg_cmp y4 r2.1) = 0 then (L_law_b899 e k23 a0 a1 a2 a3 i4  r3.2) else (mm_rz (0 : Int32) r3.2))) else (mm_rz (0 : Int32) r3.2)
theorem L_law_b861_ok {K : mm_K} {q : String × List (Nat × Nat × Nat × Nat)} {e : mm_E} (hz : e.2.1 = K.2.2.2.2) (hnc : va_Nc "java/lang/IllegalArgumentException" "java/util/NoSuchElementException" K.2.1) {d : Nat} (hd : 258 ≤ d) {a0 : Nat} {a1 : Nat} {a2 : Nat} {a3 : Nat} {i4 : Int32} {i5 : Int32} {t1 : Int32} {t2 : Int32} (hx : e.1 a1 = some (11, 19)) (hm : e.1 a2 = some (12, 75)) {k : Nat} (hk : k + 1 ≤ 514) {k23 : Int32 → mm_V → Option (Int32 × mm_V)} (hk23 : ∀ (w4 : Int32) (m : mm_V) (r : Int32 × mm_V), k23 w4 m = some r → mm_G K (ML_law q) d (1011, 17440, .inl (some (.int r.1)), (e.1, r.2), none) 23 [some (.ref a0), some (.ref a1), some (.ref a2), some (.ref a3), some (.int w4), none, none, none] [] (e.1, m) none (493 + (k + 1)) (14332 + 6 * (k + 1))) {m : mm_V} {r : Int32 × mm_V} (hr : L_law_b861 e k23 a0 a1 a2 a3 i4 i5 t1 t2 m = some r) : mm_G K (ML_law q) d (1011, 17440, .inl (some (.int r.1)), (e.1, r.2), none) 861 [some (.ref a0), some (.ref a1), some (.ref a2), some (.ref a3), some (.int i4), some (.int i5), none, none] [.int t2, .int t1, .ref a2] (e.1, m) none (493 + (k + 1)) (14332 + 6 * (k + 1)) := by
  obtain ⟨d, rfl⟩ : ∃ d', d = d' + 1 := ⟨d - 1, by omega⟩
  unfold L_law_b861 at hr
  refine ml_aload_n (pc := 861) dL_law_861 rfl mm_get_0 ?_
  refine ml_iload (pc := 862) dL_law_862 (mm_get_s (mm_get_s (mm_get_s (mm_get_s mm_get_0)))) ?_
  refine mg_iconst (pc := 864) dL_law_864 kc_3 ?_
  refine mg_iadd (pc := 865) dL_law_865 ?_
  refine mb_ax (pc := 866) dL_law_866 hr (fun x1 hr => ?_)
  refine mb_cVl (pc := 867) (As := [.int t1, .int t2, .int x1]) (rest := []) dL_law_867 cw_L_139 hm hr (fun v hv => X12_two_ok hz (by omega) hm hv) rfl (Nat.le_of_ble_eq_true rfl) (by show _ ≤ 1011; omega) (by show _ ≤ 17440; omega) (fun r2 hr => ?_)
  refine ml_lstore (pc := 870) dL_law_870 (Nat.le_of_ble_eq_true rfl) (mm_st2_s (mm_st2_s (mm_st2_s (mm_st2_s (mm_st2_s mm_st2_i))))) ?_
  refine ml_aload_n (pc := 872) dL_law_872 rfl (mm_get_s (mm_get_s mm_get_0)) ?_
  refine mb_cVi (pc := 873) (As := []) (rest := []) dL_law_873 cw_L_96 hm hr (fun v hv => X12_thrown_ok hz (by omega) hm hv) rfl (Nat.le_of_ble_eq_true rfl) (by show _ ≤ 1011; omega) (by show _ ≤ 17440; omega) (fun r3 hr => ?_)
  refine ml_iload (pc := 876) dL_law_876 (mm_get_s (mm_get_s (mm_get_s (mm_get_s (mm_get_s mm_get_0))))) ?_
  refine mb_icmp_eq (pc := 878) 883 dL_law_878 rfl hr (fun hr => ?_) (fun hr => ?_)
  · refine ml_iload (pc := 883) dL_law_883 (mm_get_s (mm_get_s (mm_get_s (mm_get_s (mm_get_s mm_get_0))))) ?_
    refine mb_if_ne (pc := 885) 899 dL_law_885 rfl hr (fun hr => ?_) (fun hr => ?_)
    · exact mg_cs (by omega) (by omega) (mg_weak (mm_le_s (mm_le_s (mm_le_s (mm_le_s (mm_le_s (mm_le_n (mm_le_n (mm_le_n mm_le_0)))))))) (L_law_b899_ok hz hnc hd hx hm (by omega) hk23 hr))
    · refine ml_aload_n (pc := 888) dL_law_888 rfl (mm_get_s (mm_get_s (mm_get_s mm_get_0))) ?_
      refine mg_iconst (pc := 889) dL_law_889 kc_0 ?_
      refine mb_al (pc := 890) dL_law_890 hr (fun y4 hr => ?_)
      refine ml_lload (pc := 891) dL_law_891 (mm_get_s (mm_get_s (mm_get_s (mm_get_s (mm_get_s (mm_get_s mm_get_0)))))) ?_
      refine mg_lcmp (pc := 893) dL_law_893 ?_
      refine mb_if_eq (pc := 894) 899 dL_law_894 rfl hr (fun hr => ?_) (fun hr => ?_)
      · exact mg_cs (by omega) (by omega) (mg_weak (mm_le_s (mm_le_s (mm_le_s (mm_le_s (mm_le_s (mm_le_n (mm_le_n (mm_le_n mm_le_0)))))))) (L_law_b899_ok hz hnc hd hx hm (by omega) hk23 hr))
      · refine mg_iconst (pc := 897) dL_law_897 kc_0 ?_
        exact mb_lwret dL_law_898 rfl rfl (by show _ ≤ 1011; omega) (by show _ ≤ 17440; omega) hr
  · refine mg_iconst (pc := 881) dL_law_881 kc_0 ?_
    exact mb_lwret dL_law_882 rfl rfl (by show _ ≤ 1011; omega) (by show _ ≤ 17440; omega) hr
def L_law_b828 (e : mm_E) (k23 : Int32 → mm_V → Option (Int32 × mm_V)) (a0 : Nat) (a1 : Nat) (a2 : Nat) (a3 : Nat) (i4 : Int32) (t1 : Int32) (t2 : Int32) (m : mm_V) : Option (Int32 × mm_V) := (mm_ai e.1 m 31 a0 (i4 + (3 : Int32))).bind fun x1 => (L_two e a1 t1 t2 x1 a3 m).bind fun r2 => (mm_ai e.1 r2.2 31 a0 (i4 + (1 : Int32))).bind fun x3 => (mm_ai e.1 r2.2 31 a0 (i4 + (2 : Int32))).bind fun x4 => if x4 = 0 then (L_law_b861 e k23 a0 a1 a2 a3 i4 r2.1 x3 (0 : Int32) r2.2) else (L_law_b861 e k23 a0 a1 a2 a3 i4 r2.1 x3 (1 : Int32) r2.2)
theorem L_law_b828_ok {K : mm_K} {q : String × List (Nat × Nat × Nat × Nat)} {e : mm_E} (hz : e.2.1 = K.2.2.2.2) (hnc : va_Nc "java/lang/IllegalArgumentException" "java/util/NoSuchElementException" K.2.1) {d : Nat} (hd : 258 ≤ d) {a0 : Nat} {a1 : Nat} {a2 : Nat} {a3 : Nat} {i4 : Int32} {t1 : Int32} {t2 : Int32} (hx : e.1 a1 = some (11, 19)) (hm : e.1 a2 = some (12, 75)) {k : Nat} (hk : k + 1 ≤ 514) {k23 : Int32 → mm_V → Option (Int32 × mm_V)} (hk23 : ∀ (w4 : Int32) (m : mm_V) (r : Int32 × mm_V), k23 w4 m = some r → mm_G K (ML_law q) d (1011, 17440, .inl (some (.int r.1)), (e.1, r.2), none) 23 [some (.ref a0), some (.ref a1), some (.ref a2), some (.ref a3), some (.int w4), none, none, none] [] (e.1, m) none (493 + (k + 1)) (14332 + 6 * (k + 1))) {m : mm_V} {r : Int32 × mm_V} (hr : L_law_b828 e k23 a0 a1 a2 a3 i4 t1 t2 m = some r) : mm_G K (ML_law q) d (1011, 17440, .inl (some (.int r.1)), (e.1, r.2), none) 828 [some (.ref a0), some (.ref a1), some (.ref a2), some (.ref a3), some (.int i4), none, none, none] [.int t2, .int t1, .ref a1] (e.1, m) none (493 + (k + 0)) (14332 + 6 * (k + 0)) := by
  obtain ⟨d, rfl⟩ : ∃ d', d = d' + 1 := ⟨d - 1, by omega⟩
  unfold L_law_b828 at hr
  refine ml_aload_n (pc := 828) dL_law_828 rfl mm_get_0 ?_
  refine ml_iload (pc := 829) dL_law_829 (mm_get_s (mm_get_s (mm_get_s (mm_get_s mm_get_0)))) ?_
  refine mg_iconst (pc := 831) dL_law_831 kc_3 ?_
  refine mg_iadd (pc := 832) dL_law_832 ?_
  refine mb_ax (pc := 833) dL_law_833 hr (fun x1 hr => ?_)
  refine ml_aload_n (pc := 834) dL_law_834 rfl (mm_get_s (mm_get_s (mm_get_s mm_get_0))) ?_
  refine mb_wS (pc := 835) (As := [.ref a1, .int t1, .int t2, .int x1, .ref a3]) (rest := []) dL_law_835 cx_136 hr (fun v hv => L_two_ok hz hnc (by omega) hx hv) rfl (Nat.le_of_ble_eq_true rfl) (by show _ ≤ 1011; omega) (by show _ ≤ 17440; omega) (fun r2 hr => ?_)
  refine ml_istore (pc := 838) dL_law_838 (Nat.le_of_ble_eq_true rfl) (mm_st1_s (mm_st1_s (mm_st1_s (mm_st1_s mm_st1_i)))) ?_
  refine ml_aload_n (pc := 840) dL_law_840 rfl (mm_get_s (mm_get_s mm_get_0)) ?_
  refine ml_aload_n (pc := 841) dL_law_841 rfl mm_get_0 ?_
  refine ml_iload (pc := 842) dL_law_842 (mm_get_s (mm_get_s (mm_get_s (mm_get_s mm_get_0)))) ?_
  refine mg_iconst (pc := 844) dL_law_844 kc_1 ?_
  refine mg_iadd (pc := 845) dL_law_845 ?_
  refine mb_ax (pc := 846) dL_law_846 hr (fun x3 hr => ?_)
  refine ml_aload_n (pc := 847) dL_law_847 rfl mm_get_0 ?_
  refine ml_iload (pc := 848) dL_law_848 (mm_get_s (mm_get_s (mm_get_s (mm_get_s mm_get_0)))) ?_
  refine mg_iconst (pc := 850) dL_law_850 kc_2 ?_
  refine mg_iadd (pc := 851) dL_law_851 ?_
  refine mb_ax (pc := 852) dL_law_852 hr (fun x4 hr => ?_)
  refine mb_if_eq (pc := 853) 860 dL_law_853 rfl hr (fun hr => ?_) (fun hr => ?_)
  · refine mg_iconst (pc := 860) dL_law_860 kc_0 ?_
    exact mg_cs (by omega) (by omega) (mg_weak (mm_le_s (mm_le_s (mm_le_s (mm_le_s (mm_le_s (mm_le_s (mm_le_n (mm_le_n mm_le_0)))))))) (L_law_b861_ok hz hnc hd hx hm (by omega) hk23 hr))
  · refine mg_iconst (pc := 856) dL_law_856 kc_1 ?_
    refine mg_goto (pc := 857) 861 dL_law_857 rfl ?_
    exact mg_cs (by omega) (by omega) (mg_weak (mm_le_s (mm_le_s (mm_le_s (mm_le_s (mm_le_s (mm_le_s (mm_le_n (mm_le_n mm_le_0)))))))) (L_law_b861_ok hz hnc hd hx hm (by omega) hk23 hr))
def L_law_b807 (e : mm_E) (k23 : Int32 → mm_V → Option (Int32 × mm_V)) (a0 : Nat) (a1 : Nat) (a2 : Nat) (a3 : Nat) (i4 : Int32) (m : mm_V) : Option (Int32 × mm_V) := (mm_ai e.1 m 31 a0 (i4 + (1 : Int32))).bind fun x1 => (mm_ai e.1 m 31 a0 (i4 + (2 : Int32))).bind fun x2 => if x2 = 0 then (L_law_b828 e k23 a0 a1 a2 a3 i4 x1 (0 : Int32) m) else (L_law_b828 e k23 a0 a1 a2 a3 i4 x1 (1 : Int32) m)
theorem L_law_b807_ok {K : mm_K} {q : String × List (Nat × Nat × Nat × Nat)} {e : mm_E} (hz : e.2.1 = K.2.2.2.2) (hnc : va_Nc "java/lang/IllegalArgumentException" "java/util/NoSuchElementException" K.2.1) {d : Nat} (hd : 258 ≤ d) {a0 : Nat} {a1 : Nat} {a2 : Nat} {a3 : Nat} {i4 : Int32} (hx : e.1 a1 = some (11, 19)) (hm : e.1 a2 = some (12, 75)) {k : Nat} (hk : k + 1 ≤ 514) {k23 : Int32 → mm_V → Option (Int32 × mm_V)} (hk23 : ∀ (w4 : Int32) (m : mm_V) (r : Int32 × mm_V), k23 w4 m = some r → mm_G K (ML_law q) d (1011, 17440, .inl (some (.int r.1)), (e.1, r.2), none) 23 [some (.ref a0), some (.ref a1), some (.ref a2), some (.ref a3), some (.int w4), none, none, none] [] (e.1, m) none (493 + (k + 1)) (14332 + 6 * (k + 1))) {m : mm_V} {r : Int32 × mm_V} (hr : L_law_b807 e k23 a0 a1 a2 a3 i4 m = some r) : mm_G K (ML_law q) d (1011, 17440, .inl (some (.int r.1)), (e.1, r.2), none) 807 [some (.ref a0), some (.ref a1), some (.ref a2), some (.ref a3), some (.int i4), none, none, none] [] (e.1, m) none (493 + (k + 0)) (14332 + 6 * (k + 0)) := by
  obtain ⟨d, rfl⟩ : ∃ d', d = d' + 1 := ⟨d - 1, by omega⟩
  unfold L_law_b807 at hr
  refine ml_aload_n (pc := 807) dL_law_807 rfl (mm_get_s mm_get_0) ?_
  refine ml_aload_n (pc := 808) dL_law_808 rfl mm_get_0 ?_
  refine ml_iload (pc := 809) dL_law_809 (mm_get_s (mm_get_s (mm_get_s (mm_get_s mm_get_0)))) ?_
  refine mg_iconst (pc := 811) dL_law_811 kc_1 ?_
  refine mg_iadd (pc := 812) dL_law_812 ?_
  refine mb_ax (pc := 813) dL_law_813 hr (fun x1 hr => ?_)
  refine ml_aload_n (pc := 814) dL_law_814 rfl mm_get_0 ?_
  refine ml_iload (pc := 815) dL_law_815 (mm_get_s (mm_get_s (mm_get_s (mm_get_s mm_get_0)))) ?_
  refine mg_iconst (pc := 817) dL_law_817 kc_2 ?_
  refine mg_iadd (pc := 818) dL_law_818 ?_
  refine mb_ax (pc := 819) dL_law_819 hr (fun x2 hr => ?_)
  refine mb_if_eq (pc := 820) 827 dL_law_820 rfl hr (fun hr => ?_) (fun hr => ?_)
  · refine mg_iconst (pc := 827) dL_law_827 kc_0 ?_
    exact mg_cs (by omega) (by omega) (mg_weak (mm_le_s (mm_le_s (mm_le_s (mm_le_s (mm_le_s (mm_le_n (mm_le_n (mm_le_n mm_le_0)))))))) (L_law_b828_ok hz hnc hd hx hm (by omega) hk23 hr))
  · refine mg_iconst (pc := 823) dL_law_823 kc_1 ?_
    refine mg_goto (pc := 824) 828 dL_law_824 rfl ?_
    exact mg_cs (by omega) (by omega) (mg_weak (mm_le_s (mm_le_s (mm_le_s (mm_le_s (mm_le_s (mm_le_n (mm_le_n (mm_le_n mm_le_0)))))))) (L_law_b828_ok hz hnc hd hx hm (by omega) hk23 hr))
def L_law_b804 (e : mm_E) (k23 : Int32 → mm_V → Option (Int32 × mm_V)) (a0 : Nat) (a1 : Nat) (a2 : Nat) (a3 : Nat) (i4 : Int32) (m : mm_V) : Option (Int32 × mm_V) := L_law_b1713 e k23 a0 a1 a2 a3 i4  m
theorem L_law_b804_ok {K : mm_K} {q : String × List (Nat × Nat × Nat × Nat)} {e : mm_E} (hz : e.2.1 = K.2.2.2.2) (hnc : va_Nc "java/lang/IllegalArgumentException" "java/util/NoSuchElementException" K.2.1) {d : Nat} (hd : 258 ≤ d) {a0 : Nat} {a1 : Nat} {a2 : Nat} {a3 : Nat} {i4 : Int32} (hx : e.1 a1 = some (11, 19)) (hm : e.1 a2 = some (12, 75)) {k : Nat} (hk : k + 1 ≤ 514) {k23 : Int32 → mm_V → Option (Int32 × mm_V)} (hk23 : ∀ (w4 : Int32) (m : mm_V) (r : Int32 × mm_V), k23 w4 m = some r → mm_G K (ML_law q) d (1011, 17440, .inl (some (.int r.1)), (e.1, r.2), none) 23 [some (.ref a0), some (.ref a1), some (.ref a2), some (.ref a3), some (.int w4), none, none, none] [] (e.1, m) none (493 + (k + 1)) (14332 + 6 * (k + 1))) {m : mm_V} {r : Int32 × mm_V} (hr : L_law_b804 e k23 a0 a1 a2 a3 i4 m = some r) : mm_G K (ML_law q) d (1011, 17440, .inl (some (.int r.1)), (e.1, r.2), none) 804 [some (.ref a0), some (.ref a1), some (.ref a2), some (.ref a3), some (.int i4), none, none, none] [] (e.1, m) none (493 + (k + 1)) (14332 + 6 * (k + 1)) := by
  obtain ⟨d, rfl⟩ : ∃ d', d = d' + 1 := ⟨d - 1, by omega⟩
  unfold L_law_b804 at hr
  refine mg_goto (pc := 804) 1713 dL_law_804 rfl ?_
  exact mg_cs (by omega) (by omega) (mg_weak (mm_le_s (mm_le_s (mm_le_s (mm_le_s (mm_le_s (mm_le_n (mm_le_n (mm_le_n mm_le_0)))))))) (L_law_b1713_ok hz hnc hd hx hm (by omega) hk23 hr))
def L_law_b728 (e : mm_E) (k23 : Int32 → mm_V → Option (Int32 × mm_V)) (a0 : Nat) (a1 : Nat) (a2 : Nat) (a3 : Nat) (i4 : Int32) (m : mm_V) : Option (Int32 × mm_V) := (mm_ai e.1 m 31 a0 (i4 + (1 : Int32))).bind fun x1 => (mm_ai e.1 m 31 a0 (i4 + (2 : Int32))).bind fun x2 => (mm_ai e.1 m 31 a0 (i4 + (3 : Int32))).bind fun x3 => (L_blind e a1 x1 x2 x3 a3 m).bind fun r4 => (mm_ai e.1 r4.2 31 a0 (i4 + (1 : Int32))).bind fun x5 => (mm_ai e.1 r4.2 31 a0 (i4 + (2 : Int32))).bind fun x6 => (mm_ai e.1 r4.2 31 a0 (i4 + (3 : Int32))).bind fun x7 => (X12_blind e a2 x5 x6 x7 r4.2).bind fun r8 => (X12_thrown e a2 r8.2).bind fun r9 => if r9.1 = r4.1 then (if ¬ r4.1 = 0 then (L_law_b804 e k23 a0 a1 a2 a3 i4  r9.2) else ((mm_al e.1 r9.2 a3 (0 : Int32)).bind fun y10 => if (lg_cmp y10 r8.1) = 0 then (L_law_b804 e k23 a0 a1 a2 a3 i4  r9.2) else (mm_rz (0 : Int32) r9.2))) else (mm_rz (0 : Int32) r9.2)
theorem L_law_b728_ok {K : mm_K} {q : String × List (Nat × Nat × Nat × Nat)} {e : mm_E} (hz : e.2.1 = K.2.2.2.2) (hnc : va_Nc "java/lang/IllegalArgumentException" "java/util/NoSuchElementException" K.2.1) {d : Nat} (hd : 258 ≤ d) {a0 : Nat} {a1 : Nat} {a2 : Nat} {a3 : Nat} {i4 : Int32} (hx : e.1 a1 = some (11, 19)) (hm : e.1 a2 = some (12, 75)) {k : Nat} (hk : k + 1 ≤ 514) {k23 : Int32 → mm_V → Option (Int32 × mm_V)} (hk23 : ∀ (w4 : Int32) (m : mm_V) (r : Int32 × mm_V), k23 w4 m = some r → mm_G K (ML_law q) d (1011, 17440, .inl (some (.int r.1)), (e.1, r.2), none) 23 [some (.ref a0), some (.ref a1), some (.ref a2), some (.ref a3), some (.int w4), none, none, none] [] (e.1, m) none (493 + (k + 1)) (14332 + 6 * (k + 1))) {m : mm_V} {r : Int32 × mm_V} (hr : L_law_b728 e k23 a0 a1 a2 a3 i4 m = some r) : mm_G K (ML_law q) d (1011, 17440, .inl (some (.int r.1)), (e.1, r.2), none) 728 [some (.ref a0), some (.ref a1), some (.ref a2), some (.ref a3), some (.int i4), none, none, none] [] (e.1, m) none (493 + (k + 0)) (14332 + 6 * (k + 0)) := by
  obtain ⟨d, rfl⟩ : ∃ d', d = d' + 1 := ⟨d - 1, by omega⟩
  unfold L_law_b728 at hr
  refine ml_aload_n (pc := 728) dL_law_728 rfl (mm_get_s mm_get_0) ?_
  refine ml_aload_n (pc := 729) dL_law_729 rfl mm_get_0 ?_
  refine ml_iload (pc := 730) dL_law_730 (mm_get_s (mm_get_s (mm_get_s (mm_get_s mm_get_0)))) ?_
  refine mg_iconst (pc := 732) dL_law_732 kc_1 ?_
  refine mg_iadd (pc := 733) dL_law_733 ?_
  refine mb_ax (pc := 734) dL_law_734 hr (fun x1 hr => ?_)
  refine ml_aload_n (pc := 735) dL_law_735 rfl mm_get_0 ?_
  refine ml_iload (pc := 736) dL_law_736 (mm_get_s (mm_get_s (mm_get_s (mm_get_s mm_get_0)))) ?_
  refine mg_iconst (pc := 738) dL_law_738 kc_2 ?_
  refine mg_iadd (pc := 739) dL_law_739 ?_
  refine mb_ax (pc := 740) dL_law_740 hr (fun x2 hr => ?_)
  refine ml_aload_n (pc := 741) dL_law_741 rfl mm_get_0 ?_
  refine ml_iload (pc := 742) dL_law_742 (mm_get_s (mm_get_s (mm_get_s (mm_get_s mm_get_0)))) ?_
  refine mg_iconst (pc := 744) dL_law_744 kc_3 ?_
  refine mg_iadd (pc := 745) dL_law_745 ?_
  refine mb_ax (pc := 746) dL_law_746 hr (fun x3 hr => ?_)
  refine ml_aload_n (pc := 747) dL_law_747 rfl (mm_get_s (mm_get_s (mm_get_s mm_get_0))) ?_
  refine mb_wS (pc := 748) (As := [.ref a1, .int x1, .int x2, .int x3, .ref a3]) (rest := []) dL_law_748 cx_132 hr (fun v hv => L_blind_ok hz hnc (by omega) hx hv) rfl (Nat.le_of_ble_eq_true rfl) (by show _ ≤ 1011; omega) (by show _ ≤ 17440; omega) (fun r4 hr => ?_)
  refine ml_istore (pc := 751) dL_law_751 (Nat.le_of_ble_eq_true rfl) (mm_st1_s (mm_st1_s (mm_st1_s (mm_st1_s mm_st1_i)))) ?_
  refine ml_aload_n (pc := 753) dL_law_753 rfl (mm_get_s (mm_get_s mm_get_0)) ?_
  refine ml_aload_n (pc := 754) dL_law_754 rfl mm_get_0 ?_
  refine ml_iload (pc := 755) dL_law_755 (mm_get_s (mm_get_s (mm_get_s (mm_get_s mm_get_0)))) ?_
  refine mg_iconst (pc := 757) dL_law_757 kc_1 ?_
  refine mg_iadd (pc := 758) dL_law_758 ?_
  refine mb_ax (pc := 759) dL_law_759 hr (fun x5 hr => ?_)
  refine ml_aload_n (pc := 760) dL_law_760 rfl mm_get_0 ?_
  refine ml_iload (pc := 761) dL_law_761 (mm_get_s (mm_get_s (mm_get_s (mm_get_s mm_get_0)))) ?_
  refine mg_iconst (pc := 763) dL_law_763 kc_2 ?_
  refine mg_iadd (pc := 764) dL_law_764 ?_
  refine mb_ax (pc := 765) dL_law_765 hr (fun x6 hr => ?_)
  refine ml_aload_n (pc := 766) dL_law_766 rfl mm_get_0 ?_
  refine ml_iload (pc := 767) dL_law_767 (mm_get_s (mm_get_s (mm_get_s (mm_get_s mm_get_0)))) ?_
  refine mg_iconst (pc := 769) dL_law_769 kc_3 ?_
  refine mg_iadd (pc := 770) dL_law_770 ?_
  refine mb_ax (pc := 771) dL_law_771 hr (fun x7 hr => ?_)
  refine mb_cVl (pc := 772) (As := [.int x5, .int x6, .int x7]) (rest := []) dL_law_772 cw_L_135 hm hr (fun v hv => X12_blind_ok hz (by omega) hm hv) rfl (Nat.le_of_ble_eq_true rfl) (by show _ ≤ 1011; omega) (by show _ ≤ 17440; omega) (fun r8 hr => ?_)
  refine ml_lstore (pc := 775) dL_law_775 (Nat.le_of_ble_eq_true rfl) (mm_st2_s (mm_st2_s (mm_st2_s (mm_st2_s (mm_st2_s mm_st2_i))))) ?_
  refine ml_aload_n (pc := 777) dL_law_777 rfl (mm_get_s (mm_get_s mm_get_0)) ?_
  refine mb_cVi (pc := 778) (As := []) (rest := []) dL_law_778 cw_L_96 hm hr (fun v hv => X12_thrown_ok hz (by omega) hm hv) rfl (Nat.le_of_ble_eq_true rfl) (by show _ ≤ 1011; omega) (by show _ ≤ 17440; omega) (fun r9 hr => ?_)
  refine ml_iload (pc := 781) dL_law_781 (mm_get_s (mm_get_s (mm_get_s (mm_get_s (mm_get_s mm_get_0))))) ?_
  refine mb_icmp_eq (pc := 783) 788 dL_law_783 rfl hr (fun hr => ?_) (fun hr => ?_)
  · refine ml_iload (pc := 788) dL_law_788 (mm_get_s (mm_get_s (mm_get_s (mm_get_s (mm_get_s mm_get_0))))) ?_
    refine mb_if_ne (pc := 790) 804 dL_law_790 rfl hr (fun hr => ?_) (fun hr => ?_)
    · exact mg_cs (by omega) (by omega) (mg_weak (mm_le_s (mm_le_s (mm_le_s (mm_le_s (mm_le_s (mm_le_n (mm_le_n (mm_le_n mm_le_0)))))))) (L_law_b804_ok hz hnc hd hx hm (by omega) hk23 hr))
    · refine ml_aload_n (pc := 793) dL_law_793 rfl (mm_get_s (mm_get_s (mm_get_s mm_get_0))) ?_
      refine mg_iconst (pc := 794) dL_law_794 kc_0 ?_
      refine mb_al (pc := 795) dL_law_795 hr (fun y10 hr => ?_)
      refine ml_lload (pc := 796) dL_law_796 (mm_get_s (mm_get_s (mm_get_s (mm_get_s (mm_get_s (mm_get_s mm_get_0)))))) ?_
      refine mg_lcmp (pc := 798) dL_law_798 ?_
      refine mb_if_eq (pc := 799) 804 dL_law_799 rfl hr (fun hr => ?_) (fun hr => ?_)
      · exact mg_cs (by omega) (by omega) (mg_weak (mm_le_s (mm_le_s (mm_le_s (mm_le_s (mm_le_s (mm_le_n (mm_le_n (mm_le_n mm_le_0)))))))) (L_law_b804_ok hz hnc hd hx hm (by omega) hk23 hr))
      · refine mg_iconst (pc := 802) dL_law_802 kc_0 ?_
        exact mb_lwret dL_law_803 rfl rfl (by show _ ≤ 1011; omega) (by show _ ≤ 17440; omega) hr
  · refine mg_iconst (pc := 786) dL_law_786 kc_0 ?_
    exact mb_lwret dL_law_787 rfl rfl (by show _ ≤ 1011; omega) (by show _ ≤ 17440; omega) hr
def L_law_b725 (e : mm_E) (k23 : Int32 → mm_V → Option (Int32 × mm_V)) (a0 : Nat) (a1 : Nat) (a2 : Nat) (a3 : Nat) (i4 : Int32) (m : mm_V) : Option (Int32 × mm_V) := L_law_b1713 e k23 a0 a1 a2 a3 i4  m
theorem L_law_b725_ok {K : mm_K} {q : String × List (Nat × Nat × Nat × Nat)} {e : mm_E} (hz : e.2.1 = K.2.2.2.2) (hnc : va_Nc "java/lang/IllegalArgumentException" "java/util/NoSuchElementException" K.2.1) {d : Nat} (hd : 258 ≤ d) {a0 : Nat} {a1 : Nat} {a2 : Nat} {a3 : Nat} {i4 : Int32} (hx : e.1 a1 = some (11, 19)) (hm : e.1 a2 = some (12, 75)) {k : Nat} (hk : k + 1 ≤ 514) {k23 : Int32 → mm_V → Option (Int32 × mm_V)} (hk23 : ∀ (w4 : Int32) (m : mm_V) (r : Int32 × mm_V), k23 w4 m = some r → mm_G K (ML_law q) d (1011, 17440, .inl (some (.int r.1)), (e.1, r.2), none) 23 [some (.ref a0), some (.ref a1), some (.ref a2), some (.ref a3), some (.int w4), none, none, none] [] (e.1, m) none (493 + (k + 1)) (14332 + 6 * (k + 1))) {m : mm_V} {r : Int32 × mm_V} (hr : L_law_b725 e k23 a0 a1 a2 a3 i4 m = some r) : mm_G K (ML_law q) d (1011, 17440, .inl (some (.int r.1)), (e.1, r.2), none) 725 [some (.ref a0), some (.ref a1), some (.ref a2), some (.ref a3), some (.int i4), none, none, none] [] (e.1, m) none (493 + (k + 1)) (14332 + 6 * (k + 1)) := by
  obtain ⟨d, rfl⟩ : ∃ d', d = d' + 1 := ⟨d - 1, by omega⟩
  unfold L_law_b725 at hr
  refine mg_goto (pc := 725) 1713 dL_law_725 rfl ?_
  exact mg_cs (by omega) (by omega) (mg_weak (mm_le_s (mm_le_s (mm_le_s (mm_le_s (mm_le_s (mm_le_n (mm_le_n (mm_le_n mm_le_0)))))))) (L_law_b1713_ok hz hnc hd hx hm (by omega) hk23 hr))
def L_law_b692 (e : mm_E) (k23 : Int32 → mm_V → Option (Int32 × mm_V)) (a0 : Nat) (a1 : Nat) (a2 : Nat) (a3 : Nat) (i4 : Int32) (i5 : Int32) (t1 : Int32) (t2 : Int32) (m : mm_V) : Option (Int32 × mm_V) := (X12_has e a2 t1 t2 m).bind fun r1 => (X12_thrown e a2 r1.2).bind fun r2 => if r2.1 = i5 then (if ¬ i5 = 0 then (L_law_b725 e k23 a0 a1 a2 a3 i4  r2.2) else ((mm_al e.1 r2.2 a3 (0 : Int32)).bind fun y3 => if (lg_cmp y3 r1.1.toInt64) = 0 then (L_law_b725 e k23 a0 a1 a2 a3 i4  r2.2) else (mm_rz (0 : Int32) r2.2))) else (mm_rz (0 : Int32) r2.2)
theorem L_law_b692_ok {K : mm_K} {q : String × List (Nat × Nat × Nat × Nat)} {e : mm_E} (hz : e.2.1 = K.2.2.2.2) (hnc : va_Nc "java/lang/IllegalArgumentException" "java/util/NoSuchElementException" K.2.1) {d : Nat} (hd : 258 ≤ d) {a0 : Nat} {a1 : Nat} {a2 : Nat} {a3 : Nat} {i4 : Int32} {i5 : Int32} {t1 : Int32} {t2 : Int32} (hx : e.1 a1 = some (11, 19)) (hm : e.1 a2 = some (12, 75)) {k : Nat} (hk : k + 1 ≤ 514) {k23 : Int32 → mm_V → Option (Int32 × mm_V)} (hk23 : ∀ (w4 : Int32) (m : mm_V) (r : Int32 × mm_V), k23 w4 m = some r → mm_G K (ML_law q) d (1011, 17440, .inl (some (.int r.1)), (e.1, r.2), none) 23 [some (.ref a0), some (.ref a1), some (.ref a2), some (.ref a3), some (.int w4), none, none, none] [] (e.1, m) none (493 + (k + 1)) (14332 + 6 * (k + 1))) {m : mm_V} {r : Int32 × mm_V} (hr : L_law_b692 e k23 a0 a1 a2 a3 i4 i5 t1 t2 m = some r) : mm_G K (ML_law q) d (1011, 17440, .inl (some (.int r.1)), (e.1, r.2), none) 692 [some (.ref a0), some (.ref a1), some (.ref a2), some (.ref a3), some (.int i4), some (.int i5), none, none] [.int t2, .int t1, .ref a2] (e.1, m) none (493 + (k + 1)) (14332 + 6 * (k + 1)) := by
  obtain ⟨d, rfl⟩ : ∃ d', d = d' + 1 := ⟨d - 1, by omega⟩
  unfold L_law_b692 at hr
  refine mb_cVi (pc := 692) (As := [.int t1, .int t2]) (rest := []) dL_law_692 cw_L_131 hm hr (fun v hv => X12_has_ok hz (by omega) hm hv) rfl (Nat.le_of_ble_eq_true rfl) (by show _ ≤ 1011; omega) (by show _ ≤ 17440; omega) (fun r1 hr => ?_)
  refine ml_istore (pc := 695) dL_law_695 (Nat.le_of_ble_eq_true rfl) (mm_st1_s (mm_st1_s (mm_st1_s (mm_st1_s (mm_st1_s mm_st1_i))))) ?_
  refine ml_aload_n (pc := 697) dL_law_697 rfl (mm_get_s (mm_get_s mm_get_0)) ?_
  refine mb_cVi (pc := 698) (As := []) (rest := []) dL_law_698 cw_L_96 hm hr (fun v hv => X12_thrown_ok hz (by omega) hm hv) rfl (Nat.le_of_ble_eq_true rfl) (by show _ ≤ 1011; omega) (by show _ ≤ 17440; omega) (fun r2 hr => ?_)
  refine ml_iload (pc := 701) dL_law_701 (mm_get_s (mm_get_s (mm_get_s (mm_get_s (mm_get_s mm_get_0))))) ?_
  refine mb_icmp_eq (pc := 703) 708 dL_law_703 rfl hr (fun hr => ?_) (fun hr => ?_)
  · refine ml_iload (pc := 708) dL_law_708 (mm_get_s (mm_get_s (mm_get_s (mm_get_s (mm_get_s mm_get_0))))) ?_
    refine mb_if_ne (pc := 710) 725 dL_law_710 rfl hr (fun hr => ?_) (fun hr => ?_)
    · exact mg_cs (by omega) (by omega) (mg_weak (mm_le_s (mm_le_s (mm_le_s (mm_le_s (mm_le_s (mm_le_n (mm_le_n (mm_le_n mm_le_0)))))))) (L_law_b725_ok hz hnc hd hx hm (by omega) hk23 hr))
    · refine ml_aload_n (pc := 713) dL_law_713 rfl (mm_get_s (mm_get_s (mm_get_s mm_get_0))) ?_
      refine mg_iconst (pc := 714) dL_law_714 kc_0 ?_
      refine mb_al (pc := 715) dL_law_715 hr (fun y3 hr => ?_)
      refine ml_iload (pc := 716) dL_law_716 (mm_get_s (mm_get_s (mm_get_s (mm_get_s (mm_get_s (mm_get_s mm_get_0)))))) ?_
      refine mg_i2l (pc := 718) dL_law_718 ?_
      refine mg_lcmp (pc := 719) dL_law_719 ?_
      refine mb_if_eq (pc := 720) 725 dL_law_720 rfl hr (fun hr => ?_) (fun hr => ?_)
      · exact mg_cs (by omega) (by omega) (mg_weak (mm_le_s (mm_le_s (mm_le_s (mm_le_s (mm_le_s (mm_le_n (mm_le_n (mm_le_n mm_le_0)))))))) (L_law_b725_ok hz hnc hd hx hm (by omega) hk23 hr))
      · refine mg_iconst (pc := 723) dL_law_723 kc_0 ?_
        exact mb_lwret dL_law_724 rfl rfl (by show _ ≤ 1011; omega) (by show _ ≤ 17440; omega) hr
  · refine mg_iconst (pc := 706) dL_law_706 kc_0 ?_
    exact mb_lwret dL_law_707 rfl rfl (by show _ ≤ 1011; omega) (by show _ ≤ 17440; omega) hr
def L_law_b665 (e : mm_E) (k23 : Int32 → mm_V → Option (Int32 × mm_V)) (a0 : Nat) (a1 : Nat) (a2 : Nat) (a3 : Nat) (i4 : Int32) (t1 : Int32) (t2 : Int32) (m : mm_V) : Option (Int32 × mm_V) := (L_has e a1 t1 t2 a3 m).bind fun r1 => (mm_ai e.1 r1.2 31 a0 (i4 + (1 : Int32))).bind fun x2 => (mm_ai e.1 r1.2 31 a0 (i4 + (2 : Int32))).bind fun x3 => if x3 = 0 then (L_law_b692 e k23 a0 a1 a2 a3 i4 r1.1 x2 (0 : Int32) r1.2) else (L_law_b692 e k23 a0 a1 a2 a3 i4 r1.1 x2 (1 : Int32) r1.2)
theorem L_law_b665_ok {K : mm_K} {q : String × List (Nat × Nat × Nat × Nat)} {e : mm_E} (hz : e.2.1 = K.2.2.2.2) (hnc : va_Nc "java/lang/IllegalArgumentException" "java/util/NoSuchElementException" K.2.1) {d : Nat} (hd : 258 ≤ d) {a0 : Nat} {a1 : Nat} {a2 : Nat} {a3 : Nat} {i4 : Int32} {t1 : Int32} {t2 : Int32} (hx : e.1 a1 = some (11, 19)) (hm : e.1 a2 = some (12, 75)) {k : Nat} (hk : k + 1 ≤ 514) {k23 : Int32 → mm_V → Option (Int32 × mm_V)} (hk23 : ∀ (w4 : Int32) (m : mm_V) (r : Int32 × mm_V), k23 w4 m = some r → mm_G K (ML_law q) d (1011, 17440, .inl (some (.int r.1)), (e.1, r.2), none) 23 [some (.ref a0), some (.ref a1), some (.ref a2), some (.ref a3), some (.int w4), none, none, none] [] (e.1, m) none (493 + (k + 1)) (14332 + 6 * (k + 1))) {m : mm_V} {r : Int32 × mm_V} (hr : L_law_b665 e k23 a0 a1 a2 a3 i4 t1 t2 m = some r) : mm_G K (ML_law q) d (1011, 17440, .inl (some (.int r.1)), (e.1, r.2), none) 665 [some (.ref a0), some (.ref a1), some (.ref a2), some (.ref a3), some (.int i4), none, none, none] [.int t2, .int t1, .ref a1] (e.1, m) none (493 + (k + 0)) (14332 + 6 * (k + 0)) := by
  obtain ⟨d, rfl⟩ : ∃ d', d = d' + 1 := ⟨d - 1, by omega⟩
  unfold L_law_b665 at hr
  refine ml_aload_n (pc := 665) dL_law_665 rfl (mm_get_s (mm_get_s (mm_get_s mm_get_0))) ?_
  refine mb_wS (pc := 666) (As := [.ref a1, .int t1, .int t2, .ref a3]) (rest := []) dL_law_666 cx_128 hr (fun v hv => L_has_ok hz hnc (by omega) hx hv) rfl (Nat.le_of_ble_eq_true rfl) (by show _ ≤ 1011; omega) (by show _ ≤ 17440; omega) (fun r1 hr => ?_)
  refine ml_istore (pc := 669) dL_law_669 (Nat.le_of_ble_eq_true rfl) (mm_st1_s (mm_st1_s (mm_st1_s (mm_st1_s mm_st1_i)))) ?_
  refine ml_aload_n (pc := 671) dL_law_671 rfl (mm_get_s (mm_get_s mm_get_0)) ?_
  refine ml_aload_n (pc := 672) dL_law_672 rfl mm_get_0 ?_
  refine ml_iload (pc := 673) dL_law_673 (mm_get_s (mm_get_s (mm_get_s (mm_get_s mm_get_0)))) ?_
  refine mg_iconst (pc := 675) dL_law_675 kc_1 ?_
  refine mg_iadd (pc := 676) dL_law_676 ?_
  refine mb_ax (pc := 677) dL_law_677 hr (fun x2 hr => ?_)
  refine ml_aload_n (pc := 678) dL_law_678 rfl mm_get_0 ?_
  refine ml_iload (pc := 679) dL_law_679 (mm_get_s (mm_get_s (mm_get_s (mm_get_s mm_get_0)))) ?_
  refine mg_iconst (pc := 681) dL_law_681 kc_2 ?_
  refine mg_iadd (pc := 682) dL_law_682 ?_
  refine mb_ax (pc := 683) dL_law_683 hr (fun x3 hr => ?_)
  refine mb_if_eq (pc := 684) 691 dL_law_684 rfl hr (fun hr => ?_) (fun hr => ?_)
  · refine mg_iconst (pc := 691) dL_law_691 kc_0 ?_
    exact mg_cs (by omega) (by omega) (mg_weak (mm_le_s (mm_le_s (mm_le_s (mm_le_s (mm_le_s (mm_le_s (mm_le_n (mm_le_n mm_le_0)))))))) (L_law_b692_ok hz hnc hd hx hm (by omega) hk23 hr))
  · refine mg_iconst (pc := 687) dL_law_687 kc_1 ?_
    refine mg_goto (pc := 688) 692 dL_law_688 rfl ?_
    exact mg_cs (by omega) (by omega) (mg_weak (mm_le_s (mm_le_s (mm_le_s (mm_le_s (mm_le_s (mm_le_s (mm_le_n (mm_le_n mm_le_0)))))))) (L_law_b692_ok hz hnc hd hx hm (by omega) hk23 hr))
def L_law_b644 (e : mm_E) (k23 : Int32 → mm_V → Option (Int32 × mm_V)) (a0 : Nat) (a1 : Nat) (a2 : Nat) (a3 : Nat) (i4 : Int32) (m : mm_V) : Option (Int32 × mm_V) := (mm_ai e.1 m 31 a0 (i4 + (1 : Int32))).bind fun x1 => (mm_ai e.1 m 31 a0 (i4 + (2 : Int32))).bind fun x2 => if x2 = 0 then (L_law_b665 e k23 a0 a1 a2 a3 i4 x1 (0 : Int32) m) else (L_law_b665 e k23 a0 a1 a2 a3 i4 x1 (1 : Int32) m)
theorem L_law_b644_ok {K : mm_K} {q : String × List (Nat × Nat × Nat × Nat)} {e : mm_E} (hz : e.2.1 = K.2.2.2.2) (hnc : va_Nc "java/lang/IllegalArgumentException" "java/util/NoSuchElementException" K.2.1) {d : Nat} (hd : 258 ≤ d) {a0 : Nat} {a1 : Nat} {a2 : Nat} {a3 : Nat} {i4 : Int32} (hx : e.1 a1 = some (11, 19)) (hm : e.1 a2 = some (12, 75)) {k : Nat} (hk : k + 1 ≤ 514) {k23 : Int32 → mm_V → Option (Int32 × mm_V)} (hk23 : ∀ (w4 : Int32) (m : mm_V) (r : Int32 × mm_V), k23 w4 m = some r → mm_G K (ML_law q) d (1011, 17440, .inl (some (.int r.1)), (e.1, r.2), none) 23 [some (.ref a0), some (.ref a1), some (.ref a2), some (.ref a3), some (.int w4), none, none, none] [] (e.1, m) none (493 + (k + 1)) (14332 + 6 * (k + 1))) {m : mm_V} {r : Int32 × mm_V} (hr : L_law_b644 e k23 a0 a1 a2 a3 i4 m = some r) : mm_G K (ML_law q) d (1011, 17440, .inl (some (.int r.1)), (e.1, r.2), none) 644 [some (.ref a0), some (.ref a1), some (.ref a2), some (.ref a3), some (.int i4), none, none, none] [] (e.1, m) none (493 + (k + 0)) (14332 + 6 * (k + 0)) := by
  obtain ⟨d, rfl⟩ : ∃ d', d = d' + 1 := ⟨d - 1, by omega⟩
  unfold L_law_b644 at hr
  refine ml_aload_n (pc := 644) dL_law_644 rfl (mm_get_s mm_get_0) ?_
  refine ml_aload_n (pc := 645) dL_law_645 rfl mm_get_0 ?_
  refine ml_iload (pc := 646) dL_law_646 (mm_get_s (mm_get_s (mm_get_s (mm_get_s mm_get_0)))) ?_
  refine mg_iconst (pc := 648) dL_law_648 kc_1 ?_
  refine mg_iadd (pc := 649) dL_law_649 ?_
  refine mb_ax (pc := 650) dL_law_650 hr (fun x1 hr => ?_)
  refine ml_aload_n (pc := 651) dL_law_651 rfl mm_get_0 ?_
  refine ml_iload (pc := 652) dL_law_652 (mm_get_s (mm_get_s (mm_get_s (mm_get_s mm_get_0)))) ?_
  refine mg_iconst (pc := 654) dL_law_654 kc_2 ?_
  refine mg_iadd (pc := 655) dL_law_655 ?_
  refine mb_ax (pc := 656) dL_law_656 hr (fun x2 hr => ?_)
  refine mb_if_eq (pc := 657) 664 dL_law_657 rfl hr (fun hr => ?_) (fun hr => ?_)
  · refine mg_iconst (pc := 664) dL_law_664 kc_0 ?_
    exact mg_cs (by omega) (by omega) (mg_weak (mm_le_s (mm_le_s (mm_le_s (mm_le_s (mm_le_s (mm_le_n (mm_le_n (mm_le_n mm_le_0)))))))) (L_law_b665_ok hz hnc hd hx hm (by omega) hk23 hr))
  · refine mg_iconst (pc := 660) dL_law_660 kc_1 ?_
    refine mg_goto (pc := 661) 665 dL_law_661 rfl ?_
    exact mg_cs (by omega) (by omega) (mg_weak (mm_le_s (mm_le_s (mm_le_s (mm_le_s (mm_le_s (mm_le_n (mm_le_n (mm_le_n mm_le_0)))))))) (L_law_b665_ok hz hnc hd hx hm (by omega) hk23 hr))
def L_law_b641 (e : mm_E) (k23 : Int32 → mm_V → Option (Int32 × mm_V)) (a0 : Nat) (a1 : Nat) (a2 : Nat) (a3 : Nat) (i4 : Int32) (m : mm_V) : Option (Int32 × mm_V) := L_law_b1713 e k23 a0 a1 a2 a3 i4  m
theorem L_law_b641_ok {K : mm_K} {q : String × List (Nat × Nat × Nat × Nat)} {e : mm_E} (hz : e.2.1 = K.2.2.2.2) (hnc : va_Nc "java/lang/IllegalArgumentException" "java/util/NoSuchElementException" K.2.1) {d : Nat} (hd : 258 ≤ d) {a0 : Nat} {a1 : Nat} {a2 : Nat} {a3 : Nat} {i4 : Int32} (hx : e.1 a1 = some (11, 19)) (hm : e.1 a2 = some (12, 75)) {k : Nat} (hk : k + 1 ≤ 514) {k23 : Int32 → mm_V → Option (Int32 × mm_V)} (hk23 : ∀ (w4 : Int32) (m : mm_V) (r : Int32 × mm_V), k23 w4 m = some r → mm_G K (ML_law q) d (1011, 17440, .inl (some (.int r.1)), (e.1, r.2), none) 23 [some (.ref a0), some (.ref a1), some (.ref a2), some (.ref a3), some (.int w4), none, none, none] [] (e.1, m) none (493 + (k + 1)) (14332 + 6 * (k + 1))) {m : mm_V} {r : Int32 × mm_V} (hr : L_law_b641 e k23 a0 a1 a2 a3 i4 m = some r) : mm_G K (ML_law q) d (1011, 17440, .inl (some (.int r.1)), (e.1, r.2), none) 641 [some (.ref a0), some (.ref a1), some (.ref a2), some (.ref a3), some (.int i4), none, none, none] [] (e.1, m) none (493 + (k + 1)) (14332 + 6 * (k + 1)) := by
  obtain ⟨d, rfl⟩ : ∃ d', d = d' + 1 := ⟨d - 1, by omega⟩
  unfold L_law_b641 at hr
  refine mg_goto (pc := 641) 1713 dL_law_641 rfl ?_
  exact mg_cs (by omega) (by omega) (mg_weak (mm_le_s (mm_le_s (mm_le_s (mm_le_s (mm_le_s (mm_le_n (mm_le_n (mm_le_n mm_le_0)))))))) (L_law_b1713_ok hz hnc hd hx hm (by omega) hk23 hr))
def L_law_b588 (e : mm_E) (k23 : Int32 → mm_V → Option (Int32 × mm_V)) (a0 : Nat) (a1 : Nat) (a2 : Nat) (a3 : Nat) (i4 : Int32) (m : mm_V) : Option (Int32 × mm_V) := (mm_ai e.1 m 31 a0 (i4 + (1 : Int32))).bind fun x1 => (L_ends e a1 x1 a3 m).bind fun r2 => (mm_ai e.1 r2.2 31 a0 (i4 + (1 : Int32))).bind fun x3 => (X12_ends e a2 x3 r2.2).bind fun r4 => (X12_thrown e a2 r4.2).bind fun r5 => if r5.1 = r2.1 then (if ¬ r2.1 = 0 then (L_law_b641 e k23 a0 a1 a2 a3 i4  r5.2) else ((mm_al e.1 r5.2 a3 (0 : Int32)).bind fun y6 => if (lg_cmp y6 r4.1.toInt64) = 0 then (L_law_b641 e k23 a0 a1 a2 a3 i4  r5.2) else (mm_rz (0 : Int32) r5.2))) else (mm_rz (0 : Int32) r5.2)
theorem L_law_b588_ok {K : mm_K} {q : String × List (Nat × Nat × Nat × Nat)} {e : mm_E} (hz : e.2.1 = K.2.2.2.2) (hnc : va_Nc "java/lang/IllegalArgumentException" "java/util/NoSuchElementException" K.2.1) {d : Nat} (hd : 258 ≤ d) {a0 : Nat} {a1 : Nat} {a2 : Nat} {a3 : Nat} {i4 : Int32} (hx : e.1 a1 = some (11, 19)) (hm : e.1 a2 = some (12, 75)) {k : Nat} (hk : k + 1 ≤ 514) {k23 : Int32 → mm_V → Option (Int32 × mm_V)} (hk23 : ∀ (w4 : Int32) (m : mm_V) (r : Int32 × mm_V), k23 w4 m = some r → mm_G K (ML_law q) d (1011, 17440, .inl (some (.int r.1)), (e.1, r.2), none) 23 [some (.ref a0), some (.ref a1), some (.ref a2), some (.ref a3), some (.int w4), none, none, none] [] (e.1, m) none (493 + (k + 1)) (14332 + 6 * (k + 1))) {m : mm_V} {r : Int32 × mm_V} (hr : L_law_b588 e k23 a0 a1 a2 a3 i4 m = some r) : mm_G K (ML_law q) d (1011, 17440, .inl (some (.int r.1)), (e.1, r.2), none) 588 [some (.ref a0), some (.ref a1), some (.ref a2), some (.ref a3), some (.int i4), none, none, none] [] (e.1, m) none (493 + (k + 0)) (14332 + 6 * (k + 0)) := by
  obtain ⟨d, rfl⟩ : ∃ d', d = d' + 1 := ⟨d - 1, by omega⟩
  unfold L_law_b588 at hr
  refine ml_aload_n (pc := 588) dL_law_588 rfl (mm_get_s mm_get_0) ?_
  refine ml_aload_n (pc := 589) dL_law_589 rfl mm_get_0 ?_
  refine ml_iload (pc := 590) dL_law_590 (mm_get_s (mm_get_s (mm_get_s (mm_get_s mm_get_0)))) ?_
  refine mg_iconst (pc := 592) dL_law_592 kc_1 ?_
  refine mg_iadd (pc := 593) dL_law_593 ?_
  refine mb_ax (pc := 594) dL_law_594 hr (fun x1 hr => ?_)
  refine ml_aload_n (pc := 595) dL_law_595 rfl (mm_get_s (mm_get_s (mm_get_s mm_get_0))) ?_
  refine mb_wS (pc := 596) (As := [.ref a1, .int x1, .ref a3]) (rest := []) dL_law_596 cx_125 hr (fun v hv => L_ends_ok hz hnc (by omega) hx hv) rfl (Nat.le_of_ble_eq_true rfl) (by show _ ≤ 1011; omega) (by show _ ≤ 17440; omega) (fun r2 hr => ?_)
  refine ml_istore (pc := 599) dL_law_599 (Nat.le_of_ble_eq_true rfl) (mm_st1_s (mm_st1_s (mm_st1_s (mm_st1_s mm_st1_i)))) ?_
  refine ml_aload_n (pc := 601) dL_law_601 rfl (mm_get_s (mm_get_s mm_get_0)) ?_
  refine ml_aload_n (pc := 602) dL_law_602 rfl mm_get_0 ?_
  refine ml_iload (pc := 603) dL_law_603 (mm_get_s (mm_get_s (mm_get_s (mm_get_s mm_get_0)))) ?_
  refine mg_iconst (pc := 605) dL_law_605 kc_1 ?_
  refine mg_iadd (pc := 606) dL_law_606 ?_
  refine mb_ax (pc := 607) dL_law_607 hr (fun x3 hr => ?_)
  refine mb_cVi (pc := 608) (As := [.int x3]) (rest := []) dL_law_608 cw_L_127 hm hr (fun v hv => X12_ends_ok hz (by omega) hm hv) rfl (Nat.le_of_ble_eq_true rfl) (by show _ ≤ 1011; omega) (by show _ ≤ 17440; omega) (fun r4 hr => ?_)
  refine ml_istore (pc := 611) dL_law_611 (Nat.le_of_ble_eq_true rfl) (mm_st1_s (mm_st1_s (mm_st1_s (mm_st1_s (mm_st1_s mm_st1_i))))) ?_
  refine ml_aload_n (pc := 613) dL_law_613 rfl (mm_get_s (mm_get_s mm_get_0)) ?_
  refine mb_cVi (pc := 614) (As := []) (rest := []) dL_law_614 cw_L_96 hm hr (fun v hv => X12_thrown_ok hz (by omega) hm hv) rfl (Nat.le_of_ble_eq_true rfl) (by show _ ≤ 1011; omega) (by show _ ≤ 17440; omega) (fun r5 hr => ?_)
  refine ml_iload (pc := 617) dL_law_617 (mm_get_s (mm_get_s (mm_get_s (mm_get_s (mm_get_s mm_get_0))))) ?_
  refine mb_icmp_eq (pc := 619) 624 dL_law_619 rfl hr (fun hr => ?_) (fun hr => ?_)
  · refine ml_iload (pc := 624) dL_law_624 (mm_get_s (mm_get_s (mm_get_s (mm_get_s (mm_get_s mm_get_0))))) ?_
    refine mb_if_ne (pc := 626) 641 dL_law_626 rfl hr (fun hr => ?_) (fun hr => ?_)
    · exact mg_cs (by omega) (by omega) (mg_weak (mm_le_s (mm_le_s (mm_le_s (mm_le_s (mm_le_s (mm_le_n (mm_le_n (mm_le_n mm_le_0)))))))) (L_law_b641_ok hz hnc hd hx hm (by omega) hk23 hr))
    · refine ml_aload_n (pc := 629) dL_law_629 rfl (mm_get_s (mm_get_s (mm_get_s mm_get_0))) ?_
      refine mg_iconst (pc := 630) dL_law_630 kc_0 ?_
      refine mb_al (pc := 631) dL_law_631 hr (fun y6 hr => ?_)
      refine ml_iload (pc := 632) dL_law_632 (mm_get_s (mm_get_s (mm_get_s (mm_get_s (mm_get_s (mm_get_s mm_get_0)))))) ?_
      refine mg_i2l (pc := 634) dL_law_634 ?_
      refine mg_lcmp (pc := 635) dL_law_635 ?_
      refine mb_if_eq (pc := 636) 641 dL_law_636 rfl hr (fun hr => ?_) (fun hr => ?_)
      · exact mg_cs (by omega) (by omega) (mg_weak (mm_le_s (mm_le_s (mm_le_s (mm_le_s (mm_le_s (mm_le_n (mm_le_n (mm_le_n mm_le_0)))))))) (L_law_b641_ok hz hnc hd hx hm (by omega) hk23 hr))
      · refine mg_iconst (pc := 639) dL_law_639 kc_0 ?_
        exact mb_lwret dL_law_640 rfl rfl (by show _ ≤ 1011; omega) (by show _ ≤ 17440; omega) hr
  · refine mg_iconst (pc := 622) dL_law_622 kc_0 ?_
    exact mb_lwret dL_law_623 rfl rfl (by show _ ≤ 1011; omega) (by show _ ≤ 17440; omega) hr
def L_law_b575 (e : mm_E) (k23 : Int32 → mm_V → Option (Int32 × mm_V)) (a0 : Nat) (a1 : Nat) (a2 : Nat) (a3 : Nat) (i4 : Int32) (m : mm_V) : Option (Int32 × mm_V) := (X11_undo e a1 m).bind fun r1 => (X12_undo e a2 r1.2).bind fun r2 => if r1.1 = r2.1 then (L_law_b1713 e k23 a0 a1 a2 a3 i4  r2.2) else (mm_rz (0 : Int32) r2.2)
theorem L_law_b575_ok {K : mm_K} {q : String × List (Nat × Nat × Nat × Nat)} {e : mm_E} (hz : e.2.1 = K.2.2.2.2) (hnc : va_Nc "java/lang/IllegalArgumentException" "java/util/NoSuchElementException" K.2.1) {d : Nat} (hd : 258 ≤ d) {a0 : Nat} {a1 : Nat} {a2 : Nat} {a3 : Nat} {i4 : Int32} (hx : e.1 a1 = some (11, 19)) (hm : e.1 a2 = some (12, 75)) {k : Nat} (hk : k + 1 ≤ 514) {k23 : Int32 → mm_V → Option (Int32 × mm_V)} (hk23 : ∀ (w4 : Int32) (m : mm_V) (r : Int32 × mm_V), k23 w4 m = some r → mm_G K (ML_law q) d (1011, 17440, .inl (some (.int r.1)), (e.1, r.2), none) 23 [some (.ref a0), some (.ref a1), some (.ref a2), some (.ref a3), some (.int w4), none, none, none] [] (e.1, m) none (493 + (k + 1)) (14332 + 6 * (k + 1))) {m : mm_V} {r : Int32 × mm_V} (hr : L_law_b575 e k23 a0 a1 a2 a3 i4 m = some r) : mm_G K (ML_law q) d (1011, 17440, .inl (some (.int r.1)), (e.1, r.2), none) 575 [some (.ref a0), some (.ref a1), some (.ref a2), some (.ref a3), some (.int i4), none, none, none] [] (e.1, m) none (493 + (k + 0)) (14332 + 6 * (k + 0)) := by
  obtain ⟨d, rfl⟩ : ∃ d', d = d' + 1 := ⟨d - 1, by omega⟩
  unfold L_law_b575 at hr
  refine ml_aload_n (pc := 575) dL_law_575 rfl (mm_get_s mm_get_0) ?_
  refine mb_cVi (pc := 576) (As := []) (rest := []) dL_law_576 cw_L_121 hx hr (fun v hv => X11_undo_ok hz (by omega) hx hv) rfl (Nat.le_of_ble_eq_true rfl) (by show _ ≤ 1011; omega) (by show _ ≤ 17440; omega) (fun r1 hr => ?_)
  refine ml_aload_n (pc := 579) dL_law_579 rfl (mm_get_s (mm_get_s mm_get_0)) ?_
  refine mb_cVi (pc := 580) (As := []) (rest := [.int r1.1]) dL_law_580 cw_L_124 hm hr (fun v hv => X12_undo_ok hz (by omega) hm hv) rfl (Nat.le_of_ble_eq_true rfl) (by show _ ≤ 1011; omega) (by show _ ≤ 17440; omega) (fun r2 hr => ?_)
  refine mb_icmp_eq (pc := 583) 1713 dL_law_583 rfl hr (fun hr => ?_) (fun hr => ?_)
  · exact mg_cs (by omega) (by omega) (mg_weak (mm_le_s (mm_le_s (mm_le_s (mm_le_s (mm_le_s (mm_le_n (mm_le_n (mm_le_n mm_le_0)))))))) (L_law_b1713_ok hz hnc hd hx hm (by omega) hk23 hr))
  · refine mg_iconst (pc := 586) dL_law_586 kc_0 ?_
    exact mb_lwret dL_law_587 rfl rfl (by show _ ≤ 1011; omega) (by show _ ≤ 17440; omega) hr
def L_law_b572 (e : mm_E) (k23 : Int32 → mm_V → Option (Int32 × mm_V)) (a0 : Nat) (a1 : Nat) (a2 : Nat) (a3 : Nat) (i4 : Int32) (m : mm_V) : Option (Int32 × mm_V) := L_law_b1713 e k23 a0 a1 a2 a3 i4  m
theorem L_law_b572_ok {K : mm_K} {q : String × List (Nat × Nat × Nat × Nat)} {e : mm_E} (hz : e.2.1 = K.2.2.2.2) (hnc : va_Nc "java/lang/IllegalArgumentException" "java/util/NoSuchElementException" K.2.1) {d : Nat} (hd : 258 ≤ d) {a0 : Nat} {a1 : Nat} {a2 : Nat} {a3 : Nat} {i4 : Int32} (hx : e.1 a1 = some (11, 19)) (hm : e.1 a2 = some (12, 75)) {k : Nat} (hk : k + 1 ≤ 514) {k23 : Int32 → mm_V → Option (Int32 × mm_V)} (hk23 : ∀ (w4 : Int32) (m : mm_V) (r : Int32 × mm_V), k23 w4 m = some r → mm_G K (ML_law q) d (1011, 17440, .inl (some (.int r.1)), (e.1, r.2), none) 23 [some (.ref a0), some (.ref a1), some (.ref a2), some (.ref a3), some (.int w4), none, none, none] [] (e.1, m) none (493 + (k + 1)) (14332 + 6 * (k + 1))) {m : mm_V} {r : Int32 × mm_V} (hr : L_law_b572 e k23 a0 a1 a2 a3 i4 m = some r) : mm_G K (ML_law q) d (1011, 17440, .inl (some (.int r.1)), (e.1, r.2), none) 572 [some (.ref a0), some (.ref a1), some (.ref a2), some (.ref a3), some (.int i4), none, none, none] [] (e.1, m) none (493 + (k + 1)) (14332 + 6 * (k + 1)) := by
  obtain ⟨d, rfl⟩ : ∃ d', d = d' + 1 := ⟨d - 1, by omega⟩
  unfold L_law_b572 at hr
  refine mg_goto (pc := 572) 1713 dL_law_572 rfl ?_
  exact mg_cs (by omega) (by omega) (mg_weak (mm_le_s (mm_le_s (mm_le_s (mm_le_s (mm_le_s (mm_le_n (mm_le_n (mm_le_n mm_le_0)))))))) (L_law_b1713_ok hz hnc hd hx hm (by omega) hk23 hr))
def L_law_b519 (e : mm_E) (k23 : Int32 → mm_V → Option (Int32 × mm_V)) (a0 : Nat) (a1 : Nat) (a2 : Nat) (a3 : Nat) (i4 : Int32) (m : mm_V) : Option (Int32 × mm_V) := (mm_ai e.1 m 31 a0 (i4 + (1 : Int32))).bind fun x1 => (L_play e a1 x1 a3 m).bind fun r2 => (mm_ai e.1 r2.2 31 a0 (i4 + (1 : Int32))).bind fun x3 => (X12_play e a2 x3 r2.2).bind fun r4 => (X12_thrown e a2 r4.2).bind fun r5 => if r5.1 = r2.1 then (if ¬ r2.1 = 0 then (L_law_b572 e k23 a0 a1 a2 a3 i4  r5.2) else ((mm_al e.1 r5.2 a3 (0 : Int32)).bind fun y6 => if (lg_cmp y6 r4.1.toInt64) = 0 then (L_law_b572 e k23 a0 a1 a2 a3 i4  r5.2) else (mm_rz (0 : Int32) r5.2))) else (mm_rz (0 : Int32) r5.2)
theorem L_law_b519_ok {K : mm_K} {q : String × List (Nat × Nat × Nat × Nat)} {e : mm_E} (hz : e.2.1 = K.2.2.2.2) (hnc : va_Nc "java/lang/IllegalArgumentException" "java/util/NoSuchElementException" K.2.1) {d : Nat} (hd : 258 ≤ d) {a0 : Nat} {a1 : Nat} {a2 : Nat} {a3 : Nat} {i4 : Int32} (hx : e.1 a1 = some (11, 19)) (hm : e.1 a2 = some (12, 75)) {k : Nat} (hk : k + 1 ≤ 514) {k23 : Int32 → mm_V → Option (Int32 × mm_V)} (hk23 : ∀ (w4 : Int32) (m : mm_V) (r : Int32 × mm_V), k23 w4 m = some r → mm_G K (ML_law q) d (1011, 17440, .inl (some (.int r.1)), (e.1, r.2), none) 23 [some (.ref a0), some (.ref a1), some (.ref a2), some (.ref a3), some (.int w4), none, none, none] [] (e.1, m) none (493 + (k + 1)) (14332 + 6 * (k + 1))) {m : mm_V} {r : Int32 × mm_V} (hr : L_law_b519 e k23 a0 a1 a2 a3 i4 m = some r) : mm_G K (ML_law q) d (1011, 17440, .inl (some (.int r.1)), (e.1, r.2), none) 519 [some (.ref a0), some (.ref a1), some (.ref a2), some (.ref a3), some (.int i4), none, none, none] [] (e.1, m) none (493 + (k + 0)) (14332 + 6 * (k + 0)) := by
  obtain ⟨d, rfl⟩ : ∃ d', d = d' + 1 := ⟨d - 1, by omega⟩
  unfold L_law_b519 at hr
  refine ml_aload_n (pc := 519) dL_law_519 rfl (mm_get_s mm_get_0) ?_
  refine ml_aload_n (pc := 520) dL_law_520 rfl mm_get_0 ?_
  refine ml_iload (pc := 521) dL_law_521 (mm_get_s (mm_get_s (mm_get_s (mm_get_s mm_get_0)))) ?_
  refine mg_iconst (pc := 523) dL_law_523 kc_1 ?_
  refine mg_iadd (pc := 524) dL_law_524 ?_
  refine mb_ax (pc := 525) dL_law_525 hr (fun x1 hr => ?_)
  refine ml_aload_n (pc := 526) dL_law_526 rfl (mm_get_s (mm_get_s (mm_get_s mm_get_0))) ?_
  refine mb_wS (pc := 527) (As := [.ref a1, .int x1, .ref a3]) (rest := []) dL_law_527 cx_118 hr (fun v hv => L_play_ok hz hnc (by omega) hx hv) rfl (Nat.le_of_ble_eq_true rfl) (by show _ ≤ 1011; omega) (by show _ ≤ 17440; omega) (fun r2 hr => ?_)
  refine ml_istore (pc := 530) dL_law_530 (Nat.le_of_ble_eq_true rfl) (mm_st1_s (mm_st1_s (mm_st1_s (mm_st1_s mm_st1_i)))) ?_
  refine ml_aload_n (pc := 532) dL_law_532 rfl (mm_get_s (mm_get_s mm_get_0)) ?_
  refine ml_aload_n (pc := 533) dL_law_533 rfl mm_get_0 ?_
  refine ml_iload (pc := 534) dL_law_534 (mm_get_s (mm_get_s (mm_get_s (mm_get_s mm_get_0)))) ?_
  refine mg_iconst (pc := 536) dL_law_536 kc_1 ?_
  refine mg_iadd (pc := 537) dL_law_537 ?_
  refine mb_ax (pc := 538) dL_law_538 hr (fun x3 hr => ?_)
  refine mb_cVi (pc := 539) (As := [.int x3]) (rest := []) dL_law_539 cw_L_120 hm hr (fun v hv => X12_play_ok hz (by omega) hm hv) rfl (Nat.le_of_ble_eq_true rfl) (by show _ ≤ 1011; omega) (by show _ ≤ 17440; omega) (fun r4 hr => ?_)
  refine ml_istore (pc := 542) dL_law_542 (Nat.le_of_ble_eq_true rfl) (mm_st1_s (mm_st1_s (mm_st1_s (mm_st1_s (mm_st1_s mm_st1_i))))) ?_
  refine ml_aload_n (pc := 544) dL_law_544 rfl (mm_get_s (mm_get_s mm_get_0)) ?_
  refine mb_cVi (pc := 545) (As := []) (rest := []) dL_law_545 cw_L_96 hm hr (fun v hv => X12_thrown_ok hz (by omega) hm hv) rfl (Nat.le_of_ble_eq_true rfl) (by show _ ≤ 1011; omega) (by show _ ≤ 17440; omega) (fun r5 hr => ?_)
  refine ml_iload (pc := 548) dL_law_548 (mm_get_s (mm_get_s (mm_get_s (mm_get_s (mm_get_s mm_get_0))))) ?_
  refine mb_icmp_eq (pc := 550) 555 dL_law_550 rfl hr (fun hr => ?_) (fun hr => ?_)
  · refine ml_iload (pc := 555) dL_law_555 (mm_get_s (mm_get_s (mm_get_s (mm_get_s (mm_get_s mm_get_0))))) ?_
    refine mb_if_ne (pc := 557) 572 dL_law_557 rfl hr (fun hr => ?_) (fun hr => ?_)
    · exact mg_cs (by omega) (by omega) (mg_weak (mm_le_s (mm_le_s (mm_le_s (mm_le_s (mm_le_s (mm_le_n (mm_le_n (mm_le_n mm_le_0)))))))) (L_law_b572_ok hz hnc hd hx hm (by omega) hk23 hr))
    · refine ml_aload_n (pc := 560) dL_law_560 rfl (mm_get_s (mm_get_s (mm_get_s mm_get_0))) ?_
      refine mg_iconst (pc := 561) dL_law_561 kc_0 ?_
      refine mb_al (pc := 562) dL_law_562 hr (fun y6 hr => ?_)
      refine ml_iload (pc := 563) dL_law_563 (mm_get_s (mm_get_s (mm_get_s (mm_get_s (mm_get_s (mm_get_s mm_get_0)))))) ?_
      refine mg_i2l (pc := 565) dL_law_565 ?_
      refine mg_lcmp (pc := 566) dL_law_566 ?_
      refine mb_if_eq (pc := 567) 572 dL_law_567 rfl hr (fun hr => ?_) (fun hr => ?_)
      · exact mg_cs (by omega) (by omega) (mg_weak (mm_le_s (mm_le_s (mm_le_s (mm_le_s (mm_le_s (mm_le_n (mm_le_n (mm_le_n mm_le_0)))))))) (L_law_b572_ok hz hnc hd hx hm (by omega) hk23 hr))
      · refine mg_iconst (pc := 570) dL_law_570 kc_0 ?_
        exact mb_lwret dL_law_571 rfl rfl (by show _ ≤ 1011; omega) (by show _ ≤ 17440; omega) hr
  · refine mg_iconst (pc := 553) dL_law_553 kc_0 ?_
    exact mb_lwret dL_law_554 rfl rfl (by show _ ≤ 1011; omega) (by show _ ≤ 17440; omega) hr
def L_law_b494 (e : mm_E) (k23 : Int32 → mm_V → Option (Int32 × mm_V)) (a0 : Nat) (a1 : Nat) (a2 : Nat) (a3 : Nat) (i4 : Int32) (m : mm_V) : Option (Int32 × mm_V) := (mm_ai e.1 m 31 a0 (i4 + (1 : Int32))).bind fun x1 => (X11_draw e a1 x1 m).bind fun r2 => (mm_ai e.1 r2.2 31 a0 (i4 + (1 : Int32))).bind fun x3 => (X12_draw e a2 x3 r2.2).bind fun r4 => if r2.1 = r4.1 then (L_law_b1713 e k23 a0 a1 a2 a3 i4  r4.2) else (mm_rz (0 : Int32) r4.2)
theorem L_law_b494_ok {K : mm_K} {q : String × List (Nat × Nat × Nat × Nat)} {e : mm_E} (hz : e.2.1 = K.2.2.2.2) (hnc : va_Nc "java/lang/IllegalArgumentException" "java/util/NoSuchElementException" K.2.1) {d : Nat} (hd : 258 ≤ d) {a0 : Nat} {a1 : Nat} {a2 : Nat} {a3 : Nat} {i4 : Int32} (hx : e.1 a1 = some (11, 19)) (hm : e.1 a2 = some (12, 75)) {k : Nat} (hk : k + 1 ≤ 514) {k23 : Int32 → mm_V → Option (Int32 × mm_V)} (hk23 : ∀ (w4 : Int32) (m : mm_V) (r : Int32 × mm_V), k23 w4 m = some r → mm_G K (ML_law q) d (1011, 17440, .inl (some (.int r.1)), (e.1, r.2), none) 23 [some (.ref a0), some (.ref a1), some (.ref a2), some (.ref a3), some (.int w4), none, none, none] [] (e.1, m) none (493 + (k + 1)) (14332 + 6 * (k + 1))) {m : mm_V} {r : Int32 × mm_V} (hr : L_law_b494 e k23 a0 a1 a2 a3 i4 m = some r) : mm_G K (ML_law q) d (1011, 17440, .inl (some (.int r.1)), (e.1, r.2), none) 494 [some (.ref a0), some (.ref a1), some (.ref a2), some (.ref a3), some (.int i4), none, none, none] [] (e.1, m) none (493 + (k + 0)) (14332 + 6 * (k + 0)) := by
  obtain ⟨d, rfl⟩ : ∃ d', d = d' + 1 := ⟨d - 1, by omega⟩
  unfold L_law_b494 at hr
  refine ml_aload_n (pc := 494) dL_law_494 rfl (mm_get_s mm_get_0) ?_
  refine ml_aload_n (pc := 495) dL_law_495 rfl mm_get_0 ?_
  refine ml_iload (pc := 496) dL_law_496 (mm_get_s (mm_get_s (mm_get_s (mm_get_s mm_get_0)))) ?_
  refine mg_iconst (pc := 498) dL_law_498 kc_1 ?_
  refine mg_iadd (pc := 499) dL_law_499 ?_
  refine mb_ax (pc := 500) dL_law_500 hr (fun x1 hr => ?_)
  refine mb_cVi (pc := 501) (As := [.int x1]) (rest := []) dL_law_501 cw_L_114 hx hr (fun v hv => X11_draw_ok hz (by omega) hx hv) rfl (Nat.le_of_ble_eq_true rfl) (by show _ ≤ 1011; omega) (by show _ ≤ 17440; omega) (fun r2 hr => ?_)
  refine ml_aload_n (pc := 504) dL_law_504 rfl (mm_get_s (mm_get_s mm_get_0)) ?_
  refine ml_aload_n (pc := 505) dL_law_505 rfl mm_get_0 ?_
  refine ml_iload (pc := 506) dL_law_506 (mm_get_s (mm_get_s (mm_get_s (mm_get_s mm_get_0)))) ?_
  refine mg_iconst (pc := 508) dL_law_508 kc_1 ?_
  refine mg_iadd (pc := 509) dL_law_509 ?_
  refine mb_ax (pc := 510) dL_law_510 hr (fun x3 hr => ?_)
  refine mb_cVi (pc := 511) (As := [.int x3]) (rest := [.int r2.1]) dL_law_511 cw_L_117 hm hr (fun v hv => X12_draw_ok hz (by omega) hm hv) rfl (Nat.le_of_ble_eq_true rfl) (by show _ ≤ 1011; omega) (by show _ ≤ 17440; omega) (fun r4 hr => ?_)
  refine mb_icmp_eq (pc := 514) 1713 dL_law_514 rfl hr (fun hr => ?_) (fun hr => ?_)
  · exact mg_cs (by omega) (by omega) (mg_weak (mm_le_s (mm_le_s (mm_le_s (mm_le_s (mm_le_s (mm_le_n (mm_le_n (mm_le_n mm_le_0)))))))) (L_law_b1713_ok hz hnc hd hx hm (by omega) hk23 hr))
  · refine mg_iconst (pc := 517) dL_law_517 kc_0 ?_
    exact mb_lwret dL_law_518 rfl rfl (by show _ ≤ 1011; omega) (by show _ ≤ 17440; omega) hr
def L_law_b491 (e : mm_E) (k23 : Int32 → mm_V → Option (Int32 × mm_V)) (a0 : Nat) (a1 : Nat) (a2 : Nat) (a3 : Nat) (i4 : Int32) (m : mm_V) : Option (Int32 × mm_V) := L_law_b1713 e k23 a0 a1 a2 a3 i4  m
theorem L_law_b491_ok {K : mm_K} {q : String × List (Nat × Nat × Nat × Nat)} {e : mm_E} (hz : e.2.1 = K.2.2.2.2) (hnc : va_Nc "java/lang/IllegalArgumentException" "java/util/NoSuchElementException" K.2.1) {d : Nat} (hd : 258 ≤ d) {a0 : Nat} {a1 : Nat} {a2 : Nat} {a3 : Nat} {i4 : Int32} (hx : e.1 a1 = some (11, 19)) (hm : e.1 a2 = some (12, 75)) {k : Nat} (hk : k + 1 ≤ 514) {k23 : Int32 → mm_V → Option (Int32 × mm_V)} (hk23 : ∀ (w4 : Int32) (m : mm_V) (r : Int32 × mm_V), k23 w4 m = some r → mm_G K (ML_law q) d (1011, 17440, .inl (some (.int r.1)), (e.1, r.2), none) 23 [some (.ref a0), some (.ref a1), some (.ref a2), some (.ref a3), some (.int w4), none, none, none] [] (e.1, m) none (493 + (k + 1)) (14332 + 6 * (k + 1))) {m : mm_V} {r : Int32 × mm_V} (hr : L_law_b491 e k23 a0 a1 a2 a3 i4 m = some r) : mm_G K (ML_law q) d (1011, 17440, .inl (some (.int r.1)), (e.1, r.2), none) 491 [some (.ref a0), some (.ref a1), some (.ref a2), some (.ref a3), some (.int i4), none, none, none] [] (e.1, m) none (493 + (k + 1)) (14332 + 6 * (k + 1)) := by
  obtain ⟨d, rfl⟩ : ∃ d', d = d' + 1 := ⟨d - 1, by omega⟩
  unfold L_law_b491 at hr
  refine mg_goto (pc := 491) 1713 dL_law_491 rfl ?_
  exact mg_cs (by omega) (by omega) (mg_weak (mm_le_s (mm_le_s (mm_le_s (mm_le_s (mm_le_s (mm_le_n (mm_le_n (mm_le_n mm_le_0)))))))) (L_law_b1713_ok hz hnc hd hx hm (by omega) hk23 hr))
def L_law_b426 (e : mm_E) (k23 : Int32 → mm_V → Option (Int32 × mm_V)) (a0 : Nat) (a1 : Nat) (a2 : Nat) (a3 : Nat) (i4 : Int32) (m : mm_V) : Option (Int32 × mm_V) := (mm_ai e.1 m 31 a0 (i4 + (1 : Int32))).bind fun x1 => (mm_ai e.1 m 31 a0 (i4 + (2 : Int32))).bind fun x2 => (L_person e a1 x1 x2 a3 m).bind fun r3 => (mm_ai e.1 r3.2 31 a0 (i4 + (1 : Int32))).bind fun x4 => (mm_ai e.1 r3.2 31 a0 (i4 + (2 : Int32))).bind fun x5 => (X12_person e a2 x4 x5 r3.2).bind fun r6 => (X12_thrown e a2 r6.2).bind fun r7 => if r7.1 = r3.1 then (if ¬ r3.1 = 0 then (L_law_b491 e k23 a0 a1 a2 a3 i4  r7.2) else ((mm_al e.1 r7.2 a3 (0 : Int32)).bind fun y8 => if (lg_cmp y8 r6.1.toInt64) = 0 then (L_law_b491 e k23 a0 a1 a2 a3 i4  r7.2) else (mm_rz (0 : Int32) r7.2))) else (mm_rz (0 : Int32) r7.2)
theorem L_law_b426_ok {K : mm_K} {q : String × List (Nat × Nat × Nat × Nat)} {e : mm_E} (hz : e.2.1 = K.2.2.2.2) (hnc : va_Nc "java/lang/IllegalArgumentException" "java/util/NoSuchElementException" K.2.1) {d : Nat} (hd : 258 ≤ d) {a0 : Nat} {a1 : Nat} {a2 : Nat} {a3 : Nat} {i4 : Int32} (hx : e.1 a1 = some (11, 19)) (hm : e.1 a2 = some (12, 75)) {k : Nat} (hk : k + 1 ≤ 514) {k23 : Int32 → mm_V → Option (Int32 × mm_V)} (hk23 : ∀ (w4 : Int32) (m : mm_V) (r : Int32 × mm_V), k23 w4 m = some r → mm_G K (ML_law q) d (1011, 17440, .inl (some (.int r.1)), (e.1, r.2), none) 23 [some (.ref a0), some (.ref a1), some (.ref a2), some (.ref a3), some (.int w4), none, none, none] [] (e.1, m) none (493 + (k + 1)) (14332 + 6 * (k + 1))) {m : mm_V} {r : Int32 × mm_V} (hr : L_law_b426 e k23 a0 a1 a2 a3 i4 m = some r) : mm_G K (ML_law q) d (1011, 17440, .inl (some (.int r.1)), (e.1, r.2), none) 426 [some (.ref a0), some (.ref a1), some (.ref a2), some (.ref a3), some (.int i4), none, none, none] [] (e.1, m) none (493 + (k + 0)) (14332 + 6 * (k + 0)) := by
  obtain ⟨d, rfl⟩ : ∃ d', d = d' + 1 := ⟨d - 1, by omega⟩
  unfold L_law_b426 at hr
  refine ml_aload_n (pc := 426) dL_law_426 rfl (mm_get_s mm_get_0) ?_
  refine ml_aload_n (pc := 427) dL_law_427 rfl mm_get_0 ?_
  refine ml_iload (pc := 428) dL_law_428 (mm_get_s (mm_get_s (mm_get_s (mm_get_s mm_get_0)))) ?_
  refine mg_iconst (pc := 430) dL_law_430 kc_1 ?_
  refine mg_iadd (pc := 431) dL_law_431 ?_
  refine mb_ax (pc := 432) dL_law_432 hr (fun x1 hr => ?_)
  refine ml_aload_n (pc := 433) dL_law_433 rfl mm_get_0 ?_
  refine ml_iload (pc := 434) dL_law_434 (mm_get_s (mm_get_s (mm_get_s (mm_get_s mm_get_0)))) ?_
  refine mg_iconst (pc := 436) dL_law_436 kc_2 ?_
  refine mg_iadd (pc := 437) dL_law_437 ?_
  refine mb_ax (pc := 438) dL_law_438 hr (fun x2 hr => ?_)
  refine ml_aload_n (pc := 439) dL_law_439 rfl (mm_get_s (mm_get_s (mm_get_s mm_get_0))) ?_
  refine mb_wS (pc := 440) (As := [.ref a1, .int x1, .int x2, .ref a3]) (rest := []) dL_law_440 cx_111 hr (fun v hv => L_person_ok hz hnc (by omega) hx hv) rfl (Nat.le_of_ble_eq_true rfl) (by show _ ≤ 1011; omega) (by show _ ≤ 17440; omega) (fun r3 hr => ?_)
  refine ml_istore (pc := 443) dL_law_443 (Nat.le_of_ble_eq_true rfl) (mm_st1_s (mm_st1_s (mm_st1_s (mm_st1_s mm_st1_i)))) ?_
  refine ml_aload_n (pc := 445) dL_law_445 rfl (mm_get_s (mm_get_s mm_get_0)) ?_
  refine ml_aload_n (pc := 446) dL_law_446 rfl mm_get_0 ?_
  refine ml_iload (pc := 447) dL_law_447 (mm_get_s (mm_get_s (mm_get_s (mm_get_s mm_get_0)))) ?_
  refine mg_iconst (pc := 449) dL_law_449 kc_1 ?_
  refine mg_iadd (pc := 450) dL_law_450 ?_
  refine mb_ax (pc := 451) dL_law_451 hr (fun x4 hr => ?_)
  refine ml_aload_n (pc := 452) dL_law_452 rfl mm_get_0 ?_
  refine ml_iload (pc := 453) dL_law_453 (mm_get_s (mm_get_s (mm_get_s (mm_get_s mm_get_0)))) ?_
  refine mg_iconst (pc := 455) dL_law_455 kc_2 ?_
  refine mg_iadd (pc := 456) dL_law_456 ?_
  refine mb_ax (pc := 457) dL_law_457 hr (fun x5 hr => ?_)
  refine mb_cVi (pc := 458) (As := [.int x4, .int x5]) (rest := []) dL_law_458 cw_L_113 hm hr (fun v hv => X12_person_ok hz (by omega) hm hv) rfl (Nat.le_of_ble_eq_true rfl) (by show _ ≤ 1011; omega) (by show _ ≤ 17440; omega) (fun r6 hr => ?_)
  refine ml_istore (pc := 461) dL_law_461 (Nat.le_of_ble_eq_true rfl) (mm_st1_s (mm_st1_s (mm_st1_s (mm_st1_s (mm_st1_s mm_st1_i))))) ?_
  refine ml_aload_n (pc := 463) dL_law_463 rfl (mm_get_s (mm_get_s mm_get_0)) ?_
  refine mb_cVi (pc := 464) (As := []) (rest := []) dL_law_464 cw_L_96 hm hr (fun v hv => X12_thrown_ok hz (by omega) hm hv) rfl (Nat.le_of_ble_eq_true rfl) (by show _ ≤ 1011; omega) (by show _ ≤ 17440; omega) (fun r7 hr => ?_)
  refine ml_iload (pc := 467) dL_law_467 (mm_get_s (mm_get_s (mm_get_s (mm_get_s (mm_get_s mm_get_0))))) ?_
  refine mb_icmp_eq (pc := 469) 474 dL_law_469 rfl hr (fun hr => ?_) (fun hr => ?_)
  · refine ml_iload (pc := 474) dL_law_474 (mm_get_s (mm_get_s (mm_get_s (mm_get_s (mm_get_s mm_get_0))))) ?_
    refine mb_if_ne (pc := 476) 491 dL_law_476 rfl hr (fun hr => ?_) (fun hr => ?_)
    · exact mg_cs (by omega) (by omega) (mg_weak (mm_le_s (mm_le_s (mm_le_s (mm_le_s (mm_le_s (mm_le_n (mm_le_n (mm_le_n mm_le_0)))))))) (L_law_b491_ok hz hnc hd hx hm (by omega) hk23 hr))
    · refine ml_aload_n (pc := 479) dL_law_479 rfl (mm_get_s (mm_get_s (mm_get_s mm_get_0))) ?_
      refine mg_iconst (pc := 480) dL_law_480 kc_0 ?_
      refine mb_al (pc := 481) dL_law_481 hr (fun y8 hr => ?_)
      refine ml_iload (pc := 482) dL_law_482 (mm_get_s (mm_get_s (mm_get_s (mm_get_s (mm_get_s (mm_get_s mm_get_0)))))) ?_
      refine mg_i2l (pc := 484) dL_law_484 ?_
      refine mg_lcmp (pc := 485) dL_law_485 ?_
      refine mb_if_eq (pc := 486) 491 dL_law_486 rfl hr (fun hr => ?_) (fun hr => ?_)
      · exact mg_cs (by omega) (by omega) (mg_weak (mm_le_s (mm_le_s (mm_le_s (mm_le_s (mm_le_s (mm_le_n (mm_le_n (mm_le_n mm_le_0)))))))) (L_law_b491_ok hz hnc hd hx hm (by omega) hk23 hr))
      · refine mg_iconst (pc := 489) dL_law_489 kc_0 ?_
        exact mb_lwret dL_law_490 rfl rfl (by show _ ≤ 1011; omega) (by show _ ≤ 17440; omega) hr
  · refine mg_iconst (pc := 472) dL_law_472 kc_0 ?_
    exact mb_lwret dL_law_473 rfl rfl (by show _ ≤ 1011; omega) (by show _ ≤ 17440; omega) hr
def L_law_b423 (e : mm_E) (k23 : Int32 → mm_V → Option (Int32 × mm_V)) (a0 : Nat) (a1 : Nat) (a2 : Nat) (a3 : Nat) (i4 : Int32) (m : mm_V) : Option (Int32 × mm_V) := L_law_b1713 e k23 a0 a1 a2 a3 i4  m
theorem L_law_b423_ok {K : mm_K} {q : String × List (Nat × Nat × Nat × Nat)} {e : mm_E} (hz : e.2.1 = K.2.2.2.2) (hnc : va_Nc "java/lang/IllegalArgumentException" "java/util/NoSuchElementException" K.2.1) {d : Nat} (hd : 258 ≤ d) {a0 : Nat} {a1 : Nat} {a2 : Nat} {a3 : Nat} {i4 : Int32} (hx : e.1 a1 = some (11, 19)) (hm : e.1 a2 = some (12, 75)) {k : Nat} (hk : k + 1 ≤ 514) {k23 : Int32 → mm_V → Option (Int32 × mm_V)} (hk23 : ∀ (w4 : Int32) (m : mm_V) (r : Int32 × mm_V), k23 w4 m = some r → mm_G K (ML_law q) d (1011, 17440, .inl (some (.int r.1)), (e.1, r.2), none) 23 [some (.ref a0), some (.ref a1), some (.ref a2), some (.ref a3), some (.int w4), none, none, none] [] (e.1, m) none (493 + (k + 1)) (14332 + 6 * (k + 1))) {m : mm_V} {r : Int32 × mm_V} (hr : L_law_b423 e k23 a0 a1 a2 a3 i4 m = some r) : mm_G K (ML_law q) d (1011, 17440, .inl (some (.int r.1)), (e.1, r.2), none) 423 [some (.ref a0), some (.ref a1), some (.ref a2), some (.ref a3), some (.int i4), none, none, none] [] (e.1, m) none (493 + (k + 1)) (14332 + 6 * (k + 1)) := by
  obtain ⟨d, rfl⟩ : ∃ d', d = d' + 1 := ⟨d - 1, by omega⟩
  unfold L_law_b423 at hr
  refine mg_goto (pc := 423) 1713 dL_law_423 rfl ?_
  exact mg_cs (by omega) (by omega) (mg_weak (mm_le_s (mm_le_s (mm_le_s (mm_le_s (mm_le_s (mm_le_n (mm_le_n (mm_le_n mm_le_0)))))))) (L_law_b1713_ok hz hnc hd hx hm (by omega) hk23 hr))
def L_law_b358 (e : mm_E) (k23 : Int32 → mm_V → Option (Int32 × mm_V)) (a0 : Nat) (a1 : Nat) (a2 : Nat) (a3 : Nat) (i4 : Int32) (m : mm_V) : Option (Int32 × mm_V) := (mm_ai e.1 m 31 a0 (i4 + (1 : Int32))).bind fun x1 => (mm_ai e.1 m 31 a0 (i4 + (2 : Int32))).bind fun x2 => (L_fan e a1 x1 x2 a3 m).bind fun r3 => (mm_ai e.1 r3.2 31 a0 (i4 + (1 : Int32))).bind fun x4 => (mm_ai e.1 r3.2 31 a0 (i4 + (2 : Int32))).bind fun x5 => (X12_fan e a2 x4 x5 r3.2).bind fun r6 => (X12_thrown e a2 r6.2).bind fun r7 => if r7.1 = r3.1 then (if ¬ r3.1 = 0 then (L_law_b423 e k23 a0 a1 a2 a3 i4  r7.2) else ((mm_al e.1 r7.2 a3 (0 : Int32)).bind fun y8 => if (lg_cmp y8 r6.1.toInt64) = 0 then (L_law_b423 e k23 a0 a1 a2 a3 i4  r7.2) else (mm_rz (0 : Int32) r7.2))) else (mm_rz (0 : Int32) r7.2)
theorem L_law_b358_ok {K : mm_K} {q : String × List (Nat × Nat × Nat × Nat)} {e : mm_E} (hz : e.2.1 = K.2.2.2.2) (hnc : va_Nc "java/lang/IllegalArgumentException" "java/util/NoSuchElementException" K.2.1) {d : Nat} (hd : 258 ≤ d) {a0 : Nat} {a1 : Nat} {a2 : Nat} {a3 : Nat} {i4 : Int32} (hx : e.1 a1 = some (11, 19)) (hm : e.1 a2 = some (12, 75)) {k : Nat} (hk : k + 1 ≤ 514) {k23 : Int32 → mm_V → Option (Int32 × mm_V)} (hk23 : ∀ (w4 : Int32) (m : mm_V) (r : Int32 × mm_V), k23 w4 m = some r → mm_G K (ML_law q) d (1011, 17440, .inl (some (.int r.1)), (e.1, r.2), none) 23 [some (.ref a0), some (.ref a1), some (.ref a2), some (.ref a3), some (.int w4), none, none, none] [] (e.1, m) none (493 + (k + 1)) (14332 + 6 * (k + 1))) {m : mm_V} {r : Int32 × mm_V} (hr : L_law_b358 e k23 a0 a1 a2 a3 i4 m = some r) : mm_G K (ML_law q) d (1011, 17440, .inl (some (.int r.1)), (e.1, r.2), none) 358 [some (.ref a0), some (.ref a1), some (.ref a2), some (.ref a3), some (.int i4), none, none, none] [] (e.1, m) none (493 + (k + 0)) (14332 + 6 * (k + 0)) := by
  obtain ⟨d, rfl⟩ : ∃ d', d = d' + 1 := ⟨d - 1, by omega⟩
  unfold L_law_b358 at hr
  refine ml_aload_n (pc := 358) dL_law_358 rfl (mm_get_s mm_get_0) ?_
  refine ml_aload_n (pc := 359) dL_law_359 rfl mm_get_0 ?_
  refine ml_iload (pc := 360) dL_law_360 (mm_get_s (mm_get_s (mm_get_s (mm_get_s mm_get_0)))) ?_
  refine mg_iconst (pc := 362) dL_law_362 kc_1 ?_
  refine mg_iadd (pc := 363) dL_law_363 ?_
  refine mb_ax (pc := 364) dL_law_364 hr (fun x1 hr => ?_)
  refine ml_aload_n (pc := 365) dL_law_365 rfl mm_get_0 ?_
  refine ml_iload (pc := 366) dL_law_366 (mm_get_s (mm_get_s (mm_get_s (mm_get_s mm_get_0)))) ?_
  refine mg_iconst (pc := 368) dL_law_368 kc_2 ?_
  refine mg_iadd (pc := 369) dL_law_369 ?_
  refine mb_ax (pc := 370) dL_law_370 hr (fun x2 hr => ?_)
  refine ml_aload_n (pc := 371) dL_law_371 rfl (mm_get_s (mm_get_s (mm_get_s mm_get_0))) ?_
  refine mb_wS (pc := 372) (As := [.ref a1, .int x1, .int x2, .ref a3]) (rest := []) dL_law_372 cx_107 hr (fun v hv => L_fan_ok hz hnc (by omega) hx hv) rfl (Nat.le_of_ble_eq_true rfl) (by show _ ≤ 1011; omega) (by show _ ≤ 17440; omega) (fun r3 hr => ?_)
  refine ml_istore (pc := 375) dL_law_375 (Nat.le_of_ble_eq_true rfl) (mm_st1_s (mm_st1_s (mm_st1_s (mm_st1_s mm_st1_i)))) ?_
  refine ml_aload_n (pc := 377) dL_law_377 rfl (mm_get_s (mm_get_s mm_get_0)) ?_
  refine ml_aload_n (pc := 378) dL_law_378 rfl mm_get_0 ?_
  refine ml_iload (pc := 379) dL_law_379 (mm_get_s (mm_get_s (mm_get_s (mm_get_s mm_get_0)))) ?_
  refine mg_iconst (pc := 381) dL_law_381 kc_1 ?_
  refine mg_iadd (pc := 382) dL_law_382 ?_
  refine mb_ax (pc := 383) dL_law_383 hr (fun x4 hr => ?_)
  refine ml_aload_n (pc := 384) dL_law_384 rfl mm_get_0 ?_
  refine ml_iload (pc := 385) dL_law_385 (mm_get_s (mm_get_s (mm_get_s (mm_get_s mm_get_0)))) ?_
  refine mg_iconst (pc := 387) dL_law_387 kc_2 ?_
  refine mg_iadd (pc := 388) dL_law_388 ?_
  refine mb_ax (pc := 389) dL_law_389 hr (fun x5 hr => ?_)
  refine mb_cVi (pc := 390) (As := [.int x4, .int x5]) (rest := []) dL_law_390 cw_L_110 hm hr (fun v hv => X12_fan_ok hz (by omega) hm hv) rfl (Nat.le_of_ble_eq_true rfl) (by show _ ≤ 1011; omega) (by show _ ≤ 17440; omega) (fun r6 hr => ?_)
  refine ml_istore (pc := 393) dL_law_393 (Nat.le_of_ble_eq_true rfl) (mm_st1_s (mm_st1_s (mm_st1_s (mm_st1_s (mm_st1_s mm_st1_i))))) ?_
  refine ml_aload_n (pc := 395) dL_law_395 rfl (mm_get_s (mm_get_s mm_get_0)) ?_
  refine mb_cVi (pc := 396) (As := []) (rest := []) dL_law_396 cw_L_96 hm hr (fun v hv => X12_thrown_ok hz (by omega) hm hv) rfl (Nat.le_of_ble_eq_true rfl) (by show _ ≤ 1011; omega) (by show _ ≤ 17440; omega) (fun r7 hr => ?_)
  refine ml_iload (pc := 399) dL_law_399 (mm_get_s (mm_get_s (mm_get_s (mm_get_s (mm_get_s mm_get_0))))) ?_
  refine mb_icmp_eq (pc := 401) 406 dL_law_401 rfl hr (fun hr => ?_) (fun hr => ?_)
  · refine ml_iload (pc := 406) dL_law_406 (mm_get_s (mm_get_s (mm_get_s (mm_get_s (mm_get_s mm_get_0))))) ?_
    refine mb_if_ne (pc := 408) 423 dL_law_408 rfl hr (fun hr => ?_) (fun hr => ?_)
    · exact mg_cs (by omega) (by omega) (mg_weak (mm_le_s (mm_le_s (mm_le_s (mm_le_s (mm_le_s (mm_le_n (mm_le_n (mm_le_n mm_le_0)))))))) (L_law_b423_ok hz hnc hd hx hm (by omega) hk23 hr))
    · refine ml_aload_n (pc := 411) dL_law_411 rfl (mm_get_s (mm_get_s (mm_get_s mm_get_0))) ?_
      refine mg_iconst (pc := 412) dL_law_412 kc_0 ?_
      refine mb_al (pc := 413) dL_law_413 hr (fun y8 hr => ?_)
      refine ml_iload (pc := 414) dL_law_414 (mm_get_s (mm_get_s (mm_get_s (mm_get_s (mm_get_s (mm_get_s mm_get_0)))))) ?_
      refine mg_i2l (pc := 416) dL_law_416 ?_
      refine mg_lcmp (pc := 417) dL_law_417 ?_
      refine mb_if_eq (pc := 418) 423 dL_law_418 rfl hr (fun hr => ?_) (fun hr => ?_)
      · exact mg_cs (by omega) (by omega) (mg_weak (mm_le_s (mm_le_s (mm_le_s (mm_le_s (mm_le_s (mm_le_n (mm_le_n (mm_le_n mm_le_0)))))))) (L_law_b423_ok hz hnc hd hx hm (by omega) hk23 hr))
      · refine mg_iconst (pc := 421) dL_law_421 kc_0 ?_
        exact mb_lwret dL_law_422 rfl rfl (by show _ ≤ 1011; omega) (by show _ ≤ 17440; omega) hr
  · refine mg_iconst (pc := 404) dL_law_404 kc_0 ?_
    exact mb_lwret dL_law_405 rfl rfl (by show _ ≤ 1011; omega) (by show _ ≤ 17440; omega) hr
def L_law_b355 (e : mm_E) (k23 : Int32 → mm_V → Option (Int32 × mm_V)) (a0 : Nat) (a1 : Nat) (a2 : Nat) (a3 : Nat) (i4 : Int32) (m : mm_V) : Option (Int32 × mm_V) := L_law_b1713 e k23 a0 a1 a2 a3 i4  m
theorem L_law_b355_ok {K : mm_K} {q : String × List (Nat × Nat × Nat × Nat)} {e : mm_E} (hz : e.2.1 = K.2.2.2.2) (hnc : va_Nc "java/lang/IllegalArgumentException" "java/util/NoSuchElementException" K.2.1) {d : Nat} (hd : 258 ≤ d) {a0 : Nat} {a1 : Nat} {a2 : Nat} {a3 : Nat} {i4 : Int32} (hx : e.1 a1 = some (11, 19)) (hm : e.1 a2 = some (12, 75)) {k : Nat} (hk : k + 1 ≤ 514) {k23 : Int32 → mm_V → Option (Int32 × mm_V)} (hk23 : ∀ (w4 : Int32) (m : mm_V) (r : Int32 × mm_V), k23 w4 m = some r → mm_G K (ML_law q) d (1011, 17440, .inl (some (.int r.1)), (e.1, r.2), none) 23 [some (.ref a0), some (.ref a1), some (.ref a2), some (.ref a3), some (.int w4), none, none, none] [] (e.1, m) none (493 + (k + 1)) (14332 + 6 * (k + 1))) {m : mm_V} {r : Int32 × mm_V} (hr : L_law_b355 e k23 a0 a1 a2 a3 i4 m = some r) : mm_G K (ML_law q) d (1011, 17440, .inl (some (.int r.1)), (e.1, r.2), none) 355 [some (.ref a0), some (.ref a1), some (.ref a2), some (.ref a3), some (.int i4), none, none, none] [] (e.1, m) none (493 + (k + 1)) (14332 + 6 * (k + 1)) := by
  obtain ⟨d, rfl⟩ : ∃ d', d = d' + 1 := ⟨d - 1, by omega⟩
  unfold L_law_b355 at hr
  refine mg_goto (pc := 355) 1713 dL_law_355 rfl ?_
  exact mg_cs (by omega) (by omega) (mg_weak (mm_le_s (mm_le_s (mm_le_s (mm_le_s (mm_le_s (mm_le_n (mm_le_n (mm_le_n mm_le_0)))))))) (L_law_b1713_ok hz hnc hd hx hm (by omega) hk23 hr))
def L_law_b302 (e : mm_E) (k23 : Int32 → mm_V → Option (Int32 × mm_V)) (a0 : Nat) (a1 : Nat) (a2 : Nat) (a3 : Nat) (i4 : Int32) (m : mm_V) : Option (Int32 × mm_V) := (mm_ai e.1 m 31 a0 (i4 + (1 : Int32))).bind fun x1 => (L_count e a1 x1 a3 m).bind fun r2 => (mm_ai e.1 r2.2 31 a0 (i4 + (1 : Int32))).bind fun x3 => (X12_count e a2 x3 r2.2).bind fun r4 => (X12_thrown e a2 r4.2).bind fun r5 => if r5.1 = r2.1 then (if ¬ r2.1 = 0 then (L_law_b355 e k23 a0 a1 a2 a3 i4  r5.2) else ((mm_al e.1 r5.2 a3 (0 : Int32)).bind fun y6 => if (lg_cmp y6 r4.1.toInt64) = 0 then (L_law_b355 e k23 a0 a1 a2 a3 i4  r5.2) else (mm_rz (0 : Int32) r5.2))) else (mm_rz (0 : Int32) r5.2)
theorem L_law_b302_ok {K : mm_K} {q : String × List (Nat × Nat × Nat × Nat)} {e : mm_E} (hz : e.2.1 = K.2.2.2.2) (hnc : va_Nc "java/lang/IllegalArgumentException" "java/util/NoSuchElementException" K.2.1) {d : Nat} (hd : 258 ≤ d) {a0 : Nat} {a1 : Nat} {a2 : Nat} {a3 : Nat} {i4 : Int32} (hx : e.1 a1 = some (11, 19)) (hm : e.1 a2 = some (12, 75)) {k : Nat} (hk : k + 1 ≤ 514) {k23 : Int32 → mm_V → Option (Int32 × mm_V)} (hk23 : ∀ (w4 : Int32) (m : mm_V) (r : Int32 × mm_V), k23 w4 m = some r → mm_G K (ML_law q) d (1011, 17440, .inl (some (.int r.1)), (e.1, r.2), none) 23 [some (.ref a0), some (.ref a1), some (.ref a2), some (.ref a3), some (.int w4), none, none, none] [] (e.1, m) none (493 + (k + 1)) (14332 + 6 * (k + 1))) {m : mm_V} {r : Int32 × mm_V} (hr : L_law_b302 e k23 a0 a1 a2 a3 i4 m = some r) : mm_G K (ML_law q) d (1011, 17440, .inl (some (.int r.1)), (e.1, r.2), none) 302 [some (.ref a0), some (.ref a1), some (.ref a2), some (.ref a3), some (.int i4), none, none, none] [] (e.1, m) none (493 + (k + 0)) (14332 + 6 * (k + 0)) := by
  obtain ⟨d, rfl⟩ : ∃ d', d = d' + 1 := ⟨d - 1, by omega⟩
  unfold L_law_b302 at hr
  refine ml_aload_n (pc := 302) dL_law_302 rfl (mm_get_s mm_get_0) ?_
  refine ml_aload_n (pc := 303) dL_law_303 rfl mm_get_0 ?_
  refine ml_iload (pc := 304) dL_law_304 (mm_get_s (mm_get_s (mm_get_s (mm_get_s mm_get_0)))) ?_
  refine mg_iconst (pc := 306) dL_law_306 kc_1 ?_
  refine mg_iadd (pc := 307) dL_law_307 ?_
  refine mb_ax (pc := 308) dL_law_308 hr (fun x1 hr => ?_)
  refine ml_aload_n (pc := 309) dL_law_309 rfl (mm_get_s (mm_get_s (mm_get_s mm_get_0))) ?_
  refine mb_wS (pc := 310) (As := [.ref a1, .int x1, .ref a3]) (rest := []) dL_law_310 cx_104 hr (fun v hv => L_count_ok hz hnc (by omega) hx hv) rfl (Nat.le_of_ble_eq_true rfl) (by show _ ≤ 1011; omega) (by show _ ≤ 17440; omega) (fun r2 hr => ?_)
  refine ml_istore (pc := 313) dL_law_313 (Nat.le_of_ble_eq_true rfl) (mm_st1_s (mm_st1_s (mm_st1_s (mm_st1_s mm_st1_i)))) ?_
  refine ml_aload_n (pc := 315) dL_law_315 rfl (mm_get_s (mm_get_s mm_get_0)) ?_
  refine ml_aload_n (pc := 316) dL_law_316 rfl mm_get_0 ?_
  refine ml_iload (pc := 317) dL_law_317 (mm_get_s (mm_get_s (mm_get_s (mm_get_s mm_get_0)))) ?_
  refine mg_iconst (pc := 319) dL_law_319 kc_1 ?_
  refine mg_iadd (pc := 320) dL_law_320 ?_
  refine mb_ax (pc := 321) dL_law_321 hr (fun x3 hr => ?_)
  refine mb_cVi (pc := 322) (As := [.int x3]) (rest := []) dL_law_322 cw_L_106 hm hr (fun v hv => X12_count_ok hz (by omega) hm hv) rfl (Nat.le_of_ble_eq_true rfl) (by show _ ≤ 1011; omega) (by show _ ≤ 17440; omega) (fun r4 hr => ?_)
  refine ml_istore (pc := 325) dL_law_325 (Nat.le_of_ble_eq_true rfl) (mm_st1_s (mm_st1_s (mm_st1_s (mm_st1_s (mm_st1_s mm_st1_i))))) ?_
  refine ml_aload_n (pc := 327) dL_law_327 rfl (mm_get_s (mm_get_s mm_get_0)) ?_
  refine mb_cVi (pc := 328) (As := []) (rest := []) dL_law_328 cw_L_96 hm hr (fun v hv => X12_thrown_ok hz (by omega) hm hv) rfl (Nat.le_of_ble_eq_true rfl) (by show _ ≤ 1011; omega) (by show _ ≤ 17440; omega) (fun r5 hr => ?_)
  refine ml_iload (pc := 331) dL_law_331 (mm_get_s (mm_get_s (mm_get_s (mm_get_s (mm_get_s mm_get_0))))) ?_
  refine mb_icmp_eq (pc := 333) 338 dL_law_333 rfl hr (fun hr => ?_) (fun hr => ?_)
  · refine ml_iload (pc := 338) dL_law_338 (mm_get_s (mm_get_s (mm_get_s (mm_get_s (mm_get_s mm_get_0))))) ?_
    refine mb_if_ne (pc := 340) 355 dL_law_340 rfl hr (fun hr => ?_) (fun hr => ?_)
    · exact mg_cs (by omega) (by omega) (mg_weak (mm_le_s (mm_le_s (mm_le_s (mm_le_s (mm_le_s (mm_le_n (mm_le_n (mm_le_n mm_le_0)))))))) (L_law_b355_ok hz hnc hd hx hm (by omega) hk23 hr))
    · refine ml_aload_n (pc := 343) dL_law_343 rfl (mm_get_s (mm_get_s (mm_get_s mm_get_0))) ?_
      refine mg_iconst (pc := 344) dL_law_344 kc_0 ?_
      refine mb_al (pc := 345) dL_law_345 hr (fun y6 hr => ?_)
      refine ml_iload (pc := 346) dL_law_346 (mm_get_s (mm_get_s (mm_get_s (mm_get_s (mm_get_s (mm_get_s mm_get_0)))))) ?_
      refine mg_i2l (pc := 348) dL_law_348 ?_
      refine mg_lcmp (pc := 349) dL_law_349 ?_
      refine mb_if_eq (pc := 350) 355 dL_law_350 rfl hr (fun hr => ?_) (fun hr => ?_)
      · exact mg_cs (by omega) (by omega) (mg_weak (mm_le_s (mm_le_s (mm_le_s (mm_le_s (mm_le_s (mm_le_n (mm_le_n (mm_le_n mm_le_0)))))))) (L_law_b355_ok hz hnc hd hx hm (by omega) hk23 hr))
      · refine mg_iconst (pc := 353) dL_law_353 kc_0 ?_
        exact mb_lwret dL_law_354 rfl rfl (by show _ ≤ 1011; omega) (by show _ ≤ 17440; omega) hr
  · refine mg_iconst (pc := 336) dL_law_336 kc_0 ?_
    exact mb_lwret dL_law_337 rfl rfl (by show _ ≤ 1011; omega) (by show _ ≤ 17440; omega) hr
def L_law_b289 (e : mm_E) (k23 : Int32 → mm_V → Option (Int32 × mm_V)) (a0 : Nat) (a1 : Nat) (a2 : Nat) (a3 : Nat) (i4 : Int32) (m : mm_V) : Option (Int32 × mm_V) := (X11_fault e a1 m).bind fun r1 => (X12_fault e a2 r1.2).bind fun r2 => if r1.1 = r2.1 then (L_law_b1713 e k23 a0 a1 a2 a3 i4  r2.2) else (mm_rz (0 : Int32) r2.2)
theorem L_law_b289_ok {K : mm_K} {q : String × List (Nat × Nat × Nat × Nat)} {e : mm_E} (hz : e.2.1 = K.2.2.2.2) (hnc : va_Nc "java/lang/IllegalArgumentException" "java/util/NoSuchElementException" K.2.1) {d : Nat} (hd : 258 ≤ d) {a0 : Nat} {a1 : Nat} {a2 : Nat} {a3 : Nat} {i4 : Int32} (hx : e.1 a1 = some (11, 19)) (hm : e.1 a2 = some (12, 75)) {k : Nat} (hk : k + 1 ≤ 514) {k23 : Int32 → mm_V → Option (Int32 × mm_V)} (hk23 : ∀ (w4 : Int32) (m : mm_V) (r : Int32 × mm_V), k23 w4 m = some r → mm_G K (ML_law q) d (1011, 17440, .inl (some (.int r.1)), (e.1, r.2), none) 23 [some (.ref a0), some (.ref a1), some (.ref a2), some (.ref a3), some (.int w4), none, none, none] [] (e.1, m) none (493 + (k + 1)) (14332 + 6 * (k + 1))) {m : mm_V} {r : Int32 × mm_V} (hr : L_law_b289 e k23 a0 a1 a2 a3 i4 m = some r) : mm_G K (ML_law q) d (1011, 17440, .inl (some (.int r.1)), (e.1, r.2), none) 289 [some (.ref a0), some (.ref a1), some (.ref a2), some (.ref a3), some (.int i4), none, none, none] [] (e.1, m) none (493 + (k + 0)) (14332 + 6 * (k + 0)) := by
  obtain ⟨d, rfl⟩ : ∃ d', d = d' + 1 := ⟨d - 1, by omega⟩
  unfold L_law_b289 at hr
  refine ml_aload_n (pc := 289) dL_law_289 rfl (mm_get_s mm_get_0) ?_
  refine mb_cVi (pc := 290) (As := []) (rest := []) dL_law_290 cw_L_100 hx hr (fun v hv => X11_fault_ok hz (by omega) hx hv) rfl (Nat.le_of_ble_eq_true rfl) (by show _ ≤ 1011; omega) (by show _ ≤ 17440; omega) (fun r1 hr => ?_)
  refine ml_aload_n (pc := 293) dL_law_293 rfl (mm_get_s (mm_get_s mm_get_0)) ?_
  refine mb_cVi (pc := 294) (As := []) (rest := [.int r1.1]) dL_law_294 cw_L_103 hm hr (fun v hv => X12_fault_ok hz (by omega) hm hv) rfl (Nat.le_of_ble_eq_true rfl) (by show _ ≤ 1011; omega) (by show _ ≤ 17440; omega) (fun r2 hr => ?_)
  refine mb_icmp_eq (pc := 297) 1713 dL_law_297 rfl hr (fun hr => ?_) (fun hr => ?_)
  · exact mg_cs (by omega) (by omega) (mg_weak (mm_le_s (mm_le_s (mm_le_s (mm_le_s (mm_le_s (mm_le_n (mm_le_n (mm_le_n mm_le_0)))))))) (L_law_b1713_ok hz hnc hd hx hm (by omega) hk23 hr))
  · refine mg_iconst (pc := 300) dL_law_300 kc_0 ?_
    exact mb_lwret dL_law_301 rfl rfl (by show _ ≤ 1011; omega) (by show _ ≤ 17440; omega) hr
def L_law_b286 (e : mm_E) (k23 : Int32 → mm_V → Option (Int32 × mm_V)) (a0 : Nat) (a1 : Nat) (a2 : Nat) (a3 : Nat) (i4 : Int32) (m : mm_V) : Option (Int32 × mm_V) := L_law_b1713 e k23 a0 a1 a2 a3 i4  m
theorem L_law_b286_ok {K : mm_K} {q : String × List (Nat × Nat × Nat × Nat)} {e : mm_E} (hz : e.2.1 = K.2.2.2.2) (hnc : va_Nc "java/lang/IllegalArgumentException" "java/util/NoSuchElementException" K.2.1) {d : Nat} (hd : 258 ≤ d) {a0 : Nat} {a1 : Nat} {a2 : Nat} {a3 : Nat} {i4 : Int32} (hx : e.1 a1 = some (11, 19)) (hm : e.1 a2 = some (12, 75)) {k : Nat} (hk : k + 1 ≤ 514) {k23 : Int32 → mm_V → Option (Int32 × mm_V)} (hk23 : ∀ (w4 : Int32) (m : mm_V) (r : Int32 × mm_V), k23 w4 m = some r → mm_G K (ML_law q) d (1011, 17440, .inl (some (.int r.1)), (e.1, r.2), none) 23 [some (.ref a0), some (.ref a1), some (.ref a2), some (.ref a3), some (.int w4), none, none, none] [] (e.1, m) none (493 + (k + 1)) (14332 + 6 * (k + 1))) {m : mm_V} {r : Int32 × mm_V} (hr : L_law_b286 e k23 a0 a1 a2 a3 i4 m = some r) : mm_G K (ML_law q) d (1011, 17440, .inl (some (.int r.1)), (e.1, r.2), none) 286 [some (.ref a0), some (.ref a1), some (.ref a2), some (.ref a3), some (.int i4), none, none, none] [] (e.1, m) none (493 + (k + 1)) (14332 + 6 * (k + 1)) := by
  obtain ⟨d, rfl⟩ : ∃ d', d = d' + 1 := ⟨d - 1, by omega⟩
  unfold L_law_b286 at hr
  refine mg_goto (pc := 286) 1713 dL_law_286 rfl ?_
  exact mg_cs (by omega) (by omega) (mg_weak (mm_le_s (mm_le_s (mm_le_s (mm_le_s (mm_le_s (mm_le_n (mm_le_n (mm_le_n mm_le_0)))))))) (L_law_b1713_ok hz hnc hd hx hm (by omega) hk23 hr))
def L_law_b233 (e : mm_E) (k23 : Int32 → mm_V → Option (Int32 × mm_V)) (a0 : Nat) (a1 : Nat) (a2 : Nat) (a3 : Nat) (i4 : Int32) (m : mm_V) : Option (Int32 × mm_V) := (mm_ai e.1 m 31 a0 (i4 + (1 : Int32))).bind fun x1 => (L_table e a1 x1 a3 m).bind fun r2 => (mm_ai e.1 r2.2 31 a0 (i4 + (1 : Int32))).bind fun x3 => (X12_table e a2 x3 r2.2).bind fun r4 => (X12_thrown e a2 r4.2).bind fun r5 => if r5.1 = r2.1 then (if ¬ r2.1 = 0 then (L_law_b286 e k23 a0 a1 a2 a3 i4  r5.2) else ((mm_al e.1 r5.2 a3 (0 : Int32)).bind fun y6 => if (lg_cmp y6 r4.1.toInt64) = 0 then (L_law_b286 e k23 a0 a1 a2 a3 i4  r5.2) else (mm_rz (0 : Int32) r5.2))) else (mm_rz (0 : Int32) r5.2)
theorem L_law_b233_ok {K : mm_K} {q : String × List (Nat × Nat × Nat × Nat)} {e : mm_E} (hz : e.2.1 = K.2.2.2.2) (hnc : va_Nc "java/lang/IllegalArgumentException" "java/util/NoSuchElementException" K.2.1) {d : Nat} (hd : 258 ≤ d) {a0 : Nat} {a1 : Nat} {a2 : Nat} {a3 : Nat} {i4 : Int32} (hx : e.1 a1 = some (11, 19)) (hm : e.1 a2 = some (12, 75)) {k : Nat} (hk : k + 1 ≤ 514) {k23 : Int32 → mm_V → Option (Int32 × mm_V)} (hk23 : ∀ (w4 : Int32) (m : mm_V) (r : Int32 × mm_V), k23 w4 m = some r → mm_G K (ML_law q) d (1011, 17440, .inl (some (.int r.1)), (e.1, r.2), none) 23 [some (.ref a0), some (.ref a1), some (.ref a2), some (.ref a3), some (.int w4), none, none, none] [] (e.1, m) none (493 + (k + 1)) (14332 + 6 * (k + 1))) {m : mm_V} {r : Int32 × mm_V} (hr : L_law_b233 e k23 a0 a1 a2 a3 i4 m = some r) : mm_G K (ML_law q) d (1011, 17440, .inl (some (.int r.1)), (e.1, r.2), none) 233 [some (.ref a0), some (.ref a1), some (.ref a2), some (.ref a3), some (.int i4), none, none, none] [] (e.1, m) none (493 + (k + 0)) (14332 + 6 * (k + 0)) := by
  obtain ⟨d, rfl⟩ : ∃ d', d = d' + 1 := ⟨d - 1, by omega⟩
  unfold L_law_b233 at hr
  refine ml_aload_n (pc := 233) dL_law_233 rfl (mm_get_s mm_get_0) ?_
  refine ml_aload_n (pc := 234) dL_law_234 rfl mm_get_0 ?_
  refine ml_iload (pc := 235) dL_law_235 (mm_get_s (mm_get_s (mm_get_s (mm_get_s mm_get_0)))) ?_
  refine mg_iconst (pc := 237) dL_law_237 kc_1 ?_
  refine mg_iadd (pc := 238) dL_law_238 ?_
  refine mb_ax (pc := 239) dL_law_239 hr (fun x1 hr => ?_)
  refine ml_aload_n (pc := 240) dL_law_240 rfl (mm_get_s (mm_get_s (mm_get_s mm_get_0))) ?_
  refine mb_wS (pc := 241) (As := [.ref a1, .int x1, .ref a3]) (rest := []) dL_law_241 cx_90 hr (fun v hv => L_table_ok hz hnc (by omega) hx hv) rfl (Nat.le_of_ble_eq_true rfl) (by show _ ≤ 1011; omega) (by show _ ≤ 17440; omega) (fun r2 hr => ?_)
  refine ml_istore (pc := 244) dL_law_244 (Nat.le_of_ble_eq_true rfl) (mm_st1_s (mm_st1_s (mm_st1_s (mm_st1_s mm_st1_i)))) ?_
  refine ml_aload_n (pc := 246) dL_law_246 rfl (mm_get_s (mm_get_s mm_get_0)) ?_
  refine ml_aload_n (pc := 247) dL_law_247 rfl mm_get_0 ?_
  refine ml_iload (pc := 248) dL_law_248 (mm_get_s (mm_get_s (mm_get_s (mm_get_s mm_get_0)))) ?_
  refine mg_iconst (pc := 250) dL_law_250 kc_1 ?_
  refine mg_iadd (pc := 251) dL_law_251 ?_
  refine mb_ax (pc := 252) dL_law_252 hr (fun x3 hr => ?_)
  refine mb_cVi (pc := 253) (As := [.int x3]) (rest := []) dL_law_253 cw_L_95 hm hr (fun v hv => X12_table_ok hz (by omega) hm hv) rfl (Nat.le_of_ble_eq_true rfl) (by show _ ≤ 1011; omega) (by show _ ≤ 17440; omega) (fun r4 hr => ?_)
  refine ml_istore (pc := 256) dL_law_256 (Nat.le_of_ble_eq_true rfl) (mm_st1_s (mm_st1_s (mm_st1_s (mm_st1_s (mm_st1_s mm_st1_i))))) ?_
  refine ml_aload_n (pc := 258) dL_law_258 rfl (mm_get_s (mm_get_s mm_get_0)) ?_
  refine mb_cVi (pc := 259) (As := []) (rest := []) dL_law_259 cw_L_96 hm hr (fun v hv => X12_thrown_ok hz (by omega) hm hv) rfl (Nat.le_of_ble_eq_true rfl) (by show _ ≤ 1011; omega) (by show _ ≤ 17440; omega) (fun r5 hr => ?_)
  refine ml_iload (pc := 262) dL_law_262 (mm_get_s (mm_get_s (mm_get_s (mm_get_s (mm_get_s mm_get_0))))) ?_
  refine mb_icmp_eq (pc := 264) 269 dL_law_264 rfl hr (fun hr => ?_) (fun hr => ?_)
  · refine ml_iload (pc := 269) dL_law_269 (mm_get_s (mm_get_s (mm_get_s (mm_get_s (mm_get_s mm_get_0))))) ?_
    refine mb_if_ne (pc := 271) 286 dL_law_271 rfl hr (fun hr => ?_) (fun hr => ?_)
    · exact mg_cs (by omega) (by omega) (mg_weak (mm_le_s (mm_le_s (mm_le_s (mm_le_s (mm_le_s (mm_le_n (mm_le_n (mm_le_n mm_le_0)))))))) (L_law_b286_ok hz hnc hd hx hm (by omega) hk23 hr))
    · refine ml_aload_n (pc := 274) dL_law_274 rfl (mm_get_s (mm_get_s (mm_get_s mm_get_0))) ?_
      refine mg_iconst (pc := 275) dL_law_275 kc_0 ?_
      refine mb_al (pc := 276) dL_law_276 hr (fun y6 hr => ?_)
      refine ml_iload (pc := 277) dL_law_277 (mm_get_s (mm_get_s (mm_get_s (mm_get_s (mm_get_s (mm_get_s mm_get_0)))))) ?_
      refine mg_i2l (pc := 279) dL_law_279 ?_
      refine mg_lcmp (pc := 280) dL_law_280 ?_
      refine mb_if_eq (pc := 281) 286 dL_law_281 rfl hr (fun hr => ?_) (fun hr => ?_)
      · exact mg_cs (by omega) (by omega) (mg_weak (mm_le_s (mm_le_s (mm_le_s (mm_le_s (mm_le_s (mm_le_n (mm_le_n (mm_le_n mm_le_0)))))))) (L_law_b286_ok hz hnc hd hx hm (by omega) hk23 hr))
      · refine mg_iconst (pc := 284) dL_law_284 kc_0 ?_
        exact mb_lwret dL_law_285 rfl rfl (by show _ ≤ 1011; omega) (by show _ ≤ 17440; omega) hr
  · refine mg_iconst (pc := 267) dL_law_267 kc_0 ?_
    exact mb_lwret dL_law_268 rfl rfl (by show _ ≤ 1011; omega) (by show _ ≤ 17440; omega) hr
def L_law_b160 (e : mm_E) (k23 : Int32 → mm_V → Option (Int32 × mm_V)) (a0 : Nat) (a1 : Nat) (a2 : Nat) (a3 : Nat) (i4 : Int32) (m : mm_V) : Option (Int32 × mm_V) := (mm_ai e.1 m 31 a0 (i4 + (1 : Int32))).bind fun x1 => (mm_ai e.1 m 31 a0 (i4 + (2 : Int32))).bind fun x2 => (mm_ai e.1 m 31 a0 (i4 + (3 : Int32))).bind fun x3 => (mm_ai e.1 m 31 a0 (i4 + (4 : Int32))).bind fun x4 => (mm_ai e.1 m 31 a0 (i4 + (5 : Int32))).bind fun x5 => (X11_feed e a1 x1 x2 x3 x4 x5 m).bind fun r6 => (mm_ai e.1 r6.2 31 a0 (i4 + (1 : Int32))).bind fun x7 => (mm_ai e.1 r6.2 31 a0 (i4 + (2 : Int32))).bind fun x8 => (mm_ai e.1 r6.2 31 a0 (i4 + (3 : Int32))).bind fun x9 => (mm_ai e.1 r6.2 31 a0 (i4 + (4 : Int32))).bind fun x10 => (mm_ai e.1 r6.2 31 a0 (i4 + (5 : Int32))).bind fun x11 => (X12_feed e a2 x7 x8 x9 x10 x11 r6.2).bind fun r12 => if r6.1 = r12.1 then (L_law_b1713 e k23 a0 a1 a2 a3 i4  r12.2) else (mm_rz (0 : Int32) r12.2)
theorem L_law_b160_ok {K : mm_K} {q : String × List (Nat × Nat × Nat × Nat)} {e : mm_E} (hz : e.2.1 = K.2.2.2.2) (hnc : va_Nc "java/lang/IllegalArgumentException" "java/util/NoSuchElementException" K.2.1) {d : Nat} (hd : 258 ≤ d) {a0 : Nat} {a1 : Nat} {a2 : Nat} {a3 : Nat} {i4 : Int32} (hx : e.1 a1 = some (11, 19)) (hm : e.1 a2 = some (12, 75)) {k : Nat} (hk : k + 1 ≤ 514) {k23 : Int32 → mm_V → Option (Int32 × mm_V)} (hk23 : ∀ (w4 : Int32) (m : mm_V) (r : Int32 × mm_V), k23 w4 m = some r → mm_G K (ML_law q) d (1011, 17440, .inl (some (.int r.1)), (e.1, r.2), none) 23 [some (.ref a0), some (.ref a1), some (.ref a2), some (.ref a3), some (.int w4), none, none, none] [] (e.1, m) none (493 + (k + 1)) (14332 + 6 * (k + 1))) {m : mm_V} {r : Int32 × mm_V} (hr : L_law_b160 e k23 a0 a1 a2 a3 i4 m = some r) : mm_G K (ML_law q) d (1011, 17440, .inl (some (.int r.1)), (e.1, r.2), none) 160 [some (.ref a0), some (.ref a1), some (.ref a2), some (.ref a3), some (.int i4), none, none, none] [] (e.1, m) none (493 + (k + 0)) (14332 + 6 * (k + 0)) := by
  obtain ⟨d, rfl⟩ : ∃ d', d = d' + 1 := ⟨d - 1, by omega⟩
  unfold L_law_b160 at hr
  refine ml_aload_n (pc := 160) dL_law_160 rfl (mm_get_s mm_get_0) ?_
  refine ml_aload_n (pc := 161) dL_law_161 rfl mm_get_0 ?_
  refine ml_iload (pc := 162) dL_law_162 (mm_get_s (mm_get_s (mm_get_s (mm_get_s mm_get_0)))) ?_
  refine mg_iconst (pc := 164) dL_law_164 kc_1 ?_
  refine mg_iadd (pc := 165) dL_law_165 ?_
  refine mb_ax (pc := 166) dL_law_166 hr (fun x1 hr => ?_)
  refine ml_aload_n (pc := 167) dL_law_167 rfl mm_get_0 ?_
  refine ml_iload (pc := 168) dL_law_168 (mm_get_s (mm_get_s (mm_get_s (mm_get_s mm_get_0)))) ?_
  refine mg_iconst (pc := 170) dL_law_170 kc_2 ?_
  refine mg_iadd (pc := 171) dL_law_171 ?_
  refine mb_ax (pc := 172) dL_law_172 hr (fun x2 hr => ?_)
  refine ml_aload_n (pc := 173) dL_law_173 rfl mm_get_0 ?_
  refine ml_iload (pc := 174) dL_law_174 (mm_get_s (mm_get_s (mm_get_s (mm_get_s mm_get_0)))) ?_
  refine mg_iconst (pc := 176) dL_law_176 kc_3 ?_
  refine mg_iadd (pc := 177) dL_law_177 ?_
  refine mb_ax (pc := 178) dL_law_178 hr (fun x3 hr => ?_)
  refine ml_aload_n (pc := 179) dL_law_179 rfl mm_get_0 ?_
  refine ml_iload (pc := 180) dL_law_180 (mm_get_s (mm_get_s (mm_get_s (mm_get_s mm_get_0)))) ?_
  refine mg_iconst (pc := 182) dL_law_182 kc_4 ?_
  refine mg_iadd (pc := 183) dL_law_183 ?_
  refine mb_ax (pc := 184) dL_law_184 hr (fun x4 hr => ?_)
  refine ml_aload_n (pc := 185) dL_law_185 rfl mm_get_0 ?_
  refine ml_iload (pc := 186) dL_law_186 (mm_get_s (mm_get_s (mm_get_s (mm_get_s mm_get_0)))) ?_
  refine mg_iconst (pc := 188) dL_law_188 kc_5 ?_
  refine mg_iadd (pc := 189) dL_law_189 ?_
  refine mb_ax (pc := 190) dL_law_190 hr (fun x5 hr => ?_)
  refine mb_cVi (pc := 191) (As := [.int x1, .int x2, .int x3, .int x4, .int x5]) (rest := []) dL_law_191 cw_L_85 hx hr (fun v hv => X11_feed_ok hz (by omega) hx hv) rfl (Nat.le_of_ble_eq_true rfl) (by show _ ≤ 1011; omega) (by show _ ≤ 17440; omega) (fun r6 hr => ?_)
  refine ml_aload_n (pc := 194) dL_law_194 rfl (mm_get_s (mm_get_s mm_get_0)) ?_
  refine ml_aload_n (pc := 195) dL_law_195 rfl mm_get_0 ?_
  refine ml_iload (pc := 196) dL_law_196 (mm_get_s (mm_get_s (mm_get_s (mm_get_s mm_get_0)))) ?_
  refine mg_iconst (pc := 198) dL_law_198 kc_1 ?_
  refine mg_iadd (pc := 199) dL_law_199 ?_
  refine mb_ax (pc := 200) dL_law_200 hr (fun x7 hr => ?_)
  refine ml_aload_n (pc := 201) dL_law_201 rfl mm_get_0 ?_
  refine ml_iload (pc := 202) dL_law_202 (mm_get_s (mm_get_s (mm_get_s (mm_get_s mm_get_0)))) ?_
  refine mg_iconst (pc := 204) dL_law_204 kc_2 ?_
  refine mg_iadd (pc := 205) dL_law_205 ?_
  refine mb_ax (pc := 206) dL_law_206 hr (fun x8 hr => ?_)
  refine ml_aload_n (pc := 207) dL_law_207 rfl mm_get_0 ?_
  refine ml_iload (pc := 208) dL_law_208 (mm_get_s (mm_get_s (mm_get_s (mm_get_s mm_get_0)))) ?_
  refine mg_iconst (pc := 210) dL_law_210 kc_3 ?_
  refine mg_iadd (pc := 211) dL_law_211 ?_
  refine mb_ax (pc := 212) dL_law_212 hr (fun x9 hr => ?_)
  refine ml_aload_n (pc := 213) dL_law_213 rfl mm_get_0 ?_
  refine ml_iload (pc := 214) dL_law_214 (mm_get_s (mm_get_s (mm_get_s (mm_get_s mm_get_0)))) ?_
  refine mg_iconst (pc := 216) dL_law_216 kc_4 ?_
  refine mg_iadd (pc := 217) dL_law_217 ?_
  refine mb_ax (pc := 218) dL_law_218 hr (fun x10 hr => ?_)
  refine ml_aload_n (pc := 219) dL_law_219 rfl mm_get_0 ?_
  refine ml_iload (pc := 220) dL_law_220 (mm_get_s (mm_get_s (mm_get_s (mm_get_s mm_get_0)))) ?_
  refine mg_iconst (pc := 222) dL_law_222 kc_5 ?_
  refine mg_iadd (pc := 223) dL_law_223 ?_
  refine mb_ax (pc := 224) dL_law_224 hr (fun x11 hr => ?_)
  refine mb_cVi (pc := 225) (As := [.int x7, .int x8, .int x9, .int x10, .int x11]) (rest := [.int r6.1]) dL_law_225 cw_L_89 hm hr (fun v hv => X12_feed_ok hz (by omega) hm hv) rfl (Nat.le_of_ble_eq_true rfl) (by show _ ≤ 1011; omega) (by show _ ≤ 17440; omega) (fun r12 hr => ?_)
  refine mb_icmp_eq (pc := 228) 1713 dL_law_228 rfl hr (fun hr => ?_) (fun hr => ?_)
  · exact mg_cs (by omega) (by omega) (mg_weak (mm_le_s (mm_le_s (mm_le_s (mm_le_s (mm_le_s (mm_le_n (mm_le_n (mm_le_n mm_le_0)))))))) (L_law_b1713_ok hz hnc hd hx hm (by omega) hk23 hr))
  · refine mg_iconst (pc := 231) dL_law_231 kc_0 ?_
    exact mb_lwret dL_law_232 rfl rfl (by show _ ≤ 1011; omega) (by show _ ≤ 17440; omega) hr
def L_law_L23 (e : mm_E) (a0 a1 a2 a3 : Nat) : Nat → Int32 → mm_V → Option (Int32 × mm_V)
  | 0, _, _ => none
  | n + 1, i4, m => (mm_lx e.1 a0).bind fun x1 => if (x1 - (6 : Int32)) < i4 then (mm_rz (1 : Int32) m) else ((mm_ai e.1 m 31 a0 i4).bind fun x2 => if (x2 &&& (31 : Int32)) = (0 : Int32) then (L_law_b160 e (L_law_L23 e a0 a1 a2 a3 n) a0 a1 a2 a3 i4  m) else (if (x2 &&& (31 : Int32)) = (1 : Int32) then (L_law_b233 e (L_law_L23 e a0 a1 a2 a3 n) a0 a1 a2 a3 i4  m) else (if (x2 &&& (31 : Int32)) = (2 : Int32) then (L_law_b289 e (L_law_L23 e a0 a1 a2 a3 n) a0 a1 a2 a3 i4  m) else (if (x2 &&& (31 : Int32)) = (3 : Int32) then (L_law_b302 e (L_law_L23 e a0 a1 a2 a3 n) a0 a1 a2 a3 i4  m) else (if (x2 &&& (31 : Int32)) = (4 : Int32) then (L_law_b358 e (L_law_L23 e a0 a1 a2 a3 n) a0 a1 a2 a3 i4  m) else (if (x2 &&& (31 : Int32)) = (5 : Int32) then (L_law_b426 e (L_law_L23 e a0 a1 a2 a3 n) a0 a1 a2 a3 i4  m) else (if (x2 &&& (31 : Int32)) = (6 : Int32) then (L_law_b494 e (L_law_L23 e a0 a1 a2 a3 n) a0 a1 a2 a3 i4  m) else (if (x2 &&& (31 : Int32)) = (7 : Int32) then (L_law_b519 e (L_law_L23 e a0 a1 a2 a3 n) a0 a1 a2 a3 i4  m) else (if (x2 &&& (31 : Int32)) = (8 : Int32) then (L_law_b575 e (L_law_L23 e a0 a1 a2 a3 n) a0 a1 a2 a3 i4  m) else (if (x2 &&& (31 : Int32)) = (9 : Int32) then (L_law_b588 e (L_law_L23 e a0 a1 a2 a3 n) a0 a1 a2 a3 i4  m) else (if (x2 &&& (31 : Int32)) = (10 : Int32) then (L_law_b644 e (L_law_L23 e a0 a1 a2 a3 n) a0 a1 a2 a3 i4  m) else (if (x2 &&& (31 : Int32)) = (11 : Int32) then (L_law_b728 e (L_law_L23 e a0 a1 a2 a3 n) a0 a1 a2 a3 i4  m) else (if (x2 &&& (31 : Int32)) = (12 : Int32) then (L_law_b807 e (L_law_L23 e a0 a1 a2 a3 n) a0 a1 a2 a3 i4  m) else (if (x2 &&& (31 : Int32)) = (13 : Int32) then (L_law_b902 e (L_law_L23 e a0 a1 a2 a3 n) a0 a1 a2 a3 i4  m) else (if (x2 &&& (31 : Int32)) = (14 : Int32) then (L_law_b970 e (L_law_L23 e a0 a1 a2 a3 n) a0 a1 a2 a3 i4  m) else (if (x2 &&& (31 : Int32)) = (15 : Int32) then (L_law_b1037 e (L_law_L23 e a0 a1 a2 a3 n) a0 a1 a2 a3 i4  m) else (if (x2 &&& (31 : Int32)) = (16 : Int32) then (L_law_b1117 e (L_law_L23 e a0 a1 a2 a3 n) a0 a1 a2 a3 i4  m) else (if (x2 &&& (31 : Int32)) = (17 : Int32) then (L_law_b1185 e (L_law_L23 e a0 a1 a2 a3 n) a0 a1 a2 a3 i4  m) else (if (x2 &&& (31 : Int32)) = (18 : Int32) then (L_law_b1253 e (L_law_L23 e a0 a1 a2 a3 n) a0 a1 a2 a3 i4  m) else (if (x2 &&& (31 : Int32)) = (19 : Int32) then (L_law_b1373 e (L_law_L23 e a0 a1 a2 a3 n) a0 a1 a2 a3 i4  m) else (if (x2 &&& (31 : Int32)) = (20 : Int32) then (L_law_b1429 e (L_law_L23 e a0 a1 a2 a3 n) a0 a1 a2 a3 i4  m) else (if (x2 &&& (31 : Int32)) = (21 : Int32) then (L_law_b1485 e (L_law_L23 e a0 a1 a2 a3 n) a0 a1 a2 a3 i4  m) else (if (x2 &&& (31 : Int32)) = (22 : Int32) then (L_law_b1541 e (L_law_L23 e a0 a1 a2 a3 n) a0 a1 a2 a3 i4  m) else (if (x2 &&& (31 : Int32)) = (23 : Int32) then (L_law_b1609 e (L_law_L23 e a0 a1 a2 a3 n) a0 a1 a2 a3 i4  m) else (if (x2 &&& (31 : Int32)) = (24 : Int32) then (L_law_b1689 e (L_law_L23 e a0 a1 a2 a3 n) a0 a1 a2 a3 i4  m) else (if (x2 &&& (31 : Int32)) = (25 : Int32) then (L_law_b1700 e (L_law_L23 e a0 a1 a2 a3 n) a0 a1 a2 a3 i4  m) else (L_law_b1713 e (L_law_L23 e a0 a1 a2 a3 n) a0 a1 a2 a3 i4  m)))))))))))))))))))))))))))
theorem L_law_L23_ok {K : mm_K} {q : String × List (Nat × Nat × Nat × Nat)} {e : mm_E} (hz : e.2.1 = K.2.2.2.2) (hnc : va_Nc "java/lang/IllegalArgumentException" "java/util/NoSuchElementException" K.2.1) {d : Nat} (hd : 258 ≤ d) {a0 a1 a2 a3 : Nat} (hx : e.1 a1 = some (11, 19)) (hm : e.1 a2 = some (12, 75)) : ∀ (n k : Nat) (i4 : Int32) (m : mm_V) (r : Int32 × mm_V) (hk : k + n = 514), L_law_L23 e a0 a1 a2 a3 n i4 m = some r → mm_G K (ML_law q) d (1011, 17440, .inl (some (.int r.1)), (e.1, r.2), none) 23 [some (.ref a0), some (.ref a1), some (.ref a2), some (.ref a3), some (.int i4), none, none, none] [] (e.1, m) none (493 + k) (14332 + 6 * k) := by
  obtain ⟨d, rfl⟩ : ∃ d', d = d' + 1 := ⟨d - 1, by omega⟩
  intro n
  induction n with
  | zero => intro k i4 m r hk hr; unfold L_law_L23 at hr; cases hr
  | succ n ih =>
    intro k i4 m r hk hr
    unfold L_law_L23 at hr
    refine ml_iload (pc := 23) dL_law_23 (mm_get_s (mm_get_s (mm_get_s (mm_get_s mm_get_0)))) ?_
    refine ml_aload_n (pc := 25) dL_law_25 rfl mm_get_0 ?_
    refine mb_lx (pc := 26) dL_law_26 hr (fun x1 hr => ?_)
    refine mg_bipush (pc := 27) dL_law_27 kb_6 ?_
    refine mg_isub (pc := 29) dL_law_29 ?_
    refine mb_icmp_gt (pc := 30) 1719 dL_law_30 rfl hr (fun hr => ?_) (fun hr => ?_)
    · refine mg_iconst (pc := 1719) dL_law_1719 kc_1 ?_
      exact mb_lwret dL_law_1720 rfl rfl (by show _ ≤ 1011; omega) (by show _ ≤ 17440; omega) hr
    · refine ml_aload_n (pc := 33) dL_law_33 rfl mm_get_0 ?_
      refine ml_iload (pc := 34) dL_law_34 (mm_get_s (mm_get_s (mm_get_s (mm_get_s mm_get_0)))) ?_
      refine mb_ax (pc := 36) dL_law_36 hr (fun x2 hr => ?_)
      refine mg_bipush (pc := 37) dL_law_37 kb_31 ?_
      refine mg_iand (pc := 39) dL_law_39 ?_
      refine mb_ite hr (fun hc hr => ?_) (fun hc3 hr => ?_)
      · refine mg_tableK (pc := 40) (120) 160 dL_law_40 hc (by decide +kernel) rfl ?_
        exact mg_cs (by omega) (by omega) (mg_weak (mm_le_s (mm_le_s (mm_le_s (mm_le_s (mm_le_s (mm_le_n (mm_le_n (mm_le_n mm_le_0)))))))) (L_law_b160_ok hz hnc hd hx hm (by omega) (fun i m r hr => ih (k + 1) i m r (by omega) hr) hr))
      refine mb_ite hr (fun hc hr => ?_) (fun hc4 hr => ?_)
      · refine mg_tableK (pc := 40) (193) 233 dL_law_40 hc (by decide +kernel) rfl ?_
        exact mg_cs (by omega) (by omega) (mg_weak (mm_le_s (mm_le_s (mm_le_s (mm_le_s (mm_le_s (mm_le_n (mm_le_n (mm_le_n mm_le_0)))))))) (L_law_b233_ok hz hnc hd hx hm (by omega) (fun i m r hr => ih (k + 1) i m r (by omega) hr) hr))
      refine mb_ite hr (fun hc hr => ?_) (fun hc5 hr => ?_)
      · refine mg_tableK (pc := 40) (249) 289 dL_law_40 hc (by decide +kernel) rfl ?_
        exact mg_cs (by omega) (by omega) (mg_weak (mm_le_s (mm_le_s (mm_le_s (mm_le_s (mm_le_s (mm_le_n (mm_le_n (mm_le_n mm_le_0)))))))) (L_law_b289_ok hz hnc hd hx hm (by omega) (fun i m r hr => ih (k + 1) i m r (by omega) hr) hr))
      refine mb_ite hr (fun hc hr => ?_) (fun hc6 hr => ?_)
      · refine mg_tableK (pc := 40) (262) 302 dL_law_40 hc (by decide +kernel) rfl ?_
        exact mg_cs (by omega) (by omega) (mg_weak (mm_le_s (mm_le_s (mm_le_s (mm_le_s (mm_le_s (mm_le_n (mm_le_n (mm_le_n mm_le_0)))))))) (L_law_b302_ok hz hnc hd hx hm (by omega) (fun i m r hr => ih (k + 1) i m r (by omega) hr) hr))
      refine mb_ite hr (fun hc hr => ?_) (fun hc7 hr => ?_)
      · refine mg_tableK (pc := 40) (318) 358 dL_law_40 hc (by decide +kernel) rfl ?_
        exact mg_cs (by omega) (by omega) (mg_weak (mm_le_s (mm_le_s (mm_le_s (mm_le_s (mm_le_s (mm_le_n (mm_le_n (mm_le_n mm_le_0)))))))) (L_law_b358_ok hz hnc hd hx hm (by omega) (fun i m r hr => ih (k + 1) i m r (by omega) hr) hr))
      refine mb_ite hr (fun hc hr => ?_) (fun hc8 hr => ?_)
      · refine mg_tableK (pc := 40) (386) 426 dL_law_40 hc (by decide +kernel) rfl ?_
        exact mg_cs (by omega) (by omega) (mg_weak (mm_le_s (mm_le_s (mm_le_s (mm_le_s (mm_le_s (mm_le_n (mm_le_n (mm_le_n mm_le_0)))))))) (L_law_b426_ok hz hnc hd hx hm (by omega) (fun i m r hr => ih (k + 1) i m r (by omega) hr) hr))
      refine mb_ite hr (fun hc hr => ?_) (fun hc9 hr => ?_)
      · refine mg_tableK (pc := 40) (454) 494 dL_law_40 hc (by decide +kernel) rfl ?_
        exact mg_cs (by omega) (by omega) (mg_weak (mm_le_s (mm_le_s (mm_le_s (mm_le_s (mm_le_s (mm_le_n (mm_le_n (mm_le_n mm_le_0)))))))) (L_law_b494_ok hz hnc hd hx hm (by omega) (fun i m r hr => ih (k + 1) i m r (by omega) hr) hr))
      refine mb_ite hr (fun hc hr => ?_) (fun hc10 hr => ?_)
      · refine mg_tableK (pc := 40) (479) 519 dL_law_40 hc (by decide +kernel) rfl ?_
        exact mg_cs (by omega) (by omega) (mg_weak (mm_le_s (mm_le_s (mm_le_s (mm_le_s (mm_le_s (mm_le_n (mm_le_n (mm_le_n mm_le_0)))))))) (L_law_b519_ok hz hnc hd hx hm (by omega) (fun i m r hr => ih (k + 1) i m r (by omega) hr) hr))
      refine mb_ite hr (fun hc hr => ?_) (fun hc11 hr => ?_)
      · refine mg_tableK (pc := 40) (535) 575 dL_law_40 hc (by decide +kernel) rfl ?_
        exact mg_cs (by omega) (by omega) (mg_weak (mm_le_s (mm_le_s (mm_le_s (mm_le_s (mm_le_s (mm_le_n (mm_le_n (mm_le_n mm_le_0)))))))) (L_law_b575_ok hz hnc hd hx hm (by omega) (fun i m r hr => ih (k + 1) i m r (by omega) hr) hr))
      refine mb_ite hr (fun hc hr => ?_) (fun hc12 hr => ?_)
      · refine mg_tableK (pc := 40) (548) 588 dL_law_40 hc (by decide +kernel) rfl ?_
        exact mg_cs (by omega) (by omega) (mg_weak (mm_le_s (mm_le_s (mm_le_s (mm_le_s (mm_le_s (mm_le_n (mm_le_n (mm_le_n mm_le_0)))))))) (L_law_b588_ok hz hnc hd hx hm (by omega) (fun i m r hr => ih (k + 1) i m r (by omega) hr) hr))
      refine mb_ite hr (fun hc hr => ?_) (fun hc13 hr => ?_)
      · refine mg_tableK (pc := 40) (604) 644 dL_law_40 hc (by decide +kernel) rfl ?_
        exact mg_cs (by omega) (by omega) (mg_weak (mm_le_s (mm_le_s (mm_le_s (mm_le_s (mm_le_s (mm_le_n (mm_le_n (mm_le_n mm_le_0)))))))) (L_law_b644_ok hz hnc hd hx hm (by omega) (fun i m r hr => ih (k + 1) i m r (by omega) hr) hr))
      refine mb_ite hr (fun hc hr => ?_) (fun hc14 hr => ?_)
      · refine mg_tableK (pc := 40) (688) 728 dL_law_40 hc (by decide +kernel) rfl ?_
        exact mg_cs (by omega) (by omega) (mg_weak (mm_le_s (mm_le_s (mm_le_s (mm_le_s (mm_le_s (mm_le_n (mm_le_n (mm_le_n mm_le_0)))))))) (L_law_b728_ok hz hnc hd hx hm (by omega) (fun i m r hr => ih (k + 1) i m r (by omega) hr) hr))
      refine mb_ite hr (fun hc hr => ?_) (fun hc15 hr => ?_)
      · refine mg_tableK (pc := 40) (767) 807 dL_law_40 hc (by decide +kernel) rfl ?_
        exact mg_cs (by omega) (by omega) (mg_weak (mm_le_s (mm_le_s (mm_le_s (mm_le_s (mm_le_s (mm_le_n (mm_le_n (mm_le_n mm_le_0)))))))) (L_law_b807_ok hz hnc hd hx hm (by omega) (fun i m r hr => ih (k + 1) i m r (by omega) hr) hr))
      refine mb_ite hr (fun hc hr => ?_) (fun hc16 hr => ?_)
      · refine mg_tableK (pc := 40) (862) 902 dL_law_40 hc (by decide +kernel) rfl ?_
        exact mg_cs (by omega) (by omega) (mg_weak (mm_le_s (mm_le_s (mm_le_s (mm_le_s (mm_le_s (mm_le_n (mm_le_n (mm_le_n mm_le_0)))))))) (L_law_b902_ok hz hnc hd hx hm (by omega) (fun i m r hr => ih (k + 1) i m r (by omega) hr) hr))
      refine mb_ite hr (fun hc hr => ?_) (fun hc17 hr => ?_)
      · refine mg_tableK (pc := 40) (930) 970 dL_law_40 hc (by decide +kernel) rfl ?_
        exact mg_cs (by omega) (by omega) (mg_weak (mm_le_s (mm_le_s (mm_le_s (mm_le_s (mm_le_s (mm_le_n (mm_le_n (mm_le_n mm_le_0)))))))) (L_law_b970_ok hz hnc hd hx hm (by omega) (fun i m r hr => ih (k + 1) i m r (by omega) hr) hr))
      refine mb_ite hr (fun hc hr => ?_) (fun hc18 hr => ?_)
      · refine mg_tableK (pc := 40) (997) 1037 dL_law_40 hc (by decide +kernel) rfl ?_
        exact mg_cs (by omega) (by omega) (mg_weak (mm_le_s (mm_le_s (mm_le_s (mm_le_s (mm_le_s (mm_le_n (mm_le_n (mm_le_n mm_le_0)))))))) (L_law_b1037_ok hz hnc hd hx hm (by omega) (fun i m r hr => ih (k + 1) i m r (by omega) hr) hr))
      refine mb_ite hr (fun hc hr => ?_) (fun hc19 hr => ?_)
      · refine mg_tableK (pc := 40) (1077) 1117 dL_law_40 hc (by decide +kernel) rfl ?_
        exact mg_cs (by omega) (by omega) (mg_weak (mm_le_s (mm_le_s (mm_le_s (mm_le_s (mm_le_s (mm_le_n (mm_le_n (mm_le_n mm_le_0)))))))) (L_law_b1117_ok hz hnc hd hx hm (by omega) (fun i m r hr => ih (k + 1) i m r (by omega) hr) hr))
      refine mb_ite hr (fun hc hr => ?_) (fun hc20 hr => ?_)
      · refine mg_tableK (pc := 40) (1145) 1185 dL_law_40 hc (by decide +kernel) rfl ?_
        exact mg_cs (by omega) (by omega) (mg_weak (mm_le_s (mm_le_s (mm_le_s (mm_le_s (mm_le_s (mm_le_n (mm_le_n (mm_le_n mm_le_0)))))))) (L_law_b1185_ok hz hnc hd hx hm (by omega) (fun i m r hr => ih (k + 1) i m r (by omega) hr) hr))
      refine mb_ite hr (fun hc hr => ?_) (fun hc21 hr => ?_)
      · refine mg_tableK (pc := 40) (1213) 1253 dL_law_40 hc (by decide +kernel) rfl ?_
        exact mg_cs (by omega) (by omega) (mg_weak (mm_le_s (mm_le_s (mm_le_s (mm_le_s (mm_le_s (mm_le_n (mm_le_n (mm_le_n mm_le_0)))))))) (L_law_b1253_ok hz hnc hd hx hm (by omega) (fun i m r hr => ih (k + 1) i m r (by omega) hr) hr))
      refine mb_ite hr (fun hc hr => ?_) (fun hc22 hr => ?_)
      · refine mg_tableK (pc := 40) (1333) 1373 dL_law_40 hc (by decide +kernel) rfl ?_
        exact mg_cs (by omega) (by omega) (mg_weak (mm_le_s (mm_le_s (mm_le_s (mm_le_s (mm_le_s (mm_le_n (mm_le_n (mm_le_n mm_le_0)))))))) (L_law_b1373_ok hz hnc hd hx hm (by omega) (fun i m r hr => ih (k + 1) i m r (by omega) hr) hr))
      refine mb_ite hr (fun hc hr => ?_) (fun hc23 hr => ?_)
      · refine mg_tableK (pc := 40) (1389) 1429 dL_law_40 hc (by decide +kernel) rfl ?_
        exact mg_cs (by omega) (by omega) (mg_weak (mm_le_s (mm_le_s (mm_le_s (mm_le_s (mm_le_s (mm_le_n (mm_le_n (mm_le_n mm_le_0)))))))) (L_law_b1429_ok hz hnc hd hx hm (by omega) (fun i m r hr => ih (k + 1) i m r (by omega) hr) hr))
      refine mb_ite hr (fun hc hr => ?_) (fun hc24 hr => ?_)
      · refine mg_tableK (pc := 40) (1445) 1485 dL_law_40 hc (by decide +kernel) rfl ?_
        exact mg_cs (by omega) (by omega) (mg_weak (mm_le_s (mm_le_s (mm_le_s (mm_le_s (mm_le_s (mm_le_n (mm_le_n (mm_le_n mm_le_0)))))))) (L_law_b1485_ok hz hnc hd hx hm (by omega) (fun i m r hr => ih (k + 1) i m r (by omega) hr) hr))
      refine mb_ite hr (fun hc hr => ?_) (fun hc25 hr => ?_)
      · refine mg_tableK (pc := 40) (1501) 1541 dL_law_40 hc (by decide +kernel) rfl ?_
        exact mg_cs (by omega) (by omega) (mg_weak (mm_le_s (mm_le_s (mm_le_s (mm_le_s (mm_le_s (mm_le_n (mm_le_n (mm_le_n mm_le_0)))))))) (L_law_b1541_ok hz hnc hd hx hm (by omega) (fun i m r hr => ih (k + 1) i m r (by omega) hr) hr))
      refine mb_ite hr (fun hc hr => ?_) (fun hc26 hr => ?_)
      · refine mg_tableK (pc := 40) (1569) 1609 dL_law_40 hc (by decide +kernel) rfl ?_
        exact mg_cs (by omega) (by omega) (mg_weak (mm_le_s (mm_le_s (mm_le_s (mm_le_s (mm_le_s (mm_le_n (mm_le_n (mm_le_n mm_le_0)))))))) (L_law_b1609_ok hz hnc hd hx hm (by omega) (fun i m r hr => ih (k + 1) i m r (by omega) hr) hr))
      refine mb_ite hr (fun hc hr => ?_) (fun hc27 hr => ?_)
      · refine mg_tableK (pc := 40) (1649) 1689 dL_law_40 hc (by decide +kernel) rfl ?_
        exact mg_cs (by omega) (by omega) (mg_weak (mm_le_s (mm_le_s (mm_le_s (mm_le_s (mm_le_s (mm_le_n (mm_le_n (mm_le_n mm_le_0)))))))) (L_law_b1689_ok hz hnc hd hx hm (by omega) (fun i m r hr => ih (k + 1) i m r (by omega) hr) hr))
      refine mb_ite hr (fun hc hr => ?_) (fun hc28 hr => ?_)
      · refine mg_tableK (pc := 40) (1660) 1700 dL_law_40 hc (by decide +kernel) rfl ?_
        exact mg_cs (by omega) (by omega) (mg_weak (mm_le_s (mm_le_s (mm_le_s (mm_le_s (mm_le_s (mm_le_n (mm_le_n (mm_le_n mm_le_0)))))))) (L_law_b1700_ok hz hnc hd hx hm (by omega) (fun i m r hr => ih (k + 1) i m r (by omega) hr) hr))
      refine mg_tableD (pc := 40) 1713 dL_law_40 ((mm_nin_c hc3 (mm_nin_c hc4 (mm_nin_c hc5 (mm_nin_c hc6 (mm_nin_c hc7 (mm_nin_c hc8 (mm_nin_c hc9 (mm_nin_c hc10 (mm_nin_c hc11 (mm_nin_c hc12 (mm_nin_c hc13 (mm_nin_c hc14 (mm_nin_c hc15 (mm_nin_c hc16 (mm_nin_c hc17 (mm_nin_c hc18 (mm_nin_c hc19 (mm_nin_c hc20 (mm_nin_c hc21 (mm_nin_c hc22 (mm_nin_c hc23 (mm_nin_c hc24 (mm_nin_c hc25 (mm_nin_c hc26 (mm_nin_c hc27 (mm_nin_c hc28 mm_nin_0)))))))))))))))))))))))))) : ∀ y ∈ [(0 : Int32), (1 : Int32), (2 : Int32), (3 : Int32), (4 : Int32), (5 : Int32), (6 : Int32), (7 : Int32), (8 : Int32), (9 : Int32), (10 : Int32), (11 : Int32), (12 : Int32), (13 : Int32), (14 : Int32), (15 : Int32), (16 : Int32), (17 : Int32), (18 : Int32), (19 : Int32), (20 : Int32), (21 : Int32), (22 : Int32), (23 : Int32), (24 : Int32), (25 : Int32)], ¬ (x2 &&& (31 : Int32)) = y) (by decide +kernel) rfl ?_
      exact mg_cs (by omega) (by omega) (mg_weak (mm_le_s (mm_le_s (mm_le_s (mm_le_s (mm_le_s (mm_le_n (mm_le_n (mm_le_n mm_le_0)))))))) (L_law_b1713_ok hz hnc hd hx hm (by omega) (fun i m r hr => ih (k + 1) i m r (by omega) hr) hr))
