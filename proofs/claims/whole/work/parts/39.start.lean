/-! The law's entry: what the Statement gives. -/
def R_law : String := "SootQueenLaw"
def lw_P (b : Addr) (xs : List Int32) (args : Array Value) (s : State) : Prop := args = #[.ref b] ∧ s.IntsAt b xs ∧ xs.length ≤ 3072 ∧ (Jvm.Cond.and given_1 narrow_1).before args s = true
def lw_Q (_ : Array Value) (s : State) (o : Outcome) (t : State) : Prop := o = .returned (some (.int 1)) ∧ Framed s o t [] 601024 7293034
def lw_Z (below : List Frame) (a : Array Value) (s : State) : State → Prop := fun t => ∃ o, t.status = .running ∧ Ended t below o ∧ lw_Q a s o t
def lw_At (p : Program) (s : State) (m : MethodId) (meth : Method) (c : Code) (b L : Nat) (xs : Nat → Int32) : Prop :=
  p.tables.exec = Jvm.exec ∧ c.code = code ∧ meth.sig.returnType = ret ∧ c.maxLocals = 8 ∧ s.vm.findClass R_law = some m.cls ∧ (∀ w ∈ lw_tbl, w.before #[Value.ref b] s = true) ∧ va_X b L xs s s.heap ∧ b < s.heap.size ∧ meth.locks = false ∧ (Jvm.Cond.and given_1 narrow_1).before #[Value.ref b] s = true
def ls_flat : List Cond := flatC (Jvm.Cond.and given_1 narrow_1)
def ls_tm (i : Nat) : Term := Term.string (mm_sc i).1 (mm_sc i).2.1
theorem ls_ex_p : ∀ i : Fin 17, ls_flat[([39, 49, 59, 69, 79, 92, 106, 122, 138, 153, 170, 187, 206, 224, 245, 267, 288] : List Nat).getD i 0]? = some (Cond.exactly (ls_tm i) "java/lang/String") := by decide +kernel
theorem ls_ex : ∀ i : Fin 17, Cond.exactly (ls_tm i) "java/lang/String" ∈ ls_flat := fun i => List.mem_of_getElem? (ls_ex_p i)
theorem ls_co_p : ∀ i : Fin 17, ls_flat[([40, 50, 60, 70, 80, 93, 107, 123, 139, 154, 171, 188, 207, 225, 246, 268, 289] : List Nat).getD i 0]? = some (Cond.eq (.field (ls_tm i) "java/lang/String" "coder" "B") (.int 0)) := by decide +kernel
theorem ls_co : ∀ i : Fin 17, Cond.eq (.field (ls_tm i) "java/lang/String" "coder" "B") (.int 0) ∈ ls_flat := fun i => List.mem_of_getElem? (ls_co_p i)
theorem ls_ar_p : ∀ i : Fin 17, ls_flat[([41, 51, 61, 71, 81, 94, 108, 124, 140, 155, 172, 189, 208, 226, 247, 269, 290] : List Nat).getD i 0]? = some (Cond.arrayOf (.field (ls_tm i) "java/lang/String" "value" "[B") .byte) := by decide +kernel
theorem ls_ar : ∀ i : Fin 17, Cond.arrayOf (.field (ls_tm i) "java/lang/String" "value" "[B") .byte ∈ ls_flat := fun i => List.mem_of_getElem? (ls_ar_p i)
theorem ls_le_p : ∀ i : Fin 17, ls_flat[([42, 52, 62, 72, 82, 95, 109, 125, 141, 156, 173, 190, 209, 227, 248, 270, 291] : List Nat).getD i 0]? = some (Cond.eq (.length (.field (ls_tm i) "java/lang/String" "value" "[B")) (.int (Int32.ofNat (mm_sl.getD i 0)))) := by decide +kernel
theorem ls_le : ∀ i : Fin 17, Cond.eq (.length (.field (ls_tm i) "java/lang/String" "value" "[B")) (.int (Int32.ofNat (mm_sl.getD i 0))) ∈ ls_flat := fun i => List.mem_of_getElem? (ls_le_p i)
theorem ls_el_p : ∀ i : Fin 17, ∀ j : Fin 7, j.val < mm_sl.getD i 0 → ls_flat[(([[43, 44, 45, 46, 47, 48], [53, 54, 55, 56, 57], [63, 64, 65, 66], [73, 74, 75], [83, 84, 85, 86, 87], [96, 97, 98, 99, 100], [110, 111, 112, 113, 114, 115], [126, 127, 128, 129, 130], [142, 143, 144], [157, 158, 159, 160], [174, 175, 176], [191, 192, 193, 194], [210, 211], [228, 229, 230, 231], [249, 250, 251, 252], [271, 272], [292, 293, 294]] : List (List Nat)).getD i []).getD j 0]? = some (Cond.eq (.elem (.field (ls_tm i) "java/lang/String" "value" "[B") (.int (Int32.ofNat j))) (.int ((mm_sb.getD i []).getD j 0))) := by decide +kernel
theorem ls_el : ∀ i : Fin 17, ∀ j : Fin 7, j.val < mm_sl.getD i 0 → Cond.eq (.elem (.field (ls_tm i) "java/lang/String" "value" "[B") (.int (Int32.ofNat j))) (.int ((mm_sb.getD i []).getD j 0)) ∈ ls_flat := fun i j h => List.mem_of_getElem? (ls_el_p i j h)
def ls_np : List (List Nat) := [[0, 58, 67, 76, 88, 101, 116, 131, 145, 161, 177, 195, 212, 232, 253, 273, 295], [58, 0, 68, 77, 89, 102, 117, 132, 146, 162, 178, 196, 213, 233, 254, 274, 296], [67, 68, 0, 78, 90, 103, 118, 133, 147, 163, 179, 197, 214, 234, 255, 275, 297], [76, 77, 78, 0, 91, 104, 119, 134, 148, 164, 180, 198, 215, 235, 256, 276, 298], [88, 89, 90, 91, 0, 105, 120, 135, 149, 165, 181, 199, 216, 236, 257, 277, 299], [101, 102, 103, 104, 105, 0, 121, 136, 150, 166, 182, 200, 217, 237, 258, 278, 300], [116, 117, 118, 119, 120, 121, 0, 137, 151, 167, 183, 201, 218, 238, 259, 279, 301], [131, 132, 133, 134, 135, 136, 137, 0, 152, 168, 184, 202, 219, 239, 260, 280, 302], [145, 146, 147, 148, 149, 150, 151, 152, 0, 169, 185, 203, 220, 240, 261, 281, 303], [161, 162, 163, 164, 165, 166, 167, 168, 169, 0, 186, 204, 221, 241, 262, 282, 304], [177, 178, 179, 180, 181, 182, 183, 184, 185, 186, 0, 205, 222, 242, 263, 283, 305], [195, 196, 197, 198, 199, 200, 201, 202, 203, 204, 205, 0, 223, 243, 264, 284, 306], [212, 213, 214, 215, 216, 217, 218, 219, 220, 221, 222, 223, 0, 244, 265, 285, 307], [232, 233, 234, 235, 236, 237, 238, 239, 240, 241, 242, 243, 244, 0, 266, 286, 308], [253, 254, 255, 256, 257, 258, 259, 260, 261, 262, 263, 264, 265, 266, 0, 287, 309], [273, 274, 275, 276, 277, 278, 279, 280, 281, 282, 283, 284, 285, 286, 287, 0, 310], [295, 296, 297, 298, 299, 300, 301, 302, 303, 304, 305, 306, 307, 308, 309, 310, 0]]
theorem ls_ne_p : ∀ i : Fin 17, ∀ j : Fin 17, i.val < j.val → ls_flat[(ls_np.getD i []).getD j 0]? = some (Cond.not (Cond.eq (ls_tm i) (ls_tm j))) ∨ ls_flat[(ls_np.getD i []).getD j 0]? = some (Cond.not (Cond.eq (ls_tm j) (ls_tm i))) := by decide +kernel
theorem ls_ne (i j : Nat) (hi : i < 17) (hj : j < 17) (hne : i ≠ j) : Cond.not (Cond.eq (ls_tm i) (ls_tm j)) ∈ ls_flat ∨ Cond.not (Cond.eq (ls_tm j) (ls_tm i)) ∈ ls_flat := by
  rcases Nat.lt_or_gt_of_ne hne with h | h
  · exact (ls_ne_p ⟨i, hi⟩ ⟨j, hj⟩ h).imp List.mem_of_getElem? List.mem_of_getElem?
  · exact ((ls_ne_p ⟨j, hj⟩ ⟨i, hi⟩ h).imp List.mem_of_getElem? List.mem_of_getElem?).symm
theorem ls_sr_p : ∀ i : Fin 17, tables_1[([819, 872, 873, 874, 875, 876, 877, 907, 946, 956, 957, 958, 959, 960, 961, 971, 972] : List Nat).getD i 0]? = some (Cond.stringRef (mm_sc i).1 (mm_sc i).2.1 (mm_sc i).2.2) := by decide +kernel
theorem ls_sr : ∀ i : Fin 17, Cond.stringRef (mm_sc i).1 (mm_sc i).2.1 (mm_sc i).2.2 ∈ lw_tbl := fun i => List.mem_append_right _ (List.mem_of_getElem? (ls_sr_p i))
theorem ls_cl : ∀ (t : Nat) (q : vw_C), vwCl[t]? = some q → Cond.instantiable q.1 q.2.2 ∈ lw_tbl := by
  have h : ∀ t : Fin 13, tables_1[([423, 151, 207, 40, 278, 200, 366, 329, 115, 121, 33, 25, 1349] : List Nat).getD t 0]? = some (Cond.instantiable (vwCl[t.val]'t.isLt).1 (vwCl[t.val]'t.isLt).2.2) := by decide +kernel
  intro t q hq
  obtain ⟨h1, h2⟩ := List.getElem?_eq_some_iff.mp hq
  have := List.mem_append_right (k2_sels lw_privs) (List.mem_of_getElem? (h ⟨t, h1⟩))
  rw [← h2]
  exact this
theorem ls_us : Cond.isRef (.static Bundle.tN "UNASSIGNED_STACK" Bundle.steD) ∈ ls_flat := List.mem_of_getElem? (i := 4) (by decide +kernel)
theorem ls_ss : Cond.isRef (.static Bundle.tN "SUPPRESSED_SENTINEL" Bundle.listD) ∈ ls_flat := List.mem_of_getElem? (i := 5) (by decide +kernel)
theorem ls_cs : Cond.eq (.static "java/lang/String" "COMPACT_STRINGS" "Z") (.int 1) ∈ ls_flat := List.mem_of_getElem? (i := 6) (by decide +kernel)
theorem ls_fm : Cond.isRef (.static "jdk/internal/util/Preconditions" "SIOOBE_FORMATTER" "Ljava/util/function/BiFunction;") ∈ ls_flat := List.mem_of_getElem? (i := 7) (by decide +kernel)
theorem ls_nc : Cond.not (.castable "java/lang/IllegalArgumentException" "java/util/NoSuchElementException") ∈ ls_flat := List.mem_of_getElem? (i := 38) (by decide +kernel)
theorem lt_us : Cond.laysStatic Bundle.tN "UNASSIGNED_STACK" Bundle.steD ∈ lw_tbl := List.mem_append_right _ (List.mem_of_getElem? (i := 745) (by decide +kernel))
theorem lt_ss : Cond.laysStatic Bundle.tN "SUPPRESSED_SENTINEL" Bundle.listD ∈ lw_tbl := List.mem_append_right _ (List.mem_of_getElem? (i := 747) (by decide +kernel))
theorem lt_th : Cond.initialized Bundle.tN ∈ lw_tbl := List.mem_append_right _ (List.mem_of_getElem? (i := 15) (by decide +kernel))
theorem lt_cs : Cond.laysStatic "java/lang/String" "COMPACT_STRINGS" "Z" ∈ lw_tbl := List.mem_append_right _ (List.mem_of_getElem? (i := 833) (by decide +kernel))
theorem lt_st : Cond.initialized "java/lang/String" ∈ lw_tbl := List.mem_append_right _ (List.mem_of_getElem? (i := 19) (by decide +kernel))
theorem lt_fm : Cond.laysStatic "jdk/internal/util/Preconditions" "SIOOBE_FORMATTER" "Ljava/util/function/BiFunction;" ∈ lw_tbl := List.mem_append_right _ (List.mem_of_getElem? (i := 849) (by decide +kernel))
theorem lt_pc : Cond.initialized "jdk/internal/util/Preconditions" ∈ lw_tbl := List.mem_append_right _ (List.mem_of_getElem? (i := 21) (by decide +kernel))
theorem lt_aint : Cond.arrayClass .int ∈ lw_tbl := List.mem_append_right _ (List.mem_of_getElem? (i := 57) (by decide +kernel))
theorem lt_along : Cond.arrayClass .long ∈ lw_tbl := List.mem_append_right _ (List.mem_of_getElem? (i := 1628) (by decide +kernel))
theorem lt_aboolean : Cond.arrayClass .boolean ∈ lw_tbl := List.mem_append_right _ (List.mem_of_getElem? (i := 175) (by decide +kernel))
theorem lt_oFan : Cond.arrayOver (.object "SootQueen$Fan") ∈ lw_tbl := List.mem_append_right _ (List.mem_of_getElem? (i := 39) (by decide +kernel))
theorem lt_oDraw : Cond.arrayOver (.object "SootQueen$Draw") ∈ lw_tbl := List.mem_append_right _ (List.mem_of_getElem? (i := 206) (by decide +kernel))
theorem lt_oGame : Cond.arrayOver (.object "SootQueen$Game") ∈ lw_tbl := List.mem_append_right _ (List.mem_of_getElem? (i := 372) (by decide +kernel))
theorem ls_traces {l : Launch} (h : l.flags = flags0) : l.stackTraces = false := by
  unfold Launch.stackTraces
  rw [h]
  decide +kernel
/-- from what holds at the law's entry: a context -/
theorem ls_ctx {l : Launch} (hflags : l.flags = flags0) {p : Program} {s : State} {m : MethodId} {meth : Method} {c : Code} {b L : Nat} {xs : Nat → Int32} (C0 : lw_At p s m meth c b L xs) :
    ∃ K : mm_K, K.1 = l ∧ K.2.1 = s ∧ K.2.2.1 = #[Value.ref b] ∧ mm_ok K ∧ va_Nc "java/lang/IllegalArgumentException" "java/util/NoSuchElementException" s := by
  obtain ⟨hx, hb, hr, hml, hown, hts, hX, hbl, hlocks, hgv⟩ := C0
  have hs : ∀ w ∈ ls_flat, w.before #[Value.ref b] s = true := flat_of_before _ hgv
  have hA : ∀ a : Nat, a < s.heap.size → ¬ s.heap.size ≤ a := fun a h => Nat.not_le.mpr h
  -- classes
  have hkn : ∀ t : Nat, ∃ q : ClassId × (Nat → Nat), ∀ r : vw_C, vwCl[t]? = some r → u_Kn s r.1 r.2.1 r.2.2 q.1 q.2 := by
    intro t
    cases hq : vwCl[t]? with
    | none => exact ⟨(0, fun _ => 0), fun r hr => by cases hr⟩
    | some r =>
      obtain ⟨cC, iS, h1⟩ := u_known (C := r.1) (T := r.2.1) (N := r.2.2) (n := r.2.2) hts (fun w hw => (mm_cls t r hq).1 w hw) (hts _ (ls_cl t r hq))
      exact ⟨(cC, iS), fun r' hr' => by cases hr'; exact h1⟩
  obtain ⟨dd, hdd⟩ := Classical.axiomOfChoice hkn
  -- arrays
  have har : ∀ t : Nat, ∃ cA : ClassId, 20 ≤ t → t ≤ 25 → ArrOfT s cA (mm_aty t) ∧ va_RA s cA (mm_aty t) := by
    intro t
    by_cases ht : 20 ≤ t ∧ t ≤ 25
    · have h6 : t = 20 ∨ t = 21 ∨ t = 22 ∨ t = 23 ∨ t = 24 ∨ t = 25 := by omega
      have prim : ∀ ty : FieldType, Cond.arrayClass ty ∈ lw_tbl → (∀ C, ty ≠ .object C) → ∃ cA : ClassId, ArrOfT s cA ty ∧ va_RA s cA ty := by
        intro ty hw hne
        obtain ⟨cA, k, comp, f1, f2, f3⟩ := Cond.arrayClass_spec (hts _ hw)
        refine ⟨cA, fun n z => ⟨fun k h => (by cases h), k, f2, comp, f3⟩, ?_⟩
        cases ty <;> first | exact f1 | exact absurd rfl (hne _)
      have refs : ∀ C : String, Cond.arrayOver (.object C) ∈ lw_tbl → ∃ cA : ClassId, ArrOfT s cA (.object C) ∧ va_RA s cA (.object C) := by
        intro C hw
        obtain ⟨comp, cA, k, f1, -, f2, f3, f4⟩ := Cond.arrayOver_spec (hts _ hw)
        exact ⟨cA, fun n z => ⟨fun k h => (by cases h), k, f2, comp, f3⟩, k, comp, f2, f3, f1, f4⟩
      rcases h6 with rfl | rfl | rfl | rfl | rfl | rfl
      · obtain ⟨cA, h⟩ := prim .int lt_aint (fun _ h => by cases h); exact ⟨cA, fun _ _ => h⟩
      · obtain ⟨cA, h⟩ := prim .long lt_along (fun _ h => by cases h); exact ⟨cA, fun _ _ => h⟩
      · obtain ⟨cA, h⟩ := prim .boolean lt_aboolean (fun _ h => by cases h); exact ⟨cA, fun _ _ => h⟩
      · obtain ⟨cA, h⟩ := refs "SootQueen$Fan" lt_oFan; exact ⟨cA, fun _ _ => h⟩
      · obtain ⟨cA, h⟩ := refs "SootQueen$Draw" lt_oDraw; exact ⟨cA, fun _ _ => h⟩
      · obtain ⟨cA, h⟩ := refs "SootQueen$Game" lt_oGame; exact ⟨cA, fun _ _ => h⟩
    · exact ⟨0, fun h1 h2 => absurd ⟨h1, h2⟩ ht⟩
  obtain ⟨ar, har⟩ := Classical.axiomOfChoice har
  -- Strings
  obtain ⟨adK, adV, hS, hev⟩ := vk_Sof (args := #[Value.ref b]) (s := s) (N := 17) (tm := ls_tm) (len := mm_sl) (byt := mm_sb) (A := fun q => s.heap.size ≤ q)
    (fun i hi => by have := (mm_letters i hi).1; omega) (fun i hi => hs _ (ls_ex ⟨i, hi⟩)) (fun i hi => hs _ (ls_co ⟨i, hi⟩)) (fun i hi => hs _ (ls_ar ⟨i, hi⟩)) (fun i hi => hs _ (ls_le ⟨i, hi⟩))
    (fun i hi j hj => hs _ (ls_el ⟨i, hi⟩ ⟨j, Nat.lt_trans hj (mm_letters i hi).1⟩ hj))
    (fun i j hi hj hne => (ls_ne i j hi hj hne).imp (hs _) (hs _)) hA
  refine ⟨(l, s, #[Value.ref b], (fun t => (dd t).1, fun t => (dd t).2), fun t => if t < 100 then ar t else adK (t - 100)), rfl, rfl, rfl, ⟨ls_traces hflags, hts, fun t q hq => hdd t q hq, fun t h1 h2 => ?_, ?_, ?_, ?_, ?_, ?_⟩, va_Nc.of (hs _ ls_nc)⟩
  · have : t < 100 := by omega
    simp only [this, if_true]
    exact har t h1 h2
  · exact vx_Zqof (hts _ lt_us) (hts _ lt_th) (hs _ ls_us) hA
  · exact vx_Zqof (hts _ lt_ss) (hts _ lt_th) (hs _ ls_ss) hA
  · refine ⟨adV, ?_, fun i hi => ?_⟩
    · have e : (fun i => if 100 + i < 100 then ar (100 + i) else adK (100 + i - 100)) = adK := by
        funext i
        rw [if_neg (by omega), show 100 + i - 100 = i by omega]
      show vk_S 17 mm_sl mm_sb (fun i => if 100 + i < 100 then ar (100 + i) else adK (100 + i - 100)) adV (fun q => s.heap.size ≤ q) s s.heap
      rw [e]
      exact hS
    · show vk_R _ _ _ (if 100 + i < 100 then ar (100 + i) else adK (100 + i - 100)) s
      rw [if_neg (by omega), show 100 + i - 100 = i by omega]
      exact vk_R.of (A := #[Value.ref b]) (hts _ (ls_sr ⟨i, hi⟩)) (hev i hi)
  · exact va_Zof (hts _ lt_cs) (hts _ lt_st) (va_eqt (hs _ ls_cs)) hA
  · exact va_Zqof (hts _ lt_fm) (hts _ lt_pc) (hs _ ls_fm) hA
