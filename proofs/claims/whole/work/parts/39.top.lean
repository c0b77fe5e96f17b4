def df_X11 : Nat → Value := fun k => match k with | 0 => .null | 1 => .null | 2 => .null | 3 => .null | 4 => .null | 5 => .null | 6 => .null | 7 => .null | 8 => .null | 9 => .null | 10 => .null | 11 => .null | 12 => .null | 13 => .null | 14 => .int 0 | 15 => .int 0 | 16 => .int 0 | 17 => .int 0 | _ => .int 0
theorem tw_24 : Cond.classLink "SootQueenLaw" 8 "SootQueen" ∈ lw_tbl := List.mem_append_right _ (List.mem_of_getElem? (i := 24) (by decide +kernel))
theorem tw_25 : Cond.instantiable "SootQueen" 19 ∈ lw_tbl := List.mem_append_right _ (List.mem_of_getElem? (i := 25) (by decide +kernel))
theorem nw_L_8 : mm_NW RL 8 11 19 df_X11 := ⟨(RX11, TX11, 19), rfl, rfl, tw_24, tw_25, tw_1, tyX11, tyX11_ok, by decide +kernel⟩
def df_X12 : Nat → Value := fun k => match k with | 0 => .int 0 | 1 => .int 0 | 2 => .int 0 | 3 => .int 0 | 4 => .int 0 | 5 => .null | 6 => .null | 7 => .null | 8 => .null | 9 => .int 0 | 10 => .int 0 | 11 => .int 0 | 12 => .null | 13 => .int 0 | 14 => .int 0 | 15 => .int 0 | 16 => .int 0 | 17 => .int 0 | 18 => .int 0 | 19 => .int 0 | 20 => .long 0 | 21 => .int 0 | 22 => .int 0 | 23 => .int 0 | 24 => .int 0 | 25 => .int 0 | 26 => .int 0 | 27 => .int 0 | 28 => .int 0 | 29 => .int 0 | 30 => .int 0 | 31 => .null | 32 => .null | 33 => .null | 34 => .null | 35 => .null | 36 => .null | 37 => .null | 38 => .null | 39 => .null | 40 => .null | 41 => .int 0 | 42 => .null | 43 => .null | 44 => .null | 45 => .int 0 | 46 => .int 0 | 47 => .int 0 | 48 => .int 0 | 49 => .null | 50 => .null | 51 => .null | 52 => .null | 53 => .null | 54 => .int 0 | 55 => .null | 56 => .null | 57 => .null | 58 => .null | 59 => .null | 60 => .null | 61 => .null | 62 => .null | 63 => .null | 64 => .null | 65 => .null | 66 => .int 0 | 67 => .int 0 | 68 => .null | 69 => .null | 70 => .null | 71 => .int 0 | 72 => .int 0 | 73 => .null | _ => .null
theorem tw_1348 : Cond.classLink "SootQueenLaw" 82 "SootQueenModel" ∈ lw_tbl := List.mem_append_right _ (List.mem_of_getElem? (i := 1348) (by decide +kernel))
theorem tw_1349 : Cond.instantiable "SootQueenModel" 75 ∈ lw_tbl := List.mem_append_right _ (List.mem_of_getElem? (i := 1349) (by decide +kernel))
theorem nw_L_82 : mm_NW RL 82 12 75 df_X12 := ⟨(RX12, TX12, 75), rfl, rfl, tw_1348, tw_1349, tw_14, tyX12, tyX12_ok, by decide +kernel⟩
theorem tw_26 : Cond.methodLink "SootQueenLaw" 81 ⟨"SootQueen", "<init>", "()V"⟩ ∈ lw_tbl := List.mem_append_right _ (List.mem_of_getElem? (i := 26) (by decide +kernel))
theorem tw_28 : Cond.code ⟨"SootQueen", "<init>", "()V"⟩ prog_1_method_1_code 1 none ∈ lw_tbl := List.mem_append_right _ (List.mem_of_getElem? (i := 28) (by decide +kernel))
theorem tw_27 : Cond.instanceMethod ⟨"SootQueen", "<init>", "()V"⟩ ∈ lw_tbl := List.mem_append_right _ (List.mem_of_getElem? (i := 27) (by decide +kernel))
theorem cw_L_81 : mm_CI RL 81 MX11_init 0 := ⟨⟨Or.inl tw_26, tw_28, tw_1, ⟨by decide, by decide⟩, by decide +kernel, by decide⟩, tw_27, rfl, rfl⟩
theorem tw_1350 : Cond.methodLink "SootQueenLaw" 84 ⟨"SootQueenModel", "<init>", "()V"⟩ ∈ lw_tbl := List.mem_append_right _ (List.mem_of_getElem? (i := 1350) (by decide +kernel))
theorem tw_1352 : Cond.code ⟨"SootQueenModel", "<init>", "()V"⟩ prog_14_method_1_code 1 none ∈ lw_tbl := List.mem_append_right _ (List.mem_of_getElem? (i := 1352) (by decide +kernel))
theorem tw_1351 : Cond.instanceMethod ⟨"SootQueenModel", "<init>", "()V"⟩ ∈ lw_tbl := List.mem_append_right _ (List.mem_of_getElem? (i := 1351) (by decide +kernel))
theorem cw_L_84 : mm_CI RL 84 MX12_init 0 := ⟨⟨Or.inl tw_1350, tw_1352, tw_14, ⟨by decide, by decide⟩, by decide +kernel, by decide⟩, tw_1351, rfl, rfl⟩
/-- the law's entry: two objects and a row of one long are made, then its loop -/
theorem law_top {K : mm_K} {q : String × List (Nat × Nat × Nat × Nat)} {e : (Nat → Nat) × Nat} (hz : e.1 = K.2.2.2.2) (hnc : va_Nc "java/lang/IllegalArgumentException" "java/util/NoSuchElementException" K.2.1) {d : Nat} (hd : 300 ≤ d) {b : Nat} {g : mm_T} {m : mm_V} {z : Nat} {s1 s3 : mm_S} {r : Int32 × mm_V}
    (h1 : X11_init e z (mm_tg g z 11 19) (mm_nw m z df_X11) (z + 1) = some s1) (h2 : X12_init e s1.2.2 (mm_tg s1.1 s1.2.2 12 75) (mm_nw s1.2.1 s1.2.2 df_X12) (s1.2.2 + 1) = some s3)
    (hx : mm_tg s3.1 s3.2.2 21 1 z = some (11, 19)) (hm : mm_tg s3.1 s3.2.2 21 1 s1.2.2 = some (12, 75)) (h3 : L_law_L23 (mm_tg s3.1 s3.2.2 21 1, e) b z s1.2.2 s3.2.2 514 0 (mm_nw s3.2.1 s3.2.2 (fun _ => defaultValue (mm_aty 21))) = some r) :
    mm_G K (ML_law q) d (1011, 17440, .inl (some (.int r.1)), (mm_tg s3.1 s3.2.2 21 1, r.2), none) 0 [some (.ref b), none, none, none, none, none, none, none] [] (g, m) (some z) 0 0 := by
  obtain ⟨d, rfl⟩ : ∃ d', d = d' + 1 := ⟨d - 1, by omega⟩
  refine mg_new (pc := 0) dL_law_0 nw_L_8 (by show 0 + 1 ≤ 1011; decide) (by show 0 + 19 ≤ 17440; decide) ?_
  refine mg_cs (c2 := 1) (s2 := 19) (by decide) (by decide) ?_
  refine mg_dup (pc := 3) dL_law_3 rfl ?_
  refine mg_callI (pc := 4) (F' := (451, 5698, .inl none, (s1.1, s1.2.1), some s1.2.2)) (As := []) (rest := [.ref z]) dL_law_4 cw_L_81 (X11_init_ok hz (by omega) h1) rfl rfl (Nat.le_of_ble_eq_true rfl) (by show 1 + 451 ≤ 1011; decide) (by show 19 + 5698 ≤ 17440; decide) ?_
  refine mg_cs (c2 := 452) (s2 := 5717) (by show 1 + 451 ≤ 452; decide) (by show 19 + 5698 ≤ 5717; decide) ?_
  refine ml_astore_n (pc := 7) dL_law_7 rfl (Nat.le_of_ble_eq_true rfl) mm_st1_r ?_
  refine mg_new (pc := 8) dL_law_8 nw_L_82 (by show 452 + 1 ≤ 1011; decide) (by show 5717 + 75 ≤ 17440; decide) ?_
  refine mg_cs (c2 := 453) (s2 := 5792) (by decide) (by decide) ?_
  refine mg_dup (pc := 11) dL_law_11 rfl ?_
  refine mg_callI (pc := 12) (F' := (39, 8539, .inl none, (s3.1, s3.2.1), some s3.2.2)) (As := []) (rest := [.ref s1.2.2]) dL_law_12 cw_L_84 (X12_init_ok hz (by omega) h2) rfl rfl (Nat.le_of_ble_eq_true rfl) (by show 453 + 39 ≤ 1011; decide) (by show 5792 + 8539 ≤ 17440; decide) ?_
  refine mg_cs (c2 := 492) (s2 := 14331) (by show 453 + 39 ≤ 492; decide) (by show 5792 + 8539 ≤ 14331; decide) ?_
  refine ml_astore_n (pc := 15) dL_law_15 rfl (Nat.le_of_ble_eq_true rfl) (mm_st1_s mm_st1_r) ?_
  refine mg_iconst (pc := 16) dL_law_16 kc_1 ?_
  refine mg_newa (pc := 17) (t := 21) dL_law_17 (by decide) (by decide) rfl tw_1628 (by decide) (N := 1) (by decide) (by decide) (by show 492 + 1 ≤ 1011; decide) (by show 14331 + 1 ≤ 17440; decide) ?_
  refine mg_cs (c2 := 493 + 0) (s2 := 14332 + 6 * 0) (by decide) (by decide) ?_
  refine ml_astore_n (pc := 19) dL_law_19 rfl (Nat.le_of_ble_eq_true rfl) (mm_st1_s (mm_st1_s mm_st1_r)) ?_
  refine mg_iconst (pc := 20) dL_law_20 kc_0 ?_
  refine ml_istore (pc := 21) dL_law_21 (Nat.le_of_ble_eq_true rfl) (mm_st1_s (mm_st1_s (mm_st1_s mm_st1_r))) ?_
  have hl := L_law_L23_ok (q := q) (e := (mm_tg s3.1 s3.2.2 21 1, e)) (a0 := b) hz hnc (d := d + 1) (by omega) hx hm 514 0 0 _ r rfl h3
  exact fun p e' s mi args below meth c A H locs ls hH hz9 hl9 hv9 => hl p e' s mi args below meth c A H locs ls hH.none hz9 hl9 hv9
/-- what is left to show: of the functions alone -/
def PG : Prop := ∀ (zs : Nat → Nat) (b L : Nat) (xs : Nat → Int32) (z : Nat) (g : mm_T) (m : mm_V), L ≤ 3072 → b < z → (∀ i, i < 17 → zs (100 + i) < z) → g b = some (31, L) → (∀ k, k < L → m b k = .int (xs k)) → (∀ i, i < 17 → g (zs (100 + i)) = some (30, mm_sl.getD i 0) ∧ ∀ k, k < mm_sl.getD i 0 → m (zs (100 + i)) k = .int ((mm_sb.getD i []).getD k 0)) →
  ∃ (N : Nat) (s1 s3 : mm_S) (m' : mm_V), X11_init (zs, N) z (mm_tg g z 11 19) (mm_nw m z df_X11) (z + 1) = some s1 ∧ X12_init (zs, N) s1.2.2 (mm_tg s1.1 s1.2.2 12 75) (mm_nw s1.2.1 s1.2.2 df_X12) (s1.2.2 + 1) = some s3 ∧ mm_tg s3.1 s3.2.2 21 1 z = some (11, 19) ∧ mm_tg s3.1 s3.2.2 21 1 s1.2.2 = some (12, 75) ∧ L_law_L23 (mm_tg s3.1 s3.2.2 21 1, zs, N) b z s1.2.2 s3.2.2 514 0 (mm_nw s3.2.1 s3.2.2 (fun _ => defaultValue (mm_aty 21))) = some (1, m')
theorem stand_room {p : Program} {l : Launch} {e : Env} {R R2 : Room} {s : State} {m : MethodId} {args : Array Value} {below : List Frame} {meth : Method} {c : Code} {T : State} {locs : List Loc} {cells slots : Nat} (X : Stand p l e R s m args below meth c T locs cells slots) (h1 : R2.frames ≤ R.frames) (h2 : R2.cells ≤ R.cells) (h3 : R2.slots ≤ R.slots) (h4 : R2.locals ≤ R.locals) : Stand p l e R2 s m args below meth c T locs cells slots := by
  refine { X with room := ?_ }
  have h := X.room
  simp only [State.hasRoom, Bool.and_eq_true, decide_eq_true_eq] at h ⊢
  obtain ⟨⟨⟨⟨a1, a2, a3, a4, a5, a6⟩, a7⟩, a8⟩, a9⟩ := h
  exact ⟨⟨⟨⟨by omega, by omega, by omega, by omega, by omega, a6⟩, by omega⟩, by omega⟩, a9⟩
theorem whole_of (pg : PG) {p : Program} {e : Env} {s : State} {m : MethodId} {below : List Frame} {meth : Method} {c : Code} (l : Launch) (hflags : l.flags = flags0) {b L : Nat} {xs : Nat → Int32} (hL : L ≤ 3072) (C0 : lw_At p s m meth c b L xs) : W p l e room_1 s m #[Value.ref b] below meth c s.heap [] 0 0 (lw_Z below #[Value.ref b] s) (entryFrame m ([Value.ref b] : List Value).toArray 8) := by
  obtain ⟨K, rfl, rfl, hKa, hok, hnc⟩ := ls_ctx hflags C0
  obtain ⟨hx, hb, hr, hml, hown, hts, hX, hbl, hlocks, hgv⟩ := C0
  obtain ⟨adV, hS, -⟩ := hok.2.2.2.2.2.2.1
  have hsz : ∀ i, i < 17 → K.2.2.2.2 (100 + i) < K.2.1.heap.size := by
    intro i hi
    obtain ⟨cell, h1, -⟩ := (hS.1 i hi).1
    exact (Array.getElem?_eq_some_iff.mp h1).1
  have hbne : ∀ i, i < 17 → K.2.2.2.2 (100 + i) ≠ b := by
    intro i hi hbi
    obtain ⟨cf, k, fi, f, cell, -, -, h3, -, h5, -⟩ := (hS.1 i hi).2.2.1
    obtain ⟨scr, g1, -, -, g4, g5⟩ := hX
    have h3' : K.2.1.heap[b]? = some cell := by rw [← hbi]; exact h3
    cases g1.symm.trans h3'
    have hlt := (Array.getElem?_eq_some_iff.mp h5).1
    rw [g5 _ (by omega)] at h5
    cases h5
  -- the first small heap
  have hinj : ∀ i j, i < 17 → j < 17 → K.2.2.2.2 (100 + i) = K.2.2.2.2 (100 + j) → i = j := hS.2
  obtain ⟨g, m0, hg1, hg2, hg3, hg4⟩ : ∃ (g : mm_T) (m0 : mm_V), g b = some (31, L) ∧ (∀ k, k < L → m0 b k = .int (xs k)) ∧ (∀ i, i < 17 → g (K.2.2.2.2 (100 + i)) = some (30, mm_sl.getD i 0) ∧ ∀ k, k < mm_sl.getD i 0 → m0 (K.2.2.2.2 (100 + i)) k = .int ((mm_sb.getD i []).getD k 0)) ∧ ∀ a t n, g a = some (t, n) → (a = b ∧ t = 31 ∧ n = L) ∨ ∃ i, i < 17 ∧ a = K.2.2.2.2 (100 + i) ∧ t = 30 ∧ n = mm_sl.getD i 0 := by
    have hch : ∀ a : Nat, ∃ o : Option Nat, (∀ i, o = some i → i < 17 ∧ a = K.2.2.2.2 (100 + i)) ∧ (o = none → ∀ i, i < 17 → a ≠ K.2.2.2.2 (100 + i)) := by
      intro a
      by_cases h : ∃ i, i < 17 ∧ a = K.2.2.2.2 (100 + i)
      · obtain ⟨i, hi⟩ := h
        exact ⟨some i, fun j hj => by cases hj; exact hi, fun hn => by cases hn⟩
      · exact ⟨none, fun j hj => (by cases hj), fun _ i hi ha => h ⟨i, hi, ha⟩⟩
    obtain ⟨w, hw⟩ := Classical.axiomOfChoice hch
    have hwi : ∀ i, i < 17 → w (K.2.2.2.2 (100 + i)) = some i := by
      intro i hi
      cases hq : w (K.2.2.2.2 (100 + i)) with
      | none => exact absurd rfl ((hw _).2 hq i hi)
      | some j =>
        obtain ⟨hj, he⟩ := (hw _).1 j hq
        rw [hinj i j hi hj he]
    have hwb : w b = none := by
      cases hq : w b with
      | none => rfl
      | some j => exact absurd ((hw _).1 j hq).2.symm (hbne j ((hw _).1 j hq).1)
    refine ⟨fun a => match w a with | some i => some (30, mm_sl.getD i 0) | none => if a = b then some (31, L) else none, fun a k => match w a with | some i => .int ((mm_sb.getD i []).getD k 0) | none => .int (xs k), ?_, ?_, ?_, ?_⟩
    · simp only [hwb, if_pos]
    · intro k _; simp only [hwb]
    · intro i hi
      refine ⟨by simp only [hwi i hi], fun k _ => by simp only [hwi i hi]⟩
    · intro a t n ha
      cases hq : w a with
      | none =>
        simp only [hq] at ha
        by_cases hab : a = b
        · rw [if_pos hab] at ha; cases ha; exact Or.inl ⟨hab, rfl, rfl⟩
        · rw [if_neg hab] at ha; cases ha
      | some i =>
        simp only [hq] at ha
        cases ha
        exact Or.inr ⟨i, ((hw _).1 i hq).1, ((hw _).1 i hq).2, rfl, rfl⟩
  have hHR : mm_HR K (g, m0) (some K.2.1.heap.size) K.2.1.heap := by
    refine ⟨fun a t n ha ht => ?_, fun a t n ha ht => ?_, fun n hn => (by cases hn; rfl), fun _ _ => rfl, Nat.le_refl _⟩
    · rcases hg4 a t n ha with ⟨-, h, -⟩ | ⟨i, -, -, h, -⟩ <;> omega
    · rcases hg4 a t n ha with ⟨rfl, rfl, rfl⟩ | ⟨i, hi, rfl, rfl, rfl⟩
      · exact ⟨hbl, Or.inr ⟨rfl, by omega, xs, hX, hg2⟩⟩
      · exact ⟨hsz i hi, Or.inl ⟨rfl, i, hi, rfl, rfl, (hg3 i hi).2⟩⟩
  obtain ⟨N, s1, s3, m', e1, e2, e3, e4, e5⟩ := pg K.2.2.2.2 b L xs K.2.1.heap.size g m0 hL hbl hsz hg1 hg2 hg3
  have hG := law_top (K := K) (q := (meth.name, c.exceptionTable.toList.map fun x => (x.startPc, x.endPc, x.handlerPc, x.catchType))) (e := (K.2.2.2.2, N)) rfl hnc (d := 1300) (by decide) (b := b) e1 e2 e3 e4 e5
  have hl := lv_entry ([.ref b]) (n := 8) (Nat.le_of_ble_eq_true rfl)
  rw [lg_entry_eq]
  generalize (lg_sl ([.ref b]) ++ List.replicate (8 - (lg_sl ([.ref b])).length) Slot.unset).toArray = ls at hl ⊢
  have hlv : mm_lv ls 8 [some (.ref b), none, none, none, none, none, none, none] := by
    refine ⟨hl.1, hl.2.1, fun i v hi => ?_⟩
    have h0 := mm_le_get _ [some (.ref b)] (mm_le_s (mm_le_e (mm_le_e (mm_le_e (mm_le_e (mm_le_e (mm_le_e (mm_le_e mm_le_0)))))))) i v hi
    exact hl.2.2 (i, v) (by have := mm_in_args [.ref b] 0 i v h0; rwa [Nat.zero_add] at this)
  have hAt : mm_At K (ML_law (meth.name, c.exceptionTable.toList.map fun x => (x.startPc, x.endPc, x.handlerPc, x.catchType))) p K.2.1 m meth c := by
    refine ⟨hx, hb, hr, hml, hown, hlocks, rfl, ?_, State.WarmedH.refl _, fun _ _ => rfl, Nat.le_refl _, hok⟩
    show c.exceptionTable.toList = tableOf (c.exceptionTable.toList.map fun x => (x.startPc, x.endPc, x.handlerPc, x.catchType))
    unfold tableOf
    rw [List.map_map]
    exact (List.map_id _).symm
  have hW := hG p e K.2.1 m #[Value.ref b] below meth c hAt K.2.1.heap [] ls hHR (Nat.le_refl _) (fun z hz => by cases hz) hlv
  intro T hT X
  obtain ⟨t, a1, o, b1, b2, b3⟩ := hW T hT (stand_room X (by show 1300 ≤ 2048; decide) (by show 1011 ≤ 601024; decide) (by show 17440 ≤ 7293034; decide) (by show 64 * 1300 ≤ 84000; decide))
  refine ⟨t, a1, o, b1, b2, ?_⟩
  rcases b3 with ⟨⟨v, c1, c2, -⟩, L9, ⟨f1, f2, f3⟩, hf⟩ | ⟨q9, -, E, ce, L9, ⟨hx9, -⟩, -⟩
  · cases Sum.inl.inj c1
    exact ⟨c2, f1, f2, f3.weaken (fun y hy hlt => absurd (hf y hy) (Nat.not_le.mpr hlt)) (by show 1011 ≤ 601024; decide) (by show 17440 ≤ 7293034; decide)⟩
  · cases hx9
