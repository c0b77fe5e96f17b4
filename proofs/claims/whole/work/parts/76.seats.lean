/-! SEATS: other orders tried, class. -/
theorem pst_x {rl : Nat → List Int} {sit : Nat → Nat} {lw : Int32} {N : Nat} (S : PS) (x y : Int32) : pst rl sit lw (zI 0) N (S, x) = ((pst rl sit lw (zI 0) N (S, y)).1, x) := by
  unfold pst
  cases h1 : S.2.2.1 with
  | none => simp only [h1]
  | some p =>
    simp only [h1]
    cases h2 : srcF lw N S.1 p with
    | none => simp only [h2]
    | some s =>
      simp only [h2]
      have e1 : ∀ z, plc rl sit (zI 0) S z p s = (dAt rl sit S.1 S.2.1 S.2.2.2 p s, z) := fun z => if_pos rfl
      rw [e1 x, e1 y]
      cases h3 : (S.1 s)[dAt rl sit S.1 S.2.1 S.2.2.2 p s]? with
      | none => simp only [h3]
      | some c => simp only [h3]
theorem wat_x {rl : Nat → List Int} {sit : Nat → Nat} {lw : Int32} {N : Nat} (y : Int32) : ∀ (j n : Nat) (S : PS) (x : Int32) (A : AC), wat rl sit lw (zI 0) N j n (S, x) A = ((wat rl sit lw (zI 0) N j n (S, y) A).1, ((wat rl sit lw (zI 0) N j n (S, y) A).2.1.1, x), (wat rl sit lw (zI 0) N j n (S, y) A).2.2)
  | 0, _, _, _, _ => rfl
  | j + 1, n, S, x, A => by
    rw [wat, wat]
    by_cases h : isOv N S.1 = true
    · simp only [if_pos h]
    · simp only [if_neg h]
      rw [pst_x S x y]
      have := wat_x (rl := rl) (sit := sit) (lw := lw) (N := N) y j (n + 1) (pst rl sit lw (zI 0) N (S, y)).1 x (note ((qn N (pst rl sit lw (zI 0) N (S, y)).1.1).getD 0) (n + 1) (pst rl sit lw (zI 0) N (S, y)).1.1 A)
      rw [this]
      have e2 : pst rl sit lw (zI 0) N (S, y) = ((pst rl sit lw (zI 0) N (S, y)).1, y) := pst_x S y y
      rw [← e2]
theorem watR_x {rl : Nat → List Int} {sit : Nat → Nat} {lw : Int32} {N : Nat} (y : Int32) (S : PS) (x : Int32) : watR rl sit lw (zI 0) N S x = ((watR rl sit lw (zI 0) N S y).1, ((watR rl sit lw (zI 0) N S y).2.1.1, x), (watR rl sit lw (zI 0) N S y).2.2) := wat_x y 200 0 S x _
def sF (N : Nat) (f : Nat → List Nat) (o : List Nat) : Nat → List Nat := fun i => if i < N then f (gO o i) else []
def stS (N : Nat) (f : Nat → List Nat) (o : List Nat) : PS := (sF N f o, fun _ => 0, opn N (sF N f o), zI 0)
theorem tabI_sF {N P : Nat} {f : Nat → List Nat} {o : List Nat} (h : tabI N P f) (ok : okO N o) : tabI N P (sF N f o) := by
  obtain ⟨h1, h2, h3, w, w1, w2⟩ := h
  refine ⟨fun p => ?_, fun p x hx => ?_, fun p hp => if_neg (by omega), ?_⟩
  · unfold sF; split
    · exact h1 _
    · exact List.nodup_nil
  · unfold sF at hx; split at hx
    · exact h2 _ x hx
    · simp at hx
  · obtain ⟨i, i1, i2, i3⟩ := ok.2.2.1 w w1
    refine ⟨i, i1, fun p => ?_⟩
    unfold sF
    by_cases hp : p < N
    · rw [if_pos hp, w2]
      exact ⟨fun hh => i3 p hp hh, fun hh => by rw [hh, i2]⟩
    · rw [if_neg hp]
      exact ⟨fun hh => by simp at hh, fun hh => by omega⟩
theorem okS_stS {N P : Nat} {f : Nat → List Nat} {o : List Nat} (hN : 0 < N) (h : tabI N P f) (ok : okO N o) : okS N P (stS N f o) := okS_opn hN (tabI_sF h ok) _ _
abbrev LA : Type := (Nat → Nat) × Nat × Nat
def poA (w : Option Nat) (n : Nat) (A : LA) : LA := match w with
  | none => (A.1, A.2.1 + 1, max A.2.2 n)
  | some w => (setF A.1 w (A.1 w + 1), A.2.1, max A.2.2 n)
def lossR (m : mm_V) (u : Nat) (A : LA) : Prop := (∀ i, i < 6 → m (u + 9) i = .int (zI (A.1 i))) ∧ m u 5 = .int (zI A.2.1) ∧ m u 6 = .int (zI A.2.2)
section SEATC
variable {e : mm_E} {a a0 t u N P p : Nat} {rl : Nat → List Int} {sit : Nat → Nat} {lw lk x : Int32} {S : PS}
theorem X4_sitterAt_no {m : mm_V} : X4_sitterAt e a (zI (-1)) m = some (zI (-1), m) := by
  unfold X4_sitterAt X4_sitterAt_b19 X4_sitterAt_b20
  simp only [LT, zI_neg]
  rw [ilp (by omega)]
theorem X4_sit_loop {ob : Nat} {o : List Nat} {f : Nat → List Nat} (ht : gameT e.1 a0) (ht1 : gameT e.1 a) (hob : e.1 ob = some (20, 6)) (haa : a0 + 20 ≤ a ∨ a + 20 ≤ a0) (hoa : ob < a0 ∨ a0 + 20 ≤ ob) (hta : t + 19 ≤ a0 ∨ a0 + 20 ≤ t) (htt : e.1 t = some (10, 11)) (h2 : 2 ≤ N) (h6 : N ≤ 6) (lt : ∀ i, i < N → gO o i < 6) (hN : 1000 < e.2.2) : ∀ (j i nn : Nat) (m : mm_V) (g : Nat → List Nat), i + j = N → j < nn → gameS m a0 t → gameS m a t → gameF m a f → m t 6 = .int (zI N) → ordM m ob o → gameF m a0 g → (∀ k, k < i → g k = f (gO o k)) → (∀ k, i ≤ k → g k = []) → (∀ k, k < 6 → m (a0 + 4) k = .int (zI (if k < i then gO o k else k : Nat))) → ∃ m', X4_sitDown_L12 e a0 a ob nn (zI i) m = some m' ∧ gameS m' a0 t ∧ gameF m' a0 (sF N f o) ∧ (∀ k, k < 6 → m' (a0 + 4) k = .int (zI (if k < N then gO o k else k : Nat))) ∧ m' a0 11 = .int (zI 0) ∧ m' a0 10 = .int (ozI (opn N (sF N f o))) ∧ (∀ k, k < 6 → m' (a0 + 5) k = .int (zI 0)) ∧ (∀ k, k ≠ 10 → k ≠ 11 → m' a0 k = m a0 k) ∧ ∀ b, (b < a0 ∨ a0 + 20 ≤ b) → m' b = m b := by
  intro j
  induction j with
  | zero =>
    intro i nn m g hi hn h h1 hf hn6 ho hg q1 q2 q3
    obtain ⟨nn, rfl⟩ : ∃ n', nn = n' + 1 := ⟨nn - 1, by omega⟩
    have hi' : i = N := by omega
    have hgg : g = sF N f o := by
      funext k
      unfold sF
      by_cases hk : k < N
      · rw [if_pos hk]; exact q1 k (by omega)
      · rw [if_neg hk]; exact q2 k (by omega)
    rw [hgg] at hg
    obtain ⟨m', e1, e2, e3, e4, e5, e6⟩ := X4_start_eq (e := e) ht htt (by omega) h2 h6 h hg hn6 (by omega)
    refine ⟨m', ?_, h.keep (fun j _ => e5 j (by omega) (by omega)) (fun b _ _ => e6 _ (by omega) (by omega)), hg.keep (fun b _ _ => e6 _ (by omega) (by omega)), fun k hk => by rw [e6 _ (by omega) (by omega), q3 k hk, hi'], e2, e3, e4, e5, fun b hb => e6 b (by omega) (by omega)⟩
    unfold X4_sitDown_L12 X4_sitDown_b66
    rw [rd_gr ht.1 h.2.2.2.2.2.2.1, Option.bind_some, rd_gi htt hn6, Option.bind_some, iep (by omega), e1, Option.bind_some]
  | succ j ih =>
    intro i nn m g hi hn h h1 hf hn6 ho hg q1 q2 q3
    obtain ⟨nn, rfl⟩ : ∃ n', nn = n' + 1 := ⟨nn - 1, by omega⟩
    have l1 := lt i (by omega)
    generalize hm1 : mm_up m (a0 + 4) i (.int (zI (gO o i))) = m1
    have o1 : ∀ b, b ≠ a0 + 4 → m1 b = m b := fun b x1 => by rw [← hm1, up_row _ _ _ x1]
    have G1 : gameS m1 a0 t := h.keep (fun j _ => by rw [o1 _ (by omega)]) (fun b _ _ => o1 _ (by omega))
    have A1 : gameS m1 a t := h1.keep (fun j _ => by rw [o1 _ (by omega)]) (fun b _ _ => o1 _ (by omega))
    have F1 : gameF m1 a f := hf.keep (fun b _ _ => o1 _ (by omega))
    have g1 : gameF m1 a0 g := hg.keep (fun b _ _ => o1 _ (by omega))
    obtain ⟨m2, a1, a2, a3⟩ := X3_copyFrom_eq (e := e) (m := m1) (ht.2.2.2.2.2.2.2 i (by omega)) (ht1.2.2.2.2.2.2.2 (gO o i) l1) (by omega) (g1 i (by omega)) (F1 (gO o i) l1) (by omega)
    have o2 : ∀ b, b ≠ a0 + 4 → b ≠ a0 + 8 + 2 * i → b ≠ a0 + 8 + 2 * i + 1 → m2 b = m b := fun b x1 x2 x3 => by rw [a3 b x2 x3, o1 b x1]
    obtain ⟨m', e1, e2, e3, e4, e5, e6, e7, e8, e9⟩ := ih (i + 1) nn m2 (setF g i (f (gO o i))) (by omega) (by omega) (G1.keep (fun j _ => by rw [a3 _ (by omega) (by omega)]) (fun b _ _ => a3 _ (by omega) (by omega))) (A1.keep (fun j _ => by rw [a3 _ (by omega) (by omega)]) (fun b _ _ => a3 _ (by omega) (by omega))) (F1.keep (fun b _ _ => a3 _ (by omega) (by omega))) (by rw [o2 _ (by omega) (by omega) (by omega)]; exact hn6) (fun k hk => by rw [o2 _ (by omega) (by omega) (by omega)]; exact ho k hk) (g1.set a2 a3) (fun k hk => by
      by_cases hki : k = i
      · rw [hki, setF_at]
      · rw [setF_ne _ _ hki]; exact q1 k (by omega)) (fun k hk => by rw [setF_ne _ _ (by omega)]; exact q2 k (by omega)) (fun k hk => by
      rw [a3 _ (by omega) (by omega), ← hm1, up_pt]
      by_cases hki : k = i
      · rw [if_pos hki, if_pos (by omega), hki]
      · rw [if_neg hki, q3 k hk]
        by_cases hlt : k < i
        · rw [if_pos hlt, if_pos (by omega)]
        · rw [if_neg hlt, if_neg (by omega)])
    refine ⟨m', ?_, e2, e3, e4, e5, e6, e7, fun k x1 x2 => by rw [e8 k x1 x2, o2 _ (by omega) (by omega) (by omega)], fun b hb => by rw [e9 b hb, o2 b (by omega) (by omega) (by omega)]⟩
    unfold X4_sitDown_L12
    simp only [LT]
    rw [rd_gr ht.1 h.2.2.2.2.2.2.1, Option.bind_some, rd_gi htt hn6, Option.bind_some, ien (by omega), rd_ln hob (by decide) (by decide), Option.bind_some, ien (by omega), ien (by omega), rd_gr ht.1 h.2.2.1, Option.bind_some, rd_ai hob (i := i) rfl (by omega) (by omega) (ho i (by omega)), Option.bind_some, wr_si ht.2.2.2.1 (i := i) rfl (by omega) (by omega), Option.bind_some, hm1, rd_gr ht.1 G1.1, Option.bind_some, rd_aq ht.2.1 (i := i) rfl (by omega) (by omega) (G1.2.2.2.2.2.2.2.2 i (by omega)), Option.bind_some, rd_ai hob (i := i) rfl (by omega) (by omega) (by rw [o1 _ (by omega)]; exact ho i (by omega)), Option.bind_some, if_pos ht1.1, X4_fanAt_eq ht1 A1 l1, Option.bind_some, if_pos (ht.2.2.2.2.2.2.2 i (by omega)).1, a1, Option.bind_some, zI_add]
    exact e1
theorem X4_sitDown_eq {m : mm_V} {ob : Nat} {o : List Nat} (ht : gameT e.1 a0) (ht1 : gameT e.1 a) (hob : e.1 ob = some (20, 6)) (haa : a0 + 20 ≤ a ∨ a + 20 ≤ a0) (hoa : ob < a0 ∨ a0 + 20 ≤ ob) (hta : t + 19 ≤ a0 ∨ a0 + 20 ≤ t) (E : cE e m t N P rl) (hw : gmW m a0) (h : gC m a t sit lw lk x S) (ho : ordM m ob o) (ok : okO N o) (hN : 1000 < e.2.2) : ∃ x0 m', X4_sitDown e a0 a ob m = some m' ∧ gC m' a0 t (gO o) (zI 0) (zI 0) x0 (stS N S.1 o) ∧ ∀ b, (b < a0 ∨ a0 + 20 ≤ b) → m' b = m b := by
  obtain ⟨tT, tS, t6, t7, tr, tw, h2, h6, hP⟩ := E
  obtain ⟨t0, f0, x0, w1, w2, w3⟩ := hw
  obtain ⟨m1, a1, a2, a3, a4, a5, a6, a7, a8⟩ := X4_open_eq (e := e) (t := t) (lw := zI 0) (lk := zI 0) ht w1 w2 (Or.inl rfl) (by omega)
  have o1 : ∀ b, (b < a0 ∨ a0 + 20 ≤ b) → m1 b = m b := fun b hb => a8 b (by omega) (by omega) (by omega)
  obtain ⟨m', e1, e2, e3, e4, e5, e6, e7, e8, e9⟩ := X4_sit_loop (e := e) (o := o) (f := S.1) ht ht1 hob haa hoa hta tT.1 h2 h6 (fun i hi => ok.lt6 h6 i (by omega)) hN N 0 e.2.2 m1 (fun _ => []) (by omega) (by omega) a2 (h.1.keep (fun j _ => by rw [o1 _ (by omega)]) (fun b _ _ => o1 _ (by omega))) (h.2.1.keep (fun b _ _ => o1 _ (by omega))) (by rw [o1 _ (by omega)]; exact t6) (fun k hk => by rw [o1 _ (by omega)]; exact ho k hk) a3 (fun k hk => absurd hk (by omega)) (fun k _ => rfl) (fun k hk => by rw [if_neg (by omega)]; exact a4 k hk)
  refine ⟨x0, m', ?_, gC.mk e2 e3 (fun i hi => ?_) e7 (by rw [e8 _ (by omega) (by omega)]; exact a5) (by rw [e8 _ (by omega) (by omega)]; exact a6) (by rw [e8 _ (by omega) (by omega), a7 _ (by omega)]; exact w3) e6 e5, fun b hb => by rw [e9 b hb, o1 b hb]⟩
  · unfold X4_sitDown
    rw [rd_gr ht1.1 h.1.2.2.2.2.2.2.1, Option.bind_some]
    have a1' : X4_open e a0 t 0 0 m = some m1 := a1
    rw [a1', Option.bind_some, show (0 : Int32) = zI ((0 : Nat) : Int) from rfl]
    exact e1
  · rw [e4 i hi]
    by_cases hiN : i < N
    · rw [if_pos hiN]
    · rw [if_neg hiN, ok.2.2.2 i (by omega) hi]
theorem X6_playOut_eq {m : mm_V} {A : LA} (hu : outT e.1 u) (hut : u + 110 ≤ t ∨ t + 19 ≤ u) (ha : gameT e.1 a) (hau : u + 110 ≤ a ∨ a + 20 ≤ u ∨ (u + 10 ≤ a ∧ a + 20 ≤ u + 110)) (hat : t + 19 ≤ a ∨ a + 20 ≤ t) (hsit : ∀ i, i < 6 → sit i < 6) (hS : outS m u) (E : cE e m t N P rl) (h : gC m a t sit lw lk x S) (ok : okS N P S) (hA : lossR m u A) (h20 : A.2.2 ≤ 200) (hN : 1000 < e.2.2) : ∃ m', X6_playOut e u a m = some (ozI ((lsr N (watR rl sit lw lk N S x).2.1.1.1).map sit), m') ∧ lossR m' u (poA ((lsr N (watR rl sit lw lk N S x).2.1.1.1).map sit) (watR rl sit lw lk N S x).2.2 A) ∧ outS m' u ∧ gmW m' a ∧ (watR rl sit lw lk N S x).2.2 ≤ 200 ∧ (∀ j, j ≠ 5 → j ≠ 6 → m' u j = m u j) ∧ ∀ b, (b < a ∨ a + 20 ≤ b) → (b < u ∨ u + 7 ≤ b) → b ≠ u + 9 → b ≠ t + 6 → m' b = m b := by
  obtain ⟨tT, tS, t6, t7, tr, tw, h2, h6, hP⟩ := id E
  obtain ⟨m1, a1, a2, a3, a4, a5, a6, a7, a8, a9⟩ := X7_watch_eq (e := e) hu.2.2.1 ha (by omega) hat (by omega) hsit hS.2.2.2.2.2.2 E h ok hN
  generalize hR : watR rl sit lw lk N S x = R at *
  obtain ⟨w0, v1, v2, v3⟩ := a3.1.qn
  have q1 : ∀ j, m1 u j = m u j := fun j => by rw [a9 _ (by omega) (by omega) (by omega)]
  have S1 : outS m1 u := hS.keep' (fun j _ => q1 j) (a9 _ (by omega) (by omega) (by omega)) a4
  generalize hm2 : mm_up m1 u 6 (.int (zI (max A.2.2 R.2.2 : Nat))) = m2
  have o2 : ∀ b, b ≠ u → m2 b = m1 b := fun b x1 => by rw [← hm2, up_row _ _ _ x1]
  have q2 : ∀ j, j ≠ 6 → m2 u j = m u j := fun j x1 => by rw [← hm2, up_ne _ _ (Or.inr x1), q1]
  have S2 : outS m2 u := S1.keep' (fun j _ => by rw [q2 _ (by omega), q1]) (o2 _ (by omega)) (a4.keep (fun j _ => by rw [o2 _ (by omega)]))
  have g2 : gC m2 a t sit lw lk R.2.1.2 R.2.1.1 := a2.keep (fun b _ _ _ _ => o2 b (by omega))
  have pre : ∀ y, (if e.1 a = some (4, 12) then ((X4_sitterAt e a (ozI (lsr N R.2.1.1.1)) m2).bind fun r11 => if r11.1 < (zI 0) then (X6_playOut_b61 e u r11.1  r11.2) else (if (zI 6) ≤ r11.1 then (X6_playOut_b61 e u r11.1  r11.2) else ((mm_gr e.1 r11.2 6 12 u 4).bind fun c13 => (mm_ai e.1 r11.2 20 c13 r11.1).bind fun x14 => (mm_si e.1 r11.2 c13 r11.1 (x14 + (zI 1))).bind fun m15 => X6_playOut_b71 e r11.1  m15))) else none) = y → X6_playOut e u a m = y := by
    intro y hy
    unfold X6_playOut
    simp only [LT]
    rw [rd_gr hu.1 hS.2.1, Option.bind_some, if_pos hu.2.2.1.1, a1, Option.bind_some, rd_gi hu.1 (v := zI A.2.2) (by rw [q1]; exact hA.2.2), Option.bind_some, rd_gr hu.1 S1.2.1, Option.bind_some, rd_gi hu.2.2.1.1 a5.2.2.2.2.2, Option.bind_some, J9_max_eq (by omega) (by omega), Option.bind_some, wr_pf hu.1, Option.bind_some, hm2, rd_gr hu.1 S2.2.1, Option.bind_some, rd_gi hu.2.2.1.1 (v := ozI (lsr N R.2.1.1.1)) (by rw [o2 _ (by omega)]; exact a8), Option.bind_some]
    exact hy
  cases hl : lsr N R.2.1.1.1 with
  | none =>
    generalize hm3 : mm_up m2 u 5 (.int (zI (A.2.1 + 1 : Nat))) = m3
    have o3 : ∀ b, b ≠ u → m3 b = m2 b := fun b x1 => by rw [← hm3, up_row _ _ _ x1]
    refine ⟨m3, pre _ ?_, ⟨fun i hi => ?_, by rw [← hm3, up_at]; rfl, by rw [← hm3, up_ne _ _ (Or.inr (by omega)), ← hm2, up_at]; rfl⟩, S2.keep' (fun j _ => by rw [← hm3, up_ne _ _ (Or.inr (by omega))]) (o3 _ (by omega)) (S2.2.2.2.2.2.2.keep (fun j _ => by rw [o3 _ (by omega)])), g2.gmW.keep (fun b _ _ => o3 b (by omega)), a7, fun j x1 x2 => by rw [← hm3, up_ne _ _ (Or.inr x1), q2 j x2], fun b x1 x2 x3 x4 => by rw [o3 b (by omega), o2 b (by omega), a9 b x1 (by omega) x4]⟩
    · rw [hl, if_pos ha.1]
      simp only [ozI]
      rw [X4_sitterAt_no, Option.bind_some, ilp (by omega)]
      unfold X6_playOut_b61 X6_playOut_b71
      simp only [LT]
      rw [rd_gi hu.1 (v := zI A.2.1) (by rw [q2 _ (by omega)]; exact hA.2.1), Option.bind_some, wr_pf hu.1, Option.bind_some, zI_add, show ((A.2.1 : Int) + 1) = ((A.2.1 + 1 : Nat) : Int) by omega, hm3]
      rfl
    · show m3 (u + 9) i = .int (zI (A.1 i))
      rw [o3 _ (by omega), o2 _ (by omega), a9 _ (by omega) (by omega) (by omega)]; exact hA.1 i hi
  | some w =>
    have hw : w = w0 := by
      unfold lsr at hl; split at hl
      · rw [v2] at hl; exact (Option.some.inj hl).symm
      · cases hl
    have w6 : w < 6 := by omega
    have s6 := hsit w w6
    generalize hm3 : mm_up m2 (u + 9) (sit w) (.int (zI (A.1 (sit w) + 1 : Nat))) = m3
    have o3 : ∀ b, b ≠ u + 9 → m3 b = m2 b := fun b x1 => by rw [← hm3, up_row _ _ _ x1]
    refine ⟨m3, pre _ ?_, ⟨fun i hi => ?_, by rw [o3 _ (by omega), q2 _ (by omega)]; exact hA.2.1, by rw [o3 _ (by omega), ← hm2, up_at]; rfl⟩, S2.keep' (fun j _ => by rw [o3 _ (by omega)]) (o3 _ (by omega)) (S2.2.2.2.2.2.2.keep (fun j _ => by rw [o3 _ (by omega)])), g2.gmW.keep (fun b _ _ => o3 b (by omega)), a7, fun j x1 x2 => by rw [o3 _ (by omega), q2 j x2], fun b x1 x2 x3 x4 => by rw [o3 b x3, o2 b (by omega), a9 b x1 (by omega) x4]⟩
    · rw [hl, if_pos ha.1]
      show ((X4_sitterAt e a (zI w) m2).bind _) = _
      rw [X4_sitterAt_eq (v := zI (sit w)) ha g2.1 w6 (g2.2.2.1 w w6), Option.bind_some]
      rw [iln (by omega), ien (by omega), rd_gr hu.1 S2.2.2.2.2.1, Option.bind_some, rd_ai (m := m2) hu.2.2.2.2.2.1 (i := sit w) rfl (by omega) (by omega) (by rw [o2 _ (by omega), a9 _ (by omega) (by omega) (by omega)]; exact hA.1 (sit w) s6), Option.bind_some, zI_add, show ((A.1 (sit w) : Int) + 1) = ((A.1 (sit w) + 1 : Nat) : Int) by omega, wr_si hu.2.2.2.2.2.1 (i := sit w) rfl (by omega) (by omega), Option.bind_some, hm3]
      rfl
    · show m3 (u + 9) i = .int (zI (setF A.1 (sit w) (A.1 (sit w) + 1) i : Nat))
      rw [← hm3, up_pt]
      by_cases hi' : i = sit w
      · rw [if_pos hi', hi', setF_at]
      · rw [if_neg hi', setF_ne _ _ hi', o2 _ (by omega), a9 _ (by omega) (by omega) (by omega)]; exact hA.1 i hi
theorem X6_begin_eq {m : mm_V} (hu : outT e.1 u) (hS : outS m u) (hN : 1000 < e.2.2) : ∃ m', X6_begin e u m = some m' ∧ lossR m' u (fun _ => 0, 0, 0) ∧ outS m' u ∧ (∀ j, j ≠ 5 → j ≠ 6 → m' u j = m u j) ∧ ∀ b, b ≠ u → b ≠ u + 9 → m' b = m b := by
  generalize hm1 : mm_up m u 5 (.int (zI 0)) = m1
  generalize hm2 : mm_up m1 u 6 (.int (zI 0)) = m2
  have o2 : ∀ b, b ≠ u → m2 b = m b := fun b x1 => by rw [← hm2, up_row _ _ _ x1, ← hm1, up_row _ _ _ x1]
  have q2 : ∀ j, j ≠ 5 → j ≠ 6 → m2 u j = m u j := fun j x1 x2 => by rw [← hm2, up_ne _ _ (Or.inr x2), ← hm1, up_ne _ _ (Or.inr x1)]
  have r4 : m2 u 4 = .ref (u + 9) := by rw [q2 _ (by omega) (by omega)]; exact hS.2.2.2.2.1
  have loop : ∀ (j i nn : Nat) (m : mm_V), i + j = 6 → j < nn → m u 4 = .ref (u + 9) → (∀ k, k < i → m (u + 9) k = .int (zI 0)) → ∃ m', X6_begin_L12 e u nn (zI i) m = some m' ∧ (∀ k, k < 6 → m' (u + 9) k = .int (zI 0)) ∧ ∀ b, b ≠ u + 9 → m' b = m b := by
    intro j
    induction j with
    | zero =>
      intro i nn m hi hn hr h
      obtain ⟨nn, rfl⟩ : ∃ n', nn = n' + 1 := ⟨nn - 1, by omega⟩
      refine ⟨m, ?_, fun k hk => h k (by omega), fun _ _ => rfl⟩
      unfold X6_begin_L12
      simp only [LT]
      rw [iep (by omega)]
    | succ j ih =>
      intro i nn m hi hn hr h
      obtain ⟨nn, rfl⟩ : ∃ n', nn = n' + 1 := ⟨nn - 1, by omega⟩
      obtain ⟨m', e1, e2, e3⟩ := ih (i + 1) nn (mm_up m (u + 9) i (.int (zI 0))) (by omega) (by omega) (by rw [up_ne _ _ (Or.inl (by omega))]; exact hr) (fun k hk => by
        by_cases hki : k = i
        · subst hki; exact up_at _ _ _ _
        · rw [up_ne _ _ (Or.inr hki)]; exact h k (by omega))
      refine ⟨m', ?_, e2, fun b hb => by rw [e3 b hb, up_row _ _ _ hb]⟩
      unfold X6_begin_L12
      simp only [LT]
      rw [ien (by omega), rd_gr hu.1 hr, Option.bind_some, wr_si hu.2.2.2.2.2.1 (i := i) rfl (by omega) (by omega), Option.bind_some, zI_add]
      exact e1
  obtain ⟨m', e1, e2, e3⟩ := loop 6 0 e.2.2 m2 (by omega) (by omega) r4 (fun k hk => absurd hk (by omega))
  refine ⟨m', ?_, ⟨e2, by rw [e3 _ (by omega), ← hm2, up_ne _ _ (Or.inr (by omega)), ← hm1, up_at]; rfl, by rw [e3 _ (by omega), ← hm2, up_at]; rfl⟩, hS.keep (fun j _ => by rw [e3 _ (by omega), q2 _ (by omega) (by omega)]) (by rw [e3 _ (by omega), o2 _ (by omega)]) (by rw [e3 _ (by omega), o2 _ (by omega)]), fun j x1 x2 => by rw [e3 _ (by omega), q2 j x1 x2], fun b x1 x2 => by rw [e3 b x2, o2 b x1]⟩
  unfold X6_begin
  simp only [LT]
  rw [wr_pf hu.1, Option.bind_some, hm1, wr_pf hu.1, Option.bind_some, hm2]
  exact e1
/-! all orders -/
def resO (rl : Nat → List Int) (N : Nat) (f : Nat → List Nat) (o : List Nat) : Option Nat := (lsr N (watR rl (gO o) (zI 0) (zI 0) N (stS N f o) (zI 0)).2.1.1.1).map (gO o)
def resN (rl : Nat → List Int) (N : Nat) (f : Nat → List Nat) (o : List Nat) : Nat := (watR rl (gO o) (zI 0) (zI 0) N (stS N f o) (zI 0)).2.2
def stA (rl : Nat → List Int) (N p : Nat) (f : Nat → List Nat) (o : List Nat) (A : LA × Option Nat) : LA × Option Nat := (poA (resO rl N f o) (resN rl N f o) A.1, match A.2 with
  | some v => some v
  | none => match resO rl N f o with
    | none => none
    | some w => if w = p then none else some (nuO o N 0))
def sts (rl : Nat → List Int) (N p : Nat) (f : Nat → List Nat) : Nat → List Nat → LA × Option Nat → LA × Option Nat
  | 0, _, A => A
  | k + 1, o, A => match nxO N o with
    | none => stA rl N p f o A
    | some o' => sts rl N p f k o' (stA rl N p f o A)
theorem X6_try_loop (hu : outT e.1 u) (hut : u + 110 ≤ t ∨ t + 19 ≤ u) (ha : gameT e.1 a) (hau : u + 110 ≤ a ∨ a + 20 ≤ u) (hat : t + 19 ≤ a ∨ a + 20 ≤ t) (hp : p < N) (hN : 1000 < e.2.2) : ∀ (k i nn : Nat) (m : mm_V) (o : List Nat) (A : LA) (fi : Option Nat), i + k = 120 → k < nn → cE e m t N P rl → outS m u → lvW m u → gC m a t sit lw lk x S → okS N P S → lossR m u A → A.2.2 ≤ 200 → m u 7 = .int (ozI fi) → (∀ v, fi = some v → v < 6 ^ 6) → ordM m (u + 8) o → okO N o → ∃ m', X6_trySeats_L49 e u a (zI p) (zI N) nn (zI 1) (zI i) m = some m' ∧ lossR m' u (sts rl N p S.1 k o (A, fi)).1 ∧ m' u 7 = .int (ozI (sts rl N p S.1 k o (A, fi)).2) ∧ outS m' u ∧ lvW m' u ∧ (∀ j, 8 ≤ j → m' u j = m u j) ∧ ∀ b, (b < u ∨ u + 110 ≤ b) → b ≠ t + 6 → m' b = m b := by
  intro k
  induction k with
  | zero =>
    intro i nn m o A fi hi hn E hS hW h ok hA h20 h7 hfi ho oko
    obtain ⟨nn, rfl⟩ : ∃ n', nn = n' + 1 := ⟨nn - 1, by omega⟩
    refine ⟨m, ?_, hA, h7, hS, hW, fun _ _ => rfl, fun _ _ _ => rfl⟩
    unfold X6_trySeats_L49 X6_trySeats_b129
    rw [show (120 : Int32) = zI 120 from rfl, iep (by omega)]
  | succ k ih =>
    intro i nn m o A fi hi hn E hS hW h ok hA h20 h7 hfi ho oko
    obtain ⟨nn, rfl⟩ : ∃ n', nn = n' + 1 := ⟨nn - 1, by omega⟩
    obtain ⟨tT, tS, t6, t7, tr, tw, h2, h6, hP⟩ := id E
    have ha0 := hu.2.2.2.2.2.2 0 (by omega)
    rw [Nat.mul_zero, Nat.add_zero] at ha0
    have hW0 := hW 0 (by omega)
    rw [Nat.mul_zero, Nat.add_zero] at hW0
    have hz0 := hS.2.2.2.2.2.1 0 (by omega)
    rw [Nat.mul_zero, Nat.add_zero] at hz0
    obtain ⟨x0, m1, a1, a2, a3⟩ := X4_sitDown_eq (e := e) (ob := u + 8) ha0 ha hu.2.2.2.2.1 (by omega) (by omega) (by omega) E hW0 h ho oko hN
    have S1 : outS m1 u := hS.keep (fun j _ => by rw [a3 _ (by omega)]) (a3 _ (by omega)) (a3 _ (by omega))
    obtain ⟨m2, b1, b2, b3, b4, b5, b6, b7⟩ := X6_playOut_eq (e := e) (A := A) hu hut ha0 (by omega) (by omega) (oko.lt6 h6) S1 (E.keep (fun b _ _ _ => a3 b (by omega))) a2 (okS_stS (by omega) ok.1 oko) ⟨fun i hi => by rw [a3 _ (by omega)]; exact hA.1 i hi, by rw [a3 _ (by omega)]; exact hA.2.1, by rw [a3 _ (by omega)]; exact hA.2.2⟩ h20 hN
    have hx := watR_x (rl := rl) (sit := gO o) (lw := zI 0) (N := N) (zI 0) (stS N S.1 o) x0
    have r1 : (lsr N (watR rl (gO o) (zI 0) (zI 0) N (stS N S.1 o) x0).2.1.1.1).map (gO o) = resO rl N S.1 o := by rw [hx]; rfl
    have r2 : (watR rl (gO o) (zI 0) (zI 0) N (stS N S.1 o) x0).2.2 = resN rl N S.1 o := by rw [hx]; rfl
    rw [r1] at b1 b2
    rw [r2] at b2 b5
    have o2 : ∀ b, (b < u ∨ u + 110 ≤ b) → b ≠ t + 6 → m2 b = m b := fun b x1 x2 => by rw [b7 b (by omega) (by omega) (by omega) x2, a3 b (by omega)]
    have q2 : ∀ j, j ≠ 5 → j ≠ 6 → m2 u j = m u j := fun j x1 x2 => by rw [b6 j x1 x2, a3 _ (by omega)]
    have ord2 : ordM m2 (u + 8) o := fun j hj => by rw [b7 _ (by omega) (by omega) (by omega) (by omega), a3 _ (by omega)]; exact ho j hj
    have W2 : lvW m2 u := fun j hj => by
      by_cases hj0 : j = 0
      · rw [hj0, Nat.mul_zero, Nat.add_zero]; exact b4
      · exact (hW j hj).keep (fun b _ _ => by rw [b7 b (by omega) (by omega) (by omega) (by omega), a3 b (by omega)])
    -- the first order is noted
    have hrw : ∀ w, resO rl N S.1 o = some w → w < 6 := fun w hw => by
      unfold resO at hw
      obtain ⟨v, v1, v2⟩ := Option.map_eq_some_iff.mp hw
      have ok1 : okS N P (watR rl (gO o) (zI 0) (zI 0) N (stS N S.1 o) x0).2.1.1 := by
        obtain ⟨_, _, _, ok1, _⟩ := X7_watch_eq (e := e) hu.2.2.1 ha0 (by omega) (by omega) (by omega) (oko.lt6 h6) S1.2.2.2.2.2.2 (E.keep (fun b _ _ _ => a3 b (by omega))) a2 (okS_stS (by omega) ok.1 oko) hN
        exact ok1
      rw [hx] at ok1
      obtain ⟨w0, y1, y2, y3⟩ := ok1.1.qn
      have : v < 6 := by
        unfold lsr at v1; split at v1
        · rw [y2] at v1; cases v1; omega
        · cases v1
      rw [← v2]; exact oko.lt6 h6 v this
    obtain ⟨m3, hm3, h73, o3, q3, hnx⟩ : ∃ m3 : mm_V, (∀ b, b ≠ u → m3 b = m2 b) ∧ m3 u 7 = .int (ozI (stA rl N p S.1 o (A, fi)).2) ∧ True ∧ (∀ j, j ≠ 7 → m3 u j = m2 u j) ∧ ∀ y, X6_trySeats_b116 e (X6_trySeats_L49 e u a (zI p) (zI N) nn) u a (zI p) (zI N) (zI i) m3 = y → X6_trySeats_L49 e u a (zI p) (zI N) (nn + 1) (zI 1) (zI i) m = y := by
      have pre : ∀ y, (if ¬ ozI fi = zI (-1) then (X6_trySeats_b116 e (X6_trySeats_L49 e u a (zI p) (zI N) nn) u a (zI p) (zI N) (zI i) m2) else (if ozI (resO rl N S.1 o) = zI (-1) then (X6_trySeats_b116 e (X6_trySeats_L49 e u a (zI p) (zI N) nn) u a (zI p) (zI N) (zI i) m2) else (if ozI (resO rl N S.1 o) = zI p then (X6_trySeats_b116 e (X6_trySeats_L49 e u a (zI p) (zI N) nn) u a (zI p) (zI N) (zI i) m2) else ((X6_orderAsNumber e u (zI N) m2).bind fun r10 => (mm_pf e.1 r10.2 6 12 u 7 (.int r10.1)).bind fun m11 => X6_trySeats_b116 e (X6_trySeats_L49 e u a (zI p) (zI N) nn) u a (zI p) (zI N) (zI i) m11)))) = y → X6_trySeats_L49 e u a (zI p) (zI N) (nn + 1) (zI 1) (zI i) m = y := by
        intro y hy
        rw [X6_trySeats_L49]
        rw [show (120 : Int32) = zI 120 from rfl, ien (by omega)]
        simp only [LT, zI_neg]
        rw [iqn (by omega), rd_gr hu.1 hS.1, Option.bind_some, rd_aq hu.2.1 (i := 0) (by omega) (by omega) (by omega) hz0, Option.bind_some, rd_gr hu.1 hS.2.2.2.1, Option.bind_some, if_pos ha0.1, a1, Option.bind_some, rd_gr hu.1 S1.1, Option.bind_some, rd_aq hu.2.1 (i := 0) (v := u + 10) (by omega) (by omega) (by omega) (by rw [a3 _ (by omega)]; exact hz0), Option.bind_some, b1, Option.bind_some, rd_gi (m := m2) hu.1 (v := ozI fi) (by rw [q2 _ (by omega) (by omega)]; exact h7), Option.bind_some]
        exact hy
      have z1 := ozI_none (o := fi) (fun v hv => by have := hfi v hv; omega)
      have z2 := ozI_none (o := resO rl N S.1 o) (fun v hv => by have := hrw v hv; omega)
      have z3 := ozI_some (o := resO rl N S.1 o) (w := p) (fun v hv => by have := hrw v hv; omega) (by omega)
      cases hf : fi with
      | some v =>
        refine ⟨m2, fun _ _ => rfl, by rw [q2 _ (by omega) (by omega), h7, hf]; rfl, trivial, fun _ _ => rfl, fun y hy => pre y ?_⟩
        rw [if_pos (show ¬ ozI fi = zI (-1) by rw [z1, hf]; simp)]
        exact hy
      | none =>
        have h7' : m2 u 7 = .int (ozI none) := by rw [q2 _ (by omega) (by omega), h7, hf]
        cases hr : resO rl N S.1 o with
        | none =>
          refine ⟨m2, fun _ _ => rfl, by rw [h7']; unfold stA; simp only [hr], trivial, fun _ _ => rfl, fun y hy => pre y ?_⟩
          rw [if_neg (show ¬ ¬ ozI fi = zI (-1) by rw [z1, hf]; simp), if_pos (show ozI (resO rl N S.1 o) = zI (-1) by rw [z2]; exact hr)]
          exact hy
        | some w =>
          by_cases hwp : w = p
          · refine ⟨m2, fun _ _ => rfl, by rw [h7']; unfold stA; simp only [hr, if_pos hwp], trivial, fun _ _ => rfl, fun y hy => pre y ?_⟩
            rw [if_neg (show ¬ ¬ ozI fi = zI (-1) by rw [z1, hf]; simp), if_neg (show ¬ ozI (resO rl N S.1 o) = zI (-1) by rw [z2, hr]; simp), if_pos (show ozI (resO rl N S.1 o) = zI p by rw [eq_comm, z3, hr, hwp])]
            exact hy
          · refine ⟨mm_up m2 u 7 (.int (zI (nuO o N 0))), fun b hb => up_row _ _ _ hb, by rw [up_at]; unfold stA; simp only [hr, if_neg hwp]; rfl, trivial, fun j hj => up_ne _ _ (Or.inr hj), fun y hy => pre y ?_⟩
            rw [if_neg (show ¬ ¬ ozI fi = zI (-1) by rw [z1, hf]; simp), if_neg (show ¬ ozI (resO rl N S.1 o) = zI (-1) by rw [z2, hr]; simp), if_neg (show ¬ ozI (resO rl N S.1 o) = zI p by rw [eq_comm, z3, hr]; intro hh; exact hwp (Option.some.inj hh)), X6_number_eq hu.1 hu.2.2.2.2.1 b3.2.2.2.1 ord2 h6 hN, Option.bind_some, wr_pf hu.1, Option.bind_some]
            exact hy
    have S3 : outS m3 u := b3.keep (fun j _ => q3 j (by omega)) (hm3 _ (by omega)) (hm3 _ (by omega))
    obtain ⟨v, m4, c1, c2, c3⟩ := X6_nextOrder_eq (e := e) (o := o) hu.1 hu.2.2.2.2.1 S3.2.2.2.1 (fun j hj => by rw [hm3 _ (by omega)]; exact ord2 j hj) oko h2 h6 hN
    have o4 : ∀ b, (b < u ∨ u + 110 ≤ b) → b ≠ t + 6 → m4 b = m b := fun b x1 x2 => by rw [c3 b (by omega), hm3 b (by omega), o2 b x1 x2]
    have S4 : outS m4 u := S3.keep (fun j _ => by rw [c3 _ (by omega)]) (c3 _ (by omega)) (c3 _ (by omega))
    have W4 : lvW m4 u := fun j hj => (W2 j hj).keep (fun b _ _ => by rw [c3 b (by omega), hm3 b (by omega)])
    have L4 : lossR m4 u (stA rl N p S.1 o (A, fi)).1 := ⟨fun j hj => by rw [c3 _ (by omega), hm3 _ (by omega)]; exact b2.1 j hj, by rw [c3 _ (by omega), q3 _ (by omega)]; exact b2.2.1, by rw [c3 _ (by omega), q3 _ (by omega)]; exact b2.2.2⟩
    have h74 : m4 u 7 = .int (ozI (stA rl N p S.1 o (A, fi)).2) := by rw [c3 _ (by omega)]; exact h73
    have q4 : ∀ j, 8 ≤ j → m4 u j = m u j := fun j hj => by rw [c3 _ (by omega), q3 _ (by omega), q2 _ (by omega) (by omega)]
    have step : ∀ y, X6_trySeats_L49 e u a (zI p) (zI N) nn v (zI (i + 1 : Nat)) m4 = y → X6_trySeats_L49 e u a (zI p) (zI N) (nn + 1) (zI 1) (zI i) m = y := fun y hy => hnx y (by
      unfold X6_trySeats_b116
      rw [c1, Option.bind_some, show (zI (i : Int) + 1 : Int32) = zI ((i + 1 : Nat) : Int) from zI_add i 1]
      exact hy)
    rw [sts]
    cases hno : nxO N o with
    | none =>
      rw [hno] at c2
      obtain ⟨nn, rfl⟩ : ∃ n', nn = n' + 1 := ⟨nn - 1, by omega⟩
      refine ⟨m4, step _ ?_, L4, h74, S4, W4, q4, o4⟩
      rw [X6_trySeats_L49]
      unfold X6_trySeats_b129
      rw [show (120 : Int32) = zI 120 from rfl, c2.1]
      by_cases h12 : i + 1 = 120
      · rw [iep (by omega)]
      · rw [ien (by omega), if_pos (show (zI 0 : Int32) = 0 from rfl)]
    | some o' =>
      rw [hno] at c2
      obtain ⟨m', e1, e2, e3, e4, e5, e6, e7⟩ := ih (i + 1) nn m4 o' (stA rl N p S.1 o (A, fi)).1 (stA rl N p S.1 o (A, fi)).2 (by omega) (by omega) (E.keep (fun b _ _ z => o4 b (by omega) z)) S4 W4 (h.keep (fun b _ _ _ _ => o4 b (by omega) (by omega))) ok L4 (by
        show (poA (resO rl N S.1 o) (resN rl N S.1 o) A).2.2 ≤ 200
        cases resO rl N S.1 o <;> exact Nat.max_le.mpr ⟨h20, b5⟩) h74 (fun v' hv' => by
        simp only [stA] at hv'
        cases hf : fi with
        | some v =>
          rw [hf] at hv'
          cases hv'
          exact hfi _ hf
        | none =>
          rw [hf] at hv'
          simp only at hv'
          split at hv'
          · cases hv'
          · split at hv'
            · cases hv'
            · cases hv'; exact nuO_lt oko h6 N 0 (Nat.le_refl _) (Nat.pow_pos (by omega))) c2.2 (okO_nx h2 h6 oko hno)
      refine ⟨m', step _ ?_, e2, e3, e4, e5, fun j hj => by rw [e6 j hj, q4 j hj], fun b x1 x2 => by rw [e7 b x1 x2, o4 b x1 x2]⟩
      rw [c2.1]
      exact e1
theorem X6_try_fill (hu : outT e.1 u) : ∀ (j i nn : Nat) (m : mm_V), i + j = 6 → j < nn → m u 3 = .ref (u + 8) → (∀ k, k < i → m (u + 8) k = .int (zI k)) → ∃ n1 m', X6_trySeats_L11 e u a (zI p) nn (zI i) m = X6_trySeats_L11 e u a (zI p) (n1 + 1) (zI 6) m' ∧ ordM m' (u + 8) idO ∧ ∀ b, b ≠ u + 8 → m' b = m b := by
  intro j
  induction j with
  | zero =>
    intro i nn m hi hn hr h
    obtain ⟨nn, rfl⟩ : ∃ n', nn = n' + 1 := ⟨nn - 1, by omega⟩
    have hid : ∀ i, i < 6 → gO idO i = i := by decide
    have : i = 6 := by omega
    subst this
    exact ⟨nn, m, rfl, fun k hk => by rw [hid k hk]; exact h k (by omega), fun _ _ => rfl⟩
  | succ j ih =>
    intro i nn m hi hn hr h
    obtain ⟨nn, rfl⟩ : ∃ n', nn = n' + 1 := ⟨nn - 1, by omega⟩
    obtain ⟨n1, m', e1, e2, e3⟩ := ih (i + 1) nn (mm_up m (u + 8) i (.int (zI i))) (by omega) (by omega) (by rw [up_ne _ _ (Or.inl (by omega))]; exact hr) (fun k hk => by
      by_cases hki : k = i
      · subst hki; exact up_at _ _ _ _
      · rw [up_ne _ _ (Or.inr hki)]; exact h k (by omega))
    refine ⟨n1, m', ?_, e2, fun b hb => by rw [e3 b hb, up_row _ _ _ hb]⟩
    conv => lhs; unfold X6_trySeats_L11
    simp only [LT]
    rw [ien (by omega), rd_gr hu.1 hr, Option.bind_some, wr_si hu.2.2.2.2.1 (i := i) rfl (by omega) (by omega), Option.bind_some, zI_add]
    exact e1
theorem X6_trySeats_eq {m : mm_V} (hu : outT e.1 u) (hut : u + 110 ≤ t ∨ t + 19 ≤ u) (ha : gameT e.1 a) (hau : u + 110 ≤ a ∨ a + 20 ≤ u) (hat : t + 19 ≤ a ∨ a + 20 ≤ t) (hp : p < N) (E : cE e m t N P rl) (hS : outS m u) (hW : lvW m u) (h : gC m a t sit lw lk x S) (ok : okS N P S) (hN : 1000 < e.2.2) : ∃ m', X6_trySeats e u a (zI p) m = some m' ∧ lossR m' u (sts rl N p S.1 120 idO ((fun _ => 0, 0, 0), none)).1 ∧ m' u 7 = .int (ozI (sts rl N p S.1 120 idO ((fun _ => 0, 0, 0), none)).2) ∧ outS m' u ∧ lvW m' u ∧ (∀ j, 8 ≤ j → m' u j = m u j) ∧ ∀ b, (b < u ∨ u + 110 ≤ b) → b ≠ t + 6 → m' b = m b := by
  obtain ⟨tT, tS, t6, t7, tr, tw, h2, h6, hP⟩ := id E
  obtain ⟨m1, a1, a2, a3, a4, a5⟩ := X6_begin_eq (e := e) hu hS hN
  generalize hm2 : mm_up m1 u 7 (.int (zI (-1))) = m2
  have o2 : ∀ b, b ≠ u → m2 b = m1 b := fun b x1 => by rw [← hm2, up_row _ _ _ x1]
  have q2 : ∀ j, j ≠ 7 → m2 u j = m1 u j := fun j x1 => by rw [← hm2, up_ne _ _ (Or.inr x1)]
  have S2 : outS m2 u := a3.keep (fun j _ => q2 j (by omega)) (o2 _ (by omega)) (o2 _ (by omega))
  obtain ⟨n1, m3, b1, b2, b3⟩ := X6_try_fill (e := e) (a := a) (p := p) hu 6 0 e.2.2 m2 (by omega) (by omega) S2.2.2.2.1 (fun k hk => absurd hk (by omega))
  have o3 : ∀ b, (b < u ∨ u + 10 ≤ b) → m3 b = m b := fun b x1 => by rw [b3 b (by omega), o2 b (by omega), a5 b (by omega) (by omega)]
  obtain ⟨m', e1, e2, e3, e4, e5, e6, e7⟩ := X6_try_loop (e := e) (rl := rl) (sit := sit) (lw := lw) (lk := lk) (x := x) (S := S) hu hut ha hau hat hp hN 120 0 e.2.2 m3 idO (fun _ => 0, 0, 0) none (by omega) (by omega) (E.keep (fun b _ _ _ => o3 b (by omega))) (S2.keep (fun j _ => by rw [b3 _ (by omega)]) (b3 _ (by omega)) (b3 _ (by omega))) (fun k hk => (hW k hk).keep (fun b _ _ => o3 b (by omega))) (h.keep (fun b _ _ _ _ => o3 b (by omega))) ok ⟨fun i hi => by rw [b3 _ (by omega), o2 _ (by omega)]; exact a2.1 i hi, by rw [b3 _ (by omega), q2 _ (by omega)]; exact a2.2.1, by rw [b3 _ (by omega), q2 _ (by omega)]; exact a2.2.2⟩ (by simp) (by rw [b3 _ (by omega), ← hm2, up_at]; rfl) (fun v hv => by cases hv) b2 (okO_id h6)
  refine ⟨m', ?_, e2, e3, e4, e5, fun j hj => by rw [e6 j hj, b3 _ (by omega), q2 _ (by omega), a4 _ (by omega) (by omega)], fun b x1 x2 => by rw [e7 b x1 x2, o3 b (by omega)]⟩
  unfold X6_trySeats
  simp only [LT, zI_neg]
  rw [a1, Option.bind_some, wr_pf hu.1, Option.bind_some, hm2, show (zI 0 : Int32) = zI ((0 : Nat) : Int) from rfl, b1, X6_trySeats_L11]
  unfold J9_min_7cf53 J9_min_7cf53_b10
  simp only [LT]
  rw [iep (by omega), rd_gr ha.1 (v := t) (by rw [o3 _ (by omega)]; exact h.1.2.2.2.2.2.2.1), Option.bind_some, rd_gi tT.1 (v := zI N) (by rw [o3 _ (by omega)]; exact t6), Option.bind_some, iln (by omega), Option.bind_some]
  exact e1
end SEATC
