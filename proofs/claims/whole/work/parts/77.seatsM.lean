/-! SEATS of the model. -/
def pkS (what p : Nat) (A : LA × Option Nat) : Int32 := if what = 0 then zI (A.1.1 p) else if what = 1 then zI A.1.2.1 else ozI A.2
section SEATM
variable {e : mm_E} {q N P p what : Nat} {rl : Nat → List Int} {f : Nat → List Nat}
theorem X12_seats_in {k39 : Int32 → Int32 → Int32 → Int32 → mm_V → Option (Int32 × mm_V)} (k55 : Int32 → mm_V → Option (Int32 × mm_V)) {i1 i2 i3 i4 i5 : Int32} {o : List Nat} (hT : modT e.1 q) (hN : 1000 < e.2.2) {s : Nat} (hs : s < 6) (ho6 : gO o s < 6) (hl : (f (gO o s)).length ≤ 10) : ∀ (j i nn : Nat) (m : mm_V) (g : Nat → List Nat), i + j = (f (gO o s)).length → j < nn → modS m q → rowF m (q + 14) f → ordM m (q + 18) o → rowF m (q + 35) g → g s = (f (gO o s)).take i → ∃ m', X12_seats_L67 e k39 k55 q i1 i2 i3 i4 i5 (zI s) nn (zI i) m = k55 (zI (s + 1 : Nat)) m' ∧ rowF m' (q + 35) (setF g s (f (gO o s))) ∧ rowK m m' (q + 35) s := by
  intro j
  induction j with
  | zero =>
    intro i nn m g hi hn hS hF ho hg hgs
    obtain ⟨nn, rfl⟩ : ∃ n', nn = n' + 1 := ⟨nn - 1, by omega⟩
    rw [List.take_of_length_le (by omega)] at hgs
    refine ⟨m, ?_, by rw [← hgs, setF_id]; exact hg, ⟨fun _ _ => rfl, fun _ _ _ => rfl⟩⟩
    unfold X12_seats_L67
    rw [rd_gr hT.me hS.now_, Option.bind_some, rd_gr hT.me hS.sits_, Option.bind_some, rd_ai hT.sits_ (i := s) rfl (by omega) (by omega) (ho s hs), Option.bind_some, X12_size_eq hT.now_ hF ho6, Option.bind_some, iep (by omega)]
    simp only [LT, ZA]; rfl
  | succ j ih =>
    intro i nn m g hi hn hS hF ho hg hgs
    obtain ⟨nn, rfl⟩ : ∃ n', nn = n' + 1 := ⟨nn - 1, by omega⟩
    have hlt : i < (f (gO o s)).length := by omega
    have hx : (f (gO o s))[i]? = some (f (gO o s))[i] := List.getElem?_eq_getElem hlt
    have hgl : (g s).length = i := by rw [hgs, List.length_take]; omega
    obtain ⟨m1, a1, a2, a3⟩ := X12_inserts_eq (e := e) (k := i) (c := (f (gO o s))[i]) hT.seat_ hg hs (by omega) (by omega) (by omega)
    rw [hgs, take_end hx] at a2
    obtain ⟨m', e1, e2, e3⟩ := ih (i + 1) nn m1 _ (by omega) (by omega) (hS.keep (fun _ _ _ => by rw [a3.1 _ (by omega)])) (hF.keep' (a3.1 _ (by omega))) (fun k hk => by rw [a3.1 _ (by omega)]; exact ho k hk) a2 (setF_at _ _ _)
    have hst : setF (setF g s ((f (gO o s)).take (i + 1))) s (f (gO o s)) = setF g s (f (gO o s)) := by
      funext x; unfold setF; by_cases hxp : x = s
      · rw [if_pos hxp, if_pos hxp]
      · rw [if_neg hxp, if_neg hxp, if_neg hxp]
    rw [hst] at e2
    refine ⟨m', ?_, e2, a3.trans e3⟩
    unfold X12_seats_L67
    rw [rd_gr hT.me hS.now_, Option.bind_some, rd_gr hT.me hS.sits_, Option.bind_some, rd_ai hT.sits_ (i := s) rfl (by omega) (by omega) (ho s hs), Option.bind_some, X12_size_eq hT.now_ hF ho6, Option.bind_some, ien (by omega), rd_gr hT.me hS.seat_, Option.bind_some, rd_gr hT.me hS.now_, Option.bind_some, rd_gr hT.me hS.sits_, Option.bind_some, rd_ai hT.sits_ (i := s) rfl (by omega) (by omega) (ho s hs), Option.bind_some, X12_card_eq hT.now_ hF ho6 hx, Option.bind_some, a1, Option.bind_some]
    simp only [LT, ZA]
    exact e1
theorem X12_seats_fans {k39 : Int32 → Int32 → Int32 → Int32 → mm_V → Option (Int32 × mm_V)} {i1 i2 i3 i4 i5 : Int32} {o : List Nat} (hT : modT e.1 q) (hN : 1000 < e.2.2) (h6 : N ≤ 6) (lt : ∀ i, i < 6 → gO o i < 6) (hl : ∀ k, (f k).length ≤ 10) : ∀ (j i nn : Nat) (m : mm_V) (g : Nat → List Nat), i + j = N → j < nn → modS m q → m q 1 = .int (zI N) → rowF m (q + 14) f → ordM m (q + 18) o → rowF m (q + 35) g → (∀ k, k < i → g k = f (gO o k)) → (∀ k, i ≤ k → g k = []) → ∃ n1 m', X12_seats_L55 e k39 q i1 i2 i3 i4 i5 nn (zI i) m = X12_seats_L55 e k39 q i1 i2 i3 i4 i5 (n1 + 1) (zI N) m' ∧ rowF m' (q + 35) (sF N f o) ∧ (∀ j, (j < 2 ∨ (8 ≤ j ∧ j < 14)) → m' (q + 35) j = m (q + 35) j) ∧ ∀ b, b ≠ q + 35 → m' b = m b := by
  intro j
  induction j with
  | zero =>
    intro i nn m g hi hn hS h1 hF ho hg q1 q2
    obtain ⟨nn, rfl⟩ : ∃ n', nn = n' + 1 := ⟨nn - 1, by omega⟩
    have : i = N := by omega
    subst this
    have hgg : g = sF i f o := by
      funext k
      unfold sF
      by_cases hk : k < i
      · rw [if_pos hk]; exact q1 k hk
      · rw [if_neg hk]; exact q2 k (by omega)
    exact ⟨nn, m, rfl, by rw [← hgg]; exact hg, fun _ _ => rfl, fun _ _ => rfl⟩
  | succ j ih =>
    intro i nn m g hi hn hS h1 hF ho hg q1 q2
    obtain ⟨nn, rfl⟩ : ∃ n', nn = n' + 1 := ⟨nn - 1, by omega⟩
    obtain ⟨m1, a1, a2, a3⟩ := X12_seats_in (e := e) (f := f) (o := o) (k39 := k39) (i1 := i1) (i2 := i2) (i3 := i3) (i4 := i4) (i5 := i5) (X12_seats_L55 e k39 q i1 i2 i3 i4 i5 nn) hT hN (show i < 6 by omega) (lt i (by omega)) (hl _) (f (gO o i)).length 0 e.2.2 m g (by omega) (by have := hl (gO o i); omega) hS hF ho hg (by rw [q2 i (Nat.le_refl _)]; rfl)
    obtain ⟨n1, m', e1, e2, e3, e4⟩ := ih (i + 1) nn m1 _ (by omega) (by omega) (hS.keep (fun _ _ _ => by rw [a3.1 _ (by omega)])) (by rw [a3.1 _ (by omega)]; exact h1) (hF.keep' (a3.1 _ (by omega))) (fun k hk => by rw [a3.1 _ (by omega)]; exact ho k hk) a2 (fun k hk => by
      by_cases hki : k = i
      · rw [hki, setF_at]
      · rw [setF_ne _ _ hki]; exact q1 k (by omega)) (fun k hk => by rw [setF_ne _ _ (by omega)]; exact q2 k (by omega))
    refine ⟨n1, m', ?_, e2, fun j hj => by rw [e3 j hj, a3.2 j (by omega) (by omega)], fun b hb => by rw [e4 b hb, a3.1 b hb]⟩
    conv => lhs; unfold X12_seats_L55
    rw [rd_gi hT.me h1, Option.bind_some, ien (by omega), show (0 : Int32) = zI ((0 : Nat) : Int) from rfl, a1]
    exact e1
theorem X12_seats_loop {S : PS} (hp : p < N) (hwh : what < 3) (hN : 2000 < e.2.2) : ∀ (k nn : Nat) (m : mm_V) (o : List Nat) (A : LA) (fi : Option Nat), enO N k o = true → k < nn → mE e m q N P rl → rowF m (q + 14) S.1 → okS N P S → ordM m (q + 18) o → okO N o → (∀ v, fi = some v → v < 6 ^ 6) → ∃ m', X12_seats_L39 e q (zI p) (zI what) nn (zI (A.1 p)) (zI A.2.1) (ozI fi) (zI 1) m = some (pkS what p (sts rl N p S.1 k o (A, fi)), m') ∧ ordM m' (q + 18) idO ∧ (∀ j, j ≠ 45 → j ≠ 46 → j ≠ 47 → j ≠ 54 → m' q j = m q j) ∧ ∀ b, b ≠ q → b ≠ q + 17 → b ≠ q + 18 → b ≠ q + 35 → (b < q + 20 ∨ q + 24 ≤ b) → m' b = m b := by
  intro k
  induction k with
  | zero => intro nn m o A fi hen; cases hen
  | succ k ih =>
    intro nn m o A fi hen hn E hF ok ho oko hfi
    obtain ⟨nn, rfl⟩ : ∃ n', nn = n' + 1 := ⟨nn - 1, by omega⟩
    obtain ⟨tT, tS, t1, t2, tr, tw, h2, h6, hP⟩ := id E
    have lt := oko.lt6 h6
    obtain ⟨m1, z1, z2, z3⟩ := X12_clears_eq (e := e) (m := m) tT.seat_ (by omega) q
    have R1 : rowF m1 (q + 35) (fun _ => []) := fun p hp => ⟨by rw [z3 _ (by omega)]; rfl, by simp, fun k c hk => by simp at hk⟩
    have E1 : mE e m1 q N P rl := E.keep (fun j _ => by rw [z2 _ (by omega)]) (z2 _ (by omega)) (z2 _ (by omega))
    have F1 : rowF m1 (q + 14) S.1 := hF.keep' (z2 _ (by omega))
    have ord1 : ordM m1 (q + 18) o := fun i hi => by rw [z2 _ (by omega)]; exact ho i hi
    obtain ⟨n1, m2, a1, a2, a3, a4⟩ := X12_seats_fans (e := e) (f := S.1) (o := o) (k39 := X12_seats_L39 e q (zI p) (zI what) nn) (i1 := zI p) (i2 := zI what) (i3 := zI (A.1 p)) (i4 := zI A.2.1) (i5 := ozI fi) tT (by omega) h6 lt (ok.1.len hP) N 0 e.2.2 m1 _ (by omega) (by omega) E1.2.1 E1.2.2.1 F1 ord1 R1 (fun k hk => absurd hk (by omega)) (fun k _ => rfl)
    have E2 : mE e m2 q N P rl := E1.keep (fun j _ => by rw [a4 _ (by omega)]) (a4 _ (by omega)) (a4 _ (by omega))
    have opq := X12_opens_eq (e := e) tT.seat_ tT.me a2 E2.2.2.1 h2 h6 (by omega)
    generalize hm3 : mm_up m2 (q + 35) 0 (.int (if isOv N (sF N S.1 o) then zI (-1) else ozI (opn N (sF N S.1 o)))) = m3 at opq
    have o3 : ∀ b, b ≠ q + 35 → m3 b = m b := fun b x1 => by rw [← hm3, up_row _ _ _ x1, a4 b x1, z2 b x1]
    have G3 : gM m3 (q + 35) N (stS N S.1 o) := by
      refine ⟨a2.keep (fun j x1 x2 => by rw [← hm3, up_ne _ _ (Or.inr (by omega))]) (fun j x1 x2 => by rw [← hm3, up_ne _ _ (Or.inr (by omega))]), by rw [← hm3, up_at]; rfl, by rw [← hm3, up_ne _ _ (Or.inr (by omega)), a3 _ (by omega), z3 _ (by omega)]; rfl, fun i hi => by rw [← hm3, up_ne _ _ (Or.inr (by omega)), a3 _ (by omega), z3 _ (by omega)]; rfl⟩
    have E3 : mE e m3 q N P rl := E.keep (fun j _ => by rw [o3 _ (by omega)]) (o3 _ (by omega)) (o3 _ (by omega))
    have sit3 : sitM m3 q (gO o) := fun i hi => ⟨by rw [o3 _ (by omega)]; exact ho i hi, lt i hi⟩
    have okS3 := okS_stS (P := P) (by omega) ok.1 oko
    obtain ⟨m4, b1, b2, b3, b4, b5, b6⟩ := X12_plays_eq (e := e) (x := zI 0) tT.seat_ (by omega) E3 sit3 G3 okS3 hN
    have L4 : ∀ j, j ∉ [45, 46, 47, 54] → m4 q j = m3 q j := fun j hj => by
      simp only [List.mem_cons, List.not_mem_nil, or_false, not_or] at hj
      exact b5 j hj.1 hj.2.1 hj.2.2.1 hj.2.2.2
    have o4 : ∀ b, b ≠ q → b ≠ q + 35 → b ≠ q + 17 → (b < q + 20 ∨ q + 24 ≤ b) → m4 b = m b := fun b x1 x2 x3 x4 => by rw [b6 b x1 x2 x3 x4, o3 b x2]
    have E4 : mE e m4 q N P rl := E3.keep' (L := [45, 46, 47, 54]) (by decide) L4 (b6 _ (by omega) (by omega) (by omega) (by omega)) (b6 _ (by omega) (by omega) (by omega) (by omega))
    have q4 : ∀ j, j ≠ 45 → j ≠ 46 → j ≠ 47 → j ≠ 54 → m4 q j = m q j := fun j x1 x2 x3 x4 => by rw [b5 j x1 x2 x3 x4, o3 _ (by omega)]
    have ord4 : ordM m4 (q + 18) o := fun i hi => by rw [o4 _ (by omega) (by omega) (by omega) (by omega)]; exact ho i hi
    have lq := X12_loser_eq (e := e) tT.seat_ tT.me b2.1 (b3.1.lt hP) E4.2.2.1 h6 (by omega)
    obtain ⟨w0, y1, y2, y3⟩ := b3.1.qn
    have hres : resO rl N S.1 o = (lsr N (watR rl (gO o) (zI 0) (zI 0) N (stS N S.1 o) (zI 0)).2.1.1.1).map (gO o) := rfl
    generalize hlsr : lsr N (watR rl (gO o) (zI 0) (zI 0) N (stS N S.1 o) (zI 0)).2.1.1.1 = ls at lq hres
    have hls : ∀ w, ls = some w → w < 6 := fun w hw => by
      rw [hw] at hlsr
      unfold lsr at hlsr; split at hlsr
      · rw [y2] at hlsr; cases hlsr; omega
      · cases hlsr
    -- the next order
    obtain ⟨v, m5, c1, c2, c3⟩ := X12_countsUp_eq (e := e) (o := o) tT E4.2.1 E4.2.2.1 ord4 oko h2 h6 (by omega)
    have E5 : mE e m5 q N P rl := E4.keep (fun j _ => by rw [c3 _ (by omega)]) (c3 _ (by omega)) (c3 _ (by omega))
    have o5 : ∀ b, b ≠ q → b ≠ q + 17 → b ≠ q + 18 → b ≠ q + 35 → (b < q + 20 ∨ q + 24 ≤ b) → m5 b = m b := fun b x1 x2 x3 x4 x5 => by rw [c3 b x3, o4 b x1 x4 x2 x5]
    have q5 : ∀ j, j ≠ 45 → j ≠ 46 → j ≠ 47 → j ≠ 54 → m5 q j = m q j := fun j x1 x2 x3 x4 => by rw [c3 _ (by omega), q4 j x1 x2 x3 x4]
    have hst : ∀ y, X12_seats_L39 e q (zI p) (zI what) nn (zI ((stA rl N p S.1 o (A, fi)).1.1 p)) (zI (stA rl N p S.1 o (A, fi)).1.2.1) (ozI (stA rl N p S.1 o (A, fi)).2) v m5 = y → X12_seats_L39 e q (zI p) (zI what) (nn + 1) (zI (A.1 p)) (zI A.2.1) (ozI fi) (zI 1) m = y := by
      intro y hy
      have tail : ∀ L' No' : Int32, ∀ F' : Option Nat, L' = zI ((stA rl N p S.1 o (A, fi)).1.1 p) → No' = zI (stA rl N p S.1 o (A, fi)).1.2.1 → F' = (stA rl N p S.1 o (A, fi)).2 → X12_seats_b221 e (X12_seats_L39 e q (zI p) (zI what) nn) q (zI p) (zI what) L' No' (ozI F') m4 = y := by
        intro L' No' F' g1 g2 g3
        unfold X12_seats_b221
        rw [c1, Option.bind_some, g1, g2, g3]
        exact hy
      have zfi := ozI_none (o := fi) (fun v hv => by have := hfi v hv; omega)
      rw [X12_seats_L39, show (0 : Int32) = zI 0 from rfl, iqn (by omega), rd_gr tT.me tS.seat_, Option.bind_some, z1, Option.bind_some, show (zI 0 : Int32) = zI ((0 : Nat) : Int) from rfl, a1, X12_seats_L55, rd_gi tT.me E2.2.2.1, Option.bind_some, iep (by omega), rd_gr tT.me E2.2.1.seat_, Option.bind_some, opq, Option.bind_some, rd_gr tT.me E3.2.1.seat_, Option.bind_some, b1, Option.bind_some, rd_gr tT.me E4.2.1.seat_, Option.bind_some, lq, Option.bind_some]
      unfold X12_seats_b173 X12_seats_b174 X12_seats_b189
      simp only [LT, ZA]
      cases hl : ls with
      | none =>
        have hr : resO rl N S.1 o = none := by rw [hres, hl]; rfl
        simp only [ozI, if_true, not_true_eq_false, if_false]
        have e1 : (stA rl N p S.1 o (A, fi)).1 = (A.1, A.2.1 + 1, max A.2.2 (resN rl N S.1 o)) := by unfold stA poA; rw [hr]
        have e2 : (stA rl N p S.1 o (A, fi)).2 = fi := by unfold stA; rw [hr]; cases fi <;> rfl
        have g1 : zI ((A.1 p : Int) + 0) = zI ((stA rl N p S.1 o (A, fi)).1.1 p) := by rw [e1, Int.add_zero]
        have g2 : zI ((A.2.1 : Int) + 1) = zI (stA rl N p S.1 o (A, fi)).1.2.1 := by rw [e1]; rfl
        have fin := tail _ _ fi g1 g2 e2.symm
        cases hf : fi with
        | some v' =>
          rw [hf] at fin
          rw [if_pos (show ¬ zI v' = zI (-1) by have := hfi v' hf; rw [zI_eq (by omega) (by omega) (by omega) (by omega)]; omega)]
          exact fin
        | none =>
          rw [hf] at fin
          simp only [not_true_eq_false, if_false]
          exact fin
      | some w =>
        have w6 := hls w hl
        have g6 := lt w w6
        have hr : resO rl N S.1 o = some (gO o w) := by rw [hres, hl]; rfl
        rw [show ozI (some w) = zI (w : Int) from rfl]
        rw [iqn (by omega), rd_gr tT.me E4.2.1.sits_, Option.bind_some, rd_ai tT.sits_ (i := w) rfl (by omega) (by omega) (ord4 w w6), Option.bind_some]
        have e1 : (stA rl N p S.1 o (A, fi)).1 = (setF A.1 (gO o w) (A.1 (gO o w) + 1), A.2.1, max A.2.2 (resN rl N S.1 o)) := by unfold stA poA; rw [hr]
        have g2 : zI ((A.2.1 : Int) + 0) = zI (stA rl N p S.1 o (A, fi)).1.2.1 := by rw [e1, Int.add_zero]
        by_cases hwp : gO o w = p
        · have e2 : (stA rl N p S.1 o (A, fi)).2 = fi := by unfold stA; simp only [hr, if_pos hwp]; cases fi <;> rfl
          have g1 : zI ((A.1 p : Int) + 1) = zI ((stA rl N p S.1 o (A, fi)).1.1 p) := by rw [e1, hwp]; show _ = zI (setF A.1 p (A.1 p + 1) p : Nat); rw [setF_at]; rfl
          have fin := tail _ _ fi g1 g2 e2.symm
          rw [inn (by omega)]
          show (if ¬ zI w = zI (-1) then _ else _) = y
          rw [inp (by omega)]
          cases hf : fi with
          | some v' =>
            rw [hf] at fin
            show (if ¬ zI v' = zI (-1) then _ else _) = y
            rw [if_pos (show ¬ zI v' = zI (-1) by have := hfi v' hf; rw [zI_eq (by omega) (by omega) (by omega) (by omega)]; omega)]
            exact fin
          | none =>
            rw [hf] at fin
            simp only [ozI, not_true_eq_false, if_false]
            rw [iqn (by omega), Option.bind_some, rd_ai tT.sits_ (i := w) rfl (by omega) (by omega) (ord4 w w6), Option.bind_some, iqp (by omega)]
            exact fin
        · have g1 : zI ((A.1 p : Int) + 0) = zI ((stA rl N p S.1 o (A, fi)).1.1 p) := by rw [e1, Int.add_zero]; show _ = zI (setF A.1 (gO o w) (A.1 (gO o w) + 1) p : Nat); rw [setF_ne _ _ (fun hh => hwp hh.symm)]
          rw [inp (by omega)]
          show (if ¬ zI w = zI (-1) then _ else _) = y
          rw [inp (by omega)]
          cases hf : fi with
          | some v' =>
            have e2 : (stA rl N p S.1 o (A, fi)).2 = fi := by unfold stA; rw [hf]
            have fin := tail _ _ fi g1 g2 e2.symm
            rw [hf] at fin
            show (if ¬ zI v' = zI (-1) then _ else _) = y
            rw [if_pos (show ¬ zI v' = zI (-1) by have := hfi v' hf; rw [zI_eq (by omega) (by omega) (by omega) (by omega)]; omega)]
            exact fin
          | none =>
            have e2 : (stA rl N p S.1 o (A, fi)).2 = some (nuO o N 0) := by unfold stA; rw [hf]; simp only [hr, if_neg hwp]
            have fin := tail _ _ (some (nuO o N 0)) g1 g2 e2.symm
            simp only [ozI, not_true_eq_false, if_false]
            rw [iqn (by omega), Option.bind_some, rd_ai tT.sits_ (i := w) rfl (by omega) (by omega) (ord4 w w6), Option.bind_some, iqn (by omega), X12_figures_eq tT E4.2.1 E4.2.2.1 ord4 h6 (by omega), Option.bind_some]
            exact fin
    rw [enO] at hen
    rw [sts]
    cases hno : nxO N o with
    | none =>
      rw [hno] at c2
      obtain ⟨nn, rfl⟩ : ∃ n', nn = n' + 1 := ⟨nn - 1, by omega⟩
      obtain ⟨m6, d1, d2, d3⟩ := X12_ever_eq (e := e) tT E5.2.1 (by omega)
      refine ⟨m6, hst _ ?_, d2, fun j x1 x2 x3 x4 => by rw [d3 _ (by omega), q5 j x1 x2 x3 x4], fun b x1 x2 x3 x4 x5 => by rw [d3 b x3, o5 b x1 x2 x3 x4 x5]⟩
      rw [X12_seats_L39, c2.1, if_pos (show (zI 0 : Int32) = 0 from rfl), d1, Option.bind_some]
      unfold X12_seats_b254 pkS
      simp only [LT]
      by_cases w0 : what = 0
      · rw [if_pos w0, inn (by omega)]
      · rw [if_neg w0, inp (by omega)]
        by_cases w1 : what = 1
        · rw [if_pos w1, inn (by omega)]
        · rw [if_neg w1, inp (by omega)]
    | some o' =>
      rw [hno] at c2 hen
      obtain ⟨m', e1, e2, e3, e4⟩ := ih nn m5 o' (stA rl N p S.1 o (A, fi)).1 (stA rl N p S.1 o (A, fi)).2 hen (by omega) E5 (hF.keep' (o5 _ (by omega) (by omega) (by omega) (by omega) (by omega))) ok c2.2 (okO_nx h2 h6 oko hno) (fun v' hv' => by
        simp only [stA] at hv'
        cases hf : fi with
        | some v =>
          rw [hf] at hv'
          cases hv'
          exact hfi _ hf
        | none =>
          rw [hf] at hv'
          simp only at hv'
          split at hv'
          · cases hv'
          · split at hv'
            · cases hv'
            · cases hv'; exact nuO_lt oko h6 N 0 (Nat.le_refl _) (Nat.pow_pos (by omega)))
      refine ⟨m', hst _ ?_, e2, fun j x1 x2 x3 x4 => by rw [e3 j x1 x2 x3 x4, q5 j x1 x2 x3 x4], fun b x1 x2 x3 x4 x5 => by rw [e4 b x1 x2 x3 x4 x5, o5 b x1 x2 x3 x4 x5]⟩
      rw [c2.1]
      exact e1
end SEATM
