/-! EXPRESSIONS of the model: the loop over operators. -/
theorem ocd_not {T : Nat → Nat} {t : TK} (h1 : ¬ isW T t 15 = true) (h2 : ¬ isW T t 16 = true) (h3 : tkC T t ≠ 42) (h4 : tkC T t ≠ 43) (h5 : tkC T t ≠ 45) (h6 : tkC T t ≠ 47) (h7 : tkC T t ≠ 60) (h8 : tkC T t ≠ 61) : ocd T t = -21 := by
  unfold ocd
  rw [if_neg h3, if_neg h4, if_neg h5, if_neg h6, if_neg h7, if_neg h8, if_neg h1, if_neg h2]
section XPS
variable {e : mm_E} {q n tp B : Nat} {T : Nat → Nat}
theorem xpO.of {t t1 : TK} {S S1 : CS} {m m1 m2 : mm_V} (hA : exA T n t S = exA T n t1 S1) (hK : mxK q tp m m1) (h : xpO n T (exA T n t1 S1) tp B q m1 m2) : xpO n T (exA T n t S) tp B q m m2 := by
  rw [hA]
  obtain ⟨k, h1, h2, h3⟩ := h
  refine ⟨hK.low.trans k, h1, h2, ?_⟩
  rcases h3 with h3 | ⟨a1, a2, a3, a4, a5⟩
  · exact Or.inl h3
  · refine Or.inr ⟨a1, a2, a3, a4, ?_⟩
    rcases a5 with a5 | ⟨b1, b2, b3, b4, b5, b6⟩
    · exact Or.inl a5
    · exact Or.inr ⟨b1, b2, b3, b4, fun j hj => by rw [b5 j hj, hK.2.2 j hj], b6⟩
theorem X12_L29_junk {m : mm_V} {f pl K nn : Nat} {i1 : Int32} (hT : modT e.1 q) (hN : 1000 < e.2.2) (hJ : mjR m q f pl K) (hK : K ≤ 1595) (hf : 1 ≤ f ∧ f < 100) (hn : 0 < nn) : Ev (X12_expression_L29 e q nn i1 m) (fun m' => mxK q 0 m m' ∧ modS m' q ∧ m' q 10 = .int (zI f) ∧ m' q 11 = .int (zI pl)) := by
  obtain ⟨nn, rfl⟩ : ∃ n', nn = n' + 1 := ⟨nn - 1, by omega⟩
  have hg := X12_isGood_0 (e := e) hT hJ.2.1 hf
  have b : Ev (X12_expression_b325 e q m) (fun m' => mxK q 0 m m' ∧ modS m' q ∧ m' q 10 = .int (zI f) ∧ m' q 11 = .int (zI pl)) := by
    unfold X12_expression_b325
    simp only [LT, zI_neg]
    exact ev_eq hg (ev_iqp rfl rfl (by omega) (X12_b345_junk hT hN hJ hK))
  rw [X12_expression_L29]
  simp only [LT, zI_neg]
  by_cases h : i1 = zI 0
  · rw [if_pos h]; exact b
  · rw [if_neg h]; exact ev_eq hg (ev_iqp rfl rfl (by omega) b)
/-- what comes behind an operator -/
theorem X12_behind_ev {k nn : Nat} (hT : modT e.1 q) (hN : 1000 < e.2.2) (htp : tp ≤ 2 * B) (hnn : k + 1 < nn) (ih : ∀ (t : TK) (cs ws : List Int) (op : Nat) (m : mm_V), muT n t ≤ k → tkV T n t → exI B t (cs, ws, op, false) → op ≤ 5 → mxR m q n T t tp cs ws → tsM m q ws op → Ev (X12_expression_L29 e q nn (zI 1) m) (xpO n T (exA T n t (cs, ws, op, false)) tp B q m)) {t : TK} {cs ws : List Int} {op : Nat} {m : mm_V} (hmu : muT n t ≤ k + 1) (hv : tkV T n t) (hI : exI B t (cs, ws, op, true)) (hop : op ≤ 5) (hnt : nts ws = 0) (hX : mxR m q n T t tp cs ws) (hM : tsM m q ws op) : Ev ((X12_operand e q (bZ (decide (lv (tpW ws) ≤ 3))) m).bind fun r => X12_expression_L29 e q nn (zI 1) r) (xpO n T (exA T n t (cs, ws, op, true)) tp B q m) := by
  refine ev_call (X12_operand_ev hT hN htp hv hI hop hnt hX hM) ?_
  rintro m1 ⟨K1, h1⟩
  rcases h1 with ⟨f, t', a1, a2, a3, a4, a5⟩ | ⟨t', cs', ws', op', a1, a2, a3, a4, a5, a6, a7⟩
  · refine ev_mono (X12_L29_junk hT hN a5 (by omega) (by omega) (by omega)) ?_
    rintro m2 ⟨K2, S2, b1, b2⟩
    rw [a3]
    exact ⟨K1.low.trans K2, by simp only; omega, a4, Or.inl ⟨a1, S2, b1, b2⟩⟩
  · refine ev_mono (ih t' cs' ws' op' m1 (by omega) a2 a3 a4 a5 a6) (fun m2 h2 => xpO.of a1 K1 h2)
theorem tsM.push {m m' : mm_V} {ws X : List Int} {c : Int} {op : Nat} (hM : tsM m q ws op) (hc : c ≠ -20) (hs : ∀ j, tsd X (j + 1) = tsd ws (j + 1)) (h27 : m' q 27 = m q 27) (h0 : m' (q + 12) (op + 1) = .int (bZ (tsd (c :: X) 0))) (h12 : ∀ j, j ≤ op → m' (q + 12) j = m (q + 12) j) : tsM m' q (c :: X) op := by
  refine ⟨by rw [h27]; exact hM.1, fun j hj => ?_⟩
  cases j with
  | zero => exact h0
  | succ j =>
    rw [tsd, if_neg hc, hs j, ← hM.2 (j + 1) hj, h12 _ (by omega)]
theorem X12_expression_loop (hT : modT e.1 q) (hN : 1000 < e.2.2) (htp : tp ≤ 2 * B) : ∀ k : Nat, ∀ (t : TK) (cs ws : List Int) (op : Nat) (m : mm_V) (nn : Nat), muT n t ≤ k → k + 2 < nn → tkV T n t → exI B t (cs, ws, op, false) → op ≤ 5 → mxR m q n T t tp cs ws → tsM m q ws op → Ev (X12_expression_L29 e q nn (zI 1) m) (xpO n T (exA T n t (cs, ws, op, false)) tp B q m) := by
  intro k
  induction k with
  | zero =>
    intro t cs ws op m nn hmu hnn hv hI hop hX hM
    have h0 : t.1 = 0 := by
      unfold muT at hmu
      by_cases h : t.1 = 0
      · exact h
      · rw [if_neg h] at hmu; omega
    have hk := tkC_0 (T := T) h0
    have hn := hX.2.2.1.1
    obtain ⟨nn, rfl⟩ : ∃ n', nn = n' + 2 := ⟨nn - 2, by omega⟩
    have hw : ∀ i, ¬ isW T t i = true := fun i h => by have := isW_1 h; omega
    have b325 := X12_b325_ev hT hN htp hv hI hop hX hM (fun _ => by unfold exS exB; simp only; rw [if_neg (by simp), if_neg (by omega), if_pos (ocd_0 h0)])
    have b320 : Ev (X12_expression_L29 e q (nn + 1) (zI 0) m) (xpO n T (exA T n t (cs, ws, op, false)) tp B q m) := by
      rw [X12_expression_L29]; exact b325
    obtain ⟨z, z1, z2, z3, z4⟩ := X12_knownWord_eq (e := e) hT hX.2.1 hv hn hN
    have w14 := z4 14 (by omega)
    have w15 := z4 15 (by omega)
    simp only [mix, List.getD_cons_zero, List.getD_cons_succ] at w14 w15
    have z14 : z ≠ 14 := fun h => hw _ (w14.mpr h)
    have z15 : z ≠ 15 := fun h => hw _ (w15.mpr h)
    have sg : ∀ c : Nat, 40 ≤ c ∧ c ≤ 61 ∧ c ≠ 48 → X12_isSign e q (zI c) m = some (zI 0, m) := fun c hc => by
      rw [X12_isSign_eq hT hX.2.1 hX.2.2.1 hv hc, decide_eq_false (by omega)]; rfl
    rw [X12_expression_L29]
    unfold X12_expression_b186 X12_expression_b320 X12_expression_b322
    simp only [LT, zI_neg]
    refine ev_iqn rfl rfl (by omega) (ev_eq (X12_isGood_1 hT hX.2.2.2.1) (ev_iqn rfl rfl (by omega) (ev_eq z1 (ev_iqn rfl rfl (by omega) (ev_inp rfl rfl (by omega) (ev_eq (sg 60 (by omega)) ?_))))))
    simp only [not_true_eq_false, if_false]
    refine ev_eq (sg 61 (by omega)) ?_
    simp only [if_true]
    refine ev_eq (sg 43 (by omega)) ?_
    simp only [not_true_eq_false, if_false]
    refine ev_eq (sg 45 (by omega)) ?_
    simp only [if_true]
    refine ev_eq (sg 42 (by omega)) ?_
    simp only [not_true_eq_false, if_false]
    refine ev_eq (sg 47 (by omega)) ?_
    simp only [if_true]
    refine ev_eq (sg 41 (by omega)) ?_
    simp only [if_true]
    exact b320
  | succ k ih =>
    intro t cs ws op m nn hmu hnn hv hI hop hX hM
    have hn := hX.2.2.1.1
    have hok : okW ws op := hI.1
    have h83 : ws.length ≤ 83 := hI.len
    have i4 := hI.2.2.2
    dsimp only at i4
    have v1 := hv.1
    have v2 := hv.2.1
    obtain ⟨nn, rfl⟩ : ∃ n', nn = n' + 1 := ⟨nn - 1, by omega⟩
    have ih' : ∀ (t : TK) (cs ws : List Int) (op : Nat) (m : mm_V), muT n t ≤ k → tkV T n t → exI B t (cs, ws, op, false) → op ≤ 5 → mxR m q n T t tp cs ws → tsM m q ws op → Ev (X12_expression_L29 e q nn (zI 1) m) (xpO n T (exA T n t (cs, ws, op, false)) tp B q m) := fun t cs ws op m a1 a2 a3 a4 a5 a6 => ih t cs ws op m nn a1 (by omega) a2 a3 a4 a5 a6
    obtain ⟨hv', hb'⟩ := tok_V T (b := t.2.2) hv.2.1
    have hexS : exS T t (cs, ws, op, false) = exB T t cs ws op := by unfold exS; rw [if_neg (by simp)]
    have hkb := tkC_bd hX.2.2.1 hv
    -- an operator, its place in what waits, the model's noting of a test
    have oper : ∀ (c : Int) (a : Int) (l l' : Nat) (tv : Option Int32) (F : mm_V → Option mm_V), ocd T t = c → c ≠ -21 → tkC T t ≠ 41 → mcd c = a → (1 ≤ l' ∧ l' ≤ 10 ∧ (l = l' ∨ (l = 0 ∧ l' = 1))) → stl l' cs ws = stl (exL c) cs ws → (tsc c = true → tsd ws 0 = false) → (tv = none → 5 ≤ l' ∧ tsc c = false) → (∀ y, tv = some y → y = bZ (tsc c) ∧ (tsc c = false → l' ≤ 3)) → (∀ m1, mxR m1 q n T t tp (stl l' cs ws).1 (stl l' cs ws).2 → F m1 = match tv with
        | none => (X12_waitsFor e q (zI a) m1).bind fun r1 => (X12_goes e q r1).bind fun r3 => (X12_operand e q (bZ (decide (lv c ≤ 3))) r3).bind fun r4 => X12_expression_L29 e q nn (zI 1) r4
        | some y => (X12_waitsFor e q (zI a) m1).bind fun r1 => (mm_gr e.1 r1 12 75 q 37).bind fun c3 => (mm_gi e.1 r1 12 75 q 27).bind fun x4 => (mm_sz e.1 r1 c3 x4 y).bind fun m5 => (X12_goes e q m5).bind fun r6 => (X12_operand e q (bZ (decide (lv c ≤ 3))) r6).bind fun r7 => X12_expression_L29 e q nn (zI 1) r7) → Ev ((X12_drops e q (zI l) m).bind fun r1 => F r1) (xpO n T (exA T n t (cs, ws, op, false)) tp B q m) := by
      intro c a l l' tv F hoc h21 h41 ha hl hst htest htn hts hF
      have hob := ocd_bd T t
      rw [hoc] at hob
      have hob : (-19 ≤ c ∧ c ≤ -11) ∧ c ≠ -13 := by omega
      have h59 : tkC T t ≠ 59 := by
        intro h
        have h1 : t.1 ≠ 1 := fun h1 => by have := (tkC_1 hv).mpr h1; omega
        have hw : ∀ i, ¬ isW T t i = true := fun i hi => h1 (isW_1 hi)
        rw [ocd_not (hw _) (hw _) (by omega) (by omega) (by omega) (by omega) (by omega) (by omega)] at hoc
        omega
      have hno : ¬ (false = false ∧ op = 0 ∧ tkC T t = 59) := fun h => h59 h.2.2
      have htop : ¬ (tsc c = true ∧ tsc (tpW (stl (exL c) cs ws).2) = true) := by
        rintro ⟨h1, h2⟩
        have h4 := tsc_lv.mp h1
        rw [show exL c = 5 by unfold exL; rw [if_pos h1, h4], tsd_top cs hok, htest h1] at h2
        cases h2
      have hs : exS T t (cs, ws, op, false) = .inr ((stl l' cs ws).1, c :: (stl l' cs ws).2, op, true) := by
        rw [hexS, hst]; unfold exB
        rw [if_neg (fun h => h41 h.1), hoc, if_neg h21, if_neg htop]
      have hA := exA_go hv hn hno hs
      obtain ⟨hI', h0⟩ := exS_inv hI hv hs hb'
      have hmu' := muT_next (n := n) hv h0
      obtain ⟨j1, j2, j3, -, j5, j6⟩ := stl_spec hl.1 (cs := cs) hok
      refine ev_call (X12_drops_ev (l := l) (l' := l') hl hT hN hok (by omega) (by omega) hX) ?_
      rintro m1 ⟨X1, K1, f1, o1⟩
      rw [hF m1 X1]
      have sd := stl_tsd hl.1 ws cs
      have sd0 : 5 ≤ l' → tsd (stl l' cs ws).2 0 = tsd ws 0 := fun h => stl_tsd0 h ws cs
      have low := tsd_low j1
      have rkt := rk_top j1
      generalize stl l' cs ws = X at *
      have fin : ∀ m4, mxR m4 q n T t tp X.1 (c :: X.2) → tsM m4 q (c :: X.2) op → mxK q tp m m4 → Ev ((X12_goes e q m4).bind fun r3 => (X12_operand e q (bZ (decide (lv c ≤ 3))) r3).bind fun r4 => X12_expression_L29 e q nn (zI 1) r4) (xpO n T (exA T n t (cs, ws, op, false)) tp B q m) := by
        intro m4 X4 M4 K4
        refine ev_call (X12_goes_ev hT hN hv X4) ?_
        rintro m5 ⟨X5, K5, f5, o5⟩
        have M5 : tsM m5 q (c :: X.2) op := ⟨by rw [f5 _ (by omega)]; exact M4.1, fun j hj => by rw [o5 _ (by omega)]; exact M4.2 j hj⟩
        refine ev_mono (X12_behind_ev (k := k) (cs := X.1) (ws := c :: X.2) hT hN htp (by omega) ih' (by omega) hv' hI' hop (by rw [nts, if_neg hob.2]) X5 M5) (fun m6 h6 => xpO.of hA (K4.trans K5) h6)
      cases tv with
      | none =>
        have htn := htn rfl
        refine ev_call (X12_waitsFor_ev c ha hT X1 (by omega)) ?_
        rintro m2 ⟨X2, f2, o2⟩
        refine fin m2 X2 ?_ (K1.trans ⟨fun b x1 _ x3 _ => o2 b x1 x3, fun j hj => f2 j (by omega), fun j _ => by rw [o2 _ (by omega) (by omega)]⟩)
        refine tsM.push hM (by omega) sd (by rw [f2 _ (by omega), f1 _ (by omega) (by omega)]) ?_ (fun j _ => by rw [o2 _ (by omega) (by omega), o1 _ (by omega) (by omega)])
        rw [o2 _ (by omega) (by omega), o1 _ (by omega) (by omega), tsd, if_neg (by omega), htn.2, Bool.false_or, sd0 htn.1]
        exact hM.2 0 (by omega)
      | some y =>
        obtain ⟨hy, hy2⟩ := hts y rfl
        refine ev_call (X12_waitsFor_ev c ha hT X1 (by omega)) ?_
        rintro m2 ⟨X2, f2, o2⟩
        have h27 : m2 q 27 = .int (zI (op + 1 : Nat)) := by rw [f2 _ (by omega), f1 _ (by omega) (by omega)]; exact hM.1
        refine ev_gr hT.me X2.1.tested_ (ev_gi hT.me h27 (ev_sz (op + 1) hT.tested_ rfl (by omega) (by omega) (by rw [hy]; cases tsc c <;> decide) ?_))
        generalize hm3 : mm_up m2 (q + 12) (op + 1) (.int y) = m3
        have o3 : ∀ b, b ≠ q + 12 → m3 b = m2 b := fun b h => by rw [← hm3, up_row _ _ _ h]
        have X3 : mxR m3 q n T t tp X.1 (c :: X.2) := by
          obtain ⟨x1, x2, x3, x4, x5, x6, x7, x8⟩ := X2
          have oq := o3 q (by omega)
          exact ⟨x1.row oq, x2.keep (fun j _ _ => by rw [oq]), x3.keep (o3 _ (by omega)), by rw [oq]; exact x4, by rw [oq]; exact x5, by rw [oq]; exact x6, wsR.keep (o3 _ (by omega)) x7, fun i c hc => by rw [o3 _ (by omega)]; exact x8 i c hc⟩
        refine fin m3 X3 ?_ (K1.trans (mxK.trans (m1 := m2) ⟨fun b x1 _ x3 _ => o2 b x1 x3, fun j hj => f2 j (by omega), fun j _ => by rw [o2 _ (by omega) (by omega)]⟩ ⟨fun b _ _ _ x4 => o3 b x4, fun j _ => by rw [o3 _ (by omega)], fun j _ => by rw [o3 _ (by omega)]⟩))
        refine tsM.push hM (by omega) sd (by rw [o3 _ (by omega), f2 _ (by omega), f1 _ (by omega) (by omega)]) ?_ (fun j hj => by rw [← hm3, up_ne _ _ (by omega), o2 _ (by omega) (by omega), o1 _ (by omega) (by omega)])
        rw [← hm3, up_at, hy, tsd, if_neg (by omega)]
        cases htc : tsc c with
        | true => rfl
        | false =>
          rw [Bool.false_or, low (rkt.2.1 (by have := hy2 htc; omega))]
    have stop : ¬ (tkC T t = 41 ∧ 0 < op) → (ocd T t = -21 ∨ (tsc (ocd T t) = true ∧ tsd ws 0 = true)) → Ev (X12_expression_L29 e q nn (zI 0) m) (xpO n T (exA T n t (cs, ws, op, false)) tp B q m) := by
      intro h41 hoc
      obtain ⟨nn, rfl⟩ : ∃ n', nn = n' + 1 := ⟨nn - 1, by omega⟩
      rw [X12_expression_L29]
      refine X12_b325_ev hT hN htp hv hI hop hX hM (fun _ => ?_)
      rw [hexS]; unfold exB
      rw [if_neg h41]
      rcases hoc with h | ⟨h1, h2⟩
      · rw [if_pos h]
      · have h4 := tsc_lv.mp h1
        have h21 : ocd T t ≠ -21 := fun h => by rw [h] at h1; exact absurd h1 (by decide)
        rw [if_neg h21, if_pos ⟨h1, by rw [show exL (ocd T t) = 5 by unfold exL; rw [if_pos h1, h4], tsd_top cs hok]; exact h2⟩]
    obtain ⟨z, z1, z2, z3, z4⟩ := X12_knownWord_eq (e := e) hT hX.2.1 hv hn hN
    have w14 := z4 14 (by omega)
    have w15 := z4 15 (by omega)
    simp only [mix, List.getD_cons_zero, List.getD_cons_succ] at w14 w15
    have sg : ∀ (m1 : mm_V) (cs1 ws1 : List Int) (c : Nat), mxR m1 q n T t tp cs1 ws1 → 40 ≤ c ∧ c ≤ 61 ∧ c ≠ 48 → X12_isSign e q (zI c) m1 = some (bZ (decide (tkC T t = c)), m1) := fun m1 cs1 ws1 c hX1 hc => X12_isSign_eq hT hX1.2.1 hX1.2.2.1 hv hc
    have hwk : ∀ i, isW T t i = true → tkC T t = 97 := fun i h => (tkC_1 hv).mpr (isW_1 h)
    rw [X12_expression_L29]
    simp only [LT, zI_neg]
    refine ev_iqn rfl rfl (by omega) (ev_eq (X12_isGood_1 hT hX.2.2.2.1) (ev_iqn rfl rfl (by omega) (ev_eq z1 ?_)))
    have b1 : bZ (decide (lv (-12) ≤ 3)) = zI 1 := by decide
    have b2 : bZ (decide (lv (-11) ≤ 3)) = zI 1 := by decide
    by_cases h14 : z = 14
    · have hw := w14.mpr h14
      have hk := hwk _ hw
      have hoc : ocd T t = -12 := by
        unfold ocd
        rw [if_neg (by omega), if_neg (by omega), if_neg (by omega), if_neg (by omega), if_neg (by omega), if_neg (by omega), if_neg (fun h => by have := w15.mp h; omega), if_pos hw]
      refine ev_iqp rfl rfl (by omega) ?_
      unfold X12_expression_b57 X12_expression_b69
      simp only [LT, zI_neg]
      refine ev_inn rfl rfl (by omega) (ev_tg hT.me ?_)
      refine oper (-12) 4 2 2 (some (zI 0)) _ hoc (by decide) (by omega) (by decide) (by omega) (by rw [show exL (-12) = 2 by decide]) (fun h => absurd h (by decide)) (fun h => by cases h) (fun y hy => by cases hy; exact ⟨by decide, fun _ => by omega⟩) (fun m1 _ => ?_)
      dsimp only
      rw [inn (by omega), b1]
      unfold X12_expression_b84 X12_expression_b322
      rw [if_pos hT.me]; rfl
    refine ev_iqn rfl rfl (by omega) ?_
    by_cases h15 : z = 15
    · have hw := w15.mpr h15
      have hk := hwk _ hw
      have hoc : ocd T t = -11 := by
        unfold ocd
        rw [if_neg (by omega), if_neg (by omega), if_neg (by omega), if_neg (by omega), if_neg (by omega), if_neg (by omega), if_pos hw]
      refine ev_inn rfl rfl (by omega) ?_
      unfold X12_expression_b57 X12_expression_b69
      simp only [LT, zI_neg]
      refine ev_inp rfl rfl (by omega) (ev_tg hT.me ?_)
      refine oper (-11) 5 1 1 (some (zI 0)) _ hoc (by decide) (by omega) (by decide) (by omega) (by rw [show exL (-11) = 1 by decide]) (fun h => absurd h (by decide)) (fun h => by cases h) (fun y hy => by cases hy; exact ⟨by decide, fun _ => by omega⟩) (fun m1 _ => ?_)
      dsimp only
      rw [inp (by omega), b2]
      unfold X12_expression_b84 X12_expression_b322
      rw [if_pos hT.me]; rfl
    have n15 : ¬ isW T t 15 = true := fun h => h15 (w15.mp h)
    have n16 : ¬ isW T t 16 = true := fun h => h14 (w14.mp h)
    have bz0 : ∀ c : Int, lv c = 4 ∨ lv c = 5 ∨ lv c = 6 → bZ (decide (lv c ≤ 3)) = zI 0 := fun c h => by rw [decide_eq_false (by omega)]; rfl
    have b186 : (tkC T t = 60 ∨ tkC T t = 61 → tsd ws 0 = true) → Ev (X12_expression_b186 e (X12_expression_L29 e q nn) q (zI 1) m) (xpO n T (exA T n t (cs, ws, op, false)) tp B q m) := by
      intro htd
      unfold X12_expression_b186 X12_expression_b204 X12_expression_b259 X12_expression_b320 X12_expression_b322
      simp only [LT, zI_neg]
      refine ev_eq (sg m cs ws 43 hX (by omega)) (ev_bn (fun a43 => ?_) (fun a43 => ?_))
      · have a43 : tkC T t ≠ 43 := of_decide_eq_false a43
        refine ev_eq (sg m cs ws 45 hX (by omega)) (ev_bz (fun a45 => ?_) (fun a45 => ?_))
        · have a45 : tkC T t ≠ 45 := of_decide_eq_false a45
          refine ev_eq (sg m cs ws 42 hX (by omega)) (ev_bn (fun a42 => ?_) (fun a42 => ?_))
          · have a42 : tkC T t ≠ 42 := of_decide_eq_false a42
            refine ev_eq (sg m cs ws 47 hX (by omega)) (ev_bz (fun a47 => ?_) (fun a47 => ?_))
            · have a47 : tkC T t ≠ 47 := of_decide_eq_false a47
              have hoc : ocd T t = -21 ∨ (tsc (ocd T t) = true ∧ tsd ws 0 = true) := by
                by_cases h60 : tkC T t = 60
                · refine Or.inr ⟨?_, htd (Or.inl h60)⟩
                  unfold ocd; rw [if_neg (by omega), if_neg (by omega), if_neg (by omega), if_neg (by omega), if_pos h60]; decide
                · by_cases h61 : tkC T t = 61
                  · refine Or.inr ⟨?_, htd (Or.inr h61)⟩
                    unfold ocd; rw [if_neg (by omega), if_neg (by omega), if_neg (by omega), if_neg (by omega), if_neg (by omega), if_pos h61]; decide
                  · exact Or.inl (ocd_not n15 n16 a42 a43 a45 a47 h60 h61)
              refine ev_eq (sg m cs ws 41 hX (by omega)) (ev_bz (fun a41 => ?_) (fun a41 => ?_))
              · have a41 : tkC T t ≠ 41 := of_decide_eq_false a41
                exact stop (fun h => a41 h.1) hoc
              · have a41 : tkC T t = 41 := of_decide_eq_true a41
                refine ev_eq (X12_isOpened_eq (m := m) hT hN hok (by omega) hX.1 hX.2.2.2.2.2.1 hX.2.2.2.2.2.2.1) (ev_bz (fun ao => ?_) (fun ao => ?_))
                · exact stop (fun h => of_decide_eq_false ao h.2) hoc
                · have ao : 0 < op := of_decide_eq_true ao
                  have hs : exS T t (cs, ws, op, false) = .inr ((stl 1 cs ws).1, (stl 1 cs ws).2.tail, op - 1, false) := by
                    rw [hexS]; unfold exB; rw [if_pos ⟨a41, ao⟩]
                  have hA := exA_go hv hn (fun h => by omega) hs
                  obtain ⟨hI', h0⟩ := exS_inv hI hv hs hb'
                  have hmu' := muT_next (n := n) hv h0
                  obtain ⟨ws', w1, w2⟩ := stl_open (cs := cs) hok ao
                  have sd := stl_tsd (l := 1) (Nat.le_refl _) ws cs
                  rw [w1] at sd
                  unfold X12_closes
                  simp only [LT, zI_neg]
                  refine ev_call (Q := fun m' => mxR m' q n T (tok T n t.2.2) tp (stl 1 cs ws).1 ws' ∧ tsM m' q ws' (op - 1) ∧ mxK q tp m m') ?_ ?_
                  · refine ev_call (X12_drops_ev (m := m) (l := 0) (l' := 1) (by omega) hT hN hok (by omega) (by omega) hX) ?_
                    rintro m1 ⟨X1, K1, f1, o1⟩
                    rw [w1] at X1
                    obtain ⟨x1, x2, x3, x4, x5, x6, x7, x8⟩ := X1
                    refine ev_gi hT.me x6 (ev_pf hT.me (ev_gi hT.me (v := zI (op + 1 : Nat)) (by rw [up_ne _ _ (by omega), f1 _ (by omega) (by omega)]; exact hM.1) (ev_pf hT.me ?_)))
                    rw [zI_sub, zI_sub, show (((-20 :: ws').length : Int) - 1) = (ws'.length : Int) by rw [List.length_cons]; omega, show (((op + 1 : Nat) : Int) - 1) = ((op - 1 + 1 : Nat) : Int) by omega]
                    generalize hm2 : mm_up (mm_up m1 q 26 (.int (zI (ws'.length : Int)))) q 27 (.int (zI ((op - 1 + 1 : Nat) : Int))) = m2
                    have o2 : ∀ b, b ≠ q → m2 b = m1 b := fun b h => by rw [← hm2, up_row _ _ _ h, up_row _ _ _ h]
                    have f2 : ∀ j, j ≠ 26 → j ≠ 27 → m2 q j = m1 q j := fun j h1 h2 => by rw [← hm2, up_ne _ _ (Or.inr h2), up_ne _ _ (Or.inr h1)]
                    have X2 : mxR m2 q n T t tp (stl 1 cs ws).1 ws' := ⟨by rw [← hm2]; exact (x1.up (by decide)).up (by decide), x2.keep (fun j _ _ => f2 j (by omega) (by omega)), x3.keep (o2 _ (by omega)), by rw [f2 _ (by omega) (by omega)]; exact x4, by rw [f2 _ (by omega) (by omega)]; exact x5, by rw [← hm2, up_ne _ _ (by omega), up_at], wsR.keep (o2 _ (by omega)) x7.2, fun i c hc => by rw [o2 _ (by omega)]; exact x8 i c hc⟩
                    refine ev_call (X12_goes_ev hT hN hv X2) ?_
                    rintro m3 ⟨X3, K3, f3, o3⟩
                    refine ev_ret ⟨X3, ⟨by rw [f3 _ (by omega), ← hm2, up_at], fun j hj => ?_⟩, K1.trans (mxK.trans (m1 := m2) ⟨fun b x1 _ _ _ => o2 b x1, fun j hj => f2 j (by omega) (by omega), fun j _ => by rw [o2 _ (by omega)]⟩ K3)⟩
                    rw [o3 _ (by omega), o2 _ (by omega), o1 _ (by omega) (by omega), show op - 1 + 1 - j = op + 1 - (j + 1) by omega, hM.2 (j + 1) (by omega), ← sd j, tsd, if_pos rfl]
                  · rintro m3 ⟨X3, M3, K3⟩
                    rw [w1, List.tail_cons] at hA hI'
                    exact ev_mono (ih' _ _ _ _ m3 (by omega) hv' hI' (by omega) X3 M3) (fun m4 h4 => xpO.of hA K3 h4)
            · have a47 : tkC T t = 47 := of_decide_eq_true a47
              have hoc : ocd T t = -19 := by
                unfold ocd; rw [if_neg (by omega), if_neg (by omega), if_neg (by omega), if_pos a47]
              refine oper (-19) 11 6 6 none _ hoc (by decide) (by omega) (by decide) (by omega) (by rw [show exL (-19) = 6 by decide]) (fun h => absurd h (by decide)) (fun _ => ⟨by omega, by decide⟩) (fun y hy => by cases hy) (fun m1 X1 => ?_)
              dsimp only
              rw [show X12_isSign e q (zI 42) m1 = some (bZ (decide (tkC T t = ((42 : Nat) : Int))), m1) from sg m1 _ _ 42 X1 (by omega), Option.bind_some, decide_eq_false (by omega), if_pos (show bZ false = zI 0 from rfl), bz0 (-19) (by decide)]
              unfold X12_expression_b282 X12_expression_b322
              rw [if_pos hT.me]; rfl
          · have a42 : tkC T t = 42 := of_decide_eq_true a42
            have hoc : ocd T t = -18 := by
              unfold ocd; rw [if_pos a42]
            refine oper (-18) 10 6 6 none _ hoc (by decide) (by omega) (by decide) (by omega) (by rw [show exL (-18) = 6 by decide]) (fun h => absurd h (by decide)) (fun _ => ⟨by omega, by decide⟩) (fun y hy => by cases hy) (fun m1 X1 => ?_)
            dsimp only
            rw [show X12_isSign e q (zI 42) m1 = some (bZ (decide (tkC T t = ((42 : Nat) : Int))), m1) from sg m1 _ _ 42 X1 (by omega), Option.bind_some, decide_eq_true (by omega), if_neg (show ¬ bZ true = zI 0 by decide), bz0 (-18) (by decide)]
            unfold X12_expression_b282 X12_expression_b322
            rw [if_pos hT.me]; rfl
        · have a45 : tkC T t = 45 := of_decide_eq_true a45
          have hoc : ocd T t = -17 := by
            unfold ocd; rw [if_neg (by omega), if_neg (by omega), if_pos a45]
          refine oper (-17) 9 5 5 none _ hoc (by decide) (by omega) (by decide) (by omega) (by rw [show exL (-17) = 5 by decide]) (fun h => absurd h (by decide)) (fun _ => ⟨by omega, by decide⟩) (fun y hy => by cases hy) (fun m1 X1 => ?_)
          dsimp only
          rw [show X12_isSign e q (zI 43) m1 = some (bZ (decide (tkC T t = ((43 : Nat) : Int))), m1) from sg m1 _ _ 43 X1 (by omega), Option.bind_some, decide_eq_false (by omega), if_pos (show bZ false = zI 0 from rfl), bz0 (-17) (by decide)]
          unfold X12_expression_b226 X12_expression_b322
          rw [if_pos hT.me]; rfl
      · have a43 : tkC T t = 43 := of_decide_eq_true a43
        have hoc : ocd T t = -16 := by
          unfold ocd; rw [if_neg (by omega), if_pos a43]
        refine oper (-16) 8 5 5 none _ hoc (by decide) (by omega) (by decide) (by omega) (by rw [show exL (-16) = 5 by decide]) (fun h => absurd h (by decide)) (fun _ => ⟨by omega, by decide⟩) (fun y hy => by cases hy) (fun m1 X1 => ?_)
        dsimp only
        rw [show X12_isSign e q (zI 43) m1 = some (bZ (decide (tkC T t = ((43 : Nat) : Int))), m1) from sg m1 _ _ 43 X1 (by omega), Option.bind_some, decide_eq_true (by omega), if_neg (show ¬ bZ true = zI 0 by decide), bz0 (-16) (by decide)]
        unfold X12_expression_b226 X12_expression_b322
        rw [if_pos hT.me]; rfl
    have b127 : tkC T t = 60 ∨ tkC T t = 61 → Ev (X12_expression_b127 e (X12_expression_L29 e q nn) q (zI 1) m) (xpO n T (exA T n t (cs, ws, op, false)) tp B q m) := by
      intro h6
      unfold X12_expression_b127
      simp only [LT, zI_neg]
      refine ev_gr hT.me hX.1.tested_ (ev_gi hT.me hM.1 (ev_ai (op + 1) hT.tested_ rfl (by omega) (by omega) (hM.2 0 (by omega)) (ev_bn (fun a => ?_) (fun a => b186 (fun _ => a)))))
      by_cases h60 : tkC T t = 60
      · have hoc : ocd T t = -14 := by
          unfold ocd; rw [if_neg (by omega), if_neg (by omega), if_neg (by omega), if_neg (by omega), if_pos h60]
        refine oper (-14) 6 4 4 (some (zI 1)) _ hoc (by decide) (by omega) (by decide) (by omega) (by rw [show exL (-14) = 5 by decide]; exact stl_45 ws cs a) (fun _ => a) (fun h => by cases h) (fun y hy => by cases hy; exact ⟨by decide, fun h => absurd h (by decide)⟩) (fun m1 X1 => ?_)
        dsimp only
        rw [show X12_isSign e q (zI 60) m1 = some (bZ (decide (tkC T t = ((60 : Nat) : Int))), m1) from sg m1 _ _ 60 X1 (by omega), Option.bind_some, decide_eq_true (by omega), if_neg (show ¬ bZ true = zI 0 by decide), bz0 (-14) (by decide)]
        unfold X12_expression_b161 X12_expression_b322
        rw [if_pos hT.me]; rfl
      · have h61 : tkC T t = 61 := by omega
        have hoc : ocd T t = -15 := by
          unfold ocd; rw [if_neg (by omega), if_neg (by omega), if_neg (by omega), if_neg (by omega), if_neg (by omega), if_pos h61]
        refine oper (-15) 7 4 4 (some (zI 1)) _ hoc (by decide) (by omega) (by decide) (by omega) (by rw [show exL (-15) = 5 by decide]; exact stl_45 ws cs a) (fun _ => a) (fun h => by cases h) (fun y hy => by cases hy; exact ⟨by decide, fun h => absurd h (by decide)⟩) (fun m1 X1 => ?_)
        dsimp only
        rw [show X12_isSign e q (zI 60) m1 = some (bZ (decide (tkC T t = ((60 : Nat) : Int))), m1) from sg m1 _ _ 60 X1 (by omega), Option.bind_some, decide_eq_false (by omega), if_pos (show bZ false = zI 0 from rfl), bz0 (-15) (by decide)]
        unfold X12_expression_b161 X12_expression_b322
        rw [if_pos hT.me]; rfl
    refine ev_inp rfl rfl (by omega) (ev_eq (sg m cs ws 60 hX (by omega)) (ev_bn (fun a => ?_) (fun a => b127 (Or.inl (of_decide_eq_true a)))))
    have a : tkC T t ≠ 60 := of_decide_eq_false a
    refine ev_eq (sg m cs ws 61 hX (by omega)) (ev_bz (fun a2 => b186 ?_) (fun a2 => b127 (Or.inr (of_decide_eq_true a2))))
    have a2 : tkC T t ≠ 61 := of_decide_eq_false a2
    exact fun h => by omega
/-- a whole expression of the model, its first token being read -/
theorem X12_expression_ev {m : mm_V} {t : TK} (hT : modT e.1 q) (hN : 1000 < e.2.2) (htp : tp ≤ 2 * B) (hB : B ≤ t.2.1) (hv : tkV T n t) (hS : modS m q) (ht : txR m (q + 4) n T) (hr : tkM m q n T t) (h10 : m q 10 = .int (zI 0)) (h25 : m q 25 = .int (zI tp)) : Ev (X12_expression e q m) (xpO n T (exA T n t ([], [], 0, true)) tp B q m) := by
  have hmu := muT_lt hv ht.1
  unfold X12_expression
  simp only [LT, zI_neg]
  refine ev_eq (X12_isGood_1 hT h10) (ev_inp rfl rfl (by omega) (ev_pf hT.me (ev_pf hT.me ?_)))
  dsimp only
  generalize hm1 : mm_up (mm_up m q 26 (.int (zI 0))) q 27 (.int (zI 0)) = m1
  have o1 : ∀ b, b ≠ q → m1 b = m b := fun b h => by rw [← hm1, up_row _ _ _ h, up_row _ _ _ h]
  have f1 : ∀ j, j ≠ 26 → j ≠ 27 → m1 q j = m q j := fun j h1 h2 => by rw [← hm1, up_ne _ _ (Or.inr h2), up_ne _ _ (Or.inr h1)]
  have S1 : modS m1 q := by rw [← hm1]; exact (hS.up (by decide)).up (by decide)
  refine ev_eq (X12_deeper_eq (k := 0) hT S1 (by rw [← hm1]; exact up_at _ _ _ _) (by omega)) ?_
  generalize hm2 : mm_up (mm_up m1 q 27 (.int (zI (0 + 1 : Nat)))) (q + 12) (0 + 1) (.int (zI 0)) = m2
  have o2 : ∀ b, b ≠ q → b ≠ q + 12 → m2 b = m b := fun b h1 h2 => by rw [← hm2, up_row _ _ _ h2, up_row _ _ _ h1, o1 b h1]
  have f2 : ∀ j, j ≠ 26 → j ≠ 27 → m2 q j = m q j := fun j h1 h2 => by rw [← hm2, up_row _ _ _ (by omega), up_ne _ _ (Or.inr h2), f1 j h1 h2]
  have X2 : mxR m2 q n T t tp [] [] := ⟨by rw [← hm2]; exact (S1.up (by decide)).row (up_row _ _ _ (by omega)), hr.keep (fun j _ _ => f2 j (by omega) (by omega)), ht.keep (o2 _ (by omega) (by omega)), by rw [f2 _ (by omega) (by omega)]; exact h10, by rw [f2 _ (by omega) (by omega)]; exact h25, by rw [← hm2, up_row _ _ _ (by omega), up_ne _ _ (by omega), ← hm1, up_ne _ _ (by omega)]; exact up_at _ _ _ _, trivial, fun i c hc => by simp [ecB] at hc⟩
  have M2 : tsM m2 q [] 0 := ⟨by rw [← hm2, up_row _ _ _ (by omega)]; exact up_at _ _ _ _, fun j hj => by rw [show 0 + 1 - j = 0 + 1 by omega, ← hm2]; exact up_at _ _ _ _⟩
  have K2 : mxK q tp m m2 := ⟨fun b h1 _ _ h4 => o2 b h1 h4, fun j hj => f2 j (by omega) (by omega), fun j _ => by rw [o2 _ (by omega) (by omega)]⟩
  have hI : exI B t ([], [], 0, true) := ⟨rfl, by simp, rfl, by simp only [List.length_nil]; omega⟩
  have := X12_behind_ev (k := 610) (nn := e.2.2) hT hN htp (by omega) (fun t cs ws op m a1 a2 a3 a4 a5 a6 => X12_expression_loop hT hN htp 610 t cs ws op m e.2.2 a1 (by omega) a2 a3 a4 a5 a6) (t := t) (cs := []) (ws := []) (op := 0) (m := m2) (by omega) hv hI (by omega) rfl X2 M2
  exact ev_mono this (fun m3 h3 => xpO.of rfl K2 h3)
end XPS
