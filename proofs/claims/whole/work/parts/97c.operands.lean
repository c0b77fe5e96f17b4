/-! EXPRESSIONS of the model: an operand, whole. -/
theorem nts_0 {ws : List Int} : nts ws = 0 ↔ tpW ws ≠ -13 := by
  cases ws with
  | nil => simp [nts, tpW]
  | cons w ws =>
    rw [nts]
    show (if w = -13 then nts ws + 1 else 0) = 0 ↔ w ≠ -13
    by_cases h : w = -13
    · rw [if_pos h]; simp [h]
    · rw [if_neg h]; simp [h]
section OPERS
variable {e : mm_E} {q n tp B : Nat} {T : Nat → Nat}
theorem X12_deeper_eq {m : mm_V} {k : Nat} (hT : modT e.1 q) (hS : modS m q) (h27 : m q 27 = .int (zI k)) (hk : k < 6) : X12_deeper e q m = some (mm_up (mm_up m q 27 (.int (zI (k + 1 : Nat)))) (q + 12) (k + 1) (.int (zI 0))) := by
  unfold X12_deeper
  simp only [LT, zI_neg]
  have hS1 : modS (mm_up m q 27 (.int (zI (k + 1 : Nat)))) q := hS.up (by decide)
  rw [rd_gi hT.me h27, Option.bind_some, ien (by omega), Option.bind_some, zI_add, wr_pf hT.me, Option.bind_some, show ((k : Int) + 1) = ((k + 1 : Nat) : Int) by omega, rd_gr hT.me hS1.tested_, Option.bind_some, rd_gi hT.me (v := zI ((k + 1 : Nat) : Int)) (up_at _ _ _ _), Option.bind_some, wr_sz (x := zI 0) hT.tested_ (i := k + 1) rfl (by omega) (by omega) (Or.inl rfl), Option.bind_some]
theorem X12_deeper_bad {m : mm_V} {t : TK} {cs ws : List Int} {op : Nat} {K : Nat} (hT : modT e.1 q) (hv : tkV T n t) (hX : mxR m q n T t tp cs ws) (hok : okW ws op) (h90 : ws.length ≤ 90) (hK : tp + 2 * cs.length + 2 * ws.length ≤ K) (h27 : m q 27 = .int (zI 6)) : Ev (X12_deeper e q m) (fun m' => mjR m' q (if tkC T t ≠ 48 ∧ tkC T t ≠ 97 ∧ tkC T t ≠ 40 then 1 else 2) t.2.1 K ∧ mxK q tp m m') := by
  have t15 := hX.2.1.2.2.1
  have v3 := hv.2.2.1
  have c1 := tkC_1 hv
  have c2 := tkC_2 hv
  unfold X12_deeper X12_deeper_b56 X12_deeper_b61
  simp only [LT, zI_neg]
  refine ev_gi hT.me h27 (ev_iep rfl rfl (by omega) (ev_gi hT.me t15 ?_))
  have two : ¬ (tkC T t ≠ 48 ∧ tkC T t ≠ 97 ∧ tkC T t ≠ 40) → Ev (if e.1 q = some (12, 75) then (X12_wrong e q (zI 2) m).bind fun r1 => some r1 else none) (fun m' => mjR m' q (if tkC T t ≠ 48 ∧ tkC T t ≠ 97 ∧ tkC T t ≠ 40 then 1 else 2) t.2.1 K ∧ mxK q tp m m') := by
    intro h
    rw [if_neg h]
    refine ev_tg hT.me (ev_call (X12_wrong_ev (f := 2) hT hX hok h90 hK) ?_)
    rintro m1 ⟨J1, K1, -⟩
    exact ev_ret ⟨J1, K1⟩
  by_cases h2 : t.1 = 2
  · exact ev_iqp rfl rfl (by omega) (two (fun h => h.1 (c2.mpr h2)))
  refine ev_iqn rfl rfl (by omega) (ev_gi hT.me t15 ?_)
  by_cases h1 : t.1 = 1
  · exact ev_iqp rfl rfl (by omega) (two (fun h => h.2.1 (c1.mpr h1)))
  refine ev_iqn rfl rfl (by omega) (ev_eq (X12_isSign_eq (c := 40) hT hX.2.1 hX.2.2.1 hv (by omega)) (ev_bz (fun a => ?_) (fun a => ?_)))
  · have a := of_decide_eq_false a
    rw [if_pos (show tkC T t ≠ 48 ∧ tkC T t ≠ 97 ∧ tkC T t ≠ 40 from ⟨fun h => h2 (c2.mp h), fun h => h1 (c1.mp h), a⟩)]
    refine ev_tg hT.me (ev_call (X12_wrong_ev (m := m) (f := 1) hT hX hok h90 hK) ?_)
    rintro m1 ⟨J1, K1, -⟩
    exact ev_ret ⟨J1, K1⟩
  · exact two (fun h => h.2.2 (of_decide_eq_true a))
theorem X12_operand_L4_no {m : mm_V} {f : Nat} {i2 i3 : Int32} (hT : modT e.1 q) (h10 : m q 10 = .int (zI f)) (hf : 1 ≤ f ∧ f < 100) {nn : Nat} (hn : 0 < nn) : X12_operand_L4 e q nn i2 i3 m = some m := by
  obtain ⟨nn, rfl⟩ : ∃ n', nn = n' + 1 := ⟨nn - 1, by omega⟩
  rw [X12_operand_L4]
  unfold X12_operand_b120
  rw [X12_part_no hT h10 hf, Option.bind_some, X12_isGood_0 hT h10 hf, Option.bind_some]
  simp only
  rw [X12_part_no hT h10 hf, Option.bind_some]
  split <;> rfl
theorem X12_operand_L18_no {m : mm_V} {f : Nat} {i2 i4 : Int32} (hT : modT e.1 q) (h10 : m q 10 = .int (zI f)) (hf : 1 ≤ f ∧ f < 100) {nn n18 : Nat} (hn : 0 < nn) (hn18 : 0 < n18) : X12_operand_L18 e (X12_operand_L4 e q nn) q i2 n18 i4 m = some m := by
  obtain ⟨n18, rfl⟩ : ∃ n', n18 = n' + 1 := ⟨n18 - 1, by omega⟩
  rw [X12_operand_L18, X12_isGood_0 hT h10 hf, Option.bind_some]
  simp only
  rw [if_pos (show zI 0 = 0 from rfl)]
  unfold X12_operand_b75 X12_operand_b95 X12_operand_b96 X12_operand_b117
  rw [X12_isGood_0 hT h10 hf, Option.bind_some]
  simp only
  rw [if_pos (show zI 0 = 0 from rfl)]
  simp only [if_true]
  exact X12_operand_L4_no hT h10 hf hn
theorem opO.trans {t t1 : TK} {S S1 : CS} {m m1 m2 : mm_V} (hA : exA T n t S = exA T n t1 S1) (hmu : muT n t1 < muT n t) (hK : mxK q tp m m1) (h : opO n T t1 S1 tp B q m1 m2) : opO n T t S tp B q m m2 := by
  obtain ⟨k, h⟩ := h
  refine ⟨hK.trans k, ?_⟩
  rcases h with ⟨f, t', a1, a2, a3, a4, a5⟩ | ⟨t', cs, ws, op, a1, a2, a3, a4, a5, a6, a7⟩
  · exact Or.inl ⟨f, t', a1, a2, by rw [hA]; exact a3, a4, a5⟩
  · exact Or.inr ⟨t', cs, ws, op, by rw [hA]; exact a1, a2, a3, a4, a5, a6, by omega⟩
theorem X12_operand_loops (hT : modT e.1 q) (hN : 1000 < e.2.2) (htp : tp ≤ 2 * B) : ∀ k : Nat, k < 700 →
    (∀ (t : TK) (cs ws : List Int) (op : Nat) (m : mm_V) (nn n18 : Nat), muT n t ≤ k → k < nn → k + 1 < n18 → tkV T n t → exI B t (cs, ws, op, true) → op ≤ 5 → mxR m q n T t tp cs ws → tsM m q ws op → Ev (X12_operand_L18 e (X12_operand_L4 e q nn) q (bZ (decide (lv (tpW ws) ≤ 3))) n18 (zI (nts ws)) m) (opO n T t (cs, ws, op, true) tp B q m)) ∧
    (∀ (t : TK) (cs ws : List Int) (op : Nat) (m : mm_V) (nn : Nat), muT n t ≤ k → k + 1 < nn → tkV T n t → exI B t (cs, ws, op, true) → op ≤ 5 → nts ws = 0 → mxR m q n T t tp cs ws → tsM m q ws op → Ev (X12_operand_L4 e q nn (bZ (decide (lv (tpW ws) ≤ 3))) (zI 1) m) (opO n T t (cs, ws, op, true) tp B q m)) := by
  intro k
  induction k with
  | zero =>
    intro _
    have h18 : ∀ (t : TK) (cs ws : List Int) (op : Nat) (m : mm_V) (nn n18 : Nat), muT n t ≤ 0 → 0 < nn → 0 + 1 < n18 → tkV T n t → exI B t (cs, ws, op, true) → op ≤ 5 → mxR m q n T t tp cs ws → tsM m q ws op → Ev (X12_operand_L18 e (X12_operand_L4 e q nn) q (bZ (decide (lv (tpW ws) ≤ 3))) n18 (zI (nts ws)) m) (opO n T t (cs, ws, op, true) tp B q m) := by
      intro t cs ws op m nn n18 hmu hnn hn18 hv hI hop hX hM
      have h0 : t.1 = 0 := by
        unfold muT at hmu
        by_cases h : t.1 = 0
        · exact h
        · rw [if_neg h] at hmu; omega
      have hn := hX.2.2.1.1
      obtain ⟨n18, rfl⟩ : ∃ n', n18 = n' + 1 := ⟨n18 - 1, by omega⟩
      obtain ⟨nn, rfl⟩ : ∃ n', nn = n' + 1 := ⟨nn - 1, by omega⟩
      have hk := tkC_0 (T := T) h0
      have hw8 : ¬ isW T t 8 = true := fun h => by have := isW_1 h; omega
      have b75 : Ev (X12_operand_b75 e (X12_operand_L4 e q (nn + 1)) q (bZ (decide (lv (tpW ws) ≤ 3))) m) (opO n T t (cs, ws, op, true) tp B q m) := by
        unfold X12_operand_b75 X12_operand_b95 X12_operand_b96 X12_operand_b117
        simp only [LT, zI_neg]
        refine ev_eq (X12_isGood_1 hT hX.2.2.2.1) (ev_iqn rfl rfl (by omega) (ev_eq (X12_isSign_eq (c := 40) hT hX.2.1 hX.2.2.1 hv (by omega)) (ev_bz (fun a => ?_) (fun a => absurd (of_decide_eq_true a) (by omega)))))
        simp only [if_true]
        rw [X12_operand_L4]
        unfold X12_operand_b120
        simp only [LT, if_true]
        refine ev_call (X12_part_ev hT hN hv hI htp hop (by omega) (fun h => hw8 h.1) hX hM) (fun m1 h => ev_ret h)
      rw [X12_operand_L18]
      simp only [LT, zI_neg]
      refine ev_eq (X12_isGood_1 hT hX.2.2.2.1) (ev_iqn rfl rfl (by omega) (ev_bz (fun _ => b75) (fun _ => ?_)))
      obtain ⟨z, z1, z2, z3, z4⟩ := X12_knownWord_eq (e := e) hT hX.2.1 hv hn hN
      have w16 := z4 16 (by omega)
      simp only [mix, List.getD_cons_zero, List.getD_cons_succ] at w16
      exact ev_eq z1 (ev_inp rfl rfl (by have : z ≠ 16 := fun h => hw8 (w16.mpr h); omega) b75)
    refine ⟨h18, ?_⟩
    intro t cs ws op m nn hmu hnn hv hI hop hnt hX hM
    obtain ⟨nn, rfl⟩ : ∃ n', nn = n' + 1 := ⟨nn - 1, by omega⟩
    rw [X12_operand_L4]
    simp only [LT, zI_neg]
    refine ev_iqn rfl rfl (by omega) (ev_eq (X12_isGood_1 hT hX.2.2.2.1) (ev_iqn rfl rfl (by omega) ?_))
    have := h18 t cs ws op m nn e.2.2 hmu (by omega) (by omega) hv hI hop hX hM
    rw [hnt] at this
    exact this
  | succ k ih =>
    intro hk700
    obtain ⟨ih18, ih4⟩ := ih (by omega)
    have h18 : ∀ (t : TK) (cs ws : List Int) (op : Nat) (m : mm_V) (nn n18 : Nat), muT n t ≤ k + 1 → k + 1 < nn → k + 1 + 1 < n18 → tkV T n t → exI B t (cs, ws, op, true) → op ≤ 5 → mxR m q n T t tp cs ws → tsM m q ws op → Ev (X12_operand_L18 e (X12_operand_L4 e q nn) q (bZ (decide (lv (tpW ws) ≤ 3))) n18 (zI (nts ws)) m) (opO n T t (cs, ws, op, true) tp B q m) := by
      intro t cs ws op m nn n18 hmu hnn hn18 hv hI hop hX hM
      have hn := hX.2.2.1.1
      have hok : okW ws op := hI.1
      have h83 : ws.length ≤ 83 := hI.len
      have i4 := hI.2.2.2
      dsimp only at i4
      have v1 := hv.1
      have v2 := hv.2.1
      have hnl := (nts_spec ws).1
      obtain ⟨n18, rfl⟩ : ∃ n', n18 = n' + 1 := ⟨n18 - 1, by omega⟩
      have hnoend : ¬ ((cs, ws, op, true).2.2.2 = false ∧ (cs, ws, op, true).2.2.1 = 0 ∧ tkC T t = 59) := fun h => by simp at h
      have hexS : exS T t (cs, ws, op, true) = exP T t cs ws op := by unfold exS; rw [if_pos rfl]
      obtain ⟨hv', hb'⟩ := tok_V T (b := t.2.2) hv.2.1
      have b75 : ¬ (isW T t 8 = true ∧ lv (tpW ws) ≤ 3) → Ev (X12_operand_b75 e (X12_operand_L4 e q nn) q (bZ (decide (lv (tpW ws) ≤ 3))) m) (opO n T t (cs, ws, op, true) tp B q m) := by
        intro hno
        unfold X12_operand_b75 X12_operand_b95 X12_operand_b96 X12_operand_b117
        simp only [LT, zI_neg]
        refine ev_eq (X12_isGood_1 hT hX.2.2.2.1) (ev_iqn rfl rfl (by omega) (ev_eq (X12_isSign_eq (c := 40) hT hX.2.1 hX.2.2.1 hv (by omega)) (ev_bz (fun a => ?_) (fun a => ?_))))
        · simp only [if_true]
          obtain ⟨nn, rfl⟩ : ∃ n', nn = n' + 1 := ⟨nn - 1, by omega⟩
          rw [X12_operand_L4]
          unfold X12_operand_b120
          simp only [LT, if_true]
          exact ev_call (X12_part_ev hT hN hv hI htp hop (of_decide_eq_false a) hno hX hM) (fun m1 h => ev_ret h)
        · have h40 := of_decide_eq_true a
          have h40 : tkC T t = 40 := h40
          have h0 : t.1 ≠ 0 := fun h => by rw [tkC_0 h] at h40; omega
          have hs : exS T t (cs, ws, op, true) = .inr (cs, -20 :: ws, op + 1, true) := by
            rw [hexS]; unfold exP
            rw [if_neg (by omega), if_neg (by omega), if_pos h40]
          have hA := exA_go hv hn hnoend hs
          obtain ⟨hI', -⟩ := exS_inv hI hv hs hb'
          have hmu' := muT_next (n := n) hv h0
          refine ev_iqn rfl rfl (by omega) (ev_call (X12_waitsFor_ev (m := m) (-20) (a := 14) (by decide) hT hX (by omega)) ?_)
          rintro m1 ⟨X1, f1, o1⟩
          refine ev_call (X12_goes_ev hT hN hv X1) ?_
          rintro m2 ⟨X2, K2, f2, o2⟩
          have K02 : mxK q tp m m2 := mxK.trans (m1 := m1) ⟨fun b x1 _ x3 _ => o1 b x1 x3, fun j hj => f1 j (by omega), fun j _ => by rw [o1 _ (by omega) (by omega)]⟩ K2
          have h27 : m2 q 27 = .int (zI (op + 1 : Nat)) := by rw [f2 _ (by omega), f1 _ (by omega)]; exact hM.1
          by_cases h5 : op = 5
          · subst h5
            refine ev_call (X12_deeper_bad (K := 1500) (op := 6) hT hv' X2 hI'.1 (by rw [List.length_cons]; omega) (by rw [List.length_cons]; omega) h27) ?_
            rintro m3 ⟨J3, K3⟩
            have hs2 : exS T (tok T n t.2.2) (cs, -20 :: ws, 6, true) = .inl (if tkC T (tok T n t.2.2) ≠ 48 ∧ tkC T (tok T n t.2.2) ≠ 97 ∧ tkC T (tok T n t.2.2) ≠ 40 then 1 else 2) := by
              unfold exS exP
              simp only [if_true]
              split
              · rfl
              · rw [if_pos (by omega)]
            have hA2 : exA T n (tok T n t.2.2) (cs, -20 :: ws, 6, true) = _ := exA_bad (n := n) (fun h => by simp at h) hs2
            generalize hf : (if tkC T (tok T n t.2.2) ≠ 48 ∧ tkC T (tok T n t.2.2) ≠ 97 ∧ tkC T (tok T n t.2.2) ≠ 40 then 1 else 2) = f at J3 hA2
            have hf3 : 1 ≤ f ∧ f ≤ 3 := by rw [← hf]; split <;> omega
            refine ev_is (X12_operand_L4_no hT J3.2.1 (by omega) (by omega)) (ev_ret ⟨K02.trans K3, Or.inl ⟨f, tok T n t.2.2, hf3.1, hf3.2, by rw [hA]; exact hA2, hv', J3⟩⟩)
          · refine ev_eq (X12_deeper_eq hT X2.1 h27 (by omega)) ?_
            generalize hm3 : mm_up (mm_up m2 q 27 (.int (zI (op + 1 + 1 : Nat)))) (q + 12) (op + 1 + 1) (.int (zI 0)) = m3
            have o3 : ∀ b, b ≠ q → b ≠ q + 12 → m3 b = m2 b := fun b x1 x2 => by rw [← hm3, up_row _ _ _ x2, up_row _ _ _ x1]
            have f3 : ∀ j, j ≠ 27 → m3 q j = m2 q j := fun j x1 => by rw [← hm3, up_row _ _ _ (by omega), up_ne _ _ (Or.inr x1)]
            have X3 : mxR m3 q n T (tok T n t.2.2) tp cs (-20 :: ws) := by
              obtain ⟨x1, x2, x3, x4, x5, x6, x7, x8⟩ := X2
              exact ⟨by rw [← hm3]; exact (x1.up (by decide)).row (up_row _ _ _ (by omega)), x2.keep (fun j _ _ => f3 j (by omega)), x3.keep (o3 _ (by omega) (by omega)), by rw [f3 _ (by omega)]; exact x4, by rw [f3 _ (by omega)]; exact x5, by rw [f3 _ (by omega)]; exact x6, wsR.keep (o3 _ (by omega) (by omega)) x7, fun i c hc => by rw [o3 _ (by omega) (by omega)]; exact x8 i c hc⟩
            have M3 : tsM m3 q (-20 :: ws) (op + 1) := by
              refine ⟨by rw [← hm3, up_row _ _ _ (by omega), up_at], fun j hj => ?_⟩
              cases j with
              | zero => rw [← hm3]; exact up_at _ _ _ _
              | succ j =>
                rw [show op + 1 + 1 - (j + 1) = op + 1 - j by omega, ← hm3, up_ne _ _ (by omega), up_row _ _ _ (by omega), o2 _ (by omega), o1 _ (by omega) (by omega), tsd, if_pos rfl]
                exact hM.2 j (by omega)
            have K3 : mxK q tp m m3 := K02.trans ⟨fun b x1 _ _ x4 => o3 b x1 x4, fun j hj => f3 j (by omega), fun j _ => by rw [o3 _ (by omega) (by omega)]⟩
            refine ev_mono (ih4 (tok T n t.2.2) cs (-20 :: ws) (op + 1) m3 nn (by omega) (by omega) hv' hI' (by omega) (by rw [nts, if_neg (by decide)]) X3 M3) ?_
            exact fun m4 h4 => opO.trans hA hmu' K3 h4
      rw [X12_operand_L18]
      simp only [LT, zI_neg]
      refine ev_eq (X12_isGood_1 hT hX.2.2.2.1) (ev_iqn rfl rfl (by omega) (ev_bz (fun a => b75 (fun h => absurd h.2 (of_decide_eq_false a))) (fun a => ?_)))
      have hl3 := of_decide_eq_true a
      obtain ⟨z, z1, z2, z3, z4⟩ := X12_knownWord_eq (e := e) hT hX.2.1 hv hn hN
      have w16 := z4 16 (by omega)
      simp only [mix, List.getD_cons_zero, List.getD_cons_succ] at w16
      refine ev_eq z1 ?_
      by_cases hz : z = 16
      · have hw8 := w16.mpr hz
        have h1 := isW_1 hw8
        have h97 := (tkC_1 hv).mpr h1
        refine ev_inn rfl rfl (by omega) ?_
        unfold X12_operand_b50
        simp only [LT, zI_neg]
        have hbase : exP T t cs ws op = if 6 ≤ nts ws then .inl 2 else .inr (cs, -13 :: ws, op, true) := by
          unfold exP
          rw [if_neg (by omega), if_neg (by omega), if_neg (by omega), if_pos ⟨hw8, hl3⟩]
        have hn6 : nts ws ≤ 6 := by
          cases ws with
          | nil => rw [nts]; omega
          | cons w ws =>
            rw [okW] at hok
            by_cases hw : w = -20
            · subst hw; rw [nts, if_neg (by decide)]; omega
            · rw [if_neg hw] at hok; exact hok.2.2.2
        by_cases h6 : nts ws = 6
        · rw [if_pos (by omega), ← hexS] at hbase
          refine ev_inn rfl rfl (by omega) (ev_call (X12_wrong_ev (m := m) (f := 2) (K := 1500) hT hX hok (by omega) (by omega)) ?_)
          rintro m1 ⟨J1, K1, f1⟩
          refine ev_eq (X12_isGood_0 hT J1.2.1 (by omega)) ?_
          simp only [not_true_eq_false, if_false]
          exact ev_is (X12_operand_L18_no hT J1.2.1 (by omega) (by omega) (by omega)) (ev_ret ⟨K1, Or.inl ⟨2, t, by omega, by omega, exA_bad hnoend hbase, hv, J1⟩⟩)
        · rw [if_neg (by omega), ← hexS] at hbase
          have hA := exA_go hv hn hnoend hbase
          obtain ⟨hI', h0⟩ := exS_inv hI hv hbase hb'
          have hmu' := muT_next (n := n) hv h0
          refine ev_inp rfl rfl (by omega) (ev_eq (X12_isGood_1 hT hX.2.2.2.1) (ev_inp rfl rfl (by omega) (ev_call (X12_waitsFor_ev (m := m) (-13) (a := 3) (by decide) hT hX (by omega)) ?_)))
          rintro m1 ⟨X1, f1, o1⟩
          refine ev_call (X12_goes_ev hT hN hv X1) ?_
          rintro m2 ⟨X2, K2, f2, o2⟩
          have K02 : mxK q tp m m2 := mxK.trans (m1 := m1) ⟨fun b x1 _ x3 _ => o1 b x1 x3, fun j hj => f1 j (by omega), fun j _ => by rw [o1 _ (by omega) (by omega)]⟩ K2
          have M2 : tsM m2 q (-13 :: ws) op := by
            refine ⟨by rw [f2 _ (by omega), f1 _ (by omega)]; exact hM.1, fun j hj => ?_⟩
            rw [o2 _ (by omega), o1 _ (by omega) (by omega), hM.2 j hj]
            cases j with
            | zero => rw [tsd, if_neg (by decide), show tsc (-13) = false by decide, Bool.false_or]
            | succ j => rw [tsd, if_neg (by decide)]
          have := ih18 (tok T n t.2.2) cs (-13 :: ws) op m2 nn n18 (by omega) (by omega) (by omega) hv' hI' hop X2 M2
          rw [nts, if_pos rfl, show decide (lv (tpW (-13 :: ws)) ≤ 3) = true from (by show decide (lv (-13) ≤ 3) = true; decide)] at this
          refine ev_mono (P := opO n T t (cs, ws, op, true) tp B q m) ?_ (fun m4 h4 => opO.trans hA hmu' K02 h4)
          rw [show (zI (nts ws : Int) + zI 1 : Int32) = zI ((nts ws + 1 : Nat) : Int) from zI_add _ _, a]
          exact this
      · exact ev_inp rfl rfl (by omega) (b75 (fun h => hz (w16.mp h.1)))
    refine ⟨h18, ?_⟩
    intro t cs ws op m nn hmu hnn hv hI hop hnt hX hM
    obtain ⟨nn, rfl⟩ : ∃ n', nn = n' + 1 := ⟨nn - 1, by omega⟩
    rw [X12_operand_L4]
    simp only [LT, zI_neg]
    refine ev_iqn rfl rfl (by omega) (ev_eq (X12_isGood_1 hT hX.2.2.2.1) (ev_iqn rfl rfl (by omega) ?_))
    have := h18 t cs ws op m nn e.2.2 hmu (by omega) (by omega) hv hI hop hX hM
    rw [hnt] at this
    exact this
theorem X12_operand_ev {m : mm_V} {t : TK} {cs ws : List Int} {op : Nat} (hT : modT e.1 q) (hN : 1000 < e.2.2) (htp : tp ≤ 2 * B) (hv : tkV T n t) (hI : exI B t (cs, ws, op, true)) (hop : op ≤ 5) (hnt : nts ws = 0) (hX : mxR m q n T t tp cs ws) (hM : tsM m q ws op) : Ev (X12_operand e q (bZ (decide (lv (tpW ws) ≤ 3))) m) (opO n T t (cs, ws, op, true) tp B q m) := by
  have hmu := muT_lt hv hX.2.2.1.1
  exact (X12_operand_loops hT hN htp (muT n t) (by omega)).2 t cs ws op m e.2.2 (Nat.le_refl _) (by omega) hv hI hop hnt hX hM
end OPERS
