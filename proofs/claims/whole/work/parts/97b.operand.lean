/-! EXPRESSIONS of the model: an operand. -/
def mjR (m : mm_V) (q f pl K : Nat) : Prop := modS m q ∧ m q 10 = .int (zI f) ∧ m q 11 = .int (zI pl) ∧ ∃ k w : Nat, m q 25 = .int (zI k) ∧ m q 26 = .int (zI w) ∧ k + w ≤ K ∧ w ≤ 100 ∧ ∀ i, i < w → ∃ v : Int, m (q + 10) i = .int (zI v) ∧ 0 ≤ v ∧ v < 100
def opO (n : Nat) (T : Nat → Nat) (t : TK) (S : CS) (tp B q : Nat) (m m' : mm_V) : Prop := mxK q tp m m' ∧ ((∃ (f : Nat) (t' : TK), 1 ≤ f ∧ f ≤ 3 ∧ exA T n t S = (f, t', []) ∧ tkV T n t' ∧ mjR m' q f t'.2.1 1500) ∨ ∃ (t' : TK) (cs ws : List Int) (op : Nat), exA T n t S = exA T n t' (cs, ws, op, false) ∧ tkV T n t' ∧ exI B t' (cs, ws, op, false) ∧ op ≤ 5 ∧ mxR m' q n T t' tp cs ws ∧ tsM m' q ws op ∧ muT n t' < muT n t)
theorem tkC_1 {T : Nat → Nat} {n : Nat} {t : TK} (hv : tkV T n t) : tkC T t = 97 ↔ t.1 = 1 := by
  unfold tkC
  have h3 := hv.2.2.2.2.2.2.2
  constructor
  · intro h
    by_cases h0 : t.1 = 0
    · rw [if_pos h0] at h; omega
    rw [if_neg h0] at h
    by_cases h1 : t.1 = 1
    · exact h1
    rw [if_neg h1] at h
    by_cases h2 : t.1 = 2
    · rw [if_pos h2] at h; omega
    rw [if_neg h2] at h
    by_cases h4 : t.1 = 3
    · rw [if_pos h4] at h
      have := h3 h4
      unfold isSg at this
      simp at this
      omega
    · rw [if_neg h4] at h; omega
  · intro h
    rw [if_neg (by omega), if_pos h]
theorem muT_next {T : Nat → Nat} {n : Nat} {t : TK} (hv : tkV T n t) (h0 : t.1 ≠ 0) : muT n (tok T n t.2.2) < muT n t := by
  obtain ⟨hv', hb'⟩ := tok_V T (b := t.2.2) hv.2.1
  unfold muT
  rw [if_neg h0]
  have := hv'.2.1
  have h5 := hv'.2.2.2.2.1
  split
  · omega
  · have := h5 (by assumption); omega
theorem isW_1 {T : Nat → Nat} {t : TK} {i : Nat} (h : isW T t i = true) : t.1 = 1 := (of_decide_eq_true h).1
theorem wsR.ints {m : mm_V} {a op : Nat} {ws : List Int} (h : wsR m a (ws.map mcd)) (hok : okW ws op) : ∀ i, i < ws.length → ∃ v : Int, m a i = .int (zI v) ∧ 0 ≤ v ∧ v < 100 := by
  intro i hi
  have hj : ws.length - 1 - i < ws.length := by omega
  have hg := List.getElem?_eq_getElem hj
  have hb := okW_mem hok hg
  have hm := mcd_bd hb
  have hg2 : (ws.map mcd)[ws.length - 1 - i]? = some (mcd ws[ws.length - 1 - i]) := by rw [List.getElem?_map, hg]; rfl
  have := h.get hg2
  rw [List.length_map, show ws.length - 1 - (ws.length - 1 - i) = i by omega] at this
  exact ⟨_, this, by omega, by omega⟩
section OPER
variable {e : mm_E} {q n tp B : Nat} {T : Nat → Nat} {t : TK}
theorem X12_wrong_ev {m : mm_V} {cs ws : List Int} {op f : Nat} (hT : modT e.1 q) (hX : mxR m q n T t tp cs ws) (hok : okW ws op) (h90 : ws.length ≤ 90) {K : Nat} (hK : tp + 2 * cs.length + 2 * ws.length ≤ K) : Ev (X12_wrong e q (zI f) m) (fun m' => mjR m' q f t.2.1 K ∧ mxK q tp m m' ∧ (∀ k, k ≠ 10 → k ≠ 11 → m' q k = m q k)) := by
  obtain ⟨x1, x2, x3, x4, x5, x6, x7, x8⟩ := hX
  have hel := ecB_len cs
  have f1 : ∀ (v w : Value) k, k ≠ 10 → k ≠ 11 → (mm_up (mm_up m q 10 v) q 11 w) q k = m q k := fun v w k h1 h2 => by rw [up_ne _ _ (Or.inr h2), up_ne _ _ (Or.inr h1)]
  refine ⟨_, X12_wrong_eq hT x4 x2.2.2.2.1, ⟨(x1.up (by decide)).up (by decide), by rw [up_ne _ _ (by omega), up_at], up_at _ _ _ _, _, _, by rw [f1 _ _ _ (by omega) (by omega)]; exact x5, by rw [f1 _ _ _ (by omega) (by omega)]; exact x6, by omega, by omega, fun i hi => by rw [up_row _ _ _ (by omega), up_row _ _ _ (by omega)]; exact x7.ints hok i hi⟩, ⟨fun b h _ _ _ => by rw [up_row _ _ _ h, up_row _ _ _ h], fun k hk => f1 _ _ k (by omega) (by omega), fun j _ => by rw [up_row _ _ _ (by omega), up_row _ _ _ (by omega)]⟩, fun k h1 h2 => f1 _ _ k h1 h2⟩
theorem X12_puts_junk {m : mm_V} {f pl K : Nat} {v : Int32} (hT : modT e.1 q) (hJ : mjR m q f pl K) (hK : K < 1590) (htp : ∃ k, m q 25 = .int (zI k) ∧ tp ≤ k ∧ k < 1600) : Ev (X12_puts e q v m) (fun m' => mjR m' q f pl (K + 1) ∧ mxK q tp m m' ∧ (∃ k, m' q 25 = .int (zI k) ∧ tp ≤ k ∧ k < 1600) ∧ ∀ k, k ≠ 25 → m' q k = m q k) := by
  obtain ⟨x1, x2, x3, k, w, x4, x5, x6, x7, x8⟩ := hJ
  obtain ⟨k', y1, y2, y3⟩ := htp
  have hkk : k' = k := by
    have := y1.symm.trans x4
    injection this with this
    have h := congrArg Int32.toInt this
    rw [zI_toInt (by omega) (by omega), zI_toInt (by omega) (by omega)] at h
    omega
  subst hkk
  have f1 : ∀ (u v : Value) j, j ≠ 25 → (mm_up (mm_up m (q + 9) k u) q 25 v) q j = m q j := fun u v j h => by rw [up_ne _ _ (Or.inr h), up_row _ _ _ (by omega)]
  refine ⟨_, X12_puts_eq hT x1 x4 (by omega), ⟨(x1.row (up_row _ _ _ (by omega))).up (by decide), by rw [f1 _ _ _ (by omega)]; exact x2, by rw [f1 _ _ _ (by omega)]; exact x3, _, _, up_at _ _ _ _, by rw [f1 _ _ _ (by omega)]; exact x5, by omega, x7, fun i hi => by rw [up_row _ _ _ (by omega), up_row _ _ _ (by omega)]; exact x8 i hi⟩, ⟨fun b h1 h2 _ _ => by rw [up_row _ _ _ h1, up_row _ _ _ h2], fun j hj => f1 _ _ j (by omega), fun j hj => by rw [up_row _ _ _ (by omega), up_ne _ _ (by omega)]⟩, ⟨_, up_at _ _ _ _, by omega, by omega⟩, fun j hj => f1 _ _ j hj⟩
theorem X12_puts_ev2 {m : mm_V} {cs ws : List Int} {c a b : Int} (hT : modT e.1 q) (hX : mxR m q n T t tp cs ws) (hK : tp + 2 * cs.length ≤ 1500) (hc : encC c = [a, b]) : Ev (X12_puts e q (zI a) m) (fun m1 => (∀ k, k ≠ 25 → m1 q k = m q k) ∧ Ev (X12_puts e q (zI b) m1) (fun m' => mxR m' q n T t tp (cs ++ [c]) ws ∧ mxK q tp m m' ∧ (∀ k, k ≠ 25 → m' q k = m q k) ∧ ∀ b, b ≠ q → b ≠ q + 9 → m' b = m b)) := by
  obtain ⟨x1, x2, x3, x4, x5, x6, x7, x8⟩ := hX
  have hel := ecB_len cs
  refine ⟨_, X12_puts_eq hT x1 x5 (by omega), ?_⟩
  generalize hm1 : mm_up (mm_up m (q + 9) (tp + (ecB cs).length) (.int (zI a))) q 25 (.int (zI (tp + (ecB cs).length + 1 : Nat))) = m1
  have f1 : ∀ k, k ≠ 25 → m1 q k = m q k := fun k h => by rw [← hm1, up_ne _ _ (Or.inr h), up_row _ _ _ (by omega)]
  have s1 : modS m1 q := by rw [← hm1]; exact (x1.row (up_row _ _ _ (by omega))).up (by decide)
  refine ⟨f1, _, X12_puts_eq hT s1 (by rw [← hm1, up_at]) (by omega), ?_⟩
  generalize hm2 : mm_up (mm_up m1 (q + 9) (tp + (ecB cs).length + 1) (.int (zI b))) q 25 (.int (zI (tp + (ecB cs).length + 1 + 1 : Nat))) = m2
  have f2 : ∀ k, k ≠ 25 → m2 q k = m q k := fun k h => by rw [← hm2, up_ne _ _ (Or.inr h), up_row _ _ _ (by omega), f1 k h]
  have o2 : ∀ b, b ≠ q → b ≠ q + 9 → m2 b = m b := fun b h1 h2 => by rw [← hm2, up_row _ _ _ h1, up_row _ _ _ h2, ← hm1, up_row _ _ _ h1, up_row _ _ _ h2]
  have hec : ecB (cs ++ [c]) = ecB cs ++ [a, b] := by rw [ecB_app, ecB_one, hc]
  have c2 : ∀ j, j < tp + (ecB cs).length → m2 (q + 9) j = m (q + 9) j := fun j hj => by rw [← hm2, up_row _ _ _ (by omega), up_ne _ _ (by omega), ← hm1, up_row _ _ _ (by omega), up_ne _ _ (by omega)]
  refine ⟨⟨?_, x2.keep (fun k _ _ => f2 k (by omega)), x3.keep (o2 _ (by omega) (by omega)), by rw [f2 _ (by omega)]; exact x4, ?_, by rw [f2 _ (by omega)]; exact x6, wsR.keep (o2 _ (by omega) (by omega)) x7, ?_⟩, ⟨fun b h1 h2 _ _ => o2 b h1 h2, fun k hk => f2 k (by omega), fun j hj => c2 j (by omega)⟩, f2, o2⟩
  · rw [← hm2]; exact (s1.row (up_row _ _ _ (by omega))).up (by decide)
  · rw [← hm2, up_at, hec, List.length_append]; rfl
  · rw [hec]
    refine ecB_get x8 c2 (fun i y hy => ?_)
    match i, hy with
    | 0, hy =>
      simp at hy
      rw [← hy, ← hm2, up_row _ _ _ (by omega), up_ne _ _ (by omega), ← hm1, up_row _ _ _ (by omega)]; exact up_at _ _ _ _
    | 1, hy =>
      simp at hy
      rw [← hy, ← hm2, up_row _ _ _ (by omega)]; exact up_at _ _ _ _
    | i + 2, hy => simp at hy
theorem X12_part_no {m : mm_V} {f : Nat} (hT : modT e.1 q) (h10 : m q 10 = .int (zI f)) (hf : 1 ≤ f ∧ f < 100) : X12_part e q m = some m := by
  unfold X12_part
  rw [X12_isGood_0 hT h10 hf, Option.bind_some]
  rfl
theorem X12_part_ev {m : mm_V} {cs ws : List Int} {op : Nat} (hT : modT e.1 q) (hN : 1000 < e.2.2) (hv : tkV T n t) (hI : exI B t (cs, ws, op, true)) (htp : tp ≤ 2 * B) (hop : op ≤ 5) (h40 : tkC T t ≠ 40) (hnot : ¬ (isW T t 8 = true ∧ lv (tpW ws) ≤ 3)) (hX : mxR m q n T t tp cs ws) (hM : tsM m q ws op) : Ev (X12_part e q m) (opO n T t (cs, ws, op, true) tp B q m) := by
  have hn := hX.2.2.1.1
  have hok : okW ws op := hI.1
  have h83 : ws.length ≤ 83 := hI.len
  have i4 := hI.2.2.2
  dsimp only at i4
  have v1 := hv.1
  have v2 := hv.2.1
  have hnoend : ¬ ((cs, ws, op, true).2.2.2 = false ∧ (cs, ws, op, true).2.2.1 = 0 ∧ tkC T t = 59) := fun h => by simp at h
  have hel := ecB_len cs
  have hexS : exS T t (cs, ws, op, true) = exP T t cs ws op := by unfold exS; rw [if_pos rfl]
  -- the end of a part that stands
  have good : ∀ (c : Int) (m1 : mm_V), exP T t cs ws op = .inr (cs ++ [c], ws, op, false) → mxR m1 q n T t tp (cs ++ [c]) ws → mxK q tp m m1 → (∀ k, k ≠ 25 → m1 q k = m q k) → (∀ b, b ≠ q → b ≠ q + 9 → m1 b = m b) → Ev (X12_part_b90 e q m1) (opO n T t (cs, ws, op, true) tp B q m) := by
    intro c m1 hs X1 K1 f1 o1
    unfold X12_part_b90 X12_part_b101
    simp only [LT, zI_neg]
    refine ev_eq (X12_isGood_1 hT X1.2.2.2.1) (ev_iqn rfl rfl (by omega) (ev_call (X12_goes_ev (m := m1) hT hN hv X1) ?_))
    rintro m2 ⟨X2, K2, g2, p2⟩
    rw [← hexS] at hs
    obtain ⟨hv', hb'⟩ := tok_V T (b := t.2.2) hv.2.1
    obtain ⟨hI', h0⟩ := exS_inv hI hv hs hb'
    refine ev_ret ⟨K1.trans K2, Or.inr ⟨tok T n t.2.2, _, _, _, exA_go hv hn hnoend hs, hv', hI', hop, X2, ?_, muT_next hv h0⟩⟩
    refine ⟨by rw [g2 _ (by omega), f1 _ (by omega)]; exact hM.1, fun j hj => by rw [p2 _ (by omega), o1 _ (by omega) (by omega)]; exact hM.2 j hj⟩
  have bad : ∀ (f : Nat) (m1 : mm_V), 1 ≤ f ∧ f ≤ 3 → exP T t cs ws op = .inl f → mjR m1 q f t.2.1 1500 → mxK q tp m m1 → Ev (X12_part_b90 e q m1) (opO n T t (cs, ws, op, true) tp B q m) := by
    intro f m1 hf hs J1 K1
    unfold X12_part_b90 X12_part_b101
    simp only [LT, zI_neg]
    rw [← hexS] at hs
    exact ev_eq (X12_isGood_0 hT J1.2.1 (by omega)) (ev_iqp rfl rfl (by omega) (ev_ret ⟨K1, Or.inl ⟨f, t, hf.1, hf.2, exA_bad hnoend hs, hv, J1⟩⟩))
  unfold X12_part
  simp only [LT, zI_neg]
  have t15 := hX.2.1.2.2.1
  have t17 := hX.2.1.2.2.2.2.1
  have v3 := hv.2.2.1
  refine ev_eq (X12_isGood_1 hT hX.2.2.2.1) (ev_inp rfl rfl (by omega) (ev_gi hT.me t15 ?_))
  by_cases h2 : t.1 = 2
  · have h48 := (tkC_2 hv).mpr h2
    have t18 := hX.2.1.2.2.2.2.2.1 h2
    have hbase : exP T t cs ws op = if 4 < t.2.2 - t.2.1 then .inl 2 else .inr (cs ++ [dv T t.2.1 (t.2.2 - t.2.1)], ws, op, false) := by
      unfold exP
      rw [if_neg (by omega), if_neg (by omega), if_neg h40, if_neg hnot, if_pos h48]
    refine ev_inn rfl rfl (by omega) (ev_gi hT.me t17 ?_)
    unfold X12_part_b29
    by_cases h4 : 4 < t.2.2 - t.2.1
    · rw [if_pos h4] at hbase
      refine ev_ien rfl rfl (by omega) (ev_call (X12_wrong_ev (f := 2) (K := 1300) hT hX hok (by omega) (by omega)) ?_)
      rintro m1 ⟨J1, K1, f1⟩
      refine ev_call (X12_puts_junk (tp := tp) hT J1 (by omega) ⟨_, by rw [f1 _ (by omega) (by omega)]; exact hX.2.2.2.2.1, by omega, by omega⟩) ?_
      rintro m2 ⟨J2, K2, p2, f2⟩
      refine ev_gi hT.me (by rw [f2 _ (by omega), f1 _ (by omega) (by omega)]; exact t18) (ev_call (X12_puts_junk (tp := tp) hT J2 (by omega) p2) ?_)
      rintro m3 ⟨J3, K3, p3, f3⟩
      obtain ⟨j1, j2, j3, k, w, j4, j5, j6, j7⟩ := J3
      exact bad 2 m3 (by omega) hbase ⟨j1, j2, j3, k, w, j4, j5, by omega, j7⟩ (K1.trans (K2.trans K3))
    · rw [if_neg h4] at hbase
      rw [show min (t.2.2 - t.2.1) 4 = t.2.2 - t.2.1 by omega] at t18
      have hd := dv_4 (T := T) (s := t.2.1) (k := t.2.2 - t.2.1) (by omega) (fun i hi => hv.2.2.2.2.2.2.1 h2 _ (by omega) (by omega))
      refine ev_iep rfl rfl (by omega) (ev_call (X12_puts_ev2 (c := dv T t.2.1 (t.2.2 - t.2.1)) (a := 1) (b := dv T t.2.1 (t.2.2 - t.2.1)) hT hX (by omega) (by unfold encC; rw [if_pos hd.1])) ?_)
      rintro m1 ⟨f1, E1⟩
      refine ev_gi hT.me (by rw [f1 _ (by omega)]; exact t18) (ev_call E1 ?_)
      rintro m2 ⟨X2, K2, f2, o2⟩
      exact good _ m2 hbase X2 K2 f2 o2
  refine ev_inp rfl rfl (by omega) (ev_gi hT.me t15 ?_)
  have h48 : tkC T t ≠ 48 := fun h => h2 ((tkC_2 hv).mp h)
  by_cases h1 : t.1 = 1
  · have h97 := (tkC_1 hv).mpr h1
    have hbase : exP T t cs ws op = if vcd T t = -21 then .inl 3 else .inr (cs ++ [vcd T t], ws, op, false) := by
      unfold exP
      rw [if_neg (by omega), if_neg (by omega), if_neg h40, if_neg hnot, if_neg h48]
    obtain ⟨z, z1, z2, z3, z4⟩ := X12_knownWord_eq (e := e) hT hX.2.1 hv hn hN
    have w0 := z4 0 (by omega)
    have w1 := z4 1 (by omega)
    have w2 := z4 2 (by omega)
    have w3 := z4 3 (by omega)
    have w4 := z4 4 (by omega)
    have w5 := z4 5 (by omega)
    simp only [mix, List.getD_cons_zero, List.getD_cons_succ] at w0 w1 w2 w3 w4 w5
    refine ev_inn rfl rfl (by omega) (ev_eq z1 ?_)
    have jk : ¬ (0 ≤ z ∧ z ≤ 5) → Ev (X12_part_b67 e q (zI z) m) (opO n T t (cs, ws, op, true) tp B q m) := by
      intro hz
      have hvc : vcd T t = -21 := by
        unfold vcd
        rw [if_neg (by rw [w0]; omega), if_neg (by rw [w1]; omega), if_neg (by rw [w2]; omega), if_neg (by rw [w3]; omega), if_neg (by rw [w4]; omega), if_neg (by rw [w5]; omega)]
      rw [if_pos hvc] at hbase
      unfold X12_part_b67 X12_part_b72
      simp only [LT, zI_neg]
      refine ev_call (X12_wrong_ev (f := 3) (K := 1300) hT hX hok (by omega) (by omega)) ?_
      rintro m1 ⟨J1, K1, f1⟩
      refine ev_call (X12_puts_junk (tp := tp) hT J1 (by omega) ⟨_, by rw [f1 _ (by omega) (by omega)]; exact hX.2.2.2.2.1, by omega, by omega⟩) ?_
      rintro m2 ⟨J2, K2, p2, f2⟩
      refine ev_call (X12_puts_junk (tp := tp) hT J2 (by omega) p2) ?_
      rintro m3 ⟨J3, K3, p3, f3⟩
      obtain ⟨j1, j2, j3, k, w, j4, j5, j6, j7⟩ := J3
      exact bad 3 m3 (by omega) hbase ⟨j1, j2, j3, k, w, j4, j5, by omega, j7⟩ (K1.trans (K2.trans K3))
    by_cases hz0 : z < 0
    · exact ev_ilp rfl rfl (by omega) (jk (by omega))
    refine ev_iln rfl rfl (by omega) ?_
    by_cases hz5 : z ≤ 5
    · refine ev_iep rfl rfl (by omega) ?_
      have hvc : vcd T t = -1 - z := by
        unfold vcd
        by_cases a0 : z = 0
        · rw [if_pos (w0.mpr a0), a0]; rfl
        rw [if_neg (by rw [w0]; omega)]
        by_cases a1 : z = 1
        · rw [if_pos (w1.mpr a1), a1]; rfl
        rw [if_neg (by rw [w1]; omega)]
        by_cases a2 : z = 2
        · rw [if_pos (w2.mpr a2), a2]; rfl
        rw [if_neg (by rw [w2]; omega)]
        by_cases a3 : z = 3
        · rw [if_pos (w3.mpr a3), a3]; rfl
        rw [if_neg (by rw [w3]; omega)]
        by_cases a4 : z = 4
        · rw [if_pos (w4.mpr a4), a4]; rfl
        rw [if_neg (by rw [w4]; omega), if_pos (w5.mpr (by omega))]; omega
      rw [if_neg (by omega)] at hbase
      unfold X12_part_b72
      simp only [LT, zI_neg]
      refine ev_call (X12_puts_ev2 (c := vcd T t) (a := 2) (b := z) hT hX (by omega) (by unfold encC; rw [if_neg (by omega), if_pos (by omega), hvc]; congr 2; omega)) ?_
      rintro m1 ⟨f1, E1⟩
      refine ev_call E1 ?_
      rintro m2 ⟨X2, K2, f2, o2⟩
      exact good _ m2 hbase X2 K2 f2 o2
    · exact ev_ien rfl rfl (by omega) (jk (by omega))
  · have h97 : tkC T t ≠ 97 := fun h => h1 ((tkC_1 hv).mp h)
    have hbase : exP T t cs ws op = .inl 1 := by unfold exP; rw [if_pos ⟨h48, h97, h40⟩]
    refine ev_inp rfl rfl (by omega) (ev_call (X12_wrong_ev (f := 1) (K := 1500) hT hX hok (by omega) (by omega)) ?_)
    rintro m1 ⟨J1, K1, f1⟩
    exact bad 1 m1 (by omega) hbase J1 K1
end OPER
