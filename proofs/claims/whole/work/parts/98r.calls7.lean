/-! CALLS: face, hold, peeped, habit. -/
theorem ev_yes {β : Type} {c : Prop} [Decidable c] {A B : Option β} {P : β → Prop} (hc : c) (h : Ev A P) : Ev (if c then A else B) P := by rw [if_pos hc]; exact h
theorem ev_no {β : Type} {c : Prop} [Decidable c] {A B : Option β} {P : β → Prop} (hc : ¬ c) (h : Ev B P) : Ev (if c then A else B) P := by rw [if_neg hc]; exact h
theorem ev_the {β : Type} {x : Option β} {v : β} (h : Ev x (fun y => y = v)) : x = some v := by
  obtain ⟨r, h1, h2⟩ := h
  rw [h1, h2]
theorem zL {n : Nat} (hn : n < 100000) : (zI n).toInt64 = lI n := by
  rw [← lI_of (zI n).toInt64, Int32.toInt_toInt64, zI_toInt (by omega) (by omega)]
theorem lI_mul (a b : Int) : lI a * lI b = lI (a * b) := (Int64.ofInt_mul a b).symm
theorem lI_ne {a : Int} (h0 : 0 < a) (h1 : a < 9223372036854775808) : lI a ≠ 0 := by
  intro h
  have h2 := congrArg Int64.toInt h
  unfold lI at h2
  rw [Int64.toInt_ofInt_of_le (by omega) (by omega)] at h2
  have : (0 : Int64).toInt = 0 := rfl
  omega
section CA7
variable {e : mm_E} {z t d q K : Nat} {C : CF} {G : GM} {M : MI}
/-! face -/
def fcA (n c w : Int) : Int32 ⊕ Nat := if 0 ≤ w ∧ w ≤ 4 then (if 2 ≤ n ∧ n ≤ 6 then (if 0 ≤ c ∧ c ≤ 100 then .inl (if w = 4 then (if zI c * (zI n - zI 1) < zI 100 - zI c then zI 1 else zI 0) else if 2 ≤ w then (frc (zI 100 - zI c).toInt64 (zI 100 * (zI n - zI 1)).toInt64 (decide (w = 2))).toInt32 else (frc (zI c).toInt64 100 (decide (w = 0))).toInt32) else .inr 2) else .inr 2) else .inr 1
theorem fc_low : ∀ n : Fin 5, (zI 100 * (zI ((n.val + 2 : Nat) : Int) - zI 1)).toInt64 ≠ 0 := by decide +kernel
theorem fc_low' {n : Int} (h : 2 ≤ n ∧ n ≤ 6) : (zI 100 * (zI n - zI 1)).toInt64 ≠ 0 := by
  have := fc_low ⟨(n - 2).toNat, by omega⟩
  have hn : (((n - 2).toNat + 2 : Nat) : Int) = n := by omega
  dsimp only at this
  rw [hn] at this
  exact this
theorem cl_face {m : mm_V} {n c w : Int} (hn : i32 n) (hc : i32 c) (hw : i32 w) (hT : icT e z) (h : IC e m z t d C G M) : Ev (X11_face e z (zI n) (zI c) (zI w) m) (clS (fcA n c w) e z t d C G M m) := by
  have hN := hT.2.2.2.2.2.2.2.2.2.2.2.2.2.2
  unfold i32 at hn hc hw
  unfold X11_face fcA
  simp only [LT, zI_neg]
  have bad1 : Ev (X11_face_b13 e (zI n) (zI c) (zI w) m) (clS (.inr 1) e z t d C G M m) := by
    unfold X11_face_b13 X11_face_b14
    simp only [LT, zI_neg]
    exact ev_bxx X11_need_0 rfl h (fun _ _ => rfl)
  have bad2 : Ev (X11_face_b32 e (zI n) (zI c) (zI w) m) (clS (.inr 2) e z t d C G M m) := by
    unfold X11_face_b32 X11_face_b33
    simp only [LT, zI_neg]
    exact ev_bxx X11_needA_0 rfl h (fun _ _ => rfl)
  have bad3 : Ev (X11_face_b50 e (zI n) (zI c) (zI w) m) (clS (.inr 2) e z t d C G M m) := by
    unfold X11_face_b50 X11_face_b51
    simp only [LT, zI_neg]
    exact ev_bxx X11_needA_0 rfl h (fun _ _ => rfl)
  by_cases w0 : w < 0
  · rw [if_neg (show ¬ (0 ≤ w ∧ w ≤ 4) by omega)]
    exact ev_ilp rfl rfl (by omega) bad1
  refine ev_iln rfl rfl (by omega) ?_
  by_cases w4 : 4 < w
  · rw [if_neg (show ¬ (0 ≤ w ∧ w ≤ 4) by omega)]
    exact ev_ilp rfl rfl (by omega) bad1
  rw [if_pos (show 0 ≤ w ∧ w ≤ 4 by omega)]
  refine ev_iln rfl rfl (by omega) ?_
  unfold X11_face_b14
  simp only [LT, zI_neg]
  refine ev_bx X11_need_1 ?_
  by_cases n2 : n < 2
  · rw [if_neg (show ¬ (2 ≤ n ∧ n ≤ 6) by omega)]
    exact ev_ilp rfl rfl (by omega) bad2
  refine ev_iln rfl rfl (by omega) ?_
  by_cases n6 : 6 < n
  · rw [if_neg (show ¬ (2 ≤ n ∧ n ≤ 6) by omega)]
    exact ev_ilp rfl rfl (by omega) bad2
  rw [if_pos (show 2 ≤ n ∧ n ≤ 6 by omega)]
  refine ev_iln rfl rfl (by omega) ?_
  unfold X11_face_b33
  simp only [LT, zI_neg]
  refine ev_bx X11_needA_1 ?_
  by_cases c0 : c < 0
  · rw [if_neg (show ¬ (0 ≤ c ∧ c ≤ 100) by omega)]
    exact ev_ilp rfl rfl (by omega) bad3
  refine ev_iln rfl rfl (by omega) ?_
  by_cases c100 : 100 < c
  · rw [if_neg (show ¬ (0 ≤ c ∧ c ≤ 100) by omega)]
    exact ev_ilp rfl rfl (by omega) bad3
  rw [if_pos (show 0 ≤ c ∧ c ≤ 100 by omega)]
  refine ev_iln rfl rfl (by omega) ?_
  unfold X11_face_b51 X11_face_b123 X11_face_b96 X11_face_b76
  simp only [LT, zI_neg]
  have hl := fc_low' (n := n) (by omega)
  have hh : (100 : Int64) ≠ 0 := by decide
  refine ev_bx X11_needA_1 ?_
  by_cases w4' : w = 4
  · rw [if_pos w4']
    refine ev_inn rfl rfl (by omega) ?_
    by_cases hcc : zI c * (zI n - zI 1) < zI 100 - zI c
    · rw [if_pos hcc, if_pos hcc]; exact ev_cl rfl h (fun _ _ => rfl)
    · rw [if_neg hcc, if_neg hcc]; exact ev_cl rfl h (fun _ _ => rfl)
  rw [if_neg w4']
  refine ev_inp rfl rfl (by omega) ?_
  by_cases w2 : 2 ≤ w
  · rw [if_pos w2]
    refine ev_iep rfl rfl (by omega) ?_
    by_cases w2' : w = 2
    · rw [decide_eq_true w2']
      exact ev_inn rfl rfl (by omega) (ev_eq (show X11_lowest e _ _ (zI 1) m = _ from X11_lowest_eq hl true (by omega)) (ev_cl rfl h (fun _ _ => rfl)))
    · rw [decide_eq_false w2']
      exact ev_inp rfl rfl (by omega) (ev_eq (show X11_lowest e _ _ (zI 0) m = _ from X11_lowest_eq hl false (by omega)) (ev_cl rfl h (fun _ _ => rfl)))
  · rw [if_neg w2]
    refine ev_ien rfl rfl (by omega) ?_
    by_cases w0' : w = 0
    · rw [decide_eq_true w0']
      exact ev_inn rfl rfl (by omega) (ev_eq (show X11_lowest e _ _ (zI 1) m = _ from X11_lowest_eq hh true (by omega)) (ev_cl rfl h (fun _ _ => rfl)))
    · rw [decide_eq_false w0']
      exact ev_inp rfl rfl (by omega) (ev_eq (show X11_lowest e _ _ (zI 0) m = _ from X11_lowest_eq hh false (by omega)) (ev_cl rfl h (fun _ _ => rfl)))
theorem ml_face {m : mm_V} {n c w : Int} (hn : i32 n) (hc : i32 c) (hw : i32 w) (hT : imT e q) (h : IM e m q C G M) : Ev (X12_face e q (zI n) (zI c) (zI w) m) (mlS (fcA n c w) e q C G M m) := by
  have hN := hT.2.1
  have hT := hT.1
  have h0 := h.th (zI 0)
  have z0 : (mm_up m q 0 (.int (zI 0))) q 0 = .int (zI 0) := up_at _ _ _ _
  have fr : ∀ b, (b < q ∨ q + 40 ≤ b) → (mm_up m q 0 (.int (zI 0))) b = m b := fr_th
  unfold X12_face X12_face_b47 fcA
  simp only [LT, zI_neg]
  refine ev_pf hT.me ?_
  generalize mm_up m q 0 (.int (zI 0)) = m0 at h0 z0 fr
  have bad : ∀ {A : Int32 ⊕ Nat} {k : Nat} (v : Int32), A = .inr k → Ev (some (v, mm_up m0 q 0 (.int (zI k)))) (mlS A e q C G M m) := fun v hA => ev_mlx hA (up_at _ _ _ _) (h0.th _) (fun b hb => by rw [up_row _ _ _ (by omega)]; exact fr b hb)
  have bad2 : Ev (X12_face_b39 e (zI n) (zI c) (zI w) q m0) (mlS (.inr 2) e q C G M m) := by
    unfold X12_face_b39 X12_face_b40 X12_face_b47
    simp only [LT, zI_neg]
    exact ev_tg hT.me (ev_eq (X12_right_0 hT z0 (by decide)) (ev_inn (x := 0) (y := 0) rfl rfl (by omega) (bad _ rfl)))
  by_cases hw4 : 0 ≤ w ∧ w ≤ 4
  · rw [if_pos hw4]
    refine ev_eq (X12_isWhat_1 hw ⟨by omega, by omega⟩ hT z0 hw4) (ev_iqn (x := 1) (y := 0) rfl rfl (by omega) (ev_eq (X12_within_eq hn ⟨by omega, by omega⟩ ⟨by omega, by omega⟩) ?_))
    dsimp only
    by_cases hn2 : 2 ≤ n ∧ n ≤ 6
    · rw [if_pos hn2, decide_eq_true hn2]
      refine ev_iqn (x := 1) (y := 0) rfl rfl (by omega) (ev_eq (X12_within_eq hc ⟨by omega, by omega⟩ ⟨by omega, by omega⟩) ?_)
      dsimp only
      by_cases hc0 : 0 ≤ c ∧ c ≤ 100
      · rw [if_pos hc0, decide_eq_true hc0]
        refine ev_iqn (x := 1) (y := 0) rfl rfl (by omega) ?_
        unfold X12_face_b40 X12_face_b111
        simp only [LT, zI_neg]
        have hl := fc_low' hn2
        have hh : (100 : Int64) ≠ 0 := by decide
        refine ev_tg hT.me (ev_eq (X12_right_1 hT z0) (ev_inp (x := 1) (y := 0) rfl rfl (by omega) ?_))
        by_cases w4' : w = 4
        · rw [if_pos w4']
          refine ev_iep rfl rfl (by omega) (ev_iep rfl rfl (by omega) ?_)
          by_cases hcc : zI c * (zI n - zI 1) < zI 100 - zI c
          · rw [if_pos hcc, if_pos hcc]; exact ev_ml rfl z0 h0 fr
          · rw [if_neg hcc, if_neg hcc]; exact ev_ml rfl z0 h0 fr
        rw [if_neg w4']
        by_cases w2 : 2 ≤ w
        · rw [if_pos w2]
          refine ev_iep rfl rfl (by omega) (ev_ien rfl rfl (by omega) ?_)
          have hu : (zI w - zI 2 : Int32) = bZ (!decide (w = 2)) := by
            by_cases hx : w = 2
            · rw [hx]; rfl
            · rw [show w = 3 by omega]; rfl
          rw [hu]
          exact ev_eq (X12_portion_eq hl _ (by omega)) (ev_ml rfl z0 h0 fr)
        · rw [if_neg w2]
          refine ev_ien rfl rfl (by omega) ?_
          have hu : (zI w : Int32) = bZ (!decide (w = 0)) := by
            by_cases hx : w = 0
            · rw [hx]; rfl
            · rw [show w = 1 by omega]; rfl
          rw [hu]
          exact ev_eq (X12_portion_eq hh _ (by omega)) (ev_ml rfl z0 h0 fr)
      · rw [if_neg hc0, decide_eq_false hc0]
        exact ev_iqp (x := 0) (y := 0) rfl rfl (by omega) bad2
    · rw [if_neg hn2, decide_eq_false hn2]
      exact ev_iqp (x := 0) (y := 0) rfl rfl (by omega) bad2
  · rw [if_neg hw4]
    exact ev_eq (X12_isWhat_0 hw ⟨by omega, by omega⟩ hT z0 hw4) (ev_iqp (x := 0) (y := 0) rfl rfl (by omega) (bad _ rfl))
/-! hold -/
def hoS (W : Nat → Nat) : Nat → Nat → Nat × Nat → Nat × Nat
  | 0, _, X => X
  | j + 1, i, X => hoS W j (i + 1) (if W i ≤ W X.1 then X.1 else i, X.2 + W i)
def hoW (C : CF) (a : Int) (j : Nat) : Nat := C.2.2.2.2 (6 * a.toNat + j)
def hoV (W : Nat → Nat) (w : Int) (X : Nat × Nat) : Int32 := if w = 0 then zI X.1 else if X.2 = 0 then (if w = 1 then zI 0 else zI 1) else (frc (zI (W X.1)).toInt64 (zI X.2).toInt64 (decide (w = 1))).toInt32
def hoA (C : CF) (a b w : Int) : Int32 ⊕ Nat := if 0 ≤ a ∧ a < C.1 then (if 0 ≤ w ∧ w ≤ 2 then (if 1 ≤ b ∧ b ≤ 6 then .inl (hoV (hoW C a) w (hoS (hoW C a) b.toNat 0 (0, 0))) else .inr 2) else .inr 1) else .inr 1
theorem fr_01 : (frc (zI (0 : Nat)).toInt64 1 true).toInt32 = zI 0 ∧ (frc (zI (0 : Nat)).toInt64 1 false).toInt32 = zI 1 := by decide +kernel
theorem cl_hold_loop {m m0 : mm_V} {A : Int32 ⊕ Nat} {p n : Nat} {w : Int} (hw : 0 ≤ w ∧ w ≤ 2) (hn1 : 1 ≤ n) (hn : n ≤ 6) (hpN : p < C.1) (hT : icT e z) (hp : pureI C G M K) (h : IC e m z t d C G M) (hf : ∀ b, (b < z ∨ z + 402 ≤ b) → m b = m0 b) (hA : A = .inl (hoV (hoW C (p : Int)) w (hoS (hoW C (p : Int)) n 0 (0, 0)))) : ∀ (j i nn : Nat) (X : Nat × Nat), i + j = n → j < nn → hoS (hoW C (p : Int)) j i X = hoS (hoW C (p : Int)) n 0 (0, 0) → X.1 ≤ i → X.1 < 6 → X.2 ≤ 99 * i → (i = 0 ∨ hoW C (p : Int) X.1 ≤ X.2) → Ev (X11_hold_L50 e z (zI p) (zI n) (zI w) nn (zI X.1) (zI X.2) (zI i) m) (clS A e z t d C G M m0) := by
  have h6 := hp.1.2.1
  have hC := h.2.2.2.1
  have E := hC.1
  have hF := h.2.1
  have hN := hT.2.2.2.2.2.2.2.2.2.2.2.2.2.2
  have hW : ∀ i, hoW C (p : Int) i ≤ 99 := fun i => hp.1.2.2.2.2.2 _
  have hr : ∀ k : Nat, k < 6 → X10_weight e t (zI p) (zI k) m = some (zI (hoW C (p : Int) k), m) := fun k hk => by
    have := X10_weight_eq (e := e) E.1 E.2.1.2.1 (hC.2.2.1 (6 * p + k) (by omega)) (show p < 6 by omega) hk
    rw [this]
    unfold hoW
    rw [Int.toNat_natCast]
  intro j
  induction j with
  | zero =>
    intro i nn X hi hnn hh x1 x2 x3 x4
    obtain ⟨nn, rfl⟩ : ∃ n', nn = n' + 1 := ⟨nn - 1, by omega⟩
    rw [X11_hold_L50]
    unfold X11_hold_b139 X11_hold_b149
    simp only [LT, zI_neg]
    rw [← hh, hoS] at hA
    unfold hoV at hA
    refine ev_iep rfl rfl (by omega) ?_
    by_cases w0 : w = 0
    · rw [if_pos w0] at hA
      exact ev_inn rfl rfl (by omega) (ev_cl hA h hf)
    rw [if_neg w0] at hA
    refine ev_inp rfl rfl (by omega) (ev_gr hT.1 hF.1.2.1 (ev_tg E.1.1 (ev_eq (hr X.1 x2) ?_)))
    by_cases s0 : X.2 = 0
    · rw [if_pos s0] at hA
      have hz : hoW C (p : Int) X.1 = 0 := by
        rcases x4 with x4 | x4
        · omega
        · omega
      dsimp only
      rw [hz]
      have y1 : X11_lowest e (zI (0 : Nat)).toInt64 1 (zI 1) m = some (frc (zI (0 : Nat)).toInt64 1 true, m) := X11_lowest_eq (by decide) true (by omega)
      have y0 : X11_lowest e (zI (0 : Nat)).toInt64 1 (zI 0) m = some (frc (zI (0 : Nat)).toInt64 1 false, m) := X11_lowest_eq (by decide) false (by omega)
      refine ev_inn rfl rfl (by omega) ?_
      by_cases w1 : w = 1
      · rw [if_pos w1] at hA
        exact ev_inn rfl rfl (by omega) (ev_eq y1 (ev_cl (by rw [hA]; exact congrArg Sum.inl fr_01.1.symm) h hf))
      · rw [if_neg w1] at hA
        exact ev_inp rfl rfl (by omega) (ev_eq y0 (ev_cl (by rw [hA]; exact congrArg Sum.inl fr_01.2.symm) h hf))
    · rw [if_neg s0] at hA
      have hl : (zI (X.2 : Int)).toInt64 ≠ 0 := by rw [zL (by omega)]; exact lI_ne (by omega) (by omega)
      refine ev_inp rfl rfl (by omega) ?_
      dsimp only
      by_cases w1 : w = 1
      · rw [decide_eq_true w1] at hA
        exact ev_inn rfl rfl (by omega) (ev_eq (show X11_lowest e _ _ (zI 1) m = _ from X11_lowest_eq hl true (by omega)) (ev_cl hA h hf))
      · rw [decide_eq_false w1] at hA
        exact ev_inp rfl rfl (by omega) (ev_eq (show X11_lowest e _ _ (zI 0) m = _ from X11_lowest_eq hl false (by omega)) (ev_cl hA h hf))
  | succ j ih =>
    intro i nn X hi hnn hh x1 x2 x3 x4
    obtain ⟨nn, rfl⟩ : ∃ n', nn = n' + 1 := ⟨nn - 1, by omega⟩
    rw [hoS] at hh
    have hWi := hW i
    have hWb := hW X.1
    rw [X11_hold_L50]
    unfold X11_hold_b101
    simp only [LT, zI_neg]
    refine ev_ien rfl rfl (by omega) (ev_gr hT.1 hF.1.2.1 (ev_tg E.1.1 (ev_eq (hr i (by omega)) (ev_gr hT.1 hF.1.2.1 (ev_tg E.1.1 (ev_eq (hr i (by omega)) (ev_gr hT.1 hF.1.2.1 (ev_tg E.1.1 (ev_eq (hr X.1 x2) ?_)))))))))
    dsimp only
    rw [show (zI (i : Int) + zI 1 : Int32) = zI ((i + 1 : Nat) : Int) from zI_add _ _, show (zI (X.2 : Int) + zI (hoW C (p : Int) i : Nat) : Int32) = zI ((X.2 + hoW C (p : Int) i : Nat) : Int) from zI_add _ _]
    by_cases hc : hoW C (p : Int) i ≤ hoW C (p : Int) X.1
    · rw [if_pos hc] at hh
      refine ev_iep rfl rfl (by omega) (ih (i + 1) nn (X.1, X.2 + hoW C (p : Int) i) (by omega) (by omega) hh (by simp only; omega) x2 (by simp only; omega) (Or.inr ?_))
      dsimp only
      rcases x4 with x4 | x4
      · rw [show X.1 = i by omega]; omega
      · omega
    · rw [if_neg hc] at hh
      refine ev_ien rfl rfl (by omega) (ih (i + 1) nn (i, X.2 + hoW C (p : Int) i) (by omega) (by omega) hh (by simp only; omega) (by simp only; omega) (by simp only; omega) (Or.inr ?_))
      dsimp only
      omega
theorem cl_hold {m : mm_V} {a b w : Int} (ha : i32 a) (hb : i32 b) (hw : i32 w) (hT : icT e z) (hp : pureI C G M K) (h : IC e m z t d C G M) : Ev (X11_hold e z (zI a) (zI b) (zI w) m) (clS (hoA C a b w) e z t d C G M m) := by
  have hN := hT.2.2.2.2.2.2.2.2.2.2.2.2.2.2
  have h6 := hp.1.2.1
  unfold i32 at hb hw
  unfold X11_hold hoA
  simp only [LT, zI_neg]
  by_cases hpn : 0 ≤ a ∧ a < C.1
  · rw [if_pos hpn]
    refine ev_bx (needPerson_1 ha hT h h6 hpn) ?_
    obtain ⟨p, rfl⟩ : ∃ p : Nat, a = p := ⟨a.toNat, by omega⟩
    have bad : Ev (X11_hold_b18 e z (zI p) (zI b) (zI w) m) (clS (.inr 1) e z t d C G M m) := by
      unfold X11_hold_b18 X11_hold_b19
      simp only [LT, zI_neg]
      exact ev_bxx X11_need_0 rfl h (fun _ _ => rfl)
    have bad2 : Ev (X11_hold_b37 e z (zI p) (zI b) (zI w) m) (clS (.inr 2) e z t d C G M m) := by
      unfold X11_hold_b37 X11_hold_b38
      simp only [LT, zI_neg]
      exact ev_bxx X11_needA_0 rfl h (fun _ _ => rfl)
    by_cases w0 : w < 0
    · rw [if_neg (show ¬ (0 ≤ w ∧ w ≤ 2) by omega)]
      exact ev_ilp rfl rfl (by omega) bad
    refine ev_iln rfl rfl (by omega) ?_
    by_cases w5 : 2 < w
    · rw [if_neg (show ¬ (0 ≤ w ∧ w ≤ 2) by omega)]
      exact ev_ilp rfl rfl (by omega) bad
    rw [if_pos (show 0 ≤ w ∧ w ≤ 2 by omega)]
    refine ev_iln rfl rfl (by omega) ?_
    unfold X11_hold_b19
    simp only [LT, zI_neg]
    refine ev_bx X11_need_1 ?_
    by_cases b0 : b < 1
    · rw [if_neg (show ¬ (1 ≤ b ∧ b ≤ 6) by omega)]
      exact ev_ilp rfl rfl (by omega) bad2
    refine ev_iln rfl rfl (by omega) ?_
    by_cases b6 : 6 < b
    · rw [if_neg (show ¬ (1 ≤ b ∧ b ≤ 6) by omega)]
      exact ev_ilp rfl rfl (by omega) bad2
    rw [if_pos (show 1 ≤ b ∧ b ≤ 6 by omega)]
    refine ev_iln rfl rfl (by omega) ?_
    unfold X11_hold_b38
    simp only [LT, zI_neg]
    obtain ⟨n, rfl⟩ : ∃ n : Nat, b = n := ⟨b.toNat, by omega⟩
    rw [Int.toNat_natCast]
    exact ev_bx X11_needA_1 (cl_hold_loop (n := n) (p := p) (w := w) (by omega) (by omega) (by omega) (by omega) hT hp h (fun _ _ => rfl) rfl n 0 e.2.2 (0, 0) (by omega) (by omega) rfl (by simp) (by simp) (by simp) (Or.inl rfl))
  · rw [if_neg hpn]
    exact ev_bxx (needPerson_0 ha hT h h6 hpn) rfl h (fun _ _ => rfl)
theorem ml_hold_loop {m m0 : mm_V} {A : Int32 ⊕ Nat} {p n : Nat} {w : Int} (hw : 0 ≤ w ∧ w ≤ 2) (hn1 : 1 ≤ n) (hn : n ≤ 6) (hpN : p < C.1) (hT : imT e q) (hp : pureI C G M K) (h : IM e m q C G M) (z0 : m q 0 = .int (zI 0)) (hf : ∀ b, (b < q ∨ q + 40 ≤ b) → m b = m0 b) (hA : A = .inl (hoV (hoW C (p : Int)) w (hoS (hoW C (p : Int)) n 0 (0, 0)))) : ∀ (j i nn : Nat) (X : Nat × Nat), i + j = n → j < nn → hoS (hoW C (p : Int)) j i X = hoS (hoW C (p : Int)) n 0 (0, 0) → X.1 ≤ i → X.1 < 6 → X.2 ≤ 99 * i → Ev (X12_hold_L48 e q (zI p) (zI n) (zI w) nn (zI X.1) (zI X.2) (zI i) m) (mlS A e q C G M m0) := by
  have h6 := hp.1.2.1
  have hN := hT.2.1
  have hT := hT.1
  have S := h.1.2.1
  have hW : ∀ i, hoW C (p : Int) i ≤ 99 := fun i => hp.1.2.2.2.2.2 _
  have hv : ∀ k : Nat, k < 6 → m (q + 2) (6 * p + k) = .int (zI (hoW C (p : Int) k)) := fun k hk => by
    rw [h.2.2.1.2.2.2.1 _ (by omega)]
    unfold hoW
    rw [Int.toNat_natCast]
  have hix : ∀ k : Nat, (zI 6 * zI p + zI k : Int32) = zI ((6 * p + k : Nat) : Int) := fun k => by
    rw [zI_mul, zI_add]; congr 1
  intro j
  induction j with
  | zero =>
    intro i nn X hi hnn hh x1 x2 x3
    obtain ⟨nn, rfl⟩ : ∃ n', nn = n' + 1 := ⟨nn - 1, by omega⟩
    rw [X12_hold_L48]
    unfold X12_hold_b140
    simp only [LT, zI_neg]
    rw [← hh, hoS] at hA
    unfold hoV at hA
    refine ev_iep rfl rfl (by omega) ?_
    by_cases w0 : w = 0
    · rw [if_pos w0] at hA
      exact ev_inn rfl rfl (by omega) (ev_ml hA z0 h hf)
    rw [if_neg w0] at hA
    refine ev_inp rfl rfl (by omega) (ev_gr hT.me S.habits_ (ev_ai (6 * p + X.1) hT.habits_ (hix X.1) (by omega) (by omega) (hv X.1 x2) ?_))
    by_cases s0 : X.2 = 0
    · rw [if_pos s0] at hA
      rw [s0, show (zI ((0 : Nat) : Int)).toInt64 = 0 from rfl]
      by_cases w1 : w = 1
      · rw [if_pos w1] at hA
        rw [w1]
        exact ev_eq (X12_portion_0 _) (ev_ml (by rw [hA]; rfl) z0 h hf)
      · rw [if_neg w1] at hA
        rw [show w = 2 by omega]
        exact ev_eq (X12_portion_0 _) (ev_ml (by rw [hA]; rfl) z0 h hf)
    · rw [if_neg s0] at hA
      have hl : (zI (X.2 : Int)).toInt64 ≠ 0 := by rw [zL (by omega)]; exact lI_ne (by omega) (by omega)
      have hu : (zI w - zI 1 : Int32) = bZ (!decide (w = 1)) := by
        by_cases hx : w = 1
        · rw [hx]; rfl
        · rw [show w = 2 by omega]; rfl
      rw [hu]
      exact ev_eq (X12_portion_eq hl _ (by omega)) (ev_ml hA z0 h hf)
  | succ j ih =>
    intro i nn X hi hnn hh x1 x2 x3
    obtain ⟨nn, rfl⟩ : ∃ n', nn = n' + 1 := ⟨nn - 1, by omega⟩
    rw [hoS] at hh
    have hWi := hW i
    have hWb := hW X.1
    rw [X12_hold_L48]
    unfold X12_hold_b102
    simp only [LT, zI_neg]
    refine ev_ien rfl rfl (by omega) (ev_gr hT.me S.habits_ (ev_ai (6 * p + i) hT.habits_ (hix i) (by omega) (by omega) (hv i (by omega)) (ev_gr hT.me S.habits_ (ev_ai (6 * p + i) hT.habits_ (hix i) (by omega) (by omega) (hv i (by omega)) (ev_gr hT.me S.habits_ (ev_ai (6 * p + X.1) hT.habits_ (hix X.1) (by omega) (by omega) (hv X.1 x2) ?_))))))
    rw [show (zI (i : Int) + zI 1 : Int32) = zI ((i + 1 : Nat) : Int) from zI_add _ _, show (zI (X.2 : Int) + zI (hoW C (p : Int) i : Nat) : Int32) = zI ((X.2 + hoW C (p : Int) i : Nat) : Int) from zI_add _ _]
    by_cases hc : hoW C (p : Int) i ≤ hoW C (p : Int) X.1
    · rw [if_pos hc] at hh
      exact ev_iep rfl rfl (by omega) (ih (i + 1) nn (X.1, X.2 + hoW C (p : Int) i) (by omega) (by omega) hh (by simp only; omega) x2 (by simp only; omega))
    · rw [if_neg hc] at hh
      exact ev_ien rfl rfl (by omega) (ih (i + 1) nn (i, X.2 + hoW C (p : Int) i) (by omega) (by omega) hh (by simp only; omega) (by simp only; omega) (by simp only; omega))
theorem ml_hold {m : mm_V} {a b w : Int} (ha : i32 a) (hb : i32 b) (hw : i32 w) (hT : imT e q) (hp : pureI C G M K) (h : IM e m q C G M) : Ev (X12_hold e q (zI a) (zI b) (zI w) m) (mlS (hoA C a b w) e q C G M m) := by
  have hTT := hT
  have hN := hT.2.1
  have hT := hT.1
  have h6 := hp.1.2.1
  have h0 := h.th (zI 0)
  have z0 : (mm_up m q 0 (.int (zI 0))) q 0 = .int (zI 0) := up_at _ _ _ _
  have fr : ∀ b, (b < q ∨ q + 40 ≤ b) → (mm_up m q 0 (.int (zI 0))) b = m b := fr_th
  unfold X12_hold X12_hold_b37 hoA
  simp only [LT, zI_neg]
  refine ev_pf hT.me ?_
  generalize mm_up m q 0 (.int (zI 0)) = m0 at h0 z0 fr
  obtain ⟨g1, -⟩ := id h0
  have bad : ∀ {A : Int32 ⊕ Nat} {k : Nat} (v : Int32), A = .inr k → Ev (some (v, mm_up m0 q 0 (.int (zI k)))) (mlS A e q C G M m) := fun v hA => ev_mlx hA (up_at _ _ _ _) (h0.th _) (fun b hb => by rw [up_row _ _ _ (by omega)]; exact fr b hb)
  by_cases hpn : 0 ≤ a ∧ a < C.1
  · rw [if_pos hpn]
    refine ev_eq (X12_isPerson_1 ha hT z0 g1.2.2.1 h6 hpn) (ev_iqn (x := 1) (y := 0) rfl rfl (by omega) ?_)
    obtain ⟨p, rfl⟩ : ∃ p : Nat, a = p := ⟨a.toNat, by omega⟩
    by_cases hw2 : 0 ≤ w ∧ w ≤ 2
    · rw [if_pos hw2]
      refine ev_eq (X12_isWhat_1 hw ⟨by omega, by omega⟩ hT z0 hw2) (ev_iqn (x := 1) (y := 0) rfl rfl (by omega) (ev_eq (X12_within_eq hb ⟨by omega, by omega⟩ ⟨by omega, by omega⟩) ?_))
      dsimp only
      by_cases hb6 : 1 ≤ b ∧ b ≤ 6
      · rw [if_pos hb6, decide_eq_true hb6]
        obtain ⟨n, rfl⟩ : ∃ n : Nat, b = n := ⟨b.toNat, by omega⟩
        rw [Int.toNat_natCast]
        exact ev_eq (X12_right_1 hT z0) (ev_inp (x := 1) (y := 0) rfl rfl (by omega) (ml_hold_loop (n := n) (p := p) (w := w) hw2 (by omega) (by omega) (by omega) hTT hp h0 z0 fr rfl n 0 e.2.2 (0, 0) (by omega) (by omega) rfl (by simp) (by simp) (by simp)))
      · rw [if_neg hb6, decide_eq_false hb6]
        exact ev_eq (X12_right_0 hT z0 (by decide)) (ev_inn (x := 0) (y := 0) rfl rfl (by omega) (bad _ rfl))
    · rw [if_neg hw2]
      exact ev_eq (X12_isWhat_0 hw ⟨by omega, by omega⟩ hT z0 hw2) (ev_iqp (x := 0) (y := 0) rfl rfl (by omega) (bad _ rfl))
  · rw [if_neg hpn]
    exact ev_eq (X12_isPerson_0 ha hT z0 g1.2.2.1 h6 hpn) (ev_iqp (x := 0) (y := 0) rfl rfl (by omega) (bad _ rfl))
end CA7
