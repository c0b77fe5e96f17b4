/-! EXPRESSIONS of the model: the whole. -/
/-- how an expression ends in the model: a fault that is noted, or one that the line's end will note, or none -/
def xpO (n : Nat) (T : Nat → Nat) (R : Nat × TK × List Int) (tp B q : Nat) (m m' : mm_V) : Prop := mxK q 0 m m' ∧ R.1 ≤ 3 ∧ tkV T n R.2.1 ∧ ((1 ≤ R.1 ∧ modS m' q ∧ m' q 10 = .int (zI R.1) ∧ m' q 11 = .int (zI R.2.1.2.1)) ∨ (modS m' q ∧ m' q 10 = .int (zI 0) ∧ tkM m' q n T R.2.1 ∧ txR m' (q + 4) n T ∧ ((R.1 = 1 ∧ tkC T R.2.1 ≠ 59) ∨ (R.1 = 0 ∧ tkC T R.2.1 = 59 ∧ wfc R.2.2 0 ∧ B + R.2.2.length ≤ R.2.1.2.1 ∧ (∀ j, j < tp → m' (q + 9) j = m (q + 9) j) ∧ m' q 25 = .int (zI (tp + (enc R.2.2).length : Nat)) ∧ ∀ (i : Nat) (c : Int), (enc R.2.2)[i]? = some c → m' (q + 9) (tp + i) = .int (zI c)))))
section XPR
variable {e : mm_E} {q n tp B : Nat} {T : Nat → Nat}
theorem X12_drops_junk (hT : modT e.1 q) : ∀ (w nn k f pl : Nat) (m : mm_V), w ≤ 100 → w < nn → modS m q → m q 10 = .int (zI f) → m q 11 = .int (zI pl) → m q 25 = .int (zI k) → m q 26 = .int (zI w) → tp ≤ k → k + w ≤ 1595 → (∀ i, i < w → ∃ v : Int, m (q + 10) i = .int (zI v) ∧ 0 ≤ v ∧ v < 100) → Ev (X12_drops_L0 e q (zI 0) nn m) (fun m' => mxK q tp m m' ∧ modS m' q ∧ m' q 10 = .int (zI f) ∧ m' q 11 = .int (zI pl) ∧ ∃ k' : Nat, m' q 25 = .int (zI k') ∧ tp ≤ k' ∧ k' ≤ 1595) := by
  intro w
  induction w with
  | zero =>
    intro nn k f pl m hw100 hn hS h10 h11 h25 h26 htk hb hi
    obtain ⟨nn, rfl⟩ : ∃ n', nn = n' + 1 := ⟨nn - 1, by omega⟩
    rw [X12_drops_L0]
    simp only [LT, zI_neg]
    exact ev_gi hT.me h26 (ev_iep rfl rfl (by omega) (ev_ret ⟨mxK.refl _ _ _, hS, h10, h11, k, h25, htk, by omega⟩))
  | succ w ih =>
    intro nn k f pl m hw100 hn hS h10 h11 h25 h26 htk hb hi
    obtain ⟨nn, rfl⟩ : ∃ n', nn = n' + 1 := ⟨nn - 1, by omega⟩
    obtain ⟨v, v1, v2, v3⟩ := hi w (by omega)
    rw [X12_drops_L0]
    simp only [LT, zI_neg]
    have done : Ev (X12_drops_b68 e m) (fun m' => mxK q tp m m' ∧ modS m' q ∧ m' q 10 = .int (zI f) ∧ m' q 11 = .int (zI pl) ∧ ∃ k' : Nat, m' q 25 = .int (zI k') ∧ tp ≤ k' ∧ k' ≤ 1595) := ev_ret ⟨mxK.refl _ _ _, hS, h10, h11, k, h25, htk, by omega⟩
    refine ev_gi hT.me h26 (ev_ien rfl rfl (by omega) (ev_gr hT.me hS.waits_ (ev_gi hT.me h26 (ev_ai w hT.waits_ (by rw [zI_sub]; congr 1; omega) (by omega) (by omega) v1 ?_))))
    have ho : X12_isOpen e (zI v) m = some (bZ (decide (14 ≤ v)), m) := by
      unfold X12_isOpen X12_isOpen_b11
      simp only [LT, zI_neg]
      by_cases h : 14 ≤ v
      · rw [iln (by omega), decide_eq_true h]; rfl
      · rw [ilp (by omega), decide_eq_false h]; rfl
    refine ev_eq ho (ev_bn (fun _ => ?_) (fun _ => done))
    have hst : ∃ s : Int, X12_strength e (zI v) m = some (zI s, m) ∧ 0 ≤ s ∧ s ≤ 6 := by
      unfold X12_strength X12_strength_b61 X12_strength_b55 X12_strength_b39
      simp only [LT, zI_neg]
      have : ∀ s : Int, 0 ≤ s ∧ s ≤ 6 → ∃ s' : Int, some (zI s, m) = some (zI s', m) ∧ 0 ≤ s' ∧ s' ≤ 6 := fun s h => ⟨s, rfl, h⟩
      (repeat' split) <;> exact this _ (by omega)
    obtain ⟨s, s1, s2, s3⟩ := hst
    refine ev_gr hT.me hS.waits_ (ev_gi hT.me h26 (ev_ai w hT.waits_ (by rw [zI_sub]; congr 1; omega) (by omega) (by omega) v1 (ev_eq s1 (ev_iln rfl rfl (by omega) (ev_gi hT.me h26 (ev_pf hT.me ?_))))))
    dsimp only
    rw [zI_sub, show (((w + 1 : Nat) : Int) - 1) = (w : Int) by omega]
    generalize hm1 : mm_up m q 26 (.int (zI (w : Int))) = m1
    have o1 : ∀ b, b ≠ q → m1 b = m b := fun b h => by rw [← hm1, up_row _ _ _ h]
    have f1 : ∀ k, k ≠ 26 → m1 q k = m q k := fun k h => by rw [← hm1, up_ne _ _ (Or.inr h)]
    have S1 : modS m1 q := by rw [← hm1]; exact hS.up (by decide)
    refine ev_gr hT.me S1.waits_ (ev_gi hT.me (v := zI (w : Int)) (by rw [← hm1, up_at]) (ev_ai w hT.waits_ rfl (by omega) (by omega) (by rw [o1 _ (by omega)]; exact v1) (ev_eq (X12_puts_eq hT S1 (by rw [f1 _ (by omega)]; exact h25) (by omega)) ?_)))
    generalize hm2 : mm_up (mm_up m1 (q + 9) k (.int (zI v))) q 25 (.int (zI (k + 1 : Nat))) = m2
    have o2 : ∀ b, b ≠ q → b ≠ q + 9 → m2 b = m b := fun b h1 h2 => by rw [← hm2, up_row _ _ _ h1, up_row _ _ _ h2, o1 b h1]
    have f2 : ∀ k, k ≠ 25 → k ≠ 26 → m2 q k = m q k := fun k h1 h2 => by rw [← hm2, up_ne _ _ (Or.inr h1), up_row _ _ _ (by omega), f1 k h2]
    refine ev_mono (ih nn (k + 1) f pl m2 (by omega) (by omega) (by rw [← hm2]; exact (S1.row (up_row _ _ _ (by omega))).up (by decide)) (by rw [f2 _ (by omega) (by omega)]; exact h10) (by rw [f2 _ (by omega) (by omega)]; exact h11) (by rw [← hm2, up_at]) (by rw [← hm2, up_ne _ _ (by omega), up_row _ _ _ (by omega), ← hm1, up_at]) (by omega) (by omega) (fun i hi' => by rw [o2 _ (by omega) (by omega)]; exact hi i (by omega))) ?_
    rintro m3 ⟨z1, z2⟩
    exact ⟨mxK.trans (m1 := m2) ⟨fun b h1 h2 _ _ => o2 b h1 h2, fun j hj => f2 j (by omega) (by omega), fun j hj => by rw [← hm2, up_row _ _ _ (by omega), up_ne _ _ (by omega), o1 _ (by omega)]⟩ z1, z2⟩
theorem mxK.low {q tp : Nat} {m m' : mm_V} (h : mxK q tp m m') : mxK q 0 m m' := ⟨h.1, h.2.1, fun j hj => by omega⟩
theorem X12_b345_junk {m : mm_V} {f pl K : Nat} (hT : modT e.1 q) (hN : 1000 < e.2.2) (hJ : mjR m q f pl K) (hK : K ≤ 1595) : Ev (X12_expression_b345 e q m) (fun m' => mxK q 0 m m' ∧ modS m' q ∧ m' q 10 = .int (zI f) ∧ m' q 11 = .int (zI pl)) := by
  obtain ⟨x1, x2, x3, k, w, x4, x5, x6, x7, x8⟩ := hJ
  unfold X12_expression_b345 X12_drops
  simp only [LT, zI_neg]
  refine ev_call (X12_drops_junk (tp := 0) hT w e.2.2 k f pl m (by omega) (by omega) x1 x2 x3 x4 x5 (by omega) (by omega) x8) ?_
  rintro m1 ⟨K1, S1, a1, a2, k1, a3, a4, a5⟩
  refine ev_eq (X12_puts_eq hT S1 a3 (by omega)) (ev_ret ⟨K1.trans ⟨fun b h1 h2 _ _ => by rw [up_row _ _ _ h1, up_row _ _ _ h2], fun j hj => by rw [up_ne _ _ (by omega), up_row _ _ _ (by omega)], fun j hj => by omega⟩, (S1.row (up_row _ _ _ (by omega))).up (by decide), ?_, ?_⟩)
  · rw [up_ne _ _ (by omega), up_row _ _ _ (by omega)]; exact a1
  · rw [up_ne _ _ (by omega), up_row _ _ _ (by omega)]; exact a2
theorem X12_isOpened_loop (hT : modT e.1 q) : ∀ (ws : List Int) (op nn : Nat) (m : mm_V), okW ws op → ws.length ≤ 90 → ws.length < nn → modS m q → wsR m (q + 10) (ws.map mcd) → X12_isOpened_L7 e q nn (zI ((ws.length : Int) - 1)) m = some (bZ (decide (0 < op)), m) := by
  intro ws
  induction ws with
  | nil =>
    intro op nn m hok h90 hn hS hw
    obtain ⟨nn, rfl⟩ : ∃ n', nn = n' + 1 := ⟨nn - 1, by omega⟩
    rw [X12_isOpened_L7]
    unfold X12_isOpened_b29 X12_isOpened_b38
    simp only [LT, zI_neg]
    rw [okW] at hok
    rw [ilp (by simp), ilp (by simp), decide_eq_false (by omega)]; rfl
  | cons w ws ih =>
    intro op nn m hok h90 hn hS hw
    obtain ⟨nn, rfl⟩ : ∃ n', nn = n' + 1 := ⟨nn - 1, by omega⟩
    have hwb : -20 ≤ w ∧ w ≤ -11 := okW_mem (j := 0) hok rfl
    simp only [List.length_cons] at h90 hn
    have x70 : m (q + 10) ws.length = .int (zI (mcd w)) := by have := hw.1; rwa [List.length_map] at this
    rw [X12_isOpened_L7]
    unfold X12_isOpened_b29 X12_isOpened_b38
    simp only [LT, zI_neg]
    rw [show (((w :: ws).length : Int) - 1) = (ws.length : Int) by rw [List.length_cons]; omega, iln (by omega), rd_gr hT.me hS.waits_, Option.bind_some, rd_ai hT.waits_ (i := ws.length) rfl (by omega) (by omega) x70, Option.bind_some, X12_isOpen_eq hwb, Option.bind_some]
    rw [okW] at hok
    by_cases h : w = -20
    · rw [if_pos h] at hok
      simp only
      rw [decide_eq_true h, if_pos (show ¬ bZ true = zI 0 by decide), iln (by omega), decide_eq_true (by omega)]; rfl
    · rw [if_neg h] at hok
      simp only
      rw [decide_eq_false h, if_neg (show ¬ ¬ bZ false = zI 0 from fun h => h rfl), zI_add]
      exact ih op nn m hok.2.1 (by omega) (by omega) hS hw.2
theorem X12_isOpened_eq {m : mm_V} {ws : List Int} {op : Nat} (hT : modT e.1 q) (hN : 1000 < e.2.2) (hok : okW ws op) (h90 : ws.length ≤ 90) (hS : modS m q) (h26 : m q 26 = .int (zI ws.length)) (hw : wsR m (q + 10) (ws.map mcd)) : X12_isOpened e q m = some (bZ (decide (0 < op)), m) := by
  unfold X12_isOpened
  rw [rd_gi hT.me h26, Option.bind_some, show (1 : Int32) = zI 1 from rfl, zI_sub]
  exact X12_isOpened_loop hT ws op _ m hok h90 (by omega) hS hw
/-- the end of an expression that is good so far, at a token that doesn't go on with it -/
theorem X12_b325_ev {m : mm_V} {t : TK} {cs ws : List Int} {op : Nat} (hT : modT e.1 q) (hN : 1000 < e.2.2) (htp : tp ≤ 2 * B) (hv : tkV T n t) (hI : exI B t (cs, ws, op, false)) (hop : op ≤ 5) (hX : mxR m q n T t tp cs ws) (hM : tsM m q ws op) (hs : ¬ (op = 0 ∧ tkC T t = 59) → exS T t (cs, ws, op, false) = .inl 1) : Ev (X12_expression_b325 e q m) (xpO n T (exA T n t (cs, ws, op, false)) tp B q m) := by
  have hn := hX.2.2.1.1
  have hok : okW ws op := hI.1
  have h83 : ws.length ≤ 83 := hI.len
  have i4 := hI.2.2.2
  dsimp only at i4
  have v1 := hv.1
  have v2 := hv.2.1
  have hel := ecB_len cs
  unfold X12_expression_b325
  simp only [LT, zI_neg]
  refine ev_eq (X12_isGood_1 hT hX.2.2.2.1) (ev_iqn rfl rfl (by omega) (ev_gi hT.me hM.1 ?_))
  by_cases ho : op = 0
  · subst ho
    refine ev_iep rfl rfl (by omega) ?_
    unfold X12_expression_b345
    simp only [LT, zI_neg]
    refine ev_call (X12_drops_ev (m := m) (l := 0) (l' := 1) (by omega) hT hN hok (by omega) (by omega) hX) ?_
    rintro m1 ⟨X1, K1, f1, o1⟩
    have hall := stl_all (cs := cs) hok
    obtain ⟨-, -, s3, s4, -, -⟩ := stl_spec (l := 1) (Nat.le_refl _) (cs := cs) hok
    have s4 := s4 (by have := hI.2.2.1; simpa using this)
    rw [hall] at X1 s3 s4
    simp only [List.length_nil] at s3
    obtain ⟨x1, x2, x3, x4, x5, x6, x7, x8⟩ := X1
    have hel2 := ecB_len (stl 1 cs ws).1
    refine ev_eq (X12_puts_eq hT x1 x5 (by omega)) (ev_ret ?_)
    generalize hm2 : mm_up (mm_up m1 (q + 9) (tp + (ecB (stl 1 cs ws).1).length) (.int (zI 0))) q 25 (.int (zI (tp + (ecB (stl 1 cs ws).1).length + 1 : Nat))) = m2
    have o2 : ∀ b, b ≠ q → b ≠ q + 9 → m2 b = m1 b := fun b h1 h2 => by rw [← hm2, up_row _ _ _ h1, up_row _ _ _ h2]
    have f2 : ∀ k, k ≠ 25 → m2 q k = m1 q k := fun k h => by rw [← hm2, up_ne _ _ (Or.inr h), up_row _ _ _ (by omega)]
    have S2 : modS m2 q := by rw [← hm2]; exact (x1.row (up_row _ _ _ (by omega))).up (by decide)
    have K2 : mxK q tp m m2 := K1.trans ⟨fun b h1 h2 _ _ => o2 b h1 h2, fun j hj => f2 j (by omega), fun j hj => by rw [← hm2, up_row _ _ _ (by omega), up_ne _ _ (by omega)]⟩
    by_cases h59 : tkC T t = 59
    · rw [exA_end ⟨rfl, rfl, h59⟩]
      refine ⟨K2.low, by simp, hv, Or.inr ⟨S2, by rw [f2 _ (by omega)]; exact x4, x2.keep (fun k _ _ => f2 k (by omega)), x3.keep (o2 _ (by omega) (by omega)), Or.inr ⟨rfl, h59, wfr_wfc _ _ s4, by simp only; omega, K2.2.2, ?_, ?_⟩⟩⟩
      · rw [← hm2, up_at, enc_ecB, List.length_append]; rfl
      · rw [enc_ecB]
        refine ecB_get x8 (fun j hj => ?_) (fun i y hy => ?_)
        · have hj : j < tp + (ecB (stl 1 cs ws).1).length := hj
          rw [← hm2, up_row _ _ _ (by omega), up_ne _ _ (by omega)]
        · cases i with
          | zero => simp at hy; rw [← hy, ← hm2, up_row _ _ _ (by omega)]; exact up_at _ _ _ _
          | succ i => simp at hy
    · rw [exA_bad (fun h => h59 h.2.2) (hs (fun h => h59 h.2))]
      exact ⟨K2.low, by simp, hv, Or.inr ⟨S2, by rw [f2 _ (by omega)]; exact x4, x2.keep (fun k _ _ => f2 k (by omega)), x3.keep (o2 _ (by omega) (by omega)), Or.inl ⟨rfl, h59⟩⟩⟩
  · refine ev_ien rfl rfl (by omega) (ev_call (X12_wrong_ev (m := m) (f := 1) (K := 1500) hT hX hok (by omega) (by omega)) ?_)
    rintro m1 ⟨J1, K1, f1⟩
    rw [exA_bad (fun h => ho h.2.1) (hs (fun h => ho h.1))]
    refine ev_mono (X12_b345_junk hT hN J1 (by omega)) ?_
    rintro m2 ⟨K2, S2, a1, a2⟩
    exact ⟨K1.low.trans K2, by simp, hv, Or.inl ⟨by simp, S2, a1, a2⟩⟩
end XPR
