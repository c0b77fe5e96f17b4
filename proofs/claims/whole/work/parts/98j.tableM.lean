/-! THE READER of the model: a table read. -/
section RDP
variable {e : mm_E} {q n tp : Nat} {T : Nat → Nat} {t : TK} {R : RD}
theorem X12_clr_99 {i1 : Int32} (hT : modT e.1 q) : ∀ (k i nn : Nat) (m : mm_V), i + k = 12 → k < nn → modS m q → (∀ j, j < i → m (q + 6) j = .int (zI 0)) → ∃ m', X12_table_L99 e q i1 nn (zI i) m = X12_table_L120 e q i1 e.2.2 (zI 0) m' ∧ (∀ j, j < 12 → m' (q + 6) j = .int (zI 0)) ∧ ∀ b, b ≠ q + 6 → m' b = m b := by
  intro k
  induction k with
  | zero =>
    intro i nn m hi hnn hS hz
    obtain ⟨nn, rfl⟩ : ∃ n', nn = n' + 1 := ⟨nn - 1, by omega⟩
    rw [X12_table_L99]
    simp only [LT, zI_neg]
    rw [iep (by omega)]
    exact ⟨m, rfl, fun j hj => hz j (by omega), fun _ _ => rfl⟩
  | succ k ih =>
    intro i nn m hi hnn hS hz
    obtain ⟨nn, rfl⟩ : ∃ n', nn = n' + 1 := ⟨nn - 1, by omega⟩
    rw [X12_table_L99]
    simp only [LT, zI_neg]
    rw [ien (by omega), rd_gr hT.me hS.newRuleAt_, Option.bind_some, wr_si hT.newRuleAt_ (i := i) rfl (by omega) (by omega), Option.bind_some, show (zI (i : Int) + zI 1 : Int32) = zI ((i + 1 : Nat) : Int) from zI_add _ _]
    obtain ⟨m', e1, e2, e3⟩ := ih (i + 1) nn (mm_up m (q + 6) i (.int (zI 0))) (by omega) (by omega) (hS.row (up_row _ _ _ (by omega))) (fun j hj => by
      by_cases hji : j = i
      · rw [hji, up_at]
      · rw [up_ne _ _ (Or.inr hji)]; exact hz j (by omega))
    exact ⟨m', e1, e2, fun b hb => by (try dsimp only); rw [e3 b hb, up_row _ _ _ hb]⟩
theorem X12_clr_120 {i1 : Int32} (hT : modT e.1 q) : ∀ (k i nn : Nat) (m : mm_V), i + k = 36 → k < nn → modS m q → (∀ j, j < i → m (q + 7) j = .int (zI 0)) → ∃ m', X12_table_L120 e q i1 nn (zI i) m = X12_table_L141 e q i1 e.2.2 (zI 0) m' ∧ (∀ j, j < 36 → m' (q + 7) j = .int (zI 0)) ∧ ∀ b, b ≠ q + 7 → m' b = m b := by
  intro k
  induction k with
  | zero =>
    intro i nn m hi hnn hS hz
    obtain ⟨nn, rfl⟩ : ∃ n', nn = n' + 1 := ⟨nn - 1, by omega⟩
    rw [X12_table_L120]
    simp only [LT, zI_neg]
    rw [iep (by omega)]
    exact ⟨m, rfl, fun j hj => hz j (by omega), fun _ _ => rfl⟩
  | succ k ih =>
    intro i nn m hi hnn hS hz
    obtain ⟨nn, rfl⟩ : ∃ n', nn = n' + 1 := ⟨nn - 1, by omega⟩
    rw [X12_table_L120]
    simp only [LT, zI_neg]
    rw [ien (by omega), rd_gr hT.me hS.newHabits_, Option.bind_some, wr_si hT.newHabits_ (i := i) rfl (by omega) (by omega), Option.bind_some, show (zI (i : Int) + zI 1 : Int32) = zI ((i + 1 : Nat) : Int) from zI_add _ _]
    obtain ⟨m', e1, e2, e3⟩ := ih (i + 1) nn (mm_up m (q + 7) i (.int (zI 0))) (by omega) (by omega) (hS.row (up_row _ _ _ (by omega))) (fun j hj => by
      by_cases hji : j = i
      · rw [hji, up_at]
      · rw [up_ne _ _ (Or.inr hji)]; exact hz j (by omega))
    exact ⟨m', e1, e2, fun b hb => by (try dsimp only); rw [e3 b hb, up_row _ _ _ hb]⟩
theorem X12_clr_141 {i1 : Int32} (hT : modT e.1 q) : ∀ (k i nn : Nat) (m : mm_V), i + k = 121 → k < nn → modS m q → (∀ j, j < i → m (q + 8) j = .int (zI 0)) → ∃ m', X12_table_L141 e q i1 nn (zI i) m = X12_table_L162 e q i1 e.2.2 (zI 0) m' ∧ (∀ j, j < 121 → m' (q + 8) j = .int (zI 0)) ∧ ∀ b, b ≠ q + 8 → m' b = m b := by
  intro k
  induction k with
  | zero =>
    intro i nn m hi hnn hS hz
    obtain ⟨nn, rfl⟩ : ∃ n', nn = n' + 1 := ⟨nn - 1, by omega⟩
    rw [X12_table_L141]
    simp only [LT, zI_neg]
    rw [iep (by omega)]
    exact ⟨m, rfl, fun j hj => hz j (by omega), fun _ _ => rfl⟩
  | succ k ih =>
    intro i nn m hi hnn hS hz
    obtain ⟨nn, rfl⟩ : ∃ n', nn = n' + 1 := ⟨nn - 1, by omega⟩
    rw [X12_table_L141]
    simp only [LT, zI_neg]
    rw [ien (by omega), rd_gr hT.me hS.newFan_, Option.bind_some, wr_si hT.newFan_ (i := i) rfl (by omega) (by omega), Option.bind_some, show (zI (i : Int) + zI 1 : Int32) = zI ((i + 1 : Nat) : Int) from zI_add _ _]
    obtain ⟨m', e1, e2, e3⟩ := ih (i + 1) nn (mm_up m (q + 8) i (.int (zI 0))) (by omega) (by omega) (hS.row (up_row _ _ _ (by omega))) (fun j hj => by
      by_cases hji : j = i
      · rw [hji, up_at]
      · rw [up_ne _ _ (Or.inr hji)]; exact hz j (by omega))
    exact ⟨m', e1, e2, fun b hb => by (try dsimp only); rw [e3 b hb, up_row _ _ _ hb]⟩
theorem X12_clr_162 {i1 : Int32} (hT : modT e.1 q) : ∀ (k i nn : Nat) (m : mm_V), i + k = 10 → k < nn → modS m q → (∀ j, j < i → m (q + 11) j = .int (zI 0)) → ∃ m', X12_table_L162 e q i1 nn (zI i) m = ((X12_goes e q m').bind fun r1 => X12_table_L185 e q i1 e.2.2 r1) ∧ (∀ j, j < 10 → m' (q + 11) j = .int (zI 0)) ∧ ∀ b, b ≠ q + 11 → m' b = m b := by
  intro k
  induction k with
  | zero =>
    intro i nn m hi hnn hS hz
    obtain ⟨nn, rfl⟩ : ∃ n', nn = n' + 1 := ⟨nn - 1, by omega⟩
    rw [X12_table_L162]
    simp only [LT, zI_neg]
    rw [iep (by omega)]
    exact ⟨m, rfl, fun j hj => hz j (by omega), fun _ _ => rfl⟩
  | succ k ih =>
    intro i nn m hi hnn hS hz
    obtain ⟨nn, rfl⟩ : ∃ n', nn = n' + 1 := ⟨nn - 1, by omega⟩
    rw [X12_table_L162]
    simp only [LT, zI_neg]
    rw [ien (by omega), rd_gr hT.me hS.copiesOf_, Option.bind_some, wr_si hT.copiesOf_ (i := i) rfl (by omega) (by omega), Option.bind_some, show (zI (i : Int) + zI 1 : Int32) = zI ((i + 1 : Nat) : Int) from zI_add _ _]
    obtain ⟨m', e1, e2, e3⟩ := ih (i + 1) nn (mm_up m (q + 11) i (.int (zI 0))) (by omega) (by omega) (hS.row (up_row _ _ _ (by omega))) (fun j hj => by
      by_cases hji : j = i
      · rw [hji, up_at]
      · rw [up_ne _ _ (Or.inr hji)]; exact hz j (by omega))
    exact ⟨m', e1, e2, fun b hb => by (try dsimp only); rw [e3 b hb, up_row _ _ _ hb]⟩
theorem rm_224_bad {f pl : Nat} {i1 : Int32} (hT : modT e.1 q) (hf : 1 ≤ f ∧ f < 100) : ∀ (d i nn : Nat) (b : Bool) (m : mm_V), i + d = 10 → d < nn → rmB m q f pl → X12_table_L224 e q i1 nn (bZ b) (zI i) m = X12_table_b285 e q m := by
  intro d
  induction d with
  | zero =>
    intro i nn b m hi hnn hB
    obtain ⟨nn, rfl⟩ : ∃ n', nn = n' + 1 := ⟨nn - 1, by omega⟩
    rw [X12_table_L224]
    simp only [LT, zI_neg]
    rw [iep (by omega), rm_bad hT hB hf, Option.bind_some]
    exact if_pos rfl
  | succ d ih =>
    intro i nn b m hi hnn hB
    obtain ⟨nn, rfl⟩ : ∃ n', nn = n' + 1 := ⟨nn - 1, by omega⟩
    rw [X12_table_L224]
    unfold X12_table_b248 X12_table_b249
    simp only [LT, zI_neg]
    obtain ⟨v, hv⟩ := hB.2.2.2.2.2.2 i (by omega)
    rw [ien (by omega), show (zI (i : Int) + zI 1 : Int32) = zI ((i + 1 : Nat) : Int) from zI_add _ _]
    have h0 := ih (i + 1) nn false m (by omega) (by omega) hB
    have h1 := ih (i + 1) nn true m (by omega) (by omega) hB
    cases b with
    | false => rw [if_pos (show bZ false = zI 0 from rfl)]; exact h0
    | true =>
      rw [if_neg (show ¬ bZ true = zI 0 by decide), rd_gr hT.me hB.1.copiesOf_, Option.bind_some, rd_ai hT.copiesOf_ (i := i) rfl (by omega) (by omega) hv, Option.bind_some]
      split
      · exact h0
      · exact h1
theorem rm_224_good {i1 : Int32} (hT : modT e.1 q) (hI : rdI R) : ∀ (d i nn : Nat) (b v : Bool) (m : mm_V), i + d = 10 → d < nn → rmR m q n T t tp R → (v = true ↔ b = true ∧ ∀ c, i ≤ c → c < 10 → R.2.2.1 c ≠ 1) → X12_table_L224 e q i1 nn (bZ b) (zI i) m = (if R.1.2.2.2 = true ∧ v = false then ((X12_wrong e q (zI 6) (mm_up m q 16 (.int i1))).bind fun r4 => X12_table_b285 e q r4) else X12_table_b285 e q m) := by
  intro d
  induction d with
  | zero =>
    intro i nn b v m hi hnn hC hv
    obtain ⟨nn, rfl⟩ : ∃ n', nn = n' + 1 := ⟨nn - 1, by omega⟩
    have hbv : v = b := by
      cases b with
      | true => exact hv.mpr ⟨rfl, fun c h1 h2 => by omega⟩
      | false =>
        cases v with
        | false => rfl
        | true => exact absurd (hv.mp rfl).1 (by simp)
    subst hbv
    rw [X12_table_L224]
    simp only [LT, zI_neg]
    rw [iep (by omega), rm_good hT hC, Option.bind_some]
    dsimp only
    rw [if_neg (show ¬ zI 1 = zI 0 by decide), rd_gi hT.me hC.2.2.2.2.2.2.2.2.2.1, Option.bind_some]
    cases hnf : R.1.2.2.2 with
    | false => rw [if_pos (show bZ false = zI 0 from rfl), if_neg (fun h => by cases h.1)]
    | true =>
      rw [if_neg (show ¬ bZ true = zI 0 by decide)]
      cases v with
      | true => rw [if_pos (show ¬ bZ true = zI 0 by decide), if_neg (fun h => by cases h.2)]
      | false => rw [if_neg (show ¬ ¬ bZ false = zI 0 from fun h => h rfl), if_pos ⟨rfl, rfl⟩, wr_pf hT.me, Option.bind_some]
  | succ d ih =>
    intro i nn b v m hi hnn hC hv
    obtain ⟨nn, rfl⟩ : ∃ n', nn = n' + 1 := ⟨nn - 1, by omega⟩
    rw [X12_table_L224]
    unfold X12_table_b248 X12_table_b249
    simp only [LT, zI_neg]
    have hc2 := hI.two i
    rw [ien (by omega), show (zI (i : Int) + zI 1 : Int32) = zI ((i + 1 : Nat) : Int) from zI_add _ _]
    cases b with
    | false =>
      rw [if_pos (show bZ false = zI 0 from rfl)]
      exact ih (i + 1) nn false v m (by omega) (by omega) hC ⟨fun h => absurd (hv.mp h).1 (by simp), fun h => absurd h.1 (by simp)⟩
    | true =>
      rw [if_neg (show ¬ bZ true = zI 0 by decide), rd_gr hT.me hC.1.copiesOf_, Option.bind_some, rd_ai hT.copiesOf_ (i := i) rfl (by omega) (by omega) (hC.2.2.2.2.2.2.2.2.2.2.2.2.2.2.2.1 i (by omega)), Option.bind_some]
      by_cases h1 : R.2.2.1 i = 1
      · rw [iqp (by omega)]
        exact ih (i + 1) nn false v m (by omega) (by omega) hC ⟨fun h => absurd h1 ((hv.mp h).2 i (Nat.le_refl _) (by omega)), fun h => absurd h.1 (by simp)⟩
      · rw [iqn (by omega)]
        exact ih (i + 1) nn true v m (by omega) (by omega) hC (hv.trans ⟨fun h => ⟨rfl, fun c x1 x2 => h.2 c (by omega) x2⟩, fun h => ⟨rfl, fun c x1 x2 => by
          by_cases hci : c = i
          · rw [hci]; exact h1
          · exact h.2 c (by omega) x2⟩⟩)
/-- what the reader of the model leaves, ahead of its end -/
def rtO (q n : Nat) (T : Nat → Nat) (X : Nat × Nat × RD) (m' : mm_V) : Prop := (1 ≤ X.1 ∧ X.1 ≤ 6 ∧ X.2.1 ≤ n ∧ rmB m' q X.1 X.2.1) ∨ (X.1 = 0 ∧ rdI X.2.2 ∧ (X.2.2.1.2.2.2 = true → alC X.2.2.2.2.1 = true) ∧ ∃ (t : TK) (tp : Nat), tp ≤ 1250 ∧ rmR m' q n T t tp X.2.2)
theorem rm_206 {m m0 : mm_V} {X : Nat × Nat × RD} (hT : modT e.1 q) (hN : 1000 < e.2.2) (h : raO q n T m0 X m) : ∃ m1, X12_table_b206 e q (zI n) m = X12_table_b285 e q m1 ∧ fmC q m0 m1 ∧ rtO q n T X m1 := by
  obtain ⟨hf, ⟨x1, x2, x3, hB⟩ | ⟨t, R, tp, h0, hv, hI, hJ, htp, hC, hX⟩⟩ := h
  · refine ⟨m, ?_, hf, Or.inl ⟨x1, by omega, x3, hB⟩⟩
    unfold X12_table_b206 X12_table_b221
    simp only [LT, zI_neg]
    obtain ⟨v, hv⟩ := hB.2.2.2.2.2.2 0 (by omega)
    have h9 := rm_224_bad (e := e) (i1 := zI n) hT (f := X.1) (pl := X.2.1) (by omega) 9 1 e.2.2
    rw [rd_gr hT.me hB.1.copiesOf_, Option.bind_some, rd_ai hT.copiesOf_ (z := 0) (i := 0) rfl (by omega) (by omega) hv, Option.bind_some]
    split
    · exact h9 false m rfl (by omega) hB
    · exact h9 true m rfl (by omega) hB
  · have hcn := hI.two 0
    have hb : ∀ b : Bool, (b = true ↔ R.2.2.1 0 = 1) → X12_table_b221 e q (zI n) (bZ b) m = (if R.1.2.2.2 = true ∧ alC R.2.2.1 = false then ((X12_wrong e q (zI 6) (mm_up m q 16 (.int (zI n)))).bind fun r4 => X12_table_b285 e q r4) else X12_table_b285 e q m) := by
      intro b hb
      unfold X12_table_b221
      simp only [LT, zI_neg]
      exact rm_224_good (i1 := zI n) hT hI 9 1 e.2.2 b (alC R.2.2.1) m rfl (by omega) hC (alC_iff.trans ⟨fun h => ⟨hb.mpr h.1, fun c x1 x2 => h.2 c x1 x2⟩, fun h => ⟨hb.mp h.1, fun c x1 x2 => h.2 c x1 x2⟩⟩)
    have h206 : X12_table_b206 e q (zI n) m = (if R.1.2.2.2 = true ∧ alC R.2.2.1 = false then ((X12_wrong e q (zI 6) (mm_up m q 16 (.int (zI n)))).bind fun r4 => X12_table_b285 e q r4) else X12_table_b285 e q m) := by
      unfold X12_table_b206
      simp only [LT, zI_neg]
      rw [rd_gr hT.me hC.1.copiesOf_, Option.bind_some, rd_ai hT.copiesOf_ (z := 0) (i := 0) rfl (by omega) (by omega) (hC.2.2.2.2.2.2.2.2.2.2.2.2.2.2.2.1 0 (by omega)), Option.bind_some]
      by_cases h1 : R.2.2.1 0 = 1
      · rw [inn (by omega)]
        exact hb true ⟨fun _ => h1, fun _ => rfl⟩
      · rw [inp (by omega)]
        exact hb false ⟨fun h => (by cases h), fun h => absurd h h1⟩
    rw [h206]
    by_cases hc : R.1.2.2.2 = true ∧ alC R.2.2.1 = false
    · rw [if_pos hc] at hX ⊢
      have htn : t.2.1 = n := hv.2.2.2.1 h0
      have hsame : mm_up m q 16 (.int (zI n)) = m := by
        funext b j
        by_cases hbj : b = q ∧ j = 16
        · rw [hbj.1, hbj.2, up_at, ← htn]; exact hC.2.1.2.2.2.1.symm
        · rw [up_ne _ _ (by omega)]
      rw [hsame]
      obtain ⟨m1, e1, B1, f1, o1⟩ := rm_wrong (f := 6) hT hC
      have e1 : X12_wrong e q (zI 6) m = some m1 := e1
      rw [e1, Option.bind_some]
      refine ⟨m1, rfl, hf.trans f1, Or.inl ?_⟩
      rw [hX]
      rw [htn] at B1
      exact ⟨by simp, by simp, Nat.le_refl _, B1⟩
    · rw [if_neg hc] at hX ⊢
      refine ⟨m, rfl, hf, Or.inr ?_⟩
      rw [hX]
      refine ⟨rfl, hI, fun h => ?_, t, tp, htp, hC⟩
      by_cases ha : alC R.2.2.1 = true
      · exact ha
      · exact absurd ⟨h, by simpa using ha⟩ hc
theorem X12_right_1 {m : mm_V} {w : Int32} (hT : modT e.1 q) (h0 : m q 0 = .int (zI 0)) : X12_right e q (zI 1) w m = some (zI 1, m) := by
  unfold X12_right X12_right_b16 X12_right_b28
  simp only [LT, zI_neg]
  rw [rd_gi hT.me h0, Option.bind_some, if_neg (show ¬ ¬ zI 0 = zI 0 from fun h => h rfl), if_pos (show ¬ zI 1 = zI 0 by decide), Option.bind_some, if_neg (show ¬ ¬ zI 0 = zI 0 from fun h => h rfl)]
  rfl
theorem X12_right_0 {m : mm_V} {w : Int32} (hT : modT e.1 q) (h0 : m q 0 = .int (zI 0)) (hw : ¬ w = zI 0) : X12_right e q (zI 0) w m = some (zI 0, mm_up m q 0 (.int w)) := by
  unfold X12_right X12_right_b16 X12_right_b28
  simp only [LT, zI_neg]
  rw [rd_gi hT.me h0, Option.bind_some, if_neg (show ¬ ¬ zI 0 = zI 0 from fun h => h rfl), if_neg (show ¬ ¬ True from fun h => h trivial), wr_pf hT.me, Option.bind_some, rd_gi hT.me (up_at _ _ _ _), Option.bind_some, if_pos hw]
  rfl
theorem X12_table_no {m : mm_V} {i1 : Int32} {K : Nat} (hT : modT e.1 q) (h9 : m q 9 = .int (zI K)) (hK : K ≤ 600) (hbad : i1 < zI 0 ∨ zI K < i1) : X12_table e q i1 m = some (zI 0, mm_up (mm_up m q 0 (.int (zI 0))) q 0 (.int (zI 1))) := by
  unfold X12_table
  simp only [LT, zI_neg]
  have h22 : X12_table_b22 e q i1 q (mm_up m q 0 (.int (zI 0))) = some (zI 0, mm_up (mm_up m q 0 (.int (zI 0))) q 0 (.int (zI 1))) := by
    unfold X12_table_b22 X12_table_b23
    simp only [LT, zI_neg]
    rw [if_pos hT.me, X12_right_0 hT (up_at _ _ _ _) (by decide), Option.bind_some]
    exact if_neg (fun h => h rfl)
  rw [wr_pf hT.me, Option.bind_some]
  by_cases hn : i1 < zI 0
  · rw [if_pos hn]; exact h22
  · rw [if_neg hn, rd_gi hT.me (v := zI K) (by (try dsimp only); rw [up_ne _ _ (by omega)]; exact h9), Option.bind_some, if_pos (hbad.resolve_left hn)]
    exact h22
theorem X12_read_ev {m : mm_V} {K : Nat} (hT : modT e.1 q) (hN : 1000 < e.2.2) (hS : modS m q) (h9 : m q 9 = .int (zI K)) (hK : K ≤ 600) (hn : n ≤ K) (hb : ∀ i, i < n → T i < 256 ∧ m (q + 4) i = .int (zI (T i))) (i18 : ∃ v, m q 18 = .int v) (i19 : ∃ v, m q 19 = .int v) : ∃ m1, X12_table e q (zI n) m = X12_table_b285 e q m1 ∧ rtO q n T (rdA T n 700 (tok T n 0) rd0) m1 ∧ m1 q 0 = .int (zI 0) ∧ m1 q 9 = .int (zI 0) ∧ (∀ b, b ≠ q → (b < q + 6 ∨ q + 12 < b) → m1 b = m b) ∧ (∀ k, ((0 < k ∧ k < 9) ∨ k = 12 ∨ 30 < k) → m1 q k = m q k) ∧ ∀ j, j < 1600 → (∃ v, m (q + 9) j = .int v) → ∃ v, m1 (q + 9) j = .int v := by
  unfold X12_table X12_table_b23
  simp only [LT, zI_neg]
  rw [wr_pf hT.me, Option.bind_some, iln (by omega), rd_gi hT.me (v := zI K) (by (try dsimp only); rw [up_ne _ _ (by omega)]; exact h9), Option.bind_some, iln (by omega), if_pos hT.me, X12_right_1 hT (up_at _ _ _ _), Option.bind_some]
  dsimp only
  rw [if_pos (show ¬ zI 1 = zI 0 by decide)]
  iterate 10 rw [wr_pf hT.me, Option.bind_some]
  rw [wr_pz hT.me (x := zI 0) (Or.inl rfl), Option.bind_some, wr_pz hT.me (x := zI 0) (Or.inl rfl), Option.bind_some, wr_pf hT.me, Option.bind_some]
  generalize hA : mm_up (mm_up (mm_up (mm_up (mm_up (mm_up (mm_up (mm_up (mm_up (mm_up (mm_up (mm_up (mm_up (mm_up m q 0 (.int (zI 0))) q 9 (.int (zI 0))) q 11 (.int (zI (-1)))) q 10 (.int (zI 0))) q 13 (.int (zI n))) q 14 (.int (zI 0))) q 21 (.int (zI 3))) q 22 (.int (zI 5))) q 23 (.int (zI 0))) q 24 (.int (zI 0))) q 30 (.int (zI 0))) q 28 (.int (zI 0))) q 29 (.int (zI 0))) q 25 (.int (zI 1)) = mA
  have oA : ∀ b, b ≠ q → mA b = m b := fun b hb => by (try dsimp only); rw [← hA]; iterate 14 rw [up_row _ _ _ hb]
  have fA : ∀ k, ((0 < k ∧ k < 9) ∨ k = 12 ∨ (14 < k ∧ k < 21) ∨ k = 26 ∨ k = 27 ∨ 30 < k) → mA q k = m q k := fun k hk => by (try dsimp only); rw [← hA]; iterate 14 rw [up_ne _ _ (Or.inr (by omega))]
  have aA : mA q 0 = .int (zI 0) ∧ mA q 9 = .int (zI 0) ∧ mA q 11 = .int (zI (-1)) ∧ mA q 10 = .int (zI 0) ∧ mA q 13 = .int (zI n) ∧ mA q 14 = .int (zI 0) ∧ mA q 21 = .int (zI 3) ∧ mA q 22 = .int (zI 5) ∧ mA q 23 = .int (zI 0) ∧ mA q 24 = .int (zI 0) ∧ mA q 30 = .int (zI 0) ∧ mA q 28 = .int (zI 0) ∧ mA q 29 = .int (zI 0) ∧ mA q 25 = .int (zI 1) := by
    rw [← hA]
    refine ⟨?_, ?_, ?_, ?_, ?_, ?_, ?_, ?_, ?_, ?_, ?_, ?_, ?_, ?_⟩ <;> repeat (first | exact up_at _ _ _ _ | rw [up_ne _ _ (by omega)])
  clear hA
  obtain ⟨a0, a9, a11, a10, a13, a14, a21, a22, a23, a24, a30, a28, a29, a25⟩ := aA
  have SA : modS mA q := hS.keep (fun i x1 x2 => fA _ (by
    have : ∀ i, i < 40 → 0 < i → ((0 < mfld i ∧ mfld i < 9) ∨ mfld i = 12 ∨ (14 < mfld i ∧ mfld i < 21) ∨ mfld i = 26 ∨ mfld i = 27 ∨ 30 < mfld i) := by decide
    exact this i x1 x2))
  obtain ⟨mB, e1, z1, o1⟩ := X12_clr_99 (e := e) (i1 := zI n) hT 12 0 e.2.2 mA rfl (by omega) SA (fun j hj => by omega)
  have SB : modS mB q := SA.row (o1 _ (by omega))
  obtain ⟨mC, e2, z2, o2⟩ := X12_clr_120 (e := e) (i1 := zI n) hT 36 0 e.2.2 mB rfl (by omega) SB (fun j hj => by omega)
  have SC : modS mC q := SB.row (o2 _ (by omega))
  obtain ⟨mD, e3, z3, o3⟩ := X12_clr_141 (e := e) (i1 := zI n) hT 121 0 e.2.2 mC rfl (by omega) SC (fun j hj => by omega)
  have SD : modS mD q := SC.row (o3 _ (by omega))
  obtain ⟨mE, e4, z4, o4⟩ := X12_clr_162 (e := e) (i1 := zI n) hT 10 0 e.2.2 mD rfl (by omega) SD (fun j hj => by omega)
  have SE : modS mE q := SD.row (o4 _ (by omega))
  have e1 : X12_table_L99 e q (zI n) e.2.2 (zI 0) mA = _ := e1
  have e2 : X12_table_L120 e q (zI n) e.2.2 (zI 0) mB = _ := e2
  have e3 : X12_table_L141 e q (zI n) e.2.2 (zI 0) mC = _ := e3
  have e4 : X12_table_L162 e q (zI n) e.2.2 (zI 0) mD = _ := e4
  rw [e1, e2, e3, e4]
  have qE : mE q = mA q := by (try dsimp only); rw [o4 _ (by omega), o3 _ (by omega), o2 _ (by omega), o1 _ (by omega)]
  have oE : ∀ b, b ≠ q → (b < q + 6 ∨ q + 12 < b) → mE b = m b := fun b x1 x2 => by (try dsimp only); rw [o4 b (by omega), o3 b (by omega), o2 b (by omega), o1 b (by omega), oA b x1]
  have txE : txR mE (q + 4) n T := ⟨by omega, fun i hi => (hb i hi).1, fun i hi => by (try dsimp only); rw [oE _ (by omega) (by omega)]; exact (hb i hi).2⟩
  obtain ⟨mF, g1, g2, g3, g4, g5⟩ := X12_goes_eq (e := e) (b := 0) hT SE txE (by (try dsimp only); rw [qE]; exact a13) (by (try dsimp only); rw [qE]; exact a14) (Nat.zero_le _) hN
  have hk := X12_goes_fK g1 q 75 hT.me
  rw [g1, Option.bind_some]
  obtain ⟨hv, -⟩ := tok_V T (n := n) (b := 0) (Nat.zero_le _)
  have dE : rmD mE q 1 rd0 := by
    refine ⟨by (try dsimp only); rw [qE]; exact a21, by (try dsimp only); rw [qE]; exact a22, by (try dsimp only); rw [qE]; exact a23, by (try dsimp only); rw [qE]; exact a29, by (try dsimp only); rw [qE]; exact a28, by (try dsimp only); rw [qE]; exact a25, ⟨zI 0, by (try dsimp only); rw [qE]; exact a24, fun w _ => bit_0 _⟩, ⟨zI 0, by (try dsimp only); rw [qE]; exact a30, fun w p _ _ => bit_0 _⟩, fun p hp => ⟨?_, fun k c hc => ?_⟩, fun c hc => z4 c hc, fun i hi => ?_, fun k hk => ⟨0, ?_, fun _ => rfl, fun h => absurd rfl h⟩⟩
    · rw [o4 _ (by omega)]; exact z3 (20 * p) (by omega)
    · have : ([] : List Nat)[k]? = some c := hc
      simp at this
    · rw [o4 _ (by omega), o3 _ (by omega)]; exact z2 i hi
    · rw [o4 _ (by omega), o3 _ (by omega), o2 _ (by omega)]; exact z1 _ (rix_lt hk)
  have CF : rmR mF q n T (tok T n 0) 1 rd0 := ⟨g3, g2, txE.keep (g5 _ (by omega)), by (try dsimp only); rw [g4 _ (by omega), qE]; exact a10, by (try dsimp only); rw [g4 _ (by omega), qE]; exact a11, ⟨hk 18 (by omega) (by (try dsimp only); rw [qE, fA _ (by omega)]; exact i18), hk 19 (by omega) (by (try dsimp only); rw [qE, fA _ (by omega)]; exact i19)⟩, dE.keep (fun k x1 _ => g4 k (by omega)) g5⟩
  have hmu := muT_lt hv txE.1
  obtain ⟨m1, l1, l2⟩ := rm_lines (m0 := mF) hT hN _ (tok T n 0) rd0 mF 1 e.2.2 700 rfl (by omega) (by omega) hv rdI0 (fun p _ _ => rfl) ⟨Nat.le_refl _, by omega⟩ (fmC.refl _ _) CF
  obtain ⟨m2, l3, l4, l5⟩ := rm_206 hT hN l2
  refine ⟨m2, l1.trans l3, l5, by (try dsimp only); rw [l4.2.1 _ (by omega), g4 _ (by omega), qE]; exact a0, by (try dsimp only); rw [l4.2.1 _ (by omega), g4 _ (by omega), qE]; exact a9, fun b x1 x2 => by (try dsimp only); rw [l4.1 b x1 x2, g5 b x1, oE b x1 x2], fun k hk' => by (try dsimp only); rw [l4.2.1 k (by omega), g4 k (by omega), qE, fA k (by omega)], fun j hj hh => l4.2.2 j hj (by (try dsimp only); rw [g5 _ (by omega), o4 _ (by omega), o3 _ (by omega), o2 _ (by omega), o1 _ (by omega), oA _ (by omega)]; exact hh)⟩
end RDP
