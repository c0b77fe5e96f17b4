/-! FANS of the class: a row of at most 10 cards. -/
def fanT (g : mm_T) (a : Nat) : Prop := g a = some (3, 2) ∧ g (a + 1) = some (20, 10)
def fanR (m : mm_V) (a : Nat) (l : List Nat) : Prop := m a 0 = .ref (a + 1) ∧ m a 1 = .int (zI l.length) ∧ l.length ≤ 10 ∧ ∀ (k : Nat) (c : Nat), l[k]? = some c → m (a + 1) k = .int (zI c)
theorem fanR.keep {m m' : mm_V} {a : Nat} {l : List Nat} (h : fanR m a l) (h1 : m' a = m a) (h2 : m' (a + 1) = m (a + 1)) : fanR m' a l := by
  unfold fanR
  rw [h1, h2]
  exact h
section FANS
variable {e : mm_E} {m : mm_V} {a : Nat} {l : List Nat}
theorem X3_hasPlace_eq (ht : fanT e.1 a) (h : fanR m a l) {p : Int} (h1 : -2147483648 ≤ p) (h2 : p < 2147483648) : X3_hasPlace e a (zI p) m = some (if 0 ≤ p ∧ p < l.length then zI 1 else zI 0, m) := by
  obtain ⟨q1, q2, q3, q4⟩ := h
  unfold X3_hasPlace
  simp only [X3_hasPlace_b17, X3_hasPlace_b16, rd_gi ht.1 q2, Option.bind_some, LT]
  simp (disch := omega) only [ZC]
  by_cases hp : p < 0
  · rw [if_pos hp, if_neg (by omega)]; rfl
  · rw [if_neg hp]
    by_cases hq : (l.length : Int) ≤ p
    · rw [if_pos hq, if_neg (by omega)]; rfl
    · rw [if_neg hq, if_pos (by omega)]; rfl
theorem X3_card_eq (ht : fanT e.1 a) (h : fanR m a l) {p c : Nat} (hc : l[p]? = some c) : X3_card e a (zI p) m = some (zI c, m) := by
  obtain ⟨q1, q2, q3, q4⟩ := h
  have hp : p < l.length := (List.getElem?_eq_some_iff.mp hc).1
  unfold X3_card
  simp only [X3_card_b30, X3_card_b31, rd_gi ht.1 q2, rd_gr ht.1 q1, rd_ln ht.2 (by decide) (by decide), Option.bind_some, LT]
  simp (disch := omega) only [ZC]
  rw [if_neg (by omega), if_neg (by omega), if_neg (by omega), rd_ai ht.2 (i := p) rfl (by omega) (by omega) (q4 p c hc)]
  rfl
/-- the first place from i on -/
def idx (c : Nat) : List Nat → Option Nat
  | [] => none
  | x :: xs => if x = c then some 0 else (idx c xs).map (· + 1)
def ozI (o : Option Nat) : Int32 := match o with
  | none => zI (-1)
  | some k => zI k
theorem X3_placeOf_loop (ht : fanT e.1 a) (h : fanR m a l) (hl : ∀ x ∈ l, x < 1000) {c : Nat} (hc : c < 1000) : ∀ (j i n : Nat), i + j = l.length → j < n → X3_placeOf_L2 e a (zI c) n (zI i) m = some (ozI ((idx c (l.drop i)).map (· + i)), m) := by
  obtain ⟨q1, q2, q3, q4⟩ := h
  intro j
  induction j with
  | zero =>
    intro i n hi hn
    obtain ⟨n, rfl⟩ : ∃ n', n = n' + 1 := ⟨n - 1, by omega⟩
    unfold X3_placeOf_L2
    simp only [rd_gi ht.1 q2, Option.bind_some]
    simp (disch := omega) only [ZC]
    rw [if_pos (by omega), List.drop_of_length_le (by omega)]
    rfl
  | succ j ih =>
    intro i n hi hn
    obtain ⟨n, rfl⟩ : ∃ n', n = n' + 1 := ⟨n - 1, by omega⟩
    have hlt : i < l.length := by omega
    have hx : l[i]? = some l[i] := List.getElem?_eq_getElem hlt
    have hxl := hl _ (List.getElem_mem hlt)
    unfold X3_placeOf_L2
    simp only [rd_gi ht.1 q2, rd_gr ht.1 q1, rd_ln ht.2 (by decide) (by decide), Option.bind_some]
    simp (disch := omega) only [ZC]
    rw [if_neg (by omega), if_neg (by omega), rd_ai ht.2 (i := i) rfl (by omega) (by omega) (q4 i _ hx), Option.bind_some]
    simp (disch := omega) only [ZC]
    rw [List.drop_eq_getElem_cons hlt]
    by_cases hq : l[i] = c
    · rw [if_neg (by omega)]
      simp [idx, hq, ozI]
    · rw [if_pos (by omega), show zI (i : Int) + 1 = zI ((i + 1 : Nat) : Int) from zI_add i 1, ih (i + 1) n (by omega) (by omega)]
      simp only [idx, if_neg hq, Option.map_map]
      congr 2
      refine congrArg ozI (congrArg (fun f => Option.map f _) ?_)
      funext x
      show x + (i + 1) = x + 1 + i
      omega
theorem X3_placeOf_eq (ht : fanT e.1 a) (h : fanR m a l) (hl : ∀ x ∈ l, x < 1000) {c : Nat} (hc : c < 1000) (hN : 20 < e.2.2) : X3_placeOf e a (zI c) m = some (ozI (idx c l), m) := by
  have h1 := X3_placeOf_loop ht h hl hc l.length 0 e.2.2 (by omega) (by have := h.2.2.1; omega)
  unfold X3_placeOf
  have e0 : (idx c (l.drop 0)).map (· + 0) = idx c l := by rw [List.drop_zero]; cases idx c l <;> rfl
  rw [e0] at h1
  exact h1
theorem X3_clear_eq (ht : fanT e.1 a) (h : fanR m a l) : ∃ m', X3_clear e a m = some m' ∧ fanR m' a [] ∧ ∀ b, b ≠ a → b ≠ a + 1 → m' b = m b := by
  obtain ⟨q1, q2, q3, q4⟩ := h
  refine ⟨_, by unfold X3_clear; simp only [wr_pf ht.1, Option.bind_some]; rfl, ⟨?_, up_at _ _ _ _, by simp, by simp⟩, fun b h1 _ => up_row _ _ _ h1⟩
  rw [up_ne _ _ (Or.inr (by decide))]; exact q1
theorem X3_takeOut_loop (ht : fanT e.1 a) {p : Nat} (hl : l.length ≤ 10) : ∀ (j i n : Nat) (m : mm_V), i + j = l.length → p < i → j < n → m a 0 = .ref (a + 1) → m a 1 = .int (zI l.length) → (∀ k c : Nat, (l.eraseIdx p)[k]? = some c → k + 1 < i → m (a + 1) k = .int (zI c)) → (∀ k c : Nat, l[k]? = some c → i ≤ k → m (a + 1) k = .int (zI c)) → ∃ m', X3_takeOut_L29 e a n (zI i) m = some m' ∧ fanR m' a (l.eraseIdx p) ∧ ∀ b, b ≠ a → b ≠ a + 1 → m' b = m b := by
  intro j
  induction j with
  | zero =>
    intro i n m hi hp hn q1 q2 h1 h2
    obtain ⟨n, rfl⟩ : ∃ n', n = n' + 1 := ⟨n - 1, by omega⟩
    have hlen : (l.eraseIdx p).length = l.length - 1 := List.length_eraseIdx_of_lt (by omega)
    refine ⟨mm_up m a 1 (.int (zI (l.length - 1 : Int))), ?_, ⟨?_, ?_, by omega, fun k c hk => ?_⟩, fun b hb _ => up_row _ _ _ hb⟩
    · unfold X3_takeOut_L29
      simp only [rd_gi ht.1 q2, Option.bind_some, LT]
      simp (disch := omega) only [ZC]
      rw [if_pos (by omega)]
      simp only [rd_gi ht.1 q2, wr_pf ht.1, Option.bind_some, zI_sub]
    · rw [up_ne _ _ (Or.inr (by decide))]; exact q1
    · rw [up_at, hlen]; congr 2; omega
    · have hk' : k < (l.eraseIdx p).length := (List.getElem?_eq_some_iff.mp hk).1
      rw [up_ne _ _ (Or.inl (by omega))]; exact h1 k c hk (by omega)
  | succ j ih =>
    intro i n m hi hp hn q1 q2 h1 h2
    obtain ⟨n, rfl⟩ : ∃ n', n = n' + 1 := ⟨n - 1, by omega⟩
    have hlt : i < l.length := by omega
    have hx : l[i]? = some l[i] := List.getElem?_eq_getElem hlt
    obtain ⟨m', e1, e2, e3⟩ := ih (i + 1) n (mm_up m (a + 1) (i - 1) (.int (zI l[i]))) (by omega) (by omega) (by omega) (by rw [up_ne _ _ (Or.inl (by omega))]; exact q1) (by rw [up_ne _ _ (Or.inl (by omega))]; exact q2)
      (fun k c hk hki => by
        by_cases hki' : k = i - 1
        · subst hki'
          rw [up_at]
          rw [List.getElem?_eraseIdx_of_ge (by omega), show i - 1 + 1 = i by omega, hx] at hk
          cases hk; rfl
        · rw [up_ne _ _ (Or.inr hki')]; exact h1 k c hk (by omega))
      (fun k c hk hki => by rw [up_ne _ _ (Or.inr (by omega))]; exact h2 k c hk (by omega))
    refine ⟨m', ?_, e2, fun b hb hb' => by rw [e3 b hb hb', up_row _ _ _ hb']⟩
    unfold X3_takeOut_L29
    simp only [rd_gi ht.1 q2, rd_gr ht.1 q1, Option.bind_some, LT]
    simp (disch := omega) only [ZC]
    rw [if_neg (by omega), rd_ai ht.2 (i := i) rfl (by omega) (by omega) (h2 i _ hx (by omega)), Option.bind_some, zI_sub, wr_si ht.2 (i := i - 1) (by omega) (by omega) (by omega), Option.bind_some, zI_add]
    exact e1
theorem X3_takeOut_eq (ht : fanT e.1 a) (h : fanR m a l) {p : Nat} (hp : p < l.length) (hN : 20 < e.2.2) : ∃ m', X3_takeOut e a (zI p) m = some m' ∧ fanR m' a (l.eraseIdx p) ∧ ∀ b, b ≠ a → b ≠ a + 1 → m' b = m b := by
  obtain ⟨q1, q2, q3, q4⟩ := h
  obtain ⟨m', e1, e2, e3⟩ := X3_takeOut_loop (e := e) ht (p := p) q3 (l.length - (p + 1)) (p + 1) e.2.2 m (by omega) (by omega) (by omega) q1 q2
    (fun k c hk hki => by rw [List.getElem?_eraseIdx_of_lt (by omega)] at hk; exact q4 k c hk) (fun k c hk _ => q4 k c hk)
  refine ⟨m', ?_, e2, e3⟩
  unfold X3_takeOut
  simp only [X3_takeOut_b24, rd_gi ht.1 q2, rd_gr ht.1 q1, rd_ln ht.2 (by decide) (by decide), Option.bind_some, LT]
  simp (disch := omega) only [ZC, zI_add]
  rw [if_neg (by omega), if_neg (by omega), if_pos (by omega)]
  exact e1
theorem X3_putIn_loop (ht : fanT e.1 a) {p c : Nat} (hl : l.length < 10) (hp : p ≤ l.length) : ∀ (j n : Nat) (m : mm_V), p + j ≤ l.length → j < n → m a 0 = .ref (a + 1) → m a 1 = .int (zI l.length) → (∀ k x : Nat, l[k]? = some x → k < p + j → m (a + 1) k = .int (zI x)) → (∀ k x : Nat, l[k]? = some x → p + j ≤ k → m (a + 1) (k + 1) = .int (zI x)) → ∃ m', X3_putIn_L30 e a (zI p) (zI c) n (zI (p + j : Nat)) m = some m' ∧ fanR m' a (l.insertIdx p c) ∧ ∀ b, b ≠ a → b ≠ a + 1 → m' b = m b := by
  intro j
  induction j with
  | zero =>
    intro n m hj hn q1 q2 h1 h2
    obtain ⟨n, rfl⟩ : ∃ n', n = n' + 1 := ⟨n - 1, by omega⟩
    have hlen : (l.insertIdx p c).length = l.length + 1 := List.length_insertIdx_of_le_length hp c
    refine ⟨mm_up (mm_up m (a + 1) p (.int (zI c))) a 1 (.int (zI (l.length + 1 : Int))), ?_, ⟨?_, ?_, by omega, fun k x hk => ?_⟩, fun b hb hb' => by rw [up_row _ _ _ hb, up_row _ _ _ hb']⟩
    · unfold X3_putIn_L30
      simp only [LT]
      simp (disch := omega) only [ZC]
      rw [if_pos (by omega)]
      simp only [rd_gr ht.1 q1, wr_si ht.2 (i := p) rfl (by omega) (by omega), Option.bind_some]
      rw [rd_gi ht.1 (by rw [up_ne _ _ (Or.inl (by omega))]; exact q2)]
      simp only [wr_pf ht.1, Option.bind_some, zI_add]
    · rw [up_ne _ _ (Or.inr (by decide)), up_ne _ _ (Or.inl (by omega))]; exact q1
    · rw [up_at, hlen]; congr 2
    · rw [up_ne _ _ (Or.inl (by omega))]
      rcases Nat.lt_trichotomy k p with hkp | hkp | hkp
      · rw [List.getElem?_insertIdx_of_lt hkp] at hk
        rw [up_ne _ _ (Or.inr (by omega))]; exact h1 k x hk (by omega)
      · subst hkp
        rw [List.getElem?_insertIdx_self, if_pos hp] at hk
        cases hk
        exact up_at _ _ _ _
      · rw [List.getElem?_insertIdx_of_gt hkp] at hk
        rw [up_ne _ _ (Or.inr (by omega))]
        have := h2 (k - 1) x hk (by omega)
        rw [show k - 1 + 1 = k by omega] at this
        exact this
  | succ j ih =>
    intro n m hj hn q1 q2 h1 h2
    obtain ⟨n, rfl⟩ : ∃ n', n = n' + 1 := ⟨n - 1, by omega⟩
    have hlt : p + j < l.length := by omega
    have hx : l[p + j]? = some l[p + j] := List.getElem?_eq_getElem hlt
    obtain ⟨m', e1, e2, e3⟩ := ih n (mm_up m (a + 1) (p + j + 1) (.int (zI l[p + j]))) (by omega) (by omega) (by rw [up_ne _ _ (Or.inl (by omega))]; exact q1) (by rw [up_ne _ _ (Or.inl (by omega))]; exact q2)
      (fun k x hk hki => by rw [up_ne _ _ (Or.inr (by omega))]; exact h1 k x hk (by omega))
      (fun k x hk hki => by
        by_cases hk' : k = p + j
        · subst hk'
          rw [up_at]
          rw [hx] at hk; cases hk; rfl
        · rw [up_ne _ _ (Or.inr (by omega))]; exact h2 k x hk (by omega))
    refine ⟨m', ?_, e2, fun b hb hb' => by rw [e3 b hb hb', up_row _ _ _ hb']⟩
    unfold X3_putIn_L30
    simp only [LT]
    simp (disch := omega) only [ZC, zI_sub, zI_add]
    rw [if_neg (by omega)]
    simp only [rd_gr ht.1 q1, Option.bind_some]
    rw [rd_ai ht.2 (i := p + j) (by omega) (by omega) (by omega) (h1 (p + j) _ hx (by omega)), Option.bind_some, wr_si ht.2 (i := p + j + 1) (by omega) (by omega) (by omega), Option.bind_some]
    simp only [zI_neg, zI_add]
    rw [show ((p + (j + 1) : Nat) : Int) + (-1) = ((p + j : Nat) : Int) by omega]
    exact e1
theorem X3_putIn_eq (ht : fanT e.1 a) (h : fanR m a l) {p c : Nat} (hp : p ≤ l.length) (hl : l.length < 10) (hN : 20 < e.2.2) : ∃ m', X3_putIn e a (zI p) (zI c) m = some m' ∧ fanR m' a (l.insertIdx p c) ∧ ∀ b, b ≠ a → b ≠ a + 1 → m' b = m b := by
  obtain ⟨q1, q2, q3, q4⟩ := h
  obtain ⟨m', e1, e2, e3⟩ := X3_putIn_loop (e := e) ht (p := p) (c := c) hl hp (l.length - p) e.2.2 m (by omega) (by omega) q1 q2 (fun k x hk _ => q4 k x hk)
    (fun k x hk hki => absurd (List.getElem?_eq_some_iff.mp hk).1 (by omega))
  refine ⟨m', ?_, e2, e3⟩
  unfold X3_putIn
  simp only [X3_putIn_b24, rd_gi ht.1 q2, rd_gr ht.1 q1, rd_ln ht.2 (by decide) (by decide), Option.bind_some, LT]
  simp (disch := omega) only [ZC]
  rw [if_neg (by omega), if_neg (by omega), if_pos (by omega)]
  rw [show (p + (l.length - p) : Nat) = l.length by omega] at e1
  exact e1
theorem X3_copyFrom_loop {b : Nat} {l2 : List Nat} (ht : fanT e.1 a) (ht2 : fanT e.1 b) (hab : b + 1 < a ∨ a + 1 < b) (hl : l2.length ≤ 10) : ∀ (j i n : Nat) (m : mm_V), i + j = l2.length → j < n → m a 0 = .ref (a + 1) → fanR m b l2 → (∀ k c : Nat, l2[k]? = some c → k < i → m (a + 1) k = .int (zI c)) → ∃ m', X3_copyFrom_L2 e a b n (zI i) m = some m' ∧ fanR m' a l2 ∧ ∀ x, x ≠ a → x ≠ a + 1 → m' x = m x := by
  intro j
  induction j with
  | zero =>
    intro i n m hi hn q1 hb h1
    obtain ⟨n, rfl⟩ : ∃ n', n = n' + 1 := ⟨n - 1, by omega⟩
    refine ⟨mm_up m a 1 (.int (zI l2.length)), ?_, ⟨?_, up_at _ _ _ _, hl, fun k c hk => ?_⟩, fun x hx _ => up_row _ _ _ hx⟩
    · unfold X3_copyFrom_L2
      simp only [rd_gi ht2.1 hb.2.1, Option.bind_some]
      simp (disch := omega) only [ZC]
      rw [if_pos (by omega)]
      unfold X3_copyFrom_b37
      simp only [rd_gi ht2.1 hb.2.1, wr_pf ht.1, Option.bind_some]
    · rw [up_ne _ _ (Or.inr (by decide))]; exact q1
    · rw [up_ne _ _ (Or.inl (by omega))]; exact h1 k c hk (by have := (List.getElem?_eq_some_iff.mp hk).1; omega)
  | succ j ih =>
    intro i n m hi hn q1 hb h1
    obtain ⟨n, rfl⟩ : ∃ n', n = n' + 1 := ⟨n - 1, by omega⟩
    have hlt : i < l2.length := by omega
    have hx : l2[i]? = some l2[i] := List.getElem?_eq_getElem hlt
    obtain ⟨m', e1, e2, e3⟩ := ih (i + 1) n (mm_up m (a + 1) i (.int (zI l2[i]))) (by omega) (by omega) (by rw [up_ne _ _ (Or.inl (by omega))]; exact q1) (hb.keep (up_row _ _ _ (by omega)) (up_row _ _ _ (by omega)))
      (fun k c hk hki => by
        by_cases hk' : k = i
        · subst hk'
          rw [up_at]
          rw [hx] at hk; cases hk; rfl
        · rw [up_ne _ _ (Or.inr hk')]; exact h1 k c hk (by omega))
    refine ⟨m', ?_, e2, fun x hx1 hx2 => by rw [e3 x hx1 hx2, up_row _ _ _ hx2]⟩
    unfold X3_copyFrom_L2
    simp only [rd_gi ht2.1 hb.2.1, rd_gr ht.1 q1, rd_gr ht2.1 hb.1, rd_ln ht.2 (by decide) (by decide), Option.bind_some, LT]
    simp (disch := omega) only [ZC]
    rw [if_neg (by omega), if_neg (by omega), rd_ai ht2.2 (i := i) rfl (by omega) (by omega) (hb.2.2.2 i _ hx), Option.bind_some, wr_si ht.2 (i := i) rfl (by omega) (by omega), Option.bind_some, zI_add]
    exact e1
theorem X3_copyFrom_eq {b : Nat} {l2 : List Nat} (ht : fanT e.1 a) (ht2 : fanT e.1 b) (hab : b + 1 < a ∨ a + 1 < b) (h : fanR m a l) (h2 : fanR m b l2) (hN : 20 < e.2.2) : ∃ m', X3_copyFrom e a b m = some m' ∧ fanR m' a l2 ∧ ∀ x, x ≠ a → x ≠ a + 1 → m' x = m x := by
  have := X3_copyFrom_loop (e := e) ht ht2 hab h2.2.2.1 l2.length 0 e.2.2 m (by omega) (by have := h2.2.2.1; omega) h.1 h2 (fun k c _ hk => absurd hk (by omega))
  unfold X3_copyFrom
  exact this
end FANS
