/-! ROWS of the model: turn, draws, six sizes, six last places, six fans of 19. -/
def setF {α : Type} (f : Nat → α) (p : Nat) (v : α) : Nat → α := fun q => if q = p then v else f q
theorem setF_at {α : Type} (f : Nat → α) (p : Nat) (v : α) : setF f p v p = v := by simp [setF]
theorem setF_ne {α : Type} (f : Nat → α) {p q : Nat} (v : α) (h : q ≠ p) : setF f p v q = f q := by simp [setF, h]
def rowF (m : mm_V) (r : Nat) (f : Nat → List Nat) : Prop := ∀ p, p < 6 → m r (2 + p) = .int (zI (f p).length) ∧ (f p).length ≤ 19 ∧ ∀ k c : Nat, (f p)[k]? = some c → m r (14 + 19 * p + k) = .int (zI c)
theorem rowF.keep {m m' : mm_V} {r : Nat} {f : Nat → List Nat} (h : rowF m r f) (h1 : ∀ j, 2 ≤ j → j < 8 → m' r j = m r j) (h2 : ∀ j, 14 ≤ j → j < 128 → m' r j = m r j) : rowF m' r f := by
  intro p hp
  obtain ⟨a, b, c⟩ := h p hp
  refine ⟨by rw [h1 _ (by omega) (by omega)]; exact a, b, fun k x hk => ?_⟩
  have := (List.getElem?_eq_some_iff.mp hk).1
  rw [h2 _ (by omega) (by omega)]; exact c k x hk
theorem rowF.keep' {m m' : mm_V} {r : Nat} {f : Nat → List Nat} (h : rowF m r f) (h1 : m' r = m r) : rowF m' r f := h.keep (fun _ _ _ => by rw [h1]) (fun _ _ _ => by rw [h1])
section ROWS
variable {e : mm_E} {m : mm_V} {r : Nat} {f : Nat → List Nat} {p : Nat}
theorem X12_size_eq (ht : e.1 r = some (20, 128)) (h : rowF m r f) (hp : p < 6) : X12_size e r (zI p) m = some (zI (f p).length, m) := by
  unfold X12_size
  simp only [LT, ZA]
  rw [rd_ai ht (i := 2 + p) (by omega) (by omega) (by omega) (h p hp).1]
  rfl
theorem X12_card_eq (ht : e.1 r = some (20, 128)) (h : rowF m r f) (hp : p < 6) {k c : Nat} (hc : (f p)[k]? = some c) : X12_card e r (zI p) (zI k) m = some (zI c, m) := by
  have h1 := (h p hp).2.1
  have h2 := (List.getElem?_eq_some_iff.mp hc).1
  unfold X12_card
  simp only [LT, ZA]
  rw [rd_ai ht (i := 14 + 19 * p + k) (by omega) (by omega) (by omega) ((h p hp).2.2 k c hc)]
  rfl
theorem X12_placeOf_loop (ht : e.1 r = some (20, 128)) (h : rowF m r f) (hp : p < 6) (hl : ∀ x ∈ f p, x < 1000) {c : Nat} (hc : c < 1000) : ∀ (j i n : Nat), i + j = (f p).length → j < n → X12_placeOf_L2 e r (zI p) (zI c) n (zI i) m = some (ozI ((idx c ((f p).drop i)).map (· + i)), m) := by
  have h19 := (h p hp).2.1
  intro j
  induction j with
  | zero =>
    intro i n hi hn
    obtain ⟨n, rfl⟩ : ∃ n', n = n' + 1 := ⟨n - 1, by omega⟩
    unfold X12_placeOf_L2
    simp only [X12_size_eq ht h hp, Option.bind_some]
    simp (disch := omega) only [ZC]
    rw [if_pos (by omega), List.drop_of_length_le (by omega)]
    rfl
  | succ j ih =>
    intro i n hi hn
    obtain ⟨n, rfl⟩ : ∃ n', n = n' + 1 := ⟨n - 1, by omega⟩
    have hlt : i < (f p).length := by omega
    have hx : (f p)[i]? = some (f p)[i] := List.getElem?_eq_getElem hlt
    have hxl := hl _ (List.getElem_mem hlt)
    unfold X12_placeOf_L2
    simp only [X12_size_eq ht h hp, X12_card_eq ht h hp hx, Option.bind_some]
    simp (disch := omega) only [ZC]
    rw [if_neg (by omega), List.drop_eq_getElem_cons hlt]
    by_cases hq : (f p)[i] = c
    · rw [if_neg (by omega)]
      simp [idx, hq, ozI]
    · rw [if_pos (by omega), show zI (i : Int) + 1 = zI ((i + 1 : Nat) : Int) from zI_add i 1, ih (i + 1) n (by omega) (by omega)]
      simp only [idx, if_neg hq, Option.map_map]
      congr 2
      refine congrArg ozI (congrArg (fun f => Option.map f _) ?_)
      funext x
      show x + (i + 1) = x + 1 + i
      omega
theorem X12_placeOf_eq (ht : e.1 r = some (20, 128)) (h : rowF m r f) (hp : p < 6) (hl : ∀ x ∈ f p, x < 1000) {c : Nat} (hc : c < 1000) (hN : 20 < e.2.2) : X12_placeOf e r (zI p) (zI c) m = some (ozI (idx c (f p)), m) := by
  have h1 := X12_placeOf_loop ht h hp hl hc (f p).length 0 e.2.2 (by omega) (by have := (h p hp).2.1; omega)
  unfold X12_placeOf
  have e0 : (idx c ((f p).drop 0)).map (· + 0) = idx c (f p) := by rw [List.drop_zero]; cases idx c (f p) <;> rfl
  rw [e0] at h1
  exact h1
/-- all but one fan of a row, and what stands before -/
def rowK (m m' : mm_V) (r p : Nat) : Prop := (∀ b, b ≠ r → m' b = m b) ∧ ∀ j, j ≠ 2 + p → (j < 14 + 19 * p ∨ 14 + 19 * p + 19 ≤ j) → m' r j = m r j
theorem rowK.trans {m1 m2 m3 : mm_V} {r p : Nat} (h1 : rowK m1 m2 r p) (h2 : rowK m2 m3 r p) : rowK m1 m3 r p :=
  ⟨fun b hb => by rw [h2.1 b hb, h1.1 b hb], fun j a b => by rw [h2.2 j a b, h1.2 j a b]⟩
theorem rowK.up {m : mm_V} {r p j : Nat} {v : Value} (h : j = 2 + p ∨ (14 + 19 * p ≤ j ∧ j < 14 + 19 * p + 19)) : rowK m (mm_up m r j v) r p :=
  ⟨fun _ hb => up_row _ _ _ hb, fun _ _ _ => up_ne _ _ (Or.inr (by omega))⟩
theorem rowF.set {m m' : mm_V} {r p : Nat} {f : Nat → List Nat} {l : List Nat} (h : rowF m r f) (hp : p < 6) (hk : rowK m m' r p) (h1 : m' r (2 + p) = .int (zI l.length)) (h2 : l.length ≤ 19) (h3 : ∀ k c : Nat, l[k]? = some c → m' r (14 + 19 * p + k) = .int (zI c)) : rowF m' r (setF f p l) := by
  intro q hq
  by_cases hqp : q = p
  · subst hqp
    rw [setF_at]; exact ⟨h1, h2, h3⟩
  · rw [setF_ne _ _ hqp]
    obtain ⟨a, b, c⟩ := h q hq
    refine ⟨by rw [hk.2 _ (by omega) (by omega)]; exact a, b, fun k x hx => ?_⟩
    have := (List.getElem?_eq_some_iff.mp hx).1
    rw [hk.2 _ (by omega) (by omega)]; exact c k x hx
theorem X12_takes_loop (ht : e.1 r = some (20, 128)) (hp : p < 6) {l : List Nat} {q : Nat} {c0 : Int32} (hl : l.length ≤ 19) : ∀ (j i n : Nat) (m : mm_V), i + j + 1 = l.length → q ≤ i → j < n → m r (2 + p) = .int (zI (l.length - 1 : Nat)) → (∀ k c : Nat, (l.eraseIdx q)[k]? = some c → k < i → m r (14 + 19 * p + k) = .int (zI c)) → (∀ k c : Nat, l[k]? = some c → i < k → m r (14 + 19 * p + k) = .int (zI c)) → ∃ m', X12_takes_L19 e r (zI p) c0 n (zI i) m = some (c0, m') ∧ rowK m m' r p ∧ m' r (2 + p) = .int (zI (l.length - 1 : Nat)) ∧ ∀ k c : Nat, (l.eraseIdx q)[k]? = some c → m' r (14 + 19 * p + k) = .int (zI c) := by
  intro j
  induction j with
  | zero =>
    intro i n m hi hq hn h0 h1 h2
    obtain ⟨n, rfl⟩ : ∃ n', n = n' + 1 := ⟨n - 1, by omega⟩
    refine ⟨m, ?_, ⟨fun _ _ => rfl, fun _ _ _ => rfl⟩, h0, fun k c hk => ?_⟩
    · unfold X12_takes_L19 X12_size
      simp only [LT, ZA]
      rw [rd_ai ht (i := 2 + p) (by omega) (by omega) (by omega) h0]
      simp only [Option.bind_some]
      simp (disch := omega) only [ZC]
      rw [if_pos (by omega)]
    · have hk' := (List.getElem?_eq_some_iff.mp hk).1
      rw [List.length_eraseIdx_of_lt (by omega)] at hk'
      exact h1 k c hk (by omega)
  | succ j ih =>
    intro i n m hi hq hn h0 h1 h2
    obtain ⟨n, rfl⟩ : ∃ n', n = n' + 1 := ⟨n - 1, by omega⟩
    have hlt : i + 1 < l.length := by omega
    have hx : l[i + 1]? = some l[i + 1] := List.getElem?_eq_getElem hlt
    obtain ⟨m', e1, e2, e3, e4⟩ := ih (i + 1) n (mm_up m r (14 + 19 * p + i) (.int (zI l[i + 1]))) (by omega) (by omega) (by omega) (by rw [up_ne _ _ (Or.inr (by omega))]; exact h0)
      (fun k c hk hki => by
        by_cases hki' : k = i
        · subst hki'
          rw [up_at]
          rw [List.getElem?_eraseIdx_of_ge (by omega), hx] at hk
          cases hk; rfl
        · rw [up_ne _ _ (Or.inr (by omega))]; exact h1 k c hk (by omega))
      (fun k c hk hki => by rw [up_ne _ _ (Or.inr (by omega))]; exact h2 k c hk (by omega))
    refine ⟨m', ?_, (rowK.up (by omega)).trans e2, e3, e4⟩
    unfold X12_takes_L19 X12_size X12_card
    simp only [LT, ZA]
    rw [rd_ai ht (i := 2 + p) (by omega) (by omega) (by omega) h0]
    simp only [Option.bind_some]
    simp (disch := omega) only [ZC]
    rw [if_neg (by omega), rd_ai ht (i := 14 + 19 * p + (i + 1)) (by omega) (by omega) (by omega) (h2 (i + 1) _ hx (by omega))]
    simp only [Option.bind_some]
    rw [wr_si ht (i := 14 + 19 * p + i) (by omega) (by omega) (by omega)]
    exact e1
theorem X12_takes_eq (ht : e.1 r = some (20, 128)) (h : rowF m r f) (hp : p < 6) {k c : Nat} (hc : (f p)[k]? = some c) (hN : 20 < e.2.2) : ∃ m', X12_takes e r (zI p) (zI k) m = some (zI c, m') ∧ rowF m' r (setF f p ((f p).eraseIdx k)) ∧ rowK m m' r p := by
  obtain ⟨a1, a2, a3⟩ := h p hp
  have hk := (List.getElem?_eq_some_iff.mp hc).1
  have hlen : ((f p).eraseIdx k).length = (f p).length - 1 := List.length_eraseIdx_of_lt hk
  obtain ⟨m', e1, e2, e3, e4⟩ := X12_takes_loop (e := e) ht hp (l := f p) (q := k) (c0 := zI c) a2 ((f p).length - 1 - k) k e.2.2 (mm_up m r (2 + p) (.int (zI ((f p).length - 1 : Nat)))) (by omega) (by omega) (by omega) (up_at _ _ _ _)
    (fun i x hx hi => by rw [List.getElem?_eraseIdx_of_lt (by omega)] at hx; rw [up_ne _ _ (Or.inr (by omega))]; exact a3 i x hx)
    (fun i x hx hi => by rw [up_ne _ _ (Or.inr (by omega))]; exact a3 i x hx)
  have hK : rowK m m' r p := (rowK.up (by omega)).trans e2
  refine ⟨m', ?_, h.set hp hK (by rw [hlen]; exact e3) (by omega) e4, hK⟩
  unfold X12_takes
  rw [X12_card_eq ht h hp hc]
  simp only [LT, ZA, Option.bind_some]
  rw [rd_ai ht (i := 2 + p) (by omega) (by omega) (by omega) a1, Option.bind_some, zI_sub, wr_si ht (i := 2 + p) (by omega) (by omega) (by omega), Option.bind_some]
  rw [show ((f p).length : Int) - 1 = ((f p).length - 1 : Nat) by omega]
  exact e1
theorem X12_inserts_loop (ht : e.1 r = some (20, 128)) (hp : p < 6) {l : List Nat} {q c : Nat} (hl : l.length < 19) (hq : q ≤ l.length) : ∀ (j n : Nat) (m : mm_V), q + j ≤ l.length → j < n → m r (2 + p) = .int (zI l.length) → (∀ k x : Nat, l[k]? = some x → k < q + j → m r (14 + 19 * p + k) = .int (zI x)) → (∀ k x : Nat, l[k]? = some x → q + j ≤ k → m r (14 + 19 * p + (k + 1)) = .int (zI x)) → ∃ m', X12_inserts_L7 e r (zI p) (zI q) (zI c) n (zI (q + j : Nat)) m = some m' ∧ rowK m m' r p ∧ m' r (2 + p) = .int (zI (l.length + 1 : Nat)) ∧ ∀ k x : Nat, (l.insertIdx q c)[k]? = some x → m' r (14 + 19 * p + k) = .int (zI x) := by
  intro j
  induction j with
  | zero =>
    intro n m hj hn h0 h1 h2
    obtain ⟨n, rfl⟩ : ∃ n', n = n' + 1 := ⟨n - 1, by omega⟩
    refine ⟨mm_up (mm_up m r (14 + 19 * p + q) (.int (zI c))) r (2 + p) (.int (zI (l.length + 1 : Nat))), ?_, (rowK.up (by omega)).trans (rowK.up (by omega)), up_at _ _ _ _, fun k x hk => ?_⟩
    · unfold X12_inserts_L7
      simp only [LT, ZA]
      simp (disch := omega) only [ZC]
      rw [if_pos (by omega), wr_si ht (i := 14 + 19 * p + q) (by omega) (by omega) (by omega)]
      simp only [Option.bind_some]
      rw [rd_ai ht (i := 2 + p) (by omega) (by omega) (by omega) (by rw [up_ne _ _ (Or.inr (by omega))]; exact h0)]
      simp only [Option.bind_some]
      rw [wr_si ht (i := 2 + p) (by omega) (by omega) (by omega), zI_add]
      rfl
    · rw [up_ne _ _ (Or.inr (by omega))]
      rcases Nat.lt_trichotomy k q with hkp | hkp | hkp
      · rw [List.getElem?_insertIdx_of_lt hkp] at hk
        rw [up_ne _ _ (Or.inr (by omega))]; exact h1 k x hk (by omega)
      · subst hkp
        rw [List.getElem?_insertIdx_self, if_pos hq] at hk
        cases hk
        exact up_at _ _ _ _
      · rw [List.getElem?_insertIdx_of_gt hkp] at hk
        rw [up_ne _ _ (Or.inr (by omega))]
        have := h2 (k - 1) x hk (by omega)
        rw [show k - 1 + 1 = k by omega] at this
        exact this
  | succ j ih =>
    intro n m hj hn h0 h1 h2
    obtain ⟨n, rfl⟩ : ∃ n', n = n' + 1 := ⟨n - 1, by omega⟩
    have hlt : q + j < l.length := by omega
    have hx : l[q + j]? = some l[q + j] := List.getElem?_eq_getElem hlt
    obtain ⟨m', e1, e2, e3, e4⟩ := ih n (mm_up m r (14 + 19 * p + (q + j + 1)) (.int (zI l[q + j]))) (by omega) (by omega) (by rw [up_ne _ _ (Or.inr (by omega))]; exact h0)
      (fun k x hk hki => by rw [up_ne _ _ (Or.inr (by omega))]; exact h1 k x hk (by omega))
      (fun k x hk hki => by
        by_cases hk' : k = q + j
        · subst hk'
          rw [up_at]
          rw [hx] at hk; cases hk; rfl
        · rw [up_ne _ _ (Or.inr (by omega))]; exact h2 k x hk (by omega))
    refine ⟨m', ?_, (rowK.up (by omega)).trans e2, e3, e4⟩
    unfold X12_inserts_L7 X12_card
    simp only [LT, ZA]
    simp (disch := omega) only [ZC]
    rw [if_neg (by omega), rd_ai ht (i := 14 + 19 * p + (q + j)) (by omega) (by omega) (by omega) (h1 (q + j) _ hx (by omega))]
    simp only [Option.bind_some]
    rw [wr_si ht (i := 14 + 19 * p + (q + j + 1)) (by omega) (by omega) (by omega)]
    simp only [Option.bind_some]
    rw [show ((q + (j + 1) : Nat) : Int) + (-1) = ((q + j : Nat) : Int) by omega]
    exact e1
theorem X12_inserts_eq (ht : e.1 r = some (20, 128)) (h : rowF m r f) (hp : p < 6) {k c : Nat} (hk : k ≤ (f p).length) (hl : (f p).length < 19) (hN : 20 < e.2.2) : ∃ m', X12_inserts e r (zI p) (zI k) (zI c) m = some m' ∧ rowF m' r (setF f p ((f p).insertIdx k c)) ∧ rowK m m' r p := by
  obtain ⟨a1, a2, a3⟩ := h p hp
  have hlen : ((f p).insertIdx k c).length = (f p).length + 1 := List.length_insertIdx_of_le_length hk c
  obtain ⟨m', e1, e2, e3, e4⟩ := X12_inserts_loop (e := e) ht hp (l := f p) (q := k) (c := c) hl hk ((f p).length - k) e.2.2 m (by omega) (by omega) a1 (fun i x hx _ => a3 i x hx)
    (fun i x hx hi => absurd (List.getElem?_eq_some_iff.mp hx).1 (by omega))
  refine ⟨m', ?_, h.set hp e2 (by rw [hlen]; exact e3) (by omega) e4, e2⟩
  unfold X12_inserts
  rw [X12_size_eq ht h hp]
  simp only [Option.bind_some]
  rw [show (k + ((f p).length - k) : Nat) = (f p).length by omega] at e1
  exact e1
theorem X12_clears_loop (ht : e.1 r = some (20, 128)) : ∀ (j i n : Nat) (m : mm_V), i + j = 128 → j < n → (∀ k, k < i → m r k = .int (zI 0)) → ∃ m', X12_clears_L2 e r n (zI i) m = some m' ∧ (∀ b, b ≠ r → m' b = m b) ∧ ∀ k, k < 128 → m' r k = .int (zI 0) := by
  intro j
  induction j with
  | zero =>
    intro i n m hi hn h
    obtain ⟨n, rfl⟩ : ∃ n', n = n' + 1 := ⟨n - 1, by omega⟩
    refine ⟨m, ?_, fun _ _ => rfl, fun k hk => h k (by omega)⟩
    unfold X12_clears_L2
    simp only [LT, ZA]
    simp (disch := omega) only [ZC]
    rw [if_pos (by omega)]
  | succ j ih =>
    intro i n m hi hn h
    obtain ⟨n, rfl⟩ : ∃ n', n = n' + 1 := ⟨n - 1, by omega⟩
    obtain ⟨m', e1, e2, e3⟩ := ih (i + 1) n (mm_up m r i (.int (zI 0))) (by omega) (by omega) (fun k hk => by
      by_cases hki : k = i
      · subst hki; exact up_at _ _ _ _
      · rw [up_ne _ _ (Or.inr hki)]; exact h k (by omega))
    refine ⟨m', ?_, fun b hb => by rw [e2 b hb, up_row _ _ _ hb], e3⟩
    unfold X12_clears_L2
    simp only [LT, ZA]
    simp (disch := omega) only [ZC]
    rw [if_neg (by omega), wr_si ht (i := i) rfl (by omega) (by omega)]
    simp only [Option.bind_some]
    exact e1
theorem X12_clears_eq (ht : e.1 r = some (20, 128)) (hN : 128 < e.2.2) (q : Nat) : ∃ m', X12_clears e q r m = some m' ∧ (∀ b, b ≠ r → m' b = m b) ∧ ∀ k, k < 128 → m' r k = .int (zI 0) := X12_clears_loop ht 128 0 e.2.2 m (by omega) (by omega) (fun k hk => absurd hk (by omega))
theorem X12_copies_loop {n1 n2 r2 : Nat} (h12 : n1 ≤ n2) (hn : n2 ≤ 100000) (ht : e.1 r = some (20, n1)) (ht2 : e.1 r2 = some (20, n2)) (hr : r ≠ r2) {v : Nat → Int32} : ∀ (j i n : Nat) (m : mm_V), i + j = n1 → j < n → (∀ k, k < n1 → m r k = .int (v k)) → (∀ k, k < i → m r2 k = .int (v k)) → ∃ m', X12_copies_L2 e r r2 n (zI i) m = some m' ∧ (∀ b, b ≠ r2 → m' b = m b) ∧ (∀ k, n1 ≤ k → m' r2 k = m r2 k) ∧ ∀ k, k < n1 → m' r2 k = .int (v k) := by
  intro j
  induction j with
  | zero =>
    intro i n m hi hn h1 h2
    obtain ⟨n, rfl⟩ : ∃ n', n = n' + 1 := ⟨n - 1, by omega⟩
    refine ⟨m, ?_, fun _ _ => rfl, fun _ _ => rfl, fun k hk => h2 k (by omega)⟩
    unfold X12_copies_L2
    rw [rd_ln ht (by decide) (by decide)]
    simp only [Option.bind_some]
    simp (disch := omega) only [ZC]
    rw [if_pos (by omega)]
  | succ j ih =>
    intro i n m hi hn h1 h2
    obtain ⟨n, rfl⟩ : ∃ n', n = n' + 1 := ⟨n - 1, by omega⟩
    obtain ⟨m', e1, e2, e3, e4⟩ := ih (i + 1) n (mm_up m r2 i (.int (v i))) (by omega) (by omega) (fun k hk => by rw [up_ne _ _ (Or.inl hr)]; exact h1 k hk) (fun k hk => by
      by_cases hki : k = i
      · subst hki; exact up_at _ _ _ _
      · rw [up_ne _ _ (Or.inr hki)]; exact h2 k (by omega))
    refine ⟨m', ?_, fun b hb => by rw [e2 b hb, up_row _ _ _ hb], fun k hk => by rw [e3 k hk, up_ne _ _ (Or.inr (by omega))], e4⟩
    unfold X12_copies_L2
    rw [rd_ln ht (by decide) (by decide)]
    simp only [Option.bind_some, LT, ZA]
    simp (disch := omega) only [ZC]
    rw [if_neg (by omega), rd_ai ht (i := i) rfl (by omega) (by omega) (h1 i (by omega))]
    simp only [Option.bind_some]
    rw [wr_si ht2 (i := i) rfl (by omega) (by omega)]
    exact e1
theorem X12_copies_eq {n1 n2 r2 : Nat} (h12 : n1 ≤ n2) (hn : n2 ≤ 100000) (ht : e.1 r = some (20, n1)) (ht2 : e.1 r2 = some (20, n2)) (hr : r ≠ r2) {v : Nat → Int32} (h : ∀ k, k < n1 → m r k = .int (v k)) (hN : n1 < e.2.2) (q : Nat) : ∃ m', X12_copies e q r r2 m = some m' ∧ (∀ b, b ≠ r2 → m' b = m b) ∧ (∀ k, n1 ≤ k → m' r2 k = m r2 k) ∧ ∀ k, k < n1 → m' r2 k = .int (v k) := X12_copies_loop h12 hn ht ht2 hr n1 0 e.2.2 m (by omega) (by omega) h (fun k hk => absurd hk (by omega))
end ROWS
