/-! ORDERS OF SEATS: the next one as rows go, class and model. -/
def gO (o : List Nat) (i : Nat) : Nat := o.getD i 0
def swL (o : List Nat) (a b : Nat) : List Nat := (o.set a (gO o b)).set b (gO o a)
def pvO (o : List Nat) : Nat → Nat
  | 0 => 0
  | p + 1 => if gO o (p + 2) < gO o (p + 1) then pvO o p else p + 1
def otO (o : List Nat) (p : Nat) : Nat → Nat
  | 0 => p
  | j + 1 => if gO o (p + j + 1) < gO o p then otO o p j else p + j + 1
def rvO : Nat → List Nat → Nat → Nat → List Nat
  | 0, o, _, _ => o
  | n + 1, o, i, j => if i < j then rvO n (swL o i j) (i + 1) (j - 1) else o
def nxO (N : Nat) (o : List Nat) : Option (List Nat) := if pvO o (N - 2) = 0 then none else some (rvO 6 (swL o (pvO o (N - 2)) (otO o (pvO o (N - 2)) (N - 1 - pvO o (N - 2)))) (pvO o (N - 2) + 1) (N - 1))
def nuO (o : List Nat) : Nat → Nat → Nat
  | 0, v => v
  | i + 1, v => nuO o i (6 * v + gO o i)
def enO (N : Nat) : Nat → List Nat → Bool
  | 0, _ => false
  | k + 1, o => match nxO N o with
    | none => true
    | some o' => enO N k o'
def idO : List Nat := [0, 1, 2, 3, 4, 5]
theorem enO_120 : enO 2 120 idO = true ∧ enO 3 120 idO = true ∧ enO 4 120 idO = true ∧ enO 5 120 idO = true ∧ enO 6 120 idO = true := by decide +kernel
theorem gO_set {o : List Nat} {a x i : Nat} (ha : a < o.length) : gO (o.set a x) i = if i = a then x else gO o i := by
  unfold gO
  rw [List.getD_eq_getElem?_getD, List.getD_eq_getElem?_getD, List.getElem?_set]
  by_cases h : a = i
  · rw [if_pos h, if_pos ha, if_pos h.symm]; rfl
  · rw [if_neg h, if_neg (fun hh => h hh.symm)]
theorem gO_sw {o : List Nat} {a b i : Nat} (ha : a < o.length) (hb : b < o.length) : gO (swL o a b) i = if i = b then gO o a else if i = a then gO o b else gO o i := by
  unfold swL
  rw [gO_set (by rw [List.length_set]; exact hb), gO_set ha]
theorem len_sw (o : List Nat) (a b : Nat) : (swL o a b).length = o.length := by unfold swL; rw [List.length_set, List.length_set]
/-- an order of N people on six seats -/
def okO (N : Nat) (o : List Nat) : Prop := o.length = 6 ∧ (∀ i, i < N → gO o i < N) ∧ (∀ w, w < N → ∃ i, i < N ∧ gO o i = w ∧ ∀ j, j < N → gO o j = w → j = i) ∧ ∀ i, N ≤ i → i < 6 → gO o i = i
theorem okO_id {N : Nat} (h6 : N ≤ 6) : okO N idO := by
  have h : ∀ i, i < 6 → gO idO i = i := by decide
  exact ⟨rfl, fun i hi => by rw [h i (by omega)]; exact hi, fun w hw => ⟨w, hw, h w (by omega), fun j hj hh => by rw [h j (by omega)] at hh; exact hh⟩, fun i _ hi => h i hi⟩
theorem gO_sgm {o : List Nat} {a b i : Nat} (ha : a < o.length) (hb : b < o.length) : gO (swL o a b) i = gO o (sgm a b i) := by
  rw [gO_sw ha hb]
  unfold sgm
  by_cases h1 : i = b
  · rw [if_pos h1]
    by_cases h2 : i = a
    · rw [if_pos h2, ← h1, h2]
    · rw [if_neg h2, if_pos h1]
  · rw [if_neg h1]
    by_cases h2 : i = a
    · rw [if_pos h2, if_pos h2]
    · rw [if_neg h2, if_neg h2, if_neg h1]
theorem okO_sw {N a b : Nat} {o : List Nat} (h6 : N ≤ 6) (h : okO N o) (ha : a < N) (hb : b < N) : okO N (swL o a b) := by
  obtain ⟨h1, h2, h3, h4⟩ := h
  have e : ∀ i, gO (swL o a b) i = gO o (sgm a b i) := fun i => gO_sgm (by omega) (by omega)
  refine ⟨by rw [len_sw]; exact h1, fun i hi => by rw [e]; exact h2 _ (sgm_lt ha hb hi), fun w hw => ?_, fun i x1 x2 => ?_⟩
  · obtain ⟨i, i1, i2, i3⟩ := h3 w hw
    refine ⟨sgm a b i, sgm_lt ha hb i1, by rw [e, sgm_sgm]; exact i2, fun j hj hh => ?_⟩
    rw [e] at hh
    rw [← i3 _ (sgm_lt ha hb hj) hh, sgm_sgm]
  · rw [e]
    unfold sgm
    rw [if_neg (by omega), if_neg (by omega)]
    exact h4 i x1 x2
theorem pvO_le (o : List Nat) : ∀ n, pvO o n ≤ n
  | 0 => Nat.le_refl _
  | n + 1 => by rw [pvO]; split; exact Nat.le_succ_of_le (pvO_le o n); exact Nat.le_refl _
theorem otO_le (o : List Nat) (p : Nat) : ∀ j, p ≤ otO o p j ∧ otO o p j ≤ p + j
  | 0 => ⟨Nat.le_refl _, Nat.le_refl _⟩
  | j + 1 => by
    have := otO_le o p j
    rw [otO]; split <;> omega
theorem okO_rv {N : Nat} (h6 : N ≤ 6) : ∀ (n : Nat) (o : List Nat) (i j : Nat), okO N o → j < N → okO N (rvO n o i j)
  | 0, _, _, _, h, _ => h
  | n + 1, o, i, j, h, hj => by
    rw [rvO]
    split
    · exact okO_rv h6 n _ _ _ (okO_sw h6 h (by omega) hj) (by omega)
    · exact h
theorem okO_nx {N : Nat} {o o' : List Nat} (h2 : 2 ≤ N) (h6 : N ≤ 6) (h : okO N o) (hn : nxO N o = some o') : okO N o' := by
  unfold nxO at hn
  have p1 := pvO_le o (N - 2)
  have p2 := otO_le o (pvO o (N - 2)) (N - 1 - pvO o (N - 2))
  split at hn
  · cases hn
  · cases hn
    exact okO_rv h6 _ _ _ _ (okO_sw h6 h (by omega) (by omega)) (by omega)
theorem nuO_lt {N : Nat} {o : List Nat} (h : okO N o) (h6 : N ≤ 6) : ∀ (i v : Nat), i ≤ N → v < 6 ^ (6 - i) → nuO o i v < 6 ^ 6
  | 0, v, _, hv => hv
  | i + 1, v, hi, hv => by
    rw [nuO]
    have h1 := h.2.1 i (by omega)
    refine nuO_lt h h6 i _ (by omega) ?_
    have e : 6 ^ (6 - i) = 6 * 6 ^ (6 - (i + 1)) := by rw [show 6 - i = 6 - (i + 1) + 1 by omega, Nat.pow_succ']
    omega
def ordM (m : mm_V) (b : Nat) (o : List Nat) : Prop := ∀ i, i < 6 → m b i = .int (zI (gO o i))
section ORDC
variable {e : mm_E} {u q N b : Nat}
/-! One proof for both: the array at b, read by rd, swapped by sw. -/
theorem ord_sw {m : mm_V} {o : List Nat} {i j : Nat} (h : ordM m b o) (hl : o.length = 6) (hi : i < 6) (hj : j < 6) : ordM (mm_up (mm_up m b i (.int (zI (gO o j)))) b j (.int (zI (gO o i)))) b (swL o i j) := by
  intro k hk
  rw [gO_sw (by omega) (by omega), up_pt]
  by_cases h1 : k = j
  · rw [if_pos h1, if_pos h1]
  · rw [if_neg h1, if_neg h1, up_pt]
    by_cases h2 : k = i
    · rw [if_pos h2, if_pos h2]
    · rw [if_neg h2, if_neg h2]; exact h k hk
theorem X6_swap_eq {m : mm_V} {o : List Nat} {i j : Nat} (hu : e.1 u = some (6, 12)) (h8 : e.1 (u + 8) = some (20, 6)) (hr : m u 3 = .ref (u + 8)) (h : ordM m (u + 8) o) (hl : o.length = 6) (hi : i < 6) (hj : j < 6) : ∃ m', X6_swap e u (zI i) (zI j) m = some m' ∧ ordM m' (u + 8) (swL o i j) ∧ ∀ b, b ≠ u + 8 → m' b = m b := by
  refine ⟨_, ?_, ord_sw h hl hi hj, fun b hb => by rw [up_row _ _ _ hb, up_row _ _ _ hb]⟩
  unfold X6_swap X6_swap_b46
  simp only [LT]
  rw [iln (by omega), ien (by omega), iln (by omega), ien (by omega), rd_gr hu hr, Option.bind_some, rd_ai h8 (i := i) rfl (by omega) (by omega) (h i hi), Option.bind_some, Option.bind_some, Option.bind_some, rd_ai h8 (i := j) rfl (by omega) (by omega) (h j hj), Option.bind_some, wr_si h8 (i := i) rfl (by omega) (by omega), Option.bind_some, rd_gr hu (v := u + 8) (by rw [up_ne _ _ (Or.inl (by omega))]; exact hr), Option.bind_some, wr_si h8 (i := j) rfl (by omega) (by omega), Option.bind_some]
theorem X12_swaps_eq {m : mm_V} {o : List Nat} {i j : Nat} (hT : modT e.1 q) (hS : modS m q) (h : ordM m (q + 18) o) (hl : o.length = 6) (hi : i < 6) (hj : j < 6) : ∃ m', X12_swaps e q (zI i) (zI j) m = some m' ∧ ordM m' (q + 18) (swL o i j) ∧ ∀ b, b ≠ q + 18 → m' b = m b := by
  refine ⟨_, ?_, ord_sw h hl hi hj, fun b hb => by rw [up_row _ _ _ hb, up_row _ _ _ hb]⟩
  unfold X12_swaps
  rw [rd_gr hT.me hS.sits_, Option.bind_some, rd_ai hT.sits_ (i := i) rfl (by omega) (by omega) (h i hi), Option.bind_some, Option.bind_some, Option.bind_some, rd_ai hT.sits_ (i := j) rfl (by omega) (by omega) (h j hj), Option.bind_some, wr_si hT.sits_ (i := i) rfl (by omega) (by omega), Option.bind_some, rd_gr hT.me (v := q + 18) (by rw [up_ne _ _ (Or.inl (by omega))]; exact hS.sits_), Option.bind_some, wr_si hT.sits_ (i := j) rfl (by omega) (by omega), Option.bind_some]
theorem X6_rev (hu : e.1 u = some (6, 12)) (h8 : e.1 (u + 8) = some (20, 6)) : ∀ (n nn i j : Nat) (m : mm_V) (o : List Nat), j < i + 2 * n → n < nn → j < 6 → i < 20 → m u 3 = .ref (u + 8) → ordM m (u + 8) o → o.length = 6 → ∃ m', X6_nextOrder_L85 e u nn (zI i) (zI j) m = some (zI 1, m') ∧ ordM m' (u + 8) (rvO n o i j) ∧ ∀ b, b ≠ u + 8 → m' b = m b := by
  intro n
  induction n with
  | zero =>
    intro nn i j m o hj hn h6 hi hr h hl
    obtain ⟨nn, rfl⟩ : ∃ n', nn = n' + 1 := ⟨nn - 1, by omega⟩
    refine ⟨m, ?_, h, fun _ _ => rfl⟩
    unfold X6_nextOrder_L85
    rw [iep (by omega)]; rfl
  | succ n ih =>
    intro nn i j m o hj hn h6 hi hr h hl
    obtain ⟨nn, rfl⟩ : ∃ n', nn = n' + 1 := ⟨nn - 1, by omega⟩
    rw [rvO]
    by_cases hij : i < j
    · rw [if_pos hij]
      obtain ⟨m1, a1, a2, a3⟩ := X6_swap_eq (e := e) (i := i) (j := j) hu h8 hr h hl (by omega) h6
      obtain ⟨m', e1, e2, e3⟩ := ih nn (i + 1) (j - 1) m1 (swL o i j) (by omega) (by omega) (by omega) (by omega) (by rw [a3 _ (by omega)]; exact hr) a2 (by rw [len_sw]; exact hl)
      refine ⟨m', ?_, e2, fun b hb => by rw [e3 b hb, a3 b hb]⟩
      unfold X6_nextOrder_L85
      rw [ien (by omega), a1, Option.bind_some]
      simp only [LT, ZA]
      rw [show ((j : Int) + -1) = ((j - 1 : Nat) : Int) by omega]
      exact e1
    · rw [if_neg hij]
      refine ⟨m, ?_, h, fun _ _ => rfl⟩
      unfold X6_nextOrder_L85
      rw [iep (by omega)]; rfl
theorem X12_rev (hT : modT e.1 q) : ∀ (n nn i j : Nat) (m : mm_V) (o : List Nat), j < i + 2 * n → n < nn → j < 6 → i < 20 → modS m q → ordM m (q + 18) o → o.length = 6 → ∃ m', X12_countsUp_L86 e q nn (zI i) (zI j) m = some (zI 1, m') ∧ ordM m' (q + 18) (rvO n o i j) ∧ ∀ b, b ≠ q + 18 → m' b = m b := by
  intro n
  induction n with
  | zero =>
    intro nn i j m o hj hn h6 hi hr h hl
    obtain ⟨nn, rfl⟩ : ∃ n', nn = n' + 1 := ⟨nn - 1, by omega⟩
    refine ⟨m, ?_, h, fun _ _ => rfl⟩
    unfold X12_countsUp_L86
    rw [iep (by omega)]; rfl
  | succ n ih =>
    intro nn i j m o hj hn h6 hi hr h hl
    obtain ⟨nn, rfl⟩ : ∃ n', nn = n' + 1 := ⟨nn - 1, by omega⟩
    rw [rvO]
    by_cases hij : i < j
    · rw [if_pos hij]
      obtain ⟨m1, a1, a2, a3⟩ := X12_swaps_eq (e := e) (i := i) (j := j) hT hr h hl (by omega) h6
      obtain ⟨m', e1, e2, e3⟩ := ih nn (i + 1) (j - 1) m1 (swL o i j) (by omega) (by omega) (by omega) (by omega) (hr.keep (fun _ _ _ => by rw [a3 _ (by omega)])) a2 (by rw [len_sw]; exact hl)
      refine ⟨m', ?_, e2, fun b hb => by rw [e3 b hb, a3 b hb]⟩
      unfold X12_countsUp_L86
      rw [ien (by omega), a1, Option.bind_some]
      simp only [LT, ZA]
      rw [show ((j : Int) + -1) = ((j - 1 : Nat) : Int) by omega]
      exact e1
    · rw [if_neg hij]
      refine ⟨m, ?_, h, fun _ _ => rfl⟩
      unfold X12_countsUp_L86
      rw [iep (by omega)]; rfl
def ordP (o : Option (List Nat)) (o0 : List Nat) (v : Int32) (m : mm_V) (b : Nat) : Prop := match o with
  | some o' => v = zI 1 ∧ ordM m b o'
  | none => v = zI 0 ∧ ordM m b o0
theorem okO.lt6 {o : List Nat} (h : okO N o) (h6 : N ≤ 6) : ∀ i, i < 6 → gO o i < 6 := fun i hi => by
  by_cases hN : i < N
  · have := h.2.1 i hN; omega
  · rw [h.2.2.2 i (by omega) hi]; exact hi
theorem X6_nextOrder_eq {m : mm_V} {o : List Nat} (hu : e.1 u = some (6, 12)) (h8 : e.1 (u + 8) = some (20, 6)) (hr : m u 3 = .ref (u + 8)) (h : ordM m (u + 8) o) (ok : okO N o) (h2 : 2 ≤ N) (h6 : N ≤ 6) (hN : 1000 < e.2.2) : ∃ v m', X6_nextOrder e u (zI N) m = some (v, m') ∧ ordP (nxO N o) o v m' (u + 8) ∧ ∀ b, b ≠ u + 8 → m' b = m b := by
  have lt := ok.lt6 h6
  have oth : ∀ (p : Nat), 1 ≤ p → p ≤ N - 2 → ∀ (j nn : Nat), p + j < N → j < nn → X6_nextOrder_L43 e u (zI N) (zI p) nn (zI (p + j : Nat)) m = X6_nextOrder_b69 e u (zI N) (zI p) (zI (otO o p j : Nat)) m := by
    intro p hp1 hp2 j
    induction j with
    | zero =>
      intro nn hj hn
      obtain ⟨nn, rfl⟩ : ∃ n', nn = n' + 1 := ⟨nn - 1, by omega⟩
      unfold X6_nextOrder_L43
      rw [iep (by omega)]; rfl
    | succ j ih =>
      intro nn hj hn
      obtain ⟨nn, rfl⟩ : ∃ n', nn = n' + 1 := ⟨nn - 1, by omega⟩
      have l1 := lt (p + j + 1) (by omega)
      have l2 := lt p (by omega)
      unfold X6_nextOrder_L43
      rw [ien (by omega), rd_gr hu hr, Option.bind_some, rd_ai h8 (i := p + j + 1) (by omega) (by omega) (by omega) (h _ (by omega)), Option.bind_some, Option.bind_some, rd_ai h8 (i := p) rfl (by omega) (by omega) (h p (by omega)), Option.bind_some, otO]
      by_cases hc : gO o (p + j + 1) < gO o p
      · rw [if_pos hc, ien (by omega)]
        simp only [LT, ZA]
        rw [show ((p + (j + 1) : Nat) : Int) + -1 = ((p + j : Nat) : Int) by omega]
        exact ih nn (by omega) (by omega)
      · rw [if_neg hc, iep (by omega)]
        rfl
  have piv : ∀ (p nn : Nat), p ≤ N - 2 → p < nn → X6_nextOrder_L4 e u (zI N) nn (zI p) m = X6_nextOrder_b32 e u (zI N) (zI (pvO o p : Nat)) m := by
    intro p
    induction p with
    | zero =>
      intro nn hp hn
      obtain ⟨nn, rfl⟩ : ∃ n', nn = n' + 1 := ⟨nn - 1, by omega⟩
      unfold X6_nextOrder_L4
      simp only [LT]
      rw [ilp (by omega)]; rfl
    | succ p ih =>
      intro nn hp hn
      obtain ⟨nn, rfl⟩ : ∃ n', nn = n' + 1 := ⟨nn - 1, by omega⟩
      have l1 := lt (p + 1) (by omega)
      have l2 := lt (p + 2) (by omega)
      unfold X6_nextOrder_L4
      simp only [LT, ZA]
      rw [iln (by omega), rd_gr hu hr, Option.bind_some, rd_ai h8 (i := p + 1) rfl (by omega) (by omega) (h _ (by omega)), Option.bind_some, Option.bind_some, rd_ai h8 (i := p + 2) (by omega) (by omega) (by omega) (h _ (by omega)), Option.bind_some, pvO]
      by_cases hc : gO o (p + 2) < gO o (p + 1)
      · rw [if_pos hc, ien (by omega), show ((p + 1 : Nat) : Int) + -1 = ((p : Nat) : Int) by omega]
        exact ih nn (by omega) (by omega)
      · rw [if_neg hc, iep (by omega)]
  have p1 := pvO_le o (N - 2)
  have start : ∀ y, X6_nextOrder_b32 e u (zI N) (zI (pvO o (N - 2) : Nat)) m = y → X6_nextOrder e u (zI N) m = y := by
    intro y hy
    unfold X6_nextOrder
    simp only [LT, ZA]
    rw [show ((N : Int) - 2) = ((N - 2 : Nat) : Int) by omega, piv (N - 2) e.2.2 (Nat.le_refl _) (by omega)]
    exact hy
  unfold nxO
  by_cases hp0 : pvO o (N - 2) = 0
  · rw [if_pos hp0]
    refine ⟨zI 0, m, start _ ?_, ⟨rfl, h⟩, fun _ _ => rfl⟩
    unfold X6_nextOrder_b32
    simp only [LT]
    rw [hp0, ien (by omega)]; rfl
  · rw [if_neg hp0]
    generalize hp : pvO o (N - 2) = p at p1 start hp0
    have p2 := otO_le o p (N - 1 - p)
    generalize hk : otO o p (N - 1 - p) = k at p2
    obtain ⟨m1, a1, a2, a3⟩ := X6_swap_eq (e := e) (i := p) (j := k) hu h8 hr h ok.1 (by omega) (by omega)
    obtain ⟨m', e1, e2, e3⟩ := X6_rev (e := e) hu h8 6 e.2.2 (p + 1) (N - 1) m1 (swL o p k) (by omega) (by omega) (by omega) (by omega) (by rw [a3 _ (by omega)]; exact hr) a2 (by rw [len_sw]; exact ok.1)
    refine ⟨zI 1, m', start _ ?_, ⟨rfl, e2⟩, fun b hb => by rw [e3 b hb, a3 b hb]⟩
    unfold X6_nextOrder_b32
    simp only [LT, ZA]
    rw [iep (by omega), show ((N : Int) - 1) = ((p + (N - 1 - p) : Nat) : Int) by omega, oth p (by omega) (by omega) (N - 1 - p) e.2.2 (by omega) (by omega), hk]
    unfold X6_nextOrder_b69
    rw [a1, Option.bind_some]
    simp only [LT, ZA]
    rw [show ((N : Int) - 1) = ((N - 1 : Nat) : Int) by omega]
    exact e1
theorem X12_countsUp_eq {m : mm_V} {o : List Nat} (hT : modT e.1 q) (hS : modS m q) (hn1 : m q 1 = .int (zI N)) (h : ordM m (q + 18) o) (ok : okO N o) (h2 : 2 ≤ N) (h6 : N ≤ 6) (hN : 1000 < e.2.2) : ∃ v m', X12_countsUp e q m = some (v, m') ∧ ordP (nxO N o) o v m' (q + 18) ∧ ∀ b, b ≠ q + 18 → m' b = m b := by
  have lt := ok.lt6 h6
  have p1 := pvO_le o (N - 2)
  have fin : ∀ (p k : Nat), 1 ≤ p → p ≤ N - 2 → p ≤ k → k ≤ N - 1 → ∃ m', ((X12_swaps e q (zI p) (zI k) m).bind fun r5 => (mm_gi e.1 r5 12 75 q 1).bind fun x6 => X12_countsUp_L86 e q e.2.2 (zI p + (1 : Int32)) (x6 - (1 : Int32)) r5) = some (zI 1, m') ∧ ordM m' (q + 18) (rvO 6 (swL o p k) (p + 1) (N - 1)) ∧ ∀ b, b ≠ q + 18 → m' b = m b := by
    intro p k q1 q2 q3 q4
    obtain ⟨m1, a1, a2, a3⟩ := X12_swaps_eq (e := e) (i := p) (j := k) hT hS h ok.1 (by omega) (by omega)
    obtain ⟨m', e1, e2, e3⟩ := X12_rev (e := e) hT 6 e.2.2 (p + 1) (N - 1) m1 (swL o p k) (by omega) (by omega) (by omega) (by omega) (hS.keep (fun _ _ _ => by rw [a3 _ (by omega)])) a2 (by rw [len_sw]; exact ok.1)
    refine ⟨m', ?_, e2, fun b hb => by rw [e3 b hb, a3 b hb]⟩
    rw [a1, Option.bind_some, rd_gi hT.me (v := zI N) (by rw [a3 _ (by omega)]; exact hn1), Option.bind_some]
    simp only [LT, ZA]
    rw [show ((N : Int) - 1) = ((N - 1 : Nat) : Int) by omega]
    exact e1
  have oth : ∀ (p : Nat), 1 ≤ p → p ≤ N - 2 → ∀ (j nn : Nat), p + j < N → j < nn → ∃ m', X12_countsUp_L47 e q (zI p) nn (zI (p + j : Nat)) m = some (zI 1, m') ∧ ordM m' (q + 18) (rvO 6 (swL o p (otO o p j)) (p + 1) (N - 1)) ∧ ∀ b, b ≠ q + 18 → m' b = m b := by
    intro p hp1 hp2 j
    induction j with
    | zero =>
      intro nn hj hn
      obtain ⟨nn, rfl⟩ : ∃ n', nn = n' + 1 := ⟨nn - 1, by omega⟩
      obtain ⟨m', e1, e2⟩ := fin p p hp1 hp2 (Nat.le_refl _) (by omega)
      have l2 := lt p (by omega)
      refine ⟨m', ?_, e2⟩
      unfold X12_countsUp_L47
      rw [rd_gr hT.me hS.sits_, Option.bind_some, rd_ai hT.sits_ (i := p) (by omega) (by omega) (by omega) (h p (by omega)), Option.bind_some, Option.bind_some, rd_ai hT.sits_ (i := p) rfl (by omega) (by omega) (h p (by omega)), Option.bind_some, iep (by omega)]
      exact e1
    | succ j ih =>
      intro nn hj hn
      obtain ⟨nn, rfl⟩ : ∃ n', nn = n' + 1 := ⟨nn - 1, by omega⟩
      have l1 := lt (p + j + 1) (by omega)
      have l2 := lt p (by omega)
      rw [otO]
      by_cases hc : gO o (p + j + 1) < gO o p
      · rw [if_pos hc]
        obtain ⟨m', e1, e2⟩ := ih nn (by omega) (by omega)
        refine ⟨m', ?_, e2⟩
        unfold X12_countsUp_L47
        rw [rd_gr hT.me hS.sits_, Option.bind_some, rd_ai hT.sits_ (i := p + j + 1) (by omega) (by omega) (by omega) (h _ (by omega)), Option.bind_some, Option.bind_some, rd_ai hT.sits_ (i := p) rfl (by omega) (by omega) (h p (by omega)), Option.bind_some, ien (by omega)]
        simp only [LT, ZA]
        rw [show ((p + (j + 1) : Nat) : Int) + -1 = ((p + j : Nat) : Int) by omega]
        exact e1
      · rw [if_neg hc]
        obtain ⟨m', e1, e2⟩ := fin p (p + j + 1) hp1 hp2 (by omega) (by omega)
        refine ⟨m', ?_, e2⟩
        unfold X12_countsUp_L47
        rw [rd_gr hT.me hS.sits_, Option.bind_some, rd_ai hT.sits_ (i := p + j + 1) (by omega) (by omega) (by omega) (h _ (by omega)), Option.bind_some, Option.bind_some, rd_ai hT.sits_ (i := p) rfl (by omega) (by omega) (h p (by omega)), Option.bind_some, iep (by omega)]
        exact e1
  have piv : ∀ (p nn : Nat), p ≤ N - 2 → p < nn → X12_countsUp_L7 e q nn (zI p) m = X12_countsUp_b34 e q (zI (pvO o p : Nat)) m := by
    intro p
    induction p with
    | zero =>
      intro nn hp hn
      obtain ⟨nn, rfl⟩ : ∃ n', nn = n' + 1 := ⟨nn - 1, by omega⟩
      unfold X12_countsUp_L7
      simp only [LT]
      rw [iep (by omega)]; rfl
    | succ p ih =>
      intro nn hp hn
      obtain ⟨nn, rfl⟩ : ∃ n', nn = n' + 1 := ⟨nn - 1, by omega⟩
      have l1 := lt (p + 1) (by omega)
      have l2 := lt (p + 2) (by omega)
      unfold X12_countsUp_L7
      simp only [LT, ZA]
      rw [ien (by omega), rd_gr hT.me hS.sits_, Option.bind_some, rd_ai hT.sits_ (i := p + 1) rfl (by omega) (by omega) (h _ (by omega)), Option.bind_some, Option.bind_some, rd_ai hT.sits_ (i := p + 2) (by omega) (by omega) (by omega) (h _ (by omega)), Option.bind_some, pvO]
      by_cases hc : gO o (p + 2) < gO o (p + 1)
      · rw [if_pos hc, ien (by omega), show ((p + 1 : Nat) : Int) + -1 = ((p : Nat) : Int) by omega]
        exact ih nn (by omega) (by omega)
      · rw [if_neg hc, iep (by omega)]
  have start : ∀ y, X12_countsUp_b34 e q (zI (pvO o (N - 2) : Nat)) m = y → X12_countsUp e q m = y := by
    intro y hy
    unfold X12_countsUp
    rw [rd_gi hT.me hn1, Option.bind_some]
    simp only [LT, ZA]
    rw [show ((N : Int) - 2) = ((N - 2 : Nat) : Int) by omega, piv (N - 2) e.2.2 (Nat.le_refl _) (by omega)]
    exact hy
  unfold nxO
  by_cases hp0 : pvO o (N - 2) = 0
  · rw [if_pos hp0]
    refine ⟨zI 0, m, start _ ?_, ⟨rfl, h⟩, fun _ _ => rfl⟩
    unfold X12_countsUp_b34
    simp only [LT]
    rw [hp0, iln (by omega)]; rfl
  · rw [if_neg hp0]
    obtain ⟨m', e1, e2, e3⟩ := oth (pvO o (N - 2)) (by omega) p1 (N - 1 - pvO o (N - 2)) e.2.2 (by omega) (by omega)
    refine ⟨zI 1, m', start _ ?_, ⟨rfl, e2⟩, e3⟩
    unfold X12_countsUp_b34
    simp only [LT, ZA]
    rw [ilp (by omega), rd_gi hT.me hn1, Option.bind_some, zI_sub, show ((N : Int) - 1) = ((pvO o (N - 2) + (N - 1 - pvO o (N - 2)) : Nat) : Int) by omega]
    exact e1
theorem X6_number_loop {m : mm_V} {o : List Nat} (hu : e.1 u = some (6, 12)) (h8 : e.1 (u + 8) = some (20, 6)) (hr : m u 3 = .ref (u + 8)) (h : ordM m (u + 8) o) : ∀ (i nn v : Nat), i ≤ 6 → i < nn → X6_orderAsNumber_L6 e u nn (zI v) (zI ((i : Int) - 1)) m = some (zI (nuO o i v), m) := by
  intro i
  induction i with
  | zero =>
    intro nn v hi hn
    obtain ⟨nn, rfl⟩ : ∃ n', nn = n' + 1 := ⟨nn - 1, by omega⟩
    unfold X6_orderAsNumber_L6
    simp only [LT]
    rw [ilp (by omega)]; rfl
  | succ i ih =>
    intro nn v hi hn
    obtain ⟨nn, rfl⟩ : ∃ n', nn = n' + 1 := ⟨nn - 1, by omega⟩
    unfold X6_orderAsNumber_L6
    simp only [LT, ZA]
    rw [iln (by omega), rd_gr hu hr, Option.bind_some, rd_ai h8 (i := i) (by omega) (by omega) (by omega) (h i (by omega)), Option.bind_some, zI_add, show ((v : Int) * 6 + (gO o i : Int)) = ((6 * v + gO o i : Nat) : Int) by omega, show (((i + 1 : Nat) : Int) - 1 + -1) = ((i : Int) - 1) by omega]
    exact ih nn (6 * v + gO o i) (by omega) (by omega)
theorem X12_figures_loop {m : mm_V} {o : List Nat} (hT : modT e.1 q) (hS : modS m q) (h : ordM m (q + 18) o) : ∀ (i nn v : Nat), i ≤ 6 → i < nn → X12_figures_L9 e q nn (zI v) (zI ((i : Int) - 1)) m = some (zI (nuO o i v), m) := by
  intro i
  induction i with
  | zero =>
    intro nn v hi hn
    obtain ⟨nn, rfl⟩ : ∃ n', nn = n' + 1 := ⟨nn - 1, by omega⟩
    unfold X12_figures_L9
    simp only [LT]
    rw [ilp (by omega)]; rfl
  | succ i ih =>
    intro nn v hi hn
    obtain ⟨nn, rfl⟩ : ∃ n', nn = n' + 1 := ⟨nn - 1, by omega⟩
    unfold X12_figures_L9
    simp only [LT, ZA]
    rw [iln (by omega), rd_gr hT.me hS.sits_, Option.bind_some, rd_ai hT.sits_ (i := i) (by omega) (by omega) (by omega) (h i (by omega)), Option.bind_some, zI_add, show (6 * (v : Int) + (gO o i : Int)) = ((6 * v + gO o i : Nat) : Int) by omega, show (((i + 1 : Nat) : Int) - 1 + -1) = ((i : Int) - 1) by omega]
    exact ih nn (6 * v + gO o i) (by omega) (by omega)
theorem X6_number_eq {m : mm_V} {o : List Nat} (hu : e.1 u = some (6, 12)) (h8 : e.1 (u + 8) = some (20, 6)) (hr : m u 3 = .ref (u + 8)) (h : ordM m (u + 8) o) (h6 : N ≤ 6) (hN : 1000 < e.2.2) : X6_orderAsNumber e u (zI N) m = some (zI (nuO o N 0), m) := by
  unfold X6_orderAsNumber
  simp only [LT, ZA]
  exact X6_number_loop hu h8 hr h N e.2.2 0 h6 (by omega)
theorem X12_figures_eq {m : mm_V} {o : List Nat} (hT : modT e.1 q) (hS : modS m q) (hn1 : m q 1 = .int (zI N)) (h : ordM m (q + 18) o) (h6 : N ≤ 6) (hN : 1000 < e.2.2) : X12_figures e q m = some (zI (nuO o N 0), m) := by
  unfold X12_figures
  rw [rd_gi hT.me hn1, Option.bind_some]
  simp only [LT, ZA]
  exact X12_figures_loop hT hS h N e.2.2 0 h6 (by omega)
theorem X12_ever_loop (hT : modT e.1 q) : ∀ (j i nn : Nat) (m : mm_V), i + j = 6 → j < nn → modS m q → (∀ k, k < i → m (q + 18) k = .int (zI k)) → ∃ m', X12_sitsAsEver_L2 e q nn (zI i) m = some m' ∧ ordM m' (q + 18) idO ∧ ∀ b, b ≠ q + 18 → m' b = m b := by
  intro j
  induction j with
  | zero =>
    intro i nn m hi hn hS h
    obtain ⟨nn, rfl⟩ : ∃ n', nn = n' + 1 := ⟨nn - 1, by omega⟩
    have hid : ∀ i, i < 6 → gO idO i = i := by decide
    refine ⟨m, ?_, fun k hk => by rw [hid k hk]; exact h k (by omega), fun _ _ => rfl⟩
    unfold X12_sitsAsEver_L2
    simp only [LT]
    rw [iep (by omega)]
  | succ j ih =>
    intro i nn m hi hn hS h
    obtain ⟨nn, rfl⟩ : ∃ n', nn = n' + 1 := ⟨nn - 1, by omega⟩
    obtain ⟨m', e1, e2, e3⟩ := ih (i + 1) nn (mm_up m (q + 18) i (.int (zI i))) (by omega) (by omega) (hS.keep (fun _ _ _ => up_ne _ _ (Or.inl (by omega)))) (fun k hk => by
      by_cases hki : k = i
      · subst hki; exact up_at _ _ _ _
      · rw [up_ne _ _ (Or.inr hki)]; exact h k (by omega))
    refine ⟨m', ?_, e2, fun b hb => by rw [e3 b hb, up_row _ _ _ hb]⟩
    unfold X12_sitsAsEver_L2
    simp only [LT]
    rw [ien (by omega), rd_gr hT.me hS.sits_, Option.bind_some, wr_si hT.sits_ (i := i) rfl (by omega) (by omega), Option.bind_some, zI_add]
    exact e1
theorem X12_ever_eq {m : mm_V} (hT : modT e.1 q) (hS : modS m q) (hN : 1000 < e.2.2) : ∃ m', X12_sitsAsEver e q m = some m' ∧ ordM m' (q + 18) idO ∧ ∀ b, b ≠ q + 18 → m' b = m b := X12_ever_loop hT 6 0 e.2.2 m (by omega) (by omega) hS (fun k hk => absurd hk (by omega))
end ORDC
