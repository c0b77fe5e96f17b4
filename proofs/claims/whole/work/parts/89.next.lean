/-! TOKENS of the class: the next one. -/
section NEXTC
variable {e : mm_E} {k x n : Nat} {T : Nat → Nat}
theorem X9_word_loop (hk : e.1 k = some (9, 6)) (hx : e.1 x = some (20, 600)) (hkx : x ≠ k) : ∀ (j i nn : Nat) (m : mm_V), i + j = n → j < nn → txR m x n T → m k 0 = .ref x → m k 1 = .int (zI n) → m k 3 = .int (zI i) → ∃ m', X9_next_L105 e k nn m = some m' ∧ m' k 3 = .int (zI (run (fun i => isLt (T i)) j i)) ∧ (∀ q, q ≠ 3 → m' k q = m k q) ∧ ∀ b, b ≠ k → m' b = m b := by
  intro j
  induction j with
  | zero =>
    intro i nn m hi hn ht h0 h1 h3
    obtain ⟨nn, rfl⟩ : ∃ n', nn = n' + 1 := ⟨nn - 1, by omega⟩
    have := ht.1
    refine ⟨m, ?_, by rw [run]; exact h3, fun _ _ => rfl, fun _ _ => rfl⟩
    rw [X9_next_L105, rd_gi hk h3, Option.bind_some, rd_gi hk h1, Option.bind_some, iep (by omega)]; rfl
  | succ j ih =>
    intro i nn m hi hn ht h0 h1 h3
    obtain ⟨nn, rfl⟩ : ∃ n', nn = n' + 1 := ⟨nn - 1, by omega⟩
    have h6 := ht.1
    have hc := ht.2.1 i (by omega)
    have pre : ∀ y, (if bZ (isLt (T i)) = zI 0 then some m else ((mm_pf e.1 m 9 6 k 3 (.int (zI (i + 1 : Nat)))).bind fun m7 => X9_next_L105 e k nn m7)) = y → X9_next_L105 e k (nn + 1) m = y := by
      intro y hy
      rw [X9_next_L105, rd_gi hk h3, Option.bind_some, rd_gi hk h1, Option.bind_some, ien (by omega), Option.bind_some, X9_signAt_eq hk hx h0 ht (show i < n by omega), Option.bind_some, X9_isLetter_eq hc, Option.bind_some]
      simp only
      rw [rd_gi hk h3, Option.bind_some, show (zI (i : Int) + 1 : Int32) = zI ((i + 1 : Nat) : Int) from zI_add _ 1]
      exact hy
    rw [run]
    cases hl : isLt (T i) with
    | false =>
      rw [hl] at pre
      exact ⟨m, pre _ (by rw [show bZ false = zI 0 from rfl, iqp (by omega)]), by simpa using h3, fun _ _ => rfl, fun _ _ => rfl⟩
    | true =>
      rw [hl] at pre
      generalize hm1 : mm_up m k 3 (.int (zI (i + 1 : Nat))) = m1
      have r1 : ∀ b, b ≠ k → m1 b = m b := fun b h => by rw [← hm1, up_row _ _ _ h]
      have q1 : ∀ q, q ≠ 3 → m1 k q = m k q := fun q h => by rw [← hm1, up_ne _ _ (Or.inr h)]
      obtain ⟨m', e1, e2, e3, e4⟩ := ih (i + 1) nn m1 (by omega) (by omega) ⟨ht.1, ht.2.1, fun q hq => by rw [r1 _ hkx]; exact ht.2.2 q hq⟩ (by rw [q1 _ (by omega)]; exact h0) (by rw [q1 _ (by omega)]; exact h1) (by rw [← hm1, up_at])
      refine ⟨m', pre _ ?_, by simpa using e2, fun q hq => by rw [e3 q hq, q1 q hq], fun b hb => by rw [e4 b hb, r1 b hb]⟩
      rw [show bZ true = zI 1 from rfl, iqn (by omega), wr_pf hk, Option.bind_some, hm1]; exact e1
theorem X9_num_loop (hk : e.1 k = some (9, 6)) (hx : e.1 x = some (20, 600)) (hkx : x ≠ k) {s : Nat} : ∀ (j i nn : Nat) (m : mm_V), i + j = n → s ≤ i → j < nn → txR m x n T → m k 0 = .ref x → m k 1 = .int (zI n) → m k 3 = .int (zI i) → m k 5 = .int (zI (dv T s (i - s))) → ∃ m', X9_readNumber_L5 e k nn m = some m' ∧ m' k 3 = .int (zI (run (fun i => isDg (T i)) j i)) ∧ m' k 5 = .int (zI (dv T s (run (fun i => isDg (T i)) j i - s))) ∧ (∀ q, q ≠ 3 → q ≠ 5 → m' k q = m k q) ∧ ∀ b, b ≠ k → m' b = m b := by
  intro j
  induction j with
  | zero =>
    intro i nn m hi hs hn ht h0 h1 h3 h5
    obtain ⟨nn, rfl⟩ : ∃ n', nn = n' + 1 := ⟨nn - 1, by omega⟩
    have := ht.1
    refine ⟨m, ?_, by rw [run]; exact h3, by rw [run]; exact h5, fun _ _ _ => rfl, fun _ _ => rfl⟩
    rw [X9_readNumber_L5, rd_gi hk h3, Option.bind_some, rd_gi hk h1, Option.bind_some, iep (by omega)]; rfl
  | succ j ih =>
    intro i nn m hi hs hn ht h0 h1 h3 h5
    obtain ⟨nn, rfl⟩ : ∃ n', nn = n' + 1 := ⟨nn - 1, by omega⟩
    have h6 := ht.1
    have hc := ht.2.1 i (by omega)
    have sg := X9_signAt_eq (e := e) hk hx h0 ht (show i < n by omega)
    rw [run]
    cases hl : isDg (T i) with
    | false =>
      refine ⟨m, ?_, by simpa using h3, by simpa using h5, fun _ _ _ => rfl, fun _ _ => rfl⟩
      rw [X9_readNumber_L5, rd_gi hk h3, Option.bind_some, rd_gi hk h1, Option.bind_some, ien (by omega), Option.bind_some, sg, Option.bind_some, X9_isDigit_eq hc, Option.bind_some, hl]
      rfl
    | true =>
      generalize hm1 : mm_up m k 5 (.int (zI (dv T s (i + 1 - s)))) = m1
      generalize hm2 : mm_up m1 k 3 (.int (zI (i + 1 : Nat))) = m2
      have r2 : ∀ b, b ≠ k → m2 b = m b := fun b h => by rw [← hm2, up_row _ _ _ h, ← hm1, up_row _ _ _ h]
      have q2 : ∀ q, q ≠ 3 → q ≠ 5 → m2 k q = m k q := fun q x1 x2 => by rw [← hm2, up_ne _ _ (Or.inr x1), ← hm1, up_ne _ _ (Or.inr x2)]
      obtain ⟨m', e1, e2, e3, e4, e5⟩ := ih (i + 1) nn m2 (by omega) (by omega) (by omega) ⟨ht.1, ht.2.1, fun q hq => by rw [r2 _ hkx]; exact ht.2.2 q hq⟩ (by rw [q2 _ (by omega) (by omega)]; exact h0) (by rw [q2 _ (by omega) (by omega)]; exact h1) (by rw [← hm2, up_at]) (by rw [← hm2, up_ne _ _ (by omega), ← hm1, up_at])
      refine ⟨m', ?_, by simpa using e2, by simpa using e3, fun q x1 x2 => by rw [e4 q x1 x2, q2 q x1 x2], fun b hb => by rw [e5 b hb, r2 b hb]⟩
      rw [X9_readNumber_L5, rd_gi hk h3, Option.bind_some, rd_gi hk h1, Option.bind_some, ien (by omega), Option.bind_some, sg, Option.bind_some, X9_isDigit_eq hc, Option.bind_some, hl]
      simp only [bZ, if_true]
      rw [if_neg (show ¬ (zI 1 : Int32) = 0 by decide), rd_gi hk h5, Option.bind_some, rd_gi hk h3, Option.bind_some, sg, Option.bind_some]
      simp only [LT]
      rw [show (zI (dv T s (i - s)) * zI 10 + zI (T i) - zI 48 : Int32) = zI (dv T s (i + 1 - s)) by
        rw [zI_mul, zI_add, zI_sub, show i + 1 - s = (i - s) + 1 by omega, dv, show s + (i - s) = i by omega, Int.mul_comm], wr_pf hk, Option.bind_some, hm1, rd_gi hk (v := zI i) (by rw [← hm1, up_ne _ _ (by omega)]; exact h3), Option.bind_some, show (zI (i : Int) + zI 1 : Int32) = zI ((i + 1 : Nat) : Int) from zI_add _ _, wr_pf hk, Option.bind_some, hm2]
      exact e1
end NEXTC
