/-! TOKENS of the class: the next one. -/
section NEXTC
variable {e : mm_E} {k x n : Nat} {T : Nat → Nat}
theorem X9_word_loop (hk : e.1 k = some (9, 6)) (hx : e.1 x = some (20, 600)) (hkx : x ≠ k) : ∀ (j i nn : Nat) (m : mm_V), i + j = n → j < nn → txR m x n T → m k 0 = .ref x → m k 1 = .int (zI n) → m k 3 = .int (zI i) → ∃ m', X9_next_L105 e k nn m = some m' ∧ m' k 3 = .int (zI (run (fun i => isLt (T i)) j i)) ∧ (∀ q, q ≠ 3 → m' k q = m k q) ∧ ∀ b, b ≠ k → m' b = m b := by
  intro j
  induction j with
  | zero =>
    intro i nn m hi hn ht h0 h1 h3
    obtain ⟨nn, rfl⟩ : ∃ n', nn = n' + 1 := ⟨nn - 1, by omega⟩
    have := ht.1
    refine ⟨m, ?_, by rw [run]; exact h3, fun _ _ => rfl, fun _ _ => rfl⟩
    rw [X9_next_L105, rd_gi hk h3, Option.bind_some, rd_gi hk h1, Option.bind_some, iep (by omega)]; rfl
  | succ j ih =>
    intro i nn m hi hn ht h0 h1 h3
    obtain ⟨nn, rfl⟩ : ∃ n', nn = n' + 1 := ⟨nn - 1, by omega⟩
    have h6 := ht.1
    have hc := ht.2.1 i (by omega)
    have pre : ∀ y, (if bZ (isLt (T i)) = zI 0 then some m else ((mm_pf e.1 m 9 6 k 3 (.int (zI (i + 1 : Nat)))).bind fun m7 => X9_next_L105 e k nn m7)) = y → X9_next_L105 e k (nn + 1) m = y := by
      intro y hy
      rw [X9_next_L105, rd_gi hk h3, Option.bind_some, rd_gi hk h1, Option.bind_some, ien (by omega), Option.bind_some, X9_signAt_eq hk hx h0 ht (show i < n by omega), Option.bind_some, X9_isLetter_eq hc, Option.bind_some]
      simp only
      rw [rd_gi hk h3, Option.bind_some, show (zI (i : Int) + 1 : Int32) = zI ((i + 1 : Nat) : Int) from zI_add _ 1]
      exact hy
    rw [run]
    cases hl : isLt (T i) with
    | false =>
      rw [hl] at pre
      exact ⟨m, pre _ (by rw [show bZ false = zI 0 from rfl, iqp (by omega)]), by simpa using h3, fun _ _ => rfl, fun _ _ => rfl⟩
    | true =>
      rw [hl] at pre
      generalize hm1 : mm_up m k 3 (.int (zI (i + 1 : Nat))) = m1
      have r1 : ∀ b, b ≠ k → m1 b = m b := fun b h => by rw [← hm1, up_row _ _ _ h]
      have q1 : ∀ q, q ≠ 3 → m1 k q = m k q := fun q h => by rw [← hm1, up_ne _ _ (Or.inr h)]
      obtain ⟨m', e1, e2, e3, e4⟩ := ih (i + 1) nn m1 (by omega) (by omega) ⟨ht.1, ht.2.1, fun q hq => by rw [r1 _ hkx]; exact ht.2.2 q hq⟩ (by rw [q1 _ (by omega)]; exact h0) (by rw [q1 _ (by omega)]; exact h1) (by rw [← hm1, up_at])
      refine ⟨m', pre _ ?_, by simpa using e2, fun q hq => by rw [e3 q hq, q1 q hq], fun b hb => by rw [e4 b hb, r1 b hb]⟩
      rw [show bZ true = zI 1 from rfl, iqn (by omega), wr_pf hk, Option.bind_some, hm1]; exact e1
theorem X9_num_loop (hk : e.1 k = some (9, 6)) (hx : e.1 x = some (20, 600)) (hkx : x ≠ k) {s : Nat} : ∀ (j i nn : Nat) (m : mm_V), i + j = n → s ≤ i → j < nn → txR m x n T → m k 0 = .ref x → m k 1 = .int (zI n) → m k 3 = .int (zI i) → m k 5 = .int (zI (dv T s (i - s))) → ∃ m', X9_readNumber_L5 e k nn m = some m' ∧ m' k 3 = .int (zI (run (fun i => isDg (T i)) j i)) ∧ m' k 5 = .int (zI (dv T s (run (fun i => isDg (T i)) j i - s))) ∧ (∀ q, q ≠ 3 → q ≠ 5 → m' k q = m k q) ∧ ∀ b, b ≠ k → m' b = m b := by
  intro j
  induction j with
  | zero =>
    intro i nn m hi hs hn ht h0 h1 h3 h5
    obtain ⟨nn, rfl⟩ : ∃ n', nn = n' + 1 := ⟨nn - 1, by omega⟩
    have := ht.1
    refine ⟨m, ?_, by rw [run]; exact h3, by rw [run]; exact h5, fun _ _ _ => rfl, fun _ _ => rfl⟩
    rw [X9_readNumber_L5, rd_gi hk h3, Option.bind_some, rd_gi hk h1, Option.bind_some, iep (by omega)]; rfl
  | succ j ih =>
    intro i nn m hi hs hn ht h0 h1 h3 h5
    obtain ⟨nn, rfl⟩ : ∃ n', nn = n' + 1 := ⟨nn - 1, by omega⟩
    have h6 := ht.1
    have hc := ht.2.1 i (by omega)
    have sg := X9_signAt_eq (e := e) hk hx h0 ht (show i < n by omega)
    rw [run]
    cases hl : isDg (T i) with
    | false =>
      refine ⟨m, ?_, by simpa using h3, by simpa using h5, fun _ _ _ => rfl, fun _ _ => rfl⟩
      rw [X9_readNumber_L5, rd_gi hk h3, Option.bind_some, rd_gi hk h1, Option.bind_some, ien (by omega), Option.bind_some, sg, Option.bind_some, X9_isDigit_eq hc, Option.bind_some, hl]
      rfl
    | true =>
      generalize hm1 : mm_up m k 5 (.int (zI (dv T s (i + 1 - s)))) = m1
      generalize hm2 : mm_up m1 k 3 (.int (zI (i + 1 : Nat))) = m2
      have r2 : ∀ b, b ≠ k → m2 b = m b := fun b h => by rw [← hm2, up_row _ _ _ h, ← hm1, up_row _ _ _ h]
      have q2 : ∀ q, q ≠ 3 → q ≠ 5 → m2 k q = m k q := fun q x1 x2 => by rw [← hm2, up_ne _ _ (Or.inr x1), ← hm1, up_ne _ _ (Or.inr x2)]
      obtain ⟨m', e1, e2, e3, e4, e5⟩ := ih (i + 1) nn m2 (by omega) (by omega) (by omega) ⟨ht.1, ht.2.1, fun q hq => by rw [r2 _ hkx]; exact ht.2.2 q hq⟩ (by rw [q2 _ (by omega) (by omega)]; exact h0) (by rw [q2 _ (by omega) (by omega)]; exact h1) (by rw [← hm2, up_at]) (by rw [← hm2, up_ne _ _ (by omega), ← hm1, up_at])
      refine ⟨m', ?_, by simpa using e2, by simpa using e3, fun q x1 x2 => by rw [e4 q x1 x2, q2 q x1 x2], fun b hb => by rw [e5 b hb, r2 b hb]⟩
      rw [X9_readNumber_L5, rd_gi hk h3, Option.bind_some, rd_gi hk h1, Option.bind_some, ien (by omega), Option.bind_some, sg, Option.bind_some, X9_isDigit_eq hc, Option.bind_some, hl]
      simp only [bZ, if_true]
      rw [if_neg (show ¬ (zI 1 : Int32) = 0 by decide), rd_gi hk h5, Option.bind_some, rd_gi hk h3, Option.bind_some, sg, Option.bind_some]
      simp only [LT]
      rw [show (zI (dv T s (i - s)) * zI 10 + zI (T i) - zI 48 : Int32) = zI (dv T s (i + 1 - s)) by
        rw [zI_mul, zI_add, zI_sub, show i + 1 - s = (i - s) + 1 by omega, dv, show s + (i - s) = i by omega, Int.mul_comm], wr_pf hk, Option.bind_some, hm1, rd_gi hk (v := zI i) (by rw [← hm1, up_ne _ _ (by omega)]; exact h3), Option.bind_some, show (zI (i : Int) + zI 1 : Int32) = zI ((i + 1 : Nat) : Int) from zI_add _ _, wr_pf hk, Option.bind_some, hm2]
      exact e1
theorem X9_skip_loop (hk : e.1 k = some (9, 6)) (hx : e.1 x = some (20, 600)) (hkx : x ≠ k) : ∀ (j i nn : Nat) (m : mm_V), i + j = n → j < nn → txR m x n T → m k 0 = .ref x → m k 1 = .int (zI n) → m k 2 = .int (zI i) → ∃ m', X9_next_L8 e k nn m = X9_next_b58 e k m' ∧ m' k 2 = .int (zI (run (fun i => isSp (T i)) j i)) ∧ (∀ q, q ≠ 2 → m' k q = m k q) ∧ ∀ b, b ≠ k → m' b = m b := by
  intro j
  induction j with
  | zero =>
    intro i nn m hi hn ht h0 h1 h2
    obtain ⟨nn, rfl⟩ : ∃ n', nn = n' + 1 := ⟨nn - 1, by omega⟩
    have := ht.1
    refine ⟨m, ?_, by rw [run]; exact h2, fun _ _ => rfl, fun _ _ => rfl⟩
    rw [X9_next_L8, rd_gi hk h2, Option.bind_some, rd_gi hk h1, Option.bind_some, iep (by omega)]
  | succ j ih =>
    intro i nn m hi hn ht h0 h1 h2
    obtain ⟨nn, rfl⟩ : ∃ n', nn = n' + 1 := ⟨nn - 1, by omega⟩
    have h6 := ht.1
    have hc := ht.2.1 i (by omega)
    have sg := X9_signAt_eq (e := e) hk hx h0 ht (show i < n by omega)
    rw [run]
    by_cases hsp : T i = 32 ∨ T i = 10
    · have hb : isSp (T i) = true := by unfold isSp; simpa using hsp
      simp only [hb, if_true]
      generalize hm1 : mm_up m k 2 (.int (zI (i + 1 : Nat))) = m1
      have r1 : ∀ b, b ≠ k → m1 b = m b := fun b h => by rw [← hm1, up_row _ _ _ h]
      have q1 : ∀ q, q ≠ 2 → m1 k q = m k q := fun q h => by rw [← hm1, up_ne _ _ (Or.inr h)]
      obtain ⟨m', e1, e2, e3, e4⟩ := ih (i + 1) nn m1 (by omega) (by omega) ⟨ht.1, ht.2.1, fun q hq => by rw [r1 _ hkx]; exact ht.2.2 q hq⟩ (by rw [q1 _ (by omega)]; exact h0) (by rw [q1 _ (by omega)]; exact h1) (by rw [← hm1, up_at])
      refine ⟨m', ?_, e2, fun q hq => by rw [e3 q hq, q1 q hq], fun b hb => by rw [e4 b hb, r1 b hb]⟩
      rw [X9_next_L8, rd_gi hk h2, Option.bind_some, rd_gi hk h1, Option.bind_some, ien (by omega), Option.bind_some, sg, Option.bind_some]
      unfold X9_next_b45
      simp only [LT]
      by_cases h32 : T i = 32
      · rw [iqp (by omega), rd_gi hk h2, Option.bind_some, show (zI (i : Int) + zI 1 : Int32) = zI ((i + 1 : Nat) : Int) from zI_add _ _, wr_pf hk, Option.bind_some, hm1]; exact e1
      · rw [iqn (by omega), rd_gi hk h2, Option.bind_some, sg, Option.bind_some]
        simp only
        rw [inn (by omega), rd_gi hk h2, Option.bind_some, show (zI (i : Int) + zI 1 : Int32) = zI ((i + 1 : Nat) : Int) from zI_add _ _, wr_pf hk, Option.bind_some, hm1]; exact e1
    · have hb : isSp (T i) = false := by unfold isSp; simpa using hsp
      simp only [hb]
      refine ⟨m, ?_, h2, fun _ _ => rfl, fun _ _ => rfl⟩
      rw [X9_next_L8, rd_gi hk h2, Option.bind_some, rd_gi hk h1, Option.bind_some, ien (by omega), Option.bind_some, sg, Option.bind_some]
      simp only [LT]
      rw [iqn (by omega), rd_gi hk h2, Option.bind_some, sg, Option.bind_some]
      simp only
      rw [inp (by omega)]
theorem X9_next_eq {m : mm_V} {b : Nat} (hk : e.1 k = some (9, 6)) (hx : e.1 x = some (20, 600)) (hkx : x ≠ k) (ht : txR m x n T) (h0 : m k 0 = .ref x) (h1 : m k 1 = .int (zI n)) (h3 : m k 3 = .int (zI b)) (hb : b ≤ n) (h5 : ∃ v, m k 5 = .int v) (hN : 1000 < e.2.2) : ∃ m', X9_next e k m = some m' ∧ tkR m' k x n T (tok T n b) ∧ ∀ c, c ≠ k → m' c = m c := by
  have h6 := ht.1
  generalize hm1 : mm_up m k 2 (.int (zI b)) = m1
  have r1 : ∀ c, c ≠ k → m1 c = m c := fun c h => by rw [← hm1, up_row _ _ _ h]
  have q1 : ∀ q, q ≠ 2 → m1 k q = m k q := fun q h => by rw [← hm1, up_ne _ _ (Or.inr h)]
  obtain ⟨m2, a1, a2, a3, a4⟩ := X9_skip_loop (e := e) hk hx hkx (n - b) b e.2.2 m1 (by omega) (by omega) (T := T) (n := n) ⟨ht.1, ht.2.1, fun q hq => by rw [r1 _ hkx]; exact ht.2.2 q hq⟩ (by rw [q1 _ (by omega)]; exact h0) (by rw [q1 _ (by omega)]; exact h1) (by rw [← hm1, up_at])
  have hsb := run_le (fun i => isSp (T i)) (n - b) b
  change m2 k 2 = .int (zI (skp T n b)) at a2
  change b ≤ skp T n b ∧ skp T n b ≤ b + (n - b) at hsb
  have hgo : X9_next e k m = X9_next_b58 e k m2 := by
    unfold X9_next
    rw [rd_gi hk h3, Option.bind_some, wr_pf hk, Option.bind_some, hm1]; exact a1
  rw [hgo]
  unfold tok
  simp only
  generalize skp T n b = s at a2 hsb
  generalize hm3 : mm_up m2 k 3 (.int (zI s)) = m3
  have r3 : ∀ c, c ≠ k → m3 c = m c := fun c h => by rw [← hm3, up_row _ _ _ h, a4 c h, r1 c h]
  have q3 : ∀ q, q ≠ 2 → q ≠ 3 → m3 k q = m k q := fun q x1 x2 => by rw [← hm3, up_ne _ _ (Or.inr x2), a3 q x1, q1 q x1]
  have v2 : m3 k 2 = .int (zI s) := by rw [← hm3, up_ne _ _ (by omega)]; exact a2
  have v3 : m3 k 3 = .int (zI s) := by rw [← hm3, up_at]
  have v0 : m3 k 0 = .ref x := by rw [q3 _ (by omega) (by omega)]; exact h0
  have v1 : m3 k 1 = .int (zI n) := by rw [q3 _ (by omega) (by omega)]; exact h1
  have v5 : ∃ v, m3 k 5 = .int v := by rw [q3 _ (by omega) (by omega)]; exact h5
  have t3 : txR m3 x n T := ⟨ht.1, ht.2.1, fun q hq => by rw [r3 _ hkx]; exact ht.2.2 q hq⟩
  have pre : ∀ y, (if zI s < zI n then ((mm_gi e.1 m3 9 6 k 2).bind fun x5 => (X9_signAt e k x5 m3).bind fun r6 => (X9_isLetter e r6.1 r6.2).bind fun r7 => if r7.1 = 0 then ((mm_gi e.1 r7.2 9 6 k 2).bind fun x8 => (X9_signAt e k x8 r7.2).bind fun r9 => (X9_isDigit e r9.1 r9.2).bind fun r10 => if r10.1 = 0 then ((mm_gi e.1 r10.2 9 6 k 2).bind fun x11 => (X9_signAt e k x11 r10.2).bind fun r12 => (X9_isSign e r12.1 r12.2).bind fun r13 => if r13.1 = 0 then (X9_next_b197 e k k (0 : Int32) r13.2) else ((mm_gi e.1 r13.2 9 6 k 2).bind fun x14 => (X9_signAt e k x14 r13.2).bind fun r15 => X9_next_b197 e k k r15.1 r15.2)) else ((mm_pf e.1 r10.2 9 6 k 4 (.int (48 : Int32))).bind fun m16 => (X9_readNumber e k m16).bind fun r17 => X9_next_b210 e r17)) else ((mm_pf e.1 r7.2 9 6 k 4 (.int (97 : Int32))).bind fun m18 => X9_next_L105 e k e.2.2 m18)) else ((mm_pf e.1 m3 9 6 k 4 (.int (-1 : Int32))).bind fun m19 => X9_next_b210 e m19)) = y → X9_next_b58 e k m2 = y := by
    intro y hy
    unfold X9_next_b58
    rw [rd_gi hk a2, Option.bind_some, wr_pf hk, Option.bind_some, hm3, rd_gi hk v2, Option.bind_some, rd_gi hk v1, Option.bind_some]
    rw [rd_gi hk v2] at hy
    exact hy
  by_cases hns : n ≤ s
  · rw [if_pos hns]
    generalize hm4 : mm_up m3 k 4 (.int (zI (-1))) = m4
    have q4 : ∀ q, q ≠ 4 → m4 k q = m3 k q := fun q h => by rw [← hm4, up_ne _ _ (Or.inr h)]
    refine ⟨m4, pre _ ?_, ⟨by rw [q4 _ (by omega)]; exact v0, by rw [q4 _ (by omega)]; exact v1, by rw [q4 _ (by omega)]; exact v2, by rw [q4 _ (by omega)]; exact v3, by rw [← hm4, up_at]; rfl, fun h => absurd h (by simp), by rw [q4 _ (by omega)]; exact v5⟩, fun c hc => by rw [← hm4, up_row _ _ _ hc, r3 c hc]⟩
    rw [iln (by omega), wr_pf hk, Option.bind_some, show (-1 : Int32) = zI (-1) from rfl, hm4]; rfl
  · rw [if_neg hns]
    have hc := ht.2.1 s (by omega)
    have sg := X9_signAt_eq (e := e) hk hx v0 t3 (show s < n by omega)
    have pre2 : ∀ y, (if bZ (isLt (T s)) = 0 then (if bZ (isDg (T s)) = 0 then (if bZ (isSg (T s)) = 0 then (X9_next_b197 e k k (0 : Int32) m3) else X9_next_b197 e k k (zI (T s)) m3) else ((mm_pf e.1 m3 9 6 k 4 (.int (48 : Int32))).bind fun m16 => (X9_readNumber e k m16).bind fun r17 => X9_next_b210 e r17)) else ((mm_pf e.1 m3 9 6 k 4 (.int (97 : Int32))).bind fun m18 => X9_next_L105 e k e.2.2 m18)) = y → X9_next_b58 e k m2 = y := by
      intro y hy
      refine pre y ?_
      rw [ilp (by omega), rd_gi hk v2, Option.bind_some, sg, Option.bind_some, X9_isLetter_eq hc, Option.bind_some]
      simp only
      rw [rd_gi hk v2, Option.bind_some, sg, Option.bind_some, X9_isDigit_eq hc, Option.bind_some]
      simp only
      rw [rd_gi hk v2, Option.bind_some, sg, Option.bind_some, X9_isSign_eq hc, Option.bind_some]
      simp only
      rw [rd_gi hk v2, Option.bind_some, sg, Option.bind_some]
      exact hy
    have sign : ∀ z : Int, ∃ m', X9_next_b197 e k k (zI z) m3 = some m' ∧ m' k 0 = .ref x ∧ m' k 1 = .int (zI n) ∧ m' k 2 = .int (zI s) ∧ m' k 3 = .int (zI (s + 1 : Nat)) ∧ m' k 4 = .int (zI z) ∧ (∃ v, m' k 5 = .int v) ∧ ∀ c, c ≠ k → m' c = m c := by
      intro z
      refine ⟨mm_up (mm_up m3 k 4 (.int (zI z))) k 3 (.int (zI (s + 1 : Nat))), ?_, ?_, ?_, ?_, up_at _ _ _ _, ?_, ?_, fun c hc => by rw [up_row _ _ _ hc, up_row _ _ _ hc, r3 c hc]⟩
      · unfold X9_next_b197
        rw [wr_pf hk, Option.bind_some, rd_gi hk (v := zI s) (by rw [up_ne _ _ (by omega)]; exact v3), Option.bind_some, show (zI (s : Int) + 1 : Int32) = zI ((s + 1 : Nat) : Int) from zI_add _ 1, wr_pf hk, Option.bind_some]; rfl
      · rw [up_ne _ _ (by omega), up_ne _ _ (by omega)]; exact v0
      · rw [up_ne _ _ (by omega), up_ne _ _ (by omega)]; exact v1
      · rw [up_ne _ _ (by omega), up_ne _ _ (by omega)]; exact v2
      · rw [up_ne _ _ (by omega), up_at]
      · rw [up_ne _ _ (by omega), up_ne _ _ (by omega)]; exact v5
    cases hl : isLt (T s) with
    | true =>
      simp only [if_true]
      generalize hm4 : mm_up m3 k 4 (.int (zI 97)) = m4
      have r4 : ∀ c, c ≠ k → m4 c = m3 c := fun c h => by rw [← hm4, up_row _ _ _ h]
      have q4 : ∀ q, q ≠ 4 → m4 k q = m3 k q := fun q h => by rw [← hm4, up_ne _ _ (Or.inr h)]
      obtain ⟨m', e1, e2, e3, e4⟩ := X9_word_loop (e := e) hk hx hkx (n - s) s e.2.2 m4 (by omega) (by omega) (T := T) (n := n) ⟨t3.1, t3.2.1, fun q hq => by rw [r4 _ hkx]; exact t3.2.2 q hq⟩ (by rw [q4 _ (by omega)]; exact v0) (by rw [q4 _ (by omega)]; exact v1) (by rw [q4 _ (by omega)]; exact v3)
      refine ⟨m', pre2 _ ?_, ⟨by rw [e3 _ (by omega), q4 _ (by omega)]; exact v0, by rw [e3 _ (by omega), q4 _ (by omega)]; exact v1, by rw [e3 _ (by omega), q4 _ (by omega)]; exact v2, e2, by rw [e3 _ (by omega), ← hm4, up_at]; rfl, fun h => absurd h (by simp), by rw [e3 _ (by omega), q4 _ (by omega)]; exact v5⟩, fun c hc => by rw [e4 c hc, r4 c hc, r3 c hc]⟩
      rw [hl, if_neg (show ¬ bZ true = 0 by decide), wr_pf hk, Option.bind_some, show (97 : Int32) = zI 97 from rfl, hm4]; exact e1
    | false =>
      simp only [Bool.false_eq_true, if_false]
      cases hd : isDg (T s) with
      | true =>
        simp only [if_true]
        generalize hm4 : mm_up m3 k 4 (.int (zI 48)) = m4
        generalize hm5 : mm_up m4 k 5 (.int (zI 0)) = m5
        have r5 : ∀ c, c ≠ k → m5 c = m3 c := fun c h => by rw [← hm5, up_row _ _ _ h, ← hm4, up_row _ _ _ h]
        have q5 : ∀ q, q ≠ 4 → q ≠ 5 → m5 k q = m3 k q := fun q x1 x2 => by rw [← hm5, up_ne _ _ (Or.inr x2), ← hm4, up_ne _ _ (Or.inr x1)]
        obtain ⟨m', e1, e2, e3, e4, e5⟩ := X9_num_loop (e := e) hk hx hkx (s := s) (n - s) s e.2.2 m5 (by omega) (by omega) (by omega) (T := T) (n := n) ⟨t3.1, t3.2.1, fun q hq => by rw [r5 _ hkx]; exact t3.2.2 q hq⟩ (by rw [q5 _ (by omega) (by omega)]; exact v0) (by rw [q5 _ (by omega) (by omega)]; exact v1) (by rw [q5 _ (by omega) (by omega)]; exact v3) (by rw [← hm5, up_at, Nat.sub_self]; rfl)
        refine ⟨m', pre2 _ ?_, ⟨by rw [e4 _ (by omega) (by omega), q5 _ (by omega) (by omega)]; exact v0, by rw [e4 _ (by omega) (by omega), q5 _ (by omega) (by omega)]; exact v1, by rw [e4 _ (by omega) (by omega), q5 _ (by omega) (by omega)]; exact v2, e2, by rw [e4 _ (by omega) (by omega), ← hm5, up_ne _ _ (by omega), ← hm4, up_at]; rfl, fun _ => e3, ⟨_, e3⟩⟩, fun c hc => by rw [e5 c hc, r5 c hc, r3 c hc]⟩
        rw [hl, if_pos (show bZ false = 0 from rfl), hd, if_neg (show ¬ bZ true = 0 by decide), wr_pf hk, Option.bind_some, show (48 : Int32) = zI 48 from rfl, hm4]
        unfold X9_readNumber
        rw [wr_pf hk, Option.bind_some, show (0 : Int32) = zI 0 from rfl, hm5, e1, Option.bind_some]; rfl
      | false =>
        simp only [Bool.false_eq_true, if_false]
        cases hsg : isSg (T s) with
        | true =>
          simp only [if_true]
          obtain ⟨m', s1, s2, s3, s4, s5, s6, s7, s8⟩ := sign (T s)
          refine ⟨m', pre2 _ ?_, ⟨s2, s3, s4, s5, s6, fun h => absurd h (by simp), s7⟩, s8⟩
          rw [hl, if_pos (show bZ false = 0 from rfl), hd, if_pos (show bZ false = 0 from rfl), hsg, if_neg (show ¬ bZ true = 0 by decide)]; exact s1
        | false =>
          simp only [Bool.false_eq_true, if_false]
          obtain ⟨m', s1, s2, s3, s4, s5, s6, s7, s8⟩ := sign 0
          refine ⟨m', pre2 _ ?_, ⟨s2, s3, s4, s5, s6, fun h => absurd h (by simp), s7⟩, s8⟩
          rw [hl, if_pos (show bZ false = 0 from rfl), hd, if_pos (show bZ false = 0 from rfl), hsg, if_pos (show bZ false = 0 from rfl)]; exact s1
end NEXTC
