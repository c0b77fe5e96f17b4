/-! THE MODEL's log when it is full: all rows one down. -/
section SHIFT
variable {e : mm_E} {q : Nat} {X : Nat → Int32} {x : Int32}
theorem X12_drawsNow_shift (hT : modT e.1 q) : ∀ (j i n : Nat) (m : mm_V), i + j = 540 → 9 ≤ i → j < n → modS m q → m q 48 = .int (zI 60) → (∀ k, k < 540 → k + 9 < i → m (q + 19) k = .int (X (k + 9))) → (∀ k, k < 540 → i ≤ k + 9 → m (q + 19) k = .int (X k)) → ∃ m', X12_drawsNow_L12 e q x n (zI i) m = X12_drawsNow_b50 e q x m' ∧ m' q 48 = .int (zI 59) ∧ (∀ k, k < 531 → m' (q + 19) k = .int (X (k + 9))) ∧ (∀ k, k < 540 → ∃ y, m' (q + 19) k = .int y) ∧ (∀ j, j ≠ 48 → m' q j = m q j) ∧ ∀ b, b ≠ q → b ≠ q + 19 → m' b = m b := by
  intro j
  induction j with
  | zero =>
    intro i n m hi h9 hn hS h48 q1 q2
    obtain ⟨n, rfl⟩ : ∃ n', n = n' + 1 := ⟨n - 1, by omega⟩
    refine ⟨mm_up m q 48 (.int (zI 59)), ?_, up_at _ _ _ _, fun k hk => by rw [up_ne _ _ (Or.inl (by omega))]; exact q1 k (by omega) (by omega), fun k hk => ?_, fun j hj => up_ne _ _ (Or.inr hj), fun b hb _ => up_row _ _ _ hb⟩
    · unfold X12_drawsNow_L12
      simp only [LT]
      rw [iep (by omega), rd_gi hT.me h48, Option.bind_some, wr_pf hT.me, Option.bind_some, zI_sub]
      rfl
    · rw [up_ne _ _ (Or.inl (by omega))]
      by_cases hk9 : k + 9 < i
      · exact ⟨_, q1 k hk hk9⟩
      · exact ⟨_, q2 k hk (by omega)⟩
  | succ j ih =>
    intro i n m hi h9 hn hS h48 q1 q2
    obtain ⟨n, rfl⟩ : ∃ n', n = n' + 1 := ⟨n - 1, by omega⟩
    obtain ⟨m', e1, e2, e3, e4, e5, e6⟩ := ih (i + 1) n (mm_up m (q + 19) (i - 9) (.int (X i))) (by omega) (by omega) (by omega) (hS.keep (fun _ _ _ => up_ne _ _ (Or.inl (by omega)))) (by rw [up_ne _ _ (Or.inl (by omega))]; exact h48)
      (fun k hk hk9 => by
        by_cases hki : k = i - 9
        · subst hki; rw [up_at, show i - 9 + 9 = i by omega]
        · rw [up_ne _ _ (Or.inr hki)]; exact q1 k hk (by omega))
      (fun k hk hk9 => by rw [up_ne _ _ (Or.inr (by omega))]; exact q2 k hk (by omega))
    refine ⟨m', ?_, e2, e3, e4, fun j hj => by rw [e5 j hj, up_ne _ _ (Or.inl (by omega))], fun b y1 y2 => by rw [e6 b y1 y2, up_row _ _ _ y2]⟩
    unfold X12_drawsNow_L12
    simp only [LT]
    rw [ien (by omega), rd_gr hT.me hS.draw_, Option.bind_some, Option.bind_some, rd_ai hT.draw_ (i := i) rfl (by omega) (by omega) (q2 i (by omega) (by omega)), Option.bind_some, zI_sub, wr_si hT.draw_ (i := i - 9) (by omega) (by omega) (by omega), Option.bind_some, zI_add]
    exact e1
end SHIFT
