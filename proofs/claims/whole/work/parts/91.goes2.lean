/-! TOKENS of the model: goes. -/
section GOES2
variable {e : mm_E} {q n : Nat} {T : Nat → Nat}
theorem X12_skip_loop (hT : modT e.1 q) : ∀ (j i nn : Nat) (m : mm_V), i + j = n → j < nn → txR m (q + 4) n T → modS m q → m q 13 = .int (zI n) → m q 14 = .int (zI i) → ∃ m', X12_goes_L0 e q nn m = X12_goes_b50 e q m' ∧ m' q 14 = .int (zI (run (fun i => isSp (T i)) j i)) ∧ modS m' q ∧ (∀ k, k ≠ 14 → m' q k = m q k) ∧ ∀ b, b ≠ q → m' b = m b := by
  intro j
  induction j with
  | zero =>
    intro i nn m hi hn ht hS h13 h14
    obtain ⟨nn, rfl⟩ : ∃ n', nn = n' + 1 := ⟨nn - 1, by omega⟩
    have := ht.1
    refine ⟨m, ?_, by rw [run]; exact h14, hS, fun _ _ => rfl, fun _ _ => rfl⟩
    rw [X12_goes_L0, rd_gi hT.me h14, Option.bind_some, rd_gi hT.me h13, Option.bind_some, iep (by omega)]
  | succ j ih =>
    intro i nn m hi hn ht hS h13 h14
    obtain ⟨nn, rfl⟩ : ∃ n', nn = n' + 1 := ⟨nn - 1, by omega⟩
    have h6 := ht.1
    have hc := ht.2.1 i (by omega)
    have bt := X12_byteAt_eq (e := e) hT hS ht h13 (show i ≤ n by omega)
    rw [if_pos (show i < n by omega)] at bt
    rw [run]
    by_cases hsp : T i = 32 ∨ T i = 10
    · have hb : isSp (T i) = true := by unfold isSp; simpa using hsp
      simp only [hb, if_true]
      generalize hm1 : mm_up m q 14 (.int (zI (i + 1 : Nat))) = m1
      have r1 : ∀ b, b ≠ q → m1 b = m b := fun b h => by rw [← hm1, up_row _ _ _ h]
      have q1 : ∀ k, k ≠ 14 → m1 q k = m q k := fun k h => by rw [← hm1, up_ne _ _ (Or.inr h)]
      obtain ⟨m', e1, e2, e3, e4, e5⟩ := ih (i + 1) nn m1 (by omega) (by omega) ⟨ht.1, ht.2.1, fun k hk => by rw [r1 _ (by omega)]; exact ht.2.2 k hk⟩ (by rw [← hm1]; exact hS.up (by decide)) (by rw [q1 _ (by omega)]; exact h13) (by rw [← hm1, up_at])
      refine ⟨m', ?_, e2, e3, fun k hk => by rw [e4 k hk, q1 k hk], fun b hb => by rw [e5 b hb, r1 b hb]⟩
      rw [X12_goes_L0, rd_gi hT.me h14, Option.bind_some, rd_gi hT.me h13, Option.bind_some, ien (by omega), Option.bind_some, bt, Option.bind_some]
      unfold X12_goes_b37
      simp only [LT]
      by_cases h32 : T i = 32
      · rw [iqp (by omega), rd_gi hT.me h14, Option.bind_some, show (zI (i : Int) + zI 1 : Int32) = zI ((i + 1 : Nat) : Int) from zI_add _ _, wr_pf hT.me, Option.bind_some, hm1]; exact e1
      · rw [iqn (by omega), rd_gi hT.me h14, Option.bind_some, bt, Option.bind_some]
        simp only
        rw [inn (by omega), rd_gi hT.me h14, Option.bind_some, show (zI (i : Int) + zI 1 : Int32) = zI ((i + 1 : Nat) : Int) from zI_add _ _, wr_pf hT.me, Option.bind_some, hm1]; exact e1
    · have hb : isSp (T i) = false := by unfold isSp; simpa using hsp
      simp only [hb]
      refine ⟨m, ?_, h14, hS, fun _ _ => rfl, fun _ _ => rfl⟩
      rw [X12_goes_L0, rd_gi hT.me h14, Option.bind_some, rd_gi hT.me h13, Option.bind_some, ien (by omega), Option.bind_some, bt, Option.bind_some]
      simp only [LT]
      rw [iqn (by omega), rd_gi hT.me h14, Option.bind_some, bt, Option.bind_some]
      simp only
      rw [inp (by omega)]
theorem X12_goes_eq {m : mm_V} {b : Nat} (hT : modT e.1 q) (hS : modS m q) (ht : txR m (q + 4) n T) (h13 : m q 13 = .int (zI n)) (h14 : m q 14 = .int (zI b)) (hb : b ≤ n) (hN : 1000 < e.2.2) : ∃ m', X12_goes e q m = some m' ∧ tkM m' q n T (tok T n b) ∧ modS m' q ∧ (∀ k, (k < 14 ∨ 20 < k) → m' q k = m q k) ∧ ∀ c, c ≠ q → m' c = m c := by
  have h6 := ht.1
  obtain ⟨m2, a1, a2, a3, a4, a5⟩ := X12_skip_loop (e := e) (T := T) hT (n - b) b e.2.2 m (by omega) (by omega) ht hS h13 h14
  have hsb := run_le (fun i => isSp (T i)) (n - b) b
  change m2 q 14 = .int (zI (skp T n b)) at a2
  change b ≤ skp T n b ∧ skp T n b ≤ b + (n - b) at hsb
  have hgo : X12_goes e q m = X12_goes_b50 e q m2 := a1
  rw [hgo]
  unfold tok
  simp only
  generalize skp T n b = s at a2 hsb
  have t2 : txR m2 (q + 4) n T := ⟨ht.1, ht.2.1, fun k hk => by rw [a5 _ (by omega)]; exact ht.2.2 k hk⟩
  generalize hc0 : (if s < n then T s else 0) = c
  have hc : c < 256 := by rw [← hc0]; split; exact ht.2.1 s (by assumption); omega
  generalize hm3 : mm_up (mm_up (mm_up (mm_up m2 q 16 (.int (zI s))) q 20 (.long (lI (0 : Nat)))) q 18 (.int (zI 0))) q 19 (.int (zI c)) = m3
  have S3 : modS m3 q := by rw [← hm3]; exact (((a3.up (by decide)).up (by decide)).up (by decide)).up (by decide)
  have r3 : ∀ x, x ≠ q → m3 x = m x := fun x h => by rw [← hm3, up_row _ _ _ h, up_row _ _ _ h, up_row _ _ _ h, up_row _ _ _ h, a5 x h]
  have q3 : ∀ k, k ≠ 16 → k ≠ 18 → k ≠ 19 → k ≠ 20 → m3 q k = m2 q k := fun k x1 x2 x3 x4 => by rw [← hm3, up_ne _ _ (Or.inr x3), up_ne _ _ (Or.inr x2), up_ne _ _ (Or.inr x4), up_ne _ _ (Or.inr x1)]
  have v16 : m3 q 16 = .int (zI s) := by rw [← hm3, up_ne _ _ (by omega), up_ne _ _ (by omega), up_ne _ _ (by omega), up_at]
  have v20 : m3 q 20 = .long (lI (0 : Nat)) := by rw [← hm3, up_ne _ _ (by omega), up_ne _ _ (by omega), up_at]
  have v18 : m3 q 18 = .int (zI 0) := by rw [← hm3, up_ne _ _ (by omega), up_at]
  have v19 : m3 q 19 = .int (zI c) := by rw [← hm3, up_at]
  have v14 : m3 q 14 = .int (zI s) := by rw [q3 _ (by omega) (by omega) (by omega) (by omega)]; exact a2
  have v13 : m3 q 13 = .int (zI n) := by rw [q3 _ (by omega) (by omega) (by omega) (by omega), a4 _ (by omega)]; exact h13
  have t3 : txR m3 (q + 4) n T := ⟨ht.1, ht.2.1, fun k hk => by rw [r3 _ (by omega)]; exact ht.2.2 k hk⟩
  have out3 : ∀ k, (k < 14 ∨ 20 < k) → m3 q k = m q k := fun k hk => by rw [q3 _ (by omega) (by omega) (by omega) (by omega), a4 _ (by omega)]
  sorry
end GOES2
