/-! TOKENS of the model: the next one. -/
theorem sh_or {Y d : Nat} (hY : Y < 2 ^ 25) (hd : d < 32) : ((lI (Y : Int)) <<< ((5 : Int32).toInt64 &&& 63)) ||| (zI (d : Int)).toInt64 = lI ((32 * Y + d : Nat) : Int) := by
  have h1 : ∀ z : Nat, (lI (z : Int)).toBitVec = BitVec.ofNat 64 z := fun z => by
    show (Int64.ofInt (z : Int)).toBitVec = _
    rw [Int64.toBitVec_ofInt]; exact BitVec.ofInt_natCast 64 z
  have h2 : (zI (d : Int)).toInt64 = lI (d : Int) := by
    apply Int64.toInt_inj.mp
    rw [Int32.toInt_toInt64, zI_toInt (by omega) (by omega)]
    exact (Int64.toInt_ofInt_of_le (by omega) (by omega)).symm
  rw [h2]
  apply Int64.toBitVec_inj.mp
  rw [Int64.toBitVec_or, Int64.toBitVec_shiftLeft, h1, h1, h1]
  rw [show (((5 : Int32).toInt64 &&& 63).toBitVec.smod 64) = 5#64 by decide]
  apply BitVec.eq_of_toNat_eq
  rw [BitVec.toNat_or]
  rw [show (BitVec.ofNat 64 Y <<< 5#64) = BitVec.ofNat 64 Y <<< 5 by rfl]
  rw [BitVec.toNat_shiftLeft, BitVec.toNat_ofNat, BitVec.toNat_ofNat, BitVec.toNat_ofNat, Nat.mod_eq_of_lt (show Y < 2 ^ 64 by omega), Nat.mod_eq_of_lt (show d < 2 ^ 64 by omega), Nat.mod_eq_of_lt (show 32 * Y + d < 2 ^ 64 by omega), Nat.shiftLeft_eq, Nat.mod_eq_of_lt (by omega)]
  have := Nat.shiftLeft_add_eq_or_of_lt (i := 5) (b := d) (by omega) Y
  rw [Nat.shiftLeft_eq] at this
  rw [← this]; omega
def pkW (T : Nat → Nat) (s : Nat) : Nat → Nat
  | 0 => 0
  | k + 1 => 32 * pkW T s k + (T (s + k) - 96)
def tkM (m : mm_V) (q n : Nat) (T : Nat → Nat) (t : TK) : Prop := m q 13 = .int (zI n) ∧ m q 14 = .int (zI t.2.2) ∧ m q 15 = .int (zI t.1) ∧ m q 16 = .int (zI t.2.1) ∧ m q 17 = .int (zI (t.2.2 - t.2.1 : Nat)) ∧ (t.1 = 2 → m q 18 = .int (zI (dv T t.2.1 (min (t.2.2 - t.2.1) 4)))) ∧ (t.1 = 3 → m q 19 = .int (zI (T t.2.1))) ∧ (t.1 = 1 → m q 20 = .long (lI (pkW T t.2.1 (min (t.2.2 - t.2.1) 6))))
theorem pkW_lt {T : Nat → Nat} {s : Nat} : ∀ k, k ≤ 6 → (∀ i, i < k → isLt (T (s + i)) = true) → pkW T s k < 2 ^ (5 * k)
  | 0, _, _ => by simp [pkW]
  | k + 1, h6, h => by
    have ih := pkW_lt k (by omega) (fun i hi => h i (by omega))
    have hk := h k (by omega)
    unfold isLt at hk
    have hk : 97 ≤ T (s + k) ∧ T (s + k) ≤ 122 := by simpa using hk
    rw [pkW, show 5 * (k + 1) = 5 * k + 5 by omega, Nat.pow_add]
    have : (2 : Nat) ^ 5 = 32 := rfl
    omega
section GOES
variable {e : mm_E} {q n : Nat} {T : Nat → Nat}
theorem X12_byteAt_eq {m : mm_V} (hT : modT e.1 q) (hS : modS m q) (ht : txR m (q + 4) n T) (h13 : m q 13 = .int (zI n)) {i : Nat} (hi : i ≤ n) : X12_byteAt e q (zI i) m = some (zI (if i < n then T i else 0 : Nat), m) := by
  have := ht.1
  unfold X12_byteAt X12_byteAt_b18
  rw [rd_gi hT.me h13, Option.bind_some]
  by_cases h : i < n
  · rw [ien (by omega), rd_gr hT.me hS.tape_, Option.bind_some, rd_ai hT.tape_ (i := i) rfl (by omega) (by omega) (ht.2.2 i h), Option.bind_some, if_pos h]
  · rw [iep (by omega), if_neg h]; rfl
theorem X12_isLetter_eq {m : mm_V} {c : Nat} (hc : c < 256) : X12_isLetter e (zI c) m = some (bZ (isLt c), m) := X9_isLetter_eq (e := e) hc
theorem X12_isDigit_eq {m : mm_V} {c : Nat} (hc : c < 256) : X12_isDigit e (zI c) m = some (bZ (isDg c), m) := X9_isDigit_eq (e := e) hc
theorem X12_goes_331 {m : mm_V} (hT : modT e.1 q) {E s : Nat} (hE : E < 10000) (hs : s ≤ E) (h14 : m q 14 = .int (zI E)) (h16 : m q 16 = .int (zI s)) : X12_goes_b331 e q m = some (mm_up m q 17 (.int (zI (E - s : Nat)))) := by
  unfold X12_goes_b331
  rw [rd_gi hT.me h14, Option.bind_some, rd_gi hT.me h16, Option.bind_some, zI_sub, show ((E : Int) - (s : Int)) = ((E - s : Nat) : Int) by omega, wr_pf hT.me, Option.bind_some]
theorem modS.up {m : mm_V} {k : Nat} {v : Value} (h : modS m q) (hk : k ∈ [0, 1, 2, 3, 4, 9, 10, 11, 13, 14, 15, 16, 17, 18, 19, 20, 21, 22, 23, 24, 25, 26, 27, 28, 29, 30, 41, 45, 46, 47, 48, 54, 66, 67, 71, 72]) : modS (mm_up m q k v) q := h.keep (fun i x1 x2 => by rw [up_ne _ _ (Or.inr (mfld_ne k hk i x1 x2))])
theorem X12_word_loop (hT : modT e.1 q) {s : Nat} : ∀ (j i nn : Nat) (m : mm_V), i + j = n → s ≤ i → j < nn → txR m (q + 4) n T → modS m q → m q 13 = .int (zI n) → m q 14 = .int (zI i) → m q 16 = .int (zI s) → m q 20 = .long (lI (pkW T s (min (i - s) 6))) → (∀ k, s ≤ k → k < i → isLt (T k) = true) → ∃ m', X12_goes_L108 e q nn m = some m' ∧ m' q 14 = .int (zI (run (fun i => isLt (T i)) j i)) ∧ m' q 15 = .int (zI 1) ∧ m' q 17 = .int (zI (run (fun i => isLt (T i)) j i - s : Nat)) ∧ m' q 20 = .long (lI (pkW T s (min (run (fun i => isLt (T i)) j i - s) 6))) ∧ (∀ k, k ≠ 14 → k ≠ 15 → k ≠ 17 → k ≠ 20 → m' q k = m q k) ∧ ∀ b, b ≠ q → m' b = m b := by
  intro j
  induction j with
  | zero =>
    intro i nn m hi hs hn ht hS h13 h14 h16 h20 hlt
    obtain ⟨nn, rfl⟩ : ∃ n', nn = n' + 1 := ⟨nn - 1, by omega⟩
    have h6 := ht.1
    rw [run]
    refine ⟨mm_up (mm_up m q 15 (.int (zI 1))) q 17 (.int (zI (i - s : Nat))), ?_, ?_, ?_, up_at _ _ _ _, ?_, fun k x1 x2 x3 x4 => by rw [up_ne _ _ (Or.inr x3), up_ne _ _ (Or.inr x2)], fun b hb => by rw [up_row _ _ _ hb, up_row _ _ _ hb]⟩
    · rw [X12_goes_L108, rd_gi hT.me h14, Option.bind_some, X12_byteAt_eq hT hS ht h13 (by omega), if_neg (by omega), Option.bind_some]
      simp only
      rw [X12_isLetter_eq (by omega), Option.bind_some, if_pos (show bZ (isLt 0) = 0 from rfl), wr_pf hT.me, Option.bind_some]
      exact X12_goes_331 hT (E := i) (s := s) (by omega) hs (by rw [up_ne _ _ (by omega)]; exact h14) (by rw [up_ne _ _ (by omega)]; exact h16)
    · rw [up_ne _ _ (by omega), up_ne _ _ (by omega)]; exact h14
    · rw [up_ne _ _ (by omega), up_at]
    · rw [up_ne _ _ (by omega), up_ne _ _ (by omega)]; exact h20
  | succ j ih =>
    intro i nn m hi hs hn ht hS h13 h14 h16 h20 hlt
    obtain ⟨nn, rfl⟩ : ∃ n', nn = n' + 1 := ⟨nn - 1, by omega⟩
    have h6 := ht.1
    have hc := ht.2.1 i (by omega)
    have bt := X12_byteAt_eq (e := e) hT hS ht h13 (show i ≤ n by omega)
    rw [if_pos (show i < n by omega)] at bt
    rw [run]
    cases hl : isLt (T i) with
    | false =>
      simp only [Bool.false_eq_true, if_false]
      refine ⟨mm_up (mm_up m q 15 (.int (zI 1))) q 17 (.int (zI (i - s : Nat))), ?_, ?_, ?_, up_at _ _ _ _, ?_, fun k x1 x2 x3 x4 => by rw [up_ne _ _ (Or.inr x3), up_ne _ _ (Or.inr x2)], fun b hb => by rw [up_row _ _ _ hb, up_row _ _ _ hb]⟩
      · rw [X12_goes_L108, rd_gi hT.me h14, Option.bind_some, bt, Option.bind_some]
        simp only
        rw [X12_isLetter_eq hc, Option.bind_some, hl, if_pos (show bZ false = 0 from rfl), wr_pf hT.me, Option.bind_some]
        exact X12_goes_331 hT (E := i) (s := s) (by omega) hs (by rw [up_ne _ _ (by omega)]; exact h14) (by rw [up_ne _ _ (by omega)]; exact h16)
      · rw [up_ne _ _ (by omega), up_ne _ _ (by omega)]; exact h14
      · rw [up_ne _ _ (by omega), up_at]
      · rw [up_ne _ _ (by omega), up_ne _ _ (by omega)]; exact h20
    | true =>
      simp only [if_true]
      have hl2 : 97 ≤ T i ∧ T i ≤ 122 := by unfold isLt at hl; simpa using hl
      have hlt' : ∀ k, s ≤ k → k < i + 1 → isLt (T k) = true := fun k x1 x2 => by
        by_cases hk : k = i
        · rw [hk]; exact hl
        · exact hlt k x1 (by omega)
      by_cases h66 : 6 ≤ i - s
      · generalize hm2 : mm_up m q 14 (.int (zI (i + 1 : Nat))) = m2
        have q2 : ∀ k, k ≠ 14 → m2 q k = m q k := fun k h => by rw [← hm2, up_ne _ _ (Or.inr h)]
        have r2 : ∀ b, b ≠ q → m2 b = m b := fun b h => by rw [← hm2, up_row _ _ _ h]
        obtain ⟨m', e1, e2, e3, e4, e5, e6, e7⟩ := ih (i + 1) nn m2 (by omega) (by omega) (by omega) ⟨ht.1, ht.2.1, fun k hk => by rw [r2 _ (by omega)]; exact ht.2.2 k hk⟩ (by rw [← hm2]; exact hS.up (by decide)) (by rw [q2 _ (by omega)]; exact h13) (by rw [← hm2, up_at]) (by rw [q2 _ (by omega)]; exact h16) (by rw [q2 _ (by omega), h20, show min (i - s) 6 = 6 by omega, show min (i + 1 - s) 6 = 6 by omega]) hlt'
        refine ⟨m', ?_, e2, e3, e4, e5, fun k x1 x2 x3 x4 => by rw [e6 k x1 x2 x3 x4, q2 k x1], fun b hb => by rw [e7 b hb, r2 b hb]⟩
        rw [X12_goes_L108, rd_gi hT.me h14, Option.bind_some, bt, Option.bind_some]
        simp only
        rw [X12_isLetter_eq hc, Option.bind_some, hl, if_neg (show ¬ bZ true = 0 by decide)]
        simp only [LT]
        rw [rd_gi hT.me h14, Option.bind_some, rd_gi hT.me h16, Option.bind_some, zI_sub, iep (by omega)]
        unfold X12_goes_b159
        rw [rd_gi hT.me h14, Option.bind_some, show (zI (i : Int) + 1 : Int32) = zI ((i + 1 : Nat) : Int) from zI_add _ 1, wr_pf hT.me, Option.bind_some, hm2]
        exact e1
      · have hpk := pkW_lt (T := T) (s := s) (i - s) (by omega) (fun k hk => hlt (s + k) (by omega) (by omega))
        have hpk2 : pkW T s (i - s) < 2 ^ 25 := Nat.lt_of_lt_of_le hpk (Nat.pow_le_pow_right (by omega) (by omega))
        generalize hm1 : mm_up m q 20 (.long (lI (pkW T s (i + 1 - s)))) = m1
        generalize hm2 : mm_up m1 q 14 (.int (zI (i + 1 : Nat))) = m2
        have q2 : ∀ k, k ≠ 14 → k ≠ 20 → m2 q k = m q k := fun k x1 x2 => by rw [← hm2, up_ne _ _ (Or.inr x1), ← hm1, up_ne _ _ (Or.inr x2)]
        have r2 : ∀ b, b ≠ q → m2 b = m b := fun b h => by rw [← hm2, up_row _ _ _ h, ← hm1, up_row _ _ _ h]
        obtain ⟨m', e1, e2, e3, e4, e5, e6, e7⟩ := ih (i + 1) nn m2 (by omega) (by omega) (by omega) ⟨ht.1, ht.2.1, fun k hk => by rw [r2 _ (by omega)]; exact ht.2.2 k hk⟩ (by rw [← hm2, ← hm1]; exact (hS.up (by decide)).up (by decide)) (by rw [q2 _ (by omega) (by omega)]; exact h13) (by rw [← hm2, up_at]) (by rw [q2 _ (by omega) (by omega)]; exact h16) (by rw [← hm2, up_ne _ _ (by omega), ← hm1, up_at, show min (i + 1 - s) 6 = i + 1 - s by omega]) hlt'
        refine ⟨m', ?_, e2, e3, e4, e5, fun k x1 x2 x3 x4 => by rw [e6 k x1 x2 x3 x4, q2 k x1 x4], fun b hb => by rw [e7 b hb, r2 b hb]⟩
        rw [X12_goes_L108, rd_gi hT.me h14, Option.bind_some, bt, Option.bind_some]
        simp only
        rw [X12_isLetter_eq hc, Option.bind_some, hl, if_neg (show ¬ bZ true = 0 by decide), rd_gi hT.me h14, Option.bind_some, rd_gi hT.me h16, Option.bind_some, zI_sub, show (6 : Int32) = zI 6 from rfl, ien (by omega), rd_gl hT.me h20, Option.bind_some]
        simp only
        rw [Option.bind_some, bt, Option.bind_some]
        simp only
        rw [show (96 : Int32) = zI 96 from rfl, zI_sub, show ((T i : Int) - 96) = ((T i - 96 : Nat) : Int) by omega, show min (i - s) 6 = i - s by omega, sh_or hpk2 (by omega), show (32 * pkW T s (i - s) + (T i - 96)) = pkW T s (i + 1 - s) by rw [show i + 1 - s = (i - s) + 1 by omega, pkW, show s + (i - s) = i by omega], wr_pf hT.me, Option.bind_some, hm1]
        unfold X12_goes_b159
        rw [rd_gi hT.me (v := zI i) (by rw [← hm1, up_ne _ _ (by omega)]; exact h14), Option.bind_some, show (zI (i : Int) + 1 : Int32) = zI ((i + 1 : Nat) : Int) from zI_add _ 1, wr_pf hT.me, Option.bind_some, hm2]
        exact e1
theorem X12_num_loop (hT : modT e.1 q) {s : Nat} : ∀ (j i nn : Nat) (m : mm_V), i + j = n → s ≤ i → j < nn → txR m (q + 4) n T → modS m q → m q 13 = .int (zI n) → m q 14 = .int (zI i) → m q 16 = .int (zI s) → m q 18 = .int (zI (dv T s (min (i - s) 4))) → ∃ m', X12_goes_L187 e q nn m = some m' ∧ m' q 14 = .int (zI (run (fun i => isDg (T i)) j i)) ∧ m' q 15 = .int (zI 2) ∧ m' q 17 = .int (zI (run (fun i => isDg (T i)) j i - s : Nat)) ∧ m' q 18 = .int (zI (dv T s (min (run (fun i => isDg (T i)) j i - s) 4))) ∧ (∀ k, k ≠ 14 → k ≠ 15 → k ≠ 17 → k ≠ 18 → m' q k = m q k) ∧ ∀ b, b ≠ q → m' b = m b := by
  intro j
  induction j with
  | zero =>
    intro i nn m hi hs hn ht hS h13 h14 h16 h18
    obtain ⟨nn, rfl⟩ : ∃ n', nn = n' + 1 := ⟨nn - 1, by omega⟩
    have h6 := ht.1
    rw [run]
    refine ⟨mm_up (mm_up m q 15 (.int (zI 2))) q 17 (.int (zI (i - s : Nat))), ?_, ?_, ?_, up_at _ _ _ _, ?_, fun k x1 x2 x3 x4 => by rw [up_ne _ _ (Or.inr x3), up_ne _ _ (Or.inr x2)], fun b hb => by rw [up_row _ _ _ hb, up_row _ _ _ hb]⟩
    · rw [X12_goes_L187, rd_gi hT.me h14, Option.bind_some, X12_byteAt_eq hT hS ht h13 (by omega), if_neg (by omega), Option.bind_some]
      simp only
      rw [X12_isDigit_eq (by omega), Option.bind_some, if_pos (show bZ (isDg 0) = 0 from rfl), wr_pf hT.me, Option.bind_some]
      exact X12_goes_331 hT (E := i) (s := s) (by omega) hs (by rw [up_ne _ _ (by omega)]; exact h14) (by rw [up_ne _ _ (by omega)]; exact h16)
    · rw [up_ne _ _ (by omega), up_ne _ _ (by omega)]; exact h14
    · rw [up_ne _ _ (by omega), up_at]
    · rw [up_ne _ _ (by omega), up_ne _ _ (by omega)]; exact h18
  | succ j ih =>
    intro i nn m hi hs hn ht hS h13 h14 h16 h18
    obtain ⟨nn, rfl⟩ : ∃ n', nn = n' + 1 := ⟨nn - 1, by omega⟩
    have h6 := ht.1
    have hc := ht.2.1 i (by omega)
    have bt := X12_byteAt_eq (e := e) hT hS ht h13 (show i ≤ n by omega)
    rw [if_pos (show i < n by omega)] at bt
    rw [run]
    cases hl : isDg (T i) with
    | false =>
      simp only [Bool.false_eq_true, if_false]
      refine ⟨mm_up (mm_up m q 15 (.int (zI 2))) q 17 (.int (zI (i - s : Nat))), ?_, ?_, ?_, up_at _ _ _ _, ?_, fun k x1 x2 x3 x4 => by rw [up_ne _ _ (Or.inr x3), up_ne _ _ (Or.inr x2)], fun b hb => by rw [up_row _ _ _ hb, up_row _ _ _ hb]⟩
      · rw [X12_goes_L187, rd_gi hT.me h14, Option.bind_some, bt, Option.bind_some]
        simp only
        rw [X12_isDigit_eq hc, Option.bind_some, hl, if_pos (show bZ false = 0 from rfl), wr_pf hT.me, Option.bind_some]
        exact X12_goes_331 hT (E := i) (s := s) (by omega) hs (by rw [up_ne _ _ (by omega)]; exact h14) (by rw [up_ne _ _ (by omega)]; exact h16)
      · rw [up_ne _ _ (by omega), up_ne _ _ (by omega)]; exact h14
      · rw [up_ne _ _ (by omega), up_at]
      · rw [up_ne _ _ (by omega), up_ne _ _ (by omega)]; exact h18
    | true =>
      simp only [if_true]
      by_cases h66 : 4 ≤ i - s
      · generalize hm2 : mm_up m q 14 (.int (zI (i + 1 : Nat))) = m2
        have q2 : ∀ k, k ≠ 14 → m2 q k = m q k := fun k h => by rw [← hm2, up_ne _ _ (Or.inr h)]
        have r2 : ∀ b, b ≠ q → m2 b = m b := fun b h => by rw [← hm2, up_row _ _ _ h]
        obtain ⟨m', e1, e2, e3, e4, e5, e6, e7⟩ := ih (i + 1) nn m2 (by omega) (by omega) (by omega) ⟨ht.1, ht.2.1, fun k hk => by rw [r2 _ (by omega)]; exact ht.2.2 k hk⟩ (by rw [← hm2]; exact hS.up (by decide)) (by rw [q2 _ (by omega)]; exact h13) (by rw [← hm2, up_at]) (by rw [q2 _ (by omega)]; exact h16) (by rw [q2 _ (by omega), h18, show min (i - s) 4 = 4 by omega, show min (i + 1 - s) 4 = 4 by omega])
        refine ⟨m', ?_, e2, e3, e4, e5, fun k x1 x2 x3 x4 => by rw [e6 k x1 x2 x3 x4, q2 k x1], fun b hb => by rw [e7 b hb, r2 b hb]⟩
        rw [X12_goes_L187, rd_gi hT.me h14, Option.bind_some, bt, Option.bind_some]
        simp only
        rw [X12_isDigit_eq hc, Option.bind_some, hl, if_neg (show ¬ bZ true = 0 by decide)]
        simp only [LT]
        rw [rd_gi hT.me h14, Option.bind_some, rd_gi hT.me h16, Option.bind_some, zI_sub, iep (by omega)]
        unfold X12_goes_b237
        rw [rd_gi hT.me h14, Option.bind_some, show (zI (i : Int) + 1 : Int32) = zI ((i + 1 : Nat) : Int) from zI_add _ 1, wr_pf hT.me, Option.bind_some, hm2]
        exact e1
      · generalize hm1 : mm_up m q 18 (.int (zI (dv T s (i + 1 - s)))) = m1
        generalize hm2 : mm_up m1 q 14 (.int (zI (i + 1 : Nat))) = m2
        have q2 : ∀ k, k ≠ 14 → k ≠ 18 → m2 q k = m q k := fun k x1 x2 => by rw [← hm2, up_ne _ _ (Or.inr x1), ← hm1, up_ne _ _ (Or.inr x2)]
        have r2 : ∀ b, b ≠ q → m2 b = m b := fun b h => by rw [← hm2, up_row _ _ _ h, ← hm1, up_row _ _ _ h]
        obtain ⟨m', e1, e2, e3, e4, e5, e6, e7⟩ := ih (i + 1) nn m2 (by omega) (by omega) (by omega) ⟨ht.1, ht.2.1, fun k hk => by rw [r2 _ (by omega)]; exact ht.2.2 k hk⟩ (by rw [← hm2, ← hm1]; exact (hS.up (by decide)).up (by decide)) (by rw [q2 _ (by omega) (by omega)]; exact h13) (by rw [← hm2, up_at]) (by rw [q2 _ (by omega) (by omega)]; exact h16) (by rw [← hm2, up_ne _ _ (by omega), ← hm1, up_at, show min (i + 1 - s) 4 = i + 1 - s by omega])
        refine ⟨m', ?_, e2, e3, e4, e5, fun k x1 x2 x3 x4 => by rw [e6 k x1 x2 x3 x4, q2 k x1 x4], fun b hb => by rw [e7 b hb, r2 b hb]⟩
        rw [X12_goes_L187, rd_gi hT.me h14, Option.bind_some, bt, Option.bind_some]
        simp only
        rw [X12_isDigit_eq hc, Option.bind_some, hl, if_neg (show ¬ bZ true = 0 by decide)]
        simp only [LT]
        rw [rd_gi hT.me h14, Option.bind_some, rd_gi hT.me h16, Option.bind_some, zI_sub, ien (by omega), rd_gi hT.me h18, Option.bind_some, Option.bind_some, bt, Option.bind_some]
        simp only
        rw [show min (i - s) 4 = i - s by omega, zI_mul, zI_add, zI_sub, show (10 * dv T s (i - s) + (T i : Int) - 48) = dv T s (i + 1 - s) by rw [show i + 1 - s = (i - s) + 1 by omega, dv, show s + (i - s) = i by omega], wr_pf hT.me, Option.bind_some, hm1]
        unfold X12_goes_b237
        rw [rd_gi hT.me (v := zI i) (by rw [← hm1, up_ne _ _ (by omega)]; exact h14), Option.bind_some, show (zI (i : Int) + 1 : Int32) = zI ((i + 1 : Nat) : Int) from zI_add _ 1, wr_pf hT.me, Option.bind_some, hm2]
        exact e1
end GOES
