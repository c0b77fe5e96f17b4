/-! WHO BEGINS: class and model. -/
def opn (N : Nat) (f : Nat → List Nat) : Option Nat := if hasC f 0 then some 0 else nxt N f 0
section START
variable {e : mm_E} {a t N q r : Nat} {f : Nat → List Nat}
theorem X4_start_loop (ht : gameT e.1 a) (htt : e.1 t = some (10, 11)) (hta : t < a ∨ a + 20 ≤ t) (h2 : 2 ≤ N) (h6 : N ≤ 6) (hN : 20 < e.2.2) : ∀ (j i n : Nat) (m : mm_V), i + j = 6 → j < n → gameS m a t → gameF m a f → m t 6 = .int (zI N) → (∀ k, k < i → m (a + 5) k = .int (zI 0)) → ∃ m', X4_start_L7 e a n (zI i) m = some m' ∧ m' a 10 = .int (ozI (opn N f)) ∧ (∀ k, k < 6 → m' (a + 5) k = .int (zI 0)) ∧ (∀ k, k ≠ 10 → m' a k = m a k) ∧ ∀ b, b ≠ a → b ≠ a + 5 → m' b = m b := by
  intro j
  induction j with
  | zero =>
    intro i n m hi hn h hf hn6 hl
    obtain ⟨n, rfl⟩ : ∃ n', n = n' + 1 := ⟨n - 1, by omega⟩
    refine ⟨mm_up m a 10 (.int (ozI (opn N f))), ?_, up_at _ _ _ _, fun k hk => by rw [up_ne _ _ (Or.inl (by omega))]; exact hl k (by omega), fun k hk => up_ne _ _ (Or.inr hk), fun b hb _ => up_row _ _ _ hb⟩
    unfold X4_start_L7 X4_start_b45
    simp only [LT]
    have hb := X4_beside_eq (e := e) ht htt h hf hn6 h2 h6 (show 0 < N by omega) true hN
    have he := X4_isEmpty_eq (e := e) ht h hf (show 0 < 6 by omega)
    simp only [bZ, if_true] at hb
    rw [show ((0 : Nat) : Int) = 0 from rfl] at hb he
    rw [iep (by omega), he, Option.bind_some]
    unfold opn
    cases hc : hasC f 0 with
    | true =>
      simp only [bZ, Bool.not_true, Bool.false_eq_true, if_false, if_true]
      rw [wr_pf ht.1]; rfl
    | false =>
      simp only [bZ, Bool.not_false, Bool.false_eq_true, if_false, if_true]
      rw [iqn (by omega), hb, Option.bind_some, wr_pf ht.1]; rfl
  | succ j ih =>
    intro i n m hi hn h hf hn6 hl
    obtain ⟨n, rfl⟩ : ∃ n', n = n' + 1 := ⟨n - 1, by omega⟩
    obtain ⟨m', e1, e2, e3, e4, e5⟩ := ih (i + 1) n (mm_up m (a + 5) i (.int (zI 0))) (by omega) (by omega) (h.keep (fun j _ => up_ne _ _ (Or.inl (by omega))) (fun b _ _ => up_row _ _ _ (by omega))) (hf.keep (fun b _ _ => up_row _ _ _ (by omega))) (by rw [up_ne _ _ (Or.inl (by omega))]; exact hn6) (fun k hk => by
      by_cases hki : k = i
      · subst hki; exact up_at _ _ _ _
      · rw [up_ne _ _ (Or.inr hki)]; exact hl k (by omega))
    refine ⟨m', ?_, e2, e3, fun k hk => by rw [e4 k hk, up_ne _ _ (Or.inl (by omega))], fun b x1 x2 => by rw [e5 b x1 x2, up_row _ _ _ x2]⟩
    unfold X4_start_L7
    simp only [LT]
    rw [ien (by omega), rd_gr ht.1 h.2.2.2.1, Option.bind_some, wr_si ht.2.2.2.2.1 (i := i) rfl (by omega) (by omega), Option.bind_some, zI_add]
    exact e1
theorem X4_start_eq {m : mm_V} (ht : gameT e.1 a) (htt : e.1 t = some (10, 11)) (hta : t < a ∨ a + 20 ≤ t) (h2 : 2 ≤ N) (h6 : N ≤ 6) (h : gameS m a t) (hf : gameF m a f) (hn : m t 6 = .int (zI N)) (hN : 20 < e.2.2) : ∃ m', X4_start e a m = some m' ∧ m' a 11 = .int (zI 0) ∧ m' a 10 = .int (ozI (opn N f)) ∧ (∀ k, k < 6 → m' (a + 5) k = .int (zI 0)) ∧ (∀ k, k ≠ 10 → k ≠ 11 → m' a k = m a k) ∧ ∀ b, b ≠ a → b ≠ a + 5 → m' b = m b := by
  obtain ⟨m', e1, e2, e3, e4, e5⟩ := X4_start_loop (e := e) (f := f) ht htt hta h2 h6 hN 6 0 e.2.2 (mm_up m a 11 (.int (zI 0))) (by omega) (by omega) (h.keep (fun j _ => up_ne _ _ (Or.inr (by omega))) (fun b _ _ => up_row _ _ _ (by omega))) (hf.keep (fun b _ _ => up_row _ _ _ (by omega))) (by rw [up_ne _ _ (Or.inl (by omega))]; exact hn) (fun k hk => absurd hk (by omega))
  refine ⟨m', ?_, by rw [e4 _ (by omega), up_at], e2, e3, fun k x1 x2 => by rw [e4 k x1, up_ne _ _ (Or.inr x2)], fun b x1 x2 => by rw [e5 b x1 x2, up_row _ _ _ x1]⟩
  unfold X4_start
  rw [show (0 : Int32) = zI 0 from rfl, wr_pf ht.1, Option.bind_some]
  exact e1
theorem X12_opens_eq {m : mm_V} (ht : e.1 r = some (20, 128)) (hq : e.1 q = some (12, 75)) (h : rowF m r f) (hn : m q 1 = .int (zI N)) (h2 : 2 ≤ N) (h6 : N ≤ 6) (hN : 20 < e.2.2) : X12_opens e q r m = some (mm_up m r 0 (.int (if isOv N f then zI (-1) else ozI (opn N f)))) := by
  have hb := (h 0 (by omega)).2.1
  unfold X12_opens X12_opens_b32
  simp only [LT, zI_neg]
  have hs := X12_size_eq (e := e) ht h (show 0 < 6 by omega)
  have hx := X12_nextOf_eq (e := e) ht hq h hn h2 h6 (show 0 < N by omega) hN
  rw [show ((0 : Nat) : Int) = 0 from rfl] at hs hx
  rw [X12_isOver_eq ht hq h hn h6 hN, Option.bind_some]
  cases ho : isOv N f with
  | true =>
    simp only [bZ, if_true]
    rw [iqn (by omega), wr_si ht (i := 0) (by omega) (by omega) (by omega)]; rfl
  | false =>
    simp only [bZ, Bool.false_eq_true, if_false, if_true]
    rw [hs, Option.bind_some]
    unfold opn
    by_cases hc : hasC f 0 = true
    · have := hasC_pos.mp hc
      rw [ien (by omega), if_pos hc, wr_si ht (i := 0) (by omega) (by omega) (by omega)]; rfl
    · have := mt hasC_pos.mpr hc
      rw [iep (by omega), if_neg hc, hx, Option.bind_some, wr_si ht (i := 0) (by omega) (by omega) (by omega)]; rfl
end START
