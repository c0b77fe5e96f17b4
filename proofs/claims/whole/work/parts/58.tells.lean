/-! FANS AS TOLD, by the model. -/
theorem ins_end (l : List Nat) (c : Nat) : l.insertIdx l.length c = l ++ [c] := by
  apply List.ext_getElem?
  intro i
  rcases Nat.lt_trichotomy i l.length with h | h | h
  · rw [List.getElem?_insertIdx_of_lt h, List.getElem?_append_left h]
  · subst h; rw [List.getElem?_insertIdx_self, if_pos (by omega)]; simp
  · rw [List.getElem?_insertIdx_of_gt h, List.getElem?_eq_none (by omega), List.getElem?_eq_none (by simp; omega)]
theorem take_end {l : List Nat} {i c : Nat} (h : l[i]? = some c) : (l.take i).insertIdx i c = l.take (i + 1) := by
  have hi := (List.getElem?_eq_some_iff.mp h).1
  have hl : (l.take i).length = i := by rw [List.length_take]; omega
  have := ins_end (l.take i) c
  rw [hl] at this
  rw [this, List.take_add_one, h]
  rfl
def newF (m : mm_V) (q : Nat) (p : Nat) (l : List Nat) : Prop := m (q + 8) (20 * p) = .int (zI l.length) ∧ ∀ k c : Nat, l[k]? = some c → m (q + 8) (20 * p + k + 1) = .int (zI c)
section TELLS
variable {e : mm_E} {q r N : Nat} {f : Nat → List Nat}
theorem X12_tells_in (hT : modT e.1 q) (ht : e.1 r = some (20, 128)) (hrq : r ≠ q ∧ r ≠ q + 8) (hN : 20 < e.2.2) {p : Nat} (hp : p < 6) {l : List Nat} (hl : l.length ≤ 10) (k7 : Int32 → mm_V → Option mm_V) : ∀ (j i n : Nat) (m : mm_V) (g : Nat → List Nat), i + j = l.length → j < n → modS m q → newF m q p l → rowF m r g → g p = l.take i → ∃ m', X12_tells_L17 e k7 q r (zI p) n (zI i) m = k7 (zI (p + 1 : Nat)) m' ∧ rowF m' r (setF g p l) ∧ rowK m m' r p := by
  intro j
  induction j with
  | zero =>
    intro i n m g hi hn hS hF h hg
    obtain ⟨n, rfl⟩ : ∃ n', n = n' + 1 := ⟨n - 1, by omega⟩
    refine ⟨m, ?_, ?_, ⟨fun _ _ => rfl, fun _ _ _ => rfl⟩⟩
    · unfold X12_tells_L17
      simp only [LT, ZA]
      rw [rd_gr hT.me hS.newFan_, Option.bind_some, rd_ai hT.newFan_ (i := 20 * p) (by omega) (by omega) (by omega) hF.1, Option.bind_some, iep (by omega)]
      rfl
    · have : g p = l := by rw [hg, List.take_of_length_le (by omega)]
      rw [← this, setF_id]; exact h
  | succ j ih =>
    intro i n m g hi hn hS hF h hg
    obtain ⟨n, rfl⟩ : ∃ n', n = n' + 1 := ⟨n - 1, by omega⟩
    have hx : l[i]? = some l[i] := List.getElem?_eq_getElem (by omega)
    have hgl : (g p).length = i := by rw [hg, List.length_take]; omega
    obtain ⟨m1, a1, a2, a3⟩ := X12_inserts_eq (e := e) (c := l[i]) ht h hp (show i ≤ (g p).length by omega) (by omega) hN
    have hF1 : newF m1 q p l := by
      have := a3.1 (q + 8) (by omega)
      unfold newF; rw [this]; exact hF
    obtain ⟨m', e1, e2, e3⟩ := ih (i + 1) n m1 _ (by omega) (by omega) (hS.keep (fun _ _ _ => by rw [a3.1 _ (by omega)])) hF1 a2 (by rw [setF_at, hg]; exact take_end hx)
    refine ⟨m', ?_, ?_, a3.trans e3⟩
    · unfold X12_tells_L17
      simp only [LT, ZA]
      rw [rd_gr hT.me hS.newFan_, Option.bind_some, rd_ai hT.newFan_ (i := 20 * p) (by omega) (by omega) (by omega) hF.1, Option.bind_some, ien (by omega), Option.bind_some, rd_ai hT.newFan_ (i := 20 * p + i + 1) (by omega) (by omega) (by omega) (hF.2 i _ hx), Option.bind_some, a1, Option.bind_some]
      exact e1
    · have : setF (setF g p ((g p).insertIdx i l[i])) p l = setF g p l := by
        funext x; unfold setF; split <;> rfl
      rw [← this]; exact e2
theorem X12_tells_out (hT : modT e.1 q) (ht : e.1 r = some (20, 128)) (hrq : r ≠ q ∧ r ≠ q + 8) (hN : 20 < e.2.2) (h2 : 2 ≤ N) (h6 : N ≤ 6) (hfl : ∀ k, (f k).length ≤ 10) (hf0 : ∀ k, N ≤ k → f k = []) : ∀ (j i n : Nat) (m : mm_V) (g : Nat → List Nat), i + j = N → j < n → modS m q → m q 1 = .int (zI N) → (∀ p, p < N → newF m q p (f p)) → rowF m r g → (∀ k, k < i → g k = f k) → (∀ k, i ≤ k → g k = []) → ∃ m', X12_tells_L7 e q r n (zI i) m = some m' ∧ rowF m' r f ∧ m' r 0 = .int (if isOv N f then zI (-1) else ozI (opn N f)) ∧ (∀ j, (j = 1 ∨ (8 ≤ j ∧ j < 14)) → m' r j = m r j) ∧ ∀ b, b ≠ r → m' b = m b := by
  intro j
  induction j with
  | zero =>
    intro i n m g hi hn hS hn1 hF h q1 q2
    obtain ⟨n, rfl⟩ : ∃ n', n = n' + 1 := ⟨n - 1, by omega⟩
    have hg : g = f := by
      funext k
      by_cases hk : k < i
      · exact q1 k hk
      · rw [q2 k (by omega), hf0 k (by omega)]
    subst hg
    refine ⟨mm_up m r 0 (.int (if isOv N g then zI (-1) else ozI (opn N g))), ?_, h.keep (fun j _ _ => up_ne _ _ (Or.inr (by omega))) (fun j _ _ => up_ne _ _ (Or.inr (by omega))), up_at _ _ _ _, fun j hj => up_ne _ _ (Or.inr (by omega)), fun b hb => up_row _ _ _ hb⟩
    unfold X12_tells_L7
    rw [rd_gi hT.me hn1, Option.bind_some, iep (by omega), X12_opens_eq ht hT.me h hn1 h2 h6 hN]
    rfl
  | succ j ih =>
    intro i n m g hi hn hS hn1 hF h q1 q2
    obtain ⟨n, rfl⟩ : ∃ n', n = n' + 1 := ⟨n - 1, by omega⟩
    obtain ⟨m1, a1, a2, a3⟩ := X12_tells_in (e := e) hT ht hrq hN (show i < 6 by omega) (hfl i) (X12_tells_L7 e q r n) (f i).length 0 e.2.2 m g (by omega) (by have := hfl i; omega) hS (hF i (by omega)) h (by rw [q2 i (by omega)]; rfl)
    obtain ⟨m', e1, e2, e3, e4, e5⟩ := ih (i + 1) n m1 _ (by omega) (by omega) (hS.keep (fun _ _ _ => by rw [a3.1 _ (Ne.symm hrq.1)])) (by rw [a3.1 _ (Ne.symm hrq.1)]; exact hn1) (fun p hp => by unfold newF; rw [a3.1 _ (Ne.symm hrq.2)]; exact hF p hp) a2
      (fun k hk => by
        by_cases hki : k = i
        · subst hki; rw [setF_at]
        · rw [setF_ne _ _ hki]; exact q1 k (by omega))
      (fun k hk => by rw [setF_ne _ _ (by omega)]; exact q2 k (by omega))
    refine ⟨m', ?_, e2, e3, fun j hj => by rw [e4 j hj, a3.2 _ (by omega) (by omega)], fun b hb => by rw [e5 b hb, a3.1 b hb]⟩
    unfold X12_tells_L7
    rw [rd_gi hT.me hn1, Option.bind_some, ien (by omega)]
    rw [show ((0 : Nat) : Int) = 0 from rfl] at a1
    rw [show (0 : Int32) = zI 0 from rfl, a1]
    exact e1
theorem X12_tells_eq {m : mm_V} (hT : modT e.1 q) (ht : e.1 r = some (20, 128)) (hrq : r ≠ q ∧ r ≠ q + 8) (hN : 1000 < e.2.2) (h2 : 2 ≤ N) (h6 : N ≤ 6) (hfl : ∀ k, (f k).length ≤ 10) (hf0 : ∀ k, N ≤ k → f k = []) (hS : modS m q) (hn : m q 1 = .int (zI N)) (hF : ∀ p, p < N → newF m q p (f p)) : ∃ m', X12_tells e q r m = some m' ∧ rowF m' r f ∧ m' r 0 = .int (if isOv N f then zI (-1) else ozI (opn N f)) ∧ (∀ j, (j = 1 ∨ (8 ≤ j ∧ j < 14)) → m' r j = .int (zI 0)) ∧ ∀ b, b ≠ r → m' b = m b := by
  obtain ⟨m1, a1, a2, a3⟩ := X12_clears_eq (e := e) (m := m) ht (by omega) q
  have h0 : rowF m1 r (fun _ => []) := fun p hp => ⟨a3 _ (by omega), by simp, fun k c hk => by simp at hk⟩
  obtain ⟨m', e1, e2, e3, e4, e5⟩ := X12_tells_out (e := e) (f := f) hT ht hrq (by omega) h2 h6 hfl hf0 N 0 e.2.2 m1 (fun _ => []) (by omega) (by omega) (hS.keep (fun _ _ _ => by rw [a2 _ (Ne.symm hrq.1)])) (by rw [a2 _ (Ne.symm hrq.1)]; exact hn) (fun p hp => by unfold newF; rw [a2 _ (Ne.symm hrq.2)]; exact hF p hp) h0 (fun k hk => absurd hk (by omega)) (fun _ _ => rfl)
  refine ⟨m', ?_, e2, e3, fun j hj => by rw [e4 j hj]; exact a3 j (by omega), fun b hb => by rw [e5 b hb, a2 b hb]⟩
  unfold X12_tells
  rw [a1, Option.bind_some]
  exact e1
end TELLS
