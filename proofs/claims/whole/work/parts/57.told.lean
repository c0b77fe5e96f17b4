/-! FANS AS TOLD, by the class. -/
def toldF (m : mm_V) (t : Nat) (f : Nat → List Nat) : Prop := ∀ i, i < 6 → fanR m (t + 7 + 2 * i) (f i)
theorem toldF.keep {m m' : mm_V} {t : Nat} {f : Nat → List Nat} (h : toldF m t f) (h1 : ∀ b, t + 7 ≤ b → b < t + 19 → m' b = m b) : toldF m' t f :=
  fun i hi => (h i hi).keep (h1 _ (by omega) (by omega)) (h1 _ (by omega) (by omega))
section TOLD
variable {e : mm_E} {a t N : Nat} {f : Nat → List Nat}
theorem X4_takeTold_loop (ht : gameT e.1 a) (htt : toldT e.1 t) (hat : t + 19 ≤ a ∨ a + 20 ≤ t) (h2 : 2 ≤ N) (h6 : N ≤ 6) (hN : 20 < e.2.2) : ∀ (j i n : Nat) (m : mm_V) (f0 : Nat → List Nat), i + j = 6 → j < n → gameS m a t → toldS m t → toldF m t f → m t 6 = .int (zI N) → gameF m a f0 → (∀ k, k < i → f0 k = f k) → ∃ m', X4_takeTold_L2 e a n (zI i) m = some m' ∧ gameF m' a f ∧ m' a 11 = .int (zI 0) ∧ m' a 10 = .int (ozI (opn N f)) ∧ (∀ k, k < 6 → m' (a + 5) k = .int (zI 0)) ∧ (∀ k, k ≠ 10 → k ≠ 11 → m' a k = m a k) ∧ ∀ b, b ≠ a → b ≠ a + 5 → (b < a + 8 ∨ a + 20 ≤ b) → m' b = m b := by
  intro j
  induction j with
  | zero =>
    intro i n m f0 hi hn h hS hF hn6 hf q1
    obtain ⟨n, rfl⟩ : ∃ n', n = n' + 1 := ⟨n - 1, by omega⟩
    have hff : gameF m a f := fun k hk => by rw [← q1 k (by omega)]; exact hf k hk
    obtain ⟨m', e1, e2, e3, e4, e5, e6⟩ := X4_start_eq (e := e) ht htt.1 (by omega) h2 h6 h hff hn6 hN
    refine ⟨m', ?_, hff.keep (fun b _ _ => e6 _ (by omega) (by omega)), e2, e3, e4, e5, fun b y1 y2 _ => e6 b y1 y2⟩
    unfold X4_takeTold_L2
    simp only [LT]
    rw [iep (by omega), e1]
    rfl
  | succ j ih =>
    intro i n m f0 hi hn h hS hF hn6 hf q1
    obtain ⟨n, rfl⟩ : ∃ n', n = n' + 1 := ⟨n - 1, by omega⟩
    obtain ⟨m1, a1, a2, a3⟩ := X3_copyFrom_eq (e := e) (m := m) (ht.2.2.2.2.2.2.2 i (by omega)) (htt.2.2.2.2.2.2.2 i (by omega)) (by omega) (hf i (by omega)) (hF i (by omega)) hN
    have S1 : gameS m1 a t := h.keep (fun j _ => by rw [a3 _ (by omega) (by omega)]) (fun b _ _ => a3 _ (by omega) (by omega))
    obtain ⟨m', e1, e2, e3, e4, e5, e6, e7⟩ := ih (i + 1) n m1 (setF f0 i (f i)) (by omega) (by omega) S1 (hS.keep (fun j _ => by rw [a3 _ (by omega) (by omega)]) (a3 _ (by omega) (by omega))) (hF.keep (fun b _ _ => a3 _ (by omega) (by omega))) (by rw [a3 _ (by omega) (by omega)]; exact hn6) (hf.set a2 a3)
      (fun k hk => by
        by_cases hki : k = i
        · subst hki; rw [setF_at]
        · rw [setF_ne _ _ hki]; exact q1 k (by omega))
    refine ⟨m', ?_, e2, e3, e4, e5, fun k y1 y2 => by rw [e6 k y1 y2, a3 _ (by omega) (by omega)], fun b y1 y2 y3 => by rw [e7 b y1 y2 y3, a3 _ (by omega) (by omega)]⟩
    unfold X4_takeTold_L2
    simp only [LT]
    rw [ien (by omega), rd_gr ht.1 h.1, Option.bind_some, rd_aq ht.2.1 (i := i) rfl (by omega) (by omega) (h.2.2.2.2.2.2.2.2 i (by omega)), Option.bind_some, rd_gr ht.1 h.2.2.2.2.2.2.1, Option.bind_some, rd_gr htt.1 hS.1, Option.bind_some, rd_aq htt.2.1 (i := i) rfl (by omega) (by omega) (hS.2.2.2.2.2.2 i (by omega)), Option.bind_some, if_pos (ht.2.2.2.2.2.2.2 i (by omega)).1, a1, Option.bind_some, zI_add]
    exact e1
theorem X4_takeTold_eq {m : mm_V} {f0 : Nat → List Nat} (ht : gameT e.1 a) (htt : toldT e.1 t) (hat : t + 19 ≤ a ∨ a + 20 ≤ t) (h2 : 2 ≤ N) (h6 : N ≤ 6) (h : gameS m a t) (hS : toldS m t) (hF : toldF m t f) (hn : m t 6 = .int (zI N)) (hf : gameF m a f0) (hN : 20 < e.2.2) : ∃ m', X4_takeTold e a m = some m' ∧ gameF m' a f ∧ m' a 11 = .int (zI 0) ∧ m' a 10 = .int (ozI (opn N f)) ∧ (∀ k, k < 6 → m' (a + 5) k = .int (zI 0)) ∧ (∀ k, k ≠ 10 → k ≠ 11 → m' a k = m a k) ∧ ∀ b, b ≠ a → b ≠ a + 5 → (b < a + 8 ∨ a + 20 ≤ b) → m' b = m b :=
  X4_takeTold_loop ht htt hat h2 h6 hN 6 0 e.2.2 m f0 (by omega) (by omega) h hS hF hn hf (fun k hk => absurd hk (by omega))
end TOLD
