/-! A TABLE LAID OPEN: no cards, everybody at his own place. -/
section OPEN
variable {e : mm_E} {a t : Nat}
theorem X4_open_loop (ht : gameT e.1 a) : ∀ (j i n : Nat) (m : mm_V) (f0 : Nat → List Nat), i + j = 6 → j < n → gameS m a t → gameF m a f0 → (∀ k, k < i → f0 k = []) → (∀ k, k < i → m (a + 4) k = .int (zI k)) → ∃ m', X4_open_L18 e a n (zI i) m = some m' ∧ gameF m' a (fun _ => []) ∧ (∀ k, k < 6 → m' (a + 4) k = .int (zI k)) ∧ ∀ b, b ≠ a + 4 → (b < a + 8 ∨ a + 20 ≤ b) → m' b = m b := by
  intro j
  induction j with
  | zero =>
    intro i n m f0 hi hn h hf q1 q2
    obtain ⟨n, rfl⟩ : ∃ n', n = n' + 1 := ⟨n - 1, by omega⟩
    refine ⟨m, ?_, fun k hk => by rw [← q1 k (by omega)]; exact hf k hk, fun k hk => q2 k (by omega), fun _ _ _ => rfl⟩
    unfold X4_open_L18
    simp only [LT]
    rw [iep (by omega)]
  | succ j ih =>
    intro i n m f0 hi hn h hf q1 q2
    obtain ⟨n, rfl⟩ : ∃ n', n = n' + 1 := ⟨n - 1, by omega⟩
    obtain ⟨m1, a1, a2, a3⟩ := X3_clear_eq (e := e) (m := m) (ht.2.2.2.2.2.2.2 i (by omega)) (hf i (by omega))
    generalize hm2 : mm_up m1 (a + 4) i (.int (zI i)) = m2
    have o2 : ∀ b, b ≠ a + 4 → b ≠ a + 8 + 2 * i → b ≠ a + 8 + 2 * i + 1 → m2 b = m b := fun b y1 y3 y4 => by rw [← hm2, up_row _ _ _ y1, a3 _ y3 y4]
    have S1 : gameS m1 a t := h.keep (fun j _ => by rw [a3 _ (by omega) (by omega)]) (fun b _ _ => a3 _ (by omega) (by omega))
    have S2 : gameS m2 a t := h.keep (fun j _ => by rw [o2 _ (by omega) (by omega) (by omega)]) (fun b _ _ => o2 _ (by omega) (by omega) (by omega))
    have F2 : gameF m2 a (setF f0 i []) := gameF.keep (m := m1) (hf.set a2 a3) (fun b _ _ => by rw [← hm2, up_row _ _ _ (by omega)])
    obtain ⟨m', e1, e2, e3, e4⟩ := ih (i + 1) n m2 (setF f0 i []) (by omega) (by omega) S2 F2
      (fun k hk => by
        by_cases hki : k = i
        · subst hki; rw [setF_at]
        · rw [setF_ne _ _ hki]; exact q1 k (by omega))
      (fun k hk => by
        rw [← hm2]
        by_cases hki : k = i
        · subst hki; rw [up_at]
        · rw [up_ne _ _ (Or.inr hki), a3 _ (by omega) (by omega)]; exact q2 k (by omega))
    refine ⟨m', ?_, e2, e3, fun b y1 y3 => by rw [e4 b y1 y3]; exact o2 b y1 (by omega) (by omega)⟩
    unfold X4_open_L18
    simp only [LT]
    rw [ien (by omega), rd_gr ht.1 h.1, Option.bind_some, rd_aq ht.2.1 (i := i) rfl (by omega) (by omega) (h.2.2.2.2.2.2.2.2 i (by omega)), Option.bind_some, if_pos (ht.2.2.2.2.2.2.2 i (by omega)).1, a1, Option.bind_some, rd_gr ht.1 S1.2.2.1, Option.bind_some, wr_si ht.2.2.2.1 (i := i) rfl (by omega) (by omega), Option.bind_some, hm2, zI_add]
    exact e1
theorem X4_open_eq {m : mm_V} {t0 : Nat} {f0 : Nat → List Nat} {lw lk : Int32} (ht : gameT e.1 a) (h : gameS m a t0) (hf : gameF m a f0) (hlk : lk = 0 ∨ lk = 1) (hN : 20 < e.2.2) : ∃ m', X4_open e a t lw lk m = some m' ∧ gameS m' a t ∧ gameF m' a (fun _ => []) ∧ (∀ k, k < 6 → m' (a + 4) k = .int (zI k)) ∧ m' a 7 = .int lw ∧ m' a 8 = .int lk ∧ (∀ j, 9 ≤ j → m' a j = m a j) ∧ ∀ b, b ≠ a → b ≠ a + 4 → (b < a + 8 ∨ a + 20 ≤ b) → m' b = m b := by
  generalize hm1 : mm_up m a 6 (.ref t) = m1
  generalize hm2 : mm_up m1 a 7 (.int lw) = m2
  generalize hm3 : mm_up m2 a 8 (.int lk) = m3
  have o3 : ∀ b, b ≠ a → m3 b = m b := fun b hb => by rw [← hm3, up_row _ _ _ hb, ← hm2, up_row _ _ _ hb, ← hm1, up_row _ _ _ hb]
  have fa : ∀ j, j ≠ 6 → j ≠ 7 → j ≠ 8 → m3 a j = m a j := fun j y1 y2 y3 => by rw [← hm3, up_ne _ _ (Or.inr y3), ← hm2, up_ne _ _ (Or.inr y2), ← hm1, up_ne _ _ (Or.inr y1)]
  have f6 : m3 a 6 = .ref t := by rw [← hm3, up_ne _ _ (Or.inr (by omega)), ← hm2, up_ne _ _ (Or.inr (by omega)), ← hm1, up_at]
  have f7 : m3 a 7 = .int lw := by rw [← hm3, up_ne _ _ (Or.inr (by omega)), ← hm2, up_at]
  have f8 : m3 a 8 = .int lk := by rw [← hm3, up_at]
  have S3 : gameS m3 a t := by
    obtain ⟨b0, b1, b2, b3, b4, b5, b6, b7, b8⟩ := h
    exact ⟨by rw [fa _ (by omega) (by omega) (by omega)]; exact b0, by rw [fa _ (by omega) (by omega) (by omega)]; exact b1, by rw [fa _ (by omega) (by omega) (by omega)]; exact b2, by rw [fa _ (by omega) (by omega) (by omega)]; exact b3, by rw [fa _ (by omega) (by omega) (by omega)]; exact b4, by rw [fa _ (by omega) (by omega) (by omega)]; exact b5, f6, b7.keep (o3 _ (by omega)) (o3 _ (by omega)), fun i hi => by rw [o3 _ (by omega)]; exact b8 i hi⟩
  obtain ⟨m', e1, e2, e3, e4⟩ := X4_open_loop (e := e) ht 6 0 e.2.2 m3 f0 (by omega) (by omega) S3 (hf.keep (fun b _ _ => o3 _ (by omega))) (fun k hk => absurd hk (by omega)) (fun k hk => absurd hk (by omega))
  refine ⟨m', ?_, S3.keep (fun j _ => by rw [e4 _ (by omega) (by omega)]) (fun b _ _ => e4 _ (by omega) (by omega)), e2, e3, by rw [e4 _ (by omega) (by omega)]; exact f7, by rw [e4 _ (by omega) (by omega)]; exact f8, fun j hj => by rw [e4 _ (by omega) (by omega)]; exact fa j (by omega) (by omega) (by omega), fun b y1 y2 y3 => by rw [e4 b y2 y3]; exact o3 b y1⟩
  unfold X4_open
  rw [wr_pf ht.1, Option.bind_some, hm1, wr_pf ht.1, Option.bind_some, hm2, wr_pz ht.1 hlk, Option.bind_some, hm3]
  exact e1
end OPEN
