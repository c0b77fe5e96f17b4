/-! THE DEAL of the class. -/
def arN (m : mm_V) (b n : Nat) (v : Nat → Nat) : Prop := ∀ k, k < n → m b k = .int (zI (v k))
theorem arN.keep {m m' : mm_V} {b n : Nat} {v : Nat → Nat} (h : arN m b n v) (h1 : m' b = m b) : arN m' b n v := fun k hk => by rw [h1]; exact h k hk
theorem arN_swp {m : mm_V} {b n k r : Nat} {v : Nat → Nat} (h : arN m b n v) (hk : k < n) (hr : r < n) : arN (mm_up (mm_up m b k (.int (zI (v r)))) b r (.int (zI (v k)))) b n (swp v k r) := by
  intro i hi
  unfold swp sgm
  by_cases hir : i = r
  · subst hir
    rw [up_at]
    by_cases hik : i = k
    · rw [if_pos hik, hik]
    · rw [if_neg hik, if_pos rfl]
  · rw [up_ne _ _ (Or.inr hir)]
    by_cases hik : i = k
    · subst hik
      rw [up_at, if_pos rfl]
    · rw [up_ne _ _ (Or.inr hik), if_neg hik, if_neg hir]; exact h i hi
theorem mod_succ6 {N i : Nat} (h2 : 2 ≤ N) (h6 : N ≤ 6) : (i + 1) % N = if N ≤ i % N + 1 then 0 else i % N + 1 := by
  rcases (by omega : N = 2 ∨ N = 3 ∨ N = 4 ∨ N = 5 ∨ N = 6) with rfl | rfl | rfl | rfl | rfl <;> split <;> omega
section DEALC
variable {e : mm_E} {a t N P : Nat}
theorem X4_dealTo_eq {m : mm_V} {b c : Nat} {l : List Nat} (ht : fanT e.1 b) (h : fanR m b l) (hl : ∀ x ∈ l, x < 1000) (hc : c < 1000) (h10 : idx c l = none → l.length < 10) (hN : 20 < e.2.2) : ∃ m', X4_dealTo e a b (zI c) m = some m' ∧ fanR m' b (tog l c) ∧ ∀ x, x ≠ b → x ≠ b + 1 → m' x = m x := by
  have hb := h.2.2.1
  have pl := X3_placeOf_eq ht h hl hc hN
  cases hi : idx c l with
  | none =>
    obtain ⟨m', e1, e2, e3⟩ := X3_putIn_eq (e := e) ht h (p := l.length) (c := c) (Nat.le_refl _) (h10 hi) hN
    rw [ins_end] at e2
    refine ⟨m', ?_, by unfold tog; rw [hi]; exact e2, e3⟩
    unfold X4_dealTo X4_dealTo_b28
    simp only [LT, zI_neg]
    rw [if_pos ht.1, pl, Option.bind_some, hi]
    simp only [ozI, not_true_eq_false, if_false]
    rw [rd_gi ht.1 h.2.1, Option.bind_some, if_pos ht.1, e1, Option.bind_some]
  | some j =>
    have hj := idx_bound hi
    obtain ⟨m', e1, e2, e3⟩ := X3_takeOut_eq (e := e) ht h hj hN
    refine ⟨m', ?_, by unfold tog; rw [hi]; exact e2, e3⟩
    unfold X4_dealTo X4_dealTo_b28
    simp only [LT, zI_neg]
    rw [if_pos ht.1, pl, Option.bind_some, hi]
    simp only [ozI]
    rw [inp (by omega), if_pos ht.1, e1, Option.bind_some]
theorem pk0_lo {P k : Nat} (h : k < 2 * P) : pk0 P k = k / 2 + 1 := if_pos h
theorem pk0_hi {P k : Nat} (h : ¬ k < 2 * P) : pk0 P k = 0 := if_neg h
theorem X4_deal_fill (ht : gameT e.1 a) (hP : P ≤ 9) : ∀ (j i n : Nat) (m : mm_V), i + j = 2 * P + 1 → j < n → m a 5 = .ref (a + 7) → arN m (a + 7) i (pk0 P) → ∃ m', X4_deal_L24 e a (zI (2 * P + 1 : Nat)) n (zI i) m = X4_deal_L61 e a (zI (2 * P + 1 : Nat)) e.2.2 (zI (2 * P : Nat)) m' ∧ arN m' (a + 7) (2 * P + 1) (pk0 P) ∧ ∀ b, b ≠ a + 7 → m' b = m b := by
  intro j
  induction j with
  | zero =>
    intro i n m hi hn h5 hA
    obtain ⟨n, rfl⟩ : ∃ n', n = n' + 1 := ⟨n - 1, by omega⟩
    have hi' : i = 2 * P + 1 := by omega
    refine ⟨m, ?_, by rw [← hi']; exact hA, fun _ _ => rfl⟩
    unfold X4_deal_L24
    simp only [LT]
    rw [iep (by omega), zI_sub, show ((2 * P + 1 : Nat) : Int) - 1 = ((2 * P : Nat) : Int) by omega]
  | succ j ih =>
    intro i n m hi hn h5 hA
    obtain ⟨n, rfl⟩ : ∃ n', n = n' + 1 := ⟨n - 1, by omega⟩
    obtain ⟨m', e1, e2, e3⟩ := ih (i + 1) n (mm_up m (a + 7) i (.int (zI (pk0 P i)))) (by omega) (by omega) (by rw [up_ne _ _ (Or.inl (by omega))]; exact h5) (fun k hk => by
      by_cases hki : k = i
      · subst hki; exact up_at _ _ _ _
      · rw [up_ne _ _ (Or.inr hki)]; exact hA k (by omega))
    refine ⟨m', ?_, e2, fun b hb => by rw [e3 b hb, up_row _ _ _ hb]⟩
    unfold X4_deal_L24
    simp only [LT, X4_deal_b50]
    rw [ien (by omega), rd_gr ht.1 h5, Option.bind_some, zI_add]
    by_cases h : i < 2 * P
    · rw [pk0_lo h] at e1
      rw [ien (by omega), zI_half (by omega), zI_add, wr_si ht.2.2.2.2.2.2.1 (i := i) rfl (by omega) (by omega), Option.bind_some]
      exact e1
    · rw [pk0_hi h] at e1
      rw [iep (by omega), wr_si ht.2.2.2.2.2.2.1 (i := i) rfl (by omega) (by omega), Option.bind_some]
      exact e1
theorem X4_deal_shuf (ht : gameT e.1 a) (hP : P ≤ 9) : ∀ (k n : Nat) (m : mm_V) (x : Int32) (v : Nat → Nat), k < 2 * P + 1 → k < n → m a 5 = .ref (a + 7) → m a 9 = .int x → arN m (a + 7) (2 * P + 1) v → ∃ m', X4_deal_L61 e a (zI (2 * P + 1 : Nat)) n (zI k) m = X4_deal_L127 e a (zI (2 * P + 1 : Nat)) e.2.2 (zI 0) (zI 0) m' ∧ arN m' (a + 7) (2 * P + 1) (shf k x v).1 ∧ m' a 9 = .int (shf k x v).2 ∧ (∀ j, j ≠ 9 → m' a j = m a j) ∧ ∀ b, b ≠ a → b ≠ a + 7 → m' b = m b := by
  intro k
  induction k with
  | zero =>
    intro n m x v hk hn h5 h9 hA
    obtain ⟨n, rfl⟩ : ∃ n', n = n' + 1 := ⟨n - 1, by omega⟩
    refine ⟨m, ?_, hA, h9, fun _ _ => rfl, fun _ _ _ => rfl⟩
    unfold X4_deal_L61
    simp only [LT]
    rw [ilp (by omega)]
  | succ k ih =>
    intro n m x v hk hn h5 h9 hA
    obtain ⟨n, rfl⟩ : ∃ n', n = n' + 1 := ⟨n - 1, by omega⟩
    have hr := rnd_lt (lcg x) (n := k + 2) (by omega)
    have d := X4_drawOf_eq (e := e) (n := k + 2) ht.1 h9 (by omega) (by omega)
    generalize hrr : rnd (lcg x) (k + 2) = r at hr d
    generalize hm1 : mm_up m a 9 (.int (lcg x)) = m1 at d
    have o1 : m1 (a + 7) = m (a + 7) := by rw [← hm1, up_row _ _ _ (by omega)]
    have h51 : m1 a 5 = .ref (a + 7) := by rw [← hm1, up_ne _ _ (Or.inr (by omega))]; exact h5
    have A1 : arN m1 (a + 7) (2 * P + 1) v := hA.keep o1
    obtain ⟨m', e1, e2, e3, e4, e5⟩ := ih n (mm_up (mm_up m1 (a + 7) (k + 1) (.int (zI (v r)))) (a + 7) r (.int (zI (v (k + 1))))) (lcg x) (swp v (k + 1) r) (by omega) (by omega) (by rw [up_ne _ _ (Or.inl (by omega)), up_ne _ _ (Or.inl (by omega))]; exact h51) (by rw [up_ne _ _ (Or.inl (by omega)), up_ne _ _ (Or.inl (by omega)), ← hm1, up_at]) (arN_swp A1 (by omega) (by omega))
    refine ⟨m', ?_, by rw [shf, hrr]; exact e2, by rw [shf, hrr]; exact e3, fun j hj => by rw [e4 j hj, up_ne _ _ (Or.inl (by omega)), up_ne _ _ (Or.inl (by omega)), ← hm1, up_ne _ _ (Or.inr hj)], fun b x1 x2 => by rw [e5 b x1 x2, up_row _ _ _ x2, up_row _ _ _ x2, ← hm1, up_row _ _ _ x1]⟩
    unfold X4_deal_L61 X4_deal_b116
    simp only [LT, ZA]
    rw [iln (by omega), show ((k + 1 : Nat) : Int) + 1 = ((k + 2 : Nat) : Int) by omega, d, Option.bind_some]
    rw [iln (by omega), ien (by omega)]
    rw [rd_gr ht.1 h51, Option.bind_some, rd_ai ht.2.2.2.2.2.2.1 (i := k + 1) rfl (by omega) (by omega) (A1 (k + 1) (by omega)), Option.bind_some, Option.bind_some, Option.bind_some, rd_ai ht.2.2.2.2.2.2.1 (i := r) rfl (by omega) (by omega) (A1 r (by omega)), Option.bind_some, wr_si ht.2.2.2.2.2.2.1 (i := k + 1) rfl (by omega) (by omega), Option.bind_some, rd_gr ht.1 (v := a + 7) (by rw [up_ne _ _ (Or.inl (by omega))]; exact h51), Option.bind_some, wr_si ht.2.2.2.2.2.2.1 (i := r) rfl (by omega) (by omega), Option.bind_some]
    rw [show ((k + 1 : Nat) : Int) + (-1) = ((k : Nat) : Int) by omega]
    exact e1
theorem X4_deal_lay (ht : gameT e.1 a) (htt : e.1 t = some (10, 11)) (hta : t < a ∨ a + 20 ≤ t) (h2 : 2 ≤ N) (h6 : N ≤ 6) (hP : P ≤ 9) {v : Nat → Nat} (hv : goodV (2 * P + 1) P v) (hN : 20 < e.2.2) : ∀ (j i n : Nat) (m : mm_V), i + j = 2 * P + 1 → j < n → gameS m a t → gameF m a (dlt N v i) → m t 6 = .int (zI N) → arN m (a + 7) (2 * P + 1) v → ∃ m', X4_deal_L127 e a (zI (2 * P + 1 : Nat)) n (zI (i % N : Nat)) (zI i) m = some m' ∧ gameF m' a (dlt N v (2 * P + 1)) ∧ m' a 11 = .int (zI 0) ∧ m' a 10 = .int (ozI (opn N (dlt N v (2 * P + 1)))) ∧ (∀ k, k < 6 → m' (a + 5) k = .int (zI 0)) ∧ (∀ k, k ≠ 10 → k ≠ 11 → m' a k = m a k) ∧ ∀ b, b ≠ a → b ≠ a + 5 → (b < a + 8 ∨ a + 20 ≤ b) → m' b = m b := by
  intro j
  induction j with
  | zero =>
    intro i n m hi hn h hf hn6 hA
    obtain ⟨n, rfl⟩ : ∃ n', n = n' + 1 := ⟨n - 1, by omega⟩
    have hi' : i = 2 * P + 1 := by omega
    rw [hi'] at hf
    obtain ⟨m', e1, e2, e3, e4, e5, e6⟩ := X4_start_eq (e := e) ht htt hta h2 h6 h hf hn6 hN
    refine ⟨m', ?_, hf.keep (fun b _ _ => e6 _ (by omega) (by omega)), e2, e3, e4, e5, fun b x1 x2 _ => e6 b x1 x2⟩
    unfold X4_deal_L127
    rw [iep (by omega), e1]; rfl
  | succ j ih =>
    intro i n m hi hn h hf hn6 hA
    obtain ⟨n, rfl⟩ : ∃ n', n = n' + 1 := ⟨n - 1, by omega⟩
    have hp : i % N < N := Nat.mod_lt _ (by omega)
    have hle := dlt_le (N := N) (p := i % N) hv (show i ≤ 2 * P + 1 by omega)
    have hvi := hv.1 i (by omega)
    have fT := ht.2.2.2.2.2.2.2 (i % N) (by omega)
    obtain ⟨m1, a1, a2, a3⟩ := X4_dealTo_eq (e := e) (a := a) (c := v i) fT (hf (i % N) (by omega)) (fun x hx => by have := hle x hx; omega) (by omega) (fun hno => by
      have n1 : (tog (dlt N v i (i % N)) (v i)).Nodup := tog_nodup dlt_nodup
      unfold tog at n1
      rw [hno] at n1
      have := nodup_len 10 _ n1 (fun x hx => by
        rcases List.mem_append.mp hx with hx | hx
        · have := hle x hx; omega
        · rw [List.mem_singleton] at hx; omega)
      rw [List.length_append, List.length_singleton] at this
      omega) hN
    have F1 : gameF m1 a (dlt N v (i + 1)) := by rw [dlt_succ]; exact hf.set a2 a3
    have G1 : gameS m1 a t := h.keep (fun j _ => by rw [a3 _ (by omega) (by omega)]) (fun b _ _ => a3 _ (by omega) (by omega))
    have hn1 : m1 t 6 = .int (zI N) := by rw [a3 _ (by omega) (by omega)]; exact hn6
    obtain ⟨m', e1, e2, e3, e4, e5, e6, e7⟩ := ih (i + 1) n m1 (by omega) (by omega) G1 F1 hn1 (hA.keep (a3 _ (by omega) (by omega)))
    refine ⟨m', ?_, e2, e3, e4, e5, fun k x1 x2 => by rw [e6 k x1 x2, a3 _ (by omega) (by omega)], fun b x1 x2 x3 => by rw [e7 b x1 x2 x3, a3 _ (by omega) (by omega)]⟩
    rw [mod_succ6 h2 h6] at e1
    unfold X4_deal_L127 X4_deal_b169
    rw [ien (by omega), X4_fanAt_eq ht h (show i % N < 6 by omega), Option.bind_some, rd_gr ht.1 h.2.2.2.2.2.1, Option.bind_some, rd_ai ht.2.2.2.2.2.2.1 (i := i) rfl (by omega) (by omega) (hA i (by omega)), Option.bind_some, a1, Option.bind_some, rd_gr ht.1 G1.2.2.2.2.2.2.1, Option.bind_some, rd_gi htt hn1, Option.bind_some]
    simp only [LT, ZA]
    by_cases hx : N ≤ i % N + 1
    · rw [if_pos hx] at e1
      rw [iep (by omega)]
      exact e1
    · rw [if_neg hx] at e1
      rw [ien (by omega)]
      exact e1
theorem X4_deal_eq {m : mm_V} (ht : gameT e.1 a) (htt : e.1 t = some (10, 11)) (hta : t < a ∨ a + 20 ≤ t) (h2 : 2 ≤ N) (h6 : N ≤ 6) (hP : P ≤ 9) (h : gameS m a t) (hf : gameF m a (fun _ => [])) (hn : m t 6 = .int (zI N)) (hp7 : m t 7 = .int (zI P)) (x : Int32) (hN : 20 < e.2.2) : ∃ m', X4_deal e a x m = some m' ∧ gameF m' a (dealF N P x) ∧ m' a 9 = .int (dealS P x) ∧ m' a 11 = .int (zI 0) ∧ m' a 10 = .int (ozI (opn N (dealF N P x))) ∧ (∀ k, k < 6 → m' (a + 5) k = .int (zI 0)) ∧ (∀ k, k ≠ 9 → k ≠ 10 → k ≠ 11 → m' a k = m a k) ∧ ∀ b, b ≠ a → b ≠ a + 5 → b ≠ a + 7 → (b < a + 8 ∨ a + 20 ≤ b) → m' b = m b := by
  generalize hm1 : mm_up m a 9 (.int x) = m1
  have o1 : ∀ b, b ≠ a → m1 b = m b := fun b hb => by rw [← hm1, up_row _ _ _ hb]
  have o1' : ∀ j, j ≠ 9 → m1 a j = m a j := fun j hj => by rw [← hm1, up_ne _ _ (Or.inr hj)]
  have G1 : gameS m1 a t := h.keep (fun j _ => o1' j (by omega)) (fun b _ _ => o1 b (by omega))
  obtain ⟨m2, a1, a2, a3⟩ := X4_deal_fill (e := e) ht hP (2 * P + 1) 0 e.2.2 m1 (by omega) (by omega) G1.2.2.2.2.2.1 (fun k hk => absurd hk (by omega))
  obtain ⟨m3, b1, b2, b3, b4, b5⟩ := X4_deal_shuf (e := e) ht hP (2 * P) e.2.2 m2 x (pk0 P) (by omega) (by omega) (by rw [a3 _ (by omega)]; exact G1.2.2.2.2.2.1) (by rw [a3 _ (by omega), ← hm1, up_at]) a2
  have o3 : ∀ b, b ≠ a → b ≠ a + 7 → m3 b = m b := fun b x1 x2 => by rw [b5 b x1 x2, a3 b x2, o1 b x1]
  have o3' : ∀ j, j ≠ 9 → m3 a j = m a j := fun j hj => by rw [b4 j hj, a3 _ (by omega), o1' j hj]
  have G3 : gameS m3 a t := h.keep (fun j _ => o3' j (by omega)) (fun b _ _ => o3 b (by omega) (by omega))
  have F3 : gameF m3 a (dlt N (dealV P x) 0) := hf.keep (fun b _ _ => o3 b (by omega) (by omega))
  obtain ⟨m', e1, e2, e3, e4, e5, e6, e7⟩ := X4_deal_lay (e := e) (v := dealV P x) ht htt hta h2 h6 hP (goodV_deal P x) hN (2 * P + 1) 0 e.2.2 m3 (by omega) (by omega) G3 F3 (by rw [o3 _ (by omega) (by omega)]; exact hn) b2
  refine ⟨m', ?_, e2, by rw [e6 _ (by omega) (by omega)]; exact b3, e3, e4, e5, fun k x1 x2 x3 => by rw [e6 k x2 x3, o3' k x1], fun b x1 x2 x3 x4 => by rw [e7 b x1 x2 x4, o3 b x1 x3]⟩
  unfold X4_deal J9_min_7cf53 J9_min_7cf53_b10
  rw [wr_pf ht.1, Option.bind_some, hm1, rd_gr ht.1 G1.2.2.2.2.2.2.1, Option.bind_some, rd_gi htt (v := zI P) (by rw [o1 _ (by omega)]; exact hp7), Option.bind_some]
  simp only [LT, ZA]
  rw [iln (by omega), Option.bind_some]
  rw [show (2 * (P : Int) + 1) = ((2 * P + 1 : Nat) : Int) by omega]
  rw [show (zI 0 : Int32) = zI ((0 : Nat) : Int) from rfl, a1, b1]
  rw [Nat.zero_mod] at e1
  exact e1
end DEALC
