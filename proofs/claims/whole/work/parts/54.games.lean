/-! WHOLE GAMES of the class: fans, who sits, last places, and the fields 7 laws, 8 lucky, 9 seed, 10 turn, 11 done. -/
abbrev QG : Type := (Nat → List Nat) × (Nat → Nat) × (Nat → Nat) × (Nat → Int32)
def gameR (m : mm_V) (a t : Nat) (G : QG) : Prop := gameS m a t ∧ gameF m a G.1 ∧ (∀ i, i < 6 → m (a + 4) i = .int (zI (G.2.1 i))) ∧ (∀ i, i < 6 → m (a + 5) i = .int (zI (G.2.2.1 i))) ∧ ∀ j, 7 ≤ j → j < 12 → m a j = .int (G.2.2.2 j)
theorem gameR.keep {m m' : mm_V} {a t : Nat} {G : QG} (h : gameR m a t G) (h1 : ∀ b, a ≤ b → b < a + 20 → b ≠ a + 6 → b ≠ a + 7 → m' b = m b) : gameR m' a t G := by
  obtain ⟨x1, x2, x3, x4, x5⟩ := h
  refine ⟨x1.keep (fun j _ => by rw [h1 _ (by omega) (by omega) (by omega) (by omega)]) (fun b _ _ => h1 _ (by omega) (by omega) (by omega) (by omega)), x2.keep (fun b _ _ => h1 _ (by omega) (by omega) (by omega) (by omega)), fun i hi => by rw [h1 _ (by omega) (by omega) (by omega) (by omega)]; exact x3 i hi, fun i hi => by rw [h1 _ (by omega) (by omega) (by omega) (by omega)]; exact x4 i hi, fun j y1 y2 => by rw [h1 _ (by omega) (by omega) (by omega) (by omega)]; exact x5 j y1 y2⟩
section COPY
variable {e : mm_E} {a a1 t : Nat} {G : QG}
theorem X4_copyFrom_loop (ht : gameT e.1 a) (ht1 : gameT e.1 a1) (haa : a + 20 ≤ a1 ∨ a1 + 20 ≤ a) (hN : 20 < e.2.2) : ∀ (j i n : Nat) (m : mm_V) (f0 : Nat → List Nat), i + j = 6 → j < n → gameS m a t → gameR m a1 t G → gameF m a f0 → (∀ k, k < i → f0 k = G.1 k) → (∀ k, k < i → m (a + 4) k = .int (zI (G.2.1 k))) → (∀ k, k < i → m (a + 5) k = .int (zI (G.2.2.1 k))) → ∃ m', X4_copyFrom_L50 e a a1 n (zI i) m = some m' ∧ gameF m' a G.1 ∧ (∀ k, k < 6 → m' (a + 4) k = .int (zI (G.2.1 k))) ∧ (∀ k, k < 6 → m' (a + 5) k = .int (zI (G.2.2.1 k))) ∧ ∀ b, b ≠ a + 4 → b ≠ a + 5 → (b < a + 8 ∨ a + 20 ≤ b) → m' b = m b := by
  intro j
  induction j with
  | zero =>
    intro i n m f0 hi hn h hR hf q1 q2 q3
    obtain ⟨n, rfl⟩ : ∃ n', n = n' + 1 := ⟨n - 1, by omega⟩
    refine ⟨m, ?_, fun k hk => by rw [← q1 k (by omega)]; exact hf k hk, fun k hk => q2 k (by omega), fun k hk => q3 k (by omega), fun _ _ _ _ => rfl⟩
    unfold X4_copyFrom_L50
    simp only [LT]
    rw [iep (by omega)]
  | succ j ih =>
    intro i n m f0 hi hn h hR hf q1 q2 q3
    obtain ⟨n, rfl⟩ : ∃ n', n = n' + 1 := ⟨n - 1, by omega⟩
    obtain ⟨x1, x2, x3, x4, x5⟩ := hR
    obtain ⟨m1, a1', a2, a3⟩ := X3_copyFrom_eq (e := e) (m := m) (ht.2.2.2.2.2.2.2 i (by omega)) (ht1.2.2.2.2.2.2.2 i (by omega)) (by omega) (hf i (by omega)) (x2 i (by omega)) hN
    generalize hm2 : mm_up m1 (a + 4) i (.int (zI (G.2.1 i))) = m2
    generalize hm3 : mm_up m2 (a + 5) i (.int (zI (G.2.2.1 i))) = m3
    have o3 : ∀ b, b ≠ a + 4 → b ≠ a + 5 → b ≠ a + 8 + 2 * i → b ≠ a + 8 + 2 * i + 1 → m3 b = m b := fun b y1 y2 y3 y4 => by rw [← hm3, up_row _ _ _ y2, ← hm2, up_row _ _ _ y1, a3 _ y3 y4]
    have S1 : gameS m1 a t := h.keep (fun j _ => by rw [a3 _ (by omega) (by omega)]) (fun b _ _ => a3 _ (by omega) (by omega))
    have S3 : gameS m3 a t := h.keep (fun j _ => by rw [o3 _ (by omega) (by omega) (by omega) (by omega)]) (fun b _ _ => o3 _ (by omega) (by omega) (by omega) (by omega))
    have R3 : gameR m3 a1 t G := gameR.keep (m := m) ⟨x1, x2, x3, x4, x5⟩ (fun b _ _ _ _ => o3 _ (by omega) (by omega) (by omega) (by omega))
    have F3 : gameF m3 a (setF f0 i (G.1 i)) := gameF.keep (m := m1) (hf.set a2 a3) (fun b _ _ => by rw [← hm3, up_row _ _ _ (by omega), ← hm2, up_row _ _ _ (by omega)])
    obtain ⟨m', e1, e2, e3, e4, e5⟩ := ih (i + 1) n m3 (setF f0 i (G.1 i)) (by omega) (by omega) S3 R3 F3
      (fun k hk => by
        by_cases hki : k = i
        · subst hki; rw [setF_at]
        · rw [setF_ne _ _ hki]; exact q1 k (by omega))
      (fun k hk => by
        rw [← hm3, up_ne _ _ (Or.inl (by omega)), ← hm2]
        by_cases hki : k = i
        · subst hki; rw [up_at]
        · rw [up_ne _ _ (Or.inr hki), a3 _ (by omega) (by omega)]; exact q2 k (by omega))
      (fun k hk => by
        rw [← hm3]
        by_cases hki : k = i
        · subst hki; rw [up_at]
        · rw [up_ne _ _ (Or.inr hki), ← hm2, up_ne _ _ (Or.inl (by omega)), a3 _ (by omega) (by omega)]; exact q3 k (by omega))
    refine ⟨m', ?_, e2, e3, e4, fun b y1 y2 y3 => by rw [e5 b y1 y2 y3]; exact o3 b y1 y2 (by omega) (by omega)⟩
    unfold X4_copyFrom_L50
    simp only [LT]
    rw [ien (by omega), rd_gr ht.1 h.1, Option.bind_some, rd_aq ht.2.1 (i := i) rfl (by omega) (by omega) (h.2.2.2.2.2.2.2.2 i (by omega)), Option.bind_some, rd_gr ht1.1 x1.1, Option.bind_some, rd_aq ht1.2.1 (i := i) rfl (by omega) (by omega) (x1.2.2.2.2.2.2.2.2 i (by omega)), Option.bind_some, if_pos (ht.2.2.2.2.2.2.2 i (by omega)).1, a1', Option.bind_some, rd_gr ht.1 S1.2.2.1, Option.bind_some, rd_gr ht1.1 (v := a1 + 4) (by rw [a3 _ (by omega) (by omega)]; exact x1.2.2.1), Option.bind_some, rd_ai ht1.2.2.2.1 (i := i) rfl (by omega) (by omega) (by rw [a3 _ (by omega) (by omega)]; exact x3 i (by omega)), Option.bind_some, wr_si ht.2.2.2.1 (i := i) rfl (by omega) (by omega), Option.bind_some, hm2]
    rw [rd_gr ht.1 (v := a + 5) (by rw [← hm2, up_ne _ _ (Or.inl (by omega))]; exact S1.2.2.2.1), Option.bind_some, rd_gr ht1.1 (v := a1 + 5) (by rw [← hm2, up_ne _ _ (Or.inl (by omega)), a3 _ (by omega) (by omega)]; exact x1.2.2.2.1), Option.bind_some, rd_ai ht1.2.2.2.2.1 (i := i) rfl (by omega) (by omega) (by rw [← hm2, up_ne _ _ (Or.inl (by omega)), a3 _ (by omega) (by omega)]; exact x4 i (by omega)), Option.bind_some, wr_si ht.2.2.2.2.1 (i := i) rfl (by omega) (by omega), Option.bind_some, hm3, zI_add]
    exact e1
theorem X4_copyFrom_eq {m : mm_V} {t0 : Nat} {f0 : Nat → List Nat} (ht : gameT e.1 a) (ht1 : gameT e.1 a1) (haa : a + 20 ≤ a1 ∨ a1 + 20 ≤ a) (h : gameS m a t0) (hf : gameF m a f0) (hR : gameR m a1 t G) (hL : G.2.2.2 8 = 0 ∨ G.2.2.2 8 = 1) (hN : 20 < e.2.2) : ∃ m', X4_copyFrom e a a1 m = some m' ∧ gameR m' a t G ∧ (∀ b, (b < a ∨ a + 20 ≤ b) → m' b = m b) := by
  obtain ⟨x1, x2, x3, x4, x5⟩ := hR
  have off : ∀ (m1 : mm_V) (k : Nat) (v : Value), (∀ b, b ≠ a → m1 b = m b) → ∀ b, b ≠ a → mm_up m1 a k v b = m b := fun m1 k v h1 b hb => by rw [up_row _ _ _ hb]; exact h1 b hb
  generalize hm1 : mm_up m a 6 (.ref t) = m1
  have o1 : ∀ b, b ≠ a → m1 b = m b := by rw [← hm1]; exact off m _ _ (fun _ _ => rfl)
  generalize hm2 : mm_up m1 a 7 (.int (G.2.2.2 7)) = m2
  have o2 : ∀ b, b ≠ a → m2 b = m b := by rw [← hm2]; exact off m1 _ _ o1
  generalize hm3 : mm_up m2 a 8 (.int (G.2.2.2 8)) = m3
  have o3 : ∀ b, b ≠ a → m3 b = m b := by rw [← hm3]; exact off m2 _ _ o2
  generalize hm4 : mm_up m3 a 9 (.int (G.2.2.2 9)) = m4
  have o4 : ∀ b, b ≠ a → m4 b = m b := by rw [← hm4]; exact off m3 _ _ o3
  generalize hm5 : mm_up m4 a 10 (.int (G.2.2.2 10)) = m5
  have o5 : ∀ b, b ≠ a → m5 b = m b := by rw [← hm5]; exact off m4 _ _ o4
  generalize hm6 : mm_up m5 a 11 (.int (G.2.2.2 11)) = m6
  have o6 : ∀ b, b ≠ a → m6 b = m b := by rw [← hm6]; exact off m5 _ _ o5
  have fa : ∀ j, j < 6 → m6 a j = m a j := fun j hj => by
    rw [← hm6, up_ne _ _ (Or.inr (by omega)), ← hm5, up_ne _ _ (Or.inr (by omega)), ← hm4, up_ne _ _ (Or.inr (by omega)), ← hm3, up_ne _ _ (Or.inr (by omega)), ← hm2, up_ne _ _ (Or.inr (by omega)), ← hm1, up_ne _ _ (Or.inr (by omega))]
  have f6 : m6 a 6 = .ref t := by
    rw [← hm6, up_ne _ _ (Or.inr (by omega)), ← hm5, up_ne _ _ (Or.inr (by omega)), ← hm4, up_ne _ _ (Or.inr (by omega)), ← hm3, up_ne _ _ (Or.inr (by omega)), ← hm2, up_ne _ _ (Or.inr (by omega)), ← hm1, up_at]
  have fj : ∀ j, 7 ≤ j → j < 12 → m6 a j = .int (G.2.2.2 j) := fun j y1 y2 => by
    have hc : j = 7 ∨ j = 8 ∨ j = 9 ∨ j = 10 ∨ j = 11 := by omega
    rcases hc with rfl | rfl | rfl | rfl | rfl
    · rw [← hm6, up_ne _ _ (Or.inr (by omega)), ← hm5, up_ne _ _ (Or.inr (by omega)), ← hm4, up_ne _ _ (Or.inr (by omega)), ← hm3, up_ne _ _ (Or.inr (by omega)), ← hm2, up_at]
    · rw [← hm6, up_ne _ _ (Or.inr (by omega)), ← hm5, up_ne _ _ (Or.inr (by omega)), ← hm4, up_ne _ _ (Or.inr (by omega)), ← hm3, up_at]
    · rw [← hm6, up_ne _ _ (Or.inr (by omega)), ← hm5, up_ne _ _ (Or.inr (by omega)), ← hm4, up_at]
    · rw [← hm6, up_ne _ _ (Or.inr (by omega)), ← hm5, up_at]
    · rw [← hm6, up_at]
  have S6 : gameS m6 a t := by
    obtain ⟨b0, b1, b2, b3, b4, b5, b6, b7, b8⟩ := h
    exact ⟨by rw [fa _ (by omega)]; exact b0, by rw [fa _ (by omega)]; exact b1, by rw [fa _ (by omega)]; exact b2, by rw [fa _ (by omega)]; exact b3, by rw [fa _ (by omega)]; exact b4, by rw [fa _ (by omega)]; exact b5, f6, b7.keep (o6 _ (by omega)) (o6 _ (by omega)), fun i hi => by rw [o6 _ (by omega)]; exact b8 i hi⟩
  have R6 : gameR m6 a1 t G := gameR.keep (m := m) ⟨x1, x2, x3, x4, x5⟩ (fun b _ _ _ _ => o6 _ (by omega))
  obtain ⟨m', e1, e2, e3, e4, e5⟩ := X4_copyFrom_loop (e := e) (G := G) ht ht1 haa hN 6 0 e.2.2 m6 f0 (by omega) (by omega) S6 R6 (hf.keep (fun b _ _ => o6 _ (by omega))) (fun k hk => absurd hk (by omega)) (fun k hk => absurd hk (by omega)) (fun k hk => absurd hk (by omega))
  refine ⟨m', ?_, ⟨S6.keep (fun j _ => by rw [e5 _ (by omega) (by omega) (by omega)]) (fun b _ _ => e5 _ (by omega) (by omega) (by omega)), e2, e3, e4, fun j y1 y2 => by rw [e5 _ (by omega) (by omega) (by omega)]; exact fj j y1 y2⟩, fun b hb => by rw [e5 _ (by omega) (by omega) (by omega)]; exact o6 b (by omega)⟩
  unfold X4_copyFrom
  rw [rd_gr ht1.1 x1.2.2.2.2.2.2.1, Option.bind_some, wr_pf ht.1, Option.bind_some, hm1, rd_gi ht1.1 (v := G.2.2.2 7) (by rw [o1 _ (by omega)]; exact x5 7 (by omega) (by omega)), Option.bind_some, wr_pf ht.1, Option.bind_some, hm2, rd_gi ht1.1 (v := G.2.2.2 8) (by rw [o2 _ (by omega)]; exact x5 8 (by omega) (by omega)), Option.bind_some, wr_pz ht.1 hL, Option.bind_some, hm3, rd_gi ht1.1 (v := G.2.2.2 9) (by rw [o3 _ (by omega)]; exact x5 9 (by omega) (by omega)), Option.bind_some, wr_pf ht.1, Option.bind_some, hm4, rd_gi ht1.1 (v := G.2.2.2 10) (by rw [o4 _ (by omega)]; exact x5 10 (by omega) (by omega)), Option.bind_some, wr_pf ht.1, Option.bind_some, hm5, rd_gi ht1.1 (v := G.2.2.2 11) (by rw [o5 _ (by omega)]; exact x5 11 (by omega) (by omega)), Option.bind_some, wr_pf ht.1, Option.bind_some, hm6]
  exact e1
end COPY
