/-! GAMES of the class: tags, what never changes, and fans. -/
def gameT (g : mm_T) (a : Nat) : Prop := g a = some (4, 12) ∧ g (a + 1) = some (23, 6) ∧ fanT g (a + 2) ∧ g (a + 4) = some (20, 6) ∧ g (a + 5) = some (20, 6) ∧ g (a + 6) = some (20, 6) ∧ g (a + 7) = some (20, 19) ∧ ∀ i, i < 6 → fanT g (a + 8 + 2 * i)
def gameS (m : mm_V) (a t : Nat) : Prop := m a 0 = .ref (a + 1) ∧ m a 1 = .ref (a + 2) ∧ m a 2 = .ref (a + 4) ∧ m a 3 = .ref (a + 5) ∧ m a 4 = .ref (a + 6) ∧ m a 5 = .ref (a + 7) ∧ m a 6 = .ref t ∧ fanR m (a + 2) [] ∧ ∀ i, i < 6 → m (a + 1) i = .ref (a + 8 + 2 * i)
def gameF (m : mm_V) (a : Nat) (f : Nat → List Nat) : Prop := ∀ i, i < 6 → fanR m (a + 8 + 2 * i) (f i)
theorem gameS.keep {m m' : mm_V} {a t : Nat} (h : gameS m a t) (h1 : ∀ j, j < 7 → m' a j = m a j) (h2 : ∀ b, a < b → b < a + 4 → m' b = m b) : gameS m' a t := by
  obtain ⟨a0, a1, a2, a3, a4, a5, a6, a7, a8⟩ := h
  refine ⟨by rw [h1 _ (by omega)]; exact a0, by rw [h1 _ (by omega)]; exact a1, by rw [h1 _ (by omega)]; exact a2, by rw [h1 _ (by omega)]; exact a3, by rw [h1 _ (by omega)]; exact a4, by rw [h1 _ (by omega)]; exact a5, by rw [h1 _ (by omega)]; exact a6, a7.keep (h2 _ (by omega) (by omega)) (h2 _ (by omega) (by omega)), fun i hi => by rw [h2 _ (by omega) (by omega)]; exact a8 i hi⟩
theorem gameF.keep {m m' : mm_V} {a : Nat} {f : Nat → List Nat} (h : gameF m a f) (h1 : ∀ b, a + 8 ≤ b → b < a + 20 → m' b = m b) : gameF m' a f :=
  fun i hi => (h i hi).keep (h1 _ (by omega) (by omega)) (h1 _ (by omega) (by omega))
theorem gameF.set {m m' : mm_V} {a p : Nat} {f : Nat → List Nat} {l : List Nat} (h : gameF m a f) (hp : fanR m' (a + 8 + 2 * p) l) (hk : ∀ b, b ≠ a + 8 + 2 * p → b ≠ a + 8 + 2 * p + 1 → m' b = m b) : gameF m' a (setF f p l) := by
  intro i hi
  by_cases hip : i = p
  · subst hip; rw [setF_at]; exact hp
  · rw [setF_ne _ _ hip]; exact (h i hi).keep (hk _ (by omega) (by omega)) (hk _ (by omega) (by omega))
section GAMES
variable {e : mm_E} {m : mm_V} {a t N : Nat} {f : Nat → List Nat}
theorem X4_fanAt_eq (ht : gameT e.1 a) (h : gameS m a t) {p : Nat} (hp : p < 6) : X4_fanAt e a (zI p) m = some (a + 8 + 2 * p, m) := by
  unfold X4_fanAt
  simp only [LT, rd_gr ht.1 h.1, X4_fanAt_b23, Option.bind_some]
  simp (disch := omega) only [ZC]
  rw [if_neg (by omega), if_neg (by omega), rd_aq ht.2.1 (i := p) rfl (by omega) (by omega) (h.2.2.2.2.2.2.2.2 p hp)]
  rfl
theorem X4_fanAt_no (ht : gameT e.1 a) (h : gameS m a t) : X4_fanAt e a (zI (-1)) m = some (a + 2, m) := by
  unfold X4_fanAt
  simp only [LT, rd_gr ht.1 h.2.1, X4_fanAt_b23, X4_fanAt_b19, Option.bind_some]
  simp (disch := omega) only [ZC]
  rw [if_pos (by omega)]
theorem X4_isEmpty_eq (ht : gameT e.1 a) (h : gameS m a t) (hf : gameF m a f) {p : Nat} (hp : p < 6) : X4_isEmpty e a (zI p) m = some (bZ (!hasC f p), m) := by
  have hb := (hf p hp).2.2.1
  unfold X4_isEmpty
  rw [X4_fanAt_eq ht h hp]
  simp only [LT, rd_gi (ht.2.2.2.2.2.2.2 p hp).1 (hf p hp).2.1, X4_isEmpty_b16, Option.bind_some]
  simp (disch := omega) only [ZC]
  unfold bZ
  by_cases hc : hasC f p = true
  · rw [if_pos (by have := hasC_pos.mp hc; omega), hc]; rfl
  · rw [if_neg (by have := mt hasC_pos.mpr hc; omega), Bool.eq_false_iff.mpr hc]; rfl
theorem X4_beside_loop (ht : gameT e.1 a) (htt : e.1 t = some (10, 11)) (h : gameS m a t) (hf : gameF m a f) (hn : m t 6 = .int (zI N)) (h2 : 2 ≤ N) (h6 : N ≤ 6) (bh : Bool) : ∀ (j i n p : Nat), i + j = N → j < n → p < N → X4_beside_L5 e a (bZ bh) n (zI p) (zI i) m = some (ozI (if bh then nxtL N f j p else ahdL N f j p), m) := by
  have hg6 := h.2.2.2.2.2.2.1
  intro j
  induction j with
  | zero =>
    intro i n p hi hj hp
    obtain ⟨n, rfl⟩ : ∃ n', n = n' + 1 := ⟨n - 1, by omega⟩
    unfold X4_beside_L5
    simp only [rd_gr ht.1 hg6, rd_gi htt hn, Option.bind_some]
    simp (disch := omega) only [ZC]
    rw [if_pos (by omega)]
    cases bh <;> rfl
  | succ j ih =>
    intro i n p hi hj hp
    obtain ⟨n, rfl⟩ : ∃ n', n = n' + 1 := ⟨n - 1, by omega⟩
    have key : ∀ q, q < N → X4_beside_b65 e (X4_beside_L5 e a (bZ bh) n) a (bZ bh) (zI q) (zI i) m = some (ozI (if hasC f q then some q else (if bh then nxtL N f j q else ahdL N f j q)), m) := by
      intro q hq
      have hb := (hf q (by omega)).2.2.1
      unfold X4_beside_b65
      simp only [LT, ZA, rd_gr ht.1 h.1, Option.bind_some, X4_beside_b89]
      simp (disch := omega) only [ZC]
      rw [if_neg (by omega), if_neg (by omega), rd_aq ht.2.1 (i := q) rfl (by omega) (by omega) (h.2.2.2.2.2.2.2.2 q (by omega))]
      simp only [Option.bind_some, rd_gi (ht.2.2.2.2.2.2.2 q (by omega)).1 (hf q (by omega)).2.1]
      simp (disch := omega) only [ZC]
      by_cases hc : hasC f q = true
      · rw [if_neg (by have := hasC_pos.mp hc; omega), if_pos hc]; rfl
      · rw [if_pos (by have := mt hasC_pos.mpr hc; omega), if_neg hc]
        exact ih (i + 1) n q (by omega) (by omega) hq
    have hz : (bZ bh = zI 0) = (bh = false) := by cases bh <;> simp [bZ, zI_eq]
    unfold X4_beside_L5
    simp only [rd_gr ht.1 hg6, rd_gi htt hn, Option.bind_some, LT, ZA, X4_beside_b41, X4_beside_b64, hz]
    simp (disch := omega) only [ZC]
    rw [if_neg (by omega)]
    cases bh with
    | true =>
      rw [if_neg (by simp)]
      simp only [if_true]
      unfold nxtL
      by_cases hp1 : p + 1 < N
      · rw [if_neg (by omega), if_pos hp1]
        exact key (p + 1) hp1
      · rw [if_pos (by omega), if_neg hp1]
        exact key 0 (by omega)
    | false =>
      rw [if_pos rfl]
      simp only [Bool.false_eq_true, if_false]
      unfold ahdL
      by_cases hp1 : 0 < p
      · rw [if_neg (by omega), if_pos hp1, show (p : Int) - 1 = ((p - 1 : Nat) : Int) by omega]
        exact key (p - 1) (by omega)
      · rw [if_pos (by omega), if_neg hp1, show (N : Int) - 1 = ((N - 1 : Nat) : Int) by omega]
        exact key (N - 1) (by omega)
theorem X4_beside_eq (ht : gameT e.1 a) (htt : e.1 t = some (10, 11)) (h : gameS m a t) (hf : gameF m a f) (hn : m t 6 = .int (zI N)) (h2 : 2 ≤ N) (h6 : N ≤ 6) {p : Nat} (hp : p < N) (bh : Bool) (hN : 20 < e.2.2) : X4_beside e a (zI p) (bZ bh) m = some (ozI (if bh then nxt N f p else ahd N f p), m) := X4_beside_loop ht htt h hf hn h2 h6 bh N 0 e.2.2 p (by omega) (by omega) hp
theorem X4_over_loop (ht : gameT e.1 a) (htt : e.1 t = some (10, 11)) (h : gameS m a t) (hf : gameF m a f) (hn : m t 6 = .int (zI N)) (h6 : N ≤ 6) : ∀ (j i n : Nat), i + j = N → j < n → X4_over_L4 e a n (zI (cnt (hasC f) i)) (zI i) m = some (bZ (isOv N f), m) := by
  have hg6 := h.2.2.2.2.2.2.1
  intro j
  induction j with
  | zero =>
    intro i n hi hj
    obtain ⟨n, rfl⟩ : ∃ n', n = n' + 1 := ⟨n - 1, by omega⟩
    have hle := cnt_le (hasC f) i
    unfold X4_over_L4
    simp only [rd_gr ht.1 hg6, rd_gi htt hn, Option.bind_some, LT, X4_over_b47]
    simp (disch := omega) only [ZC]
    rw [if_pos (by omega), show i = N by omega]
    unfold isOv bZ
    by_cases hc : cnt (hasC f) N < 2
    · rw [if_neg (by omega), if_pos (decide_eq_true hc)]; rfl
    · rw [if_pos (by omega), if_neg (by simp [hc])]; rfl
  | succ j ih =>
    intro i n hi hj
    obtain ⟨n, rfl⟩ : ∃ n', n = n' + 1 := ⟨n - 1, by omega⟩
    unfold X4_over_L4
    simp only [rd_gr ht.1 hg6, rd_gi htt hn, Option.bind_some, LT, X4_over_b29, X4_isEmpty_eq ht h hf (show i < 6 by omega), ZA]
    simp (disch := omega) only [ZC]
    rw [if_neg (by omega)]
    have hi' := ih (i + 1) n (by omega) (by omega)
    unfold cnt at hi'
    cases hc : hasC f i with
    | true =>
      rw [if_pos (by rfl)]
      rw [hc, if_pos rfl] at hi'
      exact hi'
    | false =>
      rw [if_neg (by decide)]
      rw [hc, if_neg (by simp)] at hi'
      exact hi'
theorem X4_over_eq (ht : gameT e.1 a) (htt : e.1 t = some (10, 11)) (h : gameS m a t) (hf : gameF m a f) (hn : m t 6 = .int (zI N)) (h6 : N ≤ 6) (hN : 20 < e.2.2) : X4_over e a m = some (bZ (isOv N f), m) := X4_over_loop ht htt h hf hn h6 N 0 e.2.2 (by omega) (by omega)
theorem X4_queenHolder_loop (ht : gameT e.1 a) (htt : e.1 t = some (10, 11)) (h : gameS m a t) (hf : gameF m a f) (hl : ∀ p, ∀ x ∈ f p, x < 1000) (hn : m t 6 = .int (zI N)) (h6 : N ≤ 6) (hN : 20 < e.2.2) : ∀ (j i n : Nat), i + j = N → j < n → X4_queenHolder_L2 e a n (zI i) m = some (ozI (fstP (hasQ f) j i), m) := by
  have hg6 := h.2.2.2.2.2.2.1
  intro j
  induction j with
  | zero =>
    intro i n hi hj
    obtain ⟨n, rfl⟩ : ∃ n', n = n' + 1 := ⟨n - 1, by omega⟩
    unfold X4_queenHolder_L2
    simp only [rd_gr ht.1 hg6, rd_gi htt hn, Option.bind_some]
    simp (disch := omega) only [ZC]
    rw [if_pos (by omega)]
    rfl
  | succ j ih =>
    intro i n hi hj
    obtain ⟨n, rfl⟩ : ∃ n', n = n' + 1 := ⟨n - 1, by omega⟩
    have hb := (hf i (by omega)).2.2.1
    unfold X4_queenHolder_L2
    simp only [rd_gr ht.1 hg6, rd_gi htt hn, X4_fanAt_eq ht h (show i < 6 by omega), (ht.2.2.2.2.2.2.2 i (by omega)).1, Option.bind_some, LT, ZA, if_true]
    rw [show (zI 0 : Int32) = zI ((0 : Nat) : Int) from rfl, X3_placeOf_eq (ht.2.2.2.2.2.2.2 i (by omega)) (hf i (by omega)) (hl i) (by omega) hN]
    simp only [Option.bind_some]
    have hoz := ozI_none (o := idx 0 (f i)) (fun k hk => by have := idx_bound hk; omega)
    simp only [hoz]
    simp (disch := omega) only [ZC]
    rw [if_neg (by omega)]
    unfold fstP hasQ
    cases hi' : idx 0 (f i) with
    | none =>
      simp only [Option.isSome_none, Bool.false_eq_true, if_false, if_true]
      exact ih (i + 1) n (by omega) (by omega)
    | some k => simp; rfl
theorem X4_queenHolder_eq (ht : gameT e.1 a) (htt : e.1 t = some (10, 11)) (h : gameS m a t) (hf : gameF m a f) (hl : ∀ p, ∀ x ∈ f p, x < 1000) (hn : m t 6 = .int (zI N)) (h6 : N ≤ 6) (hN : 20 < e.2.2) : X4_queenHolder e a m = some (ozI (qn N f), m) := X4_queenHolder_loop ht htt h hf hl hn h6 hN N 0 e.2.2 (by omega) (by omega)
theorem X4_loser_eq (ht : gameT e.1 a) (htt : e.1 t = some (10, 11)) (h : gameS m a t) (hf : gameF m a f) (hl : ∀ p, ∀ x ∈ f p, x < 1000) (hn : m t 6 = .int (zI N)) (h6 : N ≤ 6) (hN : 20 < e.2.2) : X4_loser e a m = some (ozI (lsr N f), m) := by
  unfold X4_loser
  simp only [X4_over_eq ht htt h hf hn h6 hN, X4_queenHolder_eq ht htt h hf hl hn h6 hN, Option.bind_some, X4_loser_b15]
  unfold lsr bZ
  cases isOv N f <;> rfl
end GAMES
