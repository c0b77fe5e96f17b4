/-! THE RING: who has cards, behind and ahead, the queen's holder; class and model. -/
theorem zI_div {x y : Int} (a : -2147483648 ≤ x) (b : x < 2147483648) (c : -2147483648 ≤ y) (d : y < 2147483648) : zI x / zI y = zI (x.tdiv y) := by
  unfold zI
  rw [Int32.ofInt_tdiv]
  · show (-2147483648 : Int) ≤ x; exact a
  · show x ≤ (2147483647 : Int); omega
  · show (-2147483648 : Int) ≤ y; exact c
  · show y ≤ (2147483647 : Int); omega
theorem zI_rem {x y : Nat} (hx : x < 100000) (hy : y < 100000) : zI x - zI x / zI y * zI y = zI (x % y : Nat) := by
  rw [zI_div (by omega) (by omega) (by omega) (by omega), zI_mul, zI_sub]
  congr 1
  rw [← Int.ofNat_tdiv, ← Int.natCast_mul]
  have := Nat.div_add_mod x y
  have h2 : x / y * y = y * (x / y) := Nat.mul_comm _ _
  omega
def cnt (P : Nat → Bool) : Nat → Nat
  | 0 => 0
  | n + 1 => cnt P n + if P n then 1 else 0
theorem cnt_le (P : Nat → Bool) : ∀ n, cnt P n ≤ n
  | 0 => Nat.le_refl _
  | n + 1 => by have := cnt_le P n; unfold cnt; split <;> omega
def fstP (P : Nat → Bool) : Nat → Nat → Option Nat
  | 0, _ => none
  | j + 1, i => if P i then some i else fstP P j (i + 1)
def hasC (f : Nat → List Nat) (p : Nat) : Bool := !(f p).isEmpty
theorem hasC_pos {f : Nat → List Nat} {p : Nat} : hasC f p = true ↔ 0 < (f p).length := by
  unfold hasC; cases f p <;> simp
def nxtL (N : Nat) (f : Nat → List Nat) : Nat → Nat → Option Nat
  | 0, _ => none
  | j + 1, q => if hasC f (if q + 1 < N then q + 1 else 0) then some (if q + 1 < N then q + 1 else 0) else nxtL N f j (if q + 1 < N then q + 1 else 0)
def ahdL (N : Nat) (f : Nat → List Nat) : Nat → Nat → Option Nat
  | 0, _ => none
  | j + 1, q => if hasC f (if 0 < q then q - 1 else N - 1) then some (if 0 < q then q - 1 else N - 1) else ahdL N f j (if 0 < q then q - 1 else N - 1)
/-- first with cards behind a seat -/
def nxt (N : Nat) (f : Nat → List Nat) (p : Nat) : Option Nat := nxtL N f N p
def ahd (N : Nat) (f : Nat → List Nat) (p : Nat) : Option Nat := ahdL N f N p
def isOv (N : Nat) (f : Nat → List Nat) : Bool := decide (cnt (hasC f) N < 2)
def hasQ (f : Nat → List Nat) (p : Nat) : Bool := (idx 0 (f p)).isSome
def qn (N : Nat) (f : Nat → List Nat) : Option Nat := fstP (hasQ f) N 0
def lsr (N : Nat) (f : Nat → List Nat) : Option Nat := if isOv N f then qn N f else none
def bZ (b : Bool) : Int32 := if b then zI 1 else zI 0
theorem ozI_none {o : Option Nat} (h : ∀ k, o = some k → k < 1000000) : (ozI o = zI (-1)) = (o = none) := by
  cases o with
  | none => simp [ozI]
  | some k =>
    have := h k rfl
    show (zI (k : Int) = zI (-1)) = _
    rw [zI_eq (by omega) (by omega) (by omega) (by omega)]
    simp
theorem idx_lt {c : Nat} : ∀ {l : List Nat} {k : Nat}, idx c l = some k → l[k]? = some c
  | [], k, h => by cases h
  | x :: xs, k, h => by
    unfold idx at h
    split at h
    · next hx => cases h; simp [hx]
    · next hx =>
      cases hi : idx c xs with
      | none => rw [hi] at h; cases h
      | some j => rw [hi] at h; cases h; simpa using idx_lt hi
theorem idx_bound {c : Nat} {l : List Nat} {k : Nat} (h : idx c l = some k) : k < l.length := (List.getElem?_eq_some_iff.mp (idx_lt h)).1
/-! the model -/
section RINGM
variable {e : mm_E} {m : mm_V} {r q N : Nat} {f : Nat → List Nat}
theorem X12_nextOf_loop (ht : e.1 r = some (20, 128)) (hq : e.1 q = some (12, 75)) (h : rowF m r f) (hn : m q 1 = .int (zI N)) (h2 : 2 ≤ N) (h6 : N ≤ 6) : ∀ (j i n p : Nat), i + j = N → j < n → p < N → X12_nextOf_L5 e q r n (zI p) (zI i) m = some (ozI (nxtL N f j p), m) := by
  intro j
  induction j with
  | zero =>
    intro i n p hi hj hp
    obtain ⟨n, rfl⟩ : ∃ n', n = n' + 1 := ⟨n - 1, by omega⟩
    unfold X12_nextOf_L5
    simp only [rd_gi hq hn, Option.bind_some]
    simp (disch := omega) only [ZC]
    rw [if_pos (by omega)]
    rfl
  | succ j ih =>
    intro i n p hi hj hp
    obtain ⟨n, rfl⟩ : ∃ n', n = n' + 1 := ⟨n - 1, by omega⟩
    have hm : (p + 1) % N = if p + 1 < N then p + 1 else 0 := by
      split
      · next h => exact Nat.mod_eq_of_lt h
      · next h => rw [show p + 1 = N by omega, Nat.mod_self]
    have hz : (zI (p : Int) + zI 1) - (zI (p : Int) + zI 1) / zI (N : Int) * zI (N : Int) = zI ((if p + 1 < N then p + 1 else 0 : Nat) : Int) := by
      rw [zI_add, show ((p : Int) + 1) = ((p + 1 : Nat) : Int) by omega, zI_rem (by omega) (by omega), hm]
    have hlt : (if p + 1 < N then p + 1 else 0) < N := by split <;> omega
    unfold X12_nextOf_L5
    simp only [rd_gi hq hn, Option.bind_some, LT]
    simp (disch := omega) only [ZC]
    rw [if_neg (by omega), if_neg (by omega), hz, X12_size_eq ht h (by omega)]
    have hb := (h _ (show (if p + 1 < N then p + 1 else 0) < 6 by omega)).2.1
    simp only [Option.bind_some]
    simp (disch := omega) only [ZC]
    unfold nxtL
    by_cases hc : hasC f (if p + 1 < N then p + 1 else 0) = true
    · rw [if_neg (by have := hasC_pos.mp hc; omega), if_pos hc]
      rfl
    · rw [if_pos (by have := mt hasC_pos.mpr hc; omega), if_neg hc, zI_add]
      exact ih (i + 1) n _ (by omega) (by omega) hlt
theorem X12_nextOf_eq (ht : e.1 r = some (20, 128)) (hq : e.1 q = some (12, 75)) (h : rowF m r f) (hn : m q 1 = .int (zI N)) (h2 : 2 ≤ N) (h6 : N ≤ 6) {p : Nat} (hp : p < N) (hN : 20 < e.2.2) : X12_nextOf e q r (zI p) m = some (ozI (nxt N f p), m) := X12_nextOf_loop ht hq h hn h2 h6 N 0 e.2.2 p (by omega) (by omega) hp
theorem X12_aheadOf_loop (ht : e.1 r = some (20, 128)) (hq : e.1 q = some (12, 75)) (h : rowF m r f) (hn : m q 1 = .int (zI N)) (h2 : 2 ≤ N) (h6 : N ≤ 6) : ∀ (j i n p : Nat), i + j = N → j < n → p < N → X12_aheadOf_L5 e q r n (zI p) (zI i) m = some (ozI (ahdL N f j p), m) := by
  intro j
  induction j with
  | zero =>
    intro i n p hi hj hp
    obtain ⟨n, rfl⟩ : ∃ n', n = n' + 1 := ⟨n - 1, by omega⟩
    unfold X12_aheadOf_L5
    simp only [rd_gi hq hn, Option.bind_some]
    simp (disch := omega) only [ZC]
    rw [if_pos (by omega)]
    rfl
  | succ j ih =>
    intro i n p hi hj hp
    obtain ⟨n, rfl⟩ : ∃ n', n = n' + 1 := ⟨n - 1, by omega⟩
    have hm : (p + N - 1) % N = if 0 < p then p - 1 else N - 1 := by
      split
      · next h => rw [show p + N - 1 = (p - 1) + N by omega, Nat.add_mod_right, Nat.mod_eq_of_lt (by omega)]
      · next h => rw [show p + N - 1 = N - 1 by omega, Nat.mod_eq_of_lt (by omega)]
    have hz : ((zI (p : Int) + zI (N : Int)) - zI 1) - ((zI (p : Int) + zI (N : Int)) - zI 1) / zI (N : Int) * zI (N : Int) = zI ((if 0 < p then p - 1 else N - 1 : Nat) : Int) := by
      rw [zI_add, zI_sub, show ((p : Int) + N - 1) = ((p + N - 1 : Nat) : Int) by omega, zI_rem (by omega) (by omega), hm]
    have hlt : (if 0 < p then p - 1 else N - 1) < N := by split <;> omega
    unfold X12_aheadOf_L5
    simp only [rd_gi hq hn, Option.bind_some, LT]
    simp (disch := omega) only [ZC]
    rw [if_neg (by omega), if_neg (by omega), hz, X12_size_eq ht h (by omega)]
    have hb := (h _ (show (if 0 < p then p - 1 else N - 1) < 6 by omega)).2.1
    simp only [Option.bind_some]
    simp (disch := omega) only [ZC]
    unfold ahdL
    by_cases hc : hasC f (if 0 < p then p - 1 else N - 1) = true
    · rw [if_neg (by have := hasC_pos.mp hc; omega), if_pos hc]
      rfl
    · rw [if_pos (by have := mt hasC_pos.mpr hc; omega), if_neg hc, zI_add]
      exact ih (i + 1) n _ (by omega) (by omega) hlt
theorem X12_aheadOf_eq (ht : e.1 r = some (20, 128)) (hq : e.1 q = some (12, 75)) (h : rowF m r f) (hn : m q 1 = .int (zI N)) (h2 : 2 ≤ N) (h6 : N ≤ 6) {p : Nat} (hp : p < N) (hN : 20 < e.2.2) : X12_aheadOf e q r (zI p) m = some (ozI (ahd N f p), m) := X12_aheadOf_loop ht hq h hn h2 h6 N 0 e.2.2 p (by omega) (by omega) hp
theorem X12_isOver_loop (ht : e.1 r = some (20, 128)) (hq : e.1 q = some (12, 75)) (h : rowF m r f) (hn : m q 1 = .int (zI N)) (h6 : N ≤ 6) : ∀ (j i n : Nat), i + j = N → j < n → X12_isOver_L4 e q r n (zI (cnt (hasC f) i)) (zI i) m = some (bZ (isOv N f), m) := by
  intro j
  induction j with
  | zero =>
    intro i n hi hj
    obtain ⟨n, rfl⟩ : ∃ n', n = n' + 1 := ⟨n - 1, by omega⟩
    have hle := cnt_le (hasC f) i
    unfold X12_isOver_L4
    simp only [rd_gi hq hn, Option.bind_some, LT, X12_isOver_b44]
    simp (disch := omega) only [ZC]
    rw [if_pos (by omega), show i = N by omega]
    unfold isOv bZ
    by_cases hc : cnt (hasC f) N < 2
    · rw [if_neg (by omega), if_pos (decide_eq_true hc)]; rfl
    · rw [if_pos (by omega), if_neg (by simp [hc])]; rfl
  | succ j ih =>
    intro i n hi hj
    obtain ⟨n, rfl⟩ : ∃ n', n = n' + 1 := ⟨n - 1, by omega⟩
    have hb := (h i (by omega)).2.1
    unfold X12_isOver_L4
    simp only [rd_gi hq hn, Option.bind_some, LT, X12_isOver_b26, X12_size_eq ht h (show i < 6 by omega), ZA]
    simp (disch := omega) only [ZC]
    rw [if_neg (by omega)]
    have hi' := ih (i + 1) n (by omega) (by omega)
    unfold cnt at hi'
    by_cases hc : hasC f i = true
    · rw [if_neg (by have := hasC_pos.mp hc; omega)]
      rw [if_pos hc] at hi'
      exact hi'
    · rw [if_pos (by have := mt hasC_pos.mpr hc; omega)]
      rw [if_neg hc] at hi'
      exact hi'
theorem X12_isOver_eq (ht : e.1 r = some (20, 128)) (hq : e.1 q = some (12, 75)) (h : rowF m r f) (hn : m q 1 = .int (zI N)) (h6 : N ≤ 6) (hN : 20 < e.2.2) : X12_isOver e q r m = some (bZ (isOv N f), m) := X12_isOver_loop ht hq h hn h6 N 0 e.2.2 (by omega) (by omega)
theorem X12_queen_loop (ht : e.1 r = some (20, 128)) (hq : e.1 q = some (12, 75)) (h : rowF m r f) (hl : ∀ p, ∀ x ∈ f p, x < 1000) (hn : m q 1 = .int (zI N)) (h6 : N ≤ 6) (hN : 20 < e.2.2) : ∀ (j i n : Nat), i + j = N → j < n → X12_queen_L2 e q r n (zI i) m = some (ozI (fstP (hasQ f) j i), m) := by
  intro j
  induction j with
  | zero =>
    intro i n hi hj
    obtain ⟨n, rfl⟩ : ∃ n', n = n' + 1 := ⟨n - 1, by omega⟩
    unfold X12_queen_L2
    simp only [rd_gi hq hn, Option.bind_some]
    simp (disch := omega) only [ZC]
    rw [if_pos (by omega)]
    rfl
  | succ j ih =>
    intro i n hi hj
    obtain ⟨n, rfl⟩ : ∃ n', n = n' + 1 := ⟨n - 1, by omega⟩
    have hb := (h i (by omega)).2.1
    unfold X12_queen_L2
    simp only [rd_gi hq hn, Option.bind_some, LT, ZA]
    rw [show (zI 0 : Int32) = zI ((0 : Nat) : Int) from rfl, X12_placeOf_eq ht h (show i < 6 by omega) (hl i) (by omega) hN]
    simp only [Option.bind_some]
    have hoz := ozI_none (o := idx 0 (f i)) (fun k hk => by have := idx_bound hk; omega)
    simp only [hoz]
    simp (disch := omega) only [ZC]
    rw [if_neg (by omega)]
    unfold fstP hasQ
    cases hi' : idx 0 (f i) with
    | none =>
      simp only [Option.isSome_none, Bool.false_eq_true, if_false, if_true]
      exact ih (i + 1) n (by omega) (by omega)
    | some k => simp; rfl
theorem X12_queen_eq (ht : e.1 r = some (20, 128)) (hq : e.1 q = some (12, 75)) (h : rowF m r f) (hl : ∀ p, ∀ x ∈ f p, x < 1000) (hn : m q 1 = .int (zI N)) (h6 : N ≤ 6) (hN : 20 < e.2.2) : X12_queen e q r m = some (ozI (qn N f), m) := X12_queen_loop ht hq h hl hn h6 hN N 0 e.2.2 (by omega) (by omega)
theorem X12_loser_eq (ht : e.1 r = some (20, 128)) (hq : e.1 q = some (12, 75)) (h : rowF m r f) (hl : ∀ p, ∀ x ∈ f p, x < 1000) (hn : m q 1 = .int (zI N)) (h6 : N ≤ 6) (hN : 20 < e.2.2) : X12_loser e q r m = some (ozI (lsr N f), m) := by
  unfold X12_loser
  simp only [X12_isOver_eq ht hq h hn h6 hN, X12_queen_eq ht hq h hl hn h6 hN, Option.bind_some, X12_loser_b17]
  unfold lsr bZ
  cases isOv N f <;> rfl
end RINGM
