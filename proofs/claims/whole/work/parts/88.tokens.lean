/-! TOKENS: the lexer as a pure thing; the class's tokens. -/
def run (Q : Nat → Bool) : Nat → Nat → Nat
  | 0, i => i
  | j + 1, i => if Q i then run Q j (i + 1) else i
theorem run_le (Q : Nat → Bool) : ∀ j i, i ≤ run Q j i ∧ run Q j i ≤ i + j
  | 0, i => ⟨Nat.le_refl _, Nat.le_refl _⟩
  | j + 1, i => by
    have := run_le Q j (i + 1)
    rw [run]; split <;> omega
def isSp (c : Nat) : Bool := decide (c = 32 ∨ c = 10)
def isLt (c : Nat) : Bool := decide (97 ≤ c ∧ c ≤ 122)
def isDg (c : Nat) : Bool := decide (48 ≤ c ∧ c ≤ 57)
def isSg (c : Nat) : Bool := decide (c = 40 ∨ c = 41 ∨ c = 42 ∨ c = 43 ∨ c = 45 ∨ c = 47 ∨ c = 59 ∨ c = 60 ∨ c = 61)
def skp (T : Nat → Nat) (n b : Nat) : Nat := run (fun i => isSp (T i)) (n - b) b
def dv (T : Nat → Nat) (s : Nat) : Nat → Int
  | 0 => 0
  | k + 1 => 10 * dv T s k + (T (s + k) : Int) - 48
abbrev TK : Type := Nat × Nat × Nat
def tok (T : Nat → Nat) (n b : Nat) : TK :=
  let s := skp T n b
  if n ≤ s then (0, s, s) else if isLt (T s) then (1, s, run (fun i => isLt (T i)) (n - s) s) else if isDg (T s) then (2, s, run (fun i => isDg (T i)) (n - s) s) else if isSg (T s) then (3, s, s + 1) else (4, s, s + 1)
def tkC (T : Nat → Nat) (t : TK) : Int := if t.1 = 0 then -1 else if t.1 = 1 then 97 else if t.1 = 2 then 48 else if t.1 = 3 then T t.2.1 else 0
def tkR (m : mm_V) (k x n : Nat) (T : Nat → Nat) (t : TK) : Prop := m k 0 = .ref x ∧ m k 1 = .int (zI n) ∧ m k 2 = .int (zI t.2.1) ∧ m k 3 = .int (zI t.2.2) ∧ m k 4 = .int (zI (tkC T t)) ∧ (t.1 = 2 → m k 5 = .int (zI (dv T t.2.1 (t.2.2 - t.2.1)))) ∧ ∃ v, m k 5 = .int v
def txR (m : mm_V) (x n : Nat) (T : Nat → Nat) : Prop := n ≤ 600 ∧ (∀ i, i < n → T i < 256) ∧ ∀ i, i < n → m x i = .int (zI (T i))
section TOKC
variable {e : mm_E} {k x n : Nat} {T : Nat → Nat}
theorem X9_signAt_eq {m : mm_V} (hk : e.1 k = some (9, 6)) (hx : e.1 x = some (20, 600)) (h0 : m k 0 = .ref x) (ht : txR m x n T) {i : Nat} (hi : i < n) : X9_signAt e k (zI i) m = some (zI (T i), m) := by
  have := ht.1
  unfold X9_signAt X9_signAt_b23
  rw [show (0 : Int32) = zI 0 from rfl, iln (by omega), rd_gr hk h0, Option.bind_some, rd_ln hx (by omega) (by omega), Option.bind_some, ien (by omega), Option.bind_some, rd_ai hx (i := i) rfl (by omega) (by omega) (ht.2.2 i hi), Option.bind_some]
theorem X9_isLetter_eq {m : mm_V} {c : Nat} (hc : c < 256) : X9_isLetter e (zI c) m = some (bZ (isLt c), m) := by
  unfold X9_isLetter X9_isLetter_b16 X9_isLetter_b17
  simp only [LT]
  by_cases h1 : c < 97
  · rw [ilp (by omega), show isLt c = false by unfold isLt; simp; omega]; rfl
  · rw [iln (by omega)]
    by_cases h2 : 122 < c
    · rw [ilp (by omega), show isLt c = false by unfold isLt; simp; omega]; rfl
    · rw [iln (by omega), show isLt c = true by unfold isLt; simp; omega]; rfl
theorem X9_isDigit_eq {m : mm_V} {c : Nat} (hc : c < 256) : X9_isDigit e (zI c) m = some (bZ (isDg c), m) := by
  unfold X9_isDigit X9_isDigit_b16 X9_isDigit_b17
  simp only [LT]
  by_cases h1 : c < 48
  · rw [ilp (by omega), show isDg c = false by unfold isDg; simp; omega]; rfl
  · rw [iln (by omega)]
    by_cases h2 : 57 < c
    · rw [ilp (by omega), show isDg c = false by unfold isDg; simp; omega]; rfl
    · rw [iln (by omega), show isDg c = true by unfold isDg; simp; omega]; rfl
theorem X9_isSign_eq {m : mm_V} {c : Nat} (hc : c < 256) : X9_isSign e (zI c) m = some (bZ (isSg c), m) := by
  unfold X9_isSign
  simp only [LT]
  by_cases h1 : c = 40
  · rw [iqp (by omega), show isSg c = true by unfold isSg; simp [h1]]; rfl
  rw [iqn (by omega)]
  by_cases h2 : c = 41
  · rw [iqp (by omega), show isSg c = true by unfold isSg; simp [h2]]; rfl
  rw [iqn (by omega)]
  by_cases h3 : c = 42
  · rw [iqp (by omega), show isSg c = true by unfold isSg; simp [h3]]; rfl
  rw [iqn (by omega)]
  by_cases h4 : c = 43
  · rw [iqp (by omega), show isSg c = true by unfold isSg; simp [h4]]; rfl
  rw [iqn (by omega)]
  by_cases h5 : c = 45
  · rw [iqp (by omega), show isSg c = true by unfold isSg; simp [h5]]; rfl
  rw [iqn (by omega)]
  by_cases h6 : c = 47
  · rw [iqp (by omega), show isSg c = true by unfold isSg; simp [h6]]; rfl
  rw [iqn (by omega)]
  by_cases h7 : c = 59
  · rw [iqp (by omega), show isSg c = true by unfold isSg; simp [h7]]; rfl
  rw [iqn (by omega)]
  by_cases h8 : c = 60
  · rw [iqp (by omega), show isSg c = true by unfold isSg; simp [h8]]; rfl
  rw [iqn (by omega)]
  by_cases h9 : c = 61
  · rw [iqp (by omega), show isSg c = true by unfold isSg; simp [h9]]; rfl
  rw [iqn (by omega), show isSg c = false by unfold isSg; simp; omega]; rfl
end TOKC
