/-! TOKENS of the model: the next one. -/
theorem sh_or {Y d : Nat} (hY : Y < 2 ^ 25) (hd : d < 32) : ((lI (Y : Int)) <<< ((5 : Int32).toInt64 &&& 63)) ||| (zI (d : Int)).toInt64 = lI ((32 * Y + d : Nat) : Int) := by
  have h1 : ∀ z : Nat, (lI (z : Int)).toBitVec = BitVec.ofNat 64 z := fun z => by
    show (Int64.ofInt (z : Int)).toBitVec = _
    rw [Int64.toBitVec_ofInt]; exact BitVec.ofInt_natCast 64 z
  have h2 : (zI (d : Int)).toInt64 = lI (d : Int) := by
    apply Int64.toInt_inj.mp
    rw [Int32.toInt_toInt64, zI_toInt (by omega) (by omega)]
    exact (Int64.toInt_ofInt_of_le (by omega) (by omega)).symm
  rw [h2]
  apply Int64.toBitVec_inj.mp
  rw [Int64.toBitVec_or, Int64.toBitVec_shiftLeft, h1, h1, h1]
  rw [show (((5 : Int32).toInt64 &&& 63).toBitVec.smod 64) = 5#64 by decide]
  apply BitVec.eq_of_toNat_eq
  rw [BitVec.toNat_or]
  rw [show (BitVec.ofNat 64 Y <<< 5#64) = BitVec.ofNat 64 Y <<< 5 by rfl]
  rw [BitVec.toNat_shiftLeft, BitVec.toNat_ofNat, BitVec.toNat_ofNat, BitVec.toNat_ofNat, Nat.mod_eq_of_lt (show Y < 2 ^ 64 by omega), Nat.mod_eq_of_lt (show d < 2 ^ 64 by omega), Nat.mod_eq_of_lt (show 32 * Y + d < 2 ^ 64 by omega), Nat.shiftLeft_eq, Nat.mod_eq_of_lt (by omega)]
  have := Nat.shiftLeft_add_eq_or_of_lt (i := 5) (b := d) (by omega) Y
  rw [Nat.shiftLeft_eq] at this
  rw [← this]; omega
def pkW (T : Nat → Nat) (s : Nat) : Nat → Nat
  | 0 => 0
  | k + 1 => 32 * pkW T s k + (T (s + k) - 96)
def tkM (m : mm_V) (q n : Nat) (T : Nat → Nat) (t : TK) : Prop := m q 13 = .int (zI n) ∧ m q 14 = .int (zI t.2.2) ∧ m q 15 = .int (zI t.1) ∧ m q 16 = .int (zI t.2.1) ∧ m q 17 = .int (zI (t.2.2 - t.2.1 : Nat)) ∧ (t.1 = 2 → m q 18 = .int (zI (dv T t.2.1 (min (t.2.2 - t.2.1) 4)))) ∧ (t.1 = 3 → m q 19 = .int (zI (T t.2.1))) ∧ (t.1 = 1 → m q 20 = .long (lI (pkW T t.2.1 (min (t.2.2 - t.2.1) 6))))
theorem pkW_lt {T : Nat → Nat} {s : Nat} : ∀ k, k ≤ 6 → (∀ i, i < k → isLt (T (s + i)) = true) → pkW T s k < 2 ^ (5 * k)
  | 0, _, _ => by simp [pkW]
  | k + 1, h6, h => by
    have ih := pkW_lt k (by omega) (fun i hi => h i (by omega))
    have hk := h k (by omega)
    unfold isLt at hk
    have hk : 97 ≤ T (s + k) ∧ T (s + k) ≤ 122 := by simpa using hk
    rw [pkW, show 5 * (k + 1) = 5 * k + 5 by omega, Nat.pow_add]
    have : (2 : Nat) ^ 5 = 32 := rfl
    omega
section GOES
variable {e : mm_E} {q n : Nat} {T : Nat → Nat}
theorem X12_byteAt_eq {m : mm_V} (hT : modT e.1 q) (hS : modS m q) (ht : txR m (q + 4) n T) (h13 : m q 13 = .int (zI n)) {i : Nat} (hi : i ≤ n) : X12_byteAt e q (zI i) m = some (zI (if i < n then T i else 0 : Nat), m) := by
  have := ht.1
  unfold X12_byteAt X12_byteAt_b18
  rw [rd_gi hT.me h13, Option.bind_some]
  by_cases h : i < n
  · rw [ien (by omega), rd_gr hT.me hS.tape_, Option.bind_some, rd_ai hT.tape_ (i := i) rfl (by omega) (by omega) (ht.2.2 i h), Option.bind_some, if_pos h]
  · rw [iep (by omega), if_neg h]; rfl
theorem X12_isLetter_eq {m : mm_V} {c : Nat} (hc : c < 256) : X12_isLetter e (zI c) m = some (bZ (isLt c), m) := X9_isLetter_eq (e := e) hc
theorem X12_isDigit_eq {m : mm_V} {c : Nat} (hc : c < 256) : X12_isDigit e (zI c) m = some (bZ (isDg c), m) := X9_isDigit_eq (e := e) hc
end GOES
