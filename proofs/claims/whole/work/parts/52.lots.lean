/-! LOTS: the row of seeds, class and model. -/
def lcg (x : Int32) : Int32 := x * zI 1103515245 + zI 12345
def rv (x : Int32) : Int32 := (x >>> ((16 : Int32) &&& 31)) &&& (32767 : Int32)
def rnd (x : Int32) (n : Nat) : Nat := (rv x).toInt.toNat % n
theorem m15 : ∀ j : Fin 32, ¬ j.val < 15 → (32767#32).getLsbD j.val = false := by decide
theorem rv_class (x : Int32) : ((x.toUInt32 >>> ((16 : Int32).toUInt32 &&& Int32.toUInt32 31)).toInt32) &&& (32767 : Int32) = rv x := by
  unfold rv
  apply Int32.toBitVec.inj
  rw [Int32.toBitVec_and, Int32.toBitVec_and]
  have h1 : ((16 : Int32).toUInt32 &&& Int32.toUInt32 31) = 16 := by decide
  have h2 : ((16 : Int32) &&& 31) = 16 := by decide
  rw [h1, h2]
  have h3 : (x.toUInt32 >>> (16 : UInt32)).toInt32.toBitVec = x.toBitVec >>> 16 := by
    show (x.toUInt32 >>> (16 : UInt32)).toBitVec = _
    rw [UInt32.toBitVec_shiftRight]
    rfl
  have h4 : (x >>> (16 : Int32)).toBitVec = x.toBitVec.sshiftRight 16 := by
    rw [Int32.toBitVec_shiftRight]
    rfl
  rw [h3, h4]
  ext i hi
  simp only [BitVec.getElem_and, BitVec.getElem_ushiftRight, BitVec.getElem_sshiftRight]
  have h5 : (32767 : Int32).toBitVec = 32767#32 := rfl
  rw [h5]
  by_cases h15 : i < 15
  · rw [dif_pos (by omega)]
    rw [BitVec.getLsbD_eq_getElem (by omega)]
  · have : (32767#32)[i] = false := by
      rw [← BitVec.getLsbD_eq_getElem]
      exact m15 ⟨i, hi⟩ h15
    rw [this, Bool.and_false, Bool.and_false]
theorem rv_nat (x : Int32) : ∃ r : Nat, r < 32768 ∧ rv x = zI r ∧ (rv x).toInt.toNat = r := by
  have h1 : (rv x).toBitVec.toNat < 32768 := by
    unfold rv
    rw [Int32.toBitVec_and, BitVec.toNat_and]
    have : (32767 : Int32).toBitVec.toNat = 32767 := rfl
    rw [this]
    have := Nat.and_le_right (n := (x >>> ((16 : Int32) &&& 31)).toBitVec.toNat) (m := 32767)
    omega
  have h2 : (rv x).toInt = ((rv x).toBitVec.toNat : Int) := by
    rw [← Int32.toInt_toBitVec, BitVec.toInt_eq_toNat_of_lt (by omega)]
  refine ⟨(rv x).toBitVec.toNat, h1, ?_, by omega⟩
  rw [← h2, zI_of]
theorem rnd_eq (x : Int32) {n : Nat} (hn : n < 100000) : rv x - rv x / zI n * zI n = zI (rnd x n) := by
  obtain ⟨r, h1, h2, h3⟩ := rv_nat x
  unfold rnd
  rw [h3, h2, zI_rem (by omega) hn]
theorem rnd_lt (x : Int32) {n : Nat} (h : 0 < n) : rnd x n < n := Nat.mod_lt _ h
section LOTS
variable {e : mm_E} {m : mm_V} {a q : Nat} {x : Int32} {n : Nat}
theorem X4_drawOf_eq (ht : e.1 a = some (4, 12)) (hx : m a 9 = .int x) (h0 : 0 < n) (hn : n < 1000) : X4_drawOf e a (zI n) m = some (zI (rnd (lcg x) n), mm_up m a 9 (.int (lcg x))) := by
  unfold X4_drawOf X4_drawOf_b36
  rw [rd_gi ht hx, Option.bind_some, wr_pf ht, Option.bind_some]
  have hl : x * (1103515245 : Int32) + (12345 : Int32) = lcg x := rfl
  rw [hl, rd_gi ht (up_at _ _ _ _)]
  simp only [Option.bind_some]
  rw [rv_class, rnd_eq _ (by omega), show (0 : Int32) = zI 0 from rfl, ien (by omega), iqn (by omega)]
theorem X12_draws_eq (ht : e.1 q = some (12, 75)) (hx : m q 41 = .int x) (h0 : 0 < n) (hn : n < 1000) : X12_draws e q (zI n) m = some (zI (rnd (lcg x) n), mm_up m q 41 (.int (lcg x))) := by
  unfold X12_draws
  rw [rd_gi ht hx, Option.bind_some, wr_pf ht, Option.bind_some]
  have hl : x * (1103515245 : Int32) + (12345 : Int32) = lcg x := rfl
  rw [hl, rd_gi ht (up_at _ _ _ _), Option.bind_some]
  have hr := rnd_eq (lcg x) (n := n) (by omega)
  unfold rv at hr
  rw [hr, show (0 : Int32) = zI 0 from rfl, iqn (by omega)]
end LOTS
