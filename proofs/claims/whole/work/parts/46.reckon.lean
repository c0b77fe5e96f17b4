/-! RULES of the model, and places by a rule's answer. -/
/-- where an answer falls in n places -/
def fmd (x : Int32) (n : Nat) : Nat := (x.toInt % (n : Int)).toNat
theorem fmd_lt (x : Int32) {n : Nat} (h : 0 < n) : fmd x n < n := by
  unfold fmd
  have h1 := Int.emod_nonneg x.toInt (show (n : Int) ≠ 0 by omega)
  have h2 := Int.emod_lt_of_pos x.toInt (show (0 : Int) < n by omega)
  omega
theorem zI_of (x : Int32) : zI x.toInt = x := Int32.ofInt_toInt x
theorem zI_trem {y : Int} {n : Nat} (a : -2147483648 ≤ y) (b : y < 2147483648) (hn : n < 100000) : zI y - zI y / zI n * zI n = zI (y.tmod n) := by
  rw [zI_div a b (by omega) (by omega), zI_mul, zI_sub]
  congr 1
  have := Int.tmod_add_tdiv_mul y n
  omega
theorem fmd_of {y : Int} {n : Nat} (a : -2147483648 ≤ y) (b : y < 2147483648) (h0 : 0 < n) : (zI (fmd (zI y) n : Nat) : Int32) = if 0 ≤ y.tmod n then zI (y.tmod n) else zI (y.tmod n + n) := by
  have h1 := Int.emod_nonneg y (show (n : Int) ≠ 0 by omega)
  have h2 := Int.emod_lt_of_pos y (show (0 : Int) < n by omega)
  have h3 := Int.tmod_lt_of_pos y (show (0 : Int) < n by omega)
  have h4 := Int.lt_tmod_of_pos y (show (0 : Int) < n by omega)
  have h5 : y % n = y.tmod n % n := by
    have := Int.tmod_add_mul_tdiv y n
    rw [← this, Int.add_mul_emod_self_left]
    rw [this]
  have hf : ((fmd (zI y) n : Nat) : Int) = y % n := by
    unfold fmd
    rw [zI_toInt a b]; omega
  rw [hf, h5]
  split
  · next h => rw [Int.emod_eq_of_lt h h3]
  · next h => rw [← Int.add_emod_right, Int.emod_eq_of_lt (by omega) (by omega)]
theorem X12_mod_eq (e : mm_E) (x : Int32) {n : Nat} (h0 : 0 < n) (hn : n < 1000) (m : mm_V) : X12_mod e x (zI n) m = some (zI (fmd x n), m) := by
  have a := Int32.le_toInt x
  have b := Int32.toInt_lt x
  rw [← zI_of x, fmd_of (by omega) (by omega) h0]
  unfold X12_mod
  have h3 := Int.tmod_lt_of_pos x.toInt (show (0 : Int) < n by omega)
  have h4 := Int.lt_tmod_of_pos x.toInt (show (0 : Int) < n by omega)
  simp only [LT, X12_mod_b15]
  rw [zI_trem (by omega) (by omega) (by omega), iqn (by omega)]
  split
  · next h => rw [zI_le (by omega) (by omega) (by omega) (by omega)] at h; rw [if_pos h]
  · next h => rw [zI_le (by omega) (by omega) (by omega) (by omega)] at h; rw [if_neg h, zI_add]
theorem xor_sign (x y : Int32) (hy : 0 ≤ y.toInt) : (0 ≤ x ^^^ y) ↔ 0 ≤ x.toInt := by
  rw [Int32.le_iff_toInt_le]
  have h1 : (x ^^^ y).toBitVec.msb = ((x.toBitVec).msb ^^ (y.toBitVec).msb) := by rw [Int32.toBitVec_xor, BitVec.msb_xor]
  rw [BitVec.msb_eq_toInt, BitVec.msb_eq_toInt, BitVec.msb_eq_toInt, Int32.toInt_toBitVec, Int32.toInt_toBitVec, Int32.toInt_toBitVec] at h1
  have h2 : decide (y.toInt < 0) = false := by simp; omega
  rw [h2, Bool.xor_false] at h1
  have h3 : (x ^^^ y).toInt < 0 ↔ x.toInt < 0 := by simpa using h1
  show (0 : Int) ≤ _ ↔ _
  omega
theorem J9_floorMod_eq (e : mm_E) (x : Int32) {n : Nat} (h0 : 0 < n) (hn : n < 1000) (m : mm_V) : J9_floorMod_7cf53 e x (zI n) m = some (zI (fmd x n), m) := by
  have a := Int32.le_toInt x
  have b := Int32.toInt_lt x
  have hs := xor_sign x (zI n) (by rw [zI_toInt (by omega) (by omega)]; omega)
  have h3 := Int.tmod_lt_of_pos x.toInt (show (0 : Int) < n by omega)
  have h4 := Int.lt_tmod_of_pos x.toInt (show (0 : Int) < n by omega)
  have hf := fmd_of (y := x.toInt) (n := n) (by omega) (by omega) h0
  have hr := zI_trem (y := x.toInt) (n := n) (by omega) (by omega) (by omega)
  rw [zI_of] at hf hr
  unfold J9_floorMod_7cf53
  simp only [LT, J9_floorMod_7cf53_b18] at hs ⊢
  rw [iqn (by omega), hr, hf]
  by_cases hx : 0 ≤ x.toInt
  · have h5 := Int.tmod_nonneg (n : Int) hx
    have h6 := hs.mpr hx
    rw [if_pos h6, if_pos h5]
  · have h6 := mt hs.mp hx
    rw [if_neg h6]
    have h7 : x.toInt.tmod n ≤ 0 := by
      have := Int.tmod_nonneg (a := -x.toInt) (n : Int) (by omega)
      rw [Int.neg_tmod] at this; omega
    by_cases h8 : x.toInt.tmod n = 0
    · rw [iqp (by omega), if_pos (by omega)]
    · rw [iqn (by omega), if_neg (by omega), zI_add]
def encC (c : Int) : List Int := if 0 ≤ c then [1, c] else if -6 ≤ c then [2, -1 - c] else if c = -13 then [3] else [mac c]
def enc : List Int → List Int
  | [] => [0]
  | c :: cs => encC c ++ enc cs
section RULEM
variable {e : mm_E} {q cd pl r : Nat} {sv : Nat → Int32} {i3 i4 i5 : Int32} {m0 : mm_V}
theorem X12_reckons_loop (hq : e.1 q = some (12, 75)) (hcd : e.1 cd = some (20, 1600)) (hpl : e.1 pl = some (20, 800)) (h1 : q ≠ pl) (h2 : cd ≠ pl) (q7 : m0 q 7 = .ref cd) (q43 : m0 q 43 = .ref pl) (hv : ∀ m : mm_V, (∀ b, b ≠ pl → m b = m0 b) → ∀ k : Nat, k < 6 → X12_valueOf e q (zI k) r i3 i4 i5 m = some (sv k, m)) : ∀ (cs : List Int) (i n : Nat) (s : List Int32) (m : mm_V), i + (enc cs).length ≤ 1600 → cs.length < n → (∀ b, b ≠ pl → m b = m0 b) → (∀ (k : Nat) (c : Int), (enc cs)[k]? = some c → m0 cd (i + k) = .int (zI c)) → stkR m pl s → wfc cs s.length → s.length ≤ 100 → ∃ v m', X12_reckons_L6 e q r i3 i4 i5 n (zI s.length) (zI i) m = some (v, m') ∧ evS sv cs s = [v] ∧ ∀ b, b ≠ pl → m' b = m0 b := by
  intro cs
  induction cs with
  | nil =>
    intro i n s m hi hn hm hk hst hw hsl
    obtain ⟨n, rfl⟩ : ∃ n', n = n' + 1 := ⟨n - 1, by simp at hn; omega⟩
    simp only [enc, List.length_cons, List.length_nil] at hi
    match s, hst, hw with
    | [v], hst, _ =>
      refine ⟨v, m, ?_, rfl, hm⟩
      have r7 : m q 7 = .ref cd := by rw [hm _ h1]; exact q7
      have r43 : m q 43 = .ref pl := by rw [hm _ h1]; exact q43
      have at0 : m cd i = .int (zI 0) := by rw [hm _ h2]; exact hk 0 0 rfl
      unfold X12_reckons_L6
      simp only [LT, ZA, rd_gr hq r7, rd_gr hq r43, Option.bind_some, List.length_cons, List.length_nil]
      rw [rd_ai hcd (i := i) (v := zI 0) rfl (by omega) (by omega) at0]
      simp only [Option.bind_some, if_true]
      rw [rd_ai hpl (i := 0) (by omega) (by omega) (by omega) hst.1]
      rfl
  | cons c cs ih =>
    intro i n s m hi hn hm hk hst hw hsl
    obtain ⟨n, rfl⟩ : ∃ n', n = n' + 1 := ⟨n - 1, by simp at hn; omega⟩
    simp only [enc, List.length_append, List.length_cons] at hi hn
    have r7 : m q 7 = .ref cd := by rw [hm _ h1]; exact q7
    have r43 : m q 43 = .ref pl := by rw [hm _ h1]; exact q43
    obtain ⟨⟨w1, w2, w3⟩, w4, w5, w6⟩ := hw
    have hk' : ∀ (j : Nat) (x : Int), (enc cs)[j]? = some x → m0 cd (i + (encC c).length + j) = .int (zI x) := fun j x h => by
      have := hk ((encC c).length + j) x (by rw [enc, List.getElem?_append_right (by omega)]; simpa using h)
      rw [show i + ((encC c).length + j) = i + (encC c).length + j by omega] at this; exact this
    have step : ∀ (s' : List Int32) (k : Nat) (v : Int32), stkR (mm_up m pl k (.int v)) pl s' → wfc cs s'.length → s'.length ≤ 100 → ∃ w m', X12_reckons_L6 e q r i3 i4 i5 n (zI s'.length) (zI ((i + (encC c).length : Nat) : Int)) (mm_up m pl k (.int v)) = some (w, m') ∧ evS sv cs s' = [w] ∧ ∀ b, b ≠ pl → m' b = m0 b := by
      intro s' k v hst' hw' hl'
      exact ih (i + (encC c).length) n s' (mm_up m pl k (.int v)) (by omega) (by omega) (fun b hb => by rw [up_row _ _ _ hb, hm b hb]) hk' hst' hw' hl'
    have at0 : ∀ x : Int, (encC c)[0]? = some x → m cd i = .int (zI x) := fun x h => by
      rw [hm _ h2]; exact hk 0 x (by rw [enc, List.getElem?_append_left (by have := (List.getElem?_eq_some_iff.mp h).1; omega)]; exact h)
    have at1 : ∀ x : Int, (encC c)[1]? = some x → m cd (i + 1) = .int (zI x) := fun x h => by
      rw [hm _ h2]; exact hk 1 x (by rw [enc, List.getElem?_append_left (by have := (List.getElem?_eq_some_iff.mp h).1; omega)]; exact h)
    unfold X12_reckons_L6
    simp only [LT, ZA, rd_gr hq r7, rd_gr hq r43, Option.bind_some, X12_reckons_b157, X12_reckons_b120, X12_reckons_b79, X12_reckons_b40]
    unfold evS
    by_cases hc6 : -6 ≤ c
    · obtain ⟨w7, w8⟩ := w4 hc6
      rw [if_pos hc6]
      by_cases hc7 : 0 ≤ c
      · have hE : encC c = [1, c] := by unfold encC; rw [if_pos hc7]
        rw [hE] at at0 at1 hi step
        simp only [List.length_cons, List.length_nil] at hi step
        rw [rd_ai hcd (i := i) rfl (by omega) (by omega) (at0 1 rfl), if_pos hc7]
        simp only [Option.bind_some]
        rw [iqn (by omega)]
        simp only [if_true, not_true_eq_false, if_false]
        rw [rd_ai hcd (i := i + 1) (by omega) (by omega) (by omega) (at1 c rfl)]
        simp only [Option.bind_some]
        rw [wr_si hpl (i := s.length) rfl (by omega) (by omega)]
        simp only [Option.bind_some]
        exact step (zI c :: s) s.length (zI c) ⟨up_at _ _ _ _, hst.up (by omega)⟩ w8 (by simp; omega)
      · have hE : encC c = [2, -1 - c] := by unfold encC; rw [if_neg hc7, if_pos hc6]
        rw [hE] at at0 at1 hi step
        simp only [List.length_cons, List.length_nil] at hi step
        rw [rd_ai hcd (i := i) rfl (by omega) (by omega) (at0 2 rfl), if_neg hc7]
        simp only [Option.bind_some]
        rw [iqn (by omega), iqn (by omega)]
        simp only [if_true, not_true_eq_false, if_false]
        rw [inp (by omega), rd_ai hcd (i := i + 1) (by omega) (by omega) (by omega) (at1 _ rfl)]
        simp only [Option.bind_some]
        rw [show (-1 - c : Int) = (((-1 - c).toNat : Nat) : Int) by omega, hv m hm _ (by omega)]
        simp only [Option.bind_some]
        rw [wr_si hpl (i := s.length) rfl (by omega) (by omega)]
        simp only [Option.bind_some]
        have hs := step (sv (-1 - c).toNat :: s) s.length _ ⟨up_at _ _ _ _, hst.up (by omega)⟩ w8 (by simp; omega)
        exact hs
    · rw [if_neg hc6]
      by_cases hc13 : c = -13
      · obtain ⟨w7, w8⟩ := w5 hc13
        have hE : encC c = [3] := by unfold encC; rw [if_neg (by omega), if_neg hc6, if_pos hc13]
        rw [hE] at at0 hi step
        simp only [List.length_cons, List.length_nil] at hi step
        rw [rd_ai hcd (i := i) rfl (by omega) (by omega) (at0 3 rfl), if_pos hc13]
        simp only [Option.bind_some]
        rw [iqn (by omega), iqn (by omega), inp (by omega)]
        simp only [if_true, not_true_eq_false, if_false]
        match s, hst, w7, w8, hsl with
        | x :: s, hst, w7, w8, hsl =>
          simp only [List.length_cons] at w7 w8 hsl ⊢
          rw [rd_ai hpl (i := s.length) (by omega) (by omega) (by omega) hst.1]
          simp only [Option.bind_some]
          rw [wr_si hpl (i := s.length) (by omega) (by omega) (by omega), wr_si hpl (i := s.length) (by omega) (by omega) (by omega)]
          simp only [Option.bind_some]
          by_cases hx : x = zI 0
          · rw [if_neg (by simp [hx]), if_pos hx]
            exact step (zI 1 :: s) s.length _ ⟨up_at _ _ _ _, hst.2.up (by omega)⟩ w8 (by simp; omega)
          · rw [if_pos hx, if_neg hx]
            exact step (zI 0 :: s) s.length _ ⟨up_at _ _ _ _, hst.2.up (by omega)⟩ w8 (by simp; omega)
      · obtain ⟨w7, w8⟩ := w6 (by omega) hc13
        have hE : encC c = [mac c] := by unfold encC; rw [if_neg (by omega), if_neg hc6, if_neg hc13]
        have hmac : 4 ≤ mac c ∧ mac c ≤ 11 := by unfold mac; (repeat' split) <;> omega
        rw [hE] at at0 hi step
        simp only [List.length_cons, List.length_nil] at hi step
        rw [rd_ai hcd (i := i) rfl (by omega) (by omega) (at0 _ rfl), if_neg hc13]
        simp only [Option.bind_some]
        rw [iqn (by omega), iqn (by omega), inp (by omega), inp (by omega)]
        match s, hst, w7, w8, hsl with
        | b :: a :: s, hst, w7, w8, hsl =>
          simp only [List.length_cons] at w7 w8 hsl ⊢
          rw [rd_ai hpl (i := s.length) (by omega) (by omega) (by omega) hst.2.1]
          simp only [Option.bind_some]
          rw [rd_ai hpl (i := s.length + 1) (by omega) (by omega) (by omega) hst.1]
          simp only [Option.bind_some, X12_works_eq e c (by omega)]
          rw [wr_si hpl (i := s.length) (by omega) (by omega) (by omega)]
          simp only [Option.bind_some]
          rw [show (((s.length + 1 + 1 : Nat) : Int) + -1) = ((s.length + 1 : Nat) : Int) by omega]
          exact step (op2 c a b :: s) s.length _ ⟨up_at _ _ _ _, hst.2.2.up (by omega)⟩ w8 (by simp; omega)
end RULEM
