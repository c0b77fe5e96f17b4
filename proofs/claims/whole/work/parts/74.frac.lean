/-! FRACTIONS: lowest terms, class and model. -/
def lI (z : Int) : Int64 := Int64.ofInt z
theorem lI_of (x : Int64) : lI x.toInt = x := Int64.ofInt_toInt x
theorem lcmp0 (x : Int64) : (lg_cmp x 0 = 0) = (x = 0) := by
  unfold lg_cmp
  by_cases h : x = 0
  · subst h; simp
  · by_cases h2 : x > 0
    · rw [if_pos h2]; simp [h]
    · rw [if_neg h2, if_neg h]; simp [h]
def eu : Nat → Int64 → Int64 → Option Int64
  | 0, _, _ => none
  | n + 1, a, b => if b = 0 then some a else eu n b (a - a / b * b)
theorem rem_abs (a b : Int64) : (a - a / b * b).toInt.natAbs = a.toInt.natAbs % b.toInt.natAbs := by
  have ha := lI_of a
  have hb := lI_of b
  have h1 := Int64.le_toInt a
  have h2 := Int64.toInt_lt a
  have h3 := Int64.le_toInt b
  have h4 := Int64.toInt_lt b
  have hd : a / b = lI (a.toInt.tdiv b.toInt) := by
    unfold lI
    rw [Int64.ofInt_tdiv]
    · unfold lI at ha hb; rw [ha, hb]
    · show (-9223372036854775808 : Int) ≤ _; omega
    · show _ ≤ (9223372036854775807 : Int); omega
    · show (-9223372036854775808 : Int) ≤ _; omega
    · show _ ≤ (9223372036854775807 : Int); omega
  have hr : a - a / b * b = lI (a.toInt.tmod b.toInt) := by
    have hm := Int.tmod_add_tdiv_mul a.toInt b.toInt
    calc a - a / b * b = lI a.toInt - lI (a.toInt.tdiv b.toInt) * lI b.toInt := by rw [ha, hb, hd]
      _ = lI (a.toInt - a.toInt.tdiv b.toInt * b.toInt) := by unfold lI; rw [← Int64.ofInt_mul, ← Int64.ofInt_sub]
      _ = lI (a.toInt.tmod b.toInt) := by congr 1; omega
  have hn : (a.toInt.tmod b.toInt).natAbs = a.toInt.natAbs % b.toInt.natAbs := Int.natAbs_tmod _ _
  have hle := Nat.mod_le a.toInt.natAbs b.toInt.natAbs
  have hneg : a.toInt = -9223372036854775808 → (a.toInt.tmod b.toInt) ≤ 0 := fun h => by
    have h5 : (-a.toInt).tmod b.toInt = -(a.toInt.tmod b.toInt) := Int.neg_tmod _ _
    have h6 : 0 ≤ (-a.toInt).tmod b.toInt := Int.tmod_nonneg _ (by omega)
    omega
  rw [hr, ← hn]
  unfold lI
  rw [Int64.toInt_ofInt_of_le]
  · omega
  · by_cases h : a.toInt = -9223372036854775808
    · have := hneg h; omega
    · omega
theorem eu_some : ∀ (k n : Nat) (a b : Int64), b.toInt.natAbs < 2 ^ k → 2 * k + 1 ≤ n → ∃ g, eu n a b = some g := by
  intro k
  induction k with
  | zero =>
    intro n a b hb hn
    obtain ⟨n, rfl⟩ : ∃ n', n = n' + 1 := ⟨n - 1, by omega⟩
    have h0 : b.toInt = 0 := by omega
    have : b = 0 := by rw [← Int64.toInt_inj]; exact h0
    exact ⟨a, by rw [eu, if_pos this]⟩
  | succ k ih =>
    intro n a b hb hn
    obtain ⟨n, rfl⟩ : ∃ n', n = n' + 2 := ⟨n - 2, by omega⟩
    rw [eu]
    by_cases hb0 : b = 0
    · exact ⟨a, if_pos hb0⟩
    · rw [if_neg hb0, eu]
      by_cases hr0 : a - a / b * b = 0
      · exact ⟨b, if_pos hr0⟩
      · rw [if_neg hr0]
        refine ih n _ _ ?_ (by omega)
        rw [rem_abs]
        have hr := rem_abs a b
        have hbp : 0 < b.toInt.natAbs := by
          rcases Nat.eq_zero_or_pos b.toInt.natAbs with h | h
          · exfalso; apply hb0; rw [← Int64.toInt_inj]; show b.toInt = 0; omega
          · exact h
        have hrp : 0 < (a - a / b * b).toInt.natAbs := by
          rcases Nat.eq_zero_or_pos (a - a / b * b).toInt.natAbs with h | h
          · exfalso; apply hr0; rw [← Int64.toInt_inj]; show (a - a / b * b).toInt = 0; omega
          · exact h
        have hlt : (a - a / b * b).toInt.natAbs < b.toInt.natAbs := by rw [hr]; exact Nat.mod_lt _ hbp
        have h2 : 2 ^ (k + 1) = 2 * 2 ^ k := Nat.pow_succ'
        generalize b.toInt.natAbs = B at *
        generalize (a - a / b * b).toInt.natAbs = R at *
        have hm := Nat.mod_lt B hrp
        have hdm := Nat.mod_add_div B R
        by_cases hhalf : 2 * R ≤ B
        · omega
        · have : B / R = 1 := by
            have h1 : 1 ≤ B / R := (Nat.le_div_iff_mul_le hrp).mpr (by omega)
            have h3 : B / R < 2 := (Nat.div_lt_iff_lt_mul hrp).mpr (by omega)
            omega
          rw [this] at hdm
          omega
theorem eu_mono : ∀ (n n' : Nat) (a b g : Int64), eu n a b = some g → n ≤ n' → eu n' a b = some g
  | 0, _, _, _, _, h, _ => by cases h
  | n + 1, n', a, b, g, h, hn => by
    obtain ⟨n', rfl⟩ : ∃ k, n' = k + 1 := ⟨n' - 1, by omega⟩
    rw [eu] at h ⊢
    by_cases hb : b = 0
    · rw [if_pos hb] at h ⊢; exact h
    · rw [if_neg hb] at h ⊢; exact eu_mono n n' _ _ _ h (by omega)
theorem eu_ne : ∀ (n : Nat) (a b g : Int64), eu n a b = some g → a ≠ 0 → g ≠ 0
  | 0, _, _, _, h, _ => by cases h
  | n + 1, a, b, g, h, ha => by
    rw [eu] at h
    by_cases hb : b = 0
    · rw [if_pos hb] at h; cases h; exact ha
    · rw [if_neg hb] at h; exact eu_ne n _ _ _ h hb
def gcd64 (a b : Int64) : Int64 := (eu 200 a b).getD 0
theorem eu_gcd (a b : Int64) : eu 200 a b = some (gcd64 a b) := by
  obtain ⟨g, hg⟩ := eu_some 64 200 a b (by have := Int64.le_toInt b; have := Int64.toInt_lt b; omega) (by omega)
  unfold gcd64
  rw [hg]; rfl
def frc (up low : Int64) (u : Bool) : Int64 := (if u then up else low) / gcd64 low up
section FRAC
variable {e : mm_E} {m : mm_V}
theorem X12_common_loop : ∀ (n : Nat) (a b : Int64), X12_common_L6 e n a b m = (eu n a b).map (fun g => (g, m))
  | 0, _, _ => rfl
  | n + 1, a, b => by
    rw [X12_common_L6, eu]
    simp only [lcmp0]
    by_cases hb : b = 0
    · rw [if_pos hb, if_pos hb]; rfl
    · rw [if_neg hb, if_neg hb, if_neg hb]; exact X12_common_loop n _ _
theorem X12_portion_eq {up low : Int64} (hl : low ≠ 0) (u : Bool) (hN : 1000 < e.2.2) : X12_portion e up low (bZ (!u)) m = some (frc up low u, m) := by
  have hg := eu_gcd low up
  have hne := eu_ne _ _ _ _ hg hl
  have hc : X12_common e low up m = some (gcd64 low up, m) := by
    unfold X12_common
    rw [X12_common_loop, eu_mono _ _ _ _ _ hg (by omega)]; rfl
  unfold X12_portion X12_portion_b20 frc
  simp only [lcmp0]
  rw [if_pos hl, hc]
  cases u with
  | true =>
    rw [if_neg (show ¬ ¬ bZ (!true) = 0 by decide), Option.bind_some]
    show (if gcd64 low up = 0 then none else some (up / gcd64 low up, m)) = _
    rw [if_neg hne]; rfl
  | false =>
    rw [if_pos (show ¬ bZ (!false) = 0 by decide), Option.bind_some]
    show (if gcd64 low up = 0 then none else some (low / gcd64 low up, m)) = _
    rw [if_neg hne]; rfl
theorem X12_portion_0 {up : Int64} (i : Int32) : X12_portion e up 0 i m = some (i.toInt64, m) := by
  unfold X12_portion
  simp only [lcmp0]
  rw [if_neg (not_not_intro trivial)]
theorem X11_lowest_loop {up low : Int64} {i4 : Int32} : ∀ (j i nn : Nat) (a b g : Int64), i + j = 200 → j < nn → eu j a b = some g → X11_lowest_L9 e up low i4 nn a b (zI i) m = X11_lowest_b45 e up low i4 g m
  | 0, _, _, _, _, _, _, _, h => by cases h
  | j + 1, i, nn, a, b, g, hi, hj, h => by
    obtain ⟨nn, rfl⟩ : ∃ n', nn = n' + 1 := ⟨nn - 1, by omega⟩
    rw [eu] at h
    rw [X11_lowest_L9]
    simp only [lcmp0]
    rw [show (200 : Int32) = zI 200 from rfl, ien (by omega)]
    by_cases hb : b = 0
    · rw [if_pos hb] at h; cases h
      rw [if_pos hb]
    · rw [if_neg hb] at h
      rw [if_neg hb, if_neg hb, show (zI (i : Int) + 1 : Int32) = zI ((i + 1 : Nat) : Int) from zI_add i 1]
      exact X11_lowest_loop j (i + 1) nn b _ g (by omega) (by omega) h
theorem X11_lowest_eq {up low : Int64} (hl : low ≠ 0) (u : Bool) (hN : 1000 < e.2.2) : X11_lowest e up low (bZ u) m = some (frc up low u, m) := by
  have hg := eu_gcd low up
  have hne := eu_ne _ _ _ _ hg hl
  unfold X11_lowest
  rw [show (0 : Int32) = zI ((0 : Nat) : Int) from rfl, X11_lowest_loop 200 0 e.2.2 _ _ _ (by omega) (by omega) hg]
  unfold X11_lowest_b45 X11_lowest_b55 X11_lowest_b74 frc
  simp only [lcmp0]
  cases u with
  | true =>
    rw [if_neg (show ¬ bZ true = 0 by decide), if_pos hne, if_neg hne]; rfl
  | false =>
    rw [if_pos (show bZ false = 0 by decide), if_pos hne, if_neg hne]; rfl
end FRAC
/-! TWO LEFT: 56 cases -/
theorem and_1 : ∀ k : Fin 14, (zI (k.val : Int) &&& (1 : Int32) = 1) ↔ (k.val % 2 = 1) := by decide
def twC : Nat → Nat → Int64 → Int64 → Int64 × Int64
  | 0, _, u, l => (u, l)
  | j + 1, i, u, l => twC j (i + 2) (l + (zI i).toInt64 * u) (l * (zI (i + 2 : Nat)).toInt64)
def twM : Nat → Nat → Int64 → Int64 → Int64 × Int64
  | 0, _, u, l => (u, l)
  | j + 1, i, u, l => twM j (i + 2) (frc ((zI i).toInt64 * u + l) (l * (zI (i + 2 : Nat)).toInt64) true) (frc ((zI i).toInt64 * u + l) (l * (zI (i + 2 : Nat)).toInt64) false)
def tw0 (k : Nat) : Int64 × Int64 := if k % 2 = 1 then (1, 3) else (0, 1)
def twc (k : Nat) : Int64 × Int64 := twC (k / 2) (k % 2 + 2) (tw0 k).1 (tw0 k).2
def twm (k : Nat) : Int64 × Int64 := twM (k / 2) (k % 2 + 2) (tw0 k).1 (tw0 k).2
def okM : Nat → Nat → Int64 → Int64 → Bool
  | 0, _, _, l => l != 0
  | j + 1, i, u, l => (l * (zI (i + 2 : Nat)).toInt64 != 0) && okM j (i + 2) (frc ((zI i).toInt64 * u + l) (l * (zI (i + 2 : Nat)).toInt64) true) (frc ((zI i).toInt64 * u + l) (l * (zI (i + 2 : Nat)).toInt64) false)
theorem two_all : ∀ k, k < 14 → (twc k).2 ≠ 0 ∧ okM (k / 2) (k % 2 + 2) (tw0 k).1 (tw0 k).2 = true ∧ (twm k).2 ≠ 0 ∧ (∀ u, frc (twc k).1 (twc k).2 u = frc (twm k).1 (twm k).2 u) ∧ frc (twc k).1 (twc k).2 false ≠ 0 ∧ ∀ u, frc (frc (twc k).1 (twc k).2 false - frc (twc k).1 (twc k).2 true) (frc (twc k).1 (twc k).2 false) u = frc ((twm k).2 - (twm k).1) (twm k).2 u := by decide +kernel
section TWO
variable {e : mm_E} {m : mm_V}
theorem X11_twoWithout_loop {i1 : Int32} {k : Nat} (hk : k < 14) : ∀ (j i nn : Nat) (u l : Int64), i + 2 * j = k + 2 ∨ i + 2 * j = k + 1 → j < nn → X11_twoWithout_L47 e (zI k) i1 nn u l (zI i) m = (X11_lowest e (twC j i u l).1 (twC j i u l).2 i1 m).bind fun r1 => some (r1.1, r1.2) := by
  intro j
  induction j with
  | zero =>
    intro i nn u l hi hj
    obtain ⟨nn, rfl⟩ : ∃ n', nn = n' + 1 := ⟨nn - 1, by omega⟩
    unfold X11_twoWithout_L47
    rw [ilp (by omega)]
    rfl
  | succ j ih =>
    intro i nn u l hi hj
    obtain ⟨nn, rfl⟩ : ∃ n', nn = n' + 1 := ⟨nn - 1, by omega⟩
    unfold X11_twoWithout_L47
    rw [iln (by omega), show (zI (i : Int) + 2 : Int32) = zI ((i + 2 : Nat) : Int) from zI_add i 2]
    exact ih (i + 2) nn _ _ (by omega) (by omega)
theorem X11_twoWithout_eq {k : Nat} (hk : k < 14) (u : Bool) (hN : 1000 < e.2.2) : X11_twoWithout e (zI k) (bZ u) m = some (frc (twc k).1 (twc k).2 u, m) := by
  have hne := (two_all k hk).1
  have hand : (zI k &&& (1 : Int32) = 1) = (k % 2 = 1) := propext (and_1 ⟨k, hk⟩)
  have fin : ∀ i u0 l0, i = k % 2 + 2 → (u0, l0) = tw0 k → X11_twoWithout_L47 e (zI k) (bZ u) e.2.2 u0 l0 (zI i) m = some (frc (twc k).1 (twc k).2 u, m) := by
    intro i u0 l0 hi h0
    rw [X11_twoWithout_loop hk (k / 2) i e.2.2 u0 l0 (by omega) (by omega)]
    have e1 : u0 = (tw0 k).1 := by rw [← h0]
    have e2 : l0 = (tw0 k).2 := by rw [← h0]
    rw [e1, e2, hi]
    show (X11_lowest e (twc k).1 (twc k).2 (bZ u) m).bind _ = _
    rw [X11_lowest_eq hne u hN]; rfl
  unfold X11_twoWithout X11_twoWithout_b12 X11_twoWithout_b22 X11_twoWithout_b34 X11_twoWithout_b45
  simp only [hand]
  by_cases hodd : k % 2 = 1
  · rw [if_neg (not_not_intro hodd), if_neg (by decide), if_neg (by decide), if_neg (by decide)]
    exact fin 3 1 3 (by omega) (by unfold tw0; rw [if_pos hodd])
  · rw [if_pos hodd]
    simp only [if_true]
    exact fin 2 0 1 (by omega) (by unfold tw0; rw [if_neg hodd])
theorem X11_twoWithQueen_eq {k : Nat} (hk : k < 13) (u : Bool) (hN : 1000 < e.2.2) : X11_twoWithQueen e (zI (k + 1 : Nat)) (bZ u) m = some (frc ((twm k).2 - (twm k).1) (twm k).2 u, m) := by
  obtain ⟨h1, h2, h3, h4, h5, h6⟩ := two_all k (by omega)
  unfold X11_twoWithQueen
  have a := X11_twoWithout_eq (e := e) (m := m) (k := k) (by omega) false hN
  have b := X11_twoWithout_eq (e := e) (m := m) (k := k) (by omega) true hN
  rw [show (zI ((k + 1 : Nat) : Int) - 1 : Int32) = zI (k : Int) by rw [show (1 : Int32) = zI 1 from rfl, zI_sub]; congr 1; omega]
  have a' : X11_twoWithout e (zI k) 0 m = _ := a
  have b' : X11_twoWithout e (zI k) 1 m = _ := b
  rw [a', Option.bind_some, b', Option.bind_some, X11_lowest_eq h5 u hN, Option.bind_some, h6]
theorem X12_two_loop {k : Nat} (hk : k < 14) (i2 : Int32) {i3 : Int32} : ∀ (j i nn : Nat) (u l : Int64), i + 2 * j = k + 2 ∨ i + 2 * j = k + 1 → j < nn → okM j i u l = true → 1000 < e.2.2 → X12_two_L81 e i2 i3 (zI k) nn u l (zI i) m = if i2 = 0 then (X12_two_b149 e i3 (twM j i u l).2 (twM j i u l).1 m) else (X12_two_b149 e i3 (twM j i u l).2 ((twM j i u l).2 - (twM j i u l).1) m) := by
  intro j
  induction j with
  | zero =>
    intro i nn u l hi hj hok hN
    obtain ⟨nn, rfl⟩ : ∃ n', nn = n' + 1 := ⟨nn - 1, by omega⟩
    unfold X12_two_L81
    rw [ilp (by omega)]
    rfl
  | succ j ih =>
    intro i nn u l hi hj hok hN
    obtain ⟨nn, rfl⟩ : ∃ n', nn = n' + 1 := ⟨nn - 1, by omega⟩
    unfold okM at hok
    rw [Bool.and_eq_true] at hok
    have hl : l * (zI (i + 2 : Nat)).toInt64 ≠ 0 := by simpa using hok.1
    unfold X12_two_L81
    rw [iln (by omega), show (zI (i : Int) + 2 : Int32) = zI ((i + 2 : Nat) : Int) from zI_add i 2]
    have a := X12_portion_eq (e := e) (m := m) (up := (zI i).toInt64 * u + l) hl true hN
    have b := X12_portion_eq (e := e) (m := m) (up := (zI i).toInt64 * u + l) hl false hN
    have a' : X12_portion e ((zI i).toInt64 * u + l) (l * (zI (i + 2 : Nat)).toInt64) 0 m = _ := a
    have b' : X12_portion e ((zI i).toInt64 * u + l) (l * (zI (i + 2 : Nat)).toInt64) 1 m = _ := b
    rw [a', Option.bind_some, b', Option.bind_some]
    exact ih (i + 2) nn _ _ (by omega) (by omega) hok.2 hN
theorem X12_two_42 {k : Nat} (hk : k < 14) (qn u : Bool) (hN : 1000 < e.2.2) : X12_two_b42 e (bZ qn) (bZ (!u)) (zI k) m = some (frc (if qn then (twm k).2 - (twm k).1 else (twm k).1) (twm k).2 u, m) := by
  obtain ⟨h1, h2, h3, h4, h5, h6⟩ := two_all k hk
  have fin : ∀ u0 l0, (u0, l0) = tw0 k → X12_two_b73 e (bZ qn) (bZ (!u)) (zI k) u0 l0 m = some (frc (if qn then (twm k).2 - (twm k).1 else (twm k).1) (twm k).2 u, m) := by
    intro u0 l0 h0
    have e1 : u0 = (tw0 k).1 := by rw [← h0]
    have e2 : l0 = (tw0 k).2 := by rw [← h0]
    unfold X12_two_b73
    simp only [LT]
    rw [show (zI 2 : Int32) = zI ((2 : Nat) : Int) from rfl, zI_rem (by omega) (by omega), zI_add, e1, e2]
    rw [show ((k % 2 : Nat) : Int) + ((2 : Nat) : Int) = ((k % 2 + 2 : Nat) : Int) by omega, X12_two_loop hk (bZ qn) (k / 2) (k % 2 + 2) e.2.2 _ _ (by omega) (by omega) h2 hN]
    show (if bZ qn = 0 then X12_two_b149 e (bZ (!u)) (twm k).2 (twm k).1 m else X12_two_b149 e (bZ (!u)) (twm k).2 ((twm k).2 - (twm k).1) m) = _
    unfold X12_two_b149
    cases qn with
    | true => rw [if_neg (show ¬ bZ true = 0 by decide), X12_portion_eq h3 u hN]; rfl
    | false => rw [if_pos (show bZ false = 0 by decide), X12_portion_eq h3 u hN]; rfl
  unfold X12_two_b42
  simp only [LT]
  rw [show (zI 2 : Int32) = zI ((2 : Nat) : Int) from rfl, zI_rem (by omega) (by omega), iep (by omega)]
  by_cases hodd : k % 2 = 1
  · rw [inn (by omega)]
    exact fin 1 3 (by unfold tw0; rw [if_pos hodd])
  · rw [inp (by omega)]
    exact fin 0 1 (by unfold tw0; rw [if_neg hodd])
end TWO
