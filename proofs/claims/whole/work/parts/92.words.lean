/-! WORDS: which of the seventeen a token is. -/
def wsb : List (List Nat) := [[112, 101, 111, 112, 108, 101], [112, 97, 105, 114, 115], [115, 101, 101, 100], [102, 97, 110], [100, 114, 97, 119, 115], [104, 111, 108, 100, 115], [104, 97, 98, 105, 116, 115], [113, 117, 101, 101, 110], [110, 111, 116], [115, 105, 122, 101], [111, 119, 110], [116, 117, 114, 110], [109, 101], [108, 97, 115, 116], [99, 97, 114, 100], [111, 114], [97, 110, 100]]
def wch (i k : Nat) : Nat := (wsb.getD i []).getD k 0
def wln (i : Nat) : Nat := mm_sl.getD i 0
theorem wln_le : ∀ i, i < 17 → 1 ≤ wln i ∧ wln i ≤ 6 := by decide
theorem wch_lt : ∀ i, i < 17 → ∀ k, k < wln i → isLt (wch i k) = true ∧ wch i k < 256 := by decide
theorem wch_sb : ∀ i, i < 17 → ∀ k, k < wln i → (mm_sb.getD i []).getD k 0 = zI (wch i k) := by decide
def isW (T : Nat → Nat) (t : TK) (i : Nat) : Bool := decide (t.1 = 1 ∧ t.2.2 - t.2.1 = wln i ∧ ∀ k, k < wln i → T (t.2.1 + k) = wch i k)
def tkV (T : Nat → Nat) (n : Nat) (t : TK) : Prop := t.2.1 ≤ t.2.2 ∧ t.2.2 ≤ n ∧ t.1 ≤ 4 ∧ (t.1 = 0 → t.2.1 = n) ∧ (t.1 ≠ 0 → t.2.1 < t.2.2) ∧ (t.1 = 1 → ∀ k, t.2.1 ≤ k → k < t.2.2 → isLt (T k) = true) ∧ (t.1 = 2 → ∀ k, t.2.1 ≤ k → k < t.2.2 → isDg (T k) = true) ∧ (t.1 = 3 → isSg (T t.2.1) = true)
theorem run_all (Q : Nat → Bool) : ∀ j i k, i ≤ k → k < run Q j i → Q k = true
  | 0, i, k, h1, h2 => by rw [run] at h2; omega
  | j + 1, i, k, h1, h2 => by
    rw [run] at h2
    cases hq : Q i with
    | false => rw [hq] at h2; simp at h2; omega
    | true =>
      rw [hq] at h2
      simp only [if_true] at h2
      by_cases hk : k = i
      · rw [hk]; exact hq
      · exact run_all Q j (i + 1) k (by omega) h2
theorem run_gt (Q : Nat → Bool) (j i : Nat) (h : Q i = true) : i < run Q (j + 1) i := by
  rw [run, h]
  have := run_le Q j (i + 1)
  simp only [if_true]; omega
theorem tok_V (T : Nat → Nat) {n b : Nat} (hb : b ≤ n) : tkV T n (tok T n b) ∧ b ≤ (tok T n b).2.1 := by
  have hsb := run_le (fun i => isSp (T i)) (n - b) b
  change b ≤ skp T n b ∧ skp T n b ≤ b + (n - b) at hsb
  unfold tok
  simp only
  generalize skp T n b = s at hsb
  by_cases hns : n ≤ s
  · rw [if_pos hns]
    exact ⟨⟨Nat.le_refl _, by simp only; omega, by simp, fun _ => by simp only; omega, fun h => absurd rfl h, fun h => absurd h (by simp), fun h => absurd h (by simp), fun h => absurd h (by simp)⟩, by simp only; omega⟩
  · rw [if_neg hns]
    obtain ⟨j, hj⟩ : ∃ j, n - s = j + 1 := ⟨n - s - 1, by omega⟩
    cases hl : isLt (T s) with
    | true =>
      simp only [if_true]
      have h1 := run_le (fun i => isLt (T i)) (n - s) s
      have h2 := run_gt (fun i => isLt (T i)) j s hl
      rw [← hj] at h2
      refine ⟨⟨h1.1, ?_, by simp, fun h => absurd h (by simp), fun _ => h2, fun _ k x1 x2 => run_all _ _ _ k x1 x2, fun h => absurd h (by simp), fun h => absurd h (by simp)⟩, hsb.1⟩
      simp only; omega
    | false =>
      simp only [Bool.false_eq_true, if_false]
      cases hd : isDg (T s) with
      | true =>
        simp only [if_true]
        have h1 := run_le (fun i => isDg (T i)) (n - s) s
        have h2 := run_gt (fun i => isDg (T i)) j s hd
        rw [← hj] at h2
        refine ⟨⟨h1.1, ?_, by simp, fun h => absurd h (by simp), fun _ => h2, fun h => absurd h (by simp), fun _ k x1 x2 => run_all _ _ _ k x1 x2, fun h => absurd h (by simp)⟩, hsb.1⟩
        simp only; omega
      | false =>
        simp only [Bool.false_eq_true, if_false]
        cases hg : isSg (T s) with
        | true =>
          simp only [if_true]
          exact ⟨⟨by simp, by simp only; omega, by simp, fun h => absurd h (by simp), fun _ => by simp, fun h => absurd h (by simp), fun h => absurd h (by simp), fun _ => hg⟩, hsb.1⟩
        | false =>
          simp only [Bool.false_eq_true, if_false]
          exact ⟨⟨by simp, by simp only; omega, by simp, fun h => absurd h (by simp), fun _ => by simp, fun h => absurd h (by simp), fun h => absurd h (by simp), fun h => absurd h (by simp)⟩, hsb.1⟩
def strS (e : mm_E) (m : mm_V) : Prop := ∀ i, i < 17 → e.1 (e.2.1 (100 + i)) = some (30, wln i) ∧ ∀ k, k < wln i → m (e.2.1 (100 + i)) k = .int (zI (wch i k))
theorem isLt_iff {c : Nat} : isLt c = true ↔ 97 ≤ c ∧ c ≤ 122 := by unfold isLt; simp
theorem pkW_inj {T U : Nat → Nat} {s u : Nat} : ∀ a b, (∀ k, k < a → isLt (T (s + k)) = true) → (∀ k, k < b → isLt (U (u + k)) = true) → pkW T s a = pkW U u b → a = b ∧ ∀ k, k < a → T (s + k) = U (u + k)
  | 0, 0, _, _, _ => ⟨rfl, fun k h => absurd h (by omega)⟩
  | 0, b + 1, _, hU, h => by
    have := isLt_iff.mp (hU b (by omega))
    rw [pkW, pkW] at h; omega
  | a + 1, 0, hT, _, h => by
    have := isLt_iff.mp (hT a (by omega))
    rw [pkW, pkW] at h; omega
  | a + 1, b + 1, hT, hU, h => by
    have h1 := isLt_iff.mp (hT a (by omega))
    have h2 := isLt_iff.mp (hU b (by omega))
    rw [pkW, pkW] at h
    obtain ⟨h3, h4⟩ := pkW_inj a b (fun k hk => hT k (by omega)) (fun k hk => hU k (by omega)) (by omega)
    refine ⟨by omega, fun k hk => ?_⟩
    by_cases hka : k = a
    · rw [hka]; subst h3; omega
    · exact h4 k (by omega)
def mix (k : Nat) : Nat := [9, 10, 11, 12, 13, 14, 0, 1, 2, 3, 4, 5, 6, 7, 16, 15, 8].getD k 0
theorem mix_lt : ∀ k, k < 17 → mix k < 17 := by decide
theorem cmp_0 {x y : Int64} : lg_cmp x y = 0 ↔ x = y := by
  unfold lg_cmp
  by_cases h : x = y
  · subst h; simp
  · by_cases h2 : x > y <;> simp [h, h2]
section WORDS
variable {e : mm_E} {k x n q : Nat} {T : Nat → Nat} {t : TK}
theorem X9_isWord_loop {m : mm_V} {i s : Nat} (hk : e.1 k = some (9, 6)) (hx : e.1 x = some (20, 600)) (ht : txR m x n T) (h0 : m k 0 = .ref x) (h2 : m k 2 = .int (zI s)) (hs : s + wln i ≤ n) (hS : strS e m) (hi : i < 17) : ∀ d j nn, j + d = wln i → d < nn → X9_isWord_L29 e k (e.2.1 (100 + i)) nn (zI j) m = some (bZ (decide (∀ y, y < wln i → j ≤ y → T (s + y) = wch i y)), m) := by
  have h6 := ht.1
  have hw := wln_le i hi
  have hl : J_length e (e.2.1 (100 + i)) m = some (zI (wln i), m) := by
    unfold J_length
    rw [(hS i hi).1]
    simp only [if_true, zI_nI]
  intro d
  induction d with
  | zero =>
    intro j nn hj hn
    obtain ⟨nn, rfl⟩ : ∃ n', nn = n' + 1 := ⟨nn - 1, by omega⟩
    rw [X9_isWord_L29, hl, Option.bind_some]
    simp only
    rw [iep (by omega), decide_eq_true (fun y y1 y2 => by omega)]; rfl
  | succ d ih =>
    intro j nn hj hn
    obtain ⟨nn, rfl⟩ : ∃ n', nn = n' + 1 := ⟨nn - 1, by omega⟩
    have hc := ht.2.1 (s + j) (by omega)
    have hc2 := (wch_lt i hi j (by omega)).2
    have hch : J_charAt e (e.2.1 (100 + i)) (zI j) m = some (zI (wch i j), m) := by
      unfold J_charAt
      rw [rd_ai (hS i hi).1 rfl (show j < wln i by omega) (by omega) ((hS i hi).2 j (by omega))]
    rw [X9_isWord_L29, hl, Option.bind_some]
    simp only
    rw [ien (by omega), rd_gi hk h2, Option.bind_some, zI_add, show (0 : Int32) = zI 0 from rfl, iln (by omega), rd_gr hk h0, Option.bind_some, rd_ln hx (by omega) (by omega), Option.bind_some, ien (by omega), Option.bind_some, rd_ai hx (i := s + j) (by omega) (by omega) (by omega) (ht.2.2 (s + j) (by omega)), Option.bind_some, hch, Option.bind_some]
    simp only
    by_cases hq : T (s + j) = wch i j
    · rw [iqp (by omega), show (zI (j : Int) + 1 : Int32) = zI ((j + 1 : Nat) : Int) from zI_add _ 1, ih (j + 1) nn (by omega) (by omega)]
      congr 3
      apply decide_eq_decide.mpr
      constructor
      · intro h y y1 y2
        by_cases hy : y = j
        · rw [hy]; exact hq
        · exact h y y1 (by omega)
      · exact fun h y y1 y2 => h y y1 (by omega)
    · rw [iqn (by omega), decide_eq_false (fun h => hq (h j (by omega) (by omega)))]; rfl
theorem X9_isWord_eq {m : mm_V} (i : Nat) (hk : e.1 k = some (9, 6)) (hx : e.1 x = some (20, 600)) (ht : txR m x n T) (hr : tkR m k x n T t) (hv : tkV T n t) (hS : strS e m) (hi : i < 17) (hN : 1000 < e.2.2) : X9_isWord e k (e.2.1 (100 + i)) m = some (bZ (isW T t i), m) := by
  have h6 := ht.1
  have hw := wln_le i hi
  obtain ⟨r0, r1, r2, r3, r4, -⟩ := hr
  obtain ⟨v1, v2, v3, v4, v5, v6, v7, v8⟩ := hv
  have hl : J_length e (e.2.1 (100 + i)) m = some (zI (wln i), m) := by
    unfold J_length
    rw [(hS i hi).1]
    simp only [if_true, zI_nI]
  have hkc : (tkC T t = 97) = (t.1 = 1) := by
    apply propext
    unfold tkC
    constructor
    · intro h
      by_cases h0 : t.1 = 0
      · rw [if_pos h0] at h; omega
      rw [if_neg h0] at h
      by_cases h1 : t.1 = 1
      · exact h1
      rw [if_neg h1] at h
      by_cases h2 : t.1 = 2
      · rw [if_pos h2] at h; omega
      rw [if_neg h2] at h
      by_cases h3 : t.1 = 3
      · rw [if_pos h3] at h
        have := v8 h3
        unfold isSg at this
        simp at this
        omega
      · rw [if_neg h3] at h; omega
    · intro h
      rw [if_neg (by omega), if_pos h]
  have hkb : -1 ≤ tkC T t ∧ tkC T t < 300 := by
    unfold tkC
    have : t.1 = 3 → T t.2.1 < 256 := fun h => ht.2.1 _ (by have := v5 (by omega); omega)
    (repeat' split) <;> omega
  unfold X9_isWord
  rw [rd_gi hk r4, Option.bind_some, show (97 : Int32) = zI 97 from rfl]
  by_cases h1 : t.1 = 1
  · rw [inn (by rw [← hkc] at h1; omega), rd_gi hk r3, Option.bind_some, rd_gi hk r2, Option.bind_some, hl, Option.bind_some]
    simp only
    rw [zI_sub]
    by_cases h2 : t.2.2 - t.2.1 = wln i
    · rw [iqp (by omega), show (0 : Int32) = zI (0 : Nat) from rfl, X9_isWord_loop hk hx ht r0 r2 (by omega) hS hi (wln i) 0 e.2.2 (by omega) (by omega)]
      congr 3
      unfold isW
      apply decide_eq_decide.mpr
      exact ⟨fun h => ⟨h1, h2, fun y hy => h y hy (by omega)⟩, fun h y hy _ => h.2.2 y hy⟩
    · rw [iqn (by omega), show isW T t i = false from decide_eq_false (fun h => h2 h.2.1)]; rfl
  · rw [inp (by rw [← hkc] at h1; omega), show isW T t i = false from decide_eq_false (fun h => h1 h.1)]; rfl
set_option maxRecDepth 100000 in
theorem X12_letters_eq (m : mm_V) : ∀ y : Nat, y < 17 → X12_letters e (zI y) m = some (lI (pkW (wch (mix y)) 0 (wln (mix y))), m) := by
  intro y hy
  have h : y = 0 ∨ y = 1 ∨ y = 2 ∨ y = 3 ∨ y = 4 ∨ y = 5 ∨ y = 6 ∨ y = 7 ∨ y = 8 ∨ y = 9 ∨ y = 10 ∨ y = 11 ∨ y = 12 ∨ y = 13 ∨ y = 14 ∨ y = 15 ∨ y = 16 := by omega
  rcases h with rfl | rfl | rfl | rfl | rfl | rfl | rfl | rfl | rfl | rfl | rfl | rfl | rfl | rfl | rfl | rfl | rfl <;> rfl
theorem X12_knownWord_eq {m : mm_V} (hT : modT e.1 q) (hr : tkM m q n T t) (hv : tkV T n t) (hn : n ≤ 600) (hN : 1000 < e.2.2) : ∃ z : Int, X12_knownWord e q m = some (zI z, m) ∧ -1 ≤ z ∧ z < 17 ∧ ∀ y : Nat, y < 17 → (isW T t (mix y) = true ↔ z = y) := by
  obtain ⟨r13, r14, r15, r16, r17, -, -, r20⟩ := hr
  obtain ⟨v1, v2, v3, v4, v5, v6, v7, v8⟩ := hv
  have hme := hT.me
  unfold X12_knownWord
  rw [rd_gi hme r15, Option.bind_some, show (1 : Int32) = zI 1 from rfl]
  by_cases h1 : t.1 = 1
  · rw [inn (by omega), rd_gi hme r17, Option.bind_some, show (6 : Int32) = zI 6 from rfl]
    by_cases h2 : t.2.2 - t.2.1 ≤ 6
    · rw [iep (by omega)]
      have r20' := r20 h1
      rw [show min (t.2.2 - t.2.1) 6 = t.2.2 - t.2.1 by omega] at r20'
      have hp := pkW_lt (T := T) (s := t.2.1) (t.2.2 - t.2.1) h2 (fun k hk => v6 h1 (t.2.1 + k) (by omega) (by omega))
      have hp2 : pkW T t.2.1 (t.2.2 - t.2.1) < 2 ^ 30 := Nat.lt_of_lt_of_le hp (Nat.pow_le_pow_right (by omega) (by omega))
      have hw : ∀ y, y < 17 → (isW T t (mix y) = true ↔ lI (pkW (wch (mix y)) 0 (wln (mix y))) = lI (pkW T t.2.1 (t.2.2 - t.2.1))) := by
        intro y hy
        have hl := wln_le (mix y) (mix_lt y hy)
        have hq := pkW_lt (T := wch (mix y)) (s := 0) (wln (mix y)) hl.2 (fun k hk => by rw [Nat.zero_add]; exact (wch_lt _ (mix_lt y hy) k hk).1)
        have hq2 : pkW (wch (mix y)) 0 (wln (mix y)) < 2 ^ 30 := Nat.lt_of_lt_of_le hq (Nat.pow_le_pow_right (by omega) (by omega))
        unfold isW
        rw [decide_eq_true_iff]
        constructor
        · rintro ⟨-, a2, a3⟩
          rw [a2]
          congr 2
          have : ∀ c, c ≤ wln (mix y) → pkW (wch (mix y)) 0 c = pkW T t.2.1 c := by
            intro c
            induction c with
            | zero => intro _; rfl
            | succ c ih => intro hc; rw [pkW, pkW, ih (by omega), Nat.zero_add, a3 c (by omega)]
          exact this _ (Nat.le_refl _)
        · intro h
          have h' : ((pkW (wch (mix y)) 0 (wln (mix y)) : Nat) : Int) = (pkW T t.2.1 (t.2.2 - t.2.1) : Nat) := by
            have := congrArg Int64.toInt h
            unfold lI at this
            rwa [Int64.toInt_ofInt_of_le (by omega) (by omega), Int64.toInt_ofInt_of_le (by omega) (by omega)] at this
          obtain ⟨a1, a2⟩ := pkW_inj (wln (mix y)) (t.2.2 - t.2.1) (fun k hk => by rw [Nat.zero_add]; exact (wch_lt _ (mix_lt y hy) k hk).1) (fun k hk => v6 h1 (t.2.1 + k) (by omega) (by omega)) (by omega)
          exact ⟨h1, a1.symm, fun k hk => by have := a2 k hk; rw [Nat.zero_add] at this; exact this.symm⟩
      have loop : ∀ d j nn : Nat, j + d = 17 → d < nn → (∀ y, y < j → ¬ isW T t (mix y) = true) → ∃ z : Int, X12_knownWord_L21 e q nn (zI j) m = some (zI z, m) ∧ -1 ≤ z ∧ z < 17 ∧ ∀ y : Nat, y < 17 → (isW T t (mix y) = true ↔ z = y) := by
        intro d
        induction d with
        | zero =>
          intro j nn hj hnn hno
          obtain ⟨nn, rfl⟩ : ∃ n', nn = n' + 1 := ⟨nn - 1, by omega⟩
          refine ⟨-1, ?_, by omega, by omega, fun y hy => ⟨fun h => absurd h (hno y (by omega)), fun h => by omega⟩⟩
          rw [X12_knownWord_L21, show (17 : Int32) = zI 17 from rfl, iep (by omega)]; rfl
        | succ d ih =>
          intro j nn hj hnn hno
          obtain ⟨nn, rfl⟩ : ∃ n', nn = n' + 1 := ⟨nn - 1, by omega⟩
          rw [X12_knownWord_L21, show (17 : Int32) = zI 17 from rfl, ien (by omega), X12_letters_eq m j (by omega), Option.bind_some]
          simp only
          rw [rd_gl hme r20', Option.bind_some]
          by_cases hj : isW T t (mix j) = true
          · refine ⟨j, ?_, by omega, by omega, fun y hy => ⟨fun h => ?_, fun h => by rw [show y = j by omega]; exact hj⟩⟩
            · rw [if_neg (fun h => h (cmp_0.mpr ((hw j (by omega)).mp hj)))]
            · have h3 := ((hw j (by omega)).mp hj).trans ((hw y hy).mp h).symm
              have : ∀ a, a < 17 → ∀ b, b < 17 → pkW (wch (mix a)) 0 (wln (mix a)) = pkW (wch (mix b)) 0 (wln (mix b)) → a = b := by decide
              have hb : ∀ a, a < 17 → pkW (wch (mix a)) 0 (wln (mix a)) < 2000000000 := by decide
              have h4 := congrArg Int64.toInt h3
              have hb1 := hb j (by omega)
              have hb2 := hb y hy
              unfold lI at h4
              rw [Int64.toInt_ofInt_of_le (by omega) (by omega), Int64.toInt_ofInt_of_le (by omega) (by omega)] at h4
              have := this j (by omega) y hy (by omega)
              omega
          · rw [if_pos (fun h => hj ((hw j (by omega)).mpr (cmp_0.mp h))), show (zI (j : Int) + 1 : Int32) = zI ((j + 1 : Nat) : Int) from zI_add _ 1]
            exact ih (j + 1) nn (by omega) (by omega) (fun y hy => by
              by_cases hyj : y = j
              · rw [hyj]; exact hj
              · exact hno y (by omega))
      exact loop 17 0 e.2.2 (by omega) (by omega) (fun y hy => by omega)
    · rw [ien (by omega)]
      refine ⟨-1, rfl, by omega, by omega, fun y hy => ⟨fun h => ?_, fun h => by omega⟩⟩
      have := wln_le (mix y) (mix_lt y hy)
      have := of_decide_eq_true h
      omega
  · rw [inp (by omega)]
    refine ⟨-1, rfl, by omega, by omega, fun y hy => ⟨fun h => ?_, fun h => by omega⟩⟩
    exact absurd (of_decide_eq_true h).1 h1
end WORDS
