/-! RULES: rows of codes (a number from 0 on; -1 to -6 values; -13 not; -11, -12, -14 to -19 of two). -/
def op2 (c : Int) (a b : Int32) : Int32 := if c = -18 then a * b else if c = -17 then a - b else if c = -16 then a + b else if c = -15 then (if a = b then zI 1 else zI 0) else if c = -14 then (if a < b then zI 1 else zI 0) else if c = -12 then (if a = zI 0 then zI 0 else if b = zI 0 then zI 0 else zI 1) else if c = -11 then (if a = zI 0 then (if b = zI 0 then zI 0 else zI 1) else zI 1) else if b = zI 0 then zI 0 else a / b
def evS (sv : Nat → Int32) : List Int → List Int32 → List Int32
  | [], s => s
  | c :: cs, s => if -6 ≤ c then evS sv cs ((if 0 ≤ c then zI c else sv (-1 - c).toNat) :: s) else if c = -13 then (match s with
    | x :: s => evS sv cs ((if x = zI 0 then zI 1 else zI 0) :: s)
    | [] => evS sv cs []) else (match s with
    | b :: a :: s => evS sv cs (op2 c a b :: s)
    | s => evS sv cs s)
def wfc : List Int → Nat → Prop
  | [], h => h = 1
  | c :: cs, h => (-19 ≤ c ∧ c ≤ 9999 ∧ (c ≤ -11 ∨ -6 ≤ c)) ∧ (-6 ≤ c → h < 100 ∧ wfc cs (h + 1)) ∧ (c = -13 → 1 ≤ h ∧ wfc cs h) ∧ (c ≤ -11 → c ≠ -13 → 2 ≤ h ∧ wfc cs (h - 1))
def stkR (m : mm_V) (a : Nat) : List Int32 → Prop
  | [] => True
  | x :: s => m a s.length = .int x ∧ stkR m a s
theorem stkR.up {m : mm_V} {a k : Nat} {v : Value} : ∀ {s : List Int32}, stkR m a s → s.length ≤ k → stkR (mm_up m a k v) a s
  | [], _, _ => trivial
  | x :: s, h, hk => ⟨by rw [up_ne _ _ (Or.inr (by simp at hk; omega))]; exact h.1, stkR.up h.2 (by simp at hk; omega)⟩
theorem X10_done_eq (e : mm_E) (c : Int) (h : -19 ≤ c ∧ c ≤ -11) (a b : Int32) (m : mm_V) : X10_done e (zI c) a b m = some (op2 c a b, m) := by
  unfold X10_done op2
  simp only [LT, zI_neg, X10_done_b121, X10_done_b97, X10_done_b86, X10_done_b75, X10_done_b74, X10_done_b61, X10_done_b56]
  have hz : ∀ y : Int, -21 ≤ y ∧ y ≤ 0 → (zI c = zI y) = (c = y) := fun y hy => zI_eq (by omega) (by omega) (by omega) (by omega)
  simp only [hz (-18) (by omega), hz (-17) (by omega), hz (-16) (by omega), hz (-15) (by omega), hz (-14) (by omega), hz (-12) (by omega), hz (-11) (by omega)]
  by_cases h1 : c = -18
  · rw [if_pos h1, if_pos h1]
  rw [if_neg h1, if_neg h1]
  by_cases h1 : c = -17
  · rw [if_pos h1, if_pos h1]
  rw [if_neg h1, if_neg h1]
  by_cases h1 : c = -16
  · rw [if_pos h1, if_pos h1]
  rw [if_neg h1, if_neg h1]
  by_cases h1 : c = -15
  · rw [if_pos h1, if_pos h1]; by_cases h2 : a = b <;> simp [h2]
  rw [if_neg h1, if_neg h1]
  by_cases h1 : c = -14
  · rw [if_pos h1, if_pos h1]; by_cases h2 : a < b
    · rw [if_neg (by rw [Int32.not_le]; exact h2), if_pos h2]
    · rw [if_pos (by rw [← Int32.not_lt]; exact h2), if_neg h2]
  rw [if_neg h1, if_neg h1]
  by_cases h1 : c = -12
  · rw [if_pos h1, if_pos h1]; by_cases h2 : a = zI 0 <;> by_cases h3 : b = zI 0 <;> simp [h2, h3]
  rw [if_neg h1, if_neg h1]
  by_cases h1 : c = -11
  · rw [if_pos h1, if_pos h1]; by_cases h2 : a = zI 0 <;> by_cases h3 : b = zI 0 <;> simp [h2, h3]
  rw [if_neg h1, if_neg h1]
  by_cases h2 : b = zI 0 <;> simp [h2]
/-- the model's act of a code of two -/
def mac (c : Int) : Int := if c = -12 then 4 else if c = -11 then 5 else if c = -14 then 6 else if c = -15 then 7 else if c = -16 then 8 else if c = -17 then 9 else if c = -18 then 10 else 11
theorem X12_works_eq (e : mm_E) (c : Int) (h : -19 ≤ c ∧ c ≤ -11 ∧ c ≠ -13) (a b : Int32) (m : mm_V) : X12_works e (zI (mac c)) a b m = some (op2 c a b, m) := by
  unfold X12_works
  simp only [LT, X12_works_b117, X12_works_b93, X12_works_b82, X12_works_b71, X12_works_b66, X12_works_b57, X12_works_b56]
  have hm : 4 ≤ mac c ∧ mac c ≤ 11 := by unfold mac; (repeat' split) <;> omega
  have hz : ∀ y : Int, 0 ≤ y ∧ y ≤ 20 → (zI (mac c) = zI y) = (mac c = y) := fun y hy => zI_eq (by omega) (by omega) (by omega) (by omega)
  simp only [hz 4 (by omega), hz 5 (by omega), hz 6 (by omega), hz 7 (by omega), hz 8 (by omega), hz 9 (by omega), hz 10 (by omega)]
  have hc : c = -12 ∨ c = -11 ∨ c = -14 ∨ c = -15 ∨ c = -16 ∨ c = -17 ∨ c = -18 ∨ c = -19 := by omega
  rcases hc with rfl | rfl | rfl | rfl | rfl | rfl | rfl | rfl
  · by_cases h2 : a = zI 0 <;> by_cases h3 : b = zI 0 <;> simp [h2, h3, mac, op2]
  · by_cases h2 : a = zI 0 <;> by_cases h3 : b = zI 0 <;> simp [h2, h3, mac, op2]
  · simp only [mac, op2]
    by_cases h2 : a < b
    · have h3 : ¬ b ≤ a := by rw [Int32.not_le]; exact h2
      simp [h2, h3]
    · have h3 : b ≤ a := by rw [← Int32.not_lt]; exact h2
      simp [h2, h3]
  · by_cases h2 : a = b <;> simp [h2, mac, op2]
  · simp [mac, op2]
  · simp [mac, op2]
  · simp [mac, op2]
  · by_cases h2 : b = zI 0 <;> simp [h2, mac, op2]
section RULEC
variable {e : mm_E} {t sn : Nat} {sv : Nat → Int32}
theorem X10_seenAs_eq (hsn : e.1 sn = some (20, 6)) {m : mm_V} (hv : ∀ k, k < 6 → m sn k = .int (sv k)) {c : Int} (h1 : -6 ≤ c) (h2 : c < 0) : X10_seenAs e (zI c) sn m = some (sv (-1 - c).toNat, m) := by
  unfold X10_seenAs
  simp only [LT, ZA, rd_ln hsn (by decide) (by decide), Option.bind_some, X10_seenAs_b21]
  simp (disch := omega) only [ZC]
  rw [if_neg (by omega), if_neg (by omega), rd_ai hsn (i := (-1 - c).toNat) (by omega) (by omega) (by omega) (hv _ (by omega))]
  rfl
theorem X10_answer_loop (ht : e.1 t = some (10, 11)) (hc : e.1 (t + 3) = some (20, 600)) (hs : e.1 (t + 6) = some (20, 128)) (hsn : e.1 sn = some (20, 6)) (hne : sn ≠ t + 6) {E : Nat} (hE : E ≤ 600) : ∀ (cs : List Int) (i n : Nat) (s : List Int32) (m : mm_V), i + cs.length = E → cs.length < n → m t 2 = .ref (t + 3) → m t 5 = .ref (t + 6) → (∀ (k : Nat) (c : Int), cs[k]? = some c → m (t + 3) (i + k) = .int (zI c)) → (∀ k, k < 6 → m sn k = .int (sv k)) → stkR m (t + 6) s → wfc cs s.length → s.length ≤ 100 → ∃ v m', X10_answer_L49 e t sn (zI E) n (zI s.length) (zI i) m = some (v, m') ∧ evS sv cs s = [v] ∧ ∀ b, b ≠ t + 6 → m' b = m b := by
  intro cs
  induction cs with
  | nil =>
    intro i n s m hi hn q2 q5 hk hv hst hw hsl
    obtain ⟨n, rfl⟩ : ∃ n', n = n' + 1 := ⟨n - 1, by simp at hn; omega⟩
    simp only [List.length_nil] at hi
    match s, hst, hw with
    | [v], hst, _ =>
      refine ⟨v, m, ?_, rfl, fun _ _ => rfl⟩
      unfold X10_answer_L49
      simp only [LT, ZA, X10_answer_b215, X10_answer_b234, rd_gr ht q5, Option.bind_some, List.length_cons, List.length_nil]
      rw [iln (by omega), iep (by omega), iln (by omega), rd_ai hs (i := 0) (by omega) (by omega) (by omega) hst.1]
      rfl
  | cons c cs ih =>
    intro i n s m hi hn q2 q5 hk hv hst hw hsl
    obtain ⟨n, rfl⟩ : ∃ n', n = n' + 1 := ⟨n - 1, by simp at hn; omega⟩
    simp only [List.length_cons] at hi hn
    have hc0 : m (t + 3) i = .int (zI c) := hk 0 c rfl
    have hk' : ∀ (k : Nat) (c : Int), cs[k]? = some c → m (t + 3) (i + 1 + k) = .int (zI c) := fun k c h => by
      have := hk (k + 1) c (by simpa using h)
      rw [show i + (k + 1) = i + 1 + k by omega] at this; exact this
    obtain ⟨⟨w1, w2, w3⟩, w4, w5, w6⟩ := hw
    have step : ∀ (s' : List Int32) (k : Nat) (v : Int32), (k = s'.length - 1 ∧ 0 < s'.length) → stkR (mm_up m (t + 6) k (.int v)) (t + 6) s' → wfc cs s'.length → s'.length ≤ 100 → ∃ w m', X10_answer_L49 e t sn (zI E) n (zI s'.length) (zI ((i : Int) + 1)) (mm_up m (t + 6) k (.int v)) = some (w, m') ∧ evS sv cs s' = [w] ∧ ∀ b, b ≠ t + 6 → m' b = m b := by
      intro s' k v hkk hst' hw' hl'
      obtain ⟨w, m', e1, e2, e3⟩ := ih (i + 1) n s' (mm_up m (t + 6) k (.int v)) (by omega) (by omega) (by rw [up_ne _ _ (Or.inl (by omega))]; exact q2) (by rw [up_ne _ _ (Or.inl (by omega))]; exact q5)
        (fun k c h => by rw [up_ne _ _ (Or.inl (by omega))]; exact hk' k c h) (fun k h => by rw [up_ne _ _ (Or.inl hne)]; exact hv k h) hst' hw' hl'
      exact ⟨w, m', e1, e2, fun b hb => by rw [e3 b hb, up_row _ _ _ hb]⟩
    unfold X10_answer_L49
    simp only [LT, ZA, rd_gr ht q2, rd_gr ht q5, rd_ln hc (by decide) (by decide), rd_ln hs (by decide) (by decide), Option.bind_some, X10_answer_b209, X10_answer_b164, X10_answer_b119]
    rw [rd_ai hc (i := i) rfl (by omega) (by omega) hc0]
    simp only [Option.bind_some]
    rw [iln (by omega), ien (by omega), ien (by omega)]
    unfold evS
    by_cases hc6 : -6 ≤ c
    · obtain ⟨w7, w8⟩ := w4 hc6
      rw [iln (by omega), ien (by omega), if_pos hc6]
      by_cases hc7 : 0 ≤ c
      · rw [iln (by omega), if_pos hc7, wr_si hs (i := s.length) rfl (by omega) (by omega)]
        simp only [Option.bind_some]
        exact step (zI c :: s) s.length (zI c) ⟨by simp, by simp⟩ ⟨up_at _ _ _ _, hst.up (by omega)⟩ w8 (by simp; omega)
      · rw [ilp (by omega), if_neg hc7, X10_seenAs_eq hsn hv hc6 (by omega)]
        simp only [Option.bind_some]
        rw [wr_si hs (i := s.length) rfl (by omega) (by omega)]
        simp only [Option.bind_some]
        exact step (_ :: s) s.length _ ⟨by simp, by simp⟩ ⟨up_at _ _ _ _, hst.up (by omega)⟩ w8 (by simp; omega)
    · rw [ilp (by omega), if_neg hc6]
      by_cases hc13 : c = -13
      · obtain ⟨w7, w8⟩ := w5 hc13
        rw [inn (by omega), if_pos hc13, iln (by omega)]
        match s, hst, w7, w8, hsl with
        | x :: s, hst, w7, w8, hsl =>
          simp only [List.length_cons] at w7 w8 hsl ⊢
          rw [rd_ai hs (i := s.length) (by omega) (by omega) (by omega) hst.1]
          simp only [Option.bind_some]
          rw [wr_si hs (i := s.length) (by omega) (by omega) (by omega), wr_si hs (i := s.length) (by omega) (by omega) (by omega)]
          simp only [Option.bind_some]
          by_cases hx : x = zI 0
          · rw [if_neg (by simp [hx]), if_pos hx]
            exact step (zI 1 :: s) s.length _ ⟨by simp, by simp⟩ ⟨up_at _ _ _ _, hst.2.up (by omega)⟩ w8 (by simp; omega)
          · rw [if_pos hx, if_neg hx]
            exact step (zI 0 :: s) s.length _ ⟨by simp, by simp⟩ ⟨up_at _ _ _ _, hst.2.up (by omega)⟩ w8 (by simp; omega)
      · obtain ⟨w7, w8⟩ := w6 (by omega) hc13
        rw [inp (by omega), if_neg hc13, iln (by omega)]
        match s, hst, w7, w8, hsl with
        | b :: a :: s, hst, w7, w8, hsl =>
          simp only [List.length_cons] at w7 w8 hsl ⊢
          rw [rd_ai hs (i := s.length) (by omega) (by omega) (by omega) hst.2.1]
          simp only [Option.bind_some]
          rw [rd_ai hs (i := s.length + 1) (by omega) (by omega) (by omega) hst.1]
          simp only [Option.bind_some, X10_done_eq e c (by omega)]
          rw [wr_si hs (i := s.length) (by omega) (by omega) (by omega)]
          simp only [Option.bind_some]
          rw [show (((s.length + 1 + 1 : Nat) : Int) + -1) = ((s.length + 1 : Nat) : Int) by omega]
          exact step (op2 c a b :: s) s.length _ ⟨by simp, by simp⟩ ⟨up_at _ _ _ _, hst.2.2.up (by omega)⟩ w8 (by simp; omega)
end RULEC
