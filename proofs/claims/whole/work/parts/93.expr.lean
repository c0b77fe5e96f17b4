/-! EXPRESSIONS as a pure thing: codes, what waits (the top first), open parentheses, whether a part must stand. -/
def lv (c : Int) : Nat := if c = -19 ∨ c = -18 then 6 else if c = -17 ∨ c = -16 then 5 else if c = -15 ∨ c = -14 then 4 else if c = -13 then 3 else if c = -12 then 2 else if c = -11 then 1 else 0
def tsc (c : Int) : Bool := decide (c = -14 ∨ c = -15)
def stl (l : Nat) : List Int → List Int → List Int × List Int
  | cs, [] => (cs, [])
  | cs, w :: ws => if l ≤ lv w then stl l (cs ++ [w]) ws else (cs, w :: ws)
def nts : List Int → Nat
  | [] => 0
  | w :: ws => if w = -13 then nts ws + 1 else 0
def tpW (ws : List Int) : Int := ws.headD (-20)
def vcd (T : Nat → Nat) (t : TK) : Int := if isW T t 9 then -1 else if isW T t 10 then -2 else if isW T t 11 then -3 else if isW T t 12 then -4 else if isW T t 13 then -5 else if isW T t 14 then -6 else -21
def ocd (T : Nat → Nat) (t : TK) : Int := if tkC T t = 42 then -18 else if tkC T t = 43 then -16 else if tkC T t = 45 then -17 else if tkC T t = 47 then -19 else if tkC T t = 60 then -14 else if tkC T t = 61 then -15 else if isW T t 15 then -11 else if isW T t 16 then -12 else -21
abbrev CS : Type := List Int × List Int × Nat × Bool
def exP (T : Nat → Nat) (t : TK) (cs ws : List Int) (op : Nat) : Nat ⊕ CS := if tkC T t ≠ 48 ∧ tkC T t ≠ 97 ∧ tkC T t ≠ 40 then .inl 1 else if 6 ≤ op then .inl 2 else if tkC T t = 40 then .inr (cs, -20 :: ws, op + 1, true) else if isW T t 8 = true ∧ lv (tpW ws) ≤ 3 then (if 6 ≤ nts ws then .inl 2 else .inr (cs, -13 :: ws, op, true)) else if tkC T t = 48 then (if 4 < t.2.2 - t.2.1 then .inl 2 else .inr (cs ++ [dv T t.2.1 (t.2.2 - t.2.1)], ws, op, false)) else if vcd T t = -21 then .inl 3 else .inr (cs ++ [vcd T t], ws, op, false)
def exL (c : Int) : Nat := if tsc c then lv c + 1 else lv c
def exB (T : Nat → Nat) (t : TK) (cs ws : List Int) (op : Nat) : Nat ⊕ CS := if tkC T t = 41 ∧ 0 < op then .inr ((stl 1 cs ws).1, (stl 1 cs ws).2.tail, op - 1, false) else if ocd T t = -21 then .inl 1 else if tsc (ocd T t) = true ∧ tsc (tpW (stl (exL (ocd T t)) cs ws).2) = true then .inl 1 else .inr ((stl (exL (ocd T t)) cs ws).1, ocd T t :: (stl (exL (ocd T t)) cs ws).2, op, true)
def exS (T : Nat → Nat) (t : TK) (S : CS) : Nat ⊕ CS := if S.2.2.2 = true then exP T t S.1 S.2.1 S.2.2.1 else exB T t S.1 S.2.1 S.2.2.1
def exE (T : Nat → Nat) (t : TK) (S : CS) : Prop := S.2.2.2 = false ∧ S.2.2.1 = 0 ∧ tkC T t = 59
/-- how it ends: the fault, or 0; the token there; the codes -/
def exR (T : Nat → Nat) (n : Nat) : Nat → TK → CS → Nat × TK × List Int
  | 0, t, _ => (1, t, [])
  | k + 1, t, S => if S.2.2.2 = false ∧ S.2.2.1 = 0 ∧ tkC T t = 59 then (0, t, (stl 1 S.1 S.2.1).1) else match exS T t S with
    | .inl f => (f, t, [])
    | .inr S' => exR T n k (tok T n t.2.2) S'
def rk : List Int → Nat
  | [] => 0
  | c :: ws => if c = -13 then 3 + nts ws else if lv c ≤ 2 then lv c else lv c + 5
def okW : List Int → Nat → Prop
  | [], op => op = 0
  | c :: ws, op => if c = -20 then 1 ≤ op ∧ okW ws (op - 1) else (-19 ≤ c ∧ c ≤ -11) ∧ okW ws op ∧ rk ws < rk (c :: ws) ∧ nts (c :: ws) ≤ 6
def bnW : List Int → Nat
  | [] => 0
  | c :: ws => if c = -20 ∨ c = -13 then bnW ws else bnW ws + 1
theorem bnW_le : ∀ ws, bnW ws ≤ ws.length
  | [] => Nat.le_refl _
  | c :: ws => by
    have := bnW_le ws
    rw [bnW, List.length_cons]; split <;> omega
theorem lv_le (c : Int) : lv c ≤ 6 := by unfold lv; (repeat' split) <;> omega
theorem lv_pos {c : Int} (h : -19 ≤ c ∧ c ≤ -11) : 1 ≤ lv c := by unfold lv; (repeat' split) <;> omega
theorem rk_le : ∀ {ws : List Int} {op : Nat}, okW ws op → rk ws ≤ 11
  | [], _, _ => by rw [rk]; omega
  | c :: ws, op, h => by
    rw [okW] at h
    have := lv_le c
    by_cases h1 : c = -20
    · subst h1; rw [rk, if_neg (by decide), if_pos (by decide)]; decide
    · rw [if_neg h1] at h
      have h4 := h.2.2.2
      rw [rk]
      by_cases h2 : c = -13
      · rw [if_pos h2]; rw [nts, if_pos h2] at h4; omega
      · rw [if_neg h2]; split <;> omega
theorem okW_len : ∀ {ws : List Int} {op : Nat}, okW ws op → ws.length ≤ 12 * op + rk ws
  | [], op, h => by simp
  | c :: ws, op, h => by
    rw [okW] at h
    rw [List.length_cons]
    by_cases h1 : c = -20
    · rw [if_pos h1] at h
      have a := okW_len h.2
      have b := rk_le h.2
      omega
    · rw [if_neg h1] at h
      have a := okW_len h.2.1
      have := h.2.2.1
      omega
def wfs (c : Int) (h : Nat) : Option Nat := if -6 ≤ c ∧ c ≤ 9999 then (if h < 100 then some (h + 1) else none) else if c = -13 then (if 1 ≤ h then some h else none) else if -19 ≤ c ∧ c ≤ -11 then (if 2 ≤ h then some (h - 1) else none) else none
def wfr : List Int → Nat → Option Nat
  | [], h => some h
  | c :: cs, h => (wfs c h).bind (wfr cs)
theorem wfr_app : ∀ (a b : List Int) (h : Nat), wfr (a ++ b) h = (wfr a h).bind (wfr b)
  | [], b, h => rfl
  | c :: a, b, h => by
    rw [List.cons_append, wfr, wfr]
    cases wfs c h with
    | none => rfl
    | some y => rw [Option.bind_some, Option.bind_some, wfr_app a b y]
theorem wfr_snoc {cs : List Int} {c : Int} {h y : Nat} (h1 : wfr cs 0 = some h) (h2 : wfs c h = some y) : wfr (cs ++ [c]) 0 = some y := by
  rw [wfr_app, h1, Option.bind_some, wfr, h2]; rfl
theorem wfr_wfc : ∀ (cs : List Int) (h : Nat), wfr cs h = some 1 → wfc cs h
  | [], h, e => by rw [wfr] at e; cases e; rfl
  | c :: cs, h, e => by
    rw [wfr] at e
    rw [wfc]
    cases hy : wfs c h with
    | none => rw [hy] at e; cases e
    | some y =>
      rw [hy, Option.bind_some] at e
      have ih := wfr_wfc cs y e
      unfold wfs at hy
      by_cases h1 : -6 ≤ c ∧ c ≤ 9999
      · rw [if_pos h1] at hy
        by_cases h2 : h < 100
        · rw [if_pos h2] at hy; cases hy
          exact ⟨by omega, fun _ => ⟨h2, ih⟩, fun h => by omega, fun h => by omega⟩
        · rw [if_neg h2] at hy; cases hy
      rw [if_neg h1] at hy
      by_cases h3 : c = -13
      · rw [if_pos h3] at hy
        by_cases h2 : 1 ≤ h
        · rw [if_pos h2] at hy; cases hy
          exact ⟨by omega, fun h => by omega, fun _ => ⟨h2, ih⟩, fun _ h => absurd h3 h⟩
        · rw [if_neg h2] at hy; cases hy
      rw [if_neg h3] at hy
      by_cases h4 : -19 ≤ c ∧ c ≤ -11
      · rw [if_pos h4] at hy
        by_cases h2 : 2 ≤ h
        · rw [if_pos h2] at hy; cases hy
          exact ⟨by omega, fun h => by omega, fun h => absurd h h3, fun _ _ => ⟨h2, ih⟩⟩
        · rw [if_neg h2] at hy; cases hy
      · rw [if_neg h4] at hy; cases hy
/-- what waits is dropped down to a level -/
theorem stl_spec {l : Nat} (hl : 1 ≤ l) : ∀ {ws cs : List Int} {op : Nat}, okW ws op → okW (stl l cs ws).2 op ∧ lv (tpW (stl l cs ws).2) < l ∧ (stl l cs ws).1.length + (stl l cs ws).2.length = cs.length + ws.length ∧ (wfr cs 0 = some (bnW ws + 1) → wfr (stl l cs ws).1 0 = some (bnW (stl l cs ws).2 + 1)) ∧ rk (stl l cs ws).2 ≤ rk ws ∧ (stl l cs ws).2.length ≤ ws.length
  | [], cs, op, h => by
    rw [stl]
    refine ⟨h, ?_, rfl, fun h => h, Nat.le_refl _, Nat.le_refl _⟩
    show lv (-20) < l
    have : lv (-20) = 0 := by decide
    omega
  | w :: ws, cs, op, h => by
    rw [stl]
    by_cases h1 : l ≤ lv w
    · rw [if_pos h1]
      have hw : ¬ w = -20 := fun h => by subst h; have : lv (-20) = 0 := (by decide); omega
      have h' := h
      rw [okW, if_neg hw] at h'
      obtain ⟨i1, i2, i3, i4, i5, i6⟩ := stl_spec hl (cs := cs ++ [w]) h'.2.1
      refine ⟨i1, i2, ?_, fun hf => i4 ?_, by have := h'.2.2.1; omega, by rw [List.length_cons]; omega⟩
      · rw [i3, List.length_append, List.length_cons, List.length_cons, List.length_nil]; omega
      · rw [bnW] at hf
        refine wfr_snoc hf ?_
        unfold wfs
        have h9 := h'.1
        rw [if_neg (by omega)]
        by_cases h13 : w = -13
        · rw [if_pos h13, if_pos (Or.inr h13), if_pos (by omega)]
        · rw [if_neg h13, if_pos h9, if_neg (show ¬ (w = -20 ∨ w = -13) by omega), if_pos (by omega)]; congr 1
    · rw [if_neg h1]
      exact ⟨h, by show lv w < l; omega, rfl, fun h => h, Nat.le_refl _, Nat.le_refl _⟩
theorem stl_open {ws cs : List Int} {op : Nat} (h : okW ws op) (ho : 0 < op) : ∃ ws', (stl 1 cs ws).2 = -20 :: ws' ∧ okW ws' (op - 1) := by
  obtain ⟨i1, i2, -⟩ := stl_spec (l := 1) (Nat.le_refl _) (cs := cs) h
  generalize (stl 1 cs ws).2 = X at i1 i2
  cases X with
  | nil => rw [okW] at i1; omega
  | cons c X =>
    change lv c < 1 at i2
    rw [okW] at i1
    by_cases hc : c = -20
    · rw [if_pos hc] at i1; exact ⟨X, by rw [hc], i1.2⟩
    · rw [if_neg hc] at i1; have := lv_pos i1.1; omega
theorem stl_all {ws cs : List Int} (h : okW ws 0) : (stl 1 cs ws).2 = [] := by
  obtain ⟨i1, i2, -⟩ := stl_spec (l := 1) (Nat.le_refl _) (cs := cs) h
  generalize (stl 1 cs ws).2 = X at i1 i2
  cases X with
  | nil => rfl
  | cons c X =>
    change lv c < 1 at i2
    rw [okW] at i1
    by_cases hc : c = -20
    · rw [if_pos hc] at i1; omega
    · rw [if_neg hc] at i1; have := lv_pos i1.1; omega
theorem dv_bd {T : Nat → Nat} {s : Nat} : ∀ k, (∀ i, i < k → isDg (T (s + i)) = true) → 0 ≤ dv T s k ∧ dv T s k < 10 ^ k
  | 0, _ => by rw [dv]; decide
  | k + 1, h => by
    have ih := dv_bd k (fun i hi => h i (by omega))
    have hk := h k (by omega)
    unfold isDg at hk
    have hk : 48 ≤ T (s + k) ∧ T (s + k) ≤ 57 := by simpa using hk
    rw [dv, show (10 : Int) ^ (k + 1) = 10 ^ k * 10 from Int.pow_succ 10 k]
    omega
theorem dv_4 {T : Nat → Nat} {s k : Nat} (hk : k ≤ 4) (h : ∀ i, i < k → isDg (T (s + i)) = true) : 0 ≤ dv T s k ∧ dv T s k ≤ 9999 := by
  have := dv_bd k h
  have h4 : k = 0 ∨ k = 1 ∨ k = 2 ∨ k = 3 ∨ k = 4 := by omega
  rcases h4 with rfl | rfl | rfl | rfl | rfl <;> (simp at this; omega)
def exI (B : Nat) (t : TK) (S : CS) : Prop := okW S.2.1 S.2.2.1 ∧ S.2.2.1 ≤ 6 ∧ wfr S.1 0 = some (bnW S.2.1 + (if S.2.2.2 = true then 0 else 1)) ∧ B + S.1.length + S.2.1.length ≤ t.2.1
theorem exI.len {B : Nat} {t : TK} {S : CS} (h : exI B t S) : S.2.1.length ≤ 83 := by
  have h1 := okW_len h.1
  have h2 := rk_le h.1
  have := h.2.1
  omega
theorem tkC_0 {T : Nat → Nat} {t : TK} (h : t.1 = 0) : tkC T t = -1 := by unfold tkC; rw [if_pos h]
theorem tkC_2 {T : Nat → Nat} {n : Nat} {t : TK} (hv : tkV T n t) : tkC T t = 48 ↔ t.1 = 2 := by
  unfold tkC
  have h3 := hv.2.2.2.2.2.2.2
  constructor
  · intro h
    by_cases h0 : t.1 = 0
    · rw [if_pos h0] at h; omega
    rw [if_neg h0] at h
    by_cases h1 : t.1 = 1
    · rw [if_pos h1] at h; omega
    rw [if_neg h1] at h
    by_cases h2 : t.1 = 2
    · exact h2
    rw [if_neg h2] at h
    by_cases h4 : t.1 = 3
    · rw [if_pos h4] at h
      have := h3 h4
      unfold isSg at this
      simp at this
      omega
    · rw [if_neg h4] at h; omega
  · intro h
    rw [if_neg (by omega), if_neg (by omega), if_pos h]
theorem vcd_bd (T : Nat → Nat) (t : TK) : vcd T t = -21 ∨ (-6 ≤ vcd T t ∧ vcd T t ≤ -1) := by unfold vcd; (repeat' split) <;> omega
theorem ocd_bd (T : Nat → Nat) (t : TK) : ocd T t = -21 ∨ ((-19 ≤ ocd T t ∧ ocd T t ≤ -11) ∧ ocd T t ≠ -13) := by unfold ocd; (repeat' split) <;> omega
theorem ocd_0 {T : Nat → Nat} {t : TK} (h : t.1 = 0) : ocd T t = -21 := by
  have hw : ∀ i, isW T t i = false := fun i => decide_eq_false (fun h' => by omega)
  unfold ocd
  rw [tkC_0 h, hw, hw]; rfl
theorem rk_top {ws : List Int} {op : Nat} (h : okW ws op) : (lv (tpW ws) ≤ 2 → rk ws ≤ lv (tpW ws)) ∧ (lv (tpW ws) ≤ 3 → rk ws ≤ 8) ∧ (4 ≤ lv (tpW ws) → rk ws = lv (tpW ws) + 5) ∧ (tpW ws = -13 → rk ws = 2 + nts ws) := by
  cases ws with
  | nil => exact ⟨fun _ => Nat.zero_le _, fun _ => Nat.zero_le _, fun h => absurd h (by decide), fun h => absurd h (by decide)⟩
  | cons c ws =>
    show (lv c ≤ 2 → rk (c :: ws) ≤ lv c) ∧ (lv c ≤ 3 → rk (c :: ws) ≤ 8) ∧ (4 ≤ lv c → rk (c :: ws) = lv c + 5) ∧ (c = -13 → rk (c :: ws) = 2 + nts (c :: ws))
    rw [okW] at h
    rw [rk]
    by_cases h13 : c = -13
    · have h3 : lv c = 3 := by subst h13; decide
      rw [if_neg (by omega)] at h
      have h4 := h.2.2.2
      rw [nts, if_pos h13] at h4
      rw [if_pos h13]
      refine ⟨fun h => by omega, fun _ => by omega, fun h => by omega, fun _ => ?_⟩
      rw [nts, if_pos h13]; omega
    · rw [if_neg h13]
      have h3 : lv c ≠ 3 := by unfold lv; (repeat' split) <;> omega
      by_cases h2 : lv c ≤ 2
      · rw [if_pos h2]; exact ⟨fun _ => Nat.le_refl _, fun _ => by omega, fun h => by omega, fun h => absurd h h13⟩
      · rw [if_neg h2]; exact ⟨fun h => absurd h h2, fun h => by omega, fun _ => rfl, fun h => absurd h h13⟩
theorem tsc_lv {c : Int} : tsc c = true ↔ lv c = 4 := by
  unfold tsc lv
  rw [decide_eq_true_iff]
  constructor
  · intro h; rcases h with rfl | rfl <;> decide
  · intro h
    by_cases h1 : c = -19 ∨ c = -18
    · rw [if_pos h1] at h; omega
    rw [if_neg h1] at h
    by_cases h2 : c = -17 ∨ c = -16
    · rw [if_pos h2] at h; omega
    rw [if_neg h2] at h
    by_cases h3 : c = -15 ∨ c = -14
    · omega
    rw [if_neg h3] at h
    exfalso
    revert h
    (repeat' split) <;> omega
/-- a step keeps the invariant -/
theorem exS_inv {T : Nat → Nat} {n B : Nat} {t t' : TK} {S S' : CS} (hI : exI B t S) (hv : tkV T n t) (hs : exS T t S = .inr S') (ht' : t.2.2 ≤ t'.2.1) : exI B t' S' ∧ t.1 ≠ 0 := by
  obtain ⟨cs, ws, op, mu⟩ := S
  obtain ⟨i1, i2, i3, i4⟩ := hI
  have hlen := okW_len i1
  have hrk := rk_le i1
  have hbn := bnW_le ws
  simp only at i1 i2 i3 i4 hlen hrk
  unfold exS at hs
  simp only at hs
  have lt1 : t.1 ≠ 0 → t.2.1 + 1 ≤ t'.2.1 := fun h => by have := hv.2.2.2.2.1 h; omega
  cases mu with
  | true =>
    simp only [if_true] at hs i3
    have k0 : t.1 ≠ 0 := by
      intro h0
      unfold exP at hs
      rw [tkC_0 h0, if_pos (by omega)] at hs
      cases hs
    have l1 := lt1 k0
    refine ⟨?_, k0⟩
    unfold exP at hs
    by_cases h1 : tkC T t ≠ 48 ∧ tkC T t ≠ 97 ∧ tkC T t ≠ 40
    · rw [if_pos h1] at hs; cases hs
    rw [if_neg h1] at hs
    by_cases h2 : 6 ≤ op
    · rw [if_pos h2] at hs; cases hs
    rw [if_neg h2] at hs
    by_cases h3 : tkC T t = 40
    · rw [if_pos h3] at hs; cases hs
      refine ⟨?_, by simp only; omega, ?_, ?_⟩
      · show okW (-20 :: ws) (op + 1)
        rw [okW, if_pos rfl]; exact ⟨by omega, i1⟩
      · simp only [if_true]
        rw [bnW, if_pos (Or.inl rfl)]; exact i3
      · simp only [List.length_cons]; omega
    rw [if_neg h3] at hs
    by_cases h4 : isW T t 8 = true ∧ lv (tpW ws) ≤ 3
    · rw [if_pos h4] at hs
      by_cases h5 : 6 ≤ nts ws
      · rw [if_pos h5] at hs; cases hs
      rw [if_neg h5] at hs; cases hs
      refine ⟨?_, i2, ?_, ?_⟩
      · show okW (-13 :: ws) op
        rw [okW, if_neg (by decide)]
        obtain ⟨a1, a2, a3, a4⟩ := rk_top i1
        refine ⟨by omega, i1, ?_, by rw [nts, if_pos rfl]; omega⟩
        rw [rk, if_pos rfl]
        by_cases h6 : tpW ws = -13
        · rw [a4 h6]; omega
        · have h7 : lv (tpW ws) ≠ 3 := by unfold lv; (repeat' split) <;> omega
          have := a1 (by omega)
          omega
      · simp only [if_true]
        rw [bnW, if_pos (Or.inr rfl)]; exact i3
      · simp only [List.length_cons]; omega
    rw [if_neg h4] at hs
    have fin : ∀ c : Int, -6 ≤ c ∧ c ≤ 9999 → exI B t' (cs ++ [c], ws, op, false) := by
      intro c hc
      refine ⟨i1, i2, ?_, ?_⟩
      · simp only [Bool.false_eq_true, if_false]
        refine wfr_snoc i3 ?_
        unfold wfs
        rw [if_pos hc, if_pos (by omega)]
      · simp only [List.length_append, List.length_cons, List.length_nil]; omega
    by_cases h5 : tkC T t = 48
    · rw [if_pos h5] at hs
      by_cases h6 : 4 < t.2.2 - t.2.1
      · rw [if_pos h6] at hs; cases hs
      rw [if_neg h6] at hs; cases hs
      have h7 := (tkC_2 hv).mp h5
      have := dv_4 (T := T) (s := t.2.1) (k := t.2.2 - t.2.1) (by omega) (fun i hi => hv.2.2.2.2.2.2.1 h7 _ (by omega) (by omega))
      exact fin _ (by omega)
    · rw [if_neg h5] at hs
      by_cases h6 : vcd T t = -21
      · rw [if_pos h6] at hs; cases hs
      rw [if_neg h6] at hs; cases hs
      have := vcd_bd T t
      exact fin _ (by omega)
  | false =>
    simp only [Bool.false_eq_true, if_false] at hs i3
    have k0 : t.1 ≠ 0 := by
      intro h0
      unfold exB at hs
      rw [tkC_0 h0, ocd_0 h0, if_neg (by omega), if_pos rfl] at hs
      cases hs
    have l1 := lt1 k0
    refine ⟨?_, k0⟩
    unfold exB at hs
    by_cases h1 : tkC T t = 41 ∧ 0 < op
    · rw [if_pos h1] at hs; cases hs
      obtain ⟨ws', w1, w2⟩ := stl_open (cs := cs) i1 h1.2
      obtain ⟨-, -, j3, j4, -, -⟩ := stl_spec (l := 1) (Nat.le_refl _) (cs := cs) i1
      have j4 := j4 i3
      refine ⟨?_, by simp only; omega, ?_, ?_⟩
      · simp only [w1, List.tail_cons]; exact w2
      · simp only [Bool.false_eq_true, if_false]
        rw [j4, w1, List.tail_cons, bnW, if_pos (Or.inl rfl)]
      · rw [w1] at j3
        simp only [w1, List.tail_cons]
        rw [List.length_cons] at j3
        omega
    rw [if_neg h1] at hs
    by_cases h2 : ocd T t = -21
    · rw [if_pos h2] at hs; cases hs
    rw [if_neg h2] at hs
    have hob := ocd_bd T t
    generalize ocd T t = c at hs h2 hob
    have hob : (-19 ≤ c ∧ c ≤ -11) ∧ c ≠ -13 := by omega
    have hl1 : 1 ≤ exL c := by
      unfold exL
      have := lv_pos hob.1
      split <;> omega
    obtain ⟨j1, j2, j3, j4, j5, j6⟩ := stl_spec hl1 (cs := cs) i1
    have j4 := j4 i3
    by_cases h3 : tsc c = true ∧ tsc (tpW (stl (exL c) cs ws).2) = true
    · rw [if_pos h3] at hs; cases hs
    rw [if_neg h3] at hs; cases hs
    generalize stl (exL c) cs ws = X at j1 j2 j3 j4 j5 j6 h3
    refine ⟨?_, i2, ?_, ?_⟩
    · show okW (c :: X.2) op
      rw [okW, if_neg (by omega)]
      obtain ⟨a1, a2, a3, a4⟩ := rk_top j1
      refine ⟨hob.1, j1, ?_, by rw [nts, if_neg hob.2]; omega⟩
      rw [rk, if_neg hob.2]
      unfold exL at j2
      have hp := lv_pos hob.1
      have h3n : lv c ≠ 3 := by unfold lv; (repeat' split) <;> omega
      by_cases ht : tsc c = true
      · have h4 := tsc_lv.mp ht
        rw [if_pos ht] at j2
        have h5 : ¬ lv (tpW X.2) = 4 := fun h => h3 ⟨ht, tsc_lv.mpr h⟩
        have := a2 (by omega)
        rw [if_neg (by omega)]; omega
      · rw [if_neg ht] at j2
        by_cases h6 : lv c ≤ 2
        · rw [if_pos h6]
          have := a1 (by omega)
          omega
        · rw [if_neg h6]
          by_cases h7 : lv (tpW X.2) ≤ 3
          · have := a2 h7; omega
          · have := a3 (by omega); omega
    · simp only [if_true]
      rw [j4, bnW, if_neg (by omega)]
    · simp only [List.length_cons]; omega
/-- fuel that is enough is as good as more -/
def muT (n : Nat) (t : TK) : Nat := if t.1 = 0 then 0 else n - t.2.2 + 1
theorem exR_fuel {T : Nat → Nat} {n : Nat} : ∀ (k j : Nat) (t : TK) (S : CS), tkV T n t → muT n t < k → muT n t < j → exR T n k t S = exR T n j t S
  | 0, _, _, _, _, h, _ => absurd h (by omega)
  | k + 1, 0, _, _, _, _, h => absurd h (by omega)
  | k + 1, j + 1, t, S, hv, hk, hj => by
    rw [exR, exR]
    by_cases h1 : S.2.2.2 = false ∧ S.2.2.1 = 0 ∧ tkC T t = 59
    · rw [if_pos h1, if_pos h1]
    rw [if_neg h1, if_neg h1]
    cases hs : exS T t S with
    | inl f => rfl
    | inr S' =>
      simp only
      have h0 : t.1 ≠ 0 := by
        intro h0
        unfold exS exP exB at hs
        rw [tkC_0 h0, ocd_0 h0] at hs
        split at hs
        · rw [if_pos (by omega)] at hs; cases hs
        · rw [if_neg (by omega), if_pos rfl] at hs; cases hs
      obtain ⟨hv', hb'⟩ := tok_V T (b := t.2.2) hv.2.1
      have hmu : muT n (tok T n t.2.2) < muT n t := by
        unfold muT
        rw [if_neg h0]
        have := hv'.2.1
        have h5 := hv'.2.2.2.2.1
        split
        · omega
        · have := h5 (by assumption); omega
      exact exR_fuel k j _ S' hv' (by omega) (by omega)
def exA (T : Nat → Nat) (n : Nat) (t : TK) (S : CS) : Nat × TK × List Int := exR T n 700 t S
theorem muT_lt {T : Nat → Nat} {n : Nat} {t : TK} (hv : tkV T n t) (hn : n ≤ 600) : muT n t < 602 := by unfold muT; split <;> omega
theorem exA_end {T : Nat → Nat} {n : Nat} {t : TK} {S : CS} (h : S.2.2.2 = false ∧ S.2.2.1 = 0 ∧ tkC T t = 59) : exA T n t S = (0, t, (stl 1 S.1 S.2.1).1) := by
  unfold exA; rw [exR, if_pos h]
theorem exA_bad {T : Nat → Nat} {n f : Nat} {t : TK} {S : CS} (h : ¬ (S.2.2.2 = false ∧ S.2.2.1 = 0 ∧ tkC T t = 59)) (hs : exS T t S = .inl f) : exA T n t S = (f, t, []) := by
  unfold exA; rw [exR, if_neg h, hs]
theorem exA_go {T : Nat → Nat} {n : Nat} {t : TK} {S S' : CS} (hv : tkV T n t) (hn : n ≤ 600) (h : ¬ (S.2.2.2 = false ∧ S.2.2.1 = 0 ∧ tkC T t = 59)) (hs : exS T t S = .inr S') : exA T n t S = exA T n (tok T n t.2.2) S' := by
  obtain ⟨hv', -⟩ := tok_V T (b := t.2.2) hv.2.1
  have := muT_lt hv' hn
  unfold exA
  rw [exR, if_neg h, hs]
  exact exR_fuel _ _ _ _ hv' (by omega) (by omega)
