/-! EXPRESSIONS of the model: what it is made of. -/
def mcd (c : Int) : Int := if c = -20 then 14 else if c = -13 then 3 else mac c
def ecB : List Int → List Int
  | [] => []
  | c :: cs => encC c ++ ecB cs
theorem enc_ecB : ∀ cs, enc cs = ecB cs ++ [0]
  | [] => rfl
  | c :: cs => by rw [enc, ecB, enc_ecB cs, List.append_assoc]
theorem ecB_app : ∀ a b, ecB (a ++ b) = ecB a ++ ecB b
  | [], b => rfl
  | c :: a, b => by rw [List.cons_append, ecB, ecB, ecB_app a b, List.append_assoc]
theorem ecB_one (c : Int) : ecB [c] = encC c := by rw [ecB, ecB, List.append_nil]
theorem encC_len (c : Int) : (encC c).length ≤ 2 := by unfold encC; (repeat' split) <;> simp
theorem ecB_len : ∀ cs, (ecB cs).length ≤ 2 * cs.length
  | [] => Nat.le_refl _
  | c :: cs => by
    have := ecB_len cs
    have := encC_len c
    rw [ecB, List.length_append, List.length_cons]; omega
def tsd : List Int → Nat → Bool
  | [], _ => false
  | c :: ws, 0 => if c = -20 then false else tsc c || tsd ws 0
  | c :: ws, j + 1 => if c = -20 then tsd ws j else tsd ws (j + 1)
theorem tsd_low : ∀ {ws : List Int} {op : Nat}, okW ws op → rk ws ≤ 8 → tsd ws 0 = false
  | [], _, _, _ => rfl
  | c :: ws, op, h, hr => by
    rw [okW] at h
    rw [tsd]
    by_cases hc : c = -20
    · rw [if_pos hc]
    · rw [if_neg hc] at h ⊢
      rw [tsd_low h.2.1 (by omega), Bool.or_false]
      cases ht : tsc c with
      | false => rfl
      | true =>
        have h4 := tsc_lv.mp ht
        have h13 : c ≠ -13 := fun h => by subst h; exact absurd h4 (by decide)
        rw [rk, if_neg h13, if_neg (by omega)] at hr
        omega
theorem stl_tsd {l : Nat} (hl : 1 ≤ l) : ∀ (ws cs : List Int) (j : Nat), tsd (stl l cs ws).2 (j + 1) = tsd ws (j + 1)
  | [], cs, j => rfl
  | w :: ws, cs, j => by
    rw [stl]
    by_cases h : l ≤ lv w
    · have hw : ¬ w = -20 := fun h => by subst h; have : lv (-20) = 0 := (by decide); omega
      rw [if_pos h, stl_tsd hl ws _ j, tsd, if_neg hw]
    · rw [if_neg h]
theorem stl_tsd0 {l : Nat} (hl : 5 ≤ l) : ∀ (ws cs : List Int), tsd (stl l cs ws).2 0 = tsd ws 0
  | [], cs => rfl
  | w :: ws, cs => by
    rw [stl]
    by_cases h : l ≤ lv w
    · have hw : ¬ w = -20 := fun h => by subst h; have : lv (-20) = 0 := (by decide); omega
      have ht : tsc w = false := by
        cases h2 : tsc w with
        | false => rfl
        | true => have := tsc_lv.mp h2; omega
      rw [if_pos h, stl_tsd0 hl ws _, tsd, if_neg hw, ht, Bool.false_or]
    · rw [if_neg h]
theorem stl_45 : ∀ (ws cs : List Int), tsd ws 0 = false → stl 4 cs ws = stl 5 cs ws
  | [], cs, _ => rfl
  | w :: ws, cs, h => by
    rw [stl, stl]
    rw [tsd] at h
    by_cases hw : w = -20
    · subst hw
      rw [if_neg (by decide), if_neg (by decide)]
    · rw [if_neg hw] at h
      have h1 : tsc w = false := by cases h2 : tsc w with
        | false => rfl
        | true => rw [h2] at h; simp at h
      have h3 : tsd ws 0 = false := by rw [h1] at h; simpa using h
      have h4 : lv w ≠ 4 := fun h => by rw [tsc_lv.mpr h] at h1; cases h1
      by_cases h5 : 4 ≤ lv w
      · rw [if_pos h5, if_pos (by omega), stl_45 ws _ h3]
      · rw [if_neg h5, if_neg (by omega)]
/-- the class sees a test that waits just where the model has noted one -/
theorem tsd_top : ∀ {ws : List Int} {op : Nat} (cs : List Int), okW ws op → tsc (tpW (stl 5 cs ws).2) = tsd ws 0
  | [], _, cs, _ => rfl
  | c :: ws, op, cs, h => by
    have hh := h
    rw [okW] at h
    rw [stl, tsd]
    by_cases hc : c = -20
    · subst hc; rw [if_neg (by decide), if_pos rfl]; rfl
    · rw [if_neg hc] at h ⊢
      by_cases h5 : 5 ≤ lv c
      · have ht : tsc c = false := by
          cases h2 : tsc c with
          | false => rfl
          | true => have := tsc_lv.mp h2; omega
        rw [if_pos h5, tsd_top _ h.2.1, ht, Bool.false_or]
      · rw [if_neg h5]
        show tsc c = (tsc c || tsd ws 0)
        cases ht : tsc c with
        | true => rfl
        | false =>
          have h4 : lv c ≠ 4 := fun h => by rw [tsc_lv.mpr h] at ht; cases ht
          have h8 := (rk_top hh).2.1 (show lv c ≤ 3 by omega)
          have := tsd_low hh h8
          rw [tsd, if_neg hc, ht] at this
          exact this.symm
def mxR (m : mm_V) (q n : Nat) (T : Nat → Nat) (t : TK) (tp : Nat) (cs ws : List Int) : Prop := modS m q ∧ tkM m q n T t ∧ txR m (q + 4) n T ∧ m q 10 = .int (zI 0) ∧ m q 25 = .int (zI (tp + (ecB cs).length : Nat)) ∧ m q 26 = .int (zI ws.length) ∧ wsR m (q + 10) (ws.map mcd) ∧ ∀ (i : Nat) (c : Int), (ecB cs)[i]? = some c → m (q + 9) (tp + i) = .int (zI c)
def tsM (m : mm_V) (q : Nat) (ws : List Int) (op : Nat) : Prop := m q 27 = .int (zI (op + 1 : Nat)) ∧ ∀ j, j ≤ op → m (q + 12) (op + 1 - j) = .int (bZ (tsd ws j))
def mxK (q tp : Nat) (m m' : mm_V) : Prop := (∀ b, b ≠ q → b ≠ q + 9 → b ≠ q + 10 → b ≠ q + 12 → m' b = m b) ∧ (∀ k, (k < 10 ∨ k = 12 ∨ k = 13 ∨ (20 < k ∧ k < 25) ∨ 27 < k) → m' q k = m q k) ∧ ∀ j, j < tp → m' (q + 9) j = m (q + 9) j
theorem mxK.refl (q tp : Nat) (m : mm_V) : mxK q tp m m := ⟨fun _ _ _ _ _ => rfl, fun _ _ => rfl, fun _ _ => rfl⟩
theorem mxK.trans {q tp : Nat} {m m1 m2 : mm_V} (h : mxK q tp m m1) (k : mxK q tp m1 m2) : mxK q tp m m2 := ⟨fun b h1 h2 h3 h4 => by rw [k.1 b h1 h2 h3 h4, h.1 b h1 h2 h3 h4], fun j hj => by rw [k.2.1 j hj, h.2.1 j hj], fun j hj => by rw [k.2.2 j hj, h.2.2 j hj]⟩
theorem tkM.keep {m m' : mm_V} {q n : Nat} {T : Nat → Nat} {t : TK} (h : tkM m q n T t) (hk : ∀ k, 13 ≤ k → k ≤ 20 → m' q k = m q k) : tkM m' q n T t := by
  obtain ⟨h1, h2, h3, h4, h5, h6, h7, h8⟩ := h
  exact ⟨by rw [hk _ (by omega) (by omega)]; exact h1, by rw [hk _ (by omega) (by omega)]; exact h2, by rw [hk _ (by omega) (by omega)]; exact h3, by rw [hk _ (by omega) (by omega)]; exact h4, by rw [hk _ (by omega) (by omega)]; exact h5, by rw [hk _ (by omega) (by omega)]; exact h6, by rw [hk _ (by omega) (by omega)]; exact h7, by rw [hk _ (by omega) (by omega)]; exact h8⟩
theorem txR.keep {m m' : mm_V} {a n : Nat} {T : Nat → Nat} (h : txR m a n T) (hk : m' a = m a) : txR m' a n T := ⟨h.1, h.2.1, fun i hi => by rw [hk]; exact h.2.2 i hi⟩
section EXM
variable {e : mm_E} {q n tp : Nat} {T : Nat → Nat} {t : TK}
theorem X12_isGood_eq {m : mm_V} {f : Nat} (hT : modT e.1 q) (h10 : m q 10 = .int (zI f)) (hf : f < 100) : X12_isGood e q m = some (bZ (decide (f = 0)), m) := by
  unfold X12_isGood X12_isGood_b12
  simp only [LT, zI_neg]
  rw [rd_gi hT.me h10, Option.bind_some]
  by_cases h : f = 0
  · rw [inn (by omega), decide_eq_true h]; rfl
  · rw [inp (by omega), decide_eq_false h]; rfl
theorem X12_isGood_1 {m : mm_V} (hT : modT e.1 q) (h10 : m q 10 = .int (zI 0)) : X12_isGood e q m = some (zI 1, m) := X12_isGood_eq (f := 0) hT h10 (by omega)
theorem X12_isGood_0 {m : mm_V} {f : Nat} (hT : modT e.1 q) (h10 : m q 10 = .int (zI f)) (hf : 1 ≤ f ∧ f < 100) : X12_isGood e q m = some (zI 0, m) := by
  rw [X12_isGood_eq hT h10 hf.2, decide_eq_false (by omega)]; rfl
theorem X12_wrong_eq {m : mm_V} {f v : Int32} (hT : modT e.1 q) (h10 : m q 10 = .int (zI 0)) (h16 : m q 16 = .int v) : X12_wrong e q f m = some (mm_up (mm_up m q 10 (.int f)) q 11 (.int v)) := by
  unfold X12_wrong
  simp only [LT, zI_neg]
  rw [rd_gi hT.me h10, Option.bind_some, iqp (by omega), wr_pf hT.me, Option.bind_some, rd_gi hT.me (v := v) (by rw [up_ne _ _ (by omega)]; exact h16), Option.bind_some, wr_pf hT.me, Option.bind_some]
theorem X12_wrong_no {m : mm_V} {f : Nat} {g : Int32} (hT : modT e.1 q) (h10 : m q 10 = .int (zI f)) (hf : 1 ≤ f ∧ f < 100) : X12_wrong e q g m = some m := by
  unfold X12_wrong
  simp only [LT, zI_neg]
  rw [rd_gi hT.me h10, Option.bind_some, iqn (by omega)]
theorem X12_isSign_eq {m : mm_V} {c : Nat} (hT : modT e.1 q) (hr : tkM m q n T t) (ht : txR m (q + 4) n T) (hv : tkV T n t) (hc : 40 ≤ c ∧ c ≤ 61 ∧ c ≠ 48) : X12_isSign e q (zI c) m = some (bZ (decide (tkC T t = c)), m) := by
  obtain ⟨-, -, r15, -, -, -, r19, -⟩ := hr
  have hb := tkC_bd ht hv
  have hv3 := hv.2.2.1
  unfold X12_isSign X12_isSign_b20 X12_isSign_b21
  simp only [LT, zI_neg]
  rw [rd_gi hT.me r15, Option.bind_some]
  by_cases h3 : t.1 = 3
  · have hk : tkC T t = T t.2.1 := by unfold tkC; rw [if_neg (by omega), if_neg (by omega), if_neg (by omega), if_pos h3]
    rw [inn (by omega), rd_gi hT.me (r19 h3), Option.bind_some]
    by_cases h : (T t.2.1 : Int) = c
    · rw [inn (by omega), decide_eq_true (by omega)]; rfl
    · rw [inp (by omega), decide_eq_false (by omega)]; rfl
  · have hk : tkC T t ≠ c := by unfold tkC; (repeat' split) <;> omega
    rw [inp (by omega), decide_eq_false hk]; rfl
theorem X12_strength_eq {m : mm_V} {c : Int} (h : -19 ≤ c ∧ c ≤ -11) : X12_strength e (zI (mcd c)) m = some (zI (lv c), m) := by
  have hc : c = -19 ∨ c = -18 ∨ c = -17 ∨ c = -16 ∨ c = -15 ∨ c = -14 ∨ c = -13 ∨ c = -12 ∨ c = -11 := by omega
  rcases hc with rfl | rfl | rfl | rfl | rfl | rfl | rfl | rfl | rfl <;> rfl
theorem mcd_bd {c : Int} (h : -20 ≤ c ∧ c ≤ -11) : 3 ≤ mcd c ∧ mcd c ≤ 14 ∧ (14 ≤ mcd c ↔ c = -20) := by
  have hc : c = -20 ∨ c = -19 ∨ c = -18 ∨ c = -17 ∨ c = -16 ∨ c = -15 ∨ c = -14 ∨ c = -13 ∨ c = -12 ∨ c = -11 := by omega
  rcases hc with rfl | rfl | rfl | rfl | rfl | rfl | rfl | rfl | rfl | rfl <;> decide
theorem X12_isOpen_eq {m : mm_V} {c : Int} (h : -20 ≤ c ∧ c ≤ -11) : X12_isOpen e (zI (mcd c)) m = some (bZ (decide (c = -20)), m) := by
  have hb := mcd_bd h
  unfold X12_isOpen X12_isOpen_b11
  simp only [LT, zI_neg]
  by_cases hc : c = -20
  · rw [iln (by omega), decide_eq_true hc]; rfl
  · rw [ilp (by omega), decide_eq_false hc]; rfl
theorem X12_puts_eq {m : mm_V} {k : Nat} {v : Int32} (hT : modT e.1 q) (hS : modS m q) (h25 : m q 25 = .int (zI k)) (hk : k < 1600) : X12_puts e q v m = some (mm_up (mm_up m (q + 9) k (.int v)) q 25 (.int (zI (k + 1 : Nat)))) := by
  unfold X12_puts
  simp only [LT, zI_neg]
  rw [rd_gr hT.me hS.readCode_, Option.bind_some, rd_gi hT.me h25, Option.bind_some, wr_si hT.readCode_ (i := k) rfl (by omega) (by omega), Option.bind_some, rd_gi hT.me (v := zI k) (by rw [up_row _ _ _ (by omega)]; exact h25), Option.bind_some, zI_add, wr_pf hT.me, Option.bind_some]; rfl
theorem X12_waitsFor_eq {m : mm_V} {k : Nat} {v : Int32} (hT : modT e.1 q) (hS : modS m q) (h26 : m q 26 = .int (zI k)) (hk : k < 800) : X12_waitsFor e q v m = some (mm_up (mm_up m (q + 10) k (.int v)) q 26 (.int (zI (k + 1 : Nat)))) := by
  unfold X12_waitsFor
  simp only [LT, zI_neg]
  rw [rd_gr hT.me hS.waits_, Option.bind_some, rd_gi hT.me h26, Option.bind_some, wr_si hT.waits_ (i := k) rfl (by omega) (by omega), Option.bind_some, rd_gi hT.me (v := zI k) (by rw [up_row _ _ _ (by omega)]; exact h26), Option.bind_some, zI_add, wr_pf hT.me, Option.bind_some]; rfl
theorem modS.row {m m' : mm_V} (h : modS m q) (hk : m' q = m q) : modS m' q := h.keep (fun i _ _ => by rw [hk])
/-- waits -/
theorem X12_waitsFor_ev {m : mm_V} {cs ws : List Int} (c : Int) {a : Int} (ha : mcd c = a) (hT : modT e.1 q) (hX : mxR m q n T t tp cs ws) (h : ws.length ≤ 90) : Ev (X12_waitsFor e q (zI a) m) (fun m' => mxR m' q n T t tp cs (c :: ws) ∧ (∀ k, k ≠ 26 → m' q k = m q k) ∧ ∀ b, b ≠ q → b ≠ q + 10 → m' b = m b) := by
  subst ha
  obtain ⟨x1, x2, x3, x4, x5, x6, x7, x8⟩ := hX
  refine ⟨_, X12_waitsFor_eq hT x1 x6 (by omega), ?_⟩
  generalize hm' : mm_up (mm_up m (q + 10) ws.length (.int (zI (mcd c)))) q 26 (.int (zI (ws.length + 1 : Nat))) = m'
  have o : ∀ b, b ≠ q → b ≠ q + 10 → m' b = m b := fun b h1 h2 => by rw [← hm', up_row _ _ _ h1, up_row _ _ _ h2]
  have f : ∀ k, k ≠ 26 → m' q k = m q k := fun k h => by rw [← hm', up_ne _ _ (Or.inr h), up_row _ _ _ (by omega)]
  refine ⟨⟨?_, x2.keep (fun k _ _ => f k (by omega)), x3.keep (o _ (by omega) (by omega)), by rw [f _ (by omega)]; exact x4, by rw [f _ (by omega)]; exact x5, by rw [← hm', up_at]; rfl, ?_, fun i y hy => by rw [o _ (by omega) (by omega)]; exact x8 i y hy⟩, f, o⟩
  · rw [← hm']; exact (x1.row (up_row _ _ _ (by omega))).up (by decide)
  · refine ⟨?_, ?_⟩
    · rw [List.length_map, ← hm', up_row _ _ _ (by omega), up_at]
    · rw [← hm']
      exact wsR.keep (up_row _ _ _ (by omega)) (x7.up (by rw [List.length_map]; omega))
theorem ecB_get {m m' : mm_V} {a tp : Nat} {A B : List Int} (h : ∀ (i : Nat) (c : Int), A[i]? = some c → m a (tp + i) = .int (zI c)) (h1 : ∀ j, j < tp + A.length → m' a j = m a j) (h2 : ∀ (i : Nat) (c : Int), B[i]? = some c → m' a (tp + A.length + i) = .int (zI c)) : ∀ (i : Nat) (c : Int), (A ++ B)[i]? = some c → m' a (tp + i) = .int (zI c) := by
  intro i c hc
  by_cases hi : i < A.length
  · rw [List.getElem?_append_left hi] at hc
    rw [h1 _ (by omega)]; exact h i c hc
  · rw [List.getElem?_append_right (by omega)] at hc
    have := h2 _ c hc
    rwa [show tp + A.length + (i - A.length) = tp + i by omega] at this
theorem encC_op {c : Int} (h : -19 ≤ c ∧ c ≤ -11) : encC c = [mcd c] := by
  have hc : c = -19 ∨ c = -18 ∨ c = -17 ∨ c = -16 ∨ c = -15 ∨ c = -14 ∨ c = -13 ∨ c = -12 ∨ c = -11 := by omega
  rcases hc with rfl | rfl | rfl | rfl | rfl | rfl | rfl | rfl | rfl <;> rfl
/-- drops -/
theorem X12_drops_loop {l l' op : Nat} (hl : 1 ≤ l' ∧ l' ≤ 10 ∧ (l = l' ∨ (l = 0 ∧ l' = 1))) (hT : modT e.1 q) : ∀ (ws cs : List Int) (nn : Nat) (m : mm_V), okW ws op → ws.length ≤ 90 → ws.length < nn → tp + 2 * cs.length + 2 * ws.length ≤ 1590 → mxR m q n T t tp cs ws → Ev (X12_drops_L0 e q (zI l) nn m) (fun m' => mxR m' q n T t tp (stl l' cs ws).1 (stl l' cs ws).2 ∧ mxK q tp m m' ∧ (∀ k, k ≠ 25 → k ≠ 26 → m' q k = m q k) ∧ ∀ b, b ≠ q → b ≠ q + 9 → m' b = m b) := by
  intro ws
  induction ws with
  | nil =>
    intro cs nn m hok h90 hn hb hX
    obtain ⟨nn, rfl⟩ : ∃ n', nn = n' + 1 := ⟨nn - 1, by omega⟩
    rw [X12_drops_L0]
    simp only [LT, zI_neg]
    refine ev_gi hT.me hX.2.2.2.2.2.1 (ev_iep rfl rfl (by simp) (ev_ret ?_))
    rw [stl]
    exact ⟨hX, mxK.refl _ _ _, fun _ _ _ => rfl, fun _ _ _ => rfl⟩
  | cons w ws ih =>
    intro cs nn m hok h90 hn hb hX
    obtain ⟨nn, rfl⟩ : ∃ n', nn = n' + 1 := ⟨nn - 1, by omega⟩
    have hX' := hX
    obtain ⟨x1, x2, x3, x4, x5, x6, x7, x8⟩ := hX
    simp only [List.length_cons] at h90 hn hb
    have hwb : -20 ≤ w ∧ w ≤ -11 := okW_mem (j := 0) hok rfl
    have hlv := lv_le w
    have hel := ecB_len cs
    have x70 : m (q + 10) ws.length = .int (zI (mcd w)) := by have := x7.1; rwa [List.length_map] at this
    rw [X12_drops_L0]
    simp only [LT, zI_neg]
    rw [stl]
    refine ev_gi hT.me x6 (ev_ien rfl rfl (by simp only [List.length_cons]; omega) (ev_gr hT.me x1.waits_ (ev_gi hT.me x6 (ev_ai ws.length hT.waits_ (by rw [zI_sub]; congr 1; simp only [List.length_cons]; omega) (by omega) (by omega) x70 (ev_eq (X12_isOpen_eq hwb) (ev_bn (fun hno => ?_) (fun ho => ?_)))))))
    · have hno := of_decide_eq_false hno
      have hw1 : -19 ≤ w ∧ w ≤ -11 := by omega
      have hlp := lv_pos hw1
      refine ev_gr hT.me x1.waits_ (ev_gi hT.me x6 (ev_ai ws.length hT.waits_ (by rw [zI_sub]; congr 1; simp only [List.length_cons]; omega) (by omega) (by omega) x70 (ev_eq (X12_strength_eq hw1) ?_)))
      by_cases h1 : l' ≤ lv w
      · rw [if_pos h1]
        refine ev_iln rfl rfl (by omega) (ev_gi hT.me x6 (ev_pf hT.me ?_))
        dsimp only
        rw [zI_sub, show (((w :: ws).length : Int) - 1) = (ws.length : Int) by rw [List.length_cons]; omega]
        generalize hm1 : mm_up m q 26 (.int (zI (ws.length : Int))) = m1
        have o1 : ∀ b, b ≠ q → m1 b = m b := fun b h => by rw [← hm1, up_row _ _ _ h]
        have f1 : ∀ k, k ≠ 26 → m1 q k = m q k := fun k h => by rw [← hm1, up_ne _ _ (Or.inr h)]
        have s1 : modS m1 q := by rw [← hm1]; exact x1.up (by decide)
        refine ev_gr hT.me s1.waits_ (ev_gi hT.me (v := zI (ws.length : Int)) (by rw [← hm1, up_at]) (ev_ai ws.length hT.waits_ rfl (by omega) (by omega) (by rw [o1 _ (by omega)]; exact x70) (ev_eq (X12_puts_eq hT s1 (by rw [f1 _ (by omega)]; exact x5) (by omega)) ?_)))
        generalize hm2 : mm_up (mm_up m1 (q + 9) (tp + (ecB cs).length) (.int (zI (mcd w)))) q 25 (.int (zI (tp + (ecB cs).length + 1 : Nat))) = m2
        have o2 : ∀ b, b ≠ q → b ≠ q + 9 → m2 b = m b := fun b h1 h2 => by rw [← hm2, up_row _ _ _ h1, up_row _ _ _ h2, o1 b h1]
        have f2 : ∀ k, k ≠ 25 → k ≠ 26 → m2 q k = m q k := fun k h1 h2 => by rw [← hm2, up_ne _ _ (Or.inr h1), up_row _ _ _ (by omega), f1 k h2]
        have hec : ecB (cs ++ [w]) = ecB cs ++ [mcd w] := by rw [ecB_app, ecB_one, encC_op hw1]
        have X2 : mxR m2 q n T t tp (cs ++ [w]) ws := by
          refine ⟨?_, x2.keep (fun k _ _ => f2 k (by omega) (by omega)), x3.keep (o2 _ (by omega) (by omega)), by rw [f2 _ (by omega) (by omega)]; exact x4, ?_, ?_, ?_, ?_⟩
          · rw [← hm2]; exact (s1.row (up_row _ _ _ (by omega))).up (by decide)
          · rw [← hm2, up_at, hec, List.length_append, List.length_cons, List.length_nil, Nat.zero_add, Nat.add_assoc]
          · rw [← hm2, up_ne _ _ (by omega), up_row _ _ _ (by omega), ← hm1, up_at]
          · exact wsR.keep (o2 _ (by omega) (by omega)) x7.2
          · rw [hec]
            refine ecB_get x8 (fun j hj => ?_) (fun i c hc => ?_)
            · rw [← hm2, up_row _ _ _ (by omega), up_ne _ _ (by omega), o1 _ (by omega)]
            · cases i with
              | zero =>
                simp at hc
                rw [← hc, ← hm2, up_row _ _ _ (by omega)]; exact up_at _ _ _ _
              | succ i => simp at hc
        rw [okW, if_neg hno] at hok
        refine ev_mono (ih (cs ++ [w]) nn m2 hok.2.1 (by omega) (by omega) (by rw [List.length_append, List.length_cons, List.length_nil]; omega) X2) ?_
        rintro m3 ⟨z1, z2, z3, z4⟩
        refine ⟨z1, mxK.trans (m1 := m2) ⟨fun b h1 h2 _ _ => o2 b h1 h2, fun k hk => f2 k (by omega) (by omega), fun j hj => ?_⟩ z2, fun k h1 h2 => by rw [z3 k h1 h2, f2 k h1 h2], fun b h1 h2 => by rw [z4 b h1 h2, o2 b h1 h2]⟩
        rw [← hm2, up_row _ _ _ (by omega), up_ne _ _ (by omega), o1 _ (by omega)]
      · rw [if_neg h1]
        exact ev_ilp rfl rfl (by omega) (ev_ret ⟨hX', mxK.refl _ _ _, fun _ _ _ => rfl, fun _ _ _ => rfl⟩)
    · have ho := of_decide_eq_true ho
      have h0 : lv w = 0 := by rw [ho]; decide
      rw [if_neg (by omega)]
      exact ev_ret ⟨hX', mxK.refl _ _ _, fun _ _ _ => rfl, fun _ _ _ => rfl⟩
theorem X12_drops_ev {m : mm_V} {cs ws : List Int} {l l' op : Nat} (hl : 1 ≤ l' ∧ l' ≤ 10 ∧ (l = l' ∨ (l = 0 ∧ l' = 1))) (hT : modT e.1 q) (hN : 1000 < e.2.2) (hok : okW ws op) (h90 : ws.length ≤ 90) (hb : tp + 2 * cs.length + 2 * ws.length ≤ 1590) (hX : mxR m q n T t tp cs ws) : Ev (X12_drops e q (zI l) m) (fun m' => mxR m' q n T t tp (stl l' cs ws).1 (stl l' cs ws).2 ∧ mxK q tp m m' ∧ (∀ k, k ≠ 25 → k ≠ 26 → m' q k = m q k) ∧ ∀ b, b ≠ q → b ≠ q + 9 → m' b = m b) := X12_drops_loop hl hT ws cs _ m hok h90 (by omega) hb hX
/-- the next token -/
theorem X12_goes_ev {m : mm_V} {cs ws : List Int} (hT : modT e.1 q) (hN : 1000 < e.2.2) (hv : tkV T n t) (hX : mxR m q n T t tp cs ws) : Ev (X12_goes e q m) (fun m' => mxR m' q n T (tok T n t.2.2) tp cs ws ∧ mxK q tp m m' ∧ (∀ k, (k < 14 ∨ 20 < k) → m' q k = m q k) ∧ ∀ b, b ≠ q → m' b = m b) := by
  obtain ⟨x1, x2, x3, x4, x5, x6, x7, x8⟩ := hX
  obtain ⟨m', e1, e2, e3, e4, e5⟩ := X12_goes_eq (e := e) hT x1 x3 x2.1 x2.2.1 hv.2.1 hN
  exact ⟨m', e1, ⟨e3, e2, x3.keep (e5 _ (by omega)), by rw [e4 _ (by omega)]; exact x4, by rw [e4 _ (by omega)]; exact x5, by rw [e4 _ (by omega)]; exact x6, wsR.keep (e5 _ (by omega)) x7, fun i c hc => by rw [e5 _ (by omega)]; exact x8 i c hc⟩, ⟨fun b h _ _ _ => e5 b h, fun k hk => e4 k (by omega), fun j _ => by rw [e5 _ (by omega)]⟩, e4, e5⟩
end EXM
