/-! THE READER as a pure thing. -/
/-- people, pairs, seed, fans told; fans; cards told; lines told; a person told; rules; weights -/
abbrev RD : Type := (Nat × Nat × Nat × Bool) × (Nat → List Nat) × (Nat → Nat) × (Nat → Bool) × Bool × (Nat → List Int) × (Nat → Nat)
def vaT (T : Nat → Nat) (t : TK) : Nat := (dv T t.2.1 (t.2.2 - t.2.1)).toNat
def nmF (T : Nat → Nat) (t : TK) (lo hi : Nat) : Nat := if t.1 ≠ 2 then 1 else if 4 < t.2.2 - t.2.1 ∨ vaT T t < lo ∨ hi < vaT T t then 2 else 0
def enF (T : Nat → Nat) (t : TK) : Nat := if tkC T t = 59 then 0 else 1
def loN (w : Nat) : Nat := if w = 0 then 2 else if w = 1 then 1 else 0
def hiN (w : Nat) : Nat := if w = 0 then 6 else if w = 1 then 9 else 9999
def sTl (w : Nat) (R : RD) : RD := (R.1, R.2.1, R.2.2.1, setF R.2.2.2.1 w true, R.2.2.2.2.1, R.2.2.2.2.2.1, R.2.2.2.2.2.2)
def sNm (w v : Nat) (R : RD) : RD := ((if w = 0 then v else R.1.1, if w = 1 then v else R.1.2.1, if w = 2 then v else R.1.2.2.1, R.1.2.2.2), R.2)
def sPt (R : RD) : RD := (R.1, R.2.1, R.2.2.1, R.2.2.2.1, true, R.2.2.2.2.2.1, R.2.2.2.2.2.2)
def sFt (R : RD) : RD := ((R.1.1, R.1.2.1, R.1.2.2.1, true), R.2)
def sCd (p c : Nat) (R : RD) : RD := (R.1, setF R.2.1 p (R.2.1 p ++ [c]), setF R.2.2.1 c (R.2.2.1 c + 1), R.2.2.2.1, R.2.2.2.2.1, R.2.2.2.2.2.1, R.2.2.2.2.2.2)
def sWt (j v : Nat) (R : RD) : RD := (R.1, R.2.1, R.2.2.1, R.2.2.2.1, R.2.2.2.2.1, R.2.2.2.2.2.1, setF R.2.2.2.2.2.2 j v)
def sRl (k : Nat) (cs : List Int) (R : RD) : RD := (R.1, R.2.1, R.2.2.1, R.2.2.2.1, R.2.2.2.2.1, setF R.2.2.2.2.2.1 k cs, R.2.2.2.2.2.2)
abbrev LX : Type := Nat × TK × RD
def lnN (T : Nat → Nat) (n w : Nat) (t : TK) (R : RD) : LX := if w ≠ 2 ∧ R.2.2.2.2.1 = true then (2, t, R) else if R.2.2.2.1 (6 * w) = true then (5, t, R) else if nmF T (tok T n t.2.2) (loN w) (hiN w) ≠ 0 then (nmF T (tok T n t.2.2) (loN w) (hiN w), tok T n t.2.2, R) else (enF T (tok T n (tok T n t.2.2).2.2), tok T n (tok T n t.2.2).2.2, sNm w (vaT T (tok T n t.2.2)) (sTl (6 * w) R))
def cdC (T : Nat → Nat) (t : TK) : Nat := if isW T t 7 = true then 0 else vaT T t
def cdL (T : Nat → Nat) (n p : Nat) : Nat → TK → RD → LX
  | 0, t, R => (1, t, R)
  | k + 1, t, R => if tkC T t = 59 then (0, t, R) else if isW T t 7 = false ∧ nmF T t 1 R.1.2.1 ≠ 0 then (nmF T t 1 R.1.2.1, t, R) else if cdC T t ∈ R.2.1 p ∨ (if cdC T t = 0 then 1 else 2) ≤ R.2.2.1 (cdC T t) then (4, t, R) else cdL T n p k (tok T n t.2.2) (sCd p (cdC T t) R)
def wtL (T : Nat → Nat) (n p : Nat) : Nat → Nat → TK → RD → LX
  | 0, _, t, R => (enF T (tok T n t.2.2), tok T n t.2.2, R)
  | j + 1, i, t, R => if nmF T (tok T n t.2.2) 0 99 ≠ 0 then (nmF T (tok T n t.2.2) 0 99, tok T n t.2.2, R) else wtL T n p j (i + 1) (tok T n t.2.2) (sWt (6 * p + i) (vaT T (tok T n t.2.2)) R)
def rlL (T : Nat → Nat) (n k : Nat) (t : TK) (R : RD) : LX := ((exA T n (tok T n t.2.2) ([], [], 0, true)).1, (exA T n (tok T n t.2.2) ([], [], 0, true)).2.1, sRl k (exA T n (tok T n t.2.2) ([], [], 0, true)).2.2 R)
def lnQ (T : Nat → Nat) (n w p : Nat) (t : TK) (R : RD) : LX := if w = 3 then cdL T n p 700 (tok T n t.2.2) (sFt R) else if w = 4 then rlL T n p t R else if w = 5 then rlL T n (6 + p) t R else wtL T n p 6 0 t R
def lnP (T : Nat → Nat) (n w : Nat) (t : TK) (R : RD) : LX := if nmF T (tok T n t.2.2) 0 9999 ≠ 0 then (nmF T (tok T n t.2.2) 0 9999, tok T n t.2.2, R) else if R.1.1 ≤ vaT T (tok T n t.2.2) then (3, tok T n t.2.2, R) else if R.2.2.2.1 (6 * w + vaT T (tok T n t.2.2)) = true then (5, tok T n t.2.2, R) else lnQ T n w (vaT T (tok T n t.2.2)) (tok T n t.2.2) (sPt (sTl (6 * w + vaT T (tok T n t.2.2)) R))
def lkT (T : Nat → Nat) (t : TK) : Nat := if isW T t 0 then 0 else if isW T t 1 then 1 else if isW T t 2 then 2 else if isW T t 3 then 3 else if isW T t 4 then 4 else if isW T t 5 then 5 else if isW T t 6 then 6 else 7
def lnA (T : Nat → Nat) (n : Nat) (t : TK) (R : RD) : LX := if lkT T t = 7 then (1, t, R) else if lkT T t < 3 then lnN T n (lkT T t) t R else lnP T n (lkT T t) t R
def alC (cn : Nat → Nat) : Bool := decide (cn 0 = 1) && (List.range 9).all (fun c => decide (cn (c + 1) ≠ 1))
theorem alC_iff {cn : Nat → Nat} : alC cn = true ↔ cn 0 = 1 ∧ ∀ c, 1 ≤ c → c < 10 → cn c ≠ 1 := by
  unfold alC
  rw [Bool.and_eq_true, decide_eq_true_iff, List.all_eq_true]
  constructor
  · rintro ⟨h1, h2⟩
    refine ⟨h1, fun c c1 c2 => ?_⟩
    have := h2 (c - 1) (List.mem_range.mpr (by omega))
    rw [show c - 1 + 1 = c by omega] at this
    exact of_decide_eq_true this
  · rintro ⟨h1, h2⟩
    exact ⟨h1, fun c hc => decide_eq_true (h2 (c + 1) (by omega) (by have := List.mem_range.mp hc; omega))⟩
/-- fault or 0, its place, what was told -/
def rdA (T : Nat → Nat) (n : Nat) : Nat → TK → RD → Nat × Nat × RD
  | 0, t, R => (1, t.2.1, R)
  | k + 1, t, R => if t.1 = 0 then (if R.1.2.2.2 = true ∧ alC R.2.2.1 = false then (6, n, R) else (0, n, R)) else if (lnA T n t R).1 ≠ 0 then ((lnA T n t R).1, (lnA T n t R).2.1.2.1, (lnA T n t R).2.2) else rdA T n k (tok T n (lnA T n t R).2.1.2.2) (lnA T n t R).2.2
def rd0 : RD := ((3, 5, 0, false), fun _ => [], fun _ => 0, fun _ => false, false, fun _ => [], fun _ => 0)
def cnF (F : Nat → List Nat) (c : Nat) : Nat := cnt (fun p => decide (c ∈ F p)) 6
/-- what always holds of what was told -/
def rdI (R : RD) : Prop := (2 ≤ R.1.1 ∧ R.1.1 ≤ 6) ∧ (1 ≤ R.1.2.1 ∧ R.1.2.1 ≤ 9) ∧ R.1.2.2.1 ≤ 9999 ∧ (∀ p, (R.2.1 p).Nodup) ∧ (∀ p, ∀ c ∈ R.2.1 p, c ≤ R.1.2.1) ∧ (∀ p, R.1.1 ≤ p → R.2.1 p = []) ∧ (∀ c, R.2.2.1 c = cnF R.2.1 c) ∧ (R.2.2.2.2.1 = false → ∀ p, R.2.1 p = []) ∧ (∀ k, k < 12 → R.2.2.2.2.2.1 k ≠ [] → wfc (R.2.2.2.2.2.1 k) 0) ∧ (∀ j, R.2.2.2.2.2.2 j ≤ 99) ∧ (∀ c, R.2.2.1 c ≤ (if c = 0 then 1 else 2))
theorem rdI.two {R : RD} (h : rdI R) : ∀ c, R.2.2.1 c ≤ 2 := fun c => by
  have := h.2.2.2.2.2.2.2.2.2.2 c
  split at this <;> omega
theorem vaT_eq {T : Nat → Nat} {n : Nat} {t : TK} (hv : tkV T n t) (h2 : t.1 = 2) (h4 : t.2.2 - t.2.1 ≤ 4) : dv T t.2.1 (t.2.2 - t.2.1) = vaT T t ∧ vaT T t ≤ 9999 := by
  have := dv_4 (T := T) (s := t.2.1) (k := t.2.2 - t.2.1) h4 (fun i hi => hv.2.2.2.2.2.2.1 h2 _ (by omega) (by omega))
  unfold vaT
  omega
theorem nmF_0 {T : Nat → Nat} {t : TK} {lo hi : Nat} (h : nmF T t lo hi = 0) : t.1 = 2 ∧ t.2.2 - t.2.1 ≤ 4 ∧ lo ≤ vaT T t ∧ vaT T t ≤ hi := by
  unfold nmF at h
  by_cases h2 : t.1 ≠ 2
  · rw [if_pos h2] at h; omega
  rw [if_neg h2] at h
  by_cases h3 : 4 < t.2.2 - t.2.1 ∨ vaT T t < lo ∨ hi < vaT T t
  · rw [if_pos h3] at h; omega
  · omega
theorem nmF_le (T : Nat → Nat) (t : TK) (lo hi : Nat) : nmF T t lo hi ≤ 2 := by unfold nmF; (repeat' split) <;> omega
/-! the class's reader -/
def rcT (m : mm_V) (d cc : Nat) (R : RD) : Prop := toldS m d ∧ m d 6 = .int (zI R.1.1) ∧ m d 7 = .int (zI R.1.2.1) ∧ m d 8 = .int (zI R.1.2.2.1) ∧ m d 9 = .int (zI cc) ∧ m d 10 = .int (bZ R.1.2.2.2) ∧ toldF m d R.2.1 ∧ (∀ i, i < 36 → m (d + 2) i = .int (zI (R.2.2.2.2.2.2 i))) ∧ ∀ k, k < 12 → ∃ a b : Nat, m (d + 4) k = .int (zI a) ∧ m (d + 5) k = .int (zI b) ∧ a + (R.2.2.2.2.2.1 k).length = b ∧ b ≤ cc ∧ ∀ (i : Nat) (c : Int), (R.2.2.2.2.2.1 k)[i]? = some c → m (d + 3) (a + i) = .int (zI c)
def rcS (m : mm_V) (r : Nat) : Prop := m r 0 = .ref (r + 1) ∧ m r 1 = .ref (r + 5) ∧ m r 2 = .ref (r + 3) ∧ m r 3 = .ref (r + 4) ∧ m (r + 5) 0 = .ref (r + 6) ∧ m (r + 5) 4 = .ref (r + 1) ∧ ∃ v, m (r + 1) 5 = .int v
def rcD (m : mm_V) (r d : Nat) (R : RD) : Prop := rcS m r ∧ m r 4 = .ref d ∧ m r 5 = .int (bZ R.2.2.2.2.1) ∧ (∀ c, c < 10 → m (r + 3) c = .int (zI (R.2.2.1 c))) ∧ ∀ j, j < 42 → m (r + 4) j = .int (bZ (R.2.2.2.1 j))
def frC (d r : Nat) (m m' : mm_V) : Prop := ∀ b, (b < d ∨ (d + 19 ≤ b ∧ b < r) ∨ r + 7 ≤ b) → m' b = m b
theorem frC.trans {d r : Nat} {m m1 m2 : mm_V} (h : frC d r m m1) (k : frC d r m1 m2) : frC d r m m2 := fun b hb => by rw [k b hb, h b hb]
theorem rcT.keep {m m' : mm_V} {d cc : Nat} {R : RD} (h : rcT m d cc R) (hk : ∀ b, d ≤ b → b < d + 19 → m' b = m b) : rcT m' d cc R := by
  obtain ⟨⟨s0, s1, s2, s3, s4, s5, s6⟩, h1, h2, h3, h4, h5, h6, h7, h8⟩ := h
  have hd := hk d (by omega) (by omega)
  refine ⟨⟨by rw [hd]; exact s0, by rw [hd]; exact s1, by rw [hd]; exact s2, by rw [hd]; exact s3, by rw [hd]; exact s4, by rw [hd]; exact s5, fun i hi => by rw [hk _ (by omega) (by omega)]; exact s6 i hi⟩, by rw [hd]; exact h1, by rw [hd]; exact h2, by rw [hd]; exact h3, by rw [hd]; exact h4, by rw [hd]; exact h5, fun i hi => ?_, fun i hi => by rw [hk _ (by omega) (by omega)]; exact h7 i hi, fun k hk' => ?_⟩
  · obtain ⟨a1, a2, a3, a4⟩ := h6 i hi
    exact ⟨by rw [hk _ (by omega) (by omega)]; exact a1, by rw [hk _ (by omega) (by omega)]; exact a2, a3, fun k c hc => by rw [hk _ (by omega) (by omega)]; exact a4 k c hc⟩
  · obtain ⟨a, b, a1, a2, a3, a4, a5⟩ := h8 k hk'
    exact ⟨a, b, by rw [hk _ (by omega) (by omega)]; exact a1, by rw [hk _ (by omega) (by omega)]; exact a2, a3, a4, fun i c hc => by rw [hk _ (by omega) (by omega)]; exact a5 i c hc⟩
theorem rcS.keep {m m' : mm_V} {r : Nat} (h : rcS m r) (h0 : ∀ j, j < 4 → m' r j = m r j) (h5 : m' (r + 5) 0 = m (r + 5) 0 ∧ m' (r + 5) 4 = m (r + 5) 4) (h1 : ∃ v, m' (r + 1) 5 = .int v) : rcS m' r := by
  obtain ⟨a0, a1, a2, a3, a4, a5, a6⟩ := h
  exact ⟨by rw [h0 _ (by omega)]; exact a0, by rw [h0 _ (by omega)]; exact a1, by rw [h0 _ (by omega)]; exact a2, by rw [h0 _ (by omega)]; exact a3, by rw [h5.1]; exact a4, by rw [h5.2]; exact a5, h1⟩
theorem rcD.keep {m m' : mm_V} {r d : Nat} {R : RD} (h : rcD m r d R) (hr : m' r = m r) (h3 : m' (r + 3) = m (r + 3)) (h4 : m' (r + 4) = m (r + 4)) (h5 : m' (r + 5) = m (r + 5)) (h1 : ∃ v, m' (r + 1) 5 = .int v) : rcD m' r d R := by
  obtain ⟨a0, a1, a2, a3, a4⟩ := h
  exact ⟨a0.keep (fun j _ => by rw [hr]) ⟨by rw [h5], by rw [h5]⟩ h1, by rw [hr]; exact a1, by rw [hr]; exact a2, fun c hc => by rw [h3]; exact a3 c hc, fun j hj => by rw [h4]; exact a4 j hj⟩
/-- all of the class's reader at a token -/
def rcR (e : mm_E) (m : mm_V) (x d r n : Nat) (T : Nat → Nat) (t : TK) (cc : Nat) (R : RD) : Prop := rcT m d cc R ∧ rcD m r d R ∧ tkR m (r + 1) x n T t ∧ txR m x n T ∧ strS e m
section RDC
variable {e : mm_E} {x d r n cc : Nat} {T : Nat → Nat} {t : TK} {R : RD}
theorem X9_next_ev {m : mm_V} (hR : rdT e x d r) (hv : tkV T n t) (hC : rcR e m x d r n T t cc R) : Ev (X9_next e (r + 1) m) (fun m' => rcR e m' x d r n T (tok T n t.2.2) cc R ∧ ∀ b, b ≠ r + 1 → m' b = m b) := by
  obtain ⟨c1, c2, c3, c4, c5⟩ := hC
  obtain ⟨hx, hD, h8, h9, h83, h84, h1, h6, hxd, hdr, hst, hN⟩ := hR
  obtain ⟨m', e1, e2, e3⟩ := X9_next_eq (e := e) (b := t.2.2) h9 hx (by omega) c4 c3.1 c3.2.1 c3.2.2.2.1 hv.2.1 c3.2.2.2.2.2.2 hN
  exact ⟨m', e1, ⟨c1.keep (fun b h1 h2 => e3 b (by omega)), c2.keep (e3 _ (by omega)) (e3 _ (by omega)) (e3 _ (by omega)) (e3 _ (by omega)) e2.2.2.2.2.2.2, e2, c4.keep (e3 _ (by omega)), c5.keep hst (fun b hb => e3 b (by omega))⟩, e3⟩
theorem X8_numberFault_eq {m : mm_V} {lo hi : Nat} (hR : rdT e x d r) (hv : tkV T n t) (hC : rcR e m x d r n T t cc R) (hh : lo ≤ 20000 ∧ hi ≤ 20000) : X8_numberFault e r (zI lo) (zI hi) m = some (zI (nmF T t lo hi), m) := by
  obtain ⟨c1, c2, c3, c4, c5⟩ := hC
  obtain ⟨hx, hD, h8, h9, h83, h84, h1, h6, hxd, hdr, hst, hN⟩ := hR
  have hb := tkC_bd c4 hv
  suffices h : Ev (X8_numberFault e r (zI lo) (zI hi) m) (fun y => y = (zI (nmF T t lo hi), m)) by
    obtain ⟨y, h1, h2⟩ := h
    rw [h1, h2]
  unfold X8_numberFault X8_numberFault_b50 X8_numberFault_b51 X8_numberFault_b61
  simp only [LT, zI_neg]
  refine ev_gr h8 c2.1.1 (ev_gi h9 c3.2.2.2.2.1 ?_)
  by_cases h2 : t.1 = 2
  · have hk := (tkC_2 hv).mpr h2
    refine ev_iqp rfl rfl (by omega) (ev_gr h8 c2.1.1 (ev_tg h9 (ev_eq (X9_isTooLong_eq h9 c3 hv c4.1) (ev_bn (fun a => ?_) (fun a => ?_)))))
    · have a := of_decide_eq_false a
      have hva := vaT_eq hv h2 (by omega)
      have c5' := c3.2.2.2.2.2.1 h2
      rw [hva.1] at c5'
      refine ev_gr h8 c2.1.1 (ev_gi h9 c5' ?_)
      by_cases hlo : vaT T t < lo
      · refine ev_ilp rfl rfl (by omega) ?_
        simp only [if_true]
        exact ev_ret (by unfold nmF; rw [if_neg (by omega), if_pos (by omega)]; rfl)
      refine ev_iln rfl rfl (by omega) (ev_gr h8 c2.1.1 (ev_gi h9 c5' ?_))
      by_cases hhi : hi < vaT T t
      · refine ev_ilp rfl rfl (by omega) ?_
        simp only [if_true]
        exact ev_ret (by unfold nmF; rw [if_neg (by omega), if_pos (by omega)]; rfl)
      refine ev_iln rfl rfl (by omega) (ev_iqn rfl rfl (by omega) (ev_ret (by unfold nmF; rw [if_neg (by omega), if_neg (by omega)]; rfl)))
    · have a := of_decide_eq_true a
      simp only [if_true]
      exact ev_ret (by unfold nmF; rw [if_neg (by omega), if_pos (by omega)]; rfl)
  · have hk : tkC T t ≠ 48 := fun h => h2 ((tkC_2 hv).mp h)
    exact ev_iqn rfl rfl (by omega) (ev_ret (by unfold nmF; rw [if_pos h2]; rfl))
theorem X8_endFault_ev {m : mm_V} (hR : rdT e x d r) (hv : tkV T n t) (hC : rcR e m x d r n T t cc R) : Ev (X8_endFault e r m) (fun y => y.1 = zI (enF T (tok T n t.2.2)) ∧ rcR e y.2 x d r n T (tok T n t.2.2) cc R ∧ ∀ b, b ≠ r + 1 → y.2 b = m b) := by
  have h8 := hR.2.2.1
  have h9 := hR.2.2.2.1
  unfold X8_endFault X8_endFault_b24
  simp only [LT, zI_neg]
  refine ev_gr h8 hC.2.1.1.1 (ev_tg h9 (ev_call (X9_next_ev hR hv hC) ?_))
  rintro m1 ⟨C1, o1⟩
  obtain ⟨hv', -⟩ := tok_V T (b := t.2.2) hv.2.1
  have hb := tkC_bd C1.2.2.2.1 hv'
  refine ev_gr h8 C1.2.1.1.1 (ev_gi h9 C1.2.2.1.2.2.2.2.1 ?_)
  unfold enF
  by_cases h : tkC T (tok T n t.2.2) = 59
  · rw [if_pos h]; exact ev_inn rfl rfl (by omega) (ev_ret ⟨rfl, C1, o1⟩)
  · rw [if_neg h]; exact ev_inp rfl rfl (by omega) (ev_ret ⟨rfl, C1, o1⟩)
theorem X8_isTold_ev {m : mm_V} {w p : Nat} (hR : rdT e x d r) (hC : rcR e m x d r n T t cc R) (hw : 6 * w + p < 42) : Ev (X8_isTold e r (zI w) (zI p) m) (fun y => (R.2.2.2.1 (6 * w + p) = true → y.1 = zI 1 ∧ y.2 = m) ∧ (R.2.2.2.1 (6 * w + p) = false → y.1 = zI 0 ∧ rcR e y.2 x d r n T t cc (sTl (6 * w + p) R) ∧ ∀ b, b ≠ r + 4 → y.2 b = m b)) := by
  obtain ⟨c1, c2, c3, c4, c5⟩ := hC
  obtain ⟨hx, hD, h8, h9, h83, h84, h1, h6, hxd, hdr, hst, hN⟩ := hR
  unfold X8_isTold X8_isTold_b29
  simp only [LT, zI_neg]
  have hz : (zI (w : Int) * zI 6 + zI (p : Int) : Int32) = zI ((6 * w + p : Nat) : Int) := by rw [zI_mul, zI_add]; congr 1; omega
  rw [hz]
  refine ev_iln rfl rfl (by omega) (ev_gr h8 c2.1.2.2.2.1 (ev_ln h84 (by decide) (ev_ien rfl rfl (by omega) (ev_gr h8 c2.1.2.2.2.1 (ev_ai (6 * w + p) h84 rfl (by omega) (by omega) (c2.2.2.2.2 _ (by omega)) (ev_bz (fun a => ?_) (fun a => ?_)))))))
  · refine ev_gr h8 c2.1.2.2.2.1 (ev_sz (6 * w + p) h84 rfl (by omega) (by omega) (Or.inr rfl) (ev_rz (Or.inl rfl) ⟨fun h => absurd (h.symm.trans a) (by simp), fun _ => ⟨rfl, ?_, fun b hb => up_row _ _ _ hb⟩⟩))
    generalize hm1 : mm_up m (r + 4) (6 * w + p) (.int (zI 1)) = m1
    have o1 : ∀ b, b ≠ r + 4 → m1 b = m b := fun b hb => by rw [← hm1, up_row _ _ _ hb]
    obtain ⟨d0, d1, d2, d3, d4⟩ := c2
    show rcR e m1 x d r n T t cc (sTl (6 * w + p) R)
    refine ⟨c1.keep (fun b x1 x2 => o1 b (by omega)), ⟨d0.keep (fun j _ => by rw [o1 _ (by omega)]) ⟨by rw [o1 _ (by omega)], by rw [o1 _ (by omega)]⟩ (by rw [o1 _ (by omega)]; exact d0.2.2.2.2.2.2), by rw [o1 _ (by omega)]; exact d1, by rw [o1 _ (by omega)]; exact d2, fun c hc => by rw [o1 _ (by omega)]; exact d3 c hc, fun j hj => ?_⟩, ?_, c4.keep (o1 _ (by omega)), c5.keep hst (fun b hb => o1 b (by omega))⟩
    · show m1 (r + 4) j = .int (bZ (setF R.2.2.2.1 (6 * w + p) true j))
      unfold setF
      by_cases hj2 : j = 6 * w + p
      · rw [if_pos hj2, hj2, ← hm1, up_at]; rfl
      · rw [if_neg hj2, ← hm1, up_ne _ _ (Or.inr hj2)]; exact d4 j hj
    · obtain ⟨a0, a1, a2, a3, a4, a5, a6⟩ := c3
      have f1 := o1 (r + 1) (by omega)
      exact ⟨by rw [f1]; exact a0, by rw [f1]; exact a1, by rw [f1]; exact a2, by rw [f1]; exact a3, by rw [f1]; exact a4, by rw [f1]; exact a5, by rw [f1]; exact a6⟩
  · exact ev_rz (Or.inr rfl) ⟨fun _ => ⟨rfl, rfl⟩, fun h => absurd (h.symm.trans a) (by simp)⟩
end RDC
