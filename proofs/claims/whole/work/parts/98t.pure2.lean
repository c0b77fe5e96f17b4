/-! A TABLE: what it lays, as pure states. -/
theorem cnt_ge1 {Q : Nat → Bool} {q : Nat} : ∀ {n : Nat}, q < n → Q q = true → 1 ≤ cnt Q n
  | 0, h, _ => by omega
  | n + 1, h, hq => by
    rw [cnt]
    by_cases hx : q = n
    · rw [← hx, if_pos hq]; omega
    · have := cnt_ge1 (n := n) (by omega) hq; omega
theorem cnt_ge2 {Q : Nat → Bool} {p q : Nat} (hpq : p < q) : ∀ {n : Nat}, q < n → Q p = true → Q q = true → 2 ≤ cnt Q n
  | 0, h, _, _ => by omega
  | n + 1, h, hp, hq => by
    rw [cnt]
    by_cases hx : q = n
    · rw [← hx, if_pos hq]
      have := cnt_ge1 (n := q) hpq hp
      omega
    · have := cnt_ge2 hpq (n := n) (by omega) hp hq; omega
theorem tot_cn {F : Nat → List Nat} (h1 : ∀ p, (F p).Nodup) (h2 : ∀ p, ∀ c ∈ F p, c < 10) : ∀ i, sumL (fun c => cnt (fun p => decide (c ∈ F p)) i) 10 = totL F i
  | 0 => sumL_0 10
  | i + 1 => by
    have e1 : (fun c => cnt (fun p => decide (c ∈ F p)) (i + 1)) = (fun c => (fun c => cnt (fun p => decide (c ∈ F p)) i) c + (fun c => (F i).count c) c) := by
      funext c
      show cnt (fun p => decide (c ∈ F p)) i + (if decide (c ∈ F i) = true then 1 else 0) = cnt (fun p => decide (c ∈ F p)) i + (F i).count c
      congr 1
      rw [(h1 i).count]
      by_cases hc : c ∈ F i
      · rw [if_pos hc, if_pos (decide_eq_true hc)]
      · rw [if_neg hc, if_neg (by rw [decide_eq_false hc]; simp)]
    rw [e1, sumL_add, tot_cn h1 h2 i, sumL_count 10 (F i) (h2 i)]
    rfl
theorem sum_19 {u : Nat → Nat} (h : ∀ c, u c ≤ (if c = 0 then 1 else 2)) : sumL u 10 ≤ 19 := by
  have h0 := h 0
  have h1 := h 1
  have h2 := h 2
  have h3 := h 3
  have h4 := h 4
  have h5 := h 5
  have h6 := h 6
  have h7 := h 7
  have h8 := h 8
  have h9 := h 9
  rw [if_pos rfl] at h0
  rw [if_neg (by omega)] at h1 h2 h3 h4 h5 h6 h7 h8 h9
  simp only [sumL]
  omega
theorem told_19 {R : RD} (h : rdI R) : totL R.2.1 6 ≤ 19 := by
  obtain ⟨-, h1, -, h3, h4, -, h6, -, -, -, h10⟩ := h
  rw [← tot_cn h3 (fun p c hc => by have := h4 p c hc; omega) 6]
  refine sum_19 (fun c => ?_)
  have := h10 c
  rw [h6] at this
  exact this
theorem told_tab {R : RD} (h : rdI R) (ha : alC R.2.2.1 = true) : tabI R.1.1 R.1.2.1 R.2.1 := by
  obtain ⟨hN6, h1, -, h3, h4, h5, h6, -⟩ := h
  refine ⟨h3, h4, h5, ?_⟩
  have h0 := (alC_iff.mp ha).1
  rw [h6] at h0
  unfold cnF at h0
  obtain ⟨w, w1, w2⟩ := cnt_one (Q := fun p => decide (0 ∈ R.2.1 p)) (n := 6) (by omega)
  have w2 : 0 ∈ R.2.1 w := of_decide_eq_true w2
  have mem6 : ∀ p, 0 ∈ R.2.1 p → p < 6 := fun p hp => by
    rcases Nat.lt_or_ge p 6 with hx | hx
    · exact hx
    · exfalso
      have hN : R.1.1 ≤ p := by
        rcases Nat.lt_or_ge p R.1.1 with hy | hy
        · omega
        · exact hy
      rw [h5 p hN] at hp; cases hp
  have hwN : w < R.1.1 := by
    rcases Nat.lt_or_ge w R.1.1 with hx | hx
    · exact hx
    · rw [h5 w hx] at w2; cases w2
  refine ⟨w, hwN, fun p => ⟨fun hp => ?_, fun hp => by rw [hp]; exact w2⟩⟩
  have hp6 := mem6 p hp
  rcases Nat.lt_trichotomy p w with hx | hx | hx
  · have := cnt_ge2 (Q := fun p => decide (0 ∈ R.2.1 p)) hx (n := 6) w1 (decide_eq_true hp) (decide_eq_true w2)
    omega
  · exact hx
  · have := cnt_ge2 (Q := fun p => decide (0 ∈ R.2.1 p)) hx (n := 6) hp6 (decide_eq_true w2) (decide_eq_true hp)
    omega
theorem tot_set {g : Nat → List Nat} {p : Nat} {l : List Nat} (hl : l.length ≤ (g p).length + 1) : ∀ n, totL (setF g p l) n ≤ totL g n + (if p < n then 1 else 0)
  | 0 => by simp [totL]
  | n + 1 => by
    have ih := tot_set hl n
    rw [totL, totL]
    by_cases hx : n = p
    · rw [hx, setF_at]
      rw [hx] at ih
      rw [if_neg (by omega)] at ih
      rw [if_pos (by omega)]
      omega
    · rw [setF_ne _ _ hx]
      by_cases hy : p < n
      · rw [if_pos hy] at ih
        rw [if_pos (by omega)]
        omega
      · rw [if_neg hy] at ih
        rw [if_neg (by omega)]
        omega
theorem tog_len (l : List Nat) (c : Nat) : (tog l c).length ≤ l.length + 1 := by
  unfold tog
  split
  · rw [List.length_append]; simp
  · rw [List.length_eraseIdx]; split <;> omega
theorem dlt_tot (N : Nat) (v : Nat → Nat) : ∀ i, totL (dlt N v i) 6 ≤ i
  | 0 => by
    show totL (fun p => dlt N v 0 p) 6 ≤ 0
    simp [totL, dlt]
  | i + 1 => by
    rw [dlt_succ]
    have h1 := tot_set (g := dlt N v i) (p := i % N) (tog_len (dlt N v i (i % N)) (v i)) 6
    have h2 := dlt_tot N v i
    have h3 : (if i % N < 6 then 1 else 0) ≤ 1 := by split <;> omega
    omega
theorem deal_19 {N P : Nat} (hP : P ≤ 9) (x : Int32) : totL (dealF N P x) 6 ≤ 19 := by
  have := dlt_tot N (dealV P x) (2 * P + 1)
  unfold dealF
  omega
def tbX (M : MI) (n : Nat) : Nat × Nat × RD := rdA M.2.1 n 700 (tok M.2.1 n 0) rd0
def tbF (R : RD) : Nat → List Nat := if R.1.2.2.2 = true then R.2.1 else dealF R.1.1 R.1.2.1 (zI R.1.2.2.1)
def tbS (R : RD) : PS := (tbF R, fun _ => 0, opn R.1.1 (tbF R), zI (0 : Nat))
def tbC1 (R : RD) : CF := (R.1.1, R.1.2.1, R.1.2.2.1, R.2.2.2.2.2.1, R.2.2.2.2.2.2)
def tbC (C : CF) (M : MI) (a : Int) : CF := if (0 ≤ a ∧ a ≤ M.1) ∧ (tbX M a.toNat).1 = 0 then tbC1 (tbX M a.toNat).2.2 else C
def tbG1 (R : RD) : GM := (tbS R, tbS R, [], none)
def tbG (G : GM) (M : MI) (a : Int) : GM := if (0 ≤ a ∧ a ≤ M.1) ∧ (tbX M a.toNat).1 = 0 then tbG1 (tbX M a.toNat).2.2 else G
def tbM (M : MI) (a : Int) : MI := if 0 ≤ a ∧ a ≤ M.1 then (if (tbX M a.toNat).1 = 0 then (0, M.2.1, -1, M.2.2.2.1, M.2.2.2.2) else (0, M.2.1, (tbX M a.toNat).2.1, M.2.2.2.1 + 1, M.2.2.2.2)) else M
def tbA (M : MI) (a : Int) (k : Nat) : Int32 ⊕ Nat := if 0 ≤ a ∧ a ≤ M.1 then .inl (zI (tbX M a.toNat).1) else .inr k
def rdG (R : RD) : Prop := rdI R ∧ (R.1.2.2.2 = true → alC R.2.2.1 = true)
theorem tb_tab {R : RD} (h : rdG R) : tabI R.1.1 R.1.2.1 (tbF R) := by
  unfold tbF
  split
  · rename_i hx
    exact told_tab h.1 (h.2 hx)
  · exact tabI_deal (by have := h.1.1.1; omega) _
theorem tb_19 {R : RD} (h : rdG R) : totL (tbF R) 6 ≤ 19 := by
  unfold tbF
  split
  · exact told_19 h.1
  · exact deal_19 h.1.2.1.2 _
theorem tb_ok {R : RD} (h : rdG R) : okS R.1.1 R.1.2.1 (tbS R) := okS_opn (by have := h.1.1.1; omega) (tb_tab h) _ _
theorem tb_pure {C : CF} {G : GM} {M : MI} {K : Nat} {R : RD} (hp : pureI C G M K) (h : rdG R) (hb : K + 1 ≤ 1000000) : pureI (tbC1 R) (tbG1 R) (0, M.2.1, -1, M.2.2.2.1, M.2.2.2.2) (K + 1) := by
  obtain ⟨-, -, -, -, ⟨p5, p6, p7, p8, p9, p10⟩, p11⟩ := hp
  have hI := h.1
  obtain ⟨i1, i2, i3, -, -, -, -, -, i9, i10, -⟩ := hI
  have ok := tb_ok h
  refine ⟨⟨i1.1, i1.2, i2.2, i3, i9, i10⟩, ⟨ok, tb_19 h⟩, ⟨ok, by show 0 ≤ 60; omega, tbS R, 0, rfl, rfl, Nat.le_refl _, by omega, fun _ => rfl⟩, fun Si Hi hx => (by cases hx), ⟨by show 0 ≤ 600; omega, fun i hi => absurd hi (by show ¬ i < 0; omega), by show (-1 : Int) ≤ -1; omega, by show (-1 : Int) ≤ 600; omega, by show M.2.2.2.1 ≤ K + 1; omega, by show M.2.2.2.2 ≤ K + 1; omega⟩, hb⟩
theorem tb_pureF {C : CF} {G : GM} {M : MI} {K pl : Nat} (hp : pureI C G M K) (hpl : pl ≤ 600) (hb : K + 1 ≤ 1000000) : pureI C G (0, M.2.1, (pl : Int), M.2.2.2.1 + 1, M.2.2.2.2) (K + 1) := by
  have hp' := hp.mono (Nat.le_succ K) hb
  obtain ⟨-, -, -, -, ⟨p5, p6, p7, p8, p9, p10⟩, p11⟩ := hp
  exact ⟨hp'.1, hp'.2.1, hp'.2.2.1, hp'.2.2.2.1, ⟨by show 0 ≤ 600; omega, fun i hi => absurd hi (by show ¬ i < 0; omega), by show (-1 : Int) ≤ pl; omega, by show (pl : Int) ≤ 600; omega, by show M.2.2.2.1 + 1 ≤ K + 1; omega, by show M.2.2.2.2 ≤ K + 1; omega⟩, hb⟩
