/-! BELIEF of the class: what is known at first, all of it. -/
def owL (f : Nat → List Nat) (p : Nat) : Nat → List Nat
  | 0 => []
  | i + 1 => owL f p i ++ (if i = p then [] else List.replicate (f i).length i)
def lfL (f : Nat → List Nat) (p : Nat) : Nat → Nat → Nat
  | 0, _ => 0
  | i + 1, c => lfL f p i c + (if i = p then 0 else (f i).count c)
def g0L (f : Nat → List Nat) (p : Nat) : Nat → List Nat := fun o => if o = p then f o else []
def totL (f : Nat → List Nat) : Nat → Nat
  | 0 => 0
  | i + 1 => totL f i + (f i).length
theorem owL_len (f : Nat → List Nat) (p : Nat) : ∀ i, (owL f p i).length ≤ totL f i
  | 0 => Nat.le_refl _
  | i + 1 => by
    have := owL_len f p i
    rw [owL, totL, List.length_append]
    split
    · rw [List.length_nil]; omega
    · rw [List.length_replicate]; omega
theorem owL_count (f : Nat → List Nat) (p o : Nat) : ∀ i, (owL f p i).count o = if o < i ∧ o ≠ p then (f o).length else 0
  | 0 => by rw [if_neg (by omega)]; rfl
  | i + 1 => by
    rw [owL, List.count_append, owL_count f p o i]
    by_cases hi : i = p
    · rw [if_pos hi, List.count_nil]
      by_cases ho : o < i ∧ o ≠ p
      · rw [if_pos ho, if_pos (show o < i + 1 ∧ o ≠ p from ⟨by omega, ho.2⟩)]; rfl
      · rw [if_neg ho, if_neg (show ¬ (o < i + 1 ∧ o ≠ p) from by omega)]
    · rw [if_neg hi, List.count_replicate]
      by_cases ho : o = i
      · subst ho
        rw [if_neg (show ¬ (o < o ∧ o ≠ p) from by omega), if_pos (show o < o + 1 ∧ o ≠ p from ⟨by omega, hi⟩), if_pos (by simp)]; omega
      · have : ¬ ((i == o) = true) := by simp; omega
        rw [if_neg this]
        by_cases ho2 : o < i ∧ o ≠ p
        · rw [if_pos ho2, if_pos (show o < i + 1 ∧ o ≠ p from ⟨by omega, ho2.2⟩)]; rfl
        · rw [if_neg ho2, if_neg (show ¬ (o < i + 1 ∧ o ≠ p) from by omega)]
theorem owL_mem (f : Nat → List Nat) (p o : Nat) (i : Nat) (h : o ∈ owL f p i) : o < i ∧ o ≠ p ∧ 0 < (f o).length := by
  have := List.count_pos_iff.mpr h
  rw [owL_count] at this
  by_cases ho : o < i ∧ o ≠ p
  · rw [if_pos ho] at this; exact ⟨ho.1, ho.2, this⟩
  · rw [if_neg ho] at this; omega
theorem sumL_count : ∀ (n : Nat) (l : List Nat), (∀ x ∈ l, x < n) → sumL (fun c => l.count c) n = l.length
  | 0, [], _ => rfl
  | 0, x :: _, h => absurd (h x (by simp)) (by omega)
  | n + 1, l, h => by
    have h3 := sumL_count n (l.filter (fun x => !(x == n))) (fun x hx => by
      obtain ⟨a, b⟩ := List.mem_filter.mp hx
      have := h x a
      have : x ≠ n := by simpa using b
      omega)
    have hs : ∀ k, k ≤ n → sumL (fun c => (l.filter (fun x => !(x == n))).count c) k = sumL (fun c => l.count c) k := by
      intro k
      induction k with
      | zero => intro _; rfl
      | succ k ih =>
        intro hk
        rw [sumL, sumL, ih (by omega), List.count_filter (by simp; omega)]
    rw [sumL, ← hs n (Nat.le_refl _), h3]
    have : ∀ l : List Nat, (l.filter (fun x => !(x == n))).length + l.count n = l.length := by
      intro l
      induction l with
      | nil => rfl
      | cons x xs ih =>
        rw [List.filter_cons, List.count_cons]
        by_cases hx : x = n
        · simp [hx]; omega
        · simp [hx]; omega
    exact this l
theorem sumL_add (u v : Nat → Nat) : ∀ n, sumL (fun c => u c + v c) n = sumL u n + sumL v n
  | 0 => rfl
  | n + 1 => by rw [sumL, sumL, sumL, sumL_add u v n]; omega
theorem sumL_0 : ∀ n, sumL (fun _ => 0) n = 0
  | 0 => rfl
  | n + 1 => by rw [sumL, sumL_0 n]
theorem lfL_sum {f : Nat → List Nat} {p : Nat} (h : ∀ o, ∀ x ∈ f o, x < 10) : ∀ i, sumL (lfL f p i) 10 = (owL f p i).length
  | 0 => sumL_0 10
  | i + 1 => by
    have e1 : lfL f p (i + 1) = fun c => lfL f p i c + (fun c => if i = p then 0 else (f i).count c) c := by funext c; rw [lfL]
    rw [e1, sumL_add, lfL_sum h i, owL, List.length_append]
    by_cases hi : i = p
    · simp only [if_pos hi]; rw [sumL_0]; rfl
    · simp only [if_neg hi]; rw [sumL_count 10 _ (h i), List.length_replicate]
theorem lfL_ne {f : Nat → List Nat} {p c : Nat} : ∀ {i}, lfL f p i c ≠ 0 → ∃ o, o < i ∧ o ≠ p ∧ c ∈ f o
  | 0, h => absurd rfl h
  | i + 1, h => by
    rw [lfL] at h
    by_cases hi : lfL f p i c = 0
    · by_cases hp : i = p
      · rw [if_pos hp] at h; omega
      · rw [if_neg hp] at h
        exact ⟨i, by omega, hp, List.count_pos_iff.mp (by omega)⟩
    · obtain ⟨o, a, b, d⟩ := lfL_ne hi; exact ⟨o, by omega, b, d⟩
theorem lfL_one {N P p w : Nat} {f : Nat → List Nat} (h : tabI N P f) (hw : ∀ o, 0 ∈ f o ↔ o = w) : ∀ i, lfL f p i 0 = if w < i ∧ w ≠ p then 1 else 0
  | 0 => by rw [if_neg (by omega)]; rfl
  | i + 1 => by
    rw [lfL, lfL_one h hw i]
    by_cases hi : i = p
    · rw [if_pos hi]
      by_cases ho : w < i ∧ w ≠ p
      · rw [if_pos ho, if_pos ⟨by omega, ho.2⟩]
      · rw [if_neg ho, if_neg (by omega)]
    · rw [if_neg hi]
      by_cases ho : w = i
      · subst ho
        rw [if_neg (by omega), if_pos ⟨by omega, hi⟩, (h.1 w).count, if_pos ((hw w).mpr rfl)]
      · have : (f i).count 0 = 0 := List.count_eq_zero.mpr (fun hh => ho ((hw i).mp hh).symm)
        rw [this]
        by_cases ho2 : w < i ∧ w ≠ p
        · rw [if_pos ho2, if_pos ⟨by omega, ho2.2⟩]
        · rw [if_neg ho2, if_neg (by omega)]
theorem arI_0 {N P p : Nat} {f : Nat → List Nat} (h : tabI N P f) (hP : P ≤ 9) (h6 : N ≤ 6) (hp : p < N) : arI N P p f (owL f p 6) (owL f p 6).length 0 (g0L f p) (lfL f p 6) := by
  obtain ⟨w, hwN, hw⟩ := h.2.2.2
  have hx : ∀ o, ∀ x ∈ f o, x < 10 := fun o x hx => by have := h.2.1 o x hx; omega
  refine ⟨by omega, fun o => ?_, fun o x hx => ?_, fun o ho => ?_, fun c hc => ?_, lfL_sum hx 6, ?_, fun o => ?_, fun j hj => ?_⟩
  · unfold g0L; split
    · exact h.1 o
    · exact List.nodup_nil
  · unfold g0L at hx; split at hx
    · exact h.2.1 o x hx
    · cases hx
  · unfold g0L; rw [if_neg (by omega)]
  · obtain ⟨o, -, -, d⟩ := lfL_ne hc; exact h.2.1 o c d
  · by_cases hwp : w = p
    · left
      refine ⟨w, hwN, fun o => ?_, by rw [lfL_one h hw, if_neg (by omega)]⟩
      unfold g0L
      by_cases ho : o = p
      · rw [if_pos ho]; exact hw o
      · rw [if_neg ho]; exact Iff.intro (fun hh => absurd hh (by simp)) (fun hh => absurd (hh.trans hwp) ho)
    · right
      refine ⟨fun o hh => ?_, by rw [lfL_one h hw, if_pos ⟨by omega, hwp⟩]⟩
      unfold g0L at hh
      by_cases ho : o = p
      · rw [if_pos ho] at hh; exact hwp (((hw o).mp hh).symm.trans ho)
      · rw [if_neg ho] at hh; cases hh
  · rw [List.drop_zero, owL_count]
    unfold g0L
    by_cases ho : o = p
    · rw [if_pos ho, if_neg (by omega)]; rfl
    · rw [if_neg ho]
      by_cases h6' : o < 6
      · rw [if_pos ⟨h6', ho⟩]; simp
      · rw [if_neg (by omega), h.2.2.1 o (by omega)]; rfl
  · have hm : gO (owL f p 6) j ∈ owL f p 6 := by
      unfold gO
      rw [List.getD_eq_getElem?_getD, List.getElem?_eq_getElem hj, Option.getD_some]
      exact List.getElem_mem hj
    obtain ⟨a, b, d⟩ := owL_mem f p _ 6 hm
    by_cases hN : gO (owL f p 6) j < N
    · exact hN
    · rw [h.2.2.1 _ (by omega)] at d; exact absurd d (by simp)
section WEIGH
variable {e : mm_E} {w N P p l t : Nat} {wt : Option Nat} {H : List QR} {R : List PR} {f0 : Nat → List Nat}
def spS (m : mm_V) (w : Nat) (ow : List Nat) (lf : Nat → Nat) : Prop := m w 10 = .int (zI ow.length) ∧ (∀ c, c < 10 → m (w + 5) c = .int (zI (lf c))) ∧ ∀ j, j < ow.length → m (w + 6) j = .int (zI (gO ow j))
theorem gO_app {ow : List Nat} {x j : Nat} (hj : j < ow.length + 1) : gO (ow ++ [x]) j = if j = ow.length then x else gO ow j := by
  unfold gO
  by_cases h : j = ow.length
  · rw [if_pos h, h]; simp
  · rw [if_neg h, List.getD_eq_getElem?_getD, List.getD_eq_getElem?_getD, List.getElem?_append_left (by omega)]
theorem X0_spread_loop (ht : belT e.1 w) {fa who : Nat} {l : List Nat} (hfT : fanT e.1 fa) (hfw : fa + 2 ≤ w ∨ w + 33 ≤ fa) (hl : ∀ x ∈ l, x < 10) : ∀ (j i nn : Nat) (m : mm_V) (ow : List Nat) (lf : Nat → Nat), i + j = l.length → j < nn → belS m w → fanR m fa l → spS m w ow lf → ow.length + j ≤ 19 → ∃ m', X0_spread_L2 e w (zI who) fa nn (zI i) m = some m' ∧ spS m' w (ow ++ List.replicate j who) (fun c => lf c + (l.drop i).count c) ∧ (∀ k, k ≠ 10 → m' w k = m w k) ∧ ∀ b, b ≠ w → b ≠ w + 5 → b ≠ w + 6 → m' b = m b := by
  intro j
  induction j with
  | zero =>
    intro i nn m ow lf hi hn s hf hS h19
    obtain ⟨nn, rfl⟩ : ∃ n', nn = n' + 1 := ⟨nn - 1, by omega⟩
    have hl10 := hf.2.2.1
    refine ⟨m, ?_, ⟨by simpa using hS.1, fun c hc => ?_, by simpa using hS.2.2⟩, fun _ _ => rfl, fun _ _ _ _ => rfl⟩
    · rw [X0_spread_L2, rd_gi hfT.1 hf.2.1, Option.bind_some, iep (by omega)]; rfl
    · rw [List.drop_of_length_le (by omega)]; dsimp only; rw [List.count_nil]; exact hS.2.1 c hc
  | succ j ih =>
    intro i nn m ow lf hi hn s hf hS h19
    obtain ⟨nn, rfl⟩ : ∃ n', nn = n' + 1 := ⟨nn - 1, by omega⟩
    have hl10 := hf.2.2.1
    have hx : l[i]? = some (l[i]'(by omega)) := List.getElem?_eq_getElem (by omega)
    generalize hxx : (l[i]'(by omega)) = x at hx
    have hx10 : x < 10 := hl x (List.mem_of_getElem? hx)
    have hdr : l.drop i = x :: l.drop (i + 1) := by rw [← hxx]; exact List.drop_eq_getElem_cons (by omega)
    generalize hm1 : mm_up m (w + 5) x (.int (zI (lf x + 1 : Nat))) = m1
    generalize hm2 : mm_up m1 (w + 6) ow.length (.int (zI who)) = m2
    generalize hm3 : mm_up m2 w 10 (.int (zI (ow.length + 1 : Nat))) = m3
    have r1 : ∀ b, b ≠ w + 5 → m1 b = m b := fun b h => by rw [← hm1, up_row _ _ _ h]
    have r2 : ∀ b, b ≠ w + 6 → m2 b = m1 b := fun b h => by rw [← hm2, up_row _ _ _ h]
    have r3 : ∀ b, b ≠ w → m3 b = m2 b := fun b h => by rw [← hm3, up_row _ _ _ h]
    have w3 : ∀ k, k ≠ 10 → m3 w k = m w k := fun k h => by rw [← hm3, up_ne _ _ (Or.inr h), r2 _ (by omega), r1 _ (by omega)]
    have hb : ∀ b, b ≠ w → b ≠ w + 5 → b ≠ w + 6 → m3 b = m b := fun b x1 x2 x3 => by rw [r3 b x1, r2 b x3, r1 b x2]
    have hlen : (ow ++ [who]).length = ow.length + 1 := by simp
    have S3 : spS m3 w (ow ++ [who]) (fun c => lf c + if x = c then 1 else 0) := by
      refine ⟨by rw [hlen, ← hm3, up_at], fun c hc => ?_, fun k hk => ?_⟩
      · rw [r3 _ (by omega), r2 _ (by omega), ← hm1]
        dsimp only
        by_cases hxc : x = c
        · subst hxc; rw [up_at, if_pos rfl]
        · rw [up_ne _ _ (Or.inr (fun hh => hxc hh.symm)), if_neg hxc]; exact hS.2.1 c hc
      · rw [hlen] at hk
        rw [r3 _ (by omega), ← hm2, gO_app hk]
        by_cases hkk : k = ow.length
        · subst hkk; rw [up_at, if_pos rfl]
        · rw [up_ne _ _ (Or.inr hkk), if_neg hkk, r1 _ (by omega)]; exact hS.2.2 k (by omega)
    obtain ⟨m', e1, e2, e3, e4⟩ := ih (i + 1) nn m3 (ow ++ [who]) _ (by omega) (by omega) (s.keep (fun k _ => w3 k (by omega)) (hb _ (by omega) (by omega) (by omega)) (hb _ (by omega) (by omega) (by omega))) (hf.keep (hb _ (by omega) (by omega) (by omega)) (hb _ (by omega) (by omega) (by omega))) S3 (by rw [hlen]; omega)
    refine ⟨m', ?_, ?_, fun k hk => by rw [e3 k hk, w3 k hk], fun b x1 x2 x3 => by rw [e4 b x1 x2 x3, hb b x1 x2 x3]⟩
    · rw [X0_spread_L2, rd_gi hfT.1 hf.2.1, Option.bind_some]
      unfold X0_spread_b49
      simp only [LT]
      rw [ien (by omega), rd_gi ht.1 hS.1, Option.bind_some, ien (by omega), if_pos hfT.1, X3_card_eq hfT hf hx, Option.bind_some]
      simp only
      rw [iln (by omega), ien (by omega), rd_gr ht.1 s.2.2.2.1, Option.bind_some, rd_ai ht.2.2.2.2.1 (z := (x : Int)) (i := x) rfl (by omega) (by omega) (hS.2.1 x hx10), Option.bind_some, wr_si ht.2.2.2.2.1 (z := (x : Int)) (i := x) rfl (by omega) (by omega), Option.bind_some, show (zI (lf x : Int) + zI 1 : Int32) = zI ((lf x + 1 : Nat) : Int) from zI_add _ _, hm1, rd_gr ht.1 (v := w + 6) (by rw [r1 _ (by omega)]; exact s.2.2.2.2.1), Option.bind_some, rd_gi ht.1 (v := zI ow.length) (by rw [r1 _ (by omega)]; exact hS.1), Option.bind_some, wr_si ht.2.2.2.2.2.1 (z := (ow.length : Int)) (i := ow.length) rfl (by omega) (by omega), Option.bind_some, hm2, rd_gi ht.1 (v := zI ow.length) (by rw [r2 _ (by omega), r1 _ (by omega)]; exact hS.1), Option.bind_some, show (zI (ow.length : Int) + zI 1 : Int32) = zI ((ow.length + 1 : Nat) : Int) from zI_add _ _, wr_pf ht.1, Option.bind_some, hm3, show (zI (i : Int) + zI 1 : Int32) = zI ((i + 1 : Nat) : Int) from zI_add _ _]
      exact e1
    · have e5 : (ow ++ [who] ++ List.replicate j who) = ow ++ List.replicate (j + 1) who := by rw [List.append_assoc]; rfl
      rw [e5] at e2
      refine ⟨e2.1, fun c hc => ?_, e2.2.2⟩
      rw [e2.2.1 c hc, hdr]
      dsimp only
      rw [List.count_cons]
      by_cases hxc : x = c
      · simp only [if_pos hxc, hxc, beq_self_eq_true]; congr 2; omega
      · have : (x == c) = false := by simpa using hxc
        simp only [if_neg hxc, this]; congr 2
theorem X0_forget_6 (ht : belT e.1 w) : ∀ (j i nn : Nat) (m : mm_V), i + j = 6 → j < nn → belS m w → (∀ k, k < i → m (w + 7) k = .int (zI 0)) → ∃ m', X0_forget_L45 e w nn (zI i) m = some m' ∧ (∀ k, k < 6 → m' (w + 7) k = .int (zI 0)) ∧ ∀ b, b ≠ w + 7 → m' b = m b := by
  intro j
  induction j with
  | zero =>
    intro i nn m hi hn s h0
    obtain ⟨nn, rfl⟩ : ∃ n', nn = n' + 1 := ⟨nn - 1, by omega⟩
    refine ⟨m, ?_, fun k hk => h0 k (by omega), fun _ _ => rfl⟩
    rw [X0_forget_L45]; simp only [LT]; rw [iep (by omega)]
  | succ j ih =>
    intro i nn m hi hn s h0
    obtain ⟨nn, rfl⟩ : ∃ n', nn = n' + 1 := ⟨nn - 1, by omega⟩
    generalize hm1 : mm_up m (w + 7) i (.int (zI 0)) = m1
    have r1 : ∀ b, b ≠ w + 7 → m1 b = m b := fun b h => by rw [← hm1, up_row _ _ _ h]
    obtain ⟨m', e1, e2, e3⟩ := ih (i + 1) nn m1 (by omega) (by omega) (s.keep (fun _ _ => by rw [r1 _ (by omega)]) (r1 _ (by omega)) (r1 _ (by omega))) (fun k hk => by
      rw [← hm1]
      by_cases hki : k = i
      · rw [hki, up_at]
      · rw [up_ne _ _ (Or.inr hki)]; exact h0 k (by omega))
    refine ⟨m', ?_, e2, fun b x1 => by rw [e3 b x1, r1 b x1]⟩
    rw [X0_forget_L45]; simp only [LT]
    rw [ien (by omega), rd_gr ht.1 s.2.2.2.2.2.1, Option.bind_some, wr_si ht.2.2.2.2.2.2.1 (z := (i : Int)) (i := i) rfl (by omega) (by omega), Option.bind_some, hm1, show (zI (i : Int) + zI 1 : Int32) = zI ((i + 1 : Nat) : Int) from zI_add _ _]
    exact e1
theorem X0_forget_10 (ht : belT e.1 w) (hN : 1000 < e.2.2) : ∀ (j i nn : Nat) (m : mm_V), i + j = 10 → j < nn → belS m w → (∀ k, k < i → m (w + 5) k = .int (zI 0) ∧ m (w + 8) k = .int (zI 0)) → ∃ m', X0_forget_L17 e w nn (zI i) m = some m' ∧ (∀ k, k < 10 → m' (w + 5) k = .int (zI 0) ∧ m' (w + 8) k = .int (zI 0)) ∧ (∀ k, k < 6 → m' (w + 7) k = .int (zI 0)) ∧ ∀ b, b ≠ w + 5 → b ≠ w + 7 → b ≠ w + 8 → m' b = m b := by
  intro j
  induction j with
  | zero =>
    intro i nn m hi hn s h0
    obtain ⟨nn, rfl⟩ : ∃ n', nn = n' + 1 := ⟨nn - 1, by omega⟩
    obtain ⟨m', e1, e2, e3⟩ := X0_forget_6 (e := e) ht 6 0 e.2.2 m (by omega) (by omega) s (fun k hk => absurd hk (by omega))
    refine ⟨m', ?_, fun k hk => by rw [e3 _ (by omega), e3 _ (by omega)]; exact h0 k (by omega), e2, fun b x1 x2 x3 => e3 b x2⟩
    rw [X0_forget_L17]; simp only [LT]; rw [iep (by omega)]; exact e1
  | succ j ih =>
    intro i nn m hi hn s h0
    obtain ⟨nn, rfl⟩ : ∃ n', nn = n' + 1 := ⟨nn - 1, by omega⟩
    generalize hm1 : mm_up m (w + 5) i (.int (zI 0)) = m1
    generalize hm2 : mm_up m1 (w + 8) i (.int (zI 0)) = m2
    have r1 : ∀ b, b ≠ w + 5 → m1 b = m b := fun b h => by rw [← hm1, up_row _ _ _ h]
    have r2 : ∀ b, b ≠ w + 8 → m2 b = m1 b := fun b h => by rw [← hm2, up_row _ _ _ h]
    obtain ⟨m', e1, e2, e3, e4⟩ := ih (i + 1) nn m2 (by omega) (by omega) (s.keep (fun _ _ => by rw [r2 _ (by omega), r1 _ (by omega)]) (by rw [r2 _ (by omega), r1 _ (by omega)]) (by rw [r2 _ (by omega), r1 _ (by omega)])) (fun k hk => by
      by_cases hki : k = i
      · subst hki
        exact ⟨by rw [r2 _ (by omega), ← hm1, up_at], by rw [← hm2, up_at]⟩
      · exact ⟨by rw [r2 _ (by omega), ← hm1, up_ne _ _ (Or.inr hki)]; exact (h0 k (by omega)).1, by rw [← hm2, up_ne _ _ (Or.inr hki), r1 _ (by omega)]; exact (h0 k (by omega)).2⟩)
    refine ⟨m', ?_, e2, e3, fun b x1 x2 x3 => by rw [e4 b x1 x2 x3, r2 b x3, r1 b x1]⟩
    rw [X0_forget_L17]; simp only [LT]
    rw [ien (by omega), rd_gr ht.1 s.2.2.2.1, Option.bind_some, wr_si ht.2.2.2.2.1 (z := (i : Int)) (i := i) rfl (by omega) (by omega), Option.bind_some, hm1, rd_gr ht.1 (v := w + 8) (by rw [r1 _ (by omega)]; exact s.2.2.2.2.2.2.1), Option.bind_some, wr_si ht.2.2.2.2.2.2.2.1 (z := (i : Int)) (i := i) rfl (by omega) (by omega), Option.bind_some, hm2, show (zI (i : Int) + zI 1 : Int32) = zI ((i + 1 : Nat) : Int) from zI_add _ _]
    exact e1
theorem gameS.keepB {m m' : mm_V} {a t : Nat} (h : gameS m a t) (h1 : ∀ b, a ≤ b → b < a + 4 → m' b = m b) : gameS m' a t := h.keep (fun j _ => by rw [h1 a (by omega) (by omega)]) (fun b x1 x2 => h1 b (by omega) (by omega))
theorem thF.eq {m : mm_V} {w : Nat} {g g' : Nat → List Nat} (h : thF m w g) (h1 : ∀ i, i < 6 → g i = g' i) : thF m w g' := fun i hi => by rw [← h1 i hi]; exact h i hi
theorem X0_weigh_loop {a : Nat} (ht : belT e.1 w) (ha : gameT e.1 a) (haw : a + 20 ≤ w ∨ w + 33 ≤ a) (hp : p < 6) (htot : totL f0 6 ≤ 19) (hx : ∀ o, ∀ x ∈ f0 o, x < 10) (hN : 1000 < e.2.2) : ∀ (j i nn : Nat) (m : mm_V) (g : Nat → List Nat), i + j = 6 → j < nn → belS m w → gameS m a t → gameF m a f0 → thF m w g → (∀ k, k < i → g k = g0L f0 p k) → m w 8 = .int (zI p) → spS m w (owL f0 p i) (lfL f0 p i) → ∃ m', X0_weigh_L23 e w a nn (zI i) m = ((X0_tryAt e 21 w (0 : Int32) m').bind fun r1 => mm_rz r1.1 r1.2) ∧ thF m' w (g0L f0 p) ∧ spS m' w (owL f0 p 6) (lfL f0 p 6) ∧ (∀ k, k ≠ 10 → m' w k = m w k) ∧ ∀ b, b ≠ w → b ≠ w + 5 → b ≠ w + 6 → (¬ ∃ i, i < 6 ∧ (b = w + 9 + 4 * i ∨ b = w + 10 + 4 * i)) → m' b = m b := by
  have hmono : ∀ k i, i + k ≤ 6 → totL f0 i ≤ totL f0 (i + k) := by
    intro k
    induction k with
    | zero => intro i _; exact Nat.le_refl _
    | succ k ih => intro i hi; have := ih i (by omega); rw [← Nat.add_assoc, totL]; omega
  intro j
  induction j with
  | zero =>
    intro i nn m g hi hn s hg hf tf hgk r8 hS
    obtain ⟨nn, rfl⟩ : ∃ n', nn = n' + 1 := ⟨nn - 1, by omega⟩
    have : i = 6 := by omega
    subst this
    refine ⟨m, ?_, tf.eq hgk, hS, fun _ _ => rfl, fun _ _ _ _ _ => rfl⟩
    rw [X0_weigh_L23, show (6 : Int32) = zI 6 from rfl, iep (by omega)]
  | succ j ih =>
    intro i nn m g hi hn s hg hf tf hgk r8 hS
    obtain ⟨nn, rfl⟩ : ∃ n', nn = n' + 1 := ⟨nn - 1, by omega⟩
    have hi6 : i < 6 := by omega
    have tO := (ht.2.2.2.2.2.2.2.2 i hi6).1
    have hfan := X4_fanAt_eq (e := e) ha hg hi6
    have tA : fanT e.1 (a + 8 + 2 * i) := ha.2.2.2.2.2.2.2 i hi6
    by_cases hip : i = p
    · subst hip
      obtain ⟨m1, a1, a2, a3⟩ := X3_copyFrom_eq (e := e) tO tA (by omega) (tf i hi6) (hf i hi6) (by omega)
      have T1 : thF m1 w (setF g i (f0 i)) := tf.set a2 a3
      have b1 : ∀ b, (b < w + 9 + 4 * i ∨ w + 9 + 4 * i + 2 ≤ b) → m1 b = m b := fun b h => a3 b (by omega) (by omega)
      obtain ⟨m', e1, e2, e3, e4, e5⟩ := ih (i + 1) nn m1 (setF g i (f0 i)) (by omega) (by omega) (s.keep (fun _ _ => by rw [b1 _ (by omega)]) (b1 _ (by omega)) (b1 _ (by omega))) (hg.keepB (fun b _ _ => b1 b (by omega))) (hf.keep (fun b _ _ => b1 b (by omega))) T1 (fun k hk => by
        by_cases hki : k = i
        · subst hki; rw [setF_at]; unfold g0L; rw [if_pos rfl]
        · rw [setF_ne _ _ hki]; exact hgk k (by omega)) (by rw [b1 _ (by omega)]; exact r8) (by
        refine ⟨?_, fun c hc => ?_, fun k hk => ?_⟩
        · rw [b1 _ (by omega), owL, if_pos rfl, List.append_nil]; exact hS.1
        · rw [b1 _ (by omega), lfL, if_pos rfl]; exact hS.2.1 c hc
        · rw [owL, if_pos rfl, List.append_nil] at hk ⊢; rw [b1 _ (by omega)]; exact hS.2.2 k hk)
      refine ⟨m', ?_, e2, e3, fun k hk => by rw [e4 k hk, b1 _ (by omega)], fun b x1 x2 x3 x4 => by rw [e5 b x1 x2 x3 x4, a3 b (fun hh => x4 ⟨i, hi6, Or.inl hh⟩) (fun hh => x4 ⟨i, hi6, Or.inr (by omega)⟩)]⟩
      rw [X0_weigh_L23]
      unfold X0_weigh_b80
      rw [show (6 : Int32) = zI 6 from rfl, ien (by omega), rd_gi ht.1 r8, Option.bind_some, if_neg (by simp), rd_gr ht.1 s.1, Option.bind_some, rd_aq ht.2.1 (z := (i : Int)) (i := i) rfl (by omega) (by omega) (s.2.2.2.2.2.2.2.1 i hi6), Option.bind_some, if_pos ha.1, hfan, Option.bind_some, if_pos tO.1]
      simp only
      rw [a1, Option.bind_some, show (zI (i : Int) + 1 : Int32) = zI ((i + 1 : Nat) : Int) from zI_add i 1]
      exact e1
    · obtain ⟨m1, a1, a2, a3⟩ := X3_clear_eq (e := e) tO (tf i hi6)
      have T1 : thF m1 w (setF g i []) := tf.set a2 a3
      have b1 : ∀ b, (b < w + 9 + 4 * i ∨ w + 9 + 4 * i + 2 ≤ b) → m1 b = m b := fun b h => a3 b (by omega) (by omega)
      have s1 : belS m1 w := s.keep (fun _ _ => by rw [b1 _ (by omega)]) (b1 _ (by omega)) (b1 _ (by omega))
      have g1 : gameS m1 a t := hg.keepB (fun b _ _ => b1 b (by omega))
      have f1 : gameF m1 a f0 := hf.keep (fun b _ _ => b1 b (by omega))
      have hle := owL_len f0 p i
      have ht1 : totL f0 (i + 1) ≤ totL f0 6 := by have := hmono (5 - i) (i + 1) (by omega); rw [show i + 1 + (5 - i) = 6 by omega] at this; exact this
      rw [totL] at ht1
      have hl10 := (hf i hi6).2.2.1
      obtain ⟨m2, c1, c2, c3, c4⟩ := X0_spread_loop (e := e) (who := i) ht tA (by omega) (hx i) (f0 i).length 0 e.2.2 m1 (owL f0 p i) (lfL f0 p i) (by omega) (by omega) s1 (f1 i hi6) ⟨by rw [b1 _ (by omega)]; exact hS.1, fun c hc => by rw [b1 _ (by omega)]; exact hS.2.1 c hc, fun k hk => by rw [b1 _ (by omega)]; exact hS.2.2 k hk⟩ (by omega)
      have b2 : ∀ b, b ≠ w → b ≠ w + 5 → b ≠ w + 6 → m2 b = m1 b := c4
      obtain ⟨m', e1, e2, e3, e4, e5⟩ := ih (i + 1) nn m2 (setF g i []) (by omega) (by omega) (s1.keep (fun k _ => c3 k (by omega)) (b2 _ (by omega) (by omega) (by omega)) (b2 _ (by omega) (by omega) (by omega))) (g1.keepB (fun b _ _ => b2 b (by omega) (by omega) (by omega))) (f1.keep (fun b _ _ => b2 b (by omega) (by omega) (by omega))) (T1.keep (fun k hk => ⟨b2 _ (by omega) (by omega) (by omega), b2 _ (by omega) (by omega) (by omega)⟩)) (fun k hk => by
        by_cases hki : k = i
        · subst hki; rw [setF_at]; unfold g0L; rw [if_neg hip]
        · rw [setF_ne _ _ hki]; exact hgk k (by omega)) (by rw [c3 _ (by omega), b1 _ (by omega)]; exact r8) (by
        have e1 : owL f0 p (i + 1) = owL f0 p i ++ List.replicate (f0 i).length i := by rw [owL, if_neg hip]
        have e2 : lfL f0 p (i + 1) = fun c => lfL f0 p i c + ((f0 i).drop 0).count c := by funext c; rw [lfL, if_neg hip, List.drop_zero]
        rw [e1, e2]; exact c2)
      refine ⟨m', ?_, e2, e3, fun k hk => by rw [e4 k hk, c3 k hk, b1 _ (by omega)], fun b x1 x2 x3 x4 => by rw [e5 b x1 x2 x3 x4, b2 b x1 x2 x3, a3 b (fun hh => x4 ⟨i, hi6, Or.inl hh⟩) (fun hh => x4 ⟨i, hi6, Or.inr (by omega)⟩)]⟩
      rw [X0_weigh_L23]
      unfold X0_weigh_b80 X0_spread
      rw [show (6 : Int32) = zI 6 from rfl, ien (by omega), rd_gi ht.1 r8, Option.bind_some, inp (by omega), rd_gr ht.1 s.1, Option.bind_some, rd_aq ht.2.1 (z := (i : Int)) (i := i) rfl (by omega) (by omega) (s.2.2.2.2.2.2.2.1 i hi6), Option.bind_some, if_pos tO.1, a1, Option.bind_some, if_pos ha.1, X4_fanAt_eq (e := e) ha g1 hi6, Option.bind_some]
      simp only
      rw [show (0 : Int32) = zI ((0 : Nat) : Int) from rfl, c1, Option.bind_some, show (zI (i : Int) + 1 : Int32) = zI ((i + 1 : Nat) : Int) from zI_add i 1]
      exact e1
def belZ (m : mm_V) (w : Nat) : Prop := belS m w ∧ (∃ g, thF m w g) ∧ ∃ g, noF m w g
def belO (o : Option (BC × Nat)) (v : Int32) (m : mm_V) (w : Nat) : Prop := match o with
  | some Y => v = zI 1 ∧ belR m w Y.1
  | none => v = zI 0
def belA (N p : Nat) (wt : Option Nat) (R : List PR) (f0 : Nat → List Nat) : Option (BC × Nat) := trA (owL f0 p 6) (leafB N p wt R) (owL f0 p 6).length 0 (g0L f0 p) (lfL f0 p 6) ((0, fun _ => 0, fun _ => 0), 0)
theorem X0_weigh_eq {m : mm_V} {a : Nat} (ht : belT e.1 w) (hlT : logT e.1 l) (hlw : l + 63 ≤ w ∨ w + 33 ≤ l) (ha : gameT e.1 a) (haw : a + 20 ≤ w ∨ w + 33 ≤ a) (hH : hisD H R) (h6 : N ≤ 6) (hP : P ≤ 9) (hp : p < N) (hwt : ∀ v, wt = some v → v < 6) (htot : totL f0 6 ≤ 19) (hz : szH N R (lenF f0)) (htab : tabI N P f0) (hB : belZ m w) (hlog : logR m l H) (hg : gameS m a t) (hf : gameF m a f0) (hN : 1000 < e.2.2) : ∃ v m', X0_weigh e w a l (zI p) (ozI wt) m = some (v, m') ∧ belO (belA N p wt R f0) v m' w ∧ belZ m' w ∧ ∀ b, (b < w ∨ w + 33 ≤ b) → m' b = m b := by
  obtain ⟨s, ⟨g, tf⟩, g1, nf⟩ := hB
  have hx : ∀ o, ∀ x ∈ f0 o, x < 10 := fun o x hx => by have := htab.2.1 o x hx; omega
  generalize hm1 : mm_up m w 7 (.ref l) = m1
  generalize hm2 : mm_up m1 w 8 (.int (zI p)) = m2
  generalize hm3 : mm_up m2 w 9 (.int (ozI wt)) = m3
  generalize hm4 : mm_up m3 w 10 (.int (zI 0)) = m4
  generalize hm5 : mm_up m4 w 11 (.int (zI 0)) = m5
  generalize hm6 : mm_up m5 w 12 (.int (zI 0)) = m6
  have o6 : ∀ b, b ≠ w → m6 b = m b := fun b h => by rw [← hm6, up_row _ _ _ h, ← hm5, up_row _ _ _ h, ← hm4, up_row _ _ _ h, ← hm3, up_row _ _ _ h, ← hm2, up_row _ _ _ h, ← hm1, up_row _ _ _ h]
  have q6 : ∀ j, j < 7 → m6 w j = m w j := fun j h => by rw [← hm6, up_ne _ _ (by omega), ← hm5, up_ne _ _ (by omega), ← hm4, up_ne _ _ (by omega), ← hm3, up_ne _ _ (by omega), ← hm2, up_ne _ _ (by omega), ← hm1, up_ne _ _ (by omega)]
  have v7 : m6 w 7 = .ref l := by rw [← hm6, up_ne _ _ (by omega), ← hm5, up_ne _ _ (by omega), ← hm4, up_ne _ _ (by omega), ← hm3, up_ne _ _ (by omega), ← hm2, up_ne _ _ (by omega), ← hm1, up_at]
  have v8 : m6 w 8 = .int (zI p) := by rw [← hm6, up_ne _ _ (by omega), ← hm5, up_ne _ _ (by omega), ← hm4, up_ne _ _ (by omega), ← hm3, up_ne _ _ (by omega), ← hm2, up_at]
  have v9 : m6 w 9 = .int (ozI wt) := by rw [← hm6, up_ne _ _ (by omega), ← hm5, up_ne _ _ (by omega), ← hm4, up_ne _ _ (by omega), ← hm3, up_at]
  have v10 : m6 w 10 = .int (zI 0) := by rw [← hm6, up_ne _ _ (by omega), ← hm5, up_ne _ _ (by omega), ← hm4, up_at]
  have v11 : m6 w 11 = .int (zI 0) := by rw [← hm6, up_ne _ _ (by omega), ← hm5, up_at]
  have v12 : m6 w 12 = .int (zI 0) := by rw [← hm6, up_at]
  have s6 : belS m6 w := s.keep (fun j h => q6 j h) (o6 _ (by omega)) (o6 _ (by omega))
  obtain ⟨m7, a1, a2, a3, a4⟩ := X0_forget_10 (e := e) ht hN 10 0 e.2.2 m6 (by omega) (by omega) s6 (fun k hk => absurd hk (by omega))
  have b7 : ∀ b, b ≠ w → b ≠ w + 5 → b ≠ w + 7 → b ≠ w + 8 → m7 b = m b := fun b x0 x1 x2 x3 => by rw [a4 b x1 x2 x3, o6 b x0]
  have s7 : belS m7 w := s6.keep (fun j _ => by rw [a4 _ (by omega) (by omega) (by omega)]) (a4 _ (by omega) (by omega) (by omega)) (a4 _ (by omega) (by omega) (by omega))
  have q7 : ∀ j, m7 w j = m6 w j := fun j => by rw [a4 _ (by omega) (by omega) (by omega)]
  obtain ⟨m8, c1, c2, c3, c4, c5⟩ := X0_weigh_loop (e := e) (a := a) (t := t) (f0 := f0) (p := p) ht ha haw (by omega) htot hx hN 6 0 e.2.2 m7 g (by omega) (by omega) s7 (hg.keepB (fun b _ _ => b7 b (by omega) (by omega) (by omega) (by omega))) (hf.keep (fun b _ _ => b7 b (by omega) (by omega) (by omega) (by omega))) (tf.keep (fun i hi => ⟨b7 _ (by omega) (by omega) (by omega) (by omega), b7 _ (by omega) (by omega) (by omega) (by omega)⟩)) (fun k hk => absurd hk (by omega)) (by rw [q7]; exact v8) ⟨by rw [q7]; exact v10, fun c hc => (a2 c hc).1, fun k hk => absurd hk (by rw [owL]; simp)⟩
  have nth : ∀ b, (b < w + 9 ∨ w + 33 ≤ b) → ¬ ∃ i, i < 6 ∧ (b = w + 9 + 4 * i ∨ b = w + 10 + 4 * i) := fun b hb => by rintro ⟨i, hi, h1 | h1⟩ <;> omega
  have b8 : ∀ b, (b < w ∨ w + 33 ≤ b) → m8 b = m b := fun b hb => by rw [c5 b (by omega) (by omega) (by omega) (nth b (by omega)), b7 b (by omega) (by omega) (by omega) (by omega)]
  have W : belW m8 w l p wt (owL f0 p 6) H (g0L f0 p) (lfL f0 p 6) (0, fun _ => 0, fun _ => 0) 0 := by
    refine ⟨s7.keep (fun j _ => c4 j (by omega)) (c5 _ (by omega) (by omega) (by omega) (nth _ (by omega))) (c5 _ (by omega) (by omega) (by omega) (nth _ (by omega))), c2, ⟨g1, fun i hi => ?_⟩, by rw [c4 _ (by omega), q7]; exact v7, by rw [c4 _ (by omega), q7]; exact v8, by rw [c4 _ (by omega), q7]; exact v9, c3.1, by rw [c4 _ (by omega), q7]; exact v11, c3.2.1, c3.2.2, ⟨by rw [c4 _ (by omega), q7]; exact v12, fun i hi => by rw [c5 _ (by omega) (by omega) (by omega) (nth _ (by omega))]; exact a3 i hi, fun i hi => by rw [c5 _ (by omega) (by omega) (by omega) (nth _ (by omega))]; exact (a2 i hi).2⟩, hlog.keep (fun b _ _ => b8 b (by omega))⟩
    have n1 : ∀ b, (b = w + 11 + 4 * i ∨ b = w + 11 + 4 * i + 1) → m8 b = m b := fun b hb => by rw [c5 b (by omega) (by omega) (by omega) (by rintro ⟨k, hk, h1 | h1⟩ <;> omega), b7 b (by omega) (by omega) (by omega) (by omega)]
    exact (nf i hi).keep (n1 _ (Or.inl rfl)) (n1 _ (Or.inr rfl))
  have how : (owL f0 p 6).length ≤ 19 := Nat.le_trans (owL_len f0 p 6) htot
  obtain ⟨v, m', X', T', d1, d2, d3, d4⟩ := X0_try (e := e) (R := R) (f0 := f0) ht hlT hlw hH h6 hP (by omega : p < 6) hwt how hz hN (owL f0 p 6).length 0 21 m8 _ _ _ 0 (by omega) (arI_0 htab hP h6 hp) W (by omega)
  refine ⟨v, m', ?_, ?_, ⟨d3.1, ⟨_, d3.2.1⟩, d3.2.2.1⟩, fun b hb => by rw [d4 b hb, b8 b hb]⟩
  · unfold X0_weigh X0_forget
    simp only [LT]
    rw [wr_pf ht.1, Option.bind_some, hm1, wr_pf ht.1, Option.bind_some, hm2, wr_pf ht.1, Option.bind_some, hm3, wr_pf ht.1, Option.bind_some, hm4, wr_pf ht.1, Option.bind_some, hm5, wr_pf ht.1, Option.bind_some, hm6, show (zI 0 : Int32) = zI ((0 : Nat) : Int) from rfl, a1, Option.bind_some, c1, show (0 : Int32) = zI ((0 : Nat) : Int) from rfl, d1, Option.bind_some]
    unfold belA at *
    cases hh : trA (owL f0 p 6) (leafB N p wt R) (owL f0 p 6).length 0 (g0L f0 p) (lfL f0 p 6) ((0, fun _ => 0, fun _ => 0), 0) with
    | none => rw [hh] at d2; rw [show v = zI 0 from d2]; rfl
    | some Y => rw [hh] at d2; rw [show v = zI 1 from d2.1]; rfl
  · unfold belO belA
    cases hh : trA (owL f0 p 6) (leafB N p wt R) (owL f0 p 6).length 0 (g0L f0 p) (lfL f0 p 6) ((0, fun _ => 0, fun _ => 0), 0) with
    | none => rw [hh] at d2; exact d2
    | some Y => rw [hh] at d2; exact ⟨d2.1, by rw [d2.2.1]; exact d3.2.2.2.2.2.2.2.2.2.2.1⟩
end WEIGH
