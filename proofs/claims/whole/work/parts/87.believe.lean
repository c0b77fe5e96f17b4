/-! BELIEF of the model: what is known at first, and all of it. -/
theorem owL_N {N p : Nat} {f : Nat → List Nat} (h : ∀ o, N ≤ o → f o = []) : ∀ k, owL f p (N + k) = owL f p N ∧ ∀ c, lfL f p (N + k) c = lfL f p N c
  | 0 => ⟨rfl, fun _ => rfl⟩
  | k + 1 => by
    obtain ⟨a, b⟩ := owL_N (p := p) h k
    refine ⟨?_, fun c => ?_⟩
    · rw [← Nat.add_assoc, owL, a, h (N + k) (by omega)]
      split <;> simp
    · rw [← Nat.add_assoc, lfL, b c, h (N + k) (by omega)]
      split <;> simp
theorem totL_le (f : Nat → List Nat) : ∀ k i, totL f i ≤ totL f (i + k)
  | 0, i => Nat.le_refl _
  | k + 1, i => by have := totL_le f k i; rw [← Nat.add_assoc, totL]; omega
def belMO (o : Option (BC × Nat)) (v : Int32) (m : mm_V) (q : Nat) : Prop := match o with
  | some Y => v = zI 1 ∧ bMR m q Y.1
  | none => v = zI 0
section BELM
variable {e : mm_E} {q N P p : Nat} {H : List QR} {R : List PR} {f0 f : Nat → List Nat} {rl : Nat → List Int}
theorem X12_bel_12 (hT : modT e.1 q) {i1 : Int32} : ∀ (j i nn : Nat) (m : mm_V), i + j = 6 → j < nn → modS m q → (∀ k, k < i → m (q + 34) k = .int (zI 0)) → ∃ m', X12_believes_L12 e q i1 nn (zI i) m = X12_believes_L33 e q i1 e.2.2 (zI (0 : Nat)) m' ∧ (∀ k, k < 6 → m' (q + 34) k = .int (zI 0)) ∧ ∀ b, b ≠ q + 34 → m' b = m b := by
  intro j
  induction j with
  | zero =>
    intro i nn m hi hn hS h
    obtain ⟨nn, rfl⟩ : ∃ n', nn = n' + 1 := ⟨nn - 1, by omega⟩
    refine ⟨m, ?_, fun k hk => h k (by omega), fun _ _ => rfl⟩
    rw [X12_believes_L12, show (6 : Int32) = zI 6 from rfl, iep (by omega)]; rfl
  | succ j ih =>
    intro i nn m hi hn hS h
    obtain ⟨nn, rfl⟩ : ∃ n', nn = n' + 1 := ⟨nn - 1, by omega⟩
    obtain ⟨m', e1, e2, e3⟩ := ih (i + 1) nn (mm_up m (q + 34) i (.int (zI 0))) (by omega) (by omega) (hS.keep (fun _ _ _ => by rw [up_row _ _ _ (by omega)])) (fun k hk => by
      by_cases hki : k = i
      · subst hki; exact up_at _ _ _ _
      · rw [up_ne _ _ (Or.inr hki)]; exact h k (by omega))
    refine ⟨m', ?_, e2, fun b hb => by rw [e3 b hb, up_row _ _ _ hb]⟩
    rw [X12_believes_L12]
    simp only [LT]
    rw [ien (by omega), rd_gr hT.me hS.hereWho_, Option.bind_some, wr_si hT.hereWho_ (i := i) rfl (by omega) (by omega), Option.bind_some, zI_add]
    exact e1
theorem X12_bel_33 (hT : modT e.1 q) {i1 : Int32} : ∀ (j i nn : Nat) (m : mm_V), i + j = 19 → j < nn → modS m q → (∀ k, k < i → m (q + 33) k = .int (zI 0)) → ∃ n1 m', X12_believes_L33 e q i1 nn (zI i) m = X12_believes_L33 e q i1 (n1 + 1) (zI 19) m' ∧ (∀ k, k < 19 → m' (q + 33) k = .int (zI 0)) ∧ ∀ b, b ≠ q + 33 → m' b = m b := by
  intro j
  induction j with
  | zero =>
    intro i nn m hi hn hS h
    obtain ⟨nn, rfl⟩ : ∃ n', nn = n' + 1 := ⟨nn - 1, by omega⟩
    exact ⟨nn, m, by rw [show i = 19 by omega]; rfl, fun k hk => h k (by omega), fun _ _ => rfl⟩
  | succ j ih =>
    intro i nn m hi hn hS h
    obtain ⟨nn, rfl⟩ : ∃ n', nn = n' + 1 := ⟨nn - 1, by omega⟩
    obtain ⟨n1, m', e1, e2, e3⟩ := ih (i + 1) nn (mm_up m (q + 33) i (.int (zI 0))) (by omega) (by omega) (hS.keep (fun _ _ _ => by rw [up_row _ _ _ (by omega)])) (fun k hk => by
      by_cases hki : k = i
      · subst hki; exact up_at _ _ _ _
      · rw [up_ne _ _ (Or.inr hki)]; exact h k (by omega))
    refine ⟨n1, m', ?_, e2, fun b hb => by rw [e3 b hb, up_row _ _ _ hb]⟩
    conv => lhs; rw [X12_believes_L33]
    simp only [LT]
    rw [ien (by omega), rd_gr (k := 64) hT.me hS.herePlaces_, Option.bind_some, wr_si hT.herePlaces_ (i := i) rfl (by omega) (by omega), Option.bind_some, zI_add]
    exact e1
theorem X12_bel_71 (hT : modT e.1 q) {i1 i2 : Int32} : ∀ (j i nn : Nat) (m : mm_V), i + j = 10 → j < nn → modS m q → (∀ k, k < i → m (q + 31) k = .int (zI 0)) → ∃ m', X12_believes_L71 e q i1 i2 nn (zI i) m = X12_believes_L92 e q i1 e.2.2 i2 (zI (0 : Nat)) m' ∧ (∀ k, k < 10 → m' (q + 31) k = .int (zI 0)) ∧ ∀ b, b ≠ q + 31 → m' b = m b := by
  intro j
  induction j with
  | zero =>
    intro i nn m hi hn hS h
    obtain ⟨nn, rfl⟩ : ∃ n', nn = n' + 1 := ⟨nn - 1, by omega⟩
    refine ⟨m, ?_, fun k hk => h k (by omega), fun _ _ => rfl⟩
    rw [X12_believes_L71, show (10 : Int32) = zI 10 from rfl, iep (by omega)]; rfl
  | succ j ih =>
    intro i nn m hi hn hS h
    obtain ⟨nn, rfl⟩ : ∃ n', nn = n' + 1 := ⟨nn - 1, by omega⟩
    obtain ⟨m', e1, e2, e3⟩ := ih (i + 1) nn (mm_up m (q + 31) i (.int (zI 0))) (by omega) (by omega) (hS.keep (fun _ _ _ => by rw [up_row _ _ _ (by omega)])) (fun k hk => by
      by_cases hki : k = i
      · subst hki; exact up_at _ _ _ _
      · rw [up_ne _ _ (Or.inr hki)]; exact h k (by omega))
    refine ⟨m', ?_, e2, fun b hb => by rw [e3 b hb, up_row _ _ _ hb]⟩
    rw [X12_believes_L71]
    simp only [LT]
    rw [ien (by omega), rd_gr hT.me hS.over_, Option.bind_some, wr_si hT.over_ (i := i) rfl (by omega) (by omega), Option.bind_some, zI_add]
    exact e1
theorem spM_snoc {m m' : mm_V} {ow : List Nat} {o : Nat} (h : spM m q ow) (h1 : ∀ j, m' (q + 28) j = if j = ow.length then .int (zI o) else m (q + 28) j) (h2 : ∀ j, m' (q + 29) j = if j = ow.length then .int (zI (ow.count o)) else m (q + 29) j) : spM m' q (ow ++ [o]) := by
  intro j hj
  rw [List.length_append, List.length_singleton] at hj
  rw [gO_app hj, h1, h2]
  by_cases hjo : j = ow.length
  · rw [if_pos hjo, if_pos hjo, if_pos hjo, hjo, List.take_left']
    · exact ⟨rfl, rfl⟩
    · rfl
  · rw [if_neg hjo, if_neg hjo, if_neg hjo, List.take_append_of_le_length (by omega)]
    exact h j (by omega)
theorem X12_bel_103 (k92 : Int32 → Int32 → mm_V → Option (Int32 × mm_V)) (hT : modT e.1 q) {o : Nat} (ho : o < 6) (hop : o ≠ p) (hp : p < 6) (hx : ∀ x ∈ f0 o, x < 10) : ∀ (j i nn : Nat) (m : mm_V) (ow : List Nat) (lf : Nat → Nat), i + j = (f0 o).length → j < nn → modS m q → rowF m (q + 13) f0 → spM m q ow → ow.count o = i → (∀ c, c < 10 → m (q + 31) c = .int (zI (lf c))) → ow.length + j ≤ 19 → ∃ m', X12_believes_L103 e k92 q (zI p) (zI o) nn (zI ow.length) (zI i) m = k92 (zI (ow.length + j : Nat)) (zI (o + 1 : Nat)) m' ∧ spM m' q (ow ++ List.replicate j o) ∧ (∀ c, c < 10 → m' (q + 31) c = .int (zI (lf c + ((f0 o).drop i).count c : Nat))) ∧ ∀ b, b ≠ q + 28 → b ≠ q + 29 → b ≠ q + 31 → m' b = m b := by
  intro j
  induction j with
  | zero =>
    intro i nn m ow lf hi hn hS r13 hM hc hl h19
    obtain ⟨nn, rfl⟩ : ∃ n', nn = n' + 1 := ⟨nn - 1, by omega⟩
    have hl19 := (r13 o ho).2.1
    refine ⟨m, ?_, by simpa using hM, fun c hc => ?_, fun _ _ _ _ => rfl⟩
    · rw [X12_believes_L103, rd_gr hT.me hS.start_, Option.bind_some, X12_size_eq hT.start_ r13 ho, Option.bind_some, iep (by omega)]
      unfold X12_believes_b164
      rw [show (zI (o : Int) + 1 : Int32) = zI ((o + 1 : Nat) : Int) from zI_add _ 1]
      rfl
    · rw [List.drop_of_length_le (by omega), List.count_nil]; exact hl c hc
  | succ j ih =>
    intro i nn m ow lf hi hn hS r13 hM hc hl h19
    obtain ⟨nn, rfl⟩ : ∃ n', nn = n' + 1 := ⟨nn - 1, by omega⟩
    have hl19 := (r13 o ho).2.1
    have hx1 : (f0 o)[i]? = some ((f0 o)[i]'(by omega)) := List.getElem?_eq_getElem (by omega)
    generalize hxx : ((f0 o)[i]'(by omega)) = x at hx1
    have hx10 : x < 10 := hx x (List.mem_of_getElem? hx1)
    have hdr : (f0 o).drop i = x :: (f0 o).drop (i + 1) := by rw [← hxx]; exact List.drop_eq_getElem_cons (by omega)
    generalize hm1 : mm_up m (q + 28) ow.length (.int (zI o)) = m1
    generalize hm2 : mm_up m1 (q + 29) ow.length (.int (zI i)) = m2
    generalize hm3 : mm_up m2 (q + 31) x (.int (zI (lf x + 1 : Nat))) = m3
    have r1 : ∀ b, b ≠ q + 28 → m1 b = m b := fun b h => by rw [← hm1, up_row _ _ _ h]
    have r2 : ∀ b, b ≠ q + 29 → m2 b = m1 b := fun b h => by rw [← hm2, up_row _ _ _ h]
    have r3 : ∀ b, b ≠ q + 31 → m3 b = m2 b := fun b h => by rw [← hm3, up_row _ _ _ h]
    have hb : ∀ b, b ≠ q + 28 → b ≠ q + 29 → b ≠ q + 31 → m3 b = m b := fun b x1 x2 x3 => by rw [r3 b x3, r2 b x2, r1 b x1]
    have S1 : modS m1 q := hS.keep (fun _ _ _ => by rw [r1 _ (by omega)])
    have S2 : modS m2 q := S1.keep (fun _ _ _ => by rw [r2 _ (by omega)])
    have M3 : spM m3 q (ow ++ [o]) := by
      refine spM_snoc hM (fun j => ?_) (fun j => ?_)
      · rw [r3 _ (by omega), r2 _ (by omega), ← hm1]
        exact up_pt _ _ _ _ _
      · rw [r3 _ (by omega), ← hm2, up_pt, r1 _ (by omega), hc]
    have l3 : ∀ c, c < 10 → m3 (q + 31) c = .int (zI ((fun c => lf c + if x = c then 1 else 0) c : Nat)) := fun c hc => by
      rw [← hm3]
      dsimp only
      by_cases hxc : x = c
      · subst hxc; rw [up_at, if_pos rfl]
      · rw [up_ne _ _ (Or.inr (fun hh => hxc hh.symm)), if_neg hxc, r2 _ (by omega), r1 _ (by omega)]; exact hl c hc
    have hlen : (ow ++ [o]).length = ow.length + 1 := by simp
    obtain ⟨m', e1, e2, e3, e4⟩ := ih (i + 1) nn m3 (ow ++ [o]) _ (by omega) (by omega) (hS.keep (fun _ _ _ => by rw [hb _ (by omega) (by omega) (by omega)])) (r13.keep' (hb _ (by omega) (by omega) (by omega))) M3 (by rw [List.count_append, hc]; simp) l3 (by rw [hlen]; omega)
    refine ⟨m', ?_, ?_, fun c hc => ?_, fun b x1 x2 x3 => by rw [e4 b x1 x2 x3, hb b x1 x2 x3]⟩
    · rw [X12_believes_L103, rd_gr hT.me hS.start_, Option.bind_some, X12_size_eq hT.start_ r13 ho, Option.bind_some]
      simp only [LT]
      rw [ien (by omega), iqn (by omega), rd_gr hT.me hS.spotOf_, Option.bind_some, wr_si hT.spotOf_ (i := ow.length) rfl (by omega) (by omega), Option.bind_some, hm1, rd_gr hT.me S1.spotAt_, Option.bind_some, wr_si hT.spotAt_ (i := ow.length) rfl (by omega) (by omega), Option.bind_some, hm2, rd_gr hT.me S2.over_, Option.bind_some, rd_gr hT.me S2.start_, Option.bind_some, X12_card_eq hT.start_ (r13.keep' (by rw [r2 _ (by omega), r1 _ (by omega)])) ho hx1, Option.bind_some]
      simp only
      rw [rd_ai hT.over_ (i := x) rfl (by omega) (by omega) (v := zI (lf x)) (by rw [r2 _ (by omega), r1 _ (by omega)]; exact hl x hx10), Option.bind_some, show (zI (lf x : Int) + zI 1 : Int32) = zI ((lf x + 1 : Nat) : Int) from zI_add _ _, wr_si hT.over_ (i := x) rfl (by omega) (by omega), Option.bind_some, hm3, show (zI (ow.length : Int) + zI 1 : Int32) = zI ((ow ++ [o]).length : Int) by rw [hlen]; exact zI_add _ _, show (zI (i : Int) + zI 1 : Int32) = zI ((i + 1 : Nat) : Int) from zI_add _ _, e1, hlen, show ow.length + 1 + j = ow.length + (j + 1) by omega]
    · rw [List.append_assoc] at e2; exact e2
    · rw [e3 c hc, hdr, List.count_cons]
      by_cases hxc : x = c
      · simp only [if_pos hxc, hxc, beq_self_eq_true, if_true]; congr 2; omega
      · have : (x == c) = false := by simpa using hxc
        simp only [if_neg hxc, this]; congr 2
theorem X12_bel_92 (hT : modT e.1 q) (h6 : N ≤ 6) (hp : p < 6) (hx : ∀ o, ∀ x ∈ f0 o, x < 10) (htot : totL f0 6 ≤ 19) (hN : 1000 < e.2.2) : ∀ (j i nn : Nat) (m : mm_V), i + j = N → j < nn → modS m q → m q 1 = .int (zI N) → rowF m (q + 13) f0 → spM m q (owL f0 p i) → (∀ c, c < 10 → m (q + 31) c = .int (zI (lfL f0 p i c))) → ∃ n1 m', X12_believes_L92 e q (zI p) nn (zI (owL f0 p i).length) (zI i) m = X12_believes_L92 e q (zI p) (n1 + 1) (zI (owL f0 p N).length) (zI N) m' ∧ spM m' q (owL f0 p N) ∧ (∀ c, c < 10 → m' (q + 31) c = .int (zI (lfL f0 p N c))) ∧ ∀ b, b ≠ q + 28 → b ≠ q + 29 → b ≠ q + 31 → m' b = m b := by
  intro j
  induction j with
  | zero =>
    intro i nn m hi hn hS h1 r13 hM hl
    obtain ⟨nn, rfl⟩ : ∃ n', nn = n' + 1 := ⟨nn - 1, by omega⟩
    have : i = N := by omega
    subst this
    exact ⟨nn, m, rfl, hM, hl, fun _ _ _ _ => rfl⟩
  | succ j ih =>
    intro i nn m hi hn hS h1 r13 hM hl
    obtain ⟨nn, rfl⟩ : ∃ n', nn = n' + 1 := ⟨nn - 1, by omega⟩
    have hi6 : i < 6 := by omega
    have hl19 := (r13 i hi6).2.1
    have hol := owL_len f0 p i
    have ht1 : totL f0 (i + 1) ≤ totL f0 6 := by have := totL_le f0 (5 - i) (i + 1); rw [show i + 1 + (5 - i) = 6 by omega] at this; exact this
    rw [totL] at ht1
    by_cases hip : i = p
    · have eo : owL f0 p (i + 1) = owL f0 p i := by rw [owL, if_pos hip, List.append_nil]
      obtain ⟨n1, m', e1, e2, e3, e4⟩ := ih (i + 1) nn m (by omega) (by omega) hS h1 r13 (by rw [eo]; exact hM) (fun c hc => by rw [lfL, if_pos hip]; exact hl c hc)
      refine ⟨n1, m', ?_, e2, e3, e4⟩
      rw [eo] at e1
      obtain ⟨ff, hff⟩ : ∃ n', e.2.2 = n' + 1 := ⟨e.2.2 - 1, by omega⟩
      conv => lhs; rw [X12_believes_L92]
      rw [rd_gi hT.me h1, Option.bind_some, ien (by omega), hff, X12_believes_L103, rd_gr hT.me hS.start_, Option.bind_some, X12_size_eq hT.start_ r13 hi6, Option.bind_some]
      unfold X12_believes_b164
      rw [show (zI (i : Int) + 1 : Int32) = zI ((i + 1 : Nat) : Int) from zI_add _ 1, iqp (by omega)]
      simp only [ite_self]
      exact e1
    · obtain ⟨m1, a1, a2, a3, a4⟩ := X12_bel_103 (e := e) (p := p) (X12_believes_L92 e q (zI p) nn) hT hi6 hip hp (hx i) (f0 i).length 0 e.2.2 m (owL f0 p i) (lfL f0 p i) (by omega) (by omega) hS r13 hM (by rw [owL_count, if_neg (by omega)]) hl (by omega)
      have eo : owL f0 p (i + 1) = owL f0 p i ++ List.replicate (f0 i).length i := by rw [owL, if_neg hip]
      have hlen : (owL f0 p (i + 1)).length = (owL f0 p i).length + (f0 i).length := by rw [eo, List.length_append, List.length_replicate]
      obtain ⟨n1, m', e1, e2, e3, e4⟩ := ih (i + 1) nn m1 (by omega) (by omega) (hS.keep (fun _ _ _ => by rw [a4 _ (by omega) (by omega) (by omega)])) (by rw [a4 _ (by omega) (by omega) (by omega)]; exact h1) (r13.keep' (a4 _ (by omega) (by omega) (by omega))) (by rw [eo]; exact a2) (fun c hc => by rw [lfL, if_neg hip, a3 c hc, List.drop_zero])
      refine ⟨n1, m', ?_, e2, e3, fun b x1 x2 x3 => by rw [e4 b x1 x2 x3, a4 b x1 x2 x3]⟩
      conv => lhs; rw [X12_believes_L92]
      rw [rd_gi hT.me h1, Option.bind_some, ien (by omega), show (0 : Int32) = zI ((0 : Nat) : Int) from rfl, a1, ← hlen]
      exact e1
theorem X12_believes_eq {m : mm_V} {done : Int32} (E : mE e m q N P rl) (hH : hisD H R) (hp : p < N) (htot : totL f0 6 ≤ 19) (hz : szH N R (lenF f0)) (htab : tabI N P f0) (r13 : rowF m (q + 13) f0) (i13 : ∀ k, k < 128 → ∃ x, m (q + 13) k = .int x) (r14 : rowF m (q + 14) f) (hd : m (q + 14) 1 = .int done) (L : mlogR m q H) (hN : 1000 < e.2.2) (hN2 : bcst 19 < e.2.2) : ∃ v m', X12_believes e q (zI p) m = some (v, m') ∧ (done = zI H.length → belMO (belA N p (if hasC f p then nxt N f p else none) R f0) v m' q) ∧ (¬ done = zI H.length → v = zI 0) ∧ (∀ j, j ≠ 66 → j ≠ 67 → m' q j = m q j) ∧ ∀ b, b ≠ q → (b < q + 28 ∨ q + 35 ≤ b) → m' b = m b := by
  obtain ⟨hT, hS, h1, h2, hr, hw, g2, g6, hP⟩ := id E
  have hx : ∀ o, ∀ x ∈ f0 o, x < 10 := fun o x hx => by have := htab.2.1 o x hx; omega
  generalize hm1 : mm_up m q 66 (.int (zI 0)) = m1
  generalize hm2 : mm_up m1 q 67 (.int (zI 0)) = m2
  have o2 : ∀ b, b ≠ q → m2 b = m b := fun b h => by rw [← hm2, up_row _ _ _ h, ← hm1, up_row _ _ _ h]
  have q2 : ∀ j, j ≠ 66 → j ≠ 67 → m2 q j = m q j := fun j x1 x2 => by rw [← hm2, up_ne _ _ (Or.inr x2), ← hm1, up_ne _ _ (Or.inr x1)]
  have v66 : m2 q 66 = .int (zI 0) := by rw [← hm2, up_ne _ _ (by omega), ← hm1, up_at]
  have v67 : m2 q 67 = .int (zI 0) := by rw [← hm2, up_at]
  have S2 : modS m2 q := hS.keep (fun i x1 x2 => q2 _ (mfld_ne 66 (by decide) i x1 x2) (mfld_ne 67 (by decide) i x1 x2))
  obtain ⟨m3, a1, a2, a3⟩ := X12_bel_12 (e := e) (i1 := zI p) hT 6 0 e.2.2 m2 (by omega) (by omega) S2 (fun k hk => absurd hk (by omega))
  have S3 : modS m3 q := S2.keep (fun _ _ _ => by rw [a3 _ (by omega)])
  obtain ⟨n4, m4, b1, b2, b3⟩ := X12_bel_33 (e := e) (i1 := zI p) hT 19 0 e.2.2 m3 (by omega) (by omega) S3 (fun k hk => absurd hk (by omega))
  have S4 : modS m4 q := S3.keep (fun _ _ _ => by rw [b3 _ (by omega)])
  have f4 : ∀ b, b ≠ q → b ≠ q + 33 → b ≠ q + 34 → m4 b = m b := fun b x1 x2 x3 => by rw [b3 b x2, a3 b x3, o2 b x1]
  have q4 : ∀ j, m4 q j = m2 q j := fun j => by rw [b3 _ (by omega), a3 _ (by omega)]
  have start : ∀ y, (if done = zI H.length then (X12_believes_L71 e q (zI p) (zI (0 : Nat)) e.2.2 (zI (0 : Nat)) m4) else (mm_rz (0 : Int32) m4)) = y → X12_believes e q (zI p) m = y := by
    intro y hy
    unfold X12_believes
    rw [show (0 : Int32) = zI ((0 : Nat) : Int) from rfl, wr_pf hT.me, Option.bind_some, show (zI ((0 : Nat) : Int) : Int32) = zI 0 from rfl, hm1, wr_pf hT.me, Option.bind_some, hm2, show (zI 0 : Int32) = zI ((0 : Nat) : Int) from rfl, a1, b1, X12_believes_L33, show (19 : Int32) = zI 19 from rfl, iep (by omega), rd_gr hT.me S4.now_, Option.bind_some, show (1 : Int32) = zI 1 from rfl, rd_ai (m := m4) hT.now_ (z := 1) (i := 1) rfl (by omega) (by omega) (v := done) (by rw [f4 _ (by omega) (by omega) (by omega)]; exact hd), Option.bind_some, rd_gi hT.me (v := zI H.length) (by rw [q4, q2 _ (by omega) (by omega)]; exact L.1), Option.bind_some]
    exact hy
  by_cases hdn : done = zI H.length
  · obtain ⟨m5, c1, c2, c3⟩ := X12_bel_71 (e := e) (i1 := zI p) (i2 := zI (0 : Nat)) hT 10 0 e.2.2 m4 (by omega) (by omega) S4 (fun k hk => absurd hk (by omega))
    have S5 : modS m5 q := S4.keep (fun _ _ _ => by rw [c3 _ (by omega)])
    have f5 : ∀ b, b ≠ q → b ≠ q + 31 → b ≠ q + 33 → b ≠ q + 34 → m5 b = m b := fun b x1 x2 x3 x4 => by rw [c3 b x2, f4 b x1 x3 x4]
    have q5 : ∀ j, m5 q j = m2 q j := fun j => by rw [c3 _ (by omega), q4]
    obtain ⟨n6, m6, d1, d2, d3, d4⟩ := X12_bel_92 (e := e) (p := p) hT g6 (by omega) hx htot hN N 0 e.2.2 m5 (by omega) (by omega) S5 (by rw [q5, q2 _ (by omega) (by omega)]; exact h1) (r13.keep' (f5 _ (by omega) (by omega) (by omega) (by omega))) (fun j hj => absurd hj (by rw [owL]; simp)) (fun c hc => c2 c hc)
    have S6 : modS m6 q := S5.keep (fun _ _ _ => by rw [d4 _ (by omega) (by omega) (by omega)])
    obtain ⟨k, hk⟩ : ∃ k, N + k = 6 := ⟨6 - N, by omega⟩
    obtain ⟨w1, w2⟩ := owL_N (p := p) htab.2.2.1 k
    rw [hk] at w1 w2
    rw [← w1] at d1 d2
    have how : (owL f0 p 6).length ≤ 19 := Nat.le_trans (owL_len f0 p 6) htot
    generalize hm7 : mm_up m6 (q + 30) 0 (.int (zI (-1))) = m7
    have r7 : ∀ b, b ≠ q + 30 → m7 b = m6 b := fun b h => by rw [← hm7, up_row _ _ _ h]
    have f7 : ∀ b, b ≠ q → (b < q + 28 ∨ q + 35 ≤ b) → m7 b = m b := fun b x1 x2 => by rw [r7 b (by omega), d4 b (by omega) (by omega) (by omega), f5 b x1 (by omega) (by omega) (by omega)]
    have q7 : ∀ j, m7 q j = m2 q j := fun j => by rw [r7 _ (by omega), d4 _ (by omega) (by omega) (by omega), q5]
    have hmem : ∀ j, j < (owL f0 p 6).length → gO (owL f0 p 6) j ∈ owL f0 p 6 := fun j hj => by
      unfold gO
      rw [List.getD_eq_getElem?_getD, List.getElem?_eq_getElem hj, Option.getD_some]
      exact List.getElem_mem hj
    have W : bmW e q N P rl H (owL f0 p 6) f0 f (lfL f0 p 6) (0, fun _ => 0, fun _ => 0) 0 m7 := by
      refine ⟨E.keep' (L := [66, 67]) (by decide) (fun j hj => by rw [q7]; exact q2 j (fun h => hj (by simp [h])) (fun h => hj (by simp [h]))) (f7 _ (by omega) (by omega)) (f7 _ (by omega) (by omega)), r13.keep' (f7 _ (by omega) (by omega)), fun k hk => by rw [f7 _ (by omega) (by omega)]; exact i13 k hk, r14.keep' (f7 _ (by omega) (by omega)), L.keep (by rw [q7]; exact q2 _ (by omega) (by omega)) (f7 _ (by omega) (by omega)), fun j hj => by rw [r7 _ (by omega), r7 _ (by omega)]; exact d2 j hj, fun c hc => by rw [r7 _ (by omega), w2 c]; exact d3 c hc, by rw [q7]; exact v67, ⟨by rw [q7]; exact v66, fun i hi => ?_, fun i hi => ?_⟩⟩
      · rw [r7 _ (by omega), d4 _ (by omega) (by omega) (by omega), c3 _ (by omega), b3 _ (by omega)]; exact a2 i hi
      · rw [r7 _ (by omega), d4 _ (by omega) (by omega) (by omega), c3 _ (by omega)]; exact b2 i (by omega)
    have hmono : ∀ k i, bcst i ≤ bcst (i + k) := by
      intro k
      induction k with
      | zero => intro i; exact Nat.le_refl _
      | succ k ih => intro i; have := ih i; rw [← Nat.add_assoc, bcst]; omega
    have hb19 : bcst (owL f0 p 6).length ≤ bcst 19 := by have := hmono (19 - (owL f0 p 6).length) (owL f0 p 6).length; rwa [show (owL f0 p 6).length + (19 - (owL f0 p 6).length) = 19 by omega] at this
    have node := X12_believes_node (e := e) (q := q) (f := f) (rl := rl) hH hp hP how (fun j hj => (owL_mem f0 p _ 6 (hmem j hj)).1) (fun j hj => (owL_mem f0 p _ 6 (hmem j hj)).2.1) (fun j hj => by rw [owL_count, if_pos ⟨(owL_mem f0 p _ 6 (hmem j hj)).1, (owL_mem f0 p _ 6 (hmem j hj)).2.1⟩]) hz hN (owL f0 p 6).length 0 e.2.2 m7 (g0L f0 p) (lfL f0 p 6) (fun _ => 0) (0, fun _ => 0, fun _ => 0) 0 (by omega) (arI_0 htab hP g6 hp) ⟨fun j hj => absurd hj (by omega), fun o ho n c hc => by unfold g0L at hc; rw [if_neg ho] at hc; simp at hc, by unfold g0L; rw [if_pos rfl]⟩ (fun j hj => absurd hj (by omega)) W (fun j hj => absurd hj (by omega)) (fun _ => by rw [← hm7, up_at]) (by omega)
    have hgo : X12_believes e q (zI p) m = X12_believes_L179 e q (zI p) (zI (owL f0 p 6).length) e.2.2 (zI (0 : Nat)) m7 := by
      refine start _ ?_
      rw [if_pos hdn, c1]
      have d1' : X12_believes_L92 e q (zI p) e.2.2 (zI (0 : Nat)) (zI (0 : Nat)) m5 = X12_believes_L92 e q (zI p) (n6 + 1) (zI (owL f0 p 6).length) (zI N) m6 := d1
      rw [d1', X12_believes_L92]
      simp only [LT]
      rw [rd_gi hT.me (v := zI N) (by rw [d4 _ (by omega) (by omega) (by omega), q5, q2 _ (by omega) (by omega)]; exact h1), Option.bind_some, iep (by omega), rd_gr hT.me S6.holds_, Option.bind_some, zI_neg, show (zI 0 : Int32) = zI ((0 : Nat) : Int) from rfl, wr_si hT.holds_ (i := 0) rfl (by omega) (by omega), Option.bind_some, hm7]
    unfold belA
    cases hh : trA (owL f0 p 6) (leafB N p (if hasC f p then nxt N f p else none) R) (owL f0 p 6).length 0 (g0L f0 p) (lfL f0 p 6) ((0, fun _ => 0, fun _ => 0), 0) with
    | none =>
      rw [hh] at node
      obtain ⟨m', g1, g2⟩ := node
      refine ⟨zI 0, m', hgo.trans g1, fun _ => rfl, fun h => absurd hdn h, fun j x1 x2 => by rw [g2.1 j x1 x2, q7, q2 j x1 x2], fun b x1 x2 => by rw [g2.2.2 b x1 (by omega) (by omega) (by omega) (by omega) (by omega), f7 b x1 x2]⟩
    | some Y =>
      rw [hh] at node
      obtain ⟨g0, n8, m', g1, g2, g3, g4⟩ := node
      obtain ⟨n9, hn9⟩ : ∃ n', e.2.2 = n' + 1 := ⟨e.2.2 - 1, by omega⟩
      refine ⟨zI 1, m', hgo.trans ?_, fun _ => ⟨rfl, g3.2.2.2.2.2.2.2.2⟩, fun h => absurd hdn h, fun j x1 x2 => by rw [g4.1 j x1 x2, q7, q2 j x1 x2], fun b x1 x2 => by rw [g4.2.2 b x1 (by omega) (by omega) (by omega) (by omega) (by omega), f7 b x1 x2]⟩
      obtain ⟨n8, rfl⟩ : ∃ n', n8 = n' + 1 := ⟨n8 - 1, by omega⟩
      rw [g2]
      unfold popB
      rw [show (zI ((0 : Nat) : Int) + -1 : Int32) = zI (-1) from rfl, show (0 : Int32) = zI 0 from rfl, ilp (by omega), X12_believes_L179, show (0 : Int32) = zI 0 from rfl, ilp (by omega)]
      rfl
  · refine ⟨zI 0, m4, start _ ?_, fun h => absurd h hdn, fun _ => rfl, fun j x1 x2 => by rw [q4, q2 j x1 x2], fun b x1 x2 => f4 b x1 (by omega) (by omega)⟩
    rw [if_neg hdn]; rfl
end BELM
