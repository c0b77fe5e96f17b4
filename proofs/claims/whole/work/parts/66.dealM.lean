/-! THE DEAL of the model. -/
section DEALM
variable {e : mm_E} {q r N P : Nat}
theorem X12_deals_fill (hT : modT e.1 q) (hP : P ≤ 9) : ∀ (j i n : Nat) (m : mm_V), i + j = 2 * P → j < n → m q 42 = .ref (q + 16) → arN m (q + 16) i (pk0 P) → ∃ m', X12_deals_L22 e q r (zI (2 * P + 1 : Nat)) n (zI i) m = X12_deals_L63 e q r (zI (2 * P + 1 : Nat)) e.2.2 (zI (2 * P : Nat)) m' ∧ arN m' (q + 16) (2 * P + 1) (pk0 P) ∧ ∀ b, b ≠ q + 16 → m' b = m b := by
  intro j
  induction j with
  | zero =>
    intro i n m hi hn h5 hA
    obtain ⟨n, rfl⟩ : ∃ n', n = n' + 1 := ⟨n - 1, by omega⟩
    have hi' : i = 2 * P := by omega
    refine ⟨mm_up m (q + 16) (2 * P) (.int (zI 0)), ?_, fun k hk => ?_, fun _ hb => up_row _ _ _ hb⟩
    · unfold X12_deals_L22
      simp only [LT, ZA]
      rw [show ((2 * P + 1 : Nat) : Int) - 1 = ((2 * P : Nat) : Int) by omega, iep (by omega), rd_gr hT.me h5, Option.bind_some, wr_si hT.pack_ (i := 2 * P) rfl (by omega) (by omega), Option.bind_some]
    · by_cases hki : k = 2 * P
      · rw [hki, up_at, pk0_hi (by omega)]; rfl
      · rw [up_ne _ _ (Or.inr hki)]; exact hA k (by omega)
  | succ j ih =>
    intro i n m hi hn h5 hA
    obtain ⟨n, rfl⟩ : ∃ n', n = n' + 1 := ⟨n - 1, by omega⟩
    obtain ⟨m', e1, e2, e3⟩ := ih (i + 1) n (mm_up m (q + 16) i (.int (zI (pk0 P i)))) (by omega) (by omega) (by rw [up_ne _ _ (Or.inl (by omega))]; exact h5) (fun k hk => by
      by_cases hki : k = i
      · subst hki; exact up_at _ _ _ _
      · rw [up_ne _ _ (Or.inr hki)]; exact hA k (by omega))
    refine ⟨m', ?_, e2, fun b hb => by rw [e3 b hb, up_row _ _ _ hb]⟩
    rw [pk0_lo (show i < 2 * P by omega)] at e1
    unfold X12_deals_L22
    simp only [LT, ZA]
    rw [ien (by omega), rd_gr hT.me h5, Option.bind_some, zI_half (by omega), zI_add, wr_si hT.pack_ (i := i) rfl (by omega) (by omega), Option.bind_some]
    exact e1
theorem X12_deals_shuf (hT : modT e.1 q) (hP : P ≤ 9) : ∀ (k n : Nat) (m : mm_V) (x : Int32) (v : Nat → Nat), k < 2 * P + 1 → k < n → m q 42 = .ref (q + 16) → m q 41 = .int x → arN m (q + 16) (2 * P + 1) v → ∃ m', X12_deals_L63 e q r (zI (2 * P + 1 : Nat)) n (zI k) m = X12_deals_L119 e q r (zI (2 * P + 1 : Nat)) e.2.2 (zI 0) m' ∧ arN m' (q + 16) (2 * P + 1) (shf k x v).1 ∧ m' q 41 = .int (shf k x v).2 ∧ (∀ j, j ≠ 41 → m' q j = m q j) ∧ ∀ b, b ≠ q → b ≠ q + 16 → m' b = m b := by
  intro k
  induction k with
  | zero =>
    intro n m x v hk hn h5 h9 hA
    obtain ⟨n, rfl⟩ : ∃ n', n = n' + 1 := ⟨n - 1, by omega⟩
    refine ⟨m, ?_, hA, h9, fun _ _ => rfl, fun _ _ _ => rfl⟩
    unfold X12_deals_L63
    simp only [LT]
    rw [iep (by omega)]
  | succ k ih =>
    intro n m x v hk hn h5 h9 hA
    obtain ⟨n, rfl⟩ : ∃ n', n = n' + 1 := ⟨n - 1, by omega⟩
    have hr := rnd_lt (lcg x) (n := k + 2) (by omega)
    have d := X12_draws_eq (e := e) (n := k + 2) hT.me h9 (by omega) (by omega)
    generalize hrr : rnd (lcg x) (k + 2) = y at hr d
    generalize hm1 : mm_up m q 41 (.int (lcg x)) = m1 at d
    have o1 : m1 (q + 16) = m (q + 16) := by rw [← hm1, up_row _ _ _ (by omega)]
    have h51 : m1 q 42 = .ref (q + 16) := by rw [← hm1, up_ne _ _ (Or.inr (by omega))]; exact h5
    have A1 : arN m1 (q + 16) (2 * P + 1) v := hA.keep o1
    obtain ⟨m', e1, e2, e3, e4, e5⟩ := ih n (mm_up (mm_up m1 (q + 16) (k + 1) (.int (zI (v y)))) (q + 16) y (.int (zI (v (k + 1))))) (lcg x) (swp v (k + 1) y) (by omega) (by omega) (by rw [up_ne _ _ (Or.inl (by omega)), up_ne _ _ (Or.inl (by omega))]; exact h51) (by rw [up_ne _ _ (Or.inl (by omega)), up_ne _ _ (Or.inl (by omega)), ← hm1, up_at]) (arN_swp A1 (by omega) (by omega))
    refine ⟨m', ?_, by rw [shf, hrr]; exact e2, by rw [shf, hrr]; exact e3, fun j hj => by rw [e4 j hj, up_ne _ _ (Or.inl (by omega)), up_ne _ _ (Or.inl (by omega)), ← hm1, up_ne _ _ (Or.inr hj)], fun b x1 x2 => by rw [e5 b x1 x2, up_row _ _ _ x2, up_row _ _ _ x2, ← hm1, up_row _ _ _ x1]⟩
    unfold X12_deals_L63
    simp only [LT, ZA]
    rw [ien (by omega), show ((k + 1 : Nat) : Int) + 1 = ((k + 2 : Nat) : Int) by omega, d, Option.bind_some]
    rw [rd_gr hT.me h51, Option.bind_some, rd_ai hT.pack_ (i := k + 1) rfl (by omega) (by omega) (A1 (k + 1) (by omega)), Option.bind_some, Option.bind_some, Option.bind_some, rd_ai hT.pack_ (i := y) rfl (by omega) (by omega) (A1 y (by omega)), Option.bind_some, wr_si hT.pack_ (i := k + 1) rfl (by omega) (by omega), Option.bind_some, rd_gr hT.me (v := q + 16) (by rw [up_ne _ _ (Or.inl (by omega))]; exact h51), Option.bind_some, wr_si hT.pack_ (i := y) rfl (by omega) (by omega), Option.bind_some]
    rw [show ((k + 1 : Nat) : Int) + (-1) = ((k : Nat) : Int) by omega]
    exact e1
theorem X12_deals_lay (hT : modT e.1 q) (ht : e.1 r = some (20, 128)) (hrq : r ≠ q ∧ r ≠ q + 16) (h2 : 2 ≤ N) (h6 : N ≤ 6) (hP : P ≤ 9) {v : Nat → Nat} (hN : 20 < e.2.2) : ∀ (j i n : Nat) (m : mm_V), i + j = 2 * P + 1 → j < n → modS m q → m q 1 = .int (zI N) → rowF m r (sbp N v i) → arN m (q + 16) (2 * P + 1) v → ∃ m', X12_deals_L119 e q r (zI (2 * P + 1 : Nat)) n (zI i) m = X12_deals_L163 e q r e.2.2 (zI 0) m' ∧ rowF m' r (sbp N v (2 * P + 1)) ∧ (∀ j, (j < 2 ∨ (8 ≤ j ∧ j < 14)) → m' r j = m r j) ∧ ∀ b, b ≠ r → m' b = m b := by
  intro j
  induction j with
  | zero =>
    intro i n m hi hn hS h1 h hA
    obtain ⟨n, rfl⟩ : ∃ n', n = n' + 1 := ⟨n - 1, by omega⟩
    have hi' : i = 2 * P + 1 := by omega
    refine ⟨m, ?_, by rw [← hi']; exact h, fun _ _ => rfl, fun _ _ => rfl⟩
    unfold X12_deals_L119
    simp only [LT]
    rw [iep (by omega)]
  | succ j ih =>
    intro i n m hi hn hS h1 h hA
    obtain ⟨n, rfl⟩ : ∃ n', n = n' + 1 := ⟨n - 1, by omega⟩
    have hp : i % N < N := Nat.mod_lt _ (by omega)
    have hl := sbp_len (N := N) (v := v) (p := i % N) (i := i)
    obtain ⟨m1, a1, a2, a3⟩ := X12_inserts_eq (e := e) (c := v i) (k := (sbp N v i (i % N)).length) ht h (show i % N < 6 by omega) (Nat.le_refl _) (by omega) hN
    rw [ins_end, ← sbp_succ] at a2
    obtain ⟨m', e1, e2, e3, e4⟩ := ih (i + 1) n m1 (by omega) (by omega) (hS.keep (fun k _ _ => by rw [a3.1 _ (by omega)])) (by rw [a3.1 _ (by omega)]; exact h1) a2 (hA.keep (a3.1 _ (by omega)))
    refine ⟨m', ?_, e2, fun j hj => by rw [e3 j hj, a3.2 j (by omega) (by omega)], fun b hb => by rw [e4 b hb, a3.1 b hb]⟩
    unfold X12_deals_L119
    rw [ien (by omega), rd_gi hT.me h1, Option.bind_some]
    simp only [LT]
    rw [iqn (by omega), Option.bind_some, iqn (by omega), zI_rem (by omega) (by omega), X12_size_eq ht h (show i % N < 6 by omega), Option.bind_some, rd_gr hT.me hS.pack_, Option.bind_some, rd_ai hT.pack_ (i := i) rfl (by omega) (by omega) (hA i (by omega)), Option.bind_some, a1, Option.bind_some, zI_add]
    exact e1
theorem X12_deals_two (ht : e.1 r = some (20, 128)) {p c o : Nat} (hp : p < 6) {f : Nat → List Nat} {A B : List Nat} (hf : f p = A ++ c :: B) (hB : c ∉ B) (hx : ∀ x ∈ f p, x < 1000) (ho : o ≤ A.length) (k1 k2 : Int32 → mm_V → Option mm_V) {m : mm_V} (h : rowF m r f) : ∀ (j n : Nat), j ≤ B.length → j < n → X12_deals_L213 e k1 k2 q r (zI p) (zI c) (zI o) n (zI (A.length + j : Nat)) m = if o = A.length then k2 (zI (c + 1 : Nat)) m else (X12_takes e r (zI p) (zI A.length) m).bind fun r2 => (X12_takes e r (zI p) (zI o) r2.2).bind fun r3 => k2 (zI (c + 1 : Nat)) r3.2 := by
  have hlen := (h p hp).2.1
  have hl : (f p).length = A.length + (B.length + 1) := by rw [hf, List.length_append, List.length_cons]
  have hc : c < 1000 := hx c (by rw [hf]; simp)
  intro j
  induction j with
  | zero =>
    intro n hj hn
    obtain ⟨n, rfl⟩ : ∃ n', n = n' + 1 := ⟨n - 1, by omega⟩
    have hg : (f p)[A.length + 0]? = some c := by rw [hf, List.getElem?_append_right (by omega)]; simp
    unfold X12_deals_L213 X12_deals_b260
    rw [X12_card_eq ht h hp hg, Option.bind_some, iqp (by omega)]
    by_cases hoA : o = A.length
    · rw [if_pos hoA, inn (by omega), LT.2.2.2.2.2.2.2.2.2.2.2.2.2.2.2.2.2.2.2.1, zI_add]; rfl
    · rw [if_neg hoA, inp (by omega), LT.2.2.2.2.2.2.2.2.2.2.2.2.2.2.2.2.2.2.2.1]
      simp only [zI_add]; rfl
  | succ j ih =>
    intro n hj hn
    obtain ⟨n, rfl⟩ : ∃ n', n = n' + 1 := ⟨n - 1, by omega⟩
    have hjB : j < B.length := by omega
    have hg : (f p)[A.length + (j + 1)]? = some B[j] := by
      rw [hf, List.getElem?_append_right (by omega), show A.length + (j + 1) - A.length = j + 1 by omega, List.getElem?_cons_succ]
      exact List.getElem?_eq_getElem hjB
    have hne : B[j] ≠ c := fun hh => hB (hh ▸ List.getElem_mem hjB)
    have hb : B[j] < 1000 := hx _ (List.mem_of_getElem? hg)
    unfold X12_deals_L213
    rw [X12_card_eq ht h hp hg, Option.bind_some, iqn (by omega)]
    simp only [LT, ZA]
    rw [show ((A.length + (j + 1) : Nat) : Int) + (-1) = ((A.length + j : Nat) : Int) by omega]
    exact ih n (by omega) (by omega)
theorem X12_deals_in (hT : modT e.1 q) (ht : e.1 r = some (20, 128)) (hrq : r ≠ q) (hP : P ≤ 9) (hN : 20 < e.2.2) {p : Nat} (hp : p < 6) {S : List Nat} (hS2 : ∀ c, S.count c ≤ 2) (hSP : ∀ x ∈ S, x ≤ P) (k1 : Int32 → mm_V → Option mm_V) : ∀ (j i n : Nat) (m : mm_V) (f : Nat → List Nat), i + j = P → j < n → m q 2 = .int (zI P) → rowF m r f → f p = rms i S → ∃ m', X12_deals_L175 e k1 q r (zI p) n (zI (i + 1 : Nat)) m = k1 (zI (p + 1 : Nat)) m' ∧ rowF m' r (setF f p (rms P S)) ∧ rowK m m' r p := by
  intro j
  induction j with
  | zero =>
    intro i n m f hi hn h2 h hf
    obtain ⟨n, rfl⟩ : ∃ n', n = n' + 1 := ⟨n - 1, by omega⟩
    have hi' : i = P := by omega
    refine ⟨m, ?_, by rw [← hi', ← hf, setF_id]; exact h, ⟨fun _ _ => rfl, fun _ _ _ => rfl⟩⟩
    unfold X12_deals_L175
    rw [rd_gi hT.me h2, Option.bind_some, ilp (by omega)]
    simp only [LT, ZA]; rfl
  | succ j ih =>
    intro i n m f hi hn h2 h hf
    obtain ⟨n, rfl⟩ : ∃ n', n = n' + 1 := ⟨n - 1, by omega⟩
    have hsub : ∀ x ∈ rms i S, x ≤ P := fun x hx => by rw [rms_filter] at hx; exact hSP x (List.mem_filter.mp hx).1
    have hx1 : ∀ x ∈ f p, x < 1000 := fun x hx => by rw [hf] at hx; have := hsub x hx; omega
    have hlen := (h p hp).2.1
    have hcnt : (f p).count (i + 1) ≤ 2 := by
      rw [hf, rms_filter]
      exact Nat.le_trans ((List.filter_sublist).count_le _) (hS2 _)
    have pl := X12_placeOf_eq (e := e) (c := i + 1) ht h hp hx1 (by omega) hN
    by_cases hm : i + 1 ∈ f p
    · obtain ⟨A, B, hAB, hB⟩ := mem_last hm
      have hl : (f p).length = A.length + (B.length + 1) := by rw [hAB, List.length_append, List.length_cons]
      by_cases hA : i + 1 ∈ A
      · cases hi1 : idx (i + 1) (f p) with
        | none => exact absurd hm (idx_mem.mp hi1)
        | some o =>
          rw [hAB] at hi1 hcnt
          obtain ⟨t1, t2, t3, t4⟩ := rmc_two hB hA hcnt hi1
          rw [← hAB] at hi1 t2
          obtain ⟨m1, a1, a2, a3⟩ := X12_takes_eq (e := e) (k := A.length) (c := i + 1) ht h hp (by rw [hAB, List.getElem?_append_right (by omega)]; simp) hN
          rw [t2] at a2
          obtain ⟨m2, b1, b2, b3⟩ := X12_takes_eq (e := e) (k := o) (c := i + 1) ht a2 hp (by rw [setF_at]; exact t3) hN
          rw [setF_at, t4, ← hAB, hf] at b2
          have hst : setF (setF f p (A ++ B)) p (rms (i + 1) S) = setF f p (rms (i + 1) S) := by
            funext x; unfold setF; by_cases hxp : x = p
            · rw [if_pos hxp, if_pos hxp]
            · rw [if_neg hxp, if_neg hxp, if_neg hxp]
          rw [show rmc (rms i S) (i + 1) = rms (i + 1) S from rfl, hst] at b2
          have K2 := a3.trans b3
          obtain ⟨m', e1, e2, e3⟩ := ih (i + 1) n m2 _ (by omega) (by omega) (by rw [K2.1 _ (by omega)]; exact h2) b2 (setF_at _ _ _)
          have hst2 : setF (setF f p (rms (i + 1) S)) p (rms P S) = setF f p (rms P S) := by
            funext x; unfold setF; by_cases hxp : x = p
            · rw [if_pos hxp, if_pos hxp]
            · rw [if_neg hxp, if_neg hxp, if_neg hxp]
          rw [hst2] at e2
          refine ⟨m', ?_, e2, K2.trans e3⟩
          have two := X12_deals_two (e := e) (q := q) (o := o) ht hp hAB hB hx1 (by omega) k1 (X12_deals_L175 e k1 q r (zI p) n) h B.length e.2.2 (Nat.le_refl _) (by omega)
          rw [if_neg (by omega), a1, Option.bind_some, b1, Option.bind_some, e1] at two
          unfold X12_deals_L175
          rw [rd_gi hT.me h2, Option.bind_some, iln (by omega), pl, Option.bind_some, hi1]
          simp only [LT, zI_neg, ozI]
          rw [inp (by omega), X12_size_eq ht h hp, Option.bind_some, zI_sub, show ((f p).length : Int) - 1 = ((A.length + B.length : Nat) : Int) by omega]
          exact two
      · have hi1 : idx (i + 1) (f p) = some A.length := by rw [hAB]; exact idx_mid hA
        have hsame : rms (i + 1) S = rms i S := by
          show rmc (rms i S) (i + 1) = _
          rw [rmc, ← hf, hAB, if_neg]
          rw [List.count_append, List.count_cons_self, List.count_eq_zero.mpr hA, List.count_eq_zero.mpr hB]; omega
        obtain ⟨m', e1, e2, e3⟩ := ih (i + 1) n m f (by omega) (by omega) h2 h (by rw [hsame]; exact hf)
        refine ⟨m', ?_, e2, e3⟩
        have two := X12_deals_two (e := e) (q := q) (o := A.length) ht hp hAB hB hx1 (Nat.le_refl _) k1 (X12_deals_L175 e k1 q r (zI p) n) h B.length e.2.2 (Nat.le_refl _) (by omega)
        rw [if_pos rfl, e1] at two
        unfold X12_deals_L175
        rw [rd_gi hT.me h2, Option.bind_some, iln (by omega), pl, Option.bind_some, hi1]
        simp only [LT, zI_neg, ozI]
        rw [inp (by omega), X12_size_eq ht h hp, Option.bind_some, zI_sub, show ((f p).length : Int) - 1 = ((A.length + B.length : Nat) : Int) by omega]
        exact two
    · have hi1 : idx (i + 1) (f p) = none := idx_mem.mpr hm
      have hsame : rms (i + 1) S = rms i S := by
        show rmc (rms i S) (i + 1) = _
        rw [rmc, ← hf, if_neg (by rw [List.count_eq_zero.mpr hm]; omega)]
      obtain ⟨m', e1, e2, e3⟩ := ih (i + 1) n m f (by omega) (by omega) h2 h (by rw [hsame]; exact hf)
      refine ⟨m', ?_, e2, e3⟩
      unfold X12_deals_L175 X12_deals_b260
      rw [rd_gi hT.me h2, Option.bind_some, iln (by omega), pl, Option.bind_some, hi1]
      simp only [LT, ZA, ozI, not_true_eq_false, if_false]
      exact e1
theorem X12_deals_out (hT : modT e.1 q) (ht : e.1 r = some (20, 128)) (hrq : r ≠ q) (h2 : 2 ≤ N) (h6 : N ≤ 6) (hP : P ≤ 9) (hN : 20 < e.2.2) {v : Nat → Nat} (hv : goodV (2 * P + 1) P v) : ∀ (j i n : Nat) (m : mm_V) (f : Nat → List Nat), i + j = N → j < n → m q 1 = .int (zI N) → m q 2 = .int (zI P) → rowF m r f → (∀ k, k < i → f k = dlt N v (2 * P + 1) k) → (∀ k, i ≤ k → f k = sbp N v (2 * P + 1) k) → ∃ m', X12_deals_L163 e q r n (zI i) m = some m' ∧ rowF m' r (dlt N v (2 * P + 1)) ∧ m' r 0 = .int (if isOv N (dlt N v (2 * P + 1)) then zI (-1) else ozI (opn N (dlt N v (2 * P + 1)))) ∧ (∀ j, (j = 1 ∨ (8 ≤ j ∧ j < 14)) → m' r j = m r j) ∧ ∀ b, b ≠ r → m' b = m b := by
  intro j
  induction j with
  | zero =>
    intro i n m f hi hn h1 h2' h hlo hhi
    obtain ⟨n, rfl⟩ : ∃ n', n = n' + 1 := ⟨n - 1, by omega⟩
    have hff : f = dlt N v (2 * P + 1) := by
      funext k
      by_cases hk : k < i
      · exact hlo k hk
      · rw [hhi k (by omega), (tabI_dlt (by omega) hv).2.2.1 k (by omega), List.eq_nil_iff_forall_not_mem]
        intro x hx
        obtain ⟨j, a, b, d⟩ := sbp_mem.mp hx
        have := Nat.mod_lt j (show 0 < N by omega)
        omega
    rw [hff] at h
    refine ⟨_, ?_, h.keep (fun j x1 x2 => up_ne _ _ (Or.inr (by omega))) (fun j x1 x2 => up_ne _ _ (Or.inr (by omega))), up_at _ _ _ _, fun j hj => up_ne _ _ (Or.inr (by omega)), fun b hb => up_row _ _ _ hb⟩
    unfold X12_deals_L163
    rw [rd_gi hT.me h1, Option.bind_some, iep (by omega), X12_opens_eq ht hT.me h h1 h2 h6 hN, Option.bind_some]
  | succ j ih =>
    intro i n m f hi hn h1 h2' h hlo hhi
    obtain ⟨n, rfl⟩ : ∃ n', n = n' + 1 := ⟨n - 1, by omega⟩
    have c2 : ∀ c, (sbp N v (2 * P + 1) i).count c ≤ 2 := fun c => sbp_cnt2 hv (Nat.le_refl _)
    have cP : ∀ x ∈ sbp N v (2 * P + 1) i, x ≤ P := fun x hx => by
      obtain ⟨j, a, b, d⟩ := sbp_mem.mp hx
      rw [← d]; exact hv.1 j a
    have c0 : (sbp N v (2 * P + 1) i).count 0 ≤ 1 := Nat.le_of_not_lt fun hc => by
      obtain ⟨k, k1, k2, k3⟩ := hv.2.1
      obtain ⟨x, y, a, b, d1, d2⟩ := sbp_two hc
      have := k3 x (by omega) d1
      have := k3 y (by omega) d2
      omega
    obtain ⟨m1, a1, a2, a3⟩ := X12_deals_in (e := e) hT ht hrq hP hN (show i < 6 by omega) c2 cP (X12_deals_L163 e q r n) P 0 e.2.2 m f (by omega) (by omega) h2' h (hhi i (Nat.le_refl _))
    rw [rms_once cP c2 c0, ← dlt_once hv (Nat.le_refl _)] at a2
    obtain ⟨m', e1, e2, e3, e4, e5⟩ := ih (i + 1) n m1 _ (by omega) (by omega) (by rw [a3.1 _ (by omega)]; exact h1) (by rw [a3.1 _ (by omega)]; exact h2') a2 (fun k hk => by
      by_cases hki : k = i
      · subst hki; exact setF_at _ _ _
      · rw [setF_ne _ _ hki]; exact hlo k (by omega)) (fun k hk => by rw [setF_ne _ _ (by omega)]; exact hhi k (by omega))
    refine ⟨m', ?_, e2, e3, fun j hj => by rw [e4 j hj, a3.2 j (by omega) (by omega)], fun b hb => by rw [e5 b hb, a3.1 b hb]⟩
    unfold X12_deals_L163
    rw [rd_gi hT.me h1, Option.bind_some, ien (by omega)]
    simp only [LT]
    rw [show (zI 1 : Int32) = zI ((0 + 1 : Nat) : Int) from rfl, a1]
    exact e1
theorem X12_deals_eq {m : mm_V} (hT : modT e.1 q) (hS : modS m q) (ht : e.1 r = some (20, 128)) (hrq : r ≠ q ∧ r ≠ q + 16) (h2 : 2 ≤ N) (h6 : N ≤ 6) (hP : P ≤ 9) (hn : m q 1 = .int (zI N)) (hp2 : m q 2 = .int (zI P)) (x : Int32) (hN : 128 < e.2.2) : ∃ m', X12_deals e q x r m = some m' ∧ rowF m' r (dealF N P x) ∧ m' r 0 = .int (if isOv N (dealF N P x) then zI (-1) else ozI (opn N (dealF N P x))) ∧ (∀ j, (j = 1 ∨ (8 ≤ j ∧ j < 14)) → m' r j = .int (zI 0)) ∧ m' q 41 = .int (dealS P x) ∧ (∀ j, j ≠ 41 → m' q j = m q j) ∧ ∀ b, b ≠ q → b ≠ q + 16 → b ≠ r → m' b = m b := by
  obtain ⟨m0, z1, z2, z3⟩ := X12_clears_eq (e := e) (m := m) ht hN q
  generalize hm1 : mm_up m0 q 41 (.int x) = m1
  have o1 : ∀ b, b ≠ q → m1 b = m0 b := fun b hb => by rw [← hm1, up_row _ _ _ hb]
  have o1' : ∀ j, j ≠ 41 → m1 q j = m q j := fun j hj => by rw [← hm1, up_ne _ _ (Or.inr hj), z2 _ (by omega)]
  have m41 := mfld_ne 41 (by decide)
  have S1 : modS m1 q := hS.keep (fun i a b => o1' _ (m41 i a b))
  obtain ⟨m2, a1, a2, a3⟩ := X12_deals_fill (e := e) (r := r) hT hP (2 * P) 0 e.2.2 m1 (by omega) (by omega) S1.pack_ (fun k hk => absurd hk (by omega))
  obtain ⟨m3, b1, b2, b3, b4, b5⟩ := X12_deals_shuf (e := e) (r := r) hT hP (2 * P) e.2.2 m2 x (pk0 P) (by omega) (by omega) (by rw [a3 _ (by omega)]; exact S1.pack_) (by rw [a3 _ (by omega), ← hm1, up_at]) a2
  have o3 : ∀ b, b ≠ q → b ≠ q + 16 → m3 b = m0 b := fun b x1 x2 => by rw [b5 b x1 x2, a3 b x2, o1 b x1]
  have o3' : ∀ j, j ≠ 41 → m3 q j = m q j := fun j hj => by rw [b4 j hj, a3 _ (by omega), o1' j hj]
  have S3 : modS m3 q := hS.keep (fun i a b => o3' _ (m41 i a b))
  have R3 : rowF m3 r (sbp N (dealV P x) 0) := fun p hp => by
    refine ⟨by rw [o3 _ (by omega) (by omega), z3 _ (by omega)]; rfl, by simp [sbp], fun k c hk => by simp [sbp] at hk⟩
  obtain ⟨m4, c1, c2, c3, c4⟩ := X12_deals_lay (e := e) (v := dealV P x) hT ht hrq h2 h6 hP (by omega) (2 * P + 1) 0 e.2.2 m3 (by omega) (by omega) S3 (by rw [o3' _ (by omega)]; exact hn) R3 b2
  obtain ⟨m', e1, e2, e3, e4, e5⟩ := X12_deals_out (e := e) (v := dealV P x) hT ht hrq.1 h2 h6 hP (by omega) (goodV_deal P x) N 0 e.2.2 m4 _ (by omega) (by omega) (by rw [c4 _ (by omega), o3' _ (by omega)]; exact hn) (by rw [c4 _ (by omega), o3' _ (by omega)]; exact hp2) c2 (fun k hk => absurd hk (by omega)) (fun k _ => rfl)
  refine ⟨m', ?_, e2, e3, fun j hj => by rw [e4 j hj, c3 j (by omega), o3 _ (by omega) (by omega), z3 _ (by omega)], by rw [e5 _ (by omega), c4 _ (by omega)]; exact b3, fun j hj => by rw [e5 _ (by omega), c4 _ (by omega), o3' j hj], fun b x1 x2 x3 => by rw [e5 b x3, c4 b x3, o3 b x1 x2, z2 b x3]⟩
  unfold X12_deals
  rw [z1, Option.bind_some, wr_pf hT.me, Option.bind_some, hm1, rd_gi hT.me (v := zI P) (by rw [o1' _ (by omega)]; exact hp2), Option.bind_some]
  simp only [LT, ZA]
  rw [show (2 * (P : Int) + 1) = ((2 * P + 1 : Nat) : Int) by omega]
  rw [show (zI 0 : Int32) = zI ((0 : Nat) : Int) from rfl] at b1 c1 ⊢
  rw [a1, b1, c1]
  exact e1
end DEALM
