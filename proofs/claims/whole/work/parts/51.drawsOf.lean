/-! A DRAW, by the model, in a row r. -/
def trn (N : Nat) (f : Nat → List Nat) (p : Nat) : Int32 := if isOv N f then zI (-1) else ozI (nxt N f p)
section DRAWM
variable {e : mm_E} {q r N : Nat} {f : Nat → List Nat} {rl : Nat → List Int} {sit last : Nat → Nat} {done lw : Int32} {p s k c : Nat}
theorem X12_drawsOf_b144_eq {m : mm_V} (hT : modT e.1 q) (ht : e.1 r = some (20, 128)) (hrq : r ≠ q) (h : rowF m r f) (hn : m q 1 = .int (zI N)) (h2 : 2 ≤ N) (h6 : N ≤ 6) (hp : p < N) (hd : m r 1 = .int done) (hN : 20 < e.2.2) : ∃ m', X12_drawsOf_b144 e q r (zI p) m = some m' ∧ m' r 1 = .int (done + zI 1) ∧ m' r 0 = .int (trn N f p) ∧ (∀ j, 2 ≤ j → m' r j = m r j) ∧ ∀ b, b ≠ r → m' b = m b := by
  have hF : rowF (mm_up m r 1 (.int (done + zI 1))) r f := h.keep (fun j _ _ => up_ne _ _ (Or.inr (by omega))) (fun j _ _ => up_ne _ _ (Or.inr (by omega)))
  have hn1 : mm_up m r 1 (.int (done + zI 1)) q 1 = .int (zI N) := by rw [up_ne _ _ (Or.inl (Ne.symm hrq))]; exact hn
  refine ⟨mm_up (mm_up m r 1 (.int (done + zI 1))) r 0 (.int (trn N f p)), ?_, by rw [up_ne _ _ (Or.inr (by omega)), up_at], up_at _ _ _ _, fun j hj => by rw [up_ne _ _ (Or.inr (by omega)), up_ne _ _ (Or.inr (by omega))], fun b hb => by rw [up_row _ _ _ hb, up_row _ _ _ hb]⟩
  unfold X12_drawsOf_b144
  simp only [LT, zI_neg, X12_drawsOf_b172]
  rw [rd_ai ht (i := 1) (by omega) (by omega) (by omega) hd, Option.bind_some, wr_si ht (i := 1) (by omega) (by omega) (by omega), Option.bind_some, X12_isOver_eq ht hT.me hF hn1 h6 hN, Option.bind_some]
  unfold trn
  cases ho : isOv N f with
  | true =>
    simp only [bZ, if_true]
    rw [iqn (by omega), wr_si ht (i := 0) (by omega) (by omega) (by omega)]
    rfl
  | false =>
    simp only [bZ, Bool.false_eq_true, if_false, if_true]
    rw [X12_nextOf_eq ht hT.me hF hn1 h2 h6 hp hN, Option.bind_some, wr_si ht (i := 0) (by omega) (by omega) (by omega)]
    rfl
def dmF (rl : Nat → List Int) (sit : Nat → Nat) (f : Nat → List Nat) (last : Nat → Nat) (done : Int32) (p c : Nat) : Nat → List Nat := match idx c (f p) with
  | some j => setF f p ((f p).eraseIdx j)
  | none => setF f p ((f p).insertIdx (hAt rl sit f last done p c) c)
def dmOwn (rl : Nat → List Int) (sit : Nat → Nat) (f : Nat → List Nat) (last : Nat → Nat) (done : Int32) (p c : Nat) : Int32 := match idx c (f p) with
  | some j => zI j
  | none => zI (hAt rl sit f last done p c)
theorem X12_drawsOf_b74_eq {m : mm_V} (hT : modT e.1 q) (hS : modS m q) (ht : e.1 r = some (20, 128)) (hrq : r ≠ q ∧ r ≠ q + 1 ∧ r ≠ q + 3 ∧ r ≠ q + 17 ∧ r ≠ q + 18) (h : rowF m r f) (hn : m q 1 = .int (zI N)) (h2 : 2 ≤ N) (h6 : N ≤ 6) (hp : p < N) (hd : m r 1 = .int done) (hla : m r (8 + p) = .int (zI (last p))) (hsit : m (q + 18) p = .int (zI (sit p))) (hs6 : sit p < 6) (hr : rulesM m (q + 1) (q + 3) rl) (hw : rulesW rl) (hg : m q 45 = .int (zI c)) (hpl : idx c (f p) = none → (f p).length < 19) (hN : 2000 < e.2.2) : ∃ m', X12_drawsOf_b74 e q r (zI p) q (ozI (idx c (f p))) m = some m' ∧ rowF m' r (dmF rl sit f last done p c) ∧ m' r 1 = .int (done + zI 1) ∧ m' r 0 = .int (trn N (dmF rl sit f last done p c) p) ∧ (∀ j, 8 ≤ j → j < 14 → m' r j = m r j) ∧ m' q 46 = .int (dmOwn rl sit f last done p c) ∧ m' q 47 = .int (bZ (idx c (f p)).isSome) ∧ (∀ j, j ≠ 46 → j ≠ 47 → m' q j = m q j) ∧ ∀ b, b ≠ q → b ≠ r → b ≠ q + 17 → m' b = m b := by
  have h19 := (h p (by omega)).2.1
  have hbz : ∀ x : Bool, bZ x = 0 ∨ bZ x = 1 := by intro x; cases x <;> simp [bZ] <;> first | (left; rfl) | (right; rfl)
  generalize hm1 : mm_up m q 46 (.int (ozI (idx c (f p)))) = m1
  have o1 : ∀ b, b ≠ q → m1 b = m b := fun b hb => by rw [← hm1, up_row _ _ _ hb]
  generalize hm2 : mm_up m1 q 47 (.int (bZ (idx c (f p)).isSome)) = m2
  have o2 : ∀ b, b ≠ q → m2 b = m b := fun b hb => by rw [← hm2, up_row _ _ _ hb]; exact o1 b hb
  have q2 : ∀ j, j ≠ 46 → j ≠ 47 → m2 q j = m q j := fun j x1 x2 => by rw [← hm2, up_ne _ _ (Or.inr x2), ← hm1, up_ne _ _ (Or.inr x1)]
  have q46 : m2 q 46 = .int (ozI (idx c (f p))) := by rw [← hm2, up_ne _ _ (Or.inr (by omega)), ← hm1, up_at]
  have q47 : m2 q 47 = .int (bZ (idx c (f p)).isSome) := by rw [← hm2, up_at]
  have hF2 : rowF m2 r f := h.keep' (o2 r hrq.1)
  have hS2 : modS m2 q := hS.keep (fun i x1 x2 => q2 _ (mfld_ne 46 (by decide) i x1 x2) (mfld_ne 47 (by decide) i x1 x2))
  have pre : ∀ x, (if bZ (idx c (f p)).isSome = zI 0 then ((mm_gi e.1 m2 12 75 q 45).bind fun x3 => (X12_holdsAt e q r (zI p) x3 m2).bind fun r4 => (mm_pf e.1 r4.2 12 75 q 46 (.int r4.1)).bind fun m5 => (mm_gi e.1 m5 12 75 q 46).bind fun x6 => (mm_gi e.1 m5 12 75 q 45).bind fun x7 => (X12_inserts e r (zI p) x6 x7 m5).bind fun r8 => X12_drawsOf_b144 e q r (zI p) r8) else ((mm_gi e.1 m2 12 75 q 46).bind fun x9 => (X12_takes e r (zI p) x9 m2).bind fun r10 => X12_drawsOf_b144 e q r (zI p) r10.2)) = some x → X12_drawsOf_b74 e q r (zI p) q (ozI (idx c (f p))) m = some x := by
    intro x hx
    unfold X12_drawsOf_b74
    rw [wr_pf hT.me, Option.bind_some, hm1, rd_gi hT.me (v := ozI (idx c (f p))) (by rw [← hm1, up_at]), Option.bind_some]
    simp only [LT, zI_neg]
    rw [if_oz (o := idx c (f p)) (fun j hj => by have := idx_bound hj; omega) (fun z => X12_drawsOf_b91 e q r (zI p) q z m1)]
    unfold X12_drawsOf_b91
    rw [wr_pz hT.me (hbz _), Option.bind_some, hm2, rd_gi hT.me q47, Option.bind_some]
    exact hx
  unfold dmF dmOwn
  cases hi : idx c (f p) with
  | some j =>
    rw [hi] at q46 q47 pre
    have hj := idx_lt hi
    obtain ⟨m3, a1, a2, a3⟩ := X12_takes_eq (e := e) ht hF2 (show p < 6 by omega) hj (by omega)
    obtain ⟨m4, b1, b2, b3, b4, b5⟩ := X12_drawsOf_b144_eq (e := e) (p := p) (done := done) hT ht hrq.1 a2 (by rw [a3.1 _ (Ne.symm hrq.1), q2 _ (by omega) (by omega)]; exact hn) h2 h6 hp (by rw [a3.2 _ (by omega) (by omega), o2 _ hrq.1]; exact hd) (by omega)
    refine ⟨m4, pre m4 ?_, a2.keep (fun j x1 x2 => b4 j (by omega)) (fun j x1 x2 => b4 j (by omega)), b2, b3, fun j x1 x2 => by rw [b4 j (by omega), a3.2 j (by omega) (by omega), o2 _ hrq.1], by rw [b5 _ (Ne.symm hrq.1), a3.1 _ (Ne.symm hrq.1)]; exact q46, by rw [b5 _ (Ne.symm hrq.1), a3.1 _ (Ne.symm hrq.1)]; exact q47, fun j x1 x2 => by rw [b5 _ (Ne.symm hrq.1), a3.1 _ (Ne.symm hrq.1)]; exact q2 j x1 x2, fun b x1 x2 x3 => by rw [b5 _ x2, a3.1 _ x2]; exact o2 b x1⟩
    simp only [Option.isSome_some, bZ, if_true]
    rw [iqn (by omega), rd_gi hT.me q46, Option.bind_some]
    simp only [ozI]
    rw [a1, Option.bind_some]
    exact b1
  | none =>
    rw [hi] at q46 q47 pre
    obtain ⟨m3, a1, a2⟩ := X12_holdsAt_eq (e := e) (c := c) (rl := rl) (sit := sit) (last := last) (done := done) hT hS2 ht hrq.2.2.2.1 hF2 (by rw [o2 _ hrq.1]; exact hd) (show p < 6 by omega) (by rw [o2 _ hrq.1]; exact hla) (by rw [o2 _ (by omega)]; exact hsit) hs6 (hr.keep (o2 _ (by omega)) (o2 _ (by omega))) hw hN
    have hle := hAt_le (rl := rl) (sit := sit) (f := f) (last := last) (done := done) (p := p) (c := c)
    generalize hAt rl sit f last done p c = h0 at *
    generalize hm4 : mm_up m3 q 46 (.int (zI h0)) = m4
    have o4 : ∀ b, b ≠ q → b ≠ q + 17 → m4 b = m b := fun b x1 x2 => by rw [← hm4, up_row _ _ _ x1, a2 b x2]; exact o2 b x1
    have q4 : ∀ j, j ≠ 46 → j ≠ 47 → m4 q j = m q j := fun j x1 x2 => by rw [← hm4, up_ne _ _ (Or.inr x1), a2 q (by omega)]; exact q2 j x1 x2
    have F4 : rowF m4 r f := h.keep' (o4 r hrq.1 hrq.2.2.2.1)
    obtain ⟨m5, b1, b2, b3⟩ := X12_inserts_eq (e := e) (c := c) ht F4 (show p < 6 by omega) hle (hpl hi) (by omega)
    obtain ⟨m6, c1, c2, c3, c4, c5⟩ := X12_drawsOf_b144_eq (e := e) (p := p) (done := done) hT ht hrq.1 b2 (by rw [b3.1 _ (Ne.symm hrq.1), q4 _ (by omega) (by omega)]; exact hn) h2 h6 hp (by rw [b3.2 _ (by omega) (by omega), o4 _ hrq.1 hrq.2.2.2.1]; exact hd) (by omega)
    refine ⟨m6, pre m6 ?_, b2.keep (fun j x1 x2 => c4 j (by omega)) (fun j x1 x2 => c4 j (by omega)), c2, c3, fun j x1 x2 => by rw [c4 j (by omega), b3.2 j (by omega) (by omega), o4 _ hrq.1 hrq.2.2.2.1], by rw [c5 _ (Ne.symm hrq.1), b3.1 _ (Ne.symm hrq.1), ← hm4, up_at], by rw [c5 _ (Ne.symm hrq.1), b3.1 _ (Ne.symm hrq.1), ← hm4, up_ne _ _ (Or.inr (by omega)), a2 q (by omega)]; exact q47, fun j x1 x2 => by rw [c5 _ (Ne.symm hrq.1), b3.1 _ (Ne.symm hrq.1)]; exact q4 j x1 x2, fun b x1 x2 x3 => by rw [c5 _ x2, b3.1 _ x2]; exact o4 b x1 x3⟩
    simp only [Option.isSome_none, bZ, Bool.false_eq_true, if_false, if_true]
    rw [rd_gi hT.me (v := zI c) (by rw [q2 _ (by omega) (by omega)]; exact hg), Option.bind_some, a1, Option.bind_some, wr_pf hT.me, Option.bind_some, hm4, rd_gi hT.me (v := zI h0) (by rw [← hm4, up_at]), Option.bind_some, rd_gi hT.me (v := zI c) (by rw [q4 _ (by omega) (by omega)]; exact hg), Option.bind_some, b1, Option.bind_some]
    exact c1
theorem X12_drawsOf_eq {m : mm_V} {st : Bool} (hst : st = true ↔ ¬ (lw &&& zI 2 = zI 0)) (hT : modT e.1 q) (hS : modS m q) (ht : e.1 r = some (20, 128)) (hrq : r ≠ q ∧ r ≠ q + 1 ∧ r ≠ q + 3 ∧ r ≠ q + 17 ∧ r ≠ q + 18) (h : rowF m r f) (hcs : ∀ p, ∀ x ∈ f p, x < 1000) (hn : m q 1 = .int (zI N)) (h2 : 2 ≤ N) (h6 : N ≤ 6) (hp : p < N) (hs : s < 6) (hps : s ≠ p) (hc : (f s)[k]? = some c) (hq0 : c = 0 → idx c (f p) = none) (htu : m r 0 = .int (zI p)) (hd : m r 1 = .int done) (hla : ∀ i, i < 6 → m r (8 + i) = .int (zI (last i))) (hsit : m (q + 18) p = .int (zI (sit p))) (hs6 : sit p < 6) (hr : rulesM m (q + 1) (q + 3) rl) (hw : rulesW rl) (hpl : idx c (f p) = none → (f p).length < 19) (hN : 2000 < e.2.2) : ∃ m', X12_drawsOf e q r (zI s) (zI k) (bZ st) m = some m' ∧ rowF m' r (stF rl sit lw f last done p s k c) ∧ m' r 1 = .int (done + zI 1) ∧ m' r 0 = .int (trn N (stF rl sit lw f last done p s k c) p) ∧ (∀ i, i < 6 → m' r (8 + i) = .int (zI (setF last p k i : Nat))) ∧ m' q 45 = .int (zI c) ∧ m' q 46 = .int (stOwn rl sit lw f last done p s k c) ∧ m' q 47 = .int (bZ (idx c (f p)).isSome) ∧ (∀ j, j ≠ 45 → j ≠ 46 → j ≠ 47 → m' q j = m q j) ∧ ∀ b, b ≠ q → b ≠ r → b ≠ q + 17 → m' b = m b := by
  have hc1 : c < 1000 := hcs s c (List.mem_of_getElem? hc)
  have h19 := (h p (by omega)).2.1
  generalize hm1 : mm_up m r (8 + p) (.int (zI k)) = m1
  have o1 : ∀ b, b ≠ r → m1 b = m b := fun b hb => by rw [← hm1, up_row _ _ _ hb]
  have r1 : ∀ j, j ≠ 8 + p → m1 r j = m r j := fun j hj => by rw [← hm1, up_ne _ _ (Or.inr hj)]
  have F1 : rowF m1 r f := h.keep (fun j _ _ => r1 j (by omega)) (fun j _ _ => r1 j (by omega))
  generalize hm2 : mm_up m1 q 45 (.int (zI c)) = m2
  generalize hm3 : mm_up m2 q 47 (.int (zI 0)) = m3
  generalize hm4 : mm_up m3 q 46 (.int (zI (-1))) = m4
  have o4 : ∀ b, b ≠ q → m4 b = m1 b := fun b hb => by rw [← hm4, up_row _ _ _ hb, ← hm3, up_row _ _ _ hb, ← hm2, up_row _ _ _ hb]
  have q45 : m4 q 45 = .int (zI c) := by rw [← hm4, up_ne _ _ (Or.inr (by omega)), ← hm3, up_ne _ _ (Or.inr (by omega)), ← hm2, up_at]
  have q46 : m4 q 46 = .int (zI (-1)) := by rw [← hm4, up_at]
  have q47 : m4 q 47 = .int (zI 0) := by rw [← hm4, up_ne _ _ (Or.inr (by omega)), ← hm3, up_at]
  have q4 : ∀ j, j ≠ 45 → j ≠ 46 → j ≠ 47 → m4 q j = m q j := fun j x1 x2 x3 => by rw [← hm4, up_ne _ _ (Or.inr x2), ← hm3, up_ne _ _ (Or.inr x3), ← hm2, up_ne _ _ (Or.inr x1), o1 q (Ne.symm hrq.1)]
  have F4 : rowF m4 r f := F1.keep' (o4 r hrq.1)
  have S4 : modS m4 q := hS.keep (fun i x1 x2 => q4 _ (mfld_ne 45 (by decide) i x1 x2) (mfld_ne 46 (by decide) i x1 x2) (mfld_ne 47 (by decide) i x1 x2))
  have d4 : m4 r 1 = .int done := by rw [o4 r hrq.1, r1 1 (by omega)]; exact hd
  have l4 : ∀ i, i < 6 → m4 r (8 + i) = .int (zI (setF last p k i : Nat)) := fun i hi => by
    rw [o4 r hrq.1]
    by_cases hip : i = p
    · subst hip; rw [← hm1, up_at, setF_at]
    · rw [r1 _ (by omega), setF_ne _ _ hip]; exact hla i hi
  have n4 : m4 q 1 = .int (zI N) := by rw [q4 1 (by omega) (by omega) (by omega)]; exact hn
  have b45 : stays lw c = false → ∃ m', X12_drawsOf_b45 e q r (zI s) (zI k) (zI p) m4 = some m' ∧ rowF m' r (stF rl sit lw f last done p s k c) ∧ m' r 1 = .int (done + zI 1) ∧ m' r 0 = .int (trn N (stF rl sit lw f last done p s k c) p) ∧ (∀ i, i < 6 → m' r (8 + i) = .int (zI (setF last p k i : Nat))) ∧ m' q 45 = .int (zI c) ∧ m' q 46 = .int (stOwn rl sit lw f last done p s k c) ∧ m' q 47 = .int (bZ (idx c (f p)).isSome) ∧ (∀ j, j ≠ 45 → j ≠ 46 → j ≠ 47 → m' q j = m q j) ∧ ∀ b, b ≠ q → b ≠ r → b ≠ q + 17 → m' b = m b := by
    intro hsy
    obtain ⟨m5, a1, a2, a3⟩ := X12_takes_eq (e := e) ht F4 hs hc (by omega)
    have hfp : setF f s ((f s).eraseIdx k) p = f p := setF_ne _ _ (Ne.symm hps)
    have S5 : modS m5 q := S4.keep (fun i _ _ => by rw [a3.1 _ (Ne.symm hrq.1)])
    obtain ⟨m6, c1, c2, c3, c4, c5, c6, c7, c8, c9⟩ := X12_drawsOf_b74_eq (e := e) (p := p) (c := c) (sit := sit) (last := setF last p k) (done := done) (rl := rl) hT S5 ht hrq a2 (by rw [a3.1 _ (Ne.symm hrq.1)]; exact n4) h2 h6 hp (by rw [a3.2 _ (by omega) (by omega)]; exact d4) (by rw [a3.2 _ (by omega) (by omega)]; exact l4 p (by omega)) (by rw [a3.1 _ (by omega), o4 _ (by omega), o1 _ (by omega)]; exact hsit) hs6 ((hr.keep (by rw [o4 _ (by omega), o1 _ (by omega)]) (by rw [o4 _ (by omega), o1 _ (by omega)])).keep (a3.1 _ (by omega)) (a3.1 _ (by omega))) hw (by rw [a3.1 _ (Ne.symm hrq.1)]; exact q45) (by rw [hfp]; exact hpl) hN
    have hff : dmF rl sit (setF f s ((f s).eraseIdx k)) (setF last p k) done p c = stF rl sit lw f last done p s k c := by
      unfold dmF stF
      rw [hfp]
      cases idx c (f p) with
      | some j => rfl
      | none => simp only [hsy, Bool.false_eq_true, if_false]
    have hoo : dmOwn rl sit (setF f s ((f s).eraseIdx k)) (setF last p k) done p c = stOwn rl sit lw f last done p s k c := by
      unfold dmOwn stOwn
      rw [hfp]
      cases idx c (f p) with
      | some j => rfl
      | none => simp only [hsy, Bool.false_eq_true, if_false]
    rw [hff] at c2 c4
    rw [hoo] at c6
    rw [hfp] at c1 c7
    refine ⟨m6, ?_, c2, c3, c4, fun i hi => by rw [c5 _ (by omega) (by omega), a3.2 _ (by omega) (by omega)]; exact l4 i hi, by rw [c8 _ (by omega) (by omega), a3.1 _ (Ne.symm hrq.1)]; exact q45, c6, c7, fun j x1 x2 x3 => by rw [c8 _ x2 x3, a3.1 _ (Ne.symm hrq.1)]; exact q4 j x1 x2 x3, fun b x1 x2 x3 => by rw [c9 _ x1 x2 x3, a3.1 _ x2, o4 _ x1]; exact o1 b x2⟩
    have q455 : m5 q 45 = .int (zI c) := by rw [a3.1 _ (Ne.symm hrq.1)]; exact q45
    unfold X12_drawsOf_b45
    rw [a1]
    simp only [Option.bind_some, rd_gi hT.me q455, LT, zI_neg]
    by_cases hc0 : c = 0
    · rw [iep (by omega)]
      rw [hq0 hc0] at c1
      exact c1
    · rw [ien (by omega), X12_placeOf_eq ht a2 (show p < 6 by omega) (by rw [hfp]; exact hcs p) hc1 (by omega), Option.bind_some, hfp]
      exact c1
  have pre : ∀ x, (if zI 0 < zI (c : Int) then X12_drawsOf_b45 e q r (zI s) (zI k) (zI p) m4 else (if ¬ bZ st = zI 0 then X12_drawsOf_b144 e q r (zI p) m4 else X12_drawsOf_b45 e q r (zI s) (zI k) (zI p) m4)) = some x → X12_drawsOf e q r (zI s) (zI k) (bZ st) m = some x := by
    intro x hx
    unfold X12_drawsOf
    simp only [LT, zI_neg, zI_add]
    rw [rd_ai ht (i := 0) (by omega) (by omega) (by omega) htu, Option.bind_some, zI_add, wr_si ht (i := 8 + p) (by omega) (by omega) (by omega), Option.bind_some, hm1, X12_card_eq ht F1 hs hc, Option.bind_some, wr_pf hT.me, Option.bind_some, hm2, wr_pz (x := zI 0) hT.me (Or.inl rfl), Option.bind_some, hm3, wr_pf hT.me, Option.bind_some, hm4, rd_gi hT.me q45, Option.bind_some]
    exact hx
  by_cases hsy : stays lw c = true
  · have hst' : c = 0 ∧ ¬ (lw &&& zI 2 = zI 0) := by simpa [stays] using hsy
    have hi := hq0 hst'.1
    obtain ⟨m5, b1, b2, b3, b4, b5⟩ := X12_drawsOf_b144_eq (e := e) (p := p) (done := done) hT ht hrq.1 F4 n4 h2 h6 hp d4 (by omega)
    have hff : stF rl sit lw f last done p s k c = f := by unfold stF; rw [hi]; simp only [hsy, if_true]
    have hoo : stOwn rl sit lw f last done p s k c = zI (-1) := by unfold stOwn; rw [hi]; simp only [hsy, if_true]
    rw [hff, hoo, hi]
    refine ⟨m5, pre m5 ?_, F4.keep (fun j _ _ => b4 j (by omega)) (fun j _ _ => b4 j (by omega)), b2, b3, fun i hi => by rw [b4 _ (by omega)]; exact l4 i hi, by rw [b5 _ (Ne.symm hrq.1)]; exact q45, by rw [b5 _ (Ne.symm hrq.1)]; exact q46, by rw [b5 _ (Ne.symm hrq.1)]; exact q47, fun j x1 x2 x3 => by rw [b5 _ (Ne.symm hrq.1)]; exact q4 j x1 x2 x3, fun b x1 x2 x3 => by rw [b5 _ x2, o4 _ x1]; exact o1 b x2⟩
    rw [iln (by omega)]
    have : st = true := hst.mpr hst'.2
    subst this
    simp only [bZ, if_true]
    rw [inp (by omega)]
    exact b1
  · have hsy' : stays lw c = false := by simpa using hsy
    obtain ⟨m5, b1, b2⟩ := b45 hsy'
    refine ⟨m5, pre m5 ?_, b2⟩
    by_cases hc0 : c = 0
    · rw [iln (by omega)]
      have hl0 : lw &&& zI 2 = zI 0 := by
        have : c = 0 → (lw &&& zI 2 = zI 0) := by simpa [stays] using hsy
        exact this hc0
      have : st = false := by
        cases st with
        | false => rfl
        | true => exact absurd hl0 (hst.mp rfl)
      subst this
      simp only [bZ, Bool.false_eq_true, if_false, not_true_eq_false]
      exact b1
    · rw [ilp (by omega)]
      exact b1
end DRAWM
