/-! A DRAW, by the class. The drawer p, from s at place k, the card c. -/
def stays (lw : Int32) (c : Nat) : Bool := decide (c = 0 ∧ ¬ (lw &&& zI 2 = zI 0))
def stF (rl : Nat → List Int) (sit : Nat → Nat) (lw : Int32) (f : Nat → List Nat) (last : Nat → Nat) (done : Int32) (p s k c : Nat) : Nat → List Nat := match idx c (f p) with
  | some j => setF (setF f s ((f s).eraseIdx k)) p ((f p).eraseIdx j)
  | none => if stays lw c then f else setF (setF f s ((f s).eraseIdx k)) p ((f p).insertIdx (hAt rl sit (setF f s ((f s).eraseIdx k)) (setF last p k) done p c) c)
def stOwn (rl : Nat → List Int) (sit : Nat → Nat) (lw : Int32) (f : Nat → List Nat) (last : Nat → Nat) (done : Int32) (p s k c : Nat) : Int32 := match idx c (f p) with
  | some j => zI j
  | none => if stays lw c then zI (-1) else zI (hAt rl sit (setF f s ((f s).eraseIdx k)) (setF last p k) done p c)
def recF (rl : Nat → List Int) (sit : Nat → Nat) (lw : Int32) (f : Nat → List Nat) (last : Nat → Nat) (done : Int32) (p s k c : Nat) : Nat → Int32 := fun j => if j = 0 then zI p else if j = 1 then zI s else if j = 2 then zI k else if j = 3 then zI (f s).length else if j = 4 then bZ (hasQ f s) else if j = 5 then zI c else if j = 6 then bZ (idx c (f p)).isSome else if j = 7 then stOwn rl sit lw f last done p s k c else zI (last p)
section STEP
variable {e : mm_E} {a t N d : Nat} {f : Nat → List Nat} {rl : Nat → List Int} {sit last : Nat → Nat} {done lw : Int32} {p s k c : Nat}
theorem X4_step_b206_eq {m : mm_V} (ht : gameT e.1 a) (htt : toldT e.1 t) (hat : t + 19 ≤ a ∨ a + 20 ≤ t) (h : gameS m a t) (hf : gameF m a f) (hn : m t 6 = .int (zI N)) (h2 : 2 ≤ N) (h6 : N ≤ 6) (hp : p < N) (htu : m a 10 = .int (zI p)) (hd : m a 11 = .int done) (hN : 20 < e.2.2) : ∃ m', X4_step_b206 e a m = some m' ∧ m' a 11 = .int (done + zI 1) ∧ m' a 10 = .int (ozI (nxt N f p)) ∧ (∀ j, j ≠ 10 → j ≠ 11 → m' a j = m a j) ∧ ∀ b, b ≠ a → m' b = m b := by
  have hS1 : gameS (mm_up m a 11 (.int (done + zI 1))) a t := h.keep (fun j _ => up_ne _ _ (Or.inr (by omega))) (fun b _ _ => up_row _ _ _ (by omega))
  have hF1 : gameF (mm_up m a 11 (.int (done + zI 1))) a f := hf.keep (fun b _ _ => up_row _ _ _ (by omega))
  refine ⟨mm_up (mm_up m a 11 (.int (done + zI 1))) a 10 (.int (ozI (nxt N f p))), ?_, ?_, up_at _ _ _ _, ?_, fun b hb => by rw [up_row _ _ _ hb, up_row _ _ _ hb]⟩
  · unfold X4_step_b206
    simp only [LT]
    have hb := X4_beside_eq (e := e) ht htt.1 hS1 hF1 (by rw [up_ne _ _ (Or.inl (by omega))]; exact hn) h2 h6 hp true hN
    simp only [bZ, if_true] at hb
    rw [rd_gi ht.1 hd, Option.bind_some, wr_pf ht.1, Option.bind_some, rd_gi ht.1 (by rw [up_ne _ _ (Or.inr (by omega))]; exact htu), Option.bind_some, hb, Option.bind_some, wr_pf ht.1, Option.bind_some]
  · rw [up_ne _ _ (Or.inr (by omega)), up_at]
  · intro j h10 h11
    rw [up_ne _ _ (Or.inr h10), up_ne _ _ (Or.inr h11)]
theorem X4_step_b176_eq {m : mm_V} (ht : gameT e.1 a) (htt : toldT e.1 t) (hat : t + 19 ≤ a ∨ a + 20 ≤ t) (hdT : e.1 d = some (2, 9)) (hda : d < a ∨ a + 20 ≤ d) (hdt : d < t ∨ t + 19 ≤ d) (h : gameS m a t) (hf : gameF m a f) (hn : m t 6 = .int (zI N)) (h2 : 2 ≤ N) (h6 : N ≤ 6) (hp : p < N) (hs : s < 6) (hps : s ≠ p) (hk : k < (f s).length) (hpl : (f p).length < 10) (hsit : m (a + 4) p = .int (zI (sit p))) (hs6 : sit p < 6) (hla : m (a + 5) p = .int (zI (last p))) (htu : m a 10 = .int (zI p)) (hd : m a 11 = .int done) (hS : toldS m t) (hr : rulesC m t rl) (hw : rulesW rl) (hN : 1000 < e.2.2) : ∃ m', X4_step_b176 e a (zI k) d (a + 8 + 2 * p) (a + 8 + 2 * s) (zI c) m = some m' ∧ gameF m' a (setF (setF f s ((f s).eraseIdx k)) p ((f p).insertIdx (hAt rl sit (setF f s ((f s).eraseIdx k)) last done p c) c)) ∧ m' a 11 = .int (done + zI 1) ∧ m' a 10 = .int (ozI (nxt N (setF (setF f s ((f s).eraseIdx k)) p ((f p).insertIdx (hAt rl sit (setF f s ((f s).eraseIdx k)) last done p c) c)) p)) ∧ m' d 7 = .int (zI (hAt rl sit (setF f s ((f s).eraseIdx k)) last done p c)) ∧ (∀ j, j ≠ 7 → m' d j = m d j) ∧ (∀ j, j ≠ 10 → j ≠ 11 → m' a j = m a j) ∧ ∀ b, b ≠ a → b ≠ d → b ≠ a + 6 → b ≠ t + 6 → (b < a + 8 ∨ a + 20 ≤ b) → m' b = m b := by
  obtain ⟨m1, a1, a2, a3⟩ := X3_takeOut_eq (e := e) (ht.2.2.2.2.2.2.2 s hs) (hf s hs) hk (by omega)
  have F1 : gameF m1 a (setF f s ((f s).eraseIdx k)) := hf.set a2 a3
  have G1 : gameS m1 a t := h.keep (fun j _ => by rw [a3 _ (by omega) (by omega)]) (fun b _ _ => a3 _ (by omega) (by omega))
  obtain ⟨m2, b1, b2⟩ := X4_holdPlace_eq (e := e) (p := p) (c := c) (sit := sit) (last := last) (done := done) ht htt hat G1 F1 (by omega) (by rw [a3 _ (by omega) (by omega)]; exact hsit) hs6 (by rw [a3 _ (by omega) (by omega)]; exact hla) (by rw [a3 _ (by omega) (by omega)]; exact hd) (hS.keep (fun j _ => by rw [a3 _ (by omega) (by omega)]) (a3 _ (by omega) (by omega))) (hr.keep (a3 _ (by omega) (by omega)) (a3 _ (by omega) (by omega)) (a3 _ (by omega) (by omega))) hw hN
  have hle : hAt rl sit (setF f s ((f s).eraseIdx k)) last done p c ≤ (f p).length := by
    have := hAt_le (rl := rl) (sit := sit) (f := setF f s ((f s).eraseIdx k)) (last := last) (done := done) (p := p) (c := c)
    rwa [setF_ne _ _ (Ne.symm hps)] at this
  generalize hAt rl sit (setF f s ((f s).eraseIdx k)) last done p c = h0 at *
  have F2 : gameF (mm_up m2 d 7 (.int (zI h0))) a (setF f s ((f s).eraseIdx k)) := F1.keep (fun b _ _ => by rw [up_row _ _ _ (by omega), b2 _ (by omega) (by omega)])
  have hfp : fanR (mm_up m2 d 7 (.int (zI h0))) (a + 8 + 2 * p) (f p) := by
    have := F2 p (by omega)
    rwa [setF_ne _ _ (Ne.symm hps)] at this
  obtain ⟨m3, c1, c2, c3⟩ := X3_putIn_eq (e := e) (c := c) (ht.2.2.2.2.2.2.2 p (by omega)) hfp hle hpl (by omega)
  have F3 : gameF m3 a (setF (setF f s ((f s).eraseIdx k)) p ((f p).insertIdx h0 c)) := F2.set c2 c3
  have off : ∀ b, b ≠ d → b ≠ a + 6 → b ≠ t + 6 → (b < a + 8 ∨ a + 20 ≤ b) → m3 b = m b := fun b x1 x2 x3 x4 => by
    rw [c3 _ (by omega) (by omega), up_row _ _ _ x1, b2 _ x2 x3, a3 _ (by omega) (by omega)]
  have G3 : gameS m3 a t := h.keep (fun j _ => by rw [off _ (by omega) (by omega) (by omega) (by omega)]) (fun b _ _ => off _ (by omega) (by omega) (by omega) (by omega))
  obtain ⟨m4, d1, d2, d3, d4, d5⟩ := X4_step_b206_eq (e := e) (p := p) (done := done) ht htt hat G3 F3 (by rw [off _ (by omega) (by omega) (by omega) (by omega)]; exact hn) h2 h6 hp (by rw [off _ (by omega) (by omega) (by omega) (by omega)]; exact htu) (by rw [off _ (by omega) (by omega) (by omega) (by omega)]; exact hd) (by omega)
  refine ⟨m4, ?_, F3.keep (fun b _ _ => d5 _ (by omega)), d2, d3, ?_, ?_, ?_, ?_⟩
  · unfold X4_step_b176
    rw [if_pos (ht.2.2.2.2.2.2.2 s hs).1, a1, Option.bind_some, rd_gi ht.1 (by rw [a3 _ (by omega) (by omega)]; exact htu), Option.bind_some, b1, Option.bind_some, wr_pf hdT, Option.bind_some, rd_gi hdT (up_at _ _ _ _), Option.bind_some, if_pos (ht.2.2.2.2.2.2.2 p (by omega)).1, c1, Option.bind_some]
    exact d1
  · rw [d5 _ (by omega), c3 _ (by omega) (by omega), up_at]
  · intro j hj
    rw [d5 _ (by omega), c3 _ (by omega) (by omega), up_ne _ _ (Or.inr hj), b2 _ (by omega) (by omega), a3 _ (by omega) (by omega)]
  · intro j h10 h11
    rw [d4 j h10 h11, off _ (by omega) (by omega) (by omega) (by omega)]
  · intro b x1 x2 x3 x4 x5
    rw [d5 _ x1, off b x2 x3 x4 x5]
theorem X4_step_b114_eq {m : mm_V} (ht : gameT e.1 a) (htt : toldT e.1 t) (hat : t + 19 ≤ a ∨ a + 20 ≤ t) (hdT : e.1 d = some (2, 9)) (hda : d < a ∨ a + 20 ≤ d) (hdt : d < t ∨ t + 19 ≤ d) (h : gameS m a t) (hf : gameF m a f) (hn : m t 6 = .int (zI N)) (h2 : 2 ≤ N) (h6 : N ≤ 6) (hp : p < N) (hs : s < 6) (hps : s ≠ p) (hc : (f s)[k]? = some c) (hc1 : c < 1000) (hpl : idx c (f p) = none → (f p).length < 10) (hlw : m a 7 = .int lw) (hsit : m (a + 4) p = .int (zI (sit p))) (hs6 : sit p < 6) (hla : m (a + 5) p = .int (zI (last p))) (htu : m a 10 = .int (zI p)) (hd : m a 11 = .int done) (hS : toldS m t) (hr : rulesC m t rl) (hw : rulesW rl) (h7 : m d 7 = .int (ozI (idx c (f p)))) (hN : 1000 < e.2.2) : ∃ m', X4_step_b114 e a (zI k) d (a + 8 + 2 * p) (a + 8 + 2 * s) (zI c) d (bZ (idx c (f p)).isSome) m = some m' ∧ gameF m' a (stF rl sit lw f last done p s k c) ∧ m' a 11 = .int (done + zI 1) ∧ m' a 10 = .int (ozI (nxt N (stF rl sit lw f last done p s k c) p)) ∧ m' d 6 = .int (bZ (idx c (f p)).isSome) ∧ m' d 7 = .int (stOwn rl sit lw f last done p s k c) ∧ m' d 8 = .int (zI (last p)) ∧ (∀ j, j ≠ 6 → j ≠ 7 → j ≠ 8 → m' d j = m d j) ∧ (∀ j, j ≠ 10 → j ≠ 11 → m' a j = m a j) ∧ (m' (a + 5) = mm_up m (a + 5) p (.int (zI k)) (a + 5)) ∧ ∀ b, b ≠ a → b ≠ d → b ≠ a + 5 → b ≠ a + 6 → b ≠ t + 6 → (b < a + 8 ∨ a + 20 ≤ b) → m' b = m b := by
  have hk : k < (f s).length := (List.getElem?_eq_some_iff.mp hc).1
  have hbz : ∀ x : Bool, bZ x = 0 ∨ bZ x = 1 := by intro x; cases x <;> simp [bZ] <;> first | (left; rfl) | (right; rfl)
  have off1 : ∀ (m1 : mm_V) (v : Value) (j : Nat), (∀ b, b ≠ d → m1 b = m b) → ∀ b, b ≠ d → mm_up m1 d j v b = m b := fun m1 v j h1 b hb => by rw [up_row _ _ _ hb]; exact h1 b hb
  generalize hm1 : mm_up m d 6 (.int (bZ (idx c (f p)).isSome)) = m1
  have o1 : ∀ b, b ≠ d → m1 b = m b := by rw [← hm1]; exact off1 m _ _ (fun _ _ => rfl)
  generalize hm2 : mm_up m1 d 8 (.int (zI (last p))) = m2
  have o2 : ∀ b, b ≠ d → m2 b = m b := by rw [← hm2]; exact off1 m1 _ _ o1
  generalize hm3 : mm_up m2 (a + 5) p (.int (zI k)) = m3
  have o3 : ∀ b, b ≠ d → b ≠ a + 5 → m3 b = m b := fun b x1 x2 => by rw [← hm3, up_row _ _ _ x2]; exact o2 b x1
  have G1 : gameS m1 a t := h.keep (fun j _ => by rw [o1 _ (by omega)]) (fun b _ _ => o1 _ (by omega))
  have G2 : gameS m2 a t := h.keep (fun j _ => by rw [o2 _ (by omega)]) (fun b _ _ => o2 _ (by omega))
  have G3 : gameS m3 a t := h.keep (fun j _ => by rw [o3 _ (by omega) (by omega)]) (fun b _ _ => o3 _ (by omega) (by omega))
  have F3 : gameF m3 a f := hf.keep (fun b _ _ => o3 _ (by omega) (by omega))
  have d6 : m3 d 6 = .int (bZ (idx c (f p)).isSome) := by rw [← hm3, up_ne _ _ (Or.inl (by omega)), ← hm2, up_ne _ _ (Or.inr (by omega)), ← hm1, up_at]
  have d8 : m3 d 8 = .int (zI (last p)) := by rw [← hm3, up_ne _ _ (Or.inl (by omega)), ← hm2, up_at]
  have dj : ∀ j, j ≠ 6 → j ≠ 8 → m3 d j = m d j := fun j x1 x2 => by rw [← hm3, up_ne _ _ (Or.inl (by omega)), ← hm2, up_ne _ _ (Or.inr x2), ← hm1, up_ne _ _ (Or.inr x1)]
  have l5 : m3 (a + 5) = mm_up m (a + 5) p (.int (zI k)) (a + 5) := by
    funext j
    rw [← hm3]
    unfold mm_up
    rw [o2 _ (by omega)]
  have hn3 : m3 t 6 = .int (zI N) := by rw [o3 _ (by omega) (by omega)]; exact hn
  have ht3 : m3 a 10 = .int (zI p) := by rw [o3 _ (by omega) (by omega)]; exact htu
  have hd3 : m3 a 11 = .int done := by rw [o3 _ (by omega) (by omega)]; exact hd
  have pre : ∀ r, (if bZ (idx c (f p)).isSome = zI 0 then (if ¬ zI (c : Int) = zI 0 then (X4_step_b176 e a (zI k) d (a + 8 + 2 * p) (a + 8 + 2 * s) (zI c) m3) else ((mm_gi e.1 m3 4 12 a 7).bind fun x8 => if ¬ (x8 &&& (zI 2)) = zI 0 then (X4_step_b206 e a m3) else (X4_step_b176 e a (zI k) d (a + 8 + 2 * p) (a + 8 + 2 * s) (zI c) m3))) else (if e.1 (a + 8 + 2 * s) = some (3, 2) then ((X3_takeOut e (a + 8 + 2 * s) (zI k) m3).bind fun r9 => (mm_gi e.1 r9 2 9 d 7).bind fun x11 => if e.1 (a + 8 + 2 * p) = some (3, 2) then ((X3_takeOut e (a + 8 + 2 * p) x11 r9).bind fun r12 => X4_step_b206 e a r12) else none) else none)) = some r → X4_step_b114 e a (zI k) d (a + 8 + 2 * p) (a + 8 + 2 * s) (zI c) d (bZ (idx c (f p)).isSome) m = some r := by
    intro r hr0
    unfold X4_step_b114
    rw [wr_pz hdT (hbz _), Option.bind_some, hm1, rd_gi ht.1 (by rw [o1 _ (by omega)]; exact htu), Option.bind_some, X4_lastOf_eq ht G1 (by omega) (by rw [o1 _ (by omega)]; exact hla), Option.bind_some, wr_pf hdT, Option.bind_some, hm2, rd_gi ht.1 (by rw [o2 _ (by omega)]; exact htu), Option.bind_some, X4_setLast_eq ht G2 (by omega), Option.bind_some, hm3, rd_gi hdT d6, Option.bind_some]
    simp only [LT]
    exact hr0
  unfold stF stOwn
  cases hi : idx c (f p) with
  | some j =>
    have hj := idx_bound hi
    rw [hi] at d6 pre h7
    obtain ⟨m4, a1, a2, a3⟩ := X3_takeOut_eq (e := e) (ht.2.2.2.2.2.2.2 s hs) (F3 s hs) hk (by omega)
    have F4 : gameF m4 a (setF f s ((f s).eraseIdx k)) := F3.set a2 a3
    have hfp : fanR m4 (a + 8 + 2 * p) (f p) := by
      have := F4 p (by omega)
      rwa [setF_ne _ _ (Ne.symm hps)] at this
    obtain ⟨m5, b1, b2, b3⟩ := X3_takeOut_eq (e := e) (ht.2.2.2.2.2.2.2 p (by omega)) hfp hj (by omega)
    have F5 : gameF m5 a (setF (setF f s ((f s).eraseIdx k)) p ((f p).eraseIdx j)) := F4.set b2 b3
    have o5 : ∀ b, (b < a + 8 ∨ a + 20 ≤ b) → m5 b = m3 b := fun b x1 => by rw [b3 _ (by omega) (by omega), a3 _ (by omega) (by omega)]
    have G5 : gameS m5 a t := G3.keep (fun j _ => by rw [o5 _ (by omega)]) (fun b _ _ => o5 _ (by omega))
    obtain ⟨m6, c1, c2, c3, c4, c5⟩ := X4_step_b206_eq (e := e) (p := p) (done := done) ht htt hat G5 F5 (by rw [o5 _ (by omega)]; exact hn3) h2 h6 hp (by rw [o5 _ (by omega)]; exact ht3) (by rw [o5 _ (by omega)]; exact hd3) (by omega)
    refine ⟨m6, pre m6 ?_, F5.keep (fun b _ _ => c5 _ (by omega)), c2, c3, by rw [c5 _ (by omega), o5 _ (by omega)]; exact d6, by rw [c5 _ (by omega), o5 _ (by omega), dj 7 (by omega) (by omega), h7]; rfl, by rw [c5 _ (by omega), o5 _ (by omega)]; exact d8, fun j x1 x2 x3 => by rw [c5 _ (by omega), o5 _ (by omega)]; exact dj j x1 x3, fun j x1 x2 => by rw [c4 j x1 x2, o5 _ (by omega), o3 _ (by omega) (by omega)], by rw [c5 _ (by omega), o5 _ (by omega)]; exact l5, fun b x1 x2 x3 x4 x5 x6 => by rw [c5 _ x1, o5 _ x6]; exact o3 b x2 x3⟩
    simp only [Option.isSome_some, bZ, if_true]
    rw [iqn (by omega), if_pos (ht.2.2.2.2.2.2.2 s hs).1, a1, Option.bind_some, rd_gi hdT (v := zI j) (by rw [a3 _ (by omega) (by omega), dj 7 (by omega) (by omega), h7]; rfl), Option.bind_some, if_pos (ht.2.2.2.2.2.2.2 p (by omega)).1, b1, Option.bind_some]
    exact c1
  | none =>
    rw [hi] at d6 pre h7
    simp only [Option.isSome_none, bZ, Bool.false_eq_true, if_false, if_true] at d6 pre ⊢
    by_cases hst : stays lw c = true
    · have hst' : c = 0 ∧ ¬ (lw &&& zI 2 = zI 0) := by simpa [stays] using hst
      rw [if_pos hst, if_pos hst]
      obtain ⟨m6, c1, c2, c3, c4, c5⟩ := X4_step_b206_eq (e := e) (p := p) (done := done) ht htt hat G3 F3 hn3 h2 h6 hp ht3 hd3 (by omega)
      refine ⟨m6, pre m6 ?_, F3.keep (fun b _ _ => c5 _ (by omega)), c2, c3, by rw [c5 _ (by omega)]; exact d6, by rw [c5 _ (by omega), dj 7 (by omega) (by omega), h7]; rfl, by rw [c5 _ (by omega)]; exact d8, fun j x1 x2 x3 => by rw [c5 _ (by omega)]; exact dj j x1 x3, fun j x1 x2 => by rw [c4 j x1 x2, o3 _ (by omega) (by omega)], by rw [c5 _ (by omega)]; exact l5, fun b x1 x2 x3 x4 x5 x6 => by rw [c5 _ x1]; exact o3 b x2 x3⟩
      rw [inn (by omega), rd_gi ht.1 (by rw [o3 _ (by omega) (by omega)]; exact hlw), Option.bind_some, if_pos hst'.2]
      exact c1
    · have hst' : c = 0 → (lw &&& zI 2 = zI 0) := by simpa [stays] using hst
      rw [if_neg hst, if_neg hst]
      obtain ⟨m6, c1, c2, c3, c4, c5, c6, c7, c8⟩ := X4_step_b176_eq (e := e) (c := c) (sit := sit) (last := setF last p k) (rl := rl) ht htt hat hdT hda hdt G3 F3 hn3 h2 h6 hp hs hps hk (hpl hi) (by rw [o3 _ (by omega) (by omega)]; exact hsit) hs6 (by rw [setF_at, l5, up_at]) ht3 hd3 (hS.keep (fun j _ => by rw [o3 _ (by omega) (by omega)]) (o3 _ (by omega) (by omega))) (hr.keep (o3 _ (by omega) (by omega)) (o3 _ (by omega) (by omega)) (o3 _ (by omega) (by omega))) hw hN
      refine ⟨m6, pre m6 ?_, c2, c3, c4, by rw [c6 _ (by omega)]; exact d6, c5, by rw [c6 _ (by omega)]; exact d8, fun j x1 x2 x3 => by rw [c6 j x2]; exact dj j x1 x3, fun j x1 x2 => by rw [c7 j x1 x2, o3 _ (by omega) (by omega)], by rw [c8 _ (by omega) (by omega) (by omega) (by omega) (by omega)]; exact l5, fun b x1 x2 x3 x4 x5 x6 => by rw [c8 b x1 x2 x4 x5 x6]; exact o3 b x2 x3⟩
      by_cases hc0 : c = 0
      · rw [inn (by omega), rd_gi ht.1 (by rw [o3 _ (by omega) (by omega)]; exact hlw), Option.bind_some, if_neg (by simp [hst' hc0])]
        exact c1
      · rw [inp (by omega)]
        exact c1
theorem if_oz {α : Type} {o : Option Nat} (h : ∀ j, o = some j → j < 1000000) (F : Int32 → α) : (if ozI o = zI (-1) then F (zI 0) else F (zI 1)) = F (bZ o.isSome) := by
  have hz := ozI_none h
  cases o with
  | none => rw [if_pos (by rw [hz])]; rfl
  | some j => rw [if_neg (by rw [hz]; simp)]; rfl
theorem X4_step_eq {m : mm_V} (ht : gameT e.1 a) (htt : toldT e.1 t) (hat : t + 19 ≤ a ∨ a + 20 ≤ t) (hdT : e.1 d = some (2, 9)) (hda : d < a ∨ a + 20 ≤ d) (hdt : d < t ∨ t + 19 ≤ d) (h : gameS m a t) (hf : gameF m a f) (hcs : ∀ p, ∀ x ∈ f p, x < 1000) (hn : m t 6 = .int (zI N)) (h2 : 2 ≤ N) (h6 : N ≤ 6) (hp : p < N) (hs : s < 6) (hps : s ≠ p) (hc : (f s)[k]? = some c) (hsrc : srcF lw N f p = some s) (hpl : idx c (f p) = none → (f p).length < 10) (hlw : m a 7 = .int lw) (hsit : m (a + 4) p = .int (zI (sit p))) (hs6 : sit p < 6) (hla : m (a + 5) p = .int (zI (last p))) (htu : m a 10 = .int (zI p)) (hd : m a 11 = .int done) (hS : toldS m t) (hr : rulesC m t rl) (hw : rulesW rl) (hN : 1000 < e.2.2) : ∃ m', X4_step e a (zI k) d m = some m' ∧ gameF m' a (stF rl sit lw f last done p s k c) ∧ m' a 11 = .int (done + zI 1) ∧ m' a 10 = .int (ozI (nxt N (stF rl sit lw f last done p s k c) p)) ∧ (∀ j, j < 9 → m' d j = .int (recF rl sit lw f last done p s k c j)) ∧ (∀ j, j ≠ 10 → j ≠ 11 → m' a j = m a j) ∧ (m' (a + 5) = mm_up m (a + 5) p (.int (zI k)) (a + 5)) ∧ ∀ b, b ≠ a → b ≠ d → b ≠ a + 5 → b ≠ a + 6 → b ≠ t + 6 → (b < a + 8 ∨ a + 20 ≤ b) → m' b = m b := by
  have hk : k < (f s).length := (List.getElem?_eq_some_iff.mp hc).1
  have hc1 : c < 1000 := hcs s c (List.mem_of_getElem? hc)
  have hb10 := (hf s hs).2.2.1
  have hbp := (hf p (by omega)).2.2.1
  have hbz : ∀ x : Bool, bZ x = 0 ∨ bZ x = 1 := by intro x; cases x <;> simp [bZ] <;> first | (left; rfl) | (right; rfl)
  have offU : ∀ (m1 : mm_V) (v : Value) (j : Nat), (∀ b, b ≠ d → m1 b = m b) → ∀ b, b ≠ d → mm_up m1 d j v b = m b := fun m1 v j h1 b hb => by rw [up_row _ _ _ hb]; exact h1 b hb
  have keep : ∀ m1 : mm_V, (∀ b, b ≠ d → m1 b = m b) → gameS m1 a t ∧ gameF m1 a f ∧ m1 t 6 = .int (zI N) ∧ m1 a 7 = .int lw ∧ m1 a 10 = .int (zI p) ∧ m1 (a + 5) p = .int (zI (last p)) := fun m1 h1 =>
    ⟨h.keep (fun j _ => by rw [h1 _ (by omega)]) (fun b _ _ => h1 _ (by omega)), hf.keep (fun b _ _ => h1 _ (by omega)), by rw [h1 _ (by omega)]; exact hn, by rw [h1 _ (by omega)]; exact hlw, by rw [h1 _ (by omega)]; exact htu, by rw [h1 _ (by omega)]; exact hla⟩
  generalize hm1 : mm_up m d 0 (.int (zI p)) = m1
  have o1 : ∀ b, b ≠ d → m1 b = m b := by rw [← hm1]; exact offU m _ _ (fun _ _ => rfl)
  have K1 := keep m1 o1
  generalize hm2 : mm_up m1 d 1 (.int (zI s)) = m2
  have o2 : ∀ b, b ≠ d → m2 b = m b := by rw [← hm2]; exact offU m1 _ _ o1
  generalize hm3 : mm_up m2 d 2 (.int (zI k)) = m3
  have o3 : ∀ b, b ≠ d → m3 b = m b := by rw [← hm3]; exact offU m2 _ _ o2
  have K3 := keep m3 o3
  generalize hm4 : mm_up m3 d 3 (.int (zI (f s).length)) = m4
  have o4 : ∀ b, b ≠ d → m4 b = m b := by rw [← hm4]; exact offU m3 _ _ o3
  have K4 := keep m4 o4
  generalize hm5 : mm_up m4 d 4 (.int (bZ (hasQ f s))) = m5
  have o5 : ∀ b, b ≠ d → m5 b = m b := by rw [← hm5]; exact offU m4 _ _ o4
  generalize hm6 : mm_up m5 d 5 (.int (zI c)) = m6
  have o6 : ∀ b, b ≠ d → m6 b = m b := by rw [← hm6]; exact offU m5 _ _ o5
  have K6 := keep m6 o6
  generalize hm7 : mm_up m6 d 7 (.int (ozI (idx c (f p)))) = m7
  have o7 : ∀ b, b ≠ d → m7 b = m b := by rw [← hm7]; exact offU m6 _ _ o6
  have K7 := keep m7 o7
  have h77 : m7 d 7 = .int (ozI (idx c (f p))) := by rw [← hm7, up_at]
  obtain ⟨m', a1, a2, a3, a4, a5, a6, a7, a8, a9, a10, a11⟩ := X4_step_b114_eq (e := e) (lw := lw) (sit := sit) (last := last) (done := done) (rl := rl) ht htt hat hdT hda hdt K7.1 K7.2.1 K7.2.2.1 h2 h6 hp hs hps hc hc1 hpl K7.2.2.2.1 (by rw [o7 _ (by omega)]; exact hsit) hs6 K7.2.2.2.2.2 K7.2.2.2.2.1 (by rw [o7 _ (by omega)]; exact hd) (hS.keep (fun j _ => by rw [o7 _ (by omega)]) (o7 _ (by omega))) (hr.keep (o7 _ (by omega)) (o7 _ (by omega)) (o7 _ (by omega))) hw h77 hN
  have so := X4_source_eq (e := e) ht htt.1 h hf hn h2 h6 hp hlw (by omega)
  have so1 := X4_source_eq (e := e) ht htt.1 K1.1 K1.2.1 K1.2.2.1 h2 h6 hp K1.2.2.2.1 (by omega)
  rw [hsrc] at so so1
  simp only [ozI] at so so1
  refine ⟨m', ?_, a2, a3, a4, ?_, fun j x1 x2 => by rw [a9 j x1 x2, o7 _ (by omega)], by rw [a10]; funext j; unfold mm_up; rw [o7 _ (by omega)], fun b x1 x2 x3 x4 x5 x6 => by rw [a11 b x1 x2 x3 x4 x5 x6]; exact o7 b x2⟩
  · have tail : X4_step_b81 e a (zI k) d (a + 8 + 2 * p) (a + 8 + 2 * s) (zI c) d (bZ (hasQ f s)) m4 = some m' := by
      unfold X4_step_b81
      rw [wr_pz hdT (hbz _), Option.bind_some, hm5, wr_pf hdT, Option.bind_some, hm6, if_pos (ht.2.2.2.2.2.2.2 p (by omega)).1, X3_placeOf_eq (ht.2.2.2.2.2.2.2 p (by omega)) (K6.2.1 p (by omega)) (hcs p) hc1 (by omega), Option.bind_some, wr_pf hdT, Option.bind_some, hm7, rd_gi hdT h77, Option.bind_some]
      simp only [LT, zI_neg]
      rw [if_oz (o := idx c (f p)) (fun j hj => by have := idx_bound hj; omega) (fun z => X4_step_b114 e a (zI k) d (a + 8 + 2 * p) (a + 8 + 2 * s) (zI c) d z m7)]
      exact a1
    unfold X4_step
    rw [rd_gi ht.1 htu, Option.bind_some, X4_fanAt_eq ht h (show p < 6 by omega), Option.bind_some, rd_gi ht.1 htu, Option.bind_some, so, Option.bind_some, X4_fanAt_eq ht h hs, Option.bind_some, if_pos (ht.2.2.2.2.2.2.2 s hs).1, X3_card_eq (ht.2.2.2.2.2.2.2 s hs) (hf s hs) hc, Option.bind_some, rd_gi ht.1 htu, Option.bind_some, wr_pf hdT, Option.bind_some, hm1, rd_gi ht.1 K1.2.2.2.2.1, Option.bind_some, so1, Option.bind_some, wr_pf hdT, Option.bind_some, hm2, wr_pf hdT, Option.bind_some, hm3, rd_gi (ht.2.2.2.2.2.2.2 s hs).1 (K3.2.1 s hs).2.1, Option.bind_some, wr_pf hdT, Option.bind_some, hm4, if_pos (ht.2.2.2.2.2.2.2 s hs).1]
    simp only [LT, zI_neg]
    rw [show (zI 0 : Int32) = zI ((0 : Nat) : Int) from rfl, X3_placeOf_eq (ht.2.2.2.2.2.2.2 s hs) (K4.2.1 s hs) (hcs s) (by omega) (by omega), Option.bind_some]
    rw [show (zI ((0 : Nat) : Int) : Int32) = zI 0 from rfl]
    rw [if_oz (o := idx 0 (f s)) (fun j hj => by have := idx_bound hj; omega) (fun z => X4_step_b81 e a (zI k) d (a + 8 + 2 * p) (a + 8 + 2 * s) (zI c) d z m4)]
    exact tail
  · intro j hj
    have hcj : j = 0 ∨ j = 1 ∨ j = 2 ∨ j = 3 ∨ j = 4 ∨ j = 5 ∨ j = 6 ∨ j = 7 ∨ j = 8 := by omega
    rcases hcj with rfl | rfl | rfl | rfl | rfl | rfl | rfl | rfl | rfl
    · rw [a8 _ (by omega) (by omega) (by omega), ← hm7, up_ne _ _ (Or.inr (by omega)), ← hm6, up_ne _ _ (Or.inr (by omega)), ← hm5, up_ne _ _ (Or.inr (by omega)), ← hm4, up_ne _ _ (Or.inr (by omega)), ← hm3, up_ne _ _ (Or.inr (by omega)), ← hm2, up_ne _ _ (Or.inr (by omega)), ← hm1, up_at]; rfl
    · rw [a8 _ (by omega) (by omega) (by omega), ← hm7, up_ne _ _ (Or.inr (by omega)), ← hm6, up_ne _ _ (Or.inr (by omega)), ← hm5, up_ne _ _ (Or.inr (by omega)), ← hm4, up_ne _ _ (Or.inr (by omega)), ← hm3, up_ne _ _ (Or.inr (by omega)), ← hm2, up_at]; rfl
    · rw [a8 _ (by omega) (by omega) (by omega), ← hm7, up_ne _ _ (Or.inr (by omega)), ← hm6, up_ne _ _ (Or.inr (by omega)), ← hm5, up_ne _ _ (Or.inr (by omega)), ← hm4, up_ne _ _ (Or.inr (by omega)), ← hm3, up_at]; rfl
    · rw [a8 _ (by omega) (by omega) (by omega), ← hm7, up_ne _ _ (Or.inr (by omega)), ← hm6, up_ne _ _ (Or.inr (by omega)), ← hm5, up_ne _ _ (Or.inr (by omega)), ← hm4, up_at]; rfl
    · rw [a8 _ (by omega) (by omega) (by omega), ← hm7, up_ne _ _ (Or.inr (by omega)), ← hm6, up_ne _ _ (Or.inr (by omega)), ← hm5, up_at]; rfl
    · rw [a8 _ (by omega) (by omega) (by omega), ← hm7, up_ne _ _ (Or.inr (by omega)), ← hm6, up_at]; rfl
    · exact a5
    · exact a6
    · exact a7
end STEP
