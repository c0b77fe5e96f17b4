/-! A DRAW, by the class. The drawer p, from s at place k, the card c. -/
def stays (lw : Int32) (c : Nat) : Bool := decide (c = 0 ∧ ¬ (lw &&& zI 2 = zI 0))
def stF (rl : Nat → List Int) (sit : Nat → Nat) (lw : Int32) (f : Nat → List Nat) (last : Nat → Nat) (done : Int32) (p s k c : Nat) : Nat → List Nat := match idx c (f p) with
  | some j => setF (setF f s ((f s).eraseIdx k)) p ((f p).eraseIdx j)
  | none => if stays lw c then f else setF (setF f s ((f s).eraseIdx k)) p ((f p).insertIdx (hAt rl sit (setF f s ((f s).eraseIdx k)) (setF last p k) done p c) c)
def stOwn (rl : Nat → List Int) (sit : Nat → Nat) (lw : Int32) (f : Nat → List Nat) (last : Nat → Nat) (done : Int32) (p s k c : Nat) : Int32 := match idx c (f p) with
  | some j => zI j
  | none => if stays lw c then zI (-1) else zI (hAt rl sit (setF f s ((f s).eraseIdx k)) (setF last p k) done p c)
def recF (rl : Nat → List Int) (sit : Nat → Nat) (lw : Int32) (f : Nat → List Nat) (last : Nat → Nat) (done : Int32) (p s k c : Nat) : Nat → Int32 := fun j => if j = 0 then zI p else if j = 1 then zI s else if j = 2 then zI k else if j = 3 then zI (f s).length else if j = 4 then bZ (hasQ f s) else if j = 5 then zI c else if j = 6 then bZ (idx c (f p)).isSome else if j = 7 then stOwn rl sit lw f last done p s k c else zI (last p)
section STEP
variable {e : mm_E} {a t N d : Nat} {f : Nat → List Nat} {rl : Nat → List Int} {sit last : Nat → Nat} {done lw : Int32} {p s k c : Nat}
theorem X4_step_b206_eq {m : mm_V} (ht : gameT e.1 a) (htt : toldT e.1 t) (hat : t + 19 ≤ a ∨ a + 20 ≤ t) (h : gameS m a t) (hf : gameF m a f) (hn : m t 6 = .int (zI N)) (h2 : 2 ≤ N) (h6 : N ≤ 6) (hp : p < N) (htu : m a 10 = .int (zI p)) (hd : m a 11 = .int done) (hN : 20 < e.2.2) : ∃ m', X4_step_b206 e a m = some m' ∧ m' a 11 = .int (done + zI 1) ∧ m' a 10 = .int (ozI (nxt N f p)) ∧ (∀ j, j ≠ 10 → j ≠ 11 → m' a j = m a j) ∧ ∀ b, b ≠ a → m' b = m b := by
  have hS1 : gameS (mm_up m a 11 (.int (done + zI 1))) a t := h.keep (fun j _ => up_ne _ _ (Or.inr (by omega))) (fun b _ _ => up_row _ _ _ (by omega))
  have hF1 : gameF (mm_up m a 11 (.int (done + zI 1))) a f := hf.keep (fun b _ _ => up_row _ _ _ (by omega))
  refine ⟨mm_up (mm_up m a 11 (.int (done + zI 1))) a 10 (.int (ozI (nxt N f p))), ?_, ?_, up_at _ _ _ _, ?_, fun b hb => by rw [up_row _ _ _ hb, up_row _ _ _ hb]⟩
  · unfold X4_step_b206
    simp only [LT]
    have hb := X4_beside_eq (e := e) ht htt.1 hS1 hF1 (by rw [up_ne _ _ (Or.inl (by omega))]; exact hn) h2 h6 hp true hN
    simp only [bZ, if_true] at hb
    rw [rd_gi ht.1 hd, Option.bind_some, wr_pf ht.1, Option.bind_some, rd_gi ht.1 (by rw [up_ne _ _ (Or.inr (by omega))]; exact htu), Option.bind_some, hb, Option.bind_some, wr_pf ht.1, Option.bind_some]
  · rw [up_ne _ _ (Or.inr (by omega)), up_at]
  · intro j h10 h11
    rw [up_ne _ _ (Or.inr h10), up_ne _ _ (Or.inr h11)]
theorem X4_step_b176_eq {m : mm_V} (ht : gameT e.1 a) (htt : toldT e.1 t) (hat : t + 19 ≤ a ∨ a + 20 ≤ t) (hdT : e.1 d = some (2, 9)) (hda : d < a ∨ a + 20 ≤ d) (hdt : d < t ∨ t + 19 ≤ d) (h : gameS m a t) (hf : gameF m a f) (hn : m t 6 = .int (zI N)) (h2 : 2 ≤ N) (h6 : N ≤ 6) (hp : p < N) (hs : s < 6) (hps : s ≠ p) (hk : k < (f s).length) (hpl : (f p).length < 10) (hsit : m (a + 4) p = .int (zI (sit p))) (hs6 : sit p < 6) (hla : m (a + 5) p = .int (zI (last p))) (htu : m a 10 = .int (zI p)) (hd : m a 11 = .int done) (hS : toldS m t) (hr : rulesC m t rl) (hw : rulesW rl) (hN : 1000 < e.2.2) : ∃ m', X4_step_b176 e a (zI k) d (a + 8 + 2 * p) (a + 8 + 2 * s) (zI c) m = some m' ∧ gameF m' a (setF (setF f s ((f s).eraseIdx k)) p ((f p).insertIdx (hAt rl sit (setF f s ((f s).eraseIdx k)) last done p c) c)) ∧ m' a 11 = .int (done + zI 1) ∧ m' a 10 = .int (ozI (nxt N (setF (setF f s ((f s).eraseIdx k)) p ((f p).insertIdx (hAt rl sit (setF f s ((f s).eraseIdx k)) last done p c) c)) p)) ∧ m' d 7 = .int (zI (hAt rl sit (setF f s ((f s).eraseIdx k)) last done p c)) ∧ (∀ j, j ≠ 7 → m' d j = m d j) ∧ (∀ j, j ≠ 10 → j ≠ 11 → m' a j = m a j) ∧ ∀ b, b ≠ a → b ≠ d → b ≠ a + 6 → b ≠ t + 6 → (b < a + 8 ∨ a + 20 ≤ b) → m' b = m b := by
  obtain ⟨m1, a1, a2, a3⟩ := X3_takeOut_eq (e := e) (ht.2.2.2.2.2.2.2 s hs) (hf s hs) hk (by omega)
  have F1 : gameF m1 a (setF f s ((f s).eraseIdx k)) := hf.set a2 a3
  have G1 : gameS m1 a t := h.keep (fun j _ => by rw [a3 _ (by omega) (by omega)]) (fun b _ _ => a3 _ (by omega) (by omega))
  obtain ⟨m2, b1, b2⟩ := X4_holdPlace_eq (e := e) (p := p) (c := c) (sit := sit) (last := last) (done := done) ht htt hat G1 F1 (by omega) (by rw [a3 _ (by omega) (by omega)]; exact hsit) hs6 (by rw [a3 _ (by omega) (by omega)]; exact hla) (by rw [a3 _ (by omega) (by omega)]; exact hd) (hS.keep (fun j _ => by rw [a3 _ (by omega) (by omega)]) (a3 _ (by omega) (by omega))) (hr.keep (a3 _ (by omega) (by omega)) (a3 _ (by omega) (by omega)) (a3 _ (by omega) (by omega))) hw hN
  have hle : hAt rl sit (setF f s ((f s).eraseIdx k)) last done p c ≤ (f p).length := by
    have := hAt_le (rl := rl) (sit := sit) (f := setF f s ((f s).eraseIdx k)) (last := last) (done := done) (p := p) (c := c)
    rwa [setF_ne _ _ (Ne.symm hps)] at this
  generalize hAt rl sit (setF f s ((f s).eraseIdx k)) last done p c = h0 at *
  have F2 : gameF (mm_up m2 d 7 (.int (zI h0))) a (setF f s ((f s).eraseIdx k)) := F1.keep (fun b _ _ => by rw [up_row _ _ _ (by omega), b2 _ (by omega) (by omega)])
  have hfp : fanR (mm_up m2 d 7 (.int (zI h0))) (a + 8 + 2 * p) (f p) := by
    have := F2 p (by omega)
    rwa [setF_ne _ _ (Ne.symm hps)] at this
  obtain ⟨m3, c1, c2, c3⟩ := X3_putIn_eq (e := e) (c := c) (ht.2.2.2.2.2.2.2 p (by omega)) hfp hle hpl (by omega)
  have F3 : gameF m3 a (setF (setF f s ((f s).eraseIdx k)) p ((f p).insertIdx h0 c)) := F2.set c2 c3
  have off : ∀ b, b ≠ d → b ≠ a + 6 → b ≠ t + 6 → (b < a + 8 ∨ a + 20 ≤ b) → m3 b = m b := fun b x1 x2 x3 x4 => by
    rw [c3 _ (by omega) (by omega), up_row _ _ _ x1, b2 _ x2 x3, a3 _ (by omega) (by omega)]
  have G3 : gameS m3 a t := h.keep (fun j _ => by rw [off _ (by omega) (by omega) (by omega) (by omega)]) (fun b _ _ => off _ (by omega) (by omega) (by omega) (by omega))
  obtain ⟨m4, d1, d2, d3, d4, d5⟩ := X4_step_b206_eq (e := e) (p := p) (done := done) ht htt hat G3 F3 (by rw [off _ (by omega) (by omega) (by omega) (by omega)]; exact hn) h2 h6 hp (by rw [off _ (by omega) (by omega) (by omega) (by omega)]; exact htu) (by rw [off _ (by omega) (by omega) (by omega) (by omega)]; exact hd) (by omega)
  refine ⟨m4, ?_, F3.keep (fun b _ _ => d5 _ (by omega)), d2, d3, ?_, ?_, ?_, ?_⟩
  · unfold X4_step_b176
    rw [if_pos (ht.2.2.2.2.2.2.2 s hs).1, a1, Option.bind_some, rd_gi ht.1 (by rw [a3 _ (by omega) (by omega)]; exact htu), Option.bind_some, b1, Option.bind_some, wr_pf hdT, Option.bind_some, rd_gi hdT (up_at _ _ _ _), Option.bind_some, if_pos (ht.2.2.2.2.2.2.2 p (by omega)).1, c1, Option.bind_some]
    exact d1
  · rw [d5 _ (by omega), c3 _ (by omega) (by omega), up_at]
  · intro j hj
    rw [d5 _ (by omega), c3 _ (by omega) (by omega), up_ne _ _ (Or.inr hj), b2 _ (by omega) (by omega), a3 _ (by omega) (by omega)]
  · intro j h10 h11
    rw [d4 j h10 h11, off _ (by omega) (by omega) (by omega) (by omega)]
  · intro b x1 x2 x3 x4 x5
    rw [d5 _ x1, off b x2 x3 x4 x5]
end STEP
