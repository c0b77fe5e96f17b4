/-! A GAME WATCHED to its end: what is noted, class. -/
abbrev AC : Type := (Nat → Nat) × (Nat → Nat) × (Nat → Option Nat) × Option Nat × Nat
def A0 (f : Nat → List Nat) : AC := (fun _ => 0, fun _ => 0, fun i => if hasC f i then none else some 0, none, 0)
def nst (w : Nat) (A : AC) : Nat := if A.2.2.2.1 = some w then A.2.2.2.2 + 1 else 1
def note (w n : Nat) (f : Nat → List Nat) (A : AC) : AC := (setF A.1 w (A.1 w + 1), setF A.2.1 w (max (A.2.1 w) (nst w A)), fun i => if A.2.2.1 i = none ∧ hasC f i = false then some n else A.2.2.1 i, some w, nst w A)
def acB (A : AC) (n : Nat) : Prop := (∀ i, A.1 i ≤ n) ∧ (∀ i, A.2.1 i ≤ n) ∧ (∀ i k, A.2.2.1 i = some k → k ≤ n) ∧ (∀ w, A.2.2.2.1 = some w → w < 6) ∧ A.2.2.2.2 ≤ n
theorem acB_0 (f : Nat → List Nat) : acB (A0 f) 0 := by
  refine ⟨fun _ => Nat.le_refl _, fun _ => Nat.le_refl _, fun i k h => ?_, fun w h => (by cases h), Nat.le_refl _⟩
  simp only [A0] at h
  split at h
  · cases h
  · cases h; exact Nat.le_refl _
theorem nst_le {A : AC} {n w : Nat} (h : acB A n) : nst w A ≤ n + 1 := by
  unfold nst
  have := h.2.2.2.2
  split <;> omega
theorem acB_note {A : AC} {n w : Nat} {f : Nat → List Nat} (h : acB A n) (hw : w < 6) : acB (note w (n + 1) f A) (n + 1) := by
  have h5 := nst_le (w := w) h
  obtain ⟨h1, h2, h3, h4, _⟩ := h
  refine ⟨fun i => ?_, fun i => ?_, fun i k hk => ?_, fun y hy => by cases hy; exact hw, h5⟩
  · show setF A.1 w (A.1 w + 1) i ≤ _
    have a := h1 i
    have b := h1 w
    unfold setF; split <;> omega
  · show setF A.2.1 w (max (A.2.1 w) (nst w A)) i ≤ _
    have a := h2 i
    have b := h2 w
    unfold setF; split <;> omega
  · simp only [note] at hk
    split at hk
    · cases hk; exact Nat.le_refl _
    · have := h3 i k hk; omega
def wat (rl : Nat → List Int) (sit : Nat → Nat) (lw lk : Int32) (N : Nat) : Nat → Nat → PS × Int32 → AC → AC × (PS × Int32) × Nat
  | 0, n, Y, A => (A, Y, n)
  | j + 1, n, Y, A => if isOv N Y.1.1 then (A, Y, n) else wat rl sit lw lk N j (n + 1) (pst rl sit lw lk N Y) (note ((qn N (pst rl sit lw lk N Y).1.1).getD 0) (n + 1) (pst rl sit lw lk N Y).1.1 A)
theorem fst_at {Q : Nat → Bool} {w : Nat} (h : ∀ p, Q p = true ↔ p = w) : ∀ (j i : Nat), i ≤ w → w < i + j → fstP Q j i = some w
  | 0, i, h1, h2 => by omega
  | j + 1, i, h1, h2 => by
    rw [fstP]
    by_cases hi : Q i = true
    · rw [if_pos hi, (h i).mp hi]
    · rw [if_neg hi]
      have : i ≠ w := fun hh => hi ((h i).mpr hh)
      exact fst_at h j (i + 1) (by omega) (by omega)
theorem tabI.qn {N P : Nat} {f : Nat → List Nat} (h : tabI N P f) : ∃ w, w < N ∧ _root_.Jvm.Pilot.CSootQueenLaw_law_r9312_e548d1.qn N f = some w ∧ ∀ p, hasQ f p = true ↔ p = w := by
  obtain ⟨w, w1, w2⟩ := h.2.2.2
  have hq : ∀ p, hasQ f p = true ↔ p = w := fun p => by
    unfold hasQ
    rw [← w2 p, Option.isSome_iff_ne_none]
    exact (not_congr idx_mem).trans Classical.not_not
  exact ⟨w, w1, fst_at hq N 0 (by omega) (by omega), hq⟩
def plaT (g : mm_T) (y : Nat) : Prop := g y = some (7, 8) ∧ g (y + 1) = some (20, 6) ∧ g (y + 2) = some (20, 6) ∧ g (y + 3) = some (20, 6) ∧ g (y + 4) = some (2, 9)
def plaS (m : mm_V) (y : Nat) : Prop := m y 0 = .ref (y + 1) ∧ m y 1 = .ref (y + 2) ∧ m y 2 = .ref (y + 3) ∧ m y 3 = .ref (y + 4)
def plaR (m : mm_V) (y : Nat) (A : AC) (n : Nat) : Prop := (∀ i, i < 6 → m (y + 1) i = .int (zI (A.1 i))) ∧ (∀ i, i < 6 → m (y + 2) i = .int (zI (A.2.1 i))) ∧ (∀ i, i < 6 → m (y + 3) i = .int (ozI (A.2.2.1 i))) ∧ m y 6 = .int (ozI A.2.2.2.1) ∧ m y 7 = .int (zI A.2.2.2.2) ∧ m y 5 = .int (zI n)
theorem plaS.keep {m m' : mm_V} {y : Nat} (h : plaS m y) (h1 : ∀ j, j < 4 → m' y j = m y j) : plaS m' y := ⟨by rw [h1 _ (by omega)]; exact h.1, by rw [h1 _ (by omega)]; exact h.2.1, by rw [h1 _ (by omega)]; exact h.2.2.1, by rw [h1 _ (by omega)]; exact h.2.2.2⟩
theorem plaR.keep {m m' : mm_V} {y n : Nat} {A : AC} (h : plaR m y A n) (h1 : ∀ j, 5 ≤ j → m' y j = m y j) (h2 : ∀ b, y < b → b < y + 4 → m' b = m b) : plaR m' y A n := by
  obtain ⟨a1, a2, a3, a4, a5, a6⟩ := h
  exact ⟨fun i hi => by rw [h2 _ (by omega) (by omega)]; exact a1 i hi, fun i hi => by rw [h2 _ (by omega) (by omega)]; exact a2 i hi, fun i hi => by rw [h2 _ (by omega) (by omega)]; exact a3 i hi, by rw [h1 _ (by omega)]; exact a4, by rw [h1 _ (by omega)]; exact a5, by rw [h1 _ (by omega)]; exact a6⟩
theorem ozI_some {o : Option Nat} {w : Nat} (h : ∀ k, o = some k → k < 1000000) (hw : w < 1000000) : (zI w = ozI o) = (o = some w) := by
  cases o with
  | none =>
    show (zI w = zI (-1)) = _
    rw [zI_eq (by omega) (by omega) (by omega) (by omega)]
    simp
  | some k =>
    have := h k rfl
    show (zI w = zI k) = _
    rw [zI_eq (by omega) (by omega) (by omega) (by omega)]
    simp only [Option.some.injEq, eq_iff_iff]
    omega
section WATCH
variable {e : mm_E} {y a t N P n : Nat} {A : AC}
theorem J9_max_eq {u v : Nat} (hu : u < 100000) (hv : v < 100000) (m : mm_V) : J9_max_7cf53 e (zI u) (zI v) m = some (zI (max u v : Nat), m) := by
  unfold J9_max_7cf53 J9_max_7cf53_b10
  by_cases h : u < v
  · rw [ilp (by omega), Nat.max_eq_right (by omega)]
  · rw [iln (by omega), Nat.max_eq_left (by omega)]
theorem X7_noteQueen_eq {m : mm_V} {w : Nat} (ht : plaT e.1 y) (hs : plaS m y) (h : plaR m y A n) (hb : acB A n) (hn : n < 1000) (hw : w < 6) : ∃ m', X7_noteQueen e y (zI w) m = some m' ∧ plaS m' y ∧ (∀ i, i < 6 → m' (y + 1) i = .int (zI (setF A.1 w (A.1 w + 1) i : Nat))) ∧ (∀ i, i < 6 → m' (y + 2) i = .int (zI (setF A.2.1 w (max (A.2.1 w) (nst w A)) i : Nat))) ∧ m' y 6 = .int (zI w) ∧ m' y 7 = .int (zI (nst w A)) ∧ (∀ j, j ≠ 6 → j ≠ 7 → m' y j = m y j) ∧ ∀ b, b ≠ y → b ≠ y + 1 → b ≠ y + 2 → m' b = m b := by
  have hst := nst_le (w := w) hb
  obtain ⟨b1, b2, b3, b4, b5⟩ := hb
  have b1w := b1 w
  have b2w := b2 w
  obtain ⟨r1, r2, r3, r6, r7, r5⟩ := h
  generalize hm1 : mm_up m y 7 (.int (zI (nst w A))) = m1
  generalize hm2 : mm_up m1 y 6 (.int (zI w)) = m2
  have o2 : ∀ b, b ≠ y → m2 b = m b := fun b x1 => by rw [← hm2, up_row _ _ _ x1, ← hm1, up_row _ _ _ x1]
  have q2 : ∀ j, j ≠ 6 → j ≠ 7 → m2 y j = m y j := fun j x1 x2 => by rw [← hm2, up_ne _ _ (Or.inr x1), ← hm1, up_ne _ _ (Or.inr x2)]
  have s2 : plaS m2 y := hs.keep (fun j _ => q2 j (by omega) (by omega))
  have e7 : m2 y 7 = .int (zI (nst w A)) := by rw [← hm2, up_ne _ _ (Or.inr (by omega)), ← hm1, up_at]
  have e6 : m2 y 6 = .int (zI w) := by rw [← hm2, up_at]
  generalize hm3 : mm_up m2 (y + 1) w (.int (zI (A.1 w + 1 : Nat))) = m3
  have o3 : ∀ b, b ≠ y + 1 → m3 b = m2 b := fun b x1 => by rw [← hm3, up_row _ _ _ x1]
  have s3 : plaS m3 y := s2.keep (fun j _ => by rw [o3 _ (by omega)])
  generalize hm4 : mm_up m3 (y + 2) w (.int (zI (max (A.2.1 w) (nst w A) : Nat))) = m4
  have o4 : ∀ b, b ≠ y + 2 → m4 b = m3 b := fun b x1 => by rw [← hm4, up_row _ _ _ x1]
  have tail : X7_noteQueen_b19 e y (zI w) y (zI (nst w A)) m = some m4 := by
    unfold X7_noteQueen_b19 X7_noteQueen_b66
    rw [wr_pf ht.1, Option.bind_some, hm1, wr_pf ht.1, Option.bind_some, hm2]
    simp only [LT]
    rw [iln (by omega), ien (by omega), rd_gr ht.1 s2.1, Option.bind_some, rd_ai ht.2.1 (i := w) rfl (by omega) (by omega) (by rw [o2 _ (by omega)]; exact r1 w hw), Option.bind_some, wr_si ht.2.1 (i := w) rfl (by omega) (by omega), zI_add, show ((A.1 w : Int) + 1) = ((A.1 w + 1 : Nat) : Int) by omega, Option.bind_some, hm3, rd_gr ht.1 s3.2.1, Option.bind_some, Option.bind_some, rd_ai ht.2.2.1 (i := w) rfl (by omega) (by omega) (by rw [o3 _ (by omega), o2 _ (by omega)]; exact r2 w hw), Option.bind_some, rd_gi ht.1 (v := zI (nst w A)) (by rw [o3 _ (by omega)]; exact e7), Option.bind_some, J9_max_eq (by omega) (by omega), Option.bind_some, wr_si ht.2.2.1 (i := w) rfl (by omega) (by omega), Option.bind_some, hm4]
  refine ⟨m4, ?_, s3.keep (fun j _ => by rw [o4 _ (by omega)]), fun i hi => ?_, fun i hi => ?_, by rw [o4 _ (by omega), o3 _ (by omega)]; exact e6, by rw [o4 _ (by omega), o3 _ (by omega)]; exact e7, fun j x1 x2 => by rw [o4 _ (by omega), o3 _ (by omega)]; exact q2 j x1 x2, fun b x1 x2 x3 => by rw [o4 _ x3, o3 _ x2]; exact o2 b x1⟩
  · have hz := ozI_some (o := A.2.2.2.1) (w := w) (fun k hk => by have := b4 k hk; omega) (by omega)
    unfold X7_noteQueen
    rw [rd_gi ht.1 r6, Option.bind_some]
    simp only [hz]
    unfold nst at tail
    by_cases hh : A.2.2.2.1 = some w
    · rw [if_pos hh] at tail
      rw [if_neg (not_not_intro hh), rd_gi ht.1 r7, Option.bind_some]
      simp only [LT, ZA]
      exact tail
    · rw [if_neg hh] at tail
      rw [if_pos hh]
      exact tail
  · rw [o4 _ (by omega), ← hm3]
    by_cases hiw : i = w
    · rw [hiw, up_at, setF_at]
    · rw [up_ne _ _ (Or.inr hiw), setF_ne _ _ hiw, o2 _ (by omega)]; exact r1 i hi
  · rw [← hm4]
    by_cases hiw : i = w
    · rw [hiw, up_at, setF_at]
    · rw [up_ne _ _ (Or.inr hiw), setF_ne _ _ hiw, o3 _ (by omega), o2 _ (by omega)]; exact r2 i hi
theorem X7_noteOut_loop {f : Nat → List Nat} {o : Nat → Option Nat} (ht : plaT e.1 y) (hg : gameT e.1 a) (hya : y + 5 ≤ a ∨ a + 20 ≤ y) (ho : ∀ i k, o i = some k → k < 100000) (hn : n < 1000) : ∀ (j i nn : Nat) (m : mm_V), i + j = 6 → j < nn → plaS m y → m y 5 = .int (zI n) → gameS m a t → gameF m a f → (∀ k, k < i → m (y + 3) k = .int (ozI (if o k = none ∧ hasC f k = false then some n else o k))) → (∀ k, i ≤ k → k < 6 → m (y + 3) k = .int (ozI (o k))) → ∃ m', X7_noteOut_L2 e y a nn (zI i) m = some m' ∧ (∀ k, k < 6 → m' (y + 3) k = .int (ozI (if o k = none ∧ hasC f k = false then some n else o k))) ∧ ∀ b, b ≠ y + 3 → m' b = m b := by
  intro j
  induction j with
  | zero =>
    intro i nn m hi hj hs h5 hG hF h1 h2
    obtain ⟨nn, rfl⟩ : ∃ n', nn = n' + 1 := ⟨nn - 1, by omega⟩
    refine ⟨m, ?_, fun k hk => h1 k (by omega), fun _ _ => rfl⟩
    unfold X7_noteOut_L2
    simp only [LT]
    rw [iep (by omega)]
  | succ j ih =>
    intro i nn m hi hj hs h5 hG hF h1 h2
    obtain ⟨nn, rfl⟩ : ∃ n', nn = n' + 1 := ⟨nn - 1, by omega⟩
    obtain ⟨m', e1, e2, e3⟩ := ih (i + 1) nn (mm_up m (y + 3) i (.int (ozI (if o i = none ∧ hasC f i = false then some n else o i)))) (by omega) (by omega) (hs.keep (fun _ _ => up_ne _ _ (Or.inl (by omega)))) (by rw [up_ne _ _ (Or.inl (by omega))]; exact h5) (hG.keep (fun j _ => up_ne _ _ (Or.inl (by omega))) (fun b _ _ => up_row _ _ _ (by omega))) (hF.keep (fun b _ _ => up_row _ _ _ (by omega))) (fun k hk => by
      by_cases hki : k = i
      · subst hki; exact up_at _ _ _ _
      · rw [up_ne _ _ (Or.inr hki)]; exact h1 k (by omega)) (fun k x1 x2 => by rw [up_ne _ _ (Or.inr (by omega))]; exact h2 k (by omega) x2)
    refine ⟨m', ?_, e2, fun b hb => by rw [e3 b hb, up_row _ _ _ hb]⟩
    have ri := h2 i (by omega) (by omega)
    have hz := ozI_none (o := o i) (fun k hk => by have := ho i k hk; omega)
    have hem := X4_isEmpty_eq (e := e) hg hG hF (show i < 6 by omega)
    unfold X7_noteOut_L2 X7_noteOut_b38 X7_noteOut_b44
    simp only [LT, zI_neg]
    rw [ien (by omega), rd_gr ht.1 hs.2.2.1, Option.bind_some, Option.bind_some, rd_ai ht.2.2.2.1 (i := i) rfl (by omega) (by omega) ri, Option.bind_some]
    simp only [hz, hg.1, if_true]
    by_cases hoi : o i = none
    · rw [if_neg (not_not_intro hoi), hem, Option.bind_some]
      cases hc : hasC f i with
      | true =>
        rw [hc, if_neg (by simp)] at e1
        simp only [bZ, Bool.not_true, Bool.false_eq_true, if_false, if_true, Option.bind_some, rd_gr ht.1 hs.2.2.1]
        rw [rd_ai ht.2.2.2.1 (i := i) rfl (by omega) (by omega) ri, Option.bind_some, wr_si ht.2.2.2.1 (i := i) rfl (by omega) (by omega), Option.bind_some, zI_add]
        exact e1
      | false =>
        rw [hc, if_pos ⟨hoi, rfl⟩] at e1
        simp only [bZ, Bool.not_false, Bool.false_eq_true, if_false, if_true, Option.bind_some]
        rw [iqn (by omega), rd_gi ht.1 h5, Option.bind_some, wr_si ht.2.2.2.1 (i := i) rfl (by omega) (by omega), Option.bind_some, zI_add]
        exact e1
    · rw [if_neg (fun hh => hoi hh.1)] at e1
      rw [if_pos hoi, Option.bind_some, rd_ai ht.2.2.2.1 (i := i) rfl (by omega) (by omega) ri, Option.bind_some, wr_si ht.2.2.2.1 (i := i) rfl (by omega) (by omega), Option.bind_some, zI_add]
      exact e1
theorem acB.mono {k : Nat} (h : acB A n) (hk : n ≤ k) : acB A k := ⟨fun i => Nat.le_trans (h.1 i) hk, fun i => Nat.le_trans (h.2.1 i) hk, fun i j hj => Nat.le_trans (h.2.2.1 i j hj) hk, h.2.2.2.1, Nat.le_trans h.2.2.2.2 hk⟩
variable {rl : Nat → List Int} {sit : Nat → Nat} {lw lk : Int32}
theorem X7_watch_end {m : mm_V} {x : Int32} {S : PS} (ht : plaT e.1 y) (hg : gameT e.1 a) (E : cE e m t N P rl) (h : gC m a t sit lw lk x S) (ok : okS N P S) (hN : 1000 < e.2.2) : X7_watch_b117 e y a m = some (mm_up m y 4 (.int (ozI (lsr N S.1)))) := by
  obtain ⟨tT, tS, t6, t7, tr, tw, h2, h6, hP⟩ := E
  unfold X7_watch_b117
  rw [if_pos hg.1, X4_loser_eq hg tT.1 h.1 h.2.1 (ok.1.lt hP) t6 h6 (by omega), Option.bind_some, wr_pf ht.1, Option.bind_some]
theorem X7_watch_loop (ht : plaT e.1 y) (hg : gameT e.1 a) (hya : y + 5 ≤ a ∨ a + 20 ≤ y) (hat : t + 19 ≤ a ∨ a + 20 ≤ t) (hyt : y + 5 ≤ t ∨ t + 19 ≤ y) (hsit : ∀ i, i < 6 → sit i < 6) (hN : 1000 < e.2.2) : ∀ (j n nn : Nat) (m : mm_V) (S : PS) (x : Int32) (A : AC), n + j = 200 → j < nn → cE e m t N P rl → gC m a t sit lw lk x S → okS N P S → plaS m y → plaR m y A n → acB A n → ∃ m', X7_watch_L62 e y a nn m = some m' ∧ gC m' a t sit lw lk (wat rl sit lw lk N j n (S, x) A).2.1.2 (wat rl sit lw lk N j n (S, x) A).2.1.1 ∧ okS N P (wat rl sit lw lk N j n (S, x) A).2.1.1 ∧ plaS m' y ∧ plaR m' y (wat rl sit lw lk N j n (S, x) A).1 (wat rl sit lw lk N j n (S, x) A).2.2 ∧ acB (wat rl sit lw lk N j n (S, x) A).1 (wat rl sit lw lk N j n (S, x) A).2.2 ∧ (wat rl sit lw lk N j n (S, x) A).2.2 ≤ 200 ∧ m' y 4 = .int (ozI (lsr N (wat rl sit lw lk N j n (S, x) A).2.1.1.1)) ∧ ∀ b, (b < a ∨ a + 20 ≤ b) → (b < y ∨ y + 5 ≤ b) → b ≠ t + 6 → m' b = m b := by
  intro j
  have fin : ∀ (nn : Nat) (m : mm_V) (S : PS) (x : Int32) (A : AC) (n : Nat), n ≤ 200 → cE e m t N P rl → gC m a t sit lw lk x S → okS N P S → plaS m y → plaR m y A n → acB A n → ∃ m', X7_watch_b117 e y a m = some m' ∧ gC m' a t sit lw lk x S ∧ okS N P S ∧ plaS m' y ∧ plaR m' y A n ∧ acB A n ∧ n ≤ 200 ∧ m' y 4 = .int (ozI (lsr N S.1)) ∧ ∀ b, (b < a ∨ a + 20 ≤ b) → (b < y ∨ y + 5 ≤ b) → b ≠ t + 6 → m' b = m b := by
    intro nn m S x A n hn E h ok hs hr hb
    exact ⟨_, X7_watch_end ht hg E h ok hN, h.keep (fun b _ _ _ _ => up_row _ _ _ (by omega)), ok, hs.keep (fun j _ => up_ne _ _ (Or.inr (by omega))), hr.keep (fun j _ => up_ne _ _ (Or.inr (by omega))) (fun b _ _ => up_row _ _ _ (by omega)), hb, hn, up_at _ _ _ _, fun b x1 x2 x3 => up_row _ _ _ (by omega)⟩
  induction j with
  | zero =>
    intro n nn m S x A hn hj E h ok hs hr hb
    obtain ⟨nn, rfl⟩ : ∃ n', nn = n' + 1 := ⟨nn - 1, by omega⟩
    obtain ⟨m', e1, e2⟩ := fin nn m S x A n (by omega) E h ok hs hr hb
    refine ⟨m', ?_, e2⟩
    unfold X7_watch_L62
    simp only [LT]
    rw [rd_gi ht.1 hr.2.2.2.2.2, Option.bind_some, iep (by omega)]
    exact e1
  | succ j ih =>
    intro n nn m S x A hn hj E h ok hs hr hb
    obtain ⟨nn, rfl⟩ : ∃ n', nn = n' + 1 := ⟨nn - 1, by omega⟩
    obtain ⟨tT, tS, t6, t7, tr, tw, h2, h6, hP⟩ := id E
    have ov := X4_over_eq (e := e) hg tT.1 h.1 h.2.1 t6 h6 (by omega)
    cases hov : isOv N S.1 with
    | true =>
      obtain ⟨m', e1, e2⟩ := fin nn m S x A n (by omega) E h ok hs hr hb
      have hw : wat rl sit lw lk N (j + 1) n (S, x) A = (A, (S, x), n) := by rw [wat]; exact if_pos hov
      rw [hw]
      refine ⟨m', ?_, e2⟩
      unfold X7_watch_L62
      simp only [LT]
      rw [rd_gi ht.1 hr.2.2.2.2.2, Option.bind_some, ien (by omega), if_pos hg.1, ov, hov, Option.bind_some]
      simp only [bZ, if_true]
      rw [inp (by omega)]
      exact e1
    | false =>
      obtain ⟨z, m1, m2, a1, a2, a3, a4, a5⟩ := X4_move_eq (e := e) (d := y + 4) (x := x) E hg hat ht.2.2.2.2 (by omega) (by omega) h ok hsit hov hN
      have ok' := okS_pst (rl := rl) (sit := sit) (lw := lw) (lk := lk) (x := x) ok hov
      generalize hY : pst rl sit lw lk N (S, x) = Y at a3 ok'
      obtain ⟨w, w1, w2, w3⟩ := ok'.1.qn
      have hw : wat rl sit lw lk N (j + 1) n (S, x) A = wat rl sit lw lk N j (n + 1) (Y.1, Y.2) (note w (n + 1) Y.1.1 A) := by
        rw [wat]
        refine (if_neg (by rw [hov]; simp)).trans ?_
        rw [hY, w2]; rfl
      rw [hw]
      have o2 : ∀ b, (b < a ∨ a + 20 ≤ b) → b ≠ y + 4 → b ≠ t + 6 → m2 b = m b := a5
      generalize hm3 : mm_up m2 y 5 (.int (zI (n + 1 : Nat))) = m3
      have o3 : ∀ b, b ≠ y → m3 b = m2 b := fun b x1 => by rw [← hm3, up_row _ _ _ x1]
      have q3 : ∀ j, j ≠ 5 → m3 y j = m y j := fun j x1 => by rw [← hm3, up_ne _ _ (Or.inr x1), o2 _ (by omega) (by omega) (by omega)]
      have g3 : gC m3 a t sit lw lk Y.2 Y.1 := a3.keep (fun b _ _ _ _ => o3 b (by omega))
      have s3 : plaS m3 y := hs.keep (fun j _ => q3 j (by omega))
      obtain ⟨r1, r2, r3, r6, r7, r5⟩ := hr
      have p3 : plaR m3 y A (n + 1) := ⟨fun i hi => by rw [o3 _ (by omega), o2 _ (by omega) (by omega) (by omega)]; exact r1 i hi, fun i hi => by rw [o3 _ (by omega), o2 _ (by omega) (by omega) (by omega)]; exact r2 i hi, fun i hi => by rw [o3 _ (by omega), o2 _ (by omega) (by omega) (by omega)]; exact r3 i hi, by rw [q3 _ (by omega)]; exact r6, by rw [q3 _ (by omega)]; exact r7, by rw [← hm3, up_at]⟩
      have t63 : m3 t 6 = .int (zI N) := by rw [o3 _ (by omega), o2 _ (by omega) (by omega) (by omega)]; exact t6
      have qh := X4_queenHolder_eq (e := e) hg tT.1 g3.1 g3.2.1 (ok'.1.lt hP) t63 h6 (by omega)
      obtain ⟨m4, c1, c2, c3, c4, c5, c6, c7, c8⟩ := X7_noteQueen_eq (e := e) (w := w) ht s3 p3 (hb.mono (by omega)) (by omega) (by omega)
      have g4 : gC m4 a t sit lw lk Y.2 Y.1 := g3.keep (fun b _ _ _ _ => c8 b (by omega) (by omega) (by omega))
      obtain ⟨m5, d1, d2, d3⟩ := X7_noteOut_loop (e := e) (n := n + 1) (o := A.2.2.1) (f := Y.1.1) (t := t) ht hg hya (fun i k hk => by have := hb.2.2.1 i k hk; omega) (by omega) 6 0 e.2.2 m4 (by omega) (by omega) c2 (by rw [c7 _ (by omega) (by omega)]; exact p3.2.2.2.2.2) g4.1 g4.2.1 (fun k hk => absurd hk (by omega)) (fun k _ hk => by rw [c8 _ (by omega) (by omega) (by omega)]; exact p3.2.2.1 k hk)
      have o5 : ∀ b, (b < a ∨ a + 20 ≤ b) → (b < y ∨ y + 5 ≤ b) → b ≠ t + 6 → m5 b = m b := fun b x1 x2 x3 => by rw [d3 b (by omega), c8 b (by omega) (by omega) (by omega), o3 b (by omega), o2 b x1 (by omega) x3]
      obtain ⟨m', e1, e2, e3, e4, e5, e6, e7, e8, e9⟩ := ih (n + 1) nn m5 Y.1 Y.2 (note w (n + 1) Y.1.1 A) (by omega) (by omega) (E.keep (fun b _ _ z => o5 b (by omega) (by omega) z)) (g4.keep (fun b _ _ _ _ => d3 b (by omega))) ok' (c2.keep (fun j _ => by rw [d3 _ (by omega)])) ⟨fun i hi => by rw [d3 _ (by omega)]; exact c3 i hi, fun i hi => by rw [d3 _ (by omega)]; exact c4 i hi, d2, by rw [d3 _ (by omega)]; exact c5, by rw [d3 _ (by omega)]; exact c6, by rw [d3 _ (by omega), c7 _ (by omega) (by omega)]; exact p3.2.2.2.2.2⟩ (acB_note hb (by omega))
      refine ⟨m', ?_, e2, e3, e4, e5, e6, e7, e8, fun b x1 x2 x3 => by rw [e9 b x1 x2 x3]; exact o5 b x1 x2 x3⟩
      unfold X7_watch_L62
      simp only [LT]
      rw [rd_gi ht.1 r5, Option.bind_some, ien (by omega), if_pos hg.1, ov, hov, Option.bind_some]
      simp only [bZ, Bool.false_eq_true, if_false, not_true_eq_false]
      rw [if_pos hg.1, a1, Option.bind_some, rd_gr (m := m1) ht.1 (v := y + 4) (by rw [a4 _ (by omega) (by omega)]; exact hs.2.2.2), Option.bind_some, if_pos hg.1, a2, Option.bind_some, rd_gi ht.1 (v := zI n) (by rw [o2 _ (by omega) (by omega) (by omega)]; exact r5), Option.bind_some, zI_add, show ((n : Int) + 1) = ((n + 1 : Nat) : Int) by omega, wr_pf ht.1, Option.bind_some, hm3, if_pos hg.1, qh, w2, Option.bind_some]
      simp only [ozI]
      rw [c1, Option.bind_some]
      unfold X7_noteOut
      simp only [LT]
      rw [show (zI 0 : Int32) = zI ((0 : Nat) : Int) from rfl, d1, Option.bind_some]
      exact e1
theorem X7_watch_fill (ht : plaT e.1 y) (hg : gameT e.1 a) (hya : y + 5 ≤ a ∨ a + 20 ≤ y) {f : Nat → List Nat} : ∀ (j i nn : Nat) (m : mm_V), i + j = 6 → j < nn → plaS m y → gameS m a t → gameF m a f → (∀ k, k < i → m (y + 1) k = .int (zI 0) ∧ m (y + 2) k = .int (zI 0) ∧ m (y + 3) k = .int (ozI (if hasC f k then none else some 0))) → ∃ m', X7_watch_L17 e y a nn (zI i) m = X7_watch_L62 e y a e.2.2 m' ∧ (∀ k, k < 6 → m' (y + 1) k = .int (zI 0) ∧ m' (y + 2) k = .int (zI 0) ∧ m' (y + 3) k = .int (ozI (if hasC f k then none else some 0))) ∧ ∀ b, b ≠ y + 1 → b ≠ y + 2 → b ≠ y + 3 → m' b = m b := by
  intro j
  induction j with
  | zero =>
    intro i nn m hi hj hs hG hF h1
    obtain ⟨nn, rfl⟩ : ∃ n', nn = n' + 1 := ⟨nn - 1, by omega⟩
    refine ⟨m, ?_, fun k hk => h1 k (by omega), fun _ _ _ _ => rfl⟩
    unfold X7_watch_L17
    simp only [LT]
    rw [iep (by omega)]
  | succ j ih =>
    intro i nn m hi hj hs hG hF h1
    obtain ⟨nn, rfl⟩ : ∃ n', nn = n' + 1 := ⟨nn - 1, by omega⟩
    generalize hm1 : mm_up m (y + 1) i (.int (zI 0)) = m1
    generalize hm2 : mm_up m1 (y + 2) i (.int (zI 0)) = m2
    have o2 : ∀ b, b ≠ y + 1 → b ≠ y + 2 → m2 b = m b := fun b x1 x2 => by rw [← hm2, up_row _ _ _ x2, ← hm1, up_row _ _ _ x1]
    have s1 : plaS m1 y := hs.keep (fun _ _ => by rw [← hm1, up_ne _ _ (Or.inl (by omega))])
    have s2 : plaS m2 y := hs.keep (fun _ _ => by rw [o2 _ (by omega) (by omega)])
    have G2 : gameS m2 a t := hG.keep (fun j _ => by rw [o2 _ (by omega) (by omega)]) (fun b _ _ => o2 _ (by omega) (by omega))
    have F2 : gameF m2 a f := hF.keep (fun b _ _ => o2 _ (by omega) (by omega))
    have hem := X4_isEmpty_eq (e := e) hg G2 F2 (show i < 6 by omega)
    generalize hm3 : mm_up m2 (y + 3) i (.int (ozI (if hasC f i then none else some 0))) = m3
    have o3 : ∀ b, b ≠ y + 3 → m3 b = m2 b := fun b x1 => by rw [← hm3, up_row _ _ _ x1]
    obtain ⟨m', e1, e2, e3⟩ := ih (i + 1) nn m3 (by omega) (by omega) (s2.keep (fun _ _ => by rw [o3 _ (by omega)])) (G2.keep (fun j _ => by rw [o3 _ (by omega)]) (fun b _ _ => o3 _ (by omega))) (F2.keep (fun b _ _ => o3 _ (by omega))) (fun k hk => by
      by_cases hki : k = i
      · subst hki
        refine ⟨?_, ?_, ?_⟩
        · rw [o3 _ (by omega), ← hm2, up_ne _ _ (Or.inl (by omega)), ← hm1, up_at]
        · rw [o3 _ (by omega), ← hm2, up_at]
        · rw [← hm3, up_at]
      · obtain ⟨u1, u2, u3⟩ := h1 k (by omega)
        refine ⟨?_, ?_, ?_⟩
        · rw [o3 _ (by omega), ← hm2, up_ne _ _ (Or.inl (by omega)), ← hm1, up_ne _ _ (Or.inr hki)]; exact u1
        · rw [o3 _ (by omega), ← hm2, up_ne _ _ (Or.inr hki), ← hm1, up_ne _ _ (Or.inl (by omega))]; exact u2
        · rw [← hm3, up_ne _ _ (Or.inr hki), o2 _ (by omega) (by omega)]; exact u3)
    refine ⟨m', ?_, e2, fun b x1 x2 x3 => by rw [e3 b x1 x2 x3, o3 b x3, o2 b x1 x2]⟩
    unfold X7_watch_L17 X7_watch_b55
    simp only [LT, zI_neg]
    rw [ien (by omega), rd_gr ht.1 hs.1, Option.bind_some, wr_si ht.2.1 (i := i) rfl (by omega) (by omega), Option.bind_some, hm1, rd_gr ht.1 s1.2.1, Option.bind_some, wr_si ht.2.2.1 (i := i) rfl (by omega) (by omega), Option.bind_some, hm2, rd_gr ht.1 s2.2.2.1, Option.bind_some, if_pos hg.1, hem, Option.bind_some]
    cases hc : hasC f i with
    | true =>
      rw [hc] at hm3
      simp only [bZ, Bool.not_true, Bool.false_eq_true, if_false, if_true]
      rw [wr_si ht.2.2.2.1 (i := i) rfl (by omega) (by omega), Option.bind_some, zI_add]
      simp only [if_true, ozI] at hm3
      rw [hm3]
      exact e1
    | false =>
      rw [hc] at hm3
      simp only [bZ, Bool.not_false, Bool.false_eq_true, if_false, if_true]
      rw [iqn (by omega), wr_si ht.2.2.2.1 (i := i) rfl (by omega) (by omega), Option.bind_some, zI_add]
      simp only [Bool.false_eq_true, if_false, ozI] at hm3
      erw [hm3]
      exact e1
def watR (rl : Nat → List Int) (sit : Nat → Nat) (lw lk : Int32) (N : Nat) (S : PS) (x : Int32) : AC × (PS × Int32) × Nat := wat rl sit lw lk N 200 0 (S, x) (A0 S.1)
theorem X7_watch_eq {m : mm_V} {S : PS} {x : Int32} (ht : plaT e.1 y) (hg : gameT e.1 a) (hya : y + 5 ≤ a ∨ a + 20 ≤ y) (hat : t + 19 ≤ a ∨ a + 20 ≤ t) (hyt : y + 5 ≤ t ∨ t + 19 ≤ y) (hsit : ∀ i, i < 6 → sit i < 6) (hs : plaS m y) (E : cE e m t N P rl) (h : gC m a t sit lw lk x S) (ok : okS N P S) (hN : 1000 < e.2.2) : ∃ m', X7_watch e y a m = some m' ∧ gC m' a t sit lw lk (watR rl sit lw lk N S x).2.1.2 (watR rl sit lw lk N S x).2.1.1 ∧ okS N P (watR rl sit lw lk N S x).2.1.1 ∧ plaS m' y ∧ plaR m' y (watR rl sit lw lk N S x).1 (watR rl sit lw lk N S x).2.2 ∧ acB (watR rl sit lw lk N S x).1 (watR rl sit lw lk N S x).2.2 ∧ (watR rl sit lw lk N S x).2.2 ≤ 200 ∧ m' y 4 = .int (ozI (lsr N (watR rl sit lw lk N S x).2.1.1.1)) ∧ ∀ b, (b < a ∨ a + 20 ≤ b) → (b < y ∨ y + 5 ≤ b) → b ≠ t + 6 → m' b = m b := by
  generalize hm1 : mm_up m y 5 (.int (zI 0)) = m1
  generalize hm2 : mm_up m1 y 6 (.int (zI (-1))) = m2
  generalize hm3 : mm_up m2 y 7 (.int (zI 0)) = m3
  have o3 : ∀ b, b ≠ y → m3 b = m b := fun b x1 => by rw [← hm3, up_row _ _ _ x1, ← hm2, up_row _ _ _ x1, ← hm1, up_row _ _ _ x1]
  have q3 : ∀ j, j ≠ 5 → j ≠ 6 → j ≠ 7 → m3 y j = m y j := fun j x1 x2 x3 => by rw [← hm3, up_ne _ _ (Or.inr x3), ← hm2, up_ne _ _ (Or.inr x2), ← hm1, up_ne _ _ (Or.inr x1)]
  have s3 : plaS m3 y := hs.keep (fun j _ => q3 j (by omega) (by omega) (by omega))
  have g3 : gC m3 a t sit lw lk x S := h.keep (fun b _ _ _ _ => o3 b (by omega))
  have y5 : m3 y 5 = .int (zI 0) := by rw [← hm3, up_ne _ _ (Or.inr (by omega)), ← hm2, up_ne _ _ (Or.inr (by omega)), ← hm1, up_at]
  have y6 : m3 y 6 = .int (zI (-1)) := by rw [← hm3, up_ne _ _ (Or.inr (by omega)), ← hm2, up_at]
  have y7 : m3 y 7 = .int (zI 0) := by rw [← hm3, up_at]
  obtain ⟨m4, a1, a2, a3⟩ := X7_watch_fill (e := e) (t := t) ht hg hya (f := S.1) 6 0 e.2.2 m3 (by omega) (by omega) s3 g3.1 g3.2.1 (fun k hk => absurd hk (by omega))
  have o4 : ∀ b, (b < y ∨ y + 5 ≤ b) → m4 b = m b := fun b x1 => by rw [a3 b (by omega) (by omega) (by omega), o3 b (by omega)]
  obtain ⟨m', e1, e2, e3, e4, e5, e6, e7, e8, e9⟩ := X7_watch_loop (e := e) ht hg hya hat hyt hsit hN 200 0 e.2.2 m4 S x (A0 S.1) (by omega) (by omega) (E.keep (fun b _ _ _ => o4 b (by omega))) (h.keep (fun b _ _ _ _ => o4 b (by omega))) ok (s3.keep (fun j _ => by rw [a3 _ (by omega) (by omega) (by omega)])) ⟨fun i hi => (a2 i hi).1, fun i hi => (a2 i hi).2.1, fun i hi => (a2 i hi).2.2, by rw [a3 _ (by omega) (by omega) (by omega)]; exact y6, by rw [a3 _ (by omega) (by omega) (by omega)]; exact y7, by rw [a3 _ (by omega) (by omega) (by omega)]; exact y5⟩ (acB_0 S.1)
  refine ⟨m', ?_, e2, e3, e4, e5, e6, e7, e8, fun b x1 x2 x3 => by rw [e9 b x1 x2 x3]; exact o4 b x2⟩
  unfold X7_watch
  simp only [LT, zI_neg]
  rw [wr_pf ht.1, Option.bind_some, hm1, wr_pf ht.1, Option.bind_some, hm2, wr_pf ht.1, Option.bind_some, hm3]
  rw [show (zI 0 : Int32) = zI ((0 : Nat) : Int) from rfl, a1]
  exact e1
end WATCH
