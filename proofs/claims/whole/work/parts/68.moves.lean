/-! MOVES: a draw of a pure state, class and model. -/
def flds (lw lk x tu dn : Int32) : Nat → Int32 := fun j => if j = 7 then lw else if j = 8 then lk else if j = 9 then x else if j = 10 then tu else dn
def gC (m : mm_V) (a t : Nat) (sit : Nat → Nat) (lw lk x : Int32) (S : PS) : Prop := gameR m a t (S.1, sit, S.2.1, flds lw lk x (ozI S.2.2.1) S.2.2.2)
def gM (m : mm_V) (r N : Nat) (S : PS) : Prop := rowF m r S.1 ∧ m r 0 = .int (if isOv N S.1 then zI (-1) else ozI S.2.2.1) ∧ m r 1 = .int S.2.2.2 ∧ ∀ i, i < 6 → m r (8 + i) = .int (zI (S.2.1 i))
def cE (e : mm_E) (m : mm_V) (t N P : Nat) (rl : Nat → List Int) : Prop := toldT e.1 t ∧ toldS m t ∧ m t 6 = .int (zI N) ∧ m t 7 = .int (zI P) ∧ rulesC m t rl ∧ rulesW rl ∧ 2 ≤ N ∧ N ≤ 6 ∧ P ≤ 9
def mE (e : mm_E) (m : mm_V) (q N P : Nat) (rl : Nat → List Int) : Prop := modT e.1 q ∧ modS m q ∧ m q 1 = .int (zI N) ∧ m q 2 = .int (zI P) ∧ rulesM m (q + 1) (q + 3) rl ∧ rulesW rl ∧ 2 ≤ N ∧ N ≤ 6 ∧ P ≤ 9
def sitM (m : mm_V) (q : Nat) (sit : Nat → Nat) : Prop := ∀ i, i < 6 → m (q + 18) i = .int (zI (sit i)) ∧ sit i < 6
theorem cE.keep {e : mm_E} {m m' : mm_V} {t N P : Nat} {rl : Nat → List Int} (h : cE e m t N P rl) (h1 : ∀ b, t ≤ b → b < t + 7 → b ≠ t + 6 → m' b = m b) : cE e m' t N P rl := by
  obtain ⟨a1, a2, a3, a4, a5, a6⟩ := h
  exact ⟨a1, a2.keep (fun j _ => by rw [h1 _ (by omega) (by omega) (by omega)]) (h1 _ (by omega) (by omega) (by omega)), by rw [h1 _ (by omega) (by omega) (by omega)]; exact a3, by rw [h1 _ (by omega) (by omega) (by omega)]; exact a4, a5.keep (h1 _ (by omega) (by omega) (by omega)) (h1 _ (by omega) (by omega) (by omega)) (h1 _ (by omega) (by omega) (by omega)), a6⟩
theorem mE.keep {e : mm_E} {m m' : mm_V} {q N P : Nat} {rl : Nat → List Int} (h : mE e m q N P rl) (h1 : ∀ j, (j = 1 ∨ j = 2 ∨ ∃ i, i < 40 ∧ 0 < i ∧ mfld i = j) → m' q j = m q j) (h2 : m' (q + 1) = m (q + 1)) (h3 : m' (q + 3) = m (q + 3)) : mE e m' q N P rl := by
  obtain ⟨a1, a2, a3, a4, a5, a6⟩ := h
  exact ⟨a1, a2.keep (fun i x y => h1 _ (Or.inr (Or.inr ⟨i, x, y, rfl⟩))), by rw [h1 _ (Or.inl rfl)]; exact a3, by rw [h1 _ (Or.inr (Or.inl rfl))]; exact a4, a5.keep h2 h3, a6⟩
theorem mE.keep' {e : mm_E} {m m' : mm_V} {q N P : Nat} {rl : Nat → List Int} (h : mE e m q N P rl) {L : List Nat} (hL : ∀ k ∈ L, k ∈ [0, 3, 4, 9, 10, 11, 13, 14, 15, 16, 17, 18, 19, 20, 21, 22, 23, 24, 25, 26, 27, 28, 29, 30, 41, 45, 46, 47, 48, 54, 66, 67, 71, 72]) (h1 : ∀ j, j ∉ L → m' q j = m q j) (h2 : m' (q + 1) = m (q + 1)) (h3 : m' (q + 3) = m (q + 3)) : mE e m' q N P rl := by
  refine h.keep (fun j hj => h1 j fun hjL => ?_) h2 h3
  have hk := hL j hjL
  rcases hj with hj | hj | ⟨i, x, y, hj⟩
  · rw [hj] at hk; simp at hk
  · rw [hj] at hk; simp at hk
  · refine mfld_ne j ?_ i x y hj
    simp only [List.mem_cons, List.not_mem_nil, or_false] at hk ⊢
    omega
theorem gM.keep {m m' : mm_V} {r N : Nat} {S : PS} (h : gM m r N S) (h1 : m' r = m r) : gM m' r N S := ⟨h.1.keep' h1, by rw [h1]; exact h.2.1, by rw [h1]; exact h.2.2.1, fun i hi => by rw [h1]; exact h.2.2.2 i hi⟩
theorem gC.keep {m m' : mm_V} {a t : Nat} {sit : Nat → Nat} {lw lk x : Int32} {S : PS} (h : gC m a t sit lw lk x S) (h1 : ∀ b, a ≤ b → b < a + 20 → b ≠ a + 6 → b ≠ a + 7 → m' b = m b) : gC m' a t sit lw lk x S := gameR.keep h h1
theorem sitM.keep {m m' : mm_V} {q : Nat} {sit : Nat → Nat} (h : sitM m q sit) (h1 : m' (q + 18) = m (q + 18)) : sitM m' q sit := fun i hi => ⟨by rw [h1]; exact (h i hi).1, (h i hi).2⟩
theorem gC.f7 {m : mm_V} {a t : Nat} {sit : Nat → Nat} {lw lk x : Int32} {S : PS} (h : gC m a t sit lw lk x S) : m a 7 = .int lw := h.2.2.2.2 7 (by omega) (by omega)
theorem gC.f8 {m : mm_V} {a t : Nat} {sit : Nat → Nat} {lw lk x : Int32} {S : PS} (h : gC m a t sit lw lk x S) : m a 8 = .int lk := h.2.2.2.2 8 (by omega) (by omega)
theorem gC.f9 {m : mm_V} {a t : Nat} {sit : Nat → Nat} {lw lk x : Int32} {S : PS} (h : gC m a t sit lw lk x S) : m a 9 = .int x := h.2.2.2.2 9 (by omega) (by omega)
theorem gC.f10 {m : mm_V} {a t : Nat} {sit : Nat → Nat} {lw lk x : Int32} {S : PS} (h : gC m a t sit lw lk x S) : m a 10 = .int (ozI S.2.2.1) := h.2.2.2.2 10 (by omega) (by omega)
theorem gC.f11 {m : mm_V} {a t : Nat} {sit : Nat → Nat} {lw lk x : Int32} {S : PS} (h : gC m a t sit lw lk x S) : m a 11 = .int S.2.2.2 := h.2.2.2.2 11 (by omega) (by omega)
theorem gC.mk {m : mm_V} {a t : Nat} {sit : Nat → Nat} {lw lk x : Int32} {S : PS} (h1 : gameS m a t) (h2 : gameF m a S.1) (h3 : ∀ i, i < 6 → m (a + 4) i = .int (zI (sit i))) (h4 : ∀ i, i < 6 → m (a + 5) i = .int (zI (S.2.1 i))) (f7 : m a 7 = .int lw) (f8 : m a 8 = .int lk) (f9 : m a 9 = .int x) (f10 : m a 10 = .int (ozI S.2.2.1)) (f11 : m a 11 = .int S.2.2.2) : gC m a t sit lw lk x S := by
  refine ⟨h1, h2, h3, h4, fun j y1 y2 => ?_⟩
  rcases (by omega : j = 7 ∨ j = 8 ∨ j = 9 ∨ j = 10 ∨ j = 11) with rfl | rfl | rfl | rfl | rfl
  · exact f7
  · exact f8
  · exact f9
  · exact f10
  · exact f11
section MOVES
variable {e : mm_E} {a t q r d N P p s k c : Nat} {rl : Nat → List Int} {sit : Nat → Nat} {lw lk x : Int32} {S : PS}
theorem X4_step_pure {m : mm_V} (E : cE e m t N P rl) (ht : gameT e.1 a) (hat : t + 19 ≤ a ∨ a + 20 ≤ t) (hdT : e.1 d = some (2, 9)) (hda : d < a ∨ a + 20 ≤ d) (hdt : d < t ∨ t + 19 ≤ d) (h : gC m a t sit lw lk x S) (ok : okS N P S) (hsit : ∀ i, i < 6 → sit i < 6) (hp : S.2.2.1 = some p) (hpN : p < N) (hsrc : srcF lw N S.1 p = some s) (hs : s < N) (hps : s ≠ p) (hc : (S.1 s)[k]? = some c) (hN : 1000 < e.2.2) : ∃ m', X4_step e a (zI k) d m = some m' ∧ gC m' a t sit lw lk x (nx rl sit lw N S p s k c) ∧ (∀ j, j < 9 → m' d j = .int (recF rl sit lw S.1 S.2.1 S.2.2.2 p s k c j)) ∧ ∀ b, (b < a ∨ a + 20 ≤ b) → b ≠ d → b ≠ t + 6 → m' b = m b := by
  obtain ⟨tT, tS, t6, t7, tr, tw, h2, h6, hP⟩ := E
  have hcP := ok.1.2.1 s c (List.mem_of_getElem? hc)
  have f10 := h.f10
  rw [hp] at f10
  obtain ⟨m', e1, e2, e3, e4, e5, e6, e7, e8⟩ := X4_step_eq (e := e) (d := d) (sit := sit) (last := S.2.1) (done := S.2.2.2) (rl := rl) ht tT hat hdT hda hdt h.1 h.2.1 (ok.1.lt hP) t6 h2 h6 hpN (by omega) hps hc hsrc (fun hi => ok.1.room hP hcP hi) h.f7 (h.2.2.1 p (by omega)) (hsit p (by omega)) (h.2.2.2.1 p (by omega)) f10 h.f11 tS tr tw hN
  refine ⟨m', e1, gC.mk (h.1.keep (fun j _ => e6 j (by omega) (by omega)) (fun b _ _ => e8 b (by omega) (by omega) (by omega) (by omega) (by omega) (by omega))) e2 (fun i hi => by rw [e8 _ (by omega) (by omega) (by omega) (by omega) (by omega) (by omega)]; exact h.2.2.1 i hi) (fun i hi => ?_) (by rw [e6 _ (by omega) (by omega)]; exact h.f7) (by rw [e6 _ (by omega) (by omega)]; exact h.f8) (by rw [e6 _ (by omega) (by omega)]; exact h.f9) e4 e3, e5, fun b x1 x2 x3 => e8 b (by omega) x2 (by omega) (by omega) x3 (by omega)⟩
  rw [e7]
  show mm_up m (a + 5) p (.int (zI k)) (a + 5) i = .int (zI (setF S.2.1 p k i : Nat))
  by_cases hip : i = p
  · rw [hip, up_at, setF_at]
  · rw [up_ne _ _ (Or.inr hip), setF_ne _ _ hip]; exact h.2.2.2.1 i hi
theorem X12_drawsOf_pure {m : mm_V} {st : Bool} (hst : st = true ↔ ¬ (lw &&& zI 2 = zI 0)) (E : mE e m q N P rl) (hsit : sitM m q sit) (ht : e.1 r = some (20, 128)) (hrq : r ≠ q ∧ r ≠ q + 1 ∧ r ≠ q + 3 ∧ r ≠ q + 17 ∧ r ≠ q + 18) (h : gM m r N S) (ok : okS N P S) (hov : isOv N S.1 = false) (hp : S.2.2.1 = some p) (hpN : p < N) (hs : s < N) (hps : s ≠ p) (hc : (S.1 s)[k]? = some c) (hN : 2000 < e.2.2) : ∃ m', X12_drawsOf e q r (zI s) (zI k) (bZ st) m = some m' ∧ gM m' r N (nx rl sit lw N S p s k c) ∧ m' q 45 = .int (zI c) ∧ m' q 46 = .int (stOwn rl sit lw S.1 S.2.1 S.2.2.2 p s k c) ∧ m' q 47 = .int (bZ (idx c (S.1 p)).isSome) ∧ (∀ j, j ≠ 45 → j ≠ 46 → j ≠ 47 → m' q j = m q j) ∧ ∀ b, b ≠ q → b ≠ r → b ≠ q + 17 → m' b = m b := by
  obtain ⟨tT, tS, t1, t2, tr, tw, h2, h6, hP⟩ := E
  have hcP := ok.1.2.1 s c (List.mem_of_getElem? hc)
  obtain ⟨g1, g2, g3, g4⟩ := h
  rw [hov, hp] at g2
  obtain ⟨m', e1, e2, e3, e4, e5, e6⟩ := X12_drawsOf_eq (e := e) (lw := lw) (sit := sit) (rl := rl) hst tT tS ht hrq g1 (ok.1.lt hP) t1 h2 h6 hpN (by omega) hps hc (ok.1.queen hps hc) g2 g3 g4 (hsit p (by omega)).1 (hsit p (by omega)).2 tr tw (fun hi => by have := ok.1.room hP hcP hi; omega) hN
  exact ⟨m', e1, ⟨e2, e4, e3, e5⟩, e6⟩
def plc (rl : Nat → List Int) (sit : Nat → Nat) (lk : Int32) (S : PS) (x : Int32) (p s : Nat) : Nat × Int32 := if lk = zI 0 then (dAt rl sit S.1 S.2.1 S.2.2.2 p s, x) else (rnd (lcg x) (S.1 s).length, lcg x)
theorem plc_lt {lk : Int32} (h : hasC S.1 s = true) : (plc rl sit lk S x p s).1 < (S.1 s).length := by
  unfold plc
  split
  · exact dAt_lt (hasC_pos.mp h)
  · exact rnd_lt _ (hasC_pos.mp h)
theorem X4_placeNow_eq {m : mm_V} (E : cE e m t N P rl) (ht : gameT e.1 a) (hat : t + 19 ≤ a ∨ a + 20 ≤ t) (h : gC m a t sit lw lk x S) (ok : okS N P S) (hsit : ∀ i, i < 6 → sit i < 6) (hp : S.2.2.1 = some p) (hpN : p < N) (hsrc : srcF lw N S.1 p = some s) (hs : s < N) (hc : hasC S.1 s = true) (hN : 1000 < e.2.2) : ∃ m', X4_placeNow e a m = some (zI (plc rl sit lk S x p s).1, m') ∧ gC m' a t sit lw lk (plc rl sit lk S x p s).2 S ∧ ∀ b, (b < a ∨ a + 20 ≤ b) → b ≠ t + 6 → m' b = m b := by
  obtain ⟨tT, tS, t6, t7, tr, tw, h2, h6, hP⟩ := E
  have f10 := h.f10
  rw [hp] at f10
  have hl := ok.1.len hP s
  have hpos := hasC_pos.mp hc
  unfold plc
  by_cases hk : lk = zI 0
  · obtain ⟨m', e1, e2⟩ := X4_rulePlace_eq (e := e) (sit := sit) (last := S.2.1) (done := S.2.2.2) (rl := rl) ht tT hat h.1 h.2.1 t6 h2 h6 hpN h.f7 (h.2.2.1 p (by omega)) (hsit p (by omega)) (h.2.2.2.1 p (by omega)) h.f11 tS tr tw hsrc (by omega) hpos hN
    rw [if_pos hk]
    refine ⟨m', ?_, h.keep (fun b _ _ y1 y2 => e2 b y1 (by omega)), fun b x1 x2 => e2 b (by omega) x2⟩
    unfold X4_placeNow X4_placeNow_b37
    simp only [LT]
    rw [rd_gi ht.1 h.f8, Option.bind_some, if_pos hk, rd_gi ht.1 f10, Option.bind_some]
    show (X4_rulePlace e a (zI p) m).bind _ = _
    rw [e1]; rfl
  · rw [if_neg hk]
    have so := X4_source_eq (e := e) ht tT.1 h.1 h.2.1 t6 h2 h6 hpN h.f7 (by omega)
    rw [hsrc] at so
    have dr := X4_drawOf_eq (e := e) ht.1 h.f9 hpos (by omega)
    refine ⟨mm_up m a 9 (.int (lcg x)), ?_, gC.mk (h.1.keep (fun j _ => up_ne _ _ (Or.inr (by omega))) (fun b _ _ => up_row _ _ _ (by omega))) (h.2.1.keep (fun b _ _ => up_row _ _ _ (by omega))) (fun i hi => by rw [up_ne _ _ (Or.inl (by omega))]; exact h.2.2.1 i hi) (fun i hi => by rw [up_ne _ _ (Or.inl (by omega))]; exact h.2.2.2.1 i hi) (by rw [up_ne _ _ (Or.inr (by omega))]; exact h.f7) (by rw [up_ne _ _ (Or.inr (by omega))]; exact h.f8) (up_at _ _ _ _) (by rw [up_ne _ _ (Or.inr (by omega))]; exact h.f10) (by rw [up_ne _ _ (Or.inr (by omega))]; exact h.f11), fun b x1 x2 => up_row _ _ _ (by omega)⟩
    unfold X4_placeNow X4_placeNow_b37
    simp only [LT]
    rw [rd_gi ht.1 h.f8, Option.bind_some, if_neg hk, rd_gi ht.1 f10, Option.bind_some]
    simp only [ozI] at so ⊢
    rw [so, Option.bind_some, X4_fanAt_eq ht h.1 (show s < 6 by omega), Option.bind_some, rd_gi (ht.2.2.2.2.2.2.2 s (by omega)).1 (h.2.1 s (by omega)).2.1, Option.bind_some, dr, Option.bind_some]
def pst (rl : Nat → List Int) (sit : Nat → Nat) (lw lk : Int32) (N : Nat) (Y : PS × Int32) : PS × Int32 := match Y.1.2.2.1 with
  | none => Y
  | some p => match srcF lw N Y.1.1 p with
    | none => Y
    | some s => match (Y.1.1 s)[(plc rl sit lk Y.1 Y.2 p s).1]? with
      | none => Y
      | some c => (nx rl sit lw N Y.1 p s (plc rl sit lk Y.1 Y.2 p s).1 c, (plc rl sit lk Y.1 Y.2 p s).2)
theorem pst_ex (rl : Nat → List Int) (sit : Nat → Nat) (lw lk x : Int32) (ok : okS N P S) (hov : isOv N S.1 = false) : ∃ p s c, S.2.2.1 = some p ∧ p < N ∧ srcF lw N S.1 p = some s ∧ s < N ∧ s ≠ p ∧ hasC S.1 s = true ∧ (S.1 s)[(plc rl sit lk S x p s).1]? = some c ∧ pst rl sit lw lk N (S, x) = (nx rl sit lw N S p s (plc rl sit lk S x p s).1 c, (plc rl sit lk S x p s).2) := by
  obtain ⟨p, p1, p2, p3⟩ := ok.2 hov
  obtain ⟨s, s1, s2, s3, s4⟩ := src_ex lw hov p2
  have hk := plc_lt (rl := rl) (sit := sit) (lk := lk) (x := x) (p := p) s4
  have hg := List.getElem?_eq_getElem hk
  refine ⟨p, s, _, p1, p2, s1, s2, s3, s4, hg, ?_⟩
  unfold pst
  simp only [p1, s1, hg]
theorem okS_pst {rl : Nat → List Int} {sit : Nat → Nat} {lw lk x : Int32} (ok : okS N P S) (hov : isOv N S.1 = false) : okS N P (pst rl sit lw lk N (S, x)).1 := by
  obtain ⟨p, s, c, p1, p2, s1, s2, s3, s4, hg, h⟩ := pst_ex rl sit lw lk x ok hov
  rw [h]
  exact okS_nx ok p2 s2 s3 hg
theorem X4_move_eq {m : mm_V} (E : cE e m t N P rl) (ht : gameT e.1 a) (hat : t + 19 ≤ a ∨ a + 20 ≤ t) (hdT : e.1 d = some (2, 9)) (hda : d < a ∨ a + 20 ≤ d) (hdt : d < t ∨ t + 19 ≤ d) (h : gC m a t sit lw lk x S) (ok : okS N P S) (hsit : ∀ i, i < 6 → sit i < 6) (hov : isOv N S.1 = false) (hN : 1000 < e.2.2) : ∃ (z : Int32) (m1 m' : mm_V), X4_placeNow e a m = some (z, m1) ∧ X4_step e a z d m1 = some m' ∧ gC m' a t sit lw lk (pst rl sit lw lk N (S, x)).2 (pst rl sit lw lk N (S, x)).1 ∧ (∀ b, (b < a ∨ a + 20 ≤ b) → b ≠ t + 6 → m1 b = m b) ∧ ∀ b, (b < a ∨ a + 20 ≤ b) → b ≠ d → b ≠ t + 6 → m' b = m b := by
  obtain ⟨p, s, c, p1, p2, s1, s2, s3, s4, hg, hy⟩ := pst_ex rl sit lw lk x ok hov
  obtain ⟨m1, a1, a2, a3⟩ := X4_placeNow_eq (e := e) E ht hat h ok hsit p1 p2 s1 s2 s4 hN
  obtain ⟨m', b1, b2, b3, b4⟩ := X4_step_pure (e := e) (d := d) (E.keep (fun b _ _ y => a3 b (by omega) y)) ht hat hdT hda hdt a2 ok hsit p1 p2 s1 s2 s3 hg hN
  rw [hy]
  exact ⟨_, m1, m', a1, b1, b2, a3, fun b x1 x2 x3 => by rw [b4 b x1 x2 x3, a3 b x1 x3]⟩
theorem X12_byRule_eq {m : mm_V} (E : mE e m q N P rl) (hsit : sitM m q sit) (ht : e.1 r = some (20, 128)) (hrq : r ≠ q ∧ r ≠ q + 1 ∧ r ≠ q + 3 ∧ r ≠ q + 17 ∧ r ≠ q + 18) (h : gM m r N S) (ok : okS N P S) (hov : isOv N S.1 = false) (hN : 2000 < e.2.2) : ∃ m', X12_drawsByRule e q r m = some m' ∧ gM m' r N (pst rl sit (zI 0) (zI 0) N (S, x)).1 ∧ (∀ j, j ≠ 45 → j ≠ 46 → j ≠ 47 → m' q j = m q j) ∧ ∀ b, b ≠ q → b ≠ r → b ≠ q + 17 → m' b = m b := by
  obtain ⟨p, s, c, p1, p2, s1, s2, s3, s4, hg, hy⟩ := pst_ex rl sit (zI 0) (zI 0) x ok hov
  have hpos := hasC_pos.mp s4
  have nx1 : nxt N S.1 p = some s := by
    unfold srcF at s1; rwa [if_pos (by decide)] at s1
  obtain ⟨tT, tS, t1, t2, tr, tw, h2, h6, hP⟩ := E
  have g2 := h.2.1
  rw [hov, p1] at g2
  have nO := X12_nextOf_eq (e := e) ht tT.me h.1 t1 h2 h6 p2 (by omega)
  rw [nx1] at nO
  obtain ⟨m1, a1, a2⟩ := X12_drawsAt_eq (e := e) (sit := sit) (last := S.2.1) (done := S.2.2.2) (rl := rl) tT tS ht (by omega) h.1 h.2.2.1 (show p < 6 by omega) (h.2.2.2 p (by omega)) (hsit p (by omega)).1 (hsit p (by omega)).2 tr tw (show s < 6 by omega) hpos hN
  obtain ⟨m', b1, b2, b3, b4, b5, b6, b7⟩ := X12_drawsOf_pure (e := e) (st := false) (lw := zI 0) (m := m1) (rl := rl) (N := N) (P := P) (by decide) ⟨tT, tS.keep (fun _ _ _ => by rw [a2 _ (by omega)]), by rw [a2 _ (by omega)]; exact t1, by rw [a2 _ (by omega)]; exact t2, tr.keep (a2 _ (by omega)) (a2 _ (by omega)), tw, h2, h6, hP⟩ (hsit.keep (a2 _ (by omega))) ht hrq (h.keep (a2 _ (by omega))) ok hov p1 p2 s2 s3 hg hN
  rw [hy]
  refine ⟨m', ?_, b2, fun j x1 x2 x3 => by rw [b6 j x1 x2 x3, a2 _ (by omega)], fun b x1 x2 x3 => by rw [b7 b x1 x2 x3, a2 b x3]⟩
  unfold X12_drawsByRule
  simp only [LT]
  rw [rd_ai ht (i := 0) (by omega) (by omega) (by omega) g2, Option.bind_some]
  simp only [ozI, Bool.false_eq_true, if_false] at nO ⊢
  rw [nO, Option.bind_some, rd_ai ht (i := 0) (by omega) (by omega) (by omega) g2, Option.bind_some]
  simp only [ozI, Bool.false_eq_true, if_false]
  rw [a1, Option.bind_some]
  exact congrArg (fun z => Option.bind z _) b1
end MOVES
