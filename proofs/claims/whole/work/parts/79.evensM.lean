/-! EVENINGS of the model. -/
theorem law_1 : ∀ k : Fin 4, ((zI (k.val : Int)) &&& (1 : Int32) = 1) ↔ ¬ ((zI (k.val : Int)) &&& zI 1 = zI 0) := by decide
theorem law_2 : ∀ k : Fin 4, ((zI (k.val : Int)) &&& (2 : Int32) = 2) ↔ ¬ ((zI (k.val : Int)) &&& zI 2 = zI 0) := by decide
section EVM
variable {e : mm_E} {q N P k : Nat} {rl : Nat → List Int} {sit : Nat → Nat} {lk : Int32}
theorem X12_evens_loop (hk : k < 4) (hN : 2000 < e.2.2) : ∀ (j n nn : Nat) (m : mm_V) (S : PS) (x : Int32) (A : AC), n + j = 200 → j < nn → mE e m q N P rl → sitM m q sit → gM m (q + 36) N S → okS N P S → m q 41 = .int x → ∃ m', X12_evens_L2 e q (zI k) lk nn (zI n) m = some (zI (wat rl sit (zI k) lk N j n (S, x) A).2.2, m') ∧ gM m' (q + 36) N (wat rl sit (zI k) lk N j n (S, x) A).2.1.1 ∧ okS N P (wat rl sit (zI k) lk N j n (S, x) A).2.1.1 ∧ (wat rl sit (zI k) lk N j n (S, x) A).2.2 ≤ 200 ∧ (∃ y, m' q 41 = .int y) ∧ (∀ j, j ≠ 41 → j ≠ 45 → j ≠ 46 → j ≠ 47 → m' q j = m q j) ∧ ∀ b, b ≠ q → b ≠ q + 36 → b ≠ q + 17 → m' b = m b := by
  have l1 := law_1 ⟨k, hk⟩
  have l2 := law_2 ⟨k, hk⟩
  simp only at l1 l2
  intro j
  induction j with
  | zero =>
    intro n nn m S x A hn hj E hsit h ok h41
    obtain ⟨nn, rfl⟩ : ∃ n', nn = n' + 1 := ⟨nn - 1, by omega⟩
    refine ⟨m, ?_, h, ok, by show n ≤ 200; omega, ⟨x, h41⟩, fun _ _ _ _ _ => rfl, fun _ _ _ _ => rfl⟩
    unfold X12_evens_L2 X12_evens_b124
    simp only [LT]
    rw [iep (by omega)]; rfl
  | succ j ih =>
    intro n nn m S x A hn hj E hsit h ok h41
    obtain ⟨nn, rfl⟩ : ∃ n', nn = n' + 1 := ⟨nn - 1, by omega⟩
    obtain ⟨tT, tS, t1, t2, tr, tw, h2, h6, hP⟩ := id E
    have ov := X12_isOver_eq (e := e) tT.evening_ tT.me h.1 t1 h6 (by omega)
    cases hov : isOv N S.1 with
    | true =>
      have hw : wat rl sit (zI k) lk N (j + 1) n (S, x) A = (A, (S, x), n) := by rw [wat]; exact if_pos hov
      rw [hw]
      refine ⟨m, ?_, h, ok, by show n ≤ 200; omega, ⟨x, h41⟩, fun _ _ _ _ _ => rfl, fun _ _ _ _ => rfl⟩
      unfold X12_evens_L2 X12_evens_b124
      rw [show (200 : Int32) = zI 200 from rfl, ien (by omega), rd_gr tT.me tS.evening_, Option.bind_some, ov, hov, Option.bind_some, if_pos (show ¬ bZ true = 0 by decide)]
    | false =>
      obtain ⟨p, s, c, p1, p2, s1, s2, s3, s4, hg, hy⟩ := pst_ex rl sit (zI k) lk x ok hov
      have hpos := hasC_pos.mp s4
      have hl10 := ok.1.len hP s
      have g2 := h.2.1
      rw [hov, p1] at g2
      have ok' := okS_pst (rl := rl) (sit := sit) (lw := zI k) (lk := lk) (x := x) ok hov
      have hw : wat rl sit (zI k) lk N (j + 1) n (S, x) A = wat rl sit (zI k) lk N j (n + 1) (pst rl sit (zI k) lk N (S, x)) (note ((qn N (pst rl sit (zI k) lk N (S, x)).1.1).getD 0) (n + 1) (pst rl sit (zI k) lk N (S, x)).1.1 A) := by
        rw [wat]; exact if_neg (by rw [hov]; simp)
      generalize hA' : note ((qn N (pst rl sit (zI k) lk N (S, x)).1.1).getD 0) (n + 1) (pst rl sit (zI k) lk N (S, x)).1.1 A = A' at hw
      -- the place
      obtain ⟨m1, pl1, pl41, plq, plo⟩ : ∃ m1 : mm_V, (∀ y, X12_evens_b92 e (X12_evens_L2 e q (zI k) lk nn) q (zI k) lk (zI n) (zI s) (zI (plc rl sit lk S x p s).1) m1 = y → X12_evens_b58 e (X12_evens_L2 e q (zI k) lk nn) q (zI k) lk (zI n) (zI p) (zI s) m = y) ∧ m1 q 41 = .int (plc rl sit lk S x p s).2 ∧ (∀ j, j ≠ 41 → m1 q j = m q j) ∧ ∀ b, b ≠ q → b ≠ q + 17 → m1 b = m b := by
        unfold plc
        by_cases hk0 : lk = zI 0
        · rw [if_pos hk0]
          obtain ⟨m1, a1, a2⟩ := X12_drawsAt_eq (e := e) (sit := sit) (last := S.2.1) (done := S.2.2.2) (rl := rl) tT tS tT.evening_ (by omega) h.1 h.2.2.1 (show p < 6 by omega) (h.2.2.2 p (by omega)) (hsit p (by omega)).1 (hsit p (by omega)).2 tr tw (show s < 6 by omega) hpos hN
          refine ⟨m1, fun y hy => ?_, by rw [a2 _ (by omega)]; exact h41, fun j _ => by rw [a2 _ (by omega)], fun b _ x2 => a2 b x2⟩
          unfold X12_evens_b58
          rw [if_pos (show lk = 0 from hk0), rd_gr tT.me tS.evening_, Option.bind_some, a1, Option.bind_some]
          exact hy
        · rw [if_neg hk0]
          refine ⟨mm_up m q 41 (.int (lcg x)), fun y hy => ?_, up_at _ _ _ _, fun j hj => up_ne _ _ (Or.inr hj), fun b x1 _ => up_row _ _ _ x1⟩
          unfold X12_evens_b58
          rw [if_neg (show ¬ lk = 0 from hk0), rd_gr tT.me tS.evening_, Option.bind_some, X12_size_eq tT.evening_ h.1 (show s < 6 by omega), Option.bind_some, X12_draws_eq tT.me h41 hpos (by omega), Option.bind_some]
          exact hy
      have L1 : ∀ j, j ∉ [41] → m1 q j = m q j := fun j hj => plq j (by simpa using hj)
      have E1 : mE e m1 q N P rl := E.keep' (L := [41]) (by decide) L1 (plo _ (by omega) (by omega)) (plo _ (by omega) (by omega))
      have S1 : sitM m1 q sit := hsit.keep (plo _ (by omega) (by omega))
      have h1 : gM m1 (q + 36) N S := h.keep (plo _ (by omega) (by omega))
      obtain ⟨m2, b1, b2, b3, b4, b5, b6, b7⟩ := X12_drawsOf_pure (e := e) (q := q) (r := q + 36) (st := decide (¬ (zI k &&& zI 2 = zI 0))) (lw := zI k) (by simp) E1 S1 tT.evening_ (by omega) h1 ok hov p1 p2 s2 s3 hg hN
      have L2 : ∀ j, j ∉ [45, 46, 47] → m2 q j = m1 q j := fun j hj => by
        simp only [List.mem_cons, List.not_mem_nil, or_false, not_or] at hj
        exact b6 j hj.1 hj.2.1 hj.2.2
      have E2 : mE e m2 q N P rl := E1.keep' (L := [45, 46, 47]) (by decide) L2 (b7 _ (by omega) (by omega) (by omega)) (b7 _ (by omega) (by omega) (by omega))
      rw [hw, hy]
      rw [hy] at ok'
      obtain ⟨m', e1, e2, e3, e4, e5, e6, e7⟩ := ih (n + 1) nn m2 _ _ A' (by omega) (by omega) E2 (S1.keep (b7 _ (by omega) (by omega) (by omega))) b2 ok' (by rw [b6 _ (by omega) (by omega) (by omega)]; exact pl41)
      refine ⟨m', ?_, e2, e3, e4, e5, fun j x1 x2 x3 x4 => by rw [e6 j x1 x2 x3 x4, b6 j x2 x3 x4, plq j x1], fun b x1 x2 x3 => by rw [e7 b x1 x2 x3, b7 b x1 x2 x3, plo b x1 x3]⟩
      have tail : X12_evens_b92 e (X12_evens_L2 e q (zI k) lk nn) q (zI k) lk (zI n) (zI s) (zI (plc rl sit lk S x p s).1) m1 = some (zI (wat rl sit (zI k) lk N j (n + 1) (nx rl sit (zI k) N S p s (plc rl sit lk S x p s).1 c, (plc rl sit lk S x p s).2) A').2.2, m') := by
        unfold X12_evens_b92 X12_evens_b115
        rw [rd_gr tT.me E1.2.1.evening_, Option.bind_some, if_pos tT.me, if_pos tT.me]
        by_cases hl2 : zI k &&& (2 : Int32) = 2
        · have b1' : X12_drawsOf e q (q + 36) (zI s) (zI (plc rl sit lk S x p s).1) 1 m1 = some m2 := by
            have := b1; rw [decide_eq_true (l2.mp hl2)] at this; exact this
          rw [if_neg (not_not_intro hl2), b1', Option.bind_some, show (zI (n : Int) + 1 : Int32) = zI ((n + 1 : Nat) : Int) from zI_add n 1]
          exact e1
        · have b1' : X12_drawsOf e q (q + 36) (zI s) (zI (plc rl sit lk S x p s).1) 0 m1 = some m2 := by
            have := b1; rw [decide_eq_false (fun hh => hl2 (l2.mpr hh))] at this; exact this
          rw [if_pos hl2, b1', Option.bind_some, show (zI (n : Int) + 1 : Int32) = zI ((n + 1 : Nat) : Int) from zI_add n 1]
          exact e1
      have go := pl1 _ tail
      have g2' : m (q + 36) 0 = .int (zI p) := g2
      unfold X12_evens_L2
      rw [show (200 : Int32) = zI 200 from rfl, ien (by omega), rd_gr tT.me tS.evening_, Option.bind_some, ov, hov, Option.bind_some, if_neg (show ¬ ¬ bZ false = 0 by decide), rd_gr tT.me tS.evening_, Option.bind_some, show (0 : Int32) = zI ((0 : Nat) : Int) from rfl, rd_ai tT.evening_ (i := 0) rfl (by omega) (by omega) g2', Option.bind_some]
      unfold srcF at s1
      by_cases hl1 : zI k &&& (1 : Int32) = 1
      · rw [if_neg (l1.mp hl1)] at s1
        have ah := X12_aheadOf_eq (e := e) tT.evening_ tT.me h.1 t1 h2 h6 p2 (by omega)
        rw [s1] at ah
        have ah' : X12_aheadOf e q (q + 36) (zI p) m = some (zI s, m) := ah
        rw [if_neg (not_not_intro hl1), Option.bind_some, ah', Option.bind_some]
        exact go
      · rw [if_pos (Classical.not_not.mp (mt l1.mpr hl1))] at s1
        have nx' := X12_nextOf_eq (e := e) tT.evening_ tT.me h.1 t1 h2 h6 p2 (by omega)
        rw [s1] at nx'
        have nx'' : X12_nextOf e q (q + 36) (zI p) m = some (zI s, m) := nx'
        rw [if_pos hl1, Option.bind_some, nx'', Option.bind_some]
        exact go
def lossM (m : mm_V) (q : Nat) (A : LA) : Prop := ∀ i, i < 6 → m (q + 37) i = .int (zI (A.1 i))
theorem X12_ev_loop {y i5 : Int32} {many : Nat} (hk : k < 4) (hm : many ≤ 60) (hN : 2000 < e.2.2) : ∀ (j i nn : Nat) (m : mm_V) (A : LA), i + j = many → j < nn → mE e m q N P rl → sitM m q (fun i => i) → lossM m q A → laB A i → ∃ n1 m', X12_evenings_L101 e q y (zI many) (zI k) lk i5 nn (zI A.2.1) (zI A.2.2) (zI i) m = X12_evenings_L101 e q y (zI many) (zI k) lk i5 (n1 + 1) (zI (evs rl N P (zI k) lk y j i A).2.1) (zI (evs rl N P (zI k) lk y j i A).2.2) (zI many) m' ∧ lossM m' q (evs rl N P (zI k) lk y j i A) ∧ laB (evs rl N P (zI k) lk y j i A) many ∧ mE e m' q N P rl ∧ (∀ j, j ≠ 41 → j ≠ 45 → j ≠ 46 → j ≠ 47 → m' q j = m q j) ∧ ∀ b, b ≠ q → b ≠ q + 16 → b ≠ q + 17 → b ≠ q + 36 → b ≠ q + 37 → m' b = m b := by
  intro j
  induction j with
  | zero =>
    intro i nn m A hi hn E hsit hA hB
    obtain ⟨nn, rfl⟩ : ∃ n', nn = n' + 1 := ⟨nn - 1, by omega⟩
    have : i = many := by omega
    subst this
    exact ⟨nn, m, rfl, hA, hB, E, fun _ _ _ _ _ => rfl, fun _ _ _ _ _ _ => rfl⟩
  | succ j ih =>
    intro i nn m A hi hn E hsit hA hB
    obtain ⟨nn, rfl⟩ : ∃ n', nn = n' + 1 := ⟨nn - 1, by omega⟩
    obtain ⟨tT, tS, t1, t2, tr, tw, h2, h6, hP⟩ := id E
    obtain ⟨m1, a1, a2, a3, a4, a5, a6, a7⟩ := X12_deals_eq (e := e) tT tS tT.evening_ (by omega) h2 h6 hP t1 t2 (y + zI i) (by omega)
    have E1 : mE e m1 q N P rl := E.keep' (L := [41]) (by decide) (fun j hj => a6 j (by simpa using hj)) (a7 _ (by omega) (by omega) (by omega)) (a7 _ (by omega) (by omega) (by omega))
    have G1 : gM m1 (q + 36) N (dealF N P (y + zI i), fun _ => 0, opn N (dealF N P (y + zI i)), zI 0) := ⟨a2, a3, by rw [a4 _ (by omega)], fun j hj => by rw [a4 _ (by omega)]; rfl⟩
    obtain ⟨m2, b1, b2, b3, b4, b5, b6, b7⟩ := X12_evens_loop (e := e) (lk := lk) hk hN 200 0 e.2.2 m1 _ _ (A0 (dealF N P (y + zI i))) (by omega) (by omega) E1 (hsit.keep (a7 _ (by omega) (by omega) (by omega))) G1 (okS_opn (by omega) (tabI_deal (by omega) _) _ _) a5
    have hR : wat rl (fun i => i) (zI k) lk N 200 0 ((dealF N P (y + zI i), (fun _ => 0), opn N (dealF N P (y + zI i)), zI 0), dealS P (y + zI i)) (A0 (dealF N P (y + zI i))) = evO rl N P (zI k) lk (y + zI i) := rfl
    rw [hR] at b1 b2 b3 b4
    have q2 : ∀ j, j ≠ 41 → j ≠ 45 → j ≠ 46 → j ≠ 47 → m2 q j = m q j := fun j x1 x2 x3 x4 => by rw [b6 j x1 x2 x3 x4, a6 j x1]
    have o2 : ∀ b, b ≠ q → b ≠ q + 16 → b ≠ q + 17 → b ≠ q + 36 → m2 b = m b := fun b x1 x2 x3 x4 => by rw [b7 b x1 x4 x3, a7 b x1 x2 x4]
    have L2 : ∀ j, j ∉ [41, 45, 46, 47] → m2 q j = m q j := fun j hj => by
      simp only [List.mem_cons, List.not_mem_nil, or_false, not_or] at hj
      exact q2 j hj.1 hj.2.1 hj.2.2.1 hj.2.2.2
    have E2 : mE e m2 q N P rl := E.keep' (L := [41, 45, 46, 47]) (by decide) L2 (o2 _ (by omega) (by omega) (by omega) (by omega)) (o2 _ (by omega) (by omega) (by omega) (by omega))
    have lq := X12_loser_eq (e := e) tT.evening_ tT.me b2.1 (b3.1.lt hP) E2.2.2.1 h6 (by omega)
    obtain ⟨w0, y1, y2, y3⟩ := b3.1.qn
    have hev : evA rl N P (zI k) lk (y + zI i) A = poA ((lsr N (evO rl N P (zI k) lk (y + zI i)).2.1.1.1).map (fun i => i)) (evO rl N P (zI k) lk (y + zI i)).2.2 A := rfl
    generalize hls : lsr N (evO rl N P (zI k) lk (y + zI i)).2.1.1.1 = ls at lq hev
    generalize hn' : (evO rl N P (zI k) lk (y + zI i)).2.2 = n' at b1 b4 hev
    have hB' := hB.2
    obtain ⟨m3, c1, c2, c3⟩ : ∃ m3 : mm_V, X12_evenings_b142 e (X12_evenings_L101 e q y (zI many) (zI k) lk i5 nn) q y (zI many) (zI k) lk i5 (zI A.2.1) (zI i) (zI (max A.2.2 n' : Nat)) m2 = X12_evenings_L101 e q y (zI many) (zI k) lk i5 nn (zI (evA rl N P (zI k) lk (y + zI i) A).2.1) (zI (evA rl N P (zI k) lk (y + zI i) A).2.2) (zI (i + 1 : Nat)) m3 ∧ lossM m3 q (evA rl N P (zI k) lk (y + zI i) A) ∧ ∀ b, b ≠ q + 37 → m3 b = m2 b := by
      rw [hev]
      cases hl : ls with
      | none =>
        refine ⟨m2, ?_, fun i' hi' => by show m2 (q + 37) i' = .int (zI (A.1 i')); rw [o2 _ (by omega) (by omega) (by omega) (by omega)]; exact hA i' hi', fun _ _ => rfl⟩
        unfold X12_evenings_b142 X12_evenings_b177
        rw [rd_gr tT.me E2.2.1.evening_, Option.bind_some, lq, hl, Option.bind_some, if_neg (show ¬ ¬ ozI none = -1 from not_not_intro rfl), show (zI (i : Int) + 1 : Int32) = zI ((i + 1 : Nat) : Int) from zI_add i 1, show (zI (A.2.1 : Int) + 1 : Int32) = zI ((A.2.1 + 1 : Nat) : Int) from zI_add A.2.1 1]
        rfl
      | some w =>
        have w6 : w < 6 := by
          rw [hl] at hls
          unfold lsr at hls; split at hls
          · rw [y2] at hls; cases hls; omega
          · cases hls
        refine ⟨mm_up m2 (q + 37) w (.int (zI (A.1 w + 1 : Nat))), ?_, fun i' hi' => ?_, fun b hb => up_row _ _ _ hb⟩
        · unfold X12_evenings_b142 X12_evenings_b177
          rw [rd_gr tT.me E2.2.1.evening_, Option.bind_some, lq, hl, Option.bind_some, show ozI (some w) = zI (w : Int) from rfl, show (-1 : Int32) = zI (-1) from rfl, inp (by omega), rd_gr tT.me E2.2.1.losses_, Option.bind_some, rd_ai (m := m2) tT.losses_ (i := w) rfl (by omega) (by omega) (by rw [o2 _ (by omega) (by omega) (by omega) (by omega)]; exact hA w w6), Option.bind_some, show (zI (A.1 w : Int) + 1 : Int32) = zI ((A.1 w + 1 : Nat) : Int) from zI_add (A.1 w) 1, wr_si tT.losses_ (i := w) rfl (by omega) (by omega), Option.bind_some, show (zI (i : Int) + 1 : Int32) = zI ((i + 1 : Nat) : Int) from zI_add i 1]
          rfl
        · show mm_up m2 (q + 37) w (.int (zI (A.1 w + 1 : Nat))) (q + 37) i' = .int (zI (setF A.1 w (A.1 w + 1) i' : Nat))
          rw [up_pt]
          by_cases hiw : i' = w
          · rw [if_pos hiw, hiw, setF_at]
          · rw [if_neg hiw, setF_ne _ _ hiw, o2 _ (by omega) (by omega) (by omega) (by omega)]; exact hA i' hi'
    obtain ⟨n1, m', e1, e2, e3, e4, e5, e6⟩ := ih (i + 1) nn m3 (evA rl N P (zI k) lk (y + zI i) A) (by omega) (by omega) (E2.keep (fun j _ => by rw [c3 _ (by omega)]) (c3 _ (by omega)) (c3 _ (by omega))) (hsit.keep (by rw [c3 _ (by omega), o2 _ (by omega) (by omega) (by omega) (by omega)])) c2 (by rw [hev]; exact laB_po hB b4)
    refine ⟨n1, m', ?_, e2, e3, e4, fun j x1 x2 x3 x4 => by rw [e5 j x1 x2 x3 x4, c3 _ (by omega), q2 j x1 x2 x3 x4], fun b x1 x2 x3 x4 x5 => by rw [e6 b x1 x2 x3 x4 x5, c3 b x5, o2 b x1 x2 x3 x4]⟩
    conv => lhs; unfold X12_evenings_L101
    have b1' : X12_evens e q (zI k) lk m1 = some (zI n', m2) := b1
    rw [ien (by omega), rd_gr tT.me tS.evening_, Option.bind_some, a1, Option.bind_some, b1', Option.bind_some]
    by_cases hc : n' ≤ A.2.2
    · rw [Nat.max_eq_left hc] at c1
      rw [iep (by omega), c1]
      exact e1
    · rw [Nat.max_eq_right (by omega)] at c1
      rw [ien (by omega), c1]
      exact e1
theorem X12_mbl_loop {m : mm_V} {A : LA} (hT : modT e.1 q) (hS : modS m q) (h1 : m q 1 = .int (zI N)) (hA : lossM m q A) (hB : laB A 60) (h6 : N ≤ 6) : ∀ (j i nn a c : Nat), i + j = N → j < nn → a ≤ 60 → c ≤ 60 → X12_evenings_L231 e q nn (zI a) (zI c) (zI i) m = some (zI (mxf A.1 j i a) - zI (mnf A.1 j i c), m) := by
  intro j
  induction j with
  | zero =>
    intro i nn a c hi hn ha hc
    obtain ⟨nn, rfl⟩ : ∃ n', nn = n' + 1 := ⟨nn - 1, by omega⟩
    unfold X12_evenings_L231
    rw [rd_gi hT.me h1, Option.bind_some, iep (by omega)]; rfl
  | succ j ih =>
    intro i nn a c hi hn ha hc
    obtain ⟨nn, rfl⟩ : ∃ n', nn = n' + 1 := ⟨nn - 1, by omega⟩
    have hb := hB.1 i
    have rd := rd_ai (g := e.1) (m := m) hT.losses_ (z := (i : Int)) (i := i) rfl (by omega) (by omega) (hA i (by omega))
    have mid : ∀ a', a' = max a (A.1 i) → X12_evenings_b264 e (X12_evenings_L231 e q nn) q (zI c) (zI i) (zI a') m = some (zI (mxf A.1 (j + 1) i a) - zI (mnf A.1 (j + 1) i c), m) := by
      intro a' ha'
      unfold X12_evenings_b264 X12_evenings_b290
      rw [rd_gr hT.me hS.losses_, Option.bind_some, rd, Option.bind_some, show (zI (i : Int) + 1 : Int32) = zI ((i + 1 : Nat) : Int) from zI_add i 1]
      rw [mxf, mnf, ← ha']
      by_cases hcc : c ≤ A.1 i
      · rw [iep (by omega), Nat.min_eq_left hcc]
        exact ih (i + 1) nn a' c (by omega) (by omega) (by omega) hc
      · rw [ien (by omega), Option.bind_some, rd, Option.bind_some, Nat.min_eq_right (by omega)]
        exact ih (i + 1) nn a' (A.1 i) (by omega) (by omega) (by omega) hb
    unfold X12_evenings_L231
    rw [rd_gi hT.me h1, Option.bind_some, ien (by omega), rd_gr hT.me hS.losses_, Option.bind_some, rd, Option.bind_some]
    by_cases hcc : A.1 i ≤ a
    · rw [iep (by omega)]
      exact mid a (Nat.max_eq_left hcc).symm
    · rw [ien (by omega), Option.bind_some, rd, Option.bind_some]
      exact mid (A.1 i) (Nat.max_eq_right (by omega)).symm
theorem mx_same (L : Nat → Nat) {N : Nat} (h2 : 2 ≤ N) : mxf L N 0 0 = mxf L (N - 1) 1 (L 0) ∧ mnf L N 0 (L 0) = mnf L (N - 1) 1 (L 0) := by
  obtain ⟨n, rfl⟩ : ∃ n, N = n + 1 := ⟨N - 1, by omega⟩
  rw [mxf, mnf, Nat.min_self]
  exact ⟨by rw [Nat.max_eq_right (Nat.zero_le _)]; rfl, rfl⟩
end EVM
