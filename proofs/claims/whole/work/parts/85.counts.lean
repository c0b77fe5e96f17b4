/-! BELIEF of the model: an arrangement counted. -/
def hsI (ow : List Nat) (p : Nat) (f0 : Nat → List Nat) (k : Nat) (hs : Nat → Nat) (g : Nat → List Nat) : Prop := (∀ j, j < k → (g (gO ow j))[(ow.take j).count (gO ow j)]? = some (hs j)) ∧ (∀ o, o ≠ p → ∀ n c, (g o)[n]? = some c → ∃ j, j < k ∧ gO ow j = o ∧ (ow.take j).count o = n ∧ hs j = c) ∧ g p = f0 p
def spM (m : mm_V) (q : Nat) (ow : List Nat) : Prop := ∀ j, j < ow.length → m (q + 28) j = .int (zI (gO ow j)) ∧ m (q + 29) j = .int (zI ((ow.take j).count (gO ow j)))
def bMR (m : mm_V) (q : Nat) (X : BC) : Prop := m q 66 = .int (zI X.1) ∧ (∀ i, i < 6 → m (q + 34) i = .int (zI (X.2.1 i))) ∧ ∀ i, i < 10 → m (q + 33) i = .int (zI (X.2.2 i))
theorem nxtL_lt {N : Nat} {f : Nat → List Nat} (h : 0 < N) : ∀ (j p s : Nat), nxtL N f j p = some s → s < N
  | 0, _, _, hh => by cases hh
  | j + 1, p, s, hh => by
    rw [nxtL] at hh
    by_cases hc : hasC f (if p + 1 < N then p + 1 else 0) = true
    · rw [if_pos hc] at hh; cases hh; split <;> omega
    · rw [if_neg hc] at hh; exact nxtL_lt h j _ s hh
theorem nxt_lt {N : Nat} {f : Nat → List Nat} {p s : Nat} (hh : nxt N f p = some s) (h : 2 ≤ N) : s < N := nxtL_lt (by omega) N p s hh
section COUNTS
variable {e : mm_E} {q N P p : Nat} {H : List QR} {R : List PR} {ow : List Nat} {f0 f : Nat → List Nat} {hs : Nat → Nat} {rl : Nat → List Int}
theorem X12_counts_put (hT : modT e.1 q) {g : Nat → List Nat} (how : ow.length ≤ 19) (hI : hsI ow p f0 ow.length hs g) (ho6 : ∀ j, j < ow.length → gO ow j < 6) (hg10 : ∀ o, (g o).length ≤ 10) : ∀ (j i nn : Nat) (m : mm_V), i + j = ow.length → j < nn → modS m q → spM m q ow → (∀ k, k < ow.length → m (q + 30) k = .int (zI (hs k))) → (∀ o n c : Nat, o < 6 → (g o)[n]? = some c → (o = p ∨ ∃ j, j < i ∧ gO ow j = o ∧ (ow.take j).count o = n) → m (q + 32) (14 + 19 * o + n) = .int (zI c)) → ∃ n1 m', X12_counts_L14 e q (zI p) (zI ow.length) nn (zI i) m = X12_counts_L14 e q (zI p) (zI ow.length) (n1 + 1) (zI ow.length) m' ∧ (∀ o n c : Nat, o < 6 → (g o)[n]? = some c → (o = p ∨ ∃ j, j < ow.length ∧ gO ow j = o ∧ (ow.take j).count o = n) → m' (q + 32) (14 + 19 * o + n) = .int (zI c)) ∧ (∀ k, k < 14 → m' (q + 32) k = m (q + 32) k) ∧ ∀ b, b ≠ q + 32 → m' b = m b := by
  intro j
  induction j with
  | zero =>
    intro i nn m hi hn hS hM hh hC
    obtain ⟨nn, rfl⟩ : ∃ n', nn = n' + 1 := ⟨nn - 1, by omega⟩
    have : i = ow.length := by omega
    subst this
    exact ⟨nn, m, rfl, hC, fun _ _ => rfl, fun _ _ => rfl⟩
  | succ j ih =>
    intro i nn m hi hn hS hM hh hC
    obtain ⟨nn, rfl⟩ : ∃ n', nn = n' + 1 := ⟨nn - 1, by omega⟩
    have hil : i < ow.length := by omega
    have i2 := hI.1 i hil
    have h6 := ho6 i hil
    generalize hO : gO ow i = o at i2 h6
    generalize hA : (ow.take i).count o = a at i2
    have ha : a < 10 := by have := (List.getElem?_eq_some_iff.mp i2).1; have := hg10 o; omega
    generalize hm1 : mm_up m (q + 32) (14 + 19 * o + a) (.int (zI (hs i))) = m1
    have r1 : ∀ b, b ≠ q + 32 → m1 b = m b := fun b h => by rw [← hm1, up_row _ _ _ h]
    obtain ⟨n1, m', e1, e2, e3, e4⟩ := ih (i + 1) nn m1 (by omega) (by omega) (hS.keep (fun _ _ _ => by rw [r1 _ (by omega)])) (fun k hk => by rw [r1 _ (by omega), r1 _ (by omega)]; exact hM k hk) (fun k hk => by rw [r1 _ (by omega)]; exact hh k hk) (by
      intro o2 n c h62 hc hor
      have hn10 : n < 10 := by have := (List.getElem?_eq_some_iff.mp hc).1; have := hg10 o2; omega
      rw [← hm1]
      by_cases hon : o2 = o ∧ n = a
      · obtain ⟨rfl, rfl⟩ := hon
        rw [up_at]
        rw [i2] at hc; cases hc; rfl
      · rw [up_ne _ _ (Or.inr (by omega))]
        refine hC o2 n c h62 hc ?_
        rcases hor with h | ⟨j, h1, h2, h3⟩
        · exact Or.inl h
        · refine Or.inr ⟨j, ?_, h2, h3⟩
          have : j ≠ i := fun hji => hon (by subst hji; rw [hO] at h2; subst h2; exact ⟨rfl, by rw [← h3, hA]⟩)
          omega)
    refine ⟨n1, m', ?_, e2, fun k hk => by rw [e3 k hk, ← hm1, up_ne _ _ (Or.inr (by omega))], fun b hb => by rw [e4 b hb, r1 b hb]⟩
    obtain ⟨p1, p2⟩ := hM i hil
    rw [hO] at p1 p2
    rw [hA] at p2
    rw [X12_counts_L14]
    simp only [LT]
    rw [ien (by omega), rd_gr hT.me hS.gone_, Option.bind_some, rd_gr hT.me hS.spotOf_, Option.bind_some, rd_ai hT.spotOf_ (i := i) rfl (by omega) (by omega) p1, Option.bind_some, rd_gr hT.me hS.spotAt_, Option.bind_some, rd_ai hT.spotAt_ (i := i) rfl (by omega) (by omega) p2, Option.bind_some, rd_gr hT.me hS.holds_, Option.bind_some, rd_ai hT.holds_ (i := i) rfl (by omega) (by omega) (hh i hil), Option.bind_some, zI_mul, zI_add, zI_add, wr_si hT.gone_ (i := 14 + 19 * o + a) (by omega) (by omega) (by omega), Option.bind_some, hm1, zI_add]
    exact e1
theorem X12_counts_eq {m : mm_V} {g : Nat → List Nat} {X : BC} (E : mE e m q N P rl) (hH : hisD H R) (hp : p < N) (how : ow.length ≤ 19) (hI : hsI ow p f0 ow.length hs g) (ho6 : ∀ j, j < ow.length → gO ow j < 6) (htab : tabI N P g) (hlen : lenF g = lenF f0) (hz : szH N R (lenF f0)) (h13 : rowF m (q + 13) f0) (hin : ∀ k, k < 128 → ∃ x, m (q + 13) k = .int x) (h14 : rowF m (q + 14) f) (hL : mlogR m q H) (hM : spM m q ow) (hh : ∀ k, k < ow.length → m (q + 30) k = .int (zI (hs k))) (hX : bMR m q X) (hN : 1000 < e.2.2) : ∃ m', X12_counts e q (zI p) (zI ow.length) m = some m' ∧ bMR m' q (leafB N p (if hasC f p then nxt N f p else none) R g X) ∧ (∀ j, j ≠ 66 → m' q j = m q j) ∧ ∀ b, b ≠ q → b ≠ q + 32 → b ≠ q + 33 → b ≠ q + 34 → m' b = m b := by
  obtain ⟨hT, hS, h1, h2, hr, hw, g2, g6, hP⟩ := E
  obtain ⟨v, hv⟩ := ints_ex hin
  obtain ⟨m1, a1, a2, -, a4⟩ := X12_copies_eq (e := e) (r := q + 13) (r2 := q + 32) (Nat.le_refl 128) (by omega) hT.start_ hT.gone_ (by omega) hv (by omega) q
  have S1 : modS m1 q := hS.keep (fun _ _ _ => by rw [a2 _ (by omega)])
  have c13 : ∀ k, k < 128 → m1 (q + 32) k = m (q + 13) k := fun k hk => by rw [a4 k hk, hv k hk]
  have hg10 := htab.len hP
  obtain ⟨n1, m2, b1, b2, b3, b4⟩ := X12_counts_put (e := e) (p := p) hT how hI ho6 hg10 ow.length 0 e.2.2 m1 (by omega) (by omega) S1 (fun k hk => by rw [a2 _ (by omega), a2 _ (by omega)]; exact hM k hk) (fun k hk => by rw [a2 _ (by omega)]; exact hh k hk) (by
    intro o n c ho hc hor
    rcases hor with h | ⟨j, h1, -⟩
    · have hn10 : n < 10 := by have := (List.getElem?_eq_some_iff.mp hc).1; have := hg10 o; omega
      rw [c13 _ (by omega)]
      refine (h13 o ho).2.2 n c ?_
      rw [h, hI.2.2] at hc
      rw [h]; exact hc
    · omega)
  have f2 : ∀ b, b ≠ q + 32 → m2 b = m b := fun b hb => by rw [b4 b hb, a2 b hb]
  have R2 : rowF m2 (q + 32) g := by
    intro o ho
    have hl : (g o).length = (f0 o).length := congrFun hlen o
    have := hg10 o
    refine ⟨by rw [b3 _ (by omega), c13 _ (by omega), (h13 o ho).1, hl], by omega, fun n c hc => ?_⟩
    refine b2 o n c ho hc ?_
    by_cases hop : o = p
    · exact Or.inl hop
    · obtain ⟨j, q1, q2, q3, -⟩ := hI.2.1 o hop n c hc
      exact Or.inr ⟨j, q1, q2, q3⟩
  have S2 : modS m2 q := hS.keep (fun _ _ _ => by rw [f2 _ (by omega)])
  have h60 := hL.2.1
  obtain ⟨G, GT⟩ := X12_goesSo_loop (e := e) (p := p) hT hH g6 hP (by omega) hN R 0 e.2.2 m2 g rfl (by omega) (by have := hH.1; omega) S2 (hL.keep (by rw [f2 _ (by omega)]) (f2 _ (by omega))) R2 htab (by rw [hlen]; exact hz)
  have start : ∀ y, ((X12_goesSo_L2 e q (zI p) e.2.2 (zI (0 : Nat)) m2).bind fun r1 => if ¬ r1.1 = 0 then ((mm_gi e.1 r1.2 12 75 q 66).bind fun x2 => (mm_pf e.1 r1.2 12 75 q 66 (.int (x2 + (1 : Int32)))).bind fun m3 => (mm_gr e.1 m3 12 75 q 63).bind fun c4 => (X12_queen e q c4 m3).bind fun r5 => (mm_gr e.1 r5.2 12 75 q 65).bind fun c6 => (mm_ai e.1 r5.2 20 c6 r5.1).bind fun x7 => (mm_si e.1 r5.2 c6 r5.1 (x7 + (1 : Int32))).bind fun m8 => (mm_gr e.1 m8 12 75 q 39).bind fun c9 => (X12_size e c9 (zI p) m8).bind fun r10 => if r10.1 ≤ 0 then (X12_counts_b135 e r10.2) else ((mm_gr e.1 r10.2 12 75 q 39).bind fun c11 => (X12_nextOf e q c11 (zI p) r10.2).bind fun r12 => if ¬ r5.1 = r12.1 then (X12_counts_b135 e r12.2) else ((mm_gr e.1 r12.2 12 75 q 64).bind fun c13 => (mm_gr e.1 r12.2 12 75 q 63).bind fun c14 => (X12_placeOf e c14 r5.1 (0 : Int32) r12.2).bind fun r15 => (mm_ai e.1 r15.2 20 c13 r15.1).bind fun x16 => (mm_si e.1 r15.2 c13 r15.1 (x16 + (1 : Int32))).bind fun m17 => X12_counts_b135 e m17))) else (some r1.2)) = y → X12_counts e q (zI p) (zI ow.length) m = y := by
    intro y hy
    unfold X12_counts
    rw [rd_gr hT.me hS.start_, Option.bind_some, rd_gr hT.me hS.gone_, Option.bind_some, a1, Option.bind_some, show (0 : Int32) = zI ((0 : Nat) : Int) from rfl, b1, X12_counts_L14, iep (by omega)]
    exact hy
  unfold leafB
  cases hrp : rpl p R g with
  | none =>
    rw [hrp] at G
    obtain ⟨m3, d1, d2⟩ := G
    have f3 : ∀ b, b ≠ q + 32 → m3 b = m b := fun b hb => by rw [d2 b hb, f2 b hb]
    refine ⟨m3, start _ ?_, ⟨by rw [f3 _ (by omega)]; exact hX.1, fun i hi => by rw [f3 _ (by omega)]; exact hX.2.1 i hi, fun i hi => by rw [f3 _ (by omega)]; exact hX.2.2 i hi⟩, fun j _ => by rw [f3 _ (by omega)], fun b x1 x2 x3 x4 => f3 b x2⟩
    rw [d1, Option.bind_some, if_neg (show ¬ ¬ (zI 0 : Int32) = 0 from not_not_intro rfl)]
  | some g3 =>
    rw [hrp] at G
    have t3 := GT g3 hrp
    obtain ⟨m3, d1, d2, d3⟩ := G
    have f3 : ∀ b, b ≠ q + 32 → m3 b = m b := fun b hb => by rw [d3 b hb, f2 b hb]
    obtain ⟨w0, y1, y2, y3⟩ := t3.qn
    have hmem : ∀ i, 0 ∈ g3 i ↔ i = w0 := fun i => by
      rw [← y3 i]; unfold hasQ
      rw [Option.isSome_iff_ne_none]
      exact (Classical.not_not.symm.trans (not_congr idx_mem).symm)
    obtain ⟨pl, hpl⟩ : ∃ pl, idx 0 (g3 w0) = some pl := by
      cases hh : idx 0 (g3 w0) with
      | none => exact absurd ((hmem w0).mpr rfl) (idx_mem.mp hh)
      | some pl => exact ⟨pl, rfl⟩
    have hpl10 : pl < 10 := by have := idx_bound hpl; have := t3.len hP w0; omega
    dsimp only
    rw [cntB_eq y2 hpl]
    generalize hm4 : mm_up m3 q 66 (.int (zI (X.1 + 1 : Nat))) = m4
    generalize hm5 : mm_up m4 (q + 34) w0 (.int (zI (X.2.1 w0 + 1 : Nat))) = m5
    have r4 : ∀ b, b ≠ q → m4 b = m3 b := fun b h => by rw [← hm4, up_row _ _ _ h]
    have r5 : ∀ b, b ≠ q + 34 → m5 b = m4 b := fun b h => by rw [← hm5, up_row _ _ _ h]
    have q5 : ∀ j, j ≠ 66 → m5 q j = m q j := fun j h => by rw [r5 _ (by omega), ← hm4, up_ne _ _ (Or.inr h), f3 _ (by omega)]
    have q66 : m5 q 66 = .int (zI (X.1 + 1 : Nat)) := by rw [r5 _ (by omega), ← hm4, up_at]
    have f5 : ∀ b, b ≠ q → b ≠ q + 32 → b ≠ q + 34 → m5 b = m b := fun b x1 x2 x3 => by rw [r5 b x3, r4 b x1, f3 b x2]
    have h34 : ∀ i, i < 6 → m5 (q + 34) i = .int (zI (setF X.2.1 w0 (X.2.1 w0 + 1) i : Nat)) := fun i hi => by
      rw [← hm5]
      by_cases hiw : i = w0
      · rw [hiw, up_at, setF_at]
      · rw [up_ne _ _ (Or.inr hiw), setF_ne _ _ hiw, r4 _ (by omega), f3 _ (by omega)]; exact hX.2.1 i hi
    have h33 : ∀ i, i < 10 → m5 (q + 33) i = .int (zI (X.2.2 i)) := fun i hi => by rw [f5 _ (by omega) (by omega) (by omega)]; exact hX.2.2 i hi
    have S5 : modS m5 q := hS.keep (fun i x1 x2 => q5 _ (mfld_ne 66 (by decide) i x1 x2))
    have S4 : modS m4 q := S5.keep (fun i x1 x2 => by rw [r5 _ (by omega)])
    have S3 : modS m3 q := hS.keep (fun i x1 x2 => by rw [f3 _ (by omega)])
    have n5 : rowF m5 (q + 14) f := h14.keep' (f5 _ (by omega) (by omega) (by omega))
    have g5 : rowF m5 (q + 32) g3 := d2.keep' (by rw [r5 _ (by omega), r4 _ (by omega)])
    have g4 : rowF m4 (q + 32) g3 := d2.keep' (by rw [r4 _ (by omega)])
    have hgo : ∀ y, (if zI (f p).length ≤ zI 0 then (X12_counts_b135 e m5) else ((mm_gr e.1 m5 12 75 q 39).bind fun c11 => (X12_nextOf e q c11 (zI p) m5).bind fun r12 => if ¬ zI w0 = r12.1 then (X12_counts_b135 e r12.2) else ((mm_gr e.1 r12.2 12 75 q 64).bind fun c13 => (mm_gr e.1 r12.2 12 75 q 63).bind fun c14 => (X12_placeOf e c14 (zI w0) (zI (0 : Nat)) r12.2).bind fun r15 => (mm_ai e.1 r15.2 20 c13 r15.1).bind fun x16 => (mm_si e.1 r15.2 c13 r15.1 (x16 + (1 : Int32))).bind fun m17 => X12_counts_b135 e m17))) = y → X12_counts e q (zI p) (zI ow.length) m = y := by
      intro y hy
      refine start _ ?_
      rw [d1, Option.bind_some, if_pos (show ¬ (zI 1 : Int32) = 0 by decide), rd_gi hT.me (v := zI X.1) (by show m3 q 66 = _; rw [f3 _ (by omega)]; exact hX.1), Option.bind_some, show (zI (X.1 : Int) + 1 : Int32) = zI ((X.1 + 1 : Nat) : Int) from zI_add _ 1, wr_pf hT.me, Option.bind_some, hm4, rd_gr hT.me S4.gone_, Option.bind_some, X12_queen_eq hT.gone_ hT.me g4 (t3.lt hP) (by rw [← hm4, up_ne _ _ (Or.inr (by omega)), f3 _ (by omega)]; exact h1) g6 (by omega), y2, Option.bind_some, rd_gr hT.me S4.hereWho_, Option.bind_some]
      simp only [ozI]
      rw [rd_ai hT.hereWho_ (i := w0) rfl (by omega) (by omega) (v := zI (X.2.1 w0)) (by rw [r4 _ (by omega), f3 _ (by omega)]; exact hX.2.1 w0 (by omega)), Option.bind_some, show (zI (X.2.1 w0 : Int) + 1 : Int32) = zI ((X.2.1 w0 + 1 : Nat) : Int) from zI_add _ 1, wr_si hT.hereWho_ (i := w0) rfl (by omega) (by omega), Option.bind_some, hm5, rd_gr hT.me S5.now_, Option.bind_some, X12_size_eq hT.now_ n5 (by omega), Option.bind_some]
      exact hy
    by_cases hfp : hasC f p = true
    · rw [if_pos hfp]
      have hpos := hasC_pos.mp hfp
      have hfl := (h14 p (by omega)).2.1
      have no := X12_nextOf_eq (e := e) hT.now_ hT.me n5 (by rw [q5 _ (by omega)]; exact h1) g2 g6 hp (by omega)
      by_cases hw0 : nxt N f p = some w0
      · rw [if_pos hw0]
        generalize hm6 : mm_up m5 (q + 33) pl (.int (zI (X.2.2 pl + 1 : Nat))) = m6
        have r6 : ∀ b, b ≠ q + 33 → m6 b = m5 b := fun b h => by rw [← hm6, up_row _ _ _ h]
        refine ⟨m6, hgo _ ?_, ⟨by rw [r6 _ (by omega)]; exact q66, fun i hi => by rw [r6 _ (by omega)]; exact h34 i hi, fun i hi => ?_⟩, fun j hj => by rw [r6 _ (by omega)]; exact q5 j hj, fun b x1 x2 x3 x4 => by rw [r6 b x3]; exact f5 b x1 x2 x4⟩
        · have pq := X12_placeOf_eq (e := e) hT.gone_ g5 (show w0 < 6 by omega) (t3.lt hP w0) (show 0 < 1000 by omega) (by omega)
          rw [hpl] at pq
          rw [ien (by omega), rd_gr hT.me S5.now_, Option.bind_some, no, hw0, Option.bind_some]
          simp only [ozI, not_true_eq_false, if_false]
          rw [rd_gr hT.me S5.herePlaces_, Option.bind_some, rd_gr hT.me S5.gone_, Option.bind_some, pq, Option.bind_some]
          simp only [ozI]
          rw [rd_ai hT.herePlaces_ (i := pl) rfl (by omega) (by omega) (h33 pl hpl10), Option.bind_some, show (zI (X.2.2 pl : Int) + 1 : Int32) = zI ((X.2.2 pl + 1 : Nat) : Int) from zI_add _ 1, wr_si hT.herePlaces_ (i := pl) rfl (by omega) (by omega), Option.bind_some, hm6]
          rfl
        · rw [← hm6]
          dsimp only
          by_cases hip : i = pl
          · rw [hip, up_at, setF_at]
          · rw [up_ne _ _ (Or.inr hip), setF_ne _ _ hip]; exact h33 i hi
      · rw [if_neg hw0]
        refine ⟨m5, hgo _ ?_, ⟨q66, h34, h33⟩, q5, fun b x1 x2 x3 x4 => f5 b x1 x2 x4⟩
        rw [ien (by omega), rd_gr hT.me S5.now_, Option.bind_some, no, Option.bind_some]
        simp only
        rw [if_pos]
        · rfl
        · intro hh
          cases hn : nxt N f p with
          | none => rw [hn] at hh; rw [show ozI none = zI (-1) from rfl, zI_eq (by omega) (by omega) (by omega) (by omega)] at hh; omega
          | some s =>
            have hs6 := nxt_lt hn g2
            rw [hn, show ozI (some s) = zI (s : Int) from rfl, zI_eq (by omega) (by omega) (by omega) (by omega)] at hh
            exact hw0 (by rw [hn]; congr 1; omega)
    · rw [if_neg hfp, if_neg (show ¬ (none : Option Nat) = some w0 by simp)]
      have h0 : (f p).length = 0 := by have := (not_congr (hasC_pos (f := f) (p := p))).mp hfp; omega
      refine ⟨m5, hgo _ ?_, ⟨q66, h34, h33⟩, q5, fun b x1 x2 x3 x4 => f5 b x1 x2 x4⟩
      rw [h0, iep (by omega)]; rfl
end COUNTS
