/-! BELIEF of the class: an arrangement weighed, all of them tried. -/
def belW (m : mm_V) (w l p : Nat) (wt : Option Nat) (ow : List Nat) (H : List QR) (g : Nat → List Nat) (lf : Nat → Nat) (X : BC) (T : Nat) : Prop := belS m w ∧ thF m w g ∧ (∃ g1, noF m w g1) ∧ m w 7 = .ref l ∧ m w 8 = .int (zI p) ∧ m w 9 = .int (ozI wt) ∧ m w 10 = .int (zI ow.length) ∧ m w 11 = .int (zI T) ∧ (∀ c, c < 10 → m (w + 5) c = .int (zI (lf c))) ∧ (∀ j, j < ow.length → m (w + 6) j = .int (zI (gO ow j))) ∧ belR m w X ∧ logR m l H
section TRYC
variable {e : mm_E} {w N P p l : Nat} {wt : Option Nat} {ow : List Nat} {H : List QR} {R : List PR} {f0 : Nat → List Nat}
theorem cntB_eq {g : Nat → List Nat} {w0 pl : Nat} {X : BC} (h1 : qn N g = some w0) (h2 : idx 0 (g w0) = some pl) : cntB N wt g X = (X.1 + 1, setF X.2.1 w0 (X.2.1 w0 + 1), if wt = some w0 then setF X.2.2 pl (X.2.2 pl + 1) else X.2.2) := by
  unfold cntB
  rw [h1, Option.getD_some, h2, Option.getD_some]
theorem X0_leaf_eq {m : mm_V} {g : Nat → List Nat} {lf : Nat → Nat} {X : BC} {T : Nat} (ht : belT e.1 w) (hlT : logT e.1 l) (hlw : l + 63 ≤ w ∨ w + 33 ≤ l) (hH : hisD H R) (h6 : N ≤ 6) (hP : P ≤ 9) (hp6 : p < 6) (hwt : ∀ v, wt = some v → v < 6) (hB : belW m w l p wt ow H g lf X T) (htab : tabI N P g) (hz : szH N R (lenF g)) (hN : 1000 < e.2.2) : ∃ m', X0_weighArrangement e w m = some m' ∧ belW m' w l p wt ow H g lf (leafB N p wt R g X) T ∧ ∀ b, (b < w ∨ w + 33 ≤ b) → m' b = m b := by
  obtain ⟨s, tf, ⟨g1, nf⟩, r7, r8, r9, r10, r11, hl, ho, hX, hlog⟩ := hB
  have hRl : R.length ≤ 60 := by rw [← hH.1]; exact hlog.2.2.1
  have no33 : ∀ b, (b < w + 11 ∨ w + 33 ≤ b) → ¬ isNo w b := fun b hb => by rintro ⟨i, hi, h1 | h1⟩ <;> omega
  have thno : ∀ i, i < 6 → ¬ isNo w (w + 9 + 4 * i) ∧ ¬ isNo w (w + 10 + 4 * i) := fun i hi => ⟨by rintro ⟨k, hk, h1 | h1⟩ <;> omega, by rintro ⟨k, hk, h1 | h1⟩ <;> omega⟩
  obtain ⟨m1, a1, a2, a3⟩ := X0_weigh_copy (e := e) ht hN 6 0 e.2.2 m g g1 (by omega) (by omega) s tf nf (fun k hk => absurd hk (by omega))
  have b1 : ∀ b, (b < w + 11 ∨ w + 33 ≤ b) → m1 b = m b := fun b hb => a3 b (no33 b hb)
  have s1 : belS m1 w := s.keep (fun j _ => by rw [b1 _ (by omega)]) (b1 _ (by omega)) (b1 _ (by omega))
  have keepW : ∀ (m' : mm_V) (Y : BC), (∀ b, ¬ isNo w b → m' b = m b) → (∃ g', noF m' w g') → Y = X → belW m' w l p wt ow H g lf Y T := by
    intro m' Y hb hg' hY
    have bb : ∀ b, (b < w + 11 ∨ w + 33 ≤ b) → m' b = m b := fun b h => hb b (no33 b h)
    rw [hY]
    exact ⟨s.keep (fun j _ => by rw [bb _ (by omega)]) (bb _ (by omega)) (bb _ (by omega)), tf.keep (fun i hi => ⟨hb _ (thno i hi).1, hb _ (thno i hi).2⟩), hg', by rw [bb _ (by omega)]; exact r7, by rw [bb _ (by omega)]; exact r8, by rw [bb _ (by omega)]; exact r9, by rw [bb _ (by omega)]; exact r10, by rw [bb _ (by omega)]; exact r11, fun c hc => by rw [bb _ (by omega)]; exact hl c hc, fun j hj => by rw [bb _ (by omega)]; exact ho j hj, ⟨by rw [bb _ (by omega)]; exact hX.1, fun i hi => by rw [bb _ (by omega)]; exact hX.2.1 i hi, fun i hi => by rw [bb _ (by omega)]; exact hX.2.2 i hi⟩, hlog.keep (fun b _ _ => bb b (by omega))⟩
  have start : ∀ y, X0_weighArrangement_L31 e w e.2.2 (zI 0) m1 = y → X0_weighArrangement e w m = y := fun y hy => by
    unfold X0_weighArrangement
    rw [show (0 : Int32) = zI ((0 : Nat) : Int) from rfl, a1]
    exact hy
  have rp := X0_replay (e := e) ht hlT hlw hH h6 hP hp6 hN R 0 e.2.2 m1 g rfl (by omega) (by omega) s1 (by rw [b1 _ (by omega)]; exact r7) (by rw [b1 _ (by omega)]; exact r8) (hlog.keep (fun b _ _ => b1 b (by omega))) a2 htab hz
  rcases rp with ⟨m2, g2, q1, q2, q3, q4, n1, q5⟩ | ⟨q1, m2, g2, q2, q3, q4⟩
  · obtain ⟨w0, y1, y2, y3⟩ := q2.qn
    have hmem : ∀ i, 0 ∈ g2 i ↔ i = w0 := fun i => by
      rw [← y3 i]; unfold hasQ
      rw [Option.isSome_iff_ne_none]
      exact (Classical.not_not.symm.trans (not_congr idx_mem).symm)
    obtain ⟨pl, hpl⟩ : ∃ pl, idx 0 (g2 w0) = some pl := by
      cases hh : idx 0 (g2 w0) with
      | none => exact absurd ((hmem w0).mpr rfl) (idx_mem.mp hh)
      | some pl => exact ⟨pl, rfl⟩
    have hpl10 : pl < 10 := by have := idx_bound hpl; have := q2.len hP w0; omega
    have b2 : ∀ b, ¬ isNo w b → m2 b = m b := fun b hb => by rw [q4 b hb, a3 b hb]
    have bb2 : ∀ b, (b < w + 11 ∨ w + 33 ≤ b) → m2 b = m b := fun b h => b2 b (no33 b h)
    generalize hm3 : mm_up m2 w 12 (.int (zI (X.1 + 1 : Nat))) = m3
    have o3 : ∀ b, b ≠ w → m3 b = m2 b := fun b x1 => by rw [← hm3, up_row _ _ _ x1]
    have q3' : ∀ j, j ≠ 12 → m3 w j = m w j := fun j x1 => by rw [← hm3, up_ne _ _ (Or.inr x1), bb2 _ (by omega)]
    have s3 : belS m3 w := s.keep (fun j _ => q3' j (by omega)) (by rw [o3 _ (by omega), bb2 _ (by omega)]) (by rw [o3 _ (by omega), bb2 _ (by omega)])
    have n3 : noF m3 w g2 := q3.keep (fun i hi => ⟨o3 _ (by omega), o3 _ (by omega)⟩)
    obtain ⟨m4, c1, c2, c3, c4⟩ := X0_weigh_count (e := e) (wt := wt) (g := g2) (X := X) ht hmem hpl hpl10 hwt (q2.lt hP) hN 6 0 e.2.2 m3 (by omega) (by omega) s3 n3 (by rw [q3' _ (by omega)]; exact r9) (fun k hk => by rw [o3 _ (by omega), bb2 _ (by omega), if_neg (by omega)]; exact hX.2.1 k hk) (fun k hk => by rw [o3 _ (by omega), bb2 _ (by omega), if_neg (by omega)]; exact hX.2.2 k hk)
    have hleaf : leafB N p wt R g X = (X.1 + 1, setF X.2.1 w0 (X.2.1 w0 + 1), if wt = some w0 then setF X.2.2 pl (X.2.2 pl + 1) else X.2.2) := by
      unfold leafB; rw [q1]; exact cntB_eq y2 hpl
    rw [hleaf]
    have q4' : ∀ j, j ≠ 12 → m4 w j = m w j := fun j hj => by rw [c4 _ (by omega) (by omega), q3' j hj]
    have bb4 : ∀ b, ¬ isNo w b → b ≠ w → b ≠ w + 7 → b ≠ w + 8 → m4 b = m b := fun b hb x1 x2 x3 => by rw [c4 b x2 x3, o3 b x1, b2 b hb]
    have bb4' : ∀ b, (b < w + 11 ∨ w + 33 ≤ b) → b ≠ w → b ≠ w + 7 → b ≠ w + 8 → m4 b = m b := fun b h => bb4 b (no33 b h)
    refine ⟨m4, start _ ?_, ⟨s.keep (fun j _ => q4' j (by omega)) (bb4' _ (by omega) (by omega) (by omega) (by omega)) (bb4' _ (by omega) (by omega) (by omega) (by omega)), tf.keep (fun i hi => ⟨bb4 _ (thno i hi).1 (by omega) (by omega) (by omega), bb4 _ (thno i hi).2 (by omega) (by omega) (by omega)⟩), ⟨g2, n3.keep (fun i hi => ⟨c4 _ (by omega) (by omega), c4 _ (by omega) (by omega)⟩)⟩, by rw [q4' _ (by omega)]; exact r7, by rw [q4' _ (by omega)]; exact r8, by rw [q4' _ (by omega)]; exact r9, by rw [q4' _ (by omega)]; exact r10, by rw [q4' _ (by omega)]; exact r11, fun c hc => by rw [bb4' _ (by omega) (by omega) (by omega) (by omega)]; exact hl c hc, fun j hj => by rw [bb4' _ (by omega) (by omega) (by omega) (by omega)]; exact ho j hj, ⟨by rw [c4 _ (by omega) (by omega), ← hm3, up_at], fun k hk => by rw [c2 k hk, if_pos (by omega)], fun k hk => ?_⟩, hlog.keep (fun b _ _ => bb4' b (by omega) (by omega) (by omega) (by omega))⟩, fun b hb => bb4' b (by omega) (by omega) (by omega) (by omega)⟩
    · rw [show (zI 0 : Int32) = zI ((0 : Nat) : Int) from rfl, q5, X0_weighArrangement_L31, rd_gr ht.1 (v := l) (by rw [bb2 _ (by omega)]; exact r7), Option.bind_some, rd_gi hlT.1 (v := zI H.length) (by rw [bb2 _ (by omega)]; exact hlog.2.2.2.1), Option.bind_some, iep (by have := hH.1; omega), rd_gi ht.1 (v := zI X.1) (by rw [bb2 _ (by omega)]; exact hX.1), Option.bind_some, show (zI (X.1 : Int) + 1 : Int32) = zI ((X.1 + 1 : Nat) : Int) from zI_add X.1 1, wr_pf ht.1, Option.bind_some, hm3, show (0 : Int32) = zI ((0 : Nat) : Int) from rfl]
      exact c1
    · rw [c3 k hk]
      by_cases hw : wt = some w0
      · rw [if_pos ⟨by omega, hw⟩]; simp only [if_pos hw]
      · rw [if_neg (fun hh => hw hh.2)]; simp only [if_neg hw]
  · have hleaf : leafB N p wt R g X = X := by unfold leafB; rw [q1]
    refine ⟨m2, start _ q2, keepW m2 _ (fun b hb => by rw [q4 b hb, a3 b hb]) ⟨g2, q3⟩ hleaf, fun b hb => by rw [q4 b (no33 b (by omega)), a3 b (no33 b (by omega))]⟩
def tryP (o : Option (BC × Nat)) (v : Int32) (X : BC) (T : Nat) : Prop := match o with
  | some Y => v = zI 1 ∧ Y = (X, T) ∧ T ≤ 20000
  | none => v = zI 0
theorem X0_try (ht : belT e.1 w) (hlT : logT e.1 l) (hlw : l + 63 ≤ w ∨ w + 33 ≤ l) (hH : hisD H R) (h6 : N ≤ 6) (hP : P ≤ 9) (hp6 : p < 6) (hwt : ∀ v, wt = some v → v < 6) (how : ow.length ≤ 19) (hz : szH N R (lenF f0)) (hN : 1000 < e.2.2) : ∀ (d i fu : Nat) (m : mm_V) (g : Nat → List Nat) (lf : Nat → Nat) (X : BC) (T : Nat), d < fu → arI N P p f0 ow d i g lf → belW m w l p wt ow H g lf X T → T ≤ 20000 → ∃ v m' X' T', X0_tryAt e fu w (zI i) m = some (v, m') ∧ tryP (trA ow (leafB N p wt R) d i g lf (X, T)) v X' T' ∧ belW m' w l p wt ow H g lf X' T' ∧ ∀ b, (b < w ∨ w + 33 ≤ b) → m' b = m b := by
  intro d
  induction d with
  | zero =>
    intro i fu m g lf X T hf hA hB hT
    obtain ⟨fu, rfl⟩ : ∃ n', fu = n' + 1 := ⟨fu - 1, by omega⟩
    obtain ⟨htab, hlen⟩ := hA.leaf
    obtain ⟨m', e1, e2, e3⟩ := X0_leaf_eq (e := e) ht hlT hlw hH h6 hP hp6 hwt hB htab (by rw [hlen]; exact hz) hN
    refine ⟨zI 1, m', _, T, ?_, ⟨rfl, rfl, hT⟩, e2, e3⟩
    have hi := hA.1
    unfold X0_tryAt X0_tryAt_one X0_tryAt_b18
    simp only [LT]
    rw [iln (by omega), rd_gi ht.1 hB.2.2.2.2.2.2.1, Option.bind_some, iep (by omega), e1, Option.bind_some]
    rfl
  | succ d ih =>
    intro i fu m g lf X T hf hA hB hT
    obtain ⟨fu, rfl⟩ : ∃ n', fu = n' + 1 := ⟨fu - 1, by omega⟩
    have hi := hA.1
    have hoN := hA.2.2.2.2.2.2.2.2 i (by omega)
    generalize hO : gO ow i = o at hoN
    have tO := (ht.2.2.2.2.2.2.2.2 o (by omega)).1
    have hlfb : ∀ c, c < 10 → lf c ≤ 19 := fun c hc => by have := sumL_le lf 10 c hc; have := hA.2.2.2.2.2.1; omega
    have hgl : ∀ x ∈ g o, x < 1000 := fun x hx => by have := hA.2.2.1 o x hx; omega
    have loop : ∀ (j c nn : Nat) (m : mm_V) (X : BC) (T : Nat), c + j = 10 → j < nn → belW m w l p wt ow H g lf X T → T ≤ 20000 → ∃ v m' X' T', X0_tryAt_L41 e (X0_tryAt e fu) w (zI i) (w + 9 + 4 * o) nn (zI c) m = some (v, m') ∧ tryP (itF (fun c Y => if lf c = 0 then some Y else if 20000 ≤ Y.2 then none else if (idx c (g o)).isSome = true then some (Y.1, Y.2 + 1) else trA ow (leafB N p wt R) d (i + 1) (setF g o (g o ++ [c])) (setF lf c (lf c - 1)) (Y.1, Y.2 + 1)) j c (X, T)) v X' T' ∧ belW m' w l p wt ow H g lf X' T' ∧ ∀ b, (b < w ∨ w + 33 ≤ b) → m' b = m b := by
      intro j
      induction j with
      | zero =>
        intro c nn m X T hc hn hB hT
        obtain ⟨nn, rfl⟩ : ∃ n', nn = n' + 1 := ⟨nn - 1, by omega⟩
        refine ⟨zI 1, m, X, T, ?_, ⟨rfl, rfl, hT⟩, hB, fun _ _ => rfl⟩
        unfold X0_tryAt_L41
        simp only [LT]
        rw [iep (by omega)]; rfl
      | succ j ihj =>
        intro c nn m X T hc hn hB hT
        obtain ⟨nn, rfl⟩ : ∃ n', nn = n' + 1 := ⟨nn - 1, by omega⟩
        have hlc := hlfb c (by omega)
        obtain ⟨s, tf, nf, r7, r8, r9, r10, r11, hl, ho, hX, hlog⟩ := id hB
        have rl := rd_ai (g := e.1) (m := m) ht.2.2.2.2.1 (z := (c : Int)) (i := c) rfl (by omega) (by omega) (hl c (by omega))
        rw [itF]
        simp only
        by_cases h0 : lf c = 0
        · rw [if_pos h0, Option.bind_some]
          obtain ⟨v, m', X', T', e1, e2, e3, e4⟩ := ihj (c + 1) nn m X T (by omega) (by omega) hB hT
          refine ⟨v, m', X', T', ?_, e2, e3, e4⟩
          unfold X0_tryAt_L41 X0_tryAt_b99
          simp only [LT]
          rw [ien (by omega), rd_gr ht.1 s.2.2.2.1, Option.bind_some, rl, Option.bind_some, iep (by omega), zI_add]
          exact e1
        · rw [if_neg h0]
          generalize hm1 : mm_up m w 11 (.int (zI (T + 1 : Nat))) = m1
          have o1 : ∀ b, b ≠ w → m1 b = m b := fun b x1 => by rw [← hm1, up_row _ _ _ x1]
          have q1 : ∀ j, j ≠ 11 → m1 w j = m w j := fun j x1 => by rw [← hm1, up_ne _ _ (Or.inr x1)]
          have B1 : belW m1 w l p wt ow H g lf X (T + 1) := ⟨s.keep (fun j _ => q1 j (by omega)) (o1 _ (by omega)) (o1 _ (by omega)), tf.keep (fun i hi => ⟨o1 _ (by omega), o1 _ (by omega)⟩), nf.imp (fun g1 h => h.keep (fun i hi => ⟨o1 _ (by omega), o1 _ (by omega)⟩)), by rw [q1 _ (by omega)]; exact r7, by rw [q1 _ (by omega)]; exact r8, by rw [q1 _ (by omega)]; exact r9, by rw [q1 _ (by omega)]; exact r10, by rw [← hm1, up_at], fun c hc => by rw [o1 _ (by omega)]; exact hl c hc, fun j hj => by rw [o1 _ (by omega)]; exact ho j hj, ⟨by rw [q1 _ (by omega)]; exact hX.1, fun i hi => by rw [o1 _ (by omega)]; exact hX.2.1 i hi, fun i hi => by rw [o1 _ (by omega)]; exact hX.2.2 i hi⟩, hlog.keep (fun b _ _ => o1 b (by omega))⟩
          have pre : ∀ y, (if zI (T + 1 : Nat) ≤ zI 20000 then (if e.1 (w + 9 + 4 * o) = some (3, 2) then ((X3_placeOf e (w + 9 + 4 * o) (zI c) m1).bind fun r6 => if ¬ r6.1 = zI (-1) then (X0_tryAt_b99 e (X0_tryAt e fu) (X0_tryAt_L41 e (X0_tryAt e fu) w (zI i) (w + 9 + 4 * o) nn) w (zI i) (w + 9 + 4 * o) (zI c) r6.2) else ((X0_tryCard e (X0_tryAt e fu) w (zI i) (w + 9 + 4 * o) (zI c) r6.2).bind fun r8 => if ¬ r8.1 = zI 0 then (X0_tryAt_b99 e (X0_tryAt e fu) (X0_tryAt_L41 e (X0_tryAt e fu) w (zI i) (w + 9 + 4 * o) nn) w (zI i) (w + 9 + 4 * o) (zI c) r8.2) else (mm_rz (zI 0) r8.2))) else none) else (mm_rz (zI 0) m1)) = y → X0_tryAt_L41 e (X0_tryAt e fu) w (zI i) (w + 9 + 4 * o) (nn + 1) (zI c) m = y := by
            intro y hy
            rw [X0_tryAt_L41]
            simp only [LT, zI_neg]
            rw [ien (by omega), rd_gr ht.1 s.2.2.2.1, Option.bind_some, rl, Option.bind_some, ien (by omega), rd_gi ht.1 r11, Option.bind_some, zI_add, show ((T : Int) + 1) = ((T + 1 : Nat) : Int) by omega, wr_pf ht.1, Option.bind_some, hm1, rd_gi ht.1 (v := zI (T + 1 : Nat)) (by rw [← hm1, up_at]), Option.bind_some]
            exact hy
          by_cases hT2 : 20000 ≤ T
          · rw [if_pos hT2]
            refine ⟨zI 0, m1, X, T + 1, pre _ ?_, rfl, B1, fun b hb => o1 b (by omega)⟩
            rw [ien (by omega)]; rfl
          · rw [if_neg hT2]
            have plq := X3_placeOf_eq (e := e) (c := c) tO (B1.2.1 o (by omega)) hgl (by omega) (by omega)
            have hlo : (g o).length ≤ 10 := (tf o (by omega)).2.2.1
            have hzz := ozI_none (o := idx c (g o)) (fun j hj => by have := idx_bound hj; omega)
            by_cases hso : (idx c (g o)).isSome = true
            · rw [if_pos hso, Option.bind_some]
              obtain ⟨v, m', X', T', e1, e2, e3, e4⟩ := ihj (c + 1) nn m1 X (T + 1) (by omega) (by omega) B1 (by omega)
              refine ⟨v, m', X', T', pre _ ?_, e2, e3, fun b hb => by rw [e4 b hb, o1 b (by omega)]⟩
              rw [iep (by omega), if_pos tO.1, plq, Option.bind_some]
              simp only [hzz]
              rw [if_pos (show ¬ idx c (g o) = none by intro hh; rw [hh] at hso; cases hso)]
              unfold X0_tryAt_b99
              rw [show (zI (c : Int) + 1 : Int32) = zI ((c + 1 : Nat) : Int) from zI_add c 1]
              exact e1
            · rw [if_neg hso]
              have hsn : idx c (g o) = none := by cases hh : idx c (g o) with | none => rfl | some k => rw [hh] at hso; exact absurd rfl hso
              have hA2 : arI N P p f0 ow d (i + 1) (setF g o (g o ++ [c])) (setF lf c (lf c - 1)) := by
                have := hA.next hP h0 (c := c) (by rw [hO, hsn]; rfl)
                rwa [hO] at this
              have hcP := hA.2.2.2.2.1 c h0
              have hl9 : (g o).length < 10 := by
                have := nodup_len 10 (c :: g o) (List.nodup_cons.mpr ⟨idx_mem.mp hsn, hA.2.1 o⟩) (fun x hx => by
                  rcases List.mem_cons.mp hx with hx | hx
                  · omega
                  · have := hA.2.2.1 o x hx; omega)
                rw [List.length_cons] at this; omega
              obtain ⟨s1, tf1, nf1, r71, r81, r91, r101, r111, hl1, ho1, hX1, hlog1⟩ := id B1
              generalize hm2 : mm_up m1 (w + 5) c (.int (zI (lf c - 1 : Nat))) = m2
              have o2 : ∀ b, b ≠ w + 5 → m2 b = m1 b := fun b x1 => by rw [← hm2, up_row _ _ _ x1]
              obtain ⟨m3, a1, a2, a3⟩ := X3_putIn_eq (e := e) (m := m2) (p := (g o).length) (c := c) tO ((tf1 o (by omega)).keep (o2 _ (by omega)) (o2 _ (by omega))) (Nat.le_refl _) hl9 (by omega)
              rw [ins_end] at a2
              have o3 : ∀ b, b ≠ w + 5 → b ≠ w + 9 + 4 * o → b ≠ w + 9 + 4 * o + 1 → m3 b = m1 b := fun b x1 x2 x3 => by rw [a3 b x2 x3, o2 b x1]
              have tf3 : thF m3 w (setF g o (g o ++ [c])) := thF.set (m := m2) (tf1.keep (fun i hi => ⟨o2 _ (by omega), o2 _ (by omega)⟩)) a2 a3
              have l3 : ∀ c', c' < 10 → m3 (w + 5) c' = .int (zI (setF lf c (lf c - 1) c' : Nat)) := fun c' hc' => by
                rw [a3 _ (by omega) (by omega), ← hm2, up_pt]
                by_cases hcc : c' = c
                · rw [if_pos hcc, hcc, setF_at]
                · rw [if_neg hcc, setF_ne _ _ hcc]; exact hl1 c' hc'
              have B3 : belW m3 w l p wt ow H (setF g o (g o ++ [c])) (setF lf c (lf c - 1)) X (T + 1) := ⟨s1.keep (fun j _ => by rw [o3 _ (by omega) (by omega) (by omega)]) (o3 _ (by omega) (by omega) (by omega)) (o3 _ (by omega) (by omega) (by omega)), tf3, nf1.imp (fun g1 h => h.keep (fun i hi => ⟨o3 _ (by omega) (by omega) (by omega), o3 _ (by omega) (by omega) (by omega)⟩)), by rw [o3 _ (by omega) (by omega) (by omega)]; exact r71, by rw [o3 _ (by omega) (by omega) (by omega)]; exact r81, by rw [o3 _ (by omega) (by omega) (by omega)]; exact r91, by rw [o3 _ (by omega) (by omega) (by omega)]; exact r101, by rw [o3 _ (by omega) (by omega) (by omega)]; exact r111, l3, fun j hj => by rw [o3 _ (by omega) (by omega) (by omega)]; exact ho1 j hj, ⟨by rw [o3 _ (by omega) (by omega) (by omega)]; exact hX1.1, fun i hi => by rw [o3 _ (by omega) (by omega) (by omega)]; exact hX1.2.1 i hi, fun i hi => by rw [o3 _ (by omega) (by omega) (by omega)]; exact hX1.2.2 i hi⟩, hlog1.keep (fun b _ _ => o3 b (by omega) (by omega) (by omega))⟩
              obtain ⟨v, m4, X4, T4, b1, b2, b3, b4⟩ := ih (i + 1) fu m3 _ _ X (T + 1) (by omega) hA2 B3 (by omega)
              obtain ⟨s4, tf4, nf4, r74, r84, r94, r104, r114, hl4, ho4, hX4, hlog4⟩ := id b3
              have fo4 : fanR m4 (w + 9 + 4 * o) (g o ++ [c]) := by have := tf4 o (by omega); rwa [setF_at] at this
              have hlen1 : (g o ++ [c]).length = (g o).length + 1 := by rw [List.length_append, List.length_singleton]
              obtain ⟨m5, c1, c2, c3⟩ := X3_takeOut_eq (e := e) (p := (g o).length) tO fo4 (by omega) (by omega)
              have hera : (g o ++ [c]).eraseIdx (g o).length = g o := by rw [List.eraseIdx_append_of_length_le (Nat.le_refl _), Nat.sub_self]; simp
              rw [hera] at c2
              generalize hm6 : mm_up m5 (w + 5) c (.int (zI (lf c : Nat))) = m6
              have o6 : ∀ b, b ≠ w + 5 → b ≠ w + 9 + 4 * o → b ≠ w + 9 + 4 * o + 1 → m6 b = m4 b := fun b x1 x2 x3 => by rw [← hm6, up_row _ _ _ x1, c3 b x2 x3]
              have tf6 : thF m6 w g := by
                have h5 : thF m5 w (setF (setF g o (g o ++ [c])) o (g o)) := tf4.set c2 c3
                have hgg : setF (setF g o (g o ++ [c])) o (g o) = g := by
                  funext x; unfold setF; by_cases hx : x = o
                  · rw [if_pos hx, hx]
                  · rw [if_neg hx, if_neg hx]
                rw [hgg] at h5
                exact h5.keep (fun i hi => ⟨by rw [← hm6, up_row _ _ _ (by omega)], by rw [← hm6, up_row _ _ _ (by omega)]⟩)
              have B6 : belW m6 w l p wt ow H g lf X4 T4 := ⟨s4.keep (fun j _ => by rw [o6 _ (by omega) (by omega) (by omega)]) (o6 _ (by omega) (by omega) (by omega)) (o6 _ (by omega) (by omega) (by omega)), tf6, nf4.imp (fun g1 h => h.keep (fun i hi => ⟨o6 _ (by omega) (by omega) (by omega), o6 _ (by omega) (by omega) (by omega)⟩)), by rw [o6 _ (by omega) (by omega) (by omega)]; exact r74, by rw [o6 _ (by omega) (by omega) (by omega)]; exact r84, by rw [o6 _ (by omega) (by omega) (by omega)]; exact r94, by rw [o6 _ (by omega) (by omega) (by omega)]; exact r104, by rw [o6 _ (by omega) (by omega) (by omega)]; exact r114, fun c' hc' => by
                rw [← hm6, up_pt]
                by_cases hcc : c' = c
                · rw [if_pos hcc, hcc]
                · rw [if_neg hcc, c3 _ (by omega) (by omega), hl4 c' hc', setF_ne _ _ hcc], fun j hj => by rw [o6 _ (by omega) (by omega) (by omega)]; exact ho4 j hj, ⟨by rw [o6 _ (by omega) (by omega) (by omega)]; exact hX4.1, fun i hi => by rw [o6 _ (by omega) (by omega) (by omega)]; exact hX4.2.1 i hi, fun i hi => by rw [o6 _ (by omega) (by omega) (by omega)]; exact hX4.2.2 i hi⟩, hlog4.keep (fun b _ _ => o6 b (by omega) (by omega) (by omega))⟩
              have f6 : ∀ b, (b < w ∨ w + 33 ≤ b) → m6 b = m b := fun b hb => by rw [o6 b (by omega) (by omega) (by omega), b4 b hb, o3 b (by omega) (by omega) (by omega), o1 b (by omega)]
              have hv01 : v = zI 0 ∨ v = zI 1 := by
                cases hr : trA ow (leafB N p wt R) d (i + 1) (setF g o (g o ++ [c])) (setF lf c (lf c - 1)) (X, T + 1) with
                | none => rw [hr] at b2; exact Or.inl b2
                | some Y => rw [hr] at b2; exact Or.inr b2.1
              have hcard : X0_tryCard e (X0_tryAt e fu) w (zI i) (w + 9 + 4 * o) (zI c) m1 = some (v, m6) := by
                unfold X0_tryCard
                simp only [LT, zI_sub, zI_add]
                rw [iln (by omega), ilp (by omega), rd_gr ht.1 s1.2.2.2.1, Option.bind_some, rd_ai ht.2.2.2.2.1 (i := c) rfl (by omega) (by omega) (hl1 c (by omega)), Option.bind_some, zI_sub, show ((lf c : Int) - 1) = ((lf c - 1 : Nat) : Int) by omega, wr_si ht.2.2.2.2.1 (i := c) rfl (by omega) (by omega), Option.bind_some, hm2, rd_gi (v := zI (g o).length) tO.1 (by rw [o2 _ (by omega)]; exact (tf1 o (by omega)).2.1), Option.bind_some, if_pos tO.1, a1, Option.bind_some, show ((i : Int) + 1) = ((i + 1 : Nat) : Int) by omega, b1, Option.bind_some, rd_gi (m := m4) (v := zI (g o ++ [c]).length) tO.1 fo4.2.1, Option.bind_some, if_pos tO.1, zI_sub, show (((g o ++ [c]).length : Int) - 1) = ((g o).length : Int) by omega, c1, Option.bind_some, rd_gr (m := m5) ht.1 (v := w + 5) (by rw [c3 _ (by omega) (by omega)]; exact s4.2.2.2.1), Option.bind_some, rd_ai (m := m5) ht.2.2.2.2.1 (i := c) (v := zI (lf c - 1 : Nat)) rfl (by omega) (by omega) (by rw [c3 _ (by omega) (by omega), hl4 c (by omega), setF_at]), Option.bind_some, zI_add, show (((lf c - 1 : Nat) : Int) + 1) = ((lf c : Nat) : Int) by omega, wr_si ht.2.2.2.2.1 (i := c) rfl (by omega) (by omega), Option.bind_some, hm6]
                rcases hv01 with hv | hv <;> rw [hv] <;> rfl
              cases hr : trA ow (leafB N p wt R) d (i + 1) (setF g o (g o ++ [c])) (setF lf c (lf c - 1)) (X, T + 1) with
              | none =>
                rw [hr] at b2
                refine ⟨zI 0, m6, X4, T4, pre _ ?_, rfl, B6, f6⟩
                rw [iep (by omega), if_pos tO.1, plq, Option.bind_some]
                simp only [hzz]
                rw [if_neg (not_not_intro hsn), hcard, Option.bind_some, show v = zI 0 from b2, if_neg (not_not_intro rfl)]
                rfl
              | some Y =>
                rw [hr] at b2
                obtain ⟨hv, hY, hT4⟩ := b2
                rw [Option.bind_some, hY]
                obtain ⟨v', m', X', T', e1, e2, e3, e4⟩ := ihj (c + 1) nn m6 X4 T4 (by omega) (by omega) B6 hT4
                refine ⟨v', m', X', T', pre _ ?_, e2, e3, fun b hb => by rw [e4 b hb, f6 b hb]⟩
                rw [iep (by omega), if_pos tO.1, plq, Option.bind_some]
                simp only [hzz]
                rw [if_neg (not_not_intro hsn), hcard, Option.bind_some, hv, inp (by omega)]
                unfold X0_tryAt_b99
                rw [show (zI (c : Int) + 1 : Int32) = zI ((c + 1 : Nat) : Int) from zI_add c 1]
                exact e1
    obtain ⟨v, m', X', T', e1, e2, e3, e4⟩ := loop 10 0 e.2.2 m X T (by omega) (by omega) hB hT
    refine ⟨v, m', X', T', ?_, by rw [trA, hO]; exact e2, e3, e4⟩
    obtain ⟨s, tf, nf, r7, r8, r9, r10, r11, hl, ho, hX, hlog⟩ := hB
    unfold X0_tryAt X0_tryAt_one
    simp only [LT]
    rw [iln (by omega), rd_gi ht.1 r10, Option.bind_some, ien (by omega), ilp (by omega), rd_gr ht.1 s.1, Option.bind_some, rd_gr ht.1 s.2.2.2.2.1, Option.bind_some, rd_ai ht.2.2.2.2.2.1 (i := i) rfl (by omega) (by omega) (ho i (by omega)), Option.bind_some, hO, X0_fanOf_th ht s (show o < 6 by omega), Option.bind_some]
    rw [show (zI 0 : Int32) = zI ((0 : Nat) : Int) from rfl]
    exact e1
end TRYC
