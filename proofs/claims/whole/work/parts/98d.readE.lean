/-! THE READER of the class: cards, weights, rules, a person's line. -/
section RDF
variable {e : mm_E} {x d r n cc : Nat} {T : Nat → Nat} {t : TK} {R : RD}
theorem X8_cards_ev {p : Nat} {t0 : TK} {m0 m : mm_V} (hR : rdT e x d r) (hv : tkV T n t) (hI : rdI R) (hp : p < R.1.1) (hpt : R.2.2.2.2.1 = true) (hcc : cc ≤ t.2.2) (ht0 : t0.2.2 ≤ t.2.2) (hfr : frC d r m0 m) (hC : rcR e m x d r n T t cc R) : Ev (X8_cards e r (zI p) m) (lnY e x d r n T t0 m0 (cdL T n p 700 (tok T n t.2.2) (sFt R))) := by
  have hR' := hR
  obtain ⟨hx, hD, h8, h9, h83, h84, h1, h6, hxd, hdr, hst, hN⟩ := hR
  have c11 := hC.1
  unfold X8_cards
  simp only [LT, zI_neg]
  refine ev_gr h8 hC.2.1.2.1 (ev_pz hD.1 (Or.inr rfl) ?_)
  have C1 : rcR e (mm_up m d 10 (.int (zI 1))) x d r n T t cc (sFt R) := rcR.field hR' hC (by omega) rfl (by rw [up_ne _ _ (by omega)]; exact c11.2.1) (by rw [up_ne _ _ (by omega)]; exact c11.2.2.1) (by rw [up_ne _ _ (by omega)]; exact c11.2.2.2.1) (up_at _ _ _ _)
  have fr1 : frC d r m0 (mm_up m d 10 (.int (zI 1))) := hfr.trans (fun b hb => up_row _ _ _ (by omega))
  generalize mm_up m d 10 (.int (zI 1)) = m1 at C1 fr1
  refine ev_gr h8 C1.2.1.1.1 (ev_tg h9 (ev_call (X9_next_ev (m := m1) hR' hv C1) ?_))
  rintro m2 ⟨C2, o2⟩
  obtain ⟨hv1, hb1⟩ := tok_V T (b := t.2.2) hv.2.1
  have hn := C2.2.2.2.1.1
  have hmu := muT_lt hv1 hn
  exact X8_cards_loop hR' _ (tok T n t.2.2) (sFt R) m2 0 _ 700 rfl (Nat.zero_le _) (by omega) (by omega) hv1 hI.sFt hp hpt (by omega) (by omega) (fr1.trans (fun b hb => o2 b (by omega))) C2
theorem X10_setWeight_eq {m : mm_V} {p j : Nat} {v : Int32} (hD : toldT e.1 d) (h1 : m d 1 = .ref (d + 2)) (hp : p < 6) (hj : j < 6) : X10_setWeight e d (zI p) (zI j) v m = some (mm_up m (d + 2) (6 * p + j) (.int v)) := by
  obtain ⟨t0, -, t2, -⟩ := hD
  unfold X10_setWeight X10_setWeight_b31
  simp only [LT, zI_neg]
  have hz : (zI (p : Int) * zI 6 + zI (j : Int) : Int32) = zI ((6 * p + j : Nat) : Int) := by rw [zI_mul, zI_add]; congr 1; omega
  rw [hz, iln (by omega), rd_gr t0 h1, Option.bind_some, rd_ln t2 (by decide) (by decide), Option.bind_some, ien (by omega), Option.bind_some, wr_si t2 (i := 6 * p + j) rfl (by omega) (by omega), Option.bind_some]
theorem rcR.weight {m : mm_V} {j v : Nat} (hR : rdT e x d r) (hC : rcR e m x d r n T t cc R) : rcR e (mm_up m (d + 2) j (.int (zI v))) x d r n T t cc (sWt j v R) := by
  obtain ⟨c1, c2, c3, c4, c5⟩ := hC
  have hxd := hR.2.2.2.2.2.2.2.2.1
  have hdr := hR.2.2.2.2.2.2.2.2.2.1
  have hst := hR.2.2.2.2.2.2.2.2.2.2.1
  generalize hm1 : mm_up m (d + 2) j (.int (zI v)) = m1
  have o : ∀ b, b ≠ d + 2 → m1 b = m b := fun b h => by rw [← hm1, up_row _ _ _ h]
  obtain ⟨⟨s0, s1, s2, s3, s4, s5, s6⟩, a1, a2, a3, a4, a5, a6, a7, a8⟩ := c1
  have hd := o d (by omega)
  refine ⟨⟨⟨by rw [hd]; exact s0, by rw [hd]; exact s1, by rw [hd]; exact s2, by rw [hd]; exact s3, by rw [hd]; exact s4, by rw [hd]; exact s5, fun i hi => by rw [o _ (by omega)]; exact s6 i hi⟩, by rw [hd]; exact a1, by rw [hd]; exact a2, by rw [hd]; exact a3, by rw [hd]; exact a4, by rw [hd]; exact a5, fun i hi => ?_, fun i hi => ?_, fun k hk => ?_⟩, c2.keep (o _ (by omega)) (o _ (by omega)) (o _ (by omega)) (o _ (by omega)) (by rw [o _ (by omega)]; exact c2.1.2.2.2.2.2.2), c3.row (o _ (by omega)), c4.keep (o _ (by omega)), c5.keep hst (fun b hb => o b (by omega))⟩
  · obtain ⟨b1, b2, b3, b4⟩ := a6 i hi
    exact ⟨by rw [o _ (by omega)]; exact b1, by rw [o _ (by omega)]; exact b2, b3, fun k c hc => by rw [o _ (by omega)]; exact b4 k c hc⟩
  · show m1 (d + 2) i = .int (zI (setF R.2.2.2.2.2.2 j v i : Nat))
    unfold setF
    by_cases hij : i = j
    · rw [if_pos hij, hij, ← hm1, up_at]
    · rw [if_neg hij, ← hm1, up_ne _ _ (Or.inr hij)]; exact a7 i hi
  · obtain ⟨a, b, b1, b2, b3, b4, b5⟩ := a8 k hk
    exact ⟨a, b, by rw [o _ (by omega)]; exact b1, by rw [o _ (by omega)]; exact b2, b3, b4, fun i c hc => by rw [o _ (by omega)]; exact b5 i c hc⟩
theorem X8_weights_loop {p : Nat} {t0 : TK} {m0 : mm_V} (hR : rdT e x d r) (hp : p < 6) : ∀ (k : Nat) (t : TK) (R : RD) (m : mm_V) (i nn : Nat), i + k = 6 → k < nn → tkV T n t → rdI R → cc ≤ t.2.2 → t0.2.2 ≤ t.2.2 → frC d r m0 m → rcR e m x d r n T t cc R → Ev (X8_weights_L2 e r (zI p) nn (zI i) m) (lnY e x d r n T t0 m0 (wtL T n p k i t R)) := by
  have hR' := hR
  obtain ⟨hx, hD, h8, h9, h83, h84, h1, h6, hxd, hdr, hst, hN⟩ := hR
  intro k
  induction k with
  | zero =>
    intro t R m i nn hi hnn hv hI hcc ht0 hfr hC
    obtain ⟨nn, rfl⟩ : ∃ n', nn = n' + 1 := ⟨nn - 1, by omega⟩
    rw [X8_weights_L2, wtL]
    simp only [LT, zI_neg]
    obtain ⟨hv1, hb1⟩ := tok_V T (b := t.2.2) hv.2.1
    refine ev_iep rfl rfl (by omega) (ev_call (X8_endFault_ev hR' hv hC) ?_)
    rintro ⟨v4, m4⟩ ⟨z1, C4, o4⟩
    dsimp only at z1 C4 o4
    refine ev_rl ⟨z1, by simp only; unfold enF; split <;> omega, hv1, C4.2.2.1.2.2.1, hfr.trans (fun b hb => o4 b (by omega)), C4.told.1, C4.told.2.1, C4.told.2.2.1, C4.told.2.2.2, fun h => ⟨hI, ?_, by simp only; omega, cc, by simp only; omega, C4⟩⟩
    simp only at h ⊢
    unfold enF at h
    by_cases h59 : tkC T (tok T n t.2.2) = 59
    · exact h59
    · rw [if_neg h59] at h; omega
  | succ k ih =>
    intro t R m i nn hi hnn hv hI hcc ht0 hfr hC
    obtain ⟨nn, rfl⟩ : ∃ n', nn = n' + 1 := ⟨nn - 1, by omega⟩
    rw [X8_weights_L2, wtL]
    simp only [LT, zI_neg]
    obtain ⟨hv1, hb1⟩ := tok_V T (b := t.2.2) hv.2.1
    have hv10 := hv1.1
    refine ev_ien rfl rfl (by omega) (ev_gr h8 hC.2.1.1.1 (ev_tg h9 (ev_call (X9_next_ev (m := m) hR' hv hC) ?_)))
    rintro m1 ⟨C1, o1⟩
    have fr1 : frC d r m0 m1 := hfr.trans (fun b hb => o1 b (by omega))
    have hle := nmF_le T (tok T n t.2.2) 0 99
    refine ev_eq (X8_numberFault_eq (e := e) (lo := 0) (hi := 99) hR' hv1 C1 (by omega)) ?_
    by_cases hz : nmF T (tok T n t.2.2) 0 99 = 0
    · rw [if_neg (show ¬ (nmF T (tok T n t.2.2) 0 99 ≠ 0) from fun h => h hz)]
      have hz0 := nmF_0 hz
      have hva := vaT_eq hv1 hz0.1 hz0.2.1
      have c5' := C1.2.2.1.2.2.2.2.2.1 hz0.1
      rw [hva.1] at c5'
      refine ev_iqp rfl rfl (by omega) (ev_gr h8 C1.2.1.2.1 (ev_gr h8 C1.2.1.1.1 (ev_gi h9 c5' (ev_tg hD.1 (ev_eq (X10_setWeight_eq hD C1.1.1.2.1 hp (by omega)) ?_)))))
      rw [show (zI (i : Int) + zI 1 : Int32) = zI ((i + 1 : Nat) : Int) from zI_add _ _]
      exact ih (tok T n t.2.2) _ _ (i + 1) nn (by omega) (by omega) hv1 (hI.sWt hz0.2.2.2) (by omega) (by omega) (fr1.trans (fun b hb => up_row _ _ _ (by omega))) (C1.weight hR')
    · rw [if_pos (show nmF T (tok T n t.2.2) 0 99 ≠ 0 from hz)]
      exact ev_iqn rfl rfl (by omega) (ev_rl (lnO.bad C1 hv1 (by omega) fr1))
theorem X1_rule_ev {ru : Nat} {t0 : TK} {m0 m : mm_V} (hR : rdT e x d r) (hru : ru < 12) (hv : tkV T n t) (hI : rdI R) (hcc : cc ≤ t.2.2) (ht0 : t0.2.2 ≤ t.2.2) (hfr : frC d r m0 m) (hC : rcR e m x d r n T t cc R) : Ev (X1_compile e (r + 5) d (zI ru) m) (lnY e x d r n T t0 m0 (rlL T n ru t R)) := by
  have hR' := hR
  obtain ⟨hx, hD, h8, h9, h83, h84, h1, h6, hxd, hdr, hst, hN⟩ := hR
  obtain ⟨c1, c2, c3, c4, c5⟩ := hC
  have c11 := c1
  have c21 := c2
  obtain ⟨⟨s0, s1, s2, s3, s4, s5, s6⟩, a1, a2, a3, a4, a5, a6, a7, a8⟩ := c1
  obtain ⟨d0, d1, d2, d3, d4⟩ := c2
  refine ev_mono (X1_compile_ev (c0 := cc) (B := t.2.2) hR' hru hcc (Nat.le_refl _) hv c5 c4 c3 d0.2.2.2.2.1 d0.2.2.2.2.2.1 s2 s3 s4 a4) ?_
  rintro ⟨v, m1⟩ ⟨z1, z2, z3, z4, z5, ⟨k1, k2, k3, k4⟩, ⟨w0, w4⟩, z6⟩
  dsimp only at z1 z4 k1 k2 k3 k4 w0 w4 z6
  show lnO e x d r n T t0 m0 (rlL T n ru t R) v m1
  have o : ∀ b, b ≠ r + 1 → b ≠ r + 5 → b ≠ r + 6 → b ≠ d → b ≠ d + 3 → b ≠ d + 4 → b ≠ d + 5 → m1 b = m b := k1
  have hS : toldS m1 d := ⟨by rw [k2 _ (by omega)]; exact s0, by rw [k2 _ (by omega)]; exact s1, by rw [k2 _ (by omega)]; exact s2, by rw [k2 _ (by omega)]; exact s3, by rw [k2 _ (by omega)]; exact s4, by rw [k2 _ (by omega)]; exact s5, fun i hi => by rw [o _ (by omega) (by omega) (by omega) (by omega) (by omega) (by omega) (by omega)]; exact s6 i hi⟩
  have hF : toldF m1 d R.2.1 := fun i hi => by
    obtain ⟨b1, b2, b3, b4⟩ := a6 i hi
    exact ⟨by rw [o _ (by omega) (by omega) (by omega) (by omega) (by omega) (by omega) (by omega)]; exact b1, by rw [o _ (by omega) (by omega) (by omega) (by omega) (by omega) (by omega) (by omega)]; exact b2, b3, fun k c hc => by rw [o _ (by omega) (by omega) (by omega) (by omega) (by omega) (by omega) (by omega)]; exact b4 k c hc⟩
  have hr : m1 r = m r := o _ (by omega) (by omega) (by omega) (by omega) (by omega) (by omega) (by omega)
  have hrs : rcS m1 r := d0.keep (fun j _ => by rw [hr]) ⟨w0.trans d0.2.2.2.2.1.symm, w4.trans d0.2.2.2.2.2.1.symm⟩ z4.2.2.2.2.2.2
  have hr4 : m1 r 4 = .ref d := by rw [hr]; exact d1
  refine ⟨z1, by show (rlL T n ru t R).1 ≤ 5; unfold rlL; simp only; omega, z3, z4.2.2.1, hfr.trans (fun b hb => o b (by omega) (by omega) (by omega) (by omega) (by omega) (by omega) (by omega)), hS, ⟨_, hF⟩, hrs, hr4, fun h0 => ?_⟩
  obtain ⟨y1, y2, y3, y4, y5, y6, y7⟩ := z6 h0
  unfold rlL
  generalize exA T n (tok T n t.2.2) ([], [], 0, true) = X at z1 z2 z3 z4 z5 y1 y2 y3 y4 y5 y6 y7
  refine ⟨hI.sRl y2, y1, by simp only; omega, cc + X.2.2.length, by simp only; omega, ⟨hS, by rw [k2 _ (by omega)]; exact a1, by rw [k2 _ (by omega)]; exact a2, by rw [k2 _ (by omega)]; exact a3, y4, by rw [k2 _ (by omega)]; exact a5, hF, fun i hi => by rw [o _ (by omega) (by omega) (by omega) (by omega) (by omega) (by omega) (by omega)]; exact a7 i hi, fun k hk => ?_⟩, ⟨hrs, hr4, by rw [hr]; exact d2, fun c hc => by rw [o _ (by omega) (by omega) (by omega) (by omega) (by omega) (by omega) (by omega)]; exact d3 c hc, fun j hj => by rw [o _ (by omega) (by omega) (by omega) (by omega) (by omega) (by omega) (by omega)]; exact d4 j hj⟩, z4, c4.keep (o _ (by omega) (by omega) (by omega) (by omega) (by omega) (by omega) (by omega)), c5.keep hst (fun b hb => o b (by omega) (by omega) (by omega) (by omega) (by omega) (by omega) (by omega))⟩
  show ∃ a b : Nat, m1 (d + 4) k = .int (zI a) ∧ m1 (d + 5) k = .int (zI b) ∧ a + (setF R.2.2.2.2.2.1 ru X.2.2 k).length = b ∧ b ≤ cc + X.2.2.length ∧ ∀ (i : Nat) (c : Int), (setF R.2.2.2.2.2.1 ru X.2.2 k)[i]? = some c → m1 (d + 3) (a + i) = .int (zI c)
  by_cases hku : k = ru
  · subst hku
    rw [setF_same]
    exact ⟨cc, cc + X.2.2.length, y5, y6, rfl, Nat.le_refl _, y7⟩
  · rw [setF_other _ _ hku]
    obtain ⟨a, b, b1, b2, b3, b4, b5⟩ := a8 k hk
    refine ⟨a, b, by rw [(k4 k hku).1]; exact b1, by rw [(k4 k hku).2]; exact b2, b3, by omega, fun i c hc => ?_⟩
    have := (List.getElem?_eq_some_iff.mp hc).1
    rw [k3 _ (by omega)]
    exact b5 i c hc
theorem rcR.person {m : mm_V} (hR : rdT e x d r) (hC : rcR e m x d r n T t cc R) : rcR e (mm_up m r 5 (.int (zI 1))) x d r n T t cc (sPt R) := by
  obtain ⟨c1, ⟨d0, d1, d2, d3, d4⟩, c3, c4, c5⟩ := hC
  have hxd := hR.2.2.2.2.2.2.2.2.1
  have hdr := hR.2.2.2.2.2.2.2.2.2.1
  have hst := hR.2.2.2.2.2.2.2.2.2.2.1
  have o : ∀ b, b ≠ r → mm_up m r 5 (.int (zI 1)) b = m b := fun b h => up_row _ _ _ h
  exact ⟨c1.keep (fun b h1 h2 => o b (by omega)), ⟨d0.keep (fun j hj => up_ne _ _ (Or.inr (by omega))) ⟨by rw [o _ (by omega)], by rw [o _ (by omega)]⟩ (by rw [o _ (by omega)]; exact d0.2.2.2.2.2.2), by rw [up_ne _ _ (by omega)]; exact d1, up_at _ _ _ _, fun c hc => by rw [o _ (by omega)]; exact d3 c hc, fun j hj => by rw [o _ (by omega)]; exact d4 j hj⟩, c3.row (o _ (by omega)), c4.keep (o _ (by omega)), c5.keep hst (fun b hb => o b (by omega))⟩
theorem X8_personLine_ev {m : mm_V} {w : Nat} (hR : rdT e x d r) (hw : 3 ≤ w ∧ w < 7) (hv : tkV T n t) (hcc : cc ≤ t.2.1) (hI : rdI R) (hC : rcR e m x d r n T t cc R) : Ev (X8_personLine e r (zI w) m) (lnY e x d r n T t m (lnP T n w t R)) := by
  have hR' := hR
  obtain ⟨hx, hD, h8, h9, h83, h84, h1, h6, hxd, hdr, hst, hN⟩ := hR
  obtain ⟨hv1, hb1⟩ := tok_V T (b := t.2.2) hv.2.1
  have hv0 := hv.1
  have hv10 := hv1.1
  have hN6 := hI.1
  unfold X8_personLine lnP
  simp only [LT, zI_neg]
  refine ev_gr h8 hC.2.1.1.1 (ev_tg h9 (ev_call (X9_next_ev (m := m) hR' hv hC) ?_))
  rintro m1 ⟨C1, o1⟩
  have fr1 : frC d r m m1 := fun b hb => o1 b (by omega)
  have hle := nmF_le T (tok T n t.2.2) 0 9999
  refine ev_eq (X8_numberFault_eq (e := e) (lo := 0) (hi := 9999) hR' hv1 C1 (by omega)) ?_
  by_cases hz : nmF T (tok T n t.2.2) 0 9999 = 0
  · rw [if_neg (show ¬ (nmF T (tok T n t.2.2) 0 9999 ≠ 0) from fun h => h hz)]
    have hz0 := nmF_0 hz
    have hva := vaT_eq hv1 hz0.1 hz0.2.1
    have c5' := C1.2.2.1.2.2.2.2.2.1 hz0.1
    rw [hva.1] at c5'
    generalize vaT T (tok T n t.2.2) = p at c5' hva
    refine ev_iqp rfl rfl (by omega) (ev_gr h8 C1.2.1.1.1 (ev_gi h9 c5' (ev_gr h8 C1.2.1.2.1 (ev_gi hD.1 C1.1.2.1 ?_))))
    by_cases hp : R.1.1 ≤ p
    · rw [if_pos hp]
      exact ev_iln rfl rfl (by omega) (ev_rl (lnO.bad C1 hv1 (by omega) fr1))
    rw [if_neg hp]
    refine ev_ilp rfl rfl (by omega) (ev_call (X8_isTold_ev (w := w) (p := p) hR' C1 (by omega)) ?_)
    rintro ⟨v, m2⟩ ⟨y1, y2⟩
    dsimp only at y1 y2
    cases htl : R.2.2.2.1 (6 * w + p) with
    | true =>
      obtain ⟨rfl, rfl⟩ := y1 htl
      rw [if_pos (show true = true from rfl)]
      exact ev_iqn rfl rfl (by omega) (ev_rl (lnO.bad C1 hv1 (by omega) fr1))
    | false =>
      obtain ⟨rfl, C2, o2⟩ := y2 htl
      rw [if_neg (show ¬ (false = true) by simp)]
      refine ev_iqp rfl rfl (by omega) (ev_pz h8 (Or.inr rfl) ?_)
      have C3 := C2.person hR'
      have fr3 : frC d r m (mm_up m2 r 5 (.int (zI 1))) := fr1.trans (fun b hb => by rw [up_row _ _ _ (by omega), o2 b (by omega)])
      have hI3 : rdI (sPt (sTl (6 * w + p) R)) := hI.sTl.sPt
      generalize mm_up m2 r 5 (.int (zI 1)) = m3 at C3 fr3
      have c11 := C3.2.1.1
      unfold lnQ
      have hw4 : w = 3 ∨ w = 4 ∨ w = 5 ∨ w = 6 := by omega
      rcases hw4 with rfl | rfl | rfl | rfl
      · rw [if_pos (show (3 : Nat) = 3 from rfl)]
        refine ev_iqp rfl rfl (by omega) (ev_call (X8_cards_ev (t0 := t) (m0 := m) hR' hv1 hI3 (by show p < R.1.1; omega) rfl (by omega) (by omega) fr3 C3) (fun y hy => ev_ret hy))
      · rw [if_neg (show ¬ (4 : Nat) = 3 by omega), if_pos (show (4 : Nat) = 4 from rfl)]
        refine ev_iqn rfl rfl (by omega) (ev_iqp rfl rfl (by omega) (ev_gr h8 c11.2.1 (ev_gr h8 C3.2.1.2.1 (ev_tg h1 ?_))))
        rw [show (zI 0 + zI (p : Int) : Int32) = zI (p : Int) by rw [zI_add]; congr 1; omega]
        exact ev_call (X1_rule_ev (t0 := t) (m0 := m) hR' (by omega) hv1 hI3 (by omega) (by omega) fr3 C3) (fun y hy => ev_ret hy)
      · rw [if_neg (show ¬ (5 : Nat) = 3 by omega), if_neg (show ¬ (5 : Nat) = 4 by omega), if_pos (show (5 : Nat) = 5 from rfl)]
        refine ev_iqn rfl rfl (by omega) (ev_iqn rfl rfl (by omega) (ev_iqp rfl rfl (by omega) (ev_gr h8 c11.2.1 (ev_gr h8 C3.2.1.2.1 (ev_tg h1 ?_)))))
        rw [show (zI 6 + zI (p : Int) : Int32) = zI ((6 + p : Nat) : Int) by rw [zI_add]; rfl]
        exact ev_call (X1_rule_ev (t0 := t) (m0 := m) hR' (by omega) hv1 hI3 (by omega) (by omega) fr3 C3) (fun y hy => ev_ret hy)
      · rw [if_neg (show ¬ (6 : Nat) = 3 by omega), if_neg (show ¬ (6 : Nat) = 4 by omega), if_neg (show ¬ (6 : Nat) = 5 by omega)]
        refine ev_iqn rfl rfl (by omega) (ev_iqn rfl rfl (by omega) (ev_iqn rfl rfl (by omega) ?_))
        unfold X8_weights
        exact ev_call (X8_weights_loop (t0 := t) (m0 := m) hR' (by omega) 6 (tok T n t.2.2) _ m3 0 _ rfl (by omega) hv1 hI3 (by omega) (by omega) fr3 C3) (fun y hy => ev_ret hy)
  · rw [if_pos (show nmF T (tok T n t.2.2) 0 9999 ≠ 0 from hz)]
    exact ev_iqn rfl rfl (by omega) (ev_rl (lnO.bad C1 hv1 (by omega) fr1))
end RDF
