/-! THE READER of the class: lines of persons. -/
section RDE
variable {e : mm_E} {x d r n cc : Nat} {T : Nat → Nat} {t : TK} {R : RD}
theorem rdI.len {R : RD} (h : rdI R) (p : Nat) : (R.2.1 p).length ≤ 10 := by
  have := nodup_len 10 (R.2.1 p) (h.2.2.2.1 p) (fun c hc => by have := h.2.2.2.2.1 p c hc; have := h.2.1; omega)
  exact this
theorem rdI.room {R : RD} (h : rdI R) {p c : Nat} (hc : c ≤ R.1.2.1) (hno : c ∉ R.2.1 p) : (R.2.1 p).length < 10 := by
  have h2 := h.2.1
  have := nodup_len 10 (c :: R.2.1 p) (List.nodup_cons.mpr ⟨hno, h.2.2.2.1 p⟩) (fun y hy => by
    rcases List.mem_cons.mp hy with rfl | hy
    · omega
    · have := h.2.2.2.2.1 p y hy; omega)
  rw [List.length_cons] at this; omega
theorem X8_cardFault_ev {m : mm_V} {p c : Nat} (hR : rdT e x d r) (hI : rdI R) (hp : p < R.1.1) (hc : c ≤ R.1.2.1) (hC : rcR e m x d r n T t cc R) : Ev (X8_cardFault e r (zI p) (zI c) m) (fun y => ((c ∈ R.2.1 p ∨ (if c = 0 then 1 else 2) ≤ R.2.2.1 c) → y.1 = zI 4 ∧ y.2 = m) ∧ (¬ (c ∈ R.2.1 p ∨ (if c = 0 then 1 else 2) ≤ R.2.2.1 c) → y.1 = zI 0 ∧ rcR e y.2 x d r n T t cc (sCd p c R) ∧ frC d r m y.2)) := by
  obtain ⟨c1, c2, c3, c4, c5⟩ := hC
  obtain ⟨hx, hD, h8, h9, h83, h84, h1, h6, hxd, hdr, hst, hN⟩ := hR
  have hN6 := hI.1
  have hP9 := hI.2.1
  have hcn := hI.two c
  obtain ⟨⟨s0, s1, s2, s3, s4, s5, s6⟩, a1, a2, a3, a4, a5, a6, a7, a8⟩ := c1
  have hfan := a6 p (by omega)
  have hft := hD.2.2.2.2.2.2.2 p (by omega)
  have hbd : ∀ y ∈ R.2.1 p, y < 1000 := fun y hy => by have := hI.2.2.2.2.1 p y hy; omega
  have b50 : ∀ mo : Nat, mo = (if c = 0 then 1 else 2) → Ev (X8_cardFault_b50 e r (zI c) (d + 7 + 2 * p) (zI mo) m) (fun y => ((c ∈ R.2.1 p ∨ (if c = 0 then 1 else 2) ≤ R.2.2.1 c) → y.1 = zI 4 ∧ y.2 = m) ∧ (¬ (c ∈ R.2.1 p ∨ (if c = 0 then 1 else 2) ≤ R.2.2.1 c) → y.1 = zI 0 ∧ rcR e y.2 x d r n T t cc (sCd p c R) ∧ frC d r m y.2)) := by
    intro mo hmo
    rw [← hmo]
    have hmb : 1 ≤ mo ∧ mo ≤ 2 := by rw [hmo]; split <;> omega
    unfold X8_cardFault_b50 X8_cardFault_b72
    simp only [LT, zI_neg]
    refine ev_tg hft.1 (ev_eq (X3_placeOf_eq hft hfan hbd (by omega) (by omega)) ?_)
    by_cases hm : c ∈ R.2.1 p
    · have hi : idx c (R.2.1 p) ≠ none := fun h => idx_mem.mp h hm
      cases hq : idx c (R.2.1 p) with
      | none => exact absurd hq hi
      | some k =>
        have := idx_bound hq
        have := hI.len p
        exact ev_inp rfl rfl (by omega) (ev_ret ⟨fun _ => ⟨rfl, rfl⟩, fun h => absurd (Or.inl hm) h⟩)
    · have hi : idx c (R.2.1 p) = none := idx_mem.mpr hm
      have hro := hI.room hc hm
      rw [hi]
      refine ev_inn rfl rfl (by omega) (ev_gr h8 c2.1.2.2.1 (ev_ai c h83 rfl (by omega) (by omega) (c2.2.2.2.1 c (by omega)) ?_))
      by_cases hk : mo ≤ R.2.2.1 c
      · exact ev_iln rfl rfl (by omega) (ev_ret ⟨fun _ => ⟨rfl, rfl⟩, fun h => absurd (Or.inr hk) h⟩)
      · refine ev_ilp rfl rfl (by omega) (ev_gi hft.1 hfan.2.1 (ev_tg hft.1 (ev_call (X3_putIn_eq (c := c) hft hfan (Nat.le_refl _) hro (by omega)) ?_)))
        rintro m1 ⟨F1, o1⟩
        rw [ins_end] at F1
        have q1 : ∀ b, b < d + 7 + 2 * p ∨ d + 9 + 2 * p ≤ b → m1 b = m b := fun b hb => o1 b (by omega) (by omega)
        have c21 := c2.1
        obtain ⟨e0, e1, e2, e3, e4⟩ := c2
        refine ev_gr h8 (v := r + 3) (by rw [q1 _ (by omega)]; exact c21.2.2.1) (ev_ai c h83 rfl (by omega) (by omega) (by rw [q1 _ (by omega)]; exact e3 c (by omega)) (ev_si c h83 rfl (by omega) (by omega) (ev_ret ⟨fun h => by rcases h with h | h; exact absurd h hm; exact absurd h hk, fun _ => ⟨rfl, ?_, ?_⟩⟩)))
        · rw [zI_add]
          generalize hm2 : mm_up m1 (r + 3) c (.int (zI ((R.2.2.1 c : Int) + 1))) = m2
          show rcR e m2 x d r n T t cc (sCd p c R)
          have o2 : ∀ b, b ≠ r + 3 → m2 b = m1 b := fun b hb => by rw [← hm2, up_row _ _ _ hb]
          have q2 : ∀ b, (b < d + 7 + 2 * p ∨ d + 9 + 2 * p ≤ b) → b ≠ r + 3 → m2 b = m b := fun b hb h3 => by rw [o2 b h3, q1 b hb]
          refine ⟨⟨⟨by rw [q2 _ (by omega) (by omega)]; exact s0, by rw [q2 _ (by omega) (by omega)]; exact s1, by rw [q2 _ (by omega) (by omega)]; exact s2, by rw [q2 _ (by omega) (by omega)]; exact s3, by rw [q2 _ (by omega) (by omega)]; exact s4, by rw [q2 _ (by omega) (by omega)]; exact s5, fun i hi => by rw [q2 _ (by omega) (by omega)]; exact s6 i hi⟩, by rw [q2 _ (by omega) (by omega)]; exact a1, by rw [q2 _ (by omega) (by omega)]; exact a2, by rw [q2 _ (by omega) (by omega)]; exact a3, by rw [q2 _ (by omega) (by omega)]; exact a4, by rw [q2 _ (by omega) (by omega)]; exact a5, fun i hi => ?_, fun i hi => by rw [q2 _ (by omega) (by omega)]; exact a7 i hi, fun k hk' => ?_⟩, ⟨?_, ?_, ?_, fun y hy => ?_, fun j hj => by rw [q2 _ (by omega) (by omega)]; exact e4 j hj⟩, c3.row (q2 _ (by omega) (by omega)), c4.keep (q2 _ (by omega) (by omega)), c5.keep hst (fun b hb => q2 b (by omega) (by omega))⟩
          · show fanR m2 (d + 7 + 2 * i) (setF R.2.1 p (R.2.1 p ++ [c]) i)
            by_cases hip : i = p
            · subst hip
              rw [setF_same]
              obtain ⟨b1, b2, b3, b4⟩ := F1
              exact ⟨by rw [o2 _ (by omega)]; exact b1, by rw [o2 _ (by omega)]; exact b2, b3, fun k y hy => by rw [o2 _ (by omega)]; exact b4 k y hy⟩
            · rw [setF_other _ _ hip]
              obtain ⟨b1, b2, b3, b4⟩ := a6 i hi
              exact ⟨by rw [q2 _ (by omega) (by omega)]; exact b1, by rw [q2 _ (by omega) (by omega)]; exact b2, b3, fun k y hy => by rw [q2 _ (by omega) (by omega)]; exact b4 k y hy⟩
          · obtain ⟨a, b, b1, b2, b3, b4, b5⟩ := a8 k hk'
            exact ⟨a, b, by rw [q2 _ (by omega) (by omega)]; exact b1, by rw [q2 _ (by omega) (by omega)]; exact b2, b3, b4, fun i y hy => by rw [q2 _ (by omega) (by omega)]; exact b5 i y hy⟩
          · exact e0.keep (fun j _ => by rw [q2 _ (by omega) (by omega)]) ⟨by rw [q2 _ (by omega) (by omega)], by rw [q2 _ (by omega) (by omega)]⟩ (by rw [q2 _ (by omega) (by omega)]; exact e0.2.2.2.2.2.2)
          · rw [q2 _ (by omega) (by omega)]; exact e1
          · rw [q2 _ (by omega) (by omega)]; exact e2
          · show m2 (r + 3) y = .int (zI (setF R.2.2.1 c (R.2.2.1 c + 1) y : Nat))
            unfold setF
            by_cases hyc : y = c
            · rw [if_pos hyc, hyc, ← hm2, up_at]; rfl
            · rw [if_neg hyc, ← hm2, up_ne _ _ (Or.inr hyc), q1 _ (by omega)]; exact e3 y hy
        · intro b hb
          show mm_up m1 (r + 3) c _ b = m b
          rw [up_row _ _ _ (by omega), q1 b (by omega)]
  unfold X8_cardFault X8_cardFault_b29
  simp only [LT, zI_neg]
  refine ev_iln rfl rfl (by omega) (ev_gr h8 c2.2.1 (ev_gr hD.1 s0 (ev_ln hD.2.1 (by decide) (ev_ien rfl rfl (by omega) (ev_iln rfl rfl (by omega) (ev_gr h8 c2.1.2.2.1 (ev_ln h83 (by decide) (ev_ilp rfl rfl (by omega) (ev_gr h8 c2.2.1 (ev_gr hD.1 s0 (ev_aq p hD.2.1 rfl (by omega) (by omega) (s6 p (by omega)) ?_)))))))))))
  by_cases h0 : c = 0
  · subst h0
    exact ev_inn rfl rfl (by omega) (b50 1 (by simp))
  · exact ev_inp rfl rfl (by omega) (b50 2 (by rw [if_neg h0]))
theorem X8_cards_loop {p : Nat} {t0 : TK} {m0 : mm_V} (hR : rdT e x d r) : ∀ (k : Nat) (t : TK) (R : RD) (m : mm_V) (i nn F : Nat), muT n t = k → i ≤ (R.2.1 p).length → k < nn → k < F → tkV T n t → rdI R → p < R.1.1 → R.2.2.2.2.1 = true → cc ≤ t.2.1 → t0.2.2 ≤ t.2.1 → frC d r m0 m → rcR e m x d r n T t cc R → Ev (X8_cards_L17 e r (zI p) nn (zI i) m) (lnY e x d r n T t0 m0 (cdL T n p F t R)) := by
  intro k
  induction k using Nat.strongRecOn with
  | _ k ih =>
    intro t R m i nn F hmu hi hnn hF hv hI hp hpt hcc ht0 hfr hC
    obtain ⟨nn, rfl⟩ : ∃ n', nn = n' + 1 := ⟨nn - 1, by omega⟩
    obtain ⟨F, rfl⟩ : ∃ n', F = n' + 1 := ⟨F - 1, by omega⟩
    have hR' := hR
    obtain ⟨hx, hD, h8, h9, h83, h84, h1, h6, hxd, hdr, hst, hN⟩ := hR
    have hkb := tkC_bd hC.2.2.2.1 hv
    have hP9 := hI.2.1
    have hv2 := hv.2.1
    have hn6 := hC.2.2.2.1.1
    have W := X9_isWord_eq (e := e) 7 h9 hx hC.2.2.2.1 hC.2.2.1 hv hC.2.2.2.2 (by decide) hN
    have hlen := hI.len p
    rw [X8_cards_L17, cdL]
    unfold X8_cards_b116
    simp only [LT, zI_neg]
    refine ev_iln rfl rfl (by omega) (ev_gr h8 hC.2.1.1.1 (ev_gi h9 hC.2.2.1.2.2.2.2.1 ?_))
    by_cases h59 : tkC T t = 59
    · rw [if_pos h59]
      exact ev_iqp rfl rfl (by omega) (ev_rl ⟨rfl, by simp, hv, hC.2.2.1.2.2.1, hfr, hC.told.1, hC.told.2.1, hC.told.2.2.1, hC.told.2.2.2, fun _ => ⟨hI, h59, ht0, cc, hcc, hC⟩⟩)
    rw [if_neg h59]
    refine ev_iqn rfl rfl (by omega) (ev_gr h8 hC.2.1.1.1 (ev_tg h9 (ev_eq W ?_)))
    -- a card that may stand
    have card : t.1 ≠ 0 → cdC T t ≤ R.1.2.1 → Ev (X8_cards_b90 e (X8_cards_L17 e r (zI p) nn) r (zI p) (zI i) r (zI p) (zI (cdC T t)) m) (lnY e x d r n T t0 m0 (if cdC T t ∈ R.2.1 p ∨ (if cdC T t = 0 then 1 else 2) ≤ R.2.2.1 (cdC T t) then (4, t, R) else cdL T n p F (tok T n t.2.2) (sCd p (cdC T t) R))) := by
      intro h0 hc
      unfold X8_cards_b90 X8_cards_b95
      simp only [LT, zI_neg]
      refine ev_tg h8 (ev_call (X8_cardFault_ev hR' hI hp hc hC) ?_)
      rintro ⟨v, m1⟩ ⟨y1, y2⟩
      dsimp only at y1 y2
      by_cases hbad : cdC T t ∈ R.2.1 p ∨ (if cdC T t = 0 then 1 else 2) ≤ R.2.2.1 (cdC T t)
      · rw [if_pos hbad]
        obtain ⟨rfl, rfl⟩ := y1 hbad
        exact ev_iqn rfl rfl (by omega) (ev_rl (lnO.bad hC hv (by omega) hfr))
      · rw [if_neg hbad]
        obtain ⟨rfl, C1, fr1⟩ := y2 hbad
        have hno : cdC T t ∉ R.2.1 p := fun h => hbad (Or.inl h)
        have hlt : R.2.2.1 (cdC T t) < (if cdC T t = 0 then 1 else 2) := by
          have : ¬ (if cdC T t = 0 then 1 else 2) ≤ R.2.2.1 (cdC T t) := fun h => hbad (Or.inr h)
          omega
        refine ev_iqp rfl rfl (by omega) (ev_gr h8 C1.2.1.1.1 (ev_tg h9 (ev_call (X9_next_ev (m := m1) hR' hv C1) ?_)))
        rintro m2 ⟨C2, o2⟩
        rw [show (zI (i : Int) + zI 1 : Int32) = zI ((i + 1 : Nat) : Int) from zI_add _ _]
        obtain ⟨hv1, hb1⟩ := tok_V T (b := t.2.2) hv.2.1
        have hmu' := muT_next (n := n) hv h0
        have hv0 := hv.1
        exact ih _ (by omega) (tok T n t.2.2) (sCd p (cdC T t) R) m2 (i + 1) nn F rfl (by show i + 1 ≤ (setF R.2.1 p (R.2.1 p ++ [cdC T t]) p).length; rw [setF_same, List.length_append, List.length_singleton]; omega) (by omega) (by omega) hv1 (hI.sCd hp hc hno hlt hpt) hp hpt (by omega) (by omega) (hfr.trans (fr1.trans (fun b hb => o2 b (by omega)))) C2
    unfold X8_cards_b66
    simp only [LT, zI_neg]
    cases hw : isW T t 7 with
    | true =>
      have h0 : t.1 ≠ 0 := by have := isW_1 hw; omega
      have hc0 : cdC T t = 0 := by unfold cdC; rw [if_pos hw]
      rw [if_neg (show ¬ (true = false ∧ nmF T t 1 R.1.2.1 ≠ 0) from fun h => by cases h.1)]
      refine ev_iqn (x := 1) rfl rfl (by omega) ?_
      simp only [not_true_eq_false, if_false]
      refine ev_iqn (x := 1) rfl rfl (by omega) ?_
      have := card h0 (by omega)
      rw [hc0] at this ⊢
      exact this
    | false =>
      refine ev_iqp (x := 0) rfl rfl (by omega) (ev_gr h8 hC.2.1.2.1 (ev_gi hD.1 hC.1.2.2.1 (ev_eq (X8_numberFault_eq (lo := 1) (hi := R.1.2.1) hR' hv hC (by omega)) ?_)))
      have hle := nmF_le T t 1 R.1.2.1
      unfold X8_cards_b95
      simp only [LT, zI_neg]
      by_cases hz : nmF T t 1 R.1.2.1 = 0
      · have hz0 := nmF_0 hz
        have hva := vaT_eq hv hz0.1 hz0.2.1
        have c5' := hC.2.2.1.2.2.2.2.2.1 hz0.1
        rw [hva.1] at c5'
        have hcd : cdC T t = vaT T t := by unfold cdC; rw [if_neg (by rw [hw]; simp)]
        rw [if_neg (show ¬ (True ∧ nmF T t 1 R.1.2.1 ≠ 0) from fun h => h.2 hz)]
        refine ev_inn rfl rfl (by omega) (ev_iqp (x := 0) rfl rfl (by omega) (ev_gr h8 hC.2.1.1.1 (ev_gi h9 c5' ?_)))
        have := card (by omega) (by omega)
        rw [hcd] at this ⊢
        exact this
      · rw [if_pos (show (True ∧ nmF T t 1 R.1.2.1 ≠ 0) from ⟨trivial, hz⟩)]
        exact ev_inp rfl rfl (by omega) (ev_iqn rfl rfl (by omega) (ev_rl (lnO.bad hC hv (by omega) hfr)))
end RDE
