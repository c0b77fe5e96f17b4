/-! CALLS: fan, person, draw, play, undo, image, restore. -/
section CA2
variable {e : mm_E} {z t d q K : Nat} {C : CF} {G : GM} {M : MI}
def fanA (C : CF) (G : GM) (a b : Int) : Int32 ⊕ Nat := if 0 ≤ a ∧ a < C.1 then (if b = -1 then .inl (zI (G.2.1.1 a.toNat).length) else if 0 ≤ b ∧ b < (G.2.1.1 a.toNat).length then .inl (zI ((G.2.1.1 a.toNat).getD b.toNat 0)) else .inr 1) else .inr 1
theorem getD_some {l : List Nat} {k : Nat} (h : k < l.length) : l[k]? = some (l.getD k 0) := by
  rw [List.getD_eq_getElem?_getD, List.getElem?_eq_getElem h]; rfl
theorem zI_100 (x : Nat) : (zI 100 + zI x : Int32) = zI ((x + 100 : Nat) : Int) := by rw [zI_add]; exact congrArg zI (by omega)
theorem zI_100' (x : Nat) : (zI x + zI 100 : Int32) = zI ((x + 100 : Nat) : Int) := by rw [zI_add]; exact congrArg zI (by omega)
theorem t_far {m : mm_V} (h : IC e m z t d C G M) : z + 2 ≤ t ∧ t + 19 ≤ z + 40 := by
  rcases h.1 with h | h <;> omega
theorem cl_fan {m : mm_V} {a b : Int} (ha : i32 a) (hb : i32 b) (hT : icT e z) (hp : pureI C G M K) (h : IC e m z t d C G M) : Ev (X11_fan e z (zI a) (zI b) m) (clS (fanA C G a b) e z t d C G M m) := by
  obtain ⟨h1, hF, hA, hC, hD, hR, hL, ⟨⟨x, hG⟩, hG2⟩, hS, hI, hst⟩ := id h
  have hgT := hT.2.2.2.2.2.1
  have ok := hp.2.2.1.1
  have hN := hT.2.2.2.2.2.2.2.2.2.2.2.2.2.2
  have E := hC.1
  have h6 := hp.1.2.1
  unfold X11_fan fanA
  simp only [LT, zI_neg]
  by_cases hpn : 0 ≤ a ∧ a < C.1
  · rw [if_pos hpn]
    refine ev_bx (needPerson_1 ha hT h h6 hpn) ?_
    obtain ⟨p, rfl⟩ : ∃ p : Nat, a = p := ⟨a.toNat, by omega⟩
    rw [Int.toNat_natCast]
    have hp6 : p < 6 := by omega
    have hfT := hgT.2.2.2.2.2.2.2 p hp6
    have hfR : fanR m (z + 173 + 8 + 2 * p) (G.2.1.1 p) := hG.2.1 p hp6
    have hll := hfR.2.2.1
    unfold i32 at hb
    refine ev_gr hT.1 hF.1.2.2.2.2.2.2 (ev_tg hgT.1 (ev_eq (X4_fanAt_eq hgT hG.1 hp6) ?_))
    by_cases hb1 : b = -1
    · rw [if_pos hb1]
      exact ev_inn rfl rfl (by omega) (ev_gi hfT.1 hfR.2.1 (ev_cl rfl h (fun _ _ => rfl)))
    · rw [if_neg hb1]
      refine ev_inp rfl rfl (by omega) (ev_tg hfT.1 (ev_eq (X3_hasPlace_eq hfT hfR hb.1 hb.2) ?_))
      have hll2 : ((G.2.1.1 p).length : Int) = (G.2.1.1 p).length := rfl
      by_cases hb2 : 0 ≤ b ∧ b < (G.2.1.1 p).length
      · rw [if_pos hb2]
        dsimp only
        rw [if_pos (show 0 ≤ b ∧ b < ((G.2.1.1 p).length : Int) from hb2)]
        refine ev_bx X11_need_1 ?_
        obtain ⟨k, rfl⟩ : ∃ k : Nat, b = k := ⟨b.toNat, by omega⟩
        rw [Int.toNat_natCast]
        exact ev_tg hfT.1 (ev_eq (X3_card_eq hfT hfR (getD_some (by omega))) (ev_cl rfl h (fun _ _ => rfl)))
      · rw [if_neg hb2]
        dsimp only
        rw [if_neg (show ¬ (0 ≤ b ∧ b < ((G.2.1.1 p).length : Int)) from hb2)]
        exact ev_bxx X11_need_0 rfl h (fun _ _ => rfl)
  · rw [if_neg hpn]
    exact ev_bxx (needPerson_0 ha hT h h6 hpn) rfl h (fun _ _ => rfl)
theorem ml_fan {m : mm_V} {a b : Int} (ha : i32 a) (hb : i32 b) (hT : imT e q) (hp : pureI C G M K) (h : IM e m q C G M) : Ev (X12_fan e q (zI a) (zI b) m) (mlS (fanA C G a b) e q C G M m) := by
  have hN := hT.2.1
  have hT := hT.1
  have h6 := hp.1.2.1
  have hlen := hp.2.2.1.1.1.len hp.1.2.2.1
  have h0 := h.th (zI 0)
  have z0 : (mm_up m q 0 (.int (zI 0))) q 0 = .int (zI 0) := up_at _ _ _ _
  have fr : ∀ b, (b < q ∨ q + 40 ≤ b) → (mm_up m q 0 (.int (zI 0))) b = m b := fr_th
  unfold X12_fan X12_fan_b35 X12_fan_b43
  simp only [LT, zI_neg]
  refine ev_pf hT.me ?_
  generalize mm_up m q 0 (.int (zI 0)) = m0 at h0 z0 fr
  obtain ⟨g1, ⟨g2, g3, g4, g5, g6, g7⟩, ⟨g8, g9, g10, g11, g12⟩, g13, ⟨-, g14, g14'⟩, g15, g16⟩ := id h0
  have S := g1.2.1
  have r14 := hT.now_
  unfold fanA
  by_cases hpn : 0 ≤ a ∧ a < C.1
  · rw [if_pos hpn]
    refine ev_eq (X12_isPerson_1 ha hT z0 g1.2.2.1 h6 hpn) (ev_iqn (x := 1) (y := 0) rfl rfl (by omega) ?_)
    obtain ⟨p, rfl⟩ : ∃ p : Nat, a = p := ⟨a.toNat, by omega⟩
    rw [Int.toNat_natCast]
    have hp6 : p < 6 := by omega
    have hl10 := hlen p
    unfold i32 at hb
    have bad : ¬ (b = -1) → ¬ (0 ≤ b ∧ b < (G.2.1.1 p).length) → Ev (X12_fan_b36 e q (zI p) (zI b) q (zI 0) m0) (mlS (if b = -1 then .inl (zI (G.2.1.1 p).length) else if 0 ≤ b ∧ b < (G.2.1.1 p).length then .inl (zI ((G.2.1.1 p).getD b.toNat 0)) else .inr 1) e q C G M m) := by
      intro hb1 hb2
      unfold X12_fan_b36 X12_fan_b43
      simp only [LT, zI_neg]
      refine ev_tg hT.me (ev_eq (X12_right_0 hT z0 (by decide)) (ev_inn (x := 0) (y := 0) rfl rfl (by omega) (ev_mlx (by (try dsimp only); rw [if_neg hb1, if_neg hb2]) (up_at _ _ _ _) (h0.th _) (fun b hb => by (try dsimp only); rw [up_row _ _ _ (by omega)]; exact fr b hb))))
    by_cases hb0 : b < -1
    · exact ev_ilp rfl rfl (by omega) (bad (by omega) (by omega))
    refine ev_iln rfl rfl (by omega) (ev_gr hT.me S.now_ (ev_eq (X12_size_eq r14 g14.1 hp6) ?_))
    by_cases hb3 : ((G.2.1.1 p).length : Int) ≤ b
    · exact ev_iep rfl rfl (by omega) (bad (by omega) (by omega))
    refine ev_ien rfl rfl (by omega) ?_
    unfold X12_fan_b36 X12_fan_b70
    simp only [LT, zI_neg]
    refine ev_tg hT.me (ev_eq (X12_right_1 hT z0) (ev_inp (x := 1) (y := 0) rfl rfl (by omega) ?_))
    by_cases hb1 : b = -1
    · rw [if_pos hb1]
      exact ev_inn rfl rfl (by omega) (ev_gr hT.me S.now_ (ev_eq (X12_size_eq r14 g14.1 hp6) (ev_ml rfl z0 h0 fr)))
    · rw [if_neg hb1, if_pos (show 0 ≤ b ∧ b < (G.2.1.1 p).length by omega)]
      obtain ⟨k, rfl⟩ : ∃ k : Nat, b = k := ⟨b.toNat, by omega⟩
      rw [Int.toNat_natCast]
      exact ev_inp rfl rfl (by omega) (ev_gr hT.me S.now_ (ev_eq (X12_card_eq r14 g14.1 hp6 (getD_some (by omega))) (ev_ml rfl z0 h0 fr)))
  · rw [if_neg hpn]
    exact ev_eq (X12_isPerson_0 ha hT z0 g1.2.2.1 h6 hpn) (ev_iqp (x := 0) (y := 0) rfl rfl (by omega) (ev_mlx rfl (up_at _ _ _ _) (h0.th _) (fun b hb => by (try dsimp only); rw [up_row _ _ _ (by omega)]; exact fr b hb)))
/-! person -/
def prsA (C : CF) (G : GM) (a b : Int) : Int32 ⊕ Nat := if 0 ≤ a ∧ a < C.1 then (if 0 ≤ b ∧ b ≤ 7 then (if 2 ≤ b then .inl (zI (C.2.2.2.2 (6 * a.toNat + (b.toNat - 2)))) else if isOv C.1 G.2.1.1 = true ∨ hasC G.2.1.1 a.toNat = false then .inl (zI (-1)) else if b = 0 then .inl (ozI (nxt C.1 G.2.1.1 a.toNat)) else .inl (zI (dAt C.2.2.2.1 idF G.2.1.1 G.2.1.2.1 G.2.1.2.2.2 a.toNat ((nxt C.1 G.2.1.1 a.toNat).getD 0)))) else .inr 1) else .inr 1
theorem src_0 (N : Nat) (f : Nat → List Nat) (p : Nat) : srcF (zI 0) N f p = nxt N f p := if_pos (by decide)
theorem X10_weight_eq {m : mm_V} {p j : Nat} {v : Int32} (hD : toldT e.1 t) (h1 : m t 1 = .ref (t + 2)) (hv : m (t + 2) (6 * p + j) = .int v) (hp : p < 6) (hj : j < 6) : X10_weight e t (zI p) (zI j) m = some (v, m) := by
  obtain ⟨t0, -, t2, -⟩ := hD
  unfold X10_weight X10_weight_b29 X10_weight_b30
  simp only [LT, zI_neg]
  have hz : (zI (p : Int) * zI 6 + zI (j : Int) : Int32) = zI ((6 * p + j : Nat) : Int) := by (try dsimp only); rw [zI_mul, zI_add]; congr 1 <;> omega
  rw [hz, iln (by omega), rd_gr t0 h1, Option.bind_some, rd_ln t2 (by decide) (by decide), Option.bind_some, ien (by omega), Option.bind_some, rd_ai t2 (i := 6 * p + j) rfl (by omega) (by omega) hv, Option.bind_some]
theorem cl_person {m : mm_V} {a b : Int} (ha : i32 a) (hb : i32 b) (hT : icT e z) (hp : pureI C G M K) (h : IC e m z t d C G M) : Ev (X11_person e z (zI a) (zI b) m) (clS (prsA C G a b) e z t d C G M m) := by
  obtain ⟨h1, hF, hA, hC, hD, hR, hL, ⟨⟨x, hG⟩, hG2⟩, hS, hI, hst⟩ := id h
  have htf := t_far h
  have hgT := hT.2.2.2.2.2.1
  have ok := hp.2.2.1.1
  have hN := hT.2.2.2.2.2.2.2.2.2.2.2.2.2.2
  have E := hC.1
  have h6 := hp.1.2.1
  unfold X11_person prsA
  simp only [LT, zI_neg]
  by_cases hpn : 0 ≤ a ∧ a < C.1
  · rw [if_pos hpn]
    refine ev_bx (needPerson_1 ha hT h h6 hpn) ?_
    obtain ⟨p, rfl⟩ : ∃ p : Nat, a = p := ⟨a.toNat, by omega⟩
    rw [Int.toNat_natCast]
    have hpN : p < C.1 := by omega
    have hp6 : p < 6 := by omega
    unfold i32 at hb
    have bad : Ev (X11_person_b19 e z (zI p) (zI b) m) (clS (.inr 1) e z t d C G M m) := by
      unfold X11_person_b19 X11_person_b20
      simp only [LT, zI_neg]
      exact ev_bxx X11_need_0 rfl h (fun _ _ => rfl)
    by_cases hb0 : b < 0
    · rw [if_neg (show ¬ (0 ≤ b ∧ b ≤ 7) by omega)]
      exact ev_ilp rfl rfl (by omega) bad
    refine ev_iln rfl rfl (by omega) ?_
    by_cases hb7 : 7 < b
    · rw [if_neg (show ¬ (0 ≤ b ∧ b ≤ 7) by omega)]
      exact ev_ilp rfl rfl (by omega) bad
    rw [if_pos (show 0 ≤ b ∧ b ≤ 7 by omega)]
    refine ev_iln rfl rfl (by omega) ?_
    unfold X11_person_b20 X11_person_b61 X11_person_b86
    simp only [LT, zI_neg]
    refine ev_bx X11_need_1 ?_
    by_cases hb2 : 2 ≤ b
    · rw [if_pos hb2]
      obtain ⟨k, rfl⟩ : ∃ k : Nat, b = (k : Int) + 2 := ⟨(b - 2).toNat, by omega⟩
      have hk : ((k : Int) + 2).toNat - 2 = k := by omega
      rw [hk]
      refine ev_iln rfl rfl (by omega) (ev_gr hT.1 hF.1.2.1 (ev_tg E.1.1 ?_))
      rw [show (zI ((k : Int) + 2) - zI 2 : Int32) = zI (k : Int) by (try dsimp only); rw [zI_sub]; congr 1 <;> omega]
      exact ev_eq (X10_weight_eq E.1 E.2.1.2.1 (hC.2.2.1 _ (by omega)) hp6 (by omega)) (ev_cl rfl h (fun _ _ => rfl))
    · rw [if_neg hb2]
      refine ev_ilp rfl rfl (by omega) (ev_gr hT.1 hF.1.2.2.2.2.2.2 (ev_tg hgT.1 (ev_eq (X4_over_eq hgT E.1.1 hG.1 hG.2.1 E.2.2.1 h6 (by omega)) (ev_bn (fun ho => ?_) (fun ho => ?_)))))
      · refine ev_gr hT.1 hF.1.2.2.2.2.2.2 (ev_tg hgT.1 (ev_eq (X4_isEmpty_eq hgT hG.1 hG.2.1 hp6) (ev_bz (fun hc => ?_) (fun hc => ?_))))
        · have hc : hasC G.2.1.1 p = true := by simpa using hc
          rw [if_neg (show ¬ (isOv C.1 G.2.1.1 = true ∨ hasC G.2.1.1 p = false) by (try dsimp only); rw [ho, hc]; simp)]
          obtain ⟨s, s1, s2, s3, s4⟩ := nxt_ex ho hpN
          by_cases hb0' : b = 0
          · rw [if_pos hb0']
            refine ev_inn rfl rfl (by omega) (ev_gr hT.1 hF.1.2.2.2.2.2.2 (ev_tg hgT.1 (ev_eq (X4_source_eq hgT E.1.1 hG.1 hG.2.1 E.2.2.1 E.2.2.2.2.2.2.1 h6 hpN hG.f7 (by omega)) (ev_cl (by (try dsimp only); rw [src_0]) h (fun _ _ => rfl)))))
          · rw [if_neg hb0', s1]
            obtain ⟨m', e1, o1⟩ := X4_rulePlace_eq (e := e) hgT E.1 (by omega) hG.1 hG.2.1 E.2.2.1 E.2.2.2.2.2.2.1 h6 hpN hG.f7 (hG.2.2.1 p hp6) (show idF p < 6 from hp6) (hG.2.2.2.1 p hp6) hG.f11 E.2.1 E.2.2.2.2.1 E.2.2.2.2.2.1 (s := s) (by (try dsimp only); rw [src_0]; exact s1) (by omega) (hasC_pos.mp s4) (by omega)
            exact ev_inp rfl rfl (by omega) (ev_gr hT.1 hF.1.2.2.2.2.2.2 (ev_tg hgT.1 (ev_eq e1 (ev_cl rfl (h.scr hT (fun b _ x2 x3 x4 => o1 b (by omega) x2) (hS.keep (fun b x1 x2 => o1 b (by omega) (by omega)))) (fun b hb => o1 b (by omega) (by omega))))))
        · have hc : hasC G.2.1.1 p = false := by simpa using hc
          rw [if_pos (Or.inr hc)]
          exact ev_cl rfl h (fun _ _ => rfl)
      · rw [if_pos (Or.inl ho)]
        exact ev_cl rfl h (fun _ _ => rfl)
  · rw [if_neg hpn]
    exact ev_bxx (needPerson_0 ha hT h h6 hpn) rfl h (fun _ _ => rfl)
theorem ml_person {m : mm_V} {a b : Int} (ha : i32 a) (hb : i32 b) (hT : imT e q) (hp : pureI C G M K) (h : IM e m q C G M) : Ev (X12_person e q (zI a) (zI b) m) (mlS (prsA C G a b) e q C G M m) := by
  have hN := hT.2.1
  have hT := hT.1
  have h6 := hp.1.2.1
  have hlen := hp.2.2.1.1.1.len hp.1.2.2.1
  have h0 := h.th (zI 0)
  have z0 : (mm_up m q 0 (.int (zI 0))) q 0 = .int (zI 0) := up_at _ _ _ _
  have fr : ∀ b, (b < q ∨ q + 40 ≤ b) → (mm_up m q 0 (.int (zI 0))) b = m b := fr_th
  have hb' := hb
  unfold X12_person X12_person_b23 X12_person_b66 X12_person_b96
  simp only [LT, zI_neg]
  refine ev_pf hT.me ?_
  generalize mm_up m q 0 (.int (zI 0)) = m0 at h0 z0 fr
  obtain ⟨g1, ⟨g2, g3, g4, g5, g6, g7⟩, ⟨g8, g9, g10, g11, g12⟩, g13, ⟨-, g14, g14'⟩, g15, g16⟩ := id h0
  have S := g1.2.1
  have r14 := hT.now_
  unfold prsA
  by_cases hpn : 0 ≤ a ∧ a < C.1
  · rw [if_pos hpn]
    refine ev_eq (X12_isPerson_1 ha hT z0 g1.2.2.1 h6 hpn) (ev_iqn (x := 1) (y := 0) rfl rfl (by omega) ?_)
    obtain ⟨p, rfl⟩ : ∃ p : Nat, a = p := ⟨a.toNat, by omega⟩
    rw [Int.toNat_natCast]
    have hpN : p < C.1 := by omega
    have hp6 : p < 6 := by omega
    have hl10 := hlen p
    unfold i32 at hb
    by_cases hw : 0 ≤ b ∧ b ≤ 7
    · rw [if_pos hw]
      refine ev_eq (X12_isWhat_1 hb' ⟨by omega, by omega⟩ hT z0 hw) (ev_inp (x := 1) (y := 0) rfl rfl (by omega) ?_)
      by_cases hb2 : 2 ≤ b
      · rw [if_pos hb2]
        obtain ⟨k, rfl⟩ : ∃ k : Nat, b = (k : Int) + 2 := ⟨(b - 2).toNat, by omega⟩
        have hk : ((k : Int) + 2).toNat - 2 = k := by omega
        rw [hk]
        refine ev_ien rfl rfl (by omega) (ev_gr hT.me S.habits_ (ev_ai (6 * p + k) hT.habits_ ?_ (by omega) (by omega) (g11 _ (by omega)) (ev_ml rfl z0 h0 fr)))
        rw [zI_mul, zI_add, zI_sub]; congr 1 <;> omega
      · rw [if_neg hb2]
        refine ev_iep rfl rfl (by omega) (ev_gr hT.me S.now_ (ev_eq (X12_isOver_eq r14 hT.me g14.1 g1.2.2.1 h6 (by omega)) (ev_bn (fun ho => ?_) (fun ho => ?_))))
        · refine ev_gr hT.me S.now_ (ev_eq (X12_size_eq r14 g14.1 hp6) ?_)
          by_cases hc : hasC G.2.1.1 p = true
          · rw [if_neg (show ¬ (isOv C.1 G.2.1.1 = true ∨ hasC G.2.1.1 p = false) by (try dsimp only); rw [ho, hc]; simp)]
            have hcp := hasC_pos.mp hc
            obtain ⟨s, s1, s2, s3, s4⟩ := nxt_ex ho hpN
            refine ev_inp rfl rfl (by omega) (ev_gr hT.me S.now_ (ev_eq (X12_nextOf_eq r14 hT.me g14.1 g1.2.2.1 g1.2.2.2.2.2.2.1 h6 hpN (by omega)) ?_))
            by_cases hb0' : b = 0
            · rw [if_pos hb0']
              exact ev_inn rfl rfl (by omega) (ev_ml rfl z0 h0 fr)
            · rw [if_neg hb0', s1]
              obtain ⟨m', e1, o1⟩ := X12_drawsAt_eq (e := e) (sit := idF) hT S r14 (by omega) g14.1 g14.2.2.1 hp6 (g14.2.2.2 p hp6) (g13 p hp6).1 (g13 p hp6).2 g1.2.2.2.2.1 g1.2.2.2.2.2.1 (s := s) (by omega) (hasC_pos.mp s4) (by omega)
              exact ev_inp rfl rfl (by omega) (ev_gr hT.me S.now_ (ev_eq e1 (ev_ml rfl (by (try dsimp only); rw [o1 _ (by omega)]; exact z0) (h0.scr (fun k _ _ _ _ _ _ _ _ => by (try dsimp only); rw [o1 _ (by omega)]) (fun b x1 x2 => o1 b (by omega))) (fun b hb => by (try dsimp only); rw [o1 b (by omega)]; exact fr b hb))))
          · have hc' : hasC G.2.1.1 p = false := by simpa using hc
            rw [if_pos (Or.inr hc')]
            have hcp : ¬ 0 < (G.2.1.1 p).length := fun hh => hc (hasC_pos.mpr hh)
            exact ev_inn rfl rfl (by omega) (ev_ml rfl z0 h0 fr)
        · rw [if_pos (Or.inl ho)]
          exact ev_ml rfl z0 h0 fr
    · rw [if_neg hw]
      exact ev_eq (X12_isWhat_0 hb' ⟨by omega, by omega⟩ hT z0 hw) (ev_inn (x := 0) (y := 0) rfl rfl (by omega) (ev_mlx rfl (up_at _ _ _ _) (h0.th _) (fun b hb => by (try dsimp only); rw [up_row _ _ _ (by omega)]; exact fr b hb)))
  · rw [if_neg hpn]
    exact ev_eq (X12_isPerson_0 ha hT z0 g1.2.2.1 h6 hpn) (ev_iqp (x := 0) (y := 0) rfl rfl (by omega) (ev_mlx rfl (up_at _ _ _ _) (h0.th _) (fun b hb => by (try dsimp only); rw [up_row _ _ _ (by omega)]; exact fr b hb)))
/-! draw -/
def hsAt (N : Nat) (S : PS) (k : Nat) : HS := (S, tn S, sc N S, k, (S.1 (sc N S)).getD k 0)
def stepG (C : CF) (G : GM) (k : Nat) : GM := (G.1, hsN C.2.2.2.1 C.1 (hsAt C.1 G.2.1 k), addH G.2.2.1 (hsAt C.1 G.2.1 k), G.2.2.2)
theorem hsAt_ok {N P k : Nat} {S : PS} (ok : okS N P S) (hov : isOv N S.1 = false) (hk : k < (S.1 (sc N S)).length) : hsOk N P (hsAt N S k) := by
  obtain ⟨p, s, h1, h2, h3, h4, h5, h6, h7, h8, h9, -⟩ := nxk_ex (fun _ => []) idF ok hov
  refine ⟨ok, hov, ?_, ?_, ?_, ?_, ?_, getD_some hk⟩
  · show S.2.2.1 = some (tn S); rw [h8]; exact h1
  · show tn S < N; rw [h8]; exact h2
  · show nxt N S.1 (tn S) = some (sc N S); rw [h8, h9]; exact h3
  · show sc N S < N; rw [h9]; exact h5
  · show sc N S ≠ tn S; rw [h8, h9]; exact h6
theorem stepG_ok {k : Nat} (h : pureI C G M K) (hov : isOv C.1 G.2.1.1 = false) (hk : k < (G.2.1.1 (sc C.1 G.2.1)).length) (hb : K + 1 ≤ 1000000) : pureI C (stepG C G k) M (K + 1) := by
  have h' := h.mono (Nat.le_succ K) hb
  obtain ⟨h1, h2, h3, h4, h5, h6⟩ := h
  have ho := hsAt_ok h3.1 hov hk
  exact ⟨h1, h2, histOk.add (h := hsAt C.1 G.2.1 k) h3 ho, h'.2.2.2.1, h'.2.2.2.2.1, hb⟩
theorem addH_map {α : Type} (f : HS → α) (hs : List HS) (h : HS) : (addH hs h).map f = (if (hs.map f).length < 60 then hs.map f else (hs.map f).drop 1) ++ [f h] := by
  unfold addH
  rw [List.map_append, List.length_map]
  split
  · rfl
  · rw [List.map_drop]; rfl
theorem cl_step {m : mm_V} {k : Nat} (hT : icT e z) (hp : pureI C G M K) (h : IC e m z t d C G M) (hov : isOv C.1 G.2.1.1 = false) (hk : k < (G.2.1.1 (sc C.1 G.2.1)).length) : ∃ (dd : Nat) (m1 m2 : mm_V), X5_fresh e (z + 47) m = some (dd, m1) ∧ X4_step e (z + 173) (zI k) dd m1 = some m2 ∧ m1 z = m z ∧ e.1 dd = some (2, 9) ∧ (∀ j, j < 9 → m2 dd j = .int (hsV C.2.2.2.1 (hsAt C.1 G.2.1 k) j)) ∧ IC e m2 z t d C (stepG C G k) M ∧ ∀ b, (b < z ∨ z + 402 ≤ b) → m2 b = m b := by
  obtain ⟨h1, hF, hA, hC, hD, hR, hL, ⟨⟨x, hG⟩, hG2, hG3⟩, hS, hI, hst⟩ := id h
  have htf := t_far h
  have hgT := hT.2.2.2.2.2.1
  have ok := hp.2.2.1.1
  have hN := hT.2.2.2.2.2.2.2.2.2.2.2.2.2.2
  have E := hC.1
  obtain ⟨o1, o2, o3, o4, o5, o6, o7, o8⟩ := hsAt_ok ok hov hk
  obtain ⟨dd, m1, e1, d1, d2, d3, f1, f2⟩ := X5_fresh_eq (e := e) hT.2.2.2.1 hL.1
  have E1 : cE e m1 t C.1 C.2.1 C.2.2.2.1 := E.keep (fun b x1 x2 x3 => f1 b (by omega))
  have G1 : gC m1 (z + 173) t idF (zI 0) (zI 0) x G.2.1 := hG.keep (fun b x1 x2 x3 x4 => f1 b (by omega))
  obtain ⟨m2, e2, G2, r2, g2⟩ := X4_step_pure (e := e) (d := dd) E1 hgT (by omega) d1 (by omega) (by omega) G1 ok (fun i hi => hi) o3 o4 (by (try dsimp only); rw [src_0]; exact o5) o6 o7 o8 (by omega)
  have fr : ∀ b, b ≠ z + 47 → (b < z + 173 ∨ z + 193 ≤ b) → b ≠ dd → b ≠ t + 6 → m2 b = m b := fun b x1 x2 x3 x4 => by (try dsimp only); rw [g2 b (by omega) x3 x4, f1 b x1]
  refine ⟨dd, m1, m2, e1, e2, f1 z (by omega), d1, r2, ?_, fun b hb => fr b (by omega) (by omega) (by omega) (by omega)⟩
  have hlog : logR m2 (z + 47) ((addH G.2.2.1 (hsAt C.1 G.2.1 k)).map (hsV C.2.2.2.1)) := by
    rw [addH_map]
    refine f2 m2 _ (fun b x1 x2 x3 => g2 b (by omega) x3 (by omega)) ⟨r2, ?_, ?_⟩
    · show bZ (hasQ G.2.1.1 (sc C.1 G.2.1)) = 0 ∨ bZ (hasQ G.2.1.1 (sc C.1 G.2.1)) = 1
      cases hasQ G.2.1.1 (sc C.1 G.2.1) with
      | false => exact Or.inl rfl
      | true => exact Or.inr rfl
    · show bZ (idx ((G.2.1.1 (sc C.1 G.2.1)).getD k 0) (G.2.1.1 (tn G.2.1))).isSome = 0 ∨ bZ (idx ((G.2.1.1 (sc C.1 G.2.1)).getD k 0) (G.2.1.1 (tn G.2.1))).isSome = 1
      cases (idx ((G.2.1.1 (sc C.1 G.2.1)).getD k 0) (G.2.1.1 (tn G.2.1))).isSome with
      | false => exact Or.inl rfl
      | true => exact Or.inr rfl
  exact ⟨h1, hF.keep (fr _ (by omega) (by omega) (by omega) (by omega)), fun i hi => by (try dsimp only); rw [fr _ (by omega) (by omega) (by omega) (by omega)]; exact hA i hi, hC.keep (fun b x1 x2 x3 => fr b (by omega) (by omega) (by omega) x3), hD.keep (fun b x1 x2 x3 => fr b (by omega) (by omega) (by omega) (by rcases h1 with h1 | h1 <;> omega)), hR.row (fun b x1 x2 => fr b (by omega) (by omega) (by omega) (by omega)), ⟨hlog, hL.2.elim (fun H hH => ⟨H, hH.keep (fun b x1 x2 => fr b (by omega) (by omega) (by omega) (by omega))⟩)⟩, ⟨⟨x, G2⟩, hG2.elim (fun y hy => ⟨y, hy.keep (fun b x1 x2 x3 x4 => fr b (by omega) (by omega) (by omega) (by omega))⟩), hG3.keep (fun b x1 x2 => fr b (by omega) (by omega) (by omega) (by omega))⟩, hS.keep (fun b x1 x2 => fr b (by omega) (by omega) (by omega) (by omega)), hI.keep (fun b x1 => fr b (by omega) (by omega) (by omega) (by omega)), hst.keep hT.2.2.2.2.2.2.2.2.2.2.2.2.2.1 (fun b hb => fr b (by omega) (by omega) (by omega) (by omega))⟩
theorem ml_step {m : mm_V} {k : Nat} (hT : imT e q) (hp : pureI C G M K) (h : IM e m q C G M) (hov : isOv C.1 G.2.1.1 = false) (hk : k < (G.2.1.1 (sc C.1 G.2.1)).length) : ∃ m', X12_drawsNow e q (zI k) m = some m' ∧ IM e m' q C (stepG C G k) M ∧ m' q 0 = m q 0 ∧ m' q 45 = .int (zI ((G.2.1.1 (sc C.1 G.2.1)).getD k 0)) ∧ m' q 47 = .int (bZ (idx ((G.2.1.1 (sc C.1 G.2.1)).getD k 0) (G.2.1.1 (tn G.2.1))).isSome) ∧ ∀ b, (b < q ∨ q + 40 ≤ b) → m' b = m b := by
  have hN := hT.2.1
  have hT := hT.1
  obtain ⟨g1, ⟨g2, g3, g4, g5, g6, g7⟩, ⟨g8, g9, g10, g11, g12⟩, g13, ⟨⟨g14a, g14b⟩, g14, g14'⟩, g15, g16⟩ := id h
  have ok := hp.2.2.1.1
  have hP := hp.1.2.2.1
  obtain ⟨o1, o2, o3, o4, o5, o6, o7, o8⟩ := hsAt_ok ok hov hk
  have hc : (G.2.1.1 (sc C.1 G.2.1)).getD k 0 ≤ C.2.1 := ok.1.2.1 _ _ (List.mem_of_getElem? o8)
  have htu : m (q + 14) 0 = .int (zI (tn G.2.1)) := by
    rw [g14.2.1, hov, show G.2.1.2.2.1 = some (tn G.2.1) from o3]; rfl
  obtain ⟨m', e1, r1, r2, r3, r4, r5, r6, r7, r8, r9⟩ := X12_drawsNow_eq (e := e) (sit := idF) hT g1.2.1 g14.1 (ok.1.lt hP) g1.2.2.1 g1.2.2.2.2.2.2.1 g1.2.2.2.2.2.2.2.1 o4 (by have := hp.1.2.1; have : sc C.1 G.2.1 < C.1 := o6; omega) o7 o5 o8 (ok.1.queen o7 o8) htu g14.2.2.1 g14.2.2.2 (g13 _ (by have := hp.1.2.1; have : tn G.2.1 < C.1 := o4; omega)).1 (g13 _ (by have := hp.1.2.1; have : tn G.2.1 < C.1 := o4; omega)).2 g1.2.2.2.2.1 g1.2.2.2.2.2.1 (fun hi => by have := ok.1.room hP hc hi; have : (G.2.1.1 (tn G.2.1)).length < 10 := this; show (G.2.1.1 (tn G.2.1)).length < 19; omega) g15 (by omega)
  have hik := X12_drawsNow_iK e1
  refine ⟨m', e1, ⟨g1.keep' (L := [45, 46, 47, 48]) (by decide) (fun j hj => by
    simp only [List.mem_cons, List.not_mem_nil, or_false, not_or] at hj
    exact r8 j hj.1 hj.2.1 hj.2.2.1 hj.2.2.2) (r9 _ (by omega) (by omega) (by omega) (by omega)) (r9 _ (by omega) (by omega) (by omega) (by omega)), ⟨by (try dsimp only); rw [r8 _ (by omega) (by omega) (by omega) (by omega)]; exact g2, by (try dsimp only); rw [r8 _ (by omega) (by omega) (by omega) (by omega)]; exact g3, by (try dsimp only); rw [r8 _ (by omega) (by omega) (by omega) (by omega)]; exact g4, by (try dsimp only); rw [r8 _ (by omega) (by omega) (by omega) (by omega)]; exact g5, by (try dsimp only); rw [r8 _ (by omega) (by omega) (by omega) (by omega)]; exact g6, by (try dsimp only); rw [r8 _ (by omega) (by omega) (by omega) (by omega)]; exact g7⟩, ⟨fun i hi => by (try dsimp only); rw [r9 _ (by omega) (by omega) (by omega) (by omega)]; exact g8 i hi, by (try dsimp only); rw [r9 _ (by omega) (by omega) (by omega) (by omega)]; exact g9, by (try dsimp only); rw [r9 _ (by omega) (by omega) (by omega) (by omega)]; exact g10, fun i hi => by (try dsimp only); rw [r9 _ (by omega) (by omega) (by omega) (by omega)]; exact g11 i hi, g12.keep (r9 _ (by omega) (by omega) (by omega) (by omega))⟩, g13.keep (r9 _ (by omega) (by omega) (by omega) (by omega)), ⟨⟨g14a.keep (r9 _ (by omega) (by omega) (by omega) (by omega)), g14b.keep (r9 _ (by omega) (by omega) (by omega) (by omega))⟩, ⟨r1, r3, r2, r4⟩, fun j hj => hik (q + 14) 128 hT.now_ j (g14' j hj)⟩, ?_, fun Si Hi hx => ?_⟩, r8 _ (by omega) (by omega) (by omega) (by omega), r5, r6, fun b hb => r9 b (by omega) (by omega) (by omega) (by omega)⟩
  · show mlogR m' q ((addH G.2.2.1 (hsAt C.1 G.2.1 k)).map (hsV C.2.2.2.1))
    rw [addH_map]; exact r7
  · obtain ⟨d1, d2, d3, d4⟩ := g16 Si Hi hx
    exact ⟨by (try dsimp only); rw [r8 _ (by omega) (by omega) (by omega) (by omega)]; exact d1, d2.keep (r9 _ (by omega) (by omega) (by omega) (by omega)), d3.keep (r9 _ (by omega) (by omega) (by omega) (by omega)), d4.keep (r9 _ (by omega) (by omega) (by omega) (by omega))⟩
def drwOk (C : CF) (G : GM) (a : Int) : Prop := isOv C.1 G.2.1.1 = false ∧ 0 ≤ a ∧ a < (G.2.1.1 (sc C.1 G.2.1)).length
def drwV (C : CF) (G : GM) (k : Nat) : Int32 := if (idx ((G.2.1.1 (sc C.1 G.2.1)).getD k 0) (G.2.1.1 (tn G.2.1))).isSome then zI (((G.2.1.1 (sc C.1 G.2.1)).getD k 0 + 100 : Nat) : Int) else zI ((G.2.1.1 (sc C.1 G.2.1)).getD k 0)
def rdM (M : MI) : MI := (M.1, M.2.1, M.2.2.1, M.2.2.2.1, M.2.2.2.2 + 1)
theorem rdM_ok (h : pureI C G M K) (hb : K + 1 ≤ 1000000) : pureI C G (rdM M) (K + 1) := by
  have h' := h.mono (Nat.le_succ K) hb
  obtain ⟨h1, h2, h3, h4, ⟨h5, h6, h7, h8, h9, h10⟩, h11⟩ := h
  exact ⟨h1, h2, h'.2.2.1, h'.2.2.2.1, ⟨h5, h6, h7, h8, by show M.2.2.2.1 ≤ K + 1; omega, by show M.2.2.2.2 + 1 ≤ K + 1; omega⟩, hb⟩
theorem cl_refuse {m : mm_V} (hT : icT e z) (h : IC e m z t d C G M) : Ev (X11_draw_b38 e z m) (clR (zI (-1)) e z t d C G (rdM M) m) := by
  obtain ⟨h1, hF, hA, hC, hD, hR, hL, hG, hS, hI, hst⟩ := id h
  have htf := t_far h
  unfold X11_draw_b38
  simp only [LT, zI_neg]
  refine ev_gi hT.1 hF.2.2.2.2.2.2 (ev_pf hT.1 ?_)
  rw [show (zI (M.2.2.2.2 : Int) + zI 1 : Int32) = zI ((M.2.2.2.2 + 1 : Nat) : Int) from zI_add _ _]
  have oz : ∀ b, b ≠ z → (mm_up m z 18 (.int (zI ((M.2.2.2.2 + 1 : Nat) : Int)))) b = m b := fun b hb => up_row _ _ _ hb
  have fz : ∀ k, k ≠ 18 → (mm_up m z 18 (.int (zI ((M.2.2.2.2 + 1 : Nat) : Int)))) z k = m z k := fun k hk => up_ne _ _ (Or.inr hk)
  have az : (mm_up m z 18 (.int (zI ((M.2.2.2.2 + 1 : Nat) : Int)))) z 18 = .int (zI ((M.2.2.2.2 + 1 : Nat) : Int)) := up_at _ _ _ _
  generalize mm_up m z 18 (.int (zI ((M.2.2.2.2 + 1 : Nat) : Int))) = m5 at oz fz az
  exact ev_ret ⟨rfl, ⟨h1, ⟨⟨by (try dsimp only); rw [fz _ (by omega)]; exact hF.1.1, by (try dsimp only); rw [fz _ (by omega)]; exact hF.1.2.1, by (try dsimp only); rw [fz _ (by omega)]; exact hF.1.2.2.1, by (try dsimp only); rw [fz _ (by omega)]; exact hF.1.2.2.2.1, by (try dsimp only); rw [fz _ (by omega)]; exact hF.1.2.2.2.2.1, by (try dsimp only); rw [fz _ (by omega)]; exact hF.1.2.2.2.2.2.1, by (try dsimp only); rw [fz _ (by omega)]; exact hF.1.2.2.2.2.2.2⟩, ⟨by (try dsimp only); rw [fz _ (by omega)]; exact hF.2.1.1, by (try dsimp only); rw [fz _ (by omega)]; exact hF.2.1.2.1, by (try dsimp only); rw [fz _ (by omega)]; exact hF.2.1.2.2.1, by (try dsimp only); rw [fz _ (by omega)]; exact hF.2.1.2.2.2.1, by (try dsimp only); rw [fz _ (by omega)]; exact hF.2.1.2.2.2.2.1, by (try dsimp only); rw [fz _ (by omega)]; exact hF.2.1.2.2.2.2.2.1, by (try dsimp only); rw [fz _ (by omega)]; exact hF.2.1.2.2.2.2.2.2⟩, by (try dsimp only); rw [fz _ (by omega)]; exact hF.2.2.1, by (try dsimp only); rw [fz _ (by omega)]; exact hF.2.2.2.1, by (try dsimp only); rw [fz _ (by omega)]; exact hF.2.2.2.2.1, by (try dsimp only); rw [fz _ (by omega)]; exact hF.2.2.2.2.2.1, az⟩, fun i hi => by (try dsimp only); rw [oz _ (by omega)]; exact hA i hi, hC.keep (fun b x1 x2 x3 => oz b (by omega)), hD.keep (fun b x1 x2 x3 => oz b (by rcases h1 with h1 | h1 <;> omega)), hR.row (fun b x1 x2 => oz b (by omega)), hL.keep (fun b x1 x2 => oz b (by omega)), hG.keep (fun b x1 x2 x3 x4 => oz b (by omega)), hS.keep (fun b x1 x2 => oz b (by omega)), hI.keep (fun b x1 => oz b (by omega)), hst.keep hT.2.2.2.2.2.2.2.2.2.2.2.2.2.1 (fun b hb => oz b (by omega))⟩, fun b hb => oz b (by omega)⟩
theorem ml_refuse {m m0 : mm_V} (hT : imT e q) (h : IM e m q C G M) (hf : ∀ b, (b < q ∨ q + 40 ≤ b) → m b = m0 b) : Ev (X12_draw_b45 e q m) (mlR (zI (-1)) e q C G (rdM M) m0) := by
  have hT := hT.1
  obtain ⟨g1, ⟨g2, g3, g4, g5, g6, g7⟩, ⟨g8, g9, g10, g11, g12⟩, g13, ⟨⟨g14a, g14b⟩, g14, g14'⟩, g15, g16⟩ := id h
  unfold X12_draw_b45
  simp only [LT, zI_neg]
  refine ev_gr hT.me g1.2.1.refused_ (ev_ai 1 hT.refused_ rfl (by omega) (by omega) g10 (ev_si 1 hT.refused_ rfl (by omega) (by omega) ?_))
  rw [show (zI (M.2.2.2.2 : Int) + zI 1 : Int32) = zI ((M.2.2.2.2 + 1 : Nat) : Int) from zI_add _ _]
  have oz : ∀ b, b ≠ q + 5 → (mm_up m (q + 5) 1 (.int (zI ((M.2.2.2.2 + 1 : Nat) : Int)))) b = m b := fun b hb => up_row _ _ _ hb
  have a0 : (mm_up m (q + 5) 1 (.int (zI ((M.2.2.2.2 + 1 : Nat) : Int)))) (q + 5) 0 = m (q + 5) 0 := up_ne _ _ (by omega)
  have a1 : (mm_up m (q + 5) 1 (.int (zI ((M.2.2.2.2 + 1 : Nat) : Int)))) (q + 5) 1 = .int (zI ((M.2.2.2.2 + 1 : Nat) : Int)) := up_at _ _ _ _
  generalize mm_up m (q + 5) 1 (.int (zI ((M.2.2.2.2 + 1 : Nat) : Int))) = m5 at oz a0 a1
  have hq := oz q (by omega)
  refine ev_ret ⟨rfl, ⟨g1.keep (fun j _ => by (try dsimp only); rw [hq]) (oz _ (by omega)) (oz _ (by omega)), ⟨by (try dsimp only); rw [hq]; exact g2, by (try dsimp only); rw [hq]; exact g3, by (try dsimp only); rw [hq]; exact g4, by (try dsimp only); rw [hq]; exact g5, by (try dsimp only); rw [hq]; exact g6, by (try dsimp only); rw [hq]; exact g7⟩, ⟨fun i hi => by (try dsimp only); rw [oz _ (by omega)]; exact g8 i hi, by (try dsimp only); rw [a0]; exact g9, a1, fun i hi => by (try dsimp only); rw [oz _ (by omega)]; exact g11 i hi, g12.keep (oz _ (by omega))⟩, g13.keep (oz _ (by omega)), ⟨⟨g14a.keep (oz _ (by omega)), g14b.keep (oz _ (by omega))⟩, g14.keep (oz _ (by omega)), g14'.keep (oz _ (by omega))⟩, g15.keep (by (try dsimp only); rw [hq]) (oz _ (by omega)), fun Si Hi hx => ?_⟩, fun b hb => by (try dsimp only); rw [oz b (by omega)]; exact hf b hb⟩
  obtain ⟨d1, d2, d3, d4⟩ := g16 Si Hi hx
  exact ⟨by (try dsimp only); rw [hq]; exact d1, d2.keep (oz _ (by omega)), d3.keep (oz _ (by omega)), d4.keep (oz _ (by omega))⟩
theorem cl_draw {m : mm_V} {a : Int} (ha : i32 a) (hT : icT e z) (hp : pureI C G M K) (h : IC e m z t d C G M) : (drwOk C G a → Ev (X11_draw e z (zI a) m) (clR (drwV C G a.toNat) e z t d C (stepG C G a.toNat) M m)) ∧ (¬ drwOk C G a → Ev (X11_draw e z (zI a) m) (clR (zI (-1)) e z t d C G (rdM M) m)) := by
  obtain ⟨h1, hF, hA, hC, hD, hR, hL, ⟨⟨x, hG⟩, hG2, hG3⟩, hS, hI, hst⟩ := id h
  have hgT := hT.2.2.2.2.2.1
  have ok := hp.2.2.1.1
  have hN := hT.2.2.2.2.2.2.2.2.2.2.2.2.2.2
  have E := hC.1
  have h6 := hp.1.2.1
  have hlen := ok.1.len hp.1.2.2.1
  have key : ∀ P : Int32 × mm_V → Prop, (isOv C.1 G.2.1.1 = true → Ev (X11_draw_b38 e z m) P) → (isOv C.1 G.2.1.1 = false → ¬ (0 ≤ a ∧ a < (G.2.1.1 (sc C.1 G.2.1)).length) → Ev (X11_draw_b38 e z m) P) → (isOv C.1 G.2.1.1 = false → (0 ≤ a ∧ a < (G.2.1.1 (sc C.1 G.2.1)).length) → ∀ (dd : Nat) (m1 m2 : mm_V), X5_fresh e (z + 47) m = some (dd, m1) → X4_step e (z + 173) (zI a) dd m1 = some m2 → m1 z = m z → e.1 dd = some (2, 9) → (∀ j, j < 9 → m2 dd j = .int (hsV C.2.2.2.1 (hsAt C.1 G.2.1 a.toNat) j)) → P (drwV C G a.toNat, m2)) → Ev (X11_draw e z (zI a) m) P := by
    intro P k1 k2 k3
    unfold i32 at ha
    unfold X11_draw X11_draw_b88
    simp only [LT, zI_neg]
    refine ev_gr hT.1 hF.1.2.2.2.2.2.2 (ev_tg hgT.1 (ev_eq (X4_over_eq hgT E.1.1 hG.1 hG.2.1 E.2.2.1 h6 (by omega)) (ev_bn (fun ho => ?_) (fun ho => k1 ho))))
    obtain ⟨p, s, n1, n2, n3, n4, n5, n6, n7, n8, n9, -⟩ := nxk_ex C.2.2.2.1 idF ok ho
    have hs6 : s < 6 := by omega
    have hfT := hgT.2.2.2.2.2.2.2 s hs6
    have hfR : fanR m (z + 173 + 8 + 2 * s) (G.2.1.1 s) := hG.2.1 s hs6
    have hls := hlen s
    refine ev_gr hT.1 hF.1.2.2.2.2.2.2 (ev_gr hT.1 hF.1.2.2.2.2.2.2 (ev_gr hT.1 hF.1.2.2.2.2.2.2 (ev_gi hgT.1 hG.f10 (ev_tg hgT.1 ?_))))
    rw [n1]
    refine ev_eq (X4_source_eq (p := p) hgT E.1.1 hG.1 hG.2.1 E.2.2.1 E.2.2.2.2.2.2.1 h6 n2 hG.f7 (by omega)) ?_
    rw [n4]
    refine ev_tg hgT.1 (ev_eq (X4_fanAt_eq (p := s) hgT hG.1 hs6) (ev_tg hfT.1 (ev_eq (X3_hasPlace_eq hfT hfR ha.1 ha.2) ?_)))
    have hsc : sc C.1 G.2.1 = s := n9
    by_cases hb2 : 0 ≤ a ∧ a < (G.2.1.1 s).length
    · dsimp only
      rw [if_pos (show 0 ≤ a ∧ a < ((G.2.1.1 s).length : Int) from hb2), if_pos (show ¬ zI 1 = zI 0 by decide)]
      have hb3 : 0 ≤ a ∧ a < (G.2.1.1 (sc C.1 G.2.1)).length := by (try dsimp only); rw [hsc]; exact hb2
      obtain ⟨k, hk⟩ : ∃ k : Nat, a = k := ⟨a.toNat, by omega⟩
      have hkn : a.toNat = k := by omega
      obtain ⟨dd, m1, m2, x1, x2, x3, x4, x5, x6, x7⟩ := cl_step (k := k) hT hp h ho (by omega)
      have x2' : X4_step e (z + 173) (zI a) dd m1 = some m2 := by (try dsimp only); rw [hk]; exact x2
      have k3 := k3 ho hb3 dd m1 m2 x1 x2' x3 x4 (by (try dsimp only); rw [hkn]; exact x5)
      have v5 : m2 dd 5 = .int (zI ((G.2.1.1 (sc C.1 G.2.1)).getD k 0)) := x5 5 (by omega)
      have v6 : m2 dd 6 = .int (bZ (idx ((G.2.1.1 (sc C.1 G.2.1)).getD k 0) (G.2.1.1 (tn G.2.1))).isSome) := x5 6 (by omega)
      refine ev_gr hT.1 hF.1.2.2.2.2.1 (ev_tg hT.2.2.2.1.1 (ev_eq x1 (ev_gr hT.1 (v := z + 173) (by (try dsimp only); rw [x3]; exact hF.1.2.2.2.2.2.2) (ev_tg hgT.1 (ev_eq x2' (ev_gi x4 v6 (ev_bz (fun b => ?_) (fun b => ?_))))))))
      · refine ev_gi x4 v5 (ev_ret ?_)
        have : drwV C G a.toNat = zI ((G.2.1.1 (sc C.1 G.2.1)).getD k 0) := by unfold drwV; rw [hkn, b]; rfl
        rw [← this]; exact k3
      · refine ev_gi x4 v5 (ev_ret ?_)
        have : drwV C G a.toNat = zI ((G.2.1.1 (sc C.1 G.2.1)).getD k 0) + zI 100 := by unfold drwV; rw [hkn, b, if_pos rfl]; exact (zI_100' _).symm
        rw [← this]; exact k3
    · dsimp only
      rw [if_neg (show ¬ (0 ≤ a ∧ a < ((G.2.1.1 s).length : Int)) from hb2), if_neg (show ¬ ¬ zI 0 = zI 0 from fun h => h rfl)]
      exact k2 ho (by (try dsimp only); rw [hsc]; exact hb2)
  constructor
  · intro hd
    refine key _ (fun ho => by (try dsimp only); rw [hd.1] at ho; cases ho) (fun _ hn => absurd hd.2 hn) (fun ho hb dd m1 m2 x1 x2 x3 x4 x5 => ?_)
    obtain ⟨dd', m1', m2', y1, y2, y3, y4, y5, y6, y7⟩ := cl_step (k := a.toNat) hT hp h ho (by omega)
    rw [x1] at y1; cases y1
    have y2' : X4_step e (z + 173) (zI a) dd m1 = some m2' := by
      have : ((a.toNat : Nat) : Int) = a := by omega
      rw [this] at y2; exact y2
    rw [x2] at y2'; cases y2'
    exact ⟨rfl, y6, y7⟩
  · intro hd
    exact key _ (fun ho => cl_refuse hT h) (fun ho hn => cl_refuse hT h) (fun ho hb => absurd ⟨ho, hb⟩ hd)
theorem ml_draw {m : mm_V} {a : Int} (ha : i32 a) (hT : imT e q) (hp : pureI C G M K) (h : IM e m q C G M) : (drwOk C G a → Ev (X12_draw e q (zI a) m) (mlR (drwV C G a.toNat) e q C (stepG C G a.toNat) M m)) ∧ (¬ drwOk C G a → Ev (X12_draw e q (zI a) m) (mlR (zI (-1)) e q C G (rdM M) m)) := by
  have hTT := hT
  have hN := hT.2.1
  have hT := hT.1
  have h6 := hp.1.2.1
  have ok := hp.2.2.1.1
  have hlen := ok.1.len hp.1.2.2.1
  have h0 := h.th (zI 0)
  have fr : ∀ b, (b < q ∨ q + 40 ≤ b) → (mm_up m q 0 (.int (zI 0))) b = m b := fr_th
  unfold X12_draw X12_draw_b83
  simp only [LT, zI_neg]
  rw [wr_pf hT.me, Option.bind_some]
  generalize mm_up m q 0 (.int (zI 0)) = m0 at h0 fr
  obtain ⟨g1, ⟨g2, g3, g4, g5, g6, g7⟩, ⟨g8, g9, g10, g11, g12⟩, g13, ⟨-, g14, g14'⟩, g15, g16⟩ := id h0
  have S := g1.2.1
  have r14 := hT.now_
  unfold i32 at ha
  have bad : Ev (X12_draw_b45 e q m0) (mlR (zI (-1)) e q C G (rdM M) m) := ml_refuse hTT h0 fr
  by_cases ho : isOv C.1 G.2.1.1 = true
  · have hov := X12_isOver_eq (e := e) r14 hT.me g14.1 g1.2.2.1 h6 (by omega)
    rw [ho] at hov
    refine ⟨fun hd => (by have := hd.1; rw [ho] at this; cases this), fun _ => ev_gr hT.me S.now_ (ev_eq hov (ev_inp (x := 1) (y := 0) rfl rfl (by omega) bad))⟩
  have ho : isOv C.1 G.2.1.1 = false := by simpa using ho
  have hov := X12_isOver_eq (e := e) r14 hT.me g14.1 g1.2.2.1 h6 (by omega)
  rw [ho] at hov
  obtain ⟨p, s, n1, n2, n3, n4, n5, n6, n7, n8, n9, -⟩ := nxk_ex C.2.2.2.1 idF ok ho
  have hs6 : s < 6 := by omega
  have hls := hlen s
  have hsc : sc C.1 G.2.1 = s := n9
  have htu : m0 (q + 14) 0 = .int (zI p) := by (try dsimp only); rw [g14.2.1, ho, n1]; rfl
  by_cases hneg : a < 0
  · exact ⟨fun hd => by have := hd.2.1; omega, fun _ => ev_gr hT.me S.now_ (ev_eq hov (ev_inn (x := 0) (y := 0) rfl rfl (by omega) (ev_ilp rfl rfl (by omega) bad)))⟩
  have nxq := X12_nextOf_eq (e := e) r14 hT.me g14.1 g1.2.2.1 g1.2.2.2.2.2.2.1 h6 n2 (by omega)
  rw [n3] at nxq
  have pre : ∀ P : Int32 × mm_V → Prop, Ev (if zI a < zI (G.2.1.1 s).length then ((X12_drawsNow e q (zI a) m0).bind fun r10 => (mm_gi e.1 r10 12 75 q 47).bind fun x11 => if x11 = zI 0 then ((mm_gi e.1 r10 12 75 q 45).bind fun x12 => some (x12, r10)) else ((mm_gi e.1 r10 12 75 q 45).bind fun x13 => some (zI 100 + x13, r10))) else X12_draw_b45 e q m0) P → Ev ((mm_gr e.1 m0 12 75 q 39).bind fun c2 => (X12_isOver e q c2 m0).bind fun r3 => if ¬ r3.1 = zI 0 then (X12_draw_b45 e q  r3.2) else (if zI a < zI 0 then (X12_draw_b45 e q  r3.2) else ((mm_gr e.1 r3.2 12 75 q 39).bind fun c4 => (mm_gr e.1 r3.2 12 75 q 39).bind fun c5 => (mm_gr e.1 r3.2 12 75 q 39).bind fun c6 => (mm_ai e.1 r3.2 20 c6 (zI 0)).bind fun x7 => (X12_nextOf e q c5 x7 r3.2).bind fun r8 => (X12_size e c4 r8.1 r8.2).bind fun r9 => if zI a < r9.1 then ((X12_drawsNow e q (zI a) r9.2).bind fun r10 => (mm_gi e.1 r10 12 75 q 47).bind fun x11 => if x11 = zI 0 then ((mm_gi e.1 r10 12 75 q 45).bind fun x12 => some (x12, r10)) else ((mm_gi e.1 r10 12 75 q 45).bind fun x13 => some (zI 100 + x13, r10))) else (X12_draw_b45 e q  r9.2)))) P := by
    intro P hP
    exact ev_gr hT.me S.now_ (ev_eq hov (ev_inn (x := 0) (y := 0) rfl rfl (by omega) (ev_iln rfl rfl (by omega) (ev_gr hT.me S.now_ (ev_gr hT.me S.now_ (ev_gr hT.me S.now_ (ev_ai 0 r14 rfl (by omega) (by omega) htu (ev_eq nxq (ev_eq (X12_size_eq (p := s) r14 g14.1 hs6) hP)))))))))
  by_cases hb2 : a < (G.2.1.1 s).length
  · refine ⟨fun hd => pre _ ?_, fun hd => absurd ⟨ho, by omega, by (try dsimp only); rw [hsc]; exact hb2⟩ hd⟩
    obtain ⟨k, rfl⟩ : ∃ k : Nat, a = k := ⟨a.toNat, by omega⟩
    rw [Int.toNat_natCast]
    obtain ⟨m1, x1, x2, x3, x4, x5, x6⟩ := ml_step (k := k) hTT hp h0 ho (by (try dsimp only); rw [hsc]; omega)
    refine ev_ilp rfl rfl (by omega) (ev_eq x1 (ev_gi hT.me x5 (ev_bz (fun b => ?_) (fun b => ?_))))
    · refine ev_gi hT.me x4 (ev_ret ⟨?_, x2, fun b hb => by (try dsimp only); rw [x6 b hb]; exact fr b hb⟩)
      unfold drwV; rw [b]; rfl
    · refine ev_gi hT.me x4 (ev_ret ⟨?_, x2, fun b hb => by (try dsimp only); rw [x6 b hb]; exact fr b hb⟩)
      unfold drwV; rw [b, if_pos rfl]; exact zI_100 _
  · exact ⟨fun hd => by have := hd.2.2; rw [hsc] at this; omega, fun _ => pre _ (ev_iln rfl rfl (by omega) bad)⟩
end CA2
