/-! CALLS: ends, has, isOut, rank, wouldLose. -/
section CA4
variable {e : mm_E} {z t d q K : Nat} {C : CF} {G : GM} {M : MI}
def wtN (C : CF) (S : PS) : AC × (PS × Int32) × Nat := watR C.2.2.2.1 idF (zI 0) (zI 0) C.1 S (zI 0)
theorem cl_trial {m : mm_V} (hT : icT e z) (h : IC e m z t d C G M) : ∃ (x : Int32) (m1 : mm_V), X4_copyFrom e (z + 233) (z + 173) m = some m1 ∧ gC m1 (z + 233) t idF (zI 0) (zI 0) x G.2.1 ∧ ∀ b, (b < z + 233 ∨ z + 253 ≤ b) → m1 b = m b := by
  obtain ⟨h1, hF, hA, hC, hD, hR, hL, ⟨⟨x, hG⟩, hG2⟩, ⟨⟨t0, f0, x0, w1, w2, w3⟩, hS2⟩, hI, hst⟩ := id h
  have hN := hT.2.2.2.2.2.2.2.2.2.2.2.2.2.2
  obtain ⟨m1, e1, G1, o1⟩ := X4_copyFrom_eq (e := e) hT.2.2.2.2.2.2.2.2.1 hT.2.2.2.2.2.1 (by omega) w1 w2 hG (Or.inl rfl) (by omega)
  exact ⟨x, m1, e1, G1, fun b hb => o1 b (by omega)⟩
/-- a game watched on the trial's board -/
theorem cl_watch {m m1 : mm_V} {x : Int32} {S : PS} (hT : icT e z) (h : IC e m z t d C G M) (G1 : gC m1 (z + 233) t idF (zI 0) (zI 0) x S) (ok : okS C.1 C.2.1 S) (o1 : ∀ b, (b < z + 233 ∨ z + 254 ≤ b) → b ≠ t + 6 → m1 b = m b) : ∃ m2, X7_watch e (z + 254) (z + 233) m1 = some m2 ∧ plaR m2 (z + 254) (wtN C S).1 (wtN C S).2.2 ∧ acB (wtN C S).1 (wtN C S).2.2 ∧ (wtN C S).2.2 ≤ 200 ∧ m2 (z + 254) 4 = .int (ozI (lsr C.1 (wtN C S).2.1.1.1)) ∧ IC e m2 z t d C G M ∧ (∀ b, b < z + 233 → b ≠ t + 6 → m2 b = m b) ∧ ∀ b, (b < z ∨ z + 402 ≤ b) → m2 b = m b := by
  obtain ⟨h1, hF, hA, hC, hD, hR, hL, hG, hS, hI, hst⟩ := id h
  have htf := t_far h
  have hN := hT.2.2.2.2.2.2.2.2.2.2.2.2.2.2
  have E1 : cE e m1 t C.1 C.2.1 C.2.2.2.1 := hC.1.keep (fun b x1 x2 x3 => o1 b (by omega) x3)
  have S1 : plaS m1 (z + 254) := hS.2.1.keep (fun j _ => by (try dsimp only); rw [o1 _ (by omega) (by omega)])
  obtain ⟨m2, e2, G2, k2, s2, r2, b2, l2, w2, o2⟩ := X7_watch_eq (e := e) (sit := idF) hT.2.2.2.2.2.2.2.2.2.2.1 hT.2.2.2.2.2.2.2.2.1 (by omega) (by omega) (by omega) (fun i hi => hi) S1 E1 G1 ok (by omega)
  have hx := watR_x (rl := C.2.2.2.1) (sit := idF) (lw := zI 0) (N := C.1) (zI 0) S x
  have hx1 : (watR C.2.2.2.1 idF (zI 0) (zI 0) C.1 S x).1 = (wtN C S).1 := by (try dsimp only); rw [hx]; rfl
  have hx2 : (watR C.2.2.2.1 idF (zI 0) (zI 0) C.1 S x).2.2 = (wtN C S).2.2 := by (try dsimp only); rw [hx]; rfl
  have hx3 : (watR C.2.2.2.1 idF (zI 0) (zI 0) C.1 S x).2.1.1 = (wtN C S).2.1.1 := by (try dsimp only); rw [hx]; rfl
  rw [hx1, hx2] at r2 b2
  rw [hx2] at l2
  rw [hx3] at w2
  have fr : ∀ b, (b < z + 233 ∨ z + 259 ≤ b) → b ≠ t + 6 → m2 b = m b := fun b x1 x2 => by (try dsimp only); rw [o2 b (by omega) (by omega) x2, o1 b (by omega) x2]
  refine ⟨m2, e2, r2, b2, l2, w2, h.scr hT (fun b x1 x2 _ _ => fr b (by omega) x2) ⟨G2.gmW, s2, hS.2.2.1.keep (fun j _ => by (try dsimp only); rw [fr _ (by omega) (by omega)]) (fr _ (by omega) (by omega)) (fr _ (by omega) (by omega)), fun i hi => (hS.2.2.2.1 i hi).keep (fun b x1 x2 => fr b (by omega) (by omega)), ?_⟩, fun b x1 x2 => fr b (by omega) x2, fun b hb => fr b (by omega) (by omega)⟩
  obtain ⟨a5, ⟨g1, a6⟩, g2, a7⟩ := hS.2.2.2.2
  exact ⟨a5.keep (fun j _ => by (try dsimp only); rw [fr _ (by omega) (by omega)]) (fr _ (by omega) (by omega)) (fr _ (by omega) (by omega)), ⟨g1, a6.keep (fun i hi => ⟨fr _ (by omega) (by omega), fr _ (by omega) (by omega)⟩)⟩, g2, a7.keep (fun i hi => ⟨fr _ (by omega) (by omega), fr _ (by omega) (by omega)⟩)⟩
theorem cl_fromNow {m : mm_V} (hT : icT e z) (hp : pureI C G M K) (h : IC e m z t d C G M) : Ev (X11_playFromNow e z m) (fun m2 => plaR m2 (z + 254) (wtN C G.2.1).1 (wtN C G.2.1).2.2 ∧ acB (wtN C G.2.1).1 (wtN C G.2.1).2.2 ∧ (wtN C G.2.1).2.2 ≤ 200 ∧ m2 (z + 254) 4 = .int (ozI (lsr C.1 (wtN C G.2.1).2.1.1.1)) ∧ IC e m2 z t d C G M ∧ ∀ b, (b < z ∨ z + 402 ≤ b) → m2 b = m b) := by
  have hF := h.2.1
  obtain ⟨x, m1, e1, G1, o1⟩ := cl_trial hT h
  obtain ⟨m2, e2, r1, r2, r3, r4, r5, r6, r7⟩ := cl_watch hT h G1 hp.2.2.1.1 (fun b x1 _ => o1 b (by omega))
  have hz : m1 z = m z := o1 z (by omega)
  unfold X11_playFromNow
  exact ev_gr hT.1 hF.2.1.2.2.1 (ev_gr hT.1 hF.1.2.2.2.2.2.2 (ev_tg hT.2.2.2.2.2.2.2.2.1.1 (ev_eq e1 (ev_gr hT.1 (v := z + 254) (by (try dsimp only); rw [hz]; exact hF.2.1.2.2.2.2.1) (ev_gr hT.1 (v := z + 233) (by (try dsimp only); rw [hz]; exact hF.2.1.2.2.1) (ev_tg hT.2.2.2.2.2.2.2.2.2.2.1.1 (ev_eq e2 (ev_ret ⟨r1, r2, r3, r4, r5, r7⟩))))))))
theorem ml_on {m : mm_V} (hT : imT e q) (hp : pureI C G M K) (h : IM e m q C G M) : Ev (X12_playsOn e q m) (fun m2 => plaM m2 q C.1 (wtN C G.2.1).1 (wtN C G.2.1).2.2 ∧ gM m2 (q + 15) C.1 (wtN C G.2.1).2.1.1 ∧ okS C.1 C.2.1 (wtN C G.2.1).2.1.1 ∧ IM e m2 q C G M ∧ m2 q 0 = m q 0 ∧ ∀ b, (b < q ∨ q + 40 ≤ b) → m2 b = m b) := by
  have hN := hT.2.1
  have hT := hT.1
  obtain ⟨g1, -, -, g13, ⟨-, g14, g14'⟩, -, -⟩ := id h
  have S := g1.2.1
  obtain ⟨m1, e1, o1, w1⟩ := copies_same (e := e) (m := m) (by omega) hT.now_ hT.played_ (by omega) g14' (by omega) q
  have E1 := g1.keep (fun j _ => by (try dsimp only); rw [o1 q (by omega)]) (o1 _ (by omega)) (o1 _ (by omega))
  obtain ⟨m2, e2, r1, r2, r3, r4, r5⟩ := X12_plays_eq (e := e) (x := zI 0) hT.played_ (by omega) E1 (g13.keep (o1 _ (by omega))) (g14.cong w1) hp.2.2.1.1 hN
  have hq : m1 q = m q := o1 q (by omega)
  unfold X12_playsOn
  refine ev_gr hT.me S.now_ (ev_gr hT.me S.played_ (ev_eq e1 (ev_gr hT.me (v := q + 15) (by (try dsimp only); rw [hq]; exact S.played_) (ev_eq e2 (ev_ret ⟨r3, r1, r2, h.scr (fun k x1 x2 x3 x4 x5 x6 x7 x8 => by (try dsimp only); rw [r4 k x3 x4 x5 x6, hq]) (fun b x1 x2 => by (try dsimp only); rw [r5 b x1 (by omega) (by omega) (by omega), o1 b (by omega)]), by (try dsimp only); rw [r4 0 (by omega) (by omega) (by omega) (by omega), hq], fun b hb => by (try dsimp only); rw [r5 b (by omega) (by omega) (by omega) (by omega), o1 b (by omega)]⟩)))))
def endA (C : CF) (G : GM) (a : Int) : Int32 ⊕ Nat := if a = 0 then .inl (ozI (lsr C.1 (wtN C G.2.1).2.1.1.1)) else if a = 1 then .inl (zI (wtN C G.2.1).2.2) else .inr 1
theorem cl_ends {m : mm_V} {a : Int} (ha : i32 a) (hT : icT e z) (hp : pureI C G M K) (h : IC e m z t d C G M) : Ev (X11_ends e z (zI a) m) (clS (endA C G a) e z t d C G M m) := by
  have hF := h.2.1
  unfold i32 at ha
  unfold X11_ends endA
  simp only [LT, zI_neg]
  have main : (a = 0 ∨ a = 1) → Ev (X11_ends_b9 e z (zI a) m) (clS (if a = 0 then .inl (ozI (lsr C.1 (wtN C G.2.1).2.1.1.1)) else if a = 1 then .inl (zI (wtN C G.2.1).2.2) else .inr 1) e z t d C G M m) := by
    intro h01
    unfold X11_ends_b9 X11_ends_b14 X11_ends_b42
    simp only [LT, zI_neg]
    refine ev_bx X11_need_1 (ev_call (cl_fromNow hT hp h) ?_)
    rintro m2 ⟨r1, r2, r3, r4, r5, r6⟩
    by_cases h0 : a = 0
    · rw [if_pos h0]
      exact ev_inn rfl rfl (by omega) (ev_gr hT.1 r5.2.1.2.1.2.2.2.2.1 (ev_gi hT.2.2.2.2.2.2.2.2.2.2.1.1 r4 (ev_cl rfl r5 r6)))
    · rw [if_neg h0, if_pos (show a = 1 by omega)]
      exact ev_inp rfl rfl (by omega) (ev_gr hT.1 r5.2.1.2.1.2.2.2.2.1 (ev_gi hT.2.2.2.2.2.2.2.2.2.2.1.1 r1.2.2.2.2.2 (ev_cl rfl r5 r6)))
  by_cases h0 : a = 0
  · exact ev_iqp rfl rfl (by omega) (main (Or.inl h0))
  refine ev_iqn rfl rfl (by omega) ?_
  by_cases h1 : a = 1
  · exact ev_inn rfl rfl (by omega) (main (Or.inr h1))
  rw [if_neg h0, if_neg h1]
  refine ev_inp rfl rfl (by omega) ?_
  unfold X11_ends_b14
  simp only [LT, zI_neg]
  exact ev_bxx X11_need_0 rfl h (fun _ _ => rfl)
theorem ml_ends {m : mm_V} {a : Int} (ha : i32 a) (hT : imT e q) (hp : pureI C G M K) (h : IM e m q C G M) : Ev (X12_ends e q (zI a) m) (mlS (endA C G a) e q C G M m) := by
  have hTT := hT
  have hN := hT.2.1
  have hT := hT.1
  have h6 := hp.1.2.1
  have h0 := h.th (zI 0)
  have z0 : (mm_up m q 0 (.int (zI 0))) q 0 = .int (zI 0) := up_at _ _ _ _
  have fr : ∀ b, (b < q ∨ q + 40 ≤ b) → (mm_up m q 0 (.int (zI 0))) b = m b := fr_th
  unfold X12_ends X12_ends_b39 endA
  simp only [LT, zI_neg]
  refine ev_pf hT.me ?_
  generalize mm_up m q 0 (.int (zI 0)) = m0 at h0 z0 fr
  by_cases hw : 0 ≤ a ∧ a ≤ 1
  · refine ev_eq (X12_isWhat_1 ha ⟨by omega, by omega⟩ hT z0 hw) (ev_inp (x := 1) (y := 0) rfl rfl (by omega) (ev_call (ml_on hTT hp h0) ?_))
    rintro m2 ⟨r1, r2, r3, r4, r5, r6⟩
    have z2 : m2 q 0 = .int (zI 0) := by (try dsimp only); rw [r5]; exact z0
    have fr2 : ∀ b, (b < q ∨ q + 40 ≤ b) → m2 b = m b := fun b hb => by (try dsimp only); rw [r6 b hb]; exact fr b hb
    unfold i32 at ha
    by_cases ha0 : a = 0
    · rw [if_pos ha0]
      exact ev_inn rfl rfl (by omega) (ev_gr hT.me r4.1.2.1.played_ (ev_eq (X12_loser_eq hT.played_ hT.me r2.1 (r3.1.lt hp.1.2.2.1) r4.1.2.2.1 h6 (by omega)) (ev_ml rfl z2 r4 fr2)))
    · rw [if_neg ha0, if_pos (show a = 1 by omega)]
      exact ev_inp rfl rfl (by omega) (ev_gi hT.me r1.2.2.2.2 (ev_ml rfl z2 r4 fr2))
  · rw [if_neg (show ¬ a = 0 by omega), if_neg (show ¬ a = 1 by omega)]
    exact ev_eq (X12_isWhat_0 ha ⟨by omega, by omega⟩ hT z0 hw) (ev_inn (x := 0) (y := 0) rfl rfl (by omega) (ev_mlx rfl (up_at _ _ _ _) (h0.th _) (fun b hb => by (try dsimp only); rw [up_row _ _ _ (by omega)]; exact fr b hb)))
def hasA (C : CF) (G : GM) (a : Int) (b : Bool) : Int32 ⊕ Nat := if 0 ≤ a ∧ a < C.1 then .inl (zI (if b then (wtN C G.2.1).1.2.1 a.toNat else (wtN C G.2.1).1.1 a.toNat : Nat)) else .inr 1
theorem cl_has {m : mm_V} {a : Int} {b : Bool} (ha : i32 a) (hT : icT e z) (hp : pureI C G M K) (h : IC e m z t d C G M) : Ev (X11_has e z (zI a) (bZ b) m) (clS (hasA C G a b) e z t d C G M m) := by
  have h6 := hp.1.2.1
  unfold X11_has hasA
  by_cases hpn : 0 ≤ a ∧ a < C.1
  · rw [if_pos hpn]
    refine ev_bx (needPerson_1 ha hT h h6 hpn) (ev_call (cl_fromNow hT hp h) ?_)
    rintro m2 ⟨r1, r2, r3, r4, r5, r6⟩
    obtain ⟨p, rfl⟩ : ∃ p : Nat, a = p := ⟨a.toNat, by omega⟩
    rw [Int.toNat_natCast]
    have hpT := hT.2.2.2.2.2.2.2.2.2.2.1
    have hps := r5.2.2.2.2.2.2.2.2.1.2.1
    have hX : X7_behind e (z + 254) (zI p) (bZ b) m2 = some (zI (if b then (wtN C G.2.1).1.2.1 p else (wtN C G.2.1).1.1 p : Nat), m2) := by
      unfold X7_behind X7_behind_b31
      simp only [LT, zI_neg]
      rw [iln (by omega), ilp (by omega)]
      cases b with
      | false => rw [if_pos (show bZ false = zI 0 from rfl), rd_gr hpT.1 hps.1, Option.bind_some, rd_ai hpT.2.1 (i := p) rfl (by omega) (by omega) (r1.1 p (by omega)), Option.bind_some]; rfl
      | true => rw [if_neg (show ¬ bZ true = zI 0 by decide), rd_gr hpT.1 hps.2.1, Option.bind_some, rd_ai hpT.2.2.1 (i := p) rfl (by omega) (by omega) (r1.2.1 p (by omega)), Option.bind_some]; rfl
    exact ev_gr hT.1 r5.2.1.2.1.2.2.2.2.1 (ev_tg hpT.1 (ev_eq hX (ev_cl rfl r5 r6)))
  · rw [if_neg hpn]
    exact ev_bxx (needPerson_0 ha hT h h6 hpn) rfl h (fun _ _ => rfl)
/-- of a call of the model that asks for a person alone and then plays on -/
theorem ml_pers {m : mm_V} {a : Int} {A : Int32 ⊕ Nat} {F : mm_V → Option (Int32 × mm_V)} {v : Int32} (ha : i32 a) (hT : imT e q) (hp : pureI C G M K) (h : IM e m q C G M) (hA : ¬ (0 ≤ a ∧ a < C.1) → A = .inr 1) (k : (0 ≤ a ∧ a < C.1) → ∀ m2, plaM m2 q C.1 (wtN C G.2.1).1 (wtN C G.2.1).2.2 → IM e m2 q C G M → m2 q 0 = .int (zI 0) → (∀ b, (b < q ∨ q + 40 ≤ b) → m2 b = m b) → Ev (F m2) (mlS A e q C G M m)) : Ev ((mm_pf e.1 m 12 75 q 0 (.int (zI 0))).bind fun m1 => (X12_isPerson e q (zI a) m1).bind fun r2 => if ¬ r2.1 = zI 0 then ((X12_playsOn e q r2.2).bind fun r3 => F r3) else (some (v, r2.2))) (mlS A e q C G M m) := by
  have hTT := hT
  have hN := hT.2.1
  have hT := hT.1
  have h6 := hp.1.2.1
  have h0 := h.th (zI 0)
  have z0 : (mm_up m q 0 (.int (zI 0))) q 0 = .int (zI 0) := up_at _ _ _ _
  have fr : ∀ b, (b < q ∨ q + 40 ≤ b) → (mm_up m q 0 (.int (zI 0))) b = m b := fr_th
  refine ev_pf hT.me ?_
  generalize mm_up m q 0 (.int (zI 0)) = m0 at h0 z0 fr
  by_cases hpn : 0 ≤ a ∧ a < C.1
  · refine ev_eq (X12_isPerson_1 ha hT z0 h0.1.2.2.1 h6 hpn) (ev_inp (x := 1) (y := 0) rfl rfl (by omega) (ev_call (ml_on hTT hp h0) ?_))
    rintro m2 ⟨r1, r2, r3, r4, r5, r6⟩
    exact k hpn m2 r1 r4 (by (try dsimp only); rw [r5]; exact z0) (fun b hb => by (try dsimp only); rw [r6 b hb]; exact fr b hb)
  · exact ev_eq (X12_isPerson_0 ha hT z0 h0.1.2.2.1 h6 hpn) (ev_inn (x := 0) (y := 0) rfl rfl (by omega) (ev_mlx (hA hpn) (up_at _ _ _ _) (h0.th _) (fun b hb => by (try dsimp only); rw [up_row _ _ _ (by omega)]; exact fr b hb)))
theorem ml_has {m : mm_V} {a : Int} {b : Bool} (ha : i32 a) (hT : imT e q) (hp : pureI C G M K) (h : IM e m q C G M) : Ev (X12_has e q (zI a) (bZ b) m) (mlS (hasA C G a b) e q C G M m) := by
  have h6 := hp.1.2.1
  unfold X12_has X12_has_b38
  simp only [LT, zI_neg]
  refine ml_pers ha hT hp h (fun hn => if_neg hn) (fun hpn m2 r1 r4 z2 fr2 => ?_)
  unfold hasA
  rw [if_pos hpn]
  have hT := hT.1
  obtain ⟨p, rfl⟩ : ∃ p : Nat, a = p := ⟨a.toNat, by omega⟩
  rw [Int.toNat_natCast]
  cases b with
  | false => exact ev_iqp (x := 0) (y := 0) rfl rfl (by omega) (ev_gr hT.me r4.1.2.1.hasHer_ (ev_ai p hT.hasHer_ rfl (by omega) (by omega) (r1.1 p (by omega)) (ev_ml rfl z2 r4 fr2)))
  | true => exact ev_iqn (x := 1) (y := 0) rfl rfl (by omega) (ev_gr hT.me r4.1.2.1.stretch_ (ev_ai p hT.stretch_ rfl (by omega) (by omega) (r1.2.1 p (by omega)) (ev_ml rfl z2 r4 fr2)))
def outA (C : CF) (G : GM) (a : Int) : Int32 ⊕ Nat := if 0 ≤ a ∧ a < C.1 then .inl (ozI ((wtN C G.2.1).1.2.2.1 a.toNat)) else .inr 1
theorem X7_outBehind_eq {m : mm_V} {p : Nat} {A : AC} {n : Nat} (hpT : plaT e.1 (z + 254)) (hps : plaS m (z + 254)) (r1 : plaR m (z + 254) A n) (hp6 : p < 6) : X7_outBehind e (z + 254) (zI p) m = some (ozI (A.2.2.1 p), m) := by
  unfold X7_outBehind X7_outBehind_b20
  simp only [LT, zI_neg]
  rw [iln (by omega), ien (by omega), rd_gr hpT.1 hps.2.2.1, Option.bind_some, rd_ai hpT.2.2.2.1 (i := p) rfl (by omega) (by omega) (r1.2.2.1 p hp6), Option.bind_some]
theorem cl_isOut {m : mm_V} {a : Int} (ha : i32 a) (hT : icT e z) (hp : pureI C G M K) (h : IC e m z t d C G M) : Ev (X11_isOut e z (zI a) m) (clS (outA C G a) e z t d C G M m) := by
  have h6 := hp.1.2.1
  unfold X11_isOut outA
  by_cases hpn : 0 ≤ a ∧ a < C.1
  · rw [if_pos hpn]
    refine ev_bx (needPerson_1 ha hT h h6 hpn) (ev_call (cl_fromNow hT hp h) ?_)
    rintro m2 ⟨r1, r2, r3, r4, r5, r6⟩
    obtain ⟨p, rfl⟩ : ∃ p : Nat, a = p := ⟨a.toNat, by omega⟩
    rw [Int.toNat_natCast]
    have hpT := hT.2.2.2.2.2.2.2.2.2.2.1
    have hps := r5.2.2.2.2.2.2.2.2.1.2.1
    exact ev_gr hT.1 r5.2.1.2.1.2.2.2.2.1 (ev_tg hpT.1 (ev_eq (X7_outBehind_eq hpT hps r1 (by omega)) (ev_cl rfl r5 r6)))
  · rw [if_neg hpn]
    exact ev_bxx (needPerson_0 ha hT h h6 hpn) rfl h (fun _ _ => rfl)
theorem ml_isOut {m : mm_V} {a : Int} (ha : i32 a) (hT : imT e q) (hp : pureI C G M K) (h : IM e m q C G M) : Ev (X12_isOut e q (zI a) m) (mlS (outA C G a) e q C G M m) := by
  have h6 := hp.1.2.1
  unfold X12_isOut
  simp only [LT, zI_neg]
  refine ml_pers ha hT hp h (fun hn => if_neg hn) (fun hpn m2 r1 r4 z2 fr2 => ?_)
  unfold outA
  rw [if_pos hpn]
  have hT := hT.1
  obtain ⟨p, rfl⟩ : ∃ p : Nat, a = p := ⟨a.toNat, by omega⟩
  rw [Int.toNat_natCast]
  exact ev_gr hT.me r4.1.2.1.outAt_ (ev_ai p hT.outAt_ rfl (by omega) (by omega) (r1.2.2.2.1 p (by omega)) (ev_ml rfl z2 r4 fr2))
/-! rank -/
def rkP (o : Nat → Option Nat) (p i : Nat) : Bool := match o i, o p with
  | some x, some y => decide (x < y ∨ (x = y ∧ i < p))
  | _, _ => false
def rnkA (C : CF) (G : GM) (a : Int) : Int32 ⊕ Nat := if 0 ≤ a ∧ a < C.1 then (if (wtN C G.2.1).1.2.2.1 a.toNat = none then .inl (zI (-1)) else .inl (zI (cnt (rkP (wtN C G.2.1).1.2.2.1 a.toNat) C.1))) else .inr 1
theorem cnt_succ (P : Nat → Bool) (n : Nat) : cnt P (n + 1) = cnt P n + (if P n = true then 1 else 0) := rfl
theorem cl_rank_loop {m m0 : mm_V} {A : Int32 ⊕ Nat} {p y : Nat} (hT : icT e z) (hp : pureI C G M K) (h : IC e m z t d C G M) (hf : ∀ b, (b < z ∨ z + 402 ≤ b) → m b = m0 b) (r1 : plaR m (z + 254) (wtN C G.2.1).1 (wtN C G.2.1).2.2) (hb : ∀ i k, (wtN C G.2.1).1.2.2.1 i = some k → k ≤ 200) (hpN : p < C.1) (hy : (wtN C G.2.1).1.2.2.1 p = some y) (hA : A = .inl (zI (cnt (rkP (wtN C G.2.1).1.2.2.1 p) C.1))) : ∀ (j i nn : Nat), i + j = C.1 → j < nn → Ev (X11_rank_L30 e z (zI p) (zI y) nn (zI (cnt (rkP (wtN C G.2.1).1.2.2.1 p) i)) (zI i) m) (clS A e z t d C G M m0) := by
  have h6 := hp.1.2.1
  have hy2 := hb p y hy
  have hpT := hT.2.2.2.2.2.2.2.2.2.2.1
  have hps := h.2.2.2.2.2.2.2.2.1.2.1
  have hF := h.2.1
  have E := h.2.2.2.1.1
  intro j
  induction j with
  | zero =>
    intro i nn hi hnn
    obtain ⟨nn, rfl⟩ : ∃ n', nn = n' + 1 := ⟨nn - 1, by omega⟩
    have : i = C.1 := by omega
    subst this
    rw [X11_rank_L30]
    simp only [LT, zI_neg]
    exact ev_gr hT.1 hF.1.2.1 (ev_gi E.1.1 E.2.2.1 (ev_iep rfl rfl (by omega) (ev_cl hA h hf)))
  | succ j ih =>
    intro i nn hi hnn
    obtain ⟨nn, rfl⟩ : ∃ n', nn = n' + 1 := ⟨nn - 1, by omega⟩
    have ih := ih (i + 1) nn (by omega) (by omega)
    have hcl := cnt_le (rkP (wtN C G.2.1).1.2.2.1 p) i
    rw [cnt_succ] at ih
    rw [X11_rank_L30]
    unfold X11_rank_b77 X11_rank_b80
    simp only [LT, zI_neg]
    refine ev_gr hT.1 hF.1.2.1 (ev_gi E.1.1 E.2.2.1 (ev_ien rfl rfl (by omega) (ev_gr hT.1 hF.2.1.2.2.2.2.1 (ev_tg hpT.1 (ev_eq (X7_outBehind_eq hpT hps r1 (show i < 6 by omega)) ?_)))))
    rw [show (zI (i : Int) + zI 1 : Int32) = zI ((i + 1 : Nat) : Int) from zI_add _ _]
    have yes : rkP (wtN C G.2.1).1.2.2.1 p i = true → (zI (cnt (rkP (wtN C G.2.1).1.2.2.1 p) i : Nat) + zI 1 : Int32) = zI ((cnt (rkP (wtN C G.2.1).1.2.2.1 p) i + (if rkP (wtN C G.2.1).1.2.2.1 p i = true then 1 else 0) : Nat) : Int) := fun hh => by (try dsimp only); rw [if_pos hh]; exact zI_add _ _
    have no : rkP (wtN C G.2.1).1.2.2.1 p i = false → (zI (cnt (rkP (wtN C G.2.1).1.2.2.1 p) i : Nat) : Int32) = zI ((cnt (rkP (wtN C G.2.1).1.2.2.1 p) i + (if rkP (wtN C G.2.1).1.2.2.1 p i = true then 1 else 0) : Nat) : Int) := fun hh => by (try dsimp only); rw [if_neg (by (try dsimp only); rw [hh]; simp)]; rfl
    cases hx : (wtN C G.2.1).1.2.2.1 i with
    | none =>
      have hr : rkP (wtN C G.2.1).1.2.2.1 p i = false := by unfold rkP; rw [hx]
      rw [← no hr] at ih
      exact ev_iqp (x := -1) rfl rfl (by omega) ih
    | some x =>
      have hx2 := hb i x hx
      have hr : rkP (wtN C G.2.1).1.2.2.1 p i = decide (x < y ∨ (x = y ∧ i < p)) := by unfold rkP; rw [hx, hy]
      refine ev_iqn (x := x) (y := -1) rfl rfl (by omega) ?_
      by_cases h1 : x < y
      · rw [← yes (by (try dsimp only); rw [hr]; exact decide_eq_true (Or.inl h1))] at ih
        exact ev_ilp (x := x) rfl rfl (by omega) ih
      refine ev_iln (x := x) rfl rfl (by omega) ?_
      by_cases h2 : x = y
      · refine ev_inn (x := x) rfl rfl (by omega) ?_
        by_cases h3 : p ≤ i
        · rw [← no (by (try dsimp only); rw [hr]; exact decide_eq_false (by omega))] at ih
          exact ev_iep rfl rfl (by omega) ih
        · rw [← yes (by (try dsimp only); rw [hr]; exact decide_eq_true (Or.inr ⟨h2, by omega⟩))] at ih
          exact ev_ien rfl rfl (by omega) ih
      · rw [← no (by (try dsimp only); rw [hr]; exact decide_eq_false (by omega))] at ih
        exact ev_inp (x := x) rfl rfl (by omega) ih
theorem cl_rank {m : mm_V} {a : Int} (ha : i32 a) (hT : icT e z) (hp : pureI C G M K) (h : IC e m z t d C G M) : Ev (X11_rank e z (zI a) m) (clS (rnkA C G a) e z t d C G M m) := by
  have h6 := hp.1.2.1
  have hN := hT.2.2.2.2.2.2.2.2.2.2.2.2.2.2
  unfold X11_rank rnkA
  simp only [LT, zI_neg]
  by_cases hpn : 0 ≤ a ∧ a < C.1
  · rw [if_pos hpn]
    refine ev_bx (needPerson_1 ha hT h h6 hpn) (ev_call (cl_fromNow hT hp h) ?_)
    rintro m2 ⟨r1, r2, r3, r4, r5, r6⟩
    obtain ⟨p, rfl⟩ : ∃ p : Nat, a = p := ⟨a.toNat, by omega⟩
    rw [Int.toNat_natCast]
    have hpT := hT.2.2.2.2.2.2.2.2.2.2.1
    have hps := r5.2.2.2.2.2.2.2.2.1.2.1
    have hb : ∀ i k, (wtN C G.2.1).1.2.2.1 i = some k → k ≤ 200 := fun i k hk => by have := r2.2.2.1 i k hk; omega
    refine ev_gr hT.1 r5.2.1.2.1.2.2.2.2.1 (ev_tg hpT.1 (ev_eq (X7_outBehind_eq hpT hps r1 (show p < 6 by omega)) ?_))
    cases hy : (wtN C G.2.1).1.2.2.1 p with
    | none =>
      rw [if_pos rfl]
      exact ev_inn (x := -1) rfl rfl (by omega) (ev_cl rfl r5 r6)
    | some y =>
      have := hb p y hy
      rw [if_neg (show ¬ ((some y : Option Nat) = none) by simp)]
      exact ev_inp (x := y) (y := -1) rfl rfl (by omega) (cl_rank_loop hT hp r5 r6 r1 hb (by omega) hy rfl C.1 0 e.2.2 (by omega) (by omega))
  · rw [if_neg hpn]
    exact ev_bxx (needPerson_0 ha hT h h6 hpn) rfl h (fun _ _ => rfl)
theorem ml_rank_loop {m m0 : mm_V} {A : Int32 ⊕ Nat} {p y : Nat} (hT : imT e q) (hp : pureI C G M K) (h : IM e m q C G M) (z0 : m q 0 = .int (zI 0)) (hf : ∀ b, (b < q ∨ q + 40 ≤ b) → m b = m0 b) (r1 : plaM m q C.1 (wtN C G.2.1).1 (wtN C G.2.1).2.2) (hb : ∀ i k, (wtN C G.2.1).1.2.2.1 i = some k → k ≤ 200) (hpN : p < C.1) (hy : (wtN C G.2.1).1.2.2.1 p = some y) (hA : A = .inl (zI (cnt (rkP (wtN C G.2.1).1.2.2.1 p) C.1))) : ∀ (j i nn : Nat), i + j = C.1 → j < nn → Ev (X12_rank_L35 e q (zI p) nn (zI (cnt (rkP (wtN C G.2.1).1.2.2.1 p) i)) (zI i) m) (mlS A e q C G M m0) := by
  have h6 := hp.1.2.1
  have hy2 := hb p y hy
  have hT := hT.1
  have S := h.1.2.1
  have n1 := h.1.2.2.1
  have vp := r1.2.2.2.1 p hpN
  rw [hy] at vp
  intro j
  induction j with
  | zero =>
    intro i nn hi hnn
    obtain ⟨nn, rfl⟩ : ∃ n', nn = n' + 1 := ⟨nn - 1, by omega⟩
    have : i = C.1 := by omega
    subst this
    rw [X12_rank_L35]
    simp only [LT, zI_neg]
    exact ev_gi hT.me n1 (ev_iep rfl rfl (by omega) (ev_ml hA z0 h hf))
  | succ j ih =>
    intro i nn hi hnn
    obtain ⟨nn, rfl⟩ : ∃ n', nn = n' + 1 := ⟨nn - 1, by omega⟩
    have ih := ih (i + 1) nn (by omega) (by omega)
    have hcl := cnt_le (rkP (wtN C G.2.1).1.2.2.1 p) i
    rw [cnt_succ] at ih
    rw [X12_rank_L35]
    unfold X12_rank_b93 X12_rank_b89 X12_rank_b94
    simp only [LT, zI_neg]
    have vi := r1.2.2.2.1 i (by omega)
    refine ev_gi hT.me n1 (ev_ien rfl rfl (by omega) (ev_gr hT.me S.outAt_ (ev_ai i hT.outAt_ rfl (by omega) (by omega) vi ?_)))
    rw [show (zI (i : Int) + zI 1 : Int32) = zI ((i + 1 : Nat) : Int) from zI_add _ _]
    have yes : rkP (wtN C G.2.1).1.2.2.1 p i = true → (zI (cnt (rkP (wtN C G.2.1).1.2.2.1 p) i : Nat) + zI 1 : Int32) = zI ((cnt (rkP (wtN C G.2.1).1.2.2.1 p) i + (if rkP (wtN C G.2.1).1.2.2.1 p i = true then 1 else 0) : Nat) : Int) := fun hh => by (try dsimp only); rw [if_pos hh]; exact zI_add _ _
    have no : rkP (wtN C G.2.1).1.2.2.1 p i = false → (zI (cnt (rkP (wtN C G.2.1).1.2.2.1 p) i : Nat) + zI 0 : Int32) = zI ((cnt (rkP (wtN C G.2.1).1.2.2.1 p) i + (if rkP (wtN C G.2.1).1.2.2.1 p i = true then 1 else 0) : Nat) : Int) := fun hh => by (try dsimp only); rw [if_neg (by (try dsimp only); rw [hh]; simp)]; exact zI_add _ _
    cases hx : (wtN C G.2.1).1.2.2.1 i with
    | none =>
      have hr : rkP (wtN C G.2.1).1.2.2.1 p i = false := by unfold rkP; rw [hx]
      rw [← no hr] at ih
      exact ev_iqp (x := -1) rfl rfl (by omega) ih
    | some x =>
      rw [hx] at vi
      have hx2 := hb i x hx
      have hr : rkP (wtN C G.2.1).1.2.2.1 p i = decide (x < y ∨ (x = y ∧ i < p)) := by unfold rkP; rw [hx, hy]
      refine ev_iqn (x := x) (y := -1) rfl rfl (by omega) (ev_gr hT.me S.outAt_ (ev_ai i hT.outAt_ rfl (by omega) (by omega) vi (ev_gr hT.me S.outAt_ (ev_ai p hT.outAt_ rfl (by omega) (by omega) vp ?_))))
      by_cases h1 : x < y
      · rw [← yes (by (try dsimp only); rw [hr]; exact decide_eq_true (Or.inl h1))] at ih
        exact ev_ilp (x := x) (y := y) rfl rfl (by omega) ih
      refine ev_iln (x := x) (y := y) rfl rfl (by omega) (ev_gr hT.me S.outAt_ (ev_ai i hT.outAt_ rfl (by omega) (by omega) vi (ev_gr hT.me S.outAt_ (ev_ai p hT.outAt_ rfl (by omega) (by omega) vp ?_))))
      by_cases h2 : x = y
      · refine ev_inn (x := x) (y := y) rfl rfl (by omega) ?_
        by_cases h3 : p ≤ i
        · rw [← no (by (try dsimp only); rw [hr]; exact decide_eq_false (by omega))] at ih
          exact ev_iep rfl rfl (by omega) ih
        · rw [← yes (by (try dsimp only); rw [hr]; exact decide_eq_true (Or.inr ⟨h2, by omega⟩))] at ih
          exact ev_ien rfl rfl (by omega) ih
      · rw [← no (by (try dsimp only); rw [hr]; exact decide_eq_false (by omega))] at ih
        exact ev_inp (x := x) (y := y) rfl rfl (by omega) ih
theorem wat_ac {rl : Nat → List Int} {sit : Nat → Nat} {lw lk : Int32} {N P : Nat} (h6 : N ≤ 6) : ∀ (j n : Nat) (Y : PS × Int32) (A : AC), n + j = 200 → okS N P Y.1 → acB A n → acB (wat rl sit lw lk N j n Y A).1 (wat rl sit lw lk N j n Y A).2.2 ∧ (wat rl sit lw lk N j n Y A).2.2 ≤ 200 ∧ okS N P (wat rl sit lw lk N j n Y A).2.1.1
  | 0, n, Y, A, hn, ok, hA => ⟨hA, by show n ≤ 200; omega, ok⟩
  | j + 1, n, Y, A, hn, ok, hA => by
    rw [wat]
    cases ho : isOv N Y.1.1 with
    | true => rw [if_pos rfl]; exact ⟨hA, by show n ≤ 200; omega, ok⟩
    | false =>
      rw [if_neg (by simp)]
      have ok2 : okS N P (pst rl sit lw lk N Y).1 := okS_pst (x := Y.2) ok ho
      obtain ⟨w, w1, w2, w3⟩ := ok2.1.qn
      have hw : (qn N (pst rl sit lw lk N Y).1.1).getD 0 < 6 := by (try dsimp only); rw [w2]; show w < 6; omega
      exact wat_ac h6 j (n + 1) _ _ (by omega) ok2 (acB_note hA hw)
theorem ml_rank {m : mm_V} {a : Int} (ha : i32 a) (hT : imT e q) (hp : pureI C G M K) (h : IM e m q C G M) : Ev (X12_rank e q (zI a) m) (mlS (rnkA C G a) e q C G M m) := by
  have h6 := hp.1.2.1
  have hN := hT.2.1
  have hTT := hT
  have hac : acB (wtN C G.2.1).1 (wtN C G.2.1).2.2 ∧ (wtN C G.2.1).2.2 ≤ 200 ∧ okS C.1 C.2.1 (wtN C G.2.1).2.1.1 := wat_ac h6 200 0 (G.2.1, zI 0) (A0 G.2.1.1) (by omega) hp.2.2.1.1 (acB_0 _)
  unfold X12_rank
  simp only [LT, zI_neg]
  refine ml_pers ha hT hp h (fun hn => if_neg hn) (fun hpn m2 r1 r4 z2 fr2 => ?_)
  unfold rnkA
  rw [if_pos hpn]
  have hT := hT.1
  obtain ⟨p, rfl⟩ : ∃ p : Nat, a = p := ⟨a.toNat, by omega⟩
  rw [Int.toNat_natCast]
  have hb : ∀ i k, (wtN C G.2.1).1.2.2.1 i = some k → k ≤ 200 := fun i k hk => by have := hac.1.2.2.1 i k hk; have := hac.2.1; omega
  refine ev_gr hT.me r4.1.2.1.outAt_ (ev_ai p hT.outAt_ rfl (by omega) (by omega) (r1.2.2.2.1 p (by omega)) ?_)
  cases hy : (wtN C G.2.1).1.2.2.1 p with
  | none =>
    rw [if_pos rfl]
    exact ev_inn (x := -1) rfl rfl (by omega) (ev_ml rfl z2 r4 fr2)
  | some y =>
    have := hb p y hy
    rw [if_neg (show ¬ ((some y : Option Nat) = none) by simp)]
    exact ev_inp (x := y) (y := -1) rfl rfl (by omega) (ml_rank_loop hTT hp r4 z2 fr2 r1 hb (by omega) hy rfl C.1 0 e.2.2 (by omega) (by omega))
/-! wouldLose -/
theorem lsr_lt {N P : Nat} {f : Nat → List Nat} (h : tabI N P f) {w : Nat} (hw : lsr N f = some w) : w < N := by
  obtain ⟨v, v1, v2, v3⟩ := h.qn
  unfold lsr at hw
  rw [v2] at hw
  split at hw
  · cases hw; exact v1
  · cases hw
def wlL (C : CF) (S : PS) (k : Nat) : Option Nat := lsr C.1 (wtN C (nxk C.2.2.2.1 idF C.1 S k)).2.1.1.1
def wlS (F : Nat → Option Nat) (p : Nat) : Nat → Nat → Nat × Option Nat → Nat × Option Nat
  | 0, _, X => X
  | j + 1, i, X => wlS F p j (i + 1) (if F i = none ∨ F i = some p then X else (X.1 + 1, if X.2 = none then some i else X.2))
def wlA (C : CF) (G : GM) (a : Int) : Int32 ⊕ Nat := if isOv C.1 G.2.1.1 = true then .inr 1 else if -2 ≤ a ∧ a < (G.2.1.1 (sc C.1 G.2.1)).length then (if 0 ≤ a then .inl (ozI (wlL C G.2.1 a.toNat)) else if a = -1 then .inl (zI (wlS (wlL C G.2.1) (tn G.2.1) (G.2.1.1 (sc C.1 G.2.1)).length 0 (0, none)).1) else .inl (ozI (wlS (wlL C G.2.1) (tn G.2.1) (G.2.1.1 (sc C.1 G.2.1)).length 0 (0, none)).2)) else .inr 1
theorem wlL_lt {k w : Nat} (hp : pureI C G M K) (hov : isOv C.1 G.2.1.1 = false) (hk : k < (G.2.1.1 (sc C.1 G.2.1)).length) (hw : wlL C G.2.1 k = some w) : w < 6 := by
  obtain ⟨p, s, n1, n2, n3, n4, n5, n6, n7, n8, n9, n10⟩ := nxk_ex C.2.2.2.1 idF hp.2.2.1.1 hov
  rw [n9] at hk
  obtain ⟨c, c1, c2⟩ := n10 k hk
  have ok : okS C.1 C.2.1 (nxk C.2.2.2.1 idF C.1 G.2.1 k) := by (try dsimp only); rw [c2]; exact okS_nx hp.2.2.1.1 n2 n5 n6 c1
  have := (wat_ac (rl := C.2.2.2.1) (sit := idF) (lw := zI 0) (lk := zI 0) hp.1.2.1 200 0 (nxk C.2.2.2.1 idF C.1 G.2.1 k, zI 0) (A0 (nxk C.2.2.2.1 idF C.1 G.2.1 k).1) (by omega) ok (acB_0 _)).2.2
  have := lsr_lt this.1 hw
  have := hp.1.2.1
  omega
theorem cl_loserIf {m : mm_V} {k : Nat} (hT : icT e z) (hp : pureI C G M K) (h : IC e m z t d C G M) (hov : isOv C.1 G.2.1.1 = false) (hk : k < (G.2.1.1 (sc C.1 G.2.1)).length) : Ev (X11_loserIf e z (zI k) m) (fun y => y.1 = ozI (wlL C G.2.1 k) ∧ IC e y.2 z t d C G M ∧ (∀ b, b < z + 233 → b ≠ t + 6 → y.2 b = m b) ∧ ∀ b, (b < z ∨ z + 402 ≤ b) → y.2 b = m b) := by
  have hF := h.2.1
  have htf := t_far h
  have hN := hT.2.2.2.2.2.2.2.2.2.2.2.2.2.2
  have hgT := hT.2.2.2.2.2.2.2.2.1
  have ok := hp.2.2.1.1
  obtain ⟨x, m1, e1, G1, o1⟩ := cl_trial hT h
  obtain ⟨p, s, n1, n2, n3, n4, n5, n6, n7, n8, n9, n10⟩ := nxk_ex C.2.2.2.1 idF ok hov
  rw [n9] at hk
  obtain ⟨c, c1, c2⟩ := n10 k hk
  have E1 : cE e m1 t C.1 C.2.1 C.2.2.2.1 := h.2.2.2.1.1.keep (fun b x1 x2 x3 => o1 b (by omega))
  obtain ⟨m2, e2, G2, -, o2⟩ := X4_step_pure (e := e) (d := z + 253) E1 hgT (by omega) hT.2.2.2.2.2.2.2.2.2.1 (by omega) (by omega) G1 ok (fun i hi => hi) n1 n2 n4 n5 n6 c1 (by omega)
  rw [← c2] at G2
  have ok2 : okS C.1 C.2.1 (nxk C.2.2.2.1 idF C.1 G.2.1 k) := by (try dsimp only); rw [c2]; exact okS_nx ok n2 n5 n6 c1
  obtain ⟨m3, e3, r1, r2, r3, r4, r5, r6, r7⟩ := cl_watch (m1 := m2) hT h G2 ok2 (fun b x1 x2 => by (try dsimp only); rw [o2 b (by omega) (by omega) x2, o1 b (by omega)])
  have hz1 : m1 z = m z := o1 z (by omega)
  have hz2 : m2 z = m z := by (try dsimp only); rw [o2 z (by omega) (by omega) (by omega), hz1]
  have hz3 : m3 z = m z := r6 z (by omega) (by omega)
  unfold X11_loserIf
  exact ev_gr hT.1 hF.2.1.2.2.1 (ev_gr hT.1 hF.1.2.2.2.2.2.2 (ev_tg hgT.1 (ev_eq e1 (ev_gr hT.1 (v := z + 233) (by (try dsimp only); rw [hz1]; exact hF.2.1.2.2.1) (ev_gr hT.1 (v := z + 253) (by (try dsimp only); rw [hz1]; exact hF.2.1.2.2.2.1) (ev_tg hgT.1 (ev_eq e2 (ev_gr hT.1 (v := z + 254) (by (try dsimp only); rw [hz2]; exact hF.2.1.2.2.2.2.1) (ev_gr hT.1 (v := z + 233) (by (try dsimp only); rw [hz2]; exact hF.2.1.2.2.1) (ev_tg hT.2.2.2.2.2.2.2.2.2.2.1.1 (ev_eq e3 (ev_gr hT.1 (v := z + 254) (by (try dsimp only); rw [hz3]; exact hF.2.1.2.2.2.2.1) (ev_gi hT.2.2.2.2.2.2.2.2.2.2.1.1 r4 (ev_ret ⟨rfl, r5, r6, r7⟩))))))))))))))
theorem cl_would_loop {m0 : mm_V} {A : Int32 ⊕ Nat} {a : Int} {s p : Nat} (ha : a = -1 ∨ a = -2) (hT : icT e z) (hp : pureI C G M K) (hov : isOv C.1 G.2.1.1 = false) (hs : sc C.1 G.2.1 = s) (hs6 : s < 6) (hpt : tn G.2.1 = p) (hp1 : G.2.1.2.2.1 = some p) (hp6 : p < 6) : ∀ (j i nn : Nat) (X : Nat × Option Nat) (m : mm_V), i + j = (G.2.1.1 s).length → j < nn → X.1 ≤ i → (∀ w, X.2 = some w → w < 100) → IC e m z t d C G M → (∀ b, (b < z ∨ z + 402 ≤ b) → m b = m0 b) → (a = -1 → A = .inl (zI (wlS (wlL C G.2.1) p j i X).1)) → (a = -2 → A = .inl (ozI (wlS (wlL C G.2.1) p j i X).2)) → Ev (X11_wouldLose_L85 e z (zI a) (z + 173 + 8 + 2 * s) nn (zI X.1) (ozI X.2) (zI i) m) (clS A e z t d C G M m0) := by
  have hgT := hT.2.2.2.2.2.1
  have hl10 := hp.2.2.1.1.1.len hp.1.2.2.1 s
  intro j
  induction j with
  | zero =>
    intro i nn X m hi hnn hX1 hX2 h hf hA1 hA2
    obtain ⟨nn, rfl⟩ : ∃ n', nn = n' + 1 := ⟨nn - 1, by omega⟩
    obtain ⟨-, -, -, -, -, -, -, ⟨⟨x, hG⟩, -⟩, -⟩ := id h
    have hfT := hgT.2.2.2.2.2.2.2 s hs6
    have hfR : fanR m (z + 173 + 8 + 2 * s) (G.2.1.1 s) := hG.2.1 s hs6
    rw [X11_wouldLose_L85]
    unfold X11_wouldLose_b155
    simp only [LT, zI_neg]
    refine ev_gi hfT.1 hfR.2.1 (ev_iep rfl rfl (by omega) ?_)
    rcases ha with ha | ha
    · exact ev_inn rfl rfl (by omega) (ev_cl (hA1 ha) h hf)
    · exact ev_inp rfl rfl (by omega) (ev_cl (hA2 ha) h hf)
  | succ j ih =>
    intro i nn X m hi hnn hX1 hX2 h hf hA1 hA2
    obtain ⟨nn, rfl⟩ : ∃ n', nn = n' + 1 := ⟨nn - 1, by omega⟩
    obtain ⟨-, hF, -, -, -, -, -, ⟨⟨x, hG⟩, -⟩, -⟩ := id h
    have hfT := hgT.2.2.2.2.2.2.2 s hs6
    have hfR : fanR m (z + 173 + 8 + 2 * s) (G.2.1.1 s) := hG.2.1 s hs6
    rw [wlS] at hA1 hA2
    rw [X11_wouldLose_L85]
    unfold X11_wouldLose_b136 X11_wouldLose_b138
    simp only [LT, zI_neg]
    rw [show (zI (i : Int) + zI 1 : Int32) = zI ((i + 1 : Nat) : Int) from zI_add _ _]
    refine ev_gi hfT.1 hfR.2.1 (ev_ien rfl rfl (by omega) (ev_call (cl_loserIf (k := i) hT hp h hov (by (try dsimp only); rw [hs]; omega)) ?_))
    rintro ⟨v, m2⟩ ⟨y1, y2, y3, y4⟩
    dsimp only at y1 y2 y3 y4
    have hf2 : ∀ b, (b < z ∨ z + 402 ≤ b) → m2 b = m0 b := fun b hb => by (try dsimp only); rw [y4 b hb]; exact hf b hb
    obtain ⟨-, hF2, -, -, -, -, -, ⟨⟨x2, hG2⟩, -⟩, -⟩ := id y2
    cases hw : wlL C G.2.1 i with
    | none =>
      rw [hw] at y1
      rw [if_pos (Or.inl hw)] at hA1 hA2
      exact ev_iqp (x := -1) y1 rfl (by omega) (ih (i + 1) nn X m2 (by omega) (by omega) (by omega) hX2 y2 hf2 hA1 hA2)
    | some w =>
      rw [hw] at y1
      have hw6 := wlL_lt (k := i) hp hov (by (try dsimp only); rw [hs]; omega) hw
      have h10 : m2 (z + 173) 10 = .int (zI p) := by (try dsimp only); rw [hG2.f10, hp1]; rfl
      refine ev_iqn (x := w) (y := -1) y1 rfl (by omega) (ev_gr hT.1 hF2.1.2.2.2.2.2.2 (ev_gi hgT.1 h10 ?_))
      by_cases hwp : w = p
      · rw [if_pos (Or.inr (by (try dsimp only); rw [hw, hwp]))] at hA1 hA2
        exact ev_iqp (x := w) y1 rfl (by omega) (ih (i + 1) nn X m2 (by omega) (by omega) (by omega) hX2 y2 hf2 hA1 hA2)
      · rw [if_neg (by (try dsimp only); rw [hw]; intro hh; rcases hh with hh | hh; cases hh; cases hh; exact hwp rfl)] at hA1 hA2
        rw [show (zI (X.1 : Int) + zI 1 : Int32) = zI ((X.1 + 1 : Nat) : Int) from zI_add _ _]
        refine ev_iqn (x := w) y1 rfl (by omega) ?_
        cases hX : X.2 with
        | none =>
          rw [hX, if_pos rfl] at hA1 hA2
          exact ev_inn (x := -1) rfl rfl (by omega) (ih (i + 1) nn (X.1 + 1, some i) m2 (by omega) (by omega) (by simp only; omega) (fun w hw => by cases hw; omega) y2 hf2 hA1 hA2)
        | some f0 =>
          rw [hX, if_neg (by simp)] at hA1 hA2
          have := hX2 f0 hX
          exact ev_inp (x := f0) (y := -1) rfl rfl (by omega) (ih (i + 1) nn (X.1 + 1, some f0) m2 (by omega) (by omega) (by simp only; omega) (fun w hw => by cases hw; omega) y2 hf2 hA1 hA2)
theorem cl_wouldLose {m : mm_V} {a : Int} (ha : i32 a) (hT : icT e z) (hp : pureI C G M K) (h : IC e m z t d C G M) : Ev (X11_wouldLose e z (zI a) m) (clS (wlA C G a) e z t d C G M m) := by
  obtain ⟨h1, hF, hA, hC, hD, hR, hL, ⟨⟨x, hG⟩, hG2⟩, hS, hI, hst⟩ := id h
  have hgT := hT.2.2.2.2.2.1
  have ok := hp.2.2.1.1
  have hN := hT.2.2.2.2.2.2.2.2.2.2.2.2.2.2
  have E := hC.1
  have h6 := hp.1.2.1
  have hlen := ok.1.len hp.1.2.2.1
  unfold X11_wouldLose wlA
  simp only [LT, zI_neg]
  refine ev_gr hT.1 hF.1.2.2.2.2.2.2 (ev_tg hgT.1 (ev_eq (X4_over_eq hgT E.1.1 hG.1 hG.2.1 E.2.2.1 h6 (by omega)) (ev_bn (fun ho => ?_) (fun ho => ?_))))
  · rw [if_neg (show ¬ isOv C.1 G.2.1.1 = true by (try dsimp only); rw [ho]; simp)]
    obtain ⟨p, s, n1, n2, n3, n4, n5, n6, n7, n8, n9, -⟩ := nxk_ex C.2.2.2.1 idF ok ho
    have hs6 : s < 6 := by omega
    have hfT := hgT.2.2.2.2.2.2.2 s hs6
    have hfR : fanR m (z + 173 + 8 + 2 * s) (G.2.1.1 s) := hG.2.1 s hs6
    have hls := hlen s
    have ha' := ha
    unfold i32 at ha
    rw [n9]
    unfold X11_wouldLose_b15
    simp only [LT, zI_neg]
    refine ev_bx X11_need_1 (ev_gr hT.1 hF.1.2.2.2.2.2.2 (ev_gr hT.1 hF.1.2.2.2.2.2.2 (ev_gr hT.1 hF.1.2.2.2.2.2.2 (ev_gi hgT.1 hG.f10 (ev_tg hgT.1 ?_)))))
    rw [n1]
    refine ev_eq (X4_source_eq (p := p) hgT E.1.1 hG.1 hG.2.1 E.2.2.1 E.2.2.2.2.2.2.1 h6 n2 hG.f7 (by omega)) ?_
    rw [n4]
    refine ev_tg hgT.1 (ev_eq (X4_fanAt_eq (p := s) hgT hG.1 hs6) ?_)
    dsimp only
    have loop : a = -1 ∨ a = -2 → Ev (X11_wouldLose_b59 e z (zI a) (z + 173 + 8 + 2 * s) m) (clS (if 0 ≤ a then .inl (ozI (wlL C G.2.1 a.toNat)) else if a = -1 then .inl (zI (wlS (wlL C G.2.1) (tn G.2.1) (G.2.1.1 s).length 0 (0, none)).1) else .inl (ozI (wlS (wlL C G.2.1) (tn G.2.1) (G.2.1.1 s).length 0 (0, none)).2)) e z t d C G M m) := by
      intro h12
      unfold X11_wouldLose_b59 X11_wouldLose_b64
      simp only [LT, zI_neg]
      refine ev_bx X11_need_1 (ev_ilp rfl rfl (by omega) ?_)
      exact cl_would_loop (m0 := m) (p := p) h12 hT hp ho n9 hs6 n8 n1 (by omega) (G.2.1.1 s).length 0 e.2.2 (0, none) m (by omega) (by omega) (Nat.le_refl _) (fun w hw => by cases hw) h (fun _ _ => rfl) (fun h1 => by (try dsimp only); rw [if_neg (by omega), if_pos h1, n8]) (fun h2 => by (try dsimp only); rw [if_neg (by omega), if_neg (by omega), n8])
    by_cases a1 : a = -1
    · rw [if_pos (show -2 ≤ a ∧ a < ((G.2.1.1 s).length : Int) by omega)]
      exact ev_iqp rfl rfl (by omega) (loop (Or.inl a1))
    refine ev_iqn rfl rfl (by omega) ?_
    by_cases a2 : a = -2
    · rw [if_pos (show -2 ≤ a ∧ a < ((G.2.1.1 s).length : Int) by omega)]
      exact ev_iqp rfl rfl (by omega) (loop (Or.inr a2))
    refine ev_iqn rfl rfl (by omega) (ev_tg hfT.1 (ev_eq (X3_hasPlace_eq hfT hfR ha.1 ha.2) ?_))
    dsimp only
    by_cases hb2 : 0 ≤ a ∧ a < (G.2.1.1 s).length
    · rw [if_pos (show 0 ≤ a ∧ a < ((G.2.1.1 s).length : Int) from hb2), if_pos (show -2 ≤ a ∧ a < ((G.2.1.1 s).length : Int) by omega), if_pos hb2.1]
      refine ev_iqn (x := 1) (y := 0) rfl rfl (by omega) ?_
      unfold X11_wouldLose_b59 X11_wouldLose_b64
      simp only [LT, zI_neg]
      obtain ⟨k, rfl⟩ : ∃ k : Nat, a = k := ⟨a.toNat, by omega⟩
      rw [Int.toNat_natCast]
      refine ev_bx X11_need_1 (ev_iln rfl rfl (by omega) (ev_call (cl_loserIf (k := k) hT hp h ho (by (try dsimp only); rw [n9]; omega)) ?_))
      rintro ⟨v, m2⟩ ⟨y1, y2, y3, y4⟩
      dsimp only at y1 y2 y3 y4
      exact ev_cl (by (try dsimp only); rw [y1]) y2 y4
    · rw [if_neg (show ¬ (0 ≤ a ∧ a < ((G.2.1.1 s).length : Int)) from hb2), if_neg (show ¬ (-2 ≤ a ∧ a < ((G.2.1.1 s).length : Int)) by omega)]
      refine ev_iqp (x := 0) (y := 0) rfl rfl (by omega) ?_
      unfold X11_wouldLose_b64
      simp only [LT, zI_neg]
      exact ev_bxx X11_need_0 rfl h (fun _ _ => rfl)
  · rw [if_pos ho]
    unfold X11_wouldLose_b15
    simp only [LT, zI_neg]
    exact ev_bxx X11_need_0 rfl h (fun _ _ => rfl)
theorem ml_would_loop {m0 : mm_V} {A : Int32 ⊕ Nat} {a : Int} {s p : Nat} (ha : -2 ≤ a ∧ a < (G.2.1.1 s).length) (hT : imT e q) (hp : pureI C G M K) (hov : isOv C.1 G.2.1.1 = false) (hs : sc C.1 G.2.1 = s) (hs6 : s < 6) (hpt : tn G.2.1 = p) (hp6 : p < 6) : ∀ (j i nn : Nat) (X : Nat × Option Nat) (m : mm_V), i + j = (G.2.1.1 s).length → j < nn → X.1 ≤ i → (∀ w, X.2 = some w → w < 100) → (0 ≤ a → i ≤ a) → IM e m q C G M → m q 0 = .int (zI 0) → (∀ b, (b < q ∨ q + 40 ≤ b) → m b = m0 b) → (a = -1 → A = .inl (zI (wlS (wlL C G.2.1) p j i X).1)) → (a = -2 → A = .inl (ozI (wlS (wlL C G.2.1) p j i X).2)) → (0 ≤ a → A = .inl (ozI (wlL C G.2.1 a.toNat))) → Ev (X12_wouldLose_L90 e q (zI a) (zI p) (zI s) nn (zI X.1) (ozI X.2) (zI i) m) (mlS A e q C G M m0) := by
  have hN := hT.2.1
  have hT := hT.1
  have hl10 := hp.2.2.1.1.1.len hp.1.2.2.1 s
  have ok := hp.2.2.1.1
  have h6 := hp.1.2.1
  obtain ⟨p', s', n1, n2, n3, n4, n5, n6, n7, n8, n9, n10⟩ := nxk_ex C.2.2.2.1 idF ok hov
  rw [hpt] at n8
  rw [hs] at n9
  subst n8 n9
  intro j
  induction j with
  | zero =>
    intro i nn X m hi hnn hX1 hX2 hia h z0 hf hA1 hA2 hA3
    obtain ⟨nn, rfl⟩ : ∃ n', nn = n' + 1 := ⟨nn - 1, by omega⟩
    obtain ⟨g1, -, -, g13, ⟨-, g14, g14'⟩, -, -⟩ := id h
    rw [X12_wouldLose_L90]
    unfold X12_wouldLose_b200
    simp only [LT, zI_neg]
    refine ev_gr hT.me g1.2.1.now_ (ev_eq (X12_size_eq hT.now_ g14.1 hs6) (ev_iep rfl rfl (by omega) ?_))
    by_cases a1 : a = -1
    · exact ev_inn rfl rfl (by omega) (ev_ml (hA1 a1) z0 h hf)
    · exact ev_inp rfl rfl (by omega) (ev_ml (hA2 (by omega)) z0 h hf)
  | succ j ih =>
    intro i nn X m hi hnn hX1 hX2 hia h z0 hf hA1 hA2 hA3
    obtain ⟨nn, rfl⟩ : ∃ n', nn = n' + 1 := ⟨nn - 1, by omega⟩
    obtain ⟨g1, -, -, g13, ⟨-, g14, g14'⟩, -, -⟩ := id h
    have S := g1.2.1
    rw [wlS] at hA1 hA2
    rw [X12_wouldLose_L90]
    unfold X12_wouldLose_b182
    simp only [LT, zI_neg]
    rw [show (zI (i : Int) + zI 1 : Int32) = zI ((i + 1 : Nat) : Int) from zI_add _ _]
    obtain ⟨c, c1, c2⟩ := n10 i (by omega)
    obtain ⟨m1, e1, o1, w1⟩ := copies_same (e := e) (m := m) (by omega) hT.now_ hT.played_ (by omega) g14' (by omega) q
    have E1 := g1.keep (fun j _ => by (try dsimp only); rw [o1 q (by omega)]) (o1 _ (by omega)) (o1 _ (by omega))
    have hq1 : m1 q = m q := o1 q (by omega)
    obtain ⟨m2, e2, r1, r2, r3, r4, r5, r6⟩ := X12_drawsOf_pure (e := e) (r := q + 15) (st := false) (lw := zI 0) (by decide) E1 (g13.keep (o1 _ (by omega))) hT.played_ (by omega) (g14.cong w1) ok hov n1 n2 n5 n6 c1 (by omega)
    rw [← c2] at r1
    have ok2 : okS C.1 C.2.1 (nxk C.2.2.2.1 idF C.1 G.2.1 i) := by (try dsimp only); rw [c2]; exact okS_nx ok n2 n5 n6 c1
    have E2 := E1.keep' (L := [45, 46, 47]) (by decide) (fun j hj => by
      simp only [List.mem_cons, List.not_mem_nil, or_false, not_or] at hj
      exact r5 j hj.1 hj.2.1 hj.2.2) (r6 _ (by omega) (by omega) (by omega)) (r6 _ (by omega) (by omega) (by omega))
    obtain ⟨m3, e3, s1, s2, s3, s4, s5⟩ := X12_plays_eq (e := e) (x := zI 0) hT.played_ (by omega) E2 ((g13.keep (o1 _ (by omega))).keep (r6 _ (by omega) (by omega) (by omega))) r1 ok2 (by omega)
    have h3 : IM e m3 q C G M := h.scr (fun k x1 x2 x3 x4 x5 x6 x7 x8 => by (try dsimp only); rw [s4 k x3 x4 x5 x6, r5 k x3 x4 x5, hq1]) (fun b x1 x2 => by (try dsimp only); rw [s5 b x1 (by omega) (by omega) (by omega), r6 b x1 (by omega) (by omega), o1 b (by omega)])
    have z3 : m3 q 0 = .int (zI 0) := by (try dsimp only); rw [s4 _ (by omega) (by omega) (by omega) (by omega), r5 _ (by omega) (by omega) (by omega), hq1]; exact z0
    have f3 : ∀ b, (b < q ∨ q + 40 ≤ b) → m3 b = m0 b := fun b hb => by (try dsimp only); rw [s5 b (by omega) (by omega) (by omega) (by omega), r6 b (by omega) (by omega) (by omega), o1 b (by omega)]; exact hf b hb
    have e2 : X12_drawsOf e q (q + 15) (zI s) (zI i) (zI 0) m1 = some m2 := e2
    refine ev_gr hT.me S.now_ (ev_eq (X12_size_eq hT.now_ g14.1 hs6) (ev_ien rfl rfl (by omega) (ev_gr hT.me S.now_ (ev_gr hT.me S.played_ (ev_eq e1 (ev_gr hT.me (v := q + 15) (by (try dsimp only); rw [hq1]; exact S.played_) (ev_eq e2 (ev_gr hT.me (v := q + 15) E2.2.1.played_ (ev_eq e3 (ev_gr hT.me (v := q + 15) h3.1.2.1.played_ (ev_eq (X12_loser_eq hT.played_ hT.me s1.1 (s2.1.lt hp.1.2.2.1) h3.1.2.2.1 h6 (by omega)) ?_)))))))))))
    have hwl : lsr C.1 (watR C.2.2.2.1 idF (zI 0) (zI 0) C.1 (nxk C.2.2.2.1 idF C.1 G.2.1 i) (zI 0)).2.1.1.1 = wlL C G.2.1 i := rfl
    dsimp only
    rw [hwl]
    by_cases hai : (i : Int) = a
    · refine ev_inn rfl rfl (by omega) (ev_ml ?_ z3 h3 f3)
      rw [hA3 (by omega), ← hai, Int.toNat_natCast]
    · refine ev_inp rfl rfl (by omega) ?_
      cases hw : wlL C G.2.1 i with
      | none =>
        rw [if_pos (Or.inl hw)] at hA1 hA2
        exact ev_iqp (x := -1) rfl rfl (by omega) (ih (i + 1) nn X m3 (by omega) (by omega) (by omega) hX2 (by omega) h3 z3 f3 hA1 hA2 hA3)
      | some w =>
        have hw6 := wlL_lt (k := i) hp hov (by (try dsimp only); rw [hs]; omega) hw
        refine ev_iqn (x := w) (y := -1) rfl rfl (by omega) ?_
        by_cases hwp : w = p
        · rw [if_pos (Or.inr (by (try dsimp only); rw [hw, hwp]))] at hA1 hA2
          exact ev_inn (x := w) rfl rfl (by omega) (ih (i + 1) nn X m3 (by omega) (by omega) (by omega) hX2 (by omega) h3 z3 f3 hA1 hA2 hA3)
        · rw [if_neg (by (try dsimp only); rw [hw]; intro hh; rcases hh with hh | hh; cases hh; cases hh; exact hwp rfl)] at hA1 hA2
          rw [show (zI (X.1 : Int) + zI 1 : Int32) = zI ((X.1 + 1 : Nat) : Int) from zI_add _ _]
          refine ev_inp (x := w) rfl rfl (by omega) ?_
          cases hX : X.2 with
          | none =>
            rw [hX, if_pos rfl] at hA1 hA2
            exact ev_inn (x := -1) rfl rfl (by omega) (ih (i + 1) nn (X.1 + 1, some i) m3 (by omega) (by omega) (by simp only; omega) (fun w hw => by cases hw; omega) (by omega) h3 z3 f3 hA1 hA2 hA3)
          | some f0 =>
            rw [hX, if_neg (by simp)] at hA1 hA2
            have := hX2 f0 hX
            exact ev_inp (x := f0) (y := -1) rfl rfl (by omega) (ih (i + 1) nn (X.1 + 1, some f0) m3 (by omega) (by omega) (by simp only; omega) (fun w hw => by cases hw; omega) (by omega) h3 z3 f3 hA1 hA2 hA3)
theorem ml_wouldLose {m : mm_V} {a : Int} (ha : i32 a) (hT : imT e q) (hp : pureI C G M K) (h : IM e m q C G M) : Ev (X12_wouldLose e q (zI a) m) (mlS (wlA C G a) e q C G M m) := by
  have hTT := hT
  have hN := hT.2.1
  have hT := hT.1
  have h6 := hp.1.2.1
  have ok := hp.2.2.1.1
  have hlen := ok.1.len hp.1.2.2.1
  have h0 := h.th (zI 0)
  have z0 : (mm_up m q 0 (.int (zI 0))) q 0 = .int (zI 0) := up_at _ _ _ _
  have fr : ∀ b, (b < q ∨ q + 40 ≤ b) → (mm_up m q 0 (.int (zI 0))) b = m b := fr_th
  unfold X12_wouldLose wlA
  simp only [LT, zI_neg]
  refine ev_pf hT.me ?_
  generalize mm_up m q 0 (.int (zI 0)) = m0 at h0 z0 fr
  obtain ⟨g1, -, -, g13, ⟨-, g14, g14'⟩, -, -⟩ := id h0
  have S := g1.2.1
  have r14 := hT.now_
  refine ev_gr hT.me S.now_ (ev_eq (X12_isOver_eq r14 hT.me g14.1 g1.2.2.1 h6 (by omega)) (ev_bn (fun ho => ?_) (fun ho => ?_)))
  · rw [if_neg (show ¬ isOv C.1 G.2.1.1 = true by (try dsimp only); rw [ho]; simp)]
    obtain ⟨p, s, n1, n2, n3, n4, n5, n6, n7, n8, n9, -⟩ := nxk_ex C.2.2.2.1 idF ok ho
    have hs6 : s < 6 := by omega
    have hls := hlen s
    have htu : m0 (q + 14) 0 = .int (zI p) := by (try dsimp only); rw [g14.2.1, ho, n1]; rfl
    have nxq := X12_nextOf_eq (e := e) r14 hT.me g14.1 g1.2.2.1 g1.2.2.2.2.2.2.1 h6 n2 (by omega)
    rw [n3] at nxq
    have ha' := ha
    unfold i32 at ha
    rw [n9]
    unfold X12_wouldLose_b22
    simp only [LT, zI_neg]
    refine ev_tg hT.me (ev_eq (X12_right_1 hT z0) (ev_inp (x := 1) (y := 0) rfl rfl (by omega) (ev_gr hT.me S.now_ (ev_ai 0 r14 rfl (by omega) (by omega) htu (ev_gr hT.me S.now_ (ev_eq nxq ?_))))))
    have bad : ¬ (-2 ≤ a ∧ a < ((G.2.1.1 s).length : Int)) → Ev (X12_wouldLose_b71 e q (zI a) (zI p) (zI s) q m0) (mlS (.inr 1) e q C G M m) := by
      intro _
      unfold X12_wouldLose_b71 X12_wouldLose_b72
      simp only [LT, zI_neg]
      exact ev_tg hT.me (ev_eq (X12_right_0 hT z0 (by decide)) (ev_inn (x := 0) (y := 0) rfl rfl (by omega) (ev_mlx rfl (up_at _ _ _ _) (h0.th _) (fun b hb => by (try dsimp only); rw [up_row _ _ _ (by omega)]; exact fr b hb))))
    by_cases hlo : a < -2
    · rw [if_neg (show ¬ (-2 ≤ a ∧ a < ((G.2.1.1 s).length : Int)) by omega)]
      exact ev_ilp rfl rfl (by omega) (bad (by omega))
    refine ev_iln rfl rfl (by omega) (ev_gr hT.me S.now_ (ev_eq (X12_size_eq (p := s) r14 g14.1 hs6) ?_))
    by_cases hhi : ((G.2.1.1 s).length : Int) ≤ a
    · rw [if_neg (show ¬ (-2 ≤ a ∧ a < ((G.2.1.1 s).length : Int)) by omega)]
      exact ev_iep rfl rfl (by omega) (bad (by omega))
    rw [if_pos (show -2 ≤ a ∧ a < ((G.2.1.1 s).length : Int) by omega)]
    refine ev_ien rfl rfl (by omega) ?_
    unfold X12_wouldLose_b72
    simp only [LT, zI_neg]
    refine ev_tg hT.me (ev_eq (X12_right_1 hT z0) (ev_inp (x := 1) (y := 0) rfl rfl (by omega) ?_))
    exact ml_would_loop (m0 := m) (s := s) (p := p) ⟨by omega, by omega⟩ hTT hp ho n9 hs6 n8 (by omega) (G.2.1.1 s).length 0 e.2.2 (0, none) m0 (by omega) (by omega) (Nat.le_refl _) (fun w hw => by cases hw) (fun _ => by omega) h0 z0 fr (fun h1 => by (try dsimp only); rw [if_neg (by omega), if_pos h1, n8]) (fun h2 => by (try dsimp only); rw [if_neg (by omega), if_neg (by omega), n8]) (fun h3 => if_pos h3)
  · rw [if_pos ho]
    unfold X12_wouldLose_b22
    simp only [LT, zI_neg]
    exact ev_tg hT.me (ev_eq (X12_right_0 hT z0 (by decide)) (ev_inn (x := 0) (y := 0) rfl rfl (by omega) (ev_mlx rfl (up_at _ _ _ _) (h0.th _) (fun b hb => by (try dsimp only); rw [up_row _ _ _ (by omega)]; exact fr b hb))))
end CA4
