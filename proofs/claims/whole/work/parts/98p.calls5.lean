/-! CALLS: blind, two, seats, evenings. -/
section CA5
variable {e : mm_E} {z t d q K : Nat} {C : CF} {G : GM} {M : MI}
theorem icS.ou {m m' : mm_V} {z : Nat} (h : icS m z) (hk : ∀ b, z + 233 ≤ b → b < z + 402 → (b < z + 259 ∨ z + 369 ≤ b) → m' b = m b) (h3 : outS m' (z + 259)) (h4 : lvW m' (z + 259)) : icS m' z := by
  obtain ⟨a1, a2, a3, a4, a5, ⟨g1, a6⟩, g2, a7⟩ := h
  exact ⟨a1.keep (fun b x1 x2 => hk b (by omega) (by omega) (by omega)), a2.keep (fun j _ => by rw [hk _ (by omega) (by omega) (by omega)]), h3, h4, a5.keep (fun j _ => by rw [hk _ (by omega) (by omega) (by omega)]) (hk _ (by omega) (by omega) (by omega)) (hk _ (by omega) (by omega) (by omega)), ⟨g1, a6.keep (fun i hi => ⟨hk _ (by omega) (by omega) (by omega), hk _ (by omega) (by omega) (by omega)⟩)⟩, g2, a7.keep (fun i hi => ⟨hk _ (by omega) (by omega) (by omega), hk _ (by omega) (by omega) (by omega)⟩)⟩
theorem whl_ne : ∀ n, n ≤ 4 → whl n ≠ 0 := by decide +kernel
theorem pk3_0 (w : Nat) : pk3 w (0, 0, 0) = 0 := by
  unfold pk3
  split
  · rfl
  · split <;> rfl
theorem par_6 : ∀ k : Fin 6, (zI (k.val : Int) - zI (k.val : Int) / zI 2 * zI 2) = bZ (!decide (k.val % 2 = 0)) := by decide +kernel
theorem cst_le : ∀ n, n ≤ 4 → cst n ≤ cst 4 := by decide +kernel
/-! blind -/
def blA (C : CF) (G : GM) (a b w : Int) : Int64 ⊕ Nat := if 0 ≤ a ∧ a < C.1 then (if 0 ≤ w ∧ w ≤ 5 then (if 0 ≤ b ∧ b ≤ 4 then (match spr C.2.2.2.1 idF C.1 (lf3 C.1 a.toNat) b.toNat G.2.1 (whl b.toNat) (0, 0, 0) with
  | none => .inl (-2)
  | some B => .inl (frc (pk3 w.toNat B) (whl b.toNat) (decide (w.toNat % 2 = 0)))) else .inr 2) else .inr 1) else .inr 1
theorem cl_blind {m : mm_V} {a b w : Int} (ha : i32 a) (hb : i32 b) (hw : i32 w) (hT : icT e z) (hp : pureI C G M K) (h : IC e m z t d C G M) : Ev (X11_blind e z (zI a) (zI b) (zI w) m) (clS (blA C G a b w) e z t d C G M m) := by
  obtain ⟨h1, hF, hA, hC, hD, hR, hL, ⟨⟨x, hG⟩, hG2⟩, hS, hI, hst⟩ := id h
  have htf := t_far h
  have hgT := hT.2.2.2.2.2.1
  have huT := hT.2.2.2.2.2.2.2.2.2.2.2.1
  have ok := hp.2.2.1.1
  have hN := hT.2.2.2.2.2.2.2.2.2.2.2.2.2.2
  have E := hC.1
  have h6 := hp.1.2.1
  unfold i32 at hb hw
  unfold X11_blind blA
  simp only [LT, zI_neg]
  by_cases hpn : 0 ≤ a ∧ a < C.1
  · rw [if_pos hpn]
    refine ev_bx (needPerson_1 ha hT h h6 hpn) ?_
    obtain ⟨p, rfl⟩ : ∃ p : Nat, a = p := ⟨a.toNat, by omega⟩
    rw [Int.toNat_natCast]
    have bad : Ev (X11_blind_b18 e z (zI p) (zI b) (zI w) m) (clS (.inr 1) e z t d C G M m) := by
      unfold X11_blind_b18 X11_blind_b19
      simp only [LT, zI_neg]
      exact ev_bxx X11_need_0 rfl h (fun _ _ => rfl)
    by_cases w0 : w < 0
    · rw [if_neg (show ¬ (0 ≤ w ∧ w ≤ 5) by omega)]
      exact ev_ilp rfl rfl (by omega) bad
    refine ev_iln rfl rfl (by omega) ?_
    by_cases w5 : 5 < w
    · rw [if_neg (show ¬ (0 ≤ w ∧ w ≤ 5) by omega)]
      exact ev_ilp rfl rfl (by omega) bad
    rw [if_pos (show 0 ≤ w ∧ w ≤ 5 by omega)]
    refine ev_iln rfl rfl (by omega) ?_
    unfold X11_blind_b19
    simp only [LT, zI_neg]
    refine ev_bx X11_need_1 ?_
    have bad2 : Ev (X11_blind_b35 e z (zI p) (zI b) (zI w) m) (clS (.inr 2) e z t d C G M m) := by
      unfold X11_blind_b35 X11_blind_b36
      simp only [LT, zI_neg]
      exact ev_bxx X11_needA_0 rfl h (fun _ _ => rfl)
    by_cases b0 : b < 0
    · rw [if_neg (show ¬ (0 ≤ b ∧ b ≤ 4) by omega)]
      exact ev_ilp rfl rfl (by omega) bad2
    refine ev_iln rfl rfl (by omega) ?_
    by_cases b4 : 4 < b
    · rw [if_neg (show ¬ (0 ≤ b ∧ b ≤ 4) by omega)]
      exact ev_ilp rfl rfl (by omega) bad2
    rw [if_pos (show 0 ≤ b ∧ b ≤ 4 by omega)]
    refine ev_iln rfl rfl (by omega) ?_
    obtain ⟨n, rfl⟩ : ∃ n : Nat, b = n := ⟨b.toNat, by omega⟩
    obtain ⟨k, rfl⟩ : ∃ k : Nat, w = k := ⟨w.toNat, by omega⟩
    rw [Int.toNat_natCast, Int.toNat_natCast]
    have hwh := whl_ne n (by omega)
    unfold X11_blind_b36
    simp only [LT, zI_neg]
    obtain ⟨v, m', e1, c2, c3, c4, c5, c6, c7⟩ := X6_spread_eq (e := e) (n := n) (p := p) (sit := idF) huT (by omega) hgT (by omega) (by omega) (by omega) (fun i hi => hi) E hS.2.2.1 hS.2.2.2.1 hG ok (by omega)
    have I1 : IC e m' z t d C G M := h.scr hT (fun b x1 x2 x3 x4 => c7 b (by omega) (by omega) x2 (by omega)) (hS.ou (fun b x1 x2 x3 => c7 b (by omega) (by omega) (by omega) (by omega)) c4 c5)
    have fr : ∀ b, (b < z ∨ z + 402 ≤ b) → m' b = m b := fun b hb => c7 b (by omega) (by omega) (by omega) (by omega)
    have hz12 := I1.2.1.2.1.2.2.2.2.2.1
    refine ev_bx X11_needA_1 (ev_gr hT.1 hF.2.1.2.2.2.2.2.1 (ev_gr hT.1 hF.1.2.2.2.2.2.2 (ev_tg huT.1 (ev_eq e1 ?_))))
    cases hs : spr C.2.2.2.1 idF C.1 (lf3 C.1 p) n G.2.1 (whl n) (0, 0, 0) with
    | none =>
      rw [hs] at c2
      have c2 : v = zI 0 := c2
      rw [c2]
      exact ev_inn (x := 0) (y := 0) rfl rfl (by omega) (ev_cl rfl I1 fr)
    | some B =>
      rw [hs] at c2
      have c2 : v = zI 1 ∧ lng m' (z + 259) B := c2
      rw [c2.1]
      refine ev_inp (x := 1) (y := 0) rfl rfl (by omega) ?_
      have fin : ∀ num, Ev (X11_blind_b96 e z (zI k) num m') (clS (.inl (frc num (whl n) (decide (k % 2 = 0)))) e z t d C G M m) := by
        intro num
        have y1 : X11_lowest e num (whl n) (zI 1) m' = some (frc num (whl n) true, m') := X11_lowest_eq hwh true (by omega)
        have y0 : X11_lowest e num (whl n) (zI 0) m' = some (frc num (whl n) false, m') := X11_lowest_eq hwh false (by omega)
        unfold X11_blind_b96 X11_blind_b121 X11_blind_b126
        simp only [LT, zI_neg]
        refine ev_gr hT.1 hz12 (ev_gl huT.1 c3 ?_)
        by_cases k0 : k = 0
        · rw [k0]; exact ev_iqp rfl rfl (by omega) (ev_eq y1 (ev_cl rfl I1 fr))
        refine ev_iqn rfl rfl (by omega) ?_
        by_cases k2 : k = 2
        · rw [k2]; exact ev_iqp rfl rfl (by omega) (ev_eq y1 (ev_cl rfl I1 fr))
        refine ev_iqn rfl rfl (by omega) ?_
        by_cases k4 : k = 4
        · rw [k4]; exact ev_inn rfl rfl (by omega) (ev_eq y1 (ev_cl rfl I1 fr))
        refine ev_inp rfl rfl (by omega) (ev_eq y0 (ev_cl ?_ I1 fr))
        rw [decide_eq_false (show ¬ k % 2 = 0 by omega)]
      by_cases k2 : k < 2
      · refine ev_ien rfl rfl (by omega) (ev_gr hT.1 hz12 (ev_gl huT.1 c2.2.1 ?_))
        have : pk3 k B = B.1 := if_pos k2
        show Ev (X11_blind_b96 e z (zI k) B.1 m') (clS (.inl (frc (pk3 k B) (whl n) (decide (k % 2 = 0)))) e z t d C G M m)
        rw [this]; exact fin _
      refine ev_iep rfl rfl (by omega) ?_
      by_cases k4 : k < 4
      · refine ev_ien rfl rfl (by omega) (ev_gr hT.1 hz12 (ev_gl huT.1 c2.2.2.1 ?_))
        have : pk3 k B = B.2.1 := by unfold pk3; rw [if_neg k2, if_pos k4]
        show Ev (X11_blind_b96 e z (zI k) B.2.1 m') (clS (.inl (frc (pk3 k B) (whl n) (decide (k % 2 = 0)))) e z t d C G M m)
        rw [this]; exact fin _
      · refine ev_iep rfl rfl (by omega) (ev_gr hT.1 hz12 (ev_gl huT.1 c2.2.2.2 ?_))
        have : pk3 k B = B.2.2 := by unfold pk3; rw [if_neg k2, if_neg k4]
        show Ev (X11_blind_b96 e z (zI k) B.2.2 m') (clS (.inl (frc (pk3 k B) (whl n) (decide (k % 2 = 0)))) e z t d C G M m)
        rw [this]; exact fin _
  · rw [if_neg hpn]
    exact ev_bxx (needPerson_0 ha hT h h6 hpn) rfl h (fun _ _ => rfl)
theorem X12_blind_44 {i1 i3 : Int32} {n : Nat} (hn : n ≤ 4) {m : mm_V} : ∀ (j i nn : Nat), i + j = n → j < nn → X12_blind_L44 e q i1 (zI n) i3 nn (whl i) (zI i) m = X12_blind_L73 e q i1 (zI n) i3 (whl n) 0 (zI 0) e.2.2 (zI 0) m := by
  intro j
  induction j with
  | zero =>
    intro i nn hi hnn
    obtain ⟨nn, rfl⟩ : ∃ n', nn = n' + 1 := ⟨nn - 1, by omega⟩
    have : i = n := by omega
    subst this
    rw [X12_blind_L44, iep (by omega)]
    rfl
  | succ j ih =>
    intro i nn hi hnn
    obtain ⟨nn, rfl⟩ : ∃ n', nn = n' + 1 := ⟨nn - 1, by omega⟩
    rw [X12_blind_L44, ien (by omega)]
    simp only [LT]
    rw [show (zI (i : Int) + zI 1 : Int32) = zI ((i + 1 : Nat) : Int) from zI_add _ _]
    exact ih (i + 1) nn (by omega) (by omega)
theorem X12_blind_73 {i1 i2 i3 : Int32} {all : Int64} {v : Nat → Int32} (hT : modT e.1 q) : ∀ (j i nn : Nat) (m : mm_V), i + j = 128 → j < nn → modS m q → (∀ k, k < 128 → m (q + 14) k = .int (v k)) → (∀ k, k < i → m (q + 24) k = .int (v k)) → ∃ m', X12_blind_L73 e q i1 i2 i3 all 0 (zI 0) nn (zI i) m = X12_blind_L116 e q i1 i2 i3 all e.2.2 0 (zI 0) m' ∧ lvl m' q 0 v 0 all ∧ ∀ b, b ≠ q + 24 → b ≠ q + 25 → b ≠ q + 27 → m' b = m b := by
  intro j
  induction j with
  | zero =>
    intro i nn m hi hnn S hv hw
    obtain ⟨nn, rfl⟩ : ∃ n', nn = n' + 1 := ⟨nn - 1, by omega⟩
    rw [X12_blind_L73]
    simp only [LT, zI_neg]
    have S2 : modS (mm_up m (q + 25) 0 (.int (zI 0))) q := S.row (up_row _ _ _ (by omega))
    rw [iep (by omega), rd_gr hT.me S.at_, Option.bind_some, wr_si hT.at_ (z := 0) (i := 0) rfl (by omega) (by omega), Option.bind_some, rd_gr hT.me S2.much_, Option.bind_some, wr_sj hT.much_ (z := 0) (i := 0) rfl (by omega) (by omega), Option.bind_some]
    refine ⟨_, rfl, ⟨fun j hj => ?_, ?_, up_at _ _ _ _⟩, fun b x1 x2 x3 => by rw [up_row _ _ _ x3, up_row _ _ _ x2]⟩
    · rw [up_row _ _ _ (by omega), up_row _ _ _ (by omega), Nat.mul_zero, Nat.zero_add]
      exact hw j (by omega)
    · rw [up_row _ _ _ (by omega), up_at]; rfl
  | succ j ih =>
    intro i nn m hi hnn S hv hw
    obtain ⟨nn, rfl⟩ : ∃ n', nn = n' + 1 := ⟨nn - 1, by omega⟩
    rw [X12_blind_L73]
    simp only [LT, zI_neg]
    rw [ien (by omega), rd_gr hT.me S.below_, Option.bind_some, rd_gr hT.me S.now_, Option.bind_some, rd_ai hT.now_ (i := i) rfl (by omega) (by omega) (hv i (by omega)), Option.bind_some, wr_si hT.below_ (i := i) rfl (by omega) (by omega), Option.bind_some, show (zI (i : Int) + zI 1 : Int32) = zI ((i + 1 : Nat) : Int) from zI_add _ _]
    obtain ⟨m', e1, e2, e3⟩ := ih (i + 1) nn (mm_up m (q + 24) i (.int (v i))) (by omega) (by omega) (S.row (up_row _ _ _ (by omega))) (fun k hk => by rw [up_row _ _ _ (by omega)]; exact hv k hk) (fun k hk => by
      by_cases hki : k = i
      · rw [hki, up_at]
      · rw [up_ne _ _ (Or.inr hki)]; exact hw k (by omega))
    exact ⟨m', e1, e2, fun b x1 x2 x3 => by rw [e3 b x1 x2 x3, up_row _ _ _ x1]⟩
theorem ml_blind {m : mm_V} {a b w : Int} (ha : i32 a) (hb : i32 b) (hw : i32 w) (hT : imT e q) (hp : pureI C G M K) (h : IM e m q C G M) : Ev (X12_blind e q (zI a) (zI b) (zI w) m) (mlS (blA C G a b w) e q C G M m) := by
  have hcs := hT.2.2.2
  have hN := hT.2.1
  have hT := hT.1
  have h6 := hp.1.2.1
  have ok := hp.2.2.1.1
  have h0 := h.th (zI 0)
  have z0 : (mm_up m q 0 (.int (zI 0))) q 0 = .int (zI 0) := up_at _ _ _ _
  have fr : ∀ b, (b < q ∨ q + 40 ≤ b) → (mm_up m q 0 (.int (zI 0))) b = m b := fr_th
  unfold X12_blind X12_blind_b36 blA
  simp only [LT, zI_neg]
  refine ev_pf hT.me ?_
  generalize mm_up m q 0 (.int (zI 0)) = m0 at h0 z0 fr
  obtain ⟨g1, -, -, g13, ⟨-, g14, g14'⟩, -, -⟩ := id h0
  have bad : ∀ {A : Int64 ⊕ Nat} {k : Nat} (v : Int64), A = .inr k → Ev (some (v, mm_up m0 q 0 (.int (zI k)))) (mlS A e q C G M m) := fun v hA => ev_mlx hA (up_at _ _ _ _) (h0.th _) (fun b hb => by rw [up_row _ _ _ (by omega)]; exact fr b hb)
  by_cases hpn : 0 ≤ a ∧ a < C.1
  · rw [if_pos hpn]
    refine ev_eq (X12_isPerson_1 ha hT z0 g1.2.2.1 h6 hpn) (ev_iqn (x := 1) (y := 0) rfl rfl (by omega) ?_)
    obtain ⟨p, rfl⟩ : ∃ p : Nat, a = p := ⟨a.toNat, by omega⟩
    rw [Int.toNat_natCast]
    by_cases hw5 : 0 ≤ w ∧ w ≤ 5
    · rw [if_pos hw5]
      refine ev_eq (X12_isWhat_1 hw ⟨by omega, by omega⟩ hT z0 hw5) (ev_iqn (x := 1) (y := 0) rfl rfl (by omega) (ev_eq (X12_within_eq hb ⟨by omega, by omega⟩ ⟨by omega, by omega⟩) ?_))
      dsimp only
      by_cases hb4 : 0 ≤ b ∧ b ≤ 4
      · rw [if_pos hb4, decide_eq_true hb4]
        refine ev_eq (X12_right_1 hT z0) (ev_inp (x := 1) (y := 0) rfl rfl (by omega) ?_)
        obtain ⟨n, rfl⟩ : ∃ n : Nat, b = n := ⟨b.toNat, by omega⟩
        obtain ⟨k, rfl⟩ : ∃ k : Nat, w = k := ⟨w.toNat, by omega⟩
        rw [Int.toNat_natCast, Int.toNat_natCast]
        have hk6 : k < 6 := by omega
        obtain ⟨v, hv⟩ := ints_ex g14'
        have hrow := g14.isRow hv
        refine ev_is (X12_blind_44 (e := e) (q := q) (i1 := zI p) (i3 := zI k) (n := n) (m := m0) (by omega) n 0 e.2.2 (by omega) (by omega)) ?_
        obtain ⟨m1, e1, l1, o1⟩ := X12_blind_73 (e := e) (i1 := zI p) (i2 := zI n) (i3 := zI k) (all := whl n) hT 128 0 e.2.2 m0 (by omega) (by omega) g1.2.1 hv (fun k hk => absurd hk (by omega))
        refine ev_is e1 ?_
        have E1 := g1.keep (fun j _ => by rw [o1 q (by omega) (by omega) (by omega)]) (o1 _ (by omega) (by omega) (by omega)) (o1 _ (by omega) (by omega) (by omega))
        have hcl := cst_le n (by omega)
        have key := X12_blind_node (e := e) (all := whl n) (n := n) (p := p) (what := k) (sit := idF) (by omega) (show p < C.1 by omega) hk6 hN n 0 e.2.2 G.2.1 (whl n) 0 v m1 (by omega) (by omega) ok hrow l1 E1 (g13.keep (o1 _ (by omega) (by omega) (by omega)))
        have hsp := spr_map (rl := C.2.2.2.1) (sit := idF) (N := C.1) (pk3 k) (lf_map C.1 p k) n G.2.1 (whl n) (0, 0, 0)
        rw [pk3_0] at hsp
        rw [← hsp] at key
        have done : ∀ m2, blK q 0 m1 m2 → IM e m2 q C G M ∧ m2 q 0 = .int (zI 0) ∧ ∀ b, (b < q ∨ q + 40 ≤ b) → m2 b = m b := fun m2 hb => ⟨h0.scr (fun k x1 x2 x3 x4 x5 x6 x7 x8 => by rw [hb.1 k x3 x4 x5, o1 q (by omega) (by omega) (by omega)]) (fun b x1 x2 => by rw [hb.2.2.2.2 b x1 (by omega) (by omega) (by omega) (by omega) (by omega), o1 b (by omega) (by omega) (by omega)]), by rw [hb.1 0 (by omega) (by omega) (by omega), o1 q (by omega) (by omega) (by omega)]; exact z0, fun b hbb => by rw [hb.2.2.2.2 b (by omega) (by omega) (by omega) (by omega) (by omega) (by omega), o1 b (by omega) (by omega) (by omega)]; exact fr b hbb⟩
        cases hs : spr C.2.2.2.1 idF C.1 (lf3 C.1 p) n G.2.1 (whl n) (0, 0, 0) with
        | none =>
          rw [hs] at key
          obtain ⟨m2, k1, k2⟩ := key
          obtain ⟨d1, d2, d3⟩ := done m2 k2
          exact ev_is k1 (ev_ml rfl d2 d1 d3)
        | some B =>
          rw [hs] at key
          obtain ⟨n2, m2, k0, k1, k2⟩ := key
          obtain ⟨d1, d2, d3⟩ := done m2 k2
          refine ev_is k1 ?_
          obtain ⟨n3, rfl⟩ : ∃ n3, n2 = n3 + 1 := ⟨n2 - 1, by omega⟩
          rw [X12_blind_L116]
          simp only [LT, zI_neg]
          have hpar := par_6 ⟨k, hk6⟩
          have hpo : X12_portion e (pk3 k B) (whl n) (zI (k : Int) - zI (k : Int) / zI 2 * zI 2) m2 = some (frc (pk3 k B) (whl n) (decide (k % 2 = 0)), m2) := by
            have hpar : (zI (k : Int) - zI (k : Int) / zI 2 * zI 2) = bZ (!decide (k % 2 = 0)) := hpar
            rw [hpar]
            exact X12_portion_eq (whl_ne n (by omega)) _ (by omega)
          exact ev_ilp rfl rfl (by omega) (ev_eq hpo (ev_ml rfl d2 d1 d3))
      · rw [if_neg hb4, decide_eq_false hb4]
        exact ev_eq (X12_right_0 hT z0 (by decide)) (ev_inn (x := 0) (y := 0) rfl rfl (by omega) (bad _ rfl))
    · rw [if_neg hw5]
      exact ev_eq (X12_isWhat_0 hw ⟨by omega, by omega⟩ hT z0 hw5) (ev_iqp (x := 0) (y := 0) rfl rfl (by omega) (bad _ rfl))
  · rw [if_neg hpn]
    exact ev_eq (X12_isPerson_0 ha hT z0 g1.2.2.1 h6 hpn) (ev_iqp (x := 0) (y := 0) rfl rfl (by omega) (bad _ rfl))
/-! two -/
def twA (a : Int) (qn : Bool) (w : Int) : Int64 ⊕ Nat := if 0 ≤ w ∧ w ≤ 1 then (if 0 ≤ a ∧ a ≤ 13 then .inl (if qn = true then (if a = 0 then 1 else frc ((twm (a.toNat - 1)).2 - (twm (a.toNat - 1)).1) (twm (a.toNat - 1)).2 (decide (w = 0))) else frc (twm a.toNat).1 (twm a.toNat).2 (decide (w = 0))) else .inr 2) else .inr 1
theorem tw_00 : frc (twm 0).1 (twm 0).2 true = 0 ∧ frc (twm 0).1 (twm 0).2 false = 1 := by decide +kernel
theorem cl_two {m : mm_V} {a w : Int} {qn : Bool} (ha : i32 a) (hw : i32 w) (hT : icT e z) (h : IC e m z t d C G M) : Ev (X11_two e z (zI a) (bZ qn) (zI w) m) (clS (twA a qn w) e z t d C G M m) := by
  have hN := hT.2.2.2.2.2.2.2.2.2.2.2.2.2.2
  unfold i32 at ha hw
  unfold X11_two twA
  simp only [LT, zI_neg]
  have main : (0 ≤ w ∧ w ≤ 1) → Ev (X11_two_b9 e (zI a) (bZ qn) (zI w) m) (clS (if 0 ≤ a ∧ a ≤ 13 then .inl (if qn = true then (if a = 0 then 1 else frc ((twm (a.toNat - 1)).2 - (twm (a.toNat - 1)).1) (twm (a.toNat - 1)).2 (decide (w = 0))) else frc (twm a.toNat).1 (twm a.toNat).2 (decide (w = 0))) else .inr 2) e z t d C G M m) := by
    intro hw1
    have bad2 : Ev (X11_two_b31 e (zI a) (bZ qn) (zI w) m) (clS (.inr 2) e z t d C G M m) := by
      unfold X11_two_b31 X11_two_b32
      simp only [LT, zI_neg]
      exact ev_bxx X11_needA_0 rfl h (fun _ _ => rfl)
    unfold X11_two_b9 X11_two_b14
    simp only [LT, zI_neg]
    refine ev_bx X11_need_1 ?_
    by_cases a0 : a < 0
    · rw [if_neg (show ¬ (0 ≤ a ∧ a ≤ 13) by omega)]
      exact ev_ilp rfl rfl (by omega) bad2
    refine ev_iln rfl rfl (by omega) ?_
    by_cases a13 : 13 < a
    · rw [if_neg (show ¬ (0 ≤ a ∧ a ≤ 13) by omega)]
      exact ev_ilp rfl rfl (by omega) bad2
    rw [if_pos (show 0 ≤ a ∧ a ≤ 13 by omega)]
    refine ev_iln rfl rfl (by omega) ?_
    obtain ⟨k, rfl⟩ : ∃ k : Nat, a = k := ⟨a.toNat, by omega⟩
    rw [Int.toNat_natCast]
    unfold X11_two_b32 X11_two_b84 X11_two_b68 X11_two_b87 X11_two_b48 X11_two_b53
    simp only [LT, zI_neg]
    refine ev_bx X11_needA_1 ?_
    by_cases k0 : k = 0
    · subst k0
      refine ev_inn rfl rfl (by omega) (ev_bn (fun hq => ?_) (fun hq => ?_))
      · rw [hq, if_neg (show ¬ (false = true) by simp)]
        by_cases w1 : w = 1
        · refine ev_inn rfl rfl (by omega) (ev_cl ?_ h (fun _ _ => rfl))
          rw [decide_eq_false (show ¬ w = 0 by omega), tw_00.2]
        · refine ev_inp rfl rfl (by omega) (ev_cl ?_ h (fun _ _ => rfl))
          rw [decide_eq_true (show w = 0 by omega), tw_00.1]
      · rw [hq, if_pos (show true = true from rfl), if_pos (show ((0 : Nat) : Int) = 0 from rfl)]
        exact ev_cl rfl h (fun _ _ => rfl)
    · refine ev_inp rfl rfl (by omega) (ev_bz (fun hq => ?_) (fun hq => ?_))
      · rw [hq, if_neg (show ¬ (false = true) by simp)]
        obtain ⟨-, -, -, h4, -, -⟩ := two_all k (by omega)
        have y1 : X11_twoWithout e (zI k) (zI 1) m = some (frc (twc k).1 (twc k).2 true, m) := X11_twoWithout_eq (by omega) true (by omega)
        have y0 : X11_twoWithout e (zI k) (zI 0) m = some (frc (twc k).1 (twc k).2 false, m) := X11_twoWithout_eq (by omega) false (by omega)
        rw [h4] at y1 y0
        by_cases w1 : w = 1
        · refine ev_inp rfl rfl (by omega) (ev_eq y0 (ev_cl ?_ h (fun _ _ => rfl)))
          rw [decide_eq_false (show ¬ w = 0 by omega)]
        · refine ev_inn rfl rfl (by omega) (ev_eq y1 (ev_cl ?_ h (fun _ _ => rfl)))
          rw [decide_eq_true (show w = 0 by omega)]
      · rw [hq, if_pos (show true = true from rfl), if_neg (show ¬ ((k : Nat) : Int) = 0 by omega)]
        obtain ⟨j, rfl⟩ : ∃ j, k = j + 1 := ⟨k - 1, by omega⟩
        rw [Nat.add_sub_cancel]
        have y1 : X11_twoWithQueen e (zI (j + 1 : Nat)) (zI 1) m = some (frc ((twm j).2 - (twm j).1) (twm j).2 true, m) := X11_twoWithQueen_eq (by omega) true (by omega)
        have y0 : X11_twoWithQueen e (zI (j + 1 : Nat)) (zI 0) m = some (frc ((twm j).2 - (twm j).1) (twm j).2 false, m) := X11_twoWithQueen_eq (by omega) false (by omega)
        by_cases w1 : w = 1
        · refine ev_inp rfl rfl (by omega) (ev_eq y0 (ev_cl ?_ h (fun _ _ => rfl)))
          rw [decide_eq_false (show ¬ w = 0 by omega)]
        · refine ev_inn rfl rfl (by omega) (ev_eq y1 (ev_cl ?_ h (fun _ _ => rfl)))
          rw [decide_eq_true (show w = 0 by omega)]
  by_cases w0 : w = 0
  · rw [if_pos (show 0 ≤ w ∧ w ≤ 1 by omega)]
    exact ev_iqp rfl rfl (by omega) (main (by omega))
  refine ev_iqn rfl rfl (by omega) ?_
  by_cases w1 : w = 1
  · rw [if_pos (show 0 ≤ w ∧ w ≤ 1 by omega)]
    exact ev_inn rfl rfl (by omega) (main (by omega))
  rw [if_neg (show ¬ (0 ≤ w ∧ w ≤ 1) by omega)]
  refine ev_inp rfl rfl (by omega) ?_
  unfold X11_two_b14
  simp only [LT, zI_neg]
  exact ev_bxx X11_need_0 rfl h (fun _ _ => rfl)
theorem ml_two {m : mm_V} {a w : Int} {qn : Bool} (ha : i32 a) (hw : i32 w) (hT : imT e q) (h : IM e m q C G M) : Ev (X12_two e q (zI a) (bZ qn) (zI w) m) (mlS (twA a qn w) e q C G M m) := by
  have hN := hT.2.1
  have hT := hT.1
  have h0 := h.th (zI 0)
  have z0 : (mm_up m q 0 (.int (zI 0))) q 0 = .int (zI 0) := up_at _ _ _ _
  have fr : ∀ b, (b < q ∨ q + 40 ≤ b) → (mm_up m q 0 (.int (zI 0))) b = m b := fr_th
  unfold X12_two X12_two_b29 twA
  simp only [LT, zI_neg]
  refine ev_pf hT.me ?_
  generalize mm_up m q 0 (.int (zI 0)) = m0 at h0 z0 fr
  have bad : ∀ {A : Int64 ⊕ Nat} {k : Nat} (v : Int64), A = .inr k → Ev (some (v, mm_up m0 q 0 (.int (zI k)))) (mlS A e q C G M m) := fun v hA => ev_mlx hA (up_at _ _ _ _) (h0.th _) (fun b hb => by rw [up_row _ _ _ (by omega)]; exact fr b hb)
  by_cases hw1 : 0 ≤ w ∧ w ≤ 1
  · rw [if_pos hw1]
    refine ev_eq (X12_isWhat_1 hw ⟨by omega, by omega⟩ hT z0 hw1) (ev_iqn (x := 1) (y := 0) rfl rfl (by omega) (ev_eq (X12_within_eq ha ⟨by omega, by omega⟩ ⟨by omega, by omega⟩) ?_))
    dsimp only
    have hww : zI w = bZ (!decide (w = 0)) := by
      by_cases w0 : w = 0
      · rw [w0]; rfl
      · rw [show w = 1 by omega]; rfl
    by_cases ha13 : 0 ≤ a ∧ a ≤ 13
    · rw [if_pos ha13, decide_eq_true ha13]
      refine ev_eq (X12_right_1 hT z0) (ev_inp (x := 1) (y := 0) rfl rfl (by omega) ?_)
      obtain ⟨k, rfl⟩ : ∃ k : Nat, a = k := ⟨a.toNat, by omega⟩
      rw [Int.toNat_natCast, hww]
      cases qn with
      | false =>
        rw [if_pos (show bZ false = zI 0 from rfl), if_neg (by simp)]
        refine ev_is (X12_two_42 (k := k) (by omega) false _ (by omega)) (ev_ml ?_ z0 h0 fr)
        rfl
      | true =>
        rw [if_neg (show ¬ bZ true = zI 0 by decide), if_pos rfl]
        by_cases k0 : k = 0
        · subst k0
          rw [if_pos (show ((0 : Nat) : Int) = 0 from rfl)]
          unfold X12_two_b42
          simp only [LT, zI_neg]
          rw [zI_sub]
          exact ev_ien rfl rfl (by omega) (ev_ml rfl z0 h0 fr)
        · rw [if_neg (show ¬ ((k : Nat) : Int) = 0 by omega), show (zI (k : Int) - zI 1 : Int32) = zI ((k - 1 : Nat) : Int) by rw [zI_sub]; congr 1; omega]
          refine ev_is (X12_two_42 (k := k - 1) (by omega) true _ (by omega)) (ev_ml ?_ z0 h0 fr)
          rfl
    · rw [if_neg ha13, decide_eq_false ha13]
      exact ev_eq (X12_right_0 hT z0 (by decide)) (ev_inn (x := 0) (y := 0) rfl rfl (by omega) (bad _ rfl))
  · rw [if_neg hw1]
    exact ev_eq (X12_isWhat_0 hw ⟨by omega, by omega⟩ hT z0 hw1) (ev_iqp (x := 0) (y := 0) rfl rfl (by omega) (bad _ rfl))
/-! seats -/
def seA (C : CF) (G : GM) (a w : Int) : Int32 ⊕ Nat := if 0 ≤ a ∧ a < C.1 then (if 0 ≤ w ∧ w ≤ 2 then .inl (pkS w.toNat a.toNat (sts C.2.2.2.1 C.1 a.toNat G.2.1.1 120 idO ((fun _ => 0, 0, 0), none))) else .inr 1) else .inr 1
theorem cl_seats {m : mm_V} {a w : Int} (ha : i32 a) (hw : i32 w) (hT : icT e z) (hp : pureI C G M K) (h : IC e m z t d C G M) : Ev (X11_seats e z (zI a) (zI w) m) (clS (seA C G a w) e z t d C G M m) := by
  obtain ⟨h1, hF, hA, hC, hD, hR, hL, ⟨⟨x, hG⟩, hG2⟩, hS, hI, hst⟩ := id h
  have htf := t_far h
  have hgT := hT.2.2.2.2.2.1
  have huT := hT.2.2.2.2.2.2.2.2.2.2.2.1
  have ok := hp.2.2.1.1
  have hN := hT.2.2.2.2.2.2.2.2.2.2.2.2.2.2
  have E := hC.1
  have h6 := hp.1.2.1
  unfold i32 at hw
  unfold X11_seats seA
  simp only [LT, zI_neg]
  by_cases hpn : 0 ≤ a ∧ a < C.1
  · rw [if_pos hpn]
    refine ev_bx (needPerson_1 ha hT h h6 hpn) ?_
    obtain ⟨p, rfl⟩ : ∃ p : Nat, a = p := ⟨a.toNat, by omega⟩
    rw [Int.toNat_natCast]
    have bad : Ev (X11_seats_b18 e z (zI p) (zI w) m) (clS (.inr 1) e z t d C G M m) := by
      unfold X11_seats_b18 X11_seats_b19
      simp only [LT, zI_neg]
      exact ev_bxx X11_need_0 rfl h (fun _ _ => rfl)
    by_cases w0 : w < 0
    · rw [if_neg (show ¬ (0 ≤ w ∧ w ≤ 2) by omega)]
      exact ev_ilp rfl rfl (by omega) bad
    refine ev_iln rfl rfl (by omega) ?_
    by_cases w5 : 2 < w
    · rw [if_neg (show ¬ (0 ≤ w ∧ w ≤ 2) by omega)]
      exact ev_ilp rfl rfl (by omega) bad
    rw [if_pos (show 0 ≤ w ∧ w ≤ 2 by omega)]
    refine ev_iln rfl rfl (by omega) ?_
    unfold X11_seats_b19 X11_seats_b69
    simp only [LT, zI_neg]
    obtain ⟨m', e1, c2, c3, c4, c5, c6, c7⟩ := X6_trySeats_eq (e := e) (p := p) (lw := zI 0) (lk := zI 0) (sit := idF) huT (by omega) hgT (by omega) (by omega) (show p < C.1 by omega) E hS.2.2.1 hS.2.2.2.1 hG ok (by omega)
    have I1 : IC e m' z t d C G M := h.scr hT (fun b x1 x2 x3 x4 => c7 b (by omega) x2) (hS.ou (fun b x1 x2 x3 => c7 b (by omega) (by omega)) c4 c5)
    have fr : ∀ b, (b < z ∨ z + 402 ≤ b) → m' b = m b := fun b hb => c7 b (by omega) (by omega)
    have hz12 := I1.2.1.2.1.2.2.2.2.2.1
    refine ev_bx X11_need_1 (ev_gr hT.1 hF.2.1.2.2.2.2.2.1 (ev_gr hT.1 hF.1.2.2.2.2.2.2 (ev_tg huT.1 (ev_eq e1 ?_))))
    by_cases k2 : w = 2
    · rw [k2]
      exact ev_inn rfl rfl (by omega) (ev_gr hT.1 hz12 (ev_gi huT.1 c3 (ev_cl rfl I1 fr)))
    refine ev_inp rfl rfl (by omega) ?_
    by_cases k0 : w = 0
    · rw [k0]
      exact ev_inn rfl rfl (by omega) (ev_gr hT.1 hz12 (ev_tg huT.1 (ev_eq (X6_losses_eq huT c4 c2 (by omega)) (ev_cl rfl I1 fr))))
    · rw [show w = 1 by omega]
      exact ev_inp rfl rfl (by omega) (ev_gr hT.1 hz12 (ev_gi huT.1 c2.2.1 (ev_cl rfl I1 fr)))
  · rw [if_neg hpn]
    exact ev_bxx (needPerson_0 ha hT h h6 hpn) rfl h (fun _ _ => rfl)
theorem sitM_id {m : mm_V} (h : ordM m (q + 18) idO) : sitM m q idF := by
  have hid : ∀ i, i < 6 → gO idO i = i := by decide
  intro i hi
  refine ⟨?_, hi⟩
  rw [h i hi, hid i hi]; rfl
theorem IM.scr18 {m m' : mm_V} (h : IM e m q C G M) (hf : ∀ k, k ≠ 0 → k ≠ 41 → k ≠ 45 → k ≠ 46 → k ≠ 47 → k ≠ 54 → k ≠ 66 → k ≠ 67 → m' q k = m q k) (ho : ∀ b, b ≠ q → (b < q + 15 ∨ b = q + 19 ∨ q + 38 ≤ b) → m' b = m b) (hs : sitM m' q idF) : IM e m' q C G M := by
  have key : IM e (fun b k => if b = q + 18 then m b k else m' b k) q C G M := h.scr (fun k x1 x2 x3 x4 x5 x6 x7 x8 => by
    show (if q = q + 18 then m q k else m' q k) = _
    rw [if_neg (by omega)]; exact hf k x1 x2 x3 x4 x5 x6 x7 x8) (fun b x1 x2 => by
    funext k
    show (if b = q + 18 then m b k else m' b k) = _
    by_cases hb : b = q + 18
    · rw [if_pos hb]
    · rw [if_neg hb, ho b x1 (by omega)])
  have hr : ∀ b, b ≠ q + 18 → m' b = (fun b k => if b = q + 18 then m b k else m' b k) b := fun b hb => by
    funext k
    show _ = (if b = q + 18 then m b k else m' b k)
    rw [if_neg hb]
  obtain ⟨h1, ⟨a1, a2, a3, a4, a5, a6⟩, ⟨b1, b2, b3, b4, b5⟩, h4, ⟨⟨c1, c2⟩, c3, c4⟩, h6, h7⟩ := key
  generalize (fun b k => if b = q + 18 then m b k else m' b k) = mm at *
  have hq := hr q (by omega)
  refine ⟨h1.keep (fun j _ => by rw [hq]) (hr _ (by omega)) (hr _ (by omega)), ⟨by rw [hq]; exact a1, by rw [hq]; exact a2, by rw [hq]; exact a3, by rw [hq]; exact a4, by rw [hq]; exact a5, by rw [hq]; exact a6⟩, ⟨fun i hi => by rw [hr _ (by omega)]; exact b1 i hi, by rw [hr _ (by omega)]; exact b2, by rw [hr _ (by omega)]; exact b3, fun i hi => by rw [hr _ (by omega)]; exact b4 i hi, b5.keep (hr _ (by omega))⟩, hs, ⟨⟨c1.keep (hr _ (by omega)), c2.keep (hr _ (by omega))⟩, c3.keep (hr _ (by omega)), c4.keep (hr _ (by omega))⟩, h6.keep (by rw [hq]) (hr _ (by omega)), fun Si Hi hx => ?_⟩
  obtain ⟨d1, d2, d3, d4⟩ := h7 Si Hi hx
  exact ⟨by rw [hq]; exact d1, d2.keep (hr _ (by omega)), d3.keep (hr _ (by omega)), d4.keep (hr _ (by omega))⟩
theorem ml_seats {m : mm_V} {a w : Int} (ha : i32 a) (hw : i32 w) (hT : imT e q) (hp : pureI C G M K) (h : IM e m q C G M) : Ev (X12_seats e q (zI a) (zI w) m) (mlS (seA C G a w) e q C G M m) := by
  have hN := hT.2.1
  have hT := hT.1
  have h6 := hp.1.2.1
  have h2 := hp.1.1
  have ok := hp.2.2.1.1
  have h0 := h.th (zI 0)
  have z0 : (mm_up m q 0 (.int (zI 0))) q 0 = .int (zI 0) := up_at _ _ _ _
  have fr : ∀ b, (b < q ∨ q + 40 ≤ b) → (mm_up m q 0 (.int (zI 0))) b = m b := fr_th
  unfold X12_seats X12_seats_b22 seA
  simp only [LT, zI_neg]
  refine ev_pf hT.me ?_
  generalize mm_up m q 0 (.int (zI 0)) = m0 at h0 z0 fr
  obtain ⟨g1, -, -, g13, ⟨-, g14, g14'⟩, -, -⟩ := id h0
  have bad : ∀ {A : Int32 ⊕ Nat} {k : Nat} (v : Int32), A = .inr k → Ev (some (v, mm_up m0 q 0 (.int (zI k)))) (mlS A e q C G M m) := fun v hA => ev_mlx hA (up_at _ _ _ _) (h0.th _) (fun b hb => by rw [up_row _ _ _ (by omega)]; exact fr b hb)
  by_cases hpn : 0 ≤ a ∧ a < C.1
  · rw [if_pos hpn]
    refine ev_eq (X12_isPerson_1 ha hT z0 g1.2.2.1 h6 hpn) (ev_iqn (x := 1) (y := 0) rfl rfl (by omega) ?_)
    obtain ⟨p, rfl⟩ : ∃ p : Nat, a = p := ⟨a.toNat, by omega⟩
    rw [Int.toNat_natCast]
    by_cases hw2 : 0 ≤ w ∧ w ≤ 2
    · rw [if_pos hw2]
      refine ev_eq (X12_isWhat_1 hw ⟨by omega, by omega⟩ hT z0 hw2) (ev_inp (x := 1) (y := 0) rfl rfl (by omega) ?_)
      obtain ⟨k, rfl⟩ : ∃ k : Nat, w = k := ⟨w.toNat, by omega⟩
      rw [Int.toNat_natCast]
      obtain ⟨m1, e1, o1, f1⟩ := X12_ever_eq (e := e) hT g1.2.1 (by omega)
      refine ev_eq e1 ?_
      have E1 := g1.keep (fun j _ => by rw [f1 q (by omega)]) (f1 _ (by omega)) (f1 _ (by omega))
      have hen : enO C.1 120 idO = true := by
        obtain ⟨n2, n3, n4, n5, n6⟩ := enO_120
        have : C.1 = 2 ∨ C.1 = 3 ∨ C.1 = 4 ∨ C.1 = 5 ∨ C.1 = 6 := by omega
        rcases this with hx | hx | hx | hx | hx <;> rw [hx] <;> assumption
      obtain ⟨m2, e2, o2, f2, f3⟩ := X12_seats_loop (e := e) (S := G.2.1) (what := k) (p := p) (show p < C.1 by omega) (by omega) hN 120 e.2.2 m1 idO (fun _ => 0, 0, 0) none hen (by omega) E1 (g14.1.keep' (f1 _ (by omega))) ok o1 (okO_id h6) (fun v hv => by cases hv)
      have e2' : X12_seats_L39 e q (zI p) (zI k) e.2.2 (zI 0) (zI 0) (zI (-1)) (zI 1) m1 = some (pkS k p (sts C.2.2.2.1 C.1 p G.2.1.1 120 idO ((fun _ => 0, 0, 0), none)), m2) := e2
      have hq : m1 q = m0 q := f1 q (by omega)
      refine ev_is e2' (ev_ml rfl (by rw [f2 _ (by omega) (by omega) (by omega) (by omega), hq]; exact z0) (h0.scr18 (fun k x1 x2 x3 x4 x5 x6 x7 x8 => by rw [f2 k x3 x4 x5 x6, hq]) (fun b x1 x2 => by rw [f3 b x1 (by omega) (by omega) (by omega) (by omega), f1 b (by omega)]) (sitM_id o2)) (fun b hb => by rw [f3 b (by omega) (by omega) (by omega) (by omega) (by omega), f1 b (by omega)]; exact fr b hb))
    · rw [if_neg hw2]
      exact ev_eq (X12_isWhat_0 hw ⟨by omega, by omega⟩ hT z0 hw2) (ev_inn (x := 0) (y := 0) rfl rfl (by omega) (bad _ rfl))
  · rw [if_neg hpn]
    exact ev_eq (X12_isPerson_0 ha hT z0 g1.2.2.1 h6 hpn) (ev_iqp (x := 0) (y := 0) rfl rfl (by omega) (bad _ rfl))
/-! evenings -/
def pkV (N : Nat) (A : LA) (a : Int) : Int32 := if a = -3 then zI (mxf A.1 (N - 1) 1 (A.1 0)) - zI (mnf A.1 (N - 1) 1 (A.1 0)) else if a = -2 then zI A.2.2 else if a = -1 then zI A.2.1 else zI (A.1 a.toNat)
def vnA (C : CF) (y : Int32) (b w : Int) (k : Bool) (a : Int) : Int32 ⊕ Nat := if -3 ≤ a ∧ a < C.1 then (if 0 ≤ b ∧ b ≤ 60 then (if 0 ≤ w ∧ w ≤ 3 then .inl (pkV C.1 (evs C.2.2.2.1 C.1 C.2.1 (zI w) (bZ k) y b.toNat 0 (fun _ => 0, 0, 0)) a) else .inr 2) else .inr 2) else .inr 1
theorem cl_evenings {m : mm_V} {y : Int32} {b w a : Int} {k : Bool} (hb : i32 b) (hw : i32 w) (ha : i32 a) (hT : icT e z) (hp : pureI C G M K) (h : IC e m z t d C G M) : Ev (X11_evenings e z y (zI b) (zI w) (bZ k) (zI a) m) (clS (vnA C y b w k a) e z t d C G M m) := by
  obtain ⟨h1, hF, hA, hC, hD, hR, hL, hG, hS, hI, hst⟩ := id h
  have htf := t_far h
  have huT := hT.2.2.2.2.2.2.2.2.2.2.2.1
  have hgT := hT.2.2.2.2.2.2.2.2.1
  have hN := hT.2.2.2.2.2.2.2.2.2.2.2.2.2.2
  have E := hC.1
  have h6 := hp.1.2.1
  have h2 := hp.1.1
  have ha' := ha
  unfold i32 at hb hw ha
  unfold X11_evenings vnA
  simp only [LT, zI_neg]
  have bad2 : Ev (X11_evenings_b51 e z y (zI b) (zI w) (bZ k) (zI a) m) (clS (.inr 2) e z t d C G M m) := by
    unfold X11_evenings_b51 X11_evenings_b52
    simp only [LT, zI_neg]
    exact ev_bxx X11_needA_0 rfl h (fun _ _ => rfl)
  have bad3 : Ev (X11_evenings_b68 e z y (zI b) (zI w) (bZ k) (zI a) m) (clS (.inr 2) e z t d C G M m) := by
    unfold X11_evenings_b68 X11_evenings_b69
    simp only [LT, zI_neg]
    exact ev_bxx X11_needA_0 rfl h (fun _ _ => rfl)
  have main : (-3 ≤ a ∧ a < C.1) → Ev (X11_evenings_b29 e z y (zI b) (zI w) (bZ k) (zI a) m) (clS (if 0 ≤ b ∧ b ≤ 60 then (if 0 ≤ w ∧ w ≤ 3 then .inl (pkV C.1 (evs C.2.2.2.1 C.1 C.2.1 (zI w) (bZ k) y b.toNat 0 (fun _ => 0, 0, 0)) a) else .inr 2) else .inr 2) e z t d C G M m) := by
    intro haa
    unfold X11_evenings_b29 X11_evenings_b34
    simp only [LT, zI_neg]
    refine ev_bx X11_need_1 ?_
    by_cases b0 : b < 0
    · rw [if_neg (show ¬ (0 ≤ b ∧ b ≤ 60) by omega)]
      exact ev_ilp rfl rfl (by omega) bad2
    refine ev_iln rfl rfl (by omega) ?_
    by_cases b60 : 60 < b
    · rw [if_neg (show ¬ (0 ≤ b ∧ b ≤ 60) by omega)]
      exact ev_ilp rfl rfl (by omega) bad2
    rw [if_pos (show 0 ≤ b ∧ b ≤ 60 by omega)]
    refine ev_iln rfl rfl (by omega) ?_
    unfold X11_evenings_b52
    simp only [LT, zI_neg]
    refine ev_bx X11_needA_1 ?_
    by_cases w0 : w < 0
    · rw [if_neg (show ¬ (0 ≤ w ∧ w ≤ 3) by omega)]
      exact ev_ilp rfl rfl (by omega) bad3
    refine ev_iln rfl rfl (by omega) ?_
    by_cases w3 : 3 < w
    · rw [if_neg (show ¬ (0 ≤ w ∧ w ≤ 3) by omega)]
      exact ev_ilp rfl rfl (by omega) bad3
    rw [if_pos (show 0 ≤ w ∧ w ≤ 3 by omega)]
    refine ev_iln rfl rfl (by omega) ?_
    unfold X11_evenings_b69
    simp only [LT, zI_neg]
    obtain ⟨n, rfl⟩ : ∃ n : Nat, b = n := ⟨b.toNat, by omega⟩
    rw [Int.toNat_natCast]
    obtain ⟨m1, e1, l1, s1, f1, o1⟩ := X6_begin_eq (e := e) huT hS.2.2.1 (by omega)
    have hz : m1 z = m z := o1 z (by omega) (by omega)
    have hlk : bZ k = 0 ∨ bZ k = 1 := by
      cases k with
      | false => exact Or.inl rfl
      | true => exact Or.inr rfl
    refine ev_bx X11_needA_1 (ev_gr hT.1 hF.2.1.2.2.2.2.2.1 (ev_tg huT.1 (ev_eq e1 ?_)))
    obtain ⟨n1, m2, e2, l2, b2, s2, w2, f2, o2⟩ := X11_ev_loop (e := e) (rl := C.2.2.2.1) (N := C.1) (P := C.2.1) (lw := zI w) (lk := bZ k) (y := y) (i5 := zI a) (many := n) hT.1 huT hgT (by omega) (by omega) (by omega) (by omega) hlk (by omega) (by omega) n 0 e.2.2 m1 (fun _ => 0, 0, 0) (by omega) (by omega) (by rw [hz]; exact hF.1.2.1) (by rw [hz]; exact hF.2.1.2.2.1) (by rw [hz]; exact hF.2.1.2.2.2.2.2.1) (E.keep (fun b x1 x2 x3 => o1 b (by omega) (by omega))) s1 (hS.1.keep (fun b x1 x2 => o1 b (by omega) (by omega))) l1 ⟨fun _ => Nat.le_refl _, by simp only; omega⟩
    refine ev_is e2 ?_
    have fr2 : ∀ b, (b < z + 233 ∨ z + 369 ≤ b) → b ≠ t + 6 → m2 b = m b := fun b x1 x2 => by rw [o2 b (by omega) (by omega) (by omega) x2, o1 b (by omega) (by omega)]
    have I2 : IC e m2 z t d C G M := by
      refine h.scr hT (fun b x1 x2 x3 x4 => fr2 b (by omega) x2) ?_
      obtain ⟨a1, a2, a3, a4, a5, ⟨g1, a6⟩, g2, a7⟩ := hS
      exact ⟨w2, a2.keep (fun j _ => by rw [o2 _ (by omega) (by omega) (by omega) (by omega), o1 _ (by omega) (by omega)]), s2, fun i hi => (a4 i hi).keep (fun b x1 x2 => by rw [o2 _ (by omega) (by omega) (by omega) (by omega), o1 _ (by omega) (by omega)]), a5.keep (fun j _ => by rw [fr2 _ (by omega) (by omega)]) (fr2 _ (by omega) (by omega)) (fr2 _ (by omega) (by omega)), ⟨g1, a6.keep (fun i hi => ⟨fr2 _ (by omega) (by omega), fr2 _ (by omega) (by omega)⟩)⟩, g2, a7.keep (fun i hi => ⟨fr2 _ (by omega) (by omega), fr2 _ (by omega) (by omega)⟩)⟩
    have fr : ∀ b, (b < z ∨ z + 402 ≤ b) → m2 b = m b := fun b hb => fr2 b (by omega) (by omega)
    have hz12 := I2.2.1.2.1.2.2.2.2.2.1
    have hz1 := I2.2.1.1.2.1
    have hb60 : laB (evs C.2.2.2.1 C.1 C.2.1 (zI w) (bZ k) y n 0 (fun _ => 0, 0, 0)) 60 := ⟨fun w => by have := b2.1 w; omega, b2.2⟩
    rw [X11_evenings_L82]
    unfold X11_evenings_b193
    simp only [LT, zI_neg]
    refine ev_iep rfl rfl (by omega) ?_
    unfold pkV
    by_cases a3 : a = -3
    · rw [if_pos a3, a3]
      exact ev_inn rfl rfl (by omega) (ev_gr hT.1 hz12 (ev_gr hT.1 hz1 (ev_gi E.1.1 I2.2.2.2.1.1.2.2.1 (ev_tg huT.1 (ev_eq (X6_mostByLeast_eq huT s2 l2 hb60 h2 h6 (by omega)) (ev_cl rfl I2 fr))))))
    rw [if_neg a3]
    refine ev_inp rfl rfl (by omega) ?_
    by_cases a2 : a = -2
    · rw [if_pos a2, a2]
      exact ev_inn rfl rfl (by omega) (ev_gr hT.1 hz12 (ev_gi huT.1 l2.2.2 (ev_cl rfl I2 fr)))
    rw [if_neg a2]
    refine ev_inp rfl rfl (by omega) ?_
    by_cases a1 : a = -1
    · rw [if_pos a1, a1]
      exact ev_inn rfl rfl (by omega) (ev_gr hT.1 hz12 (ev_gi huT.1 l2.2.1 (ev_cl rfl I2 fr)))
    rw [if_neg a1]
    obtain ⟨p, rfl⟩ : ∃ p : Nat, a = p := ⟨a.toNat, by omega⟩
    rw [Int.toNat_natCast]
    exact ev_inp rfl rfl (by omega) (ev_gr hT.1 hz12 (ev_tg huT.1 (ev_eq (X6_losses_eq huT s2 l2 (show p < 6 by omega)) (ev_cl rfl I2 fr))))
  by_cases a1 : a = -1
  · rw [if_pos (show -3 ≤ a ∧ a < C.1 by omega)]
    exact ev_iqp rfl rfl (by omega) (main (by omega))
  refine ev_iqn rfl rfl (by omega) ?_
  by_cases a2 : a = -2
  · rw [if_pos (show -3 ≤ a ∧ a < C.1 by omega)]
    exact ev_iqp rfl rfl (by omega) (main (by omega))
  refine ev_iqn rfl rfl (by omega) ?_
  by_cases a3 : a = -3
  · rw [if_pos (show -3 ≤ a ∧ a < C.1 by omega)]
    exact ev_iqp rfl rfl (by omega) (main (by omega))
  refine ev_iqn rfl rfl (by omega) (ev_eq (X11_isPerson_eq ha' hT h h6) ?_)
  dsimp only
  by_cases hpn : 0 ≤ a ∧ a < C.1
  · rw [decide_eq_true hpn, if_pos (show -3 ≤ a ∧ a < C.1 by omega)]
    exact ev_iqn (x := 1) (y := 0) rfl rfl (by omega) (main (by omega))
  · rw [decide_eq_false hpn, if_neg (show ¬ (-3 ≤ a ∧ a < C.1) by omega)]
    refine ev_iqp (x := 0) (y := 0) rfl rfl (by omega) ?_
    unfold X11_evenings_b34
    simp only [LT, zI_neg]
    exact ev_bxx X11_need_0 rfl h (fun _ _ => rfl)
theorem X12_evenings_71 {i1 i2 i3 i4 i5 : Int32} (hT : modT e.1 q) : ∀ (j i nn : Nat) (m : mm_V), i + j = 6 → j < nn → modS m q → (∀ k, k < i → m (q + 37) k = .int (zI 0)) → ∃ m', X12_evenings_L71 e q i1 i2 i3 i4 i5 nn (zI i) m = X12_evenings_L101 e q i1 i2 i3 i4 i5 e.2.2 (zI 0) (zI 0) (zI 0) m' ∧ lossM m' q (fun _ => 0, 0, 0) ∧ ∀ b, b ≠ q + 37 → m' b = m b := by
  intro j
  induction j with
  | zero =>
    intro i nn m hi hnn S hw
    obtain ⟨nn, rfl⟩ : ∃ n', nn = n' + 1 := ⟨nn - 1, by omega⟩
    rw [X12_evenings_L71]
    simp only [LT, zI_neg]
    rw [iep (by omega)]
    exact ⟨m, rfl, fun k hk => hw k (by omega), fun _ _ => rfl⟩
  | succ j ih =>
    intro i nn m hi hnn S hw
    obtain ⟨nn, rfl⟩ : ∃ n', nn = n' + 1 := ⟨nn - 1, by omega⟩
    rw [X12_evenings_L71]
    simp only [LT, zI_neg]
    rw [ien (by omega), rd_gr hT.me S.losses_, Option.bind_some, wr_si hT.losses_ (i := i) rfl (by omega) (by omega), Option.bind_some, show (zI (i : Int) + zI 1 : Int32) = zI ((i + 1 : Nat) : Int) from zI_add _ _]
    obtain ⟨m', e1, e2, e3⟩ := ih (i + 1) nn (mm_up m (q + 37) i (.int (zI 0))) (by omega) (by omega) (S.row (up_row _ _ _ (by omega))) (fun k hk => by
      by_cases hki : k = i
      · rw [hki, up_at]
      · rw [up_ne _ _ (Or.inr hki)]; exact hw k (by omega))
    exact ⟨m', e1, e2, fun b x1 => by rw [e3 b x1, up_row _ _ _ x1]⟩
theorem ml_evenings {m : mm_V} {y : Int32} {b w a : Int} {k : Bool} (hb : i32 b) (hw : i32 w) (ha : i32 a) (hT : imT e q) (hp : pureI C G M K) (h : IM e m q C G M) : Ev (X12_evenings e q y (zI b) (zI w) (bZ k) (zI a) m) (mlS (vnA C y b w k a) e q C G M m) := by
  have hN := hT.2.1
  have hT := hT.1
  have h6 := hp.1.2.1
  have h2 := hp.1.1
  have h0 := h.th (zI 0)
  have z0 : (mm_up m q 0 (.int (zI 0))) q 0 = .int (zI 0) := up_at _ _ _ _
  have fr : ∀ b, (b < q ∨ q + 40 ≤ b) → (mm_up m q 0 (.int (zI 0))) b = m b := fr_th
  unfold X12_evenings vnA
  simp only [LT, zI_neg]
  refine ev_pf hT.me ?_
  generalize mm_up m q 0 (.int (zI 0)) = m0 at h0 z0 fr
  obtain ⟨g1, -, -, g13, -, -, -⟩ := id h0
  have bad : ∀ {A : Int32 ⊕ Nat} {k : Nat} (v : Int32), A = .inr k → Ev (some (v, mm_up m0 q 0 (.int (zI k)))) (mlS A e q C G M m) := fun v hA => ev_mlx hA (up_at _ _ _ _) (h0.th _) (fun b hb => by rw [up_row _ _ _ (by omega)]; exact fr b hb)
  have bad1 : Ev (X12_evenings_b26 e q y (zI b) (zI w) (bZ k) (zI a) q m0) (mlS (.inr 1) e q C G M m) := by
    unfold X12_evenings_b26 X12_evenings_b27 X12_evenings_b66
    simp only [LT, zI_neg]
    exact ev_tg hT.me (ev_eq (X12_right_0 hT z0 (by decide)) (ev_iqp (x := 0) (y := 0) rfl rfl (by omega) (bad _ rfl)))
  have bad2 : Ev (X12_evenings_b58 e q y (zI b) (zI w) (bZ k) (zI a) q m0) (mlS (.inr 2) e q C G M m) := by
    unfold X12_evenings_b58 X12_evenings_b59 X12_evenings_b66
    simp only [LT, zI_neg]
    exact ev_tg hT.me (ev_eq (X12_right_0 hT z0 (by decide)) (ev_inn (x := 0) (y := 0) rfl rfl (by omega) (bad _ rfl)))
  unfold i32 at ha
  by_cases a3 : a < -3
  · rw [if_neg (show ¬ (-3 ≤ a ∧ a < C.1) by omega)]
    exact ev_ilp rfl rfl (by omega) bad1
  refine ev_iln rfl rfl (by omega) (ev_gi hT.me g1.2.2.1 ?_)
  by_cases aN : (C.1 : Int) ≤ a
  · rw [if_neg (show ¬ (-3 ≤ a ∧ a < C.1) by omega)]
    exact ev_iep rfl rfl (by omega) bad1
  rw [if_pos (show -3 ≤ a ∧ a < C.1 by omega)]
  refine ev_ien rfl rfl (by omega) ?_
  unfold X12_evenings_b27
  simp only [LT, zI_neg]
  refine ev_tg hT.me (ev_eq (X12_right_1 hT z0) (ev_iqn (x := 1) (y := 0) rfl rfl (by omega) (ev_eq (X12_within_eq hb ⟨by omega, by omega⟩ ⟨by omega, by omega⟩) ?_)))
  dsimp only
  by_cases hb60 : 0 ≤ b ∧ b ≤ 60
  · rw [if_pos hb60, decide_eq_true hb60]
    refine ev_iqn (x := 1) (y := 0) rfl rfl (by omega) (ev_eq (X12_within_eq hw ⟨by omega, by omega⟩ ⟨by omega, by omega⟩) ?_)
    dsimp only
    by_cases hw3 : 0 ≤ w ∧ w ≤ 3
    · rw [if_pos hw3, decide_eq_true hw3]
      refine ev_iqn (x := 1) (y := 0) rfl rfl (by omega) ?_
      unfold X12_evenings_b59
      simp only [LT, zI_neg]
      refine ev_tg hT.me (ev_eq (X12_right_1 hT z0) (ev_inp (x := 1) (y := 0) rfl rfl (by omega) ?_))
      obtain ⟨n, rfl⟩ : ∃ n : Nat, b = n := ⟨b.toNat, by omega⟩
      obtain ⟨l, rfl⟩ : ∃ l : Nat, w = l := ⟨w.toNat, by omega⟩
      rw [Int.toNat_natCast]
      obtain ⟨m1, e1, l1, o1⟩ := X12_evenings_71 (e := e) (i1 := y) (i2 := zI n) (i3 := zI l) (i4 := bZ k) (i5 := zI a) hT 6 0 e.2.2 m0 (by omega) (by omega) g1.2.1 (fun k hk => absurd hk (by omega))
      refine ev_is e1 ?_
      have hq : m1 q = m0 q := o1 q (by omega)
      have E1 := g1.keep (fun j _ => by rw [hq]) (o1 _ (by omega)) (o1 _ (by omega))
      obtain ⟨n1, m2, e2, l2, b2, E2, f2, o2⟩ := X12_ev_loop (e := e) (lk := bZ k) (y := y) (i5 := zI a) (k := l) (many := n) (by omega) (by omega) hN n 0 e.2.2 m1 (fun _ => 0, 0, 0) (by omega) (by omega) E1 (g13.keep (o1 _ (by omega))) l1 ⟨fun _ => Nat.le_refl _, by simp only; omega⟩
      refine ev_is e2 ?_
      have I2 : IM e m2 q C G M := h0.scr (fun k x1 x2 x3 x4 x5 x6 x7 x8 => by rw [f2 k x2 x3 x4 x5, hq]) (fun b x1 x2 => by rw [o2 b x1 (by omega) (by omega) (by omega) (by omega), o1 b (by omega)])
      have z2 : m2 q 0 = .int (zI 0) := by rw [f2 _ (by omega) (by omega) (by omega) (by omega), hq]; exact z0
      have fr2 : ∀ b, (b < q ∨ q + 40 ≤ b) → m2 b = m b := fun b hb => by rw [o2 b (by omega) (by omega) (by omega) (by omega) (by omega), o1 b (by omega)]; exact fr b hb
      have hb60 : laB (evs C.2.2.2.1 C.1 C.2.1 (zI l) (bZ k) y n 0 (fun _ => 0, 0, 0)) 60 := ⟨fun w => by have := b2.1 w; omega, b2.2⟩
      have S := E2.2.1
      rw [X12_evenings_L101]
      unfold X12_evenings_b216
      simp only [LT, zI_neg]
      refine ev_iep rfl rfl (by omega) ?_
      unfold pkV
      by_cases a0 : a < 0
      · refine ev_ilp rfl rfl (by omega) ?_
        by_cases a3 : a = -3
        · rw [if_pos a3, a3]
          have hm := X12_mbl_loop (e := e) hT S E2.2.2.1 l2 hb60 h6 C.1 0 e.2.2 0 ((evs C.2.2.2.1 C.1 C.2.1 (zI l) (bZ k) y n 0 (fun _ => 0, 0, 0)).1 0) (by omega) (by omega) (by omega) (hb60.1 0)
          obtain ⟨x1, x2⟩ := mx_same (evs C.2.2.2.1 C.1 C.2.1 (zI l) (bZ k) y n 0 (fun _ => 0, 0, 0)).1 h2
          rw [x1, x2] at hm
          exact ev_iep rfl rfl (by omega) (ev_gr hT.me S.losses_ (ev_ai 0 hT.losses_ rfl (by omega) (by omega) (l2 0 (by omega)) (ev_is hm (ev_ml rfl z2 I2 fr2))))
        rw [if_neg a3]
        refine ev_ien rfl rfl (by omega) ?_
        by_cases a2 : a = -2
        · rw [if_pos a2, a2]
          exact ev_inp rfl rfl (by omega) (ev_ml rfl z2 I2 fr2)
        · rw [if_neg a2, if_pos (show a = -1 by omega), show a = -1 by omega]
          exact ev_inn rfl rfl (by omega) (ev_ml rfl z2 I2 fr2)
      · rw [if_neg (show ¬ a = -3 by omega), if_neg (show ¬ a = -2 by omega), if_neg (show ¬ a = -1 by omega)]
        obtain ⟨p, rfl⟩ : ∃ p : Nat, a = p := ⟨a.toNat, by omega⟩
        rw [Int.toNat_natCast]
        exact ev_iln rfl rfl (by omega) (ev_gr hT.me S.losses_ (ev_ai p hT.losses_ rfl (by omega) (by omega) (l2 p (by omega)) (ev_ml rfl z2 I2 fr2)))
    · rw [if_neg hw3, decide_eq_false hw3]
      exact ev_iqp (x := 0) (y := 0) rfl rfl (by omega) bad2
  · rw [if_neg hb60, decide_eq_false hb60]
    exact ev_iqp (x := 0) (y := 0) rfl rfl (by omega) bad2
end CA5
