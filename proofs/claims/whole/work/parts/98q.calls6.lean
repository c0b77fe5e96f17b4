/-! CALLS: belief, choose. -/
section CA6
variable {e : mm_E} {z t d q K : Nat} {C : CF} {G : GM} {M : MI}
def belV (C : CF) (G : GM) (p : Nat) (wt : Option Nat) : Option (BC × Nat) := if G.2.1.2.2.2 = zI G.2.2.1.length then belA C.1 p wt (G.2.2.1.map (hsR C.2.2.2.1)) G.1.1 else none
def bel2 (C : CF) (G : GM) (p : Nat) : Option (Nat × (Nat → Nat)) := (belV C G p none).map (fun Y => (Y.1.1, Y.1.2.1))
def leaf2 (N p : Nat) (H : List PR) (g : Nat → List Nat) (X : Nat × (Nat → Nat)) : Nat × (Nat → Nat) := ((leafB N p none H g (X.1, X.2, fun _ => 0)).1, (leafB N p none H g (X.1, X.2, fun _ => 0)).2.1)
theorem leaf_2 {N p : Nat} {wt : Option Nat} {H : List PR} (g : Nat → List Nat) (X : BC) : (fun X : BC => (X.1, X.2.1)) (leafB N p wt H g X) = leaf2 N p H g ((fun X : BC => (X.1, X.2.1)) X) := by
  dsimp only
  unfold leaf2 leafB
  cases rpl p H g with
  | none => rfl
  | some g' => rfl
theorem belA_2 {N p : Nat} {wt : Option Nat} {R : List PR} {f0 : Nat → List Nat} : (belA N p wt R f0).map (fun Y => (Y.1.1, Y.1.2.1)) = (belA N p none R f0).map (fun Y => (Y.1.1, Y.1.2.1)) := by
  have h1 := trA_map (ow := owL f0 p 6) (lf2 := leaf2 N p R) (fun X : BC => (X.1, X.2.1)) (fun g X => leaf_2 (N := N) (p := p) (wt := wt) (H := R) g X) (owL f0 p 6).length 0 (g0L f0 p) (lfL f0 p 6) ((0, fun _ => 0, fun _ => 0), 0)
  have h2 := trA_map (ow := owL f0 p 6) (lf2 := leaf2 N p R) (fun X : BC => (X.1, X.2.1)) (fun g X => leaf_2 (N := N) (p := p) (wt := none) (H := R) g X) (owL f0 p 6).length 0 (g0L f0 p) (lfL f0 p 6) ((0, fun _ => 0, fun _ => 0), 0)
  have h3 := congrArg (fun o : Option ((Nat × (Nat → Nat)) × Nat) => o.map Prod.fst) (h1.trans h2.symm)
  simp only [Option.map_map] at h3
  exact h3
theorem belV_2 {p : Nat} {wt : Option Nat} : (belV C G p wt).map (fun Y => (Y.1.1, Y.1.2.1)) = bel2 C G p := by
  unfold bel2 belV
  split
  · exact belA_2
  · rfl
theorem hist_sz (hp : pureI C G M K) (hd : G.2.1.2.2.2 = zI G.2.2.1.length) : szH C.1 (G.2.2.1.map (hsR C.2.2.2.1)) (lenF G.1.1) := by
  obtain ⟨-, h60, A, D, h3, h4, h5, h6, h7⟩ := hp.2.2.1
  have hK := hp.2.2.2.2.2
  rw [h4, zI_eq (by omega) (by omega) (by omega) (by omega)] at hd
  have := h7 (by omega)
  rw [this] at h3
  exact chn_szH hp.1.2.2.1 _ _ _ h3
theorem bel_pl {f : Nat → List Nat} {N P : Nat} (h : tabI N P f) (hP : P ≤ 9) : ∀ p, ∀ x ∈ f p, x < 10 := fun p x hx => by have := h.2.1 p x hx; omega
theorem cl_believe {m : mm_V} {p : Nat} {wt : Option Nat} (hpN : p < C.1) (hwt : ∀ v, wt = some v → v < 6) (hT : icT e z) (hp : pureI C G M K) (h : IC e m z t d C G M) : ∃ v m', X11_believe e z (zI p) (ozI wt) m = some (v, m') ∧ belO (belV C G p wt) v m' (z + 369) ∧ belS m' (z + 369) ∧ IC e m' z t d C G M ∧ (∀ b, b < z + 369 → m' b = m b) ∧ ∀ b, (b < z ∨ z + 402 ≤ b) → m' b = m b := by
  obtain ⟨h1, hF, hA, hC, hD, hR, hL, ⟨⟨x, hG⟩, ⟨x0, hG0⟩, hG3⟩, hS, hI, hst⟩ := id h
  have htf := t_far h
  have hgT := hT.2.2.2.2.2.1
  have hgT0 := hT.2.2.2.2.2.2.1
  have hlT := hT.2.2.2.1
  have hbT := hT.2.2.2.2.2.2.2.2.2.2.2.2.1
  have hN := hT.2.2.2.2.2.2.2.2.2.2.2.2.2.2
  have E := hC.1
  have hbz := hS.2.2.2.2
  unfold belV
  by_cases hdn : G.2.1.2.2.2 = zI G.2.2.1.length
  · rw [if_pos hdn]
    obtain ⟨v, m', e1, b1, b2, o1⟩ := X0_weigh_eq (e := e) (l := z + 47) (w := z + 369) (t := t) (wt := wt) (p := p) hbT hlT (by omega) hgT0 (by omega) (hs_hisD C.2.2.2.1 G.2.2.1) hp.1.2.1 hp.1.2.2.1 hpN hwt hp.2.1.2 (hist_sz hp hdn) hp.2.1.1.1 hbz hL.1 hG0.1 hG0.2.1 (by omega)
    have I1 : IC e m' z t d C G M := h.scr hT (fun b x1 x2 x3 x4 => o1 b (by omega)) ⟨hS.1.keep (fun b x1 x2 => o1 b (by omega)), hS.2.1.keep (fun j _ => by rw [o1 _ (by omega)]), hS.2.2.1.keep (fun j _ => by rw [o1 _ (by omega)]) (o1 _ (by omega)) (o1 _ (by omega)), fun i hi => (hS.2.2.2.1 i hi).keep (fun b x1 x2 => o1 b (by omega)), b2⟩
    have hv : v = zI 0 ∨ v = zI 1 := by
      cases hr : belA C.1 p wt (G.2.2.1.map (hsR C.2.2.2.1)) G.1.1 with
      | none => rw [hr] at b1; exact Or.inl b1
      | some B => rw [hr] at b1; exact Or.inr b1.1
    refine ⟨v, m', ?_, b1, b2.1, I1, fun b hb => o1 b (by omega), fun b hb => o1 b (by omega)⟩
    unfold X11_believe X11_believe_b42 X11_believe_b41
    simp only [LT, zI_neg]
    rw [rd_gr hT.1 hF.1.2.2.2.2.1, Option.bind_some, rd_gi hlT.1 hL.1.2.2.2.1, Option.bind_some, rd_gr hT.1 hF.1.2.2.2.2.2.2, Option.bind_some, rd_gi hgT.1 hG.f11, Option.bind_some, List.length_map, hdn]
    rw [if_neg (show ¬ ¬ zI (G.2.2.1.length : Int) = zI (G.2.2.1.length : Int) from fun hh => hh rfl), rd_gr hT.1 hF.2.1.2.2.2.2.2.2, Option.bind_some, rd_gr hT.1 hF.2.1.1, Option.bind_some, Option.bind_some, if_pos hbT.1, e1, Option.bind_some]
    rcases hv with hv | hv
    · rw [hv]; rfl
    · rw [hv]; rfl
  · rw [if_neg hdn]
    refine ⟨zI 0, m, ?_, rfl, hbz.1, h, fun _ _ => rfl, fun _ _ => rfl⟩
    unfold X11_believe X11_believe_b41 X11_believe_b42
    simp only [LT, zI_neg]
    rw [rd_gr hT.1 hF.1.2.2.2.2.1, Option.bind_some, rd_gi hlT.1 hL.1.2.2.2.1, Option.bind_some, rd_gr hT.1 hF.1.2.2.2.2.2.2, Option.bind_some, rd_gi hgT.1 hG.f11, Option.bind_some, List.length_map, if_pos (show ¬ zI (G.2.2.1.length : Int) = G.2.1.2.2.2 from fun hh => hdn hh.symm)]
    rfl
theorem X12_believes_no {m : mm_V} {done : Int32} {H : List QR} {p : Nat} (hT : modT e.1 q) (hS : modS m q) (hd : m (q + 14) 1 = .int done) (L : mlogR m q H) (hN : 1000 < e.2.2) (hdn : ¬ done = zI H.length) : ∃ m', X12_believes e q (zI p) m = some (zI 0, m') ∧ (∀ j, j ≠ 66 → j ≠ 67 → m' q j = m q j) ∧ ∀ b, b ≠ q → (b < q + 28 ∨ q + 35 ≤ b) → m' b = m b := by
  generalize hm1 : mm_up m q 66 (.int (zI 0)) = m1
  generalize hm2 : mm_up m1 q 67 (.int (zI 0)) = m2
  have o2 : ∀ b, b ≠ q → m2 b = m b := fun b h => by rw [← hm2, up_row _ _ _ h, ← hm1, up_row _ _ _ h]
  have q2 : ∀ j, j ≠ 66 → j ≠ 67 → m2 q j = m q j := fun j x1 x2 => by rw [← hm2, up_ne _ _ (Or.inr x2), ← hm1, up_ne _ _ (Or.inr x1)]
  have S2 : modS m2 q := hS.keep (fun i x1 x2 => q2 _ (mfld_ne 66 (by decide) i x1 x2) (mfld_ne 67 (by decide) i x1 x2))
  obtain ⟨m3, a1, a2, a3⟩ := X12_bel_12 (e := e) (i1 := zI p) hT 6 0 e.2.2 m2 (by omega) (by omega) S2 (fun k hk => absurd hk (by omega))
  have S3 : modS m3 q := S2.keep (fun _ _ _ => by rw [a3 _ (by omega)])
  obtain ⟨n4, m4, b1, b2, b3⟩ := X12_bel_33 (e := e) (i1 := zI p) hT 19 0 e.2.2 m3 (by omega) (by omega) S3 (fun k hk => absurd hk (by omega))
  have S4 : modS m4 q := S3.keep (fun _ _ _ => by rw [b3 _ (by omega)])
  have f4 : ∀ b, b ≠ q → b ≠ q + 33 → b ≠ q + 34 → m4 b = m b := fun b x1 x2 x3 => by rw [b3 b x2, a3 b x3, o2 b x1]
  have q4 : ∀ j, m4 q j = m2 q j := fun j => by rw [b3 _ (by omega), a3 _ (by omega)]
  refine ⟨m4, ?_, fun j x1 x2 => by rw [q4, q2 j x1 x2], fun b x1 x2 => f4 b x1 (by omega) (by omega)⟩
  unfold X12_believes
  rw [show (0 : Int32) = zI ((0 : Nat) : Int) from rfl, wr_pf hT.me, Option.bind_some, show (zI ((0 : Nat) : Int) : Int32) = zI 0 from rfl, hm1, wr_pf hT.me, Option.bind_some, hm2, show (zI 0 : Int32) = zI ((0 : Nat) : Int) from rfl, a1, b1, X12_believes_L33, show (19 : Int32) = zI 19 from rfl, iep (by omega), rd_gr hT.me S4.now_, Option.bind_some, show (1 : Int32) = zI 1 from rfl, rd_ai (m := m4) hT.now_ (z := 1) (i := 1) rfl (by omega) (by omega) (v := done) (by rw [f4 _ (by omega) (by omega) (by omega)]; exact hd), Option.bind_some, rd_gi hT.me (v := zI H.length) (by rw [q4, q2 _ (by omega) (by omega)]; exact L.1), Option.bind_some, if_neg hdn]
  rfl
theorem ml_believes {m : mm_V} {p : Nat} (hpN : p < C.1) (hT : imT e q) (hp : pureI C G M K) (h : IM e m q C G M) : ∃ v m', X12_believes e q (zI p) m = some (v, m') ∧ belMO (belV C G p (if hasC G.2.1.1 p then nxt C.1 G.2.1.1 p else none)) v m' q ∧ IM e m' q C G M ∧ m' q 0 = m q 0 ∧ ∀ b, (b < q ∨ q + 40 ≤ b) → m' b = m b := by
  have hB := hT.2.2.1
  have hN := hT.2.1
  have hT := hT.1
  obtain ⟨g1, -, -, -, ⟨⟨g12, g13⟩, g14, g14'⟩, g15, -⟩ := id h
  have fin : ∀ m', (∀ j, j ≠ 66 → j ≠ 67 → m' q j = m q j) → (∀ b, b ≠ q → (b < q + 28 ∨ q + 35 ≤ b) → m' b = m b) → IM e m' q C G M ∧ m' q 0 = m q 0 ∧ ∀ b, (b < q ∨ q + 40 ≤ b) → m' b = m b := fun m' f o => ⟨h.scr (fun k x1 x2 x3 x4 x5 x6 x7 x8 => f k x7 x8) (fun b x1 x2 => o b x1 (by omega)), f 0 (by omega) (by omega), fun b hb => o b (by omega) (by omega)⟩
  unfold belV
  by_cases hdn : G.2.1.2.2.2 = zI G.2.2.1.length
  · rw [if_pos hdn]
    obtain ⟨v, m', e1, b1, b2, f1, o1⟩ := X12_believes_eq (e := e) (p := p) (f := G.2.1.1) (done := G.2.1.2.2.2) g1 (hs_hisD C.2.2.2.1 G.2.2.1) hpN hp.2.1.2 (hist_sz hp hdn) hp.2.1.1.1 g12.1 (fun k hk => g13 k hk) g14.1 g14.2.2.1 g15 (by omega) hB
    obtain ⟨c1, c2, c3⟩ := fin m' f1 o1
    exact ⟨v, m', e1, b1 (by rw [List.length_map]; exact hdn), c1, c2, c3⟩
  · rw [if_neg hdn]
    obtain ⟨m', e1, f1, o1⟩ := X12_believes_no (e := e) (p := p) hT g1.2.1 g14.2.2.1 g15 (by omega) (by rw [List.length_map]; exact hdn)
    obtain ⟨c1, c2, c3⟩ := fin m' f1 o1
    exact ⟨zI 0, m', e1, rfl, c1, c2, c3⟩
/-! belief -/
def blfA (C : CF) (G : GM) (a b : Int) : Int32 ⊕ Nat := if 0 ≤ a ∧ a < C.1 then (if -1 ≤ b ∧ b < C.1 then (match bel2 C G a.toNat with
  | none => .inl (zI (-2))
  | some X => if b = -1 then .inl (zI X.1) else .inl (zI (X.2 b.toNat))) else .inr 1) else .inr 1
theorem cl_belief {m : mm_V} {a b : Int} (ha : i32 a) (hb : i32 b) (hT : icT e z) (hp : pureI C G M K) (h : IC e m z t d C G M) : Ev (X11_belief e z (zI a) (zI b) m) (clS (blfA C G a b) e z t d C G M m) := by
  have hF := h.2.1
  have hbT := hT.2.2.2.2.2.2.2.2.2.2.2.2.1
  have h6 := hp.1.2.1
  have hb' := hb
  unfold i32 at hb
  unfold X11_belief blfA
  simp only [LT, zI_neg]
  by_cases hpn : 0 ≤ a ∧ a < C.1
  · rw [if_pos hpn]
    refine ev_bx (needPerson_1 ha hT h h6 hpn) ?_
    obtain ⟨p, rfl⟩ : ∃ p : Nat, a = p := ⟨a.toNat, by omega⟩
    rw [Int.toNat_natCast]
    have main : (-1 ≤ b ∧ b < C.1) → Ev (X11_belief_b18 e z (zI p) (zI b) m) (clS (match bel2 C G p with
      | none => .inl (zI (-2))
      | some X => if b = -1 then .inl (zI X.1) else .inl (zI (X.2 b.toNat))) e z t d C G M m) := by
      intro hbb
      unfold X11_belief_b18 X11_belief_b23 X11_belief_b61
      simp only [LT, zI_neg]
      obtain ⟨v, m', e1, b1, b2, I1, o1, fr⟩ := cl_believe (p := p) (wt := none) (by omega) (fun v hv => by cases hv) hT hp h
      have e1 : X11_believe e z (zI p) (zI (-1)) m = some (v, m') := e1
      refine ev_bx X11_need_1 (ev_eq e1 ?_)
      unfold bel2
      cases hr : belV C G p none with
      | none =>
        rw [hr] at b1
        have b1 : v = zI 0 := b1
        rw [b1]
        exact ev_inn (x := 0) (y := 0) rfl rfl (by omega) (ev_cl rfl I1 fr)
      | some Y =>
        rw [hr] at b1
        obtain ⟨b1, b3⟩ := b1
        rw [b1]
        refine ev_inp (x := 1) (y := 0) rfl rfl (by omega) ?_
        by_cases hb1 : b = -1
        · refine ev_inn rfl rfl (by omega) (ev_gr hT.1 I1.2.1.2.1.2.2.2.2.2.2 (ev_gi hbT.1 b3.1 (ev_cl ?_ I1 fr)))
          exact if_pos hb1
        · obtain ⟨w, rfl⟩ : ∃ w : Nat, b = w := ⟨b.toNat, by omega⟩
          have hX : X0_holding e (z + 369) (zI w) m' = some (zI (Y.1.2.1 w), m') := by
            unfold X0_holding X0_holding_b20
            simp only [LT, zI_neg]
            rw [iln (by omega), ien (by omega), rd_gr hbT.1 b2.2.2.2.2.2.1, Option.bind_some, rd_ai hbT.2.2.2.2.2.2.1 (i := w) rfl (by omega) (by omega) (b3.2.1 w (by omega)), Option.bind_some]
          refine ev_inp rfl rfl (by omega) (ev_gr hT.1 I1.2.1.2.1.2.2.2.2.2.2 (ev_tg hbT.1 (ev_eq hX (ev_cl ?_ I1 fr))))
          exact if_neg hb1
    by_cases hb1 : b = -1
    · rw [if_pos (show -1 ≤ b ∧ b < C.1 by omega)]
      exact ev_iqp rfl rfl (by omega) (main (by omega))
    refine ev_iqn rfl rfl (by omega) (ev_eq (X11_isPerson_eq hb' hT h h6) ?_)
    dsimp only
    by_cases hb2 : 0 ≤ b ∧ b < C.1
    · rw [decide_eq_true hb2, if_pos (show -1 ≤ b ∧ b < C.1 by omega)]
      exact ev_iqn (x := 1) (y := 0) rfl rfl (by omega) (main (by omega))
    · rw [decide_eq_false hb2, if_neg (show ¬ (-1 ≤ b ∧ b < C.1) by omega)]
      refine ev_iqp (x := 0) (y := 0) rfl rfl (by omega) ?_
      unfold X11_belief_b23
      simp only [LT, zI_neg]
      exact ev_bxx X11_need_0 rfl h (fun _ _ => rfl)
  · rw [if_neg hpn]
    exact ev_bxx (needPerson_0 ha hT h h6 hpn) rfl h (fun _ _ => rfl)
theorem ml_belief {m : mm_V} {a b : Int} (ha : i32 a) (hb : i32 b) (hT : imT e q) (hp : pureI C G M K) (h : IM e m q C G M) : Ev (X12_belief e q (zI a) (zI b) m) (mlS (blfA C G a b) e q C G M m) := by
  have hTT := hT
  have hT := hT.1
  have h6 := hp.1.2.1
  have h0 := h.th (zI 0)
  have z0 : (mm_up m q 0 (.int (zI 0))) q 0 = .int (zI 0) := up_at _ _ _ _
  have fr : ∀ b, (b < q ∨ q + 40 ≤ b) → (mm_up m q 0 (.int (zI 0))) b = m b := fr_th
  have hb' := hb
  unfold i32 at hb
  unfold X12_belief X12_belief_b26 blfA
  simp only [LT, zI_neg]
  refine ev_pf hT.me ?_
  generalize mm_up m q 0 (.int (zI 0)) = m0 at h0 z0 fr
  obtain ⟨g1, -⟩ := id h0
  have bad : ∀ {A : Int32 ⊕ Nat} {k : Nat} (v : Int32), A = .inr k → Ev (some (v, mm_up m0 q 0 (.int (zI k)))) (mlS A e q C G M m) := fun v hA => ev_mlx hA (up_at _ _ _ _) (h0.th _) (fun b hb => by rw [up_row _ _ _ (by omega)]; exact fr b hb)
  by_cases hpn : 0 ≤ a ∧ a < C.1
  · rw [if_pos hpn]
    refine ev_eq (X12_isPerson_1 ha hT z0 g1.2.2.1 h6 hpn) (ev_iqn (x := 1) (y := 0) rfl rfl (by omega) ?_)
    obtain ⟨p, rfl⟩ : ∃ p : Nat, a = p := ⟨a.toNat, by omega⟩
    rw [Int.toNat_natCast]
    have main : (-1 ≤ b ∧ b < C.1) → Ev (X12_belief_b28 e q (zI p) (zI b) m0) (mlS (match bel2 C G p with
      | none => .inl (zI (-2))
      | some X => if b = -1 then .inl (zI X.1) else .inl (zI (X.2 b.toNat))) e q C G M m) := by
      intro hbb
      unfold X12_belief_b28 X12_belief_b57
      simp only [LT, zI_neg]
      obtain ⟨v, m', e1, b1, I1, z1, fr1⟩ := ml_believes (p := p) (show p < C.1 by omega) hTT hp h0
      have z1 : m' q 0 = .int (zI 0) := by rw [z1]; exact z0
      have fr2 : ∀ b, (b < q ∨ q + 40 ≤ b) → m' b = m b := fun b hb => by rw [fr1 b hb]; exact fr b hb
      refine ev_eq e1 ?_
      rw [← belV_2 (p := p) (wt := if hasC G.2.1.1 p then nxt C.1 G.2.1.1 p else none)]
      cases hr : belV C G p (if hasC G.2.1.1 p then nxt C.1 G.2.1.1 p else none) with
      | none =>
        rw [hr] at b1
        have b1 : v = zI 0 := b1
        rw [b1]
        exact ev_inn (x := 0) (y := 0) rfl rfl (by omega) (ev_ml rfl z1 I1 fr2)
      | some Y =>
        rw [hr] at b1
        obtain ⟨b1, b3⟩ := b1
        rw [b1]
        refine ev_inp (x := 1) (y := 0) rfl rfl (by omega) ?_
        by_cases hb1 : b = -1
        · refine ev_inn rfl rfl (by omega) (ev_gi hT.me b3.1 (ev_ml ?_ z1 I1 fr2))
          exact if_pos hb1
        · obtain ⟨w, rfl⟩ : ∃ w : Nat, b = w := ⟨b.toNat, by omega⟩
          refine ev_inp rfl rfl (by omega) (ev_gr hT.me I1.1.2.1.hereWho_ (ev_ai w hT.hereWho_ rfl (by omega) (by omega) (b3.2.1 w (by omega)) (ev_ml ?_ z1 I1 fr2)))
          exact if_neg hb1
    by_cases hb1 : b = -1
    · rw [if_pos (show -1 ≤ b ∧ b < C.1 by omega)]
      exact ev_iqp rfl rfl (by omega) (main (by omega))
    refine ev_iqn rfl rfl (by omega) ?_
    by_cases hb2 : 0 ≤ b ∧ b < C.1
    · rw [if_pos (show -1 ≤ b ∧ b < C.1 by omega)]
      exact ev_eq (X12_isPerson_1 hb' hT z0 g1.2.2.1 h6 hb2) (ev_inp (x := 1) (y := 0) rfl rfl (by omega) (main (by omega)))
    · rw [if_neg (show ¬ (-1 ≤ b ∧ b < C.1) by omega)]
      exact ev_eq (X12_isPerson_0 hb' hT z0 g1.2.2.1 h6 hb2) (ev_inn (x := 0) (y := 0) rfl rfl (by omega) (bad _ rfl))
  · rw [if_neg hpn]
    exact ev_eq (X12_isPerson_0 ha hT z0 g1.2.2.1 h6 hpn) (ev_iqp (x := 0) (y := 0) rfl rfl (by omega) (bad _ rfl))
/-! choose -/
def chL (Z : Nat → Nat) : Nat → Nat → Nat → Nat
  | 0, _, b => b
  | j + 1, i, b => chL Z j (i + 1) (if zI (Z b) ≤ zI (Z i) then b else i)
def choA (C : CF) (G : GM) (a w : Int) : Int32 ⊕ Nat := if 0 ≤ a ∧ a < C.1 then (if 0 ≤ w ∧ w ≤ 1 then (if isOv C.1 G.2.1.1 = true ∨ hasC G.2.1.1 a.toNat = false then .inl (zI (-1)) else match belV C G a.toNat (nxt C.1 G.2.1.1 a.toNat) with
  | none => .inl (zI (-2))
  | some Y => if w = 0 then .inl (zI (chL Y.1.2.2 ((G.2.1.1 ((nxt C.1 G.2.1.1 a.toNat).getD 0)).length - 1) 1 0)) else .inl (zI (Y.1.2.2 (chL Y.1.2.2 ((G.2.1.1 ((nxt C.1 G.2.1.1 a.toNat).getD 0)).length - 1) 1 0)))) else .inr 1) else .inr 1
theorem X0_queenAt_eq {m : mm_V} {w i : Nat} {X : BC} (hbT : belT e.1 w) (hS : belS m w) (hX : belR m w X) (hi : i < 10) : X0_queenAt e w (zI i) m = some (zI (X.2.2 i), m) := by
  unfold X0_queenAt X0_queenAt_b20
  simp only [LT, zI_neg]
  rw [iln (by omega), ien (by omega), rd_gr hbT.1 hS.2.2.2.2.2.2.1, Option.bind_some, rd_ai hbT.2.2.2.2.2.2.2.1 (i := i) rfl (by omega) (by omega) (hX.2.2 i hi), Option.bind_some]
theorem cl_choose_loop {m m0 : mm_V} {A : Int32 ⊕ Nat} {X : BC} {s : Nat} {w : Int} (hw : w = 0 ∨ w = 1) (hT : icT e z) (hp : pureI C G M K) (h : IC e m z t d C G M) (hf : ∀ b, (b < z ∨ z + 402 ≤ b) → m b = m0 b) (hX : belR m (z + 369) X) (hS : belS m (z + 369)) (hs6 : s < 6) {n : Nat} (hn : n = (G.2.1.1 s).length) : ∀ (j i b nn : Nat), i + j = n → j < nn → b < i → (A = if w = 0 then .inl (zI (chL X.2.2 j i b)) else .inl (zI (X.2.2 (chL X.2.2 j i b)))) → Ev (X11_choose_L72 e z (zI w) (zI s) nn (zI b) (zI i) m) (clS A e z t d C G M m0) := by
  have hgT := hT.2.2.2.2.2.1
  have hbT := hT.2.2.2.2.2.2.2.2.2.2.2.2.1
  have hl10 := hp.2.2.1.1.1.len hp.1.2.2.1 s
  obtain ⟨-, hF, -, -, -, -, -, ⟨⟨x, hG⟩, -⟩, -⟩ := id h
  have hfT := hgT.2.2.2.2.2.2.2 s hs6
  have hfR : fanR m (z + 173 + 8 + 2 * s) (G.2.1.1 s) := hG.2.1 s hs6
  have h13 := hF.2.1.2.2.2.2.2.2
  intro j
  induction j with
  | zero =>
    intro i b nn hi hnn hb hA
    obtain ⟨nn, rfl⟩ : ∃ n', nn = n' + 1 := ⟨nn - 1, by omega⟩
    rw [X11_choose_L72]
    unfold X11_choose_b142
    simp only [LT, zI_neg]
    refine ev_gr hT.1 hF.1.2.2.2.2.2.2 (ev_tg hgT.1 (ev_eq (X4_fanAt_eq hgT hG.1 hs6) (ev_gi hfT.1 hfR.2.1 (ev_iep rfl rfl (by omega) ?_))))
    rcases hw with hw | hw
    · rw [if_pos hw] at hA
      exact ev_inn rfl rfl (by omega) (ev_cl hA h hf)
    · rw [if_neg (by omega)] at hA
      exact ev_inp rfl rfl (by omega) (ev_gr hT.1 h13 (ev_tg hbT.1 (ev_eq (X0_queenAt_eq hbT hS hX (by omega)) (ev_cl hA h hf))))
  | succ j ih =>
    intro i b nn hi hnn hb hA
    obtain ⟨nn, rfl⟩ : ∃ n', nn = n' + 1 := ⟨nn - 1, by omega⟩
    rw [chL] at hA
    rw [X11_choose_L72]
    unfold X11_choose_b116
    simp only [LT, zI_neg]
    rw [show (zI (i : Int) + zI 1 : Int32) = zI ((i + 1 : Nat) : Int) from zI_add _ _]
    refine ev_gr hT.1 hF.1.2.2.2.2.2.2 (ev_tg hgT.1 (ev_eq (X4_fanAt_eq hgT hG.1 hs6) (ev_gi hfT.1 hfR.2.1 (ev_ien rfl rfl (by omega) (ev_gr hT.1 h13 (ev_tg hbT.1 (ev_eq (X0_queenAt_eq hbT hS hX (show i < 10 by omega)) (ev_gr hT.1 h13 (ev_tg hbT.1 (ev_eq (X0_queenAt_eq hbT hS hX (show b < 10 by omega)) ?_))))))))))
    dsimp only
    by_cases hc : zI (X.2.2 b) ≤ zI (X.2.2 i)
    · rw [if_pos hc] at hA ⊢
      exact ih (i + 1) b nn (by omega) (by omega) (by omega) hA
    · rw [if_neg hc] at hA ⊢
      exact ih (i + 1) i nn (by omega) (by omega) (by omega) hA
theorem cl_choose {m : mm_V} {a w : Int} (ha : i32 a) (hw : i32 w) (hT : icT e z) (hp : pureI C G M K) (h : IC e m z t d C G M) : Ev (X11_choose e z (zI a) (zI w) m) (clS (choA C G a w) e z t d C G M m) := by
  obtain ⟨h1, hF, hA, hC, hD, hR, hL, ⟨⟨x, hG⟩, hG2⟩, hS, hI, hst⟩ := id h
  have hgT := hT.2.2.2.2.2.1
  have ok := hp.2.2.1.1
  have hN := hT.2.2.2.2.2.2.2.2.2.2.2.2.2.2
  have E := hC.1
  have h6 := hp.1.2.1
  have hlen := ok.1.len hp.1.2.2.1
  unfold i32 at hw
  unfold X11_choose choA
  simp only [LT, zI_neg]
  by_cases hpn : 0 ≤ a ∧ a < C.1
  · rw [if_pos hpn]
    refine ev_bx (needPerson_1 ha hT h h6 hpn) ?_
    obtain ⟨p, rfl⟩ : ∃ p : Nat, a = p := ⟨a.toNat, by omega⟩
    rw [Int.toNat_natCast]
    have hpN : p < C.1 := by omega
    have main : (0 ≤ w ∧ w ≤ 1) → Ev (X11_choose_b14 e z (zI p) (zI w) m) (clS (if isOv C.1 G.2.1.1 = true ∨ hasC G.2.1.1 p = false then .inl (zI (-1)) else match belV C G p (nxt C.1 G.2.1.1 p) with
      | none => .inl (zI (-2))
      | some Y => if w = 0 then .inl (zI (chL Y.1.2.2 ((G.2.1.1 ((nxt C.1 G.2.1.1 p).getD 0)).length - 1) 1 0)) else .inl (zI (Y.1.2.2 (chL Y.1.2.2 ((G.2.1.1 ((nxt C.1 G.2.1.1 p).getD 0)).length - 1) 1 0)))) e z t d C G M m) := by
      intro hww
      unfold X11_choose_b14 X11_choose_b19 X11_choose_b43
      simp only [LT, zI_neg]
      refine ev_bx X11_need_1 (ev_gr hT.1 hF.1.2.2.2.2.2.2 (ev_tg hgT.1 (ev_eq (X4_over_eq hgT E.1.1 hG.1 hG.2.1 E.2.2.1 h6 (by omega)) (ev_bn (fun ho => ?_) (fun ho => ?_)))))
      · refine ev_gr hT.1 hF.1.2.2.2.2.2.2 (ev_tg hgT.1 (ev_eq (X4_isEmpty_eq hgT hG.1 hG.2.1 (show p < 6 by omega)) (ev_bz (fun hc => ?_) (fun hc => ?_))))
        · have hc : hasC G.2.1.1 p = true := by simpa using hc
          rw [if_neg (show ¬ (isOv C.1 G.2.1.1 = true ∨ hasC G.2.1.1 p = false) by rw [ho, hc]; simp)]
          obtain ⟨s, s1, s2, s3, s4⟩ := nxt_ex ho hpN
          have hs6 : s < 6 := by omega
          have hls := hlen s
          have hsp : 0 < (G.2.1.1 s).length := hasC_pos.mp s4
          have hsrc : X4_source e (z + 173) (zI p) m = some (ozI (nxt C.1 G.2.1.1 p), m) := by
            rw [X4_source_eq hgT E.1.1 hG.1 hG.2.1 E.2.2.1 E.2.2.2.2.2.2.1 h6 hpN hG.f7 (by omega), src_0]
          obtain ⟨v, m', e1, b1, b2, I1, o1, fr⟩ := cl_believe (p := p) (wt := nxt C.1 G.2.1.1 p) hpN (fun v hv => by rw [s1] at hv; cases hv; omega) hT hp h
          refine ev_gr hT.1 hF.1.2.2.2.2.2.2 (ev_tg hgT.1 (ev_eq hsrc (ev_eq e1 ?_)))
          cases hr : belV C G p (nxt C.1 G.2.1.1 p) with
          | none =>
            rw [hr] at b1
            have b1 : v = zI 0 := b1
            rw [b1]
            exact ev_inn (x := 0) (y := 0) rfl rfl (by omega) (ev_cl rfl I1 fr)
          | some Y =>
            rw [hr] at b1
            obtain ⟨b1, b3⟩ := b1
            rw [b1]
            refine ev_inp (x := 1) (y := 0) rfl rfl (by omega) ?_
            rw [s1]
            exact cl_choose_loop (X := Y.1) (s := s) (w := w) (n := (G.2.1.1 s).length) (by omega) hT hp I1 fr b3 b2 hs6 rfl ((G.2.1.1 s).length - 1) 1 0 e.2.2 (by omega) (by omega) (by omega) rfl
        · have hc : hasC G.2.1.1 p = false := by simpa using hc
          rw [if_pos (Or.inr hc)]
          exact ev_cl rfl h (fun _ _ => rfl)
      · rw [if_pos (Or.inl ho)]
        exact ev_cl rfl h (fun _ _ => rfl)
    by_cases w0 : w = 0
    · rw [if_pos (show 0 ≤ w ∧ w ≤ 1 by omega)]
      exact ev_iqp rfl rfl (by omega) (main (by omega))
    refine ev_iqn rfl rfl (by omega) ?_
    by_cases w1 : w = 1
    · rw [if_pos (show 0 ≤ w ∧ w ≤ 1 by omega)]
      exact ev_inn rfl rfl (by omega) (main (by omega))
    rw [if_neg (show ¬ (0 ≤ w ∧ w ≤ 1) by omega)]
    refine ev_inp rfl rfl (by omega) ?_
    unfold X11_choose_b19
    simp only [LT, zI_neg]
    exact ev_bxx X11_need_0 rfl h (fun _ _ => rfl)
  · rw [if_neg hpn]
    exact ev_bxx (needPerson_0 ha hT h h6 hpn) rfl h (fun _ _ => rfl)
theorem ml_choose_loop {m m0 : mm_V} {A : Int32 ⊕ Nat} {X : BC} {p s : Nat} {w : Int} (hw : w = 0 ∨ w = 1) (hT : imT e q) (hp : pureI C G M K) (h : IM e m q C G M) (z0 : m q 0 = .int (zI 0)) (hf : ∀ b, (b < q ∨ q + 40 ≤ b) → m b = m0 b) (hX : bMR m q X) (hpN : p < C.1) (hs6 : s < 6) (hs : nxt C.1 G.2.1.1 p = some s) {n : Nat} (hn : n = (G.2.1.1 s).length) : ∀ (j i b nn : Nat), i + j = n → j < nn → b < i → (A = if w = 0 then .inl (zI (chL X.2.2 j i b)) else .inl (zI (X.2.2 (chL X.2.2 j i b)))) → Ev (X12_choose_L64 e q (zI p) (zI w) nn (zI b) (zI i) m) (mlS A e q C G M m0) := by
  have hN := hT.2.1
  have hT := hT.1
  have h6 := hp.1.2.1
  have hl10 := hp.2.2.1.1.1.len hp.1.2.2.1 s
  obtain ⟨g1, -, -, -, ⟨-, g14, g14'⟩, -, -⟩ := id h
  have S := g1.2.1
  have r14 := hT.now_
  have nxq := X12_nextOf_eq (e := e) r14 hT.me g14.1 g1.2.2.1 g1.2.2.2.2.2.2.1 h6 hpN (by omega)
  rw [hs] at nxq
  intro j
  induction j with
  | zero =>
    intro i b nn hi hnn hb hA
    obtain ⟨nn, rfl⟩ : ∃ n', nn = n' + 1 := ⟨nn - 1, by omega⟩
    rw [X12_choose_L64]
    unfold X12_choose_b124
    simp only [LT, zI_neg]
    refine ev_gr hT.me S.now_ (ev_gr hT.me S.now_ (ev_eq nxq (ev_eq (X12_size_eq (p := s) r14 g14.1 hs6) (ev_iep rfl rfl (by omega) ?_))))
    rcases hw with hw | hw
    · rw [if_pos hw] at hA
      exact ev_inn rfl rfl (by omega) (ev_ml hA z0 h hf)
    · rw [if_neg (by omega)] at hA
      exact ev_inp rfl rfl (by omega) (ev_gr hT.me S.herePlaces_ (ev_ai b hT.herePlaces_ rfl (by omega) (by omega) (hX.2.2 b (by omega)) (ev_ml hA z0 h hf)))
  | succ j ih =>
    intro i b nn hi hnn hb hA
    obtain ⟨nn, rfl⟩ : ∃ n', nn = n' + 1 := ⟨nn - 1, by omega⟩
    rw [chL] at hA
    rw [X12_choose_L64]
    unfold X12_choose_b104
    simp only [LT, zI_neg]
    rw [show (zI (i : Int) + zI 1 : Int32) = zI ((i + 1 : Nat) : Int) from zI_add _ _]
    refine ev_gr hT.me S.now_ (ev_gr hT.me S.now_ (ev_eq nxq (ev_eq (X12_size_eq (p := s) r14 g14.1 hs6) (ev_ien rfl rfl (by omega) (ev_gr hT.me S.herePlaces_ (ev_ai i hT.herePlaces_ rfl (by omega) (by omega) (hX.2.2 i (by omega)) (ev_gr hT.me S.herePlaces_ (ev_ai b hT.herePlaces_ rfl (by omega) (by omega) (hX.2.2 b (by omega)) ?_))))))))
    by_cases hc : zI (X.2.2 b) ≤ zI (X.2.2 i)
    · rw [if_pos hc] at hA ⊢
      exact ih (i + 1) b nn (by omega) (by omega) (by omega) hA
    · rw [if_neg hc] at hA ⊢
      exact ih (i + 1) i nn (by omega) (by omega) (by omega) hA
theorem ml_choose {m : mm_V} {a w : Int} (ha : i32 a) (hw : i32 w) (hT : imT e q) (hp : pureI C G M K) (h : IM e m q C G M) : Ev (X12_choose e q (zI a) (zI w) m) (mlS (choA C G a w) e q C G M m) := by
  have hTT := hT
  have hN := hT.2.1
  have hT := hT.1
  have h6 := hp.1.2.1
  have hlen := hp.2.2.1.1.1.len hp.1.2.2.1
  have h0 := h.th (zI 0)
  have z0 : (mm_up m q 0 (.int (zI 0))) q 0 = .int (zI 0) := up_at _ _ _ _
  have fr : ∀ b, (b < q ∨ q + 40 ≤ b) → (mm_up m q 0 (.int (zI 0))) b = m b := fr_th
  unfold X12_choose X12_choose_b22 X12_choose_b46 choA
  simp only [LT, zI_neg]
  refine ev_pf hT.me ?_
  generalize mm_up m q 0 (.int (zI 0)) = m0 at h0 z0 fr
  obtain ⟨g1, -, -, -, ⟨-, g14, g14'⟩, -, -⟩ := id h0
  have S := g1.2.1
  have r14 := hT.now_
  have bad : ∀ {A : Int32 ⊕ Nat} {k : Nat} (v : Int32), A = .inr k → Ev (some (v, mm_up m0 q 0 (.int (zI k)))) (mlS A e q C G M m) := fun v hA => ev_mlx hA (up_at _ _ _ _) (h0.th _) (fun b hb => by rw [up_row _ _ _ (by omega)]; exact fr b hb)
  by_cases hpn : 0 ≤ a ∧ a < C.1
  · rw [if_pos hpn]
    refine ev_eq (X12_isPerson_1 ha hT z0 g1.2.2.1 h6 hpn) (ev_iqn (x := 1) (y := 0) rfl rfl (by omega) ?_)
    obtain ⟨p, rfl⟩ : ∃ p : Nat, a = p := ⟨a.toNat, by omega⟩
    rw [Int.toNat_natCast]
    have hpN : p < C.1 := by omega
    by_cases hw1 : 0 ≤ w ∧ w ≤ 1
    · rw [if_pos hw1]
      refine ev_eq (X12_isWhat_1 hw ⟨by omega, by omega⟩ hT z0 hw1) (ev_inp (x := 1) (y := 0) rfl rfl (by omega) (ev_gr hT.me S.now_ (ev_eq (X12_isOver_eq r14 hT.me g14.1 g1.2.2.1 h6 (by omega)) (ev_bn (fun ho => ?_) (fun ho => ?_)))))
      · refine ev_gr hT.me S.now_ (ev_eq (X12_size_eq (p := p) r14 g14.1 (by omega)) ?_)
        have hlp := hlen p
        by_cases hc : hasC G.2.1.1 p = true
        · rw [if_neg (show ¬ (isOv C.1 G.2.1.1 = true ∨ hasC G.2.1.1 p = false) by rw [ho, hc]; simp)]
          have hcp := hasC_pos.mp hc
          obtain ⟨s, s1, s2, s3, s4⟩ := nxt_ex ho hpN
          have hs6 : s < 6 := by omega
          have hls := hlen s
          have hsp := hasC_pos.mp s4
          obtain ⟨v, m', e1, b1, I1, z1, fr1⟩ := ml_believes (p := p) hpN hTT hp h0
          rw [if_pos hc] at b1
          have z1 : m' q 0 = .int (zI 0) := by rw [z1]; exact z0
          have fr2 : ∀ b, (b < q ∨ q + 40 ≤ b) → m' b = m b := fun b hb => by rw [fr1 b hb]; exact fr b hb
          refine ev_inp rfl rfl (by omega) (ev_eq e1 ?_)
          cases hr : belV C G p (nxt C.1 G.2.1.1 p) with
          | none =>
            rw [hr] at b1
            have b1 : v = zI 0 := b1
            rw [b1]
            exact ev_inn (x := 0) (y := 0) rfl rfl (by omega) (ev_ml rfl z1 I1 fr2)
          | some Y =>
            rw [hr] at b1
            obtain ⟨b1, b3⟩ := b1
            rw [b1]
            refine ev_inp (x := 1) (y := 0) rfl rfl (by omega) ?_
            rw [s1]
            exact ml_choose_loop (X := Y.1) (p := p) (s := s) (w := w) (n := (G.2.1.1 s).length) (by omega) hTT hp I1 z1 fr2 b3 hpN hs6 s1 rfl ((G.2.1.1 s).length - 1) 1 0 e.2.2 (by omega) (by omega) (by omega) rfl
        · have hc' : hasC G.2.1.1 p = false := by simpa using hc
          have hcp : ¬ 0 < (G.2.1.1 p).length := fun hh => hc (hasC_pos.mpr hh)
          rw [if_pos (Or.inr hc')]
          exact ev_inn rfl rfl (by omega) (ev_ml rfl z0 h0 fr)
      · rw [if_pos (Or.inl ho)]
        exact ev_ml rfl z0 h0 fr
    · rw [if_neg hw1]
      exact ev_eq (X12_isWhat_0 hw ⟨by omega, by omega⟩ hT z0 hw1) (ev_inn (x := 0) (y := 0) rfl rfl (by omega) (bad _ rfl))
  · rw [if_neg hpn]
    exact ev_eq (X12_isPerson_0 ha hT z0 g1.2.2.1 h6 hpn) (ev_iqp (x := 0) (y := 0) rfl rfl (by omega) (bad _ rfl))
end CA6
