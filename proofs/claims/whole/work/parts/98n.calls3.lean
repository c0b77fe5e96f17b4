/-! CALLS: play, undo, image, restore. -/
section CA3
variable {e : mm_E} {z t d q K : Nat} {C : CF} {G : GM} {M : MI}
def ruleK (C : CF) (G : GM) : Nat := dAt C.2.2.2.1 idF G.2.1.1 G.2.1.2.1 G.2.1.2.2.2 (tn G.2.1) (sc C.1 G.2.1)
theorem ruleK_lt (hp : pureI C G M K) (hov : isOv C.1 G.2.1.1 = false) : ruleK C G < (G.2.1.1 (sc C.1 G.2.1)).length := by
  obtain ⟨p, s, n1, n2, n3, n4, n5, n6, n7, n8, n9, -⟩ := nxk_ex C.2.2.2.1 idF hp.2.2.1.1 hov
  unfold ruleK
  rw [n9]
  exact dAt_lt (hasC_pos.mp n7)
def plS (C : CF) : Nat → Nat → GM → Nat × GM
  | 0, n, G => (n, G)
  | j + 1, n, G => if isOv C.1 G.2.1.1 = true then (n, G) else plS C j (n + 1) (stepG C G (ruleK C G))
theorem plS_ok : ∀ (j n K : Nat) (G : GM), pureI C G M K → K + j ≤ 1000000 → pureI C (plS C j n G).2 M (K + j)
  | 0, _, _, _, h, _ => h
  | j + 1, n, K, G, h, hb => by
    unfold plS
    by_cases ho : isOv C.1 G.2.1.1 = true
    · rw [if_pos ho]; exact h.mono (by omega) hb
    · rw [if_neg ho]
      have ho' : isOv C.1 G.2.1.1 = false := by simpa using ho
      have := plS_ok j (n + 1) (K + 1) _ (stepG_ok h ho' (ruleK_lt h ho') (by omega)) (by omega)
      rw [show K + (j + 1) = K + 1 + j by omega]
      exact this
def plA (C : CF) (G : GM) (a : Int) (k : Nat) : Int32 ⊕ Nat := if 0 ≤ a ∧ a ≤ 200 then .inl (zI (plS C a.toNat 0 G).1) else .inr k
def plG (C : CF) (G : GM) (a : Int) : GM := if 0 ≤ a ∧ a ≤ 200 then (plS C a.toNat 0 G).2 else G
theorem cl_play_loop {m0 : mm_V} {A : Int32 ⊕ Nat} {G' : GM} {a : Nat} (hT : icT e z) (ha : a ≤ 200) (hA : A = .inl (zI (plS C a 0 G').1)) : ∀ (j n nn K : Nat) (G : GM) (m : mm_V), n + j = a → j < nn → pureI C G M K → K + j ≤ 1000000 → plS C j n G = plS C a 0 G' → IC e m z t d C G M → (∀ b, (b < z ∨ z + 402 ≤ b) → m b = m0 b) → Ev (X11_play_L21 e z (zI a) nn (zI n) m) (clS A e z t d C (plS C a 0 G').2 M m0) := by
  have hgT := hT.2.2.2.2.2.1
  have hN := hT.2.2.2.2.2.2.2.2.2.2.2.2.2.2
  intro j
  induction j with
  | zero =>
    intro n nn K G m hn hnn hp hb hpl h hf
    obtain ⟨nn, rfl⟩ : ∃ n', nn = n' + 1 := ⟨nn - 1, by omega⟩
    rw [X11_play_L21]
    unfold X11_play_b63
    simp only [LT, zI_neg]
    rw [← hpl] at hA ⊢
    exact ev_iep rfl rfl (by omega) (ev_cl hA h hf)
  | succ j ih =>
    intro n nn K G m hn hnn hp hb hpl h hf
    obtain ⟨nn, rfl⟩ : ∃ n', nn = n' + 1 := ⟨nn - 1, by omega⟩
    obtain ⟨h1, hF, hA', hC, hD, hR, hL, ⟨⟨x, hG⟩, hG2, hG3⟩, hS, hI, hst⟩ := id h
    have htf := t_far h
    have ok := hp.2.2.1.1
    have E := hC.1
    have h6 := hp.1.2.1
    rw [X11_play_L21]
    unfold X11_play_b63
    simp only [LT, zI_neg]
    rw [plS] at hpl
    refine ev_ien rfl rfl (by omega) (ev_gr hT.1 hF.1.2.2.2.2.2.2 (ev_tg hgT.1 (ev_eq (X4_over_eq hgT E.1.1 hG.1 hG.2.1 E.2.2.1 h6 (by omega)) (ev_bn (fun ho => ?_) (fun ho => ?_)))))
    · rw [if_neg (by (try dsimp only); rw [ho]; simp)] at hpl
      obtain ⟨p, s, n1, n2, n3, n4, n5, n6, n7, n8, n9, -⟩ := nxk_ex C.2.2.2.1 idF ok ho
      obtain ⟨m1, e1, G1, o1⟩ := X4_placeNow_eq (e := e) E hgT (by omega) hG ok (fun i hi => hi) n1 n2 n4 n5 n7 (by omega)
      have hpl1 : (plc C.2.2.2.1 idF (zI 0) G.2.1 x p s).1 = ruleK C G := by
        unfold plc ruleK
        rw [if_pos rfl, n8, n9]
      rw [hpl1] at e1
      have I1 : IC e m1 z t d C G M := by
        refine ⟨h1, hF.keep (o1 _ (by omega) (by omega)), fun i hi => by (try dsimp only); rw [o1 _ (by omega) (by omega)]; exact hA' i hi, hC.keep (fun b x1 x2 x3 => o1 b (by omega) x3), hD.keep (fun b x1 x2 x3 => o1 b (by omega) (by rcases h1 with h1 | h1 <;> omega)), hR.row (fun b x1 x2 => o1 b (by omega) (by omega)), hL.keep (fun b x1 x2 => o1 b (by omega) (by omega)), ⟨⟨_, G1⟩, hG2.elim (fun y hy => ⟨y, hy.keep (fun b x1 x2 x3 x4 => o1 b (by omega) (by omega))⟩), hG3.keep (fun b x1 x2 => o1 b (by omega) (by omega))⟩, hS.keep (fun b x1 x2 => o1 b (by omega) (by omega)), hI.keep (fun b x1 => o1 b (by omega) (by omega)), hst.keep hT.2.2.2.2.2.2.2.2.2.2.2.2.2.1 (fun b hb => o1 b (by omega) (by omega))⟩
      have hlt := ruleK_lt hp ho
      obtain ⟨dd, m2, m3, x1, x2, x3, x4, x5, x6, x7⟩ := cl_step (k := ruleK C G) hT hp I1 ho hlt
      have hz1 : m1 z = m z := o1 z (by omega) (by omega)
      refine ev_gr hT.1 hF.1.2.2.2.2.2.2 (ev_gr hT.1 hF.1.2.2.2.2.2.2 (ev_tg hgT.1 (ev_eq e1 (ev_gr hT.1 (v := z + 47) (by (try dsimp only); rw [hz1]; exact hF.1.2.2.2.2.1) (ev_tg hT.2.2.2.1.1 (ev_eq x1 (ev_tg hgT.1 (ev_eq x2 ?_))))))))
      rw [show (zI (n : Int) + zI 1 : Int32) = zI ((n + 1 : Nat) : Int) from zI_add _ _]
      exact ih (n + 1) nn (K + 1) _ m3 (by omega) (by omega) (stepG_ok hp ho hlt (by omega)) (by omega) hpl x6 (fun b hb => by (try dsimp only); rw [x7 b hb, o1 b (by omega) (by omega)]; exact hf b hb)
    · rw [if_pos ho] at hpl
      rw [← hpl] at hA ⊢
      exact ev_cl hA h hf
theorem cl_play {m : mm_V} {a : Int} (ha : i32 a) (hT : icT e z) (hp : pureI C G M K) (hb : K + 200 ≤ 1000000) (h : IC e m z t d C G M) : Ev (X11_play e z (zI a) m) (clS (plA C G a 2) e z t d C (plG C G a) M m) := by
  have hN := hT.2.2.2.2.2.2.2.2.2.2.2.2.2.2
  unfold X11_play plA plG
  simp only [LT, zI_neg]
  have bad : Ev (X11_play_b15 e z (zI a) m) (clS (.inr 2) e z t d C G M m) := by
    unfold X11_play_b15 X11_play_b16
    simp only [LT, zI_neg]
    exact ev_bxx X11_needA_0 rfl h (fun _ _ => rfl)
  have ha' := ha
  unfold i32 at ha
  by_cases h0 : a < 0
  · rw [if_neg (show ¬ (0 ≤ a ∧ a ≤ 200) by omega), if_neg (show ¬ (0 ≤ a ∧ a ≤ 200) by omega)]
    exact ev_ilp rfl rfl (by omega) bad
  refine ev_iln rfl rfl (by omega) ?_
  by_cases h2 : 200 < a
  · rw [if_neg (show ¬ (0 ≤ a ∧ a ≤ 200) by omega), if_neg (show ¬ (0 ≤ a ∧ a ≤ 200) by omega)]
    exact ev_ilp rfl rfl (by omega) bad
  rw [if_pos (show 0 ≤ a ∧ a ≤ 200 by omega), if_pos (show 0 ≤ a ∧ a ≤ 200 by omega)]
  refine ev_iln rfl rfl (by omega) ?_
  unfold X11_play_b16
  simp only [LT, zI_neg]
  obtain ⟨k, rfl⟩ : ∃ k : Nat, a = k := ⟨a.toNat, by omega⟩
  rw [Int.toNat_natCast]
  exact ev_bx X11_needA_1 (cl_play_loop (m0 := m) (G' := G) (a := k) hT (by omega) rfl k 0 e.2.2 K G m (by omega) (by omega) hp (by omega) rfl h (fun _ _ => rfl))
theorem ml_play_loop {m0 : mm_V} {A : Int32 ⊕ Nat} {G' : GM} {a : Nat} (hT : imT e q) (ha : a ≤ 200) (hA : A = .inl (zI (plS C a 0 G').1)) : ∀ (j n nn K : Nat) (G : GM) (m : mm_V), n + j = a → j < nn → pureI C G M K → K + j ≤ 1000000 → plS C j n G = plS C a 0 G' → IM e m q C G M → m q 0 = .int (zI 0) → (∀ b, (b < q ∨ q + 40 ≤ b) → m b = m0 b) → Ev (X12_play_L25 e q (zI a) nn (zI n) m) (mlS A e q C (plS C a 0 G').2 M m0) := by
  have hTT := hT
  have hN := hT.2.1
  have hT := hT.1
  intro j
  induction j with
  | zero =>
    intro n nn K G m hn hnn hp hb hpl h z0 hf
    obtain ⟨nn, rfl⟩ : ∃ n', nn = n' + 1 := ⟨nn - 1, by omega⟩
    rw [X12_play_L25]
    unfold X12_play_b79
    simp only [LT, zI_neg]
    rw [← hpl] at hA ⊢
    exact ev_iep rfl rfl (by omega) (ev_ml hA z0 h hf)
  | succ j ih =>
    intro n nn K G m hn hnn hp hb hpl h z0 hf
    obtain ⟨nn, rfl⟩ : ∃ n', nn = n' + 1 := ⟨nn - 1, by omega⟩
    obtain ⟨g1, -, -, g13, ⟨-, g14, g14'⟩, g15, g16⟩ := id h
    have S := g1.2.1
    have r14 := hT.now_
    have ok := hp.2.2.1.1
    have h6 := hp.1.2.1
    rw [X12_play_L25]
    unfold X12_play_b79
    simp only [LT, zI_neg]
    rw [plS] at hpl
    refine ev_ien rfl rfl (by omega) (ev_gr hT.me S.now_ (ev_eq (X12_isOver_eq r14 hT.me g14.1 g1.2.2.1 h6 (by omega)) (ev_bn (fun ho => ?_) (fun ho => ?_))))
    · rw [if_neg (by (try dsimp only); rw [ho]; simp)] at hpl
      obtain ⟨p, s, n1, n2, n3, n4, n5, n6, n7, n8, n9, -⟩ := nxk_ex C.2.2.2.1 idF ok ho
      have htu : m (q + 14) 0 = .int (zI p) := by (try dsimp only); rw [g14.2.1, ho, n1]; rfl
      have nxq := X12_nextOf_eq (e := e) r14 hT.me g14.1 g1.2.2.1 g1.2.2.2.2.2.2.1 h6 n2 (by omega)
      rw [n3] at nxq
      obtain ⟨m1, e1, o1⟩ := X12_drawsAt_eq (e := e) (sit := idF) hT S r14 (by omega) g14.1 g14.2.2.1 (show p < 6 by omega) (g14.2.2.2 p (by omega)) (g13 p (by omega)).1 (g13 p (by omega)).2 g1.2.2.2.2.1 g1.2.2.2.2.2.1 (s := s) (by omega) (hasC_pos.mp n7) (by omega)
      have hk : dAt C.2.2.2.1 idF G.2.1.1 G.2.1.2.1 G.2.1.2.2.2 p s = ruleK C G := by unfold ruleK; rw [n8, n9]
      rw [hk] at e1
      have I1 : IM e m1 q C G M := h.scr (fun k _ _ _ _ _ _ _ _ => by (try dsimp only); rw [o1 _ (by omega)]) (fun b x1 x2 => o1 b (by omega))
      have hlt := ruleK_lt hp ho
      obtain ⟨m2, x1, x2, x3, x4, x5, x6⟩ := ml_step (k := ruleK C G) hTT hp I1 ho hlt
      refine ev_gr hT.me S.now_ (ev_gr hT.me S.now_ (ev_ai 0 r14 rfl (by omega) (by omega) htu (ev_gr hT.me S.now_ (ev_gr hT.me S.now_ (ev_ai 0 r14 rfl (by omega) (by omega) htu (ev_eq nxq (ev_eq e1 (ev_eq x1 ?_))))))))
      rw [show (zI (n : Int) + zI 1 : Int32) = zI ((n + 1 : Nat) : Int) from zI_add _ _]
      exact ih (n + 1) nn (K + 1) _ m2 (by omega) (by omega) (stepG_ok hp ho hlt (by omega)) (by omega) hpl x2 (by (try dsimp only); rw [x3, o1 _ (by omega)]; exact z0) (fun b hb => by (try dsimp only); rw [x6 b hb, o1 b (by omega)]; exact hf b hb)
    · rw [if_pos ho] at hpl
      rw [← hpl] at hA ⊢
      exact ev_ml hA z0 h hf
theorem ml_play {m : mm_V} {a : Int} (ha : i32 a) (hT : imT e q) (hp : pureI C G M K) (hb : K + 200 ≤ 1000000) (h : IM e m q C G M) : Ev (X12_play e q (zI a) m) (mlS (plA C G a 1) e q C (plG C G a) M m) := by
  have hTT := hT
  have hN := hT.2.1
  have hT := hT.1
  have h0 := h.th (zI 0)
  have z0 : (mm_up m q 0 (.int (zI 0))) q 0 = .int (zI 0) := up_at _ _ _ _
  have fr : ∀ b, (b < q ∨ q + 40 ≤ b) → (mm_up m q 0 (.int (zI 0))) b = m b := fr_th
  unfold X12_play plA plG
  simp only [LT, zI_neg]
  refine ev_pf hT.me ?_
  generalize mm_up m q 0 (.int (zI 0)) = m0 at h0 z0 fr
  refine ev_eq (X12_within_eq ha ⟨by omega, by omega⟩ ⟨by omega, by omega⟩) ?_
  dsimp only
  by_cases hw : 0 ≤ a ∧ a ≤ 200
  · rw [if_pos hw, if_pos hw, decide_eq_true hw]
    refine ev_eq (X12_right_1 hT z0) (ev_inp (x := 1) (y := 0) rfl rfl (by omega) ?_)
    obtain ⟨k, rfl⟩ : ∃ k : Nat, a = k := ⟨a.toNat, by omega⟩
    rw [Int.toNat_natCast]
    exact ml_play_loop (m0 := m) (G' := G) (a := k) hTT (by omega) rfl k 0 e.2.2 K G m0 (by omega) (by omega) hp (by omega) rfl h0 z0 fr
  · rw [if_neg hw, if_neg hw, decide_eq_false hw]
    exact ev_eq (X12_right_0 hT z0 (by decide)) (ev_inn (x := 0) (y := 0) rfl rfl (by omega) (ev_mlx rfl (up_at _ _ _ _) (h0.th _) (fun b hb => by (try dsimp only); rw [up_row _ _ _ (by omega)]; exact fr b hb)))
/-! undo -/
def unV (G : GM) : Int32 := match G.2.2.1.getLast? with
  | none => zI (-1)
  | some _ => zI ((G.2.2.1.length - 1 : Nat) : Int)
def unG (G : GM) : GM := match G.2.2.1.getLast? with
  | none => G
  | some h => (G.1, h.1, G.2.2.1.dropLast, G.2.2.2)
theorem snoc_or {α : Type} (l : List α) : l = [] ∨ ∃ (l' : List α) (x : α), l = l' ++ [x] := by
  rcases List.eq_nil_or_concat l with h | ⟨l', x, h⟩
  · exact Or.inl h
  · exact Or.inr ⟨l', x, by rw [h, List.concat_eq_append]⟩
theorem unG_ok (h : pureI C G M K) : pureI C (unG G) M K := by
  rcases snoc_or G.2.2.1 with hn | ⟨hs, x, hx⟩
  · unfold unG; rw [hn]; exact h
  · obtain ⟨h1, h2, h3, h4⟩ := h
    unfold unG
    rw [hx] at h3
    obtain ⟨u1, u2, u3⟩ := histOk.undo h3
    rw [hx, List.getLast?_concat]
    refine ⟨h1, h2, ?_, h4⟩
    show histOk C.2.2.2.1 C.1 C.2.1 G.1 x.1 (hs ++ [x]).dropLast K
    rw [List.dropLast_concat]
    exact u3
theorem hs_back {rl : Nat → List Int} {N P : Nat} {h : HS} (ho : hsOk N P h) (hP : P ≤ 9) : bkF (hsN rl N h).1 (idx h.2.2.2.2 (h.1.1 h.2.1)).isSome h.2.1 h.2.2.1 h.2.2.2.1 h.2.2.2.2 (hsO rl h) = h.1.1 ∧ h.2.2.2.1 ≤ ((hsN rl N h).1 h.2.2.1).length ∧ ((hsN rl N h).1 h.2.2.1).length < 10 ∧ ((idx h.2.2.2.2 (h.1.1 h.2.1)).isSome = true → hsO rl h ≤ ((hsN rl N h).1 h.2.1).length ∧ ((hsN rl N h).1 h.2.1).length < 10) ∧ ((idx h.2.2.2.2 (h.1.1 h.2.1)).isSome = false → hsO rl h < ((hsN rl N h).1 h.2.1).length) := by
  have hO := hsO_le (rl := rl) ho
  have hz := (hs_szR (rl := rl) ho hP).2
  obtain ⟨o1, o2, o3, o4, o5, o6, o7, o8⟩ := ho
  have hk := (List.getElem?_eq_some_iff.mp o8).1
  have hl10 := o1.1.len hP
  have ls : ((hsN rl N h).1 h.2.2.1).length = (h.1.1 h.2.2.1).length - 1 := by
    have := congrFun hz h.2.2.1
    show lenF (hsN rl N h).1 h.2.2.1 = _
    rw [this]
    show setF (setF (lenF h.1.1) h.2.2.1 (lenF h.1.1 h.2.2.1 - 1)) h.2.1 _ h.2.2.1 = _
    rw [setF_ne _ _ o7, setF_at]; rfl
  have lp : ((hsN rl N h).1 h.2.1).length = (if (idx h.2.2.2.2 (h.1.1 h.2.1)).isSome = true then (h.1.1 h.2.1).length - 1 else (h.1.1 h.2.1).length + 1) := by
    have := congrFun hz h.2.1
    show lenF (hsN rl N h).1 h.2.1 = _
    rw [this]
    show setF (setF (lenF h.1.1) h.2.2.1 (lenF h.1.1 h.2.2.1 - 1)) h.2.1 _ h.2.1 = _
    rw [setF_at]; rfl
  have a1 := hl10 h.2.2.1
  have a2 := hl10 h.2.1
  refine ⟨bk_st o7 o8 (stays_0 _) hsO_eq (by omega) (by omega), by omega, by omega, fun ha => ?_, fun ha => ?_⟩
  · rw [if_pos ha] at lp
    have hlt : hsO rl h < (h.1.1 h.2.1).length := by
      unfold hsO
      cases hi : idx h.2.2.2.2 (h.1.1 h.2.1) with
      | none => rw [hi] at ha; cases ha
      | some j => exact idx_bound hi
    omega
  · rw [if_neg (by (try dsimp only); rw [ha]; simp)] at lp
    omega
theorem cl_undo {m : mm_V} (hT : icT e z) (hp : pureI C G M K) (h : IC e m z t d C G M) : Ev (X11_undo e z m) (clR (unV G) e z t d C (unG G) M m) := by
  obtain ⟨h1, hF, hA, hC, hD, hR, hL, ⟨⟨x, hG⟩, hG2, hG3⟩, hS, hI, hst⟩ := id h
  have htf := t_far h
  have hgT := hT.2.2.2.2.2.1
  have hlT := hT.2.2.2.1
  have hN := hT.2.2.2.2.2.2.2.2.2.2.2.2.2.2
  have E := hC.1
  have hP := hp.1.2.2.1
  have h60 := hp.2.2.1.2.1
  unfold X11_undo
  simp only [LT, zI_neg]
  refine ev_gr hT.1 hF.1.2.2.2.2.1 (ev_gi hlT.1 hL.1.2.2.2.1 ?_)
  rw [List.length_map]
  rcases snoc_or G.2.2.1 with hn | ⟨hs, hx, hh⟩
  · unfold unV unG
    rw [hn]
    refine ev_iln rfl rfl (by simp) (ev_ret ⟨rfl, ?_, fun _ _ => rfl⟩)
    exact h
  · have hv3 := hp.2.2.1
    rw [hh] at hv3
    obtain ⟨u1, u2, u3⟩ := histOk.undo hv3
    obtain ⟨b1, b2, b3, b4, b5⟩ := hs_back (rl := C.2.2.2.1) u1 hP
    have hlen : G.2.2.1.length = hs.length + 1 := by (try dsimp only); rw [hh, List.length_append, List.length_singleton]
    rw [hlen] at h60 ⊢
    have hmap : (G.2.2.1.map (hsV C.2.2.2.1))[hs.length]? = some (hsV C.2.2.2.1 hx) := by
      rw [hh, List.map_append, List.getElem?_append_right (by (try dsimp only); rw [List.length_map]; omega), List.length_map, Nat.sub_self]; rfl
    obtain ⟨dd, e1, r1, d1, d2, d3⟩ := X5_at_eq (e := e) hlT hL.1 hmap
    have hSn : G.2.1 = hsN C.2.2.2.1 C.1 hx := u2.symm
    have hpN : hx.2.1 < C.1 := u1.2.2.2.1
    have hsN' : hx.2.2.1 < C.1 := u1.2.2.2.2.2.1
    have h6 := hp.1.2.1
    have hgF : gameF m (z + 173) (hsN C.2.2.2.1 C.1 hx).1 := by (try dsimp only); rw [← hSn]; exact hG.2.1
    have hd11 : m (z + 173) 11 = .int (hsN C.2.2.2.1 C.1 hx).2.2.2 := by (try dsimp only); rw [← hSn]; exact hG.f11
    obtain ⟨m1, e2, t1, t2, t3, t4, t5, t6⟩ := X4_takeBack_eq (e := e) (d := dd) (as := (idx hx.2.2.2.2 (hx.1.1 hx.2.1)).isSome) (o := hsO C.2.2.2.1 hx) (lb := zI (hx.1.2.1 hx.2.1)) hgT d1 (by omega) hG.1 hgF (show hx.2.1 < 6 by omega) (show hx.2.2.1 < 6 by omega) u1.2.2.2.2.2.2.1 (r1.1 0 (by omega)) (r1.1 1 (by omega)) (r1.1 2 (by omega)) (r1.1 5 (by omega)) (r1.1 6 (by omega)) (by (try dsimp only); rw [r1.1 7 (by omega)]; exact congrArg Value.int hsO_eq) (r1.1 8 (by omega)) ⟨b4, b5⟩ b2 b3 hd11 (by omega)
    rw [b1] at t1
    have fr1 : ∀ b, (b < z + 173 ∨ z + 193 ≤ b) → m1 b = m b := fun b hb => t6 b (by omega) (by omega) (by omega)
    obtain ⟨m2, e3, l2, o3⟩ := X5_dropLast_eq (e := e) hlT (hL.1.keep (fun b x1 x2 => fr1 b (by omega)))
    have hdl : (G.2.2.1.map (hsV C.2.2.2.1)).dropLast = hs.map (hsV C.2.2.2.1) := by
      rw [hh, List.map_append]; exact List.dropLast_concat
    rw [hdl] at l2
    have hz1 : m1 z = m z := fr1 z (by omega)
    have hz2 : m2 z = m z := by (try dsimp only); rw [o3 z (by omega), hz1]
    refine ev_ilp rfl rfl (by omega) (ev_gr hT.1 hF.1.2.2.2.2.2.2 (ev_gr hT.1 hF.1.2.2.2.2.1 (ev_gr hT.1 hF.1.2.2.2.2.1 (ev_gi hlT.1 hL.1.2.2.2.1 ?_))))
    rw [List.length_map, hlen, show (zI ((hs.length + 1 : Nat) : Int) - zI 1 : Int32) = zI (hs.length : Int) by (try dsimp only); rw [zI_sub]; congr 1 <;> omega]
    refine ev_tg hlT.1 (ev_eq e1 (ev_tg hgT.1 (ev_eq e2 (ev_gr hT.1 (v := z + 47) (by (try dsimp only); rw [hz1]; exact hF.1.2.2.2.2.1) (ev_tg hlT.1 (ev_eq e3 (ev_gr hT.1 (v := z + 47) (by (try dsimp only); rw [hz2]; exact hF.1.2.2.2.2.1) (ev_gi hlT.1 l2.2.2.2.1 (ev_ret ?_)))))))))
    have hgl : G.2.2.1.getLast? = some hx := by (try dsimp only); rw [hh]; exact List.getLast?_concat
    have hdl2 : G.2.2.1.dropLast = hs := by (try dsimp only); rw [hh]; exact List.dropLast_concat
    have fr : ∀ b, b ≠ z + 47 → (b < z + 173 ∨ z + 193 ≤ b) → m2 b = m b := fun b x1 x2 => by (try dsimp only); rw [o3 b x1, fr1 b x2]
    refine ⟨?_, ?_, fun b hb => fr b (by omega) (by omega)⟩
    · unfold unV; rw [hgl, List.length_map, hlen]; rfl
    · unfold unG
      rw [hgl]
      refine ⟨h1, hF.keep hz2, fun i hi => by (try dsimp only); rw [fr _ (by omega) (by omega)]; exact hA i hi, hC.keep (fun b x1 x2 x3 => fr b (by omega) (by omega)), hD.keep (fun b x1 x2 x3 => fr b (by rcases h1 with h1 | h1 <;> omega) (by rcases h1 with h1 | h1 <;> omega)), hR.row (fun b x1 x2 => fr b (by omega) (by omega)), ⟨?_, hL.2.elim (fun H hH => ⟨H, hH.keep (fun b x1 x2 => fr b (by omega) (by omega))⟩)⟩, ⟨⟨x, ?_⟩, hG2.elim (fun y hy => ⟨y, hy.keep (fun b x1 x2 x3 x4 => fr b (by omega) (by omega))⟩), hG3.keep (fun b x1 x2 => fr b (by omega) (by omega))⟩, hS.keep (fun b x1 x2 => fr b (by omega) (by omega)), hI.keep (fun b x1 => fr b (by omega) (by omega)), hst.keep hT.2.2.2.2.2.2.2.2.2.2.2.2.2.1 (fun b hb => fr b (by omega) (by omega))⟩
      · show logR m2 (z + 47) (G.2.2.1.dropLast.map (hsV C.2.2.2.1))
        rw [hdl2]; exact l2
      · have k5 : ∀ j, j ≠ 10 → j ≠ 11 → m1 (z + 173) j = m (z + 173) j := t4
        have G1 : gC m1 (z + 173) t idF (zI 0) (zI 0) x hx.1 := by
          refine gC.mk (hG.1.keep (fun j hj => k5 j (by omega) (by omega)) (fun b x1 x2 => t6 b (by omega) (by omega) (by omega))) t1 (fun i hi => by (try dsimp only); rw [t6 _ (by omega) (by omega) (by omega)]; exact hG.2.2.1 i hi) (fun i hi => ?_) (by (try dsimp only); rw [k5 _ (by omega) (by omega)]; exact hG.f7) (by (try dsimp only); rw [k5 _ (by omega) (by omega)]; exact hG.f8) (by (try dsimp only); rw [k5 _ (by omega) (by omega)]; exact hG.f9) ?_ ?_
          · rw [t5]
            by_cases hip : i = hx.2.1
            · rw [hip, up_at]
            · rw [up_ne _ _ (Or.inr hip), hG.2.2.2.1 i hi, hSn]
              show Value.int (zI (setF hx.1.2.1 hx.2.1 hx.2.2.2.1 i : Nat)) = _
              rw [setF_ne _ _ hip]
          · rw [t2, u1.2.2.1]; rfl
          · rw [t3]
            show Value.int (hx.1.2.2.2 + zI 1 - zI 1) = _
            rw [Int32.add_sub_cancel]
        exact G1.keep (fun b x1 x2 x3 x4 => o3 b (by omega))
theorem ml_undo {m : mm_V} (hT : imT e q) (hp : pureI C G M K) (h : IM e m q C G M) : Ev (X12_undo e q m) (mlR (unV G) e q C (unG G) M m) := by
  have hN := hT.2.1
  have hT := hT.1
  have hP := hp.1.2.2.1
  have h6 := hp.1.2.1
  obtain ⟨g1, ⟨g2, g3, g4, g5, g6, g7⟩, ⟨g8, g9, g10, g11, g12⟩, g13, ⟨⟨g14a, g14b⟩, g14, g14'⟩, g15, g16⟩ := id h
  rcases snoc_or G.2.2.1 with hn | ⟨hs, hx, hh⟩
  · unfold unV unG
    rw [hn]
    have h48 : m q 48 = .int (zI 0) := by have := g15.1; rw [hn] at this; exact this
    exact ev_is (X12_undo_none hT h48) (ev_ret ⟨rfl, h.th _, fr_th⟩)
  · have hv3 := hp.2.2.1
    rw [hh] at hv3
    obtain ⟨u1, u2, u3⟩ := histOk.undo hv3
    obtain ⟨b1, b2, b3, b4, b5⟩ := hs_back (rl := C.2.2.2.1) u1 hP
    have hlen : G.2.2.1.length = hs.length + 1 := by (try dsimp only); rw [hh, List.length_append, List.length_singleton]
    have hSn : G.2.1 = hsN C.2.2.2.1 C.1 hx := u2.symm
    have hpN : hx.2.1 < C.1 := u1.2.2.2.1
    have hsN' : hx.2.2.1 < C.1 := u1.2.2.2.2.2.1
    have hr14 : rowF m (q + 14) (hsN C.2.2.2.1 C.1 hx).1 := by (try dsimp only); rw [← hSn]; exact g14.1
    have hd : m (q + 14) 1 = .int (hsN C.2.2.2.1 C.1 hx).2.2.2 := by (try dsimp only); rw [← hSn]; exact g14.2.2.1
    have hml : mlogR m q (hs.map (hsV C.2.2.2.1) ++ [hsV C.2.2.2.1 hx]) := by have := g15; rw [hh, List.map_append] at this; exact this
    obtain ⟨m', e1, r1, r2, r3, r4, r5, r6, r7, r8, r9⟩ := X12_undo_eq (e := e) (as := (idx hx.2.2.2.2 (hx.1.1 hx.2.1)).isSome) (p := hx.2.1) (s := hx.2.2.1) (k := hx.2.2.2.1) (c := hx.2.2.2.2) (o := hsO C.2.2.2.1 hx) (lb := zI (hx.1.2.1 hx.2.1)) hT g1.2.1 hr14 (by omega) (by omega) u1.2.2.2.2.2.2.1 hd hml rfl rfl rfl rfl rfl hsO_eq rfl ⟨fun ha => ⟨(b4 ha).1, by have := (b4 ha).2; omega⟩, b5⟩ b2 (by omega) (by omega)
    rw [b1] at r1
    have hik := X12_undo_iK e1
    have hgl : G.2.2.1.getLast? = some hx := by (try dsimp only); rw [hh]; exact List.getLast?_concat
    have hdl2 : G.2.2.1.dropLast = hs := by (try dsimp only); rw [hh]; exact List.dropLast_concat
    refine ev_is e1 (ev_ret ⟨?_, ?_, fun b hb => r9 b (by omega) (by omega)⟩)
    · unfold unV; rw [hgl, hlen]; simp only [List.length_map]; rfl
    · unfold unG
      rw [hgl]
      refine ⟨g1.keep' (L := [0, 48]) (by decide) (fun j hj => by
        simp only [List.mem_cons, List.not_mem_nil, or_false, not_or] at hj
        exact r8 j hj.1 hj.2) (r9 _ (by omega) (by omega)) (r9 _ (by omega) (by omega)), ⟨by (try dsimp only); rw [r8 _ (by omega) (by omega)]; exact g2, by (try dsimp only); rw [r8 _ (by omega) (by omega)]; exact g3, by (try dsimp only); rw [r8 _ (by omega) (by omega)]; exact g4, by (try dsimp only); rw [r8 _ (by omega) (by omega)]; exact g5, by (try dsimp only); rw [r8 _ (by omega) (by omega)]; exact g6, by (try dsimp only); rw [r8 _ (by omega) (by omega)]; exact g7⟩, ⟨fun i hi => by (try dsimp only); rw [r9 _ (by omega) (by omega)]; exact g8 i hi, by (try dsimp only); rw [r9 _ (by omega) (by omega)]; exact g9, by (try dsimp only); rw [r9 _ (by omega) (by omega)]; exact g10, fun i hi => by (try dsimp only); rw [r9 _ (by omega) (by omega)]; exact g11 i hi, g12.keep (r9 _ (by omega) (by omega))⟩, g13.keep (r9 _ (by omega) (by omega)), ⟨⟨g14a.keep (r9 _ (by omega) (by omega)), g14b.keep (r9 _ (by omega) (by omega))⟩, ⟨r1, ?_, ?_, fun i hi => ?_⟩, fun j hj => hik (q + 14) 128 hT.now_ j (g14' j hj)⟩, ?_, fun Si Hi hxx => ?_⟩
      · show m' (q + 14) 0 = Value.int (if isOv C.1 hx.1.1 then zI (-1) else ozI hx.1.2.2.1)
        rw [r2, u1.2.1, u1.2.2.1]; rfl
      · show m' (q + 14) 1 = Value.int hx.1.2.2.2
        rw [r3]
        show Value.int (hx.1.2.2.2 + zI 1 - zI 1) = _
        rw [Int32.add_sub_cancel]
      · show m' (q + 14) (8 + i) = Value.int (zI (hx.1.2.1 i))
        by_cases hip : i = hx.2.1
        · rw [hip]; exact r4
        · rw [r5 i hi hip, g14.2.2.2 i hi, hSn]
          show Value.int (zI (setF hx.1.2.1 hx.2.1 hx.2.2.2.1 i : Nat)) = _
          rw [setF_ne _ _ hip]
      · show mlogR m' q (G.2.2.1.dropLast.map (hsV C.2.2.2.1))
        rw [hdl2]; exact r6
      · obtain ⟨d1, d2, d3, d4⟩ := g16 Si Hi hxx
        exact ⟨by (try dsimp only); rw [r8 _ (by omega) (by omega)]; exact d1, d2.keep (r9 _ (by omega) (by omega)), d3.keep (r9 _ (by omega) (by omega)), d4.keep (r9 _ (by omega) (by omega))⟩
/-! image, restore -/
def imgG (G : GM) : GM := (G.1, G.2.1, G.2.2.1, some (G.2.1, G.2.2.1))
def resG (G : GM) : GM := match G.2.2.2 with
  | none => G
  | some (Si, Hi) => (G.1, Si, Hi, G.2.2.2)
theorem imgG_ok (h : pureI C G M K) : pureI C (imgG G) M K := by
  obtain ⟨h1, h2, h3, h4, h5⟩ := h
  exact ⟨h1, h2, h3, fun Si Hi hx => (by cases hx; exact h3), h5⟩
theorem resG_ok (h : pureI C G M K) : pureI C (resG G) M K := by
  unfold resG
  cases hi : G.2.2.2 with
  | none => exact h
  | some X =>
    obtain ⟨Si, Hi⟩ := X
    obtain ⟨h1, h2, h3, h4, h5⟩ := h
    exact ⟨h1, h2, h4 Si Hi hi, fun Sj Hj hx => h4 Sj Hj (hi.trans hx), h5⟩
theorem cl_image {m : mm_V} (hT : icT e z) (hp : pureI C G M K) (h : IC e m z t d C G M) : Ev (X11_image e z m) (fun m' => IC e m' z t d C (imgG G) M ∧ ∀ b, (b < z ∨ z + 402 ≤ b) → m' b = m b) := by
  obtain ⟨h1, hF, hA, hC, hD, hR, ⟨hL, H0, hL0⟩, ⟨⟨x, hG⟩, hG2, ⟨t0, f0, x0, w1, w2, w3⟩⟩, hS, hI, hst⟩ := id h
  have htf := t_far h
  have hgT := hT.2.2.2.2.2.1
  have hgT2 := hT.2.2.2.2.2.2.2.1
  have hlT := hT.2.2.2.1
  have hlT2 := hT.2.2.2.2.1
  have hN := hT.2.2.2.2.2.2.2.2.2.2.2.2.2.2
  obtain ⟨m1, e1, G1, o1⟩ := X4_copyFrom_eq (e := e) hgT2 hgT (by omega) w1 w2 hG (Or.inl rfl) (by omega)
  have hz1 : m1 z = m z := o1 z (by omega)
  obtain ⟨m2, e2, L2, o2⟩ := X5_copyFrom_eq (e := e) (m := m1) hlT2 hlT (by omega) (hL0.keep (fun b x1 x2 => o1 b (by omega))) (hL.keep (fun b x1 x2 => o1 b (by omega))) (by omega)
  have hz2 : m2 z = m z := by (try dsimp only); rw [o2 z (by omega), hz1]
  unfold X11_image
  simp only [LT, zI_neg]
  refine ev_gr hT.1 hF.2.1.2.1 (ev_gr hT.1 hF.1.2.2.2.2.2.2 (ev_tg hgT2.1 (ev_eq e1 (ev_gr hT.1 (v := z + 110) (by (try dsimp only); rw [hz1]; exact hF.1.2.2.2.2.2.1) (ev_gr hT.1 (v := z + 47) (by (try dsimp only); rw [hz1]; exact hF.1.2.2.2.2.1) (ev_tg hlT2.1 (ev_eq e2 (ev_pz hT.1 (Or.inr rfl) (ev_ret ?_)))))))))
  have oz : ∀ b, b ≠ z → (mm_up m2 z 14 (.int (zI 1))) b = m2 b := fun b hb => up_row _ _ _ hb
  have fz : ∀ k, k ≠ 14 → (mm_up m2 z 14 (.int (zI 1))) z k = m z k := fun k hk => by (try dsimp only); rw [up_ne _ _ (Or.inr hk), hz2]
  have az : (mm_up m2 z 14 (.int (zI 1))) z 14 = .int (zI 1) := up_at _ _ _ _
  generalize mm_up m2 z 14 (.int (zI 1)) = m3 at oz fz az
  have fr : ∀ b, b ≠ z → (b < z + 110 ∨ (z + 173 ≤ b ∧ b < z + 213) ∨ z + 233 ≤ b) → m3 b = m b := fun b x1 x2 => by (try dsimp only); rw [oz b x1, o2 b (by omega), o1 b (by omega)]
  have G3 : gC m3 (z + 213) t idF (zI 0) (zI 0) x G.2.1 := G1.keep (fun b x1 x2 x3 x4 => by (try dsimp only); rw [oz b (by omega), o2 b (by omega)])
  have L3 : logR m3 (z + 110) (G.2.2.1.map (hsV C.2.2.2.1)) := L2.keep (fun b x1 x2 => oz b (by omega))
  refine ⟨⟨h1, ⟨⟨by (try dsimp only); rw [fz _ (by omega)]; exact hF.1.1, by (try dsimp only); rw [fz _ (by omega)]; exact hF.1.2.1, by (try dsimp only); rw [fz _ (by omega)]; exact hF.1.2.2.1, by (try dsimp only); rw [fz _ (by omega)]; exact hF.1.2.2.2.1, by (try dsimp only); rw [fz _ (by omega)]; exact hF.1.2.2.2.2.1, by (try dsimp only); rw [fz _ (by omega)]; exact hF.1.2.2.2.2.2.1, by (try dsimp only); rw [fz _ (by omega)]; exact hF.1.2.2.2.2.2.2⟩, ⟨by (try dsimp only); rw [fz _ (by omega)]; exact hF.2.1.1, by (try dsimp only); rw [fz _ (by omega)]; exact hF.2.1.2.1, by (try dsimp only); rw [fz _ (by omega)]; exact hF.2.1.2.2.1, by (try dsimp only); rw [fz _ (by omega)]; exact hF.2.1.2.2.2.1, by (try dsimp only); rw [fz _ (by omega)]; exact hF.2.1.2.2.2.2.1, by (try dsimp only); rw [fz _ (by omega)]; exact hF.2.1.2.2.2.2.2.1, by (try dsimp only); rw [fz _ (by omega)]; exact hF.2.1.2.2.2.2.2.2⟩, az, by (try dsimp only); rw [fz _ (by omega)]; exact hF.2.2.2.1, by (try dsimp only); rw [fz _ (by omega)]; exact hF.2.2.2.2.1, by (try dsimp only); rw [fz _ (by omega)]; exact hF.2.2.2.2.2.1, by (try dsimp only); rw [fz _ (by omega)]; exact hF.2.2.2.2.2.2⟩, fun i hi => by (try dsimp only); rw [fr _ (by omega) (by omega)]; exact hA i hi, hC.keep (fun b x1 x2 x3 => fr b (by omega) (by omega)), hD.keep (fun b x1 x2 x3 => fr b (by rcases h1 with h1 | h1 <;> omega) (by rcases h1 with h1 | h1 <;> omega)), hR.row (fun b x1 x2 => fr b (by omega) (by omega)), ⟨hL.keep (fun b x1 x2 => fr b (by omega) (by omega)), _, L3⟩, ⟨⟨x, hG.keep (fun b x1 x2 x3 x4 => fr b (by omega) (by omega))⟩, hG2.elim (fun y hy => ⟨y, hy.keep (fun b x1 x2 x3 x4 => fr b (by omega) (by omega))⟩), G3.gmW⟩, hS.keep (fun b x1 x2 => fr b (by omega) (by omega)), fun Si Hi hx => ?_, hst.keep hT.2.2.2.2.2.2.2.2.2.2.2.2.2.1 (fun b hb => fr b (by omega) (by omega))⟩, fun b hb => fr b (by omega) (by omega)⟩
  cases hx
  exact ⟨⟨x, G3⟩, L3⟩
theorem cl_restore {m : mm_V} (hT : icT e z) (hp : pureI C G M K) (h : IC e m z t d C G M) : Ev (X11_restore e z m) (clR (bZ G.2.2.2.isSome) e z t d C (resG G) M m) := by
  obtain ⟨h1, hF, hA, hC, hD, hR, ⟨hL, H0, hL0⟩, ⟨⟨x, hG⟩, hG2, hG3⟩, hS, hI, hst⟩ := id h
  have htf := t_far h
  have hgT := hT.2.2.2.2.2.1
  have hgT2 := hT.2.2.2.2.2.2.2.1
  have hlT := hT.2.2.2.1
  have hlT2 := hT.2.2.2.2.1
  have hN := hT.2.2.2.2.2.2.2.2.2.2.2.2.2.2
  unfold X11_restore
  simp only [LT, zI_neg]
  refine ev_gi hT.1 hF.2.2.1 ?_
  unfold resG
  cases hi : G.2.2.2 with
  | none =>
    rw [if_neg (show ¬ ¬ bZ (none : Option (PS × List HS)).isSome = zI 0 from fun hh => hh rfl)]
    exact ev_rz (Or.inl rfl) ⟨rfl, h, fun _ _ => rfl⟩
  | some X =>
    obtain ⟨Si, Hi⟩ := X
    obtain ⟨⟨xi, gi⟩, li⟩ := hI Si Hi hi
    rw [if_pos (show ¬ bZ (some (Si, Hi) : Option (PS × List HS)).isSome = zI 0 from (by decide : ¬ bZ true = zI 0))]
    obtain ⟨m1, e1, G1, o1⟩ := X4_copyFrom_eq (e := e) hgT hgT2 (by omega) hG.1 hG.2.1 gi (Or.inl rfl) (by omega)
    have hz1 : m1 z = m z := o1 z (by omega)
    obtain ⟨m2, e2, L2, o2⟩ := X5_copyFrom_eq (e := e) (m := m1) hlT hlT2 (by omega) (hL.keep (fun b x1 x2 => o1 b (by omega))) (li.keep (fun b x1 x2 => o1 b (by omega))) (by omega)
    have fr : ∀ b, (b < z + 47 ∨ (z + 110 ≤ b ∧ b < z + 173) ∨ z + 193 ≤ b) → m2 b = m b := fun b x2 => by (try dsimp only); rw [o2 b (by omega), o1 b (by omega)]
    refine ev_gr hT.1 hF.1.2.2.2.2.2.2 (ev_gr hT.1 hF.2.1.2.1 (ev_tg hgT.1 (ev_eq e1 (ev_gr hT.1 (v := z + 47) (by (try dsimp only); rw [hz1]; exact hF.1.2.2.2.2.1) (ev_gr hT.1 (v := z + 110) (by (try dsimp only); rw [hz1]; exact hF.1.2.2.2.2.2.1) (ev_tg hlT.1 (ev_eq e2 (ev_rz (Or.inr rfl) ⟨rfl, ?_, fun b hb => fr b (by omega)⟩))))))))
    refine ⟨h1, ?_, fun i hi => by (try dsimp only); rw [fr _ (by omega)]; exact hA i hi, hC.keep (fun b x1 x2 x3 => fr b (by omega)), hD.keep (fun b x1 x2 x3 => fr b (by rcases h1 with h1 | h1 <;> omega)), hR.row (fun b x1 x2 => fr b (by omega)), ⟨L2, H0, hL0.keep (fun b x1 x2 => fr b (by omega))⟩, ⟨⟨xi, G1.keep (fun b x1 x2 x3 x4 => o2 b (by omega))⟩, hG2.elim (fun y hy => ⟨y, hy.keep (fun b x1 x2 x3 x4 => fr b (by omega))⟩), hG3.keep (fun b x1 x2 => fr b (by omega))⟩, hS.keep (fun b x1 x2 => fr b (by omega)), ?_, hst.keep hT.2.2.2.2.2.2.2.2.2.2.2.2.2.1 (fun b hb => fr b (by omega))⟩
    · have := hF.keep (fr z (by omega))
      rw [hi] at this
      exact this
    · intro Sj Hj hx
      have hx : some (Si, Hi) = some (Sj, Hj) := hx
      cases hx
      exact ⟨⟨xi, gi.keep (fun b x1 x2 x3 x4 => fr b (by omega))⟩, li.keep (fun b x1 x2 => fr b (by omega))⟩
theorem mlogA.cong {m m' : mm_V} {r r' : Nat} {H : List QR} (h : mlogA m r H) (h1 : ∀ k, k < 540 → m' r' k = m r k) : mlogA m' r' H := by
  obtain ⟨a1, a2, a3⟩ := h
  refine ⟨a1, fun k hk => by (try dsimp only); rw [h1 k hk]; exact a2 k hk, fun i v hv j hj => ?_⟩
  have := (List.getElem?_eq_some_iff.mp hv).1
  rw [h1 _ (by omega)]
  exact a3 i v hv j hj
theorem intR.cong {m m' : mm_V} {r r' n : Nat} (h : intR m r n) (h1 : ∀ k, k < n → m' r' k = m r k) : intR m' r' n := fun k hk => by (try dsimp only); rw [h1 k hk]; exact h k hk
/-- a row copied as it is -/
theorem copies_same {m : mm_V} {r r2 n : Nat} (hn : n ≤ 100000) (ht : e.1 r = some (20, n)) (ht2 : e.1 r2 = some (20, n)) (hr : r ≠ r2) (h : intR m r n) (hN : n < e.2.2) (q : Nat) : ∃ m', X12_copies e q r r2 m = some m' ∧ (∀ b, b ≠ r2 → m' b = m b) ∧ ∀ k, k < n → m' r2 k = m r k := by
  obtain ⟨v, hv⟩ := ints_ex h
  obtain ⟨m', e1, o1, -, w1⟩ := X12_copies_eq (e := e) (m := m) (Nat.le_refl n) hn ht ht2 hr hv hN q
  exact ⟨m', e1, o1, fun k hk => by (try dsimp only); rw [w1 k hk, hv k hk]⟩
theorem ml_image {m : mm_V} (hT : imT e q) (hp : pureI C G M K) (h : IM e m q C G M) : Ev (X12_image e q m) (fun m' => IM e m' q C (imgG G) M ∧ ∀ b, (b < q ∨ q + 40 ≤ b) → m' b = m b) := by
  have hN := hT.2.1
  have hT := hT.1
  obtain ⟨g1, ⟨g2, g3, g4, g5, g6, g7⟩, ⟨g8, g9, g10, g11, g12⟩, g13, ⟨⟨g14a, g14b⟩, g14, g14'⟩, g15, g16⟩ := id h
  have S := g1.2.1
  unfold X12_image
  simp only [LT, zI_neg]
  refine ev_pf hT.me (ev_pz hT.me (Or.inr rfl) (ev_gi hT.me (v := zI (G.2.2.1.map (hsV C.2.2.2.1)).length) (by (try dsimp only); rw [up_ne _ _ (by omega), up_ne _ _ (by omega)]; exact g15.1) (ev_pf hT.me ?_)))
  generalize hA : mm_up (mm_up (mm_up m q 0 (.int (zI 0))) q 71 (.int (zI 1))) q 72 (.int (zI (G.2.2.1.map (hsV C.2.2.2.1)).length)) = mA
  have oA : ∀ b, b ≠ q → mA b = m b := fun b hb => by (try dsimp only); rw [← hA, up_row _ _ _ hb, up_row _ _ _ hb, up_row _ _ _ hb]
  have fA : ∀ k, k ≠ 0 → k ≠ 71 → k ≠ 72 → mA q k = m q k := fun k x1 x2 x3 => by (try dsimp only); rw [← hA, up_ne _ _ (Or.inr x3), up_ne _ _ (Or.inr x2), up_ne _ _ (Or.inr x1)]
  have a71 : mA q 71 = .int (zI 1) := by (try dsimp only); rw [← hA, up_ne _ _ (by omega), up_at]
  have a72 : mA q 72 = .int (zI (G.2.2.1.map (hsV C.2.2.2.1)).length) := by (try dsimp only); rw [← hA, up_at]
  have SA : modS mA q := by (try dsimp only); rw [← hA]; exact ((S.up (by decide)).up (by decide)).up (by decide)
  clear hA
  obtain ⟨mB, e1, o1, w1⟩ := copies_same (e := e) (m := mA) (by omega) hT.now_ hT.imageNow_ (by omega) (g14'.keep (oA _ (by omega))) (by omega) q
  have SB : modS mB q := SA.row (o1 _ (by omega))
  have i19 : intR mB (q + 19) 540 := fun k hk => by (try dsimp only); rw [o1 _ (by omega), oA _ (by omega)]; exact g15.2.2.1 k hk
  obtain ⟨mC, e2, o2, w2⟩ := copies_same (e := e) (m := mB) (by omega) hT.draw_ hT.imageDraw_ (by omega) i19 (by omega) q
  have fr : ∀ b, b ≠ q → b ≠ q + 38 → b ≠ q + 39 → mC b = m b := fun b x1 x2 x3 => by (try dsimp only); rw [o2 b x3, o1 b x2, oA b x1]
  have hq : mC q = mA q := by (try dsimp only); rw [o2 _ (by omega), o1 _ (by omega)]
  refine ev_gr hT.me SA.now_ (ev_gr hT.me SA.imageNow_ (ev_eq e1 (ev_gr hT.me SB.draw_ (ev_gr hT.me SB.imageDraw_ (ev_eq e2 (ev_ret ⟨?_, fun b hb => fr b (by omega) (by omega) (by omega)⟩))))))
  refine ⟨g1.keep' (L := [0, 71, 72]) (by decide) (fun j hj => by
    simp only [List.mem_cons, List.not_mem_nil, or_false, not_or] at hj
    rw [hq]; exact fA j hj.1 hj.2.1 hj.2.2) (fr _ (by omega) (by omega) (by omega)) (fr _ (by omega) (by omega) (by omega)), ⟨by (try dsimp only); rw [hq, fA _ (by omega) (by omega) (by omega)]; exact g2, by (try dsimp only); rw [hq, fA _ (by omega) (by omega) (by omega)]; exact g3, by (try dsimp only); rw [hq, fA _ (by omega) (by omega) (by omega)]; exact g4, by (try dsimp only); rw [hq, fA _ (by omega) (by omega) (by omega)]; exact g5, by (try dsimp only); rw [hq, fA _ (by omega) (by omega) (by omega)]; exact g6, by (try dsimp only); rw [hq]; exact a71⟩, ⟨fun i hi => by (try dsimp only); rw [fr _ (by omega) (by omega) (by omega)]; exact g8 i hi, by (try dsimp only); rw [fr _ (by omega) (by omega) (by omega)]; exact g9, by (try dsimp only); rw [fr _ (by omega) (by omega) (by omega)]; exact g10, fun i hi => by (try dsimp only); rw [fr _ (by omega) (by omega) (by omega)]; exact g11 i hi, g12.keep (fr _ (by omega) (by omega) (by omega))⟩, g13.keep (fr _ (by omega) (by omega) (by omega)), ⟨⟨g14a.keep (fr _ (by omega) (by omega) (by omega)), g14b.keep (fr _ (by omega) (by omega) (by omega))⟩, g14.keep (fr _ (by omega) (by omega) (by omega)), g14'.keep (fr _ (by omega) (by omega) (by omega))⟩, g15.keep (by (try dsimp only); rw [hq]; exact fA _ (by omega) (by omega) (by omega)) (fr _ (by omega) (by omega) (by omega)), fun Si Hi hx => ?_⟩
  cases hx
  refine ⟨by (try dsimp only); rw [hq, a72, List.length_map], g14.cong (fun k hk => by (try dsimp only); rw [o2 _ (by omega), w1 k hk, oA _ (by omega)]), g14'.cong (fun k hk => by (try dsimp only); rw [o2 _ (by omega), w1 k hk, oA _ (by omega)]), g15.2.cong (fun k hk => by (try dsimp only); rw [w2 k hk, o1 _ (by omega), oA _ (by omega)])⟩
theorem ml_restore {m : mm_V} (hT : imT e q) (hp : pureI C G M K) (h : IM e m q C G M) : Ev (X12_restore e q m) (mlR (bZ G.2.2.2.isSome) e q C (resG G) M m) := by
  have hN := hT.2.1
  have hT := hT.1
  have h0 := h.th (zI 0)
  have fr0 : ∀ b, (b < q ∨ q + 40 ≤ b) → (mm_up m q 0 (.int (zI 0))) b = m b := fr_th
  unfold X12_restore
  simp only [LT, zI_neg]
  refine ev_pf hT.me ?_
  generalize mm_up m q 0 (.int (zI 0)) = m0 at h0 fr0
  obtain ⟨g1, ⟨g2, g3, g4, g5, g6, g7⟩, ⟨g8, g9, g10, g11, g12⟩, g13, ⟨⟨g14a, g14b⟩, g14, g14'⟩, g15, g16⟩ := id h0
  have S := g1.2.1
  refine ev_gi hT.me g7 ?_
  unfold resG
  cases hi : G.2.2.2 with
  | none =>
    rw [if_neg (show ¬ ¬ bZ (none : Option (PS × List HS)).isSome = zI 0 from fun hh => hh rfl)]
    exact ev_rz (Or.inl rfl) ⟨rfl, h0, fr0⟩
  | some X =>
    obtain ⟨Si, Hi⟩ := X
    obtain ⟨d1, d2, d3, d4⟩ := g16 Si Hi hi
    rw [if_pos (show ¬ bZ (some (Si, Hi) : Option (PS × List HS)).isSome = zI 0 from (by decide : ¬ bZ true = zI 0))]
    refine ev_gi hT.me d1 (ev_pf hT.me ?_)
    have oA : ∀ b, b ≠ q → (mm_up m0 q 48 (.int (zI Hi.length))) b = m0 b := fun b hb => up_row _ _ _ hb
    have fA : ∀ k, k ≠ 48 → (mm_up m0 q 48 (.int (zI Hi.length))) q k = m0 q k := fun k x1 => up_ne _ _ (Or.inr x1)
    have a48 : (mm_up m0 q 48 (.int (zI Hi.length))) q 48 = .int (zI Hi.length) := up_at _ _ _ _
    have SA : modS (mm_up m0 q 48 (.int (zI Hi.length))) q := S.up (by decide)
    generalize mm_up m0 q 48 (.int (zI Hi.length)) = mA at oA fA a48 SA
    obtain ⟨mB, e1, o1, w1⟩ := copies_same (e := e) (m := mA) (by omega) hT.imageNow_ hT.now_ (by omega) (d3.keep (oA _ (by omega))) (by omega) q
    have SB : modS mB q := SA.row (o1 _ (by omega))
    have i39 : intR mB (q + 39) 540 := fun k hk => by (try dsimp only); rw [o1 _ (by omega), oA _ (by omega)]; exact d4.2.1 k hk
    obtain ⟨mC, e2, o2, w2⟩ := copies_same (e := e) (m := mB) (by omega) hT.imageDraw_ hT.draw_ (by omega) i39 (by omega) q
    have fr : ∀ b, b ≠ q → b ≠ q + 14 → b ≠ q + 19 → mC b = m0 b := fun b x1 x2 x3 => by (try dsimp only); rw [o2 b x3, o1 b x2, oA b x1]
    have hq : mC q = mA q := by (try dsimp only); rw [o2 _ (by omega), o1 _ (by omega)]
    refine ev_gr hT.me SA.imageNow_ (ev_gr hT.me SA.now_ (ev_eq e1 (ev_gr hT.me SB.imageDraw_ (ev_gr hT.me SB.draw_ (ev_eq e2 (ev_rz (Or.inr rfl) ⟨rfl, ?_, fun b hb => by (try dsimp only); rw [fr b (by omega) (by omega) (by omega)]; exact fr0 b hb⟩))))))
    refine ⟨g1.keep' (L := [48]) (by decide) (fun j hj => by (try dsimp only); rw [hq]; exact fA j (by simpa using hj)) (fr _ (by omega) (by omega) (by omega)) (fr _ (by omega) (by omega) (by omega)), ⟨by (try dsimp only); rw [hq, fA _ (by omega)]; exact g2, by (try dsimp only); rw [hq, fA _ (by omega)]; exact g3, by (try dsimp only); rw [hq, fA _ (by omega)]; exact g4, by (try dsimp only); rw [hq, fA _ (by omega)]; exact g5, by (try dsimp only); rw [hq, fA _ (by omega)]; exact g6, by (try dsimp only); rw [hq, fA _ (by omega)]; rw [hi] at g7; exact g7⟩, ⟨fun i hi => by (try dsimp only); rw [fr _ (by omega) (by omega) (by omega)]; exact g8 i hi, by (try dsimp only); rw [fr _ (by omega) (by omega) (by omega)]; exact g9, by (try dsimp only); rw [fr _ (by omega) (by omega) (by omega)]; exact g10, fun i hi => by (try dsimp only); rw [fr _ (by omega) (by omega) (by omega)]; exact g11 i hi, g12.keep (fr _ (by omega) (by omega) (by omega))⟩, g13.keep (fr _ (by omega) (by omega) (by omega)), ⟨⟨g14a.keep (fr _ (by omega) (by omega) (by omega)), g14b.keep (fr _ (by omega) (by omega) (by omega))⟩, d2.cong (fun k hk => by (try dsimp only); rw [o2 _ (by omega), w1 k hk, oA _ (by omega)]), d3.cong (fun k hk => by (try dsimp only); rw [o2 _ (by omega), w1 k hk, oA _ (by omega)])⟩, ⟨by (try dsimp only); rw [hq, a48, List.length_map], d4.cong (fun k hk => by (try dsimp only); rw [w2 k hk, o1 _ (by omega), oA _ (by omega)])⟩, fun Sj Hj hx => ?_⟩
    have hx : some (Si, Hi) = some (Sj, Hj) := hx
    cases hx
    exact ⟨by (try dsimp only); rw [hq, fA _ (by omega)]; exact d1, d2.keep (fr _ (by omega) (by omega) (by omega)), d3.keep (fr _ (by omega) (by omega) (by omega)), d4.keep (fr _ (by omega) (by omega) (by omega))⟩
end CA3
