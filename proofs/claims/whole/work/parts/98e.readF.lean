/-! THE READER of the class: the whole. -/
def lkZ (k : Nat) : Int := if k = 7 then -1 else (k : Int)
theorem lkT_le (T : Nat → Nat) (t : TK) : lkT T t ≤ 7 := by unfold lkT; (repeat' split) <;> omega
theorem tkC_ne {T : Nat → Nat} {t : TK} (h : t.1 ≠ 0) : tkC T t ≠ -1 := by unfold tkC; (repeat' split) <;> omega
section RDG
variable {e : mm_E} {x d r n cc : Nat} {T : Nat → Nat} {t : TK} {R : RD}
theorem X8_lineKind_eq {m : mm_V} (hR : rdT e x d r) (hv : tkV T n t) (hC : rcR e m x d r n T t cc R) : X8_lineKind e r m = some (zI (lkZ (lkT T t)), m) := by
  suffices h : Ev (X8_lineKind e r m) (fun y => y = (zI (lkZ (lkT T t)), m)) by
    obtain ⟨y, h1, h2⟩ := h
    rw [h1, h2]
  obtain ⟨c1, c2, c3, c4, c5⟩ := hC
  obtain ⟨hx, hD, h8, h9, h83, h84, h1, h6, hxd, hdr, hst, hN⟩ := hR
  have W : ∀ i, i < 17 → X9_isWord e (r + 1) (e.2.1 (100 + i)) m = some (bZ (isW T t i), m) := fun i hi => X9_isWord_eq i h9 hx c4 c3 hv c5 hi hN
  have g := c2.1.1
  unfold X8_lineKind X8_lineKind_b102
  simp only [LT, zI_neg]
  refine ev_gr h8 g (ev_tg h9 (ev_eq (W 0 (by decide)) (ev_bz (fun a0 => ?_) (fun a0 => ev_ret (by unfold lkT; rw [if_pos a0]; rfl)))))
  have a0 : ¬ isW T t 0 = true := by rw [a0]; simp
  refine ev_gr h8 g (ev_tg h9 (ev_eq (W 1 (by decide)) (ev_bz (fun a1 => ?_) (fun a1 => ev_ret (by unfold lkT; rw [if_neg a0, if_pos a1]; rfl)))))
  have a1 : ¬ isW T t 1 = true := by rw [a1]; simp
  refine ev_gr h8 g (ev_tg h9 (ev_eq (W 2 (by decide)) (ev_bz (fun a2 => ?_) (fun a2 => ev_ret (by unfold lkT; rw [if_neg a0, if_neg a1, if_pos a2]; rfl)))))
  have a2 : ¬ isW T t 2 = true := by rw [a2]; simp
  refine ev_gr h8 g (ev_tg h9 (ev_eq (W 3 (by decide)) (ev_bz (fun a3 => ?_) (fun a3 => ev_ret (by unfold lkT; rw [if_neg a0, if_neg a1, if_neg a2, if_pos a3]; rfl)))))
  have a3 : ¬ isW T t 3 = true := by rw [a3]; simp
  refine ev_gr h8 g (ev_tg h9 (ev_eq (W 4 (by decide)) (ev_bz (fun a4 => ?_) (fun a4 => ev_ret (by unfold lkT; rw [if_neg a0, if_neg a1, if_neg a2, if_neg a3, if_pos a4]; rfl)))))
  have a4 : ¬ isW T t 4 = true := by rw [a4]; simp
  refine ev_gr h8 g (ev_tg h9 (ev_eq (W 5 (by decide)) (ev_bz (fun a5 => ?_) (fun a5 => ev_ret (by unfold lkT; rw [if_neg a0, if_neg a1, if_neg a2, if_neg a3, if_neg a4, if_pos a5]; rfl)))))
  have a5 : ¬ isW T t 5 = true := by rw [a5]; simp
  refine ev_gr h8 g (ev_tg h9 (ev_eq (W 6 (by decide)) (ev_bz (fun a6 => ?_) (fun a6 => ev_ret (by unfold lkT; rw [if_neg a0, if_neg a1, if_neg a2, if_neg a3, if_neg a4, if_neg a5, if_pos a6]; rfl)))))
  have a6 : ¬ isW T t 6 = true := by rw [a6]; simp
  exact ev_ret (by unfold lkT; rw [if_neg a0, if_neg a1, if_neg a2, if_neg a3, if_neg a4, if_neg a5, if_neg a6]; rfl)
theorem X8_allCards_loop {m : mm_V} {cn : Nat → Nat} (h8 : e.1 r = some (8, 7)) (h83 : e.1 (r + 3) = some (20, 10)) (hr : m r 2 = .ref (r + 3)) (hc : ∀ c, c < 10 → m (r + 3) c = .int (zI (cn c))) (hb : ∀ c, cn c ≤ 2) (b : Bool) : ∀ k i nn : Nat, i + k = 10 → k < nn → (b = true ↔ cn 0 = 1 ∧ ∀ c, i ≤ c → 1 ≤ c → c < 10 → cn c ≠ 1) → Ev (X8_allCardsTold_L2 e r nn (zI i) m) (fun y => y = (bZ b, m)) := by
  intro k
  induction k with
  | zero =>
    intro i nn hi hnn hiff
    obtain ⟨nn, rfl⟩ : ∃ n', nn = n' + 1 := ⟨nn - 1, by omega⟩
    have hb0 := hb 0
    rw [X8_allCardsTold_L2]
    unfold X8_allCardsTold_b48
    simp only [LT, zI_neg]
    refine ev_gr h8 hr (ev_ln h83 (by decide) (ev_iep rfl rfl (by omega) (ev_gr h8 hr (ev_ai 0 h83 rfl (by omega) (by omega) (hc 0 (by omega)) ?_))))
    by_cases h0 : cn 0 = 1
    · have hbt : b = true := hiff.mpr ⟨h0, fun c h1 h2 h3 => by omega⟩
      rw [hbt]
      exact ev_inn rfl rfl (by omega) (ev_rz (Or.inr rfl) rfl)
    · have hbf : b = false := by
        cases b with
        | false => rfl
        | true => exact absurd (hiff.mp rfl).1 h0
      rw [hbf]
      exact ev_inp rfl rfl (by omega) (ev_rz (Or.inl rfl) rfl)
  | succ k ih =>
    intro i nn hi hnn hiff
    obtain ⟨nn, rfl⟩ : ∃ n', nn = n' + 1 := ⟨nn - 1, by omega⟩
    have hbi := hb i
    rw [X8_allCardsTold_L2]
    unfold X8_allCardsTold_b27
    simp only [LT, zI_neg]
    refine ev_gr h8 hr (ev_ln h83 (by decide) (ev_ien rfl rfl (by omega) (ev_gr h8 hr (ev_ai i h83 rfl (by omega) (by omega) (hc i (by omega)) ?_))))
    rw [show (zI (i : Int) + zI 1 : Int32) = zI ((i + 1 : Nat) : Int) from zI_add _ _]
    by_cases h1 : cn i = 1
    · by_cases h0 : i = 0
      · refine ev_inn rfl rfl (by omega) (ev_iqp rfl rfl (by omega) (ih (i + 1) nn (by omega) (by omega) (hiff.trans ⟨fun h => ⟨h.1, fun c x1 x2 x3 => h.2 c (by omega) x2 x3⟩, fun h => ⟨h.1, fun c x1 x2 x3 => h.2 c (by omega) x2 x3⟩⟩)))
      · have hbf : b = false := by
          cases b with
          | false => rfl
          | true => exact absurd h1 ((hiff.mp rfl).2 i (Nat.le_refl _) (by omega) (by omega))
        rw [hbf]
        exact ev_inn rfl rfl (by omega) (ev_iqn rfl rfl (by omega) (ev_rz (Or.inl rfl) rfl))
    · refine ev_inp rfl rfl (by omega) (ih (i + 1) nn (by omega) (by omega) (hiff.trans ⟨fun h => ⟨h.1, fun c x1 x2 x3 => h.2 c (by omega) x2 x3⟩, fun h => ⟨h.1, fun c x1 x2 x3 => ?_⟩⟩))
      by_cases hci : c = i
      · rw [hci]; exact h1
      · exact h.2 c (by omega) x2 x3
theorem X8_allCards_eq {m : mm_V} {cn : Nat → Nat} (h8 : e.1 r = some (8, 7)) (h83 : e.1 (r + 3) = some (20, 10)) (hr : m r 2 = .ref (r + 3)) (hc : ∀ c, c < 10 → m (r + 3) c = .int (zI (cn c))) (hb : ∀ c, cn c ≤ 2) (hN : 1000 < e.2.2) : X8_allCardsTold e r m = some (bZ (alC cn), m) := by
  obtain ⟨y, h1, h2⟩ := X8_allCards_loop h8 h83 hr hc hb (alC cn) 10 0 e.2.2 rfl (by omega) (alC_iff.trans ⟨fun h => ⟨h.1, fun c _ x2 x3 => h.2 c x2 x3⟩, fun h => ⟨h.1, fun c x2 x3 => h.2 c (Nat.zero_le _) x2 x3⟩⟩)
  unfold X8_allCardsTold
  exact h1.trans (by rw [h2])
def rdO (d r n : Nat) (m : mm_V) (X : Nat × Nat × RD) (v : Int32) (m' : mm_V) : Prop := v = zI X.1 ∧ X.1 ≤ 6 ∧ X.2.1 ≤ n ∧ m' r 6 = .int (zI X.2.1) ∧ frC d r m m' ∧ toldS m' d ∧ (∃ F, toldF m' d F) ∧ rcS m' r ∧ (X.1 = 0 → rdI X.2.2 ∧ (X.2.2.1.2.2.2 = true → alC X.2.2.2.2.1 = true) ∧ ∃ cc : Nat, cc ≤ 600 ∧ rcT m' d cc X.2.2)
def rdY (d r n : Nat) (m : mm_V) (X : Nat × Nat × RD) (y : Int32 × mm_V) : Prop := rdO d r n m X y.1 y.2
theorem ev_ry {d r n : Nat} {m : mm_V} {X : Nat × Nat × RD} {v : Int32} {m' : mm_V} (h : rdO d r n m X v m') : Ev (some (v, m')) (rdY d r n m X) := ev_ret h
theorem X8_read_loop {m0 : mm_V} (hR : rdT e x d r) : ∀ (k : Nat) (t : TK) (R : RD) (m : mm_V) (cc i nn F : Nat), muT n t = k → i ≤ t.2.1 → k < nn → k < F → tkV T n t → rdI R → cc ≤ t.2.1 → frC d r m0 m → rcR e m x d r n T t cc R → Ev (X8_read_L28 e r (zI n) nn (zI i) m) (rdY d r n m0 (rdA T n F t R)) := by
  have hR' := hR
  obtain ⟨hx, hD, h8, h9, h83, h84, h1, h6, hxd, hdr, hst, hN⟩ := hR
  intro k
  induction k using Nat.strongRecOn with
  | _ k ih =>
    intro t R m cc i nn F hmu hi hnn hF hv hI hcc hfr hC
    obtain ⟨nn, rfl⟩ : ∃ n', nn = n' + 1 := ⟨nn - 1, by omega⟩
    obtain ⟨F, rfl⟩ : ∃ n', F = n' + 1 := ⟨F - 1, by omega⟩
    have hn6 := hC.2.2.2.1.1
    have hv0 := hv.1
    have hv2 := hv.2.1
    have hkb := tkC_bd hC.2.2.2.1 hv
    rw [X8_read_L28, rdA]
    simp only [LT, zI_neg]
    refine ev_iln rfl rfl (by omega) (ev_gr h8 hC.2.1.1.1 (ev_gi h9 hC.2.2.1.2.2.2.2.1 ?_))
    by_cases h0 : t.1 = 0
    · rw [if_pos h0]
      refine ev_iqp rfl rfl (by rw [tkC_0 h0]; omega) ?_
      unfold X8_read_b116 X8_read_b143 X8_read_b144
      simp only [LT, zI_neg]
      refine ev_pf h8 ?_
      obtain ⟨c1, ⟨d0, d1, d2, d3, d4⟩, c3, c4, c5⟩ := hC
      have o : ∀ b, b ≠ r → mm_up m r 6 (.int (zI n)) b = m b := fun b h => up_row _ _ _ h
      have f : ∀ k, k ≠ 6 → mm_up m r 6 (.int (zI n)) r k = m r k := fun k h => up_ne _ _ (Or.inr h)
      have at6 : mm_up m r 6 (.int (zI n)) r 6 = .int (zI n) := up_at _ _ _ _
      generalize mm_up m r 6 (.int (zI n)) = m1 at o f at6
      have q1 : rcT m1 d cc R := c1.keep (fun b x1 x2 => o b (by omega))
      have q0 : rcS m1 r := d0.keep (fun j hj => f j (by omega)) ⟨by rw [o _ (by omega)], by rw [o _ (by omega)]⟩ (by rw [o _ (by omega)]; exact d0.2.2.2.2.2.2)
      have qf : frC d r m0 m1 := hfr.trans (fun b hb => o b (by omega))
      have good : (R.1.2.2.2 = true → alC R.2.2.1 = true) → rdO d r n m0 (0, n, R) (zI 0) m1 := fun ha => ⟨rfl, by simp, Nat.le_refl _, at6, qf, q1.1, ⟨_, q1.2.2.2.2.2.2.1⟩, q0, fun _ => ⟨hI, ha, cc, by omega, q1⟩⟩
      refine ev_gr h8 (by rw [f _ (by omega)]; exact d1) (ev_gi hD.1 q1.2.2.2.2.2.1 (ev_bz (fun a => ?_) (fun a => ?_)))
      · rw [if_neg (fun h => by rw [a] at h; exact absurd h.1 (by simp))]
        exact ev_ry (good (fun h => by rw [a] at h; exact absurd h (by simp)))
      · refine ev_eq (X8_allCards_eq (cn := R.2.2.1) h8 h83 (by rw [f _ (by omega)]; exact d0.2.2.1) (fun c hc => by rw [o _ (by omega)]; exact d3 c hc) hI.two hN) (ev_bn (fun b => ?_) (fun b => ?_))
        · rw [if_pos ⟨a, b⟩]
          exact ev_ry ⟨rfl, by simp, Nat.le_refl _, at6, qf, q1.1, ⟨_, q1.2.2.2.2.2.2.1⟩, q0, fun h => absurd h (by simp)⟩
        · rw [if_neg (fun h => by rw [b] at h; exact absurd h.2 (by simp))]
          exact ev_ry (good (fun _ => b))
    · rw [if_neg h0]
      refine ev_iqn rfl rfl (by have := tkC_ne (T := T) h0; omega) (ev_eq (X8_lineKind_eq hR' hv hC) ?_)
      have hv5 := hv.2.2.2.2.1 h0
      -- behind a line
      have b82 : ∀ (X : LX) (y : Int32 × mm_V), lnY e x d r n T t m X y → Ev (X8_read_b82 e (X8_read_L28 e r (zI n) nn) r (zI n) (zI i) y.1 y.2) (rdY d r n m0 (if X.1 ≠ 0 then (X.1, X.2.1.2.1, X.2.2) else rdA T n F (tok T n X.2.1.2.2) X.2.2)) := by
        rintro X ⟨v, m1⟩ ⟨z1, z2, z3, z4, z5, z6, z7, z8, z9, z10⟩
        dsimp only at z1 z4 z5 z6 z7 z8 z9 z10 ⊢
        have w0 := z3.1
        have w2 := z3.2.1
        unfold X8_read_b82
        simp only [LT, zI_neg]
        by_cases hX : X.1 = 0
        · rw [if_neg (show ¬ (X.1 ≠ 0) from fun h => h hX)]
          obtain ⟨y1, y2, y3, cc', y4, y5⟩ := z10 hX
          refine ev_iqp z1 rfl (by omega) (ev_gr h8 z8.1 (ev_tg h9 (ev_call (X9_next_ev (m := m1) hR' z3 y5) ?_)))
          rintro m2 ⟨C2, o2⟩
          rw [show (zI (i : Int) + zI 1 : Int32) = zI ((i + 1 : Nat) : Int) from zI_add _ _]
          obtain ⟨hv1, hb1⟩ := tok_V T (b := X.2.1.2.2) w2
          have hmu' : muT n (tok T n X.2.1.2.2) < muT n t := by
            have h5 := hv1.2.2.2.2.1
            have h22 := hv1.2.1
            unfold muT
            rw [if_neg h0]
            split
            · omega
            · have := h5 (by assumption); omega
          exact ih _ (by omega) (tok T n X.2.1.2.2) X.2.2 m2 cc' (i + 1) nn F rfl (by omega) (by omega) (by omega) hv1 y1 (by omega) (hfr.trans (z5.trans (fun b hb => o2 b (by omega)))) C2
        · rw [if_pos (show X.1 ≠ 0 from hX)]
          refine ev_iqn z1 rfl (by omega) (ev_gr h8 z8.1 (ev_gi h9 z4 (ev_pf h8 ?_)))
          have o : ∀ b, b ≠ r → mm_up m1 r 6 (.int (zI X.2.1.2.1)) b = m1 b := fun b h => up_row _ _ _ h
          obtain ⟨F', z7⟩ := z7
          refine ev_ry ⟨z1, by simp only; omega, by simp only; omega, up_at _ _ _ _, hfr.trans (z5.trans (fun b hb => o b (by omega))), z6.keep (fun j _ => by rw [o _ (by omega)]) (o _ (by omega)), ⟨F', z7.keep (fun b _ _ => o b (by omega))⟩, z8.keep (fun j hj => up_ne _ _ (Or.inr (by omega))) ⟨by rw [o _ (by omega)], by rw [o _ (by omega)]⟩ (by rw [o _ (by omega)]; exact z8.2.2.2.2.2.2), fun h => absurd h hX⟩
      have hle := lkT_le T t
      unfold lnA lkZ
      by_cases h7 : lkT T t = 7
      · rw [if_pos h7, if_pos h7]
        refine ev_inn rfl rfl (by omega) ?_
        exact b82 (1, t, R) (zI 1, m) (lnO.bad hC hv (by omega) (fun b _ => rfl))
      · rw [if_neg h7, if_neg h7]
        refine ev_inp rfl rfl (by omega) ?_
        by_cases h3 : lkT T t < 3
        · rw [if_pos h3]
          exact ev_ien rfl rfl (by omega) (ev_call (X8_numberLine_ev hR' h3 hv h0 hcc hI hC) (b82 _))
        · rw [if_neg h3]
          exact ev_iep rfl rfl (by omega) (ev_call (X8_personLine_ev hR' (by omega) hv hcc hI hC) (b82 _))
theorem X10_clear_74 (hD : toldT e.1 d) : ∀ (k i nn : Nat) (m : mm_V), i + k = 12 → k < nn → m d 3 = .ref (d + 4) → m d 4 = .ref (d + 5) → (∀ j, j < i → m (d + 4) j = .int (zI 0) ∧ m (d + 5) j = .int (zI 0)) → Ev (X10_clear_L74 e d nn (zI i) m) (fun m' => (∀ j, j < 12 → m' (d + 4) j = .int (zI 0) ∧ m' (d + 5) j = .int (zI 0)) ∧ ∀ b, b ≠ d + 4 → b ≠ d + 5 → m' b = m b) := by
  obtain ⟨t0, t1, t2, t3, t4, t5, t6, t7⟩ := hD
  intro k
  induction k with
  | zero =>
    intro i nn m hi hnn h3 h4 hz
    obtain ⟨nn, rfl⟩ : ∃ n', nn = n' + 1 := ⟨nn - 1, by omega⟩
    rw [X10_clear_L74]
    simp only [LT, zI_neg]
    exact ev_iep rfl rfl (by omega) (ev_ret ⟨fun j hj => hz j (by omega), fun _ _ _ => rfl⟩)
  | succ k ih =>
    intro i nn m hi hnn h3 h4 hz
    obtain ⟨nn, rfl⟩ : ∃ n', nn = n' + 1 := ⟨nn - 1, by omega⟩
    rw [X10_clear_L74]
    simp only [LT, zI_neg]
    refine ev_ien rfl rfl (by omega) (ev_gr t0 h3 (ev_si i t4 rfl (by omega) (by omega) (ev_gr t0 (v := d + 5) (by rw [up_row _ _ _ (by omega)]; exact h4) (ev_si i t5 rfl (by omega) (by omega) ?_))))
    rw [show (zI (i : Int) + zI 1 : Int32) = zI ((i + 1 : Nat) : Int) from zI_add _ _]
    refine ev_mono (ih (i + 1) nn _ (by omega) (by omega) (by rw [up_row _ _ _ (by omega), up_row _ _ _ (by omega)]; exact h3) (by rw [up_row _ _ _ (by omega), up_row _ _ _ (by omega)]; exact h4) (fun j hj => ?_)) (fun m' h => ⟨h.1, fun b x1 x2 => by rw [h.2 b x1 x2, up_row _ _ _ x2, up_row _ _ _ x1]⟩)
    by_cases hji : j = i
    · subst hji
      exact ⟨by rw [up_row _ _ _ (by omega), up_at], up_at _ _ _ _⟩
    · exact ⟨by rw [up_row _ _ _ (by omega), up_ne _ _ (Or.inr hji)]; exact (hz j (by omega)).1, by rw [up_ne _ _ (Or.inr hji), up_row _ _ _ (by omega)]; exact (hz j (by omega)).2⟩
theorem X10_clear_50 (hD : toldT e.1 d) (hN : 1000 < e.2.2) : ∀ (k i nn : Nat) (m : mm_V), i + k = 36 → k < nn → m d 1 = .ref (d + 2) → m d 3 = .ref (d + 4) → m d 4 = .ref (d + 5) → (∀ j, j < i → m (d + 2) j = .int (zI 0)) → Ev (X10_clear_L50 e d nn (zI i) m) (fun m' => (∀ j, j < 36 → m' (d + 2) j = .int (zI 0)) ∧ (∀ j, j < 12 → m' (d + 4) j = .int (zI 0) ∧ m' (d + 5) j = .int (zI 0)) ∧ ∀ b, b ≠ d + 2 → b ≠ d + 4 → b ≠ d + 5 → m' b = m b) := by
  have hD' := hD
  obtain ⟨t0, t1, t2, t3, t4, t5, t6, t7⟩ := hD
  intro k
  induction k with
  | zero =>
    intro i nn m hi hnn h1 h3 h4 hz
    obtain ⟨nn, rfl⟩ : ∃ n', nn = n' + 1 := ⟨nn - 1, by omega⟩
    rw [X10_clear_L50]
    simp only [LT, zI_neg]
    refine ev_gr t0 h1 (ev_ln t2 (by decide) (ev_iep rfl rfl (by omega) (ev_mono (X10_clear_74 hD' 12 0 e.2.2 m rfl (by omega) h3 h4 (fun j hj => by omega)) ?_)))
    rintro m' ⟨a1, a2⟩
    exact ⟨fun j hj => by rw [a2 _ (by omega) (by omega)]; exact hz j (by omega), a1, fun b _ x2 x3 => a2 b x2 x3⟩
  | succ k ih =>
    intro i nn m hi hnn h1 h3 h4 hz
    obtain ⟨nn, rfl⟩ : ∃ n', nn = n' + 1 := ⟨nn - 1, by omega⟩
    rw [X10_clear_L50]
    simp only [LT, zI_neg]
    refine ev_gr t0 h1 (ev_ln t2 (by decide) (ev_ien rfl rfl (by omega) (ev_gr t0 h1 (ev_si i t2 rfl (by omega) (by omega) ?_))))
    rw [show (zI (i : Int) + zI 1 : Int32) = zI ((i + 1 : Nat) : Int) from zI_add _ _]
    refine ev_mono (ih (i + 1) nn _ (by omega) (by omega) (by rw [up_row _ _ _ (by omega)]; exact h1) (by rw [up_row _ _ _ (by omega)]; exact h3) (by rw [up_row _ _ _ (by omega)]; exact h4) (fun j hj => ?_)) (fun m' h => ⟨h.1, h.2.1, fun b x1 x2 x3 => by rw [h.2.2 b x1 x2 x3, up_row _ _ _ x1]⟩)
    by_cases hji : j = i
    · subst hji
      exact up_at _ _ _ _
    · rw [up_ne _ _ (Or.inr hji)]; exact hz j (by omega)
theorem X10_clear_27 (hD : toldT e.1 d) (hN : 1000 < e.2.2) : ∀ (k i nn : Nat) (m : mm_V) (F : Nat → List Nat), i + k = 6 → k < nn → toldS m d → toldF m d F → (∀ j, j < i → F j = []) → Ev (X10_clear_L27 e d nn (zI i) m) (fun m' => toldF m' d (fun _ => []) ∧ (∀ j, j < 36 → m' (d + 2) j = .int (zI 0)) ∧ (∀ j, j < 12 → m' (d + 4) j = .int (zI 0) ∧ m' (d + 5) j = .int (zI 0)) ∧ ∀ b, (b < d + 2 ∨ b = d + 3 ∨ b = d + 6 ∨ d + 19 ≤ b) → m' b = m b) := by
  have hD' := hD
  obtain ⟨t0, t1, t2, t3, t4, t5, t6, t7⟩ := hD
  intro k
  induction k with
  | zero =>
    intro i nn m F hi hnn hS hF hz
    obtain ⟨nn, rfl⟩ : ∃ n', nn = n' + 1 := ⟨nn - 1, by omega⟩
    rw [X10_clear_L27]
    simp only [LT, zI_neg]
    refine ev_iep rfl rfl (by omega) (ev_mono (X10_clear_50 hD' hN 36 0 e.2.2 m rfl (by omega) hS.2.1 hS.2.2.2.1 hS.2.2.2.2.1 (fun j hj => by omega)) ?_)
    rintro m' ⟨a1, a2, a3⟩
    refine ⟨fun j hj => ?_, a1, a2, fun b hb => a3 b (by omega) (by omega) (by omega)⟩
    have := hF j hj
    rw [hz j (by omega)] at this
    exact this.keep (a3 _ (by omega) (by omega) (by omega)) (a3 _ (by omega) (by omega) (by omega))
  | succ k ih =>
    intro i nn m F hi hnn hS hF hz
    obtain ⟨nn, rfl⟩ : ∃ n', nn = n' + 1 := ⟨nn - 1, by omega⟩
    rw [X10_clear_L27]
    simp only [LT, zI_neg]
    obtain ⟨m1, e1, F1, o1⟩ := X3_clear_eq (e := e) (t7 i (by omega)) (hF i (by omega))
    refine ev_ien rfl rfl (by omega) (ev_gr t0 hS.1 (ev_aq i t1 rfl (by omega) (by omega) (hS.2.2.2.2.2.2 i (by omega)) (ev_tg (t7 i (by omega)).1 (ev_eq e1 ?_))))
    rw [show (zI (i : Int) + zI 1 : Int32) = zI ((i + 1 : Nat) : Int) from zI_add _ _]
    refine ev_mono (ih (i + 1) nn m1 (setF F i []) (by omega) (by omega) (hS.keep (fun j _ => by rw [o1 _ (by omega) (by omega)]) (o1 _ (by omega) (by omega))) (fun j hj => ?_) (fun j hj => ?_)) (fun m' h => ⟨h.1, h.2.1, h.2.2.1, fun b hb => by rw [h.2.2.2 b hb, o1 b (by omega) (by omega)]⟩)
    · by_cases hji : j = i
      · subst hji; rw [setF_at]; exact F1
      · rw [setF_ne _ _ hji]; exact (hF j hj).keep (o1 _ (by omega) (by omega)) (o1 _ (by omega) (by omega))
    · by_cases hji : j = i
      · subst hji; rw [setF_at]
      · rw [setF_ne _ _ hji]; exact hz j (by omega)
theorem X8_forget_31 (h8 : e.1 r = some (8, 7)) (h84 : e.1 (r + 4) = some (22, 42)) : ∀ (k i nn : Nat) (m : mm_V), i + k = 42 → k < nn → m r 3 = .ref (r + 4) → (∀ j, j < i → m (r + 4) j = .int (zI 0)) → Ev (X8_forget_L31 e r nn (zI i) m) (fun m' => (∀ j, j < 42 → m' (r + 4) j = .int (zI 0)) ∧ ∀ b, b ≠ r + 4 → m' b = m b) := by
  intro k
  induction k with
  | zero =>
    intro i nn m hi hnn h3 hz
    obtain ⟨nn, rfl⟩ : ∃ n', nn = n' + 1 := ⟨nn - 1, by omega⟩
    rw [X8_forget_L31]
    simp only [LT, zI_neg]
    exact ev_gr h8 h3 (ev_ln h84 (by decide) (ev_iep rfl rfl (by omega) (ev_ret ⟨fun j hj => hz j (by omega), fun _ _ => rfl⟩)))
  | succ k ih =>
    intro i nn m hi hnn h3 hz
    obtain ⟨nn, rfl⟩ : ∃ n', nn = n' + 1 := ⟨nn - 1, by omega⟩
    rw [X8_forget_L31]
    simp only [LT, zI_neg]
    refine ev_gr h8 h3 (ev_ln h84 (by decide) (ev_ien rfl rfl (by omega) (ev_gr h8 h3 (ev_sz i h84 rfl (by omega) (by omega) (Or.inl rfl) ?_))))
    rw [show (zI (i : Int) + zI 1 : Int32) = zI ((i + 1 : Nat) : Int) from zI_add _ _]
    refine ev_mono (ih (i + 1) nn _ (by omega) (by omega) (by rw [up_row _ _ _ (by omega)]; exact h3) (fun j hj => ?_)) (fun m' h => ⟨h.1, fun b x1 => by rw [h.2 b x1, up_row _ _ _ x1]⟩)
    by_cases hji : j = i
    · subst hji
      exact up_at _ _ _ _
    · rw [up_ne _ _ (Or.inr hji)]; exact hz j (by omega)
theorem X8_forget_7 (h8 : e.1 r = some (8, 7)) (h83 : e.1 (r + 3) = some (20, 10)) (h84 : e.1 (r + 4) = some (22, 42)) (hN : 1000 < e.2.2) : ∀ (k i nn : Nat) (m : mm_V), i + k = 10 → k < nn → m r 2 = .ref (r + 3) → m r 3 = .ref (r + 4) → (∀ j, j < i → m (r + 3) j = .int (zI 0)) → Ev (X8_forget_L7 e r nn (zI i) m) (fun m' => (∀ j, j < 10 → m' (r + 3) j = .int (zI 0)) ∧ (∀ j, j < 42 → m' (r + 4) j = .int (zI 0)) ∧ ∀ b, b ≠ r + 3 → b ≠ r + 4 → m' b = m b) := by
  intro k
  induction k with
  | zero =>
    intro i nn m hi hnn h2 h3 hz
    obtain ⟨nn, rfl⟩ : ∃ n', nn = n' + 1 := ⟨nn - 1, by omega⟩
    rw [X8_forget_L7]
    simp only [LT, zI_neg]
    refine ev_gr h8 h2 (ev_ln h83 (by decide) (ev_iep rfl rfl (by omega) (ev_mono (X8_forget_31 h8 h84 42 0 e.2.2 m rfl (by omega) h3 (fun j hj => by omega)) ?_)))
    rintro m' ⟨a1, a2⟩
    exact ⟨fun j hj => by rw [a2 _ (by omega)]; exact hz j (by omega), a1, fun b _ x2 => a2 b x2⟩
  | succ k ih =>
    intro i nn m hi hnn h2 h3 hz
    obtain ⟨nn, rfl⟩ : ∃ n', nn = n' + 1 := ⟨nn - 1, by omega⟩
    rw [X8_forget_L7]
    simp only [LT, zI_neg]
    refine ev_gr h8 h2 (ev_ln h83 (by decide) (ev_ien rfl rfl (by omega) (ev_gr h8 h2 (ev_si i h83 rfl (by omega) (by omega) ?_))))
    rw [show (zI (i : Int) + zI 1 : Int32) = zI ((i + 1 : Nat) : Int) from zI_add _ _]
    refine ev_mono (ih (i + 1) nn _ (by omega) (by omega) (by rw [up_row _ _ _ (by omega)]; exact h2) (by rw [up_row _ _ _ (by omega)]; exact h3) (fun j hj => ?_)) (fun m' h => ⟨h.1, h.2.1, fun b x1 x2 => by rw [h.2.2 b x1 x2, up_row _ _ _ x1]⟩)
    by_cases hji : j = i
    · subst hji
      exact up_at _ _ _ _
    · rw [up_ne _ _ (Or.inr hji)]; exact hz j (by omega)
theorem rdI0 : rdI rd0 := by
  refine ⟨by unfold rd0; simp only; omega, by unfold rd0; simp only; omega, Nat.zero_le _, fun _ => List.nodup_nil, fun p c hc => ?_, fun _ _ => rfl, fun c => ?_, fun _ _ => rfl, fun k _ h => absurd rfl h, fun _ => Nat.zero_le _, fun _ => Nat.zero_le _⟩
  · have : c ∈ ([] : List Nat) := hc
    simp at this
  · show (0 : Nat) = cnF (fun _ => []) c
    unfold cnF
    simp [cnt]
theorem X8_read_ev {m : mm_V} {F0 : Nat → List Nat} (hR : rdT e x d r) (hS : strS e m) (ht : txR m x n T) (hs : toldS m d) (hF : toldF m d F0) (hrs : rcS m r) : Ev (X8_read e r d x (zI n) m) (rdY d r n m (rdA T n 700 (tok T n 0) rd0)) := by
  have hR' := hR
  obtain ⟨hx, hD, h8, h9, h83, h84, h1, h6, hxd, hdr, hst, hN⟩ := hR
  have hn6 := ht.1
  unfold X8_read
  refine ev_pf h8 (ev_gr h8 (up_at _ _ _ _) (ev_tg hD.1 ?_))
  have oA : ∀ b, b ≠ r → mm_up m r 4 (.ref d) b = m b := fun b h => up_row _ _ _ h
  have fA : ∀ k, k ≠ 4 → mm_up m r 4 (.ref d) r k = m r k := fun k h => up_ne _ _ (Or.inr h)
  have atA : mm_up m r 4 (.ref d) r 4 = .ref d := up_at _ _ _ _
  generalize mm_up m r 4 (.ref d) = mA at oA fA atA
  have hsA : toldS mA d := hs.keep (fun j _ => by rw [oA _ (by omega)]) (oA _ (by omega))
  -- the told one, cleared
  unfold X10_clear
  simp only [LT, zI_neg]
  refine ev_call (Q := fun m1 => rcT m1 d 0 rd0 ∧ ∀ b, (b < d ∨ d + 19 ≤ b) → m1 b = mA b) ?_ ?_
  · refine ev_pf hD.1 (ev_pf hD.1 (ev_pf hD.1 (ev_pf hD.1 (ev_pz hD.1 (Or.inl rfl) ?_))))
    generalize hB : mm_up (mm_up (mm_up (mm_up (mm_up mA d 6 (.int (zI 3))) d 7 (.int (zI 5))) d 8 (.int (zI 0))) d 9 (.int (zI 0))) d 10 (.int (zI 0)) = mB
    have oB : ∀ b, b ≠ d → mB b = mA b := fun b h => by rw [← hB, up_row _ _ _ h, up_row _ _ _ h, up_row _ _ _ h, up_row _ _ _ h, up_row _ _ _ h]
    have fB : ∀ k, k < 6 → mB d k = mA d k := fun k h => by rw [← hB, up_ne _ _ (by omega), up_ne _ _ (by omega), up_ne _ _ (by omega), up_ne _ _ (by omega), up_ne _ _ (by omega)]
    have b6 : mB d 6 = .int (zI 3) := by rw [← hB, up_ne _ _ (by omega), up_ne _ _ (by omega), up_ne _ _ (by omega), up_ne _ _ (by omega), up_at]
    have b7 : mB d 7 = .int (zI 5) := by rw [← hB, up_ne _ _ (by omega), up_ne _ _ (by omega), up_ne _ _ (by omega), up_at]
    have b8 : mB d 8 = .int (zI 0) := by rw [← hB, up_ne _ _ (by omega), up_ne _ _ (by omega), up_at]
    have b9 : mB d 9 = .int (zI 0) := by rw [← hB, up_ne _ _ (by omega), up_at]
    have b10 : mB d 10 = .int (zI 0) := by rw [← hB, up_at]
    have hsB : toldS mB d := hsA.keep (fun j hj => fB j hj) (oB _ (by omega))
    refine ev_mono (X10_clear_27 hD hN 6 0 e.2.2 mB F0 rfl (by omega) hsB (hF.keep (fun b x1 x2 => by rw [oB _ (by omega), oA _ (by omega)])) (fun j hj => by omega)) ?_
    rintro m1 ⟨a1, a2, a3, a4⟩
    have ad : m1 d = mB d := a4 d (by omega)
    refine ⟨⟨hsB.keep (fun j _ => by rw [ad]) (a4 _ (by omega)), by rw [ad]; exact b6, by rw [ad]; exact b7, by rw [ad]; exact b8, by rw [ad]; exact b9, by rw [ad]; exact b10, a1, a2, fun k hk => ⟨0, 0, (a3 k hk).1, (a3 k hk).2, rfl, Nat.le_refl _, fun i c hc => ?_⟩⟩, fun b hb => by rw [a4 b (by omega), oB b (by omega)]⟩
    have : ([] : List Int)[i]? = some c := hc
    simp at this
  rintro m1 ⟨q1, o1⟩
  have r1 : m1 r = mA r := o1 r (by omega)
  -- what the reader kept, forgotten
  unfold X8_forget
  simp only [LT, zI_neg]
  refine ev_call (Q := fun m2 => (∀ j, j < 10 → m2 (r + 3) j = .int (zI 0)) ∧ (∀ j, j < 42 → m2 (r + 4) j = .int (zI 0)) ∧ m2 r 5 = .int (zI 0) ∧ (∀ k, k ≠ 5 → m2 r k = m1 r k) ∧ ∀ b, b ≠ r → b ≠ r + 3 → b ≠ r + 4 → m2 b = m1 b) ?_ ?_
  · refine ev_pz h8 (Or.inl rfl) (ev_mono (X8_forget_7 h8 h83 h84 hN 10 0 e.2.2 _ rfl (by omega) (by rw [up_ne _ _ (by omega), r1, fA _ (by omega)]; exact hrs.2.2.1) (by rw [up_ne _ _ (by omega), r1, fA _ (by omega)]; exact hrs.2.2.2.1) (fun j hj => by omega)) ?_)
    rintro m2 ⟨a1, a2, a3⟩
    exact ⟨a1, a2, by rw [a3 _ (by omega) (by omega), up_at], fun k hk => by rw [a3 _ (by omega) (by omega), up_ne _ _ (Or.inr hk)], fun b x1 x2 x3 => by rw [a3 b x2 x3, up_row _ _ _ x1]⟩
  rintro m2 ⟨p1, p2, p3, p4, p5⟩
  have fR : ∀ k, k < 4 → m2 r k = m r k := fun k hk => by rw [p4 k (by omega), r1, fA k (by omega)]
  have oR : ∀ b, (b < d ∨ (d + 19 ≤ b ∧ b < r) ∨ b = r + 1 ∨ b = r + 2 ∨ r + 5 ≤ b) → m2 b = m b := fun b hb => by rw [p5 b (by omega) (by omega) (by omega), o1 b (by omega), oA b (by omega)]
  -- the first token
  obtain ⟨s0, s1, s2, s3, s4, s5, v5, s6⟩ := hrs
  unfold X9_open
  refine ev_gr h8 (v := r + 1) (by rw [fR 0 (by omega)]; exact s0) (ev_tg h9 (ev_call (Q := fun m4 => rcR e m4 x d r n T (tok T n 0) 0 rd0 ∧ frC d r m m4) ?_ ?_))
  · simp only [LT, zI_neg]
    refine ev_pf h9 (ev_ln hx (by decide) (ev_eq (J9_min_eq (u := n) (v := 600) (by omega) (by omega) _) (ev_pf h9 (ev_pf h9 ?_))))
    rw [show min n 600 = n by omega]
    generalize hE : mm_up (mm_up (mm_up m2 (r + 1) 0 (.ref x)) (r + 1) 1 (.int (zI n))) (r + 1) 3 (.int (zI 0)) = m3
    have oE : ∀ b, b ≠ r + 1 → m3 b = m2 b := fun b h => by rw [← hE, up_row _ _ _ h, up_row _ _ _ h, up_row _ _ _ h]
    have e0 : m3 (r + 1) 0 = .ref x := by rw [← hE, up_ne _ _ (by omega), up_ne _ _ (by omega), up_at]
    have e1 : m3 (r + 1) 1 = .int (zI n) := by rw [← hE, up_ne _ _ (by omega), up_at]
    have e3 : m3 (r + 1) 3 = .int (zI (0 : Nat)) := by rw [← hE, up_at]; rfl
    have e5 : m3 (r + 1) 5 = .int v5 := by rw [← hE, up_ne _ _ (by omega), up_ne _ _ (by omega), up_ne _ _ (by omega), oR _ (by omega)]; exact s6
    have tx3 : txR m3 x n T := ht.keep (by rw [oE _ (by omega), oR _ (by omega)])
    obtain ⟨m4, n1, n2, n3⟩ := X9_next_eq (e := e) (b := 0) h9 hx (by omega) tx3 e0 e1 e3 (Nat.zero_le _) ⟨v5, e5⟩ hN
    refine ev_eq n1 (ev_ret ⟨⟨?_, ⟨⟨?_, ?_, ?_, ?_, ?_, ?_, n2.2.2.2.2.2.2⟩, ?_, ?_, ?_, ?_⟩, n2, tx3.keep (n3 _ (by omega)), hS.keep hst (fun b hb => by rw [n3 b (by omega), oE b (by omega), oR b (by omega)])⟩, fun b hb => by rw [n3 b (by omega), oE b (by omega), oR b (by omega)]⟩)
    · exact q1.keep (fun b x1 x2 => by rw [n3 b (by omega), oE b (by omega), p5 b (by omega) (by omega) (by omega)])
    · rw [n3 _ (by omega), oE _ (by omega), fR 0 (by omega)]; exact s0
    · rw [n3 _ (by omega), oE _ (by omega), fR 1 (by omega)]; exact s1
    · rw [n3 _ (by omega), oE _ (by omega), fR 2 (by omega)]; exact s2
    · rw [n3 _ (by omega), oE _ (by omega), fR 3 (by omega)]; exact s3
    · rw [n3 _ (by omega), oE _ (by omega), oR _ (by omega)]; exact s4
    · rw [n3 _ (by omega), oE _ (by omega), oR _ (by omega)]; exact s5
    · rw [n3 _ (by omega), oE _ (by omega), p4 _ (by omega), r1]; exact atA
    · rw [n3 _ (by omega), oE _ (by omega)]; exact p3
    · intro c hc; rw [n3 _ (by omega), oE _ (by omega)]; exact p1 c hc
    · intro j hj; rw [n3 _ (by omega), oE _ (by omega)]; exact p2 j hj
  · rintro m4 ⟨C4, f4⟩
    obtain ⟨hv, -⟩ := tok_V T (n := n) (b := 0) (Nat.zero_le _)
    have hmu := muT_lt hv hn6
    exact X8_read_loop hR' _ (tok T n 0) rd0 m4 0 0 e.2.2 700 rfl (Nat.zero_le _) (by omega) (by omega) hv rdI0 (Nat.zero_le _) f4 C4
end RDG
