/-! COMPILER of the class: its steps and the whole. -/
theorem nts_spec : ∀ ws : List Int, nts ws ≤ ws.length ∧ (∀ j, j < nts ws → ws[j]? = some (-13)) ∧ (nts ws < ws.length → ws[nts ws]?.getD (-20) ≠ -13)
  | [] => ⟨Nat.le_refl _, fun j h => absurd h (by rw [nts]; omega), fun h => absurd h (by rw [nts]; simp)⟩
  | w :: ws => by
    obtain ⟨h1, h2, h3⟩ := nts_spec ws
    rw [nts]
    by_cases hw : w = -13
    · rw [if_pos hw]
      refine ⟨by rw [List.length_cons]; omega, fun j hj => ?_, fun hj => ?_⟩
      · cases j with
        | zero => rw [hw]; rfl
        | succ j => rw [List.getElem?_cons_succ]; exact h2 j (by omega)
      · rw [List.getElem?_cons_succ]; exact h3 (by rw [List.length_cons] at hj; omega)
    · rw [if_neg hw]
      exact ⟨Nat.zero_le _, fun j hj => by omega, fun _ => hw⟩
theorem okW_mem : ∀ {ws : List Int} {op j : Nat} {c : Int}, okW ws op → ws[j]? = some c → -20 ≤ c ∧ c ≤ -11
  | [], _, _, _, _, h => by simp at h
  | w :: ws, op, 0, c, k, h => by
    simp at h
    rw [okW] at k
    by_cases hw : w = -20
    · omega
    · rw [if_neg hw] at k; omega
  | w :: ws, op, j + 1, c, k, h => by
    rw [List.getElem?_cons_succ] at h
    rw [okW] at k
    by_cases hw : w = -20
    · rw [if_pos hw] at k; exact okW_mem k.2 h
    · rw [if_neg hw] at k; exact okW_mem k.2.1 h
theorem tpW_bd {ws : List Int} {op : Nat} (h : okW ws op) : -20 ≤ tpW ws ∧ tpW ws ≤ -11 := by
  cases ws with
  | nil => decide
  | cons c ws => exact okW_mem (j := 0) h rfl
theorem tkC_bd {m : mm_V} {x n : Nat} {T : Nat → Nat} {t : TK} (ht : txR m x n T) (hv : tkV T n t) : -1 ≤ tkC T t ∧ tkC T t < 300 := by
  unfold tkC
  have : t.1 = 3 → T t.2.1 < 256 := fun h => ht.2.1 _ (by have := hv.2.2.2.2.1 (by omega); have := hv.2.1; omega)
  (repeat' split) <;> omega
theorem strS.keep {e : mm_E} {m m' : mm_V} {x : Nat} (h : strS e m) (hx : ∀ i, i < 17 → e.2.1 (100 + i) < x) (hk : ∀ b, b < x → m' b = m b) : strS e m' := fun i hi => ⟨(h i hi).1, fun k hk' => by rw [hk _ (hx i hi)]; exact (h i hi).2 k hk'⟩
def exO (r d c0 : Nat) (m : mm_V) (o : Nat ⊕ CS) (v : Int32) (m' : mm_V) : Prop := (match o with
  | .inl f => v = zI f ∧ 1 ≤ f ∧ f ≤ 3 ∧ m' (r + 5) 0 = .ref (r + 6) ∧ m' (r + 5) 4 = .ref (r + 1)
  | .inr S' => v = zI 0 ∧ cpR m' r d c0 S') ∧ cpK r d c0 m m'
def exQ (r d c0 : Nat) (m : mm_V) (o : Nat ⊕ CS) (y : Int32 × mm_V) : Prop := exO r d c0 m o y.1 y.2
theorem ev_rq {r d c0 : Nat} {m m' : mm_V} {o : Nat ⊕ CS} {v : Int32} (h : exO r d c0 m o v m') : Ev (some (v, m')) (exQ r d c0 m o) := ev_ret h
section CMPD
variable {e : mm_E} {x d r n c0 B : Nat} {T : Nat → Nat} {t : TK}
theorem X1_pushNot_loop {m : mm_V} {ws : List Int} {op : Nat} (hR : rdT e x d r) (h0 : m (r + 5) 0 = .ref (r + 6)) (h1 : m (r + 5) 1 = .int (zI ws.length)) (hw : wsR m (r + 6) ws) (hok : okW ws op) (hl : ws.length ≤ 83) : ∀ dd j nn : Nat, j + dd = nts ws → dd < nn → X1_pushNot_L2 e (r + 5) nn (zI j) m = X1_pushNot_b33 e (r + 5) (zI (nts ws)) m := by
  have hC := hR.2.2.2.2.2.2.1
  obtain ⟨n1, n2, n3⟩ := nts_spec ws
  have wa : ∀ j, j < ws.length → X1_waitingAt e (r + 5) (zI ws.length - 1 - zI j) m = some (zI (ws[j]?.getD (-20)), m) := fun j hj => by
    rw [show (1 : Int32) = zI 1 from rfl, zI_sub, zI_sub]
    exact X1_waitingAt_eq hR h0 hw hl (j := j) (by omega) (by omega)
  have bd : ∀ j, j < ws.length → -20 ≤ ws[j]?.getD (-20) ∧ ws[j]?.getD (-20) ≤ -11 := fun j hj => by
    rw [List.getElem?_eq_getElem hj]
    exact okW_mem hok (List.getElem?_eq_getElem hj)
  intro dd
  induction dd with
  | zero =>
    intro j nn hj hn
    obtain ⟨nn, rfl⟩ : ∃ n', nn = n' + 1 := ⟨nn - 1, by omega⟩
    obtain rfl : j = nts ws := by omega
    rw [X1_pushNot_L2, rd_gi hC h1, Option.bind_some]
    by_cases hlt : nts ws < ws.length
    · have hb := bd _ hlt
      have h3 := n3 hlt
      rw [ien (by omega), Option.bind_some, wa _ hlt, Option.bind_some]
      simp only [LT, zI_neg]
      rw [inp (by omega)]
    · rw [iep (by omega)]
  | succ dd ih =>
    intro j nn hj hn
    obtain ⟨nn, rfl⟩ : ∃ n', nn = n' + 1 := ⟨nn - 1, by omega⟩
    rw [X1_pushNot_L2, rd_gi hC h1, Option.bind_some, ien (by omega), Option.bind_some, wa _ (by omega), Option.bind_some, n2 j (by omega)]
    simp only [LT, zI_neg, Option.getD_some, not_true_eq_false, if_false]
    rw [show (zI (j : Int) + zI 1 : Int32) = zI ((j + 1 : Nat) : Int) from zI_add _ _]
    exact ih (j + 1) nn (by omega) (by omega)
theorem X9_isTooLong_eq {m : mm_V} (hTk : e.1 (r + 1) = some (9, 6)) (hk : tkR m (r + 1) x n T t) (hv : tkV T n t) (hn : n ≤ 600) : X9_isTooLong e (r + 1) m = some (bZ (decide (4 < t.2.2 - t.2.1)), m) := by
  obtain ⟨-, -, r2, r3, -⟩ := hk
  have := hv.1
  have := hv.2.1
  unfold X9_isTooLong X9_isTooLong_b18
  simp only [LT, zI_neg]
  rw [rd_gi hTk r3, Option.bind_some, rd_gi hTk r2, Option.bind_some, zI_sub]
  by_cases h : 4 < t.2.2 - t.2.1
  · rw [ien (by omega), decide_eq_true h]; rfl
  · rw [iep (by omega), decide_eq_false h]; rfl
theorem X1_valueCode_ev {m : mm_V} (hR : rdT e x d r) (h4 : m (r + 5) 4 = .ref (r + 1)) (W : ∀ i, i < 17 → X9_isWord e (r + 1) (e.2.1 (100 + i)) m = some (bZ (isW T t i), m)) : X1_valueCode e (r + 5) m = some (zI (vcd T t), m) := by
  have hC := hR.2.2.2.2.2.2.1
  have hTk := hR.2.2.2.1
  suffices h : Ev (X1_valueCode e (r + 5) m) (fun y => y = (zI (vcd T t), m)) by
    obtain ⟨y, h1, h2⟩ := h
    rw [h1, h2]
  unfold X1_valueCode X1_valueCode_b93 vcd
  simp only [LT, zI_neg]
  refine ev_gr hC h4 (ev_tg hTk (ev_eq (W 9 (by decide)) (ev_bz (fun a1 => ?_) (fun a1 => ev_ret (by simp [a1])))))
  refine ev_gr hC h4 (ev_tg hTk (ev_eq (W 10 (by decide)) (ev_bz (fun a2 => ?_) (fun a2 => ev_ret (by simp [a1, a2])))))
  refine ev_gr hC h4 (ev_tg hTk (ev_eq (W 11 (by decide)) (ev_bz (fun a3 => ?_) (fun a3 => ev_ret (by simp [a1, a2, a3])))))
  refine ev_gr hC h4 (ev_tg hTk (ev_eq (W 12 (by decide)) (ev_bz (fun a4 => ?_) (fun a4 => ev_ret (by simp [a1, a2, a3, a4])))))
  refine ev_gr hC h4 (ev_tg hTk (ev_eq (W 13 (by decide)) (ev_bz (fun a5 => ?_) (fun a5 => ev_ret (by simp [a1, a2, a3, a4, a5])))))
  exact ev_gr hC h4 (ev_tg hTk (ev_eq (W 14 (by decide)) (ev_bz (fun a6 => ev_ret (by simp [a1, a2, a3, a4, a5, a6])) (fun a6 => ev_ret (by simp [a1, a2, a3, a4, a5, a6])))))
theorem X1_operatorCode_ev {m : mm_V} (hR : rdT e x d r) (h4 : m (r + 5) 4 = .ref (r + 1)) (hk4 : m (r + 1) 4 = .int (zI (tkC T t))) (hb : -1 ≤ tkC T t ∧ tkC T t < 300) (W : ∀ i, i < 17 → X9_isWord e (r + 1) (e.2.1 (100 + i)) m = some (bZ (isW T t i), m)) : X1_operatorCode e (r + 5) m = some (zI (ocd T t), m) := by
  have hC := hR.2.2.2.2.2.2.1
  have hTk := hR.2.2.2.1
  suffices h : Ev (X1_operatorCode e (r + 5) m) (fun y => y = (zI (ocd T t), m)) by
    obtain ⟨y, h1, h2⟩ := h
    rw [h1, h2]
  unfold X1_operatorCode X1_operatorCode_b152 ocd
  simp only [LT, zI_neg]
  refine ev_gr hC h4 (ev_gi hTk hk4 ?_)
  by_cases b1 : tkC T t = 42
  · exact ev_iqp rfl rfl (by omega) (ev_ret (by simp [b1]))
  refine ev_iqn rfl rfl (by omega) ?_
  by_cases b2 : tkC T t = 43
  · exact ev_iqp rfl rfl (by omega) (ev_ret (by simp [b2]))
  refine ev_iqn rfl rfl (by omega) ?_
  by_cases b3 : tkC T t = 45
  · exact ev_iqp rfl rfl (by omega) (ev_ret (by simp [b3]))
  refine ev_iqn rfl rfl (by omega) ?_
  by_cases b4 : tkC T t = 47
  · exact ev_iqp rfl rfl (by omega) (ev_ret (by simp [b4]))
  refine ev_iqn rfl rfl (by omega) ?_
  by_cases b5 : tkC T t = 60
  · exact ev_iqp rfl rfl (by omega) (ev_ret (by simp [b5]))
  refine ev_iqn rfl rfl (by omega) ?_
  by_cases b6 : tkC T t = 61
  · exact ev_iqp rfl rfl (by omega) (ev_ret (by simp [b6]))
  refine ev_iqn rfl rfl (by omega) ?_
  refine ev_gr hC h4 (ev_tg hTk (ev_eq (W 15 (by decide)) (ev_bz (fun a1 => ?_) (fun a1 => ev_ret (by simp [b1, b2, b3, b4, b5, b6, a1])))))
  exact ev_gr hC h4 (ev_tg hTk (ev_eq (W 16 (by decide)) (ev_bz (fun a2 => ev_ret (by simp [b1, b2, b3, b4, b5, b6, a1, a2])) (fun a2 => ev_ret (by simp [b1, b2, b3, b4, b5, b6, a1, a2])))))
theorem cpR.field {m : mm_V} {cs ws : List Int} {op op' : Nat} {mu mu' : Bool} (hR : rdT e x d r) (hP : cpR m r d c0 (cs, ws, op, mu)) {m' : mm_V} (h2 : m' (r + 5) 2 = .int (zI op')) (h3 : m' (r + 5) 3 = .int (bZ mu')) (hn : ∀ j, j ≠ 2 → j ≠ 3 → m' (r + 5) j = m (r + 5) j) (ho : ∀ b, b ≠ r + 5 → m' b = m b) : cpR m' r d c0 (cs, ws, op', mu') := by
  have hdr := hR.2.2.2.2.2.2.2.2.2.1
  obtain ⟨p0, p1, p2, p3, p4, p5, p6, p7, p8, p9⟩ := hP
  dsimp only at p1 p2 p3 p6 p8 p9
  exact ⟨by rw [hn _ (by omega) (by omega)]; exact p0, by rw [hn _ (by omega) (by omega)]; exact p1, h2, h3, by rw [hn _ (by omega) (by omega)]; exact p4, by rw [hn _ (by omega) (by omega)]; exact p5, wsR.keep (ho _ (by omega)) p6, by rw [ho _ (by omega)]; exact p7, by rw [ho _ (by omega)]; exact p8, fun i c hc => by rw [ho _ (by omega)]; exact p9 i c hc⟩
theorem X1_part_b188_ev {m : mm_V} {cs ws : List Int} {op : Nat} {mu : Bool} {c : Int} (hR : rdT e x d r) (hP : cpR m r d c0 (cs, ws, op, mu)) (hb : c0 + cs.length < 600) : Ev (X1_part_b188 e (r + 5) (zI c) m) (exQ r d c0 m (.inr (cs ++ [c], ws, op, false))) := by
  have hC := hR.2.2.2.2.2.2.1
  have hdr := hR.2.2.2.2.2.2.2.2.2.1
  unfold X1_part_b188
  refine ev_gr hC hP.2.2.2.2.2.1 (ev_tg hR.2.1.1 (ev_call (X1_emit_ev (c := c) hR hP hb) ?_))
  rintro m1 ⟨q0, k1, f1⟩
  refine ev_pz hC (Or.inl rfl) (ev_rq ⟨⟨rfl, cpR.field hR q0 (by rw [up_ne _ _ (by omega)]; exact q0.2.2.1) (up_at _ _ _ _) (fun j _ h => by rw [up_ne _ _ (Or.inr h)]) (fun b h => up_row _ _ _ h)⟩, ?_⟩)
  exact ⟨fun b h1 h2 h3 h4 => by rw [up_row _ _ _ h1, f1 b h3 h4], fun j hj => by rw [up_row _ _ _ (by omega)]; exact k1.2.1 j hj, fun j hj => by rw [up_row _ _ _ (by omega)]; exact k1.2.2 j (by omega)⟩
theorem X1_part_ev {m : mm_V} {cs ws : List Int} {op : Nat} (hR : rdT e x d r) (hS : strS e m) (ht : txR m x n T) (hk : tkR m (r + 1) x n T t) (hv : tkV T n t) (hI : exI B t (cs, ws, op, true)) (hc0 : c0 ≤ B) (hP : cpR m r d c0 (cs, ws, op, true)) : Ev (X1_part e (r + 5) m) (exQ r d c0 m (exP T t cs ws op)) := by
  have hC := hR.2.2.2.2.2.2.1
  have hTk := hR.2.2.2.1
  have hdr := hR.2.2.2.2.2.2.2.2.2.1
  have hn := ht.1
  have h83 : ws.length ≤ 83 := hI.len
  have hok : okW ws op := hI.1
  obtain ⟨p0, p1, p2, p3, p4, p5, p6, p7, p8, p9⟩ := id hP
  dsimp only at p1 p2 p3 p6 p8 p9
  have hb := tkC_bd ht hv
  have W : ∀ i, i < 17 → X9_isWord e (r + 1) (e.2.1 (100 + i)) m = some (bZ (isW T t i), m) := fun i hi => X9_isWord_eq i hTk hR.1 ht hk hv hS hi hR.2.2.2.2.2.2.2.2.2.2.2
  have hk4 := hk.2.2.2.2.1
  have h4 := p4
  have i4 := hI.2.2.2
  simp only at i4
  have v1 := hv.2.1
  have fin : ∀ f : Nat, 1 ≤ f ∧ f ≤ 3 → exQ r d c0 m (.inl f) (zI f, m) := fun f hf => ⟨⟨rfl, hf.1, hf.2, p0, p4⟩, cpK.refl _ _ _ _⟩
  have main : tkC T t = 48 ∨ tkC T t = 97 ∨ tkC T t = 40 → Ev (X1_part_b38 e (r + 5) m) (exQ r d c0 m (exP T t cs ws op)) := by
    intro h3
    have hs : c0 + cs.length < 600 := by
      have : t.1 ≠ 0 := fun h => by rw [tkC_0 h] at h3; omega
      have := hv.2.2.2.2.1 this
      omega
    unfold X1_part_b38 exP
    simp only [LT, zI_neg]
    rw [if_neg (by omega)]
    refine ev_gi hC p2 ?_
    by_cases h6 : 6 ≤ op
    · rw [if_pos h6]
      exact ev_iln rfl rfl (by have := hI.2.1; simp only at this ⊢; omega) (ev_ret (fin 2 (by omega)))
    rw [if_neg h6]
    refine ev_ilp rfl rfl (by first | omega | (simp only; omega)) (ev_gr hC h4 (ev_gi hTk hk4 ?_))
    by_cases h40 : tkC T t = 40
    · rw [if_pos h40]
      refine ev_inn rfl rfl (by omega) (ev_call (X1_push_ev (c := -20) hR h83 hP) ?_)
      rintro m1 ⟨q0, f1⟩
      refine ev_gi hC q0.2.2.1 (ev_pf hC (ev_rq ⟨⟨rfl, cpR.field hR q0 ?_ ?_ (fun j h _ => by rw [up_ne _ _ (Or.inr h)]) (fun b h => up_row _ _ _ h)⟩, ?_⟩))
      · rw [up_at, zI_add]; rfl
      · rw [up_ne _ _ (by omega)]; exact q0.2.2.2.1
      · exact ⟨fun b h1 h2 h3 h4 => by rw [up_row _ _ _ h1, f1 b h1 h2], fun j hj => by rw [up_row _ _ _ (by omega), f1 _ (by omega) (by omega)], fun j hj => by rw [up_row _ _ _ (by omega), f1 _ (by omega) (by omega)]⟩
    rw [if_neg h40]
    have b117 : ¬ (isW T t 8 = true ∧ lv (tpW ws) ≤ 3) → Ev (X1_part_b117 e (r + 5) m) (exQ r d c0 m (if tkC T t = 48 then (if 4 < t.2.2 - t.2.1 then .inl 2 else .inr (cs ++ [dv T t.2.1 (t.2.2 - t.2.1)], ws, op, false)) else if vcd T t = -21 then .inl 3 else .inr (cs ++ [vcd T t], ws, op, false))) := by
      intro _
      have hvb := vcd_bd T t
      unfold X1_part_b117 X1_part_b143 X1_part_b168
      simp only [LT, zI_neg]
      refine ev_gr hC h4 (ev_gi hTk hk4 ?_)
      by_cases h48 : tkC T t = 48
      · rw [if_pos h48]
        refine ev_inn rfl rfl (by omega) (ev_gr hC h4 (ev_gi hTk (hk.2.2.2.2.2.1 ((tkC_2 hv).mp h48)) (ev_gr hC h4 (ev_gi hTk hk4 (ev_inn rfl rfl (by omega) (ev_gr hC h4 (ev_tg hTk (ev_eq (X9_isTooLong_eq hTk hk hv hn) (ev_bz (fun a1 => ?_) (fun a1 => ?_))))))))))
        · rw [if_neg (of_decide_eq_false a1)]
          exact ev_gr hC h4 (ev_gi hTk hk4 (ev_inp rfl rfl (by omega) (X1_part_b188_ev hR hP hs)))
        · rw [if_pos (of_decide_eq_true a1)]
          exact ev_ret (fin 2 (by omega))
      · rw [if_neg h48]
        refine ev_inp rfl rfl (by omega) (ev_eq (X1_valueCode_ev (t := t) hR h4 W) (ev_gr hC h4 (ev_gi hTk hk4 (ev_inp rfl rfl (by omega) (ev_gr hC h4 (ev_gi hTk hk4 (ev_inn rfl rfl (by omega) ?_)))))))
        by_cases h21 : vcd T t = -21
        · rw [if_pos h21]
          exact ev_inn rfl rfl (by omega) (ev_ret (fin 3 (by omega)))
        · rw [if_neg h21]
          exact ev_inp rfl rfl (by omega) (X1_part_b188_ev hR hP hs)
    refine ev_inp rfl rfl (by omega) (ev_gr hC h4 (ev_tg hTk (ev_eq (W 8 (by decide)) (ev_bz (fun a1 => ?_) (fun a1 => ?_)))))
    · rw [if_neg (by rw [a1]; simp)]
      exact b117 (by rw [a1]; simp)
    · have htb := tpW_bd hok
      have hlv := lv_le (tpW ws)
      refine ev_gi hC p1 ?_
      simp only
      rw [zI_sub]
      refine ev_eq (X1_top_eq hR p0 p6 (by first | omega | (simp only; omega)) (by omega)) (ev_eq (X1_level_eq (by first | omega | (simp only; omega))) (ev_eq (X1_level_eq (by omega)) ?_))
      simp only [show lv (-13) = 3 from by decide]
      by_cases h3' : lv (tpW ws) ≤ 3
      · rw [if_pos (show isW T t 8 = true ∧ lv (tpW ws) ≤ 3 from ⟨a1, h3'⟩)]
        refine ev_iln rfl rfl (by omega) (ev_call (Q := exQ r d c0 m (if 6 ≤ nts ws then .inl 2 else .inr (cs, -13 :: ws, op, true))) ?_ (fun y hy => ev_ret hy))
        unfold X1_pushNot
        refine ev_is (X1_pushNot_loop hR p0 p1 p6 hok h83 (nts ws) 0 _ (by omega) (by have := (nts_spec ws).1; have := hR.2.2.2.2.2.2.2.2.2.2.2; omega)) ?_
        unfold X1_pushNot_b33
        simp only [LT, zI_neg]
        have hnl := (nts_spec ws).1
        by_cases h6n : 6 ≤ nts ws
        · rw [if_pos h6n]
          exact ev_iln rfl rfl (by omega) (ev_ret (fin 2 (by omega)))
        · rw [if_neg h6n]
          refine ev_ilp rfl rfl (by omega) (ev_call (X1_push_ev (c := -13) hR h83 hP) ?_)
          rintro m1 ⟨q0, f1⟩
          exact ev_rq ⟨⟨rfl, q0⟩, fun b h1 h2 h3 h4 => f1 b h1 h2, fun j hj => by rw [f1 _ (by omega) (by omega)], fun j hj => by rw [f1 _ (by omega) (by omega)]⟩
      · rw [if_neg (show ¬ (isW T t 8 = true ∧ lv (tpW ws) ≤ 3) from fun h => h3' h.2)]
        exact ev_ilp rfl rfl (by omega) (b117 (fun h => h3' h.2))
  unfold X1_part
  simp only [LT, zI_neg]
  refine ev_gr hC h4 (ev_gi hTk hk4 ?_)
  by_cases h48 : tkC T t = 48
  · exact ev_iqp rfl rfl (by omega) (main (by omega))
  refine ev_iqn rfl rfl (by omega) (ev_gr hC h4 (ev_gi hTk hk4 ?_))
  by_cases h97 : tkC T t = 97
  · exact ev_iqp rfl rfl (by omega) (main (by omega))
  refine ev_iqn rfl rfl (by omega) (ev_gr hC h4 (ev_gi hTk hk4 ?_))
  by_cases h40 : tkC T t = 40
  · exact ev_iqp rfl rfl (by omega) (main (by omega))
  refine ev_iqn rfl rfl (by omega) (ev_ret ?_)
  unfold exP
  rw [if_pos ⟨h48, h97, h40⟩]
  exact fin 1 (by omega)
theorem X1_behindPart_ev {m : mm_V} {cs ws : List Int} {op : Nat} (hR : rdT e x d r) (hS : strS e m) (ht : txR m x n T) (hk : tkR m (r + 1) x n T t) (hv : tkV T n t) (hI : exI B t (cs, ws, op, false)) (hc0 : c0 ≤ B) (hP : cpR m r d c0 (cs, ws, op, false)) : Ev (X1_behindPart e (r + 5) m) (exQ r d c0 m (exB T t cs ws op)) := by
  have hC := hR.2.2.2.2.2.2.1
  have hTk := hR.2.2.2.1
  have hdr := hR.2.2.2.2.2.2.2.2.2.1
  have hn := ht.1
  have h83 : ws.length ≤ 83 := hI.len
  have hok : okW ws op := hI.1
  obtain ⟨p0, p1, p2, p3, p4, p5, p6, p7, p8, p9⟩ := id hP
  dsimp only at p1 p2 p3 p6 p8 p9
  have hb := tkC_bd ht hv
  have W : ∀ i, i < 17 → X9_isWord e (r + 1) (e.2.1 (100 + i)) m = some (bZ (isW T t i), m) := fun i hi => X9_isWord_eq i hTk hR.1 ht hk hv hS hi hR.2.2.2.2.2.2.2.2.2.2.2
  have hk4 := hk.2.2.2.2.1
  have h4 := p4
  have i4 := hI.2.2.2
  have i2 := hI.2.1
  simp only at i4 i2
  have v0 := hv.1
  have v1 := hv.2.1
  have kf : ∀ {K : Nat} {m' : mm_V}, c0 ≤ K → cpK r d K m m' → cpK r d c0 m m' := fun hK h => ⟨h.1, h.2.1, fun j hj => h.2.2 j (by omega)⟩
  have b46 : ¬ (tkC T t = 41 ∧ 0 < op) → Ev (X1_behindPart_b46 e (r + 5) m) (exQ r d c0 m (exB T t cs ws op)) := by
    intro h41
    unfold X1_behindPart_b46 exB
    simp only [LT, zI_neg]
    rw [if_neg h41]
    have hob := ocd_bd T t
    refine ev_eq (X1_operatorCode_ev (t := t) hR h4 hk4 hb W) ?_
    by_cases h21 : ocd T t = -21
    · rw [if_pos h21]
      exact ev_inn rfl rfl (by omega) (ev_rq ⟨⟨rfl, by omega, by omega, p0, p4⟩, cpK.refl _ _ _ _⟩)
    rw [if_neg h21]
    generalize ocd T t = c at h21 hob
    have hob : (-19 ≤ c ∧ c ≤ -11) ∧ c ≠ -13 := by omega
    have hlp := lv_pos hob.1
    have hll := lv_le c
    have b80 : Ev (X1_behindPart_b80 e (r + 5) (zI c) (r + 5) (zI (exL c)) m) (exQ r d c0 m (if tsc c = true ∧ tsc (tpW (stl (exL c) cs ws).2) = true then .inl 1 else .inr ((stl (exL c) cs ws).1, c :: (stl (exL c) cs ws).2, op, true))) := by
      have hex : 1 ≤ exL c ∧ exL c ≤ 10 := by unfold exL; split <;> omega
      unfold X1_behindPart_b80 X1_behindPart_b108
      simp only [LT, zI_neg]
      obtain ⟨j1, j2, j3, j4, j5, j6⟩ := stl_spec hex.1 (cs := cs) hok
      refine ev_tg hC (ev_call (X1_settle_ev hex hR hok h83 (by omega) hP) ?_)
      generalize stl (exL c) cs ws = X at j1 j2 j3 j4 j5 j6
      rintro m1 ⟨q0, k1⟩
      have k1 := kf (by omega) k1
      have push : Ev ((X1_push e (r + 5) (zI c) m1).bind fun r1 => (mm_pz e.1 r1 1 6 (r + 5) 3 (zI 1)).bind fun m2 => some (zI 0, m2)) (exQ r d c0 m (.inr (X.1, c :: X.2, op, true))) := by
        refine ev_call (X1_push_ev (c := c) hR (by omega) q0) ?_
        rintro m2 ⟨q2, f2⟩
        refine ev_pz hC (Or.inr rfl) (ev_rq ⟨⟨rfl, cpR.field hR q2 (by rw [up_ne _ _ (by omega)]; exact q2.2.2.1) (up_at _ _ _ _) (fun j _ h => by rw [up_ne _ _ (Or.inr h)]) (fun b h => up_row _ _ _ h)⟩, ?_⟩)
        exact ⟨fun b h1 h2 h3 h4 => by rw [up_row _ _ _ h1, f2 b h1 h2]; exact k1.1 b h1 h2 h3 h4, fun j hj => by rw [up_row _ _ _ (by omega), f2 _ (by omega) (by omega)]; exact k1.2.1 j hj, fun j hj => by rw [up_row _ _ _ (by omega), f2 _ (by omega) (by omega)]; exact k1.2.2 j hj⟩
      refine ev_eq (X1_isTest_eq (by omega)) (ev_bz (fun a1 => ?_) (fun a1 => ?_))
      · rw [if_neg (by rw [a1]; simp)]; exact push
      · have htb := tpW_bd j1
        refine ev_gi hC q0.2.1 ?_
        simp only
        rw [zI_sub]
        refine ev_eq (X1_top_eq (ws := X.2) hR q0.1 q0.2.2.2.2.2.2.1 (by first | omega | (simp only; omega)) (by omega)) (ev_eq (X1_isTest_eq (by first | omega | (simp only; omega))) (ev_bz (fun a2 => ?_) (fun a2 => ?_)))
        · rw [if_neg (by rw [a2]; simp)]; exact push
        · rw [if_pos ⟨a1, a2⟩]; exact ev_rq ⟨⟨rfl, by omega, by omega, q0.1, q0.2.2.2.2.1⟩, k1⟩
    refine ev_inp rfl rfl (by omega) (ev_eq (X1_isTest_eq (by omega)) (ev_bz (fun a1 => ?_) (fun a1 => ?_)))
    · refine ev_eq (X1_level_eq (by omega)) ?_
      have : exL c = lv c := by unfold exL; rw [a1]; rfl
      rw [this] at b80
      rw [this]
      exact b80
    · refine ev_eq (X1_level_eq (by omega)) ?_
      have : exL c = lv c + 1 := by unfold exL; rw [a1]; rfl
      rw [this] at b80
      rw [this]
      simp only
      rw [zI_add]
      exact b80
  unfold X1_behindPart
  simp only [LT, zI_neg]
  refine ev_gr hC h4 (ev_gi hTk hk4 ?_)
  by_cases h41 : tkC T t = 41
  · refine ev_inn rfl rfl (by omega) (ev_gi hC p2 ?_)
    by_cases hop : 0 < op
    · refine ev_ien rfl rfl (by first | omega | (simp only; omega)) (ev_call (X1_settle_ev (l := 1) (by omega) hR hok h83 (by first | omega | (simp only; omega)) hP) ?_)
      rintro m1 ⟨q0, k1⟩
      have k1 := kf (by omega) k1
      obtain ⟨ws', w1, w2⟩ := stl_open (cs := cs) hok hop
      unfold exB
      rw [if_pos ⟨h41, hop⟩]
      simp only [w1] at q0
      rw [w1, List.tail_cons]
      refine ev_gi hC q0.2.1 (ev_pf hC (ev_gi hC (v := zI op) (by rw [up_ne _ _ (by omega)]; exact q0.2.2.1) (ev_pf hC (ev_rq ?_))))
      simp only [List.length_cons]
      rw [zI_sub, zI_sub, show (((ws'.length + 1 : Nat) : Int) - 1) = (ws'.length : Int) by omega, show ((op : Int) - 1) = ((op - 1 : Nat) : Int) by omega]
      obtain ⟨p0, p1, p2, p3, p4, p5, p6, p7, p8, p9⟩ := q0
      dsimp only at p1 p2 p3 p6 p8 p9
      generalize hm2 : mm_up (mm_up m1 (r + 5) 1 (.int (zI (ws'.length : Int)))) (r + 5) 2 (.int (zI ((op - 1 : Nat) : Int))) = m2
      have o2 : ∀ b, b ≠ r + 5 → m2 b = m1 b := fun b h => by rw [← hm2, up_row _ _ _ h, up_row _ _ _ h]
      have n2 : ∀ j, j ≠ 1 → j ≠ 2 → m2 (r + 5) j = m1 (r + 5) j := fun j x1 x2 => by rw [← hm2, up_ne _ _ (Or.inr x2), up_ne _ _ (Or.inr x1)]
      refine ⟨⟨rfl, by rw [n2 _ (by omega) (by omega)]; exact p0, by rw [← hm2, up_ne _ _ (by omega), up_at], by rw [← hm2, up_at], by rw [n2 _ (by omega) (by omega)]; exact p3, by rw [n2 _ (by omega) (by omega)]; exact p4, by rw [n2 _ (by omega) (by omega)]; exact p5, wsR.keep (o2 _ (by omega)) p6.2, by rw [o2 _ (by omega)]; exact p7, by rw [o2 _ (by omega)]; exact p8, fun i c hc => by rw [o2 _ (by omega)]; exact p9 i c hc⟩, fun b h1 h2 h3 h4 => by rw [o2 b h1]; exact k1.1 b h1 h2 h3 h4, fun j hj => by rw [o2 _ (by omega)]; exact k1.2.1 j hj, fun j hj => by rw [o2 _ (by omega)]; exact k1.2.2 j hj⟩
    · exact ev_iep rfl rfl (by first | omega | (simp only; omega)) (b46 (fun h => hop h.2))
  · exact ev_inp rfl rfl (by omega) (b46 (fun h => h41 h.1))
end CMPD
