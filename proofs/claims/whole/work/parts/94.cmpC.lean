/-! COMPILER of the class. -/
def wsR (m : mm_V) (a : Nat) : List Int → Prop
  | [] => True
  | c :: ws => m a ws.length = .int (zI c) ∧ wsR m a ws
theorem wsR.up {m : mm_V} {a k : Nat} {v : Value} : ∀ {s : List Int}, wsR m a s → s.length ≤ k → wsR (mm_up m a k v) a s
  | [], _, _ => trivial
  | x :: s, h, hk => ⟨by rw [up_ne _ _ (Or.inr (by simp at hk; omega))]; exact h.1, wsR.up h.2 (by simp at hk; omega)⟩
theorem wsR.keep {m m' : mm_V} {a : Nat} (h : m' a = m a) : ∀ {s : List Int}, wsR m a s → wsR m' a s
  | [], _ => trivial
  | x :: s, k => ⟨by rw [h]; exact k.1, wsR.keep h k.2⟩
theorem wsR.get {m : mm_V} {a : Nat} : ∀ {s : List Int} {j : Nat} {c : Int}, wsR m a s → s[j]? = some c → m a (s.length - 1 - j) = .int (zI c)
  | [], j, c, _, h => by simp at h
  | x :: s, 0, c, k, h => by
    simp at h
    rw [← h]
    exact k.1
  | x :: s, j + 1, c, k, h => by
    rw [List.getElem?_cons_succ] at h
    have := wsR.get k.2 h
    rw [List.length_cons, show s.length + 1 - 1 - (j + 1) = s.length - 1 - j by omega]
    exact this
def rdT (e : mm_E) (x d r : Nat) : Prop := e.1 x = some (20, 600) ∧ toldT e.1 d ∧ e.1 r = some (8, 7) ∧ e.1 (r + 1) = some (9, 6) ∧ e.1 (r + 3) = some (20, 10) ∧ e.1 (r + 4) = some (22, 42) ∧ e.1 (r + 5) = some (1, 6) ∧ e.1 (r + 6) = some (20, 128) ∧ x < d ∧ d + 19 ≤ r ∧ (∀ i, i < 17 → e.2.1 (100 + i) < x) ∧ 1000 < e.2.2
def cpR (m : mm_V) (r d c0 : Nat) (S : CS) : Prop := m (r + 5) 0 = .ref (r + 6) ∧ m (r + 5) 1 = .int (zI S.2.1.length) ∧ m (r + 5) 2 = .int (zI S.2.2.1) ∧ m (r + 5) 3 = .int (bZ S.2.2.2) ∧ m (r + 5) 4 = .ref (r + 1) ∧ m (r + 5) 5 = .ref d ∧ wsR m (r + 6) S.2.1 ∧ m d 2 = .ref (d + 3) ∧ m d 9 = .int (zI (c0 + S.1.length : Nat)) ∧ ∀ (i : Nat) (c : Int), S.1[i]? = some c → m (d + 3) (c0 + i) = .int (zI c)
def cpK (r d K : Nat) (m m' : mm_V) : Prop := (∀ b, b ≠ r + 5 → b ≠ r + 6 → b ≠ d → b ≠ d + 3 → m' b = m b) ∧ (∀ j, j ≠ 9 → m' d j = m d j) ∧ ∀ j, j < K → m' (d + 3) j = m (d + 3) j
theorem cpK.refl (r d K : Nat) (m : mm_V) : cpK r d K m m := ⟨fun _ _ _ _ _ => rfl, fun _ _ => rfl, fun _ _ => rfl⟩
theorem cpK.trans {r d K : Nat} {m m1 m2 : mm_V} (h : cpK r d K m m1) (k : cpK r d K m1 m2) : cpK r d K m m2 := ⟨fun b h1 h2 h3 h4 => by rw [k.1 b h1 h2 h3 h4, h.1 b h1 h2 h3 h4], fun j hj => by rw [k.2.1 j hj, h.2.1 j hj], fun j hj => by rw [k.2.2 j hj, h.2.2 j hj]⟩
section CMPC
variable {e : mm_E} {x d r n c0 : Nat} {T : Nat → Nat}
theorem X1_level_eq {m : mm_V} {c : Int} (h : -100 ≤ c ∧ c ≤ 9999) : X1_level e (zI c) m = some (zI (lv c), m) := by
  unfold X1_level lv
  simp only [LT, zI_neg]
  have hz : ∀ y : Int, -21 ≤ y ∧ y ≤ 0 → (zI c = zI y) = (c = y) := fun y hy => zI_eq (by omega) (by omega) (by omega) (by omega)
  simp only [hz (-19) (by omega), hz (-18) (by omega), hz (-17) (by omega), hz (-16) (by omega), hz (-15) (by omega), hz (-14) (by omega), hz (-13) (by omega), hz (-12) (by omega), hz (-11) (by omega)]
  by_cases h1 : c = -19
  · subst h1; rfl
  by_cases h2 : c = -18
  · subst h2; rfl
  by_cases h3 : c = -17
  · subst h3; rfl
  by_cases h4 : c = -16
  · subst h4; rfl
  by_cases h5 : c = -15
  · subst h5; rfl
  by_cases h6 : c = -14
  · subst h6; rfl
  by_cases h7 : c = -13
  · subst h7; rfl
  by_cases h8 : c = -12
  · subst h8; rfl
  by_cases h9 : c = -11
  · subst h9; rfl
  simp only [h1, h2, h3, h4, h5, h6, h7, h8, h9, or_self, if_false]; rfl
theorem X1_isTest_eq {m : mm_V} {c : Int} (h : -100 ≤ c ∧ c ≤ 9999) : X1_isTest e (zI c) m = some (bZ (tsc c), m) := by
  unfold X1_isTest tsc
  simp only [LT, zI_neg]
  by_cases h1 : c = -14
  · rw [iqp (by omega), decide_eq_true (Or.inl h1)]; rfl
  rw [iqn (by omega)]
  by_cases h2 : c = -15
  · rw [inn (by omega), decide_eq_true (Or.inr h2)]; rfl
  · rw [inp (by omega), decide_eq_false (by omega)]; rfl
theorem X1_waitingAt_eq {m : mm_V} {ws : List Int} {z : Int} {j : Nat} (hR : rdT e x d r) (h0 : m (r + 5) 0 = .ref (r + 6)) (hw : wsR m (r + 6) ws) (hl : ws.length ≤ 83) (hj : j ≤ ws.length) (hz : z + 1 + j = ws.length) : X1_waitingAt e (r + 5) (zI z) m = some (zI (ws[j]?.getD (-20)), m) := by
  obtain ⟨-, -, -, -, -, -, hC, hW, -⟩ := hR
  unfold X1_waitingAt X1_waitingAt_b22 X1_waitingAt_b24
  simp only [LT, zI_neg]
  by_cases hj : j = ws.length
  · rw [ilp (by omega), hj, List.getElem?_eq_none (Nat.le_refl _)]; rfl
  · have hlt : j < ws.length := by omega
    obtain ⟨c, hc⟩ : ∃ c, ws[j]? = some c := ⟨ws[j], List.getElem?_eq_getElem hlt⟩
    have hg := hw.get hc
    rw [iln (by omega), rd_gr hC h0, Option.bind_some, rd_ln hW (by omega) (by omega), Option.bind_some, ien (by omega), Option.bind_some, rd_ai hW (i := ws.length - 1 - j) (by omega) (by omega) (by omega) hg, Option.bind_some, hc]; rfl
theorem X1_top_eq {m : mm_V} {ws : List Int} {z : Int} (hR : rdT e x d r) (h0 : m (r + 5) 0 = .ref (r + 6)) (hw : wsR m (r + 6) ws) (hl : ws.length ≤ 83) (hz : z + 1 = ws.length) : X1_waitingAt e (r + 5) (zI z) m = some (zI (tpW ws), m) := by
  rw [X1_waitingAt_eq hR h0 hw hl (j := 0) (by omega) (by omega)]
  cases ws <;> rfl
theorem X10_emit_eq {m : mm_V} {k : Nat} {v : Int32} (hD : toldT e.1 d) (h2 : m d 2 = .ref (d + 3)) (h9 : m d 9 = .int (zI k)) (hk : k < 600) : X10_emit e d v m = some (mm_up (mm_up m (d + 3) k (.int v)) d 9 (.int (zI (k + 1 : Nat)))) := by
  obtain ⟨t0, -, -, t3, -⟩ := hD
  unfold X10_emit X10_emit_b39
  simp only [LT, zI_neg]
  rw [rd_gi t0 h9, Option.bind_some, iln (by omega), Option.bind_some, rd_gr t0 h2, Option.bind_some, rd_ln t3 (by omega) (by omega), Option.bind_some, ien (by omega), Option.bind_some, Option.bind_some, wr_si t3 (i := k) rfl (by omega) (by omega), Option.bind_some, rd_gi t0 (v := zI k) (by rw [up_ne _ _ (by omega)]; exact h9), Option.bind_some, zI_add, wr_pf t0, Option.bind_some]; rfl
/-- codes written behind -/
theorem cs_snoc {m m' : mm_V} {a c0 : Nat} {cs : List Int} {c : Int} (h : ∀ (i : Nat) (y : Int), cs[i]? = some y → m a (c0 + i) = .int (zI y)) (h1 : ∀ j, j < c0 + cs.length → m' a j = m a j) (h2 : m' a (c0 + cs.length) = .int (zI c)) : ∀ (i : Nat) (y : Int), (cs ++ [c])[i]? = some y → m' a (c0 + i) = .int (zI y) := by
  intro i y hy
  by_cases hi : i < cs.length
  · rw [List.getElem?_append_left hi] at hy
    rw [h1 _ (by omega)]; exact h i y hy
  · have hlt := (List.getElem?_eq_some_iff.mp hy).1
    rw [List.length_append, List.length_cons, List.length_nil] at hlt
    have : i = cs.length := by omega
    subst this
    rw [List.getElem?_append_right (Nat.le_refl _), Nat.sub_self] at hy
    cases hy
    exact h2
theorem X1_emit_ev {m : mm_V} {cs ws : List Int} {op : Nat} {mu : Bool} {c : Int} (hR : rdT e x d r) (hP : cpR m r d c0 (cs, ws, op, mu)) (hb : c0 + cs.length < 600) : Ev (X10_emit e d (zI c) m) (fun m' => cpR m' r d c0 (cs ++ [c], ws, op, mu) ∧ cpK r d (c0 + cs.length) m m' ∧ ∀ b, b ≠ d → b ≠ d + 3 → m' b = m b) := by
  obtain ⟨-, hD, -, -, -, -, -, -, -, hdr, -⟩ := hR
  obtain ⟨p0, p1, p2, p3, p4, p5, p6, p7, p8, p9⟩ := hP
  dsimp only at p1 p2 p3 p6 p8 p9
  have ho : ∀ (v w : Value) b, b ≠ d → b ≠ d + 3 → (mm_up (mm_up m (d + 3) (c0 + cs.length) v) d 9 w) b = m b := fun v w b h1 h2 => by rw [up_row _ _ _ h1, up_row _ _ _ h2]
  refine ⟨_, X10_emit_eq hD p7 p8 hb, ⟨by rw [ho _ _ _ (by omega) (by omega)]; exact p0, by rw [ho _ _ _ (by omega) (by omega)]; exact p1, by rw [ho _ _ _ (by omega) (by omega)]; exact p2, by rw [ho _ _ _ (by omega) (by omega)]; exact p3, by rw [ho _ _ _ (by omega) (by omega)]; exact p4, by rw [ho _ _ _ (by omega) (by omega)]; exact p5, wsR.keep (ho _ _ _ (by omega) (by omega)) p6, ?_, ?_, ?_⟩, ⟨fun b _ _ h3 h4 => ho _ _ b h3 h4, fun j hj => by rw [up_ne _ _ (Or.inr hj), up_row _ _ _ (by omega)], fun j hj => by rw [up_row _ _ _ (by omega), up_ne _ _ (by omega)]⟩, fun b h1 h2 => ho _ _ b h1 h2⟩
  · rw [up_ne _ _ (by omega), up_row _ _ _ (by omega)]; exact p7
  · rw [up_at]; simp only [List.length_append, List.length_cons, List.length_nil]; rfl
  · refine cs_snoc p9 (fun j hj => ?_) ?_
    · rw [up_row _ _ _ (by omega), up_ne _ _ (by omega)]
    · rw [up_row _ _ _ (by omega), up_at]
theorem X1_settle_loop {l op : Nat} {mu : Bool} (hl : 1 ≤ l ∧ l ≤ 10) (hR : rdT e x d r) : ∀ (ws cs : List Int) (nn : Nat) (m : mm_V), okW ws op → ws.length ≤ 83 → ws.length < nn → c0 + cs.length + ws.length ≤ 600 → cpR m r d c0 (cs, ws, op, mu) → Ev (X1_settle_L7 e (r + 5) (zI l) nn (zI ((ws.length : Int) - 1)) m) (fun m' => cpR m' r d c0 ((stl l cs ws).1, (stl l cs ws).2, op, mu) ∧ cpK r d (c0 + cs.length) m m') := by
  intro ws
  induction ws with
  | nil =>
    intro cs nn m hok h83 hn hb hP
    obtain ⟨nn, rfl⟩ : ∃ n', nn = n' + 1 := ⟨nn - 1, by omega⟩
    rw [X1_settle_L7]
    simp only [LT, zI_neg]
    refine ev_ilp rfl rfl (by simp) (ev_ret ?_)
    rw [stl]
    exact ⟨hP, cpK.refl _ _ _ _⟩
  | cons w ws ih =>
    intro cs nn m hok h83 hn hb hP
    obtain ⟨nn, rfl⟩ : ∃ n', nn = n' + 1 := ⟨nn - 1, by omega⟩
    have hP' := hP
    obtain ⟨p0, p1, p2, p3, p4, p5, p6, p7, p8, p9⟩ := hP
    dsimp only at p1 p2 p3 p6 p8 p9
    simp only [List.length_cons] at h83 hn hb
    have hD := hR.2.1
    have hC := hR.2.2.2.2.2.2.1
    have hwb : -20 ≤ w ∧ w ≤ -11 := by
      rw [okW] at hok
      by_cases h : w = -20
      · omega
      · rw [if_neg h] at hok; omega
    have hlv := lv_le w
    have htop := X1_top_eq (z := (w :: ws).length - 1) hR p0 p6 (by simp only [List.length_cons]; omega) (by omega)
    rw [X1_settle_L7]
    simp only [LT, zI_neg]
    rw [stl]
    refine ev_iln rfl rfl (by simp only [List.length_cons]; omega) (ev_eq htop (ev_eq (X1_level_eq (c := w) (by omega)) ?_))
    by_cases h1 : l ≤ lv w
    · rw [if_pos h1]
      refine ev_iln rfl rfl (by omega) (ev_gr hC p5 (ev_eq htop (ev_tg hD.1 (ev_call (X1_emit_ev (c := w) hR hP' (by omega)) ?_))))
      intro m1 hm1
      obtain ⟨q0, k1, f1⟩ := hm1
      obtain ⟨q0, q1, q2, q3, q4, q5, q6, q7, q8, q9⟩ := q0
      have hw : ¬ w = -20 := fun h => by subst h; have : lv (-20) = 0 := (by decide); omega
      rw [okW, if_neg hw] at hok
      refine ev_gi hC q1 (ev_pf hC ?_)
      rw [zI_sub, show (((w :: ws).length : Int) - 1) = (ws.length : Int) by rw [List.length_cons]; omega]
      have hdr := hR.2.2.2.2.2.2.2.2.2.1
      generalize hm2 : mm_up m1 (r + 5) 1 (.int (zI (ws.length : Int))) = m2
      have r2 : ∀ b, b ≠ r + 5 → m2 b = m1 b := fun b h => by rw [← hm2, up_row _ _ _ h]
      have n2 : ∀ j, j ≠ 1 → m2 (r + 5) j = m1 (r + 5) j := fun j h => by rw [← hm2, up_ne _ _ (Or.inr h)]
      have P2 : cpR m2 r d c0 (cs ++ [w], ws, op, mu) := ⟨by rw [n2 _ (by omega)]; exact q0, by rw [← hm2, up_at], by rw [n2 _ (by omega)]; exact q2, by rw [n2 _ (by omega)]; exact q3, by rw [n2 _ (by omega)]; exact q4, by rw [n2 _ (by omega)]; exact q5, wsR.keep (r2 _ (by omega)) q6.2, by rw [r2 _ (by omega)]; exact q7, by rw [r2 _ (by omega)]; exact q8, fun i c hc => by rw [r2 _ (by omega)]; exact q9 i c hc⟩
      rw [zI_add, show ((ws.length : Int) + -1) = (ws.length : Int) - 1 by omega]
      refine ev_mono (ih (cs ++ [w]) nn m2 hok.2.1 (by omega) (by omega) (by rw [List.length_append, List.length_cons, List.length_nil]; omega) P2) ?_
      rintro m3 ⟨z1, z2⟩
      refine ⟨z1, k1.trans (cpK.trans (m1 := m2) ⟨fun b h _ _ _ => r2 b h, fun j hj => by rw [r2 _ (by omega)], fun j hj => by rw [r2 _ (by omega)]⟩ ⟨z2.1, z2.2.1, fun j hj => z2.2.2 j (by rw [List.length_append]; omega)⟩)⟩
    · rw [if_neg h1]
      exact ev_ilp rfl rfl (by omega) (ev_ret ⟨hP', cpK.refl _ _ _ _⟩)
theorem X1_settle_ev {m : mm_V} {cs ws : List Int} {l op : Nat} {mu : Bool} (hl : 1 ≤ l ∧ l ≤ 10) (hR : rdT e x d r) (hok : okW ws op) (h83 : ws.length ≤ 83) (hb : c0 + cs.length + ws.length ≤ 600) (hP : cpR m r d c0 (cs, ws, op, mu)) : Ev (X1_settle e (r + 5) (zI l) m) (fun m' => cpR m' r d c0 ((stl l cs ws).1, (stl l cs ws).2, op, mu) ∧ cpK r d (c0 + cs.length) m m') := by
  have hN := hR.2.2.2.2.2.2.2.2.2.2.2
  refine ev_gi hR.2.2.2.2.2.2.1 hP.2.1 ?_
  rw [show (1 : Int32) = zI 1 from rfl, zI_sub]
  exact X1_settle_loop hl hR ws cs _ m hok h83 (by omega) hb hP
theorem X1_push_ev {m : mm_V} {cs ws : List Int} {op : Nat} {mu : Bool} {c : Int} (hR : rdT e x d r) (h83 : ws.length ≤ 83) (hP : cpR m r d c0 (cs, ws, op, mu)) : Ev (X1_push e (r + 5) (zI c) m) (fun m' => cpR m' r d c0 (cs, c :: ws, op, mu) ∧ ∀ b, b ≠ r + 5 → b ≠ r + 6 → m' b = m b) := by
  obtain ⟨-, hD, -, -, -, -, hC, hW, -, hdr, -⟩ := hR
  obtain ⟨p0, p1, p2, p3, p4, p5, p6, p7, p8, p9⟩ := hP
  dsimp only at p1 p2 p3 p6 p8 p9
  unfold X1_push X1_push_b39
  simp only [LT, zI_neg]
  refine ev_gi hC p1 (ev_iln rfl rfl (by first | omega | (simp only; omega)) (ev_gi hC p1 (ev_gr hC p0 (ev_ln hW (by decide) (ev_ien rfl rfl (by first | omega | (simp only; omega)) (ev_gr hC p0 (ev_gi hC p1 (ev_si ws.length hW rfl (by omega) (by omega) (ev_gi hC (v := zI ws.length) (by rw [up_row _ _ _ (by omega)]; exact p1) (ev_pf hC (ev_ret ?_)))))))))))
  rw [zI_add]
  have ho : ∀ (v w : Value) b, b ≠ r + 5 → b ≠ r + 6 → (mm_up (mm_up m (r + 6) ws.length v) (r + 5) 1 w) b = m b := fun v w b h1 h2 => by rw [up_row _ _ _ h1, up_row _ _ _ h2]
  have hn : ∀ (v w : Value) j, j ≠ 1 → (mm_up (mm_up m (r + 6) ws.length v) (r + 5) 1 w) (r + 5) j = m (r + 5) j := fun v w j h1 => by rw [up_ne _ _ (Or.inr h1), up_row _ _ _ (by omega)]
  refine ⟨⟨by rw [hn _ _ _ (by omega)]; exact p0, by rw [up_at]; rfl, by rw [hn _ _ _ (by omega)]; exact p2, by rw [hn _ _ _ (by omega)]; exact p3, by rw [hn _ _ _ (by omega)]; exact p4, by rw [hn _ _ _ (by omega)]; exact p5, ⟨by rw [up_row _ _ _ (by omega), up_at], ?_⟩, by rw [ho _ _ _ (by omega) (by omega)]; exact p7, by rw [ho _ _ _ (by omega) (by omega)]; exact p8, fun i c hc => by rw [ho _ _ _ (by omega) (by omega)]; exact p9 i c hc⟩, fun b h1 h2 => ho _ _ b h1 h2⟩
  exact wsR.keep (up_row _ _ _ (by omega)) (wsR.up p6 (Nat.le_refl _))
end CMPC
