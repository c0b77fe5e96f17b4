/-! COMPILER of the class: the whole. -/
def cmK (r d c0 ru : Nat) (m m' : mm_V) : Prop := (∀ b, b ≠ r + 1 → b ≠ r + 5 → b ≠ r + 6 → b ≠ d → b ≠ d + 3 → b ≠ d + 4 → b ≠ d + 5 → m' b = m b) ∧ (∀ j, j ≠ 9 → m' d j = m d j) ∧ (∀ j, j < c0 → m' (d + 3) j = m (d + 3) j) ∧ ∀ j, j ≠ ru → m' (d + 4) j = m (d + 4) j ∧ m' (d + 5) j = m (d + 5) j
theorem cmK.trans {r d c0 ru : Nat} {m m1 m2 : mm_V} (h : cmK r d c0 ru m m1) (k : cmK r d c0 ru m1 m2) : cmK r d c0 ru m m2 := ⟨fun b h1 h2 h3 h4 h5 h6 h7 => by rw [k.1 b h1 h2 h3 h4 h5 h6 h7, h.1 b h1 h2 h3 h4 h5 h6 h7], fun j hj => by rw [k.2.1 j hj, h.2.1 j hj], fun j hj => by rw [k.2.2.1 j hj, h.2.2.1 j hj], fun j hj => ⟨by rw [(k.2.2.2 j hj).1, (h.2.2.2 j hj).1], by rw [(k.2.2.2 j hj).2, (h.2.2.2 j hj).2]⟩⟩
theorem cpK.cmK {r d c0 ru : Nat} {m m' : mm_V} (h : cpK r d c0 m m') (hd : d + 19 ≤ r) : cmK r d c0 ru m m' := ⟨fun b _ h2 h3 h4 h5 _ _ => h.1 b h2 h3 h4 h5, h.2.1, h.2.2, fun j _ => ⟨by rw [h.1 _ (by omega) (by omega) (by omega) (by omega)], by rw [h.1 _ (by omega) (by omega) (by omega) (by omega)]⟩⟩
def cmO (x d r n : Nat) (T : Nat → Nat) (c0 ru B : Nat) (m : mm_V) (R : Nat × TK × List Int) (v : Int32) (m' : mm_V) : Prop := v = zI R.1 ∧ R.1 ≤ 3 ∧ tkV T n R.2.1 ∧ tkR m' (r + 1) x n T R.2.1 ∧ B ≤ R.2.1.2.1 ∧ cmK r d c0 ru m m' ∧ (m' (r + 5) 0 = .ref (r + 6) ∧ m' (r + 5) 4 = .ref (r + 1)) ∧ (R.1 = 0 → tkC T R.2.1 = 59 ∧ wfc R.2.2 0 ∧ B + R.2.2.length ≤ R.2.1.2.1 ∧ m' d 9 = .int (zI (c0 + R.2.2.length : Nat)) ∧ m' (d + 4) ru = .int (zI c0) ∧ m' (d + 5) ru = .int (zI (c0 + R.2.2.length : Nat)) ∧ ∀ (i : Nat) (c : Int), R.2.2[i]? = some c → m' (d + 3) (c0 + i) = .int (zI c))
def cmQ (x d r n : Nat) (T : Nat → Nat) (c0 ru B : Nat) (m : mm_V) (R : Nat × TK × List Int) (y : Int32 × mm_V) : Prop := cmO x d r n T c0 ru B m R y.1 y.2
theorem ev_rc {x d r n : Nat} {T : Nat → Nat} {c0 ru B : Nat} {m : mm_V} {R : Nat × TK × List Int} {v : Int32} {m' : mm_V} (h : cmO x d r n T c0 ru B m R v m') : Ev (some (v, m')) (cmQ x d r n T c0 ru B m R) := ev_ret h
section CMPE
variable {e : mm_E} {x d r n c0 ru B : Nat} {T : Nat → Nat}
theorem X10_setRule_eq {m : mm_V} {a b : Int32} (hD : toldT e.1 d) (h3 : m d 3 = .ref (d + 4)) (h4 : m d 4 = .ref (d + 5)) (h9 : m d 9 = .int b) (hr : ru < 12) : X10_setRule e d (zI ru) a m = some (mm_up (mm_up m (d + 4) ru (.int a)) (d + 5) ru (.int b)) := by
  obtain ⟨t0, -, -, -, t4, t5, -⟩ := hD
  unfold X10_setRule X10_setRule_b27
  simp only [LT, zI_neg]
  rw [iln (by omega), ien (by omega), rd_gr t0 h3, Option.bind_some, wr_si t4 (i := ru) rfl (by omega) (by omega), Option.bind_some, rd_gr t0 (v := d + 5) (by rw [up_row _ _ _ (by omega)]; exact h4), Option.bind_some, rd_gi t0 (v := b) (by rw [up_row _ _ _ (by omega)]; exact h9), Option.bind_some, wr_si t5 (i := ru) rfl (by omega) (by omega), Option.bind_some]
theorem X1_compile_loop (hR : rdT e x d r) (hru : ru < 12) (hc0 : c0 ≤ B) (hn : n ≤ 600) : ∀ (k : Nat) (t : TK) (S : CS) (i nn : Nat) (m : mm_V), muT n t ≤ k → i + muT n t ≤ 600 → k < nn → tkV T n t → exI B t S → strS e m → txR m x n T → tkR m (r + 1) x n T t → m d 3 = .ref (d + 4) → m d 4 = .ref (d + 5) → cpR m r d c0 S → Ev (X1_compile_L38 e (r + 5) (zI ru) (zI c0) nn (zI i) m) (cmQ x d r n T c0 ru B m (exA T n t S)) := by
  have hC := hR.2.2.2.2.2.2.1
  have hTk := hR.2.2.2.1
  have hxd := hR.2.2.2.2.2.2.2.2.1
  have hdr := hR.2.2.2.2.2.2.2.2.2.1
  have hst := hR.2.2.2.2.2.2.2.2.2.2.1
  have hN := hR.2.2.2.2.2.2.2.2.2.2.2
  intro k
  induction k with
  | zero =>
    intro t S i nn m hk hi hnn hv hI hS ht htk h3 h4 hP
    have h0 : t.1 = 0 := by
      unfold muT at hk
      by_cases h : t.1 = 0
      · exact h
      · rw [if_neg h] at hk; omega
    obtain ⟨nn, rfl⟩ : ∃ n', nn = n' + 1 := ⟨nn - 1, by omega⟩
    obtain ⟨cs, ws, op, mu⟩ := S
    obtain ⟨p0, p1, p2, p3, p4, p5, p6, p7, p8, p9⟩ := id hP
    dsimp only at p1 p2 p3 p6 p8 p9
    have hkc : tkC T t = -1 := tkC_0 h0
    have hnot : ¬ (mu = false ∧ op = 0 ∧ tkC T t = 59) := fun h => by omega
    have hbad : exS T t (cs, ws, op, mu) = .inl 1 := by
      unfold exS exP exB
      simp only
      rw [hkc, ocd_0 h0]
      cases mu with
      | true => simp
      | false => simp
    rw [exA_bad hnot hbad, X1_compile_L38]
    simp only [LT, zI_neg]
    have hfin : ∀ y, exQ r d c0 m (.inl 1) y → Ev (X1_compile_b106 e (X1_compile_L38 e (r + 5) (zI ru) (zI c0) nn) (r + 5) (zI ru) (zI c0) (zI i) y.1 y.2) (cmQ x d r n T c0 ru B m (1, t, [])) := by
      rintro ⟨v, m1⟩ ⟨⟨y1, -, -, w0, w4⟩, k1⟩
      dsimp only at y1 k1
      unfold X1_compile_b106
      simp only [LT, zI_neg]
      refine ev_iqn y1 rfl (by omega) (ev_rc ⟨y1, by omega, hv, ?_, by have := hI.2.2.2; simp only; omega, k1.cmK hdr, ⟨w0, w4⟩, fun h => absurd h (by simp)⟩)
      have f1 := k1.1 (r + 1) (by omega) (by omega) (by omega) (by omega)
      obtain ⟨a0, a1, a2, a3, a4, a5, a6⟩ := htk
      exact ⟨by rw [f1]; exact a0, by rw [f1]; exact a1, by rw [f1]; exact a2, by rw [f1]; exact a3, by rw [f1]; exact a4, by rw [f1]; exact a5, by rw [f1]; exact a6⟩
    have b88 : Ev (X1_compile_b88 e (X1_compile_L38 e (r + 5) (zI ru) (zI c0) nn) (r + 5) (zI ru) (zI c0) (zI i) m) (cmQ x d r n T c0 ru B m (1, t, [])) := by
      unfold X1_compile_b88
      simp only [LT, zI_neg]
      unfold exS at hbad
      simp only at hbad
      refine ev_gi hC p3 (ev_bz (fun hm => ?_) (fun hm => ?_))
      · subst hm
        refine ev_call (X1_behindPart_ev hR hS ht htk hv hI hc0 hP) (fun y hy => ?_)
        rw [if_neg (by simp)] at hbad
        rw [hbad] at hy
        exact hfin y hy
      · subst hm
        refine ev_call (X1_part_ev hR hS ht htk hv hI hc0 hP) (fun y hy => ?_)
        rw [if_pos rfl] at hbad
        rw [hbad] at hy
        exact hfin y hy
    refine ev_iln rfl rfl (by omega) (ev_gi hC p3 (ev_bn (fun hm => ?_) (fun hm => b88)))
    refine ev_gi hC p2 ?_
    have hop := hI.2.1
    dsimp only at hop
    by_cases ho : op = 0
    · refine ev_inn rfl rfl (by omega) (ev_gr hC p4 (ev_gi hTk htk.2.2.2.2.1 (ev_inp rfl rfl (by omega) b88)))
    · exact ev_inp rfl rfl (by omega) b88
  | succ k ih =>
    intro t S i nn m hk hi hnn hv hI hS ht htk h3 h4 hP
    obtain ⟨nn, rfl⟩ : ∃ n', nn = n' + 1 := ⟨nn - 1, by omega⟩
    obtain ⟨cs, ws, op, mu⟩ := S
    obtain ⟨p0, p1, p2, p3, p4, p5, p6, p7, p8, p9⟩ := id hP
    dsimp only at p1 p2 p3 p6 p8 p9
    have hop := hI.2.1
    have i4 := hI.2.2.2
    have hok : okW ws op := hI.1
    have h83 : ws.length ≤ 83 := hI.len
    dsimp only at hop i4
    have hb := tkC_bd ht hv
    have hv1 := hv.1
    have hv2 := hv.2.1
    rw [X1_compile_L38]
    simp only [LT, zI_neg]
    by_cases hend : mu = false ∧ op = 0 ∧ tkC T t = 59
    · rw [exA_end hend]
      obtain ⟨rfl, rfl, h59⟩ := hend
      refine ev_iln rfl rfl (by omega) (ev_gi hC p3 (ev_bn (fun _ => ?_) (fun h => absurd h (by simp))))
      refine ev_gi hC p2 (ev_inn rfl rfl (by omega) (ev_gr hC p4 (ev_gi hTk htk.2.2.2.2.1 (ev_inn rfl rfl (by omega) (ev_call (X1_settle_ev (l := 1) (by omega) hR hok h83 (by omega) hP) ?_)))))
      rintro m1 ⟨q0, k1⟩
      have hall := stl_all (cs := cs) hok
      obtain ⟨-, -, s3, s4, -, -⟩ := stl_spec (l := 1) (Nat.le_refl _) (cs := cs) hok
      have s4 := s4 (by have := hI.2.2.1; simpa using this)
      rw [hall] at q0 s3 s4
      obtain ⟨g0, g1, g2, g3, g4, g5, g6, g7, g8, g9⟩ := q0
      dsimp only at g1 g2 g3 g6 g8 g9
      simp only [List.length_nil] at s3
      refine ev_gr hC g5 (ev_tg hR.2.1.1 (ev_eq (X10_setRule_eq hR.2.1 (by rw [k1.2.1 _ (by omega)]; exact h3) (by rw [k1.2.1 _ (by omega)]; exact h4) g8 hru) (ev_rc ?_)))
      generalize hm2 : mm_up (mm_up m1 (d + 4) ru (.int (zI c0))) (d + 5) ru (.int (zI (c0 + (stl 1 cs ws).1.length : Nat))) = m2
      have o2 : ∀ b, b ≠ d + 4 → b ≠ d + 5 → m2 b = m1 b := fun b x1 x2 => by rw [← hm2, up_row _ _ _ x2, up_row _ _ _ x1]
      have f1 : m2 (r + 1) = m (r + 1) := by rw [o2 _ (by omega) (by omega), k1.1 (r + 1) (by omega) (by omega) (by omega) (by omega)]
      obtain ⟨a0, a1, a2, a3, a4, a5, a6⟩ := htk
      refine ⟨rfl, by omega, hv, ⟨by rw [f1]; exact a0, by rw [f1]; exact a1, by rw [f1]; exact a2, by rw [f1]; exact a3, by rw [f1]; exact a4, by rw [f1]; exact a5, by rw [f1]; exact a6⟩, by simp only; omega, ?_, ⟨by rw [o2 _ (by omega) (by omega)]; exact g0, by rw [o2 _ (by omega) (by omega)]; exact g4⟩, fun _ => ⟨h59, wfr_wfc _ _ s4, by simp only; omega, by rw [o2 _ (by omega) (by omega)]; exact g8, by rw [← hm2, up_row _ _ _ (by omega), up_at], by rw [← hm2, up_at], fun j c hc => by rw [o2 _ (by omega) (by omega)]; exact g9 j c hc⟩⟩
      refine ⟨fun b h1 h2 h3 h4 h5 h6 h7 => by rw [o2 b h6 h7, k1.1 b h2 h3 h4 h5], fun j hj => by rw [o2 _ (by omega) (by omega)]; exact k1.2.1 j hj, fun j hj => by rw [o2 _ (by omega) (by omega)]; exact k1.2.2 j (by omega), fun j hj => ⟨?_, ?_⟩⟩
      · rw [← hm2, up_row _ _ _ (by omega), up_ne _ _ (Or.inr hj), k1.1 _ (by omega) (by omega) (by omega) (by omega)]
      · rw [← hm2, up_ne _ _ (Or.inr hj), up_row _ _ _ (by omega), k1.1 _ (by omega) (by omega) (by omega) (by omega)]
    · have hfin : ∀ y, exQ r d c0 m (exS T t (cs, ws, op, mu)) y → Ev (X1_compile_b106 e (X1_compile_L38 e (r + 5) (zI ru) (zI c0) nn) (r + 5) (zI ru) (zI c0) (zI i) y.1 y.2) (cmQ x d r n T c0 ru B m (exA T n t (cs, ws, op, mu))) := by
        rintro ⟨v, m1⟩ hy
        have k1 := hy.2
        have hy := hy.1
        dsimp only at hy k1
        have f1 := k1.1 (r + 1) (by omega) (by omega) (by omega) (by omega)
        have hr1 : tkR m1 (r + 1) x n T t := by
          obtain ⟨a0, a1, a2, a3, a4, a5, a6⟩ := htk
          exact ⟨by rw [f1]; exact a0, by rw [f1]; exact a1, by rw [f1]; exact a2, by rw [f1]; exact a3, by rw [f1]; exact a4, by rw [f1]; exact a5, by rw [f1]; exact a6⟩
        unfold X1_compile_b106
        simp only [LT, zI_neg]
        cases hs : exS T t (cs, ws, op, mu) with
        | inl f =>
          rw [hs] at hy
          obtain ⟨y1, y2, y3, w0, w4⟩ := hy
          rw [exA_bad hend hs]
          exact ev_iqn y1 rfl (by omega) (ev_rc ⟨y1, by simp only; omega, hv, hr1, by simp only; omega, k1.cmK hdr, ⟨w0, w4⟩, fun h => absurd h (by simp only; omega)⟩)
        | inr S' =>
          rw [hs] at hy
          obtain ⟨y1, y2⟩ := hy
          rw [exA_go hv hn hend hs]
          have t1 : txR m1 x n T := ⟨ht.1, ht.2.1, fun j hj => by rw [k1.1 x (by omega) (by omega) (by omega) (by omega)]; exact ht.2.2 j hj⟩
          obtain ⟨hv', hb'⟩ := tok_V T (b := t.2.2) hv.2.1
          obtain ⟨hI', h0⟩ := exS_inv hI hv hs hb'
          obtain ⟨m2, e1, e2, e3⟩ := X9_next_eq (e := e) (b := t.2.2) hTk hR.1 (by omega) t1 hr1.1 hr1.2.1 hr1.2.2.2.1 hv.2.1 hr1.2.2.2.2.2.2 hN
          refine ev_iqp y1 rfl (by omega) (ev_gr hC y2.2.2.2.2.1 (ev_tg hTk (ev_eq e1 ?_)))
          rw [show (zI (i : Int) + zI 1 : Int32) = zI ((i + 1 : Nat) : Int) from zI_add _ _]
          have hmu : muT n (tok T n t.2.2) < muT n t := by
            unfold muT
            rw [if_neg h0]
            have := hv'.2.1
            have h5 := hv'.2.2.2.2.1
            split
            · omega
            · have := h5 (by assumption); omega
          have o2 : ∀ b, b ≠ r + 1 → b ≠ r + 5 → b ≠ r + 6 → b ≠ d → b ≠ d + 3 → m2 b = m b := fun b x1 x2 x3 x4 x5 => by rw [e3 b x1, k1.1 b x2 x3 x4 x5]
          obtain ⟨y0, y1', y2', y3, y4, y5, y6, y7, y8, y9⟩ := y2
          have P2 : cpR m2 r d c0 S' := ⟨by rw [e3 _ (by omega)]; exact y0, by rw [e3 _ (by omega)]; exact y1', by rw [e3 _ (by omega)]; exact y2', by rw [e3 _ (by omega)]; exact y3, by rw [e3 _ (by omega)]; exact y4, by rw [e3 _ (by omega)]; exact y5, wsR.keep (e3 _ (by omega)) y6, by rw [e3 _ (by omega)]; exact y7, by rw [e3 _ (by omega)]; exact y8, fun j c hc => by rw [e3 _ (by omega)]; exact y9 j c hc⟩
          refine ev_mono (ih (tok T n t.2.2) S' (i + 1) nn m2 (by omega) (by omega) (by omega) hv' hI' (hS.keep hst (fun b hb => o2 b (by omega) (by omega) (by omega) (by omega) (by omega))) ⟨ht.1, ht.2.1, fun j hj => by rw [o2 x (by omega) (by omega) (by omega) (by omega) (by omega)]; exact ht.2.2 j hj⟩ e2 (by rw [e3 _ (by omega), k1.2.1 _ (by omega)]; exact h3) (by rw [e3 _ (by omega), k1.2.1 _ (by omega)]; exact h4) P2) ?_
          rintro ⟨v3, m3⟩ ⟨z1, z2, z3, z4, z5, z6, z7⟩
          refine ⟨z1, z2, z3, z4, z5, ?_, z7⟩
          refine (k1.cmK hdr).trans (cmK.trans (m1 := m2) ⟨fun b h1 _ _ _ _ _ _ => e3 b h1, fun j _ => by rw [e3 _ (by omega)], fun j _ => by rw [e3 _ (by omega)], fun j _ => ⟨by rw [e3 _ (by omega)], by rw [e3 _ (by omega)]⟩⟩ z6)
      have b88 : Ev (X1_compile_b88 e (X1_compile_L38 e (r + 5) (zI ru) (zI c0) nn) (r + 5) (zI ru) (zI c0) (zI i) m) (cmQ x d r n T c0 ru B m (exA T n t (cs, ws, op, mu))) := by
        unfold X1_compile_b88
        simp only [LT, zI_neg]
        refine ev_gi hC p3 (ev_bz (fun hm => ?_) (fun hm => ?_))
        · subst hm
          exact ev_call (X1_behindPart_ev hR hS ht htk hv hI hc0 hP) hfin
        · subst hm
          exact ev_call (X1_part_ev hR hS ht htk hv hI hc0 hP) hfin
      refine ev_iln rfl rfl (by omega) (ev_gi hC p3 (ev_bn (fun hm => ?_) (fun hm => b88)))
      refine ev_gi hC p2 ?_
      by_cases ho : op = 0
      · exact ev_inn rfl rfl (by omega) (ev_gr hC p4 (ev_gi hTk htk.2.2.2.2.1 (ev_inp rfl rfl (by have : ¬ tkC T t = 59 := fun h => hend ⟨hm, ho, h⟩; omega) b88)))
      · exact ev_inp rfl rfl (by omega) b88
/-- the class's compiler, from the token ahead of an expression on -/
theorem X1_compile_ev {m : mm_V} {t : TK} (hR : rdT e x d r) (hru : ru < 12) (hc0 : c0 ≤ B) (hB : B ≤ t.2.2) (hv : tkV T n t) (hS : strS e m) (ht : txR m x n T) (htk : tkR m (r + 1) x n T t) (h50 : m (r + 5) 0 = .ref (r + 6)) (h54 : m (r + 5) 4 = .ref (r + 1)) (h2 : m d 2 = .ref (d + 3)) (h3 : m d 3 = .ref (d + 4)) (h4 : m d 4 = .ref (d + 5)) (h9 : m d 9 = .int (zI c0)) : Ev (X1_compile e (r + 5) d (zI ru) m) (cmQ x d r n T c0 ru B m (exA T n (tok T n t.2.2) ([], [], 0, true))) := by
  have hC := hR.2.2.2.2.2.2.1
  have hTk := hR.2.2.2.1
  have hxd := hR.2.2.2.2.2.2.2.2.1
  have hdr := hR.2.2.2.2.2.2.2.2.2.1
  have hst := hR.2.2.2.2.2.2.2.2.2.2.1
  have hN := hR.2.2.2.2.2.2.2.2.2.2.2
  have hn := ht.1
  unfold X1_compile
  simp only [LT, zI_neg]
  refine ev_pf hC (ev_pf hC (ev_pf hC (ev_pz hC (Or.inr rfl) ?_)))
  generalize hm1 : mm_up (mm_up (mm_up (mm_up m (r + 5) 5 (.ref d)) (r + 5) 1 (.int (zI 0))) (r + 5) 2 (.int (zI 0))) (r + 5) 3 (.int (zI 1)) = m1
  have o1 : ∀ b, b ≠ r + 5 → m1 b = m b := fun b h => by rw [← hm1, up_row _ _ _ h, up_row _ _ _ h, up_row _ _ _ h, up_row _ _ _ h]
  have w0 : m1 (r + 5) 0 = .ref (r + 6) := by rw [← hm1, up_ne _ _ (by omega), up_ne _ _ (by omega), up_ne _ _ (by omega), up_ne _ _ (by omega)]; exact h50
  have w1 : m1 (r + 5) 1 = .int (zI 0) := by rw [← hm1, up_ne _ _ (by omega), up_ne _ _ (by omega), up_at]
  have w2 : m1 (r + 5) 2 = .int (zI 0) := by rw [← hm1, up_ne _ _ (by omega), up_at]
  have w3 : m1 (r + 5) 3 = .int (zI 1) := by rw [← hm1, up_at]
  have w4 : m1 (r + 5) 4 = .ref (r + 1) := by rw [← hm1, up_ne _ _ (by omega), up_ne _ _ (by omega), up_ne _ _ (by omega), up_ne _ _ (by omega)]; exact h54
  have w5 : m1 (r + 5) 5 = .ref d := by rw [← hm1, up_ne _ _ (by omega), up_ne _ _ (by omega), up_ne _ _ (by omega), up_at]
  have t1 : txR m1 x n T := ⟨ht.1, ht.2.1, fun j hj => by rw [o1 x (by omega)]; exact ht.2.2 j hj⟩
  have f1 := o1 (r + 1) (by omega)
  obtain ⟨a0, a1, a2, a3, a4, a5, a6⟩ := htk
  obtain ⟨hv', hb'⟩ := tok_V T (b := t.2.2) hv.2.1
  obtain ⟨m2, e1, e2, e3⟩ := X9_next_eq (e := e) (b := t.2.2) hTk hR.1 (by omega) t1 (by rw [f1]; exact a0) (by rw [f1]; exact a1) (by rw [f1]; exact a3) hv.2.1 (by rw [f1]; exact a6) hN
  refine ev_gr hC w5 (ev_gi hR.2.1.1 (v := zI c0) (by rw [o1 _ (by omega)]; exact h9) (ev_gr hC w4 (ev_tg hTk (ev_eq e1 ?_))))
  have o2 : ∀ b, b ≠ r + 1 → b ≠ r + 5 → m2 b = m b := fun b x1 x2 => by rw [e3 b x1, o1 b x2]
  have hmu := muT_lt hv' hn
  have hmu2 : muT n (tok T n t.2.2) ≤ 600 := by
    have h5 := hv'.2.2.2.2.1
    have := hv'.2.1
    unfold muT
    split
    · omega
    · have := h5 (by assumption); omega
  refine ev_mono (X1_compile_loop hR hru hc0 hn (muT n (tok T n t.2.2)) (tok T n t.2.2) ([], [], 0, true) 0 _ m2 (Nat.le_refl _) (by omega) (by omega) hv' ⟨rfl, by simp only; omega, rfl, by simp only [List.length_nil]; omega⟩ (hS.keep hst (fun b hb => o2 b (by omega) (by omega))) ⟨ht.1, ht.2.1, fun j hj => by rw [o2 x (by omega) (by omega)]; exact ht.2.2 j hj⟩ e2 (by rw [o2 _ (by omega) (by omega)]; exact h3) (by rw [o2 _ (by omega) (by omega)]; exact h4) ⟨by rw [e3 _ (by omega)]; exact w0, by rw [e3 _ (by omega)]; exact w1, by rw [e3 _ (by omega)]; exact w2, by rw [e3 _ (by omega)]; exact w3, by rw [e3 _ (by omega)]; exact w4, by rw [e3 _ (by omega)]; exact w5, trivial, by rw [o2 _ (by omega) (by omega)]; exact h2, by rw [o2 _ (by omega) (by omega)]; exact h9, fun i c hc => by simp at hc⟩) ?_
  rintro ⟨v3, m3⟩ ⟨z1, z2, z3, z4, z5, z6, z7⟩
  exact ⟨z1, z2, z3, z4, z5, cmK.trans (m1 := m2) ⟨fun b h1 h2 _ _ _ _ _ => o2 b h1 h2, fun j _ => by rw [o2 _ (by omega) (by omega)], fun j _ => by rw [o2 _ (by omega) (by omega)], fun j _ => ⟨by rw [o2 _ (by omega) (by omega)], by rw [o2 _ (by omega) (by omega)]⟩⟩ z6, z7⟩
end CMPE
