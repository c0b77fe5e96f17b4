/-! CALLS: table. -/
section CA9
variable {e : mm_E} {z t d q K : Nat} {C : CF} {G : GM} {M : MI}
theorem cl_lay {m : mm_V} {R : RD} {cc t0 t1 : Nat} {f0 f1 : Nat → List Nat} {x0 : Int32} {H0 : List QR} (hT : icT e z) (ht : t = z + 2 ∨ t = z + 21) (hR : rcT m t cc R) (hg : rdG R) (z1 : m z 1 = .ref t) (z4 : m z 4 = .ref (z + 47)) (z6 : m z 6 = .ref (z + 173)) (z7 : m z 7 = .ref (z + 193)) (g1 : gameS m (z + 173) t0) (g2 : gameF m (z + 173) f0) (g3 : m (z + 173) 9 = .int x0) (b1 : gameS m (z + 193) t1) (b2 : gameF m (z + 193) f1) (hl : logR m (z + 47) H0) : Ev (X11_lay e z m) (fun m' => (∃ x, gC m' (z + 173) t idF (zI 0) (zI 0) x (tbS R)) ∧ (∃ x, gC m' (z + 193) t idF (zI 0) (zI 0) x (tbS R)) ∧ logR m' (z + 47) [] ∧ m' z 14 = .int (zI 0) ∧ (∀ k, k ≠ 14 → m' z k = m z k) ∧ ∀ b, b ≠ z → b ≠ z + 47 → (b < z + 173 ∨ z + 213 ≤ b) → m' b = m b) := by
  have hgT := hT.2.2.2.2.2.1
  have hgT2 := hT.2.2.2.2.2.2.1
  have hlT := hT.2.2.2.1
  have hN := hT.2.2.2.2.2.2.2.2.2.2.2.2.2.2
  have htT : toldT e.1 t := by
    rcases ht with ht | ht
    · rw [ht]; exact hT.2.1.2.1
    · rw [ht]; exact hT.2.2.1.2.1
  obtain ⟨s0, r6, r7, r8, r9, r10, rF, rwt, rr⟩ := hR
  obtain ⟨i1, i2, i3, -⟩ := hg.1
  obtain ⟨m1, e1, a1, a2, a3, a4, a5, a6, a7⟩ := X4_open_eq (e := e) (t := t) (lw := zI 0) (lk := zI 0) hgT g1 g2 (Or.inl rfl) (by omega)
  have o1 : ∀ b, (b < z + 173 ∨ z + 193 ≤ b) → m1 b = m b := fun b hb => a7 b (by omega) (by omega) (by omega)
  have mid : ∀ (m2 : mm_V) (x : Int32), gC m2 (z + 173) t idF (zI 0) (zI 0) x (tbS R) → (∀ b, (b < z + 173 ∨ z + 193 ≤ b) → m2 b = m b) → Ev (X11_lay_b47 e z m2) (fun m' => (∃ x, gC m' (z + 173) t idF (zI 0) (zI 0) x (tbS R)) ∧ (∃ x, gC m' (z + 193) t idF (zI 0) (zI 0) x (tbS R)) ∧ logR m' (z + 47) [] ∧ m' z 14 = .int (zI 0) ∧ (∀ k, k ≠ 14 → m' z k = m z k) ∧ ∀ b, b ≠ z → b ≠ z + 47 → (b < z + 173 ∨ z + 213 ≤ b) → m' b = m b) := by
    intro m2 x G2 o2
    have hz2 : m2 z = m z := o2 z (by omega)
    obtain ⟨m3, e3, G3, o3⟩ := X4_copyFrom_eq (e := e) hgT2 hgT (by omega) (b1.keep (fun j _ => by rw [o2 _ (by omega)]) (fun b x1 x2 => o2 b (by omega))) (b2.keep (fun b x1 x2 => o2 b (by omega))) G2 (Or.inl rfl) (by omega)
    have hz3 : m3 z = m z := by rw [o3 z (by omega), hz2]
    obtain ⟨m4, e4, L4, o4⟩ := X5_clear_eq (e := e) (m := m3) hlT (hl.keep (fun b x1 x2 => by rw [o3 b (by omega), o2 b (by omega)]))
    have hz4 : m4 z = m z := by rw [o4 z (by omega), hz3]
    unfold X11_lay_b47
    simp only [LT, zI_neg]
    refine ev_gr hT.1 (v := z + 193) (by rw [hz2]; exact z7) (ev_gr hT.1 (v := z + 173) (by rw [hz2]; exact z6) (ev_tg hgT2.1 (ev_eq e3 (ev_gr hT.1 (v := z + 47) (by rw [hz3]; exact z4) (ev_tg hlT.1 (ev_eq e4 (ev_pz hT.1 (Or.inl rfl) (ev_ret ?_))))))))
    have oz : ∀ b, b ≠ z → (mm_up m4 z 14 (.int (zI 0))) b = m4 b := fun b hb => up_row _ _ _ hb
    have G3 : gC m3 (z + 193) t idF (zI 0) (zI 0) x (tbS R) := G3
    refine ⟨⟨x, G2.keep (fun b x1 x2 x3 x4 => by rw [oz b (by omega), o4 b (by omega), o3 b (by omega)])⟩, ⟨x, G3.keep (fun b x1 x2 x3 x4 => by rw [oz b (by omega), o4 b (by omega)])⟩, L4.keep (fun b x1 x2 => oz b (by omega)), up_at _ _ _ _, fun k hk => by rw [up_ne _ _ (Or.inr hk), hz4], fun b x1 x2 x3 => by rw [oz b x1, o4 b x2, o3 b (by omega), o2 b (by omega)]⟩
  unfold X11_lay
  simp only [LT, zI_neg]
  refine ev_gr hT.1 z6 (ev_gr hT.1 z1 (ev_tg hgT.1 (ev_eq e1 (ev_gr hT.1 (v := t) (by rw [o1 z (by omega)]; exact z1) (ev_gi htT.1 (v := bZ R.1.2.2.2) (by rw [o1 t (by omega)]; exact r10) (ev_bz (fun hb => ?_) (fun hb => ?_)))))))
  · obtain ⟨m2, e2, c1, c2, c3, c4, c5, c6, c7⟩ := X4_deal_eq (e := e) (N := R.1.1) (P := R.1.2.1) hgT htT.1 (by omega) i1.1 i1.2 i2.2 a1 a2 (by rw [o1 t (by omega)]; exact r6) (by rw [o1 t (by omega)]; exact r7) (zI R.1.2.2.1) (by omega)
    have hfF : tbF R = dealF R.1.1 R.1.2.1 (zI R.1.2.2.1) := by unfold tbF; rw [hb, if_neg (by simp)]
    refine ev_gr hT.1 (v := z + 173) (by rw [o1 z (by omega)]; exact z6) (ev_gr hT.1 (v := t) (by rw [o1 z (by omega)]; exact z1) (ev_gi htT.1 (v := zI R.1.2.2.1) (by rw [o1 t (by omega)]; exact r8) (ev_tg hgT.1 (ev_eq e2 (mid m2 (dealS R.1.2.1 (zI R.1.2.2.1)) ?_ (fun b hb => by rw [c7 b (by omega) (by omega) (by omega) (by omega), o1 b hb]))))))
    refine gC.mk (a1.keep (fun j hj => c6 j (by omega) (by omega) (by omega)) (fun b x1 x2 => c7 b (by omega) (by omega) (by omega) (by omega))) ?_ (fun i hi => ?_) (fun i hi => c5 i hi) ?_ ?_ c2 ?_ c3
    · show gameF m2 (z + 173) (tbF R); rw [hfF]; exact c1
    · rw [c7 _ (by omega) (by omega) (by omega) (by omega)]; exact a3 i hi
    · rw [c6 _ (by omega) (by omega) (by omega)]; exact a4
    · rw [c6 _ (by omega) (by omega) (by omega)]; exact a5
    · show m2 (z + 173) 10 = .int (ozI (opn R.1.1 (tbF R))); rw [hfF]; exact c4
  · obtain ⟨m2, e2, c1, c3, c4, c5, c6, c7⟩ := X4_takeTold_eq (e := e) (N := R.1.1) (f := R.2.1) hgT htT (by omega) i1.1 i1.2 a1 (s0.keep (fun j _ => by rw [o1 t (by omega)]) (o1 _ (by omega))) (rF.keep (fun b x1 x2 => o1 b (by omega))) (by rw [o1 t (by omega)]; exact r6) a2 (by omega)
    have hfF : tbF R = R.2.1 := by unfold tbF; rw [hb, if_pos rfl]
    refine ev_gr hT.1 (v := z + 173) (by rw [o1 z (by omega)]; exact z6) (ev_tg hgT.1 (ev_eq e2 (mid m2 x0 ?_ (fun b hb => by rw [c7 b (by omega) (by omega) (by omega), o1 b hb]))))
    refine gC.mk (a1.keep (fun j hj => c6 j (by omega) (by omega)) (fun b x1 x2 => c7 b (by omega) (by omega) (by omega))) ?_ (fun i hi => ?_) (fun i hi => c5 i hi) ?_ ?_ ?_ ?_ c3
    · show gameF m2 (z + 173) (tbF R); rw [hfF]; exact c1
    · rw [c7 _ (by omega) (by omega) (by omega)]; exact a3 i hi
    · rw [c6 _ (by omega) (by omega)]; exact a4
    · rw [c6 _ (by omega) (by omega)]; exact a5
    · rw [c6 _ (by omega) (by omega), a6 _ (by omega)]; exact g3
    · show m2 (z + 173) 10 = .int (ozI (opn R.1.1 (tbF R))); rw [hfF]; exact c4
def tblQ (e : mm_E) (z : Nat) (C : CF) (G : GM) (M : MI) (K : Nat) (a : Int) (m : mm_V) (y : (Int32 ⊕ String) × mm_V) : Prop := y.1 = cvA (tbA M a 2) ∧ (∃ t' d', IC e y.2 z t' d' (tbC C M a) (tbG G M a) (tbM M a)) ∧ pureI (tbC C M a) (tbG G M a) (tbM M a) (K + 1) ∧ ∀ b, (b < z ∨ z + 402 ≤ b) → y.2 b = m b
theorem rcT.told {m : mm_V} {t cc : Nat} {R : RD} (h : rcT m t cc R) (hcc : cc ≤ 600) (htT : toldT e.1 t) (hg : rdG R) : icC e m t (tbC1 R) := by
  obtain ⟨s0, r6, r7, r8, r9, r10, rF, rwt, rr⟩ := h
  obtain ⟨i1, i2, i3, -, -, -, -, -, i9, i10, -⟩ := hg.1
  refine ⟨⟨htT, s0, r6, r7, fun k hk => ?_, i9, i1.1, i1.2, i2.2⟩, r8, rwt, R.2.1, rF⟩
  obtain ⟨a, b, b1, b2, b3, b4, b5⟩ := rr k hk
  exact ⟨a, b, b1, b2, b3, by omega, b5⟩
theorem cl_table {m : mm_V} {a : Int} (ha : i32 a) (hT : icT e z) (hp : pureI C G M K) (hb : K + 1 ≤ 1000000) (h : IC e m z t d C G M) : Ev (X11_table e z (zI a) m) (tblQ e z C G M K a m) := by
  obtain ⟨h1, hF, hA, hC, hD, hR, hL, ⟨⟨x, hG⟩, ⟨x0, hG0⟩, hG3⟩, hS, hI, hst⟩ := id h
  have htf := t_far h
  have hn := hp.2.2.2.2.1.1
  have h256 := hp.2.2.2.2.1.2.1
  have hstr := hT.2.2.2.2.2.2.2.2.2.2.2.2.2.1
  have hrd : rdT e (z + 1) d (z + 40) := by
    rcases h1 with h1 | h1
    · rw [h1.2]; exact hT.2.2.1
    · rw [h1.2]; exact hT.2.1
  have ht : t = z + 2 ∨ t = z + 21 := by omega
  have hd : d = z + 2 ∨ d = z + 21 := by omega
  have hdt : d + 19 ≤ t ∨ t + 19 ≤ d := by omega
  have ha' := ha
  unfold i32 at ha
  unfold X11_table X11_table_b12
  simp only [LT, zI_neg]
  have bad : ¬ (0 ≤ a ∧ a ≤ M.1) → tblQ e z C G M K a m (.inr "java/lang/IllegalArgumentException", m) := fun hx => by
    refine ⟨?_, ⟨t, d, ?_⟩, ?_, fun _ _ => rfl⟩
    · unfold tbA; rw [if_neg hx]; rfl
    · unfold tbC tbG tbM; rw [if_neg (fun hh => hx hh.1), if_neg (fun hh => hx hh.1), if_neg hx]; exact h
    · unfold tbC tbG tbM; rw [if_neg (fun hh => hx hh.1), if_neg (fun hh => hx hh.1), if_neg hx]; exact hp.mono (Nat.le_succ K) hb
  by_cases h0 : a < 0
  · exact ev_ilp rfl rfl (by omega) (ev_ret (bad (by omega)))
  refine ev_iln rfl rfl (by omega) (ev_gi hT.1 hF.2.2.2.1 ?_)
  by_cases h2 : (M.1 : Int) < a
  · exact ev_ien rfl rfl (by omega) (ev_ret (bad (by omega)))
  refine ev_iep rfl rfl (by omega) ?_
  have hin : 0 ≤ a ∧ a ≤ M.1 := by omega
  obtain ⟨n, rfl⟩ : ∃ n : Nat, a = n := ⟨a.toNat, by omega⟩
  obtain ⟨hDs, F0, hDF⟩ := hD
  refine ev_gr hT.1 hF.1.2.2.2.1 (ev_gr hT.1 hF.1.2.2.1 (ev_gr hT.1 hF.1.1 (ev_tg hrd.2.2.1 (ev_call (X8_read_ev (e := e) (n := n) (T := M.2.1) hrd hst ⟨by omega, fun i hi => h256 i (by omega), fun i hi => hA i (by omega)⟩ hDs hDF hR) ?_))))
  rintro ⟨v, m1⟩ hO
  have hO : rdO d (z + 40) n m (tbX M n) v m1 := hO
  obtain ⟨q1, q2, q3, q4, q5, q6, ⟨F1, q7⟩, q8, q9⟩ := hO
  dsimp only
  have hz1 : m1 z = m z := q5 z (by omega)
  refine ev_pf hT.1 ?_
  by_cases hX : (tbX M n).1 = 0
  · obtain ⟨g1, g2, cc, g3, g4⟩ := q9 hX
    have hg : rdG (tbX M n).2.2 := ⟨g1, g2⟩
    rw [q1, hX]
    refine ev_iqp (x := 0) (y := 0) rfl rfl (by omega) (ev_pf hT.1 (ev_gr hT.1 (v := t) (by rw [up_ne _ _ (by omega), up_ne _ _ (by omega), hz1]; exact hF.1.2.1) (ev_gr hT.1 (v := d) (by rw [up_ne _ _ (by omega), up_ne _ _ (by omega), hz1]; exact hF.1.2.2.1) (ev_pf hT.1 (ev_pf hT.1 ?_)))))
    generalize hE : mm_up (mm_up (mm_up (mm_up m1 z 15 (.int (zI 0))) z 16 (.int (zI (-1)))) z 1 (.ref d)) z 2 (.ref t) = m5
    have o5 : ∀ b, b ≠ z → m5 b = m1 b := fun b hb => by rw [← hE, up_row _ _ _ hb, up_row _ _ _ hb, up_row _ _ _ hb, up_row _ _ _ hb]
    have f5 : ∀ k, k ≠ 1 → k ≠ 2 → k ≠ 15 → k ≠ 16 → m5 z k = m z k := fun k x1 x2 x3 x4 => by rw [← hE, up_ne _ _ (Or.inr x2), up_ne _ _ (Or.inr x1), up_ne _ _ (Or.inr x4), up_ne _ _ (Or.inr x3), hz1]
    have w1 : m5 z 1 = .ref d := by rw [← hE, up_ne _ _ (by omega), up_at]
    have w2 : m5 z 2 = .ref t := by rw [← hE, up_at]
    have w15 : m5 z 15 = .int (zI 0) := by rw [← hE, up_ne _ _ (by omega), up_ne _ _ (by omega), up_ne _ _ (by omega), up_at]
    have w16 : m5 z 16 = .int (zI (-1)) := by rw [← hE, up_ne _ _ (by omega), up_ne _ _ (by omega), up_at]
    have fm : ∀ b, b ≠ z → (b < d ∨ (d + 19 ≤ b ∧ b < z + 40) ∨ z + 47 ≤ b) → m5 b = m b := fun b x1 x2 => by rw [o5 b x1, q5 b (by omega)]
    have hG5 : gC m5 (z + 173) t idF (zI 0) (zI 0) x G.2.1 := hG.keep (fun b x1 x2 x3 x4 => fm b (by omega) (by omega))
    have hG05 : gC m5 (z + 193) t idF (zI 0) (zI 0) x0 G.1 := hG0.keep (fun b x1 x2 x3 x4 => fm b (by omega) (by omega))
    have R5 : rcT m5 d cc (tbX M n).2.2 := g4.keep (fun b x1 x2 => o5 b (by omega))
    refine ev_call (cl_lay (t := d) hT hd R5 hg w1 (by rw [f5 _ (by omega) (by omega) (by omega) (by omega)]; exact hF.1.2.2.2.2.1) (by rw [f5 _ (by omega) (by omega) (by omega) (by omega)]; exact hF.1.2.2.2.2.2.2) (by rw [f5 _ (by omega) (by omega) (by omega) (by omega)]; exact hF.2.1.1) hG5.1 hG5.2.1 hG5.f9 hG05.1 hG05.2.1 (hL.1.keep (fun b x1 x2 => fm b (by omega) (by omega)))) ?_
    rintro m6 ⟨y1, y2, y3, y4, y5, y6⟩
    have hdT : toldT e.1 d := hrd.2.1
    have f6 : ∀ k, k ≠ 1 → k ≠ 2 → k ≠ 14 → k ≠ 15 → k ≠ 16 → m6 z k = m z k := fun k x1 x2 x3 x4 x5 => by rw [y5 k x3, f5 k x1 x2 x4 x5]
    have fr6 : ∀ b, b ≠ z → b ≠ z + 47 → (b < z + 173 ∨ z + 213 ≤ b) → (b < d ∨ (d + 19 ≤ b ∧ b < z + 40) ∨ z + 47 ≤ b) → m6 b = m b := fun b x1 x2 x3 x4 => by rw [y6 b x1 x2 x3, fm b x1 x4]
    refine ev_ret ⟨?_, ⟨d, t, ?_⟩, ?_, fun b hb => fr6 b (by omega) (by omega) (by omega) (by omega)⟩
    · unfold tbA; rw [if_pos hin, Int.toNat_natCast, hX]; rfl
    · have c1 : tbC C M (n : Int) = tbC1 (tbX M n).2.2 := by unfold tbC; rw [Int.toNat_natCast, if_pos ⟨hin, hX⟩]
      have c2 : tbG G M (n : Int) = tbG1 (tbX M n).2.2 := by unfold tbG; rw [Int.toNat_natCast, if_pos ⟨hin, hX⟩]
      have c3 : tbM M (n : Int) = (0, M.2.1, -1, M.2.2.2.1, M.2.2.2.2) := by unfold tbM; rw [Int.toNat_natCast, if_pos hin, if_pos hX]
      rw [c1, c2, c3]
      show IC e m6 z d t (tbC1 (tbX M n).2.2) (tbG1 (tbX M n).2.2) (0, M.2.1, -1, M.2.2.2.1, M.2.2.2.2)
      refine ⟨h1.elim (fun hh => Or.inr ⟨hh.2, hh.1⟩) (fun hh => Or.inl ⟨hh.2, hh.1⟩), ⟨⟨?_, ?_, ?_, ?_, ?_, ?_, ?_⟩, ⟨?_, ?_, ?_, ?_, ?_, ?_, ?_⟩, y4, ?_, ?_, ?_, ?_⟩, fun i hi => absurd hi (Nat.not_lt_zero i), ?_, ?_, ?_, ⟨y3, ?_⟩, ⟨y1, y2, ?_⟩, ?_, (fun Si Hi hx => by cases hx), ?_⟩
      · rw [f6 _ (by omega) (by omega) (by omega) (by omega) (by omega)]; exact hF.1.1
      · rw [y5 _ (by omega)]; exact w1
      · rw [y5 _ (by omega)]; exact w2
      · rw [f6 _ (by omega) (by omega) (by omega) (by omega) (by omega)]; exact hF.1.2.2.2.1
      · rw [f6 _ (by omega) (by omega) (by omega) (by omega) (by omega)]; exact hF.1.2.2.2.2.1
      · rw [f6 _ (by omega) (by omega) (by omega) (by omega) (by omega)]; exact hF.1.2.2.2.2.2.1
      · rw [f6 _ (by omega) (by omega) (by omega) (by omega) (by omega)]; exact hF.1.2.2.2.2.2.2
      · rw [f6 _ (by omega) (by omega) (by omega) (by omega) (by omega)]; exact hF.2.1.1
      · rw [f6 _ (by omega) (by omega) (by omega) (by omega) (by omega)]; exact hF.2.1.2.1
      · rw [f6 _ (by omega) (by omega) (by omega) (by omega) (by omega)]; exact hF.2.1.2.2.1
      · rw [f6 _ (by omega) (by omega) (by omega) (by omega) (by omega)]; exact hF.2.1.2.2.2.1
      · rw [f6 _ (by omega) (by omega) (by omega) (by omega) (by omega)]; exact hF.2.1.2.2.2.2.1
      · rw [f6 _ (by omega) (by omega) (by omega) (by omega) (by omega)]; exact hF.2.1.2.2.2.2.2.1
      · rw [f6 _ (by omega) (by omega) (by omega) (by omega) (by omega)]; exact hF.2.1.2.2.2.2.2.2
      · rw [y5 _ (by omega)]; exact w15
      · rw [y5 _ (by omega)]; exact w16
      · rw [f6 _ (by omega) (by omega) (by omega) (by omega) (by omega)]; exact hF.2.2.2.2.2.1
      · rw [f6 _ (by omega) (by omega) (by omega) (by omega) (by omega)]; exact hF.2.2.2.2.2.2
      · exact (R5.keep (fun b x1 x2 => y6 b (by omega) (by omega) (by omega))).told g3 hdT hg
      · obtain ⟨F2, hF2⟩ := hC.2.2.2
        exact ⟨hC.1.2.1.keep (fun j _ => by rw [fr6 _ (by omega) (by omega) (by omega) (by omega)]) (fr6 _ (by omega) (by omega) (by omega) (by omega)), F2, hF2.keep (fun b x1 x2 => fr6 b (by omega) (by omega) (by omega) (by omega))⟩
      · exact q8.row (fun b x1 x2 => by rw [y6 b (by omega) (by omega) (by omega), o5 b (by omega)])
      · exact hL.2.elim (fun H hH => ⟨H, hH.keep (fun b x1 x2 => fr6 b (by omega) (by omega) (by omega) (by omega))⟩)
      · exact hG3.keep (fun b x1 x2 => fr6 b (by omega) (by omega) (by omega) (by omega))
      · exact hS.keep (fun b x1 x2 => fr6 b (by omega) (by omega) (by omega) (by omega))
      · exact hst.keep hstr (fun b hb => fr6 b (by omega) (by omega) (by omega) (by omega))
    · have c1 : tbC C M (n : Int) = tbC1 (tbX M n).2.2 := by unfold tbC; rw [Int.toNat_natCast, if_pos ⟨hin, hX⟩]
      have c2 : tbG G M (n : Int) = tbG1 (tbX M n).2.2 := by unfold tbG; rw [Int.toNat_natCast, if_pos ⟨hin, hX⟩]
      have c3 : tbM M (n : Int) = (0, M.2.1, -1, M.2.2.2.1, M.2.2.2.2) := by unfold tbM; rw [Int.toNat_natCast, if_pos hin, if_pos hX]
      rw [c1, c2, c3]
      exact tb_pure hp hg hb
  · rw [q1]
    refine ev_iqn (x := (tbX M n).1) (y := 0) rfl rfl (by omega) (ev_gr hT.1 (v := z + 40) (by rw [up_ne _ _ (by omega), hz1]; exact hF.1.2.2.2.1) (ev_gi hrd.2.2.1 (v := zI (tbX M n).2.1) (by rw [up_row _ _ _ (by omega)]; exact q4) (ev_pf hT.1 (ev_gi hT.1 (v := zI M.2.2.2.1) (by rw [up_ne _ _ (by omega), up_ne _ _ (by omega), hz1]; exact hF.2.2.2.2.2.1) (ev_pf hT.1 ?_)))))
    rw [show (zI (M.2.2.2.1 : Int) + zI 1 : Int32) = zI ((M.2.2.2.1 + 1 : Nat) : Int) from zI_add _ _]
    generalize hE : mm_up (mm_up (mm_up m1 z 15 (.int (zI 0))) z 16 (.int (zI ((tbX M n).2.1 : Nat)))) z 17 (.int (zI ((M.2.2.2.1 + 1 : Nat) : Int))) = m5
    have o5 : ∀ b, b ≠ z → m5 b = m1 b := fun b hb => by rw [← hE, up_row _ _ _ hb, up_row _ _ _ hb, up_row _ _ _ hb]
    have f5 : ∀ k, k ≠ 15 → k ≠ 16 → k ≠ 17 → m5 z k = m z k := fun k x1 x2 x3 => by rw [← hE, up_ne _ _ (Or.inr x3), up_ne _ _ (Or.inr x2), up_ne _ _ (Or.inr x1), hz1]
    have w15 : m5 z 15 = .int (zI 0) := by rw [← hE, up_ne _ _ (by omega), up_ne _ _ (by omega), up_at]
    have w16 : m5 z 16 = .int (zI ((tbX M n).2.1 : Nat)) := by rw [← hE, up_ne _ _ (by omega), up_at]
    have w17 : m5 z 17 = .int (zI ((M.2.2.2.1 + 1 : Nat) : Int)) := by rw [← hE, up_at]
    have fm : ∀ b, b ≠ z → (b < d ∨ (d + 19 ≤ b ∧ b < z + 40) ∨ z + 47 ≤ b) → m5 b = m b := fun b x1 x2 => by rw [o5 b x1, q5 b (by omega)]
    have c1 : tbC C M (n : Int) = C := by unfold tbC; rw [Int.toNat_natCast, if_neg (fun hh => hX hh.2)]
    have c2 : tbG G M (n : Int) = G := by unfold tbG; rw [Int.toNat_natCast, if_neg (fun hh => hX hh.2)]
    have c3 : tbM M (n : Int) = (0, M.2.1, ((tbX M n).2.1 : Int), M.2.2.2.1 + 1, M.2.2.2.2) := by unfold tbM; rw [Int.toNat_natCast, if_pos hin, if_neg hX]
    refine ev_ret ⟨?_, ⟨t, d, ?_⟩, ?_, fun b hb => fm b (by omega) (by omega)⟩
    · unfold tbA; rw [if_pos hin, Int.toNat_natCast]; rfl
    · rw [c1, c2, c3]
      have hCk : icC e m5 t C := hC.keep (fun b x1 x2 x3 => fm b (by omega) (by rcases h1 with h1 | h1 <;> omega))
      show IC e m5 z t d C G (0, M.2.1, ((tbX M n).2.1 : Int), M.2.2.2.1 + 1, M.2.2.2.2)
      refine ⟨h1, ⟨⟨?_, ?_, ?_, ?_, ?_, ?_, ?_⟩, ⟨?_, ?_, ?_, ?_, ?_, ?_, ?_⟩, ?_, w15, w16, w17, ?_⟩, fun i hi => absurd hi (Nat.not_lt_zero i), hCk, ⟨q6.keep (fun j _ => by rw [o5 _ (by omega)]) (o5 _ (by omega)), F1, q7.keep (fun b x1 x2 => o5 b (by omega))⟩, q8.row (fun b x1 x2 => o5 b (by omega)), hL.keep (fun b x1 x2 => fm b (by omega) (by omega)), ⟨⟨x, hG.keep (fun b x1 x2 x3 x4 => fm b (by omega) (by omega))⟩, ⟨x0, hG0.keep (fun b x1 x2 x3 x4 => fm b (by omega) (by omega))⟩, hG3.keep (fun b x1 x2 => fm b (by omega) (by omega))⟩, hS.keep (fun b x1 x2 => fm b (by omega) (by omega)), hI.keep (fun b x1 => fm b (by omega) (by omega)), hst.keep hstr (fun b hb => fm b (by omega) (by omega))⟩
      · rw [f5 _ (by omega) (by omega) (by omega)]; exact hF.1.1
      · rw [f5 _ (by omega) (by omega) (by omega)]; exact hF.1.2.1
      · rw [f5 _ (by omega) (by omega) (by omega)]; exact hF.1.2.2.1
      · rw [f5 _ (by omega) (by omega) (by omega)]; exact hF.1.2.2.2.1
      · rw [f5 _ (by omega) (by omega) (by omega)]; exact hF.1.2.2.2.2.1
      · rw [f5 _ (by omega) (by omega) (by omega)]; exact hF.1.2.2.2.2.2.1
      · rw [f5 _ (by omega) (by omega) (by omega)]; exact hF.1.2.2.2.2.2.2
      · rw [f5 _ (by omega) (by omega) (by omega)]; exact hF.2.1.1
      · rw [f5 _ (by omega) (by omega) (by omega)]; exact hF.2.1.2.1
      · rw [f5 _ (by omega) (by omega) (by omega)]; exact hF.2.1.2.2.1
      · rw [f5 _ (by omega) (by omega) (by omega)]; exact hF.2.1.2.2.2.1
      · rw [f5 _ (by omega) (by omega) (by omega)]; exact hF.2.1.2.2.2.2.1
      · rw [f5 _ (by omega) (by omega) (by omega)]; exact hF.2.1.2.2.2.2.2.1
      · rw [f5 _ (by omega) (by omega) (by omega)]; exact hF.2.1.2.2.2.2.2.2
      · rw [f5 _ (by omega) (by omega) (by omega)]; exact hF.2.2.1
      · rw [f5 _ (by omega) (by omega) (by omega)]; exact hF.2.2.2.2.2.2
    · rw [c1, c2, c3]
      exact tb_pureF hp (by omega) hb
theorem rix_inv : ∀ j : Fin 12, ∃ k : Fin 12, rix k.val = j.val := by decide +kernel
theorem ml_table {m : mm_V} {a : Int} (ha : i32 a) (hT : imT e q) (hp : pureI C G M K) (h : IM e m q C G M) : Ev (X12_table e q (zI a) m) (fun y => mvA (tbA M a 1) q y ∧ IM e y.2 q (tbC C M a) (tbG G M a) (tbM M a) ∧ ∀ b, (b < q ∨ q + 40 ≤ b) → y.2 b = m b) := by
  have hN := hT.2.1
  have hT := hT.1
  have hn := hp.2.2.2.2.1.1
  have h256 := hp.2.2.2.2.1.2.1
  obtain ⟨g1, ⟨g2, g3, g4, g5, g6, g7⟩, ⟨g8, g9, g10, g11, g12⟩, g13, ⟨⟨g14a, g14b⟩, g14, g14'⟩, g15, g16⟩ := id h
  unfold i32 at ha
  by_cases hin : ¬ (0 ≤ a ∧ a ≤ M.1)
  · have hbad : zI a < zI 0 ∨ zI (M.1 : Int) < zI a := by
      by_cases h0 : a < 0
      · exact Or.inl (by rw [ZC.1 _ _ (by omega) (by omega) (by omega) (by omega)]; exact h0)
      · exact Or.inr (by rw [ZC.1 _ _ (by omega) (by omega) (by omega) (by omega)]; omega)
    refine ev_is (X12_table_no hT g3 hn hbad) (ev_ret ⟨?_, ?_, fr_th2⟩)
    · unfold tbA; rw [if_neg hin]; exact up_at _ _ _ _
    · unfold tbC tbG tbM; rw [if_neg (fun hh => hin hh.1), if_neg (fun hh => hin hh.1), if_neg hin]; exact (h.th _).th _
  have hin : 0 ≤ a ∧ a ≤ M.1 := by omega
  obtain ⟨n, rfl⟩ : ∃ n : Nat, a = n := ⟨a.toNat, by omega⟩
  obtain ⟨m1, e1, hO, z0, z9, o1, f1, i1⟩ := X12_read_ev (e := e) (n := n) (T := M.2.1) hT (by omega) g1.2.1 g3 hn (by omega) (fun i hi => ⟨h256 i (by omega), g8 i (by omega)⟩) g5 g6
  refine ev_is e1 ?_
  have hO : rtO q n M.2.1 (tbX M n) m1 := hO
  have a16 := i1
  unfold X12_table_b285
  simp only [LT, zI_neg]
  rcases hO with ⟨x1, x2, x3, hS1, b10, b11, b15, b18, b19, -⟩ | ⟨x1, hI, hal, tt, tp, htp, hC⟩
  · have hX : ¬ (tbX M n).1 = 0 := by omega
    have c1 : tbC C M (n : Int) = C := by unfold tbC; rw [Int.toNat_natCast, if_neg (fun hh => hX hh.2)]
    have c2 : tbG G M (n : Int) = G := by unfold tbG; rw [Int.toNat_natCast, if_neg (fun hh => hX hh.2)]
    have c3 : tbM M (n : Int) = (0, M.2.1, ((tbX M n).2.1 : Int), M.2.2.2.1 + 1, M.2.2.2.2) := by unfold tbM; rw [Int.toNat_natCast, if_pos hin, if_neg hX]
    have c4 : tbA M (n : Int) 1 = .inl (zI (tbX M n).1) := by unfold tbA; rw [if_pos hin, Int.toNat_natCast]
    rw [c1, c2, c3, c4]
    refine ev_eq (X12_isGood_0 hT b10 ⟨x1, by omega⟩) (ev_inn (x := 0) (y := 0) rfl rfl (by omega) (ev_gr hT.me hS1.refused_ (ev_ai 0 hT.refused_ rfl (by omega) (by omega) (v := zI M.2.2.2.1) (by show m1 (q + 5) 0 = _; rw [o1 _ (by omega) (by omega)]; exact g9) (ev_si 0 hT.refused_ rfl (by omega) (by omega) (ev_gi hT.me (v := zI (tbX M n).1) (by rw [up_row _ _ _ (by omega)]; exact b10) ?_)))))
    rw [show (zI (M.2.2.2.1 : Int) + zI 1 : Int32) = zI ((M.2.2.2.1 + 1 : Nat) : Int) from zI_add _ _]
    generalize hE : mm_up m1 (q + 5) 0 (.int (zI ((M.2.2.2.1 + 1 : Nat) : Int))) = m2
    have o2 : ∀ b, b ≠ q + 5 → m2 b = m1 b := fun b hb => by rw [← hE, up_row _ _ _ hb]
    have r0 : m2 (q + 5) 0 = .int (zI ((M.2.2.2.1 + 1 : Nat) : Int)) := by rw [← hE, up_at]
    have r1 : m2 (q + 5) 1 = .int (zI M.2.2.2.2) := by rw [← hE, up_ne _ _ (by omega), o1 _ (by omega) (by omega)]; exact g10
    have hq : m2 q = m1 q := o2 q (by omega)
    have fm : ∀ b, b ≠ q → b ≠ q + 5 → (b < q + 6 ∨ q + 12 < b) → m2 b = m b := fun b x1 x2 x3 => by rw [o2 b x2, o1 b x1 x3]
    refine ev_ret ⟨⟨rfl, (show m2 q 0 = .int (zI 0) by rw [hq]; exact z0)⟩, ?_, fun b hb => fm b (by omega) (by omega) (by omega)⟩
    show IM e m2 q C G (0, M.2.1, ((tbX M n).2.1 : Int), M.2.2.2.1 + 1, M.2.2.2.2)
    refine ⟨⟨hT, hS1.row hq, by rw [hq, f1 _ (by omega)]; exact g1.2.2.1, by rw [hq, f1 _ (by omega)]; exact g1.2.2.2.1, g1.2.2.2.2.1.keep (fm _ (by omega) (by omega) (by omega)) (fm _ (by omega) (by omega) (by omega)), g1.2.2.2.2.2⟩, ⟨by rw [hq, f1 _ (by omega)]; exact g2, by rw [hq]; exact z9, by rw [hq]; exact b11, by rw [hq]; exact b18, by rw [hq]; exact b19, by rw [hq, f1 _ (by omega)]; exact g7⟩, ⟨fun i hi => absurd hi (Nat.not_lt_zero i), r0, r1, fun i hi => by rw [fm _ (by omega) (by omega) (by omega)]; exact g11 i hi, fun j hj => by rw [o2 _ (by omega)]; exact i1 j hj (g12 j hj)⟩, g13.keep (fm _ (by omega) (by omega) (by omega)), ⟨⟨g14a.keep (fm _ (by omega) (by omega) (by omega)), g14b.keep (fm _ (by omega) (by omega) (by omega))⟩, g14.keep (fm _ (by omega) (by omega) (by omega)), g14'.keep (fm _ (by omega) (by omega) (by omega))⟩, g15.keep (by rw [hq, f1 _ (by omega)]) (fm _ (by omega) (by omega) (by omega)), fun Si Hi hx => ?_⟩
    obtain ⟨d1, d2, d3, d4⟩ := g16 Si Hi hx
    exact ⟨by rw [hq, f1 _ (by omega)]; exact d1, d2.keep (fm _ (by omega) (by omega) (by omega)), d3.keep (fm _ (by omega) (by omega) (by omega)), d4.keep (fm _ (by omega) (by omega) (by omega))⟩
  · have hX : (tbX M n).1 = 0 := x1
    have hg : rdG (tbX M n).2.2 := ⟨hI, hal⟩
    have c1 : tbC C M (n : Int) = tbC1 (tbX M n).2.2 := by unfold tbC; rw [Int.toNat_natCast, if_pos ⟨hin, hX⟩]
    have c2 : tbG G M (n : Int) = tbG1 (tbX M n).2.2 := by unfold tbG; rw [Int.toNat_natCast, if_pos ⟨hin, hX⟩]
    have c3 : tbM M (n : Int) = (0, M.2.1, -1, M.2.2.2.1, M.2.2.2.2) := by unfold tbM; rw [Int.toNat_natCast, if_pos hin, if_pos hX]
    have c4 : tbA M (n : Int) 1 = .inl (zI 0) := by unfold tbA; rw [if_pos hin, Int.toNat_natCast, hX]; rfl
    rw [c1, c2, c3, c4]
    generalize (tbX M n).2.2 = R at hg hC hI hal
    obtain ⟨S1, -, -, b10, b11, ⟨b18, b19⟩, r21, r22, r23, r29, r28, r25, -, -, rFan, rCn, rW, rRu⟩ := hC
    obtain ⟨j1, j2, j3, -, -, j6, -, -, j9, j10, -⟩ := id hI
    have hbz : bZ R.1.2.2.2 = 0 ∨ bZ R.1.2.2.2 = 1 := by
      cases R.1.2.2.2 with
      | false => exact Or.inl rfl
      | true => exact Or.inr rfl
    refine ev_eq (X12_isGood_1 hT b10) (ev_inp (x := 1) (y := 0) rfl rfl (by omega) (ev_gi hT.me r21 (ev_pf hT.me (ev_gi hT.me (v := zI R.1.2.1) (by rw [up_ne _ _ (by omega)]; exact r22) (ev_pf hT.me (ev_gi hT.me (v := zI R.1.2.2.1) (by rw [up_ne _ _ (by omega), up_ne _ _ (by omega)]; exact r23) (ev_pf hT.me (ev_gi hT.me (v := bZ R.1.2.2.2) (by rw [up_ne _ _ (by omega), up_ne _ _ (by omega), up_ne _ _ (by omega)]; exact r29) (ev_pz hT.me hbz ?_)))))))))
    have S5 : modS (mm_up (mm_up (mm_up (mm_up m1 q 1 (.int (zI R.1.1))) q 2 (.int (zI R.1.2.1))) q 3 (.int (zI R.1.2.2.1))) q 4 (.int (bZ R.1.2.2.2))) q := (((S1.up (by decide)).up (by decide)).up (by decide)).up (by decide)
    generalize hE : mm_up (mm_up (mm_up (mm_up m1 q 1 (.int (zI R.1.1))) q 2 (.int (zI R.1.2.1))) q 3 (.int (zI R.1.2.2.1))) q 4 (.int (bZ R.1.2.2.2)) = m5 at S5
    have o5 : ∀ b, b ≠ q → m5 b = m1 b := fun b hb => by rw [← hE, up_row _ _ _ hb, up_row _ _ _ hb, up_row _ _ _ hb, up_row _ _ _ hb]
    have f5 : ∀ k, k ≠ 1 → k ≠ 2 → k ≠ 3 → k ≠ 4 → m5 q k = m1 q k := fun k x1 x2 x3 x4 => by rw [← hE, up_ne _ _ (Or.inr x4), up_ne _ _ (Or.inr x3), up_ne _ _ (Or.inr x2), up_ne _ _ (Or.inr x1)]
    have v1 : m5 q 1 = .int (zI R.1.1) := by rw [← hE, up_ne _ _ (by omega), up_ne _ _ (by omega), up_ne _ _ (by omega), up_at]
    have v2 : m5 q 2 = .int (zI R.1.2.1) := by rw [← hE, up_ne _ _ (by omega), up_ne _ _ (by omega), up_at]
    have v3 : m5 q 3 = .int (zI R.1.2.2.1) := by rw [← hE, up_ne _ _ (by omega), up_at]
    have v4 : m5 q 4 = .int (bZ R.1.2.2.2) := by rw [← hE, up_at]
    have n6 : intR m5 (q + 6) 12 := fun j hj => by
      obtain ⟨k, hk⟩ := rix_inv ⟨j, hj⟩
      obtain ⟨a, ha, -⟩ := rRu k.val k.isLt
      rw [hk] at ha
      exact ⟨_, by rw [o5 _ (by omega)]; exact ha⟩
    obtain ⟨m6, e6, o6, w6⟩ := copies_same (e := e) (m := m5) (by omega) hT.newRuleAt_ hT.ruleAt_ (by omega) n6 (by omega) q
    have n7 : intR m6 (q + 7) 36 := fun j hj => ⟨_, by rw [o6 _ (by omega), o5 _ (by omega)]; exact rW j hj⟩
    obtain ⟨m7, e7, o7, w7⟩ := copies_same (e := e) (m := m6) (by omega) hT.newHabits_ hT.habits_ (by omega) n7 (by omega) q
    have n8 : intR m7 (q + 9) 1600 := fun j hj => by rw [o7 _ (by omega), o6 _ (by omega), o5 _ (by omega)]; exact i1 j hj (g12 j hj)
    obtain ⟨m8, e8, o8, w8⟩ := copies_same (e := e) (m := m7) (by omega) hT.readCode_ hT.code_ (by omega) n8 (by omega) q
    have q6 : m6 q = m5 q := o6 q (by omega)
    have q7 : m7 q = m5 q := by rw [o7 q (by omega), q6]
    have q8 : m8 q = m5 q := by rw [o8 q (by omega), q7]
    have S6 := S5.row q6
    have S7 := S5.row q7
    have S8 := S5.row q8
    have f8 : ∀ b, b ≠ q → b ≠ q + 1 → b ≠ q + 2 → b ≠ q + 3 → m8 b = m1 b := fun b x1 x2 x3 x4 => by rw [o8 b x4, o7 b x3, o6 b x2, o5 b x1]
    have fq : ∀ k, ((4 < k ∧ k < 9) ∨ k = 12 ∨ 30 < k) → m8 q k = m q k := fun k hk => by rw [q8, f5 k (by omega) (by omega) (by omega) (by omega), f1 k (by omega)]
    refine ev_gr hT.me S5.newRuleAt_ (ev_gr hT.me S5.ruleAt_ (ev_eq e6 (ev_gr hT.me S6.newHabits_ (ev_gr hT.me S6.habits_ (ev_eq e7 (ev_gr hT.me S7.readCode_ (ev_gr hT.me S7.code_ (ev_eq e8 (ev_gi hT.me (v := bZ R.1.2.2.2) (by rw [q8]; exact v4) ?_)))))))))
    have hik : intR m8 (q + 13) 128 := g14b.keep (by rw [f8 _ (by omega) (by omega) (by omega) (by omega), o1 _ (by omega) (by omega)])
    have mid : ∀ m9, gM m9 (q + 13) R.1.1 (tbS R) → intR m9 (q + 13) 128 → (∀ j, j ≠ 41 → m9 q j = m8 q j) → (∀ b, b ≠ q → b ≠ q + 16 → b ≠ q + 13 → m9 b = m8 b) → Ev (X12_table_b405 e q m9) (fun y => mvA (.inl (zI 0)) q y ∧ IM e y.2 q (tbC1 R) (tbG1 R) (0, M.2.1, -1, M.2.2.2.1, M.2.2.2.2) ∧ ∀ b, (b < q ∨ q + 40 ≤ b) → y.2 b = m b) := by
      intro m9 G9 I9 f9 o9
      have S9 : modS m9 q := S8.keep (fun i a b => f9 _ (mfld_ne 41 (by decide) i a b))
      obtain ⟨m10, e10, o10, w10⟩ := copies_same (e := e) (m := m9) (by omega) hT.start_ hT.now_ (by omega) I9 (by omega) q
      have q10 : m10 q = m9 q := o10 q (by omega)
      unfold X12_table_b405 X12_begins
      simp only [LT, zI_neg]
      refine ev_call (Q := fun y => y = mm_up m10 q 48 (.int (zI 0))) (ev_gr hT.me S9.start_ (ev_gr hT.me S9.now_ (ev_eq e10 (ev_pf hT.me (ev_ret rfl))))) ?_
      rintro m11 rfl
      refine ev_pz hT.me (Or.inl rfl) ?_
      have S12 : modS (mm_up (mm_up m10 q 48 (.int (zI 0))) q 71 (.int (zI 0))) q := ((S9.row q10).up (by decide)).up (by decide)
      generalize hE2 : mm_up (mm_up m10 q 48 (.int (zI 0))) q 71 (.int (zI 0)) = m12 at S12
      have o12 : ∀ b, b ≠ q → m12 b = m10 b := fun b hb => by rw [← hE2, up_row _ _ _ hb, up_row _ _ _ hb]
      have f12 : ∀ k, k ≠ 48 → k ≠ 71 → m12 q k = m9 q k := fun k x1 x2 => by rw [← hE2, up_ne _ _ (Or.inr x2), up_ne _ _ (Or.inr x1), q10]
      have v48 : m12 q 48 = .int (zI 0) := by rw [← hE2, up_ne _ _ (by omega), up_at]
      have v71 : m12 q 71 = .int (zI 0) := by rw [← hE2, up_at]
      have fk : ∀ k, k ≠ 41 → k ≠ 48 → k ≠ 71 → m12 q k = m5 q k := fun k x1 x2 x3 => by rw [f12 k x2 x3, f9 k x1, q8]
      have fr : ∀ b, b ≠ q → b ≠ q + 1 → b ≠ q + 2 → b ≠ q + 3 → b ≠ q + 13 → b ≠ q + 14 → b ≠ q + 16 → (b < q + 6 ∨ q + 12 < b) → m12 b = m b := fun b x1 x2 x3 x4 x5 x6 x7 x8 => by rw [o12 b x1, o10 b x6, o9 b x1 x7 x5, f8 b x1 x2 x3 x4, o1 b x1 x8]
      have w1 : ∀ k, k < 12 → m12 (q + 1) k = m1 (q + 6) k := fun k hk => by rw [o12 _ (by omega), o10 _ (by omega), o9 _ (by omega) (by omega) (by omega), o8 _ (by omega), o7 _ (by omega), w6 k hk, o5 _ (by omega)]
      have w2 : ∀ k, k < 36 → m12 (q + 2) k = m1 (q + 7) k := fun k hk => by rw [o12 _ (by omega), o10 _ (by omega), o9 _ (by omega) (by omega) (by omega), o8 _ (by omega), w7 k hk, o6 _ (by omega), o5 _ (by omega)]
      have w3 : ∀ k, k < 1600 → m12 (q + 3) k = m1 (q + 9) k := fun k hk => by rw [o12 _ (by omega), o10 _ (by omega), o9 _ (by omega) (by omega) (by omega), w8 k hk, o7 _ (by omega), o6 _ (by omega), o5 _ (by omega)]
      have G12 : gM m12 (q + 13) R.1.1 (tbS R) := G9.keep (by rw [o12 _ (by omega), o10 _ (by omega)])
      have I12 : intR m12 (q + 13) 128 := I9.keep (by rw [o12 _ (by omega), o10 _ (by omega)])
      have r9 : ∀ j, j < 1600 → ∃ v, m12 (q + 9) j = .int v := fun j hj => by rw [o12 _ (by omega), o10 _ (by omega), o9 _ (by omega) (by omega) (by omega), f8 _ (by omega) (by omega) (by omega) (by omega)]; exact i1 j hj (g12 j hj)
      have z12 : m12 q 0 = .int (zI 0) := by rw [fk _ (by omega) (by omega) (by omega), f5 _ (by omega) (by omega) (by omega) (by omega)]; exact z0
      refine ev_ret ⟨⟨rfl, z12⟩, ?_, fun b hb => fr b (by omega) (by omega) (by omega) (by omega) (by omega) (by omega) (by omega) (by omega)⟩
      show IM e m12 q (tbC1 R) (tbG1 R) (0, M.2.1, -1, M.2.2.2.1, M.2.2.2.2)
      refine ⟨⟨hT, S12, ?_, ?_, fun k hk => ?_, j9, j1.1, j1.2, j2.2⟩, ⟨?_, ?_, ?_, ?_, ?_, v71⟩, ⟨fun i hi => absurd hi (Nat.not_lt_zero i), ?_, ?_, fun i hi => ?_, r9⟩, g13.keep (fr _ (by omega) (by omega) (by omega) (by omega) (by omega) (by omega) (by omega) (by omega)), ⟨⟨G12, I12⟩, G9.cong (fun k hk => by rw [o12 _ (by omega)]; exact w10 k hk), I9.cong (fun k hk => by rw [o12 _ (by omega)]; exact w10 k hk)⟩, ⟨v48, ?_⟩, fun Si Hi hx => (by cases hx)⟩
      · rw [fk _ (by omega) (by omega) (by omega)]; exact v1
      · rw [fk _ (by omega) (by omega) (by omega)]; exact v2
      · obtain ⟨a, a1, a2, a3⟩ := rRu k hk
        have hrx : rix k < 12 := by unfold rix; split <;> omega
        refine ⟨a, ?_, ?_, a2, fun hne => ?_⟩
        · show m12 (q + 1) (rix k) = _
          rw [w1 _ hrx]; exact a1
        · by_cases hk0 : R.2.2.2.2.2.1 k = []
          · rw [a2 hk0]; omega
          · have := (a3 hk0).2.1; omega
        · obtain ⟨b1, b2, b3⟩ := a3 hne
          refine ⟨b1, by show a + (enc (R.2.2.2.2.2.1 k)).length ≤ 1600; omega, fun i c hc => ?_⟩
          have hil := (List.getElem?_eq_some_iff.mp hc).1
          have hil : i < (enc (R.2.2.2.2.2.1 k)).length := hil
          rw [w3 _ (by omega)]; exact b3 i c hc
      · rw [fk _ (by omega) (by omega) (by omega)]; exact v3
      · rw [fk _ (by omega) (by omega) (by omega), f5 _ (by omega) (by omega) (by omega) (by omega)]; exact z9
      · rw [fk _ (by omega) (by omega) (by omega), f5 _ (by omega) (by omega) (by omega) (by omega)]; exact b11
      · rw [fk _ (by omega) (by omega) (by omega), f5 _ (by omega) (by omega) (by omega) (by omega)]; exact b18
      · rw [fk _ (by omega) (by omega) (by omega), f5 _ (by omega) (by omega) (by omega) (by omega)]; exact b19
      · rw [fr _ (by omega) (by omega) (by omega) (by omega) (by omega) (by omega) (by omega) (by omega)]; exact g9
      · rw [fr _ (by omega) (by omega) (by omega) (by omega) (by omega) (by omega) (by omega) (by omega)]; exact g10
      · rw [w2 i hi]; exact rW i hi
      · obtain ⟨l1, l2, l3⟩ := g15.2
        refine ⟨by show 0 ≤ 60; omega, fun k hk => by rw [fr _ (by omega) (by omega) (by omega) (by omega) (by omega) (by omega) (by omega) (by omega)]; exact l2 k hk, fun i v hv => by cases hv⟩
    refine ev_bz (fun hb => ?_) (fun hb => ?_)
    · have hfF : tbF R = dealF R.1.1 R.1.2.1 (zI R.1.2.2.1) := by unfold tbF; rw [hb, if_neg (by simp)]
      obtain ⟨m9, e9, d1, d2, d3, d4, d5, d6⟩ := X12_deals_eq (e := e) (r := q + 13) (N := R.1.1) (P := R.1.2.1) hT S8 hT.start_ ⟨by omega, by omega⟩ j1.1 j1.2 j2.2 (by rw [q8]; exact v1) (by rw [q8]; exact v2) (zI R.1.2.2.1) (by omega)
      refine ev_gi hT.me (v := zI R.1.2.2.1) (by rw [q8]; exact v3) (ev_gr hT.me S8.start_ (ev_eq e9 (mid m9 ⟨?_, ?_, d3 1 (Or.inl rfl), fun i hi => d3 (8 + i) (Or.inr ⟨by omega, by omega⟩)⟩ (fun j hj => X12_deals_iK e9 (q + 13) 128 hT.start_ j (hik j hj)) d5 (fun b x1 x2 x3 => d6 b x1 x2 x3))))
      · show rowF m9 (q + 13) (tbF R); rw [hfF]; exact d1
      · show m9 (q + 13) 0 = .int (if isOv R.1.1 (tbF R) then zI (-1) else ozI (opn R.1.1 (tbF R))); rw [hfF]; exact d2
    · have hfF : tbF R = R.2.1 := by unfold tbF; rw [hb, if_pos rfl]
      have htab := told_tab hI (hal hb)
      obtain ⟨m9, e9, d1, d2, d3, d6⟩ := X12_tells_eq (e := e) (r := q + 13) (N := R.1.1) (f := R.2.1) hT hT.start_ ⟨by omega, by omega⟩ (by omega) j1.1 j1.2 (htab.len j2.2) j6 S8 (by rw [q8]; exact v1) (fun p hp => (rFan p (by omega)).same (f8 _ (by omega) (by omega) (by omega) (by omega)))
      refine ev_gr hT.me S8.start_ (ev_eq e9 (mid m9 ⟨?_, ?_, d3 1 (Or.inl rfl), fun i hi => d3 (8 + i) (Or.inr ⟨by omega, by omega⟩)⟩ (fun j hj => X12_tells_iK e9 (q + 13) 128 hT.start_ j (hik j hj)) (fun j _ => by rw [d6 q (by omega)]) (fun b x1 x2 x3 => d6 b x3)))
      · show rowF m9 (q + 13) (tbF R); rw [hfF]; exact d1
      · show m9 (q + 13) 0 = .int (if isOv R.1.1 (tbF R) then zI (-1) else ozI (opn R.1.1 (tbF R))); rw [hfF]; exact d2
end CA9
