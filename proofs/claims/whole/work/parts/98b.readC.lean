/-! THE READER of the class: lines. -/
def lnO (e : mm_E) (x d r n : Nat) (T : Nat → Nat) (t0 : TK) (m : mm_V) (X : LX) (v : Int32) (m' : mm_V) : Prop := v = zI X.1 ∧ X.1 ≤ 5 ∧ tkV T n X.2.1 ∧ m' (r + 1) 2 = .int (zI X.2.1.2.1) ∧ frC d r m m' ∧ toldS m' d ∧ (∃ F, toldF m' d F) ∧ rcS m' r ∧ m' r 4 = .ref d ∧ (X.1 = 0 → rdI X.2.2 ∧ tkC T X.2.1 = 59 ∧ t0.2.2 ≤ X.2.1.2.1 ∧ ∃ cc' : Nat, cc' ≤ X.2.1.2.1 ∧ rcR e m' x d r n T X.2.1 cc' X.2.2)
def lnY (e : mm_E) (x d r n : Nat) (T : Nat → Nat) (t0 : TK) (m : mm_V) (X : LX) (y : Int32 × mm_V) : Prop := lnO e x d r n T t0 m X y.1 y.2
theorem ev_rl {e : mm_E} {x d r n : Nat} {T : Nat → Nat} {t0 : TK} {m : mm_V} {X : LX} {v : Int32} {m' : mm_V} (h : lnO e x d r n T t0 m X v m') : Ev (some (v, m')) (lnY e x d r n T t0 m X) := ev_ret h
theorem setF_same {α : Type} (f : Nat → α) (p : Nat) (v : α) : setF f p v p = v := if_pos rfl
theorem setF_other {α : Type} (f : Nat → α) {p q : Nat} (v : α) (h : q ≠ p) : setF f p v q = f q := if_neg h
theorem rdI.sTl {R : RD} {w : Nat} (h : rdI R) : rdI (sTl w R) := h
theorem rdI.sFt {R : RD} (h : rdI R) : rdI (sFt R) := h
theorem rdI.sPt {R : RD} (h : rdI R) : rdI (sPt R) := by
  obtain ⟨h1, h2, h3, h4, h5, h6, h7, h8, h9, h10, h11⟩ := h
  exact ⟨h1, h2, h3, h4, h5, h6, h7, (fun h => by have h : (true : Bool) = false := h; cases h), h9, h10, h11⟩
theorem rdI.sWt {R : RD} {j v : Nat} (h : rdI R) (hv : v ≤ 99) : rdI (sWt j v R) := by
  obtain ⟨h1, h2, h3, h4, h5, h6, h7, h8, h9, h10, h11⟩ := h
  refine ⟨h1, h2, h3, h4, h5, h6, h7, h8, h9, fun k => ?_, h11⟩
  show setF R.2.2.2.2.2.2 j v k ≤ 99
  unfold setF
  split
  · exact hv
  · exact h10 k
theorem rdI.sRl {R : RD} {k : Nat} {cs : List Int} (h : rdI R) (hw : wfc cs 0) : rdI (sRl k cs R) := by
  obtain ⟨h1, h2, h3, h4, h5, h6, h7, h8, h9, h10, h11⟩ := h
  refine ⟨h1, h2, h3, h4, h5, h6, h7, h8, fun j hj => ?_, h10, h11⟩
  show setF R.2.2.2.2.2.1 k cs j ≠ [] → wfc (setF R.2.2.2.2.2.1 k cs j) 0
  unfold setF
  split
  · exact fun _ => hw
  · exact h9 j hj
theorem rdI.sNm {R : RD} {w v : Nat} (h : rdI R) (hw : w < 3) (hp : w ≠ 2 → R.2.2.2.2.1 = false) (hv : loN w ≤ v ∧ v ≤ hiN w) : rdI (sNm w v R) := by
  obtain ⟨h1, h2, h3, h4, h5, h6, h7, h8, h9, h10, h11⟩ := h
  unfold loN hiN at hv
  have hw3 : w = 0 ∨ w = 1 ∨ w = 2 := by omega
  rcases hw3 with rfl | rfl | rfl
  · have hf := h8 (hp (by omega))
    have hv : 2 ≤ v ∧ v ≤ 6 := by simpa using hv
    exact ⟨hv, h2, h3, h4, h5, fun p _ => hf p, h7, h8, h9, h10, h11⟩
  · have hf := h8 (hp (by omega))
    have hv : 1 ≤ v ∧ v ≤ 9 := by simpa using hv
    exact ⟨h1, hv, h3, h4, fun p c hc => by have : c ∈ R.2.1 p := hc; rw [hf p] at this; simp at this, h6, h7, h8, h9, h10, h11⟩
  · have hv : v ≤ 9999 := by simpa using hv.2
    exact ⟨h1, h2, hv, h4, h5, h6, h7, h8, h9, h10, h11⟩
theorem cnF_set {F : Nat → List Nat} {p c : Nat} (hp : p < 6) (hc : c ∉ F p) : ∀ x, cnF (setF F p (F p ++ [c])) x = if x = c then cnF F x + 1 else cnF F x := by
  intro x
  have aux : ∀ k, cnt (fun q => decide (x ∈ setF F p (F p ++ [c]) q)) k = cnt (fun q => decide (x ∈ F q)) k + (if x = c ∧ p < k then 1 else 0) := by
    intro k
    induction k with
    | zero => simp [cnt]
    | succ k ih =>
      rw [cnt, cnt, ih]
      by_cases hk : k = p
      · subst hk
        rw [setF_same]
        by_cases hx : x = c
        · subst hx
          have : decide (x ∈ F k) = false := decide_eq_false hc
          rw [this, decide_eq_true (by simp), if_neg (show ¬ (x = x ∧ k < k) by omega), if_pos (show x = x ∧ k < k + 1 by omega)]
          simp
        · have : decide (x ∈ F k ++ [c]) = decide (x ∈ F k) := by simp [hx]
          rw [this, if_neg (show ¬ (x = c ∧ k < k) from fun h => hx h.1), if_neg (show ¬ (x = c ∧ k < k + 1) from fun h => hx h.1)]; omega
      · rw [setF_other F _ hk]
        by_cases hx : x = c ∧ p < k
        · rw [if_pos hx, if_pos (show x = c ∧ p < k + 1 from ⟨hx.1, by omega⟩)]; omega
        · rw [if_neg hx, if_neg (show ¬ (x = c ∧ p < k + 1) from fun h => hx ⟨h.1, by omega⟩)]; omega
  unfold cnF
  rw [aux 6]
  by_cases hx : x = c
  · rw [if_pos ⟨hx, hp⟩, if_pos hx]
  · rw [if_neg (fun h => hx h.1), if_neg hx]; rfl
theorem rdI.sCd {R : RD} {p c : Nat} (h : rdI R) (hp : p < R.1.1) (hc : c ≤ R.1.2.1) (hno : c ∉ R.2.1 p) (hm : R.2.2.1 c < (if c = 0 then 1 else 2)) (hpt : R.2.2.2.2.1 = true) : rdI (sCd p c R) := by
  obtain ⟨h1, h2, h3, h4, h5, h6, h7, h8, h9, h10, h11⟩ := h
  refine ⟨h1, h2, h3, fun q => ?_, fun q x hx => ?_, fun q hq => ?_, fun x => ?_, fun h => ?_, h9, h10, fun x => ?_⟩
  · show (setF R.2.1 p (R.2.1 p ++ [c]) q).Nodup
    by_cases hq : q = p
    · subst hq
      rw [setF_same, List.nodup_append]
      exact ⟨h4 q, by simp, fun a ha b hb => by simp at hb; rw [hb]; exact fun e => hno (e ▸ ha)⟩
    · rw [setF_other _ _ hq]; exact h4 q
  · change x ∈ setF R.2.1 p (R.2.1 p ++ [c]) q at hx
    by_cases hq : q = p
    · subst hq
      rw [setF_same, List.mem_append] at hx
      rcases hx with hx | hx
      · exact h5 q x hx
      · simp at hx; rw [hx]; exact hc
    · rw [setF_other _ _ hq] at hx; exact h5 q x hx
  · show setF R.2.1 p (R.2.1 p ++ [c]) q = []
    change R.1.1 ≤ q at hq
    rw [setF_other _ _ (by omega)]; exact h6 q hq
  · show setF R.2.2.1 c (R.2.2.1 c + 1) x = cnF (setF R.2.1 p (R.2.1 p ++ [c])) x
    rw [cnF_set (by omega) hno x]
    unfold setF
    split
    · rename_i hx; rw [hx, h7 c]
    · exact h7 x
  · change R.2.2.2.2.1 = false at h
    rw [hpt] at h; cases h
  · show setF R.2.2.1 c (R.2.2.1 c + 1) x ≤ (if x = 0 then 1 else 2)
    by_cases hx : x = c
    · rw [hx, setF_same]; exact hm
    · rw [setF_other _ _ hx]; exact h11 x
section RDD
variable {e : mm_E} {x d r n cc : Nat} {T : Nat → Nat} {t : TK} {R : RD}
theorem rcR.told {m : mm_V} (h : rcR e m x d r n T t cc R) : toldS m d ∧ (∃ F, toldF m d F) ∧ rcS m r ∧ m r 4 = .ref d := ⟨h.1.1, ⟨_, h.1.2.2.2.2.2.2.1⟩, h.2.1.1, h.2.1.2.1⟩
/-- a fault at a token, nothing else being said -/
theorem lnO.bad {m m' : mm_V} {t0 : TK} {f : Nat} {R' : RD} (hC : rcR e m' x d r n T t cc R) (hv : tkV T n t) (hf : 1 ≤ f ∧ f ≤ 5) (hF : frC d r m m') : lnO e x d r n T t0 m (f, t, R') (zI f) m' := ⟨rfl, hf.2, hv, hC.2.2.1.2.2.1, hF, hC.told.1, hC.told.2.1, hC.told.2.2.1, hC.told.2.2.2, fun h => absurd h (by simp only; omega)⟩
theorem tkR.row {m m' : mm_V} {k : Nat} (h : tkR m k x n T t) (hk : m' k = m k) : tkR m' k x n T t := by
  obtain ⟨a0, a1, a2, a3, a4, a5, a6⟩ := h
  exact ⟨by rw [hk]; exact a0, by rw [hk]; exact a1, by rw [hk]; exact a2, by rw [hk]; exact a3, by rw [hk]; exact a4, by rw [hk]; exact a5, by rw [hk]; exact a6⟩
theorem rcR.field {m : mm_V} {R' : RD} {j : Nat} {v : Value} (hR : rdT e x d r) (hC : rcR e m x d r n T t cc R) (hj : 6 ≤ j ∧ j ≠ 9) (h2 : R'.2 = R.2) (h6 : (mm_up m d j v) d 6 = .int (zI R'.1.1)) (h7 : (mm_up m d j v) d 7 = .int (zI R'.1.2.1)) (h8 : (mm_up m d j v) d 8 = .int (zI R'.1.2.2.1)) (h10 : (mm_up m d j v) d 10 = .int (bZ R'.1.2.2.2)) : rcR e (mm_up m d j v) x d r n T t cc R' := by
  obtain ⟨c1, c2, c3, c4, c5⟩ := hC
  have hxd := hR.2.2.2.2.2.2.2.2.1
  have hdr := hR.2.2.2.2.2.2.2.2.2.1
  have hst := hR.2.2.2.2.2.2.2.2.2.2.1
  have o : ∀ b, b ≠ d → (mm_up m d j v) b = m b := fun b h => up_row _ _ _ h
  have f : ∀ k, k ≠ j → (mm_up m d j v) d k = m d k := fun k h => up_ne _ _ (Or.inr h)
  obtain ⟨⟨s0, s1, s2, s3, s4, s5, s6⟩, a1, a2, a3, a4, a5, a6, a7, a8⟩ := c1
  refine ⟨⟨⟨by rw [f _ (by omega)]; exact s0, by rw [f _ (by omega)]; exact s1, by rw [f _ (by omega)]; exact s2, by rw [f _ (by omega)]; exact s3, by rw [f _ (by omega)]; exact s4, by rw [f _ (by omega)]; exact s5, fun i hi => by rw [o _ (by omega)]; exact s6 i hi⟩, h6, h7, h8, by rw [f _ (by omega)]; exact a4, h10, fun i hi => ?_, fun i hi => ?_, fun k hk => ?_⟩, ?_, c3.row (o _ (by omega)), c4.keep (o _ (by omega)), c5.keep hst (fun b hb => o b (by omega))⟩
  · rw [h2]
    obtain ⟨b1, b2, b3, b4⟩ := a6 i hi
    exact ⟨by rw [o _ (by omega)]; exact b1, by rw [o _ (by omega)]; exact b2, b3, fun k c hc => by rw [o _ (by omega)]; exact b4 k c hc⟩
  · rw [h2, o _ (by omega)]; exact a7 i hi
  · rw [h2]
    obtain ⟨a, b, b1, b2, b3, b4, b5⟩ := a8 k hk
    exact ⟨a, b, by rw [o _ (by omega)]; exact b1, by rw [o _ (by omega)]; exact b2, b3, b4, fun i c hc => by rw [o _ (by omega)]; exact b5 i c hc⟩
  · have := c2.keep (m' := mm_up m d j v) (o _ (by omega)) (o _ (by omega)) (o _ (by omega)) (o _ (by omega)) (by rw [o _ (by omega)]; exact c2.1.2.2.2.2.2.2)
    unfold rcD at this ⊢
    rw [h2]
    exact this
theorem X8_numberLine_ev {m : mm_V} {w : Nat} (hR : rdT e x d r) (hw : w < 3) (hv : tkV T n t) (h0 : t.1 ≠ 0) (hcc : cc ≤ t.2.1) (hI : rdI R) (hC : rcR e m x d r n T t cc R) : Ev (X8_numberLine e r (zI w) m) (lnY e x d r n T t m (lnN T n w t R)) := by
  have hR' := hR
  obtain ⟨hx, hD, h8, h9, h83, h84, h1, h6, hxd, hdr, hst, hN⟩ := hR
  obtain ⟨hv1, hb1⟩ := tok_V T (b := t.2.2) hv.2.1
  obtain ⟨hv2, hb2⟩ := tok_V T (b := (tok T n t.2.2).2.2) hv1.2.1
  have hv0 := hv.1
  have hv10 := hv1.1
  have b14 : (w ≠ 2 → R.2.2.2.2.1 = false) → Ev (X8_numberLine_b14 e r (zI w) m) (lnY e x d r n T t m (lnN T n w t R)) := by
    intro hpt
    unfold lnN
    rw [if_neg (fun h => by rw [hpt h.1] at h; exact absurd h.2 (by simp))]
    unfold X8_numberLine_b14
    simp only [LT, zI_neg]
    refine ev_call (X8_isTold_ev (w := w) (p := 0) hR' hC (by omega)) ?_
    rintro ⟨v, m1⟩ ⟨y1, y2⟩
    dsimp only at y1 y2
    cases htl : R.2.2.2.1 (6 * w) with
    | true =>
      obtain ⟨rfl, rfl⟩ := y1 htl
      rw [if_pos (show true = true from rfl)]
      exact ev_iqn rfl rfl (by omega) (ev_rl (lnO.bad hC hv (by omega) (fun b _ => rfl)))
    | false =>
      obtain ⟨rfl, C1, o1⟩ := y2 htl
      rw [if_neg (show ¬ (false = true) by simp)]
      refine ev_iqp rfl rfl (by omega) (ev_gr h8 C1.2.1.1.1 (ev_tg h9 (ev_call (X9_next_ev (m := m1) hR' hv C1) ?_)))
      rintro m2 ⟨C2, o2⟩
      have fr2 : frC d r m m2 := fun b hb => by rw [o2 b (by omega), o1 b (by omega)]
      have nf := X8_numberFault_eq (e := e) (lo := loN w) (hi := hiN w) hR' hv1 C2 (by unfold loN hiN; constructor <;> ((repeat' split) <;> omega))
      have b73 : Ev (X8_numberLine_b73 e r (zI w) (zI (loN w)) (zI (hiN w)) m2) (lnY e x d r n T t m (if nmF T (tok T n t.2.2) (loN w) (hiN w) ≠ 0 then (nmF T (tok T n t.2.2) (loN w) (hiN w), tok T n t.2.2, R) else (enF T (tok T n (tok T n t.2.2).2.2), tok T n (tok T n t.2.2).2.2, sNm w (vaT T (tok T n t.2.2)) (sTl (6 * w) R)))) := by
        have hle := nmF_le T (tok T n t.2.2) (loN w) (hiN w)
        unfold X8_numberLine_b73 X8_numberLine_b164
        simp only [LT, zI_neg]
        refine ev_eq nf ?_
        by_cases hz : nmF T (tok T n t.2.2) (loN w) (hiN w) = 0
        · rw [if_neg (show ¬ (nmF T (tok T n t.2.2) (loN w) (hiN w) ≠ 0) from fun h => h hz)]
          have hz0 := nmF_0 hz
          have hva := vaT_eq hv1 hz0.1 hz0.2.1
          have c5' := C2.2.2.1.2.2.2.2.2.1 hz0.1
          rw [hva.1] at c5'
          have fin : ∀ m3, rcR e m3 x d r n T (tok T n t.2.2) cc (sNm w (vaT T (tok T n t.2.2)) (sTl (6 * w) R)) → frC d r m m3 → Ev ((X8_endFault e r m3).bind fun r1 => some (r1.1, r1.2)) (lnY e x d r n T t m (enF T (tok T n (tok T n t.2.2).2.2), tok T n (tok T n t.2.2).2.2, sNm w (vaT T (tok T n t.2.2)) (sTl (6 * w) R))) := by
            intro m3 C3 fr3
            refine ev_call (X8_endFault_ev hR' hv1 C3) ?_
            rintro ⟨v4, m4⟩ ⟨z1, C4, o4⟩
            dsimp only at z1 C4 o4
            refine ev_rl ⟨z1, by simp only; unfold enF; split <;> omega, hv2, C4.2.2.1.2.2.1, fr3.trans (fun b hb => o4 b (by omega)), C4.told.1, C4.told.2.1, C4.told.2.2.1, C4.told.2.2.2, fun h => ⟨(hI.sTl).sNm hw hpt ⟨hz0.2.2.1, hz0.2.2.2⟩, ?_, by simp only; omega, cc, by simp only; omega, C4⟩⟩
            simp only at h ⊢
            unfold enF at h
            by_cases h59 : tkC T (tok T n (tok T n t.2.2).2.2) = 59
            · exact h59
            · rw [if_neg h59] at h; omega
          refine ev_iqp rfl rfl (by omega) ?_
          have c11 := C2.1
          have hw3 : w = 0 ∨ w = 1 ∨ w = 2 := by omega
          rcases hw3 with rfl | rfl | rfl
          · refine ev_iqp rfl rfl (by omega) (ev_gr h8 C2.2.1.2.1 (ev_gr h8 C2.2.1.1.1 (ev_gi h9 c5' (ev_pf hD.1 (fin _ (rcR.field hR' C2 (by omega) rfl (up_at _ _ _ _) (by rw [up_ne _ _ (by omega)]; exact c11.2.2.1) (by rw [up_ne _ _ (by omega)]; exact c11.2.2.2.1) (by rw [up_ne _ _ (by omega)]; exact c11.2.2.2.2.2.1)) (fr2.trans (fun b hb => up_row _ _ _ (by omega))))))))
          · refine ev_iqn rfl rfl (by omega) (ev_iqp rfl rfl (by omega) (ev_gr h8 C2.2.1.2.1 (ev_gr h8 C2.2.1.1.1 (ev_gi h9 c5' (ev_pf hD.1 (fin _ (rcR.field hR' C2 (by omega) rfl (by rw [up_ne _ _ (by omega)]; exact c11.2.1) (up_at _ _ _ _) (by rw [up_ne _ _ (by omega)]; exact c11.2.2.2.1) (by rw [up_ne _ _ (by omega)]; exact c11.2.2.2.2.2.1)) (fr2.trans (fun b hb => up_row _ _ _ (by omega)))))))))
          · refine ev_iqn rfl rfl (by omega) (ev_iqn rfl rfl (by omega) (ev_gr h8 C2.2.1.2.1 (ev_gr h8 C2.2.1.1.1 (ev_gi h9 c5' (ev_pf hD.1 (fin _ (rcR.field hR' C2 (by omega) rfl (by rw [up_ne _ _ (by omega)]; exact c11.2.1) (by rw [up_ne _ _ (by omega)]; exact c11.2.2.1) (up_at _ _ _ _) (by rw [up_ne _ _ (by omega)]; exact c11.2.2.2.2.2.1)) (fr2.trans (fun b hb => up_row _ _ _ (by omega)))))))))
        · rw [if_pos (show nmF T (tok T n t.2.2) (loN w) (hiN w) ≠ 0 from hz)]
          exact ev_iqn rfl rfl (by omega) (ev_rl (lnO.bad C2 hv1 (by omega) fr2))
      unfold X8_numberLine_b50
      simp only [LT, zI_neg]
      have hw3 : w = 0 ∨ w = 1 ∨ w = 2 := by omega
      rcases hw3 with rfl | rfl | rfl
      · exact ev_inn rfl rfl (by omega) (ev_inn rfl rfl (by omega) b73)
      · exact ev_inp rfl rfl (by omega) (ev_inn rfl rfl (by omega) (ev_inp rfl rfl (by omega) (ev_inn rfl rfl (by omega) b73)))
      · exact ev_inp rfl rfl (by omega) (ev_inp rfl rfl (by omega) (ev_inp rfl rfl (by omega) (ev_inp rfl rfl (by omega) b73)))
  unfold X8_numberLine
  simp only [LT, zI_neg]
  by_cases hw2 : w = 2
  · exact ev_iqp rfl rfl (by omega) (b14 (fun h => absurd hw2 h))
  · refine ev_iqn rfl rfl (by omega) (ev_gi h8 hC.2.1.2.2.1 (ev_bz (fun a => b14 (fun _ => a)) (fun a => ?_)))
    unfold lnN
    rw [if_pos ⟨hw2, a⟩]
    exact ev_rl (lnO.bad hC hv (by omega) (fun b _ => rfl))
end RDD
