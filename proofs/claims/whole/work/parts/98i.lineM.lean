/-! THE READER of the model: rules, weights, a line, all lines. -/
section RDO
variable {e : mm_E} {q n tp : Nat} {T : Nat → Nat} {t : TK} {R : RD}
theorem lnP_bad {w : Nat} (hp : phF T w (tok T n t.2.2) R ≠ 0) : lnP T n (w + 3) t R = (phF T w (tok T n t.2.2) R, tok T n t.2.2, R) := by
  unfold phF at hp ⊢
  unfold lnP
  by_cases z1 : nmF T (tok T n t.2.2) 0 9999 = 0
  · have z1' : ¬ (nmF T (tok T n t.2.2) 0 9999 ≠ 0) := fun h => h z1
    rw [if_neg z1'] at hp
    rw [if_neg z1', if_neg z1']
    by_cases z2 : R.1.1 ≤ vaT T (tok T n t.2.2)
    · rw [if_pos z2, if_pos z2]
    · rw [if_neg z2] at hp
      rw [if_neg z2, if_neg z2]
      by_cases z3 : R.2.2.2.1 (6 * (w + 3) + vaT T (tok T n t.2.2)) = true
      · rw [if_pos z3, if_pos z3]
      · rw [if_neg z3] at hp; exact absurd rfl hp
  · rw [if_pos z1, if_pos z1]
theorem lnP_good {w : Nat} (hp : phF T w (tok T n t.2.2) R = 0) : lnP T n (w + 3) t R = lnQ T n (w + 3) (vaT T (tok T n t.2.2)) (tok T n t.2.2) (sPt (sTl (6 * (w + 3) + vaT T (tok T n t.2.2)) R)) ∧ vaT T (tok T n t.2.2) < R.1.1 ∧ R.2.2.2.1 (6 * (w + 3) + vaT T (tok T n t.2.2)) = false := by
  unfold phF at hp
  unfold lnP
  by_cases z1 : nmF T (tok T n t.2.2) 0 9999 = 0
  · have z1' : ¬ (nmF T (tok T n t.2.2) 0 9999 ≠ 0) := fun h => h z1
    rw [if_neg z1'] at hp
    rw [if_neg z1']
    by_cases z2 : R.1.1 ≤ vaT T (tok T n t.2.2)
    · rw [if_pos z2] at hp; omega
    · rw [if_neg z2] at hp
      rw [if_neg z2]
      by_cases z3 : R.2.2.2.1 (6 * (w + 3) + vaT T (tok T n t.2.2)) = true
      · rw [if_pos z3] at hp; omega
      · rw [if_neg z3]
        exact ⟨rfl, by omega, Bool.eq_false_iff.mpr z3⟩
  · rw [if_pos z1] at hp; exact absurd hp z1
theorem rm_end_1 {m : mm_V} (hT : modT e.1 q) (hv : tkV T n t) (c1 : modS m q) (c2 : tkM m q n T t) (c3 : txR m (q + 4) n T) (c4 : m q 10 = .int (zI 0)) (c6 : (∃ v, m q 18 = .int v) ∧ ∃ v, m q 19 = .int v) (c11 : ∀ c, c < 10 → ∃ v, m (q + 11) c = .int v) (h59 : tkC T t ≠ 59) : Ev (X12_line_b163 e q m) (fun m' => fmC q m m' ∧ rmB m' q 1 t.2.1) := by
  unfold X12_line_b163 X12_need X12_need_b24
  simp only [LT, zI_neg]
  have f1 : ∀ k, k ≠ 10 → k ≠ 11 → (mm_up (mm_up m q 10 (.int (zI 1))) q 11 (.int (zI t.2.1))) q k = m q k := fun k x1 x2 => by (try dsimp only); rw [up_ne _ _ (Or.inr x2), up_ne _ _ (Or.inr x1)]
  have o1 : ∀ b, b ≠ q → (mm_up (mm_up m q 10 (.int (zI 1))) q 11 (.int (zI t.2.1))) b = m b := fun b x => by (try dsimp only); rw [up_row _ _ _ x, up_row _ _ _ x]
  have hw := X12_wrong_eq (e := e) (f := zI 1) hT c4 c2.2.2.2.1
  have hs : X12_isSign e q (zI 59) m = _ := X12_isSign_eq (c := 59) hT c2 c3 hv (by omega)
  rw [hs, Option.bind_some]
  dsimp only
  rw [X12_isGood_1 hT c4, Option.bind_some]
  dsimp only
  rw [if_pos (show ¬ zI 1 = zI 0 by decide), decide_eq_false (show ¬ tkC T t = ((59 : Nat) : Int) from h59), if_pos (show bZ false = zI 0 from rfl), hw, Option.bind_some, Option.bind_some]
  exact ev_ret ⟨fmC.own o1 (fun k hk => f1 k (by omega) (by omega)), (c1.up (by decide)).up (by decide), by (try dsimp only); rw [up_ne _ _ (by omega), up_at]; rfl, up_at _ _ _ _, ⟨_, by (try dsimp only); rw [f1 _ (by omega) (by omega)]; exact c2.2.2.1⟩, by (try dsimp only); rw [f1 _ (by omega) (by omega)]; exact c6.1, by (try dsimp only); rw [f1 _ (by omega) (by omega)]; exact c6.2, fun c hc => by (try dsimp only); rw [o1 _ (by omega)]; exact c11 c hc⟩
theorem wfc_ne {cs : List Int} (h : wfc cs 0) : cs ≠ [] := fun hh => by (try dsimp only); rw [hh] at h; exact absurd (show (0 : Nat) = 1 from h) (by omega)
theorem enc_len (cs : List Int) : (enc cs).length ≤ 2 * cs.length + 1 := by
  rw [enc_ecB, List.length_append, List.length_singleton]
  have := ecB_len cs
  omega
theorem rm_rule {m : mm_V} {w : Nat} (hT : modT e.1 q) (hN : 1000 < e.2.2) (hw : w = 1 ∨ w = 2) (hI : rdI R) (hJ : rdJ R) (hv : tkV T n t) (h0 : t.1 ≠ 0) (htp : 1 ≤ tp ∧ tp ≤ 2 * t.2.1 + 1) (h : rmR m q n T t tp R) : Ev (X12_line_b56 e q (zI (9 + w : Nat)) m) (mlO q n T t m (lnP T n (w + 3) t R)) := by
  have hv0 := hv.1
  have hv5 := hv.2.2.2.2.1 h0
  obtain ⟨hv1, hb1⟩ := tok_V T (b := t.2.2) hv.2.1
  have hv10 := hv1.1
  have hph := phF_le T w (tok T n t.2.2) R
  have hN6 := hI.1
  obtain ⟨⟨v, m1⟩, e1, f1, o1, y1, y2⟩ := rm_person (w := w) hT hN (by omega) hI hv h
  dsimp only at f1 o1 y1 y2
  have b68 : Ev (X12_line_b68 e q (zI (9 + w : Nat)) q (zI w) m) (mlO q n T t m (lnP T n (w + 3) t R)) := by
    unfold X12_line_b68
    simp only [LT, zI_neg]
    refine ev_tg hT.me ?_
    rw [e1, Option.bind_some]
    dsimp only
    by_cases hp : phF T w (tok T n t.2.2) R = 0
    · obtain ⟨rfl, C1⟩ := y2 hp
      obtain ⟨l1, l2, l3⟩ := lnP_good hp
      rw [l1, rm_good hT C1, Option.bind_some, if_pos (show ¬ zI 1 = zI 0 by decide)]
      obtain ⟨hv2, hb2⟩ := tok_V T (b := (tok T n t.2.2).2.2) hv1.2.1
      have hI1 : rdI (sPt (sTl (6 * (w + 3) + vaT T (tok T n t.2.2)) R)) := hI.sTl.sPt
      have hJ1 : rdJ (sPt (sTl (6 * (w + 3) + vaT T (tok T n t.2.2)) R)) := hJ.sTl
      generalize sPt (sTl (6 * (w + 3) + vaT T (tok T n t.2.2)) R) = R1 at C1 hI1 hJ1
      generalize vaT T (tok T n t.2.2) = p at l2
      obtain ⟨c1, c2, c3, c4, c5, c6, c7⟩ := id C1
      obtain ⟨a1, a2, a3, a4, a5, a6, a7, a9, a11, a12, a13, a14⟩ := id c7
      refine ev_gr hT.me c1.newRuleAt_ ?_
      have b98 : ∀ (ru : Nat) (u : Int32), ru < 12 → zI 2 * zI (p : Int) + u = zI (rix ru : Nat) → lnQ T n (w + 3) p (tok T n t.2.2) R1 = rlL T n ru (tok T n t.2.2) R1 → Ev (X12_line_b98 e q (q + 6) (zI 2 * zI (p : Int)) u m1) (mlO q n T t m (lnQ T n (w + 3) p (tok T n t.2.2) R1)) := by
        intro ru u hru hz hq
        have hrx := rix_lt hru
        unfold X12_line_b98
        rw [hz, hq]
        unfold rlL
        refine ev_gi hT.me a6 (ev_si (rix ru) hT.newRuleAt_ rfl (by omega) (by omega) ?_)
        have o2 : ∀ b, b ≠ q + 6 → (mm_up m1 (q + 6) (rix ru) (.int (zI tp))) b = m1 b := fun b hb => up_row _ _ _ hb
        have g2 : ∀ j, j ≠ rix ru → (mm_up m1 (q + 6) (rix ru) (.int (zI tp))) (q + 6) j = m1 (q + 6) j := fun j hj => up_ne _ _ (Or.inr hj)
        have at2 : (mm_up m1 (q + 6) (rix ru) (.int (zI tp))) (q + 6) (rix ru) = .int (zI tp) := up_at _ _ _ _
        generalize mm_up m1 (q + 6) (rix ru) (.int (zI tp)) = m2 at o2 g2 at2
        have hq2 := o2 q (by omega)
        have f2 : fmC q m m2 := f1.trans (fmC.mk (fun b x1 x2 => o2 b (by omega)) (fun k _ => by (try dsimp only); rw [hq2]))
        have tk2 : tkM m2 q n T (tok T n (tok T n t.2.2).2.2) := c2.keep (fun k _ _ => by (try dsimp only); rw [hq2])
        obtain ⟨m3, e3, k3, r3, v3, x3⟩ := X12_expression_ev (e := e) (m := m2) (tp := tp) (B := (tok T n (tok T n t.2.2).2.2).2.1) hT hN (by omega) (Nat.le_refl _) hv2 (c1.row hq2) (c3.keep (o2 _ (by omega))) tk2 (by (try dsimp only); rw [hq2]; exact c4) (by (try dsimp only); rw [hq2]; exact a6)
        have fk := X12_expression_fK e3 q 75 hT.me
        have pk := X12_expression_pK e3 q 75 hT.me
        rw [e3, Option.bind_some]
        have f3 : fmC q m m3 := f2.trans (k3.fm (fun j _ hh => X12_expression_iK e3 (q + 9) 1600 hT.readCode_ j hh))
        have i15 : ∃ v, m3 q 15 = .int v := fk 15 (by omega) ⟨_, tk2.2.2.1⟩
        have i18 : ∃ v, m3 q 18 = .int v := fk 18 (by omega) (by (try dsimp only); rw [hq2]; exact c6.1)
        have i19 : ∃ v, m3 q 19 = .int v := fk 19 (by omega) (by (try dsimp only); rw [hq2]; exact c6.2)
        have i11 : ∀ c, c < 10 → m3 (q + 11) c = .int (zI (R1.2.2.1 c)) := fun c hc => by (try dsimp only); rw [k3.1 _ (by omega) (by omega) (by omega) (by omega), o2 _ (by omega)]; exact a12 c hc
        generalize exA T n (tok T n (tok T n t.2.2).2.2) ([], [], 0, true) = X at r3 v3 x3
        rcases x3 with ⟨z0, z1, z2, z3⟩ | ⟨z1, z2, z3, z4, z5⟩
        · have B3 : rmB m3 q X.1 X.2.1.2.1 := ⟨z1, z2, z3, i15, i18, i19, fun c hc => ⟨_, i11 c hc⟩⟩
          rw [rm_end_no hT B3 (by omega)]
          exact ev_ret ⟨f3, by simp only; omega, v3, fun _ => B3, fun hz => absurd hz (by simp only; omega)⟩
        · rcases z5 with ⟨y0, y1⟩ | ⟨y0, y1, y2, y3, y4, y5, y6⟩
          · refine ev_mono (rm_end_1 hT v3 z1 z3 z4 z2 ⟨i18, i19⟩ (fun c hc => ⟨_, i11 c hc⟩) y1) ?_
            rintro m4 ⟨w1, w2⟩
            exact ⟨f3.trans w1, by simp only; omega, v3, fun _ => by simp only; rw [y0]; exact w2, fun hz => absurd hz (by simp only; omega)⟩
          · have hq3 : ∀ k, ((20 < k ∧ k < 25) ∨ 27 < k) → m3 q k = m1 q k := fun k hk => by (try dsimp only); rw [k3.2.1 k (by omega), hq2]
            have ho3 : ∀ b, b ≠ q → b ≠ q + 6 → b ≠ q + 9 → b ≠ q + 10 → b ≠ q + 12 → m3 b = m1 b := fun b x0 x1 x2 x3 x4 => by (try dsimp only); rw [k3.1 b x0 x2 x3 x4, o2 b x1]
            have h6 : m3 (q + 6) = m2 (q + 6) := k3.1 _ (by omega) (by omega) (by omega) (by omega)
            have hne := wfc_ne y2
            have hvl := v3.2.1
            have hvl1 := v3.1
            have hel := enc_len X.2.2
            have C3 : rmR m3 q n T X.2.1 (tp + (enc X.2.2).length) (sRl ru X.2.2 R1) := by
              refine ⟨z1, z3, z4, z2, by (try dsimp only); rw [(pk z2).2, hq2]; exact c5, ⟨i18, i19⟩, by (try dsimp only); rw [hq3 _ (by omega)]; exact a1, by (try dsimp only); rw [hq3 _ (by omega)]; exact a2, by (try dsimp only); rw [hq3 _ (by omega)]; exact a3, by (try dsimp only); rw [hq3 _ (by omega)]; exact a4, by (try dsimp only); rw [hq3 _ (by omega)]; exact a5, y5, ?_, ?_, fun p hp => (a11 p hp).same (ho3 _ (by omega) (by omega) (by omega) (by omega) (by omega)), i11, fun i hi => by (try dsimp only); rw [ho3 _ (by omega) (by omega) (by omega) (by omega) (by omega)]; exact a13 i hi, fun k hk => ?_⟩
              · obtain ⟨v', b1, b2⟩ := a7
                exact ⟨v', by (try dsimp only); rw [hq3 _ (by omega)]; exact b1, b2⟩
              · obtain ⟨v', b1, b2⟩ := a9
                exact ⟨v', by (try dsimp only); rw [hq3 _ (by omega)]; exact b1, b2⟩
              · unfold ruM
                show ∃ a : Nat, m3 (q + 6) (rix k) = .int (zI a) ∧ (setF R1.2.2.2.2.2.1 ru X.2.2 k = [] → a = 0) ∧ (setF R1.2.2.2.2.2.1 ru X.2.2 k ≠ [] → 0 < a ∧ a + (enc (setF R1.2.2.2.2.2.1 ru X.2.2 k)).length ≤ tp + (enc X.2.2).length ∧ ∀ (i : Nat) (c : Int), (enc (setF R1.2.2.2.2.2.1 ru X.2.2 k))[i]? = some c → m3 (q + 9) (a + i) = .int (zI c))
                by_cases hku : k = ru
                · subst hku
                  rw [setF_at]
                  exact ⟨tp, by (try dsimp only); rw [h6]; exact at2, fun hh => absurd hh hne, fun _ => ⟨by omega, Nat.le_refl _, y6⟩⟩
                · rw [setF_ne _ _ hku]
                  obtain ⟨a, b1, b2, b3⟩ := a14 k hk
                  refine ⟨a, by (try dsimp only); rw [h6, g2 _ (fun hh => hku (rix_inj hk hru hh))]; exact b1, b2, fun hh => ?_⟩
                  obtain ⟨d1, d2, d3⟩ := b3 hh
                  refine ⟨d1, by omega, fun i c hc => ?_⟩
                  have := (List.getElem?_eq_some_iff.mp hc).1
                  rw [y4 _ (by omega), o2 _ (by omega)]
                  exact d3 i c hc
            refine ev_mono (rm_end hT hN v3 C3) ?_
            rintro m4 ⟨w1, w2, w3⟩
            have hz : enF T X.2.1 = 0 := by unfold enF; rw [if_pos y1]
            exact ⟨f3.trans w1, by simp only; omega, v3, fun hz => absurd y0 hz, fun _ => ⟨⟨hI1.sRl y2, hJ1⟩, by simp only; omega, y1, tp + (enc X.2.2).length, by omega, by simp only; omega, w3 hz⟩⟩
      rcases hw with rfl | rfl
      · refine ev_inp rfl rfl (by omega) (b98 p (zI 0) (by omega) ?_ ?_)
        · rw [zI_mul, zI_add]; unfold rix; rw [if_pos (by omega)]; congr 1 <;> omega
        · unfold lnQ; rw [if_neg (show ¬ (1 + 3 = 3) by omega), if_pos (show 1 + 3 = 4 from rfl)]
      · refine ev_inn rfl rfl (by omega) (b98 (6 + p) (zI 1) (by omega) ?_ ?_)
        · rw [zI_mul, zI_add]; unfold rix; rw [if_neg (by omega)]; congr 1 <;> omega
        · unfold lnQ; rw [if_neg (show ¬ (2 + 3 = 3) by omega), if_neg (show ¬ (2 + 3 = 4) by omega), if_pos (show 2 + 3 = 5 from rfl)]
    · obtain ⟨rfl, B1⟩ := y1 hp
      rw [lnP_bad hp, rm_bad hT B1 (by omega), Option.bind_some, if_neg (show ¬ ¬ zI 0 = zI 0 from fun h => h rfl)]
      exact ev_ret ⟨f1, by simp only; omega, hv1, fun _ => B1, fun hz => absurd hz hp⟩
  unfold X12_line_b56
  simp only [LT, zI_neg]
  rcases hw with rfl | rfl
  · exact ev_inn rfl rfl (by omega) b68
  · exact ev_inp rfl rfl (by omega) b68
theorem rm_wt_bad {p f pl : Nat} (hT : modT e.1 q) (hp : p < 6) (hf : 1 ≤ f ∧ f < 100) : ∀ (d i nn : Nat) (m : mm_V), i + d = 6 → d < nn → rmB m q f pl → Ev (X12_line_L125 e q (zI p) nn (zI i) m) (fun m' => fmC q m m' ∧ rmB m' q f pl) := by
  intro d
  induction d with
  | zero =>
    intro i nn m hi hnn hB
    obtain ⟨nn, rfl⟩ : ∃ n', nn = n' + 1 := ⟨nn - 1, by omega⟩
    rw [X12_line_L125]
    simp only [LT, zI_neg]
    rw [iep (by omega), rm_end_no hT hB hf]
    exact ev_ret ⟨fmC.refl _ _, hB⟩
  | succ d ih =>
    intro i nn m hi hnn hB
    obtain ⟨nn, rfl⟩ : ∃ n', nn = n' + 1 := ⟨nn - 1, by omega⟩
    rw [X12_line_L125]
    unfold X12_number
    simp only [LT, zI_neg]
    rw [ien (by omega), rd_gr hT.me hB.1.newHabits_, Option.bind_some, rm_bad hT hB hf, Option.bind_some, if_neg (show ¬ ¬ zI 0 = zI 0 from fun h => h rfl), Option.bind_some]
    have hz : (zI 6 * zI (p : Int) + zI (i : Int) : Int32) = zI ((6 * p + i : Nat) : Int) := by (try dsimp only); rw [zI_mul, zI_add]; congr 1
    rw [hz, show (zI (i : Int) + zI 1 : Int32) = zI ((i + 1 : Nat) : Int) from zI_add _ _]
    refine ev_si (6 * p + i) hT.newHabits_ rfl (by omega) (by omega) ?_
    dsimp only
    have o2 : ∀ b, b ≠ q + 7 → (mm_up m (q + 7) (6 * p + i) (.int (zI 0))) b = m b := fun b hb => up_row _ _ _ hb
    generalize mm_up m (q + 7) (6 * p + i) (.int (zI 0)) = m2 at o2
    have hq2 := o2 q (by omega)
    obtain ⟨b1, b2, b3, b4, b5, b6, b7⟩ := hB
    refine ev_mono (ih (i + 1) nn m2 (by omega) (by omega) ⟨b1.row hq2, by (try dsimp only); rw [hq2]; exact b2, by (try dsimp only); rw [hq2]; exact b3, by (try dsimp only); rw [hq2]; exact b4, by (try dsimp only); rw [hq2]; exact b5, by (try dsimp only); rw [hq2]; exact b6, fun c hc => by (try dsimp only); rw [o2 _ (by omega)]; exact b7 c hc⟩) ?_
    rintro m3 ⟨x1, x2⟩
    exact ⟨fmC.trans (m1 := m2) (fmC.mk (fun b y1 y2 => o2 b (by omega)) (fun k _ => by (try dsimp only); rw [hq2])) x1, x2⟩
theorem rm_wt_loop {p : Nat} {t0 : TK} {m0 : mm_V} (hT : modT e.1 q) (hN : 1000 < e.2.2) (hp : p < 6) (htp : 1 ≤ tp ∧ tp ≤ 2 * t0.2.1 + 1) (ht0 : t0.2.1 ≤ t0.2.2) : ∀ (k : Nat) (t : TK) (R : RD) (m : mm_V) (i nn : Nat), i + k = 6 → k < nn → tkV T n t → rdI R → rdJ R → t0.2.2 ≤ t.2.2 → fmC q m0 m → rmR m q n T (tok T n t.2.2) tp R → Ev (X12_line_L125 e q (zI p) nn (zI i) m) (mlO q n T t0 m0 (wtL T n p k i t R)) := by
  intro k
  induction k with
  | zero =>
    intro t R m i nn hi hnn hv hI hJ hle hfr hC
    obtain ⟨nn, rfl⟩ : ∃ n', nn = n' + 1 := ⟨nn - 1, by omega⟩
    obtain ⟨hv1, hb1⟩ := tok_V T (b := t.2.2) hv.2.1
    rw [X12_line_L125, wtL]
    simp only [LT, zI_neg]
    rw [iep (by omega)]
    refine ev_mono (rm_end hT hN hv1 hC) ?_
    rintro m7 ⟨w1, w2, w3⟩
    exact ⟨hfr.trans w1, by simp only; have := enF_le T (tok T n t.2.2); omega, hv1, w2, fun hz2 => ⟨⟨hI, hJ⟩, by simp only; omega, enF_59 hz2, tp, htp.1, by simp only; omega, w3 hz2⟩⟩
  | succ k ih =>
    intro t R m i nn hi hnn hv hI hJ hle hfr hC
    obtain ⟨nn, rfl⟩ : ∃ n', nn = n' + 1 := ⟨nn - 1, by omega⟩
    obtain ⟨hv1, hb1⟩ := tok_V T (b := t.2.2) hv.2.1
    have hv10 := hv1.1
    rw [X12_line_L125, wtL]
    simp only [LT, zI_neg]
    have hnl := nmF_le T (tok T n t.2.2) 0 99
    obtain ⟨⟨v, m1⟩, e3, y1, y2, y3, y4⟩ := rm_number (lo := 0) (hi := 99) hT hN hv1 (by omega) hC
    have e3 : X12_number e q (zI 0) (zI 99) m = some (v, m1) := e3
    dsimp only at y1 y2 y3 y4
    rw [ien (by omega), rd_gr hT.me hC.1.newHabits_, Option.bind_some, e3, Option.bind_some]
    have hz : (zI 6 * zI (p : Int) + zI (i : Int) : Int32) = zI ((6 * p + i : Nat) : Int) := by (try dsimp only); rw [zI_mul, zI_add]; congr 1
    rw [hz, show (zI (i : Int) + zI 1 : Int32) = zI ((i + 1 : Nat) : Int) from zI_add _ _]
    refine ev_si (6 * p + i) hT.newHabits_ rfl (by omega) (by omega) ?_
    dsimp only
    have o2 : ∀ b, b ≠ q + 7 → (mm_up m1 (q + 7) (6 * p + i) (.int v)) b = m1 b := fun b hb => up_row _ _ _ hb
    have g2 : ∀ j, j ≠ 6 * p + i → (mm_up m1 (q + 7) (6 * p + i) (.int v)) (q + 7) j = m1 (q + 7) j := fun j hj => up_ne _ _ (Or.inr hj)
    have at2 : (mm_up m1 (q + 7) (6 * p + i) (.int v)) (q + 7) (6 * p + i) = .int v := up_at _ _ _ _
    generalize mm_up m1 (q + 7) (6 * p + i) (.int v) = m2 at o2 g2 at2
    have hq2 := o2 q (by omega)
    have f2 : fmC q m0 m2 := (hfr.trans y1).trans (fmC.mk (fun b x1 x2 => o2 b (by omega)) (fun k _ => by (try dsimp only); rw [hq2]))
    by_cases hz0 : nmF T (tok T n t.2.2) 0 99 = 0
    · rw [if_neg (show ¬ (nmF T (tok T n t.2.2) 0 99 ≠ 0) from fun h => h hz0)]
      obtain ⟨rfl, C1⟩ := y4 hz0
      have hr := nmF_0 hz0
      obtain ⟨c1, c2, c3, c4, c5, c6, c7⟩ := C1
      obtain ⟨a1, a2, a3, a4, a5, a6, a7, a9, a11, a12, a13, a14⟩ := c7
      refine ih (tok T n t.2.2) (sWt (6 * p + i) (vaT T (tok T n t.2.2)) R) m2 (i + 1) nn (by omega) (by omega) hv1 (hI.sWt hr.2.2.2) hJ (by omega) f2 ⟨c1.row hq2, c2.keep (fun k _ _ => by (try dsimp only); rw [hq2]), c3.keep (o2 _ (by omega)), by (try dsimp only); rw [hq2]; exact c4, by (try dsimp only); rw [hq2]; exact c5, ⟨by (try dsimp only); rw [hq2]; exact c6.1, by (try dsimp only); rw [hq2]; exact c6.2⟩, by (try dsimp only); rw [hq2]; exact a1, by (try dsimp only); rw [hq2]; exact a2, by (try dsimp only); rw [hq2]; exact a3, by (try dsimp only); rw [hq2]; exact a4, by (try dsimp only); rw [hq2]; exact a5, by (try dsimp only); rw [hq2]; exact a6, by (try dsimp only); rw [hq2]; exact a7, by (try dsimp only); rw [hq2]; exact a9, fun p hp => (a11 p hp).same (o2 _ (by omega)), fun c hc => by (try dsimp only); rw [o2 _ (by omega)]; exact a12 c hc, fun j hj => ?_, fun k hk => (a14 k hk).keep (o2 _ (by omega)) (o2 _ (by omega))⟩
      show m2 (q + 7) j = .int (zI (setF R.2.2.2.2.2.2 (6 * p + i) (vaT T (tok T n t.2.2)) j : Nat))
      by_cases hj2 : j = 6 * p + i
      · rw [hj2, setF_at]; exact at2
      · rw [setF_ne _ _ hj2, g2 _ hj2]; exact a13 j hj
    · rw [if_pos (show nmF T (tok T n t.2.2) 0 99 ≠ 0 from hz0)]
      obtain ⟨b1, b2, b3, b4, b5, b6, b7⟩ := y3 hz0
      refine ev_mono (rm_wt_bad hT hp (f := nmF T (tok T n t.2.2) 0 99) (pl := (tok T n t.2.2).2.1) (by omega) k (i + 1) nn m2 (by omega) (by omega) ⟨b1.row hq2, by (try dsimp only); rw [hq2]; exact b2, by (try dsimp only); rw [hq2]; exact b3, by (try dsimp only); rw [hq2]; exact b4, by (try dsimp only); rw [hq2]; exact b5, by (try dsimp only); rw [hq2]; exact b6, fun c hc => by (try dsimp only); rw [o2 _ (by omega)]; exact b7 c hc⟩) ?_
      rintro m3 ⟨x1, x2⟩
      exact ⟨f2.trans x1, by simp only; omega, hv1, fun _ => x2, fun hz => absurd hz hz0⟩
theorem rm_weights {m : mm_V} (hT : modT e.1 q) (hN : 1000 < e.2.2) (hI : rdI R) (hJ : rdJ R) (hv : tkV T n t) (htp : 1 ≤ tp ∧ tp ≤ 2 * t.2.1 + 1) (h : rmR m q n T t tp R) : Ev ((X12_personHere e q (zI 3) m).bind fun r3 => X12_line_L125 e q r3.1 e.2.2 (zI 0) r3.2) (mlO q n T t m (lnP T n 6 t R)) := by
  have hv0 := hv.1
  obtain ⟨hv1, hb1⟩ := tok_V T (b := t.2.2) hv.2.1
  have hv10 := hv1.1
  have hph := phF_le T 3 (tok T n t.2.2) R
  have hN6 := hI.1
  obtain ⟨⟨v, m1⟩, e1, f1, o1, y1, y2⟩ := rm_person (w := 3) hT hN (by omega) hI hv h
  have e1 : X12_personHere e q (zI 3) m = some (v, m1) := e1
  dsimp only at f1 o1 y1 y2
  rw [e1, Option.bind_some]
  dsimp only
  by_cases hp : phF T 3 (tok T n t.2.2) R = 0
  · obtain ⟨rfl, C1⟩ := y2 hp
    obtain ⟨l1, l2, l3⟩ := lnP_good (n := n) hp
    rw [show lnP T n 6 t R = _ from l1]
    unfold lnQ
    rw [if_neg (by omega), if_neg (by omega), if_neg (by omega)]
    exact rm_wt_loop (t0 := t) (m0 := m) (p := vaT T (tok T n t.2.2)) hT hN (by omega) htp hv0 6 (tok T n t.2.2) _ m1 0 e.2.2 rfl (by omega) hv1 hI.sTl.sPt hJ.sTl (by omega) f1 C1
  · obtain ⟨rfl, B1⟩ := y1 hp
    rw [show lnP T n 6 t R = _ from lnP_bad hp]
    refine ev_mono (rm_wt_bad (p := 0) hT (by omega) (f := phF T 3 (tok T n t.2.2) R) (pl := (tok T n t.2.2).2.1) (by omega) 6 0 e.2.2 m1 rfl (by omega) B1) ?_
    rintro m3 ⟨x1, x2⟩
    exact ⟨f1.trans x1, by simp only; omega, hv1, fun _ => x2, fun hz => absurd hz hp⟩
theorem rm_line {m : mm_V} (hT : modT e.1 q) (hN : 1000 < e.2.2) (hI : rdI R) (hJ : rdJ R) (hv : tkV T n t) (h0 : t.1 ≠ 0) (htp : 1 ≤ tp ∧ tp ≤ 2 * t.2.1 + 1) (h : rmR m q n T t tp R) : Ev (X12_line e q m) (mlO q n T t m (lnA T n t R)) := by
  have hn6 := h.2.2.1.1
  obtain ⟨z, kw, kz, kz2, kw2⟩ := X12_knownWord_eq (e := e) (m := m) hT h.2.1 hv hn6 hN
  have k6 : isW T t 0 = true ↔ z = 6 := kw2 6 (by decide)
  have k7 : isW T t 1 = true ↔ z = 7 := kw2 7 (by decide)
  have k8 : isW T t 2 = true ↔ z = 8 := kw2 8 (by decide)
  have k9 : isW T t 3 = true ↔ z = 9 := kw2 9 (by decide)
  have k10 : isW T t 4 = true ↔ z = 10 := kw2 10 (by decide)
  have k11 : isW T t 5 = true ↔ z = 11 := kw2 11 (by decide)
  have k12 : isW T t 6 = true ↔ z = 12 := kw2 12 (by decide)
  unfold X12_line
  simp only [LT, zI_neg]
  rw [kw, Option.bind_some]
  dsimp only
  have hlk : lkT T t = if z = 6 then 0 else if z = 7 then 1 else if z = 8 then 2 else if z = 9 then 3 else if z = 10 then 4 else if z = 11 then 5 else if z = 12 then 6 else 7 := by
    unfold lkT
    simp only [k6, k7, k8, k9, k10, k11, k12]
  by_cases z6 : z = 6
  · subst z6
    rw [iqp (by omega)]
    have hk : lkT T t = 0 := by (try dsimp only); rw [hlk]; rfl
    unfold lnA
    rw [hk, if_neg (by omega), if_pos (by omega)]
    exact rm_once (w := 0) hT hN (by omega) hI hJ hv htp h
  rw [iqn (by omega)]
  rw [if_neg z6] at hlk
  by_cases z7 : z = 7
  · subst z7
    rw [iqp (by omega)]
    have hk : lkT T t = 1 := by (try dsimp only); rw [hlk]; rfl
    unfold lnA
    rw [hk, if_neg (by omega), if_pos (by omega)]
    exact rm_once (w := 1) hT hN (by omega) hI hJ hv htp h
  rw [iqn (by omega)]
  rw [if_neg z7] at hlk
  by_cases z8 : z = 8
  · subst z8
    rw [inn (by omega)]
    have hk : lkT T t = 2 := by (try dsimp only); rw [hlk]; rfl
    unfold lnA
    rw [hk, if_neg (by omega), if_pos (by omega)]
    exact rm_once (w := 2) hT hN (by omega) hI hJ hv htp h
  rw [inp (by omega)]
  rw [if_neg z8] at hlk
  by_cases z9 : z = 9
  · subst z9
    rw [inn (by omega)]
    have hk : lkT T t = 3 := by (try dsimp only); rw [hlk]; rfl
    unfold lnA
    rw [hk, if_neg (by omega), if_neg (by omega)]
    exact rm_fan hT hN hI hJ hv htp h
  rw [inp (by omega)]
  rw [if_neg z9] at hlk
  by_cases z10 : z = 10
  · subst z10
    rw [iqp (by omega)]
    have hk : lkT T t = 4 := by (try dsimp only); rw [hlk]; rfl
    unfold lnA
    rw [hk, if_neg (by omega), if_neg (by omega)]
    exact rm_rule (w := 1) hT hN (Or.inl rfl) hI hJ hv h0 htp h
  rw [iqn (by omega)]
  rw [if_neg z10] at hlk
  by_cases z11 : z = 11
  · subst z11
    rw [inn (by omega)]
    have hk : lkT T t = 5 := by (try dsimp only); rw [hlk]; rfl
    unfold lnA
    rw [hk, if_neg (by omega), if_neg (by omega)]
    exact rm_rule (w := 2) hT hN (Or.inr rfl) hI hJ hv h0 htp h
  rw [inp (by omega)]
  rw [if_neg z11] at hlk
  by_cases z12 : z = 12
  · subst z12
    rw [inn (by omega)]
    have hk : lkT T t = 6 := by (try dsimp only); rw [hlk]; rfl
    unfold lnA
    rw [hk, if_neg (by omega), if_neg (by omega)]
    exact rm_weights hT hN hI hJ hv htp h
  rw [inp (by omega)]
  rw [if_neg z12] at hlk
  unfold lnA
  rw [hlk, if_pos rfl]
  obtain ⟨m1, e1, B1, f1, o1⟩ := rm_wrong (f := 1) hT h
  have e1 : X12_wrong e q (zI 1) m = some m1 := e1
  rw [e1, Option.bind_some, rm_end_no hT B1 (by omega)]
  exact ev_ret ⟨f1, by simp, hv, fun _ => B1, fun hz => absurd hz (by simp)⟩
/-- behind all lines -/
def raO (q n : Nat) (T : Nat → Nat) (m : mm_V) (X : Nat × Nat × RD) (m' : mm_V) : Prop := fmC q m m' ∧ ((1 ≤ X.1 ∧ X.1 ≤ 5 ∧ X.2.1 ≤ n ∧ rmB m' q X.1 X.2.1) ∨ ∃ (t : TK) (R : RD) (tp : Nat), t.1 = 0 ∧ tkV T n t ∧ rdI R ∧ rdJ R ∧ tp ≤ 1250 ∧ rmR m' q n T t tp R ∧ X = (if R.1.2.2.2 = true ∧ alC R.2.2.1 = false then (6, n, R) else (0, n, R)))
theorem rm_lines {m0 : mm_V} (hT : modT e.1 q) (hN : 1000 < e.2.2) : ∀ (k : Nat) (t : TK) (R : RD) (m : mm_V) (tp nn F : Nat), muT n t = k → k + 1 < nn → k < F → tkV T n t → rdI R → rdJ R → (1 ≤ tp ∧ tp ≤ 2 * t.2.1 + 1) → fmC q m0 m → rmR m q n T t tp R → ∃ m1, X12_table_L185 e q (zI n) nn m = X12_table_b206 e q (zI n) m1 ∧ raO q n T m0 (rdA T n F t R) m1 := by
  intro k
  induction k using Nat.strongRecOn with
  | _ k ih =>
    intro t R m tp nn F hmu hnn hF hv hI hJ htp hfr hC
    obtain ⟨nn, rfl⟩ : ∃ n', nn = n' + 1 := ⟨nn - 1, by omega⟩
    obtain ⟨F, rfl⟩ : ∃ n', F = n' + 1 := ⟨F - 1, by omega⟩
    have hn6 := hC.2.2.1.1
    have hv0 := hv.1
    have hv2 := hv.2.1
    have hv4 := hv.2.2.1
    rw [X12_table_L185, rdA]
    simp only [LT, zI_neg]
    rw [rm_good hT hC, Option.bind_some]
    dsimp only
    rw [if_neg (show ¬ zI 1 = zI 0 by decide), rd_gi hT.me hC.2.1.2.2.1, Option.bind_some]
    by_cases h0 : t.1 = 0
    · rw [if_pos h0, iqp (by omega)]
      exact ⟨m, rfl, hfr, Or.inr ⟨t, R, tp, h0, hv, hI, hJ, by omega, hC, rfl⟩⟩
    · rw [if_neg h0, iqn (by omega)]
      have hv5 := hv.2.2.2.2.1 h0
      obtain ⟨m1, e1, f1, x1, x2, x3, x4⟩ := rm_line hT hN hI hJ hv h0 htp hC
      rw [e1, Option.bind_some]
      generalize lnA T n t R = X at x1 x2 x3 x4
      have w0 := x2.1
      have w2 := x2.2.1
      by_cases hX : X.1 = 0
      · rw [if_neg (show ¬ (X.1 ≠ 0) from fun h => h hX)]
        obtain ⟨⟨y1, y1'⟩, y2, y3, tp', y4, y5, y6⟩ := x4 hX
        obtain ⟨hv1, hb1⟩ := tok_V T (b := X.2.1.2.2) w2
        have hmu' : muT n (tok T n X.2.1.2.2) < muT n t := by
          have h5 := hv1.2.2.2.2.1
          have h22 := hv1.2.1
          unfold muT
          rw [if_neg h0]
          split
          · omega
          · have := h5 (by assumption); omega
        exact ih _ (by omega) (tok T n X.2.1.2.2) X.2.2 m1 tp' nn F rfl (by omega) (by omega) hv1 y1 y1' ⟨y4, by omega⟩ (hfr.trans f1) y6
      · rw [if_pos (show X.1 ≠ 0 from hX)]
        obtain ⟨nn, rfl⟩ : ∃ n', nn = n' + 1 := ⟨nn - 1, by omega⟩
        have B1 := x3 hX
        refine ⟨m1, ?_, hfr.trans f1, Or.inl ⟨by simp only; omega, x1, by simp only; omega, B1⟩⟩
        rw [X12_table_L185]
        simp only [LT, zI_neg]
        rw [rm_bad hT B1 (by omega), Option.bind_some]
        dsimp only
        rw [if_pos (show zI 0 = zI 0 from rfl)]
end RDO
