/-! THE READER of the model: a fan told. -/
def mcO (q n : Nat) (T : Nat → Nat) (t0 : TK) (tp : Nat) (m : mm_V) (X : LX) (m' : mm_V) : Prop := fmC q m m' ∧ X.1 ≤ 5 ∧ tkV T n X.2.1 ∧ ((X.1 ≠ 0 ∧ rmB m' q X.1 X.2.1.2.1) ∨ (X.1 = enF T X.2.1 ∧ (rdI X.2.2 ∧ rdJ X.2.2) ∧ t0.2.2 ≤ X.2.1.2.1 ∧ rmR m' q n T X.2.1 tp X.2.2))
section RDN
variable {e : mm_E} {q n tp : Nat} {T : Nat → Nat} {t : TK} {R : RD}
theorem has_loop {p c i : Nat} {l : List Nat} {k23 : Int32 → Int32 → mm_V → Option mm_V} {i3 : Int32} {m : mm_V} (hT : modT e.1 q) (hS : modS m q) (hp : p < 6) (hl : l.length = i) (hi : i ≤ 10) (hc : c < 1000) (hb : ∀ x ∈ l, x < 1000) (hF : newF m q p l) : ∀ (d j nn : Nat) (b : Bool), j + d = i → d < nn → X12_readsFan_L166 e k23 q (zI p) (zI i) i3 (zI c) nn (bZ b) (zI j) m = (if b = true ∨ c ∈ l.drop j then (X12_wrong e q (zI 4) m).bind fun r1 => X12_readsFan_b219 e k23 q (zI p) (zI i) i3 (zI c) r1 else X12_readsFan_b219 e k23 q (zI p) (zI i) i3 (zI c) m) := by
  intro d
  induction d with
  | zero =>
    intro j nn b hj hnn
    obtain ⟨nn, rfl⟩ : ∃ n', nn = n' + 1 := ⟨nn - 1, by omega⟩
    rw [X12_readsFan_L166]
    simp only [LT, zI_neg]
    rw [iep (by omega), List.drop_of_length_le (by omega)]
    cases b with
    | true => rw [if_neg (show ¬ bZ true = zI 0 by decide), if_pos (Or.inl rfl)]
    | false => rw [if_pos (show bZ false = zI 0 from rfl), if_neg (by simp)]
  | succ d ih =>
    intro j nn b hj hnn
    obtain ⟨nn, rfl⟩ : ∃ n', nn = n' + 1 := ⟨nn - 1, by omega⟩
    rw [X12_readsFan_L166]
    unfold X12_readsFan_b196 X12_readsFan_b201
    simp only [LT, zI_neg]
    rw [ien (by omega), show (zI (j : Int) + zI 1 : Int32) = zI ((j + 1 : Nat) : Int) from zI_add _ _]
    have hjl : j < l.length := by omega
    have hd : l.drop j = l[j] :: l.drop (j + 1) := List.drop_eq_getElem_cons hjl
    cases b with
    | true =>
      rw [if_pos (show ¬ bZ true = zI 0 by decide)]
      have := ih (j + 1) nn true (by omega) (by omega)
      rw [if_pos (Or.inl rfl)] at this ⊢
      exact this
    | false =>
      rw [if_neg (show ¬ ¬ bZ false = zI 0 from fun h => h rfl), rd_gr hT.me hS.newFan_, Option.bind_some]
      have hz : (zI 20 * zI (p : Int) + zI (j : Int) + zI 1 : Int32) = zI ((20 * p + j + 1 : Nat) : Int) := by (try dsimp only); rw [zI_mul, zI_add, zI_add]; congr 1
      rw [hz, rd_ai hT.newFan_ (i := 20 * p + j + 1) rfl (by omega) (by omega) (hF.2 j l[j] (List.getElem?_eq_getElem hjl)), Option.bind_some]
      have hbl := hb l[j] (List.getElem_mem hjl)
      by_cases hcj : l[j] = c
      · rw [inn (by omega)]
        have := ih (j + 1) nn true (by omega) (by omega)
        rw [if_pos (Or.inl rfl)] at this
        rw [if_pos (show false = true ∨ c ∈ l.drop j from Or.inr (by (try dsimp only); rw [hd, hcj]; exact List.mem_cons_self))]
        exact this
      · rw [inp (by omega)]
        have := ih (j + 1) nn false (by omega) (by omega)
        by_cases hm : c ∈ l.drop (j + 1)
        · rw [if_pos (Or.inr hm)] at this
          rw [if_pos (show false = true ∨ c ∈ l.drop j from Or.inr (by rw [hd]; exact List.mem_cons_of_mem _ hm))]
          exact this
        · rw [if_neg (fun h => h.elim (fun h => (by cases h)) hm)] at this
          rw [if_neg (show ¬ (false = true ∨ c ∈ l.drop j) from fun h => h.elim (fun h => (by cases h)) (fun h => by
            rw [hd, List.mem_cons] at h
            exact h.elim (fun h' => hcj h'.symm) hm))]
          exact this
theorem newF.snoc {m m' : mm_V} {p c : Nat} {l : List Nat} (h : newF m q p l) (h0 : m' (q + 8) (20 * p) = .int (zI (l.length + 1 : Nat))) (h1 : m' (q + 8) (20 * p + l.length + 1) = .int (zI c)) (hk : ∀ j, j ≠ 20 * p → j ≠ 20 * p + l.length + 1 → m' (q + 8) j = m (q + 8) j) : newF m' q p (l ++ [c]) := by
  refine ⟨by (try dsimp only); rw [h0, List.length_append, List.length_singleton], fun k x hx => ?_⟩
  by_cases hkl : k < l.length
  · rw [List.getElem?_append_left hkl] at hx
    rw [hk _ (by omega) (by omega)]
    exact h.2 k x hx
  · rw [List.getElem?_append_right (by omega)] at hx
    have h2 : k - l.length = 0 := by
      by_cases h0 : k - l.length = 0
      · exact h0
      · rw [List.getElem?_eq_none (by (try dsimp only); rw [List.length_singleton]; omega)] at hx; cases hx
    rw [h2] at hx
    have : c = x := by simpa using hx
    rw [← this, show 20 * p + k + 1 = 20 * p + l.length + 1 by omega]
    exact h1
theorem rm_fan_loop {p : Nat} {t0 : TK} {m0 : mm_V} (hT : modT e.1 q) (hN : 1000 < e.2.2) : ∀ (k : Nat) (t : TK) (R : RD) (m : mm_V) (i nn F : Nat), muT n t = k → i = (R.2.1 p).length → k + 1 < nn → k < F → tkV T n t → rdI R → p < R.1.1 → R.2.2.2.2.1 = true → rdJ R → R.2.2.2.1 (18 + p) = true → t0.2.2 ≤ t.2.1 → fmC q m0 m → rmR m q n T t tp R → Ev (X12_readsFan_L23 e q (zI p) nn (zI i) (zI 1) m) (mcO q n T t0 tp m0 (cdL T n p F t R)) := by
  intro k
  induction k using Nat.strongRecOn with
  | _ k ih =>
    intro t R m i nn F hmu hi hnn hF hv hI hp hpt hJ htl ht0 hfr hC
    obtain ⟨nn, rfl⟩ : ∃ n', nn = n' + 1 := ⟨nn - 1, by omega⟩
    obtain ⟨F, rfl⟩ : ∃ n', F = n' + 1 := ⟨F - 1, by omega⟩
    have hP9 := hI.2.1
    have hN6 := hI.1
    have hv2 := hv.2.1
    have hv4 := hv.2.2.1
    have hlen := hI.len p
    obtain ⟨c1, c2, c3, c4, c5, c6, c7⟩ := id hC
    obtain ⟨a1, a2, a3, a4, a5, a6, a7, a9, a11, a12, a13, a14⟩ := id c7
    have hn6 := c3.1
    have hkb := tkC_bd c3 hv
    obtain ⟨z, kw, kz, kz2, kw2⟩ := X12_knownWord_eq (e := e) (m := m) hT c2 hv hn6 hN
    have kq := kw2 13 (by decide)
    have hkz : isW T t 7 = true ↔ z = 13 := kq
    rw [X12_readsFan_L23, cdL]
    unfold X12_readsFan_b271
    simp only [LT, zI_neg]
    refine ev_iqn (x := 1) rfl rfl (by omega) (ev_eq (rm_good hT hC) (ev_iqn (x := 1) rfl rfl (by omega) (ev_eq kw ?_)))
    -- the loop comes to its end
    have out : ∀ X : LX, X = (enF T t, t, R) → ∀ i4 : Int32, Ev (X12_readsFan_b68 e (X12_readsFan_L23 e q (zI p) nn) q (zI p) (zI i) i4 (zI 0) m) (mcO q n T t0 tp m0 X) := by
      intro X hX i4
      unfold X12_readsFan_b68
      simp only [LT, zI_neg]
      obtain ⟨nn, rfl⟩ : ∃ n', nn = n' + 1 := ⟨nn - 1, by omega⟩
      refine ev_nT ?_
      rw [X12_readsFan_L23]
      unfold X12_readsFan_b271
      simp only [LT, zI_neg]
      rw [hX]
      have := enF_le T t
      exact ev_T (ev_ret ⟨hfr, by simp only; omega, hv, Or.inr ⟨rfl, ⟨hI, hJ⟩, ht0, hC⟩⟩)
    -- a card that may stand
    have card : ∀ (qn : Bool) (c : Nat), t.1 ≠ 0 → c ≤ R.1.2.1 → (qn = true ↔ c = 0) → (qn = false → m q 18 = .int (zI c)) → Ev (X12_readsFan_b113 e (X12_readsFan_L23 e q (zI p) nn) q (zI p) (zI i) (zI 1) (bZ qn) m) (mcO q n T t0 tp m0 (if c ∈ R.2.1 p ∨ (if c = 0 then 1 else 2) ≤ R.2.2.1 c then (4, t, R) else cdL T n p F (tok T n t.2.2) (sCd p c R))) := by
      intro qn c h0 hc hq h18
      have hcn := hI.2.2.2.2.2.2.2.2.2.2 c
      have hcn2 := hI.two c
      have hro : c ∉ R.2.1 p → (R.2.1 p).length < 10 := hI.room hc
      have hcc := a12 c (by omega)
      unfold X12_readsFan_b113
      simp only [LT, zI_neg]
      refine ev_eq (rm_good hT hC) (ev_inp (x := 1) (y := 0) rfl rfl (by omega) ?_)
      -- the copies told
      have b134 : Ev (X12_readsFan_b134 e (X12_readsFan_L23 e q (zI p) nn) q (zI p) (zI i) (zI 1) (bZ qn) (zI c) m) (mcO q n T t0 tp m0 (if c ∈ R.2.1 p ∨ (if c = 0 then 1 else 2) ≤ R.2.2.1 c then (4, t, R) else cdL T n p F (tok T n t.2.2) (sCd p c R))) := by
        unfold X12_readsFan_b134 X12_readsFan_b153 X12_readsFan_b161
        simp only [LT, zI_neg]
        refine ev_gr hT.me c1.copiesOf_ (ev_ai c hT.copiesOf_ rfl (by omega) (by omega) hcc ?_)
        have L : ∀ b : Bool, (b = true ↔ (if c = 0 then 1 else 2) ≤ R.2.2.1 c) → Ev (X12_readsFan_L166 e (X12_readsFan_L23 e q (zI p) nn) q (zI p) (zI i) (zI 1) (zI c) e.2.2 (bZ b) (zI (0 : Nat)) m) (mcO q n T t0 tp m0 (if c ∈ R.2.1 p ∨ (if c = 0 then 1 else 2) ≤ R.2.2.1 c then (4, t, R) else cdL T n p F (tok T n t.2.2) (sCd p c R))) := by
          intro b hb
          refine ev_is (has_loop (l := R.2.1 p) hT c1 (by omega) hi.symm (by omega) (by omega) (fun x hx => by have := hI.2.2.2.2.1 p x hx; omega) (a11 p (by omega)) i 0 e.2.2 b (by omega) (by omega)) ?_
          rw [List.drop_zero]
          by_cases hbad : c ∈ R.2.1 p ∨ (if c = 0 then 1 else 2) ≤ R.2.2.1 c
          · rw [if_pos hbad, if_pos (hbad.elim Or.inr (fun h => Or.inl (hb.mpr h)))]
            refine ev_call (rm_wrong (f := 4) hT hC) ?_
            rintro m1 ⟨B1, f1, o1⟩
            unfold X12_readsFan_b219
            simp only [LT, zI_neg]
            exact ev_eq (rm_bad hT B1 (by omega)) (ev_inn (x := 0) rfl rfl (by omega) (ev_ret ⟨hfr.trans f1, by simp, hv, Or.inl ⟨by simp, B1⟩⟩))
          · rw [if_neg hbad, if_neg (fun h => hbad (h.elim (fun h => Or.inr (hb.mp h)) Or.inl))]
            have hno : c ∉ R.2.1 p := fun h => hbad (Or.inl h)
            have hlt : R.2.2.1 c < (if c = 0 then 1 else 2) := by
              have : ¬ (if c = 0 then 1 else 2) ≤ R.2.2.1 c := fun h => hbad (Or.inr h)
              omega
            have hro := hro hno
            unfold X12_readsFan_b219
            simp only [LT, zI_neg]
            have hz1 : (zI 20 * zI (p : Int) + (zI (i : Int) + zI 1) : Int32) = zI ((20 * p + i + 1 : Nat) : Int) := by (try dsimp only); rw [zI_mul, zI_add, zI_add]; congr 1 <;> omega
            have hz2 : (zI 20 * zI (p : Int) : Int32) = zI ((20 * p : Nat) : Int) := by (try dsimp only); rw [zI_mul]; congr 1
            rw [hz1, hz2, show (zI (i : Int) + zI 1 : Int32) = zI ((i + 1 : Nat) : Int) from zI_add _ _]
            refine ev_eq (rm_good hT hC) (ev_inp (x := 1) (y := 0) rfl rfl (by omega) (ev_gr hT.me c1.newFan_ (ev_si (20 * p + i + 1) hT.newFan_ rfl (by omega) (by omega) (ev_gr hT.me (v := q + 8) (by (try dsimp only); rw [up_row _ _ _ (by omega)]; exact c1.newFan_) (ev_si (20 * p) hT.newFan_ rfl (by omega) (by omega) (ev_gr hT.me (v := q + 11) (by (try dsimp only); rw [up_row _ _ _ (by omega), up_row _ _ _ (by omega)]; exact c1.copiesOf_) (ev_ai c hT.copiesOf_ rfl (by omega) (by omega) (by (try dsimp only); rw [up_row _ _ _ (by omega), up_row _ _ _ (by omega)]; exact hcc) (ev_si c hT.copiesOf_ rfl (by omega) (by omega) ?_))))))))
            rw [show (zI (R.2.2.1 c : Int) + zI 1 : Int32) = zI ((R.2.2.1 c + 1 : Nat) : Int) from zI_add _ _]
            generalize hm2 : mm_up (mm_up (mm_up m (q + 8) (20 * p + i + 1) (.int (zI c))) (q + 8) (20 * p) (.int (zI ((i + 1 : Nat) : Int)))) (q + 11) c (.int (zI ((R.2.2.1 c + 1 : Nat) : Int))) = m2
            have o2 : ∀ b, b ≠ q + 8 → b ≠ q + 11 → m2 b = m b := fun b x1 x2 => by (try dsimp only); rw [← hm2, up_row _ _ _ x2, up_row _ _ _ x1, up_row _ _ _ x1]
            have w0 : m2 (q + 8) (20 * p) = .int (zI ((i + 1 : Nat) : Int)) := by (try dsimp only); rw [← hm2, up_row _ _ _ (by omega), up_at]
            have w1 : m2 (q + 8) (20 * p + i + 1) = .int (zI c) := by (try dsimp only); rw [← hm2, up_row _ _ _ (by omega), up_ne _ _ (by omega), up_at]
            have w2 : ∀ j, j ≠ 20 * p → j ≠ 20 * p + i + 1 → m2 (q + 8) j = m (q + 8) j := fun j x1 x2 => by (try dsimp only); rw [← hm2, up_row _ _ _ (by omega), up_ne _ _ (Or.inr x1), up_ne _ _ (Or.inr x2)]
            have w3 : m2 (q + 11) c = .int (zI ((R.2.2.1 c + 1 : Nat) : Int)) := by (try dsimp only); rw [← hm2, up_at]
            have w4 : ∀ j, j ≠ c → m2 (q + 11) j = m (q + 11) j := fun j x => by (try dsimp only); rw [← hm2, up_ne _ _ (Or.inr x), up_row _ _ _ (by omega), up_row _ _ _ (by omega)]
            have C2 : rmR m2 q n T t tp (sCd p c R) := by
              have hq2 := o2 q (by omega) (by omega)
              refine ⟨c1.row hq2, c2.keep (fun k x1 x2 => by (try dsimp only); rw [hq2]), c3.keep (o2 _ (by omega) (by omega)), by (try dsimp only); rw [hq2]; exact c4, by (try dsimp only); rw [hq2]; exact c5, ⟨by (try dsimp only); rw [hq2]; exact c6.1, by (try dsimp only); rw [hq2]; exact c6.2⟩, by (try dsimp only); rw [hq2]; exact a1, by (try dsimp only); rw [hq2]; exact a2, by (try dsimp only); rw [hq2]; exact a3, by (try dsimp only); rw [hq2]; exact a4, by (try dsimp only); rw [hq2]; exact a5, by (try dsimp only); rw [hq2]; exact a6, by (try dsimp only); rw [hq2]; exact a7, by (try dsimp only); rw [hq2]; exact a9, fun p' hp' => ?_, fun x hx => ?_, fun j hj => by (try dsimp only); rw [o2 _ (by omega) (by omega)]; exact a13 j hj, fun k hk => (a14 k hk).keep (o2 _ (by omega) (by omega)) (o2 _ (by omega) (by omega))⟩
              · show newF m2 q p' (setF R.2.1 p (R.2.1 p ++ [c]) p')
                by_cases hpp : p' = p
                · subst hpp
                  rw [setF_at]
                  exact (a11 p' hp').snoc (by (try dsimp only); rw [← hi]; exact w0) (by (try dsimp only); rw [← hi]; exact w1) (fun j x1 x2 => w2 j x1 (by (try dsimp only); rw [hi]; exact x2))
                · rw [setF_ne _ _ hpp]
                  have hA := a11 p' hp'
                  have hl' := hI.len p'
                  refine ⟨by (try dsimp only); rw [w2 _ (by omega) (by omega)]; exact hA.1, fun k x hx => ?_⟩
                  have := (List.getElem?_eq_some_iff.mp hx).1
                  rw [w2 _ (by omega) (by omega)]; exact hA.2 k x hx
              · show m2 (q + 11) x = .int (zI (setF R.2.2.1 c (R.2.2.1 c + 1) x : Nat))
                by_cases hxc : x = c
                · rw [hxc, setF_at]; exact w3
                · rw [setF_ne _ _ hxc, w4 _ hxc]; exact a12 x hx
            have f2 : fmC q m m2 := fmC.mk (fun b x1 x2 => o2 b (by omega) (by omega)) (fun k _ => by (try dsimp only); rw [o2 _ (by omega) (by omega)])
            refine ev_call (rm_goes hT hN hv C2) ?_
            rintro m3 ⟨C3, f3, o3⟩
            obtain ⟨hv1, hb1⟩ := tok_V T (b := t.2.2) hv.2.1
            have hmu' := muT_next (n := n) hv h0
            have hv0 := hv.1
            exact ih _ (by omega) (tok T n t.2.2) (sCd p c R) m3 (i + 1) nn F rfl (by show i + 1 = (setF R.2.1 p (R.2.1 p ++ [c]) p).length; rw [setF_at, List.length_append, List.length_singleton, ← hi]) (by omega) (by omega) hv1 (hI.sCd hp hc hno hlt hpt) hp hpt (hJ.sCd htl) htl (by omega) (hfr.trans (f2.trans f3)) C3
        -- how often it may be told
        have hcq : (qn = true ↔ c = 0) := hq
        cases qn with
        | true =>
          have hc0 : c = 0 := hcq.mp rfl
          rw [if_neg (show ¬ bZ true = zI 0 by decide)]
          have hc1 : R.2.2.1 c ≤ 1 := by (try dsimp only); rw [if_pos hc0] at hcn; exact hcn
          by_cases h1 : R.2.2.1 c = 1
          · exact ev_inn rfl rfl (by omega) (L true ⟨fun _ => by (try dsimp only); rw [if_pos hc0]; omega, fun _ => rfl⟩)
          · exact ev_inp rfl rfl (by omega) (L false ⟨fun h => (by cases h), fun h => by (try dsimp only); rw [if_pos hc0] at h; omega⟩)
        | false =>
          have hc0 : c ≠ 0 := fun h => by have := hcq.mpr h; cases this
          rw [if_pos (show bZ false = zI 0 from rfl)]
          by_cases h1 : R.2.2.1 c = 2
          · exact ev_inn rfl rfl (by omega) (L true ⟨fun _ => by (try dsimp only); rw [if_neg hc0]; omega, fun _ => rfl⟩)
          · exact ev_inp rfl rfl (by omega) (L false ⟨fun h => (by cases h), fun h => by (try dsimp only); rw [if_neg hc0] at h; omega⟩)
      cases qn with
      | true =>
        have hc0 : c = 0 := hq.mp rfl
        rw [if_neg (show ¬ bZ true = zI 0 by decide)]
        rw [hc0] at b134 ⊢
        exact b134
      | false =>
        rw [if_pos (show bZ false = zI 0 from rfl)]
        exact ev_gi hT.me (h18 rfl) b134
    have bad2 : tkV T n t → Ev (X12_readsFan_b108 e (X12_readsFan_L23 e q (zI p) nn) q (zI p) (zI i) (zI 1) (zI 0) m) (mcO q n T t0 tp m0 (2, t, R)) := by
      intro _
      unfold X12_readsFan_b108 X12_readsFan_b113
      simp only [LT, zI_neg]
      refine ev_call (rm_wrong (f := 2) hT hC) ?_
      rintro m1 ⟨B1, f1, o1⟩
      exact ev_eq (rm_bad hT B1 (by omega)) (ev_inn (x := 0) rfl rfl (by omega) (ev_ret ⟨hfr.trans f1, by simp, hv, Or.inl ⟨by simp, B1⟩⟩))
    unfold X12_readsFan_b48 X12_readsFan_b63
    simp only [LT, zI_neg]
    cases hw : isW T t 7 with
    | true =>
      have hz : z = 13 := hkz.mp hw
      have h1 : t.1 = 1 := isW_1 hw
      have hc0 : cdC T t = 0 := by unfold cdC; rw [if_pos hw]
      have h59 : tkC T t ≠ 59 := by have := (tkC_1 hv).mpr h1; omega
      rw [if_neg h59, if_neg (show ¬ (true = false ∧ nmF T t 1 R.1.2.1 ≠ 0) from fun h => by cases h.1), hc0]
      refine ev_inn (x := z) rfl rfl (by omega) (ev_inp (x := 1) (y := 0) rfl rfl (by omega) ?_)
      unfold X12_readsFan_b68
      simp only [LT, zI_neg]
      refine ev_inp (x := 1) (y := 0) rfl rfl (by omega) (ev_inp (x := 1) (y := 0) rfl rfl (by omega) ?_)
      exact card true 0 (by omega) (by omega) ⟨fun _ => rfl, fun _ => rfl⟩ (fun h => by cases h)
    | false =>
      have hz : z ≠ 13 := fun h => by have := hkz.mpr h; rw [hw] at this; cases this
      refine ev_inp (x := z) rfl rfl (by omega) (ev_nT (ev_gi hT.me c2.2.2.1 ?_))
      by_cases h2 : t.1 = 2
      · have h59 : tkC T t ≠ 59 := by have := (tkC_2 hv).mpr h2; omega
        have hcd : cdC T t = vaT T t := by unfold cdC; rw [if_neg (by (try dsimp only); rw [hw]; simp)]
        have hv0 := hv.1
        rw [if_neg h59, hcd]
        refine ev_inn rfl rfl (by omega) ?_
        unfold X12_readsFan_b68
        simp only [LT, zI_neg]
        refine ev_inp (x := 1) (y := 0) rfl rfl (by omega) (ev_nT (ev_gi hT.me c2.2.2.2.2.1 ?_))
        by_cases hl : 4 < t.2.2 - t.2.1
        · have hnf : nmF T t 1 R.1.2.1 = 2 := by unfold nmF; rw [if_neg (by omega), if_pos (by omega)]
          rw [if_pos (show True ∧ nmF T t 1 R.1.2.1 ≠ 0 from ⟨trivial, by omega⟩), hnf]
          exact ev_ilp rfl rfl (by omega) (bad2 hv)
        have hva := vaT_eq hv h2 (by omega)
        have h18 := c2.2.2.2.2.2.1 h2
        rw [show min (t.2.2 - t.2.1) 4 = t.2.2 - t.2.1 by omega, hva.1] at h18
        refine ev_iln rfl rfl (by omega) (ev_gi hT.me h18 ?_)
        by_cases hlo : vaT T t < 1
        · have hnf : nmF T t 1 R.1.2.1 = 2 := by unfold nmF; rw [if_neg (by omega), if_pos (by omega)]
          rw [if_pos (show True ∧ nmF T t 1 R.1.2.1 ≠ 0 from ⟨trivial, by omega⟩), hnf]
          exact ev_ilp rfl rfl (by omega) (bad2 hv)
        refine ev_iln rfl rfl (by omega) (ev_gi hT.me h18 (ev_gi hT.me a2 ?_))
        by_cases hhi : R.1.2.1 < vaT T t
        · have hnf : nmF T t 1 R.1.2.1 = 2 := by unfold nmF; rw [if_neg (by omega), if_pos (by omega)]
          rw [if_pos (show True ∧ nmF T t 1 R.1.2.1 ≠ 0 from ⟨trivial, by omega⟩), hnf]
          exact ev_ien rfl rfl (by omega) (bad2 hv)
        have hnf : nmF T t 1 R.1.2.1 = 0 := by unfold nmF; rw [if_neg (by omega), if_neg (by omega)]
        rw [if_neg (show ¬ (True ∧ nmF T t 1 R.1.2.1 ≠ 0) from fun h => h.2 hnf)]
        exact ev_iep rfl rfl (by omega) (card false (vaT T t) (by omega) (by omega) ⟨fun h => (by cases h), fun h => by omega⟩ (fun _ => h18))
      · refine ev_inp rfl rfl (by omega) (out _ ?_ _)
        have hnf : nmF T t 1 R.1.2.1 = 1 := by unfold nmF; rw [if_pos h2]
        unfold enF
        by_cases h59 : tkC T t = 59
        · rw [if_pos h59, if_pos h59]
        · rw [if_neg h59, if_neg h59, if_pos (show false = false ∧ nmF T t 1 R.1.2.1 ≠ 0 from ⟨rfl, by omega⟩), hnf]
theorem rm_fan {m : mm_V} (hT : modT e.1 q) (hN : 1000 < e.2.2) (hI : rdI R) (hJ : rdJ R) (hv : tkV T n t) (htp : 1 ≤ tp ∧ tp ≤ 2 * t.2.1 + 1) (h : rmR m q n T t tp R) : Ev ((X12_readsFan e q m).bind fun r4 => X12_line_b163 e q r4) (mlO q n T t m (lnP T n 3 t R)) := by
  have hv0 := hv.1
  obtain ⟨hv1, hb1⟩ := tok_V T (b := t.2.2) hv.2.1
  have hv10 := hv1.1
  have hph := phF_le T 0 (tok T n t.2.2) R
  unfold X12_readsFan
  obtain ⟨⟨v, m1⟩, e1, f1, o1, y1, y2⟩ := rm_person (w := 0) hT hN (by omega) hI hv h
  simp only [LT, zI_neg]
  have e1 : X12_personHere e q (zI 0) m = some (v, m1) := e1
  dsimp only at f1 o1 y1 y2
  rw [e1, Option.bind_some]
  dsimp only
  by_cases hp : phF T 0 (tok T n t.2.2) R = 0
  · obtain ⟨rfl, C1⟩ := y2 hp
    have hln : lnP T n 3 t R = cdL T n (vaT T (tok T n t.2.2)) 700 (tok T n (tok T n t.2.2).2.2) (sFt (sPt (sTl (6 * 3 + vaT T (tok T n t.2.2)) R))) ∧ vaT T (tok T n t.2.2) < R.1.1 ∧ R.2.2.2.1 (18 + vaT T (tok T n t.2.2)) = false := by
      unfold phF at hp
      unfold lnP lnQ
      by_cases z1 : nmF T (tok T n t.2.2) 0 9999 = 0
      · rw [if_neg (show ¬ (nmF T (tok T n t.2.2) 0 9999 ≠ 0) from fun h => h z1)] at hp ⊢
        by_cases z2 : R.1.1 ≤ vaT T (tok T n t.2.2)
        · rw [if_pos z2] at hp; omega
        · rw [if_neg z2] at hp ⊢
          by_cases z3 : R.2.2.2.1 (6 * (0 + 3) + vaT T (tok T n t.2.2)) = true
          · rw [if_pos z3] at hp; omega
          · rw [if_neg (show ¬ R.2.2.2.1 (6 * 3 + vaT T (tok T n t.2.2)) = true from z3), if_pos rfl]
            exact ⟨rfl, by omega, Bool.eq_false_iff.mpr z3⟩
      · rw [if_pos z1] at hp; exact absurd hp z1
    rw [hln.1]
    rw [rm_good hT C1, Option.bind_some, if_pos (show ¬ zI 1 = zI 0 by decide), wr_pz hT.me (x := zI 1) (Or.inr rfl), Option.bind_some]
    obtain ⟨hv2, hb2⟩ := tok_V T (b := (tok T n t.2.2).2.2) hv1.2.1
    have C2 : rmR (mm_up m1 q 29 (.int (zI 1))) q n T (tok T n (tok T n t.2.2).2.2) tp (sFt (sPt (sTl (6 * 3 + vaT T (tok T n t.2.2)) R))) := by
      have o2 : ∀ b, b ≠ q → (mm_up m1 q 29 (.int (zI 1))) b = m1 b := fun b hb => up_row _ _ _ hb
      have g2 : ∀ k, k ≠ 29 → (mm_up m1 q 29 (.int (zI 1))) q k = m1 q k := fun k x => up_ne _ _ (Or.inr x)
      obtain ⟨c1, c2, c3, c4, c5, c6, c7⟩ := C1
      obtain ⟨a1, a2, a3, a4, a5, a6, a7, a9, a11, a12, a13, a14⟩ := c7
      exact ⟨c1.up (by decide), c2.keep (fun k x1 x2 => g2 k (by omega)), c3.keep (o2 _ (by omega)), by (try dsimp only); rw [g2 _ (by omega)]; exact c4, by (try dsimp only); rw [g2 _ (by omega)]; exact c5, ⟨by (try dsimp only); rw [g2 _ (by omega)]; exact c6.1, by (try dsimp only); rw [g2 _ (by omega)]; exact c6.2⟩, by (try dsimp only); rw [g2 _ (by omega)]; exact a1, by (try dsimp only); rw [g2 _ (by omega)]; exact a2, by (try dsimp only); rw [g2 _ (by omega)]; exact a3, up_at _ _ _ _, by (try dsimp only); rw [g2 _ (by omega)]; exact a5, by (try dsimp only); rw [g2 _ (by omega)]; exact a6, by (try dsimp only); rw [g2 _ (by omega)]; exact a7, by (try dsimp only); rw [g2 _ (by omega)]; exact a9, fun p hp => (a11 p hp).same (o2 _ (by omega)), fun c hc => by (try dsimp only); rw [o2 _ (by omega)]; exact a12 c hc, fun i hi => by (try dsimp only); rw [o2 _ (by omega)]; exact a13 i hi, fun k hk => (a14 k hk).keep (o2 _ (by omega)) (o2 _ (by omega))⟩
    have f2 : fmC q m (mm_up m1 q 29 (.int (zI 1))) := f1.trans (fmC.own (fun b hb => up_row _ _ _ hb) (fun k hk => up_ne _ _ (Or.inr (by omega))))
    generalize mm_up m1 q 29 (.int (zI 1)) = m2 at C2 f2
    have hn := C2.2.2.1.1
    have hmu := muT_lt hv2 hn
    have hI2 : rdI (sFt (sPt (sTl (6 * 3 + vaT T (tok T n t.2.2)) R))) := (hI.sTl.sPt).sFt
    have hN6 := hI.1
    have hemp : R.2.1 (vaT T (tok T n t.2.2)) = [] := hJ _ (by omega) hln.2.2
    have htold : (sFt (sPt (sTl (6 * 3 + vaT T (tok T n t.2.2)) R))).2.2.2.1 (18 + vaT T (tok T n t.2.2)) = true := setF_at _ _ _
    obtain ⟨m3, e3, f3, x1, x2, x3⟩ := rm_fan_loop (tp := tp) (t0 := t) (m0 := m) (p := vaT T (tok T n t.2.2)) hT hN _ (tok T n (tok T n t.2.2).2.2) _ m2 0 e.2.2 700 rfl (by show 0 = (R.2.1 (vaT T (tok T n t.2.2))).length; rw [hemp]; rfl) (by omega) (by omega) hv2 hI2 hln.2.1 rfl hJ.sTl htold (by omega) f2 C2
    have e3 : X12_readsFan_L23 e q (zI (vaT T (tok T n t.2.2))) e.2.2 (zI 0) (zI 1) m2 = some m3 := e3
    rw [e3, Option.bind_some]
    generalize cdL T n (vaT T (tok T n t.2.2)) 700 (tok T n (tok T n t.2.2).2.2) (sFt (sPt (sTl (6 * 3 + vaT T (tok T n t.2.2)) R))) = X at x1 x2 x3
    rcases x3 with ⟨hX, B3⟩ | ⟨hX, G3, t3, C3⟩
    · rw [rm_end_no hT B3 (by omega)]
      exact ev_ret ⟨f3, x1, x2, fun _ => B3, fun hz => absurd hz hX⟩
    · refine ev_mono (rm_end hT hN x2 C3) ?_
      rintro m4 ⟨w1, w2, w3⟩
      exact ⟨f3.trans w1, x1, x2, fun hz => by (try dsimp only); rw [hX] at hz ⊢; exact w2 hz, fun hz => ⟨G3, t3, enF_59 (by (try dsimp only); rw [← hX]; exact hz), tp, htp.1, by omega, w3 (by (try dsimp only); rw [← hX]; exact hz)⟩⟩
  · obtain ⟨rfl, B1⟩ := y1 hp
    have hln : lnP T n 3 t R = (phF T 0 (tok T n t.2.2) R, tok T n t.2.2, R) := by
      unfold phF at hp ⊢
      unfold lnP
      by_cases z1 : nmF T (tok T n t.2.2) 0 9999 = 0
      · rw [if_neg (show ¬ (nmF T (tok T n t.2.2) 0 9999 ≠ 0) from fun h => h z1)] at hp ⊢
        rw [if_neg (show ¬ (nmF T (tok T n t.2.2) 0 9999 ≠ 0) from fun h => h z1)]
        by_cases z2 : R.1.1 ≤ vaT T (tok T n t.2.2)
        · rw [if_pos z2, if_pos z2]
        · rw [if_neg z2] at hp ⊢
          rw [if_neg z2]
          by_cases z3 : R.2.2.2.1 (6 * (0 + 3) + vaT T (tok T n t.2.2)) = true
          · rw [if_pos z3, if_pos (show R.2.2.2.1 (6 * 3 + vaT T (tok T n t.2.2)) = true from z3)]
          · rw [if_neg z3] at hp; exact absurd rfl hp
      · rw [if_pos z1, if_pos z1]
    rw [hln, rm_bad hT B1 (by omega), Option.bind_some, if_neg (show ¬ ¬ zI 0 = zI 0 from fun h => h rfl), Option.bind_some, rm_end_no hT B1 (by omega)]
    exact ev_ret ⟨f1, by simp only; omega, hv1, fun _ => B1, fun hz => absurd hz hp⟩
end RDN
