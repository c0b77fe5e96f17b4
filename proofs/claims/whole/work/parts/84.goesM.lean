/-! BELIEF of the model: one arrangement gone through draw by draw. -/
section GOESM
variable {e : mm_E} {q N P p : Nat} {H : List QR} {R : List PR}
def goP (o : Option (Nat → List Nat)) (x : Option (Int32 × mm_V)) (K : mm_V → Option (Int32 × mm_V)) (m : mm_V) (q : Nat) : Prop := match o with
  | some g => ∃ m', x = K m' ∧ rowF m' (q + 32) g ∧ ∀ b, b ≠ q + 32 → m' b = m b
  | none => ∃ m', x = some (zI 0, m') ∧ ∀ b, b ≠ q + 32 → m' b = m b
theorem X12_goes_66 (k2 : Int32 → mm_V → Option (Int32 × mm_V)) {m m1 : mm_V} {i s k c o dr x : Nat} {as : Bool} {g : Nat → List Nat} {v : QR} (hT : modT e.1 q) (hS : modS m1 q) (hA : mlogA m1 (q + 19) H) (hv : H[i]? = some v) (v5 : v 5 = zI c) (v6 : v 6 = bZ as) (v7 : as = false → v 7 = zI o) (F1 : rowF m1 (q + 32) (setF g s ((g s).eraseIdx k))) (hb : ∀ b, b ≠ q + 32 → m1 b = m b) (hsd : s ≠ dr) (hdr : dr < 6) (hx : x < 1000) (hc : c < 1000) (hq : x = 0 → idx x (g dr) = none) (hlt : ∀ y ∈ g dr, y < 1000) (hlen : (g dr).length ≤ 10) (ho : as = false → o ≤ (g dr).length ∧ (g dr).length < 10) (hN : 1000 < e.2.2) : goP (if as = true ∧ x ≠ c then none else match idx x (g dr) with | some j => if as = true then some (setF (setF g s ((g s).eraseIdx k)) dr ((g dr).eraseIdx j)) else none | none => if as = true then none else some (setF (setF g s ((g s).eraseIdx k)) dr ((g dr).insertIdx o x))) (X12_goesSo_b66 e k2 q (zI p) (zI i) (zI dr) (zI x) m1) (k2 (zI (i + 1 : Nat))) m q := by
  have d3 : X12_did e q (zI i) (zI 3) m1 = some (zI c, m1) := by have := X12_did_eq (e := e) hT hS hA hv (show 3 < 9 by omega); rw [show v (mperm 3) = v 5 from rfl, v5] at this; exact this
  have d4 : X12_did e q (zI i) (zI 4) m1 = some (bZ as, m1) := by have := X12_did_eq (e := e) hT hS hA hv (show 4 < 9 by omega); rw [show v (mperm 4) = v 6 from rfl, v6] at this; exact this
  have d5 : as = false → X12_did e q (zI i) (zI 5) m1 = some (zI o, m1) := fun h => by have := X12_did_eq (e := e) hT hS hA hv (show 5 < 9 by omega); rw [show v (mperm 5) = v 7 from rfl, v7 h] at this; exact this
  have hD : setF g s ((g s).eraseIdx k) dr = g dr := setF_ne _ _ (fun h => hsd h.symm)
  generalize hDD : setF g s ((g s).eraseIdx k) = D at F1 hD
  have t85 : X12_goesSo_b66 e k2 q (zI p) (zI i) (zI dr) (zI x) m1 = X12_goesSo_b85 e k2 q (zI p) (zI i) (zI dr) (zI x) (ozI (idx x (g dr))) m1 := by
    unfold X12_goesSo_b66
    rw [show (0 : Int32) = zI 0 from rfl]
    by_cases hx0 : x = 0
    · rw [iep (by omega), hq hx0]; rfl
    · rw [ien (by omega), rd_gr hT.me hS.gone_, Option.bind_some, X12_placeOf_eq hT.gone_ F1 hdr (by rw [hD]; exact hlt) hx (by omega), hD]; rfl
  rw [t85]
  cases hi : idx x (g dr) with
  | some j =>
    have hj := idx_bound hi
    cases as with
    | true =>
      by_cases hxc : x = c
      · rw [if_neg (by simp [hxc])]
        obtain ⟨m2, a1, a2, a3⟩ := X12_takes_eq (e := e) hT.gone_ F1 hdr (k := j) (c := x) (by rw [hD]; exact idx_lt hi) (by omega)
        rw [hD] at a2
        refine ⟨m2, ?_, a2, fun b h => by rw [a3.1 b h, hb b h]⟩
        unfold X12_goesSo_b85 X12_goesSo_b98 X12_goesSo_b113 X12_goesSo_b167
        simp only [LT, ozI, zI_neg]
        rw [iqn (by omega), d4, Option.bind_some]
        simp only [bZ, if_true, not_true_eq_false, if_false]
        rw [inp (by omega), d3, Option.bind_some]
        simp only
        rw [iqp (by omega), rd_gr hT.me hS.gone_, Option.bind_some, a1, Option.bind_some, zI_add]
        rfl
      · rw [if_pos ⟨rfl, hxc⟩]
        refine ⟨m1, ?_, hb⟩
        unfold X12_goesSo_b85 X12_goesSo_b98 X12_goesSo_b113 X12_goesSo_b167
        simp only [LT, ozI, zI_neg]
        rw [iqn (by omega), d4, Option.bind_some]
        simp only [bZ, if_true, not_true_eq_false, if_false]
        rw [inp (by omega), d3, Option.bind_some]
        simp only
        rw [iqn (by omega)]; rfl
    | false =>
      rw [if_neg (by simp)]
      refine ⟨m1, ?_, hb⟩
      unfold X12_goesSo_b85 X12_goesSo_b98 X12_goesSo_b113 X12_goesSo_b167
      simp only [LT, ozI, zI_neg]
      rw [iqn (by omega), d4, Option.bind_some]
      simp only [bZ, Bool.false_eq_true, if_false]
      rw [inp (by omega), iqn (by omega)]; rfl
  | none =>
    cases as with
    | true =>
      by_cases hxc : x = c
      · rw [if_neg (by simp [hxc])]
        refine ⟨m1, ?_, hb⟩
        unfold X12_goesSo_b85 X12_goesSo_b98 X12_goesSo_b113 X12_goesSo_b167
        simp only [LT, ozI, zI_neg, if_true]
        rw [d4, Option.bind_some]
        simp only [bZ, if_true, not_true_eq_false, if_false]
        rw [iqn (by omega)]; rfl
      · rw [if_pos ⟨rfl, hxc⟩]
        refine ⟨m1, ?_, hb⟩
        unfold X12_goesSo_b85 X12_goesSo_b98 X12_goesSo_b113 X12_goesSo_b167
        simp only [LT, ozI, zI_neg, if_true]
        rw [d4, Option.bind_some]
        simp only [bZ, if_true, not_true_eq_false, if_false]
        rw [iqn (by omega)]; rfl
    | false =>
      rw [if_neg (by simp)]
      obtain ⟨o1, o2⟩ := ho rfl
      obtain ⟨m2, a1, a2, a3⟩ := X12_inserts_eq (e := e) hT.gone_ F1 hdr (k := o) (c := x) (by rw [hD]; exact o1) (by rw [hD]; omega) (by omega)
      rw [hD] at a2
      refine ⟨m2, ?_, a2, fun b h => by rw [a3.1 b h, hb b h]⟩
      unfold X12_goesSo_b85 X12_goesSo_b98 X12_goesSo_b113 X12_goesSo_b167
      simp only [LT, ozI, zI_neg, if_true]
      rw [d4, Option.bind_some]
      simp only [bZ, Bool.false_eq_true, if_false]
      rw [inp (by omega)]
      simp only [if_true, not_true_eq_false, if_false]
      rw [rd_gr hT.me hS.gone_, Option.bind_some, d5 rfl, Option.bind_some, a1, Option.bind_some, zI_add]
      rfl
theorem X12_goesSo_loop (hT : modT e.1 q) (hH : hisD H R) (h6 : N ≤ 6) (hP : P ≤ 9) (hp6 : p < 6) (hN : 1000 < e.2.2) : ∀ (rs : List PR) (i nn : Nat) (m : mm_V) (g : Nat → List Nat), R.drop i = rs → i + rs.length = R.length → rs.length < nn → modS m q → mlogR m q H → rowF m (q + 32) g → tabI N P g → szH N rs (lenF g) → goP (rpl p rs g) (X12_goesSo_L2 e q (zI p) nn (zI i) m) (fun m' => some (zI 1, m')) m q ∧ ∀ g', rpl p rs g = some g' → tabI N P g' := by
  intro rs
  induction rs with
  | nil =>
    intro i nn m g hd hil hn hS hL hg htab hz
    obtain ⟨nn, rfl⟩ : ∃ n', nn = n' + 1 := ⟨nn - 1, by omega⟩
    have : i = R.length := by simpa using hil
    have h60 := hL.2.1
    refine ⟨⟨m, ?_, hg, fun _ _ => rfl⟩, fun g' h => by cases h; exact htab⟩
    rw [X12_goesSo_L2, rd_gi hT.me hL.1, Option.bind_some, iep (by have := hH.1; omega)]; rfl
  | cons r rs ih =>
    intro i nn m g hd hil hn hS hL hg htab hz
    obtain ⟨nn, rfl⟩ : ∃ n', nn = n' + 1 := ⟨nn - 1, by omega⟩
    rw [List.length_cons] at hil hn
    have hi : i < R.length := by omega
    have hri : R[i]? = some r := by
      have : (R.drop i)[0]? = some r := by rw [hd]; rfl
      rwa [List.getElem?_drop, Nat.add_zero] at this
    have hd' : R.drop (i + 1) = rs := by
      rw [← List.drop_drop, hd]
      rfl
    have hiH : i < H.length := by rw [hH.1]; exact hi
    have hvi := List.getElem?_eq_getElem hiH
    have hrec := hH.2 i _ r hvi hri
    generalize H[i] = v at hvi hrec
    have h60 := hL.2.1
    have hw2 := fun g' => wnt_ok (p := p) (g' := g') htab hz.1
    obtain ⟨z1, z2, z3, z4, z5, z6⟩ := id hz.1
    have hzz := hz.2
    generalize hr : r = r' at hzz hw2
    obtain ⟨dr, s, k, c, as, o⟩ := r
    obtain ⟨v0, v1, v2, v5, v6, v7⟩ := hrec
    simp only at z1 z2 z3 z4 z5 z6 v0 v1 v2 v5 v6 v7
    have z4' : k < (g s).length := z4
    have hx := List.getElem?_eq_getElem z4'
    generalize hxx : (g s)[k] = x at hx
    have hxlt := htab.lt hP s x (List.mem_of_getElem? hx)
    obtain ⟨m1, a1, a2, a3⟩ := X12_takes_eq (e := e) hT.gone_ hg (show s < 6 by omega) hx (by omega)
    have b1 : ∀ b, b ≠ q + 32 → m1 b = m b := a3.1
    have S1 : modS m1 q := hS.keep (fun _ _ _ => by rw [b1 _ (by omega)])
    have A1 : mlogA m1 (q + 19) H := hL.2.keep (b1 _ (by omega))
    have g66 := X12_goes_66 (e := e) (p := p) (X12_goesSo_L2 e q (zI p) nn) (m := m) hT S1 A1 hvi v5 v6 v7 a2 b1 z3 (by omega) hxlt z5 (fun h => htab.queen z3 hx h) (htab.lt hP dr) (htab.len hP dr) z6 hN
    have d0 : X12_did e q (zI i) (zI 0) m = some (zI dr, m) := by have := X12_did_eq (e := e) hT hS hL.2 hvi (show 0 < 9 by omega); rw [show v (mperm 0) = v 0 from rfl, v0] at this; exact this
    have d1 : X12_did e q (zI i) (zI 1) m = some (zI s, m) := by have := X12_did_eq (e := e) hT hS hL.2 hvi (show 1 < 9 by omega); rw [show v (mperm 1) = v 1 from rfl, v1] at this; exact this
    have d2 : X12_did e q (zI i) (zI 2) m = some (zI k, m) := by have := X12_did_eq (e := e) hT hS hL.2 hvi (show 2 < 9 by omega); rw [show v (mperm 2) = v 2 from rfl, v2] at this; exact this
    have d3 : X12_did e q (zI i) (zI 3) m1 = some (zI c, m1) := by have := X12_did_eq (e := e) hT S1 A1 hvi (show 3 < 9 by omega); rw [show v (mperm 3) = v 5 from rfl, v5] at this; exact this
    have start : ∀ y, (if zI p = zI dr then (X12_goesSo_b53 e (X12_goesSo_L2 e q (zI p) nn) q (zI p) (zI i) (zI dr) (zI x) m1) else (if ¬ zI p = zI s then (X12_goesSo_b66 e (X12_goesSo_L2 e q (zI p) nn) q (zI p) (zI i) (zI dr) (zI x) m1) else (X12_goesSo_b53 e (X12_goesSo_L2 e q (zI p) nn) q (zI p) (zI i) (zI dr) (zI x) m1))) = y → X12_goesSo_L2 e q (zI p) (nn + 1) (zI i) m = y := by
      intro y hy
      rw [X12_goesSo_L2, rd_gi hT.me hL.1, Option.bind_some]
      simp only [LT]
      rw [ien (by have := hH.1; omega), d0, Option.bind_some, d1, Option.bind_some, rd_gr hT.me hS.gone_, Option.bind_some, d2, Option.bind_some, a1, Option.bind_some]
      exact hy
    have hW : wnt p (dr, s, k, c, as, o) g = if (as = true ∨ dr = p ∨ s = p) ∧ x ≠ c then none else match idx x (g dr) with
      | some j => if as = true then some (setF (setF g s ((g s).eraseIdx k)) dr ((g dr).eraseIdx j)) else none
      | none => if as = true then none else some (setF (setF g s ((g s).eraseIdx k)) dr ((g dr).insertIdx o x)) := by
      unfold wnt; simp only; rw [hx]; rfl
    have one : goP (wnt p (dr, s, k, c, as, o) g) (X12_goesSo_L2 e q (zI p) (nn + 1) (zI i) m) (X12_goesSo_L2 e q (zI p) nn (zI (i + 1 : Nat))) m q := by
      by_cases hk : dr = p ∨ s = p
      · have hgo : X12_goesSo_L2 e q (zI p) (nn + 1) (zI i) m = X12_goesSo_b53 e (X12_goesSo_L2 e q (zI p) nn) q (zI p) (zI i) (zI dr) (zI x) m1 := by
          refine start _ ?_
          by_cases h1 : dr = p
          · rw [iqp (by omega)]
          · rw [iqn (by omega), inn (by omega)]
        rw [hgo]
        unfold X12_goesSo_b53
        simp only [LT]
        rw [d3, Option.bind_some, hW]
        simp only
        by_cases hxc : x = c
        · rw [iqp (by omega)]
          rw [if_neg (by simp [hxc])] at g66
          rw [if_neg (by simp [hxc])]
          exact g66
        · rw [iqn (by omega), if_pos ⟨Or.inr hk, hxc⟩]
          exact ⟨m1, rfl, b1⟩
      · have hgo : X12_goesSo_L2 e q (zI p) (nn + 1) (zI i) m = X12_goesSo_b66 e (X12_goesSo_L2 e q (zI p) nn) q (zI p) (zI i) (zI dr) (zI x) m1 := by
          refine start _ ?_
          rw [iqn (by omega), inp (by omega)]
        rw [hgo, hW]
        have hcc : ((as = true ∨ dr = p ∨ s = p) ∧ x ≠ c) = (as = true ∧ x ≠ c) := by
          have h1 : ¬ dr = p := fun h => hk (Or.inl h)
          have h2 : ¬ s = p := fun h => hk (Or.inr h)
          simp [h1, h2]
        simp only [hcc]
        exact g66
    rw [rpl]
    rw [hr] at one
    subst hr
    cases hw : wnt p (dr, s, k, c, as, o) g with
    | none =>
      rw [hw] at one
      exact ⟨one, fun g' h => by cases h⟩
    | some g2 =>
      rw [hw] at one
      obtain ⟨m2, c1, c2, c3⟩ := one
      obtain ⟨ht2, hl2⟩ := hw2 g2 hw
      obtain ⟨i1, i2⟩ := ih (i + 1) nn m2 g2 hd' (by omega) (by omega) (hS.keep (fun _ _ _ => by rw [c3 _ (by omega)])) (hL.keep (by rw [c3 _ (by omega)]) (c3 _ (by omega))) c2 ht2 (by rw [hl2]; exact hzz)
      refine ⟨?_, i2⟩
      show goP (rpl p rs g2) _ _ m q
      rw [c1]
      cases hh : rpl p rs g2 with
      | none =>
        rw [hh] at i1
        obtain ⟨m', f1, f2⟩ := i1
        exact ⟨m', f1, fun b hb => by rw [f2 b hb, c3 b hb]⟩
      | some g3 =>
        rw [hh] at i1
        obtain ⟨m', f1, f2, f3⟩ := i1
        exact ⟨m', f1, f2, fun b hb => by rw [f3 b hb, c3 b hb]⟩
end GOESM
