/-! BELIEF of the class. -/
def belT (g : mm_T) (w : Nat) : Prop := g w = some (0, 13) ∧ g (w + 1) = some (23, 6) ∧ g (w + 2) = some (23, 6) ∧ fanT g (w + 3) ∧ g (w + 5) = some (20, 10) ∧ g (w + 6) = some (20, 19) ∧ g (w + 7) = some (20, 6) ∧ g (w + 8) = some (20, 10) ∧ ∀ i, i < 6 → fanT g (w + 9 + 4 * i) ∧ fanT g (w + 11 + 4 * i)
def belS (m : mm_V) (w : Nat) : Prop := m w 0 = .ref (w + 1) ∧ m w 1 = .ref (w + 2) ∧ m w 2 = .ref (w + 3) ∧ m w 3 = .ref (w + 5) ∧ m w 4 = .ref (w + 6) ∧ m w 5 = .ref (w + 7) ∧ m w 6 = .ref (w + 8) ∧ (∀ i, i < 6 → m (w + 1) i = .ref (w + 9 + 4 * i)) ∧ ∀ i, i < 6 → m (w + 2) i = .ref (w + 11 + 4 * i)
def thF (m : mm_V) (w : Nat) (g : Nat → List Nat) : Prop := ∀ i, i < 6 → fanR m (w + 9 + 4 * i) (g i)
def noF (m : mm_V) (w : Nat) (g : Nat → List Nat) : Prop := ∀ i, i < 6 → fanR m (w + 11 + 4 * i) (g i)
theorem belS.keep {m m' : mm_V} {w : Nat} (h : belS m w) (h1 : ∀ j, j < 7 → m' w j = m w j) (h2 : m' (w + 1) = m (w + 1)) (h3 : m' (w + 2) = m (w + 2)) : belS m' w := by
  obtain ⟨a0, a1, a2, a3, a4, a5, a6, a7, a8⟩ := h
  exact ⟨by rw [h1 _ (by omega)]; exact a0, by rw [h1 _ (by omega)]; exact a1, by rw [h1 _ (by omega)]; exact a2, by rw [h1 _ (by omega)]; exact a3, by rw [h1 _ (by omega)]; exact a4, by rw [h1 _ (by omega)]; exact a5, by rw [h1 _ (by omega)]; exact a6, fun i hi => by rw [h2]; exact a7 i hi, fun i hi => by rw [h3]; exact a8 i hi⟩
theorem thF.keep {m m' : mm_V} {w : Nat} {g : Nat → List Nat} (h : thF m w g) (h1 : ∀ i, i < 6 → m' (w + 9 + 4 * i) = m (w + 9 + 4 * i) ∧ m' (w + 10 + 4 * i) = m (w + 10 + 4 * i)) : thF m' w g := fun i hi => (h i hi).keep (h1 i hi).1 (by rw [show w + 9 + 4 * i + 1 = w + 10 + 4 * i by omega]; exact (h1 i hi).2)
theorem noF.keep {m m' : mm_V} {w : Nat} {g : Nat → List Nat} (h : noF m w g) (h1 : ∀ i, i < 6 → m' (w + 11 + 4 * i) = m (w + 11 + 4 * i) ∧ m' (w + 12 + 4 * i) = m (w + 12 + 4 * i)) : noF m' w g := fun i hi => (h i hi).keep (h1 i hi).1 (by rw [show w + 11 + 4 * i + 1 = w + 12 + 4 * i by omega]; exact (h1 i hi).2)
theorem noF.set {m m' : mm_V} {w p : Nat} {g : Nat → List Nat} {l : List Nat} (h : noF m w g) (hp : fanR m' (w + 11 + 4 * p) l) (hk : ∀ b, b ≠ w + 11 + 4 * p → b ≠ w + 11 + 4 * p + 1 → m' b = m b) : noF m' w (setF g p l) := by
  intro i hi
  by_cases hip : i = p
  · subst hip; rw [setF_at]; exact hp
  · rw [setF_ne _ _ hip]; exact (h i hi).keep (hk _ (by omega) (by omega)) (hk _ (by omega) (by omega))
theorem thF.set {m m' : mm_V} {w p : Nat} {g : Nat → List Nat} {l : List Nat} (h : thF m w g) (hp : fanR m' (w + 9 + 4 * p) l) (hk : ∀ b, b ≠ w + 9 + 4 * p → b ≠ w + 9 + 4 * p + 1 → m' b = m b) : thF m' w (setF g p l) := by
  intro i hi
  by_cases hip : i = p
  · subst hip; rw [setF_at]; exact hp
  · rw [setF_ne _ _ hip]; exact (h i hi).keep (hk _ (by omega) (by omega)) (hk _ (by omega) (by omega))
/-- addresses of the fans that are played through -/
def isNo (w b : Nat) : Prop := ∃ i, i < 6 ∧ (b = w + 11 + 4 * i ∨ b = w + 12 + 4 * i)
section BELC
variable {e : mm_E} {w N P p l : Nat}
theorem X0_fanOf_no {m : mm_V} {i : Nat} (ht : belT e.1 w) (hs : belS m w) (hi : i < 6) : X0_fanOf e w (w + 2) (zI i) m = some (w + 11 + 4 * i, m) := by
  unfold X0_fanOf X0_fanOf_b20
  simp only [LT]
  rw [iln (by omega), rd_ln ht.2.2.1 (by decide) (by decide), Option.bind_some, ien (by omega), rd_aq ht.2.2.1 (i := i) rfl (by omega) (by omega) (hs.2.2.2.2.2.2.2.2 i hi), Option.bind_some]
theorem X0_fanOf_th {m : mm_V} {i : Nat} (ht : belT e.1 w) (hs : belS m w) (hi : i < 6) : X0_fanOf e w (w + 1) (zI i) m = some (w + 9 + 4 * i, m) := by
  unfold X0_fanOf X0_fanOf_b20
  simp only [LT]
  rw [iln (by omega), rd_ln ht.2.1 (by decide) (by decide), Option.bind_some, ien (by omega), rd_aq ht.2.1 (i := i) rfl (by omega) (by omega) (hs.2.2.2.2.2.2.2.1 i hi), Option.bind_some]
def wntP (o : Option (Nat → List Nat)) (w : Nat) (v : Int32) (m : mm_V) : Prop := match o with
  | some g => v = zI 1 ∧ noF m w g
  | none => v = zI 0
theorem X0_wentSo_eq {m : mm_V} {dd : Nat} {v : Nat → Int32} {r : PR} {g : Nat → List Nat} (ht : belT e.1 w) (hs : belS m w) (h8 : m w 8 = .int (zI p)) (hdT : e.1 dd = some (2, 9)) (hdd : dd < w ∨ w + 33 ≤ dd) (hv : ∀ j, j < 9 → m dd j = .int (v j)) (hr : recD v r) (hg : noF m w g) (htab : tabI N P g) (hz : szR N r (lenF g)) (h6 : N ≤ 6) (hP : P ≤ 9) (hp6 : p < 6) (hN : 1000 < e.2.2) : ∃ z m', X0_wentSo e w dd m = some (z, m') ∧ wntP (wnt p r g) w z m' ∧ (∃ g', noF m' w g') ∧ ∀ b, ¬ isNo w b → m' b = m b := by
  obtain ⟨z1, z2, z3, z4, z5, z6⟩ := hz
  obtain ⟨dr, s, k, c, as, o⟩ := r
  obtain ⟨v0, v1, v2, v5, v6, v7⟩ := hr
  simp only at z1 z2 z3 z4 z5 z6 v0 v1 v2 v5 v6 v7
  have z4' : k < (g s).length := z4
  have hx := List.getElem?_eq_getElem z4'
  have hlen := htab.len hP
  have hlt := htab.lt hP
  have hls := hlen s
  have hld := hlen dr
  unfold wnt
  simp only
  rw [hx]
  simp only
  generalize (g s)[k] = x at hx
  have hxlt := hlt s x (List.mem_of_getElem? hx)
  have tS := (ht.2.2.2.2.2.2.2.2 s (by omega)).2
  have tD := (ht.2.2.2.2.2.2.2.2 dr (by omega)).2
  have pl := X3_placeOf_eq (e := e) tD (hg dr (by omega)) (hlt dr) hxlt (by omega)
  have hzz := ozI_none (o := idx x (g dr)) (fun j hj => by have := idx_bound hj; omega)
  have no' : ∀ b, ¬ isNo w b → ∀ i, i < 6 → b ≠ w + 11 + 4 * i ∧ b ≠ w + 11 + 4 * i + 1 := fun b hb i hi => ⟨fun hh => hb ⟨i, hi, Or.inl hh⟩, fun hh => hb ⟨i, hi, Or.inr (by omega)⟩⟩
  -- the end
  have fin : ∃ z m', X0_wentSo_b88 e dd (w + 11 + 4 * s) (w + 11 + 4 * dr) (zI x) m = some (z, m') ∧ wntP (match idx x (g dr) with | some j => if as = true then some (setF (setF g s ((g s).eraseIdx k)) dr ((g dr).eraseIdx j)) else none | none => if as = true then none else some (setF (setF g s ((g s).eraseIdx k)) dr ((g dr).insertIdx o x))) w z m' ∧ (∃ g', noF m' w g') ∧ ∀ b, ¬ isNo w b → m' b = m b := by
    have d6 : mm_gi e.1 m 2 9 dd 6 = some (bZ as) := rd_gi hdT (by rw [hv 6 (by omega), v6])
    obtain ⟨m1, a1, a2, a3⟩ := X3_takeOut_eq (e := e) tS (hg s (by omega)) z4' (by omega)
    have F1 : noF m1 w (setF g s ((g s).eraseIdx k)) := hg.set a2 a3
    have fd : fanR m1 (w + 11 + 4 * dr) (g dr) := by
      have := F1 dr (by omega)
      rwa [setF_ne _ _ (Ne.symm z3)] at this
    have hv1 : ∀ j, j < 9 → m1 dd j = .int (v j) := fun j hj => by rw [a3 _ (by omega) (by omega)]; exact hv j hj
    cases hi : idx x (g dr) with
    | some j =>
      have hj := idx_bound hi
      cases as with
      | true =>
        obtain ⟨m2, b1, b2, b3⟩ := X3_takeOut_eq (e := e) tD fd hj (by omega)
        have F2 := F1.set b2 b3
        refine ⟨zI 1, m2, ?_, ⟨rfl, F2⟩, ⟨_, F2⟩, fun b hb => by rw [b3 b (no' b hb dr (by omega)).1 (no' b hb dr (by omega)).2, a3 b (no' b hb s (by omega)).1 (no' b hb s (by omega)).2]⟩
        unfold X0_wentSo_b88 X0_wentSo_b111 X0_wentSo_b150
        rw [if_pos tD.1, pl, hi, Option.bind_some, d6, Option.bind_some, show ozI (some j) = zI (j : Int) from rfl, show (-1 : Int32) = zI (-1) from rfl, iqn (by omega), if_pos (show bZ true = 1 from rfl), rd_gi (m := m) hdT (v := zI k) (by rw [hv 2 (by omega), v2]), Option.bind_some, if_pos tS.1, a1, Option.bind_some, rd_gi hdT (v := bZ true) (by rw [hv1 6 (by omega), v6]), Option.bind_some, if_neg (show ¬ bZ true = 0 by decide), if_pos tD.1, b1, Option.bind_some]
        rfl
      | false =>
        refine ⟨zI 0, m, ?_, rfl, ⟨_, hg⟩, fun _ _ => rfl⟩
        unfold X0_wentSo_b88 X0_wentSo_b111
        rw [if_pos tD.1, pl, hi, Option.bind_some, d6, Option.bind_some, show ozI (some j) = zI (j : Int) from rfl, show (-1 : Int32) = zI (-1) from rfl, iqn (by omega), if_neg (show ¬ bZ false = 1 by decide)]
        rfl
    | none =>
      cases as with
      | true =>
        refine ⟨zI 0, m, ?_, rfl, ⟨_, hg⟩, fun _ _ => rfl⟩
        unfold X0_wentSo_b88 X0_wentSo_b111
        rw [if_pos tD.1, pl, hi, Option.bind_some, d6, Option.bind_some, if_pos (show ozI none = -1 from rfl), if_neg (show ¬ bZ true = 0 by decide)]
        rfl
      | false =>
        obtain ⟨q1, q2⟩ := z6 rfl
        have q1' : o ≤ (g dr).length := q1
        have q2' : (g dr).length < 10 := q2
        obtain ⟨m2, b1, b2, b3⟩ := X3_putIn_eq (e := e) (p := o) (c := x) tD fd q1' q2' (by omega)
        have F2 := F1.set b2 b3
        refine ⟨zI 1, m2, ?_, ⟨rfl, F2⟩, ⟨_, F2⟩, fun b hb => by rw [b3 b (no' b hb dr (by omega)).1 (no' b hb dr (by omega)).2, a3 b (no' b hb s (by omega)).1 (no' b hb s (by omega)).2]⟩
        unfold X0_wentSo_b88 X0_wentSo_b111 X0_wentSo_b150
        rw [if_pos tD.1, pl, hi, Option.bind_some, d6, Option.bind_some, if_pos (show ozI none = -1 from rfl), if_pos (show bZ false = 0 from rfl), rd_gi (m := m) hdT (v := zI k) (by rw [hv 2 (by omega), v2]), Option.bind_some, if_pos tS.1, a1, Option.bind_some, rd_gi hdT (v := bZ false) (by rw [hv1 6 (by omega), v6]), Option.bind_some, if_pos (show bZ false = 0 from rfl), rd_gi hdT (v := zI o) (by rw [hv1 7 (by omega), v7 rfl]), Option.bind_some, if_pos tD.1, b1, Option.bind_some]
        rfl
  have k65 : ∃ z m', X0_wentSo_b65 e dd (w + 11 + 4 * s) (w + 11 + 4 * dr) (zI x) m = some (z, m') ∧ wntP (if x ≠ c then none else match idx x (g dr) with | some j => if as = true then some (setF (setF g s ((g s).eraseIdx k)) dr ((g dr).eraseIdx j)) else none | none => if as = true then none else some (setF (setF g s ((g s).eraseIdx k)) dr ((g dr).insertIdx o x))) w z m' ∧ (∃ g', noF m' w g') ∧ ∀ b, ¬ isNo w b → m' b = m b := by
    unfold X0_wentSo_b65 X0_wentSo_b70
    rw [if_neg (show ¬ (1 : Int32) = 0 by decide), rd_gi hdT (v := zI c) (by rw [hv 5 (by omega), v5]), Option.bind_some]
    by_cases hxc : x = c
    · rw [iqp (by omega), if_neg (not_not_intro hxc)]
      exact fin
    · rw [iqn (by omega), if_pos hxc]
      exact ⟨zI 0, m, rfl, rfl, ⟨_, hg⟩, fun _ _ => rfl⟩
  have start : ∀ y, (if ¬ bZ as = 0 then (X0_wentSo_b65 e dd (w + 11 + 4 * s) (w + 11 + 4 * dr) (zI x)  m) else (if zI dr = zI p then (X0_wentSo_b65 e dd (w + 11 + 4 * s) (w + 11 + 4 * dr) (zI x)  m) else (if ¬ zI s = zI p then (X0_wentSo_b70 e dd (w + 11 + 4 * s) (w + 11 + 4 * dr) (zI x) (0 : Int32) m) else (X0_wentSo_b65 e dd (w + 11 + 4 * s) (w + 11 + 4 * dr) (zI x)  m)))) = y → X0_wentSo e w dd m = y := by
    intro y hy
    have r0 : mm_gi e.1 m 2 9 dd 0 = some (zI dr) := rd_gi hdT (by rw [hv 0 (by omega), v0])
    have r1 : mm_gi e.1 m 2 9 dd 1 = some (zI s) := rd_gi hdT (by rw [hv 1 (by omega), v1])
    have r2 : mm_gi e.1 m 2 9 dd 2 = some (zI k) := rd_gi hdT (by rw [hv 2 (by omega), v2])
    have r6 : mm_gi e.1 m 2 9 dd 6 = some (bZ as) := rd_gi hdT (by rw [hv 6 (by omega), v6])
    unfold X0_wentSo
    rw [rd_gr ht.1 hs.2.1, Option.bind_some, r1, Option.bind_some, X0_fanOf_no ht hs (show s < 6 by omega), Option.bind_some, rd_gr ht.1 hs.2.1, Option.bind_some, r0, Option.bind_some, X0_fanOf_no ht hs (show dr < 6 by omega), Option.bind_some, r2, Option.bind_some, if_pos tS.1, X3_card_eq tS (hg s (by omega)) hx, Option.bind_some, r6, Option.bind_some, r0, Option.bind_some, rd_gi ht.1 h8, Option.bind_some, r1, Option.bind_some, Option.bind_some]
    exact hy
  by_cases ha : as = true
  · obtain ⟨z, m', e1, e2, e3⟩ := k65
    refine ⟨z, m', start _ ?_, ?_, e3⟩
    · rw [if_pos (by rw [ha]; decide)]; exact e1
    · have hc : ((as = true ∨ dr = p ∨ s = p) ∧ x ≠ c) = (x ≠ c) := by simp [ha]
      simp only [hc]; exact e2
  · have ha' : as = false := by simpa using ha
    by_cases hd : dr = p
    · obtain ⟨z, m', e1, e2, e3⟩ := k65
      refine ⟨z, m', start _ ?_, ?_, e3⟩
      · rw [if_neg (by rw [ha']; decide), iqp (by omega)]; exact e1
      · have hc : ((as = true ∨ dr = p ∨ s = p) ∧ x ≠ c) = (x ≠ c) := by simp [hd]
        simp only [hc]; exact e2
    · by_cases hsp : s = p
      · obtain ⟨z, m', e1, e2, e3⟩ := k65
        refine ⟨z, m', start _ ?_, ?_, e3⟩
        · rw [if_neg (by rw [ha']; decide), iqn (by omega), inn (by omega)]; exact e1
        · have hc : ((as = true ∨ dr = p ∨ s = p) ∧ x ≠ c) = (x ≠ c) := by simp [hsp]
          simp only [hc]; exact e2
      · obtain ⟨z, m', e1, e2, e3⟩ := fin
        refine ⟨z, m', start _ ?_, ?_, e3⟩
        · rw [if_neg (by rw [ha']; decide), iqn (by omega), inp (by omega)]
          unfold X0_wentSo_b70
          rw [if_pos rfl]
          exact e1
        · rw [if_neg (by simp [ha, hd, hsp])]; exact e2
/-! the log that is gone through -/
def hisD (H : List (Nat → Int32)) (R : List PR) : Prop := H.length = R.length ∧ ∀ (i : Nat) (v : Nat → Int32) (r : PR), H[i]? = some v → R[i]? = some r → recD v r
theorem not_no {w b : Nat} (h : b < w + 11 ∨ w + 35 ≤ b) : ¬ isNo w b := by rintro ⟨i, hi, h1 | h1⟩ <;> omega
theorem logR.keep {m m' : mm_V} {l : Nat} {H : List QR} (h : logR m l H) (h1 : ∀ b, l ≤ b → b < l + 63 → m' b = m b) : logR m' l H := by
  obtain ⟨⟨a1, a2, a3⟩, b, c, d, s, s1, s2, s3⟩ := h
  have rk : ∀ (d : Nat) (v : QR), l ≤ d → d < l + 63 → recR m d v → recR m' d v := fun d v x1 x2 hr => ⟨fun j hj => by rw [h1 d x1 x2]; exact hr.1 j hj, hr.2⟩
  refine ⟨⟨by rw [h1 _ (by omega) (by omega)]; exact a1, by rw [h1 _ (by omega) (by omega)]; exact a2, fun i hi => by rw [h1 _ (by omega) (by omega)]; exact a3 i hi⟩, fun i hi => ?_, c, by rw [h1 _ (by omega) (by omega)]; exact d, s, s1, by rw [h1 _ (by omega) (by omega)]; exact s2, fun i v hv => rk _ _ (by omega) (by have := Nat.mod_lt (s + i) (show 0 < 60 by omega); omega) (s3 i v hv)⟩
  obtain ⟨v, hv⟩ := b i hi
  exact ⟨v, rk _ _ (by omega) (by omega) hv⟩
theorem X0_replay {H : List QR} {R : List PR} (ht : belT e.1 w) (hlT : logT e.1 l) (hlw : l + 63 ≤ w ∨ w + 33 ≤ l) (hH : hisD H R) (h6 : N ≤ 6) (hP : P ≤ 9) (hp6 : p < 6) (hN : 1000 < e.2.2) : ∀ (rs : List PR) (i nn : Nat) (m : mm_V) (g : Nat → List Nat), R.drop i = rs → i + rs.length = R.length → rs.length < nn → belS m w → m w 7 = .ref l → m w 8 = .int (zI p) → logR m l H → noF m w g → tabI N P g → szH N rs (lenF g) → (∃ m' g', rpl p rs g = some g' ∧ tabI N P g' ∧ noF m' w g' ∧ (∀ b, ¬ isNo w b → m' b = m b) ∧ ∃ n1, X0_weighArrangement_L31 e w nn (zI i) m = X0_weighArrangement_L31 e w (n1 + 1) (zI R.length) m') ∨ (rpl p rs g = none ∧ ∃ m' g', X0_weighArrangement_L31 e w nn (zI i) m = some m' ∧ noF m' w g' ∧ ∀ b, ¬ isNo w b → m' b = m b) := by
  intro rs
  induction rs with
  | nil =>
    intro i nn m g hd hil hn hs r7 r8 hl hg htab hz
    obtain ⟨nn, rfl⟩ : ∃ n', nn = n' + 1 := ⟨nn - 1, by omega⟩
    have : i = R.length := by simpa using hil
    rw [this]
    exact Or.inl ⟨m, g, rfl, htab, hg, fun _ _ => rfl, nn, rfl⟩
  | cons r rs ih =>
    intro i nn m g hd hil hn hs r7 r8 hl hg htab hz
    obtain ⟨nn, rfl⟩ : ∃ n', nn = n' + 1 := ⟨nn - 1, by omega⟩
    rw [List.length_cons] at hil hn
    have hi : i < R.length := by omega
    have hri : R[i]? = some r := by
      have : (R.drop i)[0]? = some r := by rw [hd]; rfl
      rwa [List.getElem?_drop, Nat.add_zero] at this
    have hd' : R.drop (i + 1) = rs := by
      rw [← List.drop_drop, hd] 
      rfl
    have hiH : i < H.length := by rw [hH.1]; exact hi
    have hvi := List.getElem?_eq_getElem hiH
    have hrec := hH.2 i _ r hvi hri
    have hH60 := hl.2.2.1
    obtain ⟨dd, d1, d2, d3, d4, d5⟩ := X5_at_eq (e := e) hlT hl hvi
    obtain ⟨z, m1, a1, a2, ⟨g1, a3⟩, a4⟩ := X0_wentSo_eq (e := e) (dd := dd) (r := r) ht hs r8 d3 (by omega) d2.1 hrec hg htab hz.1 h6 hP hp6 hN
    have hgo : ∀ y, (if ¬ z = 0 then (X0_weighArrangement_L31 e w nn (zI (i + 1 : Nat)) m1) else some m1) = y → X0_weighArrangement_L31 e w (nn + 1) (zI i) m = y := by
      intro y hy
      rw [X0_weighArrangement_L31, rd_gr ht.1 r7, Option.bind_some, rd_gi hlT.1 hl.2.2.2.1, Option.bind_some, ien (by omega), Option.bind_some, if_pos hlT.1, d1, Option.bind_some, a1, Option.bind_some, show (zI (i : Int) + 1 : Int32) = zI ((i + 1 : Nat) : Int) from zI_add i 1]
      exact hy
    rw [rpl]
    cases hw : wnt p r g with
    | none =>
      rw [hw] at a2
      refine Or.inr ⟨rfl, m1, g1, hgo _ ?_, a3, a4⟩
      rw [show z = zI 0 from a2, if_neg (show ¬ ¬ (zI 0 : Int32) = 0 from not_not_intro rfl)]
    | some g2 =>
      rw [hw] at a2
      obtain ⟨hv1, hg2⟩ : z = zI 1 ∧ noF m1 w g2 := a2
      obtain ⟨ht2, hl2⟩ := wnt_ok htab hz.1 hw
      have hwb : ∀ b, (b < w + 11 ∨ w + 35 ≤ b) → m1 b = m b := fun b hb => a4 b (not_no hb)
      have hstep : ∀ y, X0_weighArrangement_L31 e w nn (zI (i + 1 : Nat)) m1 = y → X0_weighArrangement_L31 e w (nn + 1) (zI i) m = y := fun y hy => hgo y (by rw [hv1, if_pos (show ¬ (zI 1 : Int32) = 0 by decide)]; exact hy)
      have lk1 : logR m1 l H := hl.keep (fun b x1 x2 => a4 b (by rintro ⟨i, hi, h1 | h1⟩ <;> omega))
      rcases ih (i + 1) nn m1 g2 hd' (by omega) (by omega) (hs.keep (fun j _ => by rw [hwb _ (by omega)]) (hwb _ (by omega)) (hwb _ (by omega))) (by rw [hwb _ (by omega)]; exact r7) (by rw [hwb _ (by omega)]; exact r8) lk1 hg2 ht2 (by rw [hl2]; exact hz.2) with ⟨m', g', q1, q2, q3, q4, n1, q5⟩ | ⟨q1, m', g', q2, q3, q4⟩
      · exact Or.inl ⟨m', g', q1, q2, q3, fun b hb => by rw [q4 b hb, a4 b hb], n1, hstep _ q5⟩
      · exact Or.inr ⟨q1, m', g', hstep _ q2, q3, fun b hb => by rw [q4 b hb, a4 b hb]⟩
def belR (m : mm_V) (w : Nat) (X : BC) : Prop := m w 12 = .int (zI X.1) ∧ (∀ i, i < 6 → m (w + 7) i = .int (zI (X.2.1 i))) ∧ ∀ i, i < 10 → m (w + 8) i = .int (zI (X.2.2 i))
/-- what the weighing of an arrangement may change -/
def isWg (w b : Nat) : Prop := b = w ∨ b = w + 7 ∨ b = w + 8 ∨ isNo w b
theorem X0_weigh_copy (ht : belT e.1 w) (hN : 1000 < e.2.2) : ∀ (j i nn : Nat) (m : mm_V) (g g1 : Nat → List Nat), i + j = 6 → j < nn → belS m w → thF m w g → noF m w g1 → (∀ k, k < i → g1 k = g k) → ∃ m', X0_weighArrangement_L2 e w nn (zI i) m = X0_weighArrangement_L31 e w e.2.2 (zI 0) m' ∧ noF m' w g ∧ ∀ b, ¬ isNo w b → m' b = m b := by
  intro j
  induction j with
  | zero =>
    intro i nn m g g1 hi hn hs hg hg1 hk
    obtain ⟨nn, rfl⟩ : ∃ n', nn = n' + 1 := ⟨nn - 1, by omega⟩
    refine ⟨m, ?_, fun i' hi' => by rw [← hk i' (by omega)]; exact hg1 i' hi', fun _ _ => rfl⟩
    unfold X0_weighArrangement_L2
    simp only [LT]
    rw [iep (by omega)]
  | succ j ih =>
    intro i nn m g g1 hi hn hs hg hg1 hk
    obtain ⟨nn, rfl⟩ : ∃ n', nn = n' + 1 := ⟨nn - 1, by omega⟩
    have hT := ht.2.2.2.2.2.2.2.2 i (by omega)
    obtain ⟨m1, a1, a2, a3⟩ := X3_copyFrom_eq (e := e) hT.2 hT.1 (by omega) (hg1 i (by omega)) (hg i (by omega)) (by omega)
    have hb : ∀ b, ¬ isNo w b → m1 b = m b := fun b hb => a3 b (fun hh => hb ⟨i, by omega, Or.inl hh⟩) (fun hh => hb ⟨i, by omega, Or.inr (by omega)⟩)
    obtain ⟨m', e1, e2, e3⟩ := ih (i + 1) nn m1 g (setF g1 i (g i)) (by omega) (by omega) (hs.keep (fun j _ => by rw [hb _ (not_no (by omega))]) (hb _ (not_no (by omega))) (hb _ (not_no (by omega)))) (hg.keep (fun k hk => ⟨a3 _ (by omega) (by omega), a3 _ (by omega) (by omega)⟩)) (hg1.set a2 a3) (fun k hk' => by
      by_cases hki : k = i
      · rw [hki, setF_at]
      · rw [setF_ne _ _ hki]; exact hk k (by omega))
    refine ⟨m', ?_, e2, fun b hb' => by rw [e3 b hb', hb b hb']⟩
    unfold X0_weighArrangement_L2
    simp only [LT]
    rw [ien (by omega), rd_gr ht.1 hs.2.1, Option.bind_some, rd_aq ht.2.2.1 (i := i) rfl (by omega) (by omega) (hs.2.2.2.2.2.2.2.2 i (by omega)), Option.bind_some, rd_gr ht.1 hs.1, Option.bind_some, rd_aq ht.2.1 (i := i) rfl (by omega) (by omega) (hs.2.2.2.2.2.2.2.1 i (by omega)), Option.bind_some, if_pos hT.2.1, a1, Option.bind_some, zI_add]
    exact e1
theorem X0_weigh_count {wt : Option Nat} {g : Nat → List Nat} {w0 pl : Nat} (ht : belT e.1 w) (hw0 : ∀ i, 0 ∈ g i ↔ i = w0) (hpl : idx 0 (g w0) = some pl) (hpl10 : pl < 10) (hwt : ∀ v, wt = some v → v < 6) (hlt : ∀ i, ∀ x ∈ g i, x < 1000) (hN : 1000 < e.2.2) {X : BC} : ∀ (j i nn : Nat) (m : mm_V), i + j = 6 → j < nn → belS m w → noF m w g → m w 9 = .int (ozI wt) → (∀ k, k < 6 → m (w + 7) k = .int (zI (if w0 < i then setF X.2.1 w0 (X.2.1 w0 + 1) k else X.2.1 k : Nat))) → (∀ k, k < 10 → m (w + 8) k = .int (zI (if w0 < i ∧ wt = some w0 then setF X.2.2 pl (X.2.2 pl + 1) k else X.2.2 k : Nat))) → ∃ m', X0_weighArrangement_L76 e w nn (zI i) m = some m' ∧ (∀ k, k < 6 → m' (w + 7) k = .int (zI (if w0 < 6 then setF X.2.1 w0 (X.2.1 w0 + 1) k else X.2.1 k : Nat))) ∧ (∀ k, k < 10 → m' (w + 8) k = .int (zI (if w0 < 6 ∧ wt = some w0 then setF X.2.2 pl (X.2.2 pl + 1) k else X.2.2 k : Nat))) ∧ ∀ b, b ≠ w + 7 → b ≠ w + 8 → m' b = m b := by
  intro j
  induction j with
  | zero =>
    intro i nn m hi hn hs hg h9 h7 h8
    obtain ⟨nn, rfl⟩ : ∃ n', nn = n' + 1 := ⟨nn - 1, by omega⟩
    have : i = 6 := by omega
    subst this
    refine ⟨m, ?_, h7, h8, fun _ _ _ => rfl⟩
    unfold X0_weighArrangement_L76
    simp only [LT]
    rw [iep (by omega)]
  | succ j ih =>
    intro i nn m hi hn hs hg h9 h7 h8
    obtain ⟨nn, rfl⟩ : ∃ n', nn = n' + 1 := ⟨nn - 1, by omega⟩
    have hT := (ht.2.2.2.2.2.2.2.2 i (by omega)).2
    have plq := X3_placeOf_eq (e := e) (c := 0) hT (hg i (by omega)) (hlt i) (by omega) (by omega)
    have zwt := ozI_some (o := wt) (w := i) (fun v hv => by have := hwt v hv; omega) (by omega)
    by_cases hiw : i = w0
    · have hp' : idx 0 (g i) = some pl := by rw [hiw]; exact hpl
      generalize hm1 : mm_up m (w + 7) i (.int (zI (X.2.1 i + 1 : Nat))) = m1
      have o1 : ∀ b, b ≠ w + 7 → m1 b = m b := fun b x1 => by rw [← hm1, up_row _ _ _ x1]
      have s1 : belS m1 w := hs.keep (fun j _ => by rw [o1 _ (by omega)]) (o1 _ (by omega)) (o1 _ (by omega))
      have x7 : m (w + 7) i = .int (zI (X.2.1 i)) := by have := h7 i (by omega); rwa [if_neg (by omega)] at this
      have x8 : m1 (w + 8) pl = .int (zI (X.2.2 pl)) := by rw [o1 _ (by omega)]; have := h8 pl hpl10; rwa [if_neg (by omega)] at this
      generalize hm2 : mm_up m1 (w + 8) pl (.int (zI (if wt = some i then X.2.2 pl + 1 else X.2.2 pl : Nat))) = m2
      have o2 : ∀ b, b ≠ w + 8 → m2 b = m1 b := fun b x1 => by rw [← hm2, up_row _ _ _ x1]
      obtain ⟨m', e1, e2, e3, e4⟩ := ih (i + 1) nn m2 (by omega) (by omega) (s1.keep (fun j _ => by rw [o2 _ (by omega)]) (o2 _ (by omega)) (o2 _ (by omega))) (hg.keep (fun k hk => ⟨by rw [o2 _ (by omega), o1 _ (by omega)], by rw [o2 _ (by omega), o1 _ (by omega)]⟩)) (by rw [o2 _ (by omega), o1 _ (by omega)]; exact h9) (fun k hk => by
        rw [o2 _ (by omega), ← hm1, up_pt, if_pos (show w0 < i + 1 by omega)]
        by_cases hki : k = i
        · rw [if_pos hki, hki, hiw, setF_at]
        · rw [if_neg hki, setF_ne _ _ (by omega)]
          have := h7 k hk; rwa [if_neg (by omega)] at this) (fun k hk => by
        rw [← hm2, up_pt]
        have hk8 : m1 (w + 8) k = .int (zI (X.2.2 k)) := by rw [o1 _ (by omega)]; have := h8 k hk; rwa [if_neg (by omega)] at this
        by_cases hwi : wt = some i
        · rw [if_pos (show w0 < i + 1 ∧ wt = some w0 from ⟨by omega, by rw [← hiw]; exact hwi⟩)]
          by_cases hkp : k = pl
          · rw [if_pos hkp, if_pos hwi, hkp, setF_at]
          · rw [if_neg hkp, setF_ne _ _ hkp]; exact hk8
        · rw [if_neg (show ¬ (w0 < i + 1 ∧ wt = some w0) from fun hh => hwi (by rw [hiw]; exact hh.2))]
          by_cases hkp : k = pl
          · rw [if_pos hkp, if_neg hwi, hkp]
          · rw [if_neg hkp]; exact hk8)
      refine ⟨m', ?_, e2, e3, fun b x1 x2 => by rw [e4 b x1 x2, o2 b x2, o1 b x1]⟩
      unfold X0_weighArrangement_L76 X0_weighArrangement_b133 X0_weighArrangement_b135
      simp only [LT]
      rw [ien (by omega), rd_gr ht.1 hs.2.1, Option.bind_some, rd_aq ht.2.2.1 (i := i) rfl (by omega) (by omega) (hs.2.2.2.2.2.2.2.2 i (by omega)), Option.bind_some, if_pos hT.1, show (zI 0 : Int32) = zI ((0 : Nat) : Int) from rfl, plq, hp', Option.bind_some, show ozI (some pl) = zI (pl : Int) from rfl, show (zI ((0 : Nat) : Int) : Int32) = zI 0 from rfl, iln (by omega), ien (by omega), rd_gr ht.1 hs.2.2.2.2.2.1, Option.bind_some, rd_ai (m := m) ht.2.2.2.2.2.2.1 (i := i) rfl (by omega) (by omega) x7, Option.bind_some, zI_add, show ((X.2.1 i : Int) + 1) = ((X.2.1 i + 1 : Nat) : Int) by omega, wr_si ht.2.2.2.2.2.2.1 (i := i) rfl (by omega) (by omega), Option.bind_some, hm1, rd_gr ht.1 s1.2.2.2.2.2.2.1, Option.bind_some, rd_ai ht.2.2.2.2.2.2.2.1 (i := pl) rfl (by omega) (by omega) x8, Option.bind_some, rd_gi ht.1 (v := ozI wt) (by rw [o1 _ (by omega)]; exact h9), Option.bind_some]
      simp only [zwt, zI_add]
      by_cases hwi : wt = some i
      · rw [if_pos hwi] at hm2
        rw [if_neg (not_not_intro hwi), show ((X.2.2 pl : Int) + 1) = ((X.2.2 pl + 1 : Nat) : Int) by omega, wr_si ht.2.2.2.2.2.2.2.1 (i := pl) rfl (by omega) (by omega), Option.bind_some, hm2]
        exact e1
      · rw [if_neg hwi] at hm2
        rw [if_pos hwi, show ((X.2.2 pl : Int) + 0) = ((X.2.2 pl : Nat) : Int) by omega, wr_si ht.2.2.2.2.2.2.2.1 (i := pl) rfl (by omega) (by omega), Option.bind_some, hm2]
        exact e1
    · have hp' : idx 0 (g i) = none := idx_mem.mpr (fun hh => hiw ((hw0 i).mp hh))
      obtain ⟨m', e1, e2, e3, e4⟩ := ih (i + 1) nn m (by omega) (by omega) hs hg h9 (fun k hk => by
        have := h7 k hk
        by_cases hlt' : w0 < i
        · rw [if_pos hlt'] at this; rw [if_pos (by omega)]; exact this
        · rw [if_neg hlt'] at this; rw [if_neg (by omega)]; exact this) (fun k hk => by
        have := h8 k hk
        by_cases hlt' : w0 < i
        · have e1 : (w0 < i + 1 ∧ wt = some w0) = (w0 < i ∧ wt = some w0) := by simp [hlt', show w0 < i + 1 by omega]
          simp only [e1]; exact this
        · rw [if_neg (fun hh => hlt' hh.1)] at this
          rw [if_neg (fun hh => by omega)]; exact this)
      refine ⟨m', ?_, e2, e3, e4⟩
      unfold X0_weighArrangement_L76 X0_weighArrangement_b135
      simp only [LT]
      rw [ien (by omega), rd_gr ht.1 hs.2.1, Option.bind_some, rd_aq ht.2.2.1 (i := i) rfl (by omega) (by omega) (hs.2.2.2.2.2.2.2.2 i (by omega)), Option.bind_some, if_pos hT.1, show (zI 0 : Int32) = zI ((0 : Nat) : Int) from rfl, plq, hp', Option.bind_some, show ozI none = zI (-1) from rfl, show (zI ((0 : Nat) : Int) : Int32) = zI 0 from rfl, ilp (by omega), zI_add]
      exact e1
end BELC
