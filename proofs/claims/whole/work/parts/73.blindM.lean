/-! BLIND DRAWS of the model: the same tree with a stack. -/
def isRow (v : Nat → Int32) (N : Nat) (S : PS) : Prop := ∀ (m : mm_V) (r : Nat), (∀ k, k < 128 → m r k = .int (v k)) → gM m r N S
theorem gM.cong {m m' : mm_V} {r r' N : Nat} {S : PS} (h : gM m r N S) (h1 : ∀ k, k < 128 → m' r' k = m r k) : gM m' r' N S := by
  obtain ⟨a, b, c, d⟩ := h
  refine ⟨fun p hp => ?_, by rw [h1 _ (by omega)]; exact b, by rw [h1 _ (by omega)]; exact c, fun i hi => by rw [h1 _ (by omega)]; exact d i hi⟩
  obtain ⟨x, y, z⟩ := a p hp
  refine ⟨by rw [h1 _ (by omega)]; exact x, y, fun k c hk => ?_⟩
  have := (List.getElem?_eq_some_iff.mp hk).1
  rw [h1 _ (by omega)]; exact z k c hk
theorem gM.isRow {m : mm_V} {r N : Nat} {S : PS} {v : Nat → Int32} (h : gM m r N S) (hv : ∀ k, k < 128 → m r k = .int (v k)) : _root_.Jvm.Pilot.CSootQueenLaw_law_r9312_e548d1.isRow v N S := fun m' r' h' => h.cong (fun k hk => by rw [h' k hk, hv k hk])
theorem ints_ex {m : mm_V} {r n : Nat} (h : ∀ k, k < n → ∃ x, m r k = .int x) : ∃ v : Nat → Int32, ∀ k, k < n → m r k = .int (v k) := by
  refine ⟨fun k => match m r k with | .int x => x | _ => 0, fun k hk => ?_⟩
  obtain ⟨x, hx⟩ := h k hk
  simp only [hx]
def pk3 (what : Nat) (A : L3) : Int64 := if what < 2 then A.1 else if what < 4 then A.2.1 else A.2.2
def inc3 (N p : Nat) (S : PS) (sh : Int64) : L3 := (if qn N S.1 = some p then sh else 0, if hasC S.1 p = true then 0 else sh, if lsr N S.1 = some p then sh else 0)
def lf1 (N p what : Nat) : PS → Int64 → Int64 → Int64 := fun S sh W => W + pk3 what (inc3 N p S sh)
theorem lf_map (N p what : Nat) (S : PS) (sh : Int64) (A : L3) : pk3 what (lf3 N p S sh A) = lf1 N p what S sh (pk3 what A) := by
  unfold lf1 pk3 lf3 inc3
  by_cases h1 : what < 2
  · simp only [if_pos h1]
  · by_cases h2 : what < 4
    · simp only [if_neg h1, if_pos h2]
    · simp only [if_neg h1, if_neg h2]
def lvl (m : mm_V) (q i : Nat) (v : Nat → Int32) (k : Nat) (sh : Int64) : Prop := (∀ j, j < 128 → m (q + 24) (128 * i + j) = .int (v j)) ∧ m (q + 25) i = .int (zI k) ∧ m (q + 27) i = .long sh
def cst : Nat → Nat
  | 0 => 1
  | d + 1 => 9 * (1 + cst d) + 1
/-- what a node leaves as it was -/
def blK (q deep : Nat) (m m' : mm_V) : Prop := (∀ j, j ≠ 45 → j ≠ 46 → j ≠ 47 → m' q j = m q j) ∧ (∀ j, j < 128 * deep → m' (q + 24) j = m (q + 24) j) ∧ (∀ j, j < deep → m' (q + 25) j = m (q + 25) j) ∧ (∀ j, j < deep → m' (q + 27) j = m (q + 27) j) ∧ ∀ b, b ≠ q → b ≠ q + 17 → b ≠ q + 24 → b ≠ q + 25 → b ≠ q + 26 → b ≠ q + 27 → m' b = m b
theorem blK.refl (q deep : Nat) (m : mm_V) : blK q deep m m := ⟨fun _ _ _ _ => rfl, fun _ _ => rfl, fun _ _ => rfl, fun _ _ => rfl, fun _ _ _ _ _ _ _ => rfl⟩
theorem blK.trans {q deep : Nat} {m1 m2 m3 : mm_V} (h1 : blK q deep m1 m2) (h2 : blK q deep m2 m3) : blK q deep m1 m3 :=
  ⟨fun j a b c => by rw [h2.1 j a b c, h1.1 j a b c], fun j a => by rw [h2.2.1 j a, h1.2.1 j a], fun j a => by rw [h2.2.2.1 j a, h1.2.2.1 j a], fun j a => by rw [h2.2.2.2.1 j a, h1.2.2.2.1 j a], fun b x1 x2 x3 x4 x5 x6 => by rw [h2.2.2.2.2 b x1 x2 x3 x4 x5 x6, h1.2.2.2.2 b x1 x2 x3 x4 x5 x6]⟩
theorem blK.less {q deep d2 : Nat} {m1 m2 : mm_V} (h : blK q deep m1 m2) (hd : d2 ≤ deep) : blK q d2 m1 m2 :=
  ⟨h.1, fun j a => h.2.1 j (by omega), fun j a => h.2.2.1 j (by omega), fun j a => h.2.2.2.1 j (by omega), h.2.2.2.2⟩
theorem mE.blK {e : mm_E} {m m' : mm_V} {q N P deep : Nat} {rl : Nat → List Int} (h : mE e m q N P rl) (k : _root_.Jvm.Pilot.CSootQueenLaw_law_r9312_e548d1.blK q deep m m') : mE e m' q N P rl := by
  refine h.keep' (L := [45, 46, 47]) (by decide) (fun j hj => ?_) (k.2.2.2.2 _ (by omega) (by omega) (by omega) (by omega) (by omega) (by omega)) (k.2.2.2.2 _ (by omega) (by omega) (by omega) (by omega) (by omega) (by omega))
  simp only [List.mem_cons, List.not_mem_nil, or_false, not_or] at hj
  exact k.1 j hj.1 hj.2.1 hj.2.2
section BLINDM
variable {e : mm_E} {q N P p n what : Nat} {rl : Nat → List Int} {sit : Nat → Nat} {all : Int64}
theorem X12_blind_in (k1 : Int64 → Int32 → mm_V → Option (Int64 × mm_V)) {i1 i2 i3 : Int32} {W : Int64} {deep : Nat} (hdp : deep < 5) {v : Nat → Int32} (hT : modT e.1 q) : ∀ (j i nn : Nat) (m : mm_V), i + j = 128 → j < nn → modS m q → (∀ k, k < 128 → m (q + 24) (128 * deep + k) = .int (v k)) → (∀ k, k < i → m (q + 26) k = .int (v k)) → ∃ n1 m', X12_blind_L124 e k1 q i1 i2 i3 all W (zI deep) nn (zI i) m = X12_blind_L124 e k1 q i1 i2 i3 all W (zI deep) (n1 + 1) (zI 128) m' ∧ (∀ k, k < 128 → m' (q + 26) k = .int (v k)) ∧ ∀ b, b ≠ q + 26 → m' b = m b := by
  intro j
  induction j with
  | zero =>
    intro i nn m hi hj hS h1 h2
    obtain ⟨nn, rfl⟩ : ∃ n', nn = n' + 1 := ⟨nn - 1, by omega⟩
    have : i = 128 := by omega
    subst this
    exact ⟨nn, m, rfl, h2, fun _ _ => rfl⟩
  | succ j ih =>
    intro i nn m hi hj hS h1 h2
    obtain ⟨nn, rfl⟩ : ∃ n', nn = n' + 1 := ⟨nn - 1, by omega⟩
    obtain ⟨n1, m', e1, e2, e3⟩ := ih (i + 1) nn (mm_up m (q + 26) i (.int (v i))) (by omega) (by omega) (hS.keep (fun _ _ _ => up_ne _ _ (Or.inl (by omega)))) (fun k hk => by rw [up_ne _ _ (Or.inl (by omega))]; exact h1 k hk) (fun k hk => by
      by_cases hki : k = i
      · subst hki; exact up_at _ _ _ _
      · rw [up_ne _ _ (Or.inr hki)]; exact h2 k (by omega))
    refine ⟨n1, m', ?_, e2, fun b hb => by rw [e3 b hb, up_row _ _ _ hb]⟩
    conv => lhs; unfold X12_blind_L124
    simp only [LT, ZA]
    rw [ien (by omega), rd_gr hT.me hS.here_, Option.bind_some, rd_gr hT.me hS.below_, Option.bind_some, rd_ai hT.below_ (i := 128 * deep + i) (by omega) (by omega) (by omega) (h1 i (by omega)), Option.bind_some, wr_si hT.here_ (i := i) rfl (by omega) (by omega), Option.bind_some]
    exact e1
theorem X12_blind_out (k1 : Int64 → Int32 → mm_V → Option (Int64 × mm_V)) {i1 i2 i3 : Int32} {W sh : Int64} {deep sz : Nat} (hdp : deep < 4) (hz : ¬ (zI sz).toInt64 = 0) {v : Nat → Int32} (hT : modT e.1 q) : ∀ (j i nn : Nat) (m : mm_V), i + j = 128 → j < nn → modS m q → (∀ k, k < 128 → m (q + 26) k = .int (v k)) → (∀ k, k < i → m (q + 24) (128 * (deep + 1) + k) = .int (v k)) → m (q + 27) deep = .long sh → ∃ m', X12_blind_L360 e k1 q i1 i2 i3 all W (zI deep) (zI sz) nn (zI i) m = k1 W (zI (deep + 1 : Nat)) m' ∧ lvl m' q (deep + 1) v 0 (sh / (zI sz).toInt64) ∧ blK q (deep + 1) m m' := by
  intro j
  induction j with
  | zero =>
    intro i nn m hi hj hS h1 h2 h3
    obtain ⟨nn, rfl⟩ : ∃ n', nn = n' + 1 := ⟨nn - 1, by omega⟩
    generalize hm1 : mm_up m (q + 27) (deep + 1) (.long (sh / (zI sz).toInt64)) = m1
    have o1 : ∀ b, b ≠ q + 27 → m1 b = m b := fun b x1 => by rw [← hm1, up_row _ _ _ x1]
    generalize hm2 : mm_up m1 (q + 25) (deep + 1) (.int (zI 0)) = m2
    have o2 : ∀ b, b ≠ q + 25 → m2 b = m1 b := fun b x1 => by rw [← hm2, up_row _ _ _ x1]
    refine ⟨m2, ?_, ⟨fun k hk => by rw [o2 _ (by omega), o1 _ (by omega)]; exact h2 k (by omega), by rw [← hm2, up_at]; rfl, by rw [o2 _ (by omega), ← hm1, up_at]⟩, fun j _ _ _ => by rw [o2 _ (by omega), o1 _ (by omega)], fun j _ => by rw [o2 _ (by omega), o1 _ (by omega)], fun j hj => by rw [← hm2, up_ne _ _ (Or.inr (by omega)), o1 _ (by omega)], fun j hj => by rw [o2 _ (by omega), ← hm1, up_ne _ _ (Or.inr (by omega))], fun b x1 x2 x3 x4 x5 x6 => by rw [o2 b x4, o1 b x6]⟩
    unfold X12_blind_L360
    simp only [LT, ZA]
    rw [iep (by omega), rd_gr hT.me hS.much_, Option.bind_some, Option.bind_some, rd_al hT.much_ (i := deep) rfl (by omega) (by omega) h3, Option.bind_some, if_neg hz, wr_sj hT.much_ (i := deep + 1) (by omega) (by omega) (by omega), Option.bind_some, hm1, rd_gr hT.me (v := q + 25) (by rw [o1 _ (by omega)]; exact hS.at_), Option.bind_some, wr_si hT.at_ (i := deep + 1) (by omega) (by omega) (by omega), Option.bind_some, hm2]
    rfl
  | succ j ih =>
    intro i nn m hi hj hS h1 h2 h3
    obtain ⟨nn, rfl⟩ : ∃ n', nn = n' + 1 := ⟨nn - 1, by omega⟩
    obtain ⟨m', e1, e2, e3⟩ := ih (i + 1) nn (mm_up m (q + 24) (128 * (deep + 1) + i) (.int (v i))) (by omega) (by omega) (hS.keep (fun _ _ _ => up_ne _ _ (Or.inl (by omega)))) (fun k hk => by rw [up_ne _ _ (Or.inl (by omega))]; exact h1 k hk) (fun k hk => by
      by_cases hki : k = i
      · subst hki; exact up_at _ _ _ _
      · rw [up_ne _ _ (Or.inr (by omega))]; exact h2 k (by omega)) (by rw [up_ne _ _ (Or.inl (by omega))]; exact h3)
    refine ⟨m', ?_, e2, blK.trans ⟨fun _ _ _ _ => up_ne _ _ (Or.inl (by omega)), fun j hj => up_ne _ _ (Or.inr (by omega)), fun j _ => up_ne _ _ (Or.inl (by omega)), fun j _ => up_ne _ _ (Or.inl (by omega)), fun b _ _ x3 _ _ _ => up_row _ _ _ x3⟩ e3⟩
    unfold X12_blind_L360
    simp only [LT, ZA]
    rw [ien (by omega), rd_gr hT.me hS.below_, Option.bind_some, rd_gr hT.me hS.here_, Option.bind_some, rd_ai hT.here_ (i := i) rfl (by omega) (by omega) (h1 i (by omega)), Option.bind_some, wr_si hT.below_ (i := 128 * (deep + 1) + i) (by omega) (by omega) (by omega), Option.bind_some]
    exact e1
theorem X12_blind_leaf (k1 : Int64 → Int32 → mm_V → Option (Int64 × mm_V)) {m : mm_V} {i2 : Int32} {W sh : Int64} {deep : Nat} {S : PS} (hdp : deep < 5) (hp : p < N) (hw : what < 6) (E : mE e m q N P rl) (h : gM m (q + 26) N S) (ok : okS N P S) (h3 : m (q + 27) deep = .long sh) (hN : 1000 < e.2.2) : X12_blind_b176 e k1 q (zI p) i2 (zI what) all W (zI deep) m = k1 (lf1 N p what S sh W) (zI ((deep : Int) - 1)) m := by
  obtain ⟨hT, hS, t1, t2, tr, tw, h2, h6, hP⟩ := E
  have hlt := ok.1.lt hP
  obtain ⟨w, w1, w2, w3⟩ := ok.1.qn
  have hl := ozI_some (o := lsr N S.1) (w := p) (fun k hk => by unfold lsr at hk; split at hk; rw [w2] at hk; cases hk; omega; cases hk) (by omega)
  have hlen := (h.1 p (by omega)).2.1
  have y : X12_blind_b243 e k1 q (zI p) i2 (zI what) all W (zI deep) 1 m = k1 (W + sh) (zI ((deep : Int) - 1)) m := by
    unfold X12_blind_b243 X12_blind_b263
    simp only [LT, ZA]
    rw [iqn (by omega), rd_gr hT.me hS.much_, Option.bind_some, rd_al hT.much_ (i := deep) rfl (by omega) (by omega) h3, Option.bind_some]
    rfl
  have z : X12_blind_b243 e k1 q (zI p) i2 (zI what) all W (zI deep) 0 m = k1 (W + 0) (zI ((deep : Int) - 1)) m := by
    unfold X12_blind_b243 X12_blind_b263
    simp only [LT, ZA, if_true]
    rfl
  unfold X12_blind_b176 lf1 pk3 inc3
  simp only [LT, ZA] at y z ⊢
  by_cases c1 : what < 2
  · rw [if_pos c1, ien (by omega), rd_gr hT.me hS.here_, Option.bind_some, show (zI 0 : Int32) = zI ((0 : Nat) : Int) from rfl, X12_placeOf_eq hT.here_ h.1 (show p < 6 by omega) (hlt p) (by omega) (by omega), Option.bind_some]
    have hz := ozI_none (o := idx 0 (S.1 p)) (fun k hk => by have := idx_bound hk; omega)
    simp only [hz]
    by_cases hq : hasQ S.1 p = true
    · have : p = w := (w3 p).mp hq
      have hi : ¬ idx 0 (S.1 p) = none := by unfold hasQ at hq; intro hh; rw [hh] at hq; cases hq
      have hqn : qn N S.1 = some p := by rw [w2, this]
      rw [if_neg hi, if_pos hqn]
      exact y
    · have hne : p ≠ w := fun hh => hq ((w3 p).mpr hh)
      have hi : idx 0 (S.1 p) = none := by unfold hasQ at hq; cases hh : idx 0 (S.1 p) with | none => rfl | some k => rw [hh] at hq; exact absurd rfl hq
      have hqn : ¬ qn N S.1 = some p := by rw [w2]; intro hh; exact hne (Option.some.inj hh).symm
      rw [if_pos hi, if_neg hqn]
      exact z
  · rw [if_neg c1, iep (by omega)]
    by_cases c2 : what < 4
    · rw [if_pos c2, ien (by omega), rd_gr hT.me hS.here_, Option.bind_some, X12_size_eq hT.here_ h.1 (show p < 6 by omega), Option.bind_some]
      by_cases hc : hasC S.1 p = true
      · have := hasC_pos.mp hc
        rw [if_pos hc, inp (by omega)]
        exact z
      · have := mt hasC_pos.mpr hc
        rw [if_neg hc, inn (by omega)]
        exact y
    · rw [if_neg c2, iep (by omega), rd_gr hT.me hS.here_, Option.bind_some, X12_loser_eq hT.here_ hT.me h.1 hlt t1 h6 (by omega), Option.bind_some]
      simp only [eq_comm (a := ozI (lsr N S.1)), hl]
      by_cases hh : lsr N S.1 = some p
      · rw [if_pos hh, if_neg (not_not_intro hh)]
        exact y
      · rw [if_neg hh, if_pos hh]
        exact z
def blP (o : Option Int64) (q deep nn : Nat) (c : Nat) (m : mm_V) (G : Nat → Int64 → Int32 → mm_V → Option (Int64 × mm_V)) (x : Option (Int64 × mm_V)) : Prop := match o with
  | some W => ∃ n2 m', nn ≤ n2 + c ∧ x = G n2 W (zI ((deep : Int) - 1)) m' ∧ blK q deep m m'
  | none => ∃ m', x = some (-2, m') ∧ blK q 0 m m'
theorem X12_blind_node (hn : n ≤ 4) (hp : p < N) (hw : what < 6) (hN : 2000 < e.2.2) : ∀ (d deep nn : Nat) (S : PS) (sh W : Int64) (v : Nat → Int32) (m : mm_V), deep + d = n → cst d ≤ nn → okS N P S → isRow v N S → lvl m q deep v 0 sh → mE e m q N P rl → sitM m q sit → blP (spr rl sit N (lf1 N p what) d S sh W) q deep nn (cst d) m (X12_blind_L116 e q (zI p) (zI n) (zI what) all) (X12_blind_L116 e q (zI p) (zI n) (zI what) all nn W (zI deep) m) := by
  intro d
  have hpre : ∀ (deep k nn : Nat) (S : PS) (sh W : Int64) (v : Nat → Int32) (m : mm_V), deep ≤ n → okS N P S → isRow v N S → lvl m q deep v k sh → mE e m q N P rl → sitM m q sit → ∃ n1 m1, X12_blind_L116 e q (zI p) (zI n) (zI what) all (nn + 1) W (zI deep) m = X12_blind_L124 e (X12_blind_L116 e q (zI p) (zI n) (zI what) all nn) q (zI p) (zI n) (zI what) all W (zI deep) (n1 + 1) (zI 128) m1 ∧ gM m1 (q + 26) N S ∧ lvl m1 q deep v k sh ∧ mE e m1 q N P rl ∧ sitM m1 q sit ∧ (∀ k, k < 128 → m1 (q + 26) k = .int (v k)) ∧ ∀ b, b ≠ q + 26 → m1 b = m b := by
    intro deep k nn S sh W v m hd ok hv hl E hs
    obtain ⟨n1, m1, a1, a2, a3⟩ := X12_blind_in (e := e) (all := all) (i1 := zI p) (i2 := zI n) (i3 := zI what) (W := W) (deep := deep) (v := v) (X12_blind_L116 e q (zI p) (zI n) (zI what) all nn) (by omega) E.1 128 0 e.2.2 m (by omega) (by omega) E.2.1 hl.1 (fun k hk => absurd hk (by omega))
    refine ⟨n1, m1, ?_, hv m1 (q + 26) a2, ⟨fun j hj => by rw [a3 _ (by omega)]; exact hl.1 j hj, by rw [a3 _ (by omega)]; exact hl.2.1, by rw [a3 _ (by omega)]; exact hl.2.2⟩, E.keep (fun j _ => by rw [a3 _ (by omega)]) (a3 _ (by omega)) (a3 _ (by omega)), hs.keep (a3 _ (by omega)), a2, a3⟩
    conv => lhs; unfold X12_blind_L116
    simp only [LT]
    rw [iln (by omega)]
    exact a1
  have blk1 : ∀ (deep : Nat) (m m1 : mm_V), (∀ b, b ≠ q + 26 → m1 b = m b) → blK q deep m m1 := fun deep m m1 a3 => ⟨fun _ _ _ _ => by rw [a3 _ (by omega)], fun _ _ => by rw [a3 _ (by omega)], fun _ _ => by rw [a3 _ (by omega)], fun _ _ => by rw [a3 _ (by omega)], fun b _ _ _ _ x5 _ => a3 b x5⟩
  induction d with
  | zero =>
    intro deep nn S sh W v m hd hc ok hv hl E hs
    obtain ⟨nn, rfl⟩ : ∃ n', nn = n' + 1 := ⟨nn - 1, by unfold cst at hc; omega⟩
    obtain ⟨n1, m1, a1, a2, a3, a4, a5, a6, a7⟩ := hpre deep 0 nn S sh W v m (by omega) ok hv hl E hs
    have lf := X12_blind_leaf (e := e) (all := all) (i2 := zI n) (W := W) (X12_blind_L116 e q (zI p) (zI n) (zI what) all nn) (show deep < 5 by omega) hp hw a4 a2 ok a3.2.2 (by omega)
    rw [spr]
    refine ⟨nn, m1, by unfold cst; omega, ?_, blk1 deep m m1 a7⟩
    rw [a1]
    unfold X12_blind_L124
    simp only [LT]
    rw [iep (by omega), iqp (by omega)]
    exact lf
  | succ d ih =>
    intro deep nn S sh W v m hd hc ok hv hl E hs
    obtain ⟨tT, tS, t1, t2, tr, tw, h2, h6, hP⟩ := id E
    have hcs : cst (d + 1) = 9 * (1 + cst d) + 1 := rfl
    cases hov : isOv N S.1 with
    | true =>
      obtain ⟨nn, rfl⟩ : ∃ n', nn = n' + 1 := ⟨nn - 1, by omega⟩
      obtain ⟨n1, m1, a1, a2, a3, a4, a5, a6, a7⟩ := hpre deep 0 nn S sh W v m (by omega) ok hv hl E hs
      have lf := X12_blind_leaf (e := e) (all := all) (i2 := zI n) (W := W) (X12_blind_L116 e q (zI p) (zI n) (zI what) all nn) (show deep < 5 by omega) hp hw a4 a2 ok a3.2.2 (by omega)
      have hsp : spr rl sit N (lf1 N p what) (d + 1) S sh W = some (lf1 N p what S sh W) := by rw [spr, if_pos hov]
      rw [hsp]
      refine ⟨nn, m1, by omega, ?_, blk1 deep m m1 a7⟩
      rw [a1]
      unfold X12_blind_L124
      simp only [LT]
      rw [iep (by omega), iqn (by omega), rd_gr tT.me a4.2.1.here_, Option.bind_some, X12_isOver_eq tT.here_ tT.me a2.1 a4.2.2.1 h6 (by omega), hov, Option.bind_some]
      simp only [bZ, if_true]
      rw [iqn (by omega)]
      exact lf
    | false =>
      obtain ⟨p', s, p1, p2, s1, s2, s3, s4, s5, s6, s7, s8⟩ := nxk_ex rl sit ok hov
      have hl10 := ok.1.len hP s
      have hpos := hasC_pos.mp s5
      have hsp : spr rl sit N (lf1 N p what) (d + 1) S sh W = if 9 < (S.1 s).length then none else itF (fun k B => spr rl sit N (lf1 N p what) d (nxk rl sit N S k) (sh / (zI (S.1 s).length).toInt64) B) (S.1 s).length 0 W := by rw [spr, if_neg (by rw [hov]; simp), s7]
      rw [hsp]
      -- one visit of the node
      have visit : ∀ (k nn : Nat) (W : Int64) (m : mm_V), lvl m q deep v k sh → mE e m q N P rl → sitM m q sit → ∃ (n1 : Nat) (m1 : mm_V), gM m1 (q + 26) N S ∧ lvl m1 q deep v k sh ∧ mE e m1 q N P rl ∧ sitM m1 q sit ∧ (∀ k, k < 128 → m1 (q + 26) k = .int (v k)) ∧ (∀ b, b ≠ q + 26 → m1 b = m b) ∧ ∀ y, (if (zI (S.1 s).length) ≤ (zI 9) then ((mm_gr e.1 m1 12 75 q 56).bind fun c9 => (mm_ai e.1 m1 20 c9 (zI deep)).bind fun x10 => if ¬ x10 = (zI (S.1 s).length) then ((mm_gr e.1 m1 12 75 q 57).bind fun c11 => (mm_gr e.1 m1 12 75 q 56).bind fun c12 => (mm_ai e.1 m1 20 c12 (zI deep)).bind fun x13 => (X12_drawsOf e q c11 (zI s) x13 (zI 0) m1).bind fun r14 => (mm_gr e.1 r14 12 75 q 56).bind fun c15 => (mm_ai e.1 r14 20 c15 (zI deep)).bind fun x16 => (mm_si e.1 r14 c15 (zI deep) (x16 + (zI 1))).bind fun m17 => X12_blind_L360 e (X12_blind_L116 e q (zI p) (zI n) (zI what) all nn) q (zI p) (zI n) (zI what) all W (zI deep) (zI (S.1 s).length) e.2.2 (zI 0) m17) else (X12_blind_L116 e q (zI p) (zI n) (zI what) all nn W (zI deep + -(zI 1)) m1)) else (some ((-2 : Int64), m1))) = y → X12_blind_L116 e q (zI p) (zI n) (zI what) all (nn + 1) W (zI deep) m = y := by
        intro k nn W m hl E hs
        obtain ⟨n1, m1, a1, a2, a3, a4, a5, a6, a7⟩ := hpre deep k nn S sh W v m (by omega) ok hv hl E hs
        refine ⟨n1, m1, a2, a3, a4, a5, a6, a7, fun y hy => ?_⟩
        have g2 := a2.2.1
        rw [hov, p1] at g2
        have no := X12_nextOf_eq (e := e) tT.here_ tT.me a2.1 a4.2.2.1 h2 h6 p2 (by omega)
        rw [s1] at no
        rw [a1]
        unfold X12_blind_L124
        simp only [LT]
        rw [iep (by omega), iqn (by omega), rd_gr tT.me a4.2.1.here_, Option.bind_some, X12_isOver_eq tT.here_ tT.me a2.1 a4.2.2.1 h6 (by omega), hov, Option.bind_some]
        simp only [bZ, Bool.false_eq_true, if_false, if_true]
        rw [rd_gr tT.me a4.2.1.here_, Option.bind_some, Option.bind_some, rd_ai tT.here_ (i := 0) (by omega) (by omega) (by omega) g2, Option.bind_some]
        simp only [ozI, Bool.false_eq_true, if_false] at no ⊢
        rw [no, Option.bind_some, rd_gr tT.me a4.2.1.here_, Option.bind_some, X12_size_eq tT.here_ a2.1 (show s < 6 by omega), Option.bind_some]
        exact hy
      by_cases h9 : 9 < (S.1 s).length
      · rw [if_pos h9]
        obtain ⟨nn, rfl⟩ : ∃ n', nn = n' + 1 := ⟨nn - 1, by omega⟩
        obtain ⟨n1, m1, a2, a3, a4, a5, a6, a7, a8⟩ := visit 0 nn W m hl E hs
        refine ⟨m1, a8 _ ?_, blk1 0 m m1 a7⟩
        rw [ien (by omega)]
      · rw [if_neg h9]
        have hdv : ¬ (zI (S.1 s).length).toInt64 = 0 := by
          intro hh
          have h1 := congrArg Int64.toInt hh
          rw [Int32.toInt_toInt64, zI_toInt (by omega) (by omega)] at h1
          have : ((0 : Int64).toInt) = 0 := rfl
          omega
        have loop : ∀ (j k nn : Nat) (W : Int64) (m : mm_V), k + j = (S.1 s).length → j * (1 + cst d) + 1 ≤ nn → lvl m q deep v k sh → mE e m q N P rl → sitM m q sit → blP (itF (fun k B => spr rl sit N (lf1 N p what) d (nxk rl sit N S k) (sh / (zI (S.1 s).length).toInt64) B) j k W) q deep nn (j * (1 + cst d) + 1) m (X12_blind_L116 e q (zI p) (zI n) (zI what) all) (X12_blind_L116 e q (zI p) (zI n) (zI what) all nn W (zI deep) m) := by
          intro j
          induction j with
          | zero =>
            intro k nn W m hk hc hl E hs
            obtain ⟨nn, rfl⟩ : ∃ n', nn = n' + 1 := ⟨nn - 1, by omega⟩
            obtain ⟨n1, m1, a2, a3, a4, a5, a6, a7, a8⟩ := visit k nn W m hl E hs
            rw [itF]
            refine ⟨nn, m1, by omega, a8 _ ?_, blk1 deep m m1 a7⟩
            rw [iep (by omega), rd_gr tT.me a4.2.1.at_, Option.bind_some, rd_ai tT.at_ (i := deep) rfl (by omega) (by omega) a3.2.1, Option.bind_some, inn (by omega)]
            simp only [ZA]
            rfl
          | succ j ihj =>
            intro k nn W m hk hc hl E hs
            have hmul : (j + 1) * (1 + cst d) = j * (1 + cst d) + (1 + cst d) := Nat.succ_mul _ _
            obtain ⟨nn, rfl⟩ : ∃ n', nn = n' + 1 := ⟨nn - 1, by omega⟩
            obtain ⟨n1, m1, a2, a3, a4, a5, a6, a7, a8⟩ := visit k nn W m hl E hs
            obtain ⟨c, c1, c2⟩ := s8 k (by omega)
            obtain ⟨m2, b1, b2, b3, b4, b5, b6, b7⟩ := X12_drawsOf_pure (e := e) (q := q) (r := q + 26) (st := false) (lw := zI 0) (by decide) a4 a5 tT.here_ (by omega) a2 ok hov p1 p2 s3 s4 c1 hN
            rw [← c2] at b2
            have ok2 : okS N P (nxk rl sit N S k) := by rw [c2]; exact okS_nx ok p2 s3 s4 c1
            have hint : ∀ i, i < 128 → ∃ x, m2 (q + 26) i = .int x := fun i hi => X12_drawsOf_iK b1 (q + 26) 128 tT.here_ i ⟨_, a6 i hi⟩
            obtain ⟨v2, hv2⟩ := ints_ex hint
            generalize hm3 : mm_up m2 (q + 25) deep (.int (zI (k + 1 : Nat))) = m3
            have o3 : ∀ b, b ≠ q + 25 → m3 b = m2 b := fun b x1 => by rw [← hm3, up_row _ _ _ x1]
            have S2 : modS m2 q := a4.2.1.keep (fun i x1 x2 => b6 _ (mfld_ne 45 (by decide) i x1 x2) (mfld_ne 46 (by decide) i x1 x2) (mfld_ne 47 (by decide) i x1 x2))
            have S3 : modS m3 q := S2.keep (fun _ _ _ => by rw [o3 _ (by omega)])
            have x25 : m2 (q + 25) deep = .int (zI k) := by rw [b7 _ (by omega) (by omega) (by omega)]; exact a3.2.1
            have x27 : m3 (q + 27) deep = .long sh := by rw [o3 _ (by omega), b7 _ (by omega) (by omega) (by omega)]; exact a3.2.2
            obtain ⟨m4, d1, d2, d3⟩ := X12_blind_out (e := e) (all := all) (i1 := zI p) (i2 := zI n) (i3 := zI what) (W := W) (sh := sh) (deep := deep) (sz := (S.1 s).length) (v := v2) (X12_blind_L116 e q (zI p) (zI n) (zI what) all nn) (by omega) hdv tT 128 0 e.2.2 m3 (by omega) (by omega) S3 (fun i hi => by rw [o3 _ (by omega)]; exact hv2 i hi) (fun i hi => absurd hi (by omega)) x27
            have hgo : X12_blind_L116 e q (zI p) (zI n) (zI what) all (nn + 1) W (zI deep) m = X12_blind_L116 e q (zI p) (zI n) (zI what) all nn W (zI (deep + 1 : Nat)) m4 := by
              refine a8 _ ?_
              rw [iep (by omega), rd_gr tT.me a4.2.1.at_, Option.bind_some, rd_ai tT.at_ (i := deep) rfl (by omega) (by omega) a3.2.1, Option.bind_some, inp (by omega), rd_gr tT.me a4.2.1.here_, Option.bind_some, Option.bind_some, rd_ai tT.at_ (i := deep) rfl (by omega) (by omega) a3.2.1, Option.bind_some]
              have b1' : X12_drawsOf e q (q + 26) (zI s) (zI k) (zI 0) m1 = some m2 := b1
              rw [b1', Option.bind_some, rd_gr tT.me S2.at_, Option.bind_some, rd_ai tT.at_ (i := deep) rfl (by omega) (by omega) x25, Option.bind_some, zI_add, show ((k : Int) + 1) = ((k + 1 : Nat) : Int) by omega, wr_si tT.at_ (i := deep) rfl (by omega) (by omega), Option.bind_some, hm3]
              rw [show (zI 0 : Int32) = zI ((0 : Nat) : Int) from rfl]
              exact d1
            -- up to the child nothing below or at this level has changed but the count
            have K3 : blK q deep m m3 := ⟨fun j x1 x2 x3 => by rw [o3 _ (by omega), b6 j x1 x2 x3, a7 _ (by omega)], fun j _ => by rw [o3 _ (by omega), b7 _ (by omega) (by omega) (by omega), a7 _ (by omega)], fun j hj => by rw [← hm3, up_ne _ _ (Or.inr (by omega)), b7 _ (by omega) (by omega) (by omega), a7 _ (by omega)], fun j _ => by rw [o3 _ (by omega), b7 _ (by omega) (by omega) (by omega), a7 _ (by omega)], fun b x1 x2 x3 x4 x5 x6 => by rw [o3 b x4, b7 b x1 x5 x2, a7 b x5]⟩
            have K4 : blK q deep m m4 := K3.trans (d3.less (by omega))
            have E4 : mE e m4 q N P rl := E.blK K4
            have s4' : sitM m4 q sit := hs.keep (K4.2.2.2.2 _ (by omega) (by omega) (by omega) (by omega) (by omega) (by omega))
            have l4 : ∀ m' : mm_V, blK q (deep + 1) m4 m' → lvl m' q deep v (k + 1) sh := by
              intro m' K
              have KK := d3.trans K
              refine ⟨fun j hj => ?_, ?_, ?_⟩
              · rw [KK.2.1 _ (by omega), o3 _ (by omega), b7 _ (by omega) (by omega) (by omega)]; exact a3.1 j hj
              · rw [KK.2.2.1 _ (by omega), ← hm3, up_at]
              · rw [KK.2.2.2.1 _ (by omega)]; exact x27
            have child := ih (deep + 1) nn (nxk rl sit N S k) (sh / (zI (S.1 s).length).toInt64) W v2 m4 (by omega) (by omega) ok2 (b2.isRow hv2) d2 E4 s4'
            rw [itF]
            cases hr : spr rl sit N (lf1 N p what) d (nxk rl sit N S k) (sh / (zI (S.1 s).length).toInt64) W with
            | none =>
              rw [hr] at child
              obtain ⟨m', f1, f2⟩ := child
              refine ⟨m', ?_, (K4.less (Nat.zero_le _)).trans f2⟩
              rw [hgo]; exact f1
            | some W' =>
              rw [hr] at child
              obtain ⟨n2, m5, f1, f2, f3⟩ := child
              rw [show (((deep + 1 : Nat) : Int) - 1) = (deep : Int) by omega] at f2
              have nxtS := ihj (k + 1) n2 W' m5 (by omega) (by omega) (l4 m5 f3) (E4.blK f3) (s4'.keep (f3.2.2.2.2 _ (by omega) (by omega) (by omega) (by omega) (by omega) (by omega)))
              have K5 : blK q deep m m5 := K4.trans (f3.less (by omega))
              show blP (itF (fun k B => spr rl sit N (lf1 N p what) d (nxk rl sit N S k) (sh / (zI (S.1 s).length).toInt64) B) j (k + 1) W') q deep (nn + 1) ((j + 1) * (1 + cst d) + 1) m _ _
              rw [hgo, f2]
              cases hi : itF (fun k B => spr rl sit N (lf1 N p what) d (nxk rl sit N S k) (sh / (zI (S.1 s).length).toInt64) B) j (k + 1) W' with
              | none =>
                rw [hi] at nxtS
                obtain ⟨m', g1, g2⟩ := nxtS
                exact ⟨m', g1, (K5.less (Nat.zero_le _)).trans g2⟩
              | some W'' =>
                rw [hi] at nxtS
                obtain ⟨n3, m', g1, g2, g3⟩ := nxtS
                exact ⟨n3, m', by omega, g2, K5.trans g3⟩
        have hm9 : (S.1 s).length * (1 + cst d) ≤ 9 * (1 + cst d) := Nat.mul_le_mul_right _ (by omega)
        have fin := loop (S.1 s).length 0 nn W m (by omega) (by omega) hl E hs
        cases hi : itF (fun k B => spr rl sit N (lf1 N p what) d (nxk rl sit N S k) (sh / (zI (S.1 s).length).toInt64) B) (S.1 s).length 0 W with
        | none => rw [hi] at fin; exact fin
        | some W' =>
          rw [hi] at fin
          obtain ⟨n3, m', g1, g2, g3⟩ := fin
          exact ⟨n3, m', by omega, g2, g3⟩
end BLINDM
