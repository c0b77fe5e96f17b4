/-! CALLS: peeped, habit. -/
section CA8
variable {e : mm_E} {z t d q K : Nat} {C : CF} {G : GM} {M : MI}
theorem chn_mem {rl : Nat → List Int} {N P : Nat} : ∀ (hs : List HS) (A B : PS), chn rl N P hs A B → ∀ (i : Nat) (h : HS), hs[i]? = some h → hsOk N P h
  | [], _, _, _, i, h, hh => by simp at hh
  | g :: hs, A, B, hc, i, h, hh => by
    obtain ⟨h1, h2, h3⟩ := hc
    cases i with
    | zero => simp at hh; rw [← hh]; exact h2
    | succ i => exact chn_mem hs _ _ h3 i h (by simpa using hh)
def rAt (C : CF) (G : GM) (i : Nat) : QR := (G.2.2.1.map (hsV C.2.2.2.1)).getD i (fun _ => 0)
theorem rAt_some {i : Nat} (hi : i < G.2.2.1.length) : (G.2.2.1.map (hsV C.2.2.2.1))[i]? = some (rAt C G i) := by
  unfold rAt
  rw [List.getD_eq_getElem?_getD, List.getElem?_eq_getElem (by rw [List.length_map]; exact hi)]
  rfl
def recG (v : QR) : Prop := ∃ (p s k n c : Nat) (b : Bool), v 0 = zI p ∧ v 1 = zI s ∧ v 2 = zI k ∧ v 3 = zI n ∧ v 4 = bZ b ∧ v 5 = zI c ∧ p < 6 ∧ s < 6 ∧ k < 10 ∧ 1 ≤ n ∧ n ≤ 10 ∧ c ≤ 9
theorem rAt_ok {i : Nat} (hp : pureI C G M K) (hi : i < G.2.2.1.length) : recG (rAt C G i) := by
  obtain ⟨-, -, A, D, h3, -⟩ := hp.2.2.1
  have h6 := hp.1.2.1
  have hP := hp.1.2.2.1
  have hx : G.2.2.1[i]? = some G.2.2.1[i] := List.getElem?_eq_getElem hi
  have ho := chn_mem _ _ _ h3 i _ hx
  have hr := rAt_some (C := C) hi
  rw [List.getElem?_map, hx] at hr
  have hr : hsV C.2.2.2.1 G.2.2.1[i] = rAt C G i := by injection hr
  rw [← hr]
  generalize G.2.2.1[i] = h at ho
  obtain ⟨o1, o2, o3, o4, o5, o6, o7, o8⟩ := ho
  have hk := (List.getElem?_eq_some_iff.mp o8).1
  have hc := o1.1.2.1 _ _ (List.mem_of_getElem? o8)
  have hl := o1.1.len hP h.2.2.1
  exact ⟨h.2.1, h.2.2.1, h.2.2.2.1, (h.1.1 h.2.2.1).length, h.2.2.2.2, hasQ h.1.1 h.2.2.1, rfl, rfl, rfl, rfl, rfl, rfl, by omega, by omega, by omega, by omega, by omega, by omega⟩
/-! peeped -/
abbrev PE : Type := Nat × Nat × Int64 × Int64
def peS1 (v : QR) (p : Nat) (X : PE) : PE := if v 0 = zI p then (if v 4 = zI 0 then X else (X.1 + 1, X.2.1 + (if v 5 = zI 0 then 1 else 0), if 12 ≤ X.1 then X.2.2 else (X.2.2.1 * (v 3 - zI 1).toInt64, X.2.2.2 * (v 3).toInt64))) else X
def peS (V : Nat → QR) (p : Nat) : Nat → PE → PE
  | 0, X => X
  | k + 1, X => peS V p k (peS1 (V k) p X)
def peI (X : PE) (n : Nat) : Prop := X.1 ≤ n ∧ X.2.1 ≤ X.1 ∧ ∃ P : Nat, X.2.2.2 = lI P ∧ 0 < P ∧ P ≤ 10 ^ (min X.1 12)
theorem peI_step {v : QR} {p n : Nat} {X : PE} (hv : recG v) (h : peI X n) : peI (peS1 v p X) (n + 1) := by
  obtain ⟨h1, h2, P, h3, h4, h5⟩ := h
  obtain ⟨-, -, -, l, -, -, -, -, -, v3, -, -, -, -, -, l1, l2, -⟩ := hv
  have same : peI X (n + 1) := ⟨by omega, h2, P, h3, h4, h5⟩
  unfold peS1
  split
  · split
    · exact same
    · refine ⟨by simp only; omega, ?_, ?_⟩
      · dsimp only; split <;> omega
      · dsimp only
        split
        · rename_i hx
          exact ⟨P, h3, h4, by rw [show min (X.1 + 1) 12 = min X.1 12 by omega]; exact h5⟩
        · rename_i hx
          refine ⟨P * l, ?_, Nat.mul_pos h4 (by omega), ?_⟩
          · dsimp only
            rw [h3, v3, zL (by omega), lI_mul]
            congr 1
          · rw [show min (X.1 + 1) 12 = min X.1 12 + 1 by omega, Nat.pow_succ]
            exact Nat.mul_le_mul h5 l2
  · exact same
theorem peI_low {X : PE} {n : Nat} (h : peI X n) : X.2.2.2 ≠ 0 := by
  obtain ⟨-, -, P, h3, h4, h5⟩ := h
  have : P ≤ 10 ^ 12 := Nat.le_trans h5 (Nat.pow_le_pow_right (by omega) (by omega))
  rw [h3]
  exact lI_ne (by omega) (by have : (10 : Nat) ^ 12 = 1000000000000 := by decide
                             omega)
def pkE (w : Int) (X : PE) : Int64 := if w = 2 then (zI X.1).toInt64 else if w = 3 then (zI X.2.1).toInt64 else frc X.2.2.1 X.2.2.2 (decide (w = 0))
def peA (C : CF) (G : GM) (a w : Int) : Int64 ⊕ Nat := if 0 ≤ a ∧ a < C.1 then (if 0 ≤ w ∧ w ≤ 3 then .inl (pkE w (peS (rAt C G) a.toNat G.2.2.1.length (0, 0, 1, 1))) else .inr 1) else .inr 1
theorem cl_peeped_loop {m m0 : mm_V} {A : Int64 ⊕ Nat} {p : Nat} {w : Int} (hw : 0 ≤ w ∧ w ≤ 3) (hT : icT e z) (hp : pureI C G M K) (h : IC e m z t d C G M) (hf : ∀ b, (b < z ∨ z + 402 ≤ b) → m b = m0 b) {Y : PE} (hA : A = .inl (pkE w Y)) : ∀ (k n nn : Nat) (X : PE), n + k = G.2.2.1.length → k < nn → peS (rAt C G) p k X = Y → peI X n → Ev (X11_peeped_L44 e z (zI p) (zI w) nn X.2.2.1 X.2.2.2 (zI X.1) (zI X.2.1) (zI ((k : Int) - 1)) m) (clS A e z t d C G M m0) := by
  have h60 := hp.2.2.1.2.1
  have hF := h.2.1
  have hL := h.2.2.2.2.2.2.1
  have hlT := hT.2.2.2.1
  have hN := hT.2.2.2.2.2.2.2.2.2.2.2.2.2.2
  intro k
  induction k with
  | zero =>
    intro n nn X hi hnn hh hI
    obtain ⟨nn, rfl⟩ : ∃ n', nn = n' + 1 := ⟨nn - 1, by omega⟩
    rw [peS] at hh
    rw [← hh] at hA
    unfold pkE at hA
    rw [X11_peeped_L44]
    unfold X11_peeped_b165 X11_peeped_b152
    simp only [LT, zI_neg]
    refine ev_ilp (x := -1) rfl rfl (by omega) ?_
    by_cases w2 : w < 2
    · rw [if_neg (by omega), if_neg (by omega)] at hA
      refine ev_ilp rfl rfl (by omega) ?_
      by_cases w0 : w = 0
      · rw [decide_eq_true w0] at hA
        exact ev_inn rfl rfl (by omega) (ev_eq (show X11_lowest e _ _ (zI 1) m = _ from X11_lowest_eq (peI_low hI) true (by omega)) (ev_cl hA h hf))
      · rw [decide_eq_false w0] at hA
        exact ev_inp rfl rfl (by omega) (ev_eq (show X11_lowest e _ _ (zI 0) m = _ from X11_lowest_eq (peI_low hI) false (by omega)) (ev_cl hA h hf))
    · refine ev_iln rfl rfl (by omega) ?_
      by_cases w2' : w = 2
      · rw [if_pos w2'] at hA
        exact ev_inn rfl rfl (by omega) (ev_cl hA h hf)
      · rw [if_neg w2', if_pos (by omega)] at hA
        exact ev_inp rfl rfl (by omega) (ev_cl hA h hf)
  | succ k ih =>
    intro n nn X hi hnn hh hI
    obtain ⟨nn, rfl⟩ : ∃ n', nn = n' + 1 := ⟨nn - 1, by omega⟩
    have hrk := rAt_ok hp (show k < G.2.2.1.length by omega)
    have hI' := peI_step (p := p) hrk hI
    obtain ⟨dd, e1, r1, d1, d2, d3⟩ := X5_at_eq (e := e) hlT hL.1 (rAt_some (C := C) (show k < G.2.2.1.length by omega))
    have hX1 := hI.1
    have hX2 := hI.2.1
    rw [peS] at hh
    have go : ∀ X', peS1 (rAt C G k) p X = X' → Ev (X11_peeped_L44 e z (zI p) (zI w) nn X'.2.2.1 X'.2.2.2 (zI X'.1) (zI X'.2.1) (zI ((k : Int) - 1)) m) (clS A e z t d C G M m0) := fun X' hX' => by
      rw [hX'] at hh hI'
      exact ih (n + 1) nn X' (by omega) (by omega) hh hI'
    rw [X11_peeped_L44]
    unfold X11_peeped_b106 X11_peeped_b124 X11_peeped_b127
    simp only [LT, zI_neg]
    rw [show (zI (((k + 1 : Nat) : Int) - 1) + zI (-1) : Int32) = zI ((k : Int) - 1) by rw [zI_add]; congr 1; omega, show (zI (((k + 1 : Nat) : Int) - 1) : Int32) = zI (k : Int) by congr 1; omega, show (zI (X.1 : Int) + zI 1 : Int32) = zI ((X.1 + 1 : Nat) : Int) from zI_add _ _, show (zI (X.2.1 : Int) + zI 1 : Int32) = zI ((X.2.1 + 1 : Nat) : Int) from zI_add _ _, show (zI (X.2.1 : Int) + zI 0 : Int32) = zI ((X.2.1 + 0 : Nat) : Int) from zI_add _ _]
    refine ev_iln rfl rfl (by omega) (ev_gr hT.1 hF.1.2.2.2.2.1 (ev_tg hlT.1 (ev_eq e1 (ev_gi d1 (r1.1 0 (by omega)) ?_))))
    unfold peS1 at go
    by_cases v0 : rAt C G k 0 = zI p
    · refine ev_no (not_not_intro v0) (ev_gi d1 (r1.1 4 (by omega)) ?_)
      by_cases v4 : rAt C G k 4 = zI 0
      · exact ev_yes v4 (go X (by rw [if_pos v0, if_pos v4]))
      · refine ev_no v4 ?_
        by_cases c12 : 12 ≤ X.1
        · refine ev_iep rfl rfl (by omega) (ev_gi d1 (r1.1 5 (by omega)) ?_)
          by_cases v5 : rAt C G k 5 = zI 0
          · exact ev_no (not_not_intro v5) (go (X.1 + 1, X.2.1 + 1, X.2.2) (by rw [if_pos v0, if_neg v4, if_pos v5, if_pos c12]))
          · exact ev_yes v5 (go (X.1 + 1, X.2.1 + 0, X.2.2) (by rw [if_pos v0, if_neg v4, if_neg v5, if_pos c12]))
        · refine ev_ien rfl rfl (by omega) (ev_gi d1 (r1.1 3 (by omega)) (ev_gi d1 (r1.1 3 (by omega)) (ev_gi d1 (r1.1 5 (by omega)) ?_)))
          by_cases v5 : rAt C G k 5 = zI 0
          · exact ev_no (not_not_intro v5) (go (X.1 + 1, X.2.1 + 1, X.2.2.1 * (rAt C G k 3 - zI 1).toInt64, X.2.2.2 * (rAt C G k 3).toInt64) (by rw [if_pos v0, if_neg v4, if_pos v5, if_neg c12]))
          · exact ev_yes v5 (go (X.1 + 1, X.2.1 + 0, X.2.2.1 * (rAt C G k 3 - zI 1).toInt64, X.2.2.2 * (rAt C G k 3).toInt64) (by rw [if_pos v0, if_neg v4, if_neg v5, if_neg c12]))
    · exact ev_yes v0 (go X (by rw [if_neg v0]))
theorem peI_0 : peI (0, 0, 1, 1) 0 := ⟨Nat.le_refl _, Nat.le_refl _, 1, rfl, by omega, by simp⟩
theorem cl_peeped {m : mm_V} {a w : Int} (ha : i32 a) (hw : i32 w) (hT : icT e z) (hp : pureI C G M K) (h : IC e m z t d C G M) : Ev (X11_peeped e z (zI a) (zI w) m) (clS (peA C G a w) e z t d C G M m) := by
  have hN := hT.2.2.2.2.2.2.2.2.2.2.2.2.2.2
  have h6 := hp.1.2.1
  have h60 := hp.2.2.1.2.1
  have hF := h.2.1
  have hL := h.2.2.2.2.2.2.1
  have hlT := hT.2.2.2.1
  unfold i32 at hw
  unfold X11_peeped peA
  simp only [LT, zI_neg]
  by_cases hpn : 0 ≤ a ∧ a < C.1
  · rw [if_pos hpn]
    refine ev_bx (needPerson_1 ha hT h h6 hpn) ?_
    obtain ⟨p, rfl⟩ : ∃ p : Nat, a = p := ⟨a.toNat, by omega⟩
    rw [Int.toNat_natCast]
    have bad : Ev (X11_peeped_b18 e z (zI p) (zI w) m) (clS (.inr 1) e z t d C G M m) := by
      unfold X11_peeped_b18 X11_peeped_b19
      simp only [LT, zI_neg]
      exact ev_bxx X11_need_0 rfl h (fun _ _ => rfl)
    by_cases w0 : w < 0
    · rw [if_neg (show ¬ (0 ≤ w ∧ w ≤ 3) by omega)]
      exact ev_ilp rfl rfl (by omega) bad
    refine ev_iln rfl rfl (by omega) ?_
    by_cases w5 : 3 < w
    · rw [if_neg (show ¬ (0 ≤ w ∧ w ≤ 3) by omega)]
      exact ev_ilp rfl rfl (by omega) bad
    rw [if_pos (show 0 ≤ w ∧ w ≤ 3 by omega)]
    refine ev_iln rfl rfl (by omega) ?_
    unfold X11_peeped_b19
    simp only [LT, zI_neg]
    refine ev_bx X11_need_1 (ev_gr hT.1 hF.1.2.2.2.2.1 (ev_gi hlT.1 hL.1.2.2.2.1 ?_))
    rw [List.length_map, zI_sub]
    exact cl_peeped_loop (w := w) (p := p) (by omega) hT hp h (fun _ _ => rfl) rfl G.2.2.1.length 0 e.2.2 (0, 0, 1, 1) (by omega) (by omega) rfl peI_0
  · rw [if_neg hpn]
    exact ev_bxx (needPerson_0 ha hT h h6 hpn) rfl h (fun _ _ => rfl)
theorem ml_did {m : mm_V} {i j : Nat} (hT : imT e q) (h : IM e m q C G M) (hi : i < G.2.2.1.length) (hj : j < 9) : X12_did e q (zI i) (zI j) m = some (rAt C G i (mperm j), m) := X12_did_eq hT.1 h.1.2.1 h.2.2.2.2.2.1.2 (rAt_some (C := C) hi) hj
theorem ml_peeped_loop {m m0 : mm_V} {A : Int64 ⊕ Nat} {p : Nat} {w : Int} (hw : 0 ≤ w ∧ w ≤ 3) (hT : imT e q) (hp : pureI C G M K) (h : IM e m q C G M) (z0 : m q 0 = .int (zI 0)) (hf : ∀ b, (b < q ∨ q + 40 ≤ b) → m b = m0 b) {Y : PE} (hA : A = .inl (pkE w Y)) : ∀ (k n nn : Nat) (X : PE), n + k = G.2.2.1.length → k < nn → peS (rAt C G) p k X = Y → peI X n → Ev (X12_peeped_L43 e q (zI p) (zI w) nn (zI X.1) (zI X.2.1) X.2.2.1 X.2.2.2 (zI ((k : Int) - 1)) m) (mlS A e q C G M m0) := by
  have h60 := hp.2.2.1.2.1
  have hN := hT.2.1
  intro k
  induction k with
  | zero =>
    intro n nn X hi hnn hh hI
    obtain ⟨nn, rfl⟩ : ∃ n', nn = n' + 1 := ⟨nn - 1, by omega⟩
    rw [peS] at hh
    rw [← hh] at hA
    unfold pkE at hA
    rw [X12_peeped_L43]
    unfold X12_peeped_b167
    simp only [LT, zI_neg]
    refine ev_ilp (x := -1) rfl rfl (by omega) ?_
    by_cases w2 : 2 ≤ w
    · refine ev_iep rfl rfl (by omega) ?_
      by_cases w2' : w = 2
      · rw [if_pos w2'] at hA
        exact ev_inn rfl rfl (by omega) (ev_ml hA z0 h hf)
      · rw [if_neg w2', if_pos (by omega)] at hA
        exact ev_inp rfl rfl (by omega) (ev_ml hA z0 h hf)
    · rw [if_neg (by omega), if_neg (by omega)] at hA
      have hu : (zI w : Int32) = bZ (!decide (w = 0)) := by
        by_cases hx : w = 0
        · rw [hx]; rfl
        · rw [show w = 1 by omega]; rfl
      refine ev_ien rfl rfl (by omega) ?_
      rw [hu]
      exact ev_eq (X12_portion_eq (peI_low hI) _ (by omega)) (ev_ml hA z0 h hf)
  | succ k ih =>
    intro n nn X hi hnn hh hI
    obtain ⟨nn, rfl⟩ : ∃ n', nn = n' + 1 := ⟨nn - 1, by omega⟩
    have hrk := rAt_ok hp (show k < G.2.2.1.length by omega)
    have hI' := peI_step (p := p) hrk hI
    have dd : ∀ j : Nat, j < 9 → X12_did e q (zI k) (zI j) m = some (rAt C G k (mperm j), m) := fun j hj => ml_did hT h (by omega) hj
    have hX1 := hI.1
    have hX2 := hI.2.1
    rw [peS] at hh
    have go : ∀ X', peS1 (rAt C G k) p X = X' → Ev (X12_peeped_L43 e q (zI p) (zI w) nn (zI X'.1) (zI X'.2.1) X'.2.2.1 X'.2.2.2 (zI ((k : Int) - 1)) m) (mlS A e q C G M m0) := fun X' hX' => by
      rw [hX'] at hh hI'
      exact ih (n + 1) nn X' (by omega) (by omega) hh hI'
    rw [X12_peeped_L43]
    unfold X12_peeped_b109 X12_peeped_b129 X12_peeped_b132
    simp only [LT, zI_neg]
    rw [show (zI (((k + 1 : Nat) : Int) - 1) + zI (-1) : Int32) = zI ((k : Int) - 1) by rw [zI_add]; congr 1; omega, show (zI (((k + 1 : Nat) : Int) - 1) : Int32) = zI (k : Int) by congr 1; omega, show (zI (X.1 : Int) + zI 1 : Int32) = zI ((X.1 + 1 : Nat) : Int) from zI_add _ _, show (zI (X.2.1 : Int) + zI 1 : Int32) = zI ((X.2.1 + 1 : Nat) : Int) from zI_add _ _, show (zI (X.2.1 : Int) + zI 0 : Int32) = zI ((X.2.1 + 0 : Nat) : Int) from zI_add _ _]
    refine ev_iln rfl rfl (by omega) (ev_eq (dd 0 (by omega)) ?_)
    unfold peS1 at go
    by_cases v0 : rAt C G k 0 = zI p
    · refine ev_no (not_not_intro v0) (ev_eq (dd 8 (by omega)) ?_)
      by_cases v4 : rAt C G k 4 = zI 0
      · exact ev_no (not_not_intro v4) (go X (by rw [if_pos v0, if_pos v4]))
      · refine ev_yes v4 ?_
        by_cases c12 : 12 ≤ X.1
        · refine ev_iep rfl rfl (by omega) (ev_eq (dd 3 (by omega)) ?_)
          by_cases v5 : rAt C G k 5 = zI 0
          · exact ev_no (not_not_intro v5) (go (X.1 + 1, X.2.1 + 1, X.2.2) (by rw [if_pos v0, if_neg v4, if_pos v5, if_pos c12]))
          · exact ev_yes v5 (go (X.1 + 1, X.2.1 + 0, X.2.2) (by rw [if_pos v0, if_neg v4, if_neg v5, if_pos c12]))
        · refine ev_ien rfl rfl (by omega) (ev_eq (dd 7 (by omega)) (ev_eq (dd 7 (by omega)) (ev_eq (dd 3 (by omega)) ?_)))
          by_cases v5 : rAt C G k 5 = zI 0
          · exact ev_no (not_not_intro v5) (go (X.1 + 1, X.2.1 + 1, X.2.2.1 * (rAt C G k 3 - zI 1).toInt64, X.2.2.2 * (rAt C G k 3).toInt64) (by rw [if_pos v0, if_neg v4, if_pos v5, if_neg c12]))
          · exact ev_yes v5 (go (X.1 + 1, X.2.1 + 0, X.2.2.1 * (rAt C G k 3 - zI 1).toInt64, X.2.2.2 * (rAt C G k 3).toInt64) (by rw [if_pos v0, if_neg v4, if_neg v5, if_neg c12]))
    · exact ev_yes v0 (go X (by rw [if_neg v0]))
theorem ml_peeped {m : mm_V} {a w : Int} (ha : i32 a) (hw : i32 w) (hT : imT e q) (hp : pureI C G M K) (h : IM e m q C G M) : Ev (X12_peeped e q (zI a) (zI w) m) (mlS (peA C G a w) e q C G M m) := by
  have hTT := hT
  have hN := hT.2.1
  have hT := hT.1
  have h6 := hp.1.2.1
  have h60 := hp.2.2.1.2.1
  have h0 := h.th (zI 0)
  have z0 : (mm_up m q 0 (.int (zI 0))) q 0 = .int (zI 0) := up_at _ _ _ _
  have fr : ∀ b, (b < q ∨ q + 40 ≤ b) → (mm_up m q 0 (.int (zI 0))) b = m b := fr_th
  unfold X12_peeped X12_peeped_b22 peA
  simp only [LT, zI_neg]
  refine ev_pf hT.me ?_
  generalize mm_up m q 0 (.int (zI 0)) = m0 at h0 z0 fr
  obtain ⟨g1, -, -, -, -, g15, -⟩ := id h0
  have bad : ∀ {A : Int64 ⊕ Nat} {k : Nat} (v : Int64), A = .inr k → Ev (some (v, mm_up m0 q 0 (.int (zI k)))) (mlS A e q C G M m) := fun v hA => ev_mlx hA (up_at _ _ _ _) (h0.th _) (fun b hb => by rw [up_row _ _ _ (by omega)]; exact fr b hb)
  by_cases hpn : 0 ≤ a ∧ a < C.1
  · rw [if_pos hpn]
    refine ev_eq (X12_isPerson_1 ha hT z0 g1.2.2.1 h6 hpn) (ev_iqn (x := 1) (y := 0) rfl rfl (by omega) ?_)
    obtain ⟨p, rfl⟩ : ∃ p : Nat, a = p := ⟨a.toNat, by omega⟩
    rw [Int.toNat_natCast]
    by_cases hw3 : 0 ≤ w ∧ w ≤ 3
    · rw [if_pos hw3]
      refine ev_eq (X12_isWhat_1 hw ⟨by omega, by omega⟩ hT z0 hw3) (ev_inp (x := 1) (y := 0) rfl rfl (by omega) (ev_gi hT.me g15.1 ?_))
      rw [List.length_map, zI_sub]
      exact ml_peeped_loop (w := w) (p := p) hw3 hTT hp h0 z0 fr rfl G.2.2.1.length 0 e.2.2 (0, 0, 1, 1) (by omega) (by omega) rfl peI_0
    · rw [if_neg hw3]
      exact ev_eq (X12_isWhat_0 hw ⟨by omega, by omega⟩ hT z0 hw3) (ev_inn (x := 0) (y := 0) rfl rfl (by omega) (bad _ rfl))
  · rw [if_neg hpn]
    exact ev_eq (X12_isPerson_0 ha hT z0 g1.2.2.1 h6 hpn) (ev_iqp (x := 0) (y := 0) rfl rfl (by omega) (bad _ rfl))
/-! habit -/
def dwS (V : Nat → QR) (p w : Nat) : Nat → Nat → Nat → Nat
  | 0, _, s => s
  | j + 1, i, s => dwS V p w j (i + 1) (if V i 0 = zI p then (if (if zI 6 ≤ V i 2 then zI 6 else V i 2) = zI w then s + 1 else s) else s)
def dwN (C : CF) (G : GM) (p w : Nat) : Nat := dwS (rAt C G) p w G.2.2.1.length 0 0
theorem if_le (c1 c2 : Prop) [Decidable c1] [Decidable c2] (s : Nat) : (if c1 then (if c2 then s + 1 else s) else s) ≤ s + 1 := by
  split
  · split <;> omega
  · omega
theorem dwS_le (V : Nat → QR) (p w : Nat) : ∀ j i s, dwS V p w j i s ≤ s + j
  | 0, _, s => Nat.le_refl _
  | j + 1, i, s => by
    rw [dwS]
    exact Nat.le_trans (dwS_le V p w j (i + 1) _) (Nat.le_trans (Nat.add_le_add_right (if_le _ _ s) j) (by omega))
def fvB (F : Nat → Nat) (b : Option Nat) : Nat := match b with
  | none => 0
  | some x => F x
def fvS (F : Nat → Nat) : Nat → Nat → Option Nat → Option Nat
  | 0, _, b => b
  | j + 1, i, b => fvS F j (i + 1) (if F i ≤ fvB F b then b else some i)
def hbS (V : Nat → QR) (p : Nat) (w : Int) : Nat → Nat → Nat → Nat
  | 0, _, s => s
  | j + 1, i, s => hbS V p w j (i + 1) (if V i 1 = zI p then (if V i 4 = zI 0 then s else if w = 8 then s + 1 else if V i 5 = zI 0 then s + 1 else s) else s)
def habA (C : CF) (G : GM) (a w : Int) : Int32 ⊕ Nat := if 0 ≤ a ∧ a < C.1 then (if 0 ≤ w ∧ w ≤ 9 then (if w ≤ 6 then .inl (zI (dwN C G a.toNat w.toNat)) else if w = 7 then .inl (ozI (fvS (dwN C G a.toNat) 7 0 none)) else .inl (zI (hbS (rAt C G) a.toNat w G.2.2.1.length 0 0))) else .inr 1) else .inr 1
theorem min_6 {k : Nat} (hk : k < 10) : zI (min k 6 : Nat) = if zI 6 ≤ zI k then zI 6 else zI k := by
  by_cases h : 6 ≤ k
  · rw [show min k 6 = 6 by omega, iep (by omega)]; rfl
  · rw [show min k 6 = k by omega, ien (by omega)]
theorem cl_drawn {m : mm_V} {p w : Nat} (hT : icT e z) (hp : pureI C G M K) (h : IC e m z t d C G M) : X11_drawnAt e z (zI p) (zI w) m = some (zI (dwN C G p w), m) := by
  have h60 := hp.2.2.1.2.1
  have hF := h.2.1
  have hL := h.2.2.2.2.2.2.1
  have hlT := hT.2.2.2.1
  have hN := hT.2.2.2.2.2.2.2.2.2.2.2.2.2.2
  have key : ∀ (j i s nn : Nat), i + j = G.2.2.1.length → j < nn → Ev (X11_drawnAt_L5 e z (zI p) (zI w) nn (zI s) (zI i) m) (fun y => y = (zI (dwS (rAt C G) p w j i s), m)) := by
    intro j
    induction j with
    | zero =>
      intro i s nn hi hnn
      obtain ⟨nn, rfl⟩ : ∃ n', nn = n' + 1 := ⟨nn - 1, by omega⟩
      rw [X11_drawnAt_L5]
      refine ev_gr hT.1 hF.1.2.2.2.2.1 (ev_gi hlT.1 hL.1.2.2.2.1 ?_)
      rw [List.length_map]
      exact ev_iep rfl rfl (by omega) (ev_ret rfl)
    | succ j ih =>
      intro i s nn hi hnn
      obtain ⟨nn, rfl⟩ : ∃ n', nn = n' + 1 := ⟨nn - 1, by omega⟩
      obtain ⟨-, -, k, -, -, -, -, -, v2, -, -, -, -, -, hk, -⟩ := rAt_ok hp (show i < G.2.2.1.length by omega)
      obtain ⟨dd, e1, r1, d1, d2, d3⟩ := X5_at_eq (e := e) hlT hL.1 (rAt_some (C := C) (show i < G.2.2.1.length by omega))
      rw [X11_drawnAt_L5, dwS]
      unfold X11_drawnAt_b54
      simp only [LT, zI_neg]
      rw [show (zI (i : Int) + zI 1 : Int32) = zI ((i + 1 : Nat) : Int) from zI_add _ _, show (zI (s : Int) + zI 1 : Int32) = zI ((s + 1 : Nat) : Int) from zI_add _ _]
      refine ev_gr hT.1 hF.1.2.2.2.2.1 (ev_gi hlT.1 hL.1.2.2.2.1 ?_)
      rw [List.length_map]
      refine ev_ien rfl rfl (by omega) (ev_gr hT.1 hF.1.2.2.2.2.1 (ev_tg hlT.1 (ev_eq e1 (ev_gi d1 (r1.1 0 (by omega)) ?_))))
      by_cases v0 : rAt C G i 0 = zI p
      · rw [if_pos v0]
        have hm := J9_min_eq (e := e) (u := k) (v := 6) (by omega) (by omega) m
        rw [min_6 hk, ← v2] at hm
        refine ev_no (not_not_intro v0) (ev_gi d1 (r1.1 2 (by omega)) (ev_eq hm ?_))
        dsimp only
        by_cases hw : (if zI 6 ≤ rAt C G i 2 then zI 6 else rAt C G i 2) = zI w
        · rw [if_pos hw]
          exact ev_no (not_not_intro hw) (ih (i + 1) (s + 1) nn (by omega) (by omega))
        · rw [if_neg hw]
          exact ev_yes hw (ih (i + 1) s nn (by omega) (by omega))
      · rw [if_neg v0]
        exact ev_yes v0 (ih (i + 1) s nn (by omega) (by omega))
  exact ev_the (key G.2.2.1.length 0 0 e.2.2 (by omega) (by omega))
theorem cl_habit_loop {m m0 : mm_V} {A : Int32 ⊕ Nat} {p : Nat} {w : Int} (hw : w = 8 ∨ w = 9) (hT : icT e z) (hp : pureI C G M K) (h : IC e m z t d C G M) (hf : ∀ b, (b < z ∨ z + 402 ≤ b) → m b = m0 b) {Y : Nat} (hA : A = .inl (zI Y)) : ∀ (j i s nn : Nat), i + j = G.2.2.1.length → j < nn → hbS (rAt C G) p w j i s = Y → Ev (X11_habit_L53 e z (zI p) (zI w) nn (zI s) (zI i) m) (clS A e z t d C G M m0) := by
  have h60 := hp.2.2.1.2.1
  have hF := h.2.1
  have hL := h.2.2.2.2.2.2.1
  have hlT := hT.2.2.2.1
  intro j
  induction j with
  | zero =>
    intro i s nn hi hnn hh
    obtain ⟨nn, rfl⟩ : ∃ n', nn = n' + 1 := ⟨nn - 1, by omega⟩
    rw [hbS] at hh
    rw [← hh] at hA
    rw [X11_habit_L53]
    refine ev_gr hT.1 hF.1.2.2.2.2.1 (ev_gi hlT.1 hL.1.2.2.2.1 ?_)
    rw [List.length_map]
    exact ev_iep rfl rfl (by omega) (ev_cl hA h hf)
  | succ j ih =>
    intro i s nn hi hnn hh
    obtain ⟨nn, rfl⟩ : ∃ n', nn = n' + 1 := ⟨nn - 1, by omega⟩
    obtain ⟨dd, e1, r1, d1, d2, d3⟩ := X5_at_eq (e := e) hlT hL.1 (rAt_some (C := C) (show i < G.2.2.1.length by omega))
    rw [hbS] at hh
    rw [X11_habit_L53]
    unfold X11_habit_b107 X11_habit_b110
    simp only [LT, zI_neg]
    rw [show (zI (i : Int) + zI 1 : Int32) = zI ((i + 1 : Nat) : Int) from zI_add _ _, show (zI (s : Int) + zI 1 : Int32) = zI ((s + 1 : Nat) : Int) from zI_add _ _]
    refine ev_gr hT.1 hF.1.2.2.2.2.1 (ev_gi hlT.1 hL.1.2.2.2.1 ?_)
    rw [List.length_map]
    refine ev_ien rfl rfl (by omega) (ev_gr hT.1 hF.1.2.2.2.2.1 (ev_tg hlT.1 (ev_eq e1 (ev_gi d1 (r1.1 1 (by omega)) ?_))))
    by_cases v1 : rAt C G i 1 = zI p
    · rw [if_pos v1] at hh
      refine ev_no (not_not_intro v1) (ev_gi d1 (r1.1 4 (by omega)) ?_)
      by_cases v4 : rAt C G i 4 = zI 0
      · rw [if_pos v4] at hh
        exact ev_yes v4 (ih (i + 1) s nn (by omega) (by omega) hh)
      · rw [if_neg v4] at hh
        refine ev_no v4 ?_
        by_cases w8 : w = 8
        · rw [if_pos w8] at hh
          exact ev_iqp rfl rfl (by omega) (ih (i + 1) (s + 1) nn (by omega) (by omega) hh)
        · rw [if_neg w8] at hh
          refine ev_iqn rfl rfl (by omega) (ev_gi d1 (r1.1 5 (by omega)) ?_)
          by_cases v5 : rAt C G i 5 = zI 0
          · rw [if_pos v5] at hh
            exact ev_no (not_not_intro v5) (ih (i + 1) (s + 1) nn (by omega) (by omega) hh)
          · rw [if_neg v5] at hh
            exact ev_yes v5 (ih (i + 1) s nn (by omega) (by omega) hh)
    · rw [if_neg v1] at hh
      exact ev_yes v1 (ih (i + 1) s nn (by omega) (by omega) hh)
theorem dwN_le (hp : pureI C G M K) (p w : Nat) : dwN C G p w ≤ 60 := by
  have h60 := hp.2.2.1.2.1
  have := dwS_le (rAt C G) p w G.2.2.1.length 0 0
  unfold dwN
  omega
theorem cl_favourite {m : mm_V} {p : Nat} (hT : icT e z) (hp : pureI C G M K) (h : IC e m z t d C G M) : X11_favourite e z (zI p) m = some (ozI (fvS (dwN C G p) 7 0 none), m) := by
  have hN := hT.2.2.2.2.2.2.2.2.2.2.2.2.2.2
  have key : ∀ (j i nn : Nat) (b : Option Nat), i + j = 7 → j < nn → Ev (X11_favourite_L7 e z (zI p) nn (ozI b) (zI (fvB (dwN C G p) b)) (zI i) m) (fun y => y = (ozI (fvS (dwN C G p) j i b), m)) := by
    intro j
    induction j with
    | zero =>
      intro i nn b hi hnn
      obtain ⟨nn, rfl⟩ : ∃ n', nn = n' + 1 := ⟨nn - 1, by omega⟩
      rw [X11_favourite_L7]
      simp only [LT, zI_neg]
      exact ev_ilp rfl rfl (by omega) (ev_ret rfl)
    | succ j ih =>
      intro i nn b hi hnn
      obtain ⟨nn, rfl⟩ : ∃ n', nn = n' + 1 := ⟨nn - 1, by omega⟩
      have b1 := dwN_le hp p i
      have b2 : fvB (dwN C G p) b ≤ 60 := by
        cases b with
        | none => exact Nat.zero_le _
        | some x => exact dwN_le hp p x
      rw [X11_favourite_L7, fvS]
      unfold X11_favourite_b35
      simp only [LT, zI_neg]
      rw [show (zI (i : Int) + zI 1 : Int32) = zI ((i + 1 : Nat) : Int) from zI_add _ _]
      refine ev_iln rfl rfl (by omega) (ev_eq (cl_drawn hT hp h) ?_)
      dsimp only
      by_cases hc : dwN C G p i ≤ fvB (dwN C G p) b
      · rw [if_pos hc]
        exact ev_iep rfl rfl (by omega) (ih (i + 1) nn b (by omega) (by omega))
      · rw [if_neg hc]
        exact ev_ien rfl rfl (by omega) (ih (i + 1) nn (some i) (by omega) (by omega))
  exact ev_the (key 7 0 e.2.2 none (by omega) (by omega))
theorem cl_habit {m : mm_V} {a w : Int} (ha : i32 a) (hw : i32 w) (hT : icT e z) (hp : pureI C G M K) (h : IC e m z t d C G M) : Ev (X11_habit e z (zI a) (zI w) m) (clS (habA C G a w) e z t d C G M m) := by
  have hN := hT.2.2.2.2.2.2.2.2.2.2.2.2.2.2
  have h6 := hp.1.2.1
  have h60 := hp.2.2.1.2.1
  unfold i32 at hw
  unfold X11_habit habA
  simp only [LT, zI_neg]
  by_cases hpn : 0 ≤ a ∧ a < C.1
  · rw [if_pos hpn]
    refine ev_bx (needPerson_1 ha hT h h6 hpn) ?_
    obtain ⟨p, rfl⟩ : ∃ p : Nat, a = p := ⟨a.toNat, by omega⟩
    rw [Int.toNat_natCast]
    have bad : Ev (X11_habit_b19 e z (zI p) (zI w) m) (clS (.inr 1) e z t d C G M m) := by
      unfold X11_habit_b19 X11_habit_b20
      simp only [LT, zI_neg]
      exact ev_bxx X11_need_0 rfl h (fun _ _ => rfl)
    by_cases w0 : w < 0
    · rw [if_neg (show ¬ (0 ≤ w ∧ w ≤ 9) by omega)]
      exact ev_ilp rfl rfl (by omega) bad
    refine ev_iln rfl rfl (by omega) ?_
    by_cases w9 : 9 < w
    · rw [if_neg (show ¬ (0 ≤ w ∧ w ≤ 9) by omega)]
      exact ev_ilp rfl rfl (by omega) bad
    rw [if_pos (show 0 ≤ w ∧ w ≤ 9 by omega)]
    refine ev_iln rfl rfl (by omega) ?_
    unfold X11_habit_b20
    simp only [LT, zI_neg]
    refine ev_bx X11_need_1 ?_
    by_cases w6 : w ≤ 6
    · rw [if_pos w6]
      obtain ⟨k, rfl⟩ : ∃ k : Nat, w = k := ⟨w.toNat, by omega⟩
      rw [Int.toNat_natCast]
      exact ev_iln rfl rfl (by omega) (ev_eq (cl_drawn hT hp h) (ev_cl rfl h (fun _ _ => rfl)))
    rw [if_neg w6]
    refine ev_ilp rfl rfl (by omega) ?_
    by_cases w7 : w = 7
    · rw [if_pos w7]
      exact ev_inn rfl rfl (by omega) (ev_eq (cl_favourite hT hp h) (ev_cl rfl h (fun _ _ => rfl)))
    · rw [if_neg w7]
      exact ev_inp rfl rfl (by omega) (cl_habit_loop (w := w) (p := p) (by omega) hT hp h (fun _ _ => rfl) rfl G.2.2.1.length 0 0 e.2.2 (by omega) (by omega) rfl)
  · rw [if_neg hpn]
    exact ev_bxx (needPerson_0 ha hT h h6 hpn) rfl h (fun _ _ => rfl)
theorem ml_often {m : mm_V} {p w : Nat} (hT : imT e q) (hp : pureI C G M K) (h : IM e m q C G M) : X12_oftenAt e q (zI p) (zI w) m = some (zI (dwN C G p w), m) := by
  have h60 := hp.2.2.1.2.1
  have hN := hT.2.1
  have hL := h.2.2.2.2.2.1.1
  have key : ∀ (j i s nn : Nat), i + j = G.2.2.1.length → j < nn → Ev (X12_oftenAt_L5 e q (zI p) (zI w) nn (zI s) (zI i) m) (fun y => y = (zI (dwS (rAt C G) p w j i s), m)) := by
    intro j
    induction j with
    | zero =>
      intro i s nn hi hnn
      obtain ⟨nn, rfl⟩ : ∃ n', nn = n' + 1 := ⟨nn - 1, by omega⟩
      rw [X12_oftenAt_L5]
      refine ev_gi hT.1.me hL ?_
      rw [List.length_map]
      exact ev_iep rfl rfl (by omega) (ev_ret rfl)
    | succ j ih =>
      intro i s nn hi hnn
      obtain ⟨nn, rfl⟩ : ∃ n', nn = n' + 1 := ⟨nn - 1, by omega⟩
      have dd : ∀ j : Nat, j < 9 → X12_did e q (zI i) (zI j) m = some (rAt C G i (mperm j), m) := fun j hj => ml_did hT h (by omega) hj
      rw [X12_oftenAt_L5, dwS]
      unfold X12_oftenAt_b50 X12_oftenAt_b58 X12_oftenAt_b59
      simp only [LT, zI_neg]
      rw [show (zI (i : Int) + zI 1 : Int32) = zI ((i + 1 : Nat) : Int) from zI_add _ _, show (zI (s : Int) + zI 1 : Int32) = zI ((s + 1 : Nat) : Int) from zI_add _ _, show (zI (s : Int) + zI 0 : Int32) = zI ((s : Nat) : Int) from zI_add _ _]
      refine ev_gi hT.1.me hL ?_
      rw [List.length_map]
      refine ev_ien rfl rfl (by omega) (ev_eq (dd 0 (by omega)) ?_)
      by_cases v0 : rAt C G i 0 = zI p
      · rw [if_pos v0]
        refine ev_no (not_not_intro v0) (ev_eq (dd 2 (by omega)) ?_)
        by_cases h6 : zI 6 ≤ rAt C G i 2
        · rw [if_pos h6]
          refine ev_yes h6 ?_
          by_cases hw : zI 6 = zI w
          · rw [if_pos hw]
            exact ev_no (not_not_intro hw) (ih (i + 1) (s + 1) nn (by omega) (by omega))
          · rw [if_neg hw]
            exact ev_yes hw (ih (i + 1) s nn (by omega) (by omega))
        · rw [if_neg h6]
          refine ev_no h6 (ev_eq (dd 2 (by omega)) ?_)
          by_cases hw : rAt C G i 2 = zI w
          · rw [if_pos hw]
            exact ev_no (not_not_intro hw) (ih (i + 1) (s + 1) nn (by omega) (by omega))
          · rw [if_neg hw]
            exact ev_yes hw (ih (i + 1) s nn (by omega) (by omega))
      · rw [if_neg v0]
        exact ev_yes v0 (ih (i + 1) s nn (by omega) (by omega))
  exact ev_the (key G.2.2.1.length 0 0 e.2.2 (by omega) (by omega))
theorem ml_fav {m : mm_V} {p : Nat} (hT : imT e q) (hp : pureI C G M K) (h : IM e m q C G M) : ∀ (j i nn : Nat) (b : Option Nat), i + j = 7 → j < nn → (∀ x, b = some x → x < 7) → Ev (X12_habit_L49 e q (zI p) nn (ozI b) (zI i) m) (fun y => y = (ozI (fvS (dwN C G p) j i b), m)) := by
  intro j
  induction j with
  | zero =>
    intro i nn b hi hnn hb
    obtain ⟨nn, rfl⟩ : ∃ n', nn = n' + 1 := ⟨nn - 1, by omega⟩
    rw [X12_habit_L49]
    simp only [LT, zI_neg]
    exact ev_iep rfl rfl (by omega) (ev_ret rfl)
  | succ j ih =>
    intro i nn b hi hnn hb
    obtain ⟨nn, rfl⟩ : ∃ n', nn = n' + 1 := ⟨nn - 1, by omega⟩
    have b1 := dwN_le hp p i
    rw [X12_habit_L49, fvS]
    unfold X12_habit_b78 X12_habit_b84
    simp only [LT, zI_neg]
    rw [show (zI (i : Int) + zI 1 : Int32) = zI ((i + 1 : Nat) : Int) from zI_add _ _]
    refine ev_ien rfl rfl (by omega) (ev_eq (ml_often hT hp h) ?_)
    dsimp only
    cases b with
    | none =>
      refine ev_inn (x := -1) (y := -1) rfl rfl (by omega) ?_
      by_cases hc : dwN C G p i ≤ fvB (dwN C G p) none
      · rw [if_pos hc]
        have hc : dwN C G p i ≤ 0 := hc
        exact ev_iep rfl rfl (by omega) (ih (i + 1) nn none (by omega) (by omega) (fun x hx => by cases hx))
      · rw [if_neg hc]
        have hc : ¬ dwN C G p i ≤ 0 := hc
        exact ev_ien rfl rfl (by omega) (ih (i + 1) nn (some i) (by omega) (by omega) (fun x hx => by cases hx; omega))
    | some x =>
      have hx := hb x rfl
      have b2 := dwN_le hp p x
      refine ev_inp (x := x) (y := -1) rfl rfl (by omega) (ev_eq (ml_often (w := x) hT hp h) ?_)
      dsimp only
      by_cases hc : dwN C G p i ≤ fvB (dwN C G p) (some x)
      · rw [if_pos hc]
        have hc : dwN C G p i ≤ dwN C G p x := hc
        exact ev_iep rfl rfl (by omega) (ih (i + 1) nn (some x) (by omega) (by omega) hb)
      · rw [if_neg hc]
        have hc : ¬ dwN C G p i ≤ dwN C G p x := hc
        exact ev_ien rfl rfl (by omega) (ih (i + 1) nn (some i) (by omega) (by omega) (fun x hx => by cases hx; omega))
theorem ml_habit_loop {m m0 : mm_V} {A : Int32 ⊕ Nat} {p : Nat} {w : Int} (hw : w = 8 ∨ w = 9) (hT : imT e q) (hp : pureI C G M K) (h : IM e m q C G M) (z0 : m q 0 = .int (zI 0)) (hf : ∀ b, (b < q ∨ q + 40 ≤ b) → m b = m0 b) {Y : Nat} (hA : A = .inl (zI Y)) : ∀ (j i s nn : Nat), i + j = G.2.2.1.length → j < nn → hbS (rAt C G) p w j i s = Y → Ev (X12_habit_L97 e q (zI p) (zI w) nn (zI s) (zI i) m) (mlS A e q C G M m0) := by
  have h60 := hp.2.2.1.2.1
  have hL := h.2.2.2.2.2.1.1
  intro j
  induction j with
  | zero =>
    intro i s nn hi hnn hh
    obtain ⟨nn, rfl⟩ : ∃ n', nn = n' + 1 := ⟨nn - 1, by omega⟩
    rw [hbS] at hh
    rw [← hh] at hA
    rw [X12_habit_L97]
    refine ev_gi hT.1.me hL ?_
    rw [List.length_map]
    exact ev_iep rfl rfl (by omega) (ev_ml hA z0 h hf)
  | succ j ih =>
    intro i s nn hi hnn hh
    obtain ⟨nn, rfl⟩ : ∃ n', nn = n' + 1 := ⟨nn - 1, by omega⟩
    obtain ⟨-, -, -, -, -, b, -, -, -, -, v4b, -⟩ := rAt_ok hp (show i < G.2.2.1.length by omega)
    have dd : ∀ j : Nat, j < 9 → X12_did e q (zI i) (zI j) m = some (rAt C G i (mperm j), m) := fun j hj => ml_did hT h (by omega) hj
    rw [hbS] at hh
    rw [X12_habit_L97]
    unfold X12_habit_b150 X12_habit_b146 X12_habit_b151
    simp only [LT, zI_neg]
    rw [show (zI (i : Int) + zI 1 : Int32) = zI ((i + 1 : Nat) : Int) from zI_add _ _, show (zI (s : Int) + zI 1 : Int32) = zI ((s + 1 : Nat) : Int) from zI_add _ _, show (zI (s : Int) + zI 0 : Int32) = zI ((s : Nat) : Int) from zI_add _ _]
    refine ev_gi hT.1.me hL ?_
    rw [List.length_map]
    refine ev_ien rfl rfl (by omega) (ev_eq (dd 1 (by omega)) ?_)
    by_cases v1 : rAt C G i 1 = zI p
    · rw [if_pos v1] at hh
      refine ev_no (not_not_intro v1) (ev_eq (dd 8 (by omega)) ?_)
      cases b with
      | false =>
        have v4 : rAt C G i 4 = zI 0 := v4b
        rw [if_pos v4] at hh
        exact ev_inp (x := 0) (y := 1) v4 rfl (by omega) (ih (i + 1) s nn (by omega) (by omega) hh)
      | true =>
        have v4 : rAt C G i 4 = zI 1 := v4b
        rw [if_neg (by rw [v4]; decide)] at hh
        refine ev_inn (x := 1) (y := 1) v4 rfl (by omega) ?_
        by_cases w8 : w = 8
        · rw [if_pos w8] at hh
          exact ev_iqp rfl rfl (by omega) (ih (i + 1) (s + 1) nn (by omega) (by omega) hh)
        · rw [if_neg w8] at hh
          refine ev_iqn rfl rfl (by omega) (ev_eq (dd 3 (by omega)) ?_)
          by_cases v5 : rAt C G i 5 = zI 0
          · rw [if_pos v5] at hh
            exact ev_no (not_not_intro v5) (ih (i + 1) (s + 1) nn (by omega) (by omega) hh)
          · rw [if_neg v5] at hh
            exact ev_yes v5 (ih (i + 1) s nn (by omega) (by omega) hh)
    · rw [if_neg v1] at hh
      exact ev_yes v1 (ih (i + 1) s nn (by omega) (by omega) hh)
theorem ml_habit {m : mm_V} {a w : Int} (ha : i32 a) (hw : i32 w) (hT : imT e q) (hp : pureI C G M K) (h : IM e m q C G M) : Ev (X12_habit e q (zI a) (zI w) m) (mlS (habA C G a w) e q C G M m) := by
  have hTT := hT
  have hN := hT.2.1
  have hT := hT.1
  have h6 := hp.1.2.1
  have h60 := hp.2.2.1.2.1
  have h0 := h.th (zI 0)
  have z0 : (mm_up m q 0 (.int (zI 0))) q 0 = .int (zI 0) := up_at _ _ _ _
  have fr : ∀ b, (b < q ∨ q + 40 ≤ b) → (mm_up m q 0 (.int (zI 0))) b = m b := fr_th
  unfold X12_habit X12_habit_b23 habA
  simp only [LT, zI_neg]
  refine ev_pf hT.me ?_
  generalize mm_up m q 0 (.int (zI 0)) = m0 at h0 z0 fr
  obtain ⟨g1, -⟩ := id h0
  have bad : ∀ {A : Int32 ⊕ Nat} {k : Nat} (v : Int32), A = .inr k → Ev (some (v, mm_up m0 q 0 (.int (zI k)))) (mlS A e q C G M m) := fun v hA => ev_mlx hA (up_at _ _ _ _) (h0.th _) (fun b hb => by rw [up_row _ _ _ (by omega)]; exact fr b hb)
  by_cases hpn : 0 ≤ a ∧ a < C.1
  · rw [if_pos hpn]
    refine ev_eq (X12_isPerson_1 ha hT z0 g1.2.2.1 h6 hpn) (ev_iqn (x := 1) (y := 0) rfl rfl (by omega) ?_)
    obtain ⟨p, rfl⟩ : ∃ p : Nat, a = p := ⟨a.toNat, by omega⟩
    rw [Int.toNat_natCast]
    by_cases hw9 : 0 ≤ w ∧ w ≤ 9
    · rw [if_pos hw9]
      refine ev_eq (X12_isWhat_1 hw ⟨by omega, by omega⟩ hT z0 hw9) (ev_inp (x := 1) (y := 0) rfl rfl (by omega) ?_)
      by_cases w6 : w ≤ 6
      · rw [if_pos w6]
        obtain ⟨k, rfl⟩ : ∃ k : Nat, w = k := ⟨w.toNat, by omega⟩
        rw [Int.toNat_natCast]
        exact ev_ien rfl rfl (by omega) (ev_eq (ml_often hTT hp h0) (ev_ml rfl z0 h0 fr))
      rw [if_neg w6]
      refine ev_iep rfl rfl (by omega) ?_
      by_cases w7 : w = 7
      · rw [if_pos w7]
        have hfv : X12_habit_L49 e q (zI p) e.2.2 (zI (-1)) (zI 0) m0 = some (ozI (fvS (dwN C G p) 7 0 none), m0) := ev_the (ml_fav hTT hp h0 7 0 e.2.2 none (by omega) (by omega) (fun x hx => by cases hx))
        exact ev_inn rfl rfl (by omega) (ev_is hfv (ev_ml rfl z0 h0 fr))
      · rw [if_neg w7]
        exact ev_inp rfl rfl (by omega) (ml_habit_loop (w := w) (p := p) (by omega) hTT hp h0 z0 fr rfl G.2.2.1.length 0 0 e.2.2 (by omega) (by omega) rfl)
    · rw [if_neg hw9]
      exact ev_eq (X12_isWhat_0 hw ⟨by omega, by omega⟩ hT z0 hw9) (ev_inn (x := 0) (y := 0) rfl rfl (by omega) (bad _ rfl))
  · rw [if_neg hpn]
    exact ev_eq (X12_isPerson_0 ha hT z0 g1.2.2.1 h6 hpn) (ev_iqp (x := 0) (y := 0) rfl rfl (by omega) (bad _ rfl))
end CA8
