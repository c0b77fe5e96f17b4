/-! A DRAW TAKEN BACK, by the model. -/
section UNDO
variable {e : mm_E} {q : Nat} {g : Nat → List Nat} {as : Bool} {done lb : Int32} {p s k c o : Nat} {H : List QR} {v : QR}
theorem mlogA_pop {m : mm_V} {r : Nat} (h : mlogA m r (H ++ [v])) : mlogA m r H := by
  refine ⟨by have := h.1; simp at this; omega, h.2.1, fun i w hw j hj => h.2.2 i w ?_ j hj⟩
  rw [List.getElem?_append_left (List.getElem?_eq_some_iff.mp hw).1]; exact hw
theorem X12_undo_b94_eq {m : mm_V} (hT : modT e.1 q) (hS : modS m q) (h : rowF m (q + 14) g) (hp : p < 6) (hs : s < 6) (hd : m (q + 14) 1 = .int done) (hA : mlogA m (q + 19) (H ++ [v])) (h48 : m q 48 = .int (zI H.length)) (v1 : v 1 = zI s) (v2 : v 2 = zI k) (v5 : v 5 = zI c) (v8 : v 8 = lb) (hk : k ≤ (g s).length) (hl : (g s).length < 19) (hN : 20 < e.2.2) : ∃ m', X12_undo_b94 e q (zI p) m = some (zI H.length, m') ∧ rowF m' (q + 14) (setF g s ((g s).insertIdx k c)) ∧ m' (q + 14) 0 = .int (zI p) ∧ m' (q + 14) 1 = .int (done - zI 1) ∧ m' (q + 14) (8 + p) = .int lb ∧ (∀ i, i < 6 → i ≠ p → m' (q + 14) (8 + i) = m (q + 14) (8 + i)) ∧ ∀ b, b ≠ q + 14 → m' b = m b := by
  have hv : (H ++ [v])[H.length]? = some v := by simp
  obtain ⟨m1, a1, a2, a3⟩ := X12_inserts_eq (e := e) (c := c) hT.now_ h hs hk hl hN
  have S1 : modS m1 q := hS.keep (fun _ _ _ => by rw [a3.1 _ (by omega)])
  have A1 : mlogA m1 (q + 19) (H ++ [v]) := hA.keep (a3.1 _ (by omega))
  have g1 : m1 q 48 = .int (zI H.length) := by rw [a3.1 _ (by omega)]; exact h48
  generalize hm2 : mm_up m1 (q + 14) (8 + p) (.int lb) = m2
  have o2 : ∀ b, b ≠ q + 14 → m2 b = m1 b := fun b hb => by rw [← hm2, up_row _ _ _ hb]
  have d2 : m2 (q + 14) 1 = .int done := by rw [← hm2, up_ne _ _ (Or.inr (by omega)), a3.2 _ (by omega) (by omega)]; exact hd
  generalize hm3 : mm_up m2 (q + 14) 1 (.int (done - zI 1)) = m3
  have o3 : ∀ b, b ≠ q + 14 → m3 b = m1 b := fun b hb => by rw [← hm3, up_row _ _ _ hb]; exact o2 b hb
  have n2 : mm_gr e.1 m2 12 75 q 39 = some (q + 14) := rd_gr hT.me (by rw [o2 _ (by omega)]; exact S1.now_)
  have n3 : mm_gr e.1 m3 12 75 q 39 = some (q + 14) := rd_gr hT.me (by rw [o3 _ (by omega)]; exact S1.now_)
  refine ⟨mm_up m3 (q + 14) 0 (.int (zI p)), ?_, a2.keep (fun j y1 y2 => by rw [up_ne _ _ (Or.inr (by omega)), ← hm3, up_ne _ _ (Or.inr (by omega)), ← hm2, up_ne _ _ (Or.inr (by omega))]) (fun j y1 y2 => by rw [up_ne _ _ (Or.inr (by omega)), ← hm3, up_ne _ _ (Or.inr (by omega)), ← hm2, up_ne _ _ (Or.inr (by omega))]), up_at _ _ _ _, by rw [up_ne _ _ (Or.inr (by omega)), ← hm3, up_at], by rw [up_ne _ _ (Or.inr (by omega)), ← hm3, up_ne _ _ (Or.inr (by omega)), ← hm2, up_at], fun i hi hip => by rw [up_ne _ _ (Or.inr (by omega)), ← hm3, up_ne _ _ (Or.inr (by omega)), ← hm2, up_ne _ _ (Or.inr (by omega)), a3.2 _ (by omega) (by omega)], fun b hb => by rw [up_row _ _ _ hb, o3 b hb, a3.1 b hb]⟩
  have e1 := X12_did_eq (e := e) hT hS hA hv (show 1 < 9 by omega)
  have e2 := X12_did_eq (e := e) hT hS hA hv (show 2 < 9 by omega)
  have e3 := X12_did_eq (e := e) hT hS hA hv (show 3 < 9 by omega)
  have e6 := X12_did_eq (e := e) hT S1 A1 hv (show 6 < 9 by omega)
  simp only [mperm, v1, v2, v5, v8] at e1 e2 e3 e6
  unfold X12_undo_b94
  simp only [LT]
  rw [rd_gr hT.me hS.now_, Option.bind_some, rd_gi hT.me h48, Option.bind_some]
  erw [e1]
  rw [Option.bind_some, rd_gi hT.me h48, Option.bind_some]
  erw [e2]
  rw [Option.bind_some, rd_gi hT.me h48, Option.bind_some]
  erw [e3]
  rw [Option.bind_some, a1, Option.bind_some, rd_gr hT.me S1.now_, Option.bind_some, rd_gi hT.me g1, Option.bind_some]
  erw [e6]
  rw [Option.bind_some, zI_add, wr_si hT.now_ (i := 8 + p) (by omega) (by omega) (by omega), Option.bind_some, hm2, n2, Option.bind_some, rd_ai hT.now_ (i := 1) (by omega) (by omega) (by omega) d2, Option.bind_some, wr_si hT.now_ (i := 1) (by omega) (by omega) (by omega), Option.bind_some, hm3, n3, Option.bind_some, wr_si hT.now_ (i := 0) (by omega) (by omega) (by omega), Option.bind_some, rd_gi hT.me (v := zI H.length) (by rw [up_row _ _ _ (by omega), o3 _ (by omega)]; exact g1)]
  rfl
theorem X12_undo_none {m : mm_V} (hT : modT e.1 q) (h48 : m q 48 = .int (zI 0)) : X12_undo e q m = some (zI (-1), mm_up m q 0 (.int (zI 0))) := by
  unfold X12_undo
  simp only [LT, zI_neg]
  rw [wr_pf hT.me, Option.bind_some, rd_gi hT.me (v := zI 0) (by rw [up_ne _ _ (Or.inr (by omega))]; exact h48), Option.bind_some, inn (by omega)]
theorem X12_undo_eq {m : mm_V} (hT : modT e.1 q) (hS : modS m q) (h : rowF m (q + 14) g) (hp : p < 6) (hs : s < 6) (hps : s ≠ p) (hd : m (q + 14) 1 = .int done) (hA : mlogR m q (H ++ [v])) (v0 : v 0 = zI p) (v1 : v 1 = zI s) (v2 : v 2 = zI k) (v5 : v 5 = zI c) (v6 : v 6 = bZ as) (v7 : v 7 = zI o) (v8 : v 8 = lb) (ho : (as = true → o ≤ (g p).length ∧ (g p).length < 19) ∧ (as = false → o < (g p).length)) (hk : k ≤ (g s).length) (hl : (g s).length < 19) (hN : 20 < e.2.2) : ∃ m', X12_undo e q m = some (zI H.length, m') ∧ rowF m' (q + 14) (bkF g as p s k c o) ∧ m' (q + 14) 0 = .int (zI p) ∧ m' (q + 14) 1 = .int (done - zI 1) ∧ m' (q + 14) (8 + p) = .int lb ∧ (∀ i, i < 6 → i ≠ p → m' (q + 14) (8 + i) = m (q + 14) (8 + i)) ∧ mlogR m' q H ∧ m' q 0 = .int (zI 0) ∧ (∀ j, j ≠ 0 → j ≠ 48 → m' q j = m q j) ∧ ∀ b, b ≠ q → b ≠ q + 14 → m' b = m b := by
  obtain ⟨h48, hA⟩ := hA
  have hle := hA.1
  simp at hle
  have hv : (H ++ [v])[H.length]? = some v := by simp
  generalize hm1 : mm_up m q 0 (.int (zI 0)) = m1
  have g1 : m1 q 48 = .int (zI (H.length + 1 : Nat)) := by rw [← hm1, up_ne _ _ (Or.inr (by omega)), h48]; simp
  generalize hm2 : mm_up m1 q 48 (.int (zI H.length)) = m2
  have o2 : ∀ b, b ≠ q → m2 b = m b := fun b hb => by rw [← hm2, up_row _ _ _ hb, ← hm1, up_row _ _ _ hb]
  have q2 : ∀ j, j ≠ 0 → j ≠ 48 → m2 q j = m q j := fun j y1 y2 => by rw [← hm2, up_ne _ _ (Or.inr y2), ← hm1, up_ne _ _ (Or.inr y1)]
  have g2 : m2 q 48 = .int (zI H.length) := by rw [← hm2, up_at]
  have g0 : m2 q 0 = .int (zI 0) := by rw [← hm2, up_ne _ _ (Or.inr (by omega)), ← hm1, up_at]
  have S2 : modS m2 q := hS.keep (fun i x1 x2 => q2 _ (mfld_ne 0 (by decide) i x1 x2) (mfld_ne 48 (by decide) i x1 x2))
  have A2 : mlogA m2 (q + 19) (H ++ [v]) := hA.keep (o2 _ (by omega))
  have F2 : rowF m2 (q + 14) g := h.keep' (o2 _ (by omega))
  have e0 := X12_did_eq (e := e) hT S2 A2 hv (show 0 < 9 by omega)
  have e3 := X12_did_eq (e := e) hT S2 A2 hv (show 3 < 9 by omega)
  have e4 := X12_did_eq (e := e) hT S2 A2 hv (show 4 < 9 by omega)
  have e5 := X12_did_eq (e := e) hT S2 A2 hv (show 5 < 9 by omega)
  simp only [mperm, v0, v5, v6, v7] at e0 e3 e4 e5
  have fin : ∀ (m3 : mm_V) (l : List Nat), rowF m3 (q + 14) (setF g p l) → rowK m2 m3 (q + 14) p → ∃ m', X12_undo_b94 e q (zI p) m3 = some (zI H.length, m') ∧ rowF m' (q + 14) (setF (setF g p l) s ((g s).insertIdx k c)) ∧ m' (q + 14) 0 = .int (zI p) ∧ m' (q + 14) 1 = .int (done - zI 1) ∧ m' (q + 14) (8 + p) = .int lb ∧ (∀ i, i < 6 → i ≠ p → m' (q + 14) (8 + i) = m (q + 14) (8 + i)) ∧ mlogR m' q H ∧ m' q 0 = .int (zI 0) ∧ (∀ j, j ≠ 0 → j ≠ 48 → m' q j = m q j) ∧ ∀ b, b ≠ q → b ≠ q + 14 → m' b = m b := by
    intro m3 l F3 k3
    have hg : setF g p l s = g s := setF_ne _ _ hps
    obtain ⟨m', b1, b2, b3, b4, b5, b6, b7⟩ := X12_undo_b94_eq (e := e) (m := m3) (done := done) (lb := lb) (c := c) (H := H) (v := v) hT (S2.keep (fun _ _ _ => by rw [k3.1 _ (by omega)])) F3 hp hs (by rw [k3.2 _ (by omega) (by omega), o2 _ (by omega)]; exact hd) (A2.keep (k3.1 _ (by omega))) (by rw [k3.1 _ (by omega)]; exact g2) v1 v2 v5 v8 (by rw [hg]; exact hk) (by rw [hg]; exact hl) hN
    rw [hg] at b2
    refine ⟨m', b1, b2, b3, b4, b5, fun i hi hip => by rw [b6 i hi hip, k3.2 _ (by omega) (by omega), o2 _ (by omega)], ⟨by rw [b7 _ (by omega), k3.1 _ (by omega)]; exact g2, mlogA_pop (A2.keep (by rw [b7 _ (by omega), k3.1 _ (by omega)]))⟩, by rw [b7 _ (by omega), k3.1 _ (by omega)]; exact g0, fun j y1 y2 => by rw [b7 _ (by omega), k3.1 _ (by omega)]; exact q2 j y1 y2, fun b y1 y2 => by rw [b7 b y2, k3.1 b y2]; exact o2 b y1⟩
  unfold bkF X12_undo
  simp only [LT]
  rw [wr_pf hT.me, Option.bind_some, hm1, rd_gi hT.me g1, Option.bind_some, inp (by omega), Option.bind_some, wr_pf hT.me, zI_sub, show ((H.length + 1 : Nat) : Int) - 1 = (H.length : Int) by omega, Option.bind_some, hm2, rd_gi hT.me g2, Option.bind_some]
  erw [e0]
  rw [Option.bind_some, rd_gi hT.me g2, Option.bind_some]
  erw [e4]
  rw [Option.bind_some]
  cases as with
  | true =>
    obtain ⟨m3, a1, a2, a3⟩ := X12_inserts_eq (e := e) (c := c) hT.now_ F2 hp (ho.1 rfl).1 (ho.1 rfl).2 hN
    simp only [bZ, if_true, not_true_eq_false, if_false]
    rw [rd_gr hT.me S2.now_, Option.bind_some, rd_gi hT.me g2, Option.bind_some]
    erw [e5]
    rw [Option.bind_some, rd_gi hT.me g2, Option.bind_some]
    erw [e3]
    rw [Option.bind_some, a1, Option.bind_some]
    exact fin m3 _ a2 a3
  | false =>
    have hop : o < (g p).length := ho.2 rfl
    have hx : (g p)[o]? = some (g p)[o] := List.getElem?_eq_getElem hop
    obtain ⟨m3, a1, a2, a3⟩ := X12_takes_eq (e := e) hT.now_ F2 hp hx hN
    simp only [bZ, Bool.false_eq_true, if_false]
    rw [inp (by omega), rd_gr hT.me S2.now_, Option.bind_some, rd_gi hT.me g2, Option.bind_some]
    erw [e5]
    rw [Option.bind_some, a1, Option.bind_some]
    exact fin m3 _ a2 a3
end UNDO
