/-! A DRAW TAKEN BACK, by the model. -/
section UNDO
variable {e : mm_E} {q : Nat} {g : Nat → List Nat} {as : Bool} {done lb : Int32} {p s k c o : Nat} {H : List QR} {v : QR}
theorem mlogA_pop {m : mm_V} {r : Nat} (h : mlogA m r (H ++ [v])) : mlogA m r H := by
  refine ⟨by have := h.1; simp at this; omega, h.2.1, fun i w hw j hj => h.2.2 i w ?_ j hj⟩
  rw [List.getElem?_append_left (List.getElem?_eq_some_iff.mp hw).1]; exact hw
theorem X12_undo_b94_eq {m : mm_V} (hT : modT e.1 q) (hS : modS m q) (h : rowF m (q + 14) g) (hp : p < 6) (hs : s < 6) (hd : m (q + 14) 1 = .int done) (hA : mlogA m (q + 19) (H ++ [v])) (h48 : m q 48 = .int (zI H.length)) (v1 : v 1 = zI s) (v2 : v 2 = zI k) (v5 : v 5 = zI c) (v8 : v 8 = lb) (hk : k ≤ (g s).length) (hl : (g s).length < 19) (hN : 20 < e.2.2) : ∃ m', X12_undo_b94 e q (zI p) m = some (zI H.length, m') ∧ rowF m' (q + 14) (setF g s ((g s).insertIdx k c)) ∧ m' (q + 14) 0 = .int (zI p) ∧ m' (q + 14) 1 = .int (done - zI 1) ∧ m' (q + 14) (8 + p) = .int lb ∧ (∀ i, i < 6 → i ≠ p → m' (q + 14) (8 + i) = m (q + 14) (8 + i)) ∧ ∀ b, b ≠ q + 14 → m' b = m b := by
  have hv : (H ++ [v])[H.length]? = some v := by simp
  obtain ⟨m1, a1, a2, a3⟩ := X12_inserts_eq (e := e) (c := c) hT.now_ h hs hk hl hN
  have S1 : modS m1 q := hS.keep (fun _ _ _ => by rw [a3.1 _ (by omega)])
  have A1 : mlogA m1 (q + 19) (H ++ [v]) := hA.keep (a3.1 _ (by omega))
  have g1 : m1 q 48 = .int (zI H.length) := by rw [a3.1 _ (by omega)]; exact h48
  generalize hm2 : mm_up m1 (q + 14) (8 + p) (.int lb) = m2
  have o2 : ∀ b, b ≠ q + 14 → m2 b = m1 b := fun b hb => by rw [← hm2, up_row _ _ _ hb]
  have d2 : m2 (q + 14) 1 = .int done := by rw [← hm2, up_ne _ _ (Or.inr (by omega)), a3.2 _ (by omega) (by omega)]; exact hd
  generalize hm3 : mm_up m2 (q + 14) 1 (.int (done - zI 1)) = m3
  have o3 : ∀ b, b ≠ q + 14 → m3 b = m1 b := fun b hb => by rw [← hm3, up_row _ _ _ hb]; exact o2 b hb
  have n2 : mm_gr e.1 m2 12 75 q 39 = some (q + 14) := rd_gr hT.me (by rw [o2 _ (by omega)]; exact S1.now_)
  have n3 : mm_gr e.1 m3 12 75 q 39 = some (q + 14) := rd_gr hT.me (by rw [o3 _ (by omega)]; exact S1.now_)
  refine ⟨mm_up m3 (q + 14) 0 (.int (zI p)), ?_, a2.keep (fun j y1 y2 => by rw [up_ne _ _ (Or.inr (by omega)), ← hm3, up_ne _ _ (Or.inr (by omega)), ← hm2, up_ne _ _ (Or.inr (by omega))]) (fun j y1 y2 => by rw [up_ne _ _ (Or.inr (by omega)), ← hm3, up_ne _ _ (Or.inr (by omega)), ← hm2, up_ne _ _ (Or.inr (by omega))]), up_at _ _ _ _, by rw [up_ne _ _ (Or.inr (by omega)), ← hm3, up_at], by rw [up_ne _ _ (Or.inr (by omega)), ← hm3, up_ne _ _ (Or.inr (by omega)), ← hm2, up_at], fun i hi hip => by rw [up_ne _ _ (Or.inr (by omega)), ← hm3, up_ne _ _ (Or.inr (by omega)), ← hm2, up_ne _ _ (Or.inr (by omega)), a3.2 _ (by omega) (by omega)], fun b hb => by rw [up_row _ _ _ hb, o3 b hb, a3.1 b hb]⟩
  have e1 := X12_did_eq (e := e) hT hS hA hv (show 1 < 9 by omega)
  have e2 := X12_did_eq (e := e) hT hS hA hv (show 2 < 9 by omega)
  have e3 := X12_did_eq (e := e) hT hS hA hv (show 3 < 9 by omega)
  have e6 := X12_did_eq (e := e) hT S1 A1 hv (show 6 < 9 by omega)
  simp only [mperm, v1, v2, v5, v8] at e1 e2 e3 e6
  unfold X12_undo_b94
  simp only [LT]
  rw [rd_gr hT.me hS.now_, Option.bind_some, rd_gi hT.me h48, Option.bind_some]
  erw [e1]
  rw [Option.bind_some, rd_gi hT.me h48, Option.bind_some]
  erw [e2]
  rw [Option.bind_some, rd_gi hT.me h48, Option.bind_some]
  erw [e3]
  rw [Option.bind_some, a1, Option.bind_some, rd_gr hT.me S1.now_, Option.bind_some, rd_gi hT.me g1, Option.bind_some]
  erw [e6]
  rw [Option.bind_some, zI_add, wr_si hT.now_ (i := 8 + p) (by omega) (by omega) (by omega), Option.bind_some, hm2, n2, Option.bind_some, rd_ai hT.now_ (i := 1) (by omega) (by omega) (by omega) d2, Option.bind_some, wr_si hT.now_ (i := 1) (by omega) (by omega) (by omega), Option.bind_some, hm3, n3, Option.bind_some, wr_si hT.now_ (i := 0) (by omega) (by omega) (by omega), Option.bind_some, rd_gi hT.me (v := zI H.length) (by rw [up_row _ _ _ (by omega), o3 _ (by omega)]; exact g1)]
  rfl
end UNDO
