/-! A DRAW OF THE TABLE, by the model: the row now, and the log. -/
section DRAWNOW
variable {e : mm_E} {q N : Nat} {f : Nat → List Nat} {rl : Nat → List Int} {sit last : Nat → Nat} {done : Int32} {p s k c : Nat} {H : List QR}
theorem X12_drawsNow_b50_eq {m : mm_V} (hT : modT e.1 q) (hS : modS m q) (h : rowF m (q + 14) f) (hcs : ∀ p, ∀ x ∈ f p, x < 1000) (hn : m q 1 = .int (zI N)) (h2 : 2 ≤ N) (h6 : N ≤ 6) (hp : p < N) (hs : s < 6) (hps : s ≠ p) (hsrc : nxt N f p = some s) (hc : (f s)[k]? = some c) (hq0 : c = 0 → idx c (f p) = none) (htu : m (q + 14) 0 = .int (zI p)) (hd : m (q + 14) 1 = .int done) (hla : ∀ i, i < 6 → m (q + 14) (8 + i) = .int (zI (last i))) (hsit : m (q + 18) p = .int (zI (sit p))) (hs6 : sit p < 6) (hr : rulesM m (q + 1) (q + 3) rl) (hw : rulesW rl) (hpl : idx c (f p) = none → (f p).length < 19) (hH : mlogR m q H) (hH6 : H.length < 60) (hN : 2000 < e.2.2) : ∃ m', X12_drawsNow_b50 e q (zI k) m = some m' ∧ rowF m' (q + 14) (stF rl sit (zI 0) f last done p s k c) ∧ m' (q + 14) 1 = .int (done + zI 1) ∧ m' (q + 14) 0 = .int (trn N (stF rl sit (zI 0) f last done p s k c) p) ∧ (∀ i, i < 6 → m' (q + 14) (8 + i) = .int (zI (setF last p k i : Nat))) ∧ m' q 45 = .int (zI c) ∧ m' q 47 = .int (bZ (idx c (f p)).isSome) ∧ mlogR m' q (H ++ [recF rl sit (zI 0) f last done p s k c]) ∧ (∀ j, j ≠ 45 → j ≠ 46 → j ≠ 47 → j ≠ 48 → m' q j = m q j) ∧ ∀ b, b ≠ q → b ≠ q + 14 → b ≠ q + 17 → b ≠ q + 19 → m' b = m b := by
  obtain ⟨g48, gl, gx, gv⟩ := hH
  have h19 := (h s hs).2.1
  have hbz : ∀ x : Bool, bZ x = 0 ∨ bZ x = 1 := by intro x; cases x <;> simp [bZ] <;> first | (left; rfl) | (right; rfl)
  have keep : ∀ m1 : mm_V, (∀ b, b ≠ q + 19 → m1 b = m b) → mm_gr e.1 m1 12 75 q 49 = some (q + 19) ∧ mm_gr e.1 m1 12 75 q 39 = some (q + 14) ∧ rowF m1 (q + 14) f := fun m1 h1 =>
    ⟨rd_gr hT.me (by rw [h1 _ (by omega)]; exact hS.draw_), rd_gr hT.me (by rw [h1 _ (by omega)]; exact hS.now_), h.keep' (h1 _ (by omega))⟩
  have off : ∀ (m1 : mm_V) (j : Nat) (v : Value), (∀ b, b ≠ q + 19 → m1 b = m b) → ∀ b, b ≠ q + 19 → mm_up m1 (q + 19) j v b = m b := fun m1 j v h1 b hb => by rw [up_row _ _ _ hb]; exact h1 b hb
  have K0 := keep m (fun _ _ => rfl)
  generalize hm1 : mm_up m (q + 19) (9 * H.length) (.int (zI p)) = m1
  have o1 : ∀ b, b ≠ q + 19 → m1 b = m b := by rw [← hm1]; exact off m _ _ (fun _ _ => rfl)
  have K1 := keep m1 o1
  generalize hm2 : mm_up m1 (q + 19) (9 * H.length + 1) (.int (zI s)) = m2
  have o2 : ∀ b, b ≠ q + 19 → m2 b = m b := by rw [← hm2]; exact off m1 _ _ o1
  have K2 := keep m2 o2
  generalize hm3 : mm_up m2 (q + 19) (9 * H.length + 2) (.int (zI k)) = m3
  have o3 : ∀ b, b ≠ q + 19 → m3 b = m b := by rw [← hm3]; exact off m2 _ _ o2
  have K3 := keep m3 o3
  generalize hm4 : mm_up m3 (q + 19) (9 * H.length + 6) (.int (zI (last p))) = m4
  have o4 : ∀ b, b ≠ q + 19 → m4 b = m b := by rw [← hm4]; exact off m3 _ _ o3
  have K4 := keep m4 o4
  generalize hm5 : mm_up m4 (q + 19) (9 * H.length + 7) (.int (zI (f s).length)) = m5
  have o5 : ∀ b, b ≠ q + 19 → m5 b = m b := by rw [← hm5]; exact off m4 _ _ o4
  have K5 := keep m5 o5
  generalize hm6 : mm_up m5 (q + 19) (9 * H.length + 8) (.int (bZ (hasQ f s))) = m6
  have o6 : ∀ b, b ≠ q + 19 → m6 b = m b := by rw [← hm6]; exact off m5 _ _ o5
  have K6 := keep m6 o6
  obtain ⟨m7, a1, a2, a3, a4, a5, a6, a7, a8, a9, a10⟩ := X12_drawsOf_eq (e := e) (lw := zI 0) (st := false) (sit := sit) (last := last) (done := done) (rl := rl) (m := m6) (by decide) hT (hS.keep (fun _ _ _ => by rw [o6 _ (by omega)])) hT.now_ (by omega) K6.2.2 hcs (by rw [o6 _ (by omega)]; exact hn) h2 h6 hp hs hps hc hq0 (by rw [o6 _ (by omega)]; exact htu) (by rw [o6 _ (by omega)]; exact hd) (fun i hi => by rw [o6 _ (by omega)]; exact hla i hi) (by rw [o6 _ (by omega)]; exact hsit) hs6 (hr.keep (o6 _ (by omega)) (o6 _ (by omega))) hw hpl hN
  have g7 : ∀ j, j ≠ 45 → j ≠ 46 → j ≠ 47 → m7 q j = m q j := fun j y1 y2 y3 => by rw [a9 j y1 y2 y3, o6 _ (by omega)]
  have S7 : modS m7 q := hS.keep (fun i x1 x2 => g7 _ (mfld_ne 45 (by decide) i x1 x2) (mfld_ne 46 (by decide) i x1 x2) (mfld_ne 47 (by decide) i x1 x2))
  generalize hm8 : mm_up m7 (q + 19) (9 * H.length + 3) (.int (zI c)) = m8
  have o8 : ∀ b, b ≠ q + 19 → m8 b = m7 b := fun b hb => by rw [← hm8, up_row _ _ _ hb]
  generalize hm9 : mm_up m8 (q + 19) (9 * H.length + 4) (.int (bZ (idx c (f p)).isSome)) = m9
  have o9 : ∀ b, b ≠ q + 19 → m9 b = m7 b := fun b hb => by rw [← hm9, up_row _ _ _ hb]; exact o8 b hb
  generalize hm10 : mm_up m9 (q + 19) (9 * H.length + 5) (.int (stOwn rl sit (zI 0) f last done p s k c)) = m10
  have o10 : ∀ b, b ≠ q + 19 → m10 b = m7 b := fun b hb => by rw [← hm10, up_row _ _ _ hb]; exact o9 b hb
  have e48 : m10 q 48 = .int (zI H.length) := by rw [o10 _ (by omega), g7 48 (by omega) (by omega) (by omega)]; exact g48
  refine ⟨mm_up m10 q 48 (.int (zI (H.length + 1 : Nat))), ?_, a2.keep' (by rw [up_row _ _ _ (by omega)]; exact o10 _ (by omega)), by rw [up_row _ _ _ (by omega), o10 _ (by omega)]; exact a3, by rw [up_row _ _ _ (by omega), o10 _ (by omega)]; exact a4, fun i hi => by rw [up_row _ _ _ (by omega), o10 _ (by omega)]; exact a5 i hi, by rw [up_ne _ _ (Or.inr (by omega)), o10 _ (by omega)]; exact a6, by rw [up_ne _ _ (Or.inr (by omega)), o10 _ (by omega)]; exact a8, ⟨by rw [up_at]; simp, by simp; omega, ?_, ?_⟩, fun j y1 y2 y3 y4 => by rw [up_ne _ _ (Or.inr y4), o10 _ (by omega)]; exact g7 j y1 y2 y3, fun b y1 y2 y3 y4 => by rw [up_row _ _ _ y1, o10 _ y4, a10 b y1 y2 y3]; exact o6 b y4⟩
  · sorry
  · sorry
  · sorry
end DRAWNOW
