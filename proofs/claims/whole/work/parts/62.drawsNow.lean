/-! A DRAW OF THE TABLE, by the model: the row now, and the log. -/
theorem up_int {m : mm_V} {a i b k : Nat} {v : Int32} (h : ∃ x, m b k = .int x) : ∃ x, mm_up m a i (.int v) b k = .int x := by
  unfold mm_up
  split
  · exact ⟨v, rfl⟩
  · exact h
theorem if_bz {α : Type} (b : Bool) (F : Int32 → α) : (if bZ b = zI 0 then F (zI 0) else F (zI 1)) = F (bZ b) := by
  cases b
  · exact if_pos rfl
  · exact if_neg (by decide)
section DRAWNOW
variable {e : mm_E} {q N : Nat} {f : Nat → List Nat} {rl : Nat → List Int} {sit last : Nat → Nat} {done : Int32} {p s k c : Nat} {H : List QR}
theorem X12_drawsNow_b50_eq {m : mm_V} (hT : modT e.1 q) (hS : modS m q) (h : rowF m (q + 14) f) (hcs : ∀ p, ∀ x ∈ f p, x < 1000) (hn : m q 1 = .int (zI N)) (h2 : 2 ≤ N) (h6 : N ≤ 6) (hp : p < N) (hs : s < 6) (hps : s ≠ p) (hsrc : nxt N f p = some s) (hc : (f s)[k]? = some c) (hq0 : c = 0 → idx c (f p) = none) (htu : m (q + 14) 0 = .int (zI p)) (hd : m (q + 14) 1 = .int done) (hla : ∀ i, i < 6 → m (q + 14) (8 + i) = .int (zI (last i))) (hsit : m (q + 18) p = .int (zI (sit p))) (hs6 : sit p < 6) (hr : rulesM m (q + 1) (q + 3) rl) (hw : rulesW rl) (hpl : idx c (f p) = none → (f p).length < 19) (hH : mlogR m q H) (hH6 : H.length < 60) (hN : 2000 < e.2.2) : ∃ m', X12_drawsNow_b50 e q (zI k) m = some m' ∧ rowF m' (q + 14) (stF rl sit (zI 0) f last done p s k c) ∧ m' (q + 14) 1 = .int (done + zI 1) ∧ m' (q + 14) 0 = .int (trn N (stF rl sit (zI 0) f last done p s k c) p) ∧ (∀ i, i < 6 → m' (q + 14) (8 + i) = .int (zI (setF last p k i : Nat))) ∧ m' q 45 = .int (zI c) ∧ m' q 47 = .int (bZ (idx c (f p)).isSome) ∧ mlogR m' q (H ++ [recF rl sit (zI 0) f last done p s k c]) ∧ (∀ j, j ≠ 45 → j ≠ 46 → j ≠ 47 → j ≠ 48 → m' q j = m q j) ∧ ∀ b, b ≠ q → b ≠ q + 14 → b ≠ q + 17 → b ≠ q + 19 → m' b = m b := by
  obtain ⟨g48, gl, gx, gv⟩ := hH
  have h19 := (h s hs).2.1
  have hbz : ∀ x : Bool, bZ x = 0 ∨ bZ x = 1 := by intro x; cases x <;> simp [bZ] <;> first | (left; rfl) | (right; rfl)
  have keep : ∀ m1 : mm_V, (∀ b, b ≠ q + 19 → m1 b = m b) → mm_gr e.1 m1 12 75 q 49 = some (q + 19) ∧ mm_gr e.1 m1 12 75 q 39 = some (q + 14) ∧ rowF m1 (q + 14) f := fun m1 h1 =>
    ⟨rd_gr hT.me (by rw [h1 _ (by omega)]; exact hS.draw_), rd_gr hT.me (by rw [h1 _ (by omega)]; exact hS.now_), h.keep' (h1 _ (by omega))⟩
  have off : ∀ (m1 : mm_V) (j : Nat) (v : Value), (∀ b, b ≠ q + 19 → m1 b = m b) → ∀ b, b ≠ q + 19 → mm_up m1 (q + 19) j v b = m b := fun m1 j v h1 b hb => by rw [up_row _ _ _ hb]; exact h1 b hb
  have K0 := keep m (fun _ _ => rfl)
  generalize hm1 : mm_up m (q + 19) (9 * H.length) (.int (zI p)) = m1
  have o1 : ∀ b, b ≠ q + 19 → m1 b = m b := by rw [← hm1]; exact off m _ _ (fun _ _ => rfl)
  have K1 := keep m1 o1
  generalize hm2 : mm_up m1 (q + 19) (9 * H.length + 1) (.int (zI s)) = m2
  have o2 : ∀ b, b ≠ q + 19 → m2 b = m b := by rw [← hm2]; exact off m1 _ _ o1
  have K2 := keep m2 o2
  generalize hm3 : mm_up m2 (q + 19) (9 * H.length + 2) (.int (zI k)) = m3
  have o3 : ∀ b, b ≠ q + 19 → m3 b = m b := by rw [← hm3]; exact off m2 _ _ o2
  have K3 := keep m3 o3
  generalize hm4 : mm_up m3 (q + 19) (9 * H.length + 6) (.int (zI (last p))) = m4
  have o4 : ∀ b, b ≠ q + 19 → m4 b = m b := by rw [← hm4]; exact off m3 _ _ o3
  have K4 := keep m4 o4
  generalize hm5 : mm_up m4 (q + 19) (9 * H.length + 7) (.int (zI (f s).length)) = m5
  have o5 : ∀ b, b ≠ q + 19 → m5 b = m b := by rw [← hm5]; exact off m4 _ _ o4
  have K5 := keep m5 o5
  generalize hm6 : mm_up m5 (q + 19) (9 * H.length + 8) (.int (bZ (hasQ f s))) = m6
  have o6 : ∀ b, b ≠ q + 19 → m6 b = m b := by rw [← hm6]; exact off m5 _ _ o5
  have K6 := keep m6 o6
  obtain ⟨m7, a1, a2, a3, a4, a5, a6, a7, a8, a9, a10⟩ := X12_drawsOf_eq (e := e) (lw := zI 0) (st := false) (sit := sit) (last := last) (done := done) (rl := rl) (m := m6) (by decide) hT (hS.keep (fun _ _ _ => by rw [o6 _ (by omega)])) hT.now_ (by omega) K6.2.2 hcs (by rw [o6 _ (by omega)]; exact hn) h2 h6 hp hs hps hc hq0 (by rw [o6 _ (by omega)]; exact htu) (by rw [o6 _ (by omega)]; exact hd) (fun i hi => by rw [o6 _ (by omega)]; exact hla i hi) (by rw [o6 _ (by omega)]; exact hsit) hs6 (hr.keep (o6 _ (by omega)) (o6 _ (by omega))) hw hpl hN
  have g7 : ∀ j, j ≠ 45 → j ≠ 46 → j ≠ 47 → m7 q j = m q j := fun j y1 y2 y3 => by rw [a9 j y1 y2 y3, o6 _ (by omega)]
  have S7 : modS m7 q := hS.keep (fun i x1 x2 => g7 _ (mfld_ne 45 (by decide) i x1 x2) (mfld_ne 46 (by decide) i x1 x2) (mfld_ne 47 (by decide) i x1 x2))
  generalize hm8 : mm_up m7 (q + 19) (9 * H.length + 3) (.int (zI c)) = m8
  have o8 : ∀ b, b ≠ q + 19 → m8 b = m7 b := fun b hb => by rw [← hm8, up_row _ _ _ hb]
  generalize hm9 : mm_up m8 (q + 19) (9 * H.length + 4) (.int (bZ (idx c (f p)).isSome)) = m9
  have o9 : ∀ b, b ≠ q + 19 → m9 b = m7 b := fun b hb => by rw [← hm9, up_row _ _ _ hb]; exact o8 b hb
  generalize hm10 : mm_up m9 (q + 19) (9 * H.length + 5) (.int (stOwn rl sit (zI 0) f last done p s k c)) = m10
  have o10 : ∀ b, b ≠ q + 19 → m10 b = m7 b := fun b hb => by rw [← hm10, up_row _ _ _ hb]; exact o9 b hb
  have e48 : m10 q 48 = .int (zI H.length) := by rw [o10 _ (by omega), g7 48 (by omega) (by omega) (by omega)]; exact g48
  refine ⟨mm_up m10 q 48 (.int (zI (H.length + 1 : Nat))), ?_, a2.keep' (by rw [up_row _ _ _ (by omega)]; exact o10 _ (by omega)), by rw [up_row _ _ _ (by omega), o10 _ (by omega)]; exact a3, by rw [up_row _ _ _ (by omega), o10 _ (by omega)]; exact a4, fun i hi => by rw [up_row _ _ _ (by omega), o10 _ (by omega)]; exact a5 i hi, by rw [up_ne _ _ (Or.inr (by omega)), o10 _ (by omega)]; exact a6, by rw [up_ne _ _ (Or.inr (by omega)), o10 _ (by omega)]; exact a8, ⟨by rw [up_at]; simp, by simp; omega, ?_, ?_⟩, fun j y1 y2 y3 y4 => by rw [up_ne _ _ (Or.inr y4), o10 _ (by omega)]; exact g7 j y1 y2 y3, fun b y1 y2 y3 y4 => by rw [up_row _ _ _ y1, o10 _ y4, a10 b y1 y2 y3]; exact o6 b y4⟩
  · have sp : ∀ m1 : mm_V, (∀ b, b ≠ q + 19 → m1 b = m b) → X12_nextOf e q (q + 14) (zI p) m1 = some (zI s, m1) := fun m1 h1 => by
      have := X12_nextOf_eq (e := e) hT.now_ hT.me (keep m1 h1).2.2 (by rw [h1 _ (by omega)]; exact hn) h2 h6 hp (by omega)
      rw [hsrc] at this; exact this
    unfold X12_drawsNow_b50
    simp only [LT]
    rw [rd_gi hT.me g48, Option.bind_some, K0.2.1, Option.bind_some, rd_ai hT.now_ (i := 0) (by omega) (by omega) (by omega) htu, Option.bind_some, Option.bind_some, sp m (fun _ _ => rfl), Option.bind_some, K0.1, Option.bind_some]
    simp only [zI_mul, zI_add]
    rw [wr_si hT.draw_ (i := 9 * H.length) (by omega) (by omega) (by omega), Option.bind_some, hm1, K1.1, Option.bind_some, wr_si hT.draw_ (i := 9 * H.length + 1) (by omega) (by omega) (by omega), Option.bind_some, hm2, K2.1, Option.bind_some, wr_si hT.draw_ (i := 9 * H.length + 2) (by omega) (by omega) (by omega), Option.bind_some, hm3, K3.1, Option.bind_some, K3.2.1, Option.bind_some, rd_ai hT.now_ (i := 8 + p) (v := zI (last p)) (by omega) (by omega) (by omega) (by rw [o3 _ (by omega)]; exact hla p (by omega)), Option.bind_some, wr_si hT.draw_ (i := 9 * H.length + 6) (by omega) (by omega) (by omega), Option.bind_some, hm4, K4.1, Option.bind_some, K4.2.1, Option.bind_some, X12_size_eq hT.now_ K4.2.2 hs, Option.bind_some, wr_si hT.draw_ (i := 9 * H.length + 7) (by omega) (by omega) (by omega), Option.bind_some, hm5, K5.1, Option.bind_some, K5.2.1, Option.bind_some]
    have hpq := X12_placeOf_eq (e := e) (c := 0) hT.now_ K5.2.2 hs (hcs s) (by omega) (by omega)
    rw [show ((0 : Nat) : Int) = 0 from rfl] at hpq
    rw [hpq, Option.bind_some]
    simp only [zI_neg]
    rw [if_oz (o := idx 0 (f s)) (fun j hj => by have := idx_bound hj; omega) (fun z => X12_drawsNow_b165 e q (zI k) (zI (9 * (H.length : Int))) (zI s) (q + 19) (zI (9 * (H.length : Int) + 8)) z m5)]
    unfold X12_drawsNow_b165
    simp only [LT]
    rw [wr_si hT.draw_ (i := 9 * H.length + 8) (by omega) (by omega) (by omega), Option.bind_some]
    rw [show (idx 0 (f s)).isSome = hasQ f s from rfl, hm6, K6.2.1, Option.bind_some]
    simp only [bZ, Bool.false_eq_true, if_false] at a1
    rw [a1, Option.bind_some, rd_gr hT.me S7.draw_, Option.bind_some, rd_gi hT.me a6, Option.bind_some, zI_add, wr_si hT.draw_ (i := 9 * H.length + 3) (by omega) (by omega) (by omega), Option.bind_some, hm8, rd_gr hT.me (v := q + 19) (by rw [o8 _ (by omega)]; exact S7.draw_), Option.bind_some, rd_gi hT.me (v := bZ (idx c (f p)).isSome) (by rw [o8 _ (by omega)]; exact a8), Option.bind_some]
    rw [if_bz (idx c (f p)).isSome (fun z => X12_drawsNow_b209 e q (zI (9 * (H.length : Int))) (q + 19) (zI (9 * (H.length : Int)) + zI 4) z m8)]
    unfold X12_drawsNow_b209
    simp only [LT]
    rw [zI_add, wr_si hT.draw_ (i := 9 * H.length + 4) (by omega) (by omega) (by omega), Option.bind_some, hm9, rd_gr hT.me (v := q + 19) (by rw [o9 _ (by omega)]; exact S7.draw_), Option.bind_some, rd_gi hT.me (v := stOwn rl sit (zI 0) f last done p s k c) (by rw [o9 _ (by omega)]; exact a7), Option.bind_some, zI_add, wr_si hT.draw_ (i := 9 * H.length + 5) (by omega) (by omega) (by omega), Option.bind_some, hm10, rd_gi hT.me e48, Option.bind_some, wr_pf hT.me, zI_add]
    rfl
  · intro k0 hk0
    rw [up_row _ _ _ (by omega), ← hm10, ← hm9, ← hm8]
    refine up_int (up_int (up_int ?_))
    rw [a10 _ (by omega) (by omega) (by omega), ← hm6, ← hm5, ← hm4, ← hm3, ← hm2, ← hm1]
    exact up_int (up_int (up_int (up_int (up_int (up_int (gx k0 hk0))))))
  · intro i v hv j hj
    rw [up_row _ _ _ (by omega)]
    by_cases hi : i < H.length
    · rw [List.getElem?_append_left hi] at hv
      rw [← hm10, up_ne _ _ (Or.inr (by omega)), ← hm9, up_ne _ _ (Or.inr (by omega)), ← hm8, up_ne _ _ (Or.inr (by omega)), a10 _ (by omega) (by omega) (by omega), ← hm6, up_ne _ _ (Or.inr (by omega)), ← hm5, up_ne _ _ (Or.inr (by omega)), ← hm4, up_ne _ _ (Or.inr (by omega)), ← hm3, up_ne _ _ (Or.inr (by omega)), ← hm2, up_ne _ _ (Or.inr (by omega)), ← hm1, up_ne _ _ (Or.inr (by omega))]
      exact gv i v hv j hj
    · have hi2 := (List.getElem?_eq_some_iff.mp hv).1
      simp at hi2
      have : i = H.length := by omega
      subst this
      simp at hv
      subst hv
      have hcj : j = 0 ∨ j = 1 ∨ j = 2 ∨ j = 3 ∨ j = 4 ∨ j = 5 ∨ j = 6 ∨ j = 7 ∨ j = 8 := by omega
      have low : (j ≠ 3 ∧ j ≠ 4 ∧ j ≠ 5) → m10 (q + 19) (9 * H.length + j) = m6 (q + 19) (9 * H.length + j) := fun hj3 => by
        rw [← hm10, up_ne _ _ (Or.inr (by omega)), ← hm9, up_ne _ _ (Or.inr (by omega)), ← hm8, up_ne _ _ (Or.inr (by omega)), a10 _ (by omega) (by omega) (by omega)]
      rcases hcj with rfl | rfl | rfl | rfl | rfl | rfl | rfl | rfl | rfl
      · rw [low (by omega), ← hm6, ← hm5, ← hm4, ← hm3, ← hm2, ← hm1]; simp [mm_up]; rfl
      · rw [low (by omega), ← hm6, ← hm5, ← hm4, ← hm3, ← hm2]; simp [mm_up]; rfl
      · rw [low (by omega), ← hm6, ← hm5, ← hm4, ← hm3]; simp [mm_up]; rfl
      · rw [← hm10, ← hm9, ← hm8]; simp [mm_up]; rfl
      · rw [← hm10, ← hm9]; simp [mm_up]; rfl
      · rw [← hm10]; simp [mm_up]; rfl
      · rw [low (by omega), ← hm6, ← hm5, ← hm4]; simp [mm_up]; rfl
      · rw [low (by omega), ← hm6, ← hm5]; simp [mm_up]; rfl
      · rw [low (by omega), ← hm6]; simp [mm_up]; rfl
theorem X12_drawsNow_eq {m : mm_V} (hT : modT e.1 q) (hS : modS m q) (h : rowF m (q + 14) f) (hcs : ∀ p, ∀ x ∈ f p, x < 1000) (hn : m q 1 = .int (zI N)) (h2 : 2 ≤ N) (h6 : N ≤ 6) (hp : p < N) (hs : s < 6) (hps : s ≠ p) (hsrc : nxt N f p = some s) (hc : (f s)[k]? = some c) (hq0 : c = 0 → idx c (f p) = none) (htu : m (q + 14) 0 = .int (zI p)) (hd : m (q + 14) 1 = .int done) (hla : ∀ i, i < 6 → m (q + 14) (8 + i) = .int (zI (last i))) (hsit : m (q + 18) p = .int (zI (sit p))) (hs6 : sit p < 6) (hr : rulesM m (q + 1) (q + 3) rl) (hw : rulesW rl) (hpl : idx c (f p) = none → (f p).length < 19) (hH : mlogR m q H) (hN : 2000 < e.2.2) : ∃ m', X12_drawsNow e q (zI k) m = some m' ∧ rowF m' (q + 14) (stF rl sit (zI 0) f last done p s k c) ∧ m' (q + 14) 1 = .int (done + zI 1) ∧ m' (q + 14) 0 = .int (trn N (stF rl sit (zI 0) f last done p s k c) p) ∧ (∀ i, i < 6 → m' (q + 14) (8 + i) = .int (zI (setF last p k i : Nat))) ∧ m' q 45 = .int (zI c) ∧ m' q 47 = .int (bZ (idx c (f p)).isSome) ∧ mlogR m' q ((if H.length < 60 then H else H.drop 1) ++ [recF rl sit (zI 0) f last done p s k c]) ∧ (∀ j, j ≠ 45 → j ≠ 46 → j ≠ 47 → j ≠ 48 → m' q j = m q j) ∧ ∀ b, b ≠ q → b ≠ q + 14 → b ≠ q + 17 → b ≠ q + 19 → m' b = m b := by
  have hle := hH.2.1
  unfold X12_drawsNow
  simp only [LT]
  rw [rd_gi hT.me hH.1, Option.bind_some]
  by_cases h60 : H.length < 60
  · rw [if_pos h60, inp (by omega)]
    exact X12_drawsNow_b50_eq hT hS h hcs hn h2 h6 hp hs hps hsrc hc hq0 htu hd hla hsit hs6 hr hw hpl hH h60 hN
  · have hl : H.length = 60 := by omega
    rw [if_neg h60, inn (by omega)]
    obtain ⟨g48, gl, gx, gv⟩ := hH
    obtain ⟨X, hX⟩ : ∃ X : Nat → Int32, ∀ k, k < 540 → m (q + 19) k = .int (X k) :=
      ⟨fun k => match m (q + 19) k with | .int x => x | _ => 0, fun k hk => by obtain ⟨x, hx⟩ := gx k hk; simp only [hx]⟩
    obtain ⟨m1, a1, a2, a3, a4, a5, a6⟩ := X12_drawsNow_shift (e := e) (X := X) (x := zI k) hT 531 9 e.2.2 m (by omega) (by omega) (by omega) hS (by rw [g48, hl]; rfl) (fun k hk h9 => absurd h9 (by omega)) (fun k hk _ => hX k hk)
    have hS1 : modS m1 q := hS.keep (fun i x1 x2 => a5 _ (mfld_ne 48 (by decide) i x1 x2))
    have hdl : (H.drop 1).length = 59 := by simp; omega
    have hH1 : mlogR m1 q (H.drop 1) := ⟨by rw [a2, hdl]; rfl, by omega, a4, fun i v hv j hj => by
      have hi := (List.getElem?_eq_some_iff.mp hv).1
      rw [List.getElem?_drop] at hv
      have := gv (1 + i) v hv j hj
      rw [hX _ (by omega)] at this
      rw [a3 _ (by omega), show 9 * i + j + 9 = 9 * (1 + i) + j by omega]
      exact this⟩
    obtain ⟨m', b1, b2, b3, b4, b5, b6, b7, b8, b9, b10⟩ := X12_drawsNow_b50_eq (e := e) (m := m1) (sit := sit) (last := last) (done := done) (rl := rl) hT hS1 (h.keep' (a6 _ (by omega) (by omega))) hcs (by rw [a5 _ (by omega)]; exact hn) h2 h6 hp hs hps hsrc hc hq0 (by rw [a6 _ (by omega) (by omega)]; exact htu) (by rw [a6 _ (by omega) (by omega)]; exact hd) (fun i hi => by rw [a6 _ (by omega) (by omega)]; exact hla i hi) (by rw [a6 _ (by omega) (by omega)]; exact hsit) hs6 (hr.keep (a6 _ (by omega) (by omega)) (a6 _ (by omega) (by omega))) hw hpl hH1 (by omega) hN
    refine ⟨m', ?_, b2, b3, b4, b5, b6, b7, b8, fun j y1 y2 y3 y4 => by rw [b9 j y1 y2 y3 y4, a5 j y4], fun b y1 y2 y3 y4 => by rw [b10 b y1 y2 y3 y4, a6 b y1 y4]⟩
    rw [show ((9 : Nat) : Int) = 9 from rfl] at a1
    rw [a1]
    exact b1
end DRAWNOW
