/-! TOKENS of the model: goes. -/
section GOES2
variable {e : mm_E} {q n : Nat} {T : Nat → Nat}
theorem X12_skip_loop (hT : modT e.1 q) : ∀ (j i nn : Nat) (m : mm_V), i + j = n → j < nn → txR m (q + 4) n T → modS m q → m q 13 = .int (zI n) → m q 14 = .int (zI i) → ∃ m', X12_goes_L0 e q nn m = X12_goes_b50 e q m' ∧ m' q 14 = .int (zI (run (fun i => isSp (T i)) j i)) ∧ modS m' q ∧ (∀ k, k ≠ 14 → m' q k = m q k) ∧ ∀ b, b ≠ q → m' b = m b := by
  intro j
  induction j with
  | zero =>
    intro i nn m hi hn ht hS h13 h14
    obtain ⟨nn, rfl⟩ : ∃ n', nn = n' + 1 := ⟨nn - 1, by omega⟩
    have := ht.1
    refine ⟨m, ?_, by rw [run]; exact h14, hS, fun _ _ => rfl, fun _ _ => rfl⟩
    rw [X12_goes_L0, rd_gi hT.me h14, Option.bind_some, rd_gi hT.me h13, Option.bind_some, iep (by omega)]
  | succ j ih =>
    intro i nn m hi hn ht hS h13 h14
    obtain ⟨nn, rfl⟩ : ∃ n', nn = n' + 1 := ⟨nn - 1, by omega⟩
    have h6 := ht.1
    have hc := ht.2.1 i (by omega)
    have bt := X12_byteAt_eq (e := e) hT hS ht h13 (show i ≤ n by omega)
    rw [if_pos (show i < n by omega)] at bt
    rw [run]
    by_cases hsp : T i = 32 ∨ T i = 10
    · have hb : isSp (T i) = true := by unfold isSp; simpa using hsp
      simp only [hb, if_true]
      generalize hm1 : mm_up m q 14 (.int (zI (i + 1 : Nat))) = m1
      have r1 : ∀ b, b ≠ q → m1 b = m b := fun b h => by rw [← hm1, up_row _ _ _ h]
      have q1 : ∀ k, k ≠ 14 → m1 q k = m q k := fun k h => by rw [← hm1, up_ne _ _ (Or.inr h)]
      obtain ⟨m', e1, e2, e3, e4, e5⟩ := ih (i + 1) nn m1 (by omega) (by omega) ⟨ht.1, ht.2.1, fun k hk => by rw [r1 _ (by omega)]; exact ht.2.2 k hk⟩ (by rw [← hm1]; exact hS.up (by decide)) (by rw [q1 _ (by omega)]; exact h13) (by rw [← hm1, up_at])
      refine ⟨m', ?_, e2, e3, fun k hk => by rw [e4 k hk, q1 k hk], fun b hb => by rw [e5 b hb, r1 b hb]⟩
      rw [X12_goes_L0, rd_gi hT.me h14, Option.bind_some, rd_gi hT.me h13, Option.bind_some, ien (by omega), Option.bind_some, bt, Option.bind_some]
      unfold X12_goes_b37
      simp only [LT]
      by_cases h32 : T i = 32
      · rw [iqp (by omega), rd_gi hT.me h14, Option.bind_some, show (zI (i : Int) + zI 1 : Int32) = zI ((i + 1 : Nat) : Int) from zI_add _ _, wr_pf hT.me, Option.bind_some, hm1]; exact e1
      · rw [iqn (by omega), rd_gi hT.me h14, Option.bind_some, bt, Option.bind_some]
        simp only
        rw [inn (by omega), rd_gi hT.me h14, Option.bind_some, show (zI (i : Int) + zI 1 : Int32) = zI ((i + 1 : Nat) : Int) from zI_add _ _, wr_pf hT.me, Option.bind_some, hm1]; exact e1
    · have hb : isSp (T i) = false := by unfold isSp; simpa using hsp
      simp only [hb]
      refine ⟨m, ?_, h14, hS, fun _ _ => rfl, fun _ _ => rfl⟩
      rw [X12_goes_L0, rd_gi hT.me h14, Option.bind_some, rd_gi hT.me h13, Option.bind_some, ien (by omega), Option.bind_some, bt, Option.bind_some]
      simp only [LT]
      rw [iqn (by omega), rd_gi hT.me h14, Option.bind_some, bt, Option.bind_some]
      simp only
      rw [inp (by omega)]
theorem X12_goes_eq {m : mm_V} {b : Nat} (hT : modT e.1 q) (hS : modS m q) (ht : txR m (q + 4) n T) (h13 : m q 13 = .int (zI n)) (h14 : m q 14 = .int (zI b)) (hb : b ≤ n) (hN : 1000 < e.2.2) : ∃ m', X12_goes e q m = some m' ∧ tkM m' q n T (tok T n b) ∧ modS m' q ∧ (∀ k, (k < 14 ∨ 20 < k) → m' q k = m q k) ∧ ∀ c, c ≠ q → m' c = m c := by
  have h6 := ht.1
  obtain ⟨m2, a1, a2, a3, a4, a5⟩ := X12_skip_loop (e := e) (T := T) hT (n - b) b e.2.2 m (by omega) (by omega) ht hS h13 h14
  have hsb := run_le (fun i => isSp (T i)) (n - b) b
  change m2 q 14 = .int (zI (skp T n b)) at a2
  change b ≤ skp T n b ∧ skp T n b ≤ b + (n - b) at hsb
  have hgo : X12_goes e q m = X12_goes_b50 e q m2 := a1
  rw [hgo]
  unfold tok
  simp only
  generalize skp T n b = s at a2 hsb
  have t2 : txR m2 (q + 4) n T := ⟨ht.1, ht.2.1, fun k hk => by rw [a5 _ (by omega)]; exact ht.2.2 k hk⟩
  generalize hm4 : mm_up (mm_up (mm_up m2 q 16 (.int (zI s))) q 20 (.long (lI (0 : Nat)))) q 18 (.int (zI 0)) = m4
  have S4 : modS m4 q := by rw [← hm4]; exact ((a3.up (by decide)).up (by decide)).up (by decide)
  have r4 : ∀ x, x ≠ q → m4 x = m x := fun x h => by rw [← hm4, up_row _ _ _ h, up_row _ _ _ h, up_row _ _ _ h, a5 x h]
  have q4 : ∀ k, k ≠ 16 → k ≠ 18 → k ≠ 20 → m4 q k = m2 q k := fun k x1 x2 x4 => by rw [← hm4, up_ne _ _ (Or.inr x2), up_ne _ _ (Or.inr x4), up_ne _ _ (Or.inr x1)]
  have t4 : txR m4 (q + 4) n T := ⟨ht.1, ht.2.1, fun k hk => by rw [r4 _ (by omega)]; exact ht.2.2 k hk⟩
  have w13 : m4 q 13 = .int (zI n) := by rw [q4 _ (by omega) (by omega) (by omega), a4 _ (by omega)]; exact h13
  have w14 : m4 q 14 = .int (zI s) := by rw [q4 _ (by omega) (by omega) (by omega)]; exact a2
  have bt := X12_byteAt_eq (e := e) hT S4 t4 w13 (show s ≤ n by omega)
  generalize hc0 : (if s < n then T s else 0) = c at bt
  have hc : c < 256 := by rw [← hc0]; split; exact ht.2.1 s (by assumption); omega
  generalize hm3 : mm_up m4 q 19 (.int (zI c)) = m3
  have S3 : modS m3 q := by rw [← hm3]; exact S4.up (by decide)
  have r3 : ∀ x, x ≠ q → m3 x = m x := fun x h => by rw [← hm3, up_row _ _ _ h, r4 x h]
  have q3 : ∀ k, k ≠ 19 → m3 q k = m4 q k := fun k x1 => by rw [← hm3, up_ne _ _ (Or.inr x1)]
  have v16 : m3 q 16 = .int (zI s) := by rw [q3 _ (by omega), ← hm4, up_ne _ _ (by omega), up_ne _ _ (by omega), up_at]
  have v20 : m3 q 20 = .long (lI (0 : Nat)) := by rw [q3 _ (by omega), ← hm4, up_ne _ _ (by omega), up_at]
  have v18 : m3 q 18 = .int (zI 0) := by rw [q3 _ (by omega), ← hm4, up_at]
  have v19 : m3 q 19 = .int (zI c) := by rw [← hm3, up_at]
  have v14 : m3 q 14 = .int (zI s) := by rw [q3 _ (by omega)]; exact w14
  have v13 : m3 q 13 = .int (zI n) := by rw [q3 _ (by omega)]; exact w13
  have t3 : txR m3 (q + 4) n T := ⟨ht.1, ht.2.1, fun k hk => by rw [r3 _ (by omega)]; exact ht.2.2 k hk⟩
  have out3 : ∀ k, (k < 14 ∨ 20 < k) → m3 q k = m q k := fun k hk => by rw [q3 _ (by omega), q4 _ (by omega) (by omega) (by omega), a4 _ (by omega)]
  have hme := hT.me
  have fin : ∀ (z : Nat), ∃ m', X12_goes_b328 e q q (zI z) (mm_up m3 q 14 (.int (zI (s + 1 : Nat)))) = some m' ∧ m' q 13 = .int (zI n) ∧ m' q 14 = .int (zI (s + 1 : Nat)) ∧ m' q 15 = .int (zI z) ∧ m' q 16 = .int (zI s) ∧ m' q 17 = .int (zI (s + 1 - s : Nat)) ∧ m' q 19 = .int (zI c) ∧ modS m' q ∧ (∀ k, (k < 14 ∨ 20 < k) → m' q k = m q k) ∧ ∀ x, x ≠ q → m' x = m x := by
    intro z
    have u14 : (mm_up (mm_up m3 q 14 (.int (zI (s + 1 : Nat)))) q 15 (.int (zI z))) q 14 = .int (zI (s + 1 : Nat)) := by rw [up_ne _ _ (by omega), up_at]
    refine ⟨mm_up (mm_up (mm_up m3 q 14 (.int (zI (s + 1 : Nat)))) q 15 (.int (zI z))) q 17 (.int (zI (s + 1 - s : Nat))), ?_, ?_, ?_, ?_, ?_, up_at _ _ _ _, ?_, ((S3.up (by decide)).up (by decide)).up (by decide), fun k hk => by rw [up_ne _ _ (by omega), up_ne _ _ (by omega), up_ne _ _ (by omega), out3 k hk], fun x hx => by rw [up_row _ _ _ hx, up_row _ _ _ hx, up_row _ _ _ hx, r3 x hx]⟩
    · unfold X12_goes_b328
      rw [wr_pf hme, Option.bind_some]
      exact X12_goes_331 hT (by omega) (by omega) u14 (by rw [up_ne _ _ (by omega), up_ne _ _ (by omega)]; exact v16)
    · rw [up_ne _ _ (by omega), up_ne _ _ (by omega), up_ne _ _ (by omega)]; exact v13
    · rw [up_ne _ _ (by omega)]; exact u14
    · rw [up_ne _ _ (by omega), up_at]
    · rw [up_ne _ _ (by omega), up_ne _ _ (by omega), up_ne _ _ (by omega)]; exact v16
    · rw [up_ne _ _ (by omega), up_ne _ _ (by omega), up_ne _ _ (by omega)]; exact v19
  refine ev_gi hme a2 (ev_pf hme (ev_pf hme (ev_pf hme ?_)))
  rw [show (0 : Int64) = lI (0 : Nat) from rfl]
  simp only [LT]
  rw [hm4]
  refine ev_gi hme w14 (ev_eq bt (ev_pf hme ?_))
  dsimp only
  rw [hm3]
  refine ev_gi hme v14 (ev_gi hme v13 ?_)
  by_cases hns : n ≤ s
  · rw [if_pos hns]
    refine ev_iln rfl rfl (by omega) (ev_pf hme ⟨_, X12_goes_331 hT (E := s) (s := s) (by omega) (by omega) (by rw [up_ne _ _ (by omega)]; exact v14) (by rw [up_ne _ _ (by omega)]; exact v16), ?_⟩)
    refine ⟨⟨?_, ?_, ?_, ?_, up_at _ _ _ _, fun h => absurd h (by simp), fun h => absurd h (by simp), fun h => absurd h (by simp)⟩, (S3.up (by decide)).up (by decide), fun k hk => by rw [up_ne _ _ (by omega), up_ne _ _ (by omega), out3 k hk], fun x hx => by rw [up_row _ _ _ hx, up_row _ _ _ hx, r3 x hx]⟩
    · rw [up_ne _ _ (by omega), up_ne _ _ (by omega)]; exact v13
    · rw [up_ne _ _ (by omega), up_ne _ _ (by omega)]; exact v14
    · rw [up_ne _ _ (by omega), up_at]; rfl
    · rw [up_ne _ _ (by omega), up_ne _ _ (by omega)]; exact v16
  · rw [if_neg hns]
    have hcs : c = T s := by rw [← hc0, if_pos (by omega)]
    refine ev_ilp rfl rfl (by omega) (ev_eq (X12_isLetter_eq hc) (ev_bz (fun hl => ev_eq (X12_isDigit_eq hc) (ev_bz (fun hd => ?_) fun hd => ?_)) fun hl => ?_))
    · rw [hcs] at hl hd
      rw [hl, hd]
      simp only [Bool.false_eq_true, if_false]
      refine ev_gi hme v14 (ev_pf hme ?_)
      rw [show (zI (s : Int) + zI 1 : Int32) = zI ((s + 1 : Nat) : Int) from zI_add _ _]
      obtain ⟨m5, b1, b2, b3, b4, b5, b6, b7, b8, b9, b10⟩ := fin 3
      obtain ⟨m6, c1, c2, c3, c4, c5, c6, c7, c8, c9, c10⟩ := fin 4
      have good : isSg (T s) = true → tkM m5 q n T (if isSg (T s) then (3, s, s + 1) else (4, s, s + 1)) := fun h => by
        rw [if_pos h]
        exact ⟨b2, b3, b4, b5, b6, fun h => absurd h (by simp), fun _ => by rw [← hcs]; exact b7, fun h => absurd h (by simp)⟩
      have ok : isSg (T s) = true → Ev (X12_goes_b323 e q q (mm_up m3 q 14 (.int (zI (s + 1 : Nat))))) (fun m' => tkM m' q n T (if isSg (T s) then (3, s, s + 1) else (4, s, s + 1)) ∧ modS m' q ∧ (∀ k, (k < 14 ∨ 20 < k) → m' q k = m q k) ∧ ∀ c, c ≠ q → m' c = m c) := fun h => ⟨m5, b1, good h, b8, b9, b10⟩
      by_cases h1 : c = 59
      · exact ev_iqp rfl rfl (by omega) (ok (by unfold isSg; simp; omega))
      refine ev_iqn rfl rfl (by omega) ?_
      by_cases h2 : c = 40
      · exact ev_iqp rfl rfl (by omega) (ok (by unfold isSg; simp; omega))
      refine ev_iqn rfl rfl (by omega) ?_
      by_cases h3 : c = 41
      · exact ev_iqp rfl rfl (by omega) (ok (by unfold isSg; simp; omega))
      refine ev_iqn rfl rfl (by omega) ?_
      by_cases h4 : c = 43
      · exact ev_iqp rfl rfl (by omega) (ok (by unfold isSg; simp; omega))
      refine ev_iqn rfl rfl (by omega) ?_
      by_cases h5 : c = 45
      · exact ev_iqp rfl rfl (by omega) (ok (by unfold isSg; simp; omega))
      refine ev_iqn rfl rfl (by omega) ?_
      by_cases h7 : c = 42
      · exact ev_iqp rfl rfl (by omega) (ok (by unfold isSg; simp; omega))
      refine ev_iqn rfl rfl (by omega) ?_
      by_cases h8 : c = 47
      · exact ev_iqp rfl rfl (by omega) (ok (by unfold isSg; simp; omega))
      refine ev_iqn rfl rfl (by omega) ?_
      by_cases h9 : c = 60
      · exact ev_iqp rfl rfl (by omega) (ok (by unfold isSg; simp; omega))
      refine ev_iqn rfl rfl (by omega) ?_
      by_cases h10 : c = 61
      · exact ev_inn rfl rfl (by omega) (ok (by unfold isSg; simp; omega))
      refine ev_inp rfl rfl (by omega) ⟨m6, c1, ?_, c8, c9, c10⟩
      rw [show isSg (T s) = false by unfold isSg; simp; omega]
      exact ⟨c2, c3, c4, c5, c6, fun h => absurd h (by simp), fun h => absurd h (by simp), fun h => absurd h (by simp)⟩
    · rw [hcs] at hl hd
      rw [hl, hd]
      simp only [Bool.false_eq_true, if_false, if_true]
      obtain ⟨m', e1, e2, e3, e4, e5, e6, e7⟩ := X12_num_loop (e := e) (T := T) hT (s := s) (n - s) s e.2.2 m3 (by omega) (by omega) (by omega) t3 S3 v13 v14 v16 (by rw [Nat.sub_self]; exact v18)
      exact ⟨m', e1, ⟨by rw [e6 _ (by omega) (by omega) (by omega) (by omega)]; exact v13, e2, e3, by rw [e6 _ (by omega) (by omega) (by omega) (by omega)]; exact v16, e4, fun _ => e5, fun h => absurd h (by simp), fun h => absurd h (by simp)⟩, S3.keep (fun i x1 x2 => e6 _ (mfld_ne 14 (by decide) i x1 x2) (mfld_ne 15 (by decide) i x1 x2) (mfld_ne 17 (by decide) i x1 x2) (mfld_ne 18 (by decide) i x1 x2)), fun k hk => by rw [e6 _ (by omega) (by omega) (by omega) (by omega)]; exact out3 k hk, fun x hx => by rw [e7 x hx, r3 x hx]⟩
    · rw [hcs] at hl
      rw [hl]
      simp only [if_true]
      obtain ⟨m', e1, e2, e3, e4, e5, e6, e7⟩ := X12_word_loop (e := e) (T := T) hT (s := s) (n - s) s e.2.2 m3 (by omega) (by omega) (by omega) t3 S3 v13 v14 v16 (by rw [Nat.sub_self]; exact v20) (fun k x1 x2 => by omega)
      exact ⟨m', e1, ⟨by rw [e6 _ (by omega) (by omega) (by omega) (by omega)]; exact v13, e2, e3, by rw [e6 _ (by omega) (by omega) (by omega) (by omega)]; exact v16, e4, fun h => absurd h (by simp), fun h => absurd h (by simp), fun _ => e5⟩, S3.keep (fun i x1 x2 => e6 _ (mfld_ne 14 (by decide) i x1 x2) (mfld_ne 15 (by decide) i x1 x2) (mfld_ne 17 (by decide) i x1 x2) (mfld_ne 20 (by decide) i x1 x2)), fun k hk => by rw [e6 _ (by omega) (by omega) (by omega) (by omega)]; exact out3 k hk, fun x hx => by rw [e7 x hx, r3 x hx]⟩
end GOES2
