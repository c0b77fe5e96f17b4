/-! A ROW PLAYED ON by the model: the same notes. -/
def goi (A : AC) (i : Nat) : Nat := if A.2.2.2.1 = some i then A.2.2.2.2 else 0
def plaM (m : mm_V) (q N : Nat) (A : AC) (n : Nat) : Prop := (∀ i, i < N → m (q + 20) i = .int (zI (A.1 i))) ∧ (∀ i, i < N → m (q + 21) i = .int (zI (A.2.1 i))) ∧ (∀ i, i < N → m (q + 22) i = .int (zI (goi A i))) ∧ (∀ i, i < N → m (q + 23) i = .int (ozI (A.2.2.1 i))) ∧ m q 54 = .int (zI n)
theorem up_pt (m : mm_V) (a i : Nat) (v : Value) (k : Nat) : mm_up m a i v a k = if k = i then v else m a k := by
  by_cases h : k = i
  · rw [if_pos h, h, up_at]
  · rw [if_neg h, up_ne _ _ (Or.inr h)]
section PLAYS
variable {e : mm_E} {q r N P : Nat} {f : Nat → List Nat}
theorem X12_plays_165 {m : mm_V} (k1 : mm_V → Option mm_V) (k2 : Int32 → mm_V → Option mm_V) (hT : modT e.1 q) (hS : modS m q) (ht : e.1 r = some (20, 128)) (hrq : r ≠ q ∧ r ≠ q + 20 ∧ r ≠ q + 21 ∧ r ≠ q + 22 ∧ r ≠ q + 23) (h : rowF m r f) {i n L G : Nat} {o : Option Nat} (hi : i < 6) (hL : L < 1000) (hG : G < 1000) (ho : ∀ k, o = some k → k < 1000) (h54 : m q 54 = .int (zI n)) (hl : m (q + 21) i = .int (zI L)) (hoo : m (q + 23) i = .int (ozI o)) : ∃ m', X12_plays_b165 e k1 k2 q r (zI i) (q + 22) (zI i) (zI G) m = k2 (zI (i + 1 : Nat)) m' ∧ (∀ k, m' (q + 22) k = if k = i then .int (zI G) else m (q + 22) k) ∧ (∀ k, m' (q + 21) k = if k = i then .int (zI (max L G : Nat)) else m (q + 21) k) ∧ (∀ k, m' (q + 23) k = if k = i then .int (ozI (if o = none ∧ hasC f i = false then some n else o)) else m (q + 23) k) ∧ ∀ b, b ≠ q + 21 → b ≠ q + 22 → b ≠ q + 23 → m' b = m b := by
  have hlen := (h i hi).2.1
  generalize hm1 : mm_up m (q + 22) i (.int (zI G)) = m1
  have o1 : ∀ b, b ≠ q + 22 → m1 b = m b := fun b x1 => by rw [← hm1, up_row _ _ _ x1]
  have S1 : modS m1 q := hS.keep (fun _ _ _ => by rw [o1 _ (by omega)])
  have l1 : m1 (q + 21) i = .int (zI L) := by rw [o1 _ (by omega)]; exact hl
  have g1 : m1 (q + 22) i = .int (zI G) := by rw [← hm1, up_at]
  generalize hm2 : mm_up m1 (q + 21) i (.int (zI (max L G : Nat))) = m2
  have o2 : ∀ b, b ≠ q + 21 → m2 b = m1 b := fun b x1 => by rw [← hm2, up_row _ _ _ x1]
  have S2 : modS m2 q := S1.keep (fun _ _ _ => by rw [o2 _ (by omega)])
  have hz := ozI_none (o := o) (fun k hk => by have := ho k hk; omega)
  have r2 : rowF m2 r f := h.keep' (by rw [o2 _ (by omega), o1 _ (by omega)])
  have oo2 : m2 (q + 23) i = .int (ozI o) := by rw [o2 _ (by omega), o1 _ (by omega)]; exact hoo
  have sz := X12_size_eq (e := e) ht r2 hi
  generalize hm3 : mm_up m2 (q + 23) i (.int (zI n)) = m3
  have h22 : ∀ m' : mm_V, m' (q + 22) = m2 (q + 22) → ∀ k, m' (q + 22) k = if k = i then .int (zI G) else m (q + 22) k := fun m' hh k => by rw [hh, o2 _ (by omega), ← hm1, up_pt]
  have h21 : ∀ m' : mm_V, m' (q + 21) = m2 (q + 21) → ∀ k, m' (q + 21) k = if k = i then .int (zI (max L G : Nat)) else m (q + 21) k := fun m' hh k => by rw [hh, ← hm2, up_pt, o1 _ (by omega)]
  have h23 : ∀ k, m2 (q + 23) k = m (q + 23) k := fun k => by rw [o2 _ (by omega), o1 _ (by omega)]
  have mid : ∀ (m' : mm_V), X12_plays_b201 e k1 k2 q r (zI i) (q + 21) (zI i) (zI (max L G : Nat)) m1 = k2 (zI (i + 1 : Nat)) m' → X12_plays_b165 e k1 k2 q r (zI i) (q + 22) (zI i) (zI G) m = k2 (zI (i + 1 : Nat)) m' := by
    intro m' hm'
    unfold X12_plays_b165
    rw [wr_si hT.going_ (i := i) rfl (by omega) (by omega), Option.bind_some, hm1, rd_gr hT.me S1.stretch_, Option.bind_some, rd_gr hT.me S1.going_, Option.bind_some, rd_ai hT.going_ (i := i) rfl (by omega) (by omega) g1, Option.bind_some, Option.bind_some, rd_ai hT.stretch_ (i := i) rfl (by omega) (by omega) l1, Option.bind_some]
    by_cases hc : G ≤ L
    · rw [Nat.max_eq_left hc] at hm'
      rw [iep (by omega), Option.bind_some, rd_ai hT.stretch_ (i := i) rfl (by omega) (by omega) l1, Option.bind_some]
      exact hm'
    · rw [Nat.max_eq_right (by omega)] at hm'
      rw [ien (by omega), Option.bind_some, rd_ai hT.going_ (i := i) rfl (by omega) (by omega) g1, Option.bind_some]
      exact hm'
  by_cases hon : o = none
  · cases hc : hasC f i with
    | true =>
      have := hasC_pos.mp hc
      refine ⟨m2, mid m2 ?_, h22 m2 rfl, h21 m2 rfl, fun k => ?_, fun b x1 x2 x3 => by rw [o2 b x1, o1 b x2]⟩
      · unfold X12_plays_b201 X12_plays_b230
        simp only [LT, zI_neg]
        rw [wr_si hT.stretch_ (i := i) rfl (by omega) (by omega), Option.bind_some, hm2, rd_gr hT.me S2.outAt_, Option.bind_some, rd_ai hT.outAt_ (i := i) rfl (by omega) (by omega) oo2, Option.bind_some]
        simp only [hz]
        rw [if_neg (not_not_intro hon), sz, Option.bind_some, inp (by omega), zI_add]
        rfl
      · by_cases hk : k = i
        · rw [if_pos hk, if_neg (by simp), h23, hk]; exact hoo
        · rw [if_neg hk, h23]
    | false =>
      have : ¬ 0 < (f i).length := fun hh => by rw [hasC_pos.mpr hh] at hc; cases hc
      refine ⟨m3, mid m3 ?_, h22 m3 (by rw [← hm3, up_row _ _ _ (by omega)]), h21 m3 (by rw [← hm3, up_row _ _ _ (by omega)]), fun k => ?_, fun b x1 x2 x3 => by rw [← hm3, up_row _ _ _ x3, o2 b x1, o1 b x2]⟩
      · unfold X12_plays_b201 X12_plays_b230
        simp only [LT, zI_neg]
        rw [wr_si hT.stretch_ (i := i) rfl (by omega) (by omega), Option.bind_some, hm2, rd_gr hT.me S2.outAt_, Option.bind_some, rd_ai hT.outAt_ (i := i) rfl (by omega) (by omega) oo2, Option.bind_some]
        simp only [hz]
        rw [if_neg (not_not_intro hon), sz, Option.bind_some, inn (by omega), rd_gr hT.me S2.outAt_, Option.bind_some, rd_gi (m := m2) hT.me (v := zI n) (by rw [o2 _ (by omega), o1 _ (by omega)]; exact h54), Option.bind_some, wr_si hT.outAt_ (i := i) rfl (by omega) (by omega), Option.bind_some, hm3, zI_add]
        rfl
      · rw [← hm3, up_pt, h23]
        by_cases hk : k = i
        · rw [if_pos hk, if_pos hk, if_pos ⟨hon, rfl⟩]; rfl
        · rw [if_neg hk, if_neg hk]
  · refine ⟨m2, mid m2 ?_, h22 m2 rfl, h21 m2 rfl, fun k => ?_, fun b x1 x2 x3 => by rw [o2 b x1, o1 b x2]⟩
    · unfold X12_plays_b201 X12_plays_b230
      simp only [LT, zI_neg]
      rw [wr_si hT.stretch_ (i := i) rfl (by omega) (by omega), Option.bind_some, hm2, rd_gr hT.me S2.outAt_, Option.bind_some, rd_ai hT.outAt_ (i := i) rfl (by omega) (by omega) oo2, Option.bind_some]
      simp only [hz]
      rw [if_pos hon, zI_add]
      rfl
    · by_cases hk : k = i
      · rw [if_pos hk, if_neg (fun hh => hon hh.1), h23, hk]; exact hoo
      · rw [if_neg hk, h23]
theorem X12_plays_in (k1 : mm_V → Option mm_V) (hT : modT e.1 q) (ht : e.1 r = some (20, 128)) (hrq : r ≠ q ∧ r ≠ q + 20 ∧ r ≠ q + 21 ∧ r ≠ q + 22 ∧ r ≠ q + 23) (h6 : N ≤ 6) (hcs : ∀ p, ∀ x ∈ f p, x < 1000) {w n : Nat} {A : AC} (hw : ∀ p, hasQ f p = true ↔ p = w) (hb : acB A n) (hn : n < 900) (hN : 1000 < e.2.2) : ∀ (j i nn : Nat) (m : mm_V), i + j = N → j < nn → modS m q → m q 1 = .int (zI N) → m q 54 = .int (zI (n + 1 : Nat)) → rowF m r f → (∀ k, k < N → m (q + 20) k = .int (zI (if k < i then (note w (n + 1) f A).1 k else A.1 k : Nat))) → (∀ k, k < N → m (q + 21) k = .int (zI (if k < i then (note w (n + 1) f A).2.1 k else A.2.1 k : Nat))) → (∀ k, k < N → m (q + 22) k = .int (zI (if k < i then goi (note w (n + 1) f A) k else goi A k : Nat))) → (∀ k, k < N → m (q + 23) k = .int (ozI (if k < i then (note w (n + 1) f A).2.2.1 k else A.2.2.1 k))) → ∃ m', X12_plays_L102 e k1 q r nn (zI i) m = k1 m' ∧ plaM m' q N (note w (n + 1) f A) (n + 1) ∧ ∀ b, b ≠ q + 20 → b ≠ q + 21 → b ≠ q + 22 → b ≠ q + 23 → m' b = m b := by
  intro j
  induction j with
  | zero =>
    intro i nn m hi hj hS h1 h54 h u0 u1 u2 u3
    obtain ⟨nn, rfl⟩ : ∃ n', nn = n' + 1 := ⟨nn - 1, by omega⟩
    refine ⟨m, ?_, ⟨fun k hk => ?_, fun k hk => ?_, fun k hk => ?_, fun k hk => ?_, h54⟩, fun _ _ _ _ _ => rfl⟩
    · unfold X12_plays_L102
      rw [rd_gi hT.me h1, Option.bind_some, iep (by omega)]
    · have := u0 k hk; rwa [if_pos (by omega)] at this
    · have := u1 k hk; rwa [if_pos (by omega)] at this
    · have := u2 k hk; rwa [if_pos (by omega)] at this
    · have := u3 k hk; rwa [if_pos (by omega)] at this
  | succ j ih =>
    intro i nn m hi hj hS h1 h54 h u0 u1 u2 u3
    obtain ⟨nn, rfl⟩ : ∃ n', nn = n' + 1 := ⟨nn - 1, by omega⟩
    have i6 : i < 6 := by omega
    have v0 := u0 i (by omega)
    have v1 := u1 i (by omega)
    have v2 := u2 i (by omega)
    have v3 := u3 i (by omega)
    rw [if_neg (by omega)] at v0 v1 v2 v3
    have hst := nst_le (w := w) hb
    obtain ⟨b1, b2, b3, b4, b5⟩ := hb
    have b1i := b1 i
    have b2i := b2 i
    have gle : goi A i ≤ n := by unfold goi; split <;> omega
    have pl := X12_placeOf_eq (e := e) (c := 0) ht h i6 (hcs i) (by omega) (by omega)
    have hz := ozI_none (o := idx 0 (f i)) (fun k hk => by have := idx_bound hk; have := (h i i6).2.1; omega)
    -- the new value of hasHer and of going
    obtain ⟨H', G', eH, eG, eL, hfn⟩ : ∃ H' G' : Nat, H' = (note w (n + 1) f A).1 i ∧ G' = goi (note w (n + 1) f A) i ∧ max (A.2.1 i) G' = (note w (n + 1) f A).2.1 i ∧ ∀ (m' : mm_V), X12_plays_b165 e k1 (X12_plays_L102 e k1 q r nn) q r (zI i) (q + 22) (zI i) (zI G') (mm_up m (q + 20) i (.int (zI H'))) = some m' ∨ True → X12_plays_L102 e k1 q r (nn + 1) (zI i) m = X12_plays_b165 e k1 (X12_plays_L102 e k1 q r nn) q r (zI i) (q + 22) (zI i) (zI G') (mm_up m (q + 20) i (.int (zI H'))) := by
      have S1 : ∀ H' : Nat, modS (mm_up m (q + 20) i (.int (zI H'))) q := fun H' => hS.keep (fun _ _ _ => up_ne _ _ (Or.inl (by omega)))
      by_cases hq : hasQ f i = true
      · have hiw := (hw i).mp hq
        have hsome : ¬ idx 0 (f i) = none := by unfold hasQ at hq; intro hh; rw [hh] at hq; cases hq
        refine ⟨A.1 i + 1, goi A i + 1, ?_, ?_, ?_, fun m' _ => ?_⟩
        · show _ = setF A.1 w (A.1 w + 1) i; rw [hiw, setF_at]
        · show _ = if some w = some i then nst w A else 0
          rw [if_pos (by rw [hiw])]
          unfold goi nst; rw [hiw]; split <;> omega
        · show _ = setF A.2.1 w (max (A.2.1 w) (nst w A)) i
          rw [hiw, setF_at]
          unfold goi nst; split <;> rfl
        · rw [X12_plays_L102]
          unfold X12_plays_b125 X12_plays_b142
          simp only [LT, zI_neg]
          rw [rd_gi hT.me h1, Option.bind_some, ien (by omega)]
          rw [show (zI 0 : Int32) = zI ((0 : Nat) : Int) from rfl, pl, Option.bind_some]
          simp only [hz]
          rw [if_neg hsome, rd_gr hT.me hS.hasHer_, Option.bind_some, rd_ai hT.hasHer_ (i := i) rfl (by omega) (by omega) v0, Option.bind_some]
          rw [show (zI ((0 : Nat) : Int) : Int32) = zI 0 from rfl, iqn (by omega), zI_add, show ((A.1 i : Int) + 1) = ((A.1 i + 1 : Nat) : Int) by omega, wr_si hT.hasHer_ (i := i) rfl (by omega) (by omega), Option.bind_some, rd_gr hT.me (S1 _).going_, Option.bind_some, iqn (by omega), Option.bind_some, rd_ai hT.going_ (i := i) rfl (by omega) (by omega) (by rw [up_ne _ _ (Or.inl (by omega))]; exact v2), Option.bind_some, zI_add]
          rfl
      · have hiw : i ≠ w := fun hh => hq ((hw i).mpr hh)
        have hsome : idx 0 (f i) = none := by unfold hasQ at hq; cases hh : idx 0 (f i) with
          | none => rfl
          | some k => rw [hh] at hq; exact absurd rfl hq
        refine ⟨A.1 i, 0, ?_, ?_, ?_, fun m' _ => ?_⟩
        · show _ = setF A.1 w (A.1 w + 1) i; rw [setF_ne _ _ hiw]
        · show _ = if some w = some i then nst w A else 0
          rw [if_neg (fun hh => hiw (Option.some.inj hh).symm)]
        · show _ = setF A.2.1 w (max (A.2.1 w) (nst w A)) i
          rw [setF_ne _ _ hiw]; omega
        · rw [X12_plays_L102]
          unfold X12_plays_b125 X12_plays_b142
          simp only [LT, zI_neg]
          rw [rd_gi hT.me h1, Option.bind_some, ien (by omega)]
          rw [show (zI 0 : Int32) = zI ((0 : Nat) : Int) from rfl, pl, Option.bind_some]
          simp only [hz]
          rw [if_pos hsome, rd_gr hT.me hS.hasHer_, Option.bind_some, rd_ai hT.hasHer_ (i := i) rfl (by omega) (by omega) v0, Option.bind_some]
          simp only [if_true]
          rw [zI_add, show ((A.1 i : Int) + ((0 : Nat) : Int)) = ((A.1 i : Nat) : Int) by omega, wr_si hT.hasHer_ (i := i) rfl (by omega) (by omega), Option.bind_some, rd_gr hT.me (S1 _).going_, Option.bind_some]
    have hG9 : G' < 1000 := by
      rw [eG]
      show (if some w = some i then nst w A else 0) < 1000
      split <;> omega
    generalize hm1 : mm_up m (q + 20) i (.int (zI H')) = m1 at hfn
    have o1 : ∀ b, b ≠ q + 20 → m1 b = m b := fun b x1 => by rw [← hm1, up_row _ _ _ x1]
    have S1 : modS m1 q := hS.keep (fun _ _ _ => by rw [o1 _ (by omega)])
    obtain ⟨m2, a1, a2, a3, a4, a5⟩ := X12_plays_165 (e := e) (i := i) (n := n + 1) (L := A.2.1 i) (G := G') (o := A.2.2.1 i) k1 (X12_plays_L102 e k1 q r nn) hT S1 ht hrq (h.keep' (o1 _ (by omega))) i6 (by omega) hG9 (fun k hk => by have := b3 i k hk; omega) (by rw [o1 _ (by omega)]; exact h54) (by rw [o1 _ (by omega)]; exact v1) (by rw [o1 _ (by omega)]; exact v3)
    obtain ⟨m', e1, e2, e3⟩ := ih (i + 1) nn m2 (by omega) (by omega) (S1.keep (fun _ _ _ => by rw [a5 _ (by omega) (by omega) (by omega)])) (by rw [a5 _ (by omega) (by omega) (by omega), o1 _ (by omega)]; exact h1) (by rw [a5 _ (by omega) (by omega) (by omega), o1 _ (by omega)]; exact h54) (h.keep' (by rw [a5 _ (by omega) (by omega) (by omega), o1 _ (by omega)]))
      (fun k hk => by
        rw [a5 _ (by omega) (by omega) (by omega), ← hm1, up_pt]
        by_cases hki : k = i
        · rw [if_pos hki, if_pos (by omega), hki, eH]
        · rw [if_neg hki, u0 k hk]
          by_cases hlt : k < i
          · rw [if_pos hlt, if_pos (by omega)]
          · rw [if_neg hlt, if_neg (by omega)])
      (fun k hk => by
        rw [a3, o1 _ (by omega)]
        by_cases hki : k = i
        · rw [if_pos hki, if_pos (by omega), hki, eL]
        · rw [if_neg hki, u1 k hk]
          by_cases hlt : k < i
          · rw [if_pos hlt, if_pos (by omega)]
          · rw [if_neg hlt, if_neg (by omega)])
      (fun k hk => by
        rw [a2, o1 _ (by omega)]
        by_cases hki : k = i
        · rw [if_pos hki, if_pos (by omega), hki, eG]
        · rw [if_neg hki, u2 k hk]
          by_cases hlt : k < i
          · rw [if_pos hlt, if_pos (by omega)]
          · rw [if_neg hlt, if_neg (by omega)])
      (fun k hk => by
        rw [a4, o1 _ (by omega)]
        by_cases hki : k = i
        · rw [if_pos hki, hki, if_pos (show i < i + 1 by omega)]; rfl
        · rw [if_neg hki, u3 k hk]
          by_cases hlt : k < i
          · rw [if_pos hlt, if_pos (by omega)]
          · rw [if_neg hlt, if_neg (by omega)])
    refine ⟨m', ?_, e2, fun b x1 x2 x3 x4 => by rw [e3 b x1 x2 x3 x4, a5 b x2 x3 x4, o1 b x1]⟩
    rw [hfn m (Or.inr trivial), a1]
    exact e1
variable {rl : Nat → List Int} {sit : Nat → Nat}
theorem plaM.keep {m m' : mm_V} {A : AC} {n : Nat} (h : plaM m q N A n) (h1 : m' q 54 = m q 54) (h2 : ∀ b, q + 20 ≤ b → b < q + 24 → m' b = m b) : plaM m' q N A n := ⟨fun i hi => by rw [h2 _ (by omega) (by omega)]; exact h.1 i hi, fun i hi => by rw [h2 _ (by omega) (by omega)]; exact h.2.1 i hi, fun i hi => by rw [h2 _ (by omega) (by omega)]; exact h.2.2.1 i hi, fun i hi => by rw [h2 _ (by omega) (by omega)]; exact h.2.2.2.1 i hi, by rw [h1]; exact h.2.2.2.2⟩
theorem X12_plays_loop (ht : e.1 r = some (20, 128)) (hrq : r ≠ q ∧ r ≠ q + 1 ∧ r ≠ q + 3 ∧ r ≠ q + 17 ∧ r ≠ q + 18 ∧ r ≠ q + 20 ∧ r ≠ q + 21 ∧ r ≠ q + 22 ∧ r ≠ q + 23) (hN : 2000 < e.2.2) : ∀ (j n nn : Nat) (m : mm_V) (S : PS) (x : Int32) (A : AC), n + j = 200 → j < nn → mE e m q N P rl → sitM m q sit → gM m r N S → okS N P S → plaM m q N A n → acB A n → ∃ m', X12_plays_L67 e q r nn m = some m' ∧ gM m' r N (wat rl sit (zI 0) (zI 0) N j n (S, x) A).2.1.1 ∧ okS N P (wat rl sit (zI 0) (zI 0) N j n (S, x) A).2.1.1 ∧ plaM m' q N (wat rl sit (zI 0) (zI 0) N j n (S, x) A).1 (wat rl sit (zI 0) (zI 0) N j n (S, x) A).2.2 ∧ (∀ j, j ≠ 45 → j ≠ 46 → j ≠ 47 → j ≠ 54 → m' q j = m q j) ∧ ∀ b, b ≠ q → b ≠ r → b ≠ q + 17 → (b < q + 20 ∨ q + 24 ≤ b) → m' b = m b := by
  intro j
  induction j with
  | zero =>
    intro n nn m S x A hn hj E hsit h ok hp hb
    obtain ⟨nn, rfl⟩ : ∃ n', nn = n' + 1 := ⟨nn - 1, by omega⟩
    refine ⟨m, ?_, h, ok, hp, fun _ _ _ _ _ => rfl, fun _ _ _ _ _ => rfl⟩
    unfold X12_plays_L67 X12_plays_b239
    simp only [LT]
    rw [rd_gi E.1.me hp.2.2.2.2, Option.bind_some, iep (by omega)]
  | succ j ih =>
    intro n nn m S x A hn hj E hsit h ok hp hb
    obtain ⟨nn, rfl⟩ : ∃ n', nn = n' + 1 := ⟨nn - 1, by omega⟩
    obtain ⟨tT, tS, t1, t2, tr, tw, h2, h6, hP⟩ := id E
    have ov := X12_isOver_eq (e := e) ht tT.me h.1 t1 h6 (by omega)
    cases hov : isOv N S.1 with
    | true =>
      have hw : wat rl sit (zI 0) (zI 0) N (j + 1) n (S, x) A = (A, (S, x), n) := by rw [wat]; exact if_pos hov
      rw [hw]
      refine ⟨m, ?_, h, ok, hp, fun _ _ _ _ _ => rfl, fun _ _ _ _ _ => rfl⟩
      unfold X12_plays_L67 X12_plays_b239
      simp only [LT]
      rw [rd_gi tT.me hp.2.2.2.2, Option.bind_some, ien (by omega), ov, hov, Option.bind_some]
      simp only [bZ, if_true]
      rw [inp (by omega)]
    | false =>
      obtain ⟨m1, a1, a2, a3, a4⟩ := X12_byRule_eq (e := e) (x := x) E hsit ht (by omega) h ok hov hN
      have ok' := okS_pst (rl := rl) (sit := sit) (lw := zI 0) (lk := zI 0) (x := x) ok hov
      generalize hY : pst rl sit (zI 0) (zI 0) N (S, x) = Y at a2 ok'
      obtain ⟨w, w1, w2, w3⟩ := ok'.1.qn
      have hw : wat rl sit (zI 0) (zI 0) N (j + 1) n (S, x) A = wat rl sit (zI 0) (zI 0) N j (n + 1) (Y.1, Y.2) (note w (n + 1) Y.1.1 A) := by
        rw [wat]
        refine (if_neg (by rw [hov]; simp)).trans ?_
        rw [hY, w2]; rfl
      rw [hw]
      generalize hm2 : mm_up m1 q 54 (.int (zI (n + 1 : Nat))) = m2
      have o2 : ∀ b, b ≠ q → m2 b = m1 b := fun b x1 => by rw [← hm2, up_row _ _ _ x1]
      have q2 : ∀ j, j ≠ 45 → j ≠ 46 → j ≠ 47 → j ≠ 54 → m2 q j = m q j := fun j x1 x2 x3 x4 => by rw [← hm2, up_ne _ _ (Or.inr x4), a3 j x1 x2 x3]
      have oo : ∀ b, b ≠ q → b ≠ r → b ≠ q + 17 → m2 b = m b := fun b x1 x2 x3 => by rw [o2 b x1, a4 b x1 x2 x3]
      have L2 : ∀ m' : mm_V, (∀ j, j ≠ 45 → j ≠ 46 → j ≠ 47 → j ≠ 54 → m' q j = m q j) → ∀ j, j ∉ [45, 46, 47, 54] → m' q j = m q j := fun m' hh j hj => by
        simp only [List.mem_cons, List.not_mem_nil, or_false, not_or] at hj
        exact hh j hj.1 hj.2.1 hj.2.2.1 hj.2.2.2
      have E2 : mE e m2 q N P rl := E.keep' (L := [45, 46, 47, 54]) (by decide) (L2 m2 q2) (oo _ (by omega) (by omega) (by omega)) (oo _ (by omega) (by omega) (by omega))
      have r2 : gM m2 r N Y.1 := a2.keep (o2 _ (by omega))
      obtain ⟨m3, c1, c2, c3⟩ := X12_plays_in (e := e) (f := Y.1.1) (A := A) (X12_plays_L67 e q r nn) tT ht (by omega) h6 (ok'.1.lt hP) w3 hb (by omega) (by omega) N 0 e.2.2 m2 (by omega) (by omega) E2.2.1 E2.2.2.1 (by rw [← hm2, up_at]) r2.1 (fun k hk => by rw [oo _ (by omega) (by omega) (by omega), if_neg (by omega)]; exact hp.1 k hk) (fun k hk => by rw [oo _ (by omega) (by omega) (by omega), if_neg (by omega)]; exact hp.2.1 k hk) (fun k hk => by rw [oo _ (by omega) (by omega) (by omega), if_neg (by omega)]; exact hp.2.2.1 k hk) (fun k hk => by rw [oo _ (by omega) (by omega) (by omega), if_neg (by omega)]; exact hp.2.2.2.1 k hk)
      have q3 : ∀ j, m3 q j = m2 q j := fun j => by rw [c3 _ (by omega) (by omega) (by omega) (by omega)]
      obtain ⟨m', e1, e2, e3, e4, e5, e6⟩ := ih (n + 1) nn m3 Y.1 Y.2 (note w (n + 1) Y.1.1 A) (by omega) (by omega) (E2.keep (fun j _ => q3 j) (c3 _ (by omega) (by omega) (by omega) (by omega)) (c3 _ (by omega) (by omega) (by omega) (by omega))) (hsit.keep (by rw [c3 _ (by omega) (by omega) (by omega) (by omega)]; exact oo _ (by omega) (by omega) (by omega))) (r2.keep (c3 _ (by omega) (by omega) (by omega) (by omega))) ok' c2 (acB_note hb (by omega))
      refine ⟨m', ?_, e2, e3, e4, fun j x1 x2 x3 x4 => by rw [e5 j x1 x2 x3 x4, q3]; exact q2 j x1 x2 x3 x4, fun b x1 x2 x3 x4 => by rw [e6 b x1 x2 x3 x4, c3 b (by omega) (by omega) (by omega) (by omega)]; exact oo b x1 x2 x3⟩
      unfold X12_plays_L67
      simp only [LT]
      rw [rd_gi tT.me hp.2.2.2.2, Option.bind_some, ien (by omega), ov, hov, Option.bind_some]
      simp only [bZ, Bool.false_eq_true, if_false, not_true_eq_false]
      rw [a1, Option.bind_some, rd_gi tT.me (v := zI n) (by rw [a3 _ (by omega) (by omega) (by omega)]; exact hp.2.2.2.2), Option.bind_some, zI_add, show ((n : Int) + 1) = ((n + 1 : Nat) : Int) by omega, wr_pf tT.me, Option.bind_some, hm2]
      rw [show (zI 0 : Int32) = zI ((0 : Nat) : Int) from rfl, c1]
      exact e1
theorem X12_plays_fill (hT : modT e.1 q) (ht : e.1 r = some (20, 128)) (hrq : r ≠ q ∧ r ≠ q + 20 ∧ r ≠ q + 21 ∧ r ≠ q + 22 ∧ r ≠ q + 23) (h6 : N ≤ 6) : ∀ (j i nn : Nat) (m : mm_V), i + j = 6 → j < nn → modS m q → m q 1 = .int (zI N) → rowF m r f → (∀ k, k < i → m (q + 20) k = .int (zI 0) ∧ m (q + 21) k = .int (zI 0) ∧ m (q + 22) k = .int (zI 0) ∧ (k < N → m (q + 23) k = .int (ozI (if hasC f k then none else some 0)))) → ∃ m', X12_plays_L7 e q r nn (zI i) m = X12_plays_L67 e q r e.2.2 m' ∧ (∀ k, k < 6 → m' (q + 20) k = .int (zI 0) ∧ m' (q + 21) k = .int (zI 0) ∧ m' (q + 22) k = .int (zI 0) ∧ (k < N → m' (q + 23) k = .int (ozI (if hasC f k then none else some 0)))) ∧ ∀ b, (b < q + 20 ∨ q + 24 ≤ b) → m' b = m b := by
  intro j
  induction j with
  | zero =>
    intro i nn m hi hj hS h1 h hk
    obtain ⟨nn, rfl⟩ : ∃ n', nn = n' + 1 := ⟨nn - 1, by omega⟩
    refine ⟨m, ?_, fun k hk' => hk k (by omega), fun _ _ => rfl⟩
    unfold X12_plays_L7
    simp only [LT]
    rw [iep (by omega)]
  | succ j ih =>
    intro i nn m hi hj hS h1 h hk
    obtain ⟨nn, rfl⟩ : ∃ n', nn = n' + 1 := ⟨nn - 1, by omega⟩
    have hlen := (h i (by omega)).2.1
    generalize hm1 : mm_up m (q + 20) i (.int (zI 0)) = m1
    generalize hm2 : mm_up m1 (q + 21) i (.int (zI 0)) = m2
    generalize hm3 : mm_up m2 (q + 22) i (.int (zI 0)) = m3
    have o1 : ∀ b, b ≠ q + 20 → m1 b = m b := fun b x1 => by rw [← hm1, up_row _ _ _ x1]
    have o2 : ∀ b, b ≠ q + 20 → b ≠ q + 21 → m2 b = m b := fun b x1 x2 => by rw [← hm2, up_row _ _ _ x2, o1 b x1]
    have o3 : ∀ b, b ≠ q + 20 → b ≠ q + 21 → b ≠ q + 22 → m3 b = m b := fun b x1 x2 x3 => by rw [← hm3, up_row _ _ _ x3, o2 b x1 x2]
    have S1 : modS m1 q := hS.keep (fun _ _ _ => by rw [o1 _ (by omega)])
    have S2 : modS m2 q := hS.keep (fun _ _ _ => by rw [o2 _ (by omega) (by omega)])
    have S3 : modS m3 q := hS.keep (fun _ _ _ => by rw [o3 _ (by omega) (by omega) (by omega)])
    have r3 : rowF m3 r f := h.keep' (o3 _ (by omega) (by omega) (by omega))
    have sz := X12_size_eq (e := e) ht r3 (show i < 6 by omega)
    have next : ∀ v : Int32, (i < N → v = ozI (if hasC f i then none else some 0)) → ∃ m', X12_plays_b60 e (X12_plays_L7 e q r nn) q r (zI i) (q + 23) (zI i) v m3 = X12_plays_L67 e q r e.2.2 m' ∧ (∀ k, k < 6 → m' (q + 20) k = .int (zI 0) ∧ m' (q + 21) k = .int (zI 0) ∧ m' (q + 22) k = .int (zI 0) ∧ (k < N → m' (q + 23) k = .int (ozI (if hasC f k then none else some 0)))) ∧ ∀ b, (b < q + 20 ∨ q + 24 ≤ b) → m' b = m b := by
      intro v hv
      generalize hm4 : mm_up m3 (q + 23) i (.int v) = m4
      have o4 : ∀ b, b ≠ q + 23 → m4 b = m3 b := fun b x1 => by rw [← hm4, up_row _ _ _ x1]
      obtain ⟨m', e1, e2, e3⟩ := ih (i + 1) nn m4 (by omega) (by omega) (S3.keep (fun _ _ _ => by rw [o4 _ (by omega)])) (by rw [o4 _ (by omega), o3 _ (by omega) (by omega) (by omega)]; exact h1) (r3.keep' (o4 _ (by omega))) (fun k hk' => by
        by_cases hki : k = i
        · subst hki
          refine ⟨?_, ?_, ?_, fun hkN => ?_⟩
          · rw [o4 _ (by omega), ← hm3, up_ne _ _ (Or.inl (by omega)), ← hm2, up_ne _ _ (Or.inl (by omega)), ← hm1, up_at]
          · rw [o4 _ (by omega), ← hm3, up_ne _ _ (Or.inl (by omega)), ← hm2, up_at]
          · rw [o4 _ (by omega), ← hm3, up_at]
          · rw [← hm4, up_at, hv hkN]
        · obtain ⟨u1, u2, u3, u4⟩ := hk k (by omega)
          refine ⟨?_, ?_, ?_, fun hkN => ?_⟩
          · rw [o4 _ (by omega), ← hm3, up_ne _ _ (Or.inl (by omega)), ← hm2, up_ne _ _ (Or.inl (by omega)), ← hm1, up_ne _ _ (Or.inr hki)]; exact u1
          · rw [o4 _ (by omega), ← hm3, up_ne _ _ (Or.inl (by omega)), ← hm2, up_ne _ _ (Or.inr hki), o1 _ (by omega)]; exact u2
          · rw [o4 _ (by omega), ← hm3, up_ne _ _ (Or.inr hki), o2 _ (by omega) (by omega)]; exact u3
          · rw [← hm4, up_ne _ _ (Or.inr hki), o3 _ (by omega) (by omega) (by omega)]; exact u4 hkN)
      refine ⟨m', ?_, e2, fun b x1 => by rw [e3 b x1, o4 b (by omega), o3 b (by omega) (by omega) (by omega)]⟩
      unfold X12_plays_b60
      rw [wr_si hT.outAt_ (i := i) rfl (by omega) (by omega), Option.bind_some, hm4]
      simp only [LT, ZA]
      exact e1
    unfold X12_plays_L7 X12_plays_b59
    simp only [LT, zI_neg]
    rw [ien (by omega), rd_gr hT.me hS.hasHer_, Option.bind_some, wr_si hT.hasHer_ (i := i) rfl (by omega) (by omega), Option.bind_some, hm1, rd_gr hT.me S1.stretch_, Option.bind_some, wr_si hT.stretch_ (i := i) rfl (by omega) (by omega), Option.bind_some, hm2, rd_gr hT.me S2.going_, Option.bind_some, wr_si hT.going_ (i := i) rfl (by omega) (by omega), Option.bind_some, hm3, rd_gr hT.me S3.outAt_, Option.bind_some, rd_gi hT.me (v := zI N) (by rw [o3 _ (by omega) (by omega) (by omega)]; exact h1), Option.bind_some]
    by_cases hiN : i < N
    · rw [ien (by omega), sz, Option.bind_some]
      cases hc : hasC f i with
      | true =>
        have := hasC_pos.mp hc
        rw [inp (by omega)]
        exact next _ (fun _ => by rw [hc]; rfl)
      | false =>
        have : ¬ 0 < (f i).length := fun hh => by rw [hasC_pos.mpr hh] at hc; cases hc
        rw [inn (by omega)]
        exact next _ (fun _ => by rw [hc]; rfl)
    · rw [iep (by omega)]
      exact next _ (fun hh => absurd hh hiN)
theorem X12_plays_eq {m : mm_V} {S : PS} {x : Int32} (ht : e.1 r = some (20, 128)) (hrq : r ≠ q ∧ r ≠ q + 1 ∧ r ≠ q + 3 ∧ r ≠ q + 17 ∧ r ≠ q + 18 ∧ r ≠ q + 20 ∧ r ≠ q + 21 ∧ r ≠ q + 22 ∧ r ≠ q + 23) (E : mE e m q N P rl) (hsit : sitM m q sit) (h : gM m r N S) (ok : okS N P S) (hN : 2000 < e.2.2) : ∃ m', X12_plays e q r m = some m' ∧ gM m' r N (watR rl sit (zI 0) (zI 0) N S x).2.1.1 ∧ okS N P (watR rl sit (zI 0) (zI 0) N S x).2.1.1 ∧ plaM m' q N (watR rl sit (zI 0) (zI 0) N S x).1 (watR rl sit (zI 0) (zI 0) N S x).2.2 ∧ (∀ j, j ≠ 45 → j ≠ 46 → j ≠ 47 → j ≠ 54 → m' q j = m q j) ∧ ∀ b, b ≠ q → b ≠ r → b ≠ q + 17 → (b < q + 20 ∨ q + 24 ≤ b) → m' b = m b := by
  obtain ⟨tT, tS, t1, t2, tr, tw, h2, h6, hP⟩ := id E
  generalize hm1 : mm_up m q 54 (.int (zI 0)) = m1
  have o1 : ∀ b, b ≠ q → m1 b = m b := fun b x1 => by rw [← hm1, up_row _ _ _ x1]
  have q1 : ∀ j, j ≠ 54 → m1 q j = m q j := fun j x1 => by rw [← hm1, up_ne _ _ (Or.inr x1)]
  have E1 : mE e m1 q N P rl := E.keep' (L := [54]) (by decide) (fun j hj => q1 j (by simpa using hj)) (o1 _ (by omega)) (o1 _ (by omega))
  obtain ⟨m2, a1, a2, a3⟩ := X12_plays_fill (e := e) (f := S.1) tT ht (by omega) h6 6 0 e.2.2 m1 (by omega) (by omega) E1.2.1 E1.2.2.1 (h.1.keep' (o1 _ (by omega))) (fun k hk => absurd hk (by omega))
  have rr : m2 r = m r := by
    by_cases hb : r < q + 20 ∨ q + 24 ≤ r
    · rw [a3 r hb, o1 _ (by omega)]
    · omega
  obtain ⟨m', e1, e2, e3, e4, e5, e6⟩ := X12_plays_loop (e := e) (q := q) (rl := rl) (sit := sit) (N := N) (P := P) ht hrq hN 200 0 e.2.2 m2 S x (A0 S.1) (by omega) (by omega) (E1.keep (fun j _ => by rw [a3 _ (by omega)]) (a3 _ (by omega)) (a3 _ (by omega))) (hsit.keep (by rw [a3 _ (by omega), o1 _ (by omega)])) (h.keep rr) ok ⟨fun i hi => (a2 i (by omega)).1, fun i hi => (a2 i (by omega)).2.1, fun i hi => (a2 i (by omega)).2.2.1, fun i hi => (a2 i (by omega)).2.2.2 hi, by rw [a3 _ (by omega), ← hm1, up_at]; rfl⟩ (acB_0 S.1)
  refine ⟨m', ?_, e2, e3, e4, fun j x1 x2 x3 x4 => by rw [e5 j x1 x2 x3 x4, a3 _ (by omega), q1 j x4], fun b x1 x2 x3 x4 => by rw [e6 b x1 x2 x3 x4, a3 b x4, o1 b x1]⟩
  unfold X12_plays
  simp only [LT]
  rw [wr_pf tT.me, Option.bind_some, hm1]
  rw [show (zI 0 : Int32) = zI ((0 : Nat) : Int) from rfl, a1]
  exact e1
end PLAYS
