/-! A DRAW TAKEN BACK. -/
def bkF (g : Nat → List Nat) (as : Bool) (p s k c o : Nat) : Nat → List Nat := setF (setF g p (if as then (g p).insertIdx o c else (g p).eraseIdx o)) s ((g s).insertIdx k c)
section BACK
variable {e : mm_E} {a t d : Nat} {g : Nat → List Nat} {as : Bool} {done lb : Int32} {p s k c o : Nat}
theorem X4_takeBack_b39_eq {m : mm_V} (ht : gameT e.1 a) (hdT : e.1 d = some (2, 9)) (hda : d < a ∨ a + 20 ≤ d) (h : gameS m a t) (hf : gameF m a g) (hp : p < 6) (hs : s < 6) (v0 : m d 0 = .int (zI p)) (v1 : m d 1 = .int (zI s)) (v2 : m d 2 = .int (zI k)) (v5 : m d 5 = .int (zI c)) (v8 : m d 8 = .int lb) (hk : k ≤ (g s).length) (hl : (g s).length < 10) (hd : m a 11 = .int done) (hN : 20 < e.2.2) : ∃ m', X4_takeBack_b39 e a d m = some m' ∧ gameF m' a (setF g s ((g s).insertIdx k c)) ∧ m' a 10 = .int (zI p) ∧ m' a 11 = .int (done - zI 1) ∧ (∀ j, j ≠ 10 → j ≠ 11 → m' a j = m a j) ∧ (m' (a + 5) = mm_up m (a + 5) p (.int lb) (a + 5)) ∧ ∀ b, b ≠ a → b ≠ a + 5 → (b < a + 8 ∨ a + 20 ≤ b) → m' b = m b := by
  obtain ⟨m1, a1, a2, a3⟩ := X3_putIn_eq (e := e) (c := c) (ht.2.2.2.2.2.2.2 s hs) (hf s hs) hk hl hN
  have F1 : gameF m1 a (setF g s ((g s).insertIdx k c)) := hf.set a2 a3
  have S1 : gameS m1 a t := h.keep (fun j _ => by rw [a3 _ (by omega) (by omega)]) (fun b _ _ => a3 _ (by omega) (by omega))
  generalize hm2 : mm_up m1 (a + 5) p (.int lb) = m2
  generalize hm3 : mm_up m2 a 10 (.int (zI p)) = m3
  have hd3 : m3 a 11 = .int done := by rw [← hm3, up_ne _ _ (Or.inr (by omega)), ← hm2, up_ne _ _ (Or.inl (by omega)), a3 _ (by omega) (by omega)]; exact hd
  have D2 : ∀ j, m2 d j = m d j := fun j => by rw [← hm2, up_ne _ _ (Or.inl (by omega)), a3 _ (by omega) (by omega)]
  refine ⟨mm_up m3 a 11 (.int (done - zI 1)), ?_, F1.keep (fun b _ _ => by rw [up_row _ _ _ (by omega), ← hm3, up_row _ _ _ (by omega), ← hm2, up_row _ _ _ (by omega)]), by rw [up_ne _ _ (Or.inr (by omega)), ← hm3, up_at], up_at _ _ _ _, fun j y1 y2 => by rw [up_ne _ _ (Or.inr y2), ← hm3, up_ne _ _ (Or.inr y1), ← hm2, up_ne _ _ (Or.inl (by omega)), a3 _ (by omega) (by omega)], ?_, fun b y1 y2 y3 => by rw [up_row _ _ _ y1, ← hm3, up_row _ _ _ y1, ← hm2, up_row _ _ _ y2, a3 _ (by omega) (by omega)]⟩
  · unfold X4_takeBack_b39
    simp only [LT]
    rw [rd_gi hdT v1, Option.bind_some, X4_fanAt_eq ht h hs, Option.bind_some, rd_gi hdT v2, Option.bind_some, rd_gi hdT v5, Option.bind_some, if_pos (ht.2.2.2.2.2.2.2 s hs).1, a1, Option.bind_some, rd_gi hdT (v := zI p) (by rw [a3 _ (by omega) (by omega)]; exact v0), Option.bind_some, rd_gi hdT (v := lb) (by rw [a3 _ (by omega) (by omega)]; exact v8), Option.bind_some, X4_setLast_eq ht S1 hp, Option.bind_some, hm2, rd_gi hdT (v := zI p) (by rw [D2]; exact v0), Option.bind_some, wr_pf ht.1, Option.bind_some, hm3, rd_gi ht.1 hd3, Option.bind_some, wr_pf ht.1]
    rfl
  · rw [up_row _ _ _ (by omega), ← hm3, up_row _ _ _ (by omega), ← hm2]
    funext j
    unfold mm_up
    rw [a3 _ (by omega) (by omega)]
theorem X4_takeBack_eq {m : mm_V} (ht : gameT e.1 a) (hdT : e.1 d = some (2, 9)) (hda : d < a ∨ a + 20 ≤ d) (h : gameS m a t) (hf : gameF m a g) (hp : p < 6) (hs : s < 6) (hps : s ≠ p) (v0 : m d 0 = .int (zI p)) (v1 : m d 1 = .int (zI s)) (v2 : m d 2 = .int (zI k)) (v5 : m d 5 = .int (zI c)) (v6 : m d 6 = .int (bZ as)) (v7 : m d 7 = .int (zI o)) (v8 : m d 8 = .int lb) (ho : (as = true → o ≤ (g p).length ∧ (g p).length < 10) ∧ (as = false → o < (g p).length)) (hk : k ≤ (g s).length) (hl : (g s).length < 10) (hd : m a 11 = .int done) (hN : 20 < e.2.2) : ∃ m', X4_takeBack e a d m = some m' ∧ gameF m' a (bkF g as p s k c o) ∧ m' a 10 = .int (zI p) ∧ m' a 11 = .int (done - zI 1) ∧ (∀ j, j ≠ 10 → j ≠ 11 → m' a j = m a j) ∧ (m' (a + 5) = mm_up m (a + 5) p (.int lb) (a + 5)) ∧ ∀ b, b ≠ a → b ≠ a + 5 → (b < a + 8 ∨ a + 20 ≤ b) → m' b = m b := by
  have fin : ∀ (m1 : mm_V) (l : List Nat), fanR m1 (a + 8 + 2 * p) l → (∀ b, b ≠ a + 8 + 2 * p → b ≠ a + 8 + 2 * p + 1 → m1 b = m b) → ∃ m', X4_takeBack_b39 e a d m1 = some m' ∧ gameF m' a (setF (setF g p l) s ((g s).insertIdx k c)) ∧ m' a 10 = .int (zI p) ∧ m' a 11 = .int (done - zI 1) ∧ (∀ j, j ≠ 10 → j ≠ 11 → m' a j = m a j) ∧ (m' (a + 5) = mm_up m (a + 5) p (.int lb) (a + 5)) ∧ ∀ b, b ≠ a → b ≠ a + 5 → (b < a + 8 ∨ a + 20 ≤ b) → m' b = m b := by
    intro m1 l h1 h3
    have F1 : gameF m1 a (setF g p l) := hf.set h1 h3
    have hg : setF g p l s = g s := setF_ne _ _ hps
    have D1 : m1 d = m d := h3 _ (by omega) (by omega)
    obtain ⟨m', b1, b2, b3, b4, b5, b6, b7⟩ := X4_takeBack_b39_eq (e := e) (m := m1) (done := done) (lb := lb) (c := c) ht hdT hda (h.keep (fun j _ => by rw [h3 _ (by omega) (by omega)]) (fun b _ _ => h3 _ (by omega) (by omega))) F1 hp hs (by rw [D1]; exact v0) (by rw [D1]; exact v1) (by rw [D1]; exact v2) (by rw [D1]; exact v5) (by rw [D1]; exact v8) (by rw [hg]; exact hk) (by rw [hg]; exact hl) (by rw [h3 _ (by omega) (by omega)]; exact hd) hN
    rw [hg] at b2
    refine ⟨m', b1, b2, b3, b4, fun j y1 y2 => by rw [b5 j y1 y2, h3 _ (by omega) (by omega)], ?_, fun b y1 y2 y3 => by rw [b7 b y1 y2 y3, h3 _ (by omega) (by omega)]⟩
    rw [b6]
    funext j
    unfold mm_up
    rw [h3 _ (by omega) (by omega)]
  unfold bkF X4_takeBack
  simp only [LT]
  rw [rd_gi hdT v0, Option.bind_some, X4_fanAt_eq ht h hp, Option.bind_some, rd_gi hdT v6, Option.bind_some, rd_gi hdT v7, Option.bind_some, Option.bind_some, rd_gi hdT v5, Option.bind_some, if_pos (ht.2.2.2.2.2.2.2 p hp).1, if_pos (ht.2.2.2.2.2.2.2 p hp).1]
  cases as with
  | true =>
    obtain ⟨m1, a1, a2, a3⟩ := X3_putIn_eq (e := e) (c := c) (ht.2.2.2.2.2.2.2 p hp) (hf p hp) (ho.1 rfl).1 (ho.1 rfl).2 hN
    simp only [bZ, if_true]
    rw [iqn (by omega), a1, Option.bind_some]
    exact fin m1 _ a2 a3
  | false =>
    obtain ⟨m1, a1, a2, a3⟩ := X3_takeOut_eq (e := e) (ht.2.2.2.2.2.2.2 p hp) (hf p hp) (ho.2 rfl) hN
    simp only [bZ, Bool.false_eq_true, if_false, if_true]
    rw [a1, Option.bind_some]
    exact fin m1 _ a2 a3
theorem ins_era {l : List Nat} {k c : Nat} (h : l[k]? = some c) : (l.eraseIdx k).insertIdx k c = l := by
  have hk := (List.getElem?_eq_some_iff.mp h).1
  apply List.ext_getElem?
  intro i
  rcases Nat.lt_trichotomy i k with h1 | h1 | h1
  · rw [List.getElem?_insertIdx_of_lt h1, List.getElem?_eraseIdx_of_lt h1]
  · subst h1
    rw [List.getElem?_insertIdx_self, if_pos (by rw [List.length_eraseIdx_of_lt hk]; omega), h]
  · rw [List.getElem?_insertIdx_of_gt h1, List.getElem?_eraseIdx_of_ge (by omega), show i - 1 + 1 = i by omega]
theorem setF_id {α : Type} (f : Nat → α) (p : Nat) : setF f p (f p) = f := by
  funext q; unfold setF; split
  · next h => rw [h]
  · rfl
/-- what is taken back is as it was -/
theorem bk_st {rl : Nat → List Int} {sit last : Nat → Nat} {lw done : Int32} {f : Nat → List Nat} {p s k c o : Nat} (hps : s ≠ p) (hc : (f s)[k]? = some c) (hst : stays lw c = false) (ho : stOwn rl sit lw f last done p s k c = zI o) (hob : o < 1000) (hfb : (f p).length < 1000) : bkF (stF rl sit lw f last done p s k c) (idx c (f p)).isSome p s k c o = f := by
  have hsp : p ≠ s := Ne.symm hps
  unfold bkF stF
  unfold stOwn at ho
  cases hi : idx c (f p) with
  | some j =>
    rw [hi] at ho
    have hj := idx_bound hi
    have hoj : j = o := by
      have h1 : zI (j : Int) = zI (o : Int) := ho
      rw [zI_eq (by omega) (by omega) (by omega) (by omega)] at h1
      omega
    subst hoj
    simp only [Option.isSome_some, if_true]
    funext x
    unfold setF
    by_cases hx : x = s
    · subst hx
      rw [if_pos rfl, if_neg hps, if_pos rfl]
      exact ins_era hc
    · rw [if_neg hx]
      by_cases hx2 : x = p
      · subst hx2
        rw [if_pos rfl, if_pos rfl]
        exact ins_era (idx_lt hi)
      · rw [if_neg hx2, if_neg hx2, if_neg hx]
  | none =>
    rw [hi] at ho
    simp only [hst, Bool.false_eq_true, if_false, Option.isSome_none] at ho ⊢
    have hle := hAt_le (rl := rl) (sit := sit) (f := setF f s ((f s).eraseIdx k)) (last := setF last p k) (done := done) (p := p) (c := c)
    rw [setF_ne _ _ hsp] at hle
    generalize hAt rl sit (setF f s ((f s).eraseIdx k)) (setF last p k) done p c = h0 at *
    have hoj : h0 = o := by
      rw [zI_eq (by omega) (by omega) (by omega) (by omega)] at ho
      omega
    subst hoj
    funext x
    unfold setF
    by_cases hx : x = s
    · subst hx
      rw [if_pos rfl, if_neg hps, if_pos rfl]
      exact ins_era hc
    · rw [if_neg hx]
      by_cases hx2 : x = p
      · subst hx2
        rw [if_pos rfl, if_pos rfl]
        exact List.eraseIdx_insertIdx_self c
      · rw [if_neg hx2, if_neg hx2, if_neg hx]
end BACK
