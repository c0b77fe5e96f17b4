/-! GAMES AS PURE STATES: fans, last places, whose turn, draws done. -/
abbrev PS : Type := (Nat → List Nat) × (Nat → Nat) × Option Nat × Int32
def okS (N P : Nat) (S : PS) : Prop := tabI N P S.1 ∧ (isOv N S.1 = false → ∃ p, S.2.2.1 = some p ∧ p < N ∧ hasC S.1 p = true)
theorem cnt_one {Q : Nat → Bool} : ∀ {n : Nat}, 1 ≤ cnt Q n → ∃ q, q < n ∧ Q q = true
  | 0, h => by simp [cnt] at h
  | n + 1, h => by
    by_cases hq : Q n = true
    · exact ⟨n, by omega, hq⟩
    · rw [cnt, if_neg hq] at h
      obtain ⟨q, a, b⟩ := cnt_one (n := n) (by omega)
      exact ⟨q, by omega, b⟩
theorem cnt_two {Q : Nat → Bool} (p : Nat) : ∀ {n : Nat}, 2 ≤ cnt Q n → ∃ q, q < n ∧ q ≠ p ∧ Q q = true
  | 0, h => by simp [cnt] at h
  | n + 1, h => by
    by_cases hq : Q n = true
    · rw [cnt, if_pos hq] at h
      by_cases hn : n = p
      · obtain ⟨q, a, b⟩ := cnt_one (Q := Q) (n := n) (by omega)
        exact ⟨q, by omega, by omega, b⟩
      · exact ⟨n, by omega, hn, hq⟩
    · rw [cnt, if_neg hq] at h
      obtain ⟨q, a, b, c⟩ := cnt_two p (n := n) (by omega)
      exact ⟨q, by omega, b, c⟩
theorem nxtL_ex {N : Nat} {f : Nat → List Nat} : ∀ (d j p q : Nat), 1 ≤ d → d ≤ j → d < N → p < N → q < N → (q = p + d ∨ q + N = p + d) → hasC f q = true → ∃ s d', 1 ≤ d' ∧ d' ≤ d ∧ nxtL N f j p = some s ∧ s < N ∧ (s = p + d' ∨ s + N = p + d') ∧ hasC f s = true := by
  intro d
  induction d with
  | zero => intro j p q h; omega
  | succ d ih =>
    intro j p q h1 h2 h3 h4 h5 h6 h7
    obtain ⟨j, rfl⟩ : ∃ j', j = j' + 1 := ⟨j - 1, by omega⟩
    obtain ⟨y, hy, hy'⟩ : ∃ y, (if p + 1 < N then p + 1 else 0) = y ∧ ((p + 1 < N ∧ y = p + 1) ∨ (p + 1 = N ∧ y = 0)) := by
      by_cases hp : p + 1 < N
      · exact ⟨p + 1, if_pos hp, Or.inl ⟨hp, rfl⟩⟩
      · exact ⟨0, if_neg hp, Or.inr ⟨by omega, rfl⟩⟩
    unfold nxtL
    rw [hy]
    by_cases hc : hasC f y = true
    · rw [if_pos hc]
      exact ⟨y, 1, by omega, by omega, rfl, by omega, by omega, hc⟩
    · rw [if_neg hc]
      have hd : 1 ≤ d := by
        refine Nat.one_le_iff_ne_zero.mpr fun h0 => hc ?_
        have : q = y := by omega
        rw [← this]; exact h7
      obtain ⟨s, d', a1, a2, a3, a4, a5, a6⟩ := ih j y q hd (by omega) (by omega) (by omega) h5 (by omega) h7
      exact ⟨s, d' + 1, by omega, by omega, a3, a4, by omega, a6⟩
theorem ahdL_ex {N : Nat} {f : Nat → List Nat} : ∀ (d j p q : Nat), 1 ≤ d → d ≤ j → d < N → p < N → q < N → (q + d = p ∨ q + d = p + N) → hasC f q = true → ∃ s d', 1 ≤ d' ∧ d' ≤ d ∧ ahdL N f j p = some s ∧ s < N ∧ (s + d' = p ∨ s + d' = p + N) ∧ hasC f s = true := by
  intro d
  induction d with
  | zero => intro j p q h; omega
  | succ d ih =>
    intro j p q h1 h2 h3 h4 h5 h6 h7
    obtain ⟨j, rfl⟩ : ∃ j', j = j' + 1 := ⟨j - 1, by omega⟩
    obtain ⟨y, hy, hy'⟩ : ∃ y, (if 0 < p then p - 1 else N - 1) = y ∧ ((0 < p ∧ y + 1 = p) ∨ (p = 0 ∧ y + 1 = N)) := by
      by_cases hp : 0 < p
      · exact ⟨p - 1, if_pos hp, Or.inl ⟨hp, by omega⟩⟩
      · exact ⟨N - 1, if_neg hp, Or.inr ⟨by omega, by omega⟩⟩
    unfold ahdL
    rw [hy]
    by_cases hc : hasC f y = true
    · rw [if_pos hc]
      exact ⟨y, 1, by omega, by omega, rfl, by omega, by omega, hc⟩
    · rw [if_neg hc]
      have hd : 1 ≤ d := by
        refine Nat.one_le_iff_ne_zero.mpr fun h0 => hc ?_
        have : q = y := by omega
        rw [← this]; exact h7
      obtain ⟨s, d', a1, a2, a3, a4, a5, a6⟩ := ih j y q hd (by omega) (by omega) (by omega) h5 (by omega) h7
      exact ⟨s, d' + 1, by omega, by omega, a3, a4, by omega, a6⟩
theorem ov_other {N : Nat} {f : Nat → List Nat} (h : isOv N f = false) (p : Nat) : ∃ q, q < N ∧ q ≠ p ∧ hasC f q = true := by
  refine cnt_two p ?_
  have : ¬ cnt (hasC f) N < 2 := by unfold isOv at h; exact of_decide_eq_false h
  omega
theorem nxt_ex {N : Nat} {f : Nat → List Nat} (h : isOv N f = false) {p : Nat} (hp : p < N) : ∃ s, nxt N f p = some s ∧ s < N ∧ s ≠ p ∧ hasC f s = true := by
  obtain ⟨q, q1, q2, q3⟩ := ov_other h p
  obtain ⟨s, d', a1, a2, a3, a4, a5, a6⟩ := nxtL_ex (if p < q then q - p else q + N - p) N p q (by split <;> omega) (by split <;> omega) (by split <;> omega) hp q1 (by split <;> omega) q3
  refine ⟨s, a3, a4, ?_, a6⟩
  have : d' < N := by split at a2 <;> omega
  omega
theorem ahd_ex {N : Nat} {f : Nat → List Nat} (h : isOv N f = false) {p : Nat} (hp : p < N) : ∃ s, ahd N f p = some s ∧ s < N ∧ s ≠ p ∧ hasC f s = true := by
  obtain ⟨q, q1, q2, q3⟩ := ov_other h p
  obtain ⟨s, d', a1, a2, a3, a4, a5, a6⟩ := ahdL_ex (if q < p then p - q else p + N - q) N p q (by split <;> omega) (by split <;> omega) (by split <;> omega) hp q1 (by split <;> omega) q3
  refine ⟨s, a3, a4, ?_, a6⟩
  have : d' < N := by split at a2 <;> omega
  omega
theorem src_ex {N : Nat} {f : Nat → List Nat} (lw : Int32) (h : isOv N f = false) {p : Nat} (hp : p < N) : ∃ s, srcF lw N f p = some s ∧ s < N ∧ s ≠ p ∧ hasC f s = true := by
  unfold srcF
  split
  · exact nxt_ex h hp
  · exact ahd_ex h hp
theorem ins_perm {c : Nat} : ∀ {l : List Nat} {i : Nat}, i ≤ l.length → (l.insertIdx i c).Perm (c :: l)
  | l, 0, _ => by rw [List.insertIdx_zero]
  | [], i + 1, h => by simp at h
  | x :: xs, i + 1, h => by
    rw [List.insertIdx_succ_cons]
    exact ((ins_perm (by simpa using h)).cons x).trans (List.Perm.swap c x xs)
theorem era_perm {c : Nat} {l : List Nat} {k : Nat} (h : l[k]? = some c) : l.Perm (c :: l.eraseIdx k) := by
  have hk := (List.getElem?_eq_some_iff.mp h).1
  have h1 := ins_perm (c := c) (l := l.eraseIdx k) (i := k) (by rw [List.length_eraseIdx_of_lt hk]; omega)
  rw [ins_era h] at h1
  exact h1
theorem era_nodup {c : Nat} {l : List Nat} {k : Nat} (h : l[k]? = some c) (hn : l.Nodup) : (l.eraseIdx k).Nodup ∧ c ∉ l.eraseIdx k := by
  have := (era_perm h).nodup_iff.mp hn
  rw [List.nodup_cons] at this
  exact ⟨this.2, this.1⟩
theorem era_mem {c x : Nat} {l : List Nat} {k : Nat} (h : l[k]? = some c) (hx : x ≠ c) : x ∈ l.eraseIdx k ↔ x ∈ l := by
  rw [(era_perm h).mem_iff, List.mem_cons]
  exact ⟨Or.inr, fun h => h.resolve_left hx⟩
theorem ins_nodup {c : Nat} {l : List Nat} {i : Nat} (h : i ≤ l.length) (hc : c ∉ l) (hn : l.Nodup) : (l.insertIdx i c).Nodup := (ins_perm h).nodup_iff.mpr (List.nodup_cons.mpr ⟨hc, hn⟩)
theorem ins_mem {c x : Nat} {l : List Nat} {i : Nat} (h : i ≤ l.length) : x ∈ l.insertIdx i c ↔ x = c ∨ x ∈ l := by
  rw [(ins_perm h).mem_iff, List.mem_cons]
theorem tabI.len {N P : Nat} {f : Nat → List Nat} (h : tabI N P f) (hP : P ≤ 9) (p : Nat) : (f p).length ≤ 10 := nodup_len 10 _ (h.1 p) fun x hx => by have := h.2.1 p x hx; omega
theorem tabI.lt {N P : Nat} {f : Nat → List Nat} (h : tabI N P f) (hP : P ≤ 9) : ∀ p, ∀ x ∈ f p, x < 1000 := fun p x hx => by have := h.2.1 p x hx; omega
theorem tabI.room {N P : Nat} {f : Nat → List Nat} (h : tabI N P f) (hP : P ≤ 9) {p c : Nat} (hc : c ≤ P) (hi : idx c (f p) = none) : (f p).length < 10 := by
  have := nodup_len 10 (c :: f p) (List.nodup_cons.mpr ⟨idx_mem.mp hi, h.1 p⟩) fun x hx => by
    rcases List.mem_cons.mp hx with hx | hx
    · omega
    · have := h.2.1 p x hx; omega
  rw [List.length_cons] at this
  omega
theorem tabI.queen {N P : Nat} {f : Nat → List Nat} (h : tabI N P f) {p s k c : Nat} (hps : s ≠ p) (hc : (f s)[k]? = some c) : c = 0 → idx c (f p) = none := by
  rintro rfl
  obtain ⟨w, w1, w2⟩ := h.2.2.2
  have h1 := (w2 s).mp (List.mem_of_getElem? hc)
  exact idx_mem.mpr fun h2 => hps (h1.trans ((w2 p).mp h2).symm)
theorem tabI_st {N P : Nat} {f : Nat → List Nat} (h : tabI N P f) {rl : Nat → List Int} {sit last : Nat → Nat} {lw done : Int32} {p s k c : Nat} (hp : p < N) (hs : s < N) (hps : s ≠ p) (hc : (f s)[k]? = some c) : tabI N P (stF rl sit lw f last done p s k c) := by
  have hq := h.queen hps hc
  have hcP := h.2.1 s c (List.mem_of_getElem? hc)
  obtain ⟨h1, h2, h3, w, w1, w2⟩ := h
  obtain ⟨es, cs⟩ := era_nodup hc (h1 s)
  have gen : ∀ l : List Nat, l.Nodup → (∀ x ∈ l, x ≤ P) → (0 ∈ l ↔ (0 ∈ f p ∨ c = 0)) → tabI N P (setF (setF f s ((f s).eraseIdx k)) p l) := by
    intro l l1 l2 l3
    refine ⟨fun q => ?_, fun q x hx => ?_, fun q hq => ?_, ?_⟩
    · by_cases hqp : q = p
      · rw [hqp, setF_at]; exact l1
      · rw [setF_ne _ _ hqp]
        by_cases hqs : q = s
        · rw [hqs, setF_at]; exact es
        · rw [setF_ne _ _ hqs]; exact h1 q
    · by_cases hqp : q = p
      · rw [hqp, setF_at] at hx; exact l2 x hx
      · rw [setF_ne _ _ hqp] at hx
        by_cases hqs : q = s
        · rw [hqs, setF_at] at hx; exact h2 s x (List.mem_of_mem_eraseIdx hx)
        · rw [setF_ne _ _ hqs] at hx; exact h2 q x hx
    · rw [setF_ne _ _ (by omega), setF_ne _ _ (by omega)]; exact h3 q hq
    · by_cases hc0 : c = 0
      · refine ⟨p, hp, fun q => ?_⟩
        have hws : s = w := (w2 s).mp (hc0 ▸ List.mem_of_getElem? hc)
        by_cases hqp : q = p
        · rw [hqp, setF_at, l3]; exact ⟨fun _ => rfl, fun _ => Or.inr hc0⟩
        · rw [setF_ne _ _ hqp]
          refine ⟨fun hx => ?_, fun hx => absurd hx hqp⟩
          by_cases hqs : q = s
          · rw [hqs, setF_at] at hx; exact absurd (hc0 ▸ hx) (hc0 ▸ cs)
          · rw [setF_ne _ _ hqs] at hx; exact absurd ((w2 q).mp hx) (by omega)
      · refine ⟨w, w1, fun q => ?_⟩
        by_cases hqp : q = p
        · rw [hqp, setF_at, l3, ← w2]; exact ⟨fun hx => hx.resolve_right hc0, Or.inl⟩
        · rw [setF_ne _ _ hqp]
          by_cases hqs : q = s
          · rw [hqs, setF_at, era_mem hc (fun hh => hc0 hh.symm), w2]
          · rw [setF_ne _ _ hqs, w2]
  unfold stF
  cases hi : idx c (f p) with
  | some j =>
    have hj := idx_lt hi
    have hc0 : c ≠ 0 := fun hh => by rw [hq hh] at hi; cases hi
    refine gen _ (era_nodup hj (h1 p)).1 (fun x hx => h2 p x (List.mem_of_mem_eraseIdx hx)) ?_
    rw [era_mem hj (fun hh => hc0 hh.symm)]
    exact ⟨Or.inl, fun hx => hx.resolve_right hc0⟩
  | none =>
    show tabI N P (if stays lw c = true then f else _)
    by_cases hst : stays lw c = true
    · rw [if_pos hst]; exact ⟨h1, h2, h3, w, w1, w2⟩
    · rw [if_neg hst]
      have hle : hAt rl sit (setF f s ((f s).eraseIdx k)) (setF last p k) done p c ≤ (f p).length := by
        have := hAt_le (rl := rl) (sit := sit) (f := setF f s ((f s).eraseIdx k)) (last := setF last p k) (done := done) (p := p) (c := c)
        rwa [setF_ne _ _ (Ne.symm hps)] at this
      refine gen _ (ins_nodup hle (idx_mem.mp hi) (h1 p)) (fun x hx => ?_) ?_
      · rcases (ins_mem hle).mp hx with hx | hx
        · omega
        · exact h2 p x hx
      · rw [ins_mem hle]
        exact ⟨fun hx => hx.elim (fun h => Or.inr h.symm) Or.inl, fun hx => hx.elim Or.inr (fun h => Or.inl h.symm)⟩
def nx (rl : Nat → List Int) (sit : Nat → Nat) (lw : Int32) (N : Nat) (S : PS) (p s k c : Nat) : PS := (stF rl sit lw S.1 S.2.1 S.2.2.2 p s k c, setF S.2.1 p k, nxt N (stF rl sit lw S.1 S.2.1 S.2.2.2 p s k c) p, S.2.2.2 + zI 1)
theorem okS_nx {N P : Nat} {S : PS} (h : okS N P S) {rl : Nat → List Int} {sit : Nat → Nat} {lw : Int32} {p s k c : Nat} (hp : p < N) (hs : s < N) (hps : s ≠ p) (hc : (S.1 s)[k]? = some c) : okS N P (nx rl sit lw N S p s k c) := by
  refine ⟨tabI_st h.1 hp hs hps hc, fun ho => ?_⟩
  obtain ⟨s', a1, a2, a3, a4⟩ := nxt_ex ho hp
  exact ⟨s', a1, a2, a4⟩
theorem okS_opn {N P : Nat} {f : Nat → List Nat} (hN : 0 < N) (h : tabI N P f) (last : Nat → Nat) (done : Int32) : okS N P (f, last, opn N f, done) := by
  refine ⟨h, fun ho => ?_⟩
  show ∃ p, opn N f = some p ∧ p < N ∧ hasC f p = true
  unfold opn
  by_cases h0 : hasC f 0 = true
  · exact ⟨0, by rw [if_pos h0], hN, h0⟩
  · rw [if_neg h0]
    obtain ⟨s', a1, a2, a3, a4⟩ := nxt_ex ho hN
    exact ⟨s', a1, a2, a4⟩
