/-! THE DEAL: pack, shuffle, fans. The class lays a pair aside at once, the model at the end. -/
def pk0 (P : Nat) : Nat → Nat := fun k => if k < 2 * P then k / 2 + 1 else 0
def sgm (k j : Nat) : Nat → Nat := fun i => if i = k then j else if i = j then k else i
def swp (v : Nat → Nat) (k j : Nat) : Nat → Nat := fun i => v (sgm k j i)
def shf : Nat → Int32 → (Nat → Nat) → (Nat → Nat) × Int32
  | 0, x, v => (v, x)
  | k + 1, x, v => shf k (lcg x) (swp v (k + 1) (rnd (lcg x) (k + 2)))
def goodV (n P : Nat) (v : Nat → Nat) : Prop := (∀ k, k < n → v k ≤ P) ∧ (∃ k, k < n ∧ v k = 0 ∧ ∀ j, j < n → v j = 0 → j = k) ∧ ∀ i j k, i < n → j < n → k < n → i ≠ j → j ≠ k → i ≠ k → v i = v j → v j = v k → False
theorem sgm_lt {k j i n : Nat} (hk : k < n) (hj : j < n) (hi : i < n) : sgm k j i < n := by
  unfold sgm
  split
  · exact hj
  · split
    · exact hk
    · exact hi
theorem sgm_sgm (k j i : Nat) : sgm k j (sgm k j i) = i := by
  unfold sgm
  by_cases h1 : i = k
  · rw [if_pos h1]
    by_cases h2 : j = k
    · rw [if_pos h2]; omega
    · rw [if_neg h2, if_pos rfl]; omega
  · rw [if_neg h1]
    by_cases h2 : i = j
    · rw [if_pos h2, if_pos rfl]; omega
    · rw [if_neg h2, if_neg h1, if_neg h2]
theorem goodV_swp {n P k j : Nat} {v : Nat → Nat} (h : goodV n P v) (hk : k < n) (hj : j < n) : goodV n P (swp v k j) := by
  obtain ⟨h1, ⟨z, z1, z2, z3⟩, h3⟩ := h
  have lt := fun i (hi : i < n) => sgm_lt hk hj hi
  have inj : ∀ x y, sgm k j x = sgm k j y → x = y := fun x y hxy => by rw [← sgm_sgm k j x, hxy, sgm_sgm]
  refine ⟨fun i hi => h1 _ (lt i hi), ⟨sgm k j z, lt z z1, ?_, fun i hi h0 => ?_⟩, fun a b c ha hb hc n1 n2 n3 e1 e2 => h3 _ _ _ (lt a ha) (lt b hb) (lt c hc) (fun h => n1 (inj _ _ h)) (fun h => n2 (inj _ _ h)) (fun h => n3 (inj _ _ h)) e1 e2⟩
  · unfold swp; rw [sgm_sgm]; exact z2
  · have := z3 _ (lt i hi) h0
    rw [← this, sgm_sgm]
theorem goodV_shf {n P : Nat} : ∀ (k : Nat) (x : Int32) (v : Nat → Nat), k < n → goodV n P v → goodV n P (shf k x v).1
  | 0, _, _, _, h => h
  | k + 1, x, v, hk, h => goodV_shf k _ _ (by omega) (goodV_swp h hk (by have := rnd_lt (lcg x) (n := k + 2) (by omega); omega))
theorem goodV_pk0 (P : Nat) : goodV (2 * P + 1) P (pk0 P) := by
  have h0 : ∀ k, k < 2 * P → pk0 P k = k / 2 + 1 := fun k hk => if_pos hk
  have h1 : ∀ k, ¬ k < 2 * P → pk0 P k = 0 := fun k hk => if_neg hk
  refine ⟨fun k hk => ?_, ⟨2 * P, by omega, h1 _ (by omega), fun j hj h => ?_⟩, fun i j k hi hj hk n1 n2 n3 e1 e2 => ?_⟩
  · by_cases h : k < 2 * P
    · rw [h0 k h]; omega
    · rw [h1 k h]; omega
  · by_cases h' : j < 2 * P
    · rw [h0 j h'] at h; omega
    · omega
  · by_cases a1 : i < 2 * P
    · rw [h0 i a1] at e1
      by_cases a2 : j < 2 * P
      · rw [h0 j a2] at e1 e2
        by_cases a3 : k < 2 * P
        · rw [h0 k a3] at e2; omega
        · rw [h1 k a3] at e2; omega
      · rw [h1 j a2] at e1; omega
    · rw [h1 i a1] at e1
      by_cases a2 : j < 2 * P
      · rw [h0 j a2] at e1; omega
      · omega
def tog (l : List Nat) (c : Nat) : List Nat := match idx c l with
  | none => l ++ [c]
  | some j => l.eraseIdx j
def sbp (N : Nat) (v : Nat → Nat) : Nat → Nat → List Nat
  | 0, _ => []
  | i + 1, p => if p = i % N then sbp N v i p ++ [v i] else sbp N v i p
def dlt (N : Nat) (v : Nat → Nat) : Nat → Nat → List Nat
  | 0, _ => []
  | i + 1, p => if p = i % N then tog (dlt N v i p) (v i) else dlt N v i p
theorem dlt_succ (N : Nat) (v : Nat → Nat) (i : Nat) : dlt N v (i + 1) = setF (dlt N v i) (i % N) (tog (dlt N v i (i % N)) (v i)) := by
  funext p
  unfold setF
  rw [dlt]
  by_cases h : p = i % N
  · rw [if_pos h, if_pos h, h]
  · rw [if_neg h, if_neg h]
theorem sbp_succ (N : Nat) (v : Nat → Nat) (i : Nat) : sbp N v (i + 1) = setF (sbp N v i) (i % N) (sbp N v i (i % N) ++ [v i]) := by
  funext p
  unfold setF
  rw [sbp]
  by_cases h : p = i % N
  · rw [if_pos h, if_pos h, h]
  · rw [if_neg h, if_neg h]
def once (l : List Nat) : List Nat := l.filter (fun c => l.count c == 1)
theorem idx_mem {c : Nat} {l : List Nat} : idx c l = none ↔ c ∉ l := by
  induction l with
  | nil => simp [idx]
  | cons x xs ih =>
    unfold idx
    by_cases h : x = c
    · simp [h]
    · rw [if_neg h]
      simp only [Option.map_eq_none_iff, ih, List.mem_cons, not_or]
      exact ⟨fun h1 => ⟨fun h2 => h h2.symm, h1⟩, fun h1 => h1.2⟩
theorem idx_erase {c : Nat} : ∀ {l : List Nat} {j : Nat}, idx c l = some j → l.count c = 1 → l.eraseIdx j = l.filter (fun x => !(x == c))
  | [], _, h, _ => by simp [idx] at h
  | x :: xs, j, h, h1 => by
    unfold idx at h
    by_cases hx : x = c
    · rw [if_pos hx] at h
      cases h
      subst hx
      rw [List.count_cons_self] at h1
      have : x ∉ xs := List.count_eq_zero.mp (by omega)
      rw [List.eraseIdx_cons_zero, List.filter_cons_of_neg (by simp)]
      refine (List.filter_eq_self.mpr fun y hy => ?_).symm
      have : y ≠ x := fun hh => this (hh ▸ hy)
      simp [this]
    · rw [if_neg hx] at h
      obtain ⟨k, hk, rfl⟩ := Option.map_eq_some_iff.mp h
      rw [List.count_cons_of_ne (by simpa using hx)] at h1
      rw [List.eraseIdx_cons_succ, List.filter_cons_of_pos (by simpa using hx), idx_erase hk h1]
theorem count_snoc (S : List Nat) (c x : Nat) : (S ++ [c]).count x = S.count x + if c = x then 1 else 0 := by
  rw [List.count_append, List.count_singleton]
  simp
theorem once_snoc {S : List Nat} {c : Nat} (h : S.count c ≤ 1) : tog (once S) c = once (S ++ [c]) := by
  unfold tog
  by_cases hm : c ∈ S
  · have h1 : S.count c = 1 := by have := List.count_pos_iff.mpr hm; omega
    have hc1 : (once S).count c = 1 := by
      unfold once
      rw [List.count_filter (by simp [h1])]; exact h1
    have hmem : c ∈ once S := List.count_pos_iff.mp (by omega)
    cases hi : idx c (once S) with
    | none => exact absurd hmem (idx_mem.mp hi)
    | some j =>
      show (once S).eraseIdx j = _
      rw [idx_erase hi hc1]
      unfold once
      rw [List.filter_filter, List.filter_append]
      have : List.filter (fun d => (S ++ [c]).count d == 1) [c] = [] := by
        rw [List.filter_cons_of_neg]
        · rfl
        · rw [count_snoc, h1]; simp
      rw [this, List.append_nil]
      refine List.filter_congr fun x hx => ?_
      rw [count_snoc]
      by_cases hxc : x = c
      · subst hxc; simp [h1]
      · rw [if_neg (fun h => hxc h.symm)]; simp [hxc]
  · have h0 : S.count c = 0 := List.count_eq_zero.mpr hm
    have : idx c (once S) = none := idx_mem.mpr fun hh => hm (List.mem_filter.mp hh).1
    rw [this]
    show once S ++ [c] = _
    unfold once
    rw [List.filter_append]
    have h2 : List.filter (fun d => (S ++ [c]).count d == 1) [c] = [c] := by
      rw [List.filter_cons_of_pos]
      · rfl
      · rw [count_snoc, h0]; simp
    rw [h2]
    congr 1
    refine List.filter_congr fun x hx => ?_
    rw [count_snoc, if_neg (fun (h : c = x) => hm (h ▸ hx))]
    rfl
theorem sbp_mem {N : Nat} {v : Nat → Nat} {c p : Nat} : ∀ {i : Nat}, c ∈ sbp N v i p ↔ ∃ j, j < i ∧ j % N = p ∧ v j = c
  | 0 => ⟨fun h => by simp [sbp] at h, fun ⟨j, h, _⟩ => absurd h (by omega)⟩
  | i + 1 => by
    rw [sbp]
    constructor
    · intro h
      by_cases hp : p = i % N
      · rw [if_pos hp] at h
        rcases List.mem_append.mp h with h | h
        · obtain ⟨j, a, b, d⟩ := sbp_mem.mp h; exact ⟨j, by omega, b, d⟩
        · exact ⟨i, by omega, hp.symm, (List.mem_singleton.mp h).symm⟩
      · rw [if_neg hp] at h
        obtain ⟨j, a, b, d⟩ := sbp_mem.mp h; exact ⟨j, by omega, b, d⟩
    · rintro ⟨j, a, b, d⟩
      by_cases hji : j = i
      · subst hji
        rw [if_pos b.symm]
        exact List.mem_append.mpr (Or.inr (List.mem_singleton.mpr d.symm))
      · have := sbp_mem.mpr ⟨j, (by omega : j < i), b, d⟩
        split
        · exact List.mem_append.mpr (Or.inl this)
        · exact this
theorem sbp_len {N : Nat} {v : Nat → Nat} {p : Nat} : ∀ {i : Nat}, (sbp N v i p).length ≤ i
  | 0 => by simp [sbp]
  | i + 1 => by
    have := sbp_len (N := N) (v := v) (p := p) (i := i)
    rw [sbp]
    split
    · rw [List.length_append, List.length_singleton]; omega
    · omega
theorem sbp_two {N : Nat} {v : Nat → Nat} {c p : Nat} : ∀ {i : Nat}, 2 ≤ (sbp N v i p).count c → ∃ j k, j < k ∧ k < i ∧ v j = c ∧ v k = c
  | 0, h => by simp [sbp] at h
  | i + 1, h => by
    rw [sbp] at h
    have old : 2 ≤ (sbp N v i p).count c → ∃ j k, j < k ∧ k < i + 1 ∧ v j = c ∧ v k = c := fun h => by
      obtain ⟨j, k, a, b, d⟩ := sbp_two h; exact ⟨j, k, a, by omega, d⟩
    by_cases hp : p = i % N
    · rw [if_pos hp, count_snoc] at h
      by_cases hv : v i = c
      · rw [if_pos hv] at h
        obtain ⟨j, a, _, d⟩ := sbp_mem.mp (List.count_pos_iff.mp (show 0 < (sbp N v i p).count c by omega))
        exact ⟨j, i, a, by omega, d, hv⟩
      · rw [if_neg hv] at h; exact old (by omega)
    · rw [if_neg hp] at h; exact old h
theorem sbp_cnt {N n P : Nat} {v : Nat → Nat} (h : goodV n P v) {i p : Nat} (hi : i < n) : (sbp N v i p).count (v i) ≤ 1 := by
  refine Nat.le_of_not_lt fun hc => ?_
  obtain ⟨j, k, a, b, d1, d2⟩ := sbp_two hc
  exact h.2.2 j k i (by omega) (by omega) hi (by omega) (by omega) (by omega) (by omega) (by omega)
theorem sbp_cnt2 {N n P : Nat} {v : Nat → Nat} (h : goodV n P v) {p c : Nat} : ∀ {i : Nat}, i ≤ n → (sbp N v i p).count c ≤ 2
  | 0, _ => by simp [sbp]
  | i + 1, hi => by
    have h2 := sbp_cnt2 (N := N) h (p := p) (c := c) (i := i) (by omega)
    rw [sbp]
    split
    · rw [count_snoc]
      by_cases hv : v i = c
      · have := sbp_cnt (N := N) h (p := p) (show i < n by omega)
        rw [hv] at this
        rw [if_pos hv]; omega
      · rw [if_neg hv]; omega
    · exact h2
theorem dlt_once {N n P : Nat} {v : Nat → Nat} (h : goodV n P v) {p : Nat} : ∀ {i : Nat}, i ≤ n → dlt N v i p = once (sbp N v i p)
  | 0, _ => rfl
  | i + 1, hi => by
    rw [dlt, sbp, dlt_once h (by omega)]
    by_cases hp : p = i % N
    · rw [if_pos hp, if_pos hp, once_snoc (sbp_cnt h (by omega))]
    · rw [if_neg hp, if_neg hp]
theorem tog_nodup {l : List Nat} {c : Nat} (h : l.Nodup) : (tog l c).Nodup := by
  unfold tog
  cases hi : idx c l with
  | none =>
    show (l ++ [c]).Nodup
    have := idx_mem.mp hi
    rw [List.nodup_append]
    refine ⟨h, by simp, fun a ha b hb hab => this ?_⟩
    rw [List.mem_singleton] at hb
    subst hb; exact hab ▸ ha
  | some j => exact (List.eraseIdx_sublist l j).nodup h
theorem dlt_nodup {N : Nat} {v : Nat → Nat} {p : Nat} : ∀ {i : Nat}, (dlt N v i p).Nodup
  | 0 => List.nodup_nil
  | i + 1 => by
    rw [dlt]
    split
    · exact tog_nodup dlt_nodup
    · exact dlt_nodup
theorem once_mem {l : List Nat} {c : Nat} (h : c ∈ once l) : c ∈ l := (List.mem_filter.mp h).1
theorem nodup_len : ∀ (K : Nat) (l : List Nat), l.Nodup → (∀ x ∈ l, x < K) → l.length ≤ K
  | 0, [], _, _ => by simp
  | 0, x :: _, _, h => absurd (h x (by simp)) (by omega)
  | K + 1, l, h1, h2 => by
    have h3 := nodup_len K (l.filter (fun x => !(x == K))) (h1.filter _) (fun x hx => by
      obtain ⟨a, b⟩ := List.mem_filter.mp hx
      have := h2 x a
      have : x ≠ K := by simpa using b
      omega)
    have h4 : (l.filter (fun x => !(x == K))).length + l.count K = l.length := by
      have := List.length_eq_countP_add_countP (fun x => x == K) (l := l)
      rw [← List.countP_eq_length_filter]
      unfold List.count
      have e : List.countP (fun x => !(x == K)) l = List.countP (fun a => decide ¬(a == K) = true) l := List.countP_congr fun x _ => by simp
      omega
    have h5 : l.count K ≤ 1 := List.nodup_iff_count.mp h1 K
    omega
def rmc (l : List Nat) (c : Nat) : List Nat := if l.count c = 2 then l.filter (fun x => !(x == c)) else l
def rms : Nat → List Nat → List Nat
  | 0, l => l
  | c + 1, l => rmc (rms c l) (c + 1)
theorem rms_filter (S : List Nat) : ∀ k, rms k S = S.filter (fun d => !(decide (1 ≤ d ∧ d ≤ k ∧ S.count d = 2)))
  | 0 => by
    rw [rms]
    refine (List.filter_eq_self.mpr fun x _ => ?_).symm
    have : ¬ (1 ≤ x ∧ x ≤ 0 ∧ S.count x = 2) := by omega
    rw [decide_eq_false this]; rfl
  | k + 1 => by
    rw [rms, rms_filter S k, rmc]
    have hc : (S.filter (fun d => !(decide (1 ≤ d ∧ d ≤ k ∧ S.count d = 2)))).count (k + 1) = S.count (k + 1) := by
      refine List.count_filter ?_
      have : ¬ (1 ≤ k + 1 ∧ k + 1 ≤ k ∧ S.count (k + 1) = 2) := by omega
      rw [decide_eq_false this]; rfl
    rw [hc]
    by_cases h : S.count (k + 1) = 2
    · rw [if_pos h, List.filter_filter]
      refine List.filter_congr fun x hx => ?_
      by_cases hxk : x = k + 1
      · subst hxk; simp [h]
      · have e1 : (1 ≤ x ∧ x ≤ k + 1 ∧ S.count x = 2) ↔ (1 ≤ x ∧ x ≤ k ∧ S.count x = 2) := by omega
        simp only [e1]
        simp [hxk]
    · rw [if_neg h]
      refine List.filter_congr fun x hx => ?_
      have e1 : (1 ≤ x ∧ x ≤ k + 1 ∧ S.count x = 2) ↔ (1 ≤ x ∧ x ≤ k ∧ S.count x = 2) := by
        constructor
        · rintro ⟨a, b, c⟩
          refine ⟨a, ?_, c⟩
          by_cases hxk : x = k + 1
          · subst hxk; exact absurd c h
          · omega
        · rintro ⟨a, b, c⟩; exact ⟨a, by omega, c⟩
      simp only [e1]
theorem rms_once {S : List Nat} {P : Nat} (h1 : ∀ x ∈ S, x ≤ P) (h2 : ∀ c, S.count c ≤ 2) (h3 : S.count 0 ≤ 1) : rms P S = once S := by
  rw [rms_filter]
  refine List.filter_congr fun x hx => ?_
  have a := h1 x hx
  have b := h2 x
  have c := List.count_pos_iff.mpr hx
  by_cases hc : S.count x = 1
  · rw [decide_eq_false (by omega), hc]; rfl
  · have : x ≠ 0 := fun h => by subst h; omega
    rw [decide_eq_true (by omega), beq_false_of_ne hc]; rfl
theorem mem_last {c : Nat} : ∀ {l : List Nat}, c ∈ l → ∃ A B, l = A ++ c :: B ∧ c ∉ B
  | [], h => by simp at h
  | x :: xs, h => by
    by_cases hx : c ∈ xs
    · obtain ⟨A, B, h1, h2⟩ := mem_last hx
      exact ⟨x :: A, B, by rw [h1]; rfl, h2⟩
    · rcases List.mem_cons.mp h with h | h
      · exact ⟨[], xs, by rw [h]; rfl, hx⟩
      · exact absurd h hx
theorem idx_app {c : Nat} : ∀ {A B : List Nat}, c ∈ A → idx c (A ++ B) = idx c A
  | [], _, h => by simp at h
  | x :: xs, B, h => by
    show idx c (x :: (xs ++ B)) = _
    unfold idx
    by_cases hx : x = c
    · rw [if_pos hx, if_pos hx]
    · rw [if_neg hx, if_neg hx, idx_app (by rcases List.mem_cons.mp h with h | h; exact absurd h.symm hx; exact h)]
theorem idx_mid {c : Nat} : ∀ {A B : List Nat}, c ∉ A → idx c (A ++ c :: B) = some A.length
  | [], _, _ => by simp [idx]
  | x :: xs, B, h => by
    show idx c (x :: (xs ++ c :: B)) = _
    unfold idx
    rw [if_neg (fun hx => h (by simp [hx])), idx_mid (fun hx => h (by simp [hx]))]
    rfl
theorem rmc_two {c : Nat} {A B : List Nat} {o : Nat} (hB : c ∉ B) (hA : c ∈ A) (h2 : (A ++ c :: B).count c ≤ 2) (ho : idx c (A ++ c :: B) = some o) : o < A.length ∧ (A ++ c :: B).eraseIdx A.length = A ++ B ∧ (A ++ B)[o]? = some c ∧ (A ++ B).eraseIdx o = rmc (A ++ c :: B) c := by
  rw [idx_app hA] at ho
  have ho' := idx_bound ho
  have hp := List.count_pos_iff.mpr hA
  have h0 := List.count_eq_zero.mpr hB
  rw [List.count_append, List.count_cons_self] at h2
  have hi : idx c (A ++ B) = some o := by rw [idx_app hA]; exact ho
  refine ⟨ho', ?_, idx_lt hi, ?_⟩
  · rw [List.eraseIdx_append_of_length_le (by omega), Nat.sub_self]; rfl
  · rw [idx_erase hi (by rw [List.count_append]; omega), rmc, if_pos (by rw [List.count_append, List.count_cons_self]; omega)]
    rw [List.filter_append, List.filter_append, List.filter_cons_of_neg (by simp)]
def tabI (N P : Nat) (f : Nat → List Nat) : Prop := (∀ p, (f p).Nodup) ∧ (∀ p, ∀ x ∈ f p, x ≤ P) ∧ (∀ p, N ≤ p → f p = []) ∧ ∃ w, w < N ∧ ∀ p, 0 ∈ f p ↔ p = w
theorem dlt_le {N n P : Nat} {v : Nat → Nat} (h : goodV n P v) {i p : Nat} (hi : i ≤ n) : ∀ x ∈ dlt N v i p, x ≤ P := by
  intro x hx
  rw [dlt_once h hi] at hx
  obtain ⟨j, a, b, d⟩ := sbp_mem.mp (once_mem hx)
  rw [← d]; exact h.1 j (by omega)
theorem tabI_dlt {N n P : Nat} {v : Nat → Nat} (hN : 0 < N) (h : goodV n P v) : tabI N P (dlt N v n) := by
  refine ⟨fun p => dlt_nodup, fun p => dlt_le h (Nat.le_refl _), fun p hp => ?_, ?_⟩
  · rw [dlt_once h (Nat.le_refl _), List.eq_nil_iff_forall_not_mem]
    intro x hx
    obtain ⟨j, a, b, d⟩ := sbp_mem.mp (once_mem hx)
    have := Nat.mod_lt j hN
    omega
  · obtain ⟨k, k1, k2, k3⟩ := h.2.1
    refine ⟨k % N, Nat.mod_lt _ hN, fun p => ?_⟩
    rw [dlt_once h (Nat.le_refl _)]
    constructor
    · intro hx
      obtain ⟨j, a, b, d⟩ := sbp_mem.mp (once_mem hx)
      rw [← b, k3 j a d]
    · rintro rfl
      have hm : (0 : Nat) ∈ sbp N v n (k % N) := sbp_mem.mpr ⟨k, k1, rfl, k2⟩
      refine List.mem_filter.mpr ⟨hm, ?_⟩
      have h1 := List.count_pos_iff.mpr hm
      have h2 : (sbp N v n (k % N)).count 0 ≤ 1 := Nat.le_of_not_lt fun hc => by
        obtain ⟨i, j, a, b, d1, d2⟩ := sbp_two hc
        have := k3 i (by omega) d1
        have := k3 j (by omega) d2
        omega
      simp only [beq_iff_eq]
      omega
def dealV (P : Nat) (x : Int32) : Nat → Nat := (shf (2 * P) x (pk0 P)).1
def dealS (P : Nat) (x : Int32) : Int32 := (shf (2 * P) x (pk0 P)).2
def dealF (N P : Nat) (x : Int32) : Nat → List Nat := dlt N (dealV P x) (2 * P + 1)
theorem goodV_deal (P : Nat) (x : Int32) : goodV (2 * P + 1) P (dealV P x) := goodV_shf _ _ _ (by omega) (goodV_pk0 P)
theorem tabI_deal {N P : Nat} (hN : 0 < N) (x : Int32) : tabI N P (dealF N P x) := tabI_dlt hN (goodV_deal P x)
