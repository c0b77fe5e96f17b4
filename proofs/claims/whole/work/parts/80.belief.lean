/-! BELIEF: what others may hold, tried spot by spot and gone through draw by draw (pure). -/
theorem tabI_mv {N P : Nat} {f : Nat → List Nat} (h : tabI N P f) {p s k c : Nat} (hp : p < N) (hs : s < N) (hps : s ≠ p) (hc : (f s)[k]? = some c) {l : List Nat} (l1 : l.Nodup) (l2 : ∀ x ∈ l, x ≤ P) (l3 : 0 ∈ l ↔ (0 ∈ f p ∨ c = 0)) : tabI N P (setF (setF f s ((f s).eraseIdx k)) p l) := by
  obtain ⟨h1, h2, h3, w, w1, w2⟩ := h
  obtain ⟨es, cs⟩ := era_nodup hc (h1 s)
  refine ⟨fun q => ?_, fun q x hx => ?_, fun q hq => ?_, ?_⟩
  · by_cases hqp : q = p
    · rw [hqp, setF_at]; exact l1
    · rw [setF_ne _ _ hqp]
      by_cases hqs : q = s
      · rw [hqs, setF_at]; exact es
      · rw [setF_ne _ _ hqs]; exact h1 q
  · by_cases hqp : q = p
    · rw [hqp, setF_at] at hx; exact l2 x hx
    · rw [setF_ne _ _ hqp] at hx
      by_cases hqs : q = s
      · rw [hqs, setF_at] at hx; exact h2 s x (List.mem_of_mem_eraseIdx hx)
      · rw [setF_ne _ _ hqs] at hx; exact h2 q x hx
  · rw [setF_ne _ _ (by omega), setF_ne _ _ (by omega)]; exact h3 q hq
  · by_cases hc0 : c = 0
    · refine ⟨p, hp, fun q => ?_⟩
      have hws : s = w := (w2 s).mp (hc0 ▸ List.mem_of_getElem? hc)
      by_cases hqp : q = p
      · rw [hqp, setF_at, l3]; exact ⟨fun _ => rfl, fun _ => Or.inr hc0⟩
      · rw [setF_ne _ _ hqp]
        refine ⟨fun hx => ?_, fun hx => absurd hx hqp⟩
        by_cases hqs : q = s
        · rw [hqs, setF_at] at hx; exact absurd (hc0 ▸ hx) (hc0 ▸ cs)
        · rw [setF_ne _ _ hqs] at hx; exact absurd ((w2 q).mp hx) (by omega)
    · refine ⟨w, w1, fun q => ?_⟩
      by_cases hqp : q = p
      · rw [hqp, setF_at, l3, ← w2]; exact ⟨fun hx => hx.resolve_right hc0, Or.inl⟩
      · rw [setF_ne _ _ hqp]
        by_cases hqs : q = s
        · rw [hqs, setF_at, era_mem hc (fun hh => hc0 hh.symm), w2]
        · rw [setF_ne _ _ hqs, w2]
/-- a draw as it is kept: drawer, from, place, card, laid aside, own place -/
abbrev PR : Type := Nat × Nat × Nat × Nat × Bool × Nat
def recD (v : Nat → Int32) (r : PR) : Prop := v 0 = zI r.1 ∧ v 1 = zI r.2.1 ∧ v 2 = zI r.2.2.1 ∧ v 5 = zI r.2.2.2.1 ∧ v 6 = bZ r.2.2.2.2.1 ∧ (r.2.2.2.2.1 = false → v 7 = zI r.2.2.2.2.2)
def wnt (p : Nat) (r : PR) (g : Nat → List Nat) : Option (Nat → List Nat) := match (g r.2.1)[r.2.2.1]? with
  | none => none
  | some x => if (r.2.2.2.2.1 = true ∨ r.1 = p ∨ r.2.1 = p) ∧ x ≠ r.2.2.2.1 then none else match idx x (g r.1) with
    | some j => if r.2.2.2.2.1 = true then some (setF (setF g r.2.1 ((g r.2.1).eraseIdx r.2.2.1)) r.1 ((g r.1).eraseIdx j)) else none
    | none => if r.2.2.2.2.1 = true then none else some (setF (setF g r.2.1 ((g r.2.1).eraseIdx r.2.2.1)) r.1 ((g r.1).insertIdx r.2.2.2.2.2 x))
def rpl (p : Nat) : List PR → (Nat → List Nat) → Option (Nat → List Nat)
  | [], g => some g
  | r :: rs, g => (wnt p r g).bind (rpl p rs)
def szN (r : PR) (z : Nat → Nat) : Nat → Nat := setF (setF z r.2.1 (z r.2.1 - 1)) r.1 (if r.2.2.2.2.1 = true then z r.1 - 1 else z r.1 + 1)
def szR (N : Nat) (r : PR) (z : Nat → Nat) : Prop := r.1 < N ∧ r.2.1 < N ∧ r.2.1 ≠ r.1 ∧ r.2.2.1 < z r.2.1 ∧ r.2.2.2.1 < 1000 ∧ (r.2.2.2.2.1 = false → r.2.2.2.2.2 ≤ z r.1 ∧ z r.1 < 10)
def szH (N : Nat) : List PR → (Nat → Nat) → Prop
  | [], _ => True
  | r :: rs, z => szR N r z ∧ szH N rs (szN r z)
def lenF (g : Nat → List Nat) : Nat → Nat := fun i => (g i).length
theorem len_set (g : Nat → List Nat) (p : Nat) (l : List Nat) : lenF (setF g p l) = setF (lenF g) p l.length := by
  funext i; unfold lenF setF; split <;> rfl
theorem wnt_ok {N P p : Nat} {r : PR} {g g' : Nat → List Nat} (h : tabI N P g) (hz : szR N r (lenF g)) (hw : wnt p r g = some g') : tabI N P g' ∧ lenF g' = szN r (lenF g) := by
  obtain ⟨z1, z2, z3, z4, z5, z6⟩ := hz
  have z4' : r.2.2.1 < (g r.2.1).length := z4
  have hx := List.getElem?_eq_getElem z4'
  unfold wnt at hw
  rw [hx] at hw
  simp only at hw
  generalize (g r.2.1)[r.2.2.1] = x at hx hw
  have hxP := h.2.1 _ x (List.mem_of_getElem? hx)
  have hq := h.queen z3 hx
  have hle : ((g r.2.1).eraseIdx r.2.2.1).length = (g r.2.1).length - 1 := List.length_eraseIdx_of_lt z4'
  split at hw
  · cases hw
  · cases hi : idx x (g r.1) with
    | some j =>
      rw [hi] at hw
      simp only at hw
      split at hw
      · rename_i has
        cases hw
        have hj := idx_lt hi
        have hx0 : x ≠ 0 := fun hh => by rw [hq hh] at hi; cases hi
        refine ⟨tabI_mv h z1 z2 z3 hx (era_nodup hj (h.1 _)).1 (fun y hy => h.2.1 _ y (List.mem_of_mem_eraseIdx hy)) ?_, ?_⟩
        · rw [era_mem hj (fun hh => hx0 hh.symm)]
          exact ⟨Or.inl, fun hh => hh.resolve_right hx0⟩
        · rw [len_set, len_set, hle, List.length_eraseIdx_of_lt (idx_bound hi)]
          unfold szN
          rw [if_pos has]
          rfl
      · cases hw
    | none =>
      rw [hi] at hw
      simp only at hw
      split at hw
      · cases hw
      · rename_i has
        have has' : r.2.2.2.2.1 = false := by simpa using has
        cases hw
        have hio : r.2.2.2.2.2 ≤ (g r.1).length := (z6 has').1
        refine ⟨tabI_mv h z1 z2 z3 hx (ins_nodup hio (idx_mem.mp hi) (h.1 _)) (fun y hy => ?_) ?_, ?_⟩
        · rcases (ins_mem hio).mp hy with hy | hy
          · omega
          · exact h.2.1 _ y hy
        · rw [ins_mem hio]
          exact ⟨fun hh => hh.elim (fun h => Or.inr h.symm) Or.inl, fun hh => hh.elim Or.inr (fun h => Or.inl h.symm)⟩
        · rw [len_set, len_set, hle, List.length_insertIdx_of_le_length hio]
          unfold szN
          rw [if_neg has]
          rfl
/-! counting -/
abbrev BC : Type := Nat × (Nat → Nat) × (Nat → Nat)
def cntB (N : Nat) (wt : Option Nat) (g : Nat → List Nat) (X : BC) : BC := (X.1 + 1, setF X.2.1 ((qn N g).getD 0) (X.2.1 ((qn N g).getD 0) + 1), if wt = some ((qn N g).getD 0) then setF X.2.2 ((idx 0 (g ((qn N g).getD 0))).getD 0) (X.2.2 ((idx 0 (g ((qn N g).getD 0))).getD 0) + 1) else X.2.2)
def leafB (N p : Nat) (wt : Option Nat) (H : List PR) (g : Nat → List Nat) (X : BC) : BC := match rpl p H g with
  | none => X
  | some g' => cntB N wt g' X
def trA {α : Type} (ow : List Nat) (leaf : (Nat → List Nat) → α → α) : Nat → Nat → (Nat → List Nat) → (Nat → Nat) → α × Nat → Option (α × Nat)
  | 0, _, g, _, X => some (leaf g X.1, X.2)
  | d + 1, i, g, lf, X => itF (fun c Y => if lf c = 0 then some Y else if 20000 ≤ Y.2 then none else if (idx c (g (gO ow i))).isSome = true then some (Y.1, Y.2 + 1) else trA ow leaf d (i + 1) (setF g (gO ow i) (g (gO ow i) ++ [c])) (setF lf c (lf c - 1)) (Y.1, Y.2 + 1)) 10 0 X
theorem trA_map {α β : Type} {ow : List Nat} {lf1 : (Nat → List Nat) → α → α} {lf2 : (Nat → List Nat) → β → β} (φ : α → β) (h : ∀ g X, φ (lf1 g X) = lf2 g (φ X)) : ∀ (d i : Nat) (g : Nat → List Nat) (lf : Nat → Nat) (X : α × Nat), (trA ow lf1 d i g lf X).map (fun Y => (φ Y.1, Y.2)) = trA ow lf2 d i g lf (φ X.1, X.2) := by
  intro d
  induction d with
  | zero => intro i g lf X; rw [trA, trA, Option.map_some, h]
  | succ d ih =>
    intro i g lf X
    rw [trA, trA]
    have key : ∀ (j k : Nat) (X : α × Nat), (itF (fun c Y => if lf c = 0 then some Y else if 20000 ≤ Y.2 then none else if (idx c (g (gO ow i))).isSome = true then some (Y.1, Y.2 + 1) else trA ow lf1 d (i + 1) (setF g (gO ow i) (g (gO ow i) ++ [c])) (setF lf c (lf c - 1)) (Y.1, Y.2 + 1)) j k X).map (fun Y => (φ Y.1, Y.2)) = itF (fun c Y => if lf c = 0 then some Y else if 20000 ≤ Y.2 then none else if (idx c (g (gO ow i))).isSome = true then some (Y.1, Y.2 + 1) else trA ow lf2 d (i + 1) (setF g (gO ow i) (g (gO ow i) ++ [c])) (setF lf c (lf c - 1)) (Y.1, Y.2 + 1)) j k (φ X.1, X.2) := by
      intro j
      induction j with
      | zero => intro k X; rfl
      | succ j ihj =>
        intro k X
        rw [itF, itF]
        simp only
        by_cases h1 : lf k = 0
        · rw [if_pos h1, if_pos h1, Option.bind_some, Option.bind_some]; exact ihj (k + 1) X
        · rw [if_neg h1, if_neg h1]
          by_cases h2 : 20000 ≤ X.2
          · rw [if_pos h2, if_pos h2]; rfl
          · rw [if_neg h2, if_neg h2]
            by_cases h3 : (idx k (g (gO ow i))).isSome = true
            · rw [if_pos h3, if_pos h3, Option.bind_some, Option.bind_some]; exact ihj (k + 1) (X.1, X.2 + 1)
            · have e1 := ih (i + 1) (setF g (gO ow i) (g (gO ow i) ++ [k])) (setF lf k (lf k - 1)) (X.1, X.2 + 1)
              simp only at e1
              rw [if_neg h3, if_neg h3, ← e1]
              cases trA ow lf1 d (i + 1) (setF g (gO ow i) (g (gO ow i) ++ [k])) (setF lf k (lf k - 1)) (X.1, X.2 + 1) with
              | none => rfl
              | some B => exact ihj (k + 1) B
    exact key 10 0 X
/-! what holds of every arrangement on the way -/
def sumL (lf : Nat → Nat) : Nat → Nat
  | 0 => 0
  | n + 1 => sumL lf n + lf n
theorem sumL_set (lf : Nat → Nat) (c : Nat) (hc : 0 < lf c) : ∀ n, sumL (setF lf c (lf c - 1)) n + (if c < n then 1 else 0) = sumL lf n
  | 0 => rfl
  | n + 1 => by
    have ih := sumL_set lf c hc n
    rw [sumL, sumL]
    by_cases h : n = c
    · subst h
      rw [setF_at, if_pos (by omega)]
      rw [if_neg (by omega)] at ih
      omega
    · rw [setF_ne _ _ h]
      by_cases h2 : c < n
      · rw [if_pos h2] at ih; rw [if_pos (by omega)]; omega
      · rw [if_neg h2] at ih; rw [if_neg (by omega)]; omega
theorem sumL_le (lf : Nat → Nat) : ∀ n c, c < n → lf c ≤ sumL lf n
  | n + 1, c, h => by
    rw [sumL]
    by_cases hc : c = n
    · rw [hc]; omega
    · have := sumL_le lf n c (by omega); omega
def arI (N P p : Nat) (f0 : Nat → List Nat) (ow : List Nat) (d i : Nat) (g : Nat → List Nat) (lf : Nat → Nat) : Prop := i + d = ow.length ∧ (∀ o, (g o).Nodup) ∧ (∀ o, ∀ x ∈ g o, x ≤ P) ∧ (∀ o, N ≤ o → g o = []) ∧ (∀ c, lf c ≠ 0 → c ≤ P) ∧ sumL lf 10 = d ∧ ((∃ w, w < N ∧ (∀ o, 0 ∈ g o ↔ o = w) ∧ lf 0 = 0) ∨ ((∀ o, 0 ∉ g o) ∧ lf 0 = 1)) ∧ (∀ o, (g o).length + (ow.drop i).count o = (f0 o).length) ∧ (∀ j, j < ow.length → gO ow j < N)
theorem arI.leaf {N P p i : Nat} {f0 g : Nat → List Nat} {ow : List Nat} {lf : Nat → Nat} (h : arI N P p f0 ow 0 i g lf) : tabI N P g ∧ lenF g = lenF f0 := by
  obtain ⟨h1, h2, h3, h4, h5, h6, h7, h8, h9⟩ := h
  refine ⟨⟨h2, h3, h4, ?_⟩, ?_⟩
  · rcases h7 with ⟨w, w1, w2, _⟩ | ⟨_, h0⟩
    · exact ⟨w, w1, w2⟩
    · have := sumL_le lf 10 0 (by omega); omega
  · funext o
    have := h8 o
    rw [List.drop_of_length_le (by omega)] at this
    simpa [lenF] using this
theorem gO_drop {ow : List Nat} {i : Nat} (h : i < ow.length) : ow.drop i = gO ow i :: ow.drop (i + 1) := by
  rw [List.drop_eq_getElem_cons h]
  unfold gO
  rw [List.getD_eq_getElem?_getD, List.getElem?_eq_getElem h]
  rfl
theorem arI.next {N P p d i c : Nat} {f0 g : Nat → List Nat} {ow : List Nat} {lf : Nat → Nat} (h : arI N P p f0 ow (d + 1) i g lf) (hP : P ≤ 9) (hc : lf c ≠ 0) (hn : (idx c (g (gO ow i))).isSome = false) : arI N P p f0 ow d (i + 1) (setF g (gO ow i) (g (gO ow i) ++ [c])) (setF lf c (lf c - 1)) := by
  obtain ⟨h1, h2, h3, h4, h5, h6, h7, h8, h9⟩ := h
  have hi : i < ow.length := by omega
  have hoN := h9 i hi
  have hcP := h5 c hc
  have hni : c ∉ g (gO ow i) := idx_mem.mp (by cases hh : idx c (g (gO ow i)) with | none => rfl | some k => rw [hh] at hn; cases hn)
  have hsum := sumL_set lf c (by omega) 10
  rw [if_pos (by omega)] at hsum
  refine ⟨by omega, fun o => ?_, fun o x hx => ?_, fun o ho => ?_, fun c' hc' => ?_, by omega, ?_, fun o => ?_, h9⟩
  · by_cases hoo : o = gO ow i
    · rw [hoo, setF_at, List.nodup_append]
      refine ⟨h2 _, by simp, fun a ha b hb hab => hni ?_⟩
      rw [List.mem_singleton] at hb
      subst hb; exact hab ▸ ha
    · rw [setF_ne _ _ hoo]; exact h2 o
  · by_cases hoo : o = gO ow i
    · rw [hoo, setF_at] at hx
      rcases List.mem_append.mp hx with hx | hx
      · exact h3 _ x hx
      · rw [List.mem_singleton] at hx; omega
    · rw [setF_ne _ _ hoo] at hx; exact h3 o x hx
  · rw [setF_ne _ _ (by omega)]; exact h4 o ho
  · by_cases hcc : c' = c
    · rw [hcc]; exact hcP
    · rw [setF_ne _ _ hcc] at hc'; exact h5 c' hc'
  · by_cases hc0 : c = 0
    · subst hc0
      rcases h7 with ⟨w, w1, w2, w3⟩ | ⟨v1, v2⟩
      · exact absurd w3 hc
      · refine Or.inl ⟨gO ow i, hoN, fun o => ?_, by rw [setF_at]; omega⟩
        by_cases hoo : o = gO ow i
        · rw [hoo, setF_at]; exact ⟨fun _ => rfl, fun _ => by simp⟩
        · rw [setF_ne _ _ hoo]; exact ⟨fun hh => absurd hh (v1 o), fun hh => absurd hh hoo⟩
    · have hmem : ∀ o, 0 ∈ setF g (gO ow i) (g (gO ow i) ++ [c]) o ↔ 0 ∈ g o := fun o => by
        by_cases hoo : o = gO ow i
        · rw [hoo, setF_at, List.mem_append, List.mem_singleton]
          exact ⟨fun hh => hh.resolve_right (fun h => hc0 h.symm), Or.inl⟩
        · rw [setF_ne _ _ hoo]
      rcases h7 with ⟨w, w1, w2, w3⟩ | ⟨v1, v2⟩
      · exact Or.inl ⟨w, w1, fun o => by rw [hmem, w2], by rw [setF_ne _ _ (fun h => hc0 h.symm)]; exact w3⟩
      · exact Or.inr ⟨fun o => by rw [hmem]; exact v1 o, by rw [setF_ne _ _ (fun h => hc0 h.symm)]; exact v2⟩
  · have h8o := h8 o
    rw [gO_drop hi, List.count_cons] at h8o
    by_cases hoo : o = gO ow i
    · rw [hoo, setF_at, List.length_append, List.length_singleton]
      rw [hoo] at h8o
      simp at h8o
      omega
    · rw [setF_ne _ _ hoo]
      have : (gO ow i == o) = false := by simp; exact fun hh => hoo hh.symm
      rw [this] at h8o
      simp at h8o
      exact h8o
