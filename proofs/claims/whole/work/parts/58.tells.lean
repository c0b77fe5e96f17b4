/-! FANS AS TOLD, by the model. -/
theorem ins_end (l : List Nat) (c : Nat) : l.insertIdx l.length c = l ++ [c] := by
  apply List.ext_getElem?
  intro i
  rcases Nat.lt_trichotomy i l.length with h | h | h
  · rw [List.getElem?_insertIdx_of_lt h, List.getElem?_append_left h]
  · subst h; rw [List.getElem?_insertIdx_self, if_pos (by omega)]; simp
  · rw [List.getElem?_insertIdx_of_gt h, List.getElem?_eq_none (by omega), List.getElem?_eq_none (by simp; omega)]
theorem take_end {l : List Nat} {i c : Nat} (h : l[i]? = some c) : (l.take i).insertIdx i c = l.take (i + 1) := by
  have hi := (List.getElem?_eq_some_iff.mp h).1
  have hl : (l.take i).length = i := by rw [List.length_take]; omega
  have := ins_end (l.take i) c
  rw [hl] at this
  rw [this, List.take_add_one, h]
  rfl
def newF (m : mm_V) (q : Nat) (p : Nat) (l : List Nat) : Prop := m (q + 8) (20 * p) = .int (zI l.length) ∧ ∀ k c : Nat, l[k]? = some c → m (q + 8) (20 * p + k + 1) = .int (zI c)
section TELLS
variable {e : mm_E} {q r N : Nat} {f : Nat → List Nat}
theorem X12_tells_in (hT : modT e.1 q) (ht : e.1 r = some (20, 128)) (hrq : r ≠ q ∧ r ≠ q + 8) (hN : 20 < e.2.2) {p : Nat} (hp : p < 6) {l : List Nat} (hl : l.length ≤ 10) (k7 : Int32 → mm_V → Option mm_V) : ∀ (j i n : Nat) (m : mm_V) (g : Nat → List Nat), i + j = l.length → j < n → modS m q → newF m q p l → rowF m r g → g p = l.take i → ∃ m', X12_tells_L17 e k7 q r (zI p) n (zI i) m = k7 (zI (p + 1 : Nat)) m' ∧ rowF m' r (setF g p l) ∧ rowK m m' r p := by
  intro j
  induction j with
  | zero =>
    intro i n m g hi hn hS hF h hg
    obtain ⟨n, rfl⟩ : ∃ n', n = n' + 1 := ⟨n - 1, by omega⟩
    refine ⟨m, ?_, ?_, ⟨fun _ _ => rfl, fun _ _ _ => rfl⟩⟩
    · unfold X12_tells_L17
      simp only [LT, ZA]
      rw [rd_gr hT.me hS.newFan_, Option.bind_some, rd_ai hT.newFan_ (i := 20 * p) (by omega) (by omega) (by omega) hF.1, Option.bind_some, iep (by omega)]
      rfl
    · have : g p = l := by rw [hg, List.take_of_length_le (by omega)]
      rw [← this, setF_id]; exact h
  | succ j ih =>
    intro i n m g hi hn hS hF h hg
    obtain ⟨n, rfl⟩ : ∃ n', n = n' + 1 := ⟨n - 1, by omega⟩
    have hx : l[i]? = some l[i] := List.getElem?_eq_getElem (by omega)
    have hgl : (g p).length = i := by rw [hg, List.length_take]; omega
    obtain ⟨m1, a1, a2, a3⟩ := X12_inserts_eq (e := e) (c := l[i]) ht h hp (show i ≤ (g p).length by omega) (by omega) hN
    have hF1 : newF m1 q p l := by
      have := a3.1 (q + 8) (by omega)
      unfold newF; rw [this]; exact hF
    obtain ⟨m', e1, e2, e3⟩ := ih (i + 1) n m1 _ (by omega) (by omega) (hS.keep (fun _ _ _ => by rw [a3.1 _ (by omega)])) hF1 a2 (by rw [setF_at, hg]; exact take_end hx)
    refine ⟨m', ?_, ?_, a3.trans e3⟩
    · unfold X12_tells_L17
      simp only [LT, ZA]
      rw [rd_gr hT.me hS.newFan_, Option.bind_some, rd_ai hT.newFan_ (i := 20 * p) (by omega) (by omega) (by omega) hF.1, Option.bind_some, ien (by omega), Option.bind_some, rd_ai hT.newFan_ (i := 20 * p + i + 1) (by omega) (by omega) (by omega) (hF.2 i _ hx), Option.bind_some, a1, Option.bind_some]
      exact e1
    · have : setF (setF g p ((g p).insertIdx i l[i])) p l = setF g p l := by
        funext x; unfold setF; split <;> rfl
      rw [← this]; exact e2
end TELLS
