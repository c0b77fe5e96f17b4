/-! THE LOG of the model: rows of nine numbers in q + 19, as many as q's field 48 says. -/
def mperm (j : Nat) : Nat := match j with | 0 => 0 | 1 => 1 | 2 => 2 | 3 => 5 | 4 => 6 | 5 => 7 | 6 => 8 | 7 => 3 | _ => 4
def mlogA (m : mm_V) (r : Nat) (H : List QR) : Prop := H.length ≤ 60 ∧ (∀ k, k < 540 → ∃ x, m r k = .int x) ∧ ∀ (i : Nat) (v : QR), H[i]? = some v → ∀ j, j < 9 → m r (9 * i + j) = .int (v (mperm j))
def mlogR (m : mm_V) (q : Nat) (H : List QR) : Prop := m q 48 = .int (zI H.length) ∧ mlogA m (q + 19) H
theorem mlogA.keep {m m' : mm_V} {r : Nat} {H : List QR} (h : mlogA m r H) (h1 : m' r = m r) : mlogA m' r H := by
  unfold mlogA; rw [h1]; exact h
theorem mlogR.keep {m m' : mm_V} {q : Nat} {H : List QR} (h : mlogR m q H) (h1 : m' q 48 = m q 48) (h2 : m' (q + 19) = m (q + 19)) : mlogR m' q H := ⟨by rw [h1]; exact h.1, h.2.keep h2⟩
section MLOG
variable {e : mm_E} {m : mm_V} {q : Nat} {H : List QR}
theorem X12_did_eq (hT : modT e.1 q) (hS : modS m q) (h : mlogA m (q + 19) H) {i j : Nat} {v : QR} (hv : H[i]? = some v) (hj : j < 9) : X12_did e q (zI i) (zI j) m = some (v (mperm j), m) := by
  have hi := (List.getElem?_eq_some_iff.mp hv).1
  have hl := h.1
  unfold X12_did
  simp only [LT, ZA]
  rw [rd_gr hT.me hS.draw_, Option.bind_some, rd_ai hT.draw_ (i := 9 * i + j) (by omega) (by omega) (by omega) (h.2.2 i v hv j hj)]
  rfl
end MLOG
