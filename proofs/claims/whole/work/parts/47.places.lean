/-! PLACES by rules: class and model. Rules rl k: k below 6 draws of a person, 6 on holds; [] none. -/
def ans (rl : Nat → List Int) (k : Nat) (sv : Nat → Int32) : Int32 := (evS sv (rl k) []).headD (zI 0)
def svv (f : Nat → List Nat) (last : Nat → Nat) (done : Int32) (p n c : Nat) : Nat → Int32 := fun k => if k = 0 then zI n else if k = 1 then zI (f p).length else if k = 2 then done else if k = 3 then zI p else if k = 4 then zI (last p) else zI c
def rulesC (m : mm_V) (t : Nat) (rl : Nat → List Int) : Prop := ∀ k, k < 12 → ∃ a b : Nat, m (t + 4) k = .int (zI a) ∧ m (t + 5) k = .int (zI b) ∧ a + (rl k).length = b ∧ b ≤ 600 ∧ ∀ (i : Nat) (c : Int), (rl k)[i]? = some c → m (t + 3) (a + i) = .int (zI c)
def rulesW (rl : Nat → List Int) : Prop := ∀ k, k < 12 → rl k ≠ [] → wfc (rl k) 0
def rulesM (m : mm_V) (ra cd : Nat) (rl : Nat → List Int) : Prop := ∀ k, k < 12 → ∃ a : Nat, m ra (if k < 6 then 2 * k else 2 * (k - 6) + 1) = .int (zI a) ∧ a < 1600 ∧ (rl k = [] → a = 0) ∧ (rl k ≠ [] → 0 < a ∧ a + (enc (rl k)).length ≤ 1600 ∧ ∀ (i : Nat) (c : Int), (enc (rl k))[i]? = some c → m cd (a + i) = .int (zI c))
def toldT (g : mm_T) (t : Nat) : Prop := g t = some (10, 11) ∧ g (t + 1) = some (23, 6) ∧ g (t + 2) = some (20, 36) ∧ g (t + 3) = some (20, 600) ∧ g (t + 4) = some (20, 12) ∧ g (t + 5) = some (20, 12) ∧ g (t + 6) = some (20, 128) ∧ ∀ i, i < 6 → fanT g (t + 7 + 2 * i)
def toldS (m : mm_V) (t : Nat) : Prop := m t 0 = .ref (t + 1) ∧ m t 1 = .ref (t + 2) ∧ m t 2 = .ref (t + 3) ∧ m t 3 = .ref (t + 4) ∧ m t 4 = .ref (t + 5) ∧ m t 5 = .ref (t + 6) ∧ ∀ i, i < 6 → m (t + 1) i = .ref (t + 7 + 2 * i)
theorem toldS.keep {m m' : mm_V} {t : Nat} (h : toldS m t) (h1 : ∀ j, j < 6 → m' t j = m t j) (h2 : m' (t + 1) = m (t + 1)) : toldS m' t := by
  obtain ⟨a0, a1, a2, a3, a4, a5, a6⟩ := h
  exact ⟨by rw [h1 _ (by omega)]; exact a0, by rw [h1 _ (by omega)]; exact a1, by rw [h1 _ (by omega)]; exact a2, by rw [h1 _ (by omega)]; exact a3, by rw [h1 _ (by omega)]; exact a4, by rw [h1 _ (by omega)]; exact a5, fun i hi => by rw [h2]; exact a6 i hi⟩
theorem rulesC.keep {m m' : mm_V} {t : Nat} {rl : Nat → List Int} (h : rulesC m t rl) (h1 : m' (t + 3) = m (t + 3)) (h2 : m' (t + 4) = m (t + 4)) (h3 : m' (t + 5) = m (t + 5)) : rulesC m' t rl := by
  unfold rulesC; rw [h1, h2, h3]; exact h
theorem rulesM.keep {m m' : mm_V} {ra cd : Nat} {rl : Nat → List Int} (h : rulesM m ra cd rl) (h1 : m' ra = m ra) (h2 : m' cd = m cd) : rulesM m' ra cd rl := by
  unfold rulesM; rw [h1, h2]; exact h
section PLACEC
variable {e : mm_E} {m : mm_V} {a t N : Nat} {f : Nat → List Nat} {rl : Nat → List Int}
theorem X10_hasRule_eq (ht : toldT e.1 t) (h : toldS m t) (hr : rulesC m t rl) {k : Nat} (hk : k < 12) : X10_hasRule e t (zI k) m = some (bZ (!(rl k).isEmpty), m) := by
  obtain ⟨u, v, h1, h2, h3, h4, h5⟩ := hr k hk
  unfold X10_hasRule
  simp only [LT, rd_gr ht.1 h.2.2.2.1, rd_gr ht.1 h.2.2.2.2.1, Option.bind_some, X10_hasRule_b30, X10_hasRule_b29]
  rw [iln (by omega), ien (by omega), rd_ai ht.2.2.2.2.1 (i := k) rfl (by omega) (by omega) h1, Option.bind_some, rd_ai ht.2.2.2.2.2.1 (i := k) rfl (by omega) (by omega) h2, Option.bind_some]
  cases hl : rl k with
  | nil => rw [hl] at h3; simp at h3; rw [iep (by omega)]; rfl
  | cons c cs => rw [hl] at h3; simp at h3; rw [ien (by omega)]; rfl
theorem X10_answer_eq (ht : toldT e.1 t) (h : toldS m t) (hr : rulesC m t rl) (hw : rulesW rl) {k : Nat} (hk : k < 12) (hne : rl k ≠ []) {sn : Nat} (hsn : e.1 sn = some (20, 6)) (hs6 : sn ≠ t + 6) {sv : Nat → Int32} (hv : ∀ j, j < 6 → m sn j = .int (sv j)) (hN : 1000 < e.2.2) : ∃ m', X10_answer e t (zI k) sn m = some (ans rl k sv, m') ∧ ∀ b, b ≠ t + 6 → m' b = m b := by
  obtain ⟨u, v, h1, h2, h3, h4, h5⟩ := hr k hk
  obtain ⟨w, m', e1, e2, e3⟩ := X10_answer_loop (e := e) (sv := sv) ht.1 ht.2.2.2.1 ht.2.2.2.2.2.2.1 hsn hs6 h4 (rl k) u e.2.2 [] m h3 (by omega) h.2.2.1 h.2.2.2.2.2.1 h5 hv trivial (hw k hk hne) (by simp)
  refine ⟨m', ?_, e3⟩
  unfold X10_answer X10_answer_b20 X10_answer_b41
  simp only [LT, rd_gr ht.1 h.2.2.2.1, rd_gr ht.1 h.2.2.2.2.1, Option.bind_some]
  rw [iln (by omega), ien (by omega), rd_ai ht.2.2.2.2.1 (i := k) rfl (by omega) (by omega) h1]
  simp only [Option.bind_some]
  rw [rd_ai ht.2.2.2.2.2.1 (i := k) rfl (by omega) (by omega) h2]
  simp only [Option.bind_some]
  rw [iln (by omega), ien (by omega)]
  unfold ans
  rw [e2]
  exact e1
def srcF (lw : Int32) (N : Nat) (f : Nat → List Nat) (p : Nat) : Option Nat := if lw &&& zI 1 = zI 0 then nxt N f p else ahd N f p
theorem X4_source_eq (ht : gameT e.1 a) (htt : e.1 t = some (10, 11)) (h : gameS m a t) (hf : gameF m a f) (hn : m t 6 = .int (zI N)) (h2 : 2 ≤ N) (h6 : N ≤ 6) {p : Nat} (hp : p < N) {lw : Int32} (hl : m a 7 = .int lw) (hN : 20 < e.2.2) : X4_source e a (zI p) m = some (ozI (srcF lw N f p), m) := by
  unfold X4_source
  simp only [LT, rd_gi ht.1 hl, Option.bind_some, X4_source_b16, ht.1, if_true]
  unfold srcF
  have b1 := X4_beside_eq ht htt h hf hn h2 h6 hp true hN
  have b0 := X4_beside_eq ht htt h hf hn h2 h6 hp false hN
  simp only [bZ, if_true, Bool.false_eq_true, if_false] at b1 b0
  by_cases hc : lw &&& zI 1 = zI 0
  · rw [if_neg (by simp [hc]), if_pos hc, b1]; rfl
  · rw [if_pos hc, if_neg hc, b0]; rfl
theorem X4_lastOf_eq (ht : gameT e.1 a) (h : gameS m a t) {p : Nat} (hp : p < 6) {v : Int32} (hv : m (a + 5) p = .int v) : X4_lastOf e a (zI p) m = some (v, m) := by
  unfold X4_lastOf
  simp only [LT, rd_gr ht.1 h.2.2.2.1, Option.bind_some, X4_lastOf_b20]
  rw [iln (by omega), ien (by omega), rd_ai ht.2.2.2.2.1 (i := p) rfl (by omega) (by omega) hv]
  rfl
theorem X4_sitterAt_eq (ht : gameT e.1 a) (h : gameS m a t) {p : Nat} (hp : p < 6) {v : Int32} (hv : m (a + 4) p = .int v) : X4_sitterAt e a (zI p) m = some (v, m) := by
  unfold X4_sitterAt
  simp only [LT, rd_gr ht.1 h.2.2.1, Option.bind_some, X4_sitterAt_b20]
  rw [iln (by omega), ien (by omega), rd_ai ht.2.2.2.1 (i := p) rfl (by omega) (by omega) hv]
  rfl
theorem X4_setLast_eq (ht : gameT e.1 a) (h : gameS m a t) {p : Nat} (hp : p < 6) {v : Int32} : X4_setLast e a (zI p) v m = some (mm_up m (a + 5) p (.int v)) := by
  unfold X4_setLast
  simp only [LT, rd_gr ht.1 h.2.2.2.1, Option.bind_some, X4_setLast_b17]
  rw [iln (by omega), ien (by omega), wr_si ht.2.2.2.2.1 (i := p) rfl (by omega) (by omega)]
  rfl
theorem X4_see_eq (ht : gameT e.1 a) (h : gameS m a t) (hf : gameF m a f) {p n c : Nat} (hp : p < 6) {last : Nat → Nat} (hl : m (a + 5) p = .int (zI (last p))) {done : Int32} (hd : m a 11 = .int done) : ∃ m', X4_see e a (zI p) (zI n) (zI c) m = some m' ∧ (∀ k, k < 6 → m' (a + 6) k = .int (svv f last done p n c k)) ∧ ∀ b, b ≠ a + 6 → m' b = m b := by
  have keep : ∀ m1 : mm_V, (∀ b, b ≠ a + 6 → m1 b = m b) → gameS m1 a t ∧ gameF m1 a f ∧ m1 (a + 5) p = .int (zI (last p)) ∧ m1 a 11 = .int done ∧ mm_gr e.1 m1 4 12 a 4 = some (a + 6) := by
    intro m1 h1
    have hS : gameS m1 a t := h.keep (fun j _ => by rw [h1 _ (by omega)]) (fun b _ _ => h1 _ (by omega))
    exact ⟨hS, hf.keep (fun b _ _ => h1 _ (by omega)), by rw [h1 _ (by omega)]; exact hl, by rw [h1 _ (by omega)]; exact hd, rd_gr ht.1 hS.2.2.2.2.1⟩
  have t6 := ht.2.2.2.2.2.1
  have K0 := keep m (fun _ _ => rfl)
  have K1 := keep (mm_up m (a + 6) 0 (.int (zI n))) (fun b hb => up_row _ _ _ hb)
  have K2 := keep (mm_up (mm_up m (a + 6) 0 (.int (zI n))) (a + 6) 1 (.int (zI (f p).length))) (fun b hb => by rw [up_row _ _ _ hb, up_row _ _ _ hb])
  have K3 := keep (mm_up (mm_up (mm_up m (a + 6) 0 (.int (zI n))) (a + 6) 1 (.int (zI (f p).length))) (a + 6) 2 (.int done)) (fun b hb => by rw [up_row _ _ _ hb, up_row _ _ _ hb, up_row _ _ _ hb])
  have K4 := keep (mm_up (mm_up (mm_up (mm_up m (a + 6) 0 (.int (zI n))) (a + 6) 1 (.int (zI (f p).length))) (a + 6) 2 (.int done)) (a + 6) 3 (.int (zI p))) (fun b hb => by rw [up_row _ _ _ hb, up_row _ _ _ hb, up_row _ _ _ hb, up_row _ _ _ hb])
  have K5 := keep (mm_up (mm_up (mm_up (mm_up (mm_up m (a + 6) 0 (.int (zI n))) (a + 6) 1 (.int (zI (f p).length))) (a + 6) 2 (.int done)) (a + 6) 3 (.int (zI p))) (a + 6) 4 (.int (zI (last p)))) (fun b hb => by rw [up_row _ _ _ hb, up_row _ _ _ hb, up_row _ _ _ hb, up_row _ _ _ hb, up_row _ _ _ hb])
  refine ⟨mm_up (mm_up (mm_up (mm_up (mm_up (mm_up m (a + 6) 0 (.int (zI n))) (a + 6) 1 (.int (zI (f p).length))) (a + 6) 2 (.int done)) (a + 6) 3 (.int (zI p))) (a + 6) 4 (.int (zI (last p)))) (a + 6) 5 (.int (zI c)), ?_, ?_, fun b hb => by rw [up_row _ _ _ hb, up_row _ _ _ hb, up_row _ _ _ hb, up_row _ _ _ hb, up_row _ _ _ hb, up_row _ _ _ hb]⟩
  · unfold X4_see
    simp only [LT]
    rw [K0.2.2.2.2, Option.bind_some, wr_si t6 (i := 0) (by omega) (by omega) (by omega), Option.bind_some, K1.2.2.2.2, Option.bind_some, X4_fanAt_eq ht K1.1 hp, Option.bind_some, rd_gi (ht.2.2.2.2.2.2.2 p hp).1 (K1.2.1 p hp).2.1, Option.bind_some, wr_si t6 (i := 1) (by omega) (by omega) (by omega), Option.bind_some, K2.2.2.2.2, Option.bind_some, rd_gi ht.1 K2.2.2.2.1, Option.bind_some, wr_si t6 (i := 2) (by omega) (by omega) (by omega), Option.bind_some, K3.2.2.2.2, Option.bind_some, wr_si t6 (i := 3) (by omega) (by omega) (by omega), Option.bind_some, K4.2.2.2.2, Option.bind_some, X4_lastOf_eq ht K4.1 hp K4.2.2.1, Option.bind_some, wr_si t6 (i := 4) (by omega) (by omega) (by omega), Option.bind_some, K5.2.2.2.2, Option.bind_some, wr_si t6 (i := 5) (by omega) (by omega) (by omega), Option.bind_some]
  · intro k hk
    have hc : k = 0 ∨ k = 1 ∨ k = 2 ∨ k = 3 ∨ k = 4 ∨ k = 5 := by omega
    rcases hc with rfl | rfl | rfl | rfl | rfl | rfl <;> simp [mm_up, svv]
end PLACEC
