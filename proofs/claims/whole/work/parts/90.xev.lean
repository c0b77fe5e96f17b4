/-! EV: a function that comes to its end, with something that holds there. -/
def Ev {α : Type} (x : Option α) (P : α → Prop) : Prop := ∃ r, x = some r ∧ P r
section EV
variable {α β : Type} {g : mm_T} {m : mm_V} {t n a k : Nat} {P : β → Prop}
theorem ev_ret {x : β} (h : P x) : Ev (some x) P := ⟨x, rfl, h⟩
theorem ev_mono {x : Option β} {Q : β → Prop} (h : Ev x Q) (k : ∀ r, Q r → P r) : Ev x P := by
  obtain ⟨r, h1, h2⟩ := h
  exact ⟨r, h1, k r h2⟩
theorem ev_call {x : Option α} {Q : α → Prop} {F : α → Option β} (h : Ev x Q) (k : ∀ r, Q r → Ev (F r) P) : Ev (x.bind F) P := by
  obtain ⟨r, h1, h2⟩ := h
  rw [h1]; exact k r h2
theorem ev_eq {x : Option α} {v : α} {F : α → Option β} (h : x = some v) (k : Ev (F v) P) : Ev (x.bind F) P := by rw [h]; exact k
theorem ev_is {x y : Option β} (h : x = y) (k : Ev y P) : Ev x P := by rw [h]; exact k
theorem ev_gi {v : Int32} {F : Int32 → Option β} (hg : g a = some (t, n)) (hv : m a k = .int v) (h : Ev (F v) P) : Ev ((mm_gi g m t n a k).bind F) P := by rw [rd_gi hg hv]; exact h
theorem ev_gl {v : Int64} {F : Int64 → Option β} (hg : g a = some (t, n)) (hv : m a k = .long v) (h : Ev (F v) P) : Ev ((mm_gl g m t n a k).bind F) P := by rw [rd_gl hg hv]; exact h
theorem ev_gr {v : Nat} {F : Nat → Option β} (hg : g a = some (t, n)) (hv : m a k = .ref v) (h : Ev (F v) P) : Ev ((mm_gr g m t n a k).bind F) P := by rw [rd_gr hg hv]; exact h
theorem ev_pf {v : Value} {F : mm_V → Option β} (hg : g a = some (t, n)) (h : Ev (F (mm_up m a k v)) P) : Ev ((mm_pf g m t n a k v).bind F) P := by rw [wr_pf hg]; exact h
theorem ev_pz {x : Int32} {F : mm_V → Option β} (hg : g a = some (t, n)) (hx : x = 0 ∨ x = 1) (h : Ev (F (mm_up m a k (.int x))) P) : Ev ((mm_pz g m t n a k x).bind F) P := by rw [wr_pz hg hx]; exact h
theorem ev_ai {i : Int32} {v : Int32} (j : Nat) {F : Int32 → Option β} (hg : g a = some (t, n)) (hi : i = zI j) (hj : j < n) (hn : n ≤ 1000000) (hv : m a j = .int v) (h : Ev (F v) P) : Ev ((mm_ai g m t a i).bind F) P := by rw [hi, rd_ai hg rfl hj hn hv]; exact h
theorem ev_al {i : Int32} {v : Int64} (j : Nat) {F : Int64 → Option β} (hg : g a = some (21, n)) (hi : i = zI j) (hj : j < n) (hn : n ≤ 1000000) (hv : m a j = .long v) (h : Ev (F v) P) : Ev ((mm_al g m a i).bind F) P := by rw [hi, rd_al hg rfl hj hn hv]; exact h
theorem ev_aq {i : Int32} {v : Nat} (j : Nat) {F : Nat → Option β} (hg : g a = some (t, n)) (hi : i = zI j) (hj : j < n) (hn : n ≤ 1000000) (hv : m a j = .ref v) (h : Ev (F v) P) : Ev ((mm_aq g m t a i).bind F) P := by rw [hi, rd_aq hg rfl hj hn hv]; exact h
theorem ev_si {i x : Int32} (j : Nat) {F : mm_V → Option β} (hg : g a = some (20, n)) (hi : i = zI j) (hj : j < n) (hn : n ≤ 1000000) (h : Ev (F (mm_up m a j (.int x))) P) : Ev ((mm_si g m a i x).bind F) P := by rw [hi, wr_si hg rfl hj hn]; exact h
theorem ev_sz {i x : Int32} (j : Nat) {F : mm_V → Option β} (hg : g a = some (22, n)) (hi : i = zI j) (hj : j < n) (hn : n ≤ 1000000) (hx : x = 0 ∨ x = 1) (h : Ev (F (mm_up m a j (.int x))) P) : Ev ((mm_sz g m a i x).bind F) P := by rw [hi, wr_sz hg rfl hj hn hx]; exact h
theorem ev_ln {F : Int32 → Option β} (hg : g a = some (t, n)) (ht : 20 ≤ t ∧ t ≤ 25) (h : Ev (F (zI n)) P) : Ev ((mm_ln g a).bind F) P := by rw [rd_ln hg ht.1 ht.2]; exact h
theorem ev_tg {A : Option β} (hg : g a = some (t, n)) (h : Ev A P) : Ev (if g a = some (t, n) then A else none) P := by rw [if_pos hg]; exact h
theorem ev_rz {x : Int32} {P : Int32 × mm_V → Prop} (hx : x = 0 ∨ x = 1) (h : P (x, m)) : Ev (mm_rz x m) P := ⟨(x, m), by unfold mm_rz; rw [if_pos hx], h⟩
theorem ev_ilp {x y : Int} {a b : Int32} {A B : Option β} (ha : a = zI x) (hb : b = zI y) (h : -2147483648 ≤ x ∧ x < 2147483648 ∧ -2147483648 ≤ y ∧ y < 2147483648 ∧ x < y) (k : Ev A P) : Ev (if a < b then A else B) P := by rw [ha, hb, ilp h]; exact k
theorem ev_iln {x y : Int} {a b : Int32} {A B : Option β} (ha : a = zI x) (hb : b = zI y) (h : -2147483648 ≤ x ∧ x < 2147483648 ∧ -2147483648 ≤ y ∧ y < 2147483648 ∧ ¬ (x < y)) (k : Ev B P) : Ev (if a < b then A else B) P := by rw [ha, hb, iln h]; exact k
theorem ev_iep {x y : Int} {a b : Int32} {A B : Option β} (ha : a = zI x) (hb : b = zI y) (h : -2147483648 ≤ x ∧ x < 2147483648 ∧ -2147483648 ≤ y ∧ y < 2147483648 ∧ x ≤ y) (k : Ev A P) : Ev (if a ≤ b then A else B) P := by rw [ha, hb, iep h]; exact k
theorem ev_ien {x y : Int} {a b : Int32} {A B : Option β} (ha : a = zI x) (hb : b = zI y) (h : -2147483648 ≤ x ∧ x < 2147483648 ∧ -2147483648 ≤ y ∧ y < 2147483648 ∧ ¬ (x ≤ y)) (k : Ev B P) : Ev (if a ≤ b then A else B) P := by rw [ha, hb, ien h]; exact k
theorem ev_iqp {x y : Int} {a b : Int32} {A B : Option β} (ha : a = zI x) (hb : b = zI y) (h : -2147483648 ≤ x ∧ x < 2147483648 ∧ -2147483648 ≤ y ∧ y < 2147483648 ∧ x = y) (k : Ev A P) : Ev (if a = b then A else B) P := by rw [ha, hb, iqp h]; exact k
theorem ev_iqn {x y : Int} {a b : Int32} {A B : Option β} (ha : a = zI x) (hb : b = zI y) (h : -2147483648 ≤ x ∧ x < 2147483648 ∧ -2147483648 ≤ y ∧ y < 2147483648 ∧ ¬ (x = y)) (k : Ev B P) : Ev (if a = b then A else B) P := by rw [ha, hb, iqn h]; exact k
theorem ev_inp {x y : Int} {a b : Int32} {A B : Option β} (ha : a = zI x) (hb : b = zI y) (h : -2147483648 ≤ x ∧ x < 2147483648 ∧ -2147483648 ≤ y ∧ y < 2147483648 ∧ x ≠ y) (k : Ev A P) : Ev (if ¬ a = b then A else B) P := by rw [ha, hb, inp h]; exact k
theorem ev_inn {x y : Int} {a b : Int32} {A B : Option β} (ha : a = zI x) (hb : b = zI y) (h : -2147483648 ≤ x ∧ x < 2147483648 ∧ -2147483648 ≤ y ∧ y < 2147483648 ∧ x = y) (k : Ev B P) : Ev (if ¬ a = b then A else B) P := by rw [ha, hb, inn h]; exact k
theorem ev_bz {b : Bool} {A B : Option β} (h0 : b = false → Ev A P) (h1 : b = true → Ev B P) : Ev (if bZ b = zI 0 then A else B) P := by
  cases b with
  | false => rw [if_pos (show bZ false = zI 0 from rfl)]; exact h0 rfl
  | true => rw [if_neg (show ¬ bZ true = zI 0 by decide)]; exact h1 rfl
theorem ev_bn {b : Bool} {A B : Option β} (h0 : b = false → Ev B P) (h1 : b = true → Ev A P) : Ev (if ¬ bZ b = zI 0 then A else B) P := by
  cases b with
  | false => rw [if_neg (show ¬ ¬ bZ false = zI 0 from fun h => h rfl)]; exact h0 rfl
  | true => rw [if_pos (show ¬ bZ true = zI 0 by decide)]; exact h1 rfl
end EV
