/-! CALLS: what all of them need; feed, fault, count, fan, person. -/
def exN (k : Nat) : String := if k = 1 then "java/util/NoSuchElementException" else "java/lang/IllegalArgumentException"
def cvA {α : Type} (A : α ⊕ Nat) : α ⊕ String := match A with
  | .inl v => .inl v
  | .inr k => .inr (exN k)
def mvA {α : Type} (A : α ⊕ Nat) (q : Nat) (y : α × mm_V) : Prop := match A with
  | .inl v => y.1 = v ∧ y.2 q 0 = .int (zI 0)
  | .inr k => y.2 q 0 = .int (zI k)
def clS {α : Type} (A : α ⊕ Nat) (e : mm_E) (z t d : Nat) (C : CF) (G : GM) (M : MI) (m : mm_V) (y : (α ⊕ String) × mm_V) : Prop := y.1 = cvA A ∧ IC e y.2 z t d C G M ∧ ∀ b, (b < z ∨ z + 402 ≤ b) → y.2 b = m b
def mlS {α : Type} (A : α ⊕ Nat) (e : mm_E) (q : Nat) (C : CF) (G : GM) (M : MI) (m : mm_V) (y : α × mm_V) : Prop := mvA A q y ∧ IM e y.2 q C G M ∧ ∀ b, (b < q ∨ q + 40 ≤ b) → y.2 b = m b
/-- of calls that throw nothing -/
def clR {α : Type} (v : α) (e : mm_E) (z t d : Nat) (C : CF) (G : GM) (M : MI) (m : mm_V) (y : α × mm_V) : Prop := y.1 = v ∧ IC e y.2 z t d C G M ∧ ∀ b, (b < z ∨ z + 402 ≤ b) → y.2 b = m b
def mlR {α : Type} (v : α) (e : mm_E) (q : Nat) (C : CF) (G : GM) (M : MI) (m : mm_V) (y : α × mm_V) : Prop := y.1 = v ∧ IM e y.2 q C G M ∧ ∀ b, (b < q ∨ q + 40 ≤ b) → y.2 b = m b
def i32 (a : Int) : Prop := -2147483648 ≤ a ∧ a < 2147483648
theorem zI_ex (v : Int32) : ∃ a : Int, i32 a ∧ v = zI a := ⟨v.toInt, ⟨Int32.le_toInt v, Int32.toInt_lt v⟩, (zI_of v).symm⟩
section CA1
variable {e : mm_E} {z t d q K : Nat} {C : CF} {G : GM} {M : MI}
theorem ev_cl {α : Type} {v : α} {m : mm_V} {A : α ⊕ Nat} (hA : A = .inl v) {m' : mm_V} (h : IC e m' z t d C G M) (hf : ∀ b, (b < z ∨ z + 402 ≤ b) → m' b = m b) : Ev (some ((.inl v : α ⊕ String), m')) (clS A e z t d C G M m) := ev_ret ⟨by (try dsimp only); rw [hA]; rfl, h, hf⟩
theorem ev_ml {α : Type} {v : α} {m : mm_V} {A : α ⊕ Nat} (hA : A = .inl v) {m' : mm_V} (h0 : m' q 0 = .int (zI 0)) (h : IM e m' q C G M) (hf : ∀ b, (b < q ∨ q + 40 ≤ b) → m' b = m b) : Ev (some (v, m')) (mlS A e q C G M m) := ev_ret ⟨by (try dsimp only); rw [hA]; exact ⟨rfl, h0⟩, h, hf⟩
theorem ev_mlx {α : Type} {v : α} {k : Nat} {m : mm_V} {A : α ⊕ Nat} (hA : A = .inr k) {m' : mm_V} (h0 : m' q 0 = .int (zI k)) (h : IM e m' q C G M) (hf : ∀ b, (b < q ∨ q + 40 ≤ b) → m' b = m b) : Ev (some (v, m')) (mlS A e q C G M m) := ev_ret ⟨by (try dsimp only); rw [hA]; exact h0, h, hf⟩
theorem ev_bx {α β : Type} {x : α} {m : mm_V} {F : α × mm_V → Option ((β ⊕ String) × mm_V)} {P : (β ⊕ String) × mm_V → Prop} {w : Option ((α ⊕ String) × mm_V)} (hw : w = some (.inl x, m)) (k : Ev (F (x, m)) P) : Ev (mm_bx w F) P := by (try dsimp only); rw [hw]; exact k
theorem ev_bxx {α β : Type} {k : Nat} {m m0 : mm_V} {F : α × mm_V → Option ((β ⊕ String) × mm_V)} {w : Option ((α ⊕ String) × mm_V)} {A : β ⊕ Nat} (hw : w = some (.inr (exN k), m)) (hA : A = .inr k) (h : IC e m z t d C G M) (hf : ∀ b, (b < z ∨ z + 402 ≤ b) → m b = m0 b) : Ev (mm_bx w F) (clS A e z t d C G M m0) := by (try dsimp only); rw [hw]; exact ⟨(.inr (exN k), m), rfl, by (try dsimp only); rw [hA]; rfl, h, hf⟩
theorem X11_need_1 {m : mm_V} : X11_need e (zI 1) m = some (.inl (), m) := if_pos (by decide)
theorem X11_need_0 {m : mm_V} : X11_need e (zI 0) m = some (.inr (exN 1), m) := if_neg (fun h => h rfl)
theorem X11_needA_1 {m : mm_V} : X11_needArgument e (zI 1) m = some (.inl (), m) := if_pos (by decide)
theorem X11_needA_0 {m : mm_V} : X11_needArgument e (zI 0) m = some (.inr (exN 2), m) := if_neg (fun h => h rfl)
theorem X11_isPerson_eq {m : mm_V} {a : Int} (ha : i32 a) (hT : icT e z) (h : IC e m z t d C G M) (hN : C.1 ≤ 6) : X11_isPerson e z (zI a) m = some (bZ (decide (0 ≤ a ∧ a < C.1)), m) := by
  have hF := h.2.1
  have hc := h.2.2.2.1.1
  unfold X11_isPerson X11_isPerson_b19 X11_isPerson_b20
  simp only [LT, zI_neg]
  by_cases h0 : a < 0
  · rw [ilp (by unfold i32 at ha; omega), decide_eq_false (by omega)]; rfl
  rw [iln (by unfold i32 at ha; omega), rd_gr hT.1 hF.1.2.1, Option.bind_some, rd_gi hc.1.1 hc.2.2.1, Option.bind_some]
  by_cases h1 : (C.1 : Int) ≤ a
  · rw [iep (by unfold i32 at ha; omega), decide_eq_false (by omega)]; rfl
  · rw [ien (by unfold i32 at ha; omega), decide_eq_true (by omega)]; rfl
theorem needPerson_1 {m : mm_V} {a : Int} (ha : i32 a) (hT : icT e z) (h : IC e m z t d C G M) (hN : C.1 ≤ 6) (hp : 0 ≤ a ∧ a < C.1) : X11_needPerson e z (zI a) m = some (.inl (), m) := by
  unfold X11_needPerson
  rw [X11_isPerson_eq ha hT h hN, Option.bind_some, decide_eq_true hp]
  rfl
theorem needPerson_0 {m : mm_V} {a : Int} (ha : i32 a) (hT : icT e z) (h : IC e m z t d C G M) (hN : C.1 ≤ 6) (hp : ¬ (0 ≤ a ∧ a < C.1)) : X11_needPerson e z (zI a) m = some (.inr (exN 1), m) := by
  unfold X11_needPerson
  rw [X11_isPerson_eq ha hT h hN, Option.bind_some, decide_eq_false hp]
  rfl
theorem X12_within_eq {m : mm_V} {a lo hi : Int} (ha : i32 a) (hl : i32 lo) (hh : i32 hi) : X12_within e (zI a) (zI lo) (zI hi) m = some (bZ (decide (lo ≤ a ∧ a ≤ hi)), m) := by
  unfold i32 at ha hl hh
  unfold X12_within X12_within_b14 X12_within_b15
  simp only [LT, zI_neg]
  by_cases h0 : a < lo
  · rw [ilp (by omega), decide_eq_false (by omega)]; rfl
  rw [iln (by omega)]
  by_cases h1 : hi < a
  · rw [ilp (by omega), decide_eq_false (by omega)]; rfl
  · rw [iln (by omega), decide_eq_true (by omega)]; rfl
theorem X12_isWhat_1 {m : mm_V} {a hi : Int} (ha : i32 a) (hh : i32 hi) (hT : modT e.1 q) (h0 : m q 0 = .int (zI 0)) (hw : 0 ≤ a ∧ a ≤ hi) : X12_isWhat e q (zI a) (zI hi) m = some (zI 1, m) := by
  unfold X12_isWhat
  simp only [LT, zI_neg]
  rw [X12_within_eq ha ⟨by omega, by omega⟩ hh, Option.bind_some, decide_eq_true hw]
  dsimp only
  rw [show bZ true = zI 1 from rfl, X12_right_1 hT h0]
  rfl
theorem X12_isWhat_0 {m : mm_V} {a hi : Int} (ha : i32 a) (hh : i32 hi) (hT : modT e.1 q) (h0 : m q 0 = .int (zI 0)) (hw : ¬ (0 ≤ a ∧ a ≤ hi)) : X12_isWhat e q (zI a) (zI hi) m = some (zI 0, mm_up m q 0 (.int (zI 1))) := by
  unfold X12_isWhat
  simp only [LT, zI_neg]
  rw [X12_within_eq ha ⟨by omega, by omega⟩ hh, Option.bind_some, decide_eq_false hw]
  dsimp only
  rw [show bZ false = zI 0 from rfl, X12_right_0 hT h0 (by decide)]
  rfl
theorem X12_isPerson_1 {m : mm_V} {a : Int} {N : Nat} (ha : i32 a) (hT : modT e.1 q) (h0 : m q 0 = .int (zI 0)) (h1 : m q 1 = .int (zI N)) (hN : N ≤ 6) (hp : 0 ≤ a ∧ a < N) : X12_isPerson e q (zI a) m = some (zI 1, m) := by
  unfold i32 at ha
  unfold X12_isPerson X12_isPerson_b18
  simp only [LT, zI_neg]
  rw [iln (by omega), rd_gi hT.me h1, Option.bind_some, ien (by omega), if_pos hT.me, X12_right_1 hT h0]
  rfl
theorem X12_isPerson_0 {m : mm_V} {a : Int} {N : Nat} (ha : i32 a) (hT : modT e.1 q) (h0 : m q 0 = .int (zI 0)) (h1 : m q 1 = .int (zI N)) (hN : N ≤ 6) (hp : ¬ (0 ≤ a ∧ a < N)) : X12_isPerson e q (zI a) m = some (zI 0, mm_up m q 0 (.int (zI 1))) := by
  unfold i32 at ha
  have h18 : X12_isPerson_b18 e q (zI 0) m = some (zI 0, mm_up m q 0 (.int (zI 1))) := by
    unfold X12_isPerson_b18
    simp only [LT, zI_neg]
    rw [if_pos hT.me, X12_right_0 hT h0 (by decide)]
    rfl
  unfold X12_isPerson X12_isPerson_b17
  simp only [LT, zI_neg]
  by_cases hl : a < 0
  · rw [ilp (by omega)]; exact h18
  · rw [iln (by omega), rd_gi hT.me h1, Option.bind_some, iep (by omega)]; exact h18
/-- thrown, set anew -/
theorem IM.th {m : mm_V} (h : IM e m q C G M) (v : Int32) : IM e (mm_up m q 0 (.int v)) q C G M := h.scr (fun k hk _ _ _ _ _ _ _ => up_ne _ _ (Or.inr hk)) (fun b hb _ => up_row _ _ _ hb)
theorem fr_th {m : mm_V} {v : Value} : ∀ b, (b < q ∨ q + 40 ≤ b) → (mm_up m q 0 v) b = m b := fun b hb => up_row _ _ _ (by omega)
theorem fr_th2 {m : mm_V} {v w : Value} : ∀ b, (b < q ∨ q + 40 ≤ b) → (mm_up (mm_up m q 0 v) q 0 w) b = m b := fun b hb => by (try dsimp only); rw [up_row _ _ _ (by omega), up_row _ _ _ (by omega)]
/-! feed -/
def byt (v : Int32) (s : Nat) : Nat := ((v >>> (zI s &&& zI 31)) &&& zI 255).toInt.toNat
theorem m255 : ∀ j : Fin 32, ¬ j.val < 8 → (255#32).getLsbD j.val = false := by decide
theorem byt_and (x : Int32) : (x &&& zI 255) = zI ((x &&& zI 255).toInt.toNat : Nat) ∧ (x &&& zI 255).toInt.toNat < 256 := by
  have h1 : (x &&& zI 255).toBitVec.toNat < 256 := by
    rw [Int32.toBitVec_and, BitVec.toNat_and]
    have : (zI 255).toBitVec.toNat = 255 := rfl
    rw [this]
    have := Nat.and_le_right (n := x.toBitVec.toNat) (m := 255)
    omega
  have h2 : (x &&& zI 255).toInt = ((x &&& zI 255).toBitVec.toNat : Int) := by
    rw [← Int32.toInt_toBitVec, BitVec.toInt_eq_toNat_of_lt (by omega)]
  refine ⟨?_, by omega⟩
  have h3 : (((x &&& zI 255).toInt.toNat : Nat) : Int) = (x &&& zI 255).toInt := by omega
  rw [h3, zI_of]
theorem byt_m {v : Int32} {s : Nat} : ((v >>> (zI s &&& zI 31)) &&& zI 255) = zI (byt v s) ∧ byt v s < 256 := byt_and _
theorem byt_c {v : Int32} {s : Nat} (hs : s ≤ 24) : (((v.toUInt32 >>> ((zI s).toUInt32 &&& Int32.toUInt32 (zI 31))).toInt32) &&& zI 255) = zI (byt v s) := by
  rw [← byt_m.1]
  obtain ⟨h1, h2, -⟩ := sh_ix s (by omega)
  apply Int32.toBitVec.inj
  rw [Int32.toBitVec_and, Int32.toBitVec_and, h1]
  have h6 : ∀ k, k < 32 → (((zI (k : Nat)).toUInt32 &&& Int32.toUInt32 (zI 31)).toBitVec % 32#32).toNat = k := by decide +kernel
  have h3 : (v.toUInt32 >>> ((zI s).toUInt32 &&& Int32.toUInt32 (zI 31))).toInt32.toBitVec = v.toBitVec >>> s := by
    show (v.toUInt32 >>> ((zI s).toUInt32 &&& Int32.toUInt32 (zI 31))).toBitVec = _
    rw [UInt32.toBitVec_shiftRight]
    show v.toBitVec >>> (((zI s).toUInt32 &&& Int32.toUInt32 (zI 31)).toBitVec % 32#32).toNat = _
    rw [h6 s (by omega)]
  have h4 : (v >>> (zI (s : Nat))).toBitVec = v.toBitVec.sshiftRight s := by
    rw [Int32.toBitVec_shiftRight]
    show v.toBitVec.sshiftRight ((zI (s : Nat)).toBitVec.smod 32).toNat = _
    rw [h2]
  rw [h3, h4]
  ext i hi
  simp only [BitVec.getElem_and, BitVec.getElem_ushiftRight, BitVec.getElem_sshiftRight]
  have h5 : (zI 255).toBitVec = 255#32 := rfl
  rw [h5]
  by_cases h8 : i < 8
  · rw [dif_pos (by omega)]
    rw [BitVec.getLsbD_eq_getElem (by omega)]
  · have : (255#32)[i] = false := by
      rw [← BitVec.getLsbD_eq_getElem]
      exact m255 ⟨i, hi⟩ h8
    rw [this, Bool.and_false, Bool.and_false]
def apB (v : Int32) (s : Nat) (X : Nat × (Nat → Nat)) : Nat × (Nat → Nat) := (X.1 + 1, setF X.2 X.1 (byt v s))
def apI (v : Int32) (X : Nat × (Nat → Nat)) : Nat × (Nat → Nat) := apB v 0 (apB v 8 (apB v 16 (apB v 24 X)))
def b256 (X : Nat × (Nat → Nat)) : Prop := ∀ i, i < X.1 → X.2 i < 256
theorem b256.ap {X : Nat × (Nat → Nat)} (h : b256 X) (v : Int32) (s : Nat) : b256 (apB v s X) := fun i hi => by
  show setF X.2 X.1 (byt v s) i < 256
  by_cases hx : i = X.1
  · rw [hx, setF_at]; exact byt_m.2
  · rw [setF_ne _ _ hx]; exact h i (by have : i < X.1 + 1 := hi; omega)
def tpC (m : mm_V) (z : Nat) (X : Nat × (Nat → Nat)) : Prop := m z 15 = .int (zI X.1) ∧ ∀ i, i < X.1 → m (z + 1) i = .int (zI (X.2 i))
def tpM (m : mm_V) (q : Nat) (X : Nat × (Nat → Nat)) : Prop := m q 9 = .int (zI X.1) ∧ ∀ i, i < X.1 → m (q + 4) i = .int (zI (X.2 i))
theorem X11_append_step {m : mm_V} {v : Int32} {s nn : Nat} {X : Nat × (Nat → Nat)} (hT : icT e z) (h0 : m z 0 = .ref (z + 1)) (hs : s ≤ 24) (hX : X.1 < 600) (h : tpC m z X) : ∃ m', X11_append_L3 e z v (nn + 1) (zI s) m = X11_append_L3 e z v nn (zI ((s : Int) - 8)) m' ∧ tpC m' z (apB v s X) ∧ (∀ k, k ≠ 15 → m' z k = m z k) ∧ ∀ b, b ≠ z → b ≠ z + 1 → m' b = m b := by
  rw [X11_append_L3]
  simp only [LT, zI_neg]
  rw [iln (by omega), rd_gi hT.1 h.1, Option.bind_some, ien (by omega), rd_gr hT.1 h0, Option.bind_some, Option.bind_some, byt_c hs, wr_si hT.2.1.1 (i := X.1) rfl (by omega) (by omega), Option.bind_some, rd_gi hT.1 (v := zI X.1) (by (try dsimp only); rw [up_row _ _ _ (by omega)]; exact h.1), Option.bind_some, wr_pf hT.1, Option.bind_some, zI_add, zI_add, show (s : Int) + -8 = (s : Int) - 8 by omega]
  refine ⟨_, rfl, ⟨up_at _ _ _ _, fun i hi => ?_⟩, fun k hk => by (try dsimp only); rw [up_ne _ _ (Or.inr hk), up_row _ _ _ (by omega)], fun b x1 x2 => by (try dsimp only); rw [up_row _ _ _ x1, up_row _ _ _ x2]⟩
  rw [up_row _ _ _ (by omega)]
  show _ = Value.int (zI (setF X.2 X.1 (byt v s) i : Nat))
  by_cases hx : i = X.1
  · rw [hx, setF_at, up_at]
  · rw [setF_ne _ _ hx, up_ne _ _ (Or.inr hx)]
    exact h.2 i (by have : i < X.1 + 1 := hi; omega)
theorem X11_append_eq {m : mm_V} {v : Int32} {X : Nat × (Nat → Nat)} (hT : icT e z) (h0 : m z 0 = .ref (z + 1)) (hX : X.1 ≤ 596) (h : tpC m z X) : Ev (X11_append e z v m) (fun m' => tpC m' z (apI v X) ∧ (∀ k, k ≠ 15 → m' z k = m z k) ∧ ∀ b, b ≠ z → b ≠ z + 1 → m' b = m b) := by
  have hN := hT.2.2.2.2.2.2.2.2.2.2.2.2.2.2
  unfold X11_append
  obtain ⟨nn, hnn⟩ : ∃ n', e.2.2 = n' + 5 := ⟨e.2.2 - 5, by omega⟩
  rw [hnn]
  simp only [LT, zI_neg]
  obtain ⟨m1, e1, t1, f1, o1⟩ := X11_append_step (v := v) (s := 24) (nn := nn + 4) hT h0 (by omega) (by omega) h
  obtain ⟨m2, e2, t2, f2, o2⟩ := X11_append_step (v := v) (s := 16) (nn := nn + 3) hT (by (try dsimp only); rw [f1 _ (by omega)]; exact h0) (by omega) (by show X.1 + 1 < 600; omega) t1
  obtain ⟨m3, e3, t3, f3, o3⟩ := X11_append_step (v := v) (s := 8) (nn := nn + 2) hT (by (try dsimp only); rw [f2 _ (by omega), f1 _ (by omega)]; exact h0) (by omega) (by show X.1 + 1 + 1 < 600; omega) t2
  obtain ⟨m4, e4, t4, f4, o4⟩ := X11_append_step (v := v) (s := 0) (nn := nn + 1) hT (by (try dsimp only); rw [f3 _ (by omega), f2 _ (by omega), f1 _ (by omega)]; exact h0) (by omega) (by show X.1 + 1 + 1 + 1 < 600; omega) t3
  have e1 : X11_append_L3 e z v (nn + 5) (zI 24) m = X11_append_L3 e z v (nn + 4) (zI 16) m1 := e1
  have e2 : X11_append_L3 e z v (nn + 4) (zI 16) m1 = X11_append_L3 e z v (nn + 3) (zI 8) m2 := e2
  have e3 : X11_append_L3 e z v (nn + 3) (zI 8) m2 = X11_append_L3 e z v (nn + 2) (zI 0) m3 := e3
  have e4 : X11_append_L3 e z v (nn + 2) (zI 0) m3 = X11_append_L3 e z v (nn + 1) (zI (-8)) m4 := e4
  rw [e1, e2, e3, e4, X11_append_L3]
  unfold X11_append_b49
  simp only [LT, zI_neg]
  rw [ilp (by omega)]
  exact ev_ret ⟨t4, fun k hk => by (try dsimp only); rw [f4 k hk, f3 k hk, f2 k hk, f1 k hk], fun b x1 x2 => by (try dsimp only); rw [o4 b x1 x2, o3 b x1 x2, o2 b x1 x2, o1 b x1 x2]⟩
theorem X12_lays_step {m : mm_V} {v : Int32} {s nn : Nat} {X : Nat × (Nat → Nat)} (hT : modT e.1 q) (h0 : modS m q) (hs : s ≤ 24) (hX : X.1 < 600) (h : tpM m q X) : ∃ m', X12_lays_L3 e q v (nn + 1) (zI s) m = X12_lays_L3 e q v nn (zI ((s : Int) - 8)) m' ∧ tpM m' q (apB v s X) ∧ modS m' q ∧ (∀ k, k ≠ 9 → m' q k = m q k) ∧ ∀ b, b ≠ q → b ≠ q + 4 → m' b = m b := by
  rw [X12_lays_L3]
  simp only [LT, zI_neg]
  rw [iln (by omega), rd_gr hT.me h0.tape_, Option.bind_some, rd_gi hT.me h.1, Option.bind_some, (byt_m (v := v) (s := s)).1, wr_si hT.tape_ (i := X.1) rfl (by omega) (by omega), Option.bind_some, rd_gi hT.me (v := zI X.1) (by (try dsimp only); rw [up_row _ _ _ (by omega)]; exact h.1), Option.bind_some, wr_pf hT.me, Option.bind_some, zI_add, zI_add, show (s : Int) + -8 = (s : Int) - 8 by omega]
  refine ⟨_, rfl, ⟨up_at _ _ _ _, fun i hi => ?_⟩, (h0.row (up_row _ _ _ (by omega))).up (by decide), fun k hk => by (try dsimp only); rw [up_ne _ _ (Or.inr hk), up_row _ _ _ (by omega)], fun b x1 x2 => by (try dsimp only); rw [up_row _ _ _ x1, up_row _ _ _ x2]⟩
  rw [up_row _ _ _ (by omega)]
  show _ = Value.int (zI (setF X.2 X.1 (byt v s) i : Nat))
  by_cases hx : i = X.1
  · rw [hx, setF_at, up_at]
  · rw [setF_ne _ _ hx, up_ne _ _ (Or.inr hx)]
    exact h.2 i (by have : i < X.1 + 1 := hi; omega)
theorem X12_lays_eq {m : mm_V} {v : Int32} {X : Nat × (Nat → Nat)} (hT : modT e.1 q) (hN : 1000 < e.2.2) (h0 : modS m q) (hX : X.1 ≤ 596) (h : tpM m q X) : Ev (X12_lays e q v m) (fun m' => tpM m' q (apI v X) ∧ modS m' q ∧ (∀ k, k ≠ 9 → m' q k = m q k) ∧ ∀ b, b ≠ q → b ≠ q + 4 → m' b = m b) := by
  unfold X12_lays
  obtain ⟨nn, hnn⟩ : ∃ n', e.2.2 = n' + 5 := ⟨e.2.2 - 5, by omega⟩
  rw [hnn]
  simp only [LT, zI_neg]
  obtain ⟨m1, e1, t1, s1, f1, o1⟩ := X12_lays_step (v := v) (s := 24) (nn := nn + 4) hT h0 (by omega) (by omega) h
  obtain ⟨m2, e2, t2, s2, f2, o2⟩ := X12_lays_step (v := v) (s := 16) (nn := nn + 3) hT s1 (by omega) (by show X.1 + 1 < 600; omega) t1
  obtain ⟨m3, e3, t3, s3, f3, o3⟩ := X12_lays_step (v := v) (s := 8) (nn := nn + 2) hT s2 (by omega) (by show X.1 + 1 + 1 < 600; omega) t2
  obtain ⟨m4, e4, t4, s4, f4, o4⟩ := X12_lays_step (v := v) (s := 0) (nn := nn + 1) hT s3 (by omega) (by show X.1 + 1 + 1 + 1 < 600; omega) t3
  have e1 : X12_lays_L3 e q v (nn + 5) (zI 24) m = X12_lays_L3 e q v (nn + 4) (zI 16) m1 := e1
  have e2 : X12_lays_L3 e q v (nn + 4) (zI 16) m1 = X12_lays_L3 e q v (nn + 3) (zI 8) m2 := e2
  have e3 : X12_lays_L3 e q v (nn + 3) (zI 8) m2 = X12_lays_L3 e q v (nn + 2) (zI 0) m3 := e3
  have e4 : X12_lays_L3 e q v (nn + 2) (zI 0) m3 = X12_lays_L3 e q v (nn + 1) (zI (-8)) m4 := e4
  rw [e1, e2, e3, e4, X12_lays_L3]
  simp only [LT, zI_neg]
  rw [ilp (by omega)]
  exact ev_ret ⟨t4, s4, fun k hk => by (try dsimp only); rw [f4 k hk, f3 k hk, f2 k hk, f1 k hk], fun b x1 x2 => by (try dsimp only); rw [o4 b x1 x2, o3 b x1 x2, o2 b x1 x2, o1 b x1 x2]⟩
def fdX (a b c d e : Int32) (X : Nat × (Nat → Nat)) : Nat × (Nat → Nat) := apI e (apI d (apI c (apI b (apI a X))))
def fdM (a b c d e : Int32) (M : MI) : MI := if M.1 ≤ 580 then ((fdX a b c d e (M.1, M.2.1)).1, (fdX a b c d e (M.1, M.2.1)).2, M.2.2) else M
def fdV (M : MI) : Int32 := if M.1 ≤ 580 then zI ((M.1 + 20 : Nat) : Int) else zI (-1)
theorem fdX_1 (a b c d e : Int32) (X : Nat × (Nat → Nat)) : (fdX a b c d e X).1 = X.1 + 20 := rfl
theorem apI_1 (a : Int32) (X : Nat × (Nat → Nat)) : (apI a X).1 = X.1 + 4 := rfl
theorem fdM_ok {a b c d e : Int32} (h : pureI C G M K) : pureI C G (fdM a b c d e M) K := by
  obtain ⟨h1, h2, h3, h4, ⟨h5, h6, h7⟩, h8⟩ := h
  refine ⟨h1, h2, h3, h4, ?_, h8⟩
  unfold fdM
  by_cases hn : M.1 ≤ 580
  · rw [if_pos hn]
    have hb : b256 (M.1, M.2.1) := h6
    refine ⟨by show M.1 + 20 ≤ 600; omega, ?_, h7⟩
    have : b256 (fdX a b c d e (M.1, M.2.1)) := by
      unfold fdX apI
      exact (((((((((((((((((((hb.ap _ _).ap _ _).ap _ _).ap _ _).ap _ _).ap _ _).ap _ _).ap _ _).ap _ _).ap _ _).ap _ _).ap _ _).ap _ _).ap _ _).ap _ _).ap _ _).ap _ _).ap _ _).ap _ _).ap _ _
    exact this
  · rw [if_neg hn]; exact ⟨h5, h6, h7⟩
theorem cl_feed {m : mm_V} {v1 v2 v3 v4 v5 : Int32} (hT : icT e z) (hp : pureI C G M K) (h : IC e m z t d C G M) : Ev (X11_feed e z v1 v2 v3 v4 v5 m) (clR (fdV M) e z t d C G (fdM v1 v2 v3 v4 v5 M) m) := by
  obtain ⟨h1, hF, hA, hC, hD, hR, hL, hG, hS, hI, hst⟩ := id h
  have hn := hp.2.2.2.2.1.1
  have hzz := hT.2.1.2.2.2.2.2.2.2.2.1
  unfold X11_feed
  simp only [LT, zI_neg]
  refine ev_gi hT.1 hF.2.2.2.1 ?_
  unfold fdV fdM
  by_cases hb : M.1 ≤ 580
  · rw [if_pos hb, if_pos hb]
    refine ev_iep rfl rfl (by omega) (ev_call (X11_append_eq (v := v1) (X := (M.1, M.2.1)) hT hF.1.1 (by simp only; omega) ⟨hF.2.2.2.1, hA⟩) ?_)
    rintro m1 ⟨t1, f1, o1⟩
    refine ev_call (X11_append_eq (v := v2) hT (by (try dsimp only); rw [f1 _ (by omega)]; exact hF.1.1) (by simp only [apI_1]; omega) t1) ?_
    rintro m2 ⟨t2, f2, o2⟩
    refine ev_call (X11_append_eq (v := v3) hT (by (try dsimp only); rw [f2 _ (by omega), f1 _ (by omega)]; exact hF.1.1) (by simp only [apI_1]; omega) t2) ?_
    rintro m3 ⟨t3, f3, o3⟩
    refine ev_call (X11_append_eq (v := v4) hT (by (try dsimp only); rw [f3 _ (by omega), f2 _ (by omega), f1 _ (by omega)]; exact hF.1.1) (by simp only [apI_1]; omega) t3) ?_
    rintro m4 ⟨t4, f4, o4⟩
    refine ev_call (X11_append_eq (v := v5) hT (by (try dsimp only); rw [f4 _ (by omega), f3 _ (by omega), f2 _ (by omega), f1 _ (by omega)]; exact hF.1.1) (by simp only [apI_1]; omega) t4) ?_
    rintro m5 ⟨t5, f5, o5⟩
    have fz : ∀ k, k ≠ 15 → m5 z k = m z k := fun k hk => by (try dsimp only); rw [f5 k hk, f4 k hk, f3 k hk, f2 k hk, f1 k hk]
    have oz : ∀ b, b ≠ z → b ≠ z + 1 → m5 b = m b := fun b x1 x2 => by (try dsimp only); rw [o5 b x1 x2, o4 b x1 x2, o3 b x1 x2, o2 b x1 x2, o1 b x1 x2]
    refine ev_gi hT.1 t5.1 (ev_ret ⟨rfl, ⟨h1, ⟨⟨by (try dsimp only); rw [fz _ (by omega)]; exact hF.1.1, by (try dsimp only); rw [fz _ (by omega)]; exact hF.1.2.1, by (try dsimp only); rw [fz _ (by omega)]; exact hF.1.2.2.1, by (try dsimp only); rw [fz _ (by omega)]; exact hF.1.2.2.2.1, by (try dsimp only); rw [fz _ (by omega)]; exact hF.1.2.2.2.2.1, by (try dsimp only); rw [fz _ (by omega)]; exact hF.1.2.2.2.2.2.1, by (try dsimp only); rw [fz _ (by omega)]; exact hF.1.2.2.2.2.2.2⟩, ⟨by (try dsimp only); rw [fz _ (by omega)]; exact hF.2.1.1, by (try dsimp only); rw [fz _ (by omega)]; exact hF.2.1.2.1, by (try dsimp only); rw [fz _ (by omega)]; exact hF.2.1.2.2.1, by (try dsimp only); rw [fz _ (by omega)]; exact hF.2.1.2.2.2.1, by (try dsimp only); rw [fz _ (by omega)]; exact hF.2.1.2.2.2.2.1, by (try dsimp only); rw [fz _ (by omega)]; exact hF.2.1.2.2.2.2.2.1, by (try dsimp only); rw [fz _ (by omega)]; exact hF.2.1.2.2.2.2.2.2⟩, by (try dsimp only); rw [fz _ (by omega)]; exact hF.2.2.1, t5.1, by (try dsimp only); rw [fz _ (by omega)]; exact hF.2.2.2.2.1, by (try dsimp only); rw [fz _ (by omega)]; exact hF.2.2.2.2.2.1, by (try dsimp only); rw [fz _ (by omega)]; exact hF.2.2.2.2.2.2⟩, t5.2, hC.keep (fun b x1 x2 x3 => oz b (by omega) (by omega)), hD.keep (fun b x1 x2 x3 => oz b (by omega) (by omega)), hR.row (fun b x1 x2 => oz b (by omega) (by omega)), hL.keep (fun b x1 x2 => oz b (by omega) (by omega)), hG.keep (fun b x1 x2 x3 x4 => oz b (by omega) (by omega)), hS.keep (fun b x1 x2 => oz b (by omega) (by omega)), hI.keep (fun b x1 => oz b (by omega) (by omega)), hst.keep hT.2.2.2.2.2.2.2.2.2.2.2.2.2.1 (fun b hb => oz b (by omega) (by omega))⟩, fun b hb => oz b (by omega) (by omega)⟩)
  · rw [if_neg hb, if_neg hb]
    exact ev_ien rfl rfl (by omega) (ev_ret ⟨rfl, h, fun _ _ => rfl⟩)
theorem ml_feed {m : mm_V} {v1 v2 v3 v4 v5 : Int32} (hT : imT e q) (hp : pureI C G M K) (h : IM e m q C G M) : Ev (X12_feed e q v1 v2 v3 v4 v5 m) (mlR (fdV M) e q C G (fdM v1 v2 v3 v4 v5 M) m) := by
  have hn := hp.2.2.2.2.1.1
  have hN := hT.2.1
  have hT := hT.1
  have h0 := h.th (zI 0)
  unfold X12_feed
  simp only [LT, zI_neg]
  refine ev_pf hT.me ?_
  have fr : ∀ b, b ≠ q → (mm_up m q 0 (.int (zI 0))) b = m b := fun b hb => up_row _ _ _ hb
  generalize mm_up m q 0 (.int (zI 0)) = m0 at h0 fr
  obtain ⟨g1, ⟨g2, g3, g4, g5, g6, g7⟩, ⟨g8, g9, g10, g11, g12⟩, g13, g14, g15, g16⟩ := id h0
  refine ev_gi hT.me g3 ?_
  rw [show (zI (M.1 : Int) + zI 20 : Int32) = zI ((M.1 + 20 : Nat) : Int) from zI_add _ _]
  unfold fdV fdM
  by_cases hb : M.1 ≤ 580
  · rw [if_pos hb, if_pos hb]
    refine ev_iep rfl rfl (by omega) (ev_call (X12_lays_eq (v := v1) (X := (M.1, M.2.1)) hT (by omega) g1.2.1 (by simp only; omega) ⟨g3, g8⟩) ?_)
    rintro m1 ⟨t1, s1, f1, o1⟩
    refine ev_call (X12_lays_eq (v := v2) hT (by omega) s1 (by simp only [apI_1]; omega) t1) ?_
    rintro m2 ⟨t2, s2, f2, o2⟩
    refine ev_call (X12_lays_eq (v := v3) hT (by omega) s2 (by simp only [apI_1]; omega) t2) ?_
    rintro m3 ⟨t3, s3, f3, o3⟩
    refine ev_call (X12_lays_eq (v := v4) hT (by omega) s3 (by simp only [apI_1]; omega) t3) ?_
    rintro m4 ⟨t4, s4, f4, o4⟩
    refine ev_call (X12_lays_eq (v := v5) hT (by omega) s4 (by simp only [apI_1]; omega) t4) ?_
    rintro m5 ⟨t5, s5, f5, o5⟩
    have fz : ∀ k, k ≠ 9 → m5 q k = m0 q k := fun k hk => by (try dsimp only); rw [f5 k hk, f4 k hk, f3 k hk, f2 k hk, f1 k hk]
    have oz : ∀ b, b ≠ q → b ≠ q + 4 → m5 b = m0 b := fun b x1 x2 => by (try dsimp only); rw [o5 b x1 x2, o4 b x1 x2, o3 b x1 x2, o2 b x1 x2, o1 b x1 x2]
    refine ev_gi hT.me t5.1 (ev_ret ⟨rfl, ⟨g1.keep' (L := [9]) (by decide) (fun j hj => fz j (by simpa using hj)) (oz _ (by omega) (by omega)) (oz _ (by omega) (by omega)), ⟨by (try dsimp only); rw [fz _ (by omega)]; exact g2, t5.1, by (try dsimp only); rw [fz _ (by omega)]; exact g4, by (try dsimp only); rw [fz _ (by omega)]; exact g5, by (try dsimp only); rw [fz _ (by omega)]; exact g6, by (try dsimp only); rw [fz _ (by omega)]; exact g7⟩, ⟨t5.2, by (try dsimp only); rw [oz _ (by omega) (by omega)]; exact g9, by (try dsimp only); rw [oz _ (by omega) (by omega)]; exact g10, fun i hi => by (try dsimp only); rw [oz _ (by omega) (by omega)]; exact g11 i hi, g12.keep (oz _ (by omega) (by omega))⟩, g13.keep (oz _ (by omega) (by omega)), ⟨⟨g14.1.1.keep (oz _ (by omega) (by omega)), g14.1.2.keep (oz _ (by omega) (by omega))⟩, g14.2.1.keep (oz _ (by omega) (by omega)), g14.2.2.keep (oz _ (by omega) (by omega))⟩, g15.keep (fz _ (by omega)) (oz _ (by omega) (by omega)), fun Si Hi hx => ?_⟩, fun b hb => by (try dsimp only); rw [oz b (by omega) (by omega), fr b (by omega)]⟩)
    obtain ⟨d1, d2, d3, d4⟩ := g16 Si Hi hx
    exact ⟨by (try dsimp only); rw [fz _ (by omega)]; exact d1, d2.keep (oz _ (by omega) (by omega)), d3.keep (oz _ (by omega) (by omega)), d4.keep (oz _ (by omega) (by omega))⟩
  · rw [if_neg hb, if_neg hb]
    exact ev_ien rfl rfl (by omega) (ev_ret ⟨rfl, h0, fun b hb => fr b (by omega)⟩)
/-! fault -/
theorem cl_fault {m : mm_V} (hT : icT e z) (h : IC e m z t d C G M) : Ev (X11_fault e z m) (clR (zI M.2.2.1) e z t d C G M m) := by
  unfold X11_fault
  exact ev_gi hT.1 h.2.1.2.2.2.2.1 (ev_ret ⟨rfl, h, fun _ _ => rfl⟩)
theorem ml_fault {m : mm_V} (hT : imT e q) (h : IM e m q C G M) : Ev (X12_fault e q m) (mlR (zI M.2.2.1) e q C G M m) := by
  unfold X12_fault
  exact ev_pf hT.1.me (ev_gi hT.1.me (h.th (0 : Int32)).2.1.2.2.1 (ev_ret ⟨rfl, h.th _, fr_th⟩))
/-! count -/
def cntA (C : CF) (G : GM) (M : MI) (a : Int) : Int32 ⊕ Nat := if a = 0 then .inl (zI C.1) else if a = 1 then .inl (zI C.2.1) else if a = 2 then .inl (zI C.2.2.1) else if a = 3 then .inl (if isOv C.1 G.2.1.1 then zI (-1) else ozI G.2.1.2.2.1) else if a = 4 then .inl G.2.1.2.2.2 else if a = 5 then .inl (zI G.2.2.1.length) else if a = 6 then .inl (ozI (qn C.1 G.2.1.1)) else if a = 7 then .inl (ozI (lsr C.1 G.2.1.1)) else if a = 8 then .inl (zI M.1) else if a = 9 then .inl (zI M.2.2.2.1) else if a = 10 then .inl (zI M.2.2.2.2) else .inr 1
theorem cl_count {m : mm_V} {a : Int} (ha : i32 a) (hT : icT e z) (hp : pureI C G M K) (h : IC e m z t d C G M) : Ev (X11_count e z (zI a) m) (clS (cntA C G M a) e z t d C G M m) := by
  obtain ⟨h1, hF, hA, hC, hD, hR, hL, ⟨⟨x, hG⟩, hG2⟩, hS, hI, hst⟩ := id h
  have hgT := hT.2.2.2.2.2.1
  have hlT := hT.2.2.2.1
  have ok := hp.2.2.1.1
  have hN := hT.2.2.2.2.2.2.2.2.2.2.2.2.2.2
  have E := hC.1
  have hlt := ok.1.lt E.2.2.2.2.2.2.2.2
  unfold i32 at ha
  unfold X11_count X11_count_b105 cntA
  simp only [LT, zI_neg]
  by_cases a0 : a = 0
  · rw [if_pos a0]
    exact ev_iqp rfl rfl (by omega) (ev_gr hT.1 hF.1.2.1 (ev_gi E.1.1 E.2.2.1 (ev_cl rfl h (fun _ _ => rfl))))
  rw [if_neg a0]
  refine ev_iqn rfl rfl (by omega) ?_
  by_cases a1 : a = 1
  · rw [if_pos a1]
    exact ev_iqp rfl rfl (by omega) (ev_gr hT.1 hF.1.2.1 (ev_gi E.1.1 E.2.2.2.1 (ev_cl rfl h (fun _ _ => rfl))))
  rw [if_neg a1]
  refine ev_iqn rfl rfl (by omega) ?_
  by_cases a2 : a = 2
  · rw [if_pos a2]
    exact ev_iqp rfl rfl (by omega) (ev_gr hT.1 hF.1.2.1 (ev_gi E.1.1 hC.2.1 (ev_cl rfl h (fun _ _ => rfl))))
  rw [if_neg a2]
  refine ev_iqn rfl rfl (by omega) ?_
  by_cases a3 : a = 3
  · rw [if_pos a3]
    refine ev_iqp rfl rfl (by omega) (ev_gr hT.1 hF.1.2.2.2.2.2.2 (ev_tg hgT.1 (ev_eq (X4_over_eq hgT E.1.1 hG.1 hG.2.1 E.2.2.1 E.2.2.2.2.2.2.2.1 (by omega)) (ev_bz (fun b => ?_) (fun b => ?_)))))
    · rw [b]
      exact ev_gr hT.1 hF.1.2.2.2.2.2.2 (ev_gi hgT.1 hG.f10 (ev_cl rfl h (fun _ _ => rfl)))
    · rw [b]
      exact ev_cl rfl h (fun _ _ => rfl)
  rw [if_neg a3]
  refine ev_iqn rfl rfl (by omega) ?_
  by_cases a4 : a = 4
  · rw [if_pos a4]
    exact ev_iqp rfl rfl (by omega) (ev_gr hT.1 hF.1.2.2.2.2.2.2 (ev_gi hgT.1 hG.f11 (ev_cl rfl h (fun _ _ => rfl))))
  rw [if_neg a4]
  refine ev_iqn rfl rfl (by omega) ?_
  by_cases a5 : a = 5
  · rw [if_pos a5]
    exact ev_iqp rfl rfl (by omega) (ev_gr hT.1 hF.1.2.2.2.2.1 (ev_gi hlT.1 hL.1.2.2.2.1 (ev_cl (by (try dsimp only); rw [List.length_map]) h (fun _ _ => rfl))))
  rw [if_neg a5]
  refine ev_iqn rfl rfl (by omega) ?_
  by_cases a6 : a = 6
  · rw [if_pos a6]
    exact ev_iqp rfl rfl (by omega) (ev_gr hT.1 hF.1.2.2.2.2.2.2 (ev_tg hgT.1 (ev_eq (X4_queenHolder_eq hgT E.1.1 hG.1 hG.2.1 hlt E.2.2.1 E.2.2.2.2.2.2.2.1 (by omega)) (ev_cl rfl h (fun _ _ => rfl)))))
  rw [if_neg a6]
  refine ev_iqn rfl rfl (by omega) ?_
  by_cases a7 : a = 7
  · rw [if_pos a7]
    exact ev_iqp rfl rfl (by omega) (ev_gr hT.1 hF.1.2.2.2.2.2.2 (ev_tg hgT.1 (ev_eq (X4_loser_eq hgT E.1.1 hG.1 hG.2.1 hlt E.2.2.1 E.2.2.2.2.2.2.2.1 (by omega)) (ev_cl rfl h (fun _ _ => rfl)))))
  rw [if_neg a7]
  refine ev_iqn rfl rfl (by omega) ?_
  by_cases a8 : a = 8
  · rw [if_pos a8]
    exact ev_iqp rfl rfl (by omega) (ev_gi hT.1 hF.2.2.2.1 (ev_cl rfl h (fun _ _ => rfl)))
  rw [if_neg a8]
  refine ev_iqn rfl rfl (by omega) ?_
  by_cases a9 : a = 9
  · rw [if_pos a9]
    exact ev_iqp rfl rfl (by omega) (ev_gi hT.1 hF.2.2.2.2.2.1 (ev_cl rfl h (fun _ _ => rfl)))
  rw [if_neg a9]
  refine ev_iqn rfl rfl (by omega) ?_
  by_cases a10 : a = 10
  · rw [if_pos a10]
    exact ev_iqp rfl rfl (by omega) (ev_gi hT.1 hF.2.2.2.2.2.2 (ev_cl rfl h (fun _ _ => rfl)))
  rw [if_neg a10]
  exact ev_iqn rfl rfl (by omega) (ev_ret ⟨rfl, h, fun _ _ => rfl⟩)
theorem ml_count {m : mm_V} {a : Int} (ha : i32 a) (hT : imT e q) (hp : pureI C G M K) (h : IM e m q C G M) : Ev (X12_count e q (zI a) m) (mlS (cntA C G M a) e q C G M m) := by
  have hN := hT.2.1
  have hT := hT.1
  have ok := hp.2.2.1.1
  have h0 := h.th (zI 0)
  have z0 : (mm_up m q 0 (.int (zI 0))) q 0 = .int (zI 0) := up_at _ _ _ _
  have fr : ∀ b, (b < q ∨ q + 40 ≤ b) → (mm_up m q 0 (.int (zI 0))) b = m b := fr_th
  have ha' := ha
  unfold i32 at ha
  unfold X12_count X12_count_b138
  simp only [LT, zI_neg]
  refine ev_pf hT.me ?_
  generalize mm_up m q 0 (.int (zI 0)) = m0 at h0 z0 fr
  rw [X12_within_eq ha' ⟨by omega, by omega⟩ ⟨by omega, by omega⟩]
  obtain ⟨g1, ⟨g2, g3, g4, g5, g6, g7⟩, ⟨g8, g9, g10, g11, g12⟩, g13, ⟨-, g14, g14'⟩, g15, g16⟩ := id h0
  have S := g1.2.1
  have hlt := ok.1.lt g1.2.2.2.2.2.2.2.2
  have r14 := hT.now_
  rw [Option.bind_some]
  dsimp only
  unfold cntA
  by_cases hw : 0 ≤ a ∧ a ≤ 10
  · rw [decide_eq_true hw, show bZ true = zI 1 from rfl, X12_right_1 hT z0, Option.bind_some]
    dsimp only
    rw [if_pos (show ¬ zI 1 = zI 0 by decide)]
    by_cases a0 : a = 0
    · rw [if_pos a0]
      exact ev_iqp rfl rfl (by omega) (ev_gi hT.me g1.2.2.1 (ev_ml rfl z0 h0 fr))
    rw [if_neg a0]
    refine ev_iqn rfl rfl (by omega) ?_
    by_cases a1 : a = 1
    · rw [if_pos a1]
      exact ev_iqp rfl rfl (by omega) (ev_gi hT.me g1.2.2.2.1 (ev_ml rfl z0 h0 fr))
    rw [if_neg a1]
    refine ev_iqn rfl rfl (by omega) ?_
    by_cases a2 : a = 2
    · rw [if_pos a2]
      exact ev_iqp rfl rfl (by omega) (ev_gi hT.me g2 (ev_ml rfl z0 h0 fr))
    rw [if_neg a2]
    refine ev_iqn rfl rfl (by omega) ?_
    by_cases a3 : a = 3
    · rw [if_pos a3]
      exact ev_iqp rfl rfl (by omega) (ev_gr hT.me S.now_ (ev_ai 0 r14 rfl (by omega) (by omega) g14.2.1 (ev_ml rfl z0 h0 fr)))
    rw [if_neg a3]
    refine ev_iqn rfl rfl (by omega) ?_
    by_cases a4 : a = 4
    · rw [if_pos a4]
      exact ev_iqp rfl rfl (by omega) (ev_gr hT.me S.now_ (ev_ai 1 r14 rfl (by omega) (by omega) g14.2.2.1 (ev_ml rfl z0 h0 fr)))
    rw [if_neg a4]
    refine ev_iqn rfl rfl (by omega) ?_
    by_cases a5 : a = 5
    · rw [if_pos a5]
      exact ev_iqp rfl rfl (by omega) (ev_gi hT.me g15.1 (ev_ml (by (try dsimp only); rw [List.length_map]) z0 h0 fr))
    rw [if_neg a5]
    refine ev_iqn rfl rfl (by omega) ?_
    by_cases a6 : a = 6
    · rw [if_pos a6]
      exact ev_iqp rfl rfl (by omega) (ev_gr hT.me S.now_ (ev_eq (X12_queen_eq r14 hT.me g14.1 hlt g1.2.2.1 g1.2.2.2.2.2.2.2.1 (by omega)) (ev_ml rfl z0 h0 fr)))
    rw [if_neg a6]
    refine ev_iqn rfl rfl (by omega) ?_
    by_cases a7 : a = 7
    · rw [if_pos a7]
      refine ev_iqp rfl rfl (by omega) (ev_gr hT.me S.now_ (ev_eq (X12_isOver_eq r14 hT.me g14.1 g1.2.2.1 g1.2.2.2.2.2.2.2.1 (by omega)) (ev_bz (fun b => ?_) (fun b => ?_))))
      · exact ev_ml (by unfold lsr; rw [b]; rfl) z0 h0 fr
      · exact ev_gr hT.me S.now_ (ev_eq (X12_queen_eq r14 hT.me g14.1 hlt g1.2.2.1 g1.2.2.2.2.2.2.2.1 (by omega)) (ev_ml (by unfold lsr; rw [b]; rfl) z0 h0 fr))
    rw [if_neg a7]
    refine ev_iqn rfl rfl (by omega) ?_
    by_cases a8 : a = 8
    · rw [if_pos a8]
      exact ev_iqp rfl rfl (by omega) (ev_gi hT.me g3 (ev_ml rfl z0 h0 fr))
    rw [if_neg a8]
    refine ev_iqn rfl rfl (by omega) (ev_gr hT.me S.refused_ ?_)
    by_cases a9 : a = 9
    · rw [if_pos a9]
      exact ev_ai 0 hT.refused_ (by (try dsimp only); rw [a9]; rfl) (by omega) (by omega) g9 (ev_ml rfl z0 h0 fr)
    rw [if_neg a9]
    have a10 : a = 10 := by omega
    rw [if_pos a10]
    exact ev_ai 1 hT.refused_ (by (try dsimp only); rw [a10]; rfl) (by omega) (by omega) g10 (ev_ml rfl z0 h0 fr)
  · rw [decide_eq_false hw, show bZ false = zI 0 from rfl, X12_right_0 hT z0 (by decide), Option.bind_some]
    dsimp only
    rw [if_neg (show ¬ ¬ zI 0 = zI 0 from fun h => h rfl)]
    iterate 11 rw [if_neg (by omega)]
    exact ev_mlx rfl (up_at _ _ _ _) (h0.th _) (fun b hb => by (try dsimp only); rw [up_row _ _ _ (by omega)]; exact fr b hb)
end CA1
