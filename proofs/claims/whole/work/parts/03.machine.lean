/-! A SMALL MACHINE over the kit's W. A heap is a pair: tags (address to tag and length) and contents (address and place to value). Tags 0 to 12: the classes of vwCl; 20 to 25: arrays; 30: a String constant; 31: the law's script. mm_G: from here the method comes to its told end. mm_Cn: a method's contract at given arguments and heap. -/
abbrev mm_T : Type := Nat → Option (Nat × Nat)
abbrev mm_V : Type := Nat → Nat → Value
abbrev mm_H : Type := mm_T × mm_V
/-- a method: name, code, locals, what it returns, its handlers -/
abbrev mm_M : Type := MethodName × ByteArray × Nat × Option FieldType × List (Nat × Nat × Nat × Nat)
/-- a run of the law: launch, the state at its entry, its arguments, class numbers and slots, array classes (20 to 25) and the addresses of String constants (100 on) -/
abbrev mm_K : Type := Launch × State × Array Value × va_G × (Nat → ClassId)
/-- how a method ends: cells and slots that it may make, the answer or the class of what it throws, the heap, its size if that is known -/
abbrev mm_F : Type := Nat × Nat × (Option Value ⊕ String) × mm_H × Option Nat
def mm_base (K : mm_K) : Nat := K.2.1.heap.size
def mm_aty (t : Nat) : FieldType := match t with
  | 20 => .int
  | 21 => .long
  | 22 => .boolean
  | 23 => .object "SootQueen$Fan"
  | 24 => .object "SootQueen$Draw"
  | _ => .object "SootQueen$Game"
/-- the String constants: class, entry, text -/
def mm_sc (i : Nat) : String × Nat × String := match i with
  | 0 => ("SootQueen$Reader", 86, "people")
  | 1 => ("SootQueen$Reader", 92, "pairs")
  | 2 => ("SootQueen$Reader", 94, "seed")
  | 3 => ("SootQueen$Reader", 96, "fan")
  | 4 => ("SootQueen$Reader", 98, "draws")
  | 5 => ("SootQueen$Reader", 100, "holds")
  | 6 => ("SootQueen$Reader", 102, "habits")
  | 7 => ("SootQueen$Reader", 134, "queen")
  | 8 => ("SootQueen$Compiler", 65, "not")
  | 9 => ("SootQueen$Compiler", 101, "size")
  | 10 => ("SootQueen$Compiler", 103, "own")
  | 11 => ("SootQueen$Compiler", 105, "turn")
  | 12 => ("SootQueen$Compiler", 107, "me")
  | 13 => ("SootQueen$Compiler", 109, "last")
  | 14 => ("SootQueen$Compiler", 111, "card")
  | 15 => ("SootQueen$Compiler", 113, "or")
  | _ => ("SootQueen$Compiler", 115, "and")
def mm_sb : List (List Int32) := [[112, 101, 111, 112, 108, 101], [112, 97, 105, 114, 115], [115, 101, 101, 100], [102, 97, 110], [100, 114, 97, 119, 115], [104, 111, 108, 100, 115], [104, 97, 98, 105, 116, 115], [113, 117, 101, 101, 110], [110, 111, 116], [115, 105, 122, 101], [111, 119, 110], [116, 117, 114, 110], [109, 101], [108, 97, 115, 116], [99, 97, 114, 100], [111, 114], [97, 110, 100]]
def mm_sl : List Nat := [6, 5, 4, 3, 5, 5, 6, 5, 3, 4, 3, 4, 2, 4, 4, 2, 3]
def mm_strs (K : mm_K) : Prop := ∃ adV : Nat → Nat, vk_S 17 mm_sl mm_sb (fun i => K.2.2.2.2 (100 + i)) adV (fun q => mm_base K ≤ q) K.2.1 K.2.1.heap ∧ ∀ i : Nat, i < 17 → vk_R (mm_sc i).1 (mm_sc i).2.1 (mm_sc i).2.2 (K.2.2.2.2 (100 + i)) K.2.1
def mm_ok (K : mm_K) : Prop :=
  K.1.stackTraces = false ∧ (∀ w ∈ lw_tbl, w.before K.2.2.1 K.2.1 = true) ∧ (∀ (t : Nat) (q : vw_C), vwCl[t]? = some q → u_Kn K.2.1 q.1 q.2.1 q.2.2 (K.2.2.2.1.1 t) (K.2.2.2.1.2 t)) ∧
  (∀ t : Nat, 20 ≤ t → t ≤ 25 → ArrOfT K.2.1 (K.2.2.2.2 t) (mm_aty t) ∧ va_RA K.2.1 (K.2.2.2.2 t) (mm_aty t)) ∧
  vx_Zq Bundle.tN "UNASSIGNED_STACK" Bundle.steD (fun q => mm_base K ≤ q) K.2.1 K.2.1.heap ∧ vx_Zq Bundle.tN "SUPPRESSED_SENTINEL" Bundle.listD (fun q => mm_base K ≤ q) K.2.1 K.2.1.heap ∧ mm_strs K ∧
  va_Z "java/lang/String" "COMPACT_STRINGS" "Z" (.int 1) (fun q => mm_base K ≤ q) K.2.1 K.2.1.heap ∧ va_Zq "jdk/internal/util/Preconditions" "SIOOBE_FORMATTER" "Ljava/util/function/BiFunction;" (fun q => mm_base K ≤ q) K.2.1 K.2.1.heap
/-- a cell of the small heap and a cell of the machine's -/
def mm_CR (K : mm_K) (t n : Nat) (f : Nat → Value) (cell : Cell) : Prop := cell.vm = .none ∧
  ((∃ q : vw_C, vwCl[t]? = some q ∧ n = q.2.2 ∧ cell.cls = K.2.2.2.1.1 t ∧ ∀ k : Nat, k < n → cell.slots[K.2.2.2.1.2 t k]? = some (f k)) ∨
   (20 ≤ t ∧ t ≤ 25 ∧ cell.cls = K.2.2.2.2 t ∧ cell.slots.size = n ∧ ∀ k : Nat, k < n → cell.slots[k]? = some (f k)))
/-- what is only read -/
def mm_RO (K : mm_K) (t a n : Nat) (f : Nat → Value) : Prop := a < mm_base K ∧
  ((t = 30 ∧ ∃ i : Nat, i < 17 ∧ a = K.2.2.2.2 (100 + i) ∧ n = mm_sl.getD i 0 ∧ ∀ k : Nat, k < n → f k = .int ((mm_sb.getD i []).getD k 0)) ∨
   (t = 31 ∧ n < 2 ^ 31 ∧ ∃ xs : Nat → Int32, va_X a n xs K.2.1 K.2.1.heap ∧ ∀ k : Nat, k < n → f k = .int (xs k)))
def mm_HR (K : mm_K) (h : mm_H) (nx : Option Nat) (H : Heap) : Prop :=
  (∀ a t n : Nat, h.1 a = some (t, n) → t < 30 → mm_base K ≤ a ∧ ∃ cell : Cell, H[a]? = some cell ∧ mm_CR K t n (h.2 a) cell) ∧ (∀ a t n : Nat, h.1 a = some (t, n) → 30 ≤ t → mm_RO K t a n (h.2 a)) ∧ (∀ n : Nat, nx = some n → H.size = n) ∧ (∀ q : Nat, q < mm_base K → H[q]? = K.2.1.heap[q]?) ∧ mm_base K ≤ H.size
def mm_lv (ls : Array Slot) (nL : Nat) (L : List (Option Value)) : Prop := ls.size = nL ∧ lv_wf ls ∧ ∀ (i : Nat) (v : Value), L[i]? = some (some v) → ls[i]? = some (.val v)
def mm_At (K : mm_K) (M : mm_M) (p : Program) (s : State) (m : MethodId) (meth : Method) (c : Code) : Prop :=
  p.tables.exec = Jvm.exec ∧ c.code = M.2.1 ∧ meth.sig.returnType = M.2.2.2.1 ∧ c.maxLocals = M.2.2.1 ∧ s.vm.findClass M.1.cls = some m.cls ∧ meth.locks = false ∧ meth.name = M.1.name ∧ c.exceptionTable.toList = tableOf M.2.2.2.2 ∧
  K.2.1.WarmedH s.vm ∧ (∀ q : Nat, q < mm_base K → s.heap[q]? = K.2.1.heap[q]?) ∧ mm_base K ≤ s.heap.size ∧ mm_ok K
def mm_R (d : Nat) (F : mm_F) : Room := { frames := d, cells := F.1, slots := F.2.1, locals := 64 * d }
def mm_Qc (K : mm_K) (F : mm_F) : Array Value → State → Outcome → State → Prop := fun _ _ o t => ∃ v : Option Value, F.2.2.1 = .inl v ∧ o = .returned v ∧ mm_HR K F.2.2.2.1 F.2.2.2.2 t.heap
def mm_XC (K : mm_K) (F : mm_F) : String → State → State → Prop := fun E _ t => F.2.2.1 = .inr E ∧ mm_HR K F.2.2.2.1 F.2.2.2.2 t.heap
def mm_Pc (K : mm_K) (av : List Value) (h : mm_H) (nx : Option Nat) : Array Value → State → Prop := fun v U => v = av.toArray ∧ K.2.1.WarmedH U.vm ∧ mm_HR K h nx U.heap
def mm_G (K : mm_K) (M : mm_M) (d : Nat) (F : mm_F) (pc : Nat) (L : List (Option Value)) (S : List Value) (h : mm_H) (nx : Option Nat) (cells slots : Nat) : Prop :=
  ∀ (p : Program) (e : Env) (s : State) (m : MethodId) (args : Array Value) (below : List Frame) (meth : Method) (c : Code), mm_At K M p s m meth c →
    ∀ (H : Heap) (locs : List Loc) (ls : Array Slot), mm_HR K h nx H → s.heap.size ≤ H.size → (∀ z ∈ locs, mm_base K ≤ z.base) → mm_lv ls M.2.2.1 L →
      W p K.1 e (mm_R d F) s m args below meth c H locs cells slots (vx_MQ below (mm_Qc K F) (mm_XC K F) args s F.1 F.2.1 (fun q => mm_base K ≤ q)) (F0 m pc ls S)
def mm_Cn (K : mm_K) (M : mm_M) (d : Nat) (F : mm_F) (av : List Value) (h : mm_H) (nx : Option Nat) : Prop :=
  mm_ok K → vx_Met K.1 M.1 [Cond.code M.1 M.2.1 M.2.2.1 M.2.2.2.1] (mm_R d F) (mm_Pc K av h nx) (mm_Qc K F) (mm_XC K F) F.1 F.2.1 (fun q => mm_base K ≤ q)
def mm_CnW (K : mm_K) (M : mm_M) (d : Nat) (F : mm_F) (av : List Value) (h : mm_H) (nx : Option Nat) : Prop :=
  mm_ok K → vx_Met K.1 M.1 [Cond.codeWith M.1 M.2.1 M.2.2.1 M.2.2.2.1 M.2.2.2.2] (mm_R d F) (mm_Pc K av h nx) (mm_Qc K F) (mm_XC K F) F.1 F.2.1 (fun q => mm_base K ≤ q)
-- ===== what the context gives =====
theorem mm_w {K : mm_K} {M : mm_M} {p : Program} {s : State} {m : MethodId} {meth : Method} {c : Code} (A : mm_At K M p s m meth c) {w : Cond} (hw : w ∈ lw_tbl) (hg : goodWord w = true) (a' : Array Value) : w.before a' s = true :=
  word_at A.2.2.2.2.2.2.2.2.1 (good_of_word hg) (A.2.2.2.2.2.2.2.2.2.2.2.2.1 w hw)
theorem mm_kn {K : mm_K} {M : mm_M} {p : Program} {s : State} {m : MethodId} {meth : Method} {c : Code} (A : mm_At K M p s m meth c) {t : Nat} {q : vw_C} (hq : vwCl[t]? = some q) : u_Kn s q.1 q.2.1 q.2.2 (K.2.2.2.1.1 t) (K.2.2.2.1.2 t) :=
  u_Kn_moved A.2.2.2.2.2.2.2.2.1.alike (A.2.2.2.2.2.2.2.2.2.2.2.2.2.1 t q hq)
theorem mm_ar {K : mm_K} {M : mm_M} {p : Program} {s : State} {m : MethodId} {meth : Method} {c : Code} (A : mm_At K M p s m meth c) {t : Nat} (h1 : 20 ≤ t) (h2 : t ≤ 25) : ArrOfT s (K.2.2.2.2 t) (mm_aty t) ∧ va_RA s (K.2.2.2.2 t) (mm_aty t) := by
  obtain ⟨a, b⟩ := A.2.2.2.2.2.2.2.2.2.2.2.2.2.2.1 t h1 h2
  exact ⟨arrOfT_moved A.2.2.2.2.2.2.2.2.1.alike a, b.moved A.2.2.2.2.2.2.2.2.1.alike⟩
theorem mm_goodlay (C : String) (T : u_T) (k : Nat) : goodWord (u_lay C T k) = true := by
  unfold u_lay
  split <;> rfl
theorem mm_lays {K : mm_K} {M : mm_M} {p : Program} {s : State} {m : MethodId} {meth : Method} {c : Code} (A : mm_At K M p s m meth c) {t : Nat} {q : vw_C} (hq : vwCl[t]? = some q) (a' : Array Value) : ∀ w ∈ u_ws q.1 q.2.1 q.2.2, w.before a' s = true := by
  intro w hw
  obtain ⟨k, -, rfl⟩ := List.mem_map.mp hw
  exact mm_w A ((mm_cls t q hq).1 _ hw) (mm_goodlay _ _ _) a'
theorem mm_arr {K : mm_K} {M : mm_M} {p : Program} {s : State} {m : MethodId} {meth : Method} {c : Code} (A : mm_At K M p s m meth c) {t n : Nat} {f : Nat → Value} {cell : Cell} (h1 : 20 ≤ t) (hc : mm_CR K t n f cell) :
    s.isArrayOf cell (mm_aty t) ∧ cell.vm = .none ∧ cell.slots.size = n ∧ (∀ k : Nat, k < n → cell.slots[k]? = some (f k)) ∧ cell.cls = K.2.2.2.2 t ∧ t ≤ 25 := by
  obtain ⟨hv, h | ⟨-, h2, h3, h4, h5⟩⟩ := hc
  · obtain ⟨q, hq, -⟩ := h
    have : vwCl[t]? = none := List.getElem?_eq_none (by show 13 ≤ t; omega)
    rw [this] at hq; cases hq
  · obtain ⟨-, k, hk, comp, hkd⟩ := (mm_ar A h1 h2).1 0 (fun _ => .null)
    have hk' : s.vm.classes[K.2.2.2.2 t]? = some k := hk
    refine ⟨⟨fun z hz => ?_, k, ?_, comp, hkd⟩, hv, h4, h5, h3, h2⟩
    · rw [hv] at hz; cases hz
    · rw [h3]; exact hk'
theorem mm_obj {K : mm_K} {t n : Nat} {f : Nat → Value} {cell : Cell} (h1 : t < 13) (hc : mm_CR K t n f cell) :
    ∃ q : vw_C, vwCl[t]? = some q ∧ n = q.2.2 ∧ cell.cls = K.2.2.2.1.1 t ∧ cell.vm = .none ∧ ∀ k : Nat, k < n → cell.slots[K.2.2.2.1.2 t k]? = some (f k) := by
  obtain ⟨hv, h | ⟨h0, -⟩⟩ := hc
  · obtain ⟨q, a, b, c, d⟩ := h
    exact ⟨q, a, b, c, hv, d⟩
  · exact absurd h0 (by omega)
-- ===== heaps =====
def mm_up (m : mm_V) (a k : Nat) (v : Value) : mm_V := fun b j => if b = a ∧ j = k then v else m b j
def mm_tg (g : mm_T) (a t n : Nat) : mm_T := fun b => if b = a then some (t, n) else g b
def mm_nw (m : mm_V) (a : Nat) (f : Nat → Value) : mm_V := fun b => if b = a then f else m b
theorem mm_up_self (m : mm_V) (a k : Nat) (v : Value) : mm_up m a k v a = updV (m a) k v := by
  funext j; simp [mm_up, updV]
theorem mm_up_ne (m : mm_V) {a b : Nat} (k : Nat) (v : Value) (h : b ≠ a) : mm_up m a k v b = m b := by
  funext j; simp [mm_up, h]
theorem mm_HR.set {K : mm_K} {g : mm_T} {m : mm_V} {nx : Option Nat} {H H1 : Heap} {a t n k : Nat} {v : Value} {cell : Cell} (hH : mm_HR K (g, m) nx H) (ha : g a = some (t, n)) (ht : t < 30) (h1 : H1[a]? = some cell) (hc : mm_CR K t n (updV (m a) k v) cell) (hz : H1.size = H.size) (ho : ∀ q, q ≠ a → H1[q]? = H[q]?) : mm_HR K (g, mm_up m a k v) nx H1 := by
  obtain ⟨p1, p2, p3, p4, p5⟩ := hH
  have hb := (p1 a t n ha ht).1
  refine ⟨fun q t' n' hq ht' => ?_, fun q t' n' hq ht' => ?_, fun n hn => by rw [hz]; exact p3 n hn, fun q hq => by rw [ho q (by omega)]; exact p4 q hq, by rw [hz]; exact p5⟩
  · by_cases hqa : q = a
    · subst hqa
      cases ha.symm.trans hq
      exact ⟨hb, cell, h1, by show mm_CR K t n (mm_up m q k v q) cell; rw [mm_up_self]; exact hc⟩
    · obtain ⟨b1, c1, b2, b3⟩ := p1 q t' n' hq ht'
      exact ⟨b1, c1, by rw [ho q hqa]; exact b2, by show mm_CR K t' n' (mm_up m a k v q) c1; rw [mm_up_ne _ _ _ hqa]; exact b3⟩
  · have hqa : q ≠ a := by
      rintro rfl
      cases ha.symm.trans hq
      omega
    show mm_RO K t' q n' (mm_up m a k v q)
    rw [mm_up_ne _ _ _ hqa]
    exact p2 q t' n' hq ht'
theorem mm_HR.push {K : mm_K} {g : mm_T} {m : mm_V} {z t n : Nat} {f : Nat → Value} {H H1 : Heap} {cell : Cell} (hH : mm_HR K (g, m) (some z) H) (ht : t < 30) (h1 : H1[z]? = some cell) (hc : mm_CR K t n f cell) (hz : H1.size = z + 1) (ho : ∀ q, q < z → H1[q]? = H[q]?) : mm_HR K (mm_tg g z t n, mm_nw m z f) (some (z + 1)) H1 := by
  obtain ⟨p1, p2, p3, p4, p5⟩ := hH
  have hn := p3 z rfl
  refine ⟨fun q t' n' hq ht' => ?_, fun q t' n' hq ht' => ?_, fun k hk => by cases hk; exact hz, fun q hq => by rw [ho q (by omega)]; exact p4 q hq, by omega⟩
  · by_cases hqa : q = z
    · subst hqa
      simp only [mm_tg, if_pos] at hq
      cases hq
      exact ⟨by omega, cell, h1, by show mm_CR K t n (mm_nw m q f q) cell; simp only [mm_nw, if_pos]; exact hc⟩
    · simp only [mm_tg, if_neg hqa] at hq
      obtain ⟨b1, c1, b2, b3⟩ := p1 q t' n' hq ht'
      have hlt : q < H.size := (Array.getElem?_eq_some_iff.mp b2).1
      exact ⟨b1, c1, by rw [ho q (by omega)]; exact b2, by show mm_CR K t' n' (mm_nw m z f q) c1; simp only [mm_nw, if_neg hqa]; exact b3⟩
  · have hqa : q ≠ z := by
      rintro rfl
      simp only [mm_tg, if_pos] at hq
      cases hq
      omega
    simp only [mm_tg, if_neg hqa] at hq
    simp only [mm_nw, if_neg hqa]
    exact p2 q t' n' hq ht'
/-- nothing of the small heap has changed -/
theorem mm_HR.grow {K : mm_K} {h : mm_H} {nx : Option Nat} {H H1 : Heap} (hH : mm_HR K h nx H) (hz : H.size ≤ H1.size) (ho : ∀ q : Nat, q < H.size → H1[q]? = H[q]?) : mm_HR K h none H1 := by
  obtain ⟨p1, p2, p3, p4, p5⟩ := hH
  refine ⟨fun q t n hq ht => ?_, p2, fun n hn => (by cases hn), fun q hq => by rw [ho q (by omega)]; exact p4 q hq, by omega⟩
  obtain ⟨b1, c1, b2, b3⟩ := p1 q t n hq ht
  exact ⟨b1, c1, by rw [ho q (Array.getElem?_eq_some_iff.mp b2).1]; exact b2, b3⟩
theorem mm_HR.none {K : mm_K} {h : mm_H} {nx : Option Nat} {H : Heap} (hH : mm_HR K h nx H) : mm_HR K h none H := hH.grow (Nat.le_refl _) (fun _ _ => rfl)
-- ===== locals =====
def mm_cl (L : List (Option Value)) (i : Nat) : List (Option Value) := match i with
  | 0 => L
  | j + 1 => match L[j]? with
    | some (some (.long _)) => L.set j none
    | some (some (.double _)) => L.set j none
    | _ => L
def mm_st1 (L : List (Option Value)) (i : Nat) (v : Value) : List (Option Value) := (mm_cl L i).set i (some v)
def mm_st2 (L : List (Option Value)) (i : Nat) (v : Value) : List (Option Value) := ((mm_cl L i).set i (some v)).set (i + 1) none
def mm_prs (L : List (Option Value)) : List (Nat × Value) := (List.range L.length).filterMap fun i => match L[i]? with
  | some (some v) => some (i, v)
  | _ => none
theorem mm_prs_mem {L : List (Option Value)} {i : Nat} {v : Value} : (i, v) ∈ mm_prs L ↔ L[i]? = some (some v) := by
  unfold mm_prs
  rw [List.mem_filterMap]
  constructor
  · rintro ⟨j, -, hj⟩
    split at hj
    · next w hw => cases hj; exact hw
    · cases hj
  · intro h
    refine ⟨i, List.mem_range.mpr (List.getElem?_eq_some_iff.mp h).1, ?_⟩
    rw [h]
theorem mm_lv.has {ls : Array Slot} {n : Nat} {L : List (Option Value)} (h : mm_lv ls n L) : lv_has ls n (mm_prs L) := ⟨h.1, h.2.1, fun q hq => h.2.2 q.1 q.2 (mm_prs_mem.mp hq)⟩
theorem mm_cl_get {L : List (Option Value)} {i j : Nat} {v : Value} (h : (mm_cl L i)[j]? = some (some v)) : L[j]? = some (some v) ∧ ¬ (j + 1 = i ∧ v.category = 2) := by
  cases i with
  | zero => exact ⟨h, fun q => by omega⟩
  | succ k =>
    unfold mm_cl at h
    simp only at h
    by_cases hjk : j = k
    · subst hjk
      split at h
      · next w hw =>
        rw [List.getElem?_set_self (List.getElem?_eq_some_iff.mp hw).1] at h
        cases h
      · next w hw =>
        rw [List.getElem?_set_self (List.getElem?_eq_some_iff.mp hw).1] at h
        cases h
      · next h1 h2 =>
        refine ⟨h, fun q => ?_⟩
        cases v with
        | long w => exact h1 w h
        | double w => exact h2 w h
        | _ => exact absurd q.2 (by simp [Value.category])
    · have h' : L[j]? = some (some v) := by
        split at h
        · rw [List.getElem?_set_ne (Ne.symm hjk)] at h; exact h
        · rw [List.getElem?_set_ne (Ne.symm hjk)] at h; exact h
        · exact h
      exact ⟨h', fun q => hjk (by omega)⟩
theorem mm_lv.st1 {ls' : Array Slot} {n : Nat} {L : List (Option Value)} {i : Nat} {v : Value} (h' : lv_has ls' n ((i, v) :: (mm_prs L).filter (fun q => !(q.1 == i) && !(q.1 + 1 == i && q.2.category == 2)))) : mm_lv ls' n (mm_st1 L i v) := by
  refine ⟨h'.1, h'.2.1, fun j w hj => ?_⟩
  unfold mm_st1 at hj
  by_cases hji : i = j
  · subst hji
    have hlt : i < (mm_cl L i).length := by
      have := (List.getElem?_eq_some_iff.mp hj).1
      simpa using this
    rw [List.getElem?_set_self hlt] at hj
    cases hj
    exact h'.2.2 (i, v) List.mem_cons_self
  · rw [List.getElem?_set_ne hji] at hj
    obtain ⟨h1, h2⟩ := mm_cl_get hj
    refine h'.2.2 (j, w) (List.mem_cons_of_mem _ (List.mem_filter.mpr ⟨mm_prs_mem.mpr h1, ?_⟩))
    simp only [Bool.and_eq_true, Bool.not_eq_true', beq_eq_false_iff_ne, ne_eq, Bool.and_eq_false_iff]
    refine ⟨fun q => hji q.symm, ?_⟩
    by_cases hq : j + 1 = i
    · exact Or.inr fun q => h2 ⟨hq, q⟩
    · exact Or.inl hq
theorem mm_lv.st2 {ls' : Array Slot} {n : Nat} {L : List (Option Value)} {i : Nat} {v : Value} (h' : lv_has ls' n ((i, v) :: (mm_prs L).filter (fun q => !(q.1 == i) && (!(q.1 == i + 1) && !(q.1 + 1 == i && q.2.category == 2))))) : mm_lv ls' n (mm_st2 L i v) := by
  refine ⟨h'.1, h'.2.1, fun j w hj => ?_⟩
  unfold mm_st2 at hj
  by_cases hj1 : i + 1 = j
  · subst hj1
    have hlt : i + 1 < ((mm_cl L i).set i (some v)).length := by
      have := (List.getElem?_eq_some_iff.mp hj).1
      simpa using this
    rw [List.getElem?_set_self hlt] at hj
    cases hj
  rw [List.getElem?_set_ne hj1] at hj
  by_cases hji : i = j
  · subst hji
    have hlt : i < (mm_cl L i).length := by
      have := (List.getElem?_eq_some_iff.mp hj).1
      simpa using this
    rw [List.getElem?_set_self hlt] at hj
    cases hj
    exact h'.2.2 (i, v) List.mem_cons_self
  · rw [List.getElem?_set_ne hji] at hj
    obtain ⟨h1, h2⟩ := mm_cl_get hj
    refine h'.2.2 (j, w) (List.mem_cons_of_mem _ (List.mem_filter.mpr ⟨mm_prs_mem.mpr h1, ?_⟩))
    simp only [Bool.and_eq_true, Bool.not_eq_true', beq_eq_false_iff_ne, ne_eq, Bool.and_eq_false_iff]
    refine ⟨fun q => hji q.symm, fun q => hj1 q.symm, ?_⟩
    by_cases hq : j + 1 = i
    · exact Or.inr fun q => h2 ⟨hq, q⟩
    · exact Or.inl hq
