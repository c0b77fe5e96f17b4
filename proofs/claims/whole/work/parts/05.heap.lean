/-! Rows of the small machine that touch the heap; 'mm_g..', 'mm_a..' read, 'mm_p..', 'mm_s..' write: a method as a function is made of these. -/
def mm_FL (own : String) (idx t k n : Nat) : Prop := ∃ q : vw_C, vwCl[t]? = some q ∧ q.2.2 = n ∧ k < n ∧ t < 13 ∧ (Cond.fieldLink own idx (q.2.1 k).1 (q.2.1 k).2.1 (q.2.1 k).2.2.1 ∈ lw_tbl ∨ ∃ host : String, Cond.fieldLinkNest own idx (q.2.1 k).1 (q.2.1 k).2.1 (q.2.1 k).2.2.1 host ∈ lw_tbl)
def mm_FP (own : String) (idx t k n : Nat) (ty : FieldType) : Prop := mm_FL own idx t k n ∧ ∃ q : vw_C, vwCl[t]? = some q ∧ (q.2.1 k).2.2.2 = false ∧ parseFieldDescriptor (q.2.1 k).2.2.1 = some ty
def mm_FI (own : String) (idx t k n : Nat) (ty : FieldType) : Prop := ∃ q : vw_C, vwCl[t]? = some q ∧ q.2.2 = n ∧ k < n ∧ t < 13 ∧ (Cond.fieldLink own idx (q.2.1 k).1 (q.2.1 k).2.1 (q.2.1 k).2.2.1 ∈ lw_tbl) ∧ (q.2.1 k).2.2.2 = true ∧ (q.2.1 k).1 = own ∧ parseFieldDescriptor (q.2.1 k).2.2.1 = some ty
section MG2
variable {K : mm_K} {M : mm_M} {d : Nat} {F : mm_F} {pc : Nat} {L : List (Option Value)} {S : List Value} {g : mm_T} {m : mm_V} {nx : Option Nat} {cells slots : Nat}
theorem mm_wF {p : Program} {s : State} {mi : MethodId} {meth : Method} {c : Code} (A : mm_At K M p s mi meth c) {a b n e h : String} {i : Nat} (hw : Cond.fieldLinkNest a i b n e h ∈ lw_tbl) (a' : Array Value) : (Cond.fieldLinkNest a i b n e h).before a' s = true :=
  va_Nw.use rfl (va_Nw.warmF A.2.2.2.2.2.2.2.2.1 (va_Nw.of rfl (A.2.2.2.2.2.2.2.2.2.2.2.2.1 _ hw)))
theorem mm_wM {p : Program} {s : State} {mi : MethodId} {meth : Method} {c : Code} (A : mm_At K M p s mi meth c) {a h : String} {x : MethodName} {i : Nat} (hw : Cond.methodLinkNest a i x h ∈ lw_tbl) : va_Nw (Cond.methodLinkNest a i x h) s :=
  va_Nw.warmM A.2.2.2.2.2.2.2.2.1 (va_Nw.of rfl (A.2.2.2.2.2.2.2.2.2.2.2.2.1 _ hw))
theorem mm_va {p : Program} {s : State} {mi : MethodId} {meth : Method} {c : Code} (A : mm_At K M p s mi meth c) : va_K K.2.2.2.1 vwCl [] s := ⟨fun t q hq => mm_kn A hq, fun t x hx => by cases hx⟩
theorem mm_apart {p : Program} {s : State} {mi : MethodId} {meth : Method} {c : Code} (A : mm_At K M p s mi meth c) {t : Nat} {q : vw_C} (hq : vwCl[t]? = some q) : ∀ x y, x < q.2.2 → y < q.2.2 → x ≠ y → K.2.2.2.1.2 t x ≠ K.2.2.2.1.2 t y := by
  obtain ⟨-, hnm, ty, hty⟩ := mm_cls t q hq
  exact va_apart (own := "") (args := #[]) (mm_lays A hq #[]) (fun w h => h) ty hty hnm (mm_va A) hq
theorem mg_getf {idx t k n a : Nat} (hd : decode M.2.1 pc = .ok (.getfield idx, 3)) (hf : mm_FL M.1.cls idx t k n) (ha : g a = some (t, n)) (kk : mm_G K M d F (pc + 3) L (m a k :: S) (g, m) nx cells slots) : mm_G K M d F pc L (.ref a :: S) (g, m) nx cells slots := by
  intro p e s mi args below meth c A H locs ls hH hz hl hv
  obtain ⟨q, hq, hn, hk, ht, hlk⟩ := hf
  obtain ⟨-, cell, hc1, hc2⟩ := hH.1 a t n ha (by omega)
  obtain ⟨q', hq', hn', hcl, hvm, hsl⟩ := mm_obj ht hc2
  cases hq.symm.trans hq'
  obtain ⟨hS, hfc, kC, hkC, hkind⟩ := mm_kn A hq
  obtain ⟨cf, kf, fi, f, hi, hslot⟩ := hS k (by omega)
  have hlay := u_lays (mm_lays A hq args) (fun w h => h) (k := k) (by omega)
  have hst := (u_facts hfc hkC hlay hi).1
  have hval : cell.slots[f.slot]? = some (m a k) := by rw [hslot]; exact hsl k hk
  rcases hlk with hlk | ⟨host, hlk⟩
  · exact W.getf A.1 A.2.1 A.2.2.2.2.1 (mm_w A hlk rfl args) hi hst hc1 (by rw [hvm]; exact fun h => by cases h) hval rfl rfl hd (kk p e s mi args below meth c A H locs ls hH hz hl hv)
  · exact va_Wgetf A.1 A.2.1 A.2.2.2.2.1 (mm_wF A hlk args) hi hst hc1 (by rw [hvm]; exact fun h => by cases h) hval rfl rfl hd (kk p e s mi args below meth c A H locs ls hH hz hl hv)
theorem mm_locs {locs : List Loc} {b i : Nat} (hl : ∀ z ∈ locs, mm_base K ≤ z.base) (hb : mm_base K ≤ b) : ∀ z ∈ locs ++ [(⟨b, i⟩ : Loc)], mm_base K ≤ z.base := by
  intro z hz
  rcases List.mem_append.mp hz with h | h
  · exact hl z h
  · cases List.mem_singleton.mp h; exact hb
theorem mg_putf {idx t k n a : Nat} {v : Value} {ty : FieldType} (hd : decode M.2.1 pc = .ok (.putfield idx, 3)) (hf : mm_FP M.1.cls idx t k n ty) (hn : narrow ty v = v) (hfit : fits ty v = true) (ha : g a = some (t, n)) (kk : mm_G K M d F (pc + 3) L S (g, mm_up m a k v) nx cells slots) : mm_G K M d F pc L (v :: .ref a :: S) (g, m) nx cells slots := by
  intro p e s mi args below meth c A H locs ls hH hz hl hv
  obtain ⟨⟨q, hq, hn', hk, ht, hlk⟩, q1, hq1, hfin, hty⟩ := hf
  cases hq.symm.trans hq1
  obtain ⟨hba, cell, hc1, hc2⟩ := hH.1 a t n ha (by omega)
  obtain ⟨q', hq', hn'', hcl, hvm, hsl⟩ := mm_obj ht hc2
  cases hq.symm.trans hq'
  obtain ⟨hS, hfc, kC, hkC, hkind⟩ := mm_kn A hq
  obtain ⟨cf, kf, fi, f, hi, hslot⟩ := hS k (by omega)
  have hlays := mm_lays A hq args
  have hlay := hlays _ (u_in_lay (k := k) (by omega))
  unfold u_lay at hlay
  rw [if_neg (by rw [hfin]; decide)] at hlay
  have hst := (u_facts hfc hkC (u_lays hlays (fun w h => h) (k := k) (by omega)) hi).1
  have h6 := u_store hfc hkC hkind hlay hi hty hn hfit
  have hap := mm_apart A hq
  have hnew : ∀ H' : Heap, H'[a]? = some (cell.setSlot f.slot v) → H'.size = H.size → (∀ z, z ≠ a → H'[z]? = H[z]?) → W p K.1 e (mm_R d F) s mi args below meth c H' (locs ++ [⟨a, f.slot⟩]) cells slots (vx_MQ below (mm_Qc K F) (mm_XC K F) args s F.1 F.2.1 (fun q => mm_base K ≤ q)) (F0 mi (pc + 3) ls S) := by
    intro H' e1 e2 e3
    rw [hslot] at e1 ⊢
    refine kk p e s mi args below meth c A H' _ ls (hH.set (k := k) (v := v) ha (by omega) e1 ⟨hvm, Or.inl ⟨q, hq, hn'', hcl, ?_⟩⟩ e2 e3) (by omega) (mm_locs hl hba) hv
    have := t_set (cell := cell) (N := n) (iS := K.2.2.2.1.2 t) (V := m a) hsl (fun x y hx hy => hap x y (by omega) (by omega)) hk v
    exact this
  rcases hlk with hlk | ⟨host, hlk⟩
  · exact W.putK A.1 A.2.1 (f := f) ⟨A.2.2.2.2.1, mm_w A hlk rfl args, ⟨_, _, _, hi⟩, hst⟩ (by rw [hcl]; exact h6) hc1 hvm (by rw [hslot]; exact k2_hasslot (hsl k hk)) rfl rfl hd hnew
  · exact va_WputK A.1 A.2.1 A.2.2.2.2.1 (mm_wF A hlk args) hi hst (by rw [hcl]; exact h6) hc1 hvm (by rw [hslot]; exact k2_hasslot (hsl k hk)) rfl rfl hd hnew
/-- a final field, in its class's own maker -/
theorem mg_putF {idx t k n a : Nat} {v : Value} {ty : FieldType} (hd : decode M.2.1 pc = .ok (.putfield idx, 3)) (hf : mm_FI M.1.cls idx t k n ty) (hM : M.1.name = "<init>") (hn : narrow ty v = v) (hfit : fits ty v = true) (ha : g a = some (t, n)) (kk : mm_G K M d F (pc + 3) L S (g, mm_up m a k v) nx cells slots) : mm_G K M d F pc L (v :: .ref a :: S) (g, m) nx cells slots := by
  intro p e s mi args below meth c A H locs ls hH hz hl hv
  obtain ⟨q, hq, hn', hk, ht, hlk, hfin, hdecl, hty⟩ := hf
  obtain ⟨hba, cell, hc1, hc2⟩ := hH.1 a t n ha (by omega)
  obtain ⟨q', hq', hn'', hcl, hvm, hsl⟩ := mm_obj ht hc2
  cases hq.symm.trans hq'
  obtain ⟨hS, hfc, kC, hkC, hkind⟩ := mm_kn A hq
  obtain ⟨cf, kf, fi, f, hi, hslot⟩ := hS k (by omega)
  have hlays := mm_lays A hq args
  have hlay := hlays _ (u_in_lay (k := k) (by omega))
  unfold u_lay at hlay
  rw [if_pos hfin] at hlay
  have hst := (u_facts hfc hkC (u_lays hlays (fun w h => h) (k := k) (by omega)) hi).1
  have hcf : mi.cls = cf := by
    obtain ⟨_, _, c', _, _, _, -, -, hf', -, -, -, hown2, -⟩ := Cond.laysFinal_spec hlay
    have e1 : c' = cf := by have := hi.symm.trans hf'; simp at this; exact this.1.symm
    rw [hdecl] at hown2
    rw [← e1]; exact Option.some.inj (A.2.2.2.2.1.symm.trans hown2)
  have h6 := u_fits hfc hkC hkind (Or.inr hlay) hi hty hn hfit
  have hap := mm_apart A hq
  refine W.putFinK A.1 A.2.1 A.2.2.2.2.1 (mm_w A hlk rfl args) hi hst hcf (A.2.2.2.2.2.2.1.trans hM) (by rw [hcl]; exact h6) hc1 hvm (by rw [hslot]; exact k2_hasslot (hsl k hk)) rfl rfl hd fun H' e1 e2 e3 => ?_
  rw [hslot] at e1 ⊢
  refine kk p e s mi args below meth c A H' _ ls (hH.set (k := k) (v := v) ha (by omega) e1 ⟨hvm, Or.inl ⟨q, hq, hn'', hcl, ?_⟩⟩ e2 e3) (by omega) (mm_locs hl hba) hv
  exact t_set (cell := cell) (N := n) (iS := K.2.2.2.1.2 t) (V := m a) hsl (fun x y hx hy => hap x y (by omega) (by omega)) hk v
-- arrays
theorem mm_setA {t n : Nat} {f : Nat → Value} {cell : Cell} {k : Nat} {v : Value} (h : mm_CR K t n f cell) (ht : 20 ≤ t) (hk : k < n) : mm_CR K t n (updV f k v) (cell.setSlot k v) := by
  obtain ⟨hv, ⟨q, hq, -⟩ | ⟨h1, h2, h3, h4, h5⟩⟩ := h
  · have : vwCl[t]? = none := List.getElem?_eq_none (by show 13 ≤ t; omega)
    rw [this] at hq; cases hq
  · refine ⟨hv, Or.inr ⟨h1, h2, h3, ?_, fun j hj => ?_⟩⟩
    · show (cell.slots.setIfInBounds k v).size = n
      simpa using h4
    · show (cell.slots.setIfInBounds k v)[j]? = some (updV f k v j)
      rw [Array.getElem?_setIfInBounds]
      by_cases hjk : k = j
      · subst hjk
        rw [if_pos rfl, if_pos (by omega)]
        simp [updV]
      · rw [if_neg hjk, h5 j hj]
        simp [updV, Ne.symm hjk]
theorem mm_acell {p : Program} {s : State} {mi : MethodId} {meth : Method} {c : Code} (A : mm_At K M p s mi meth c) {H : Heap} {a t n : Nat} (hH : mm_HR K (g, m) nx H) (ha : g a = some (t, n)) (h1 : 20 ≤ t) (h2 : t ≤ 25) :
    mm_base K ≤ a ∧ ∃ cell : Cell, H[a]? = some cell ∧ mm_CR K t n (m a) cell ∧ s.isArrayOf cell (mm_aty t) ∧ cell.vm = .none ∧ cell.slots.size = n ∧ (∀ k : Nat, k < n → cell.slots[k]? = some (m a k)) ∧ cell.cls = K.2.2.2.2 t := by
  obtain ⟨hb, cell, hc1, hc2⟩ := hH.1 a t n ha (by omega)
  obtain ⟨q1, q2, q3, q4, q5, -⟩ := mm_arr A h1 hc2
  exact ⟨hb, cell, hc1, hc2, q1, q2, q3, q4, q5⟩
theorem mg_iald {a n : Nat} {i : Int32} (hd : decode M.2.1 pc = .ok (.iaload, 1)) (ha : g a = some (20, n)) (hi : ¬ i < 0) (hn : i.toNatClampNeg < n) (kk : mm_G K M d F (pc + 1) L (m a i.toNatClampNeg :: S) (g, m) nx cells slots) : mm_G K M d F pc L (.int i :: .ref a :: S) (g, m) nx cells slots := by
  intro p e s mi args below meth c A H locs ls hH hz hl hv
  obtain ⟨hb, cell, h1, -, h3, h4, h5, h6, -⟩ := mm_acell A hH ha (by decide) (by decide)
  exact W.iald A.1 A.2.1 h1 h3 (by rw [h4]; exact fun h => by cases h) (by rintro (h | h); exact hi h; omega) (h6 _ hn) rfl rfl hd (kk p e s mi args below meth c A H locs ls hH hz hl hv)
theorem mg_lald {a n : Nat} {i : Int32} (hd : decode M.2.1 pc = .ok (.laload, 1)) (ha : g a = some (21, n)) (hi : ¬ i < 0) (hn : i.toNatClampNeg < n) (kk : mm_G K M d F (pc + 1) L (m a i.toNatClampNeg :: S) (g, m) nx cells slots) : mm_G K M d F pc L (.int i :: .ref a :: S) (g, m) nx cells slots := by
  intro p e s mi args below meth c A H locs ls hH hz hl hv
  obtain ⟨hb, cell, h1, -, h3, h4, h5, h6, -⟩ := mm_acell A hH ha (by decide) (by decide)
  exact W.lald A.1 A.2.1 h1 h3 (by rw [h4]; exact fun h => by cases h) (by rintro (h | h); exact hi h; omega) (h6 _ hn) rfl rfl hd (kk p e s mi args below meth c A H locs ls hH hz hl hv)
theorem mg_zald {a n : Nat} {i : Int32} (hd : decode M.2.1 pc = .ok (.baload, 1)) (ha : g a = some (22, n)) (hi : ¬ i < 0) (hn : i.toNatClampNeg < n) (kk : mm_G K M d F (pc + 1) L (m a i.toNatClampNeg :: S) (g, m) nx cells slots) : mm_G K M d F pc L (.int i :: .ref a :: S) (g, m) nx cells slots := by
  intro p e s mi args below meth c A H locs ls hH hz hl hv
  obtain ⟨hb, cell, h1, -, h3, h4, h5, h6, -⟩ := mm_acell A hH ha (by decide) (by decide)
  exact W.zald A.1 A.2.1 h1 h3 (by rw [h4]; exact fun h => by cases h) (by rintro (h | h); exact hi h; omega) (h6 _ hn) rfl rfl hd (kk p e s mi args below meth c A H locs ls hH hz hl hv)
theorem mg_aald {a n t : Nat} {i : Int32} (hd : decode M.2.1 pc = .ok (.aaload, 1)) (ha : g a = some (t, n)) (ht : 23 ≤ t) (ht' : t ≤ 25) (hi : ¬ i < 0) (hn : i.toNatClampNeg < n) (kk : mm_G K M d F (pc + 1) L (m a i.toNatClampNeg :: S) (g, m) nx cells slots) : mm_G K M d F pc L (.int i :: .ref a :: S) (g, m) nx cells slots := by
  intro p e s mi args below meth c A H locs ls hH hz hl hv
  obtain ⟨hb, cell, h1, -, h3, h4, h5, h6, -⟩ := mm_acell A hH ha (by omega) ht'
  have hr : (mm_aty t).isReference = true := by
    have : t = 23 ∨ t = 24 ∨ t = 25 := by omega
    rcases this with rfl | rfl | rfl <;> rfl
  exact W.aald A.1 A.2.1 h1 h3 hr (by rw [h4]; exact fun h => by cases h) (by rintro (h | h); exact hi h; omega) (h6 _ hn) rfl rfl hd (kk p e s mi args below meth c A H locs ls hH hz hl hv)
theorem mg_iast {a n : Nat} {i : Int32} {x : Int32} (hd : decode M.2.1 pc = .ok (.iastore, 1)) (ha : g a = some (20, n)) (hi : ¬ i < 0) (hn : i.toNatClampNeg < n) (kk : mm_G K M d F (pc + 1) L S (g, mm_up m a i.toNatClampNeg (.int x)) nx cells slots) : mm_G K M d F pc L (.int x :: .int i :: .ref a :: S) (g, m) nx cells slots := by
  intro p e s mi args below meth c A H locs ls hH hz hl hv
  obtain ⟨hb, cell, h1, h2, h3, h4, h5, h6, -⟩ := mm_acell A hH ha (by decide) (by decide)
  refine W.iast A.1 A.2.1 h1 h3 (by rw [h4]; exact fun h => by cases h) (by rintro (h | h); exact hi h; omega) rfl rfl hd fun H' e1 e2 e3 => ?_
  exact kk p e s mi args below meth c A H' _ ls (hH.set ha (by decide) e1 (mm_setA h2 (by decide) hn) e2 e3) (by omega) (mm_locs hl hb) hv
theorem mg_last {a n : Nat} {i : Int32} {x : Int64} (hd : decode M.2.1 pc = .ok (.lastore, 1)) (ha : g a = some (21, n)) (hi : ¬ i < 0) (hn : i.toNatClampNeg < n) (kk : mm_G K M d F (pc + 1) L S (g, mm_up m a i.toNatClampNeg (.long x)) nx cells slots) : mm_G K M d F pc L (.long x :: .int i :: .ref a :: S) (g, m) nx cells slots := by
  intro p e s mi args below meth c A H locs ls hH hz hl hv
  obtain ⟨hb, cell, h1, h2, h3, h4, h5, h6, -⟩ := mm_acell A hH ha (by decide) (by decide)
  refine W.last A.1 A.2.1 h1 h3 (by rw [h4]; exact fun h => by cases h) (by rintro (h | h); exact hi h; omega) rfl rfl hd fun H' e1 e2 e3 => ?_
  exact kk p e s mi args below meth c A H' _ ls (hH.set ha (by decide) e1 (mm_setA h2 (by decide) hn) e2 e3) (by omega) (mm_locs hl hb) hv
theorem mg_zast {a n : Nat} {i : Int32} {x : Int32} (hd : decode M.2.1 pc = .ok (.bastore, 1)) (ha : g a = some (22, n)) (hi : ¬ i < 0) (hn : i.toNatClampNeg < n) (hx : x = 0 ∨ x = 1) (kk : mm_G K M d F (pc + 1) L S (g, mm_up m a i.toNatClampNeg (.int x)) nx cells slots) : mm_G K M d F pc L (.int x :: .int i :: .ref a :: S) (g, m) nx cells slots := by
  intro p e s mi args below meth c A H locs ls hH hz hl hv
  obtain ⟨hb, cell, h1, h2, h3, h4, h5, h6, -⟩ := mm_acell A hH ha (by decide) (by decide)
  have hnx : narrow .boolean (.int x) = .int x := by rcases hx with rfl | rfl <;> rfl
  refine W.zast A.1 A.2.1 h1 h3 (by rw [h4]; exact fun h => by cases h) (by rintro (h | h); exact hi h; omega) rfl rfl hd fun H' e1 e2 e3 => ?_
  rw [hnx] at e1
  exact kk p e s mi args below meth c A H' _ ls (hH.set ha (by decide) e1 (mm_setA h2 (by decide) hn) e2 e3) (by omega) (mm_locs hl hb) hv
theorem mg_alen {a n t : Nat} (hd : decode M.2.1 pc = .ok (.arraylength, 1)) (ha : g a = some (t, n)) (ht : 20 ≤ t) (ht' : t ≤ 25) (kk : mm_G K M d F (pc + 1) L (.int (nI n) :: S) (g, m) nx cells slots) : mm_G K M d F pc L (.ref a :: S) (g, m) nx cells slots := by
  intro p e s mi args below meth c A H locs ls hH hz hl hv
  obtain ⟨hb, cell, h1, -, h3, h4, h5, h6, -⟩ := mm_acell A hH ha ht ht'
  exact W.alen A.1 A.2.1 h1 h3 (n := nI n) (by rw [h5]; rfl) rfl rfl hd (kk p e s mi args below meth c A H locs ls hH hz hl hv)
theorem mm_scr {p : Program} {s : State} {mi : MethodId} {meth : Method} {c : Code} (A : mm_At K M p s mi meth c) {H : Heap} {a n : Nat} (hH : mm_HR K (g, m) nx H) (ha : g a = some (31, n)) : n < 2 ^ 31 ∧ ∃ cell : Cell, H[a]? = some cell ∧ s.isArrayOf cell .int ∧ cell.vm ≠ .unknown ∧ cell.slots.size = n ∧ ∀ k : Nat, k < n → cell.slots[k]? = some (m a k) := by
  obtain ⟨hb, ⟨h0, -⟩ | ⟨-, hn, xs, ⟨scr, h1, h2, h3, h4, h5⟩, h6⟩⟩ := hH.2.1 a 31 n ha (by decide)
  · cases h0
  · exact ⟨hn, scr, by rw [hH.2.2.2.1 a hb]; exact h1, State.isArrayOf_alike A.2.2.2.2.2.2.2.2.1.alike h2, h3, h4, fun k hk => by rw [h5 k hk]; exact congrArg some (h6 k hk).symm⟩
theorem mg_xald {a n : Nat} {i : Int32} (hd : decode M.2.1 pc = .ok (.iaload, 1)) (ha : g a = some (31, n)) (hi : ¬ i < 0) (hn : i.toNatClampNeg < n) (kk : mm_G K M d F (pc + 1) L (m a i.toNatClampNeg :: S) (g, m) nx cells slots) : mm_G K M d F pc L (.int i :: .ref a :: S) (g, m) nx cells slots := by
  intro p e s mi args below meth c A H locs ls hH hz hl hv
  obtain ⟨-, cell, h1, h3, h4, h5, h6⟩ := mm_scr A hH ha
  exact W.iald A.1 A.2.1 h1 h3 h4 (by rintro (h | h); exact hi h; omega) (h6 _ hn) rfl rfl hd (kk p e s mi args below meth c A H locs ls hH hz hl hv)
theorem mg_xlen {a n : Nat} (hd : decode M.2.1 pc = .ok (.arraylength, 1)) (ha : g a = some (31, n)) (kk : mm_G K M d F (pc + 1) L (.int (nI n) :: S) (g, m) nx cells slots) : mm_G K M d F pc L (.ref a :: S) (g, m) nx cells slots := by
  intro p e s mi args below meth c A H locs ls hH hz hl hv
  obtain ⟨-, cell, h1, h3, h4, h5, h6⟩ := mm_scr A hH ha
  exact W.alen A.1 A.2.1 h1 h3 (n := nI n) (by rw [h5]; rfl) rfl rfl hd (kk p e s mi args below meth c A H locs ls hH hz hl hv)
theorem mg_aast {a b n t t2 n2 : Nat} {i : Int32} (hd : decode M.2.1 pc = .ok (.aastore, 1)) (ha : g a = some (t, n)) (ht : 23 ≤ t) (ht' : t ≤ 25) (hi : ¬ i < 0) (hn : i.toNatClampNeg < n) (hb : g b = some (t2, n2)) (hq : ∃ q : vw_C, vwCl[t2]? = some q ∧ mm_aty t = .object q.1) (kk : mm_G K M d F (pc + 1) L S (g, mm_up m a i.toNatClampNeg (.ref b)) nx cells slots) : mm_G K M d F pc L (.ref b :: .int i :: .ref a :: S) (g, m) nx cells slots := by
  intro p e s mi args below meth c A H locs ls hH hz hl hv
  obtain ⟨hba, cell, h1, h2, h3, h4, h5, h6, h7⟩ := mm_acell A hH ha (by omega) ht'
  obtain ⟨q, hq, hty⟩ := hq
  have ht2 : t2 < 13 := by
    have := (List.getElem?_eq_some_iff.mp hq).1
    exact this
  obtain ⟨-, cv, c1, c2⟩ := hH.1 b t2 n2 hb (by omega)
  obtain ⟨q', hq', -, hcl, hvm, -⟩ := mm_obj ht2 c2
  cases hq.symm.trans hq'
  obtain ⟨-, hfc, kC, hkC, hkind⟩ := mm_kn A hq
  have hra := (mm_ar A (t := t) (by omega) ht').2
  rw [hty] at hra
  obtain ⟨kA, comp, k1, k2, k3, -⟩ := hra
  obtain ⟨kcomp, hkc, -⟩ := Vm.findClass_spec k3
  have hcc : comp = cv.cls := by rw [hcl]; exact Option.some.inj (k3.symm.trans hfc)
  subst hcc
  refine W.aast A.1 A.2.1 h1 (fun q h => by rw [h4] at h; cases h) (by rw [h4]; exact fun h => by cases h) (by rw [h7]; exact k1) k2 rfl hkc ⟨hi, by omega⟩ c1 (fun q h => by rw [hvm] at h; cases h) hkc (va_asg _ _) rfl rfl hd fun H' e1 e2 e3 => ?_
  exact kk p e s mi args below meth c A H' _ ls (hH.set ha (by omega) e1 (mm_setA h2 (by omega) hn) e2 e3) (by omega) (mm_locs hl hba) hv
end MG2
