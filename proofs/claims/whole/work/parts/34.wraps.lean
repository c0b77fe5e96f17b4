/-! The law's own methods: a call in a try, its catches. -/
def mm_tr {α β : Type} (fn : Option ((α ⊕ String) × mm_V)) (f : α × mm_V → Option β) (k : String × mm_V → Option β) : Option β := match fn with
  | none => none
  | some (.inl v, m) => f (v, m)
  | some (.inr E, m) => k (E, m)
abbrev mm_Fw (g : mm_T) (r : Int32 × mm_V) : mm_F := (1, 6, .inl (some (.int r.1)), (g, r.2), none)
section MW1
variable {K : mm_K} {M : mm_M} {d : Nat} {F : mm_F} {pc : Nat} {L : List (Option Value)} {S : List Value} {h : mm_H} {nx : Option Nat} {cells slots : Nat}
theorem mm_entryW {av : List Value} (hy : plainName M.1.cls = true) (hmx : (lg_sl av).length ≤ M.2.2.1) (kk : mm_ok K → mm_G K M d F 0 (mm_in av) [] h nx 0 0) : mm_CnW K M d F av h nx := by
  intro hok
  refine vx_ofWH (cc := M.2.1) (maxL := M.2.2.1) (ret := M.2.2.2.1) (hh := M.2.2.2.2) hy rfl ?_
  intro p e s mi args below meth c s₁ B hml hv
  obtain ⟨rfl, hW, hH⟩ := hv
  have hl := lv_entry av (n := M.2.2.1) hmx
  have htab := vx_table (x := M.1) B (atoms_spec (ws := [Cond.codeWith M.1 M.2.1 M.2.2.1 M.2.2.2.1 M.2.2.2.2]) B.pre _ List.mem_cons_self)
  rw [lg_entry_eq]
  generalize (lg_sl av ++ List.replicate (M.2.2.1 - (lg_sl av).length) Slot.unset).toArray = ls at hl ⊢
  have hlv : mm_lv ls M.2.2.1 (mm_in av) := ⟨hl.1, hl.2.1, fun i v hi => hl.2.2 (i, v) (by have := mm_in_args av 0 i v hi; rwa [Nat.zero_add] at this)⟩
  exact kk hok p e s mi _ below meth c ⟨B.exec, B.bytes, B.returns, hml, findClass_of_methodNamed B.named, B.notSynchronized, (name_of_methodNamed B.named B.method).1, htab, hW, fun q hq => hH.2.2.2.1 q hq, hH.2.2.2.2, hok⟩ s.heap [] ls hH (Nat.le_refl _) (fun z hz => by cases hz) hlv
/-- a callee throws, and the row x of this method's table takes it -/
theorem mg_callVc {Y : mm_M} {F' : mm_F} {idx t n b : Nat} {As rest : List Value} {E name : String} {pre suf : List ExceptionTableEntry} {x : ExceptionTableEntry} (hd : decode M.2.1 pc = .ok (.invokevirtual idx, 3)) (hw : mm_CV M.1.cls idx Y t As.length) (hlk : Cond.methodLink M.1.cls idx Y.1 ∈ lw_tbl) (hc : mm_Cn K Y d F' (.ref b :: As) h nx) (hb : h.1 b = some (t, n)) (hv : F'.2.2.1 = .inr E) (hsp : tableOf M.2.2.2.2 = pre ++ x :: suf) (hpass : ∀ z ∈ pre, covers z pc = false ∨ (z.catchType ≠ 0 ∧ ∃ nm : String, Cond.classLink M.1.cls z.catchType nm ∈ lw_tbl ∧ va_Nc E nm K.2.1)) (hx : covers x pc = true) (h0 : x.catchType ≠ 0) (hl1 : Cond.classLink M.1.cls x.catchType name ∈ lw_tbl) (hca : Cond.castable E name ∈ lw_tbl) (hS : S = As.reverse ++ .ref b :: rest) (hr : (rest.map fun v => v.category).sum ≤ 8) (h1 : cells + F'.1 ≤ F.1) (h2 : slots + F'.2.1 ≤ F.2.1)
    (kk : ∀ q : Nat, mm_G K M (d + 1) F x.handlerPc L [.ref q] F'.2.2.2.1 F'.2.2.2.2 (cells + F'.1) (slots + F'.2.1)) : mm_G K M (d + 1) F pc L S h nx cells slots := by
  intro p e s mi args below meth c A H locs ls hH hz hl hlv
  obtain ⟨⟨-, w1, w2, hy, hn, hmx⟩, w3, ht, q, hq, w4⟩ := hw
  have hok := A.2.2.2.2.2.2.2.2.2.2.2
  have hM := hc hok
  obtain ⟨-, cell, hc1, hc2⟩ := hH.1 b t n hb (by omega)
  obtain ⟨q', hq', -, hcl, hvm, -⟩ := mm_obj ht hc2
  cases hq.symm.trans hq'
  have hfc := (mm_kn A hq).2.1
  have hp : PreV s H q.1 b (mm_Pc K (.ref b :: As) h nx) As := ⟨mm_blind, ⟨cell, hc1, by rw [hvm]; rfl, by rw [hcl]; exact hfc⟩, fun U hU hW => ⟨rfl, State.WarmedH.trans A.2.2.2.2.2.2.2.2.1 hW, by rw [hU]; exact hH⟩⟩
  have hlo : 8 + (Y.2.2.1 + 11) + (mm_R d F').locals ≤ (mm_R (d + 1) F).locals := by show 8 + (Y.2.2.1 + 11) + 64 * d ≤ 64 * (d + 1); omega
  have hrun := vx_runV (l := K.1) (R := mm_R (d + 1) F) (e := e) (below := below) (meth := meth) (H := H) (locs := locs) (cells := cells) (slots := slots) (g := F0 mi pc ls S) (rest := rest) (cc := M.2.1) (nL := M.2.2.1) (Ts := []) (own := M.1.cls) ⟨A.1, A.2.1, A.2.2.2.1, A.2.2.2.2.1, fun w hw => by cases hw⟩ hM ⟨⟨rfl, rfl, Nat.le_refl _, hlo, mm_words A w1 rfl, List.mem_singleton_self _, mm_w A w1 rfl args, mm_w A w2 rfl args, hy, mm_arity hn, mm_w A hlk rfl args⟩, mm_w A w3 rfl args, mm_w A w4 rfl args⟩ hp rfl rfl hlv.1 hS (mm_wk hr) hd ⟨h1, h2⟩
  intro T hT X
  rcases hrun T hT X with ⟨w, st₀, t9, T', L', g0, X', hL, e1, e2, ⟨v', q1, -⟩, st⟩ | ⟨q9, st₀, t9, T', L', E', ce, g0, X', hL, e1, e2, ⟨q1, q2⟩, hce, hcv, hcl9, st⟩
  · rw [hv] at q1; cases q1
  · cases Sum.inr.inj (hv.symm.trans q1)
    have hll : ∀ z ∈ locs ++ L', mm_base K ≤ z.base := fun z hz => by
      rcases List.mem_append.mp hz with h | h
      · exact hl z h
      · exact hL z h
    have kW := kk q9 p e s mi args below meth c A T'.heap (locs ++ L') ls (by rw [e1]; exact q2) (vx_frame X'.same).1 hll hlv
    obtain ⟨t2, a1, b1⟩ := (vx_catch (p := p) (l := K.1) (e := e) (R := mm_R (d + 1) F) (s := s) (m := mi) (args := args) (below := below) (meth := meth) (c := c) (H := T'.heap) (locs := locs ++ L') (ls := ls) (rest := rest) (pc := pc) A.2.2.2.2.1 pre x suf (A.2.2.2.2.2.2.2.1.trans hsp) (fun z hz => by
      rcases hpass z hz with h | ⟨g1, nm, g2, g3⟩
      · exact Or.inl h
      · exact Or.inr ⟨g1, nm, mm_w A g2 rfl args, va_Nc.moved A.2.2.2.2.2.2.2.2.1.alike g3⟩) hx h0 (mm_w A hl1 rfl args) (mm_wC A hca args) (by rw [e1]; exact hce) hcv hcl9 kW) T' rfl X'
    exact ⟨t2, st.trans a1, b1⟩
/-- a call of one of the law's own methods -/
def mm_CSW (own : String) (idx : Nat) (Y : mm_M) (n : Nat) : Prop := Cond.methodLink own idx Y.1 ∈ lw_tbl ∧ Cond.codeWith Y.1 Y.2.1 Y.2.2.1 Y.2.2.2.1 Y.2.2.2.2 ∈ lw_tbl ∧ Cond.initialized Y.1.cls ∈ lw_tbl ∧ (Y.1.cls ≠ "java/lang/invoke/MethodHandle" ∧ Y.1.cls ≠ "java/lang/invoke/VarHandle") ∧ (parseMethodDescriptor Y.1.desc).map (fun d => d.parameters.length) = some n ∧ Y.2.2.1 ≤ 45 ∧ Cond.static Y.1 ∈ lw_tbl
theorem mg_callSW {Y : mm_M} {F' : mm_F} {idx : Nat} {As rest : List Value} {v : Option Value} (hd : decode M.2.1 pc = .ok (.invokestatic idx, 3)) (hw : mm_CSW M.1.cls idx Y As.length) (hc : mm_CnW K Y d F' As h nx) (hv : F'.2.2.1 = .inl v) (hS : S = As.reverse ++ rest) (hr : (rest.map fun v => v.category).sum ≤ 8) (h1 : cells + F'.1 ≤ F.1) (h2 : slots + F'.2.1 ≤ F.2.1)
    (kk : mm_G K M (d + 1) F (pc + 3) L (v.toList ++ rest) F'.2.2.2.1 F'.2.2.2.2 (cells + F'.1) (slots + F'.2.1)) : mm_G K M (d + 1) F pc L S h nx cells slots := by
  intro p e s mi args below meth c A H locs ls hH hz hl hlv
  obtain ⟨hlk, w1, w2, hy, hn, hmx, w3⟩ := hw
  have hok := A.2.2.2.2.2.2.2.2.2.2.2
  have hM := hc hok
  have hp : PreS s H (mm_Pc K As h nx) As := ⟨mm_blind, fun U hU hW => ⟨rfl, State.WarmedH.trans A.2.2.2.2.2.2.2.2.1 hW, by rw [hU]; exact hH⟩⟩
  have hlo : 8 + (Y.2.2.1 + 11) + (mm_R d F').locals ≤ (mm_R (d + 1) F).locals := by show 8 + (Y.2.2.1 + 11) + 64 * d ≤ 64 * (d + 1); omega
  have hrun := vx_runSX (l := K.1) (R := mm_R (d + 1) F) (e := e) (below := below) (meth := meth) (H := H) (locs := locs) (cells := cells) (slots := slots) (g := F0 mi pc ls S) (rest := rest) (cc := M.2.1) (nL := M.2.2.1) (Ts := []) (own := M.1.cls) ⟨A.1, A.2.1, A.2.2.2.1, A.2.2.2.2.1, fun w hw => by cases hw⟩ hM ⟨⟨rfl, rfl, Nat.le_refl _, hlo, mm_words A w1 rfl, List.mem_singleton_self _⟩, mm_w A w1 rfl args, mm_w A w2 rfl args, hy, mm_arity hn, mm_w A hlk rfl args, mm_w A w3 rfl args⟩ hp rfl rfl hlv.1 hS (mm_wk hr) hd ⟨h1, h2⟩
  intro T hT X
  rcases hrun T hT X with ⟨w, st₀, t9, T', L', g0, X', hL, e1, e2, ⟨v', q1, q2, q3⟩, st⟩ | ⟨q9, st₀, t9, T', L', E', ce, g0, X', hL, e1, e2, ⟨q1, q2⟩, hce, hcv, hcl9, st⟩
  · cases q2
    cases Sum.inl.inj (hv.symm.trans q1)
    obtain ⟨t2, a1, b1⟩ := kk p e s mi args below meth c A T'.heap (locs ++ L') ls (by rw [e1]; exact q3) (vx_frame X'.same).1 (fun z hz => by
      rcases List.mem_append.mp hz with h | h
      · exact hl z h
      · exact hL z h) hlv T' rfl X'
    exact ⟨t2, st t2 a1, b1⟩
  · rw [hv] at q1; cases q1
end MW1
section MW2
variable {K : mm_K} {M : mm_M} {d : Nat} {F : mm_F} {pc : Nat} {L : List (Option Value)} {S : List Value} {g : mm_T} {m : mm_V} {cells slots : Nat}
theorem mb_tV {α ρ : Type} {cw : α → Option Value} {Y : mm_M} {fn : Option ((α ⊕ String) × mm_V)} {f : α × mm_V → Option ρ} {k : String × mm_V → Option ρ} {r : ρ} {idx t n b : Nat} {As rest : List Value} (hd : decode M.2.1 pc = .ok (.invokevirtual idx, 3)) (hw : mm_CV M.1.cls idx Y t As.length) (hb : g b = some (t, n)) (hr : mm_tr fn f k = some r) (hc : ∀ v, fn = some v → mm_Cn K Y d (mm_Xo cw g v) (.ref b :: As) (g, m) none) (hS : S = As.reverse ++ .ref b :: rest) (hrest : (rest.map fun v => v.category).sum ≤ 8)
    (kk : ∀ v : α × mm_V, f v = some r → mm_G K M (d + 1) (1, 6, F.2.2) (pc + 3) L ((cw v.1).toList ++ rest) (g, v.2) none 0 0) (kx : ∀ (E : String) (m' : mm_V), k (E, m') = some r → mm_Cn K Y d (mm_Xo cw g (.inr E, m')) (.ref b :: As) (g, m) none → mm_G K M (d + 1) (1, 6, F.2.2) pc L S (g, m) none 0 0) : mm_G K M (d + 1) (1, 6, F.2.2) pc L S (g, m) none 0 0 := by
  match fn, hr, hc with
  | none, hr, hc => cases hr
  | some (.inl v, m'), hr, hc =>
    exact mg_callV (F' := mm_Xo cw g (.inl v, m')) hd hw (hc _ rfl) hb rfl hS hrest (Nat.zero_le _) (Nat.zero_le _) (kk (v, m') hr)
  | some (.inr E, m'), hr, hc =>
    exact kx E m' hr (hc (.inr E, m') rfl)
theorem mb_wret {x : Int32} {r : Int32 × mm_V} (hd : decode M.2.1 pc = .ok (.ireturn, 1)) (hM : M.2.2.2.1 = some .int) (h1 : cells ≤ 1) (h2 : slots ≤ 6) (hr : some (x, m) = some r) : mm_G K M d (mm_Fw g r) pc L [.int x] (g, m) none cells slots := by
  cases hr; exact mg_iret hd hM rfl rfl rfl rfl h1 h2
theorem mb_wS {ρ : Type} {Y : mm_M} {fn : Option (Int32 × mm_V)} {f : Int32 × mm_V → Option ρ} {r : ρ} {idx : Nat} {As rest : List Value} (hd : decode M.2.1 pc = .ok (.invokestatic idx, 3)) (hw : mm_CSW M.1.cls idx Y As.length) (hr : fn.bind f = some r) (hc : ∀ v, fn = some v → mm_CnW K Y d (mm_Fw g v) As (g, m) none) (hS : S = As.reverse ++ rest) (hrest : (rest.map fun v => v.category).sum ≤ 8) (h1 : cells + 1 ≤ F.1) (h2 : slots + 6 ≤ F.2.1) (kk : ∀ v, f v = some r → mm_G K M (d + 1) F (pc + 3) L (.int v.1 :: rest) (g, v.2) none (cells + 1) (slots + 6)) : mm_G K M (d + 1) F pc L S (g, m) none cells slots := by
  cases HE : fn with
  | none => rw [HE] at hr; cases hr
  | some v =>
    rw [HE] at hr
    exact mg_callSW (F' := mm_Fw g v) hd hw (hc _ HE) rfl hS hrest h1 h2 (kk v hr)
theorem mb_lwret {x : Int32} {r : Int32 × mm_V} (hd : decode M.2.1 pc = .ok (.ireturn, 1)) (hM : M.2.2.2.1 = some .boolean) (hF : F.2.2 = (.inl (some (.int r.1)), (g, r.2), none)) (h1 : cells ≤ F.1) (h2 : slots ≤ F.2.1) (hr : mm_rz x m = some r) : mm_G K M d F pc L [.int x] (g, m) none cells slots := by
  unfold mm_rz at hr
  by_cases hx : x = 0 ∨ x = 1
  · rw [if_pos hx] at hr; cases hr
    exact mg_iret hd hM (by rcases hx with rfl | rfl <;> rfl) (by rw [hF]) (by rw [hF]) (by rw [hF]) h1 h2
  · rw [if_neg hx] at hr; cases hr
end MW2
