/-! What is thrown, and calls of methods that may throw. -/
def mm_thw (own : String) (ik ic : Nat) (cls : String) (names : List String) : Prop := Cond.classLink own ik cls ∈ lw_tbl ∧ Cond.initialized cls ∈ lw_tbl ∧ (∀ w ∈ vx_at0 own ic cls names, w ∈ lw_tbl ∧ w.onTables = true ∧ w.keepsFace = true) ∧ Bundle.fit cls = true ∧ (∀ n ∈ names, Bundle.fit n = true) ∧ names.length ≤ 4 ∧ ∀ w ∈ Cond.classLink own ik cls :: Cond.initialized cls :: vx_at0 own ic cls names, vx_ot w = true
section MT1
variable {K : mm_K} {M : mm_M} {d : Nat} {F : mm_F} {pc : Nat} {L : List (Option Value)} {S : List Value} {h : mm_H} {nx : Option Nat} {cells slots : Nat}
theorem mm_wC {p : Program} {s : State} {mi : MethodId} {meth : Method} {c : Code} (A : mm_At K M p s mi meth c) {a b : String} (hw : Cond.castable a b ∈ lw_tbl) (a' : Array Value) : (Cond.castable a b).before a' s = true :=
  va_Nw.use rfl (va_Nw.warmC A.2.2.2.2.2.2.2.2.1 (va_Nw.of rfl (A.2.2.2.2.2.2.2.2.2.2.2.2.1 _ hw)))
theorem mg_throw {ik ic : Nat} {cls : String} {names : List String} (hT : mm_thw M.1.cls ik ic cls names) (d0 : decode M.2.1 pc = .ok (.new ik, 3)) (d3 : decode M.2.1 (pc + 3) = .ok (.dup, 1)) (d4 : decode M.2.1 (pc + 4) = .ok (.invokespecial ic, 3)) (d7 : decode M.2.1 (pc + 7) = .ok (.athrow, 1)) (hx : M.2.2.2.2 = []) (hF : F.2.2.1 = .inr cls) (hFh : F.2.2.2.1 = h) (hFn : F.2.2.2.2 = none) (hc : cells + 1 ≤ F.1) (hs : slots + 6 ≤ F.2.1) (hd : 8 ≤ d) (hr : (S.map fun v => v.category).sum ≤ 8) : mm_G K M d F pc L S h nx cells slots := by
  intro p e s mi args below meth c A H locs ls hH hz hl hlv
  obtain ⟨w1, w2, w3, hfit, hfits, hlen, hgood⟩ := hT
  have hok := A.2.2.2.2.2.2.2.2.2.2.2
  have hW := A.2.2.2.2.2.2.2.2.1
  have hkeep : ∀ q : Nat, q < K.2.1.heap.size → ¬ mm_base K ≤ q → s.heap[q]? = K.2.1.heap[q]? := fun q hq _ => A.2.2.2.2.2.2.2.2.2.1 q hq
  refine vx_throw0 (A := fun q => mm_base K ≤ q) (names := names) A.1 A.2.1 hok.1 A.2.2.2.2.1 hfit hfits (mm_w A w1 rfl args) (mm_w A w2 rfl args) (fun w hw => ?_) hgood ((vx_Zq.moved hW.alike hok.2.2.2.2.1).kept hkeep) ((vx_Zq.moved hW.alike hok.2.2.2.2.2.1).kept hkeep) ⟨hz, fun q _ hq => ?_, hl⟩ (hlv.1.trans A.2.2.2.1.symm) d0 d3 d4 d7 (fun x hxx => ?_) ?_ ?_ hc hs A.2.2.2.2.2.1 (fun t _ h1 h2 => ⟨hF, ?_⟩) hl hc hs
  · obtain ⟨m1, m2, m3⟩ := w3 w hw
    exact va_tabs (u := K.2.1.setVm s.vm) m2 rfl (Cond.before_shiftedFace (State.Shifted.of_warmed hW) w m3 (hok.2.1 w m1))
  · have hq' : q < mm_base K := by omega
    rw [hH.2.2.2.1 q hq']
    exact (A.2.2.2.2.2.2.2.2.2.1 q hq').symm
  · rw [A.2.2.2.2.2.2.2.1, hx] at hxx
    cases hxx
  · show names.length + 3 < d
    omega
  · show _ ≤ 64 * d
    omega
  · rw [hFh, hFn]
    exact hH.grow h1 h2
/-- a callee throws, and nothing here catches it -/
theorem mm_thru {F' : mm_F} {av rest : List Value} {E : String} {p : Program} {e : Env} {s : State} {mi : MethodId} {args : Array Value} {below : List Frame} {meth : Method} {c : Code} {H : Heap} {locs : List Loc} {ls : Array Slot} {R : Room}
    (hr : vx_Run p K.1 e R s mi args below meth c H locs cells slots F'.1 F'.2.1 (F0 mi pc ls S) rest (mm_Qc K F' av.toArray) (mm_XC K F') (fun q => mm_base K ≤ q)) (hv : F'.2.2.1 = .inr E) (hF : F.2.2.1 = .inr E) (hFF : F.2.2.2 = F'.2.2.2) (hl : ∀ z ∈ locs, mm_base K ≤ z.base) (hout : ∀ x ∈ c.exceptionTable.toList, covers x pc = false) (hlocks : meth.locks = false) (h1 : cells + F'.1 ≤ F.1) (h2 : slots + F'.2.1 ≤ F.2.1) :
    W p K.1 e R s mi args below meth c H locs cells slots (vx_MQ below (mm_Qc K F) (mm_XC K F) args s F.1 F.2.1 (fun q => mm_base K ≤ q)) (F0 mi pc ls S) := by
  intro T hT X
  rcases hr T hT X with ⟨w, st₀, t, T', L', h0, X', hL, e1, e2, ⟨v', q1, -⟩, st⟩ | ⟨q, st₀, t, T', L', E', ce, h0, X', hL, e1, e2, ⟨q1, q2⟩, hce, hcv, hcl, st⟩
  · rw [hv] at q1; cases q1
  · cases Sum.inr.inj (hv.symm.trans q1)
    obtain ⟨t2, a1, b1⟩ := (vx_out (p := p) (l := K.1) (e := e) (R := R) (s := s) (m := mi) (args := args) (below := below) (meth := meth) (c := c) (H := T'.heap) (locs := locs ++ L') (cells := cells + F'.1) (slots := slots + F'.2.1) (ls := ls) (rest := rest) (Qc := mm_Qc K F) (XC := mm_XC K F) (free := fun q => mm_base K ≤ q) hout hlocks (by rw [e1]; exact hce) hcv hcl (fun t3 h3 _ => ⟨hF, by rw [hFF, h3, e1]; exact q2⟩) (fun z hz => by
      rcases List.mem_append.mp hz with h | h
      · exact hl z h
      · exact hL z h) h1 h2) T' rfl X'
    exact ⟨t2, st.trans a1, b1⟩
theorem mg_callVx {Y : mm_M} {F' : mm_F} {idx t n b : Nat} {As rest : List Value} {E : String} (hd : decode M.2.1 pc = .ok (.invokevirtual idx, 3)) (hw : mm_CV M.1.cls idx Y t As.length) (hlk : Cond.methodLink M.1.cls idx Y.1 ∈ lw_tbl) (hc : mm_Cn K Y d F' (.ref b :: As) h nx) (hb : h.1 b = some (t, n)) (hv : F'.2.2.1 = .inr E) (hF : F.2.2.1 = .inr E) (hFF : F.2.2.2 = F'.2.2.2) (hx : M.2.2.2.2 = []) (hS : S = As.reverse ++ .ref b :: rest) (hr : (rest.map fun v => v.category).sum ≤ 8) (h1 : cells + F'.1 ≤ F.1) (h2 : slots + F'.2.1 ≤ F.2.1) : mm_G K M (d + 1) F pc L S h nx cells slots := by
  intro p e s mi args below meth c A H locs ls hH hz hl hlv
  obtain ⟨⟨-, w1, w2, hy, hn, hmx⟩, w3, ht, q, hq, w4⟩ := hw
  have hok := A.2.2.2.2.2.2.2.2.2.2.2
  have hM := hc hok
  obtain ⟨-, cell, hc1, hc2⟩ := hH.1 b t n hb (by omega)
  obtain ⟨q', hq', -, hcl, hvm, -⟩ := mm_obj ht hc2
  cases hq.symm.trans hq'
  have hfc := (mm_kn A hq).2.1
  have hp : PreV s H q.1 b (mm_Pc K (.ref b :: As) h nx) As := ⟨mm_blind, ⟨cell, hc1, by rw [hvm]; rfl, by rw [hcl]; exact hfc⟩, fun U hU hW => ⟨rfl, State.WarmedH.trans A.2.2.2.2.2.2.2.2.1 hW, by rw [hU]; exact hH⟩⟩
  have hlo : 8 + (Y.2.2.1 + 11) + (mm_R d F').locals ≤ (mm_R (d + 1) F).locals := by show 8 + (Y.2.2.1 + 11) + 64 * d ≤ 64 * (d + 1); omega
  refine mm_thru (F' := F') (av := .ref b :: As) (rest := rest) ?_ hv hF hFF hl (fun x hxx => by rw [A.2.2.2.2.2.2.2.1, hx] at hxx; cases hxx) A.2.2.2.2.2.1 h1 h2
  exact vx_runV (cc := M.2.1) (nL := M.2.2.1) (Ts := []) (own := M.1.cls) ⟨A.1, A.2.1, A.2.2.2.1, A.2.2.2.2.1, fun w hw => by cases hw⟩ hM ⟨⟨rfl, rfl, Nat.le_refl _, hlo, mm_words A w1 rfl, List.mem_singleton_self _, mm_w A w1 rfl args, mm_w A w2 rfl args, hy, mm_arity hn, mm_w A hlk rfl args⟩, mm_w A w3 rfl args, mm_w A w4 rfl args⟩ hp rfl rfl hlv.1 hS (mm_wk hr) hd ⟨h1, h2⟩
theorem mg_callSx {Y : mm_M} {F' : mm_F} {idx : Nat} {As rest : List Value} {E : String} (hd : decode M.2.1 pc = .ok (.invokestatic idx, 3)) (hw : mm_CS M.1.cls idx Y As.length) (hlk : Cond.methodLink M.1.cls idx Y.1 ∈ lw_tbl) (hc : mm_Cn K Y d F' As h nx) (hv : F'.2.2.1 = .inr E) (hF : F.2.2.1 = .inr E) (hFF : F.2.2.2 = F'.2.2.2) (hx : M.2.2.2.2 = []) (hS : S = As.reverse ++ rest) (hr : (rest.map fun v => v.category).sum ≤ 8) (h1 : cells + F'.1 ≤ F.1) (h2 : slots + F'.2.1 ≤ F.2.1) : mm_G K M (d + 1) F pc L S h nx cells slots := by
  intro p e s mi args below meth c A H locs ls hH hz hl hlv
  obtain ⟨⟨-, w1, w2, hy, hn, hmx⟩, w3⟩ := hw
  have hok := A.2.2.2.2.2.2.2.2.2.2.2
  have hM := hc hok
  have hp : PreS s H (mm_Pc K As h nx) As := ⟨mm_blind, fun U hU hW => ⟨rfl, State.WarmedH.trans A.2.2.2.2.2.2.2.2.1 hW, by rw [hU]; exact hH⟩⟩
  have hlo : 8 + (Y.2.2.1 + 11) + (mm_R d F').locals ≤ (mm_R (d + 1) F).locals := by show 8 + (Y.2.2.1 + 11) + 64 * d ≤ 64 * (d + 1); omega
  refine mm_thru (F' := F') (av := As) (rest := rest) ?_ hv hF hFF hl (fun x hxx => by rw [A.2.2.2.2.2.2.2.1, hx] at hxx; cases hxx) A.2.2.2.2.2.1 h1 h2
  exact vx_runS (cc := M.2.1) (nL := M.2.2.1) (Ts := []) (own := M.1.cls) ⟨A.1, A.2.1, A.2.2.2.1, A.2.2.2.2.1, fun w hw => by cases hw⟩ hM ⟨⟨rfl, rfl, Nat.le_refl _, hlo, mm_words A w1 rfl, List.mem_singleton_self _, mm_w A w1 rfl args, mm_w A w2 rfl args, hy, mm_arity hn, mm_w A hlk rfl args⟩, mm_w A w3 rfl args⟩ hp rfl rfl hlv.1 hS (mm_wk hr) hd ⟨h1, h2⟩
end MT1
-- ===== functions that may throw: the answer, or the class of what is thrown =====
def mm_bx {α β : Type} (fn : Option ((α ⊕ String) × mm_V)) (f : α × mm_V → Option ((β ⊕ String) × mm_V)) : Option ((β ⊕ String) × mm_V) := match fn with
  | none => none
  | some (.inl v, m) => f (v, m)
  | some (.inr E, m) => some (.inr E, m)
def mm_Xo {α : Type} (cv : α → Option Value) (g : mm_T) (r : (α ⊕ String) × mm_V) : mm_F := match r.1 with
  | .inl v => (0, 0, .inl (cv v), (g, r.2), none)
  | .inr E => (1, 6, .inr E, (g, r.2), none)
abbrev mm_Xi (g : mm_T) (r : (Int32 ⊕ String) × mm_V) : mm_F := mm_Xo (fun v => some (.int v)) g r
abbrev mm_Xl (g : mm_T) (r : (Int64 ⊕ String) × mm_V) : mm_F := mm_Xo (fun v => some (.long v)) g r
abbrev mm_Xv (g : mm_T) (r : (Unit ⊕ String) × mm_V) : mm_F := mm_Xo (fun _ => none) g r
section MT2
variable {K : mm_K} {M : mm_M} {d : Nat} {pc : Nat} {L : List (Option Value)} {S : List Value} {g : mm_T} {m : mm_V}
theorem mb_xiret {x : Int32} {r : (Int32 ⊕ String) × mm_V} (hd : decode M.2.1 pc = .ok (.ireturn, 1)) (hM : M.2.2.2.1 = some .int) (hr : some (.inl x, m) = some r) : mm_G K M d (mm_Xi g r) pc L [.int x] (g, m) none 0 0 := by
  cases hr; exact mg_iret hd hM rfl rfl rfl rfl (Nat.le_refl _) (Nat.le_refl _)
theorem mb_xlret {x : Int64} {r : (Int64 ⊕ String) × mm_V} (hd : decode M.2.1 pc = .ok (.lreturn, 1)) (hM : M.2.2.2.1 = some .long) (hr : some (.inl x, m) = some r) : mm_G K M d (mm_Xl g r) pc L [.long x] (g, m) none 0 0 := by
  cases hr; exact mg_lret hd hM rfl rfl rfl (Nat.le_refl _) (Nat.le_refl _)
theorem mb_xvret {r : (Unit ⊕ String) × mm_V} (hd : decode M.2.1 pc = .ok (.return_, 1)) (hM : M.2.2.2.1 = none) (hr : some (.inl (), m) = some r) : mm_G K M d (mm_Xv g r) pc L [] (g, m) none 0 0 := by
  cases hr; exact mg_vret hd hM rfl rfl rfl (Nat.le_refl _) (Nat.le_refl _)
theorem mb_throw {α : Type} {cv : α → Option Value} {r : (α ⊕ String) × mm_V} {ik ic : Nat} {cls : String} {names : List String} (hT : mm_thw M.1.cls ik ic cls names) (d0 : decode M.2.1 pc = .ok (.new ik, 3)) (d3 : decode M.2.1 (pc + 3) = .ok (.dup, 1)) (d4 : decode M.2.1 (pc + 4) = .ok (.invokespecial ic, 3)) (d7 : decode M.2.1 (pc + 7) = .ok (.athrow, 1)) (hx : M.2.2.2.2 = []) (hd : 8 ≤ d) (hS : (S.map fun v => v.category).sum ≤ 8) (hr : some (.inr cls, m) = some r) : mm_G K M d (mm_Xo cv g r) pc L S (g, m) none 0 0 := by
  cases hr
  exact mg_throw hT d0 d3 d4 d7 hx rfl rfl rfl (Nat.le_refl _) (Nat.le_refl _) hd hS
theorem mb_xV {α β : Type} {cv : α → Option Value} {cw : β → Option Value} {Y : mm_M} {fn : Option ((β ⊕ String) × mm_V)} {f : β × mm_V → Option ((α ⊕ String) × mm_V)} {r : (α ⊕ String) × mm_V} {idx t n b : Nat} {As rest : List Value} (hd : decode M.2.1 pc = .ok (.invokevirtual idx, 3)) (hw : mm_CV M.1.cls idx Y t As.length) (hlk : Cond.methodLink M.1.cls idx Y.1 ∈ lw_tbl) (hb : g b = some (t, n)) (hx : M.2.2.2.2 = []) (hr : mm_bx fn f = some r) (hc : ∀ v, fn = some v → mm_Cn K Y d (mm_Xo cw g v) (.ref b :: As) (g, m) none) (hS : S = As.reverse ++ .ref b :: rest) (hrest : (rest.map fun v => v.category).sum ≤ 8) (kk : ∀ v : β × mm_V, f v = some r → mm_G K M (d + 1) (mm_Xo cv g r) (pc + 3) L ((cw v.1).toList ++ rest) (g, v.2) none 0 0) : mm_G K M (d + 1) (mm_Xo cv g r) pc L S (g, m) none 0 0 := by
  match fn, hr, hc with
  | none, hr, hc => cases hr
  | some (.inl v, m'), hr, hc =>
    exact mg_callV (F' := mm_Xo cw g (.inl v, m')) hd hw (hc _ rfl) hb rfl hS hrest (Nat.zero_le _) (Nat.zero_le _) (kk (v, m') hr)
  | some (.inr E, m'), hr, hc =>
    cases hr
    exact mg_callVx (F' := mm_Xo cw g (.inr E, m')) hd hw hlk (hc _ rfl) hb rfl rfl rfl hx hS hrest (Nat.le_refl _) (Nat.le_refl _)
theorem mb_xS {α β : Type} {cv : α → Option Value} {cw : β → Option Value} {Y : mm_M} {fn : Option ((β ⊕ String) × mm_V)} {f : β × mm_V → Option ((α ⊕ String) × mm_V)} {r : (α ⊕ String) × mm_V} {idx : Nat} {As rest : List Value} (hd : decode M.2.1 pc = .ok (.invokestatic idx, 3)) (hw : mm_CS M.1.cls idx Y As.length) (hlk : Cond.methodLink M.1.cls idx Y.1 ∈ lw_tbl) (hx : M.2.2.2.2 = []) (hr : mm_bx fn f = some r) (hc : ∀ v, fn = some v → mm_Cn K Y d (mm_Xo cw g v) As (g, m) none) (hS : S = As.reverse ++ rest) (hrest : (rest.map fun v => v.category).sum ≤ 8) (kk : ∀ v : β × mm_V, f v = some r → mm_G K M (d + 1) (mm_Xo cv g r) (pc + 3) L ((cw v.1).toList ++ rest) (g, v.2) none 0 0) : mm_G K M (d + 1) (mm_Xo cv g r) pc L S (g, m) none 0 0 := by
  match fn, hr, hc with
  | none, hr, hc => cases hr
  | some (.inl v, m'), hr, hc =>
    exact mg_callS (F' := mm_Xo cw g (.inl v, m')) hd hw (hc _ rfl) rfl hS hrest (Nat.zero_le _) (Nat.zero_le _) (kk (v, m') hr)
  | some (.inr E, m'), hr, hc =>
    cases hr
    exact mg_callSx (F' := mm_Xo cw g (.inr E, m')) hd hw hlk (hc _ rfl) rfl rfl rfl hx hS hrest (Nat.le_refl _) (Nat.le_refl _)
theorem mb_xVi {α : Type} {cv : α → Option Value} {Y : mm_M} {fn : Option ((Int32 ⊕ String) × mm_V)} {f : Int32 × mm_V → Option ((α ⊕ String) × mm_V)} {r : (α ⊕ String) × mm_V} {idx t n b : Nat} {As rest : List Value} (hd : decode M.2.1 pc = .ok (.invokevirtual idx, 3)) (hw : mm_CV M.1.cls idx Y t As.length) (hlk : Cond.methodLink M.1.cls idx Y.1 ∈ lw_tbl) (hb : g b = some (t, n)) (hx : M.2.2.2.2 = []) (hr : mm_bx fn f = some r) (hc : ∀ v, fn = some v → mm_Cn K Y d (mm_Xi g v) (.ref b :: As) (g, m) none) (hS : S = As.reverse ++ .ref b :: rest) (hrest : (rest.map fun v => v.category).sum ≤ 8) (kk : ∀ v : Int32 × mm_V, f v = some r → mm_G K M (d + 1) (mm_Xo cv g r) (pc + 3) L (.int v.1 :: rest) (g, v.2) none 0 0) : mm_G K M (d + 1) (mm_Xo cv g r) pc L S (g, m) none 0 0 := mb_xV hd hw hlk hb hx hr hc hS hrest kk
theorem mb_xVl {α : Type} {cv : α → Option Value} {Y : mm_M} {fn : Option ((Int64 ⊕ String) × mm_V)} {f : Int64 × mm_V → Option ((α ⊕ String) × mm_V)} {r : (α ⊕ String) × mm_V} {idx t n b : Nat} {As rest : List Value} (hd : decode M.2.1 pc = .ok (.invokevirtual idx, 3)) (hw : mm_CV M.1.cls idx Y t As.length) (hlk : Cond.methodLink M.1.cls idx Y.1 ∈ lw_tbl) (hb : g b = some (t, n)) (hx : M.2.2.2.2 = []) (hr : mm_bx fn f = some r) (hc : ∀ v, fn = some v → mm_Cn K Y d (mm_Xl g v) (.ref b :: As) (g, m) none) (hS : S = As.reverse ++ .ref b :: rest) (hrest : (rest.map fun v => v.category).sum ≤ 8) (kk : ∀ v : Int64 × mm_V, f v = some r → mm_G K M (d + 1) (mm_Xo cv g r) (pc + 3) L (.long v.1 :: rest) (g, v.2) none 0 0) : mm_G K M (d + 1) (mm_Xo cv g r) pc L S (g, m) none 0 0 := mb_xV hd hw hlk hb hx hr hc hS hrest kk
theorem mb_xVv {α : Type} {cv : α → Option Value} {Y : mm_M} {fn : Option ((Unit ⊕ String) × mm_V)} {f : Unit × mm_V → Option ((α ⊕ String) × mm_V)} {r : (α ⊕ String) × mm_V} {idx t n b : Nat} {As rest : List Value} (hd : decode M.2.1 pc = .ok (.invokevirtual idx, 3)) (hw : mm_CV M.1.cls idx Y t As.length) (hlk : Cond.methodLink M.1.cls idx Y.1 ∈ lw_tbl) (hb : g b = some (t, n)) (hx : M.2.2.2.2 = []) (hr : mm_bx fn f = some r) (hc : ∀ v, fn = some v → mm_Cn K Y d (mm_Xv g v) (.ref b :: As) (g, m) none) (hS : S = As.reverse ++ .ref b :: rest) (hrest : (rest.map fun v => v.category).sum ≤ 8) (kk : ∀ v : Unit × mm_V, f v = some r → mm_G K M (d + 1) (mm_Xo cv g r) (pc + 3) L rest (g, v.2) none 0 0) : mm_G K M (d + 1) (mm_Xo cv g r) pc L S (g, m) none 0 0 := mb_xV hd hw hlk hb hx hr hc hS hrest kk
theorem mb_xSi {α : Type} {cv : α → Option Value} {Y : mm_M} {fn : Option ((Int32 ⊕ String) × mm_V)} {f : Int32 × mm_V → Option ((α ⊕ String) × mm_V)} {r : (α ⊕ String) × mm_V} {idx : Nat} {As rest : List Value} (hd : decode M.2.1 pc = .ok (.invokestatic idx, 3)) (hw : mm_CS M.1.cls idx Y As.length) (hlk : Cond.methodLink M.1.cls idx Y.1 ∈ lw_tbl) (hx : M.2.2.2.2 = []) (hr : mm_bx fn f = some r) (hc : ∀ v, fn = some v → mm_Cn K Y d (mm_Xi g v) As (g, m) none) (hS : S = As.reverse ++ rest) (hrest : (rest.map fun v => v.category).sum ≤ 8) (kk : ∀ v : Int32 × mm_V, f v = some r → mm_G K M (d + 1) (mm_Xo cv g r) (pc + 3) L (.int v.1 :: rest) (g, v.2) none 0 0) : mm_G K M (d + 1) (mm_Xo cv g r) pc L S (g, m) none 0 0 := mb_xS hd hw hlk hx hr hc hS hrest kk
theorem mb_xSl {α : Type} {cv : α → Option Value} {Y : mm_M} {fn : Option ((Int64 ⊕ String) × mm_V)} {f : Int64 × mm_V → Option ((α ⊕ String) × mm_V)} {r : (α ⊕ String) × mm_V} {idx : Nat} {As rest : List Value} (hd : decode M.2.1 pc = .ok (.invokestatic idx, 3)) (hw : mm_CS M.1.cls idx Y As.length) (hlk : Cond.methodLink M.1.cls idx Y.1 ∈ lw_tbl) (hx : M.2.2.2.2 = []) (hr : mm_bx fn f = some r) (hc : ∀ v, fn = some v → mm_Cn K Y d (mm_Xl g v) As (g, m) none) (hS : S = As.reverse ++ rest) (hrest : (rest.map fun v => v.category).sum ≤ 8) (kk : ∀ v : Int64 × mm_V, f v = some r → mm_G K M (d + 1) (mm_Xo cv g r) (pc + 3) L (.long v.1 :: rest) (g, v.2) none 0 0) : mm_G K M (d + 1) (mm_Xo cv g r) pc L S (g, m) none 0 0 := mb_xS hd hw hlk hx hr hc hS hrest kk
theorem mb_xSv {α : Type} {cv : α → Option Value} {Y : mm_M} {fn : Option ((Unit ⊕ String) × mm_V)} {f : Unit × mm_V → Option ((α ⊕ String) × mm_V)} {r : (α ⊕ String) × mm_V} {idx : Nat} {As rest : List Value} (hd : decode M.2.1 pc = .ok (.invokestatic idx, 3)) (hw : mm_CS M.1.cls idx Y As.length) (hlk : Cond.methodLink M.1.cls idx Y.1 ∈ lw_tbl) (hx : M.2.2.2.2 = []) (hr : mm_bx fn f = some r) (hc : ∀ v, fn = some v → mm_Cn K Y d (mm_Xv g v) As (g, m) none) (hS : S = As.reverse ++ rest) (hrest : (rest.map fun v => v.category).sum ≤ 8) (kk : ∀ v : Unit × mm_V, f v = some r → mm_G K M (d + 1) (mm_Xo cv g r) (pc + 3) L rest (g, v.2) none 0 0) : mm_G K M (d + 1) (mm_Xo cv g r) pc L S (g, m) none 0 0 := mb_xS hd hw hlk hx hr hc hS hrest kk
theorem mm_nse (own : String) (h : own = RX11) : mm_thw own 147 149 "java/util/NoSuchElementException" ["java/lang/RuntimeException", "java/lang/Exception"] := by
  subst h
  exact ⟨by decide +kernel, by decide +kernel, by decide +kernel, by decide +kernel, by decide +kernel, by decide, by decide +kernel⟩
theorem mm_iae (own : String) (h : own = RX11) : mm_thw own 102 104 "java/lang/IllegalArgumentException" ["java/lang/RuntimeException", "java/lang/Exception"] := by
  subst h
  exact ⟨by decide +kernel, by decide +kernel, by decide +kernel, by decide +kernel, by decide +kernel, by decide, by decide +kernel⟩
end MT2
