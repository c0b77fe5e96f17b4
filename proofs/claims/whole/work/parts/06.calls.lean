/-! Calls, ends, entries, things made. -/
def mm_CW (own : String) (idx : Nat) (Y : mm_M) (n : Nat) : Prop := (Cond.methodLink own idx Y.1 ∈ lw_tbl ∨ ∃ host : String, Cond.methodLinkNest own idx Y.1 host ∈ lw_tbl) ∧ Cond.code Y.1 Y.2.1 Y.2.2.1 Y.2.2.2.1 ∈ lw_tbl ∧ Cond.initialized Y.1.cls ∈ lw_tbl ∧ (Y.1.cls ≠ "java/lang/invoke/MethodHandle" ∧ Y.1.cls ≠ "java/lang/invoke/VarHandle") ∧ (parseMethodDescriptor Y.1.desc).map (fun d => d.parameters.length) = some n ∧ Y.2.2.1 ≤ 45
def mm_CV (own : String) (idx : Nat) (Y : mm_M) (t n : Nat) : Prop := mm_CW own idx Y n ∧ Cond.instanceMethod Y.1 ∈ lw_tbl ∧ t < 13 ∧ ∃ q : vw_C, vwCl[t]? = some q ∧ Cond.selects q.1 Y.1 Y.1 ∈ lw_tbl
def mm_CS (own : String) (idx : Nat) (Y : mm_M) (n : Nat) : Prop := mm_CW own idx Y n ∧ Cond.static Y.1 ∈ lw_tbl
def mm_CI (own : String) (idx : Nat) (Y : mm_M) (n : Nat) : Prop := mm_CW own idx Y n ∧ Cond.instanceMethod Y.1 ∈ lw_tbl ∧ Y.1.name = "<init>" ∧ Y.2.2.2.1 = none
section MG3
variable {K : mm_K} {M : mm_M} {d : Nat} {F : mm_F} {pc : Nat} {L : List (Option Value)} {S : List Value} {h : mm_H} {nx : Option Nat} {cells slots : Nat}
theorem mm_blind {av : List Value} : FrameBlind (mm_Pc K av h nx) := fun _ _ _ _ q => q
theorem mm_met {Y : mm_M} {F' : mm_F} {av : List Value} {v : Option Value} (hok : mm_ok K) (hc : mm_Cn K Y d F' av h nx) (hv : F'.2.2.1 = .inl v) : Met K.1 Y.1 [Cond.code Y.1 Y.2.1 Y.2.2.1 Y.2.2.2.1] (mm_R d F') (mm_Pc K av h nx) (mm_Qc K F') F'.1 F'.2.1 (fun q => mm_base K ≤ q) := by
  refine Jvm.Free.MetFree.mono (hc hok) (fun _ _ h => h) (fun _ _ _ _ _ h => h) (fun a st o t _ h => ?_)
  rcases h with h | ⟨q, -, E, ce, L, ⟨hx, -⟩, -⟩
  · exact h
  · rw [hv] at hx; cases hx
theorem mm_words {p : Program} {s : State} {mi : MethodId} {meth : Method} {c : Code} (A : mm_At K M p s mi meth c) {w : Cond} (hw : w ∈ lw_tbl) (hg : goodWord w = true) : ∀ w' ∈ [w], ∀ (a' : Array Value) (U : State), s.WarmedH U.vm → w'.before a' U = true := by
  intro w' h' a' U hW
  cases List.mem_singleton.mp h'
  exact word_at hW (good_of_word hg) (mm_w A hw hg #[])
theorem mm_go {Y : mm_M} {F' : mm_F} {av rest : List Value} {v : Option Value} {p : Program} {e : Env} {s : State} {mi : MethodId} {args : Array Value} {below : List Frame} {meth : Method} {c : Code} {H : Heap} {locs : List Loc} {ls : Array Slot} {Q : State → Prop} {R : Room}
    (hr : va_Run p K.1 e R s mi args below meth c H locs cells slots F'.1 F'.2.1 (F0 mi pc ls S) rest (mm_Qc K F' av.toArray) (fun q => mm_base K ≤ q)) (hv : F'.2.2.1 = .inl v) (hl : ∀ z ∈ locs, mm_base K ≤ z.base)
    (kk : ∀ (H1 : Heap) (locs1 : List Loc), mm_HR K F'.2.2.2.1 F'.2.2.2.2 H1 → s.heap.size ≤ H1.size → (∀ z ∈ locs1, mm_base K ≤ z.base) → W p K.1 e R s mi args below meth c H1 locs1 (cells + F'.1) (slots + F'.2.1) Q (F0 mi (pc + 3) ls (v.toList ++ rest))) : W p K.1 e R s mi args below meth c H locs cells slots Q (F0 mi pc ls S) := by
  intro T hT X
  obtain ⟨w, st₀, t, T', L', h0, X', hL, e1, e2, ⟨v', q1, q2, q3⟩, st⟩ := hr T hT X
  cases q2
  cases Sum.inl.inj (hv.symm.trans q1)
  obtain ⟨t2, a1, b1⟩ := kk T'.heap (locs ++ L') (by rw [e1]; exact q3) (vx_frame X'.same).1 (fun z hz => by
    rcases List.mem_append.mp hz with h | h
    · exact hl z h
    · exact hL z h) T' rfl X'
  exact ⟨t2, st t2 a1, b1⟩
theorem mm_wk {rest : List Value} {mi : MethodId} {ls : Array Slot} (hw : (rest.map fun v => v.category).sum ≤ 8) : 2 * (F0 mi pc ls S).monitorRoom + (rest.map fun v => v.category).sum ≤ 8 := by
  have : (F0 mi pc ls S).monitorRoom = 0 := rfl
  omega
theorem mm_arity {Y : mm_M} {n : Nat} (h : (parseMethodDescriptor Y.1.desc).map (fun d => d.parameters.length) = some n) : ∀ sig, parseMethodDescriptor Y.1.desc = some sig → n = sig.parameters.length := by
  intro sig hs
  rw [hs] at h
  exact (Option.some.inj h).symm
theorem mg_callV {Y : mm_M} {F' : mm_F} {idx t n b : Nat} {As rest : List Value} {v : Option Value} (hd : decode M.2.1 pc = .ok (.invokevirtual idx, 3)) (hw : mm_CV M.1.cls idx Y t As.length) (hc : mm_Cn K Y d F' (.ref b :: As) h nx) (hb : h.1 b = some (t, n)) (hv : F'.2.2.1 = .inl v) (hS : S = As.reverse ++ .ref b :: rest) (hr : (rest.map fun v => v.category).sum ≤ 8) (h1 : cells + F'.1 ≤ F.1) (h2 : slots + F'.2.1 ≤ F.2.1)
    (kk : mm_G K M (d + 1) F (pc + 3) L (v.toList ++ rest) F'.2.2.2.1 F'.2.2.2.2 (cells + F'.1) (slots + F'.2.1)) : mm_G K M (d + 1) F pc L S h nx cells slots := by
  intro p e s mi args below meth c A H locs ls hH hz hl hlv
  obtain ⟨⟨hlk, w1, w2, hy, hn, hmx⟩, w3, ht, q, hq, w4⟩ := hw
  have hok := A.2.2.2.2.2.2.2.2.2.2.2
  have hM := mm_met hok hc hv
  obtain ⟨-, cell, hc1, hc2⟩ := hH.1 b t n hb (by omega)
  obtain ⟨q', hq', -, hcl, hvm, -⟩ := mm_obj ht hc2
  cases hq.symm.trans hq'
  have hfc := (mm_kn A hq).2.1
  have hp : PreV s H q.1 b (mm_Pc K (.ref b :: As) h nx) As := ⟨mm_blind, ⟨cell, hc1, by rw [hvm]; rfl, by rw [hcl]; exact hfc⟩, fun U hU hW => ⟨rfl, State.WarmedH.trans A.2.2.2.2.2.2.2.2.1 hW, by rw [hU]; exact hH⟩⟩
  have hlo : 8 + (Y.2.2.1 + 11) + (mm_R d F').locals ≤ (mm_R (d + 1) F).locals := by show 8 + (Y.2.2.1 + 11) + 64 * d ≤ 64 * (d + 1); omega
  refine mm_go (Y := Y) (F' := F') (av := .ref b :: As) (rest := rest) ?_ hv hl (fun H1 locs1 a1 a2 a3 => kk p e s mi args below meth c A H1 locs1 ls a1 a2 a3 hlv)
  rcases hlk with hlk | ⟨host, hlk⟩
  · exact va_runV (cc := M.2.1) (nL := M.2.2.1) (Ts := []) (own := M.1.cls) ⟨A.1, A.2.1, A.2.2.2.1, A.2.2.2.2.1, fun w hw => by cases hw⟩ hM ⟨⟨rfl, rfl, Nat.le_refl _, hlo, mm_words A w1 rfl, List.mem_singleton_self _, mm_w A w1 rfl args, mm_w A w2 rfl args, hy, mm_arity hn, mm_w A hlk rfl args⟩, mm_w A w3 rfl args, mm_w A w4 rfl args⟩ hp rfl rfl hlv.1 hS (mm_wk hr) hd ⟨h1, h2⟩
  · exact va_runVN (cc := M.2.1) (nL := M.2.2.1) (Ts := []) (own := M.1.cls) ⟨A.1, A.2.1, A.2.2.2.1, A.2.2.2.2.1, fun w hw => by cases hw⟩ hM ⟨⟨⟨rfl, rfl, Nat.le_refl _, hlo, mm_words A w1 rfl, List.mem_singleton_self _⟩, mm_w A w1 rfl args, mm_w A w2 rfl args, hy, mm_arity hn, va_Nw.use rfl (mm_wM A hlk)⟩, mm_w A w3 rfl args, mm_w A w4 rfl args⟩ hp rfl rfl hlv.1 hS (mm_wk hr) hd ⟨h1, h2⟩
theorem mg_callS {Y : mm_M} {F' : mm_F} {idx : Nat} {As rest : List Value} {v : Option Value} (hd : decode M.2.1 pc = .ok (.invokestatic idx, 3)) (hw : mm_CS M.1.cls idx Y As.length) (hc : mm_Cn K Y d F' As h nx) (hv : F'.2.2.1 = .inl v) (hS : S = As.reverse ++ rest) (hr : (rest.map fun v => v.category).sum ≤ 8) (h1 : cells + F'.1 ≤ F.1) (h2 : slots + F'.2.1 ≤ F.2.1)
    (kk : mm_G K M (d + 1) F (pc + 3) L (v.toList ++ rest) F'.2.2.2.1 F'.2.2.2.2 (cells + F'.1) (slots + F'.2.1)) : mm_G K M (d + 1) F pc L S h nx cells slots := by
  intro p e s mi args below meth c A H locs ls hH hz hl hlv
  obtain ⟨⟨hlk, w1, w2, hy, hn, hmx⟩, w3⟩ := hw
  have hok := A.2.2.2.2.2.2.2.2.2.2.2
  have hM := mm_met hok hc hv
  have hp : PreS s H (mm_Pc K As h nx) As := ⟨mm_blind, fun U hU hW => ⟨rfl, State.WarmedH.trans A.2.2.2.2.2.2.2.2.1 hW, by rw [hU]; exact hH⟩⟩
  have hlo : 8 + (Y.2.2.1 + 11) + (mm_R d F').locals ≤ (mm_R (d + 1) F).locals := by show 8 + (Y.2.2.1 + 11) + 64 * d ≤ 64 * (d + 1); omega
  refine mm_go (Y := Y) (F' := F') (av := As) (rest := rest) ?_ hv hl (fun H1 locs1 a1 a2 a3 => kk p e s mi args below meth c A H1 locs1 ls a1 a2 a3 hlv)
  rcases hlk with hlk | ⟨host, hlk⟩
  · exact va_runS (cc := M.2.1) (nL := M.2.2.1) (Ts := []) (own := M.1.cls) ⟨A.1, A.2.1, A.2.2.2.1, A.2.2.2.2.1, fun w hw => by cases hw⟩ hM ⟨⟨rfl, rfl, Nat.le_refl _, hlo, mm_words A w1 rfl, List.mem_singleton_self _, mm_w A w1 rfl args, mm_w A w2 rfl args, hy, mm_arity hn, mm_w A hlk rfl args⟩, mm_w A w3 rfl args⟩ hp rfl rfl hlv.1 hS (mm_wk hr) hd ⟨h1, h2⟩
  · exact va_runSN (cc := M.2.1) (nL := M.2.2.1) (Ts := []) (own := M.1.cls) ⟨A.1, A.2.1, A.2.2.2.1, A.2.2.2.2.1, fun w hw => by cases hw⟩ hM ⟨⟨⟨rfl, rfl, Nat.le_refl _, hlo, mm_words A w1 rfl, List.mem_singleton_self _⟩, mm_w A w1 rfl args, mm_w A w2 rfl args, hy, mm_arity hn, va_Nw.use rfl (mm_wM A hlk)⟩, mm_w A w3 rfl args, trivial⟩ hp rfl rfl hlv.1 hS (mm_wk hr) hd ⟨h1, h2⟩
theorem mg_callI {Y : mm_M} {F' : mm_F} {idx b : Nat} {As rest : List Value} (hd : decode M.2.1 pc = .ok (.invokespecial idx, 3)) (hw : mm_CI M.1.cls idx Y As.length) (hc : mm_Cn K Y d F' (.ref b :: As) h nx) (hv : F'.2.2.1 = .inl none) (hS : S = As.reverse ++ .ref b :: rest) (hr : (rest.map fun v => v.category).sum ≤ 8) (h1 : cells + F'.1 ≤ F.1) (h2 : slots + F'.2.1 ≤ F.2.1)
    (kk : mm_G K M (d + 1) F (pc + 3) L rest F'.2.2.2.1 F'.2.2.2.2 (cells + F'.1) (slots + F'.2.1)) : mm_G K M (d + 1) F pc L S h nx cells slots := by
  intro p e s mi args below meth c A H locs ls hH hz hl hlv
  obtain ⟨⟨hlk, w1, w2, hy, hn, hmx⟩, w3, hnm, hrt⟩ := hw
  have hok := A.2.2.2.2.2.2.2.2.2.2.2
  have hM := mm_met hok hc hv
  have hp : PreS s H (mm_Pc K (.ref b :: As) h nx) (.ref b :: As) := ⟨mm_blind, fun U hU hW => ⟨rfl, State.WarmedH.trans A.2.2.2.2.2.2.2.2.1 hW, by rw [hU]; exact hH⟩⟩
  have hlo : 8 + (Y.2.2.1 + 11) + (mm_R d F').locals ≤ (mm_R (d + 1) F).locals := by show 8 + (Y.2.2.1 + 11) + 64 * d ≤ 64 * (d + 1); omega
  rw [hrt] at w1 hM
  refine mm_go (Y := Y) (F' := F') (av := .ref b :: As) (rest := rest) ?_ hv hl (fun H1 locs1 a1 a2 a3 => kk p e s mi args below meth c A H1 locs1 ls a1 a2 a3 hlv)
  rcases hlk with hlk | ⟨host, hlk⟩
  · exact va_runI (cc := M.2.1) (nL := M.2.2.1) (Ts := []) (own := M.1.cls) ⟨A.1, A.2.1, A.2.2.2.1, A.2.2.2.2.1, fun w hw => by cases hw⟩ hM ⟨⟨rfl, rfl, Nat.le_refl _, hlo, mm_words A w1 rfl, List.mem_singleton_self _, mm_w A w1 rfl args, mm_w A w2 rfl args, hy, mm_arity hn, mm_w A hlk rfl args⟩, hnm, mm_w A w3 rfl args⟩ hp rfl rfl hlv.1 hS (mm_wk hr) hd ⟨h1, h2⟩
  · exact va_runIN (cc := M.2.1) (nL := M.2.2.1) (Ts := []) (own := M.1.cls) ⟨A.1, A.2.1, A.2.2.2.1, A.2.2.2.2.1, fun w hw => by cases hw⟩ hM ⟨⟨⟨rfl, rfl, Nat.le_refl _, hlo, mm_words A w1 rfl, List.mem_singleton_self _⟩, mm_w A w1 rfl args, mm_w A w2 rfl args, hy, mm_arity hn, va_Nw.use rfl (mm_wM A hlk)⟩, hnm, mm_w A w3 rfl args⟩ hp rfl rfl hlv.1 hS (mm_wk hr) hd ⟨h1, h2⟩
-- ===== ends =====
theorem mg_iret {v : Int32} {ty : FieldType} (hd : decode M.2.1 pc = .ok (.ireturn, 1)) (hr : M.2.2.2.1 = some ty) (hn : narrow ty (.int v) = .int v) (hF : F.2.2.1 = .inl (some (.int v))) (hh : F.2.2.2.1 = h) (hnx : F.2.2.2.2 = nx) (h1 : cells ≤ F.1) (h2 : slots ≤ F.2.1) : mm_G K M d F pc L [.int v] h nx cells slots := by
  intro p e s mi args below meth c A H locs ls hH hz hl hlv
  exact vx_ret (W.widen h1 h2 (W.zret A.1 A.2.1 (A.2.2.1.trans hr) hn (fun t ht hW => ⟨some (.int v), hF, rfl, by rw [hh, hnx, ht]; exact hH⟩) hl hd A.2.2.2.2.2.1))
theorem mg_lret {v : Int64} (hd : decode M.2.1 pc = .ok (.lreturn, 1)) (hr : M.2.2.2.1 = some .long) (hF : F.2.2.1 = .inl (some (.long v))) (hh : F.2.2.2.1 = h) (hnx : F.2.2.2.2 = nx) (h1 : cells ≤ F.1) (h2 : slots ≤ F.2.1) : mm_G K M d F pc L [.long v] h nx cells slots := by
  intro p e s mi args below meth c A H locs ls hH hz hl hlv
  exact vx_ret (W.widen h1 h2 (W.lret A.1 A.2.1 (A.2.2.1.trans hr) (fun t ht hW => ⟨some (.long v), hF, rfl, by rw [hh, hnx, ht]; exact hH⟩) hl hd A.2.2.2.2.2.1))
theorem mg_aret {v : Nat} {C : String} (hd : decode M.2.1 pc = .ok (.areturn, 1)) (hr : M.2.2.2.1 = some (.object C)) (hF : F.2.2.1 = .inl (some (.ref v))) (hh : F.2.2.2.1 = h) (hnx : F.2.2.2.2 = nx) (h1 : cells ≤ F.1) (h2 : slots ≤ F.2.1) : mm_G K M d F pc L [.ref v] h nx cells slots := by
  intro p e s mi args below meth c A H locs ls hH hz hl hlv
  exact vx_ret (W.widen h1 h2 (W.aret A.1 A.2.1 (A.2.2.1.trans hr) (Or.inl ⟨C, rfl⟩) (Or.inr ⟨v, rfl⟩) (fun t ht hW => ⟨some (.ref v), hF, rfl, by rw [hh, hnx, ht]; exact hH⟩) hl hd A.2.2.2.2.2.1))
theorem mg_vret (hd : decode M.2.1 pc = .ok (.return_, 1)) (hr : M.2.2.2.1 = none) (hF : F.2.2.1 = .inl none) (hh : F.2.2.2.1 = h) (hnx : F.2.2.2.2 = nx) (h1 : cells ≤ F.1) (h2 : slots ≤ F.2.1) : mm_G K M d F pc L [] h nx cells slots := by
  intro p e s mi args below meth c A H locs ls hH hz hl hlv
  exact vx_ret (W.widen h1 h2 (W.vret A.1 A.2.1 (A.2.2.1.trans hr) (fun t ht hW => ⟨none, hF, rfl, by rw [hh, hnx, ht]; exact hH⟩) hl hd A.2.2.2.2.2.1))
-- ===== fewer locals are known =====
def mm_le : List (Option Value) → List (Option Value) → Prop
  | [], _ => True
  | none :: xs, [] => mm_le xs []
  | none :: xs, _ :: ys => mm_le xs ys
  | some _ :: _, [] => False
  | some v :: xs, y :: ys => y = some v ∧ mm_le xs ys
theorem mm_le_get : ∀ (L' L : List (Option Value)), mm_le L' L → ∀ (i : Nat) (v : Value), L'[i]? = some (some v) → L[i]? = some (some v)
  | [], _, _, i, v, h => by simp at h
  | none :: xs, [], hl, 0, v, h => by simp at h
  | none :: xs, [], hl, i + 1, v, h => by
    have := mm_le_get xs [] hl i v (by simpa using h)
    simp at this
  | none :: xs, y :: ys, hl, 0, v, h => by simp at h
  | none :: xs, y :: ys, hl, i + 1, v, h => by
    have := mm_le_get xs ys hl i v (by simpa using h)
    simpa using this
  | some w :: xs, [], hl, _, _, _ => hl.elim
  | some w :: xs, y :: ys, hl, 0, v, h => by
    simp at h
    subst h
    simp [hl.1]
  | some w :: xs, y :: ys, hl, i + 1, v, h => by
    have := mm_le_get xs ys hl.2 i v (by simpa using h)
    simpa using this
theorem mg_weak {L' : List (Option Value)} (hle : mm_le L' L) (kk : mm_G K M d F pc L' S h nx cells slots) : mm_G K M d F pc L S h nx cells slots :=
  fun p e s mi args below meth c A H locs ls hH hz hl hlv => kk p e s mi args below meth c A H locs ls hH hz hl ⟨hlv.1, hlv.2.1, fun i v hi => hlv.2.2 i v (mm_le_get L' L hle i v hi)⟩
-- ===== entry =====
def mm_in : List Value → List (Option Value)
  | [] => []
  | .long v :: vs => some (.long v) :: none :: mm_in vs
  | .double v :: vs => some (.double v) :: none :: mm_in vs
  | v :: vs => some v :: mm_in vs
theorem mm_in_args : ∀ (vs : List Value) (j i : Nat) (v : Value), (mm_in vs)[i]? = some (some v) → (j + i, v) ∈ lv_args j vs := by
  intro vs
  induction vs with
  | nil => intro j i v h; simp [mm_in] at h
  | cons x xs ih =>
    intro j i v h
    cases x <;> cases i with
    | zero => simp [mm_in] at h; subst h; simp [lv_args]
    | succ i =>
      first
        | (have := ih (j + 1) i v (by simpa [mm_in] using h)
           refine List.mem_cons_of_mem _ ?_
           rw [show j + (i + 1) = j + 1 + i by omega]
           exact this)
        | (cases i with
           | zero => simp [mm_in] at h
           | succ i =>
             have := ih (j + 2) i v (by simpa [mm_in] using h)
             refine List.mem_cons_of_mem _ ?_
             rw [show j + (i + 1 + 1) = j + 2 + i by omega]
             exact this)
theorem mm_entry {av : List Value} (hy : plainName M.1.cls = true) (hmx : (lg_sl av).length ≤ M.2.2.1) (hx : M.2.2.2.2 = []) (kk : mm_ok K → mm_G K M d F 0 (mm_in av) [] h nx 0 0) : mm_Cn K M d F av h nx := by
  intro hok
  refine vx_ofW (cc := M.2.1) (maxL := M.2.2.1) (ret := M.2.2.2.1) hy rfl ?_
  intro p e s mi args below meth c s₁ B hml hex hv
  obtain ⟨rfl, hW, hH⟩ := hv
  have hl := lv_entry av (n := M.2.2.1) hmx
  rw [lg_entry_eq]
  generalize (lg_sl av ++ List.replicate (M.2.2.1 - (lg_sl av).length) Slot.unset).toArray = ls at hl ⊢
  have hlv : mm_lv ls M.2.2.1 (mm_in av) := ⟨hl.1, hl.2.1, fun i v hi => hl.2.2 (i, v) (by have := mm_in_args av 0 i v hi; rwa [Nat.zero_add] at this)⟩
  refine kk hok p e s mi _ below meth c ⟨B.exec, B.bytes, B.returns, hml, findClass_of_methodNamed B.named, B.notSynchronized, ?_, ?_, hW, fun q hq => hH.2.2.2.1 q hq, hH.2.2.2.2, hok⟩ s.heap [] ls hH (Nat.le_refl _) (fun z hz => by cases hz) hlv
  · exact (name_of_methodNamed B.named B.method).1
  · rw [hx]
    cases hq : c.exceptionTable.toList with
    | nil => rfl
    | cons x xs => exact (hex x (by rw [hq]; exact List.mem_cons_self)).elim
end MG3
