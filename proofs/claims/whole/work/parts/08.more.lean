theorem mm_le_0 {ys : List (Option Value)} : mm_le [] ys := trivial
theorem mm_le_n {xs ys : List (Option Value)} {y : Option Value} (h : mm_le xs ys) : mm_le (none :: xs) (y :: ys) := h
theorem mm_le_e {xs : List (Option Value)} (h : mm_le xs []) : mm_le (none :: xs) [] := h
theorem mm_le_s {xs ys : List (Option Value)} {v : Value} (h : mm_le xs ys) : mm_le (some v :: xs) (some v :: ys) := ⟨rfl, h⟩
theorem mm_nin_0 {x : Int32} : ∀ y ∈ ([] : List Int32), ¬ x = y := fun _ h => by cases h
theorem mm_nin_c {x c : Int32} {l : List Int32} (h : ¬ x = c) (t : ∀ y ∈ l, ¬ x = y) : ∀ y ∈ c :: l, ¬ x = y := fun y hy => (List.mem_cons.mp hy).elim (fun e => by rw [e]; exact h) (t y)
def mm_swo (lo hi : Int) (offs : Array Int) (c : Int32) : Option Int := if c.toInt < lo ∨ hi < c.toInt then none else offs[(c.toInt - lo).toNat]?
def mm_swd (dflt lo hi : Int) (offs : Array Int) (cs : List Int32) : Bool := decide (hi - lo + 1 = (offs.size : Int)) && (List.range offs.size).all (fun j => cs.contains (Int32.ofInt (lo + j)) || offs[j]? == some dflt)
def mm_lkd (ps : Array (Int × Int)) (cs : List Int32) : Bool := ps.toList.all (fun q => cs.contains (Int32.ofInt q.1))
section MG4
variable {K : mm_K} {M : mm_M} {d : Nat} {F : mm_F} {pc : Nat} {L : List (Option Value)} {S : List Value} {h : mm_H} {nx : Option Nat} {cells slots : Nat}
theorem mg_tableK {x c : Int32} {dflt lo hi : Int} {offs : Array Int} {len : Nat} (off : Int) (tgt : Nat) (hd : decode M.2.1 pc = .ok (.tableswitch dflt lo hi offs, len)) (hc : x = c) (ho : mm_swo lo hi offs c = some off) (ht : (pc : Int) + off = (tgt : Int)) (kk : mm_G K M d F tgt L S h nx cells slots) : mm_G K M d F pc L (.int x :: S) h nx cells slots := by
  subst hc
  unfold mm_swo at ho
  split at ho
  · cases ho
  · next hn => exact mg_tableIn tgt hd (fun q => hn (Or.inl q)) (fun q => hn (Or.inr q)) ho ht kk
theorem mg_tableD {x : Int32} {cs : List Int32} {dflt lo hi : Int} {offs : Array Int} {len : Nat} (tgt : Nat) (hd : decode M.2.1 pc = .ok (.tableswitch dflt lo hi offs, len)) (hn : ∀ y ∈ cs, ¬ x = y) (ho : mm_swd dflt lo hi offs cs = true) (ht : (pc : Int) + dflt = (tgt : Int)) (kk : mm_G K M d F tgt L S h nx cells slots) : mm_G K M d F pc L (.int x :: S) h nx cells slots := by
  unfold mm_swd at ho
  rw [Bool.and_eq_true] at ho
  obtain ⟨h1, h2⟩ := ho
  have h1 := of_decide_eq_true h1
  by_cases hx : x.toInt < lo ∨ hi < x.toInt
  · exact mg_tableOut tgt hd hx ht kk
  · have hlo : ¬ x.toInt < lo := fun q => hx (Or.inl q)
    have hhi : ¬ hi < x.toInt := fun q => hx (Or.inr q)
    have hj : (x.toInt - lo).toNat < offs.size := by omega
    have h3 := List.all_eq_true.mp h2 _ (List.mem_range.mpr hj)
    have e1 : Int32.ofInt (lo + ((x.toInt - lo).toNat : Int)) = x := by
      rw [show lo + ((x.toInt - lo).toNat : Int) = x.toInt by omega]
      exact Int32.ofInt_toInt x
    rw [e1] at h3
    rw [Bool.or_eq_true] at h3
    rcases h3 with h3 | h3
    · exact absurd rfl (hn x (List.contains_iff_mem.mp h3))
    · exact mg_tableIn tgt hd hlo hhi (by simpa using h3) ht kk
theorem mg_lookK {x c : Int32} {dflt : Int} {ps : Array (Int × Int)} {len : Nat} (off : Int) (tgt : Nat) (hd : decode M.2.1 pc = .ok (.lookupswitch dflt ps, len)) (hc : x = c) (ho : ((ps.toList.zip (ps.toList.drop 1)).all (fun (a, next) => a.1 < next.1) = true) ∧ Op.lookupswitch.offset ps.toList dflt c.toInt = off) (ht : (pc : Int) + off = (tgt : Int)) (kk : mm_G K M d F tgt L S h nx cells slots) : mm_G K M d F pc L (.int x :: S) h nx cells slots := by
  subst hc
  exact mg_lookup tgt hd ho.1 ho.2 ht kk
theorem mm_lk : ∀ (ps : List (Int × Int)) (dflt z : Int), (∀ q ∈ ps, q.1 ≠ z) → Op.lookupswitch.offset ps dflt z = dflt
  | [], _, _, _ => rfl
  | (a, o) :: ps, dflt, z, h => by
    have h1 : a ≠ z := h (a, o) List.mem_cons_self
    have h2 := mm_lk ps dflt z (fun q hq => h q (List.mem_cons_of_mem _ hq))
    unfold Op.lookupswitch.offset
    simp [h1, Ne.symm h1, h2]
theorem mg_lookD {x : Int32} {cs : List Int32} {dflt : Int} {ps : Array (Int × Int)} {len : Nat} (tgt : Nat) (hd : decode M.2.1 pc = .ok (.lookupswitch dflt ps, len)) (hn : ∀ y ∈ cs, ¬ x = y) (ho : ((ps.toList.zip (ps.toList.drop 1)).all (fun (a, next) => a.1 < next.1) = true) ∧ mm_lkd ps cs = true) (ht : (pc : Int) + dflt = (tgt : Int)) (kk : mm_G K M d F tgt L S h nx cells slots) : mm_G K M d F pc L (.int x :: S) h nx cells slots := by
  refine mg_lookup tgt hd ho.1 (mm_lk _ _ _ (fun q hq e => ?_)) ht kk
  have h1 := List.all_eq_true.mp ho.2 q hq
  have h2 : Int32.ofInt q.1 = x := by rw [e]; exact Int32.ofInt_toInt x
  rw [h2] at h1
  exact hn x (List.contains_iff_mem.mp h1) rfl
end MG4
-- ===== loads and stores by rule (no search through the list) =====
def mm_get (L : List (Option Value)) (i : Nat) (v : Value) : Prop := L[i]? = some (some v)
theorem mm_get_0 {L : List (Option Value)} {v : Value} : mm_get (some v :: L) 0 v := rfl
theorem mm_get_s {L : List (Option Value)} {x : Option Value} {i : Nat} {v : Value} (h : mm_get L i v) : mm_get (x :: L) (i + 1) v := by unfold mm_get at h ⊢; simpa using h
theorem mm_st1_0 {L : List (Option Value)} {y : Option Value} {v : Value} : mm_st1 (y :: L) 0 v = some v :: L := rfl
theorem mm_st1_n {L : List (Option Value)} {y : Option Value} {v : Value} : mm_st1 (none :: y :: L) 1 v = none :: some v :: L := rfl
theorem mm_st1_i {L : List (Option Value)} {y : Option Value} {x : Int32} {v : Value} : mm_st1 (some (.int x) :: y :: L) 1 v = some (.int x) :: some v :: L := rfl
theorem mm_st1_r {L : List (Option Value)} {y : Option Value} {x : Nat} {v : Value} : mm_st1 (some (.ref x) :: y :: L) 1 v = some (.ref x) :: some v :: L := rfl
theorem mm_st1_l {L : List (Option Value)} {y : Option Value} {x : Int64} {v : Value} : mm_st1 (some (.long x) :: y :: L) 1 v = none :: some v :: L := rfl
theorem mm_st1_s {L L' : List (Option Value)} {x : Option Value} {i : Nat} {v : Value} (h : mm_st1 L (i + 1) v = L') : mm_st1 (x :: L) (i + 2) v = x :: L' := by
  subst h
  show _ = _
  unfold mm_st1 mm_cl
  simp only [List.getElem?_cons_succ]
  split <;> rfl
theorem mm_st2_0 {L : List (Option Value)} {y z : Option Value} {v : Value} : mm_st2 (y :: z :: L) 0 v = some v :: none :: L := rfl
theorem mm_st2_n {L : List (Option Value)} {y z : Option Value} {v : Value} : mm_st2 (none :: y :: z :: L) 1 v = none :: some v :: none :: L := rfl
theorem mm_st2_i {L : List (Option Value)} {y z : Option Value} {x : Int32} {v : Value} : mm_st2 (some (.int x) :: y :: z :: L) 1 v = some (.int x) :: some v :: none :: L := rfl
theorem mm_st2_r {L : List (Option Value)} {y z : Option Value} {x : Nat} {v : Value} : mm_st2 (some (.ref x) :: y :: z :: L) 1 v = some (.ref x) :: some v :: none :: L := rfl
theorem mm_st2_l {L : List (Option Value)} {y z : Option Value} {x : Int64} {v : Value} : mm_st2 (some (.long x) :: y :: z :: L) 1 v = none :: some v :: none :: L := rfl
theorem mm_st2_s {L L' : List (Option Value)} {x : Option Value} {i : Nat} {v : Value} (h : mm_st2 L (i + 1) v = L') : mm_st2 (x :: L) (i + 2) v = x :: L' := by
  subst h
  show _ = _
  unfold mm_st2 mm_cl
  simp only [List.getElem?_cons_succ]
  split <;> rfl
section MG5
variable {K : mm_K} {M : mm_M} {d : Nat} {F : mm_F} {pc : Nat} {L : List (Option Value)} {S : List Value} {h : mm_H} {nx : Option Nat} {cells slots : Nat}
theorem ml_iload_n {k : Fin 4} {i : Nat} {x : Int32} (hd : decode M.2.1 pc = .ok (.iload_n k, 1)) (hi : (k : Nat) = i) (hL : mm_get L i (.int x)) (kk : mm_G K M d F (pc + 1) L (.int x :: S) h nx cells slots) : mm_G K M d F pc L S h nx cells slots := mg_iload_n hd (by rw [hi]; exact hL) kk
theorem ml_iload {i : Nat} {x : Int32} (hd : decode M.2.1 pc = .ok (.iload i, 2)) (hL : mm_get L i (.int x)) (kk : mm_G K M d F (pc + 2) L (.int x :: S) h nx cells slots) : mm_G K M d F pc L S h nx cells slots := mg_iload hd hL kk
theorem ml_lload_n {k : Fin 4} {i : Nat} {x : Int64} (hd : decode M.2.1 pc = .ok (.lload_n k, 1)) (hi : (k : Nat) = i) (hL : mm_get L i (.long x)) (kk : mm_G K M d F (pc + 1) L (.long x :: S) h nx cells slots) : mm_G K M d F pc L S h nx cells slots := mg_lload_n hd (by rw [hi]; exact hL) kk
theorem ml_lload {i : Nat} {x : Int64} (hd : decode M.2.1 pc = .ok (.lload i, 2)) (hL : mm_get L i (.long x)) (kk : mm_G K M d F (pc + 2) L (.long x :: S) h nx cells slots) : mm_G K M d F pc L S h nx cells slots := mg_lload hd hL kk
theorem ml_aload_n {k : Fin 4} {i : Nat} {x : Nat} (hd : decode M.2.1 pc = .ok (.aload_n k, 1)) (hi : (k : Nat) = i) (hL : mm_get L i (.ref x)) (kk : mm_G K M d F (pc + 1) L (.ref x :: S) h nx cells slots) : mm_G K M d F pc L S h nx cells slots := mg_aload_n hd (by rw [hi]; exact hL) kk
theorem ml_aload {i : Nat} {x : Nat} (hd : decode M.2.1 pc = .ok (.aload i, 2)) (hL : mm_get L i (.ref x)) (kk : mm_G K M d F (pc + 2) L (.ref x :: S) h nx cells slots) : mm_G K M d F pc L S h nx cells slots := mg_aload hd hL kk
theorem ml_istore_n {k : Fin 4} {i : Nat} {x : Int32} {L' : List (Option Value)} (hd : decode M.2.1 pc = .ok (.istore_n k, 1)) (hi : (k : Nat) = i) (hm : i < M.2.2.1) (hL : mm_st1 L i (.int x) = L') (kk : mm_G K M d F (pc + 1) L' S h nx cells slots) : mm_G K M d F pc L (.int x :: S) h nx cells slots := mg_istore_n hd (by rw [hi]; exact hm) (by rw [hi]; exact hL) kk
theorem ml_istore {i : Nat} {x : Int32} {L' : List (Option Value)} (hd : decode M.2.1 pc = .ok (.istore i, 2)) (hm : i < M.2.2.1) (hL : mm_st1 L i (.int x) = L') (kk : mm_G K M d F (pc + 2) L' S h nx cells slots) : mm_G K M d F pc L (.int x :: S) h nx cells slots := mg_istore hd hm hL kk
theorem ml_lstore_n {k : Fin 4} {i : Nat} {x : Int64} {L' : List (Option Value)} (hd : decode M.2.1 pc = .ok (.lstore_n k, 1)) (hi : (k : Nat) = i) (hm : i + 1 < M.2.2.1) (hL : mm_st2 L i (.long x) = L') (kk : mm_G K M d F (pc + 1) L' S h nx cells slots) : mm_G K M d F pc L (.long x :: S) h nx cells slots := mg_lstore_n hd (by rw [hi]; exact hm) (by rw [hi]; exact hL) kk
theorem ml_lstore {i : Nat} {x : Int64} {L' : List (Option Value)} (hd : decode M.2.1 pc = .ok (.lstore i, 2)) (hm : i + 1 < M.2.2.1) (hL : mm_st2 L i (.long x) = L') (kk : mm_G K M d F (pc + 2) L' S h nx cells slots) : mm_G K M d F pc L (.long x :: S) h nx cells slots := mg_lstore hd hm hL kk
theorem ml_astore_n {k : Fin 4} {i : Nat} {x : Nat} {L' : List (Option Value)} (hd : decode M.2.1 pc = .ok (.astore_n k, 1)) (hi : (k : Nat) = i) (hm : i < M.2.2.1) (hL : mm_st1 L i (.ref x) = L') (kk : mm_G K M d F (pc + 1) L' S h nx cells slots) : mm_G K M d F pc L (.ref x :: S) h nx cells slots := mg_astore_n hd (by rw [hi]; exact hm) (by rw [hi]; exact hL) kk
theorem ml_astore {i : Nat} {x : Nat} {L' : List (Option Value)} (hd : decode M.2.1 pc = .ok (.astore i, 2)) (hm : i < M.2.2.1) (hL : mm_st1 L i (.ref x) = L') (kk : mm_G K M d F (pc + 2) L' S h nx cells slots) : mm_G K M d F pc L (.ref x :: S) h nx cells slots := mg_astore hd hm hL kk
theorem ml_iinc {i : Nat} {n : Int} {x v : Int32} {L' : List (Option Value)} (hd : decode M.2.1 pc = .ok (.iinc i n, 3)) (hg : mm_get L i (.int x)) (hv : x + Int32.ofInt n = v) (hm : i < M.2.2.1) (hL : mm_st1 L i (.int v) = L') (kk : mm_G K M d F (pc + 3) L' S h nx cells slots) : mm_G K M d F pc L S h nx cells slots := mg_iinc hd hg hv hm hL kk
end MG5
-- ===== entry of a method of a class of which the machine has some methods of its own =====
theorem mm_ofWF {l : Launch} {y : MethodName} {ws ws' : List Cond} {rm : Room} {Pc : Array Value → State → Prop} {Qc : Array Value → State → Outcome → State → Prop} {XC : String → State → State → Prop} {mc ms : Nat} {free : Addr → Prop} {cc : ByteArray} {maxL : Nat} {ret : Option FieldType}
    (hy : plainFor y = true) (hw : ws = Cond.code y cc maxL ret :: ws')
    (body : ∀ p e s m args below meth c s₁, BodyLoose p l y (headSpec ws rm) cc maxL ret e s m args below meth c s₁ → c.maxLocals = maxL → (∀ x ∈ c.exceptionTable.toList, False) → Pc args s →
      W p l e (headSpec ws rm).room s m args below meth c s.heap [] 0 0 (vx_MQ below Qc XC args s mc ms free) (entryFrame m args maxL)) : vx_Met l y ws rm Pc Qc XC mc ms free := by
  refine Jvm.Free.MetFree.of_bodySF (code := cc) (maxLocals := maxL) (ret := ret) hy ?_ ?_
  · intro args s m h hn
    obtain ⟨meth, c, h1, h2, h3, h4, h5, h6, -, -⟩ := Cond.code_spec hn (atoms_spec (ws := ws) h _ (by rw [hw]; exact List.mem_cons_self))
    exact ⟨meth, c, h1, h2, h3, h4, h5, h6⟩
  · intro p e s m args below meth c s₁ B hml hP _
    have hh0 : s₁.heap = s.heap := by rw [B.state]; rfl
    have ht : ∀ x ∈ c.exceptionTable.toList, False := by
      obtain ⟨meth9, c9, h1, h2, -, -, -, -, h7, -⟩ := Cond.code_spec B.named (atoms_spec (ws := ws) B.pre _ (by rw [hw]; exact List.mem_cons_self))
      cases Option.some.inj (h1.symm.trans B.method)
      cases Option.some.inj (h2.symm.trans (Stand.of_body B).code)
      intro x hx
      rw [Array.isEmpty_iff.mp h7] at hx
      cases hx
    obtain ⟨t, a1, o, b1, b2, b3⟩ := body p e s m args below meth c s₁ B hml ht hP s₁ hh0 (Stand.of_body B)
    exact ⟨t, o, a1, b1, b2, b3⟩
theorem mm_entryF {K : mm_K} {M : mm_M} {d : Nat} {F : mm_F} {h : mm_H} {nx : Option Nat} {av : List Value} (hy : plainFor M.1 = true) (hmx : (lg_sl av).length ≤ M.2.2.1) (hx : M.2.2.2.2 = []) (kk : mm_ok K → mm_G K M d F 0 (mm_in av) [] h nx 0 0) : mm_Cn K M d F av h nx := by
  intro hok
  refine mm_ofWF (cc := M.2.1) (maxL := M.2.2.1) (ret := M.2.2.2.1) hy rfl ?_
  intro p e s mi args below meth c s₁ B hml hex hv
  obtain ⟨rfl, hW, hH⟩ := hv
  have hl := lv_entry av (n := M.2.2.1) hmx
  rw [lg_entry_eq]
  generalize (lg_sl av ++ List.replicate (M.2.2.1 - (lg_sl av).length) Slot.unset).toArray = ls at hl ⊢
  have hlv : mm_lv ls M.2.2.1 (mm_in av) := ⟨hl.1, hl.2.1, fun i v hi => hl.2.2 (i, v) (by have := mm_in_args av 0 i v hi; rwa [Nat.zero_add] at this)⟩
  refine kk hok p e s mi _ below meth c ⟨B.exec, B.bytes, B.returns, hml, findClass_of_methodNamed B.named, B.notSynchronized, ?_, ?_, hW, fun q hq => hH.2.2.2.1 q hq, hH.2.2.2.2, hok⟩ s.heap [] ls hH (Nat.le_refl _) (fun z hz => by cases hz) hlv
  · exact (name_of_methodNamed B.named B.method).1
  · rw [hx]
    cases hq : c.exceptionTable.toList with
    | nil => rfl
    | cons x xs => exact (hex x (by rw [hq]; exact List.mem_cons_self)).elim
