theorem mm_le_0 {ys : List (Option Value)} : mm_le [] ys := trivial
theorem mm_le_n {xs ys : List (Option Value)} {y : Option Value} (h : mm_le xs ys) : mm_le (none :: xs) (y :: ys) := h
theorem mm_le_e {xs : List (Option Value)} (h : mm_le xs []) : mm_le (none :: xs) [] := h
theorem mm_le_s {xs ys : List (Option Value)} {v : Value} (h : mm_le xs ys) : mm_le (some v :: xs) (some v :: ys) := ⟨rfl, h⟩
theorem mm_nin_0 {x : Int32} : ∀ y ∈ ([] : List Int32), ¬ x = y := fun _ h => by cases h
theorem mm_nin_c {x c : Int32} {l : List Int32} (h : ¬ x = c) (t : ∀ y ∈ l, ¬ x = y) : ∀ y ∈ c :: l, ¬ x = y := fun y hy => (List.mem_cons.mp hy).elim (fun e => by rw [e]; exact h) (t y)
def mm_swo (lo hi : Int) (offs : Array Int) (c : Int32) : Option Int := if c.toInt < lo ∨ hi < c.toInt then none else offs[(c.toInt - lo).toNat]?
def mm_swd (dflt lo hi : Int) (offs : Array Int) (cs : List Int32) : Bool := decide (hi - lo + 1 = (offs.size : Int)) && (List.range offs.size).all (fun j => cs.contains (Int32.ofInt (lo + j)) || offs[j]? == some dflt)
def mm_lkd (ps : Array (Int × Int)) (cs : List Int32) : Bool := ps.toList.all (fun q => cs.contains (Int32.ofInt q.1))
section MG4
variable {K : mm_K} {M : mm_M} {d : Nat} {F : mm_F} {pc : Nat} {L : List (Option Value)} {S : List Value} {h : mm_H} {nx : Option Nat} {cells slots : Nat}
theorem mg_tableK {x c : Int32} {dflt lo hi : Int} {offs : Array Int} {len : Nat} (off : Int) (tgt : Nat) (hd : decode M.2.1 pc = .ok (.tableswitch dflt lo hi offs, len)) (hc : x = c) (ho : mm_swo lo hi offs c = some off) (ht : (pc : Int) + off = (tgt : Int)) (kk : mm_G K M d F tgt L S h nx cells slots) : mm_G K M d F pc L (.int x :: S) h nx cells slots := by
  subst hc
  unfold mm_swo at ho
  split at ho
  · cases ho
  · next hn => exact mg_tableIn tgt hd (fun q => hn (Or.inl q)) (fun q => hn (Or.inr q)) ho ht kk
theorem mg_tableD {x : Int32} {cs : List Int32} {dflt lo hi : Int} {offs : Array Int} {len : Nat} (tgt : Nat) (hd : decode M.2.1 pc = .ok (.tableswitch dflt lo hi offs, len)) (hn : ∀ y ∈ cs, ¬ x = y) (ho : mm_swd dflt lo hi offs cs = true) (ht : (pc : Int) + dflt = (tgt : Int)) (kk : mm_G K M d F tgt L S h nx cells slots) : mm_G K M d F pc L (.int x :: S) h nx cells slots := by
  unfold mm_swd at ho
  rw [Bool.and_eq_true] at ho
  obtain ⟨h1, h2⟩ := ho
  have h1 := of_decide_eq_true h1
  by_cases hx : x.toInt < lo ∨ hi < x.toInt
  · exact mg_tableOut tgt hd hx ht kk
  · have hlo : ¬ x.toInt < lo := fun q => hx (Or.inl q)
    have hhi : ¬ hi < x.toInt := fun q => hx (Or.inr q)
    have hj : (x.toInt - lo).toNat < offs.size := by omega
    have h3 := List.all_eq_true.mp h2 _ (List.mem_range.mpr hj)
    have e1 : Int32.ofInt (lo + ((x.toInt - lo).toNat : Int)) = x := by
      rw [show lo + ((x.toInt - lo).toNat : Int) = x.toInt by omega]
      exact Int32.ofInt_toInt x
    rw [e1] at h3
    rw [Bool.or_eq_true] at h3
    rcases h3 with h3 | h3
    · exact absurd rfl (hn x (List.contains_iff_mem.mp h3))
    · exact mg_tableIn tgt hd hlo hhi (by simpa using h3) ht kk
theorem mg_lookK {x c : Int32} {dflt : Int} {ps : Array (Int × Int)} {len : Nat} (off : Int) (tgt : Nat) (hd : decode M.2.1 pc = .ok (.lookupswitch dflt ps, len)) (hc : x = c) (ho : ((ps.toList.zip (ps.toList.drop 1)).all (fun (a, next) => a.1 < next.1) = true) ∧ Op.lookupswitch.offset ps.toList dflt c.toInt = off) (ht : (pc : Int) + off = (tgt : Int)) (kk : mm_G K M d F tgt L S h nx cells slots) : mm_G K M d F pc L (.int x :: S) h nx cells slots := by
  subst hc
  exact mg_lookup tgt hd ho.1 ho.2 ht kk
end MG4
-- ===== loads and stores by rule (no search through the list) =====
def mm_get (L : List (Option Value)) (i : Nat) (v : Value) : Prop := L[i]? = some (some v)
theorem mm_get_0 {L : List (Option Value)} {v : Value} : mm_get (some v :: L) 0 v := rfl
theorem mm_get_s {L : List (Option Value)} {x : Option Value} {i : Nat} {v : Value} (h : mm_get L i v) : mm_get (x :: L) (i + 1) v := by unfold mm_get at h ⊢; simpa using h
theorem mm_st1_0 {L : List (Option Value)} {y : Option Value} {v : Value} : mm_st1 (y :: L) 0 v = some v :: L := rfl
theorem mm_st1_n {L : List (Option Value)} {y : Option Value} {v : Value} : mm_st1 (none :: y :: L) 1 v = none :: some v :: L := rfl
theorem mm_st1_i {L : List (Option Value)} {y : Option Value} {x : Int32} {v : Value} : mm_st1 (some (.int x) :: y :: L) 1 v = some (.int x) :: some v :: L := rfl
theorem mm_st1_r {L : List (Option Value)} {y : Option Value} {x : Nat} {v : Value} : mm_st1 (some (.ref x) :: y :: L) 1 v = some (.ref x) :: some v :: L := rfl
theorem mm_st1_l {L : List (Option Value)} {y : Option Value} {x : Int64} {v : Value} : mm_st1 (some (.long x) :: y :: L) 1 v = none :: some v :: L := rfl
theorem mm_st1_s {L L' : List (Option Value)} {x : Option Value} {i : Nat} {v : Value} (h : mm_st1 L (i + 1) v = L') : mm_st1 (x :: L) (i + 2) v = x :: L' := by
  subst h
  show _ = _
  unfold mm_st1 mm_cl
  simp only [List.getElem?_cons_succ]
  split <;> rfl
theorem mm_st2_0 {L : List (Option Value)} {y z : Option Value} {v : Value} : mm_st2 (y :: z :: L) 0 v = some v :: none :: L := rfl
theorem mm_st2_n {L : List (Option Value)} {y z : Option Value} {v : Value} : mm_st2 (none :: y :: z :: L) 1 v = none :: some v :: none :: L := rfl
theorem mm_st2_i {L : List (Option Value)} {y z : Option Value} {x : Int32} {v : Value} : mm_st2 (some (.int x) :: y :: z :: L) 1 v = some (.int x) :: some v :: none :: L := rfl
theorem mm_st2_r {L : List (Option Value)} {y z : Option Value} {x : Nat} {v : Value} : mm_st2 (some (.ref x) :: y :: z :: L) 1 v = some (.ref x) :: some v :: none :: L := rfl
theorem mm_st2_l {L : List (Option Value)} {y z : Option Value} {x : Int64} {v : Value} : mm_st2 (some (.long x) :: y :: z :: L) 1 v = none :: some v :: none :: L := rfl
theorem mm_st2_s {L L' : List (Option Value)} {x : Option Value} {i : Nat} {v : Value} (h : mm_st2 L (i + 1) v = L') : mm_st2 (x :: L) (i + 2) v = x :: L' := by
  subst h
  show _ = _
  unfold mm_st2 mm_cl
  simp only [List.getElem?_cons_succ]
  split <;> rfl
section MG5
variable {K : mm_K} {M : mm_M} {d : Nat} {F : mm_F} {pc : Nat} {L : List (Option Value)} {S : List Value} {h : mm_H} {nx : Option Nat} {cells slots : Nat}
theorem ml_iload_n {k : Fin 4} {i : Nat} {x : Int32} (hd : decode M.2.1 pc = .ok (.iload_n k, 1)) (hi : (k : Nat) = i) (hL : mm_get L i (.int x)) (kk : mm_G K M d F (pc + 1) L (.int x :: S) h nx cells slots) : mm_G K M d F pc L S h nx cells slots := mg_iload_n hd (by rw [hi]; exact hL) kk
theorem ml_iload {i : Nat} {x : Int32} (hd : decode M.2.1 pc = .ok (.iload i, 2)) (hL : mm_get L i (.int x)) (kk : mm_G K M d F (pc + 2) L (.int x :: S) h nx cells slots) : mm_G K M d F pc L S h nx cells slots := mg_iload hd hL kk
theorem ml_lload_n {k : Fin 4} {i : Nat} {x : Int64} (hd : decode M.2.1 pc = .ok (.lload_n k, 1)) (hi : (k : Nat) = i) (hL : mm_get L i (.long x)) (kk : mm_G K M d F (pc + 1) L (.long x :: S) h nx cells slots) : mm_G K M d F pc L S h nx cells slots := mg_lload_n hd (by rw [hi]; exact hL) kk
theorem ml_lload {i : Nat} {x : Int64} (hd : decode M.2.1 pc = .ok (.lload i, 2)) (hL : mm_get L i (.long x)) (kk : mm_G K M d F (pc + 2) L (.long x :: S) h nx cells slots) : mm_G K M d F pc L S h nx cells slots := mg_lload hd hL kk
theorem ml_aload_n {k : Fin 4} {i : Nat} {x : Nat} (hd : decode M.2.1 pc = .ok (.aload_n k, 1)) (hi : (k : Nat) = i) (hL : mm_get L i (.ref x)) (kk : mm_G K M d F (pc + 1) L (.ref x :: S) h nx cells slots) : mm_G K M d F pc L S h nx cells slots := mg_aload_n hd (by rw [hi]; exact hL) kk
theorem ml_aload {i : Nat} {x : Nat} (hd : decode M.2.1 pc = .ok (.aload i, 2)) (hL : mm_get L i (.ref x)) (kk : mm_G K M d F (pc + 2) L (.ref x :: S) h nx cells slots) : mm_G K M d F pc L S h nx cells slots := mg_aload hd hL kk
theorem ml_istore_n {k : Fin 4} {i : Nat} {x : Int32} {L' : List (Option Value)} (hd : decode M.2.1 pc = .ok (.istore_n k, 1)) (hi : (k : Nat) = i) (hm : i < M.2.2.1) (hL : mm_st1 L i (.int x) = L') (kk : mm_G K M d F (pc + 1) L' S h nx cells slots) : mm_G K M d F pc L (.int x :: S) h nx cells slots := mg_istore_n hd (by rw [hi]; exact hm) (by rw [hi]; exact hL) kk
theorem ml_istore {i : Nat} {x : Int32} {L' : List (Option Value)} (hd : decode M.2.1 pc = .ok (.istore i, 2)) (hm : i < M.2.2.1) (hL : mm_st1 L i (.int x) = L') (kk : mm_G K M d F (pc + 2) L' S h nx cells slots) : mm_G K M d F pc L (.int x :: S) h nx cells slots := mg_istore hd hm hL kk
theorem ml_lstore_n {k : Fin 4} {i : Nat} {x : Int64} {L' : List (Option Value)} (hd : decode M.2.1 pc = .ok (.lstore_n k, 1)) (hi : (k : Nat) = i) (hm : i + 1 < M.2.2.1) (hL : mm_st2 L i (.long x) = L') (kk : mm_G K M d F (pc + 1) L' S h nx cells slots) : mm_G K M d F pc L (.long x :: S) h nx cells slots := mg_lstore_n hd (by rw [hi]; exact hm) (by rw [hi]; exact hL) kk
theorem ml_lstore {i : Nat} {x : Int64} {L' : List (Option Value)} (hd : decode M.2.1 pc = .ok (.lstore i, 2)) (hm : i + 1 < M.2.2.1) (hL : mm_st2 L i (.long x) = L') (kk : mm_G K M d F (pc + 2) L' S h nx cells slots) : mm_G K M d F pc L (.long x :: S) h nx cells slots := mg_lstore hd hm hL kk
theorem ml_astore_n {k : Fin 4} {i : Nat} {x : Nat} {L' : List (Option Value)} (hd : decode M.2.1 pc = .ok (.astore_n k, 1)) (hi : (k : Nat) = i) (hm : i < M.2.2.1) (hL : mm_st1 L i (.ref x) = L') (kk : mm_G K M d F (pc + 1) L' S h nx cells slots) : mm_G K M d F pc L (.ref x :: S) h nx cells slots := mg_astore_n hd (by rw [hi]; exact hm) (by rw [hi]; exact hL) kk
theorem ml_astore {i : Nat} {x : Nat} {L' : List (Option Value)} (hd : decode M.2.1 pc = .ok (.astore i, 2)) (hm : i < M.2.2.1) (hL : mm_st1 L i (.ref x) = L') (kk : mm_G K M d F (pc + 2) L' S h nx cells slots) : mm_G K M d F pc L (.ref x :: S) h nx cells slots := mg_astore hd hm hL kk
theorem ml_iinc {i : Nat} {n : Int} {x v : Int32} {L' : List (Option Value)} (hd : decode M.2.1 pc = .ok (.iinc i n, 3)) (hg : mm_get L i (.int x)) (hv : x + Int32.ofInt n = v) (hm : i < M.2.2.1) (hL : mm_st1 L i (.int v) = L') (kk : mm_G K M d F (pc + 3) L' S h nx cells slots) : mm_G K M d F pc L S h nx cells slots := mg_iinc hd hg hv hm hL kk
end MG5
