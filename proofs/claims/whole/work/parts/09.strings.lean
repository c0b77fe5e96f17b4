/-! String constants: their length and their letters, by the JDK's own code. -/
def J_length (e : mm_E) (a : Nat) (m : mm_V) : Option (Int32 × mm_V) := match e.1 a with | some (t, n) => if t = 30 then some (nI n, m) else none | none => none
def J_charAt (e : mm_E) (a : Nat) (i : Int32) (m : mm_V) : Option (Int32 × mm_V) := match mm_ai e.1 m 30 a i with | some v => some (v, m) | none => none
section MGS
variable {K : mm_K} {M : mm_M} {d : Nat} {F : mm_F} {pc : Nat} {L : List (Option Value)} {S : List Value} {nx : Option Nat} {cells slots : Nat}
theorem mg_ldcS {h : mm_H} {z : Nat → Nat} {i j idx : Nat} (hzz : z = K.2.2.2.2) (hj : 100 + i = j) (hd : decode M.2.1 pc = .ok (.ldc idx, 2)) (hi : i < 17) (hs : ((mm_sc i).1, (mm_sc i).2.1) = (M.1.cls, idx)) (kk : mm_G K M d F (pc + 2) L (.ref (z j) :: S) h nx cells slots) : mm_G K M d F pc L S h nx cells slots := by
  subst hzz hj
  intro p e s mi args below meth c A H locs ls hH hz hl hv
  obtain ⟨adV, -, hR⟩ := A.2.2.2.2.2.2.2.2.2.2.2.2.2.2.2.2.2.1
  have h1 := (hR i hi).warm A.2.2.2.2.2.2.2.2.1
  have e1 : (mm_sc i).1 = M.1.cls := congrArg Prod.fst hs
  have e2 : (mm_sc i).2.1 = idx := congrArg Prod.snd hs
  rw [e1, e2] at h1
  exact va_ldcS A.1 A.2.1 A.2.2.2.2.1 h1 hd (kk p e s mi args below meth c A H locs ls hH hz hl hv)
/-- the String at a: its bytes at b -/
def mm_sv (K : mm_K) (a b n : Nat) (f : Nat → Value) : Prop := va_O "java/lang/String" a (fun q => mm_base K ≤ q) K.2.1 K.2.1.heap ∧ va_OF "java/lang/String" "coder" "B" (.int 0) a (fun q => mm_base K ≤ q) K.2.1 K.2.1.heap ∧ va_OF "java/lang/String" "value" "[B" (.ref b) a (fun q => mm_base K ≤ q) K.2.1 K.2.1.heap ∧ va_T .byte b n f (fun q => mm_base K ≤ q) K.2.1 K.2.1.heap ∧ n < 7 ∧ ∀ k : Nat, k < n → ∃ c : Nat, c < 128 ∧ f k = .int (nI c)
theorem mm_letters : ∀ i : Nat, i < 17 → mm_sl.getD i 0 < 7 ∧ ∀ k : Nat, k < mm_sl.getD i 0 → ∃ c : Nat, c < 128 ∧ (mm_sb.getD i []).getD k 0 = nI c := by
  have h : ∀ i : Fin 17, mm_sl.getD i 0 < 7 ∧ ∀ k : Fin 7, k.val < mm_sl.getD i 0 → ((mm_sb.getD i []).getD k 0).toInt.toNat < 128 ∧ (mm_sb.getD i []).getD k 0 = nI ((mm_sb.getD i []).getD k 0).toInt.toNat := by decide +kernel
  intro i hi
  obtain ⟨h1, h2⟩ := h ⟨i, hi⟩
  refine ⟨h1, fun k hk => ?_⟩
  obtain ⟨h3, h4⟩ := h2 ⟨k, Nat.lt_trans hk h1⟩ hk
  exact ⟨_, h3, h4⟩
theorem mm_str {h : mm_H} {H : Heap} {a n : Nat} (hok : mm_ok K) (hH : mm_HR K h nx H) (ha : h.1 a = some (30, n)) : ∃ b f, mm_sv K a b n f ∧ ∀ k : Nat, k < n → h.2 a k = f k := by
  obtain ⟨-, ⟨-, i, hi, rfl, rfl, hf⟩ | ⟨h0, -⟩⟩ := hH.2.1 a 30 n ha (by decide)
  · obtain ⟨adV, hv, -⟩ := hok.2.2.2.2.2.2.1
    obtain ⟨q1, q2, q3, q4⟩ := hv.1 i hi
    obtain ⟨l1, l2⟩ := mm_letters i hi
    refine ⟨adV i, _, ⟨q1, q2, q3, q4, l1, fun k hk => ?_⟩, hf⟩
    obtain ⟨c, h3, h4⟩ := l2 k hk
    exact ⟨c, h3, congrArg Value.int h4⟩
  · cases h0
theorem mm_kept {h : mm_H} {H : Heap} (hH : mm_HR K h nx H) : ∀ q : Nat, q < K.2.1.heap.size → ¬ mm_base K ≤ q → H[q]? = K.2.1.heap[q]? := fun q hq _ => hH.2.2.2.1 q hq
theorem mg_sget {h : mm_H} {idx a : Nat} {n ds : String} {v : Value} (hd : decode M.2.1 pc = .ok (.getfield idx, 3)) (hw : Cond.fieldLink M.1.cls idx "java/lang/String" n ds ∈ lw_tbl) (hv : va_OF "java/lang/String" n ds v a (fun q => mm_base K ≤ q) K.2.1 K.2.1.heap) (kk : mm_G K M d F (pc + 3) L (v :: S) h nx cells slots) : mm_G K M d F pc L (.ref a :: S) h nx cells slots := by
  intro p e s mi args below meth c A H locs ls hH hz hl hlv
  obtain ⟨cf, k, i, f, cell, h1, h2, h3, h4, h5, -⟩ := (va_OF.moved A.2.2.2.2.2.2.2.2.1.alike hv).kept (mm_kept hH)
  exact W.getf A.1 A.2.1 A.2.2.2.2.1 (mm_w A hw rfl args) h1 h2 h3 h4 h5 rfl rfl hd (kk p e s mi args below meth c A H locs ls hH hz hl hlv)
theorem mg_blen {h : mm_H} {b n : Nat} {f : Nat → Value} (hd : decode M.2.1 pc = .ok (.arraylength, 1)) (hv : va_T .byte b n f (fun q => mm_base K ≤ q) K.2.1 K.2.1.heap) (kk : mm_G K M d F (pc + 1) L (.int (nI n) :: S) h nx cells slots) : mm_G K M d F pc L (.ref b :: S) h nx cells slots := by
  intro p e s mi args below meth c A H locs ls hH hz hl hlv
  obtain ⟨cell, h1, h2, h3, h4, h5, -⟩ := (va_T.moved A.2.2.2.2.2.2.2.2.1.alike hv).kept (mm_kept hH)
  exact W.alen A.1 A.2.1 h1 h2 (n := nI n) h5 rfl rfl hd (kk p e s mi args below meth c A H locs ls hH hz hl hlv)
theorem mg_bald {h : mm_H} {b n : Nat} {i : Int32} {f : Nat → Value} (hd : decode M.2.1 pc = .ok (.baload, 1)) (hv : va_T .byte b n f (fun q => mm_base K ≤ q) K.2.1 K.2.1.heap) (hi : ¬ i < 0) (hn : i.toNatClampNeg < n) (kk : mm_G K M d F (pc + 1) L (f i.toNatClampNeg :: S) h nx cells slots) : mm_G K M d F pc L (.int i :: .ref b :: S) h nx cells slots := by
  intro p e s mi args below meth c A H locs ls hH hz hl hlv
  obtain ⟨cell, h1, h2, h3, h4, h5, h6, -⟩ := (va_T.moved A.2.2.2.2.2.2.2.2.1.alike hv).kept (mm_kept hH)
  exact W.bald A.1 A.2.1 h1 h2 h3 (by rintro (h | h); exact hi h; omega) (h6 _ hn) rfl rfl hd (kk p e s mi args below meth c A H locs ls hH hz hl hlv)
theorem mg_gets {h : mm_H} {idx : Nat} {C n ds : String} {v : Value} (hd : decode M.2.1 pc = .ok (.getstatic idx, 3)) (hw : Cond.fieldLink M.1.cls idx C n ds ∈ lw_tbl) (hv : va_Z C n ds v (fun q => mm_base K ≤ q) K.2.1 K.2.1.heap) (kk : mm_G K M d F (pc + 3) L (v :: S) h nx cells slots) : mm_G K M d F pc L S h nx cells slots := by
  intro p e s mi args below meth c A H locs ls hH hz hl hlv
  obtain ⟨cf, kf, fi, f, a, cell, h1, h2, h3, h4, h5, h6, h7, -⟩ := (va_Z.moved A.2.2.2.2.2.2.2.2.1.alike hv).kept (mm_kept hH)
  exact W.gets A.1 A.2.1 A.2.2.2.2.1 (mm_w A hw rfl args) h1 h2 h3 h4 h5 (fun e => by rw [e] at h6; cases h6) h7 rfl hd (kk p e s mi args below meth c A H locs ls hH hz hl hlv)
theorem mg_i2c {h : mm_H} {x v : Int32} (hd : decode M.2.1 pc = .ok (.i2c, 1)) (hx : (x.toUInt32 % 65536).toInt32 = v) (kk : mm_G K M d F (pc + 1) L (.int v :: S) h nx cells slots) : mm_G K M d F pc L (.int x :: S) h nx cells slots :=
  fun p e s mi args below meth c A H locs ls hH hz hl hlv => lv_i2c A.1 A.2.1 hd hx (kk p e s mi args below meth c A H locs ls hH hz hl hlv)
/-- a call on a String constant -/
theorem mg_callVJ {h : mm_H} {Y : mm_M} {F' : mm_F} {idx b b2 n : Nat} {f : Nat → Value} {As rest : List Value} {v : Option Value} (hd : decode M.2.1 pc = .ok (.invokevirtual idx, 3)) (hw : mm_CW M.1.cls idx Y As.length) (hi : Cond.instanceMethod Y.1 ∈ lw_tbl) (hs : Cond.selects "java/lang/String" Y.1 Y.1 ∈ lw_tbl) (hc : mm_Cn K Y d F' (.ref b :: As) h nx) (hb : mm_sv K b b2 n f) (hv : F'.2.2.1 = .inl v) (hS : S = As.reverse ++ .ref b :: rest) (hr : (rest.map fun v => v.category).sum ≤ 8) (h1 : cells + F'.1 ≤ F.1) (h2 : slots + F'.2.1 ≤ F.2.1)
    (kk : mm_G K M (d + 1) F (pc + 3) L (v.toList ++ rest) F'.2.2.2.1 F'.2.2.2.2 (cells + F'.1) (slots + F'.2.1)) : mm_G K M (d + 1) F pc L S h nx cells slots := by
  intro p e s mi args below meth c A H locs ls hH hz hl hlv
  obtain ⟨hlk, w1, w2, hy, hn, hmx⟩ := hw
  have hok := A.2.2.2.2.2.2.2.2.2.2.2
  have hM := mm_met hok hc hv
  obtain ⟨cell, hc1, hc2, hc3, -⟩ := (va_O.moved A.2.2.2.2.2.2.2.2.1.alike hb.1).kept (mm_kept hH)
  have hp : PreV s H "java/lang/String" b (mm_Pc K (.ref b :: As) h nx) As := ⟨mm_blind, ⟨cell, hc1, hc2, hc3⟩, fun U hU hW => ⟨rfl, State.WarmedH.trans A.2.2.2.2.2.2.2.2.1 hW, by rw [hU]; exact hH⟩⟩
  have hlo : 8 + (Y.2.2.1 + 11) + (mm_R d F').locals ≤ (mm_R (d + 1) F).locals := by show 8 + (Y.2.2.1 + 11) + 64 * d ≤ 64 * (d + 1); omega
  refine mm_go (Y := Y) (F' := F') (av := .ref b :: As) (rest := rest) ?_ hv hl (fun H1 locs1 a1 a2 a3 => kk p e s mi args below meth c A H1 locs1 ls a1 a2 a3 hlv)
  rcases hlk with hlk | ⟨host, hlk⟩
  · exact va_runV (cc := M.2.1) (nL := M.2.2.1) (Ts := []) (own := M.1.cls) ⟨A.1, A.2.1, A.2.2.2.1, A.2.2.2.2.1, fun w hw => by cases hw⟩ hM ⟨⟨rfl, rfl, Nat.le_refl _, hlo, mm_words A w1 rfl, List.mem_singleton_self _, mm_w A w1 rfl args, mm_w A w2 rfl args, hy, mm_arity hn, mm_w A hlk rfl args⟩, mm_w A hi rfl args, mm_w A hs rfl args⟩ hp rfl rfl hlv.1 hS (mm_wk hr) hd ⟨h1, h2⟩
  · exact va_runVN (cc := M.2.1) (nL := M.2.2.1) (Ts := []) (own := M.1.cls) ⟨A.1, A.2.1, A.2.2.2.1, A.2.2.2.2.1, fun w hw => by cases hw⟩ hM ⟨⟨⟨rfl, rfl, Nat.le_refl _, hlo, mm_words A w1 rfl, List.mem_singleton_self _⟩, mm_w A w1 rfl args, mm_w A w2 rfl args, hy, mm_arity hn, va_Nw.use rfl (mm_wM A hlk)⟩, mm_w A hi rfl args, mm_w A hs rfl args⟩ hp rfl rfl hlv.1 hS (mm_wk hr) hd ⟨h1, h2⟩
end MGS
abbrev MJ0_coder : mm_M := (yJ0_coder_7d493, cJ0_coder_7d493, 1, (some .byte), [])
theorem dJ0_coder_7d493_0 : decode cJ0_coder_7d493 0 = .ok (.getstatic 38, 3) := by decide +kernel
theorem dJ0_coder_7d493_3 : decode cJ0_coder_7d493 3 = .ok (.ifCond .eq 10, 3) := by decide +kernel
theorem dJ0_coder_7d493_6 : decode cJ0_coder_7d493 6 = .ok (.aload_n 0, 1) := by decide +kernel
theorem dJ0_coder_7d493_7 : decode cJ0_coder_7d493 7 = .ok (.getfield 15, 3) := by decide +kernel
theorem dJ0_coder_7d493_10 : decode cJ0_coder_7d493 10 = .ok (.goto 4, 3) := by decide +kernel
theorem dJ0_coder_7d493_13 : decode cJ0_coder_7d493 13 = .ok (.iconst 1, 1) := by decide +kernel
theorem dJ0_coder_7d493_14 : decode cJ0_coder_7d493 14 = .ok (.ireturn, 1) := by decide +kernel
abbrev MJ0_isLatin1 : mm_M := (yJ0_isLatin1_aae02, cJ0_isLatin1_aae02, 1, (some .boolean), [])
theorem dJ0_isLatin1_aae02_0 : decode cJ0_isLatin1_aae02 0 = .ok (.getstatic 38, 3) := by decide +kernel
theorem dJ0_isLatin1_aae02_3 : decode cJ0_isLatin1_aae02 3 = .ok (.ifCond .eq 14, 3) := by decide +kernel
theorem dJ0_isLatin1_aae02_6 : decode cJ0_isLatin1_aae02 6 = .ok (.aload_n 0, 1) := by decide +kernel
theorem dJ0_isLatin1_aae02_7 : decode cJ0_isLatin1_aae02 7 = .ok (.getfield 15, 3) := by decide +kernel
theorem dJ0_isLatin1_aae02_10 : decode cJ0_isLatin1_aae02 10 = .ok (.ifCond .ne 7, 3) := by decide +kernel
theorem dJ0_isLatin1_aae02_13 : decode cJ0_isLatin1_aae02 13 = .ok (.iconst 1, 1) := by decide +kernel
theorem dJ0_isLatin1_aae02_14 : decode cJ0_isLatin1_aae02 14 = .ok (.goto 4, 3) := by decide +kernel
theorem dJ0_isLatin1_aae02_17 : decode cJ0_isLatin1_aae02 17 = .ok (.iconst 0, 1) := by decide +kernel
theorem dJ0_isLatin1_aae02_18 : decode cJ0_isLatin1_aae02 18 = .ok (.ireturn, 1) := by decide +kernel
abbrev MJ0_length : mm_M := (yJ0_length_8abf5, cJ0_length_8abf5, 1, (some .int), [])
theorem dJ0_length_8abf5_0 : decode cJ0_length_8abf5 0 = .ok (.aload_n 0, 1) := by decide +kernel
theorem dJ0_length_8abf5_1 : decode cJ0_length_8abf5 1 = .ok (.getfield 9, 3) := by decide +kernel
theorem dJ0_length_8abf5_4 : decode cJ0_length_8abf5 4 = .ok (.arraylength, 1) := by decide +kernel
theorem dJ0_length_8abf5_5 : decode cJ0_length_8abf5 5 = .ok (.aload_n 0, 1) := by decide +kernel
theorem dJ0_length_8abf5_6 : decode cJ0_length_8abf5 6 = .ok (.invokevirtual 335, 3) := by decide +kernel
theorem dJ0_length_8abf5_9 : decode cJ0_length_8abf5 9 = .ok (.ishr, 1) := by decide +kernel
theorem dJ0_length_8abf5_10 : decode cJ0_length_8abf5 10 = .ok (.ireturn, 1) := by decide +kernel
abbrev MJ0_charAt : mm_M := (yJ0_charAt_5068e, cJ0_charAt_5068e, 2, (some .char), [])
theorem dJ0_charAt_5068e_0 : decode cJ0_charAt_5068e 0 = .ok (.aload_n 0, 1) := by decide +kernel
theorem dJ0_charAt_5068e_1 : decode cJ0_charAt_5068e 1 = .ok (.invokevirtual 492, 3) := by decide +kernel
theorem dJ0_charAt_5068e_4 : decode cJ0_charAt_5068e 4 = .ok (.ifCond .eq 12, 3) := by decide +kernel
theorem dJ0_charAt_5068e_7 : decode cJ0_charAt_5068e 7 = .ok (.aload_n 0, 1) := by decide +kernel
theorem dJ0_charAt_5068e_8 : decode cJ0_charAt_5068e 8 = .ok (.getfield 9, 3) := by decide +kernel
theorem dJ0_charAt_5068e_11 : decode cJ0_charAt_5068e 11 = .ok (.iload_n 1, 1) := by decide +kernel
theorem dJ0_charAt_5068e_12 : decode cJ0_charAt_5068e 12 = .ok (.invokestatic 495, 3) := by decide +kernel
theorem dJ0_charAt_5068e_15 : decode cJ0_charAt_5068e 15 = .ok (.ireturn, 1) := by decide +kernel
theorem dJ0_charAt_5068e_16 : decode cJ0_charAt_5068e 16 = .ok (.aload_n 0, 1) := by decide +kernel
theorem dJ0_charAt_5068e_17 : decode cJ0_charAt_5068e 17 = .ok (.getfield 9, 3) := by decide +kernel
theorem dJ0_charAt_5068e_20 : decode cJ0_charAt_5068e 20 = .ok (.iload_n 1, 1) := by decide +kernel
theorem dJ0_charAt_5068e_21 : decode cJ0_charAt_5068e 21 = .ok (.invokestatic 498, 3) := by decide +kernel
theorem dJ0_charAt_5068e_24 : decode cJ0_charAt_5068e 24 = .ok (.ireturn, 1) := by decide +kernel
abbrev MJ0_checkIndex : mm_M := (yJ0_checkIndex_df160, cJ0_checkIndex_df160, 2, none, [])
theorem dJ0_checkIndex_df160_0 : decode cJ0_checkIndex_df160 0 = .ok (.iload_n 0, 1) := by decide +kernel
theorem dJ0_checkIndex_df160_1 : decode cJ0_checkIndex_df160 1 = .ok (.iload_n 1, 1) := by decide +kernel
theorem dJ0_checkIndex_df160_2 : decode cJ0_checkIndex_df160 2 = .ok (.getstatic 1053, 3) := by decide +kernel
theorem dJ0_checkIndex_df160_5 : decode cJ0_checkIndex_df160 5 = .ok (.invokestatic 1059, 3) := by decide +kernel
theorem dJ0_checkIndex_df160_8 : decode cJ0_checkIndex_df160 8 = .ok (.pop, 1) := by decide +kernel
theorem dJ0_checkIndex_df160_9 : decode cJ0_checkIndex_df160 9 = .ok (.return_, 1) := by decide +kernel
abbrev MJ1_charAt : mm_M := (yJ1_charAt_3b067, cJ1_charAt_3b067, 2, (some .char), [])
theorem dJ1_charAt_3b067_0 : decode cJ1_charAt_3b067 0 = .ok (.iload_n 1, 1) := by decide +kernel
theorem dJ1_charAt_3b067_1 : decode cJ1_charAt_3b067 1 = .ok (.aload_n 0, 1) := by decide +kernel
theorem dJ1_charAt_3b067_2 : decode cJ1_charAt_3b067 2 = .ok (.arraylength, 1) := by decide +kernel
theorem dJ1_charAt_3b067_3 : decode cJ1_charAt_3b067 3 = .ok (.invokestatic 9, 3) := by decide +kernel
theorem dJ1_charAt_3b067_6 : decode cJ1_charAt_3b067 6 = .ok (.aload_n 0, 1) := by decide +kernel
theorem dJ1_charAt_3b067_7 : decode cJ1_charAt_3b067 7 = .ok (.iload_n 1, 1) := by decide +kernel
theorem dJ1_charAt_3b067_8 : decode cJ1_charAt_3b067 8 = .ok (.baload, 1) := by decide +kernel
theorem dJ1_charAt_3b067_9 : decode cJ1_charAt_3b067 9 = .ok (.sipush 255, 3) := by decide +kernel
theorem dJ1_charAt_3b067_12 : decode cJ1_charAt_3b067 12 = .ok (.iand, 1) := by decide +kernel
theorem dJ1_charAt_3b067_13 : decode cJ1_charAt_3b067 13 = .ok (.i2c, 1) := by decide +kernel
theorem dJ1_charAt_3b067_14 : decode cJ1_charAt_3b067 14 = .ok (.ireturn, 1) := by decide +kernel
abbrev MJ3_checkIndex : mm_M := (yJ3_checkIndex_8e157, cJ3_checkIndex_8e157, 3, (some .int), [])
theorem dJ3_checkIndex_8e157_0 : decode cJ3_checkIndex_8e157 0 = .ok (.iload_n 0, 1) := by decide +kernel
theorem dJ3_checkIndex_8e157_1 : decode cJ3_checkIndex_8e157 1 = .ok (.ifCond .lt 8, 3) := by decide +kernel
theorem dJ3_checkIndex_8e157_4 : decode cJ3_checkIndex_8e157 4 = .ok (.iload_n 0, 1) := by decide +kernel
theorem dJ3_checkIndex_8e157_5 : decode cJ3_checkIndex_8e157 5 = .ok (.iload_n 1, 1) := by decide +kernel
theorem dJ3_checkIndex_8e157_6 : decode cJ3_checkIndex_8e157 6 = .ok (.if_icmp .lt 10, 3) := by decide +kernel
theorem dJ3_checkIndex_8e157_9 : decode cJ3_checkIndex_8e157 9 = .ok (.aload_n 2, 1) := by decide +kernel
theorem dJ3_checkIndex_8e157_10 : decode cJ3_checkIndex_8e157 10 = .ok (.iload_n 0, 1) := by decide +kernel
theorem dJ3_checkIndex_8e157_11 : decode cJ3_checkIndex_8e157 11 = .ok (.iload_n 1, 1) := by decide +kernel
theorem dJ3_checkIndex_8e157_12 : decode cJ3_checkIndex_8e157 12 = .ok (.invokestatic 95, 3) := by decide +kernel
theorem dJ3_checkIndex_8e157_15 : decode cJ3_checkIndex_8e157 15 = .ok (.athrow, 1) := by decide +kernel
theorem dJ3_checkIndex_8e157_16 : decode cJ3_checkIndex_8e157 16 = .ok (.iload_n 0, 1) := by decide +kernel
theorem dJ3_checkIndex_8e157_17 : decode cJ3_checkIndex_8e157 17 = .ok (.ireturn, 1) := by decide +kernel
theorem tj_832 : Cond.fieldLink "java/lang/String" 38 "java/lang/String" "COMPACT_STRINGS" "Z" ∈ lw_tbl := List.mem_append_right _ (List.mem_of_getElem? (i := 832) (by decide +kernel))
theorem tj_1990 : Cond.fieldLink "java/lang/String" 15 "java/lang/String" "coder" "B" ∈ lw_tbl := List.mem_append_right _ (List.mem_of_getElem? (i := 1990) (by decide +kernel))
theorem tj_1989 : Cond.fieldLink "java/lang/String" 9 "java/lang/String" "value" "[B" ∈ lw_tbl := List.mem_append_right _ (List.mem_of_getElem? (i := 1989) (by decide +kernel))
theorem tj_848 : Cond.fieldLink "java/lang/String" 1053 "jdk/internal/util/Preconditions" "SIOOBE_FORMATTER" "Ljava/util/function/BiFunction;" ∈ lw_tbl := List.mem_append_right _ (List.mem_of_getElem? (i := 848) (by decide +kernel))
theorem tj_829 : Cond.instanceMethod ⟨"java/lang/String", "coder", "()B"⟩ ∈ lw_tbl := List.mem_append_right _ (List.mem_of_getElem? (i := 829) (by decide +kernel))
theorem tj_830 : Cond.selects "java/lang/String" ⟨"java/lang/String", "coder", "()B"⟩ ⟨"java/lang/String", "coder", "()B"⟩ ∈ lw_tbl := List.mem_append_right _ (List.mem_of_getElem? (i := 830) (by decide +kernel))
theorem tj_831 : Cond.code ⟨"java/lang/String", "coder", "()B"⟩ prog_22_method_152_code 1 (some .byte) ∈ lw_tbl := List.mem_append_right _ (List.mem_of_getElem? (i := 831) (by decide +kernel))
theorem tj_839 : Cond.instanceMethod ⟨"java/lang/String", "isLatin1", "()Z"⟩ ∈ lw_tbl := List.mem_append_right _ (List.mem_of_getElem? (i := 839) (by decide +kernel))
theorem tj_840 : Cond.selects "java/lang/String" ⟨"java/lang/String", "isLatin1", "()Z"⟩ ⟨"java/lang/String", "isLatin1", "()Z"⟩ ∈ lw_tbl := List.mem_append_right _ (List.mem_of_getElem? (i := 840) (by decide +kernel))
theorem tj_841 : Cond.code ⟨"java/lang/String", "isLatin1", "()Z"⟩ prog_22_method_154_code 1 (some .boolean) ∈ lw_tbl := List.mem_append_right _ (List.mem_of_getElem? (i := 841) (by decide +kernel))
theorem tj_825 : Cond.instanceMethod ⟨"java/lang/String", "length", "()I"⟩ ∈ lw_tbl := List.mem_append_right _ (List.mem_of_getElem? (i := 825) (by decide +kernel))
theorem tj_826 : Cond.selects "java/lang/String" ⟨"java/lang/String", "length", "()I"⟩ ⟨"java/lang/String", "length", "()I"⟩ ∈ lw_tbl := List.mem_append_right _ (List.mem_of_getElem? (i := 826) (by decide +kernel))
theorem tj_827 : Cond.code ⟨"java/lang/String", "length", "()I"⟩ prog_22_method_54_code 1 (some .int) ∈ lw_tbl := List.mem_append_right _ (List.mem_of_getElem? (i := 827) (by decide +kernel))
theorem tj_835 : Cond.instanceMethod ⟨"java/lang/String", "charAt", "(I)C"⟩ ∈ lw_tbl := List.mem_append_right _ (List.mem_of_getElem? (i := 835) (by decide +kernel))
theorem tj_836 : Cond.selects "java/lang/String" ⟨"java/lang/String", "charAt", "(I)C"⟩ ⟨"java/lang/String", "charAt", "(I)C"⟩ ∈ lw_tbl := List.mem_append_right _ (List.mem_of_getElem? (i := 836) (by decide +kernel))
theorem tj_837 : Cond.code ⟨"java/lang/String", "charAt", "(I)C"⟩ prog_22_method_56_code 2 (some .char) ∈ lw_tbl := List.mem_append_right _ (List.mem_of_getElem? (i := 837) (by decide +kernel))
theorem tj_19 : Cond.initialized "java/lang/String" ∈ lw_tbl := List.mem_append_right _ (List.mem_of_getElem? (i := 19) (by decide +kernel))
theorem tj_828 : Cond.methodLink "java/lang/String" 335 ⟨"java/lang/String", "coder", "()B"⟩ ∈ lw_tbl := List.mem_append_right _ (List.mem_of_getElem? (i := 828) (by decide +kernel))
theorem tj_838 : Cond.methodLink "java/lang/String" 492 ⟨"java/lang/String", "isLatin1", "()Z"⟩ ∈ lw_tbl := List.mem_append_right _ (List.mem_of_getElem? (i := 838) (by decide +kernel))
theorem tj_850 : Cond.methodLink "java/lang/String" 1059 ⟨"jdk/internal/util/Preconditions", "checkIndex", "(IILjava/util/function/BiFunction;)I"⟩ ∈ lw_tbl := List.mem_append_right _ (List.mem_of_getElem? (i := 850) (by decide +kernel))
theorem tj_852 : Cond.code ⟨"jdk/internal/util/Preconditions", "checkIndex", "(IILjava/util/function/BiFunction;)I"⟩ prog_29_method_11_code 3 (some .int) ∈ lw_tbl := List.mem_append_right _ (List.mem_of_getElem? (i := 852) (by decide +kernel))
theorem tj_21 : Cond.initialized "jdk/internal/util/Preconditions" ∈ lw_tbl := List.mem_append_right _ (List.mem_of_getElem? (i := 21) (by decide +kernel))
theorem tj_851 : Cond.static ⟨"jdk/internal/util/Preconditions", "checkIndex", "(IILjava/util/function/BiFunction;)I"⟩ ∈ lw_tbl := List.mem_append_right _ (List.mem_of_getElem? (i := 851) (by decide +kernel))
theorem tj_845 : Cond.methodLink "java/lang/StringLatin1" 9 ⟨"java/lang/String", "checkIndex", "(II)V"⟩ ∈ lw_tbl := List.mem_append_right _ (List.mem_of_getElem? (i := 845) (by decide +kernel))
theorem tj_847 : Cond.code ⟨"java/lang/String", "checkIndex", "(II)V"⟩ prog_22_method_155_code 2 none ∈ lw_tbl := List.mem_append_right _ (List.mem_of_getElem? (i := 847) (by decide +kernel))
theorem tj_846 : Cond.static ⟨"java/lang/String", "checkIndex", "(II)V"⟩ ∈ lw_tbl := List.mem_append_right _ (List.mem_of_getElem? (i := 846) (by decide +kernel))
theorem tj_842 : Cond.methodLink "java/lang/String" 495 ⟨"java/lang/StringLatin1", "charAt", "([BI)C"⟩ ∈ lw_tbl := List.mem_append_right _ (List.mem_of_getElem? (i := 842) (by decide +kernel))
theorem tj_844 : Cond.code ⟨"java/lang/StringLatin1", "charAt", "([BI)C"⟩ prog_23_method_2_code 2 (some .char) ∈ lw_tbl := List.mem_append_right _ (List.mem_of_getElem? (i := 844) (by decide +kernel))
theorem tj_20 : Cond.initialized "java/lang/StringLatin1" ∈ lw_tbl := List.mem_append_right _ (List.mem_of_getElem? (i := 20) (by decide +kernel))
theorem tj_843 : Cond.static ⟨"java/lang/StringLatin1", "charAt", "([BI)C"⟩ ∈ lw_tbl := List.mem_append_right _ (List.mem_of_getElem? (i := 843) (by decide +kernel))
theorem cj_335 : mm_CW "java/lang/String" 335 MJ0_coder 0 := ⟨Or.inl tj_828, tj_831, tj_19, ⟨by decide, by decide⟩, by decide +kernel, by decide⟩
theorem cj_492 : mm_CW "java/lang/String" 492 MJ0_isLatin1 0 := ⟨Or.inl tj_838, tj_841, tj_19, ⟨by decide, by decide⟩, by decide +kernel, by decide⟩
theorem cj_1059 : mm_CS "java/lang/String" 1059 MJ3_checkIndex 3 := ⟨⟨Or.inl tj_850, tj_852, tj_21, ⟨by decide, by decide⟩, by decide +kernel, by decide⟩, tj_851⟩
theorem cj_9 : mm_CS "java/lang/StringLatin1" 9 MJ0_checkIndex 2 := ⟨⟨Or.inl tj_845, tj_847, tj_19, ⟨by decide, by decide⟩, by decide +kernel, by decide⟩, tj_846⟩
theorem cj_495 : mm_CS "java/lang/String" 495 MJ1_charAt 2 := ⟨⟨Or.inl tj_842, tj_844, tj_20, ⟨by decide, by decide⟩, by decide +kernel, by decide⟩, tj_843⟩
section MGJ
variable {K : mm_K} {nx : Option Nat} {h : mm_H} {d : Nat}
theorem J0_coder_ok {a b n : Nat} {f : Nat → Value} (hs : mm_sv K a b n f) : mm_Cn K MJ0_coder d (0, 0, .inl (some (.int 0)), h, nx) [.ref a] h nx := by
  refine mm_entryF (by decide +kernel) (Nat.le_of_ble_eq_true rfl) rfl (fun hok => ?_)
  refine mg_gets dJ0_coder_7d493_0 tj_832 hok.2.2.2.2.2.2.2.1 ?_
  refine mg_if_eq 13 dJ0_coder_7d493_3 rfl (fun q => absurd q (by decide)) (fun _ => ?_)
  refine ml_aload_n (pc := 6) dJ0_coder_7d493_6 rfl mm_get_0 ?_
  refine mg_sget dJ0_coder_7d493_7 tj_1990 hs.2.1 ?_
  refine mg_goto 14 dJ0_coder_7d493_10 rfl ?_
  exact mg_iret dJ0_coder_7d493_14 rfl rfl rfl rfl rfl (Nat.le_refl _) (Nat.le_refl _)
theorem J0_isLatin1_ok {a b n : Nat} {f : Nat → Value} (hs : mm_sv K a b n f) : mm_Cn K MJ0_isLatin1 d (0, 0, .inl (some (.int 1)), h, nx) [.ref a] h nx := by
  refine mm_entryF (by decide +kernel) (Nat.le_of_ble_eq_true rfl) rfl (fun hok => ?_)
  refine mg_gets dJ0_isLatin1_aae02_0 tj_832 hok.2.2.2.2.2.2.2.1 ?_
  refine mg_if_eq 17 dJ0_isLatin1_aae02_3 rfl (fun q => absurd q (by decide)) (fun _ => ?_)
  refine ml_aload_n (pc := 6) dJ0_isLatin1_aae02_6 rfl mm_get_0 ?_
  refine mg_sget dJ0_isLatin1_aae02_7 tj_1990 hs.2.1 ?_
  refine mg_if_ne 17 dJ0_isLatin1_aae02_10 rfl (fun q => absurd rfl q) (fun _ => ?_)
  refine mg_iconst (pc := 13) dJ0_isLatin1_aae02_13 (v := 1) (by decide) ?_
  refine mg_goto 18 dJ0_isLatin1_aae02_14 rfl ?_
  exact mg_iret dJ0_isLatin1_aae02_18 rfl rfl rfl rfl rfl (Nat.le_refl _) (Nat.le_refl _)
theorem J0_length_ok {a b n : Nat} {f : Nat → Value} (hs : mm_sv K a b n f) : mm_Cn K MJ0_length (d + 1) (0, 0, .inl (some (.int (nI n))), h, nx) [.ref a] h nx := by
  refine mm_entryF (by decide +kernel) (Nat.le_of_ble_eq_true rfl) rfl (fun hok => ?_)
  refine ml_aload_n (pc := 0) dJ0_length_8abf5_0 rfl mm_get_0 ?_
  refine mg_sget dJ0_length_8abf5_1 tj_1989 hs.2.2.1 ?_
  refine mg_blen dJ0_length_8abf5_4 hs.2.2.2.1 ?_
  refine ml_aload_n (pc := 5) dJ0_length_8abf5_5 rfl mm_get_0 ?_
  refine mg_callVJ (As := []) (rest := [.int (nI n)]) dJ0_length_8abf5_6 cj_335 tj_829 tj_830 (J0_coder_ok hs) hs rfl rfl (Nat.le_of_ble_eq_true rfl) (Nat.zero_le _) (Nat.zero_le _) ?_
  refine mg_ishr dJ0_length_8abf5_9 ?_
  have e1 : nI n >>> ((0 : Int32) &&& 31) = nI n := by
    have hn := hs.2.2.2.2.1
    have : ∀ k : Fin 7, nI k >>> ((0 : Int32) &&& 31) = nI k := by decide +kernel
    exact this ⟨n, hn⟩
  rw [e1]
  exact mg_iret dJ0_length_8abf5_10 rfl rfl rfl rfl rfl (Nat.le_refl _) (Nat.le_refl _)
theorem J3_checkIndex_ok {i n : Int32} {v : Value} (h0 : ¬ i < 0) (h1 : i < n) (hv : v.category = 1) : mm_Cn K MJ3_checkIndex d (0, 0, .inl (some (.int i)), h, nx) [.int i, .int n, v] h nx := by
  have hin : mm_in [.int i, .int n, v] = [some (.int i), some (.int n), some v] := by
    cases v <;> first | rfl | (simp [Value.category] at hv)
  have hsl : (lg_sl [.int i, .int n, v]).length ≤ 3 := by
    cases v <;> first | exact Nat.le_refl _ | (simp [Value.category] at hv)
  refine mm_entry (by decide) hsl rfl (fun hok => ?_)
  rw [hin]
  refine ml_iload_n (pc := 0) dJ3_checkIndex_8e157_0 rfl mm_get_0 ?_
  refine mg_if_lt 9 dJ3_checkIndex_8e157_1 rfl (fun q => absurd q h0) (fun _ => ?_)
  refine ml_iload_n (pc := 4) dJ3_checkIndex_8e157_4 rfl mm_get_0 ?_
  refine ml_iload_n (pc := 5) dJ3_checkIndex_8e157_5 rfl (mm_get_s mm_get_0) ?_
  refine mg_icmp_lt 16 dJ3_checkIndex_8e157_6 rfl (fun _ => ?_) (fun q => absurd h1 q)
  refine ml_iload_n (pc := 16) dJ3_checkIndex_8e157_16 rfl mm_get_0 ?_
  exact mg_iret dJ3_checkIndex_8e157_17 rfl rfl rfl rfl rfl (Nat.le_refl _) (Nat.le_refl _)
theorem J0_checkIndex_ok {i n : Int32} (h0 : ¬ i < 0) (h1 : i < n) : mm_Cn K MJ0_checkIndex (d + 1) (0, 0, .inl none, h, nx) [.int i, .int n] h nx := by
  refine mm_entryF (by decide +kernel) (Nat.le_of_ble_eq_true rfl) rfl (fun hok => ?_)
  refine ml_iload_n (pc := 0) dJ0_checkIndex_df160_0 rfl mm_get_0 ?_
  refine ml_iload_n (pc := 1) dJ0_checkIndex_df160_1 rfl (mm_get_s mm_get_0) ?_
  rcases hok.2.2.2.2.2.2.2.2 with hq | ⟨t, hq⟩
  · refine mg_gets dJ0_checkIndex_df160_2 tj_848 hq ?_
    refine mg_callS (As := [.int i, .int n, .null]) (rest := []) dJ0_checkIndex_df160_5 cj_1059 (J3_checkIndex_ok h0 h1 rfl) rfl rfl (Nat.le_of_ble_eq_true rfl) (Nat.zero_le _) (Nat.zero_le _) ?_
    refine mg_pop dJ0_checkIndex_df160_8 rfl ?_
    exact mg_vret dJ0_checkIndex_df160_9 rfl rfl rfl rfl (Nat.le_refl _) (Nat.le_refl _)
  · refine mg_gets dJ0_checkIndex_df160_2 tj_848 hq ?_
    refine mg_callS (As := [.int i, .int n, .ref t]) (rest := []) dJ0_checkIndex_df160_5 cj_1059 (J3_checkIndex_ok h0 h1 rfl) rfl rfl (Nat.le_of_ble_eq_true rfl) (Nat.zero_le _) (Nat.zero_le _) ?_
    refine mg_pop dJ0_checkIndex_df160_8 rfl ?_
    exact mg_vret dJ0_checkIndex_df160_9 rfl rfl rfl rfl (Nat.le_refl _) (Nat.le_refl _)
theorem mm_char : ∀ c : Nat, c < 128 → ((nI c &&& 255).toUInt32 % 65536).toInt32 = nI c ∧ narrow .char (.int (nI c)) = .int (nI c) := by
  have : ∀ c : Fin 128, ((nI c &&& 255).toUInt32 % 65536).toInt32 = nI c := by decide +kernel
  exact fun c hc => ⟨this ⟨c, hc⟩, (pk_charN (by omega)).1⟩
theorem J1_charAt_ok {a b n c : Nat} {i : Int32} {f : Nat → Value} (hs : mm_sv K a b n f) (h0 : ¬ i < 0) (h1 : i.toNatClampNeg < n) (hc : f i.toNatClampNeg = .int (nI c)) (hc' : c < 128) : mm_Cn K MJ1_charAt (d + 2) (0, 0, .inl (some (.int (nI c))), h, nx) [.ref b, .int i] h nx := by
  have hin : i < nI n := by
    rw [Int32.lt_iff_toInt_lt, nI_toInt (by have := hs.2.2.2.2.1; omega)]
    have e : i.toNatClampNeg = i.toInt.toNat := rfl
    have h2 := Int32.not_lt.mp h0
    have h3 := Int32.le_iff_toInt_le.mp h2
    have h4 : (0 : Int32).toInt = 0 := by decide
    omega
  refine mm_entry (by decide) (Nat.le_of_ble_eq_true rfl) rfl (fun hok => ?_)
  refine ml_iload_n (pc := 0) dJ1_charAt_3b067_0 rfl (mm_get_s mm_get_0) ?_
  refine ml_aload_n (pc := 1) dJ1_charAt_3b067_1 rfl mm_get_0 ?_
  refine mg_blen dJ1_charAt_3b067_2 hs.2.2.2.1 ?_
  refine mg_callS (As := [.int i, .int (nI n)]) (rest := []) dJ1_charAt_3b067_3 cj_9 (J0_checkIndex_ok h0 hin) rfl rfl (Nat.le_of_ble_eq_true rfl) (Nat.zero_le _) (Nat.zero_le _) ?_
  refine ml_aload_n (pc := 6) dJ1_charAt_3b067_6 rfl mm_get_0 ?_
  refine ml_iload_n (pc := 7) dJ1_charAt_3b067_7 rfl (mm_get_s mm_get_0) ?_
  refine mg_bald dJ1_charAt_3b067_8 hs.2.2.2.1 h0 h1 ?_
  rw [hc]
  refine mg_sipush (pc := 9) dJ1_charAt_3b067_9 (v := 255) (by decide) ?_
  refine mg_iand dJ1_charAt_3b067_12 ?_
  refine mg_i2c dJ1_charAt_3b067_13 (mm_char c hc').1 ?_
  exact mg_iret dJ1_charAt_3b067_14 rfl (mm_char c hc').2 rfl rfl rfl (Nat.le_refl _) (Nat.le_refl _)
theorem J0_charAt_ok {a b n c : Nat} {i : Int32} {f : Nat → Value} (hs : mm_sv K a b n f) (h0 : ¬ i < 0) (h1 : i.toNatClampNeg < n) (hc : f i.toNatClampNeg = .int (nI c)) (hc' : c < 128) : mm_Cn K MJ0_charAt (d + 3) (0, 0, .inl (some (.int (nI c))), h, nx) [.ref a, .int i] h nx := by
  refine mm_entryF (by decide +kernel) (Nat.le_of_ble_eq_true rfl) rfl (fun hok => ?_)
  refine ml_aload_n (pc := 0) dJ0_charAt_5068e_0 rfl mm_get_0 ?_
  refine mg_callVJ (As := []) (rest := []) dJ0_charAt_5068e_1 cj_492 tj_839 tj_840 (J0_isLatin1_ok hs) hs rfl rfl (Nat.le_of_ble_eq_true rfl) (Nat.zero_le _) (Nat.zero_le _) ?_
  refine mg_if_eq 16 dJ0_charAt_5068e_4 rfl (fun q => absurd q (by decide)) (fun _ => ?_)
  refine ml_aload_n (pc := 7) dJ0_charAt_5068e_7 rfl mm_get_0 ?_
  refine mg_sget dJ0_charAt_5068e_8 tj_1989 hs.2.2.1 ?_
  refine ml_iload_n (pc := 11) dJ0_charAt_5068e_11 rfl (mm_get_s mm_get_0) ?_
  refine mg_callS (As := [.ref b, .int i]) (rest := []) dJ0_charAt_5068e_12 cj_495 (J1_charAt_ok hs h0 h1 hc hc') rfl rfl (Nat.le_of_ble_eq_true rfl) (Nat.zero_le _) (Nat.zero_le _) ?_
  exact mg_iret dJ0_charAt_5068e_15 rfl (mm_char c hc').2 rfl rfl rfl (Nat.le_refl _) (Nat.le_refl _)
end MGJ
section MGT
variable {K : mm_K} {M : mm_M} {d : Nat} {F : mm_F} {pc : Nat} {L : List (Option Value)} {S : List Value} {nx : Option Nat} {cells slots : Nat}
theorem mb_J_length {ρ : Type} {e : mm_E} {m : mm_V} {f : Int32 × mm_V → Option ρ} {r : ρ} {idx a : Nat} {rest : List Value} (hdp : 8 ≤ d) (hw : Cond.methodLink M.1.cls idx ⟨"java/lang/String", "length", "()I"⟩ ∈ lw_tbl) (hd : decode M.2.1 pc = .ok (.invokevirtual idx, 3)) (hz : e.2.1 = K.2.2.2.2) (hr : (J_length e a m).bind f = some r) (hS : S = .ref a :: rest) (hrest : (rest.map fun v => v.category).sum ≤ 8) (h1 : cells ≤ F.1) (h2 : slots ≤ F.2.1) (kk : ∀ v, f v = some r → mm_G K M (d + 1) F (pc + 3) L (.int v.1 :: rest) (e.1, v.2) nx cells slots) : mm_G K M (d + 1) F pc L S (e.1, m) nx cells slots := by
  unfold J_length at hr
  split at hr
  · next t n hg =>
    split at hr
    · next ht =>
      subst ht
      intro p e' s mi args below meth c A H locs ls hH hz hl hlv
      obtain ⟨b, g, hs, -⟩ := mm_str A.2.2.2.2.2.2.2.2.2.2.2 hH hg
      obtain ⟨d, rfl⟩ : ∃ d', d = d' + 1 := ⟨d - 1, by omega⟩
      exact mg_callVJ (F' := (0, 0, .inl (some (.int (nI n))), (e.1, m), nx)) (As := []) (rest := rest) hd ⟨Or.inl hw, tj_827, tj_19, ⟨by decide, by decide⟩, by decide +kernel, by decide⟩ tj_825 tj_826 (J0_length_ok hs) hs rfl hS hrest h1 h2 (kk (nI n, m) hr) p e' s mi args below meth c A H locs ls hH hz hl hlv
    · cases hr
  · cases hr
theorem mb_J_charAt {ρ : Type} {e : mm_E} {m : mm_V} {f : Int32 × mm_V → Option ρ} {r : ρ} {idx a : Nat} {i : Int32} {rest : List Value} (hdp : 8 ≤ d) (hw : Cond.methodLink M.1.cls idx ⟨"java/lang/String", "charAt", "(I)C"⟩ ∈ lw_tbl) (hd : decode M.2.1 pc = .ok (.invokevirtual idx, 3)) (hz : e.2.1 = K.2.2.2.2) (hr : (J_charAt e a i m).bind f = some r) (hS : S = .int i :: .ref a :: rest) (hrest : (rest.map fun v => v.category).sum ≤ 8) (h1 : cells ≤ F.1) (h2 : slots ≤ F.2.1) (kk : ∀ v, f v = some r → mm_G K M (d + 1) F (pc + 3) L (.int v.1 :: rest) (e.1, v.2) nx cells slots) : mm_G K M (d + 1) F pc L S (e.1, m) nx cells slots := by
  unfold J_charAt at hr
  split at hr
  · next v hv =>
    unfold mm_ai at hv
    split at hv
    · next k hk =>
      obtain ⟨n, q1, q2, q3, rfl⟩ := mm_ix_some hk
      split at hv
      · next w hw2 =>
        cases hv
        intro p e' s mi args below meth c A H locs ls hH hz hl hlv
        obtain ⟨b, g, hs, hfg⟩ := mm_str A.2.2.2.2.2.2.2.2.2.2.2 hH q1
        obtain ⟨c0, hc0, hc1⟩ := hs.2.2.2.2.2 _ q3
        have hwv : v = nI c0 := by
          have h5 := (hfg _ q3).symm.trans hw2
          rw [hc1] at h5
          exact (Value.int.inj h5).symm
        subst hwv
        obtain ⟨d, rfl⟩ : ∃ d', d = d' + 3 := ⟨d - 3, by omega⟩
        exact mg_callVJ (F' := (0, 0, .inl (some (.int (nI c0))), (e.1, m), nx)) (As := [.int i]) (rest := rest) hd ⟨Or.inl hw, tj_837, tj_19, ⟨by decide, by decide⟩, (show (parseMethodDescriptor MJ0_charAt.1.desc).map (fun d => d.parameters.length) = some 1 by decide +kernel), by decide⟩ tj_835 tj_836 (J0_charAt_ok hs q2 q3 hc1 hc0) hs rfl hS hrest h1 h2 (kk (nI c0, m) hr) p e' s mi args below meth c A H locs ls hH hz hl hlv
      · cases hv
    · cases hv
  · cases hr
end MGT
