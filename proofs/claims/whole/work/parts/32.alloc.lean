/-! Things made. A maker as a function: tags, contents and the next free address go in and come out. -/
abbrev mm_S : Type := mm_T × mm_V × Nat
def mm_new (g : mm_T) (m : mm_V) (z t n : Nat) (f : Nat → Value) : Option mm_S := some (mm_tg g z t n, mm_nw m z f, z + 1)
/-- class, its number of fields, their defaults -/
def mm_NW (own : String) (idx t n : Nat) (f : Nat → Value) : Prop := ∃ q : vw_C, vwCl[t]? = some q ∧ q.2.2 = n ∧ Cond.classLink own idx q.1 ∈ lw_tbl ∧ Cond.instantiable q.1 n ∈ lw_tbl ∧ Cond.initialized q.1 ∈ lw_tbl ∧ ∃ ty : Nat → FieldType, (∀ k, k < n → parseFieldDescriptor (q.2.1 k).2.2.1 = some (ty k)) ∧ ∀ k, k < n → defaultValue (ty k) = f k
section MA1
variable {K : mm_K} {M : mm_M} {d : Nat} {F : mm_F} {pc : Nat} {L : List (Option Value)} {S : List Value} {g : mm_T} {m : mm_V} {z : Nat} {cells slots : Nat}
theorem mm_wO {p : Program} {s : State} {mi : MethodId} {meth : Method} {c : Code} (A : mm_At K M p s mi meth c) {C : String} (hw : Cond.arrayOver (.object C) ∈ lw_tbl) (a' : Array Value) : (Cond.arrayOver (.object C)).before a' s = true :=
  va_AO.use (va_AO.moved A.2.2.2.2.2.2.2.2.1.alike (va_AO.of (A.2.2.2.2.2.2.2.2.2.2.2.2.1 _ hw)))
theorem mg_new {idx t n : Nat} {f : Nat → Value} (hd : decode M.2.1 pc = .ok (.new idx, 3)) (hw : mm_NW M.1.cls idx t n f) (h1 : cells + 1 ≤ F.1) (h2 : slots + n ≤ F.2.1) (kk : mm_G K M d F (pc + 3) L (.ref z :: S) (mm_tg g z t n, mm_nw m z f) (some (z + 1)) (cells + 1) (slots + n)) : mm_G K M d F pc L S (g, m) (some z) cells slots := by
  intro p e s mi args below meth c A H locs ls hH hz hl hv
  obtain ⟨q, hq, hn, w1, w2, w3, ty, hty, hf⟩ := hw
  have ht : t < 13 := (List.getElem?_eq_some_iff.mp hq).1
  have hKn := mm_kn A hq
  have hzz := hH.2.2.1 z rfl
  refine W.newcK A.1 A.2.1 A.2.2.2.2.1 (mm_w A w1 rfl args) (mm_w A w2 rfl args) (mm_w A w3 rfl args) rfl hd h1 h2 hKn.2.1 hzz fun H1 kC hkC e1 z1 o1 => ?_
  subst hn
  have hb := u_born ty (mm_lays A hq args) (fun w h => h) hKn hkC e1 hty
  obtain ⟨cell, b1, b2, b3, b4⟩ := hb
  refine kk p e s mi args below meth c A H1 locs ls (hH.push (t := t) (n := q.2.2) (f := f) (by omega) b1 ⟨b3, Or.inl ⟨q, hq, rfl, b2, fun k hk => ?_⟩⟩ z1 o1) (by omega) hl hv
  rw [b4 k hk]; exact congrArg some (hf k hk)
theorem mm_arrc {t n : Nat} {f : Nat → Value} (ht : 20 ≤ t) (ht' : t ≤ 25) : mm_CR K t n f (arrV (K.2.2.2.2 t) n f) := by
  refine ⟨rfl, Or.inr ⟨ht, ht', rfl, arrV_size _ _ _, fun k hk => arrV_read _ _ hk⟩⟩
theorem mg_newa {t N : Nat} {n : Int32} {atype : ArrayType} (hd : decode M.2.1 pc = .ok (.newarray atype, 2)) (ht : 20 ≤ t) (ht' : t ≤ 22) (hty : newarray.typeOf atype = mm_aty t) (hw : Cond.arrayClass (mm_aty t) ∈ lw_tbl) (hn : ¬ n < 0) (hN : n.toNatClampNeg = N) (hb : N ≤ 1000000) (h1 : cells + 1 ≤ F.1) (h2 : slots + N ≤ F.2.1) (kk : mm_G K M d F (pc + 2) L (.ref z :: S) (mm_tg g z t N, mm_nw m z (fun _ => defaultValue (mm_aty t))) (some (z + 1)) (cells + 1) (slots + N)) : mm_G K M d F pc L (.int n :: S) (g, m) (some z) cells slots := by
  intro p e s mi args below meth c A H locs ls hH hz hl hv
  have hzz := hH.2.2.1 z rfl
  have hcb : N * componentBytes (newarray.typeOf atype) ≤ 536870912 := by
    have : componentBytes (newarray.typeOf atype) ≤ 8 := by cases atype <;> decide
    calc N * componentBytes (newarray.typeOf atype) ≤ 1000000 * 8 := Nat.mul_le_mul hb this
      _ ≤ 536870912 := by decide
  refine va_newaK A.1 A.2.1 (by rw [hty]; exact mm_w A hw rfl args) rfl hd rfl hn hN hcb h1 h2 hzz fun H1 cA e1 z1 o1 hAr hNm => ?_
  rw [hty] at e1 hNm
  have hra := (mm_ar A ht (by omega)).2
  have hcA : cA = K.2.2.2.2 t := by
    have : t = 20 ∨ t = 21 ∨ t = 22 := by omega
    rcases this with rfl | rfl | rfl <;> exact Option.some.inj (hNm.symm.trans hra)
  subst hcA
  exact kk p e s mi args below meth c A H1 locs ls (hH.push (by omega) e1 (mm_arrc ht (by omega)) z1 o1) (by omega) hl hv
theorem mg_anew {idx t N : Nat} {n : Int32} {C : String} (hd : decode M.2.1 pc = .ok (.anewarray idx, 3)) (ht : 23 ≤ t) (ht' : t ≤ 25) (hty : mm_aty t = .object C) (hw : Cond.classLink M.1.cls idx C ∈ lw_tbl) (hwo : Cond.arrayOver (.object C) ∈ lw_tbl) (hn : ¬ n < 0) (hN : n.toNatClampNeg = N) (hb : N ≤ 1000000) (h1 : cells + 1 ≤ F.1) (h2 : slots + N ≤ F.2.1) (kk : mm_G K M d F (pc + 3) L (.ref z :: S) (mm_tg g z t N, mm_nw m z (fun _ => .null)) (some (z + 1)) (cells + 1) (slots + N)) : mm_G K M d F pc L (.int n :: S) (g, m) (some z) cells slots := by
  intro p e s mi args below meth c A H locs ls hH hz hl hv
  have hzz := hH.2.2.1 z rfl
  subst hN
  subst hzz
  refine W.anew A.1 A.2.1 A.2.2.2.2.1 (mm_w A hw rfl args) (mm_wO A hwo args) rfl hd rfl hn (by omega) h1 h2 fun cA kA comp f1 f2 f3 f4 => ?_
  have hra := (mm_ar A (t := t) (by omega) ht').2
  rw [hty] at hra
  obtain ⟨kA', comp', -, -, -, k4⟩ := hra
  have hcA : cA = K.2.2.2.2 t := Option.some.inj (f1.symm.trans k4)
  subst hcA
  generalize hH1 : H.push ({ cls := K.2.2.2.2 t, slots := Array.replicate n.toNatClampNeg .null, vm := .none } : Cell) = H1
  have z1 : H1.size = H.size + 1 := by rw [← hH1, Array.size_push]
  have e1 : H1[H.size]? = some (arrV (K.2.2.2.2 t) n.toNatClampNeg (fun _ => .null)) := by rw [← hH1, Array.getElem?_push_size, ← arrV_new]
  have o1 : ∀ q : Nat, q < H.size → H1[q]? = H[q]? := fun q hq => by rw [← hH1, Array.getElem?_push, if_neg (Nat.ne_of_lt hq)]
  exact kk p e s mi args below meth c A H1 locs ls (hH.push (by omega) e1 (mm_arrc (by omega) ht') z1 o1) (by omega) hl hv
theorem mg_obj {h : mm_H} {nx : Option Nat} {idx a : Nat} (hd : decode M.2.1 pc = .ok (.invokespecial idx, 3)) (hw : Cond.methodLink M.1.cls idx Lib.objectInit ∈ lw_tbl) (hr : (S.map fun v => v.category).sum ≤ 8) (kk : mm_G K M (d + 1) F (pc + 3) L S h nx cells slots) : mm_G K M (d + 1) F pc L (.ref a :: S) h nx cells slots := by
  intro p e s mi args below meth c A H locs ls hH hz hl hv
  refine W.objInit A.1 A.2.1 A.2.2.2.2.1 (mm_w A hw rfl args) (mm_w A ((by decide +kernel)) rfl args) (mm_w A ((by decide +kernel)) rfl args) rfl (hv.1.trans A.2.2.2.1.symm) rfl hd (by show 1 ≤ d + 1; omega) ?_ (kk p e s mi args below meth c A H locs ls hH hz hl hv)
  show 2 * 0 + _ + 12 ≤ 64 * (d + 1)
  omega
theorem mg_cs {h : mm_H} {nx : Option Nat} {c2 s2 : Nat} (h1 : cells ≤ c2) (h2 : slots ≤ s2) (kk : mm_G K M d F pc L S h nx c2 s2) : mm_G K M d F pc L S h nx cells slots :=
  fun p e s mi args below meth c A H locs ls hH hz hl hv => W.widen h1 h2 (kk p e s mi args below meth c A H locs ls hH hz hl hv)
-- as functions
theorem mb_new {ρ : Type} {fn : mm_S → Option ρ} {r : ρ} {idx t n : Nat} {f : Nat → Value} (hd : decode M.2.1 pc = .ok (.new idx, 3)) (hw : mm_NW M.1.cls idx t n f) (hr : (mm_new g m z t n f).bind fn = some r) (h1 : cells + 1 ≤ F.1) (h2 : slots + n ≤ F.2.1) (kk : ∀ s : mm_S, fn s = some r → mm_G K M d F (pc + 3) L (.ref z :: S) (s.1, s.2.1) (some s.2.2) (cells + 1) (slots + n)) : mm_G K M d F pc L S (g, m) (some z) cells slots := mg_new hd hw h1 h2 (kk _ hr)
theorem mb_newa {ρ : Type} {fn : mm_S → Option ρ} {r : ρ} {t N : Nat} {n : Int32} {atype : ArrayType} (hd : decode M.2.1 pc = .ok (.newarray atype, 2)) (ht : 20 ≤ t) (ht' : t ≤ 22) (hty : newarray.typeOf atype = mm_aty t) (hw : Cond.arrayClass (mm_aty t) ∈ lw_tbl) (hn : ¬ n < 0) (hN : n.toNatClampNeg = N) (hb : N ≤ 1000000) (hr : (mm_new g m z t N (fun _ => defaultValue (mm_aty t))).bind fn = some r) (h1 : cells + 1 ≤ F.1) (h2 : slots + N ≤ F.2.1) (kk : ∀ s : mm_S, fn s = some r → mm_G K M d F (pc + 2) L (.ref z :: S) (s.1, s.2.1) (some s.2.2) (cells + 1) (slots + N)) : mm_G K M d F pc L (.int n :: S) (g, m) (some z) cells slots := mg_newa hd ht ht' hty hw hn hN hb h1 h2 (kk _ hr)
theorem mb_anew {ρ : Type} {fn : mm_S → Option ρ} {r : ρ} {idx t N : Nat} {n : Int32} {C : String} (hd : decode M.2.1 pc = .ok (.anewarray idx, 3)) (ht : 23 ≤ t) (ht' : t ≤ 25) (hty : mm_aty t = .object C) (hw : Cond.classLink M.1.cls idx C ∈ lw_tbl) (hwo : Cond.arrayOver (.object C) ∈ lw_tbl) (hn : ¬ n < 0) (hN : n.toNatClampNeg = N) (hb : N ≤ 1000000) (hr : (mm_new g m z t N (fun _ => .null)).bind fn = some r) (h1 : cells + 1 ≤ F.1) (h2 : slots + N ≤ F.2.1) (kk : ∀ s : mm_S, fn s = some r → mm_G K M d F (pc + 3) L (.ref z :: S) (s.1, s.2.1) (some s.2.2) (cells + 1) (slots + N)) : mm_G K M d F pc L (.int n :: S) (g, m) (some z) cells slots := mg_anew hd ht ht' hty hw hwo hn hN hb h1 h2 (kk _ hr)
theorem mb_putF {ρ : Type} {f : mm_V → Option ρ} {r : ρ} {nx : Option Nat} {idx t k n a b : Nat} {ty : FieldType} (hd : decode M.2.1 pc = .ok (.putfield idx, 3)) (hf : mm_FI M.1.cls idx t k n ty) (hty : ty.isReference = true) (hM : M.1.name = "<init>") (hr : (mm_pf g m t n a k (.ref b)).bind f = some r) (kk : ∀ m', f m' = some r → mm_G K M d F (pc + 3) L S (g, m') nx cells slots) : mm_G K M d F pc L (.ref b :: .ref a :: S) (g, m) nx cells slots := by
  unfold mm_pf at hr
  by_cases ha : g a = some (t, n)
  · rw [if_pos ha] at hr
    refine mg_putF hd hf hM ?_ ?_ ha (kk _ hr)
    · cases ty <;> first | rfl | (simp [FieldType.isReference] at hty)
    · cases ty <;> first | rfl | (simp [FieldType.isReference] at hty)
  · rw [if_neg ha] at hr; cases hr
theorem mb_cI {ρ : Type} {Y : mm_M} {C W0 : Nat} {fn : Option mm_S} {f : mm_S → Option ρ} {r : ρ} {idx b : Nat} {As rest : List Value} (hd : decode M.2.1 pc = .ok (.invokespecial idx, 3)) (hw : mm_CI M.1.cls idx Y As.length) (hr : fn.bind f = some r) (hc : ∀ v : mm_S, fn = some v → mm_Cn K Y d (C, W0, .inl none, (v.1, v.2.1), some v.2.2) (.ref b :: As) (g, m) (some z)) (hS : S = As.reverse ++ .ref b :: rest) (hrest : (rest.map fun v => v.category).sum ≤ 8) (h1 : cells + C ≤ F.1) (h2 : slots + W0 ≤ F.2.1) (kk : ∀ v : mm_S, f v = some r → mm_G K M (d + 1) F (pc + 3) L rest (v.1, v.2.1) (some v.2.2) (cells + C) (slots + W0)) : mm_G K M (d + 1) F pc L S (g, m) (some z) cells slots := by
  cases HE : fn with
  | none => rw [HE] at hr; cases hr
  | some v =>
    rw [HE] at hr
    exact mg_callI (F' := (C, W0, .inl none, (v.1, v.2.1), some v.2.2)) hd hw (hc _ HE) rfl hS hrest h1 h2 (kk v hr)
theorem mb_mret {r : mm_S} (hd : decode M.2.1 pc = .ok (.return_, 1)) (hM : M.2.2.2.1 = none) (hF : F.2.2.1 = .inl none) (hFh : F.2.2.2 = ((r.1, r.2.1), some r.2.2)) (h1 : cells ≤ F.1) (h2 : slots ≤ F.2.1) (hr : some (g, m, z) = some r) : mm_G K M d F pc L [] (g, m) (some z) cells slots := by
  cases hr
  exact mg_vret hd hM hF (by rw [hFh]) (by rw [hFh]) h1 h2
end MA1
