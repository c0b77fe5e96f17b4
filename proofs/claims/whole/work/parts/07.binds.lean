/-! What a method as a function is made of (mm_g.. a field, mm_a.. a place of an array, mm_p.., mm_s.. the same written), and the rows that turn it into a walk. -/
def mm_gi (g : mm_T) (m : mm_V) (t n a k : Nat) : Option Int32 := if g a = some (t, n) then (match m a k with | .int v => some v | _ => none) else none
def mm_gl (g : mm_T) (m : mm_V) (t n a k : Nat) : Option Int64 := if g a = some (t, n) then (match m a k with | .long v => some v | _ => none) else none
def mm_gr (g : mm_T) (m : mm_V) (t n a k : Nat) : Option Nat := if g a = some (t, n) then (match m a k with | .ref v => some v | _ => none) else none
def mm_pf (g : mm_T) (m : mm_V) (t n a k : Nat) (v : Value) : Option mm_V := if g a = some (t, n) then some (mm_up m a k v) else none
def mm_pz (g : mm_T) (m : mm_V) (t n a k : Nat) (x : Int32) : Option mm_V := if g a = some (t, n) then (if x = 0 ∨ x = 1 then some (mm_up m a k (.int x)) else none) else none
def mm_ix (g : mm_T) (t a : Nat) (i : Int32) : Option Nat := match g a with | some (t', n) => if t' = t ∧ ¬ i < 0 ∧ i.toNatClampNeg < n then some i.toNatClampNeg else none | none => none
def mm_ai (g : mm_T) (m : mm_V) (t a : Nat) (i : Int32) : Option Int32 := match mm_ix g t a i with | some k => (match m a k with | .int v => some v | _ => none) | none => none
def mm_al (g : mm_T) (m : mm_V) (a : Nat) (i : Int32) : Option Int64 := match mm_ix g 21 a i with | some k => (match m a k with | .long v => some v | _ => none) | none => none
def mm_aq (g : mm_T) (m : mm_V) (t a : Nat) (i : Int32) : Option Nat := match mm_ix g t a i with | some k => (match m a k with | .ref v => some v | _ => none) | none => none
def mm_si (g : mm_T) (m : mm_V) (a : Nat) (i x : Int32) : Option mm_V := match mm_ix g 20 a i with | some k => some (mm_up m a k (.int x)) | none => none
def mm_sj (g : mm_T) (m : mm_V) (a : Nat) (i : Int32) (x : Int64) : Option mm_V := match mm_ix g 21 a i with | some k => some (mm_up m a k (.long x)) | none => none
def mm_sz (g : mm_T) (m : mm_V) (a : Nat) (i x : Int32) : Option mm_V := match mm_ix g 22 a i with | some k => (if x = 0 ∨ x = 1 then some (mm_up m a k (.int x)) else none) | none => none
def mm_sr (g : mm_T) (m : mm_V) (t t2 n2 a : Nat) (i : Int32) (b : Nat) : Option mm_V := match mm_ix g t a i with | some k => (if g b = some (t2, n2) then some (mm_up m a k (.ref b)) else none) | none => none
def mm_ln (g : mm_T) (a : Nat) : Option Int32 := match g a with | some (t, n) => if 20 ≤ t ∧ t ≤ 25 then some (nI n) else none | none => none
def mm_lx (g : mm_T) (a : Nat) : Option Int32 := match g a with | some (t, n) => if t = 31 then some (nI n) else none | none => none
def mm_rz (x : Int32) (m : mm_V) : Option (Int32 × mm_V) := if x = 0 ∨ x = 1 then some (x, m) else none
abbrev mm_E : Type := mm_T × (Nat → Nat) × Nat
abbrev mm_Fi (g : mm_T) (nx : Option Nat) (r : Int32 × mm_V) : mm_F := (0, 0, .inl (some (.int r.1)), (g, r.2), nx)
abbrev mm_Fl (g : mm_T) (nx : Option Nat) (r : Int64 × mm_V) : mm_F := (0, 0, .inl (some (.long r.1)), (g, r.2), nx)
abbrev mm_Fr (g : mm_T) (nx : Option Nat) (r : Nat × mm_V) : mm_F := (0, 0, .inl (some (.ref r.1)), (g, r.2), nx)
abbrev mm_Fv (g : mm_T) (nx : Option Nat) (r : mm_V) : mm_F := (0, 0, .inl none, (g, r), nx)
section MB
variable {K : mm_K} {M : mm_M} {d : Nat} {F : mm_F} {pc : Nat} {L : List (Option Value)} {S : List Value} {g : mm_T} {m : mm_V} {nx : Option Nat} {cells slots : Nat}
theorem mb_ck {ρ : Type} {c : Prop} [Decidable c] {B : Option ρ} {r : ρ} {G : Prop} (hr : (if c then B else none) = some r) (kk : c → B = some r → G) : G := by
  by_cases h : c
  · rw [if_pos h] at hr; exact kk h hr
  · rw [if_neg h] at hr; cases hr
theorem mb_ite {ρ : Type} {c : Prop} [Decidable c] {B C : Option ρ} {r : ρ} {G : Prop} (hr : (if c then B else C) = some r) (kt : c → B = some r → G) (kf : ¬ c → C = some r → G) : G := by
  by_cases h : c
  · rw [if_pos h] at hr; exact kt h hr
  · rw [if_neg h] at hr; exact kf h hr
theorem mb_gi {ρ : Type} {f : Int32 → Option ρ} {r : ρ} {idx t k n a : Nat} (hd : decode M.2.1 pc = .ok (.getfield idx, 3)) (hf : mm_FL M.1.cls idx t k n) (hr : (mm_gi g m t n a k).bind f = some r) (kk : ∀ v, f v = some r → mm_G K M d F (pc + 3) L (.int v :: S) (g, m) nx cells slots) : mm_G K M d F pc L (.ref a :: S) (g, m) nx cells slots := by
  unfold mm_gi at hr
  by_cases ha : g a = some (t, n)
  · rw [if_pos ha] at hr
    split at hr
    · next v hv => refine mg_getf hd hf ha ?_; rw [hv]; exact kk v hr
    · cases hr
  · rw [if_neg ha] at hr; cases hr
theorem mb_gl {ρ : Type} {f : Int64 → Option ρ} {r : ρ} {idx t k n a : Nat} (hd : decode M.2.1 pc = .ok (.getfield idx, 3)) (hf : mm_FL M.1.cls idx t k n) (hr : (mm_gl g m t n a k).bind f = some r) (kk : ∀ v, f v = some r → mm_G K M d F (pc + 3) L (.long v :: S) (g, m) nx cells slots) : mm_G K M d F pc L (.ref a :: S) (g, m) nx cells slots := by
  unfold mm_gl at hr
  by_cases ha : g a = some (t, n)
  · rw [if_pos ha] at hr
    split at hr
    · next v hv => refine mg_getf hd hf ha ?_; rw [hv]; exact kk v hr
    · cases hr
  · rw [if_neg ha] at hr; cases hr
theorem mb_gr {ρ : Type} {f : Nat → Option ρ} {r : ρ} {idx t k n a : Nat} (hd : decode M.2.1 pc = .ok (.getfield idx, 3)) (hf : mm_FL M.1.cls idx t k n) (hr : (mm_gr g m t n a k).bind f = some r) (kk : ∀ v, f v = some r → mm_G K M d F (pc + 3) L (.ref v :: S) (g, m) nx cells slots) : mm_G K M d F pc L (.ref a :: S) (g, m) nx cells slots := by
  unfold mm_gr at hr
  by_cases ha : g a = some (t, n)
  · rw [if_pos ha] at hr
    split at hr
    · next v hv => refine mg_getf hd hf ha ?_; rw [hv]; exact kk v hr
    · cases hr
  · rw [if_neg ha] at hr; cases hr
theorem mb_pi {ρ : Type} {f : mm_V → Option ρ} {r : ρ} {idx t k n a : Nat} {x : Int32} (hd : decode M.2.1 pc = .ok (.putfield idx, 3)) (hf : mm_FP M.1.cls idx t k n .int) (hr : (mm_pf g m t n a k (.int x)).bind f = some r) (kk : ∀ m', f m' = some r → mm_G K M d F (pc + 3) L S (g, m') nx cells slots) : mm_G K M d F pc L (.int x :: .ref a :: S) (g, m) nx cells slots := by
  unfold mm_pf at hr
  by_cases ha : g a = some (t, n)
  · rw [if_pos ha] at hr
    exact mg_putf hd hf rfl rfl ha (kk _ hr)
  · rw [if_neg ha] at hr; cases hr
theorem mb_pl {ρ : Type} {f : mm_V → Option ρ} {r : ρ} {idx t k n a : Nat} {x : Int64} (hd : decode M.2.1 pc = .ok (.putfield idx, 3)) (hf : mm_FP M.1.cls idx t k n .long) (hr : (mm_pf g m t n a k (.long x)).bind f = some r) (kk : ∀ m', f m' = some r → mm_G K M d F (pc + 3) L S (g, m') nx cells slots) : mm_G K M d F pc L (.long x :: .ref a :: S) (g, m) nx cells slots := by
  unfold mm_pf at hr
  by_cases ha : g a = some (t, n)
  · rw [if_pos ha] at hr
    exact mg_putf hd hf rfl rfl ha (kk _ hr)
  · rw [if_neg ha] at hr; cases hr
theorem mb_pr {ρ : Type} {f : mm_V → Option ρ} {r : ρ} {idx t k n a x : Nat} {C : String} (hd : decode M.2.1 pc = .ok (.putfield idx, 3)) (hf : mm_FP M.1.cls idx t k n (.object C)) (hr : (mm_pf g m t n a k (.ref x)).bind f = some r) (kk : ∀ m', f m' = some r → mm_G K M d F (pc + 3) L S (g, m') nx cells slots) : mm_G K M d F pc L (.ref x :: .ref a :: S) (g, m) nx cells slots := by
  unfold mm_pf at hr
  by_cases ha : g a = some (t, n)
  · rw [if_pos ha] at hr
    exact mg_putf hd hf rfl rfl ha (kk _ hr)
  · rw [if_neg ha] at hr; cases hr
theorem mb_pq {ρ : Type} {f : mm_V → Option ρ} {r : ρ} {idx t k n a x : Nat} {ty : FieldType} (hd : decode M.2.1 pc = .ok (.putfield idx, 3)) (hf : mm_FP M.1.cls idx t k n (.array ty)) (hr : (mm_pf g m t n a k (.ref x)).bind f = some r) (kk : ∀ m', f m' = some r → mm_G K M d F (pc + 3) L S (g, m') nx cells slots) : mm_G K M d F pc L (.ref x :: .ref a :: S) (g, m) nx cells slots := by
  unfold mm_pf at hr
  by_cases ha : g a = some (t, n)
  · rw [if_pos ha] at hr
    exact mg_putf hd hf rfl rfl ha (kk _ hr)
  · rw [if_neg ha] at hr; cases hr
theorem mb_pz {ρ : Type} {f : mm_V → Option ρ} {r : ρ} {idx t k n a : Nat} {x : Int32} (hd : decode M.2.1 pc = .ok (.putfield idx, 3)) (hf : mm_FP M.1.cls idx t k n .boolean) (hr : (mm_pz g m t n a k x).bind f = some r) (kk : ∀ m', f m' = some r → mm_G K M d F (pc + 3) L S (g, m') nx cells slots) : mm_G K M d F pc L (.int x :: .ref a :: S) (g, m) nx cells slots := by
  unfold mm_pz at hr
  by_cases ha : g a = some (t, n)
  · rw [if_pos ha] at hr
    by_cases hx : x = 0 ∨ x = 1
    · rw [if_pos hx] at hr
      exact mg_putf hd hf (by rcases hx with rfl | rfl <;> rfl) (by rcases hx with rfl | rfl <;> rfl) ha (kk _ hr)
    · rw [if_neg hx] at hr; cases hr
  · rw [if_neg ha] at hr; cases hr
theorem mm_ix_some {t a k : Nat} {i : Int32} (h : mm_ix g t a i = some k) : ∃ n, g a = some (t, n) ∧ ¬ i < 0 ∧ i.toNatClampNeg < n ∧ k = i.toNatClampNeg := by
  unfold mm_ix at h
  split at h
  · next t' n hg =>
    split at h
    · next hc => obtain ⟨rfl, h1, h2⟩ := hc; cases h; exact ⟨n, hg, h1, h2, rfl⟩
    · cases h
  · cases h
theorem mb_ai {ρ : Type} {f : Int32 → Option ρ} {r : ρ} {a : Nat} {i : Int32} (hd : decode M.2.1 pc = .ok (.iaload, 1)) (hr : (mm_ai g m 20 a i).bind f = some r) (kk : ∀ v, f v = some r → mm_G K M d F (pc + 1) L (.int v :: S) (g, m) nx cells slots) : mm_G K M d F pc L (.int i :: .ref a :: S) (g, m) nx cells slots := by
  unfold mm_ai at hr
  split at hr
  · next k hk =>
    obtain ⟨n, h1, h2, h3, rfl⟩ := mm_ix_some hk
    split at hr
    · next v hv => refine mg_iald hd h1 h2 h3 ?_; rw [hv]; exact kk v hr
    · cases hr
  · cases hr
theorem mb_ax {ρ : Type} {f : Int32 → Option ρ} {r : ρ} {a : Nat} {i : Int32} (hd : decode M.2.1 pc = .ok (.iaload, 1)) (hr : (mm_ai g m 31 a i).bind f = some r) (kk : ∀ v, f v = some r → mm_G K M d F (pc + 1) L (.int v :: S) (g, m) nx cells slots) : mm_G K M d F pc L (.int i :: .ref a :: S) (g, m) nx cells slots := by
  unfold mm_ai at hr
  split at hr
  · next k hk =>
    obtain ⟨n, h1, h2, h3, rfl⟩ := mm_ix_some hk
    split at hr
    · next v hv => refine mg_xald hd h1 h2 h3 ?_; rw [hv]; exact kk v hr
    · cases hr
  · cases hr
theorem mb_az {ρ : Type} {f : Int32 → Option ρ} {r : ρ} {a : Nat} {i : Int32} (hd : decode M.2.1 pc = .ok (.baload, 1)) (hr : (mm_ai g m 22 a i).bind f = some r) (kk : ∀ v, f v = some r → mm_G K M d F (pc + 1) L (.int v :: S) (g, m) nx cells slots) : mm_G K M d F pc L (.int i :: .ref a :: S) (g, m) nx cells slots := by
  unfold mm_ai at hr
  split at hr
  · next k hk =>
    obtain ⟨n, h1, h2, h3, rfl⟩ := mm_ix_some hk
    split at hr
    · next v hv => refine mg_zald hd h1 h2 h3 ?_; rw [hv]; exact kk v hr
    · cases hr
  · cases hr
theorem mb_al {ρ : Type} {f : Int64 → Option ρ} {r : ρ} {a : Nat} {i : Int32} (hd : decode M.2.1 pc = .ok (.laload, 1)) (hr : (mm_al g m a i).bind f = some r) (kk : ∀ v, f v = some r → mm_G K M d F (pc + 1) L (.long v :: S) (g, m) nx cells slots) : mm_G K M d F pc L (.int i :: .ref a :: S) (g, m) nx cells slots := by
  unfold mm_al at hr
  split at hr
  · next k hk =>
    obtain ⟨n, h1, h2, h3, rfl⟩ := mm_ix_some hk
    split at hr
    · next v hv => refine mg_lald hd h1 h2 h3 ?_; rw [hv]; exact kk v hr
    · cases hr
  · cases hr
theorem mb_aq {ρ : Type} {f : Nat → Option ρ} {r : ρ} {t a : Nat} {i : Int32} (hd : decode M.2.1 pc = .ok (.aaload, 1)) (ht : 23 ≤ t) (ht' : t ≤ 25) (hr : (mm_aq g m t a i).bind f = some r) (kk : ∀ v, f v = some r → mm_G K M d F (pc + 1) L (.ref v :: S) (g, m) nx cells slots) : mm_G K M d F pc L (.int i :: .ref a :: S) (g, m) nx cells slots := by
  unfold mm_aq at hr
  split at hr
  · next k hk =>
    obtain ⟨n, h1, h2, h3, rfl⟩ := mm_ix_some hk
    split at hr
    · next v hv => refine mg_aald hd h1 ht ht' h2 h3 ?_; rw [hv]; exact kk v hr
    · cases hr
  · cases hr
theorem mb_si {ρ : Type} {f : mm_V → Option ρ} {r : ρ} {a : Nat} {i : Int32} {x : Int32} (hd : decode M.2.1 pc = .ok (.iastore, 1)) (hr : (mm_si g m a i x).bind f = some r) (kk : ∀ m', f m' = some r → mm_G K M d F (pc + 1) L S (g, m') nx cells slots) : mm_G K M d F pc L (.int x :: .int i :: .ref a :: S) (g, m) nx cells slots := by
  unfold mm_si at hr
  split at hr
  · next k hk =>
    obtain ⟨n, h1, h2, h3, rfl⟩ := mm_ix_some hk
    exact mg_iast hd h1 h2 h3 (kk _ hr)
  · cases hr
theorem mb_sj {ρ : Type} {f : mm_V → Option ρ} {r : ρ} {a : Nat} {i : Int32} {x : Int64} (hd : decode M.2.1 pc = .ok (.lastore, 1)) (hr : (mm_sj g m a i x).bind f = some r) (kk : ∀ m', f m' = some r → mm_G K M d F (pc + 1) L S (g, m') nx cells slots) : mm_G K M d F pc L (.long x :: .int i :: .ref a :: S) (g, m) nx cells slots := by
  unfold mm_sj at hr
  split at hr
  · next k hk =>
    obtain ⟨n, h1, h2, h3, rfl⟩ := mm_ix_some hk
    exact mg_last hd h1 h2 h3 (kk _ hr)
  · cases hr
theorem mb_sz {ρ : Type} {f : mm_V → Option ρ} {r : ρ} {a : Nat} {i x : Int32} (hd : decode M.2.1 pc = .ok (.bastore, 1)) (hr : (mm_sz g m a i x).bind f = some r) (kk : ∀ m', f m' = some r → mm_G K M d F (pc + 1) L S (g, m') nx cells slots) : mm_G K M d F pc L (.int x :: .int i :: .ref a :: S) (g, m) nx cells slots := by
  unfold mm_sz at hr
  split at hr
  · next k hk =>
    obtain ⟨n, h1, h2, h3, rfl⟩ := mm_ix_some hk
    by_cases hx : x = 0 ∨ x = 1
    · rw [if_pos hx] at hr; exact mg_zast hd h1 h2 h3 hx (kk _ hr)
    · rw [if_neg hx] at hr; cases hr
  · cases hr
theorem mb_sr {ρ : Type} {f : mm_V → Option ρ} {r : ρ} {t t2 n2 a b : Nat} {i : Int32} (hd : decode M.2.1 pc = .ok (.aastore, 1)) (ht : 23 ≤ t) (ht' : t ≤ 25) (hq : ∃ q : vw_C, vwCl[t2]? = some q ∧ mm_aty t = .object q.1) (hr : (mm_sr g m t t2 n2 a i b).bind f = some r) (kk : ∀ m', f m' = some r → mm_G K M d F (pc + 1) L S (g, m') nx cells slots) : mm_G K M d F pc L (.ref b :: .int i :: .ref a :: S) (g, m) nx cells slots := by
  unfold mm_sr at hr
  split at hr
  · next k hk =>
    obtain ⟨n, h1, h2, h3, rfl⟩ := mm_ix_some hk
    by_cases hx : g b = some (t2, n2)
    · rw [if_pos hx] at hr; exact mg_aast hd h1 ht ht' h2 h3 hx hq (kk _ hr)
    · rw [if_neg hx] at hr; cases hr
  · cases hr
theorem mb_ln {ρ : Type} {f : Int32 → Option ρ} {r : ρ} {a : Nat} (hd : decode M.2.1 pc = .ok (.arraylength, 1)) (hr : (mm_ln g a).bind f = some r) (kk : ∀ v, f v = some r → mm_G K M d F (pc + 1) L (.int v :: S) (g, m) nx cells slots) : mm_G K M d F pc L (.ref a :: S) (g, m) nx cells slots := by
  unfold mm_ln at hr
  split at hr
  · next t n hg =>
    split at hr
    · next hc => exact mg_alen hd hg hc.1 hc.2 (kk _ hr)
    · cases hr
  · cases hr
theorem mb_lx {ρ : Type} {f : Int32 → Option ρ} {r : ρ} {a : Nat} (hd : decode M.2.1 pc = .ok (.arraylength, 1)) (hr : (mm_lx g a).bind f = some r) (kk : ∀ v, f v = some r → mm_G K M d F (pc + 1) L (.int v :: S) (g, m) nx cells slots) : mm_G K M d F pc L (.ref a :: S) (g, m) nx cells slots := by
  unfold mm_lx at hr
  split at hr
  · next t n hg =>
    split at hr
    · next hc => subst hc; exact mg_xlen hd hg (kk _ hr)
    · cases hr
  · cases hr
theorem mb_idiv {ρ : Type} {B : Option ρ} {r : ρ} {x y : Int32} (hd : decode M.2.1 pc = .ok (.idiv, 1)) (hr : (if y = 0 then none else B) = some r) (kk : B = some r → mm_G K M d F (pc + 1) L (.int (x / y) :: S) (g, m) nx cells slots) : mm_G K M d F pc L (.int y :: .int x :: S) (g, m) nx cells slots := by
  by_cases h : y = 0
  · rw [if_pos h] at hr; cases hr
  · rw [if_neg h] at hr; exact mg_idiv hd h (kk hr)
theorem mb_irem {ρ : Type} {B : Option ρ} {r : ρ} {x y : Int32} (hd : decode M.2.1 pc = .ok (.irem, 1)) (hr : (if y = 0 then none else B) = some r) (kk : B = some r → mm_G K M d F (pc + 1) L (.int (x - x / y * y) :: S) (g, m) nx cells slots) : mm_G K M d F pc L (.int y :: .int x :: S) (g, m) nx cells slots := by
  by_cases h : y = 0
  · rw [if_pos h] at hr; cases hr
  · rw [if_neg h] at hr; exact mg_irem hd h (kk hr)
theorem mb_ldiv {ρ : Type} {B : Option ρ} {r : ρ} {x y : Int64} (hd : decode M.2.1 pc = .ok (.ldiv, 1)) (hr : (if y = 0 then none else B) = some r) (kk : B = some r → mm_G K M d F (pc + 1) L (.long (x / y) :: S) (g, m) nx cells slots) : mm_G K M d F pc L (.long y :: .long x :: S) (g, m) nx cells slots := by
  by_cases h : y = 0
  · rw [if_pos h] at hr; cases hr
  · rw [if_neg h] at hr; exact mg_ldiv hd h (kk hr)
theorem mb_lrem {ρ : Type} {B : Option ρ} {r : ρ} {x y : Int64} (hd : decode M.2.1 pc = .ok (.lrem, 1)) (hr : (if y = 0 then none else B) = some r) (kk : B = some r → mm_G K M d F (pc + 1) L (.long (x - x / y * y) :: S) (g, m) nx cells slots) : mm_G K M d F pc L (.long y :: .long x :: S) (g, m) nx cells slots := by
  by_cases h : y = 0
  · rw [if_pos h] at hr; cases hr
  · rw [if_neg h] at hr; exact mg_lrem hd h (kk hr)
theorem mb_if_eq {ρ : Type} {B C : Option ρ} {r : ρ} {x : Int32} {off : Int} (tgt : Nat) (hd : decode M.2.1 pc = .ok (.ifCond .eq off, 3)) (ht : (pc : Int) + off = (tgt : Int)) (hr : (if x = 0 then B else C) = some r) (kt : B = some r → mm_G K M d F tgt L S (g, m) nx cells slots) (kf : C = some r → mm_G K M d F (pc + 3) L S (g, m) nx cells slots) : mm_G K M d F pc L (.int x :: S) (g, m) nx cells slots :=
  mg_if_eq tgt hd ht (fun q => kt (by rw [if_pos q] at hr; exact hr)) (fun q => kf (by rw [if_neg q] at hr; exact hr))
theorem mb_icmp_eq {ρ : Type} {B C : Option ρ} {r : ρ} {x y : Int32} {off : Int} (tgt : Nat) (hd : decode M.2.1 pc = .ok (.if_icmp .eq off, 3)) (ht : (pc : Int) + off = (tgt : Int)) (hr : (if x = y then B else C) = some r) (kt : B = some r → mm_G K M d F tgt L S (g, m) nx cells slots) (kf : C = some r → mm_G K M d F (pc + 3) L S (g, m) nx cells slots) : mm_G K M d F pc L (.int y :: .int x :: S) (g, m) nx cells slots :=
  mg_icmp_eq tgt hd ht (fun q => kt (by rw [if_pos q] at hr; exact hr)) (fun q => kf (by rw [if_neg q] at hr; exact hr))
theorem mb_if_ne {ρ : Type} {B C : Option ρ} {r : ρ} {x : Int32} {off : Int} (tgt : Nat) (hd : decode M.2.1 pc = .ok (.ifCond .ne off, 3)) (ht : (pc : Int) + off = (tgt : Int)) (hr : (if ¬ x = 0 then B else C) = some r) (kt : B = some r → mm_G K M d F tgt L S (g, m) nx cells slots) (kf : C = some r → mm_G K M d F (pc + 3) L S (g, m) nx cells slots) : mm_G K M d F pc L (.int x :: S) (g, m) nx cells slots :=
  mg_if_ne tgt hd ht (fun q => kt (by rw [if_pos q] at hr; exact hr)) (fun q => kf (by rw [if_neg (fun h => h q)] at hr; exact hr))
theorem mb_icmp_ne {ρ : Type} {B C : Option ρ} {r : ρ} {x y : Int32} {off : Int} (tgt : Nat) (hd : decode M.2.1 pc = .ok (.if_icmp .ne off, 3)) (ht : (pc : Int) + off = (tgt : Int)) (hr : (if ¬ x = y then B else C) = some r) (kt : B = some r → mm_G K M d F tgt L S (g, m) nx cells slots) (kf : C = some r → mm_G K M d F (pc + 3) L S (g, m) nx cells slots) : mm_G K M d F pc L (.int y :: .int x :: S) (g, m) nx cells slots :=
  mg_icmp_ne tgt hd ht (fun q => kt (by rw [if_pos q] at hr; exact hr)) (fun q => kf (by rw [if_neg (fun h => h q)] at hr; exact hr))
theorem mb_if_lt {ρ : Type} {B C : Option ρ} {r : ρ} {x : Int32} {off : Int} (tgt : Nat) (hd : decode M.2.1 pc = .ok (.ifCond .lt off, 3)) (ht : (pc : Int) + off = (tgt : Int)) (hr : (if x < 0 then B else C) = some r) (kt : B = some r → mm_G K M d F tgt L S (g, m) nx cells slots) (kf : C = some r → mm_G K M d F (pc + 3) L S (g, m) nx cells slots) : mm_G K M d F pc L (.int x :: S) (g, m) nx cells slots :=
  mg_if_lt tgt hd ht (fun q => kt (by rw [if_pos q] at hr; exact hr)) (fun q => kf (by rw [if_neg q] at hr; exact hr))
theorem mb_icmp_lt {ρ : Type} {B C : Option ρ} {r : ρ} {x y : Int32} {off : Int} (tgt : Nat) (hd : decode M.2.1 pc = .ok (.if_icmp .lt off, 3)) (ht : (pc : Int) + off = (tgt : Int)) (hr : (if x < y then B else C) = some r) (kt : B = some r → mm_G K M d F tgt L S (g, m) nx cells slots) (kf : C = some r → mm_G K M d F (pc + 3) L S (g, m) nx cells slots) : mm_G K M d F pc L (.int y :: .int x :: S) (g, m) nx cells slots :=
  mg_icmp_lt tgt hd ht (fun q => kt (by rw [if_pos q] at hr; exact hr)) (fun q => kf (by rw [if_neg q] at hr; exact hr))
theorem mb_if_ge {ρ : Type} {B C : Option ρ} {r : ρ} {x : Int32} {off : Int} (tgt : Nat) (hd : decode M.2.1 pc = .ok (.ifCond .ge off, 3)) (ht : (pc : Int) + off = (tgt : Int)) (hr : (if 0 ≤ x then B else C) = some r) (kt : B = some r → mm_G K M d F tgt L S (g, m) nx cells slots) (kf : C = some r → mm_G K M d F (pc + 3) L S (g, m) nx cells slots) : mm_G K M d F pc L (.int x :: S) (g, m) nx cells slots :=
  mg_if_ge tgt hd ht (fun q => kt (by rw [if_pos q] at hr; exact hr)) (fun q => kf (by rw [if_neg q] at hr; exact hr))
theorem mb_icmp_ge {ρ : Type} {B C : Option ρ} {r : ρ} {x y : Int32} {off : Int} (tgt : Nat) (hd : decode M.2.1 pc = .ok (.if_icmp .ge off, 3)) (ht : (pc : Int) + off = (tgt : Int)) (hr : (if y ≤ x then B else C) = some r) (kt : B = some r → mm_G K M d F tgt L S (g, m) nx cells slots) (kf : C = some r → mm_G K M d F (pc + 3) L S (g, m) nx cells slots) : mm_G K M d F pc L (.int y :: .int x :: S) (g, m) nx cells slots :=
  mg_icmp_ge tgt hd ht (fun q => kt (by rw [if_pos q] at hr; exact hr)) (fun q => kf (by rw [if_neg q] at hr; exact hr))
theorem mb_if_gt {ρ : Type} {B C : Option ρ} {r : ρ} {x : Int32} {off : Int} (tgt : Nat) (hd : decode M.2.1 pc = .ok (.ifCond .gt off, 3)) (ht : (pc : Int) + off = (tgt : Int)) (hr : (if 0 < x then B else C) = some r) (kt : B = some r → mm_G K M d F tgt L S (g, m) nx cells slots) (kf : C = some r → mm_G K M d F (pc + 3) L S (g, m) nx cells slots) : mm_G K M d F pc L (.int x :: S) (g, m) nx cells slots :=
  mg_if_gt tgt hd ht (fun q => kt (by rw [if_pos q] at hr; exact hr)) (fun q => kf (by rw [if_neg q] at hr; exact hr))
theorem mb_icmp_gt {ρ : Type} {B C : Option ρ} {r : ρ} {x y : Int32} {off : Int} (tgt : Nat) (hd : decode M.2.1 pc = .ok (.if_icmp .gt off, 3)) (ht : (pc : Int) + off = (tgt : Int)) (hr : (if y < x then B else C) = some r) (kt : B = some r → mm_G K M d F tgt L S (g, m) nx cells slots) (kf : C = some r → mm_G K M d F (pc + 3) L S (g, m) nx cells slots) : mm_G K M d F pc L (.int y :: .int x :: S) (g, m) nx cells slots :=
  mg_icmp_gt tgt hd ht (fun q => kt (by rw [if_pos q] at hr; exact hr)) (fun q => kf (by rw [if_neg q] at hr; exact hr))
theorem mb_if_le {ρ : Type} {B C : Option ρ} {r : ρ} {x : Int32} {off : Int} (tgt : Nat) (hd : decode M.2.1 pc = .ok (.ifCond .le off, 3)) (ht : (pc : Int) + off = (tgt : Int)) (hr : (if x ≤ 0 then B else C) = some r) (kt : B = some r → mm_G K M d F tgt L S (g, m) nx cells slots) (kf : C = some r → mm_G K M d F (pc + 3) L S (g, m) nx cells slots) : mm_G K M d F pc L (.int x :: S) (g, m) nx cells slots :=
  mg_if_le tgt hd ht (fun q => kt (by rw [if_pos q] at hr; exact hr)) (fun q => kf (by rw [if_neg q] at hr; exact hr))
theorem mb_icmp_le {ρ : Type} {B C : Option ρ} {r : ρ} {x y : Int32} {off : Int} (tgt : Nat) (hd : decode M.2.1 pc = .ok (.if_icmp .le off, 3)) (ht : (pc : Int) + off = (tgt : Int)) (hr : (if x ≤ y then B else C) = some r) (kt : B = some r → mm_G K M d F tgt L S (g, m) nx cells slots) (kf : C = some r → mm_G K M d F (pc + 3) L S (g, m) nx cells slots) : mm_G K M d F pc L (.int y :: .int x :: S) (g, m) nx cells slots :=
  mg_icmp_le tgt hd ht (fun q => kt (by rw [if_pos q] at hr; exact hr)) (fun q => kf (by rw [if_neg q] at hr; exact hr))
theorem mb_iret {x : Int32} {r : Int32 × mm_V} (hd : decode M.2.1 pc = .ok (.ireturn, 1)) (hM : M.2.2.2.1 = some .int) (hr : some (x, m) = some r) : mm_G K M d (mm_Fi g nx r) pc L [.int x] (g, m) nx 0 0 := by
  cases hr; exact mg_iret hd hM rfl rfl rfl rfl (Nat.le_refl _) (Nat.le_refl _)
theorem mb_zret {x : Int32} {r : Int32 × mm_V} (hd : decode M.2.1 pc = .ok (.ireturn, 1)) (hM : M.2.2.2.1 = some .boolean) (hr : mm_rz x m = some r) : mm_G K M d (mm_Fi g nx r) pc L [.int x] (g, m) nx 0 0 := by
  unfold mm_rz at hr
  by_cases hx : x = 0 ∨ x = 1
  · rw [if_pos hx] at hr; cases hr; exact mg_iret hd hM (by rcases hx with rfl | rfl <;> rfl) rfl rfl rfl (Nat.le_refl _) (Nat.le_refl _)
  · rw [if_neg hx] at hr; cases hr
theorem mb_lret {x : Int64} {r : Int64 × mm_V} (hd : decode M.2.1 pc = .ok (.lreturn, 1)) (hM : M.2.2.2.1 = some .long) (hr : some (x, m) = some r) : mm_G K M d (mm_Fl g nx r) pc L [.long x] (g, m) nx 0 0 := by
  cases hr; exact mg_lret hd hM rfl rfl rfl (Nat.le_refl _) (Nat.le_refl _)
theorem mb_aret {x : Nat} {C : String} {r : Nat × mm_V} (hd : decode M.2.1 pc = .ok (.areturn, 1)) (hM : M.2.2.2.1 = some (.object C)) (hr : some (x, m) = some r) : mm_G K M d (mm_Fr g nx r) pc L [.ref x] (g, m) nx 0 0 := by
  cases hr; exact mg_aret hd hM rfl rfl rfl (Nat.le_refl _) (Nat.le_refl _)
theorem mb_vret {r : mm_V} (hd : decode M.2.1 pc = .ok (.return_, 1)) (hM : M.2.2.2.1 = none) (hr : some m = some r) : mm_G K M d (mm_Fv g nx r) pc L [] (g, m) nx 0 0 := by
  cases hr; exact mg_vret hd hM rfl rfl rfl (Nat.le_refl _) (Nat.le_refl _)
theorem mb_cVi {ρ : Type} {Y : mm_M} {fn : Option (Int32 × mm_V)} {f : Int32 × mm_V → Option ρ} {r : ρ} {idx t n b : Nat} {As rest : List Value} (hd : decode M.2.1 pc = .ok (.invokevirtual idx, 3)) (hw : mm_CV M.1.cls idx Y t As.length) (hb : g b = some (t, n)) (hr : fn.bind f = some r) (hc : ∀ v, fn = some v → mm_Cn K Y d (mm_Fi g nx v) (.ref b :: As) (g, m) nx) (hS : S = As.reverse ++ .ref b :: rest) (hrest : (rest.map fun v => v.category).sum ≤ 8) (h1 : cells ≤ F.1) (h2 : slots ≤ F.2.1) (kk : ∀ v, f v = some r → mm_G K M (d + 1) F (pc + 3) L (.int v.1 :: rest) (g, v.2) nx cells slots) : mm_G K M (d + 1) F pc L S (g, m) nx cells slots := by
  cases HE : fn with
  | none => rw [HE] at hr; cases hr
  | some v =>
    rw [HE] at hr
    exact mg_callV (F' := mm_Fi g nx v) hd hw (hc _ HE) hb rfl hS hrest h1 h2 (kk v hr)
theorem mb_cVl {ρ : Type} {Y : mm_M} {fn : Option (Int64 × mm_V)} {f : Int64 × mm_V → Option ρ} {r : ρ} {idx t n b : Nat} {As rest : List Value} (hd : decode M.2.1 pc = .ok (.invokevirtual idx, 3)) (hw : mm_CV M.1.cls idx Y t As.length) (hb : g b = some (t, n)) (hr : fn.bind f = some r) (hc : ∀ v, fn = some v → mm_Cn K Y d (mm_Fl g nx v) (.ref b :: As) (g, m) nx) (hS : S = As.reverse ++ .ref b :: rest) (hrest : (rest.map fun v => v.category).sum ≤ 8) (h1 : cells ≤ F.1) (h2 : slots ≤ F.2.1) (kk : ∀ v, f v = some r → mm_G K M (d + 1) F (pc + 3) L (.long v.1 :: rest) (g, v.2) nx cells slots) : mm_G K M (d + 1) F pc L S (g, m) nx cells slots := by
  cases HE : fn with
  | none => rw [HE] at hr; cases hr
  | some v =>
    rw [HE] at hr
    exact mg_callV (F' := mm_Fl g nx v) hd hw (hc _ HE) hb rfl hS hrest h1 h2 (kk v hr)
theorem mb_cVr {ρ : Type} {Y : mm_M} {fn : Option (Nat × mm_V)} {f : Nat × mm_V → Option ρ} {r : ρ} {idx t n b : Nat} {As rest : List Value} (hd : decode M.2.1 pc = .ok (.invokevirtual idx, 3)) (hw : mm_CV M.1.cls idx Y t As.length) (hb : g b = some (t, n)) (hr : fn.bind f = some r) (hc : ∀ v, fn = some v → mm_Cn K Y d (mm_Fr g nx v) (.ref b :: As) (g, m) nx) (hS : S = As.reverse ++ .ref b :: rest) (hrest : (rest.map fun v => v.category).sum ≤ 8) (h1 : cells ≤ F.1) (h2 : slots ≤ F.2.1) (kk : ∀ v, f v = some r → mm_G K M (d + 1) F (pc + 3) L (.ref v.1 :: rest) (g, v.2) nx cells slots) : mm_G K M (d + 1) F pc L S (g, m) nx cells slots := by
  cases HE : fn with
  | none => rw [HE] at hr; cases hr
  | some v =>
    rw [HE] at hr
    exact mg_callV (F' := mm_Fr g nx v) hd hw (hc _ HE) hb rfl hS hrest h1 h2 (kk v hr)
theorem mb_cVv {ρ : Type} {Y : mm_M} {fn : Option mm_V} {f : mm_V → Option ρ} {r : ρ} {idx t n b : Nat} {As rest : List Value} (hd : decode M.2.1 pc = .ok (.invokevirtual idx, 3)) (hw : mm_CV M.1.cls idx Y t As.length) (hb : g b = some (t, n)) (hr : fn.bind f = some r) (hc : ∀ v, fn = some v → mm_Cn K Y d (mm_Fv g nx v) (.ref b :: As) (g, m) nx) (hS : S = As.reverse ++ .ref b :: rest) (hrest : (rest.map fun v => v.category).sum ≤ 8) (h1 : cells ≤ F.1) (h2 : slots ≤ F.2.1) (kk : ∀ v, f v = some r → mm_G K M (d + 1) F (pc + 3) L rest (g, v) nx cells slots) : mm_G K M (d + 1) F pc L S (g, m) nx cells slots := by
  cases HE : fn with
  | none => rw [HE] at hr; cases hr
  | some v =>
    rw [HE] at hr
    exact mg_callV (F' := mm_Fv g nx v) hd hw (hc _ HE) hb rfl hS hrest h1 h2 (kk v hr)
theorem mb_cSi {ρ : Type} {Y : mm_M} {fn : Option (Int32 × mm_V)} {f : Int32 × mm_V → Option ρ} {r : ρ} {idx : Nat} {As rest : List Value} (hd : decode M.2.1 pc = .ok (.invokestatic idx, 3)) (hw : mm_CS M.1.cls idx Y As.length) (hr : fn.bind f = some r) (hc : ∀ v, fn = some v → mm_Cn K Y d (mm_Fi g nx v) As (g, m) nx) (hS : S = As.reverse ++ rest) (hrest : (rest.map fun v => v.category).sum ≤ 8) (h1 : cells ≤ F.1) (h2 : slots ≤ F.2.1) (kk : ∀ v, f v = some r → mm_G K M (d + 1) F (pc + 3) L (.int v.1 :: rest) (g, v.2) nx cells slots) : mm_G K M (d + 1) F pc L S (g, m) nx cells slots := by
  cases HE : fn with
  | none => rw [HE] at hr; cases hr
  | some v =>
    rw [HE] at hr
    exact mg_callS (F' := mm_Fi g nx v) hd hw (hc _ HE) rfl hS hrest h1 h2 (kk v hr)
theorem mb_cSl {ρ : Type} {Y : mm_M} {fn : Option (Int64 × mm_V)} {f : Int64 × mm_V → Option ρ} {r : ρ} {idx : Nat} {As rest : List Value} (hd : decode M.2.1 pc = .ok (.invokestatic idx, 3)) (hw : mm_CS M.1.cls idx Y As.length) (hr : fn.bind f = some r) (hc : ∀ v, fn = some v → mm_Cn K Y d (mm_Fl g nx v) As (g, m) nx) (hS : S = As.reverse ++ rest) (hrest : (rest.map fun v => v.category).sum ≤ 8) (h1 : cells ≤ F.1) (h2 : slots ≤ F.2.1) (kk : ∀ v, f v = some r → mm_G K M (d + 1) F (pc + 3) L (.long v.1 :: rest) (g, v.2) nx cells slots) : mm_G K M (d + 1) F pc L S (g, m) nx cells slots := by
  cases HE : fn with
  | none => rw [HE] at hr; cases hr
  | some v =>
    rw [HE] at hr
    exact mg_callS (F' := mm_Fl g nx v) hd hw (hc _ HE) rfl hS hrest h1 h2 (kk v hr)
theorem mb_cSr {ρ : Type} {Y : mm_M} {fn : Option (Nat × mm_V)} {f : Nat × mm_V → Option ρ} {r : ρ} {idx : Nat} {As rest : List Value} (hd : decode M.2.1 pc = .ok (.invokestatic idx, 3)) (hw : mm_CS M.1.cls idx Y As.length) (hr : fn.bind f = some r) (hc : ∀ v, fn = some v → mm_Cn K Y d (mm_Fr g nx v) As (g, m) nx) (hS : S = As.reverse ++ rest) (hrest : (rest.map fun v => v.category).sum ≤ 8) (h1 : cells ≤ F.1) (h2 : slots ≤ F.2.1) (kk : ∀ v, f v = some r → mm_G K M (d + 1) F (pc + 3) L (.ref v.1 :: rest) (g, v.2) nx cells slots) : mm_G K M (d + 1) F pc L S (g, m) nx cells slots := by
  cases HE : fn with
  | none => rw [HE] at hr; cases hr
  | some v =>
    rw [HE] at hr
    exact mg_callS (F' := mm_Fr g nx v) hd hw (hc _ HE) rfl hS hrest h1 h2 (kk v hr)
theorem mb_cSv {ρ : Type} {Y : mm_M} {fn : Option mm_V} {f : mm_V → Option ρ} {r : ρ} {idx : Nat} {As rest : List Value} (hd : decode M.2.1 pc = .ok (.invokestatic idx, 3)) (hw : mm_CS M.1.cls idx Y As.length) (hr : fn.bind f = some r) (hc : ∀ v, fn = some v → mm_Cn K Y d (mm_Fv g nx v) As (g, m) nx) (hS : S = As.reverse ++ rest) (hrest : (rest.map fun v => v.category).sum ≤ 8) (h1 : cells ≤ F.1) (h2 : slots ≤ F.2.1) (kk : ∀ v, f v = some r → mm_G K M (d + 1) F (pc + 3) L rest (g, v) nx cells slots) : mm_G K M (d + 1) F pc L S (g, m) nx cells slots := by
  cases HE : fn with
  | none => rw [HE] at hr; cases hr
  | some v =>
    rw [HE] at hr
    exact mg_callS (F' := mm_Fv g nx v) hd hw (hc _ HE) rfl hS hrest h1 h2 (kk v hr)
end MB
