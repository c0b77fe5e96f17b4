/-! EVENINGS: dealt by seeds and played out, class and model. -/
def evO (rl : Nat → List Int) (N P : Nat) (lw lk x : Int32) : AC × (PS × Int32) × Nat := watR rl (fun i => i) lw lk N (dealF N P x, fun _ => 0, opn N (dealF N P x), zI 0) (dealS P x)
def evA (rl : Nat → List Int) (N P : Nat) (lw lk x : Int32) (A : LA) : LA := poA ((lsr N (evO rl N P lw lk x).2.1.1.1).map (fun i => i)) (evO rl N P lw lk x).2.2 A
def evs (rl : Nat → List Int) (N P : Nat) (lw lk y : Int32) : Nat → Nat → LA → LA
  | 0, _, A => A
  | j + 1, i, A => evs rl N P lw lk y j (i + 1) (evA rl N P lw lk (y + zI i) A)
def mxf (L : Nat → Nat) : Nat → Nat → Nat → Nat
  | 0, _, v => v
  | j + 1, i, v => mxf L j (i + 1) (max v (L i))
def mnf (L : Nat → Nat) : Nat → Nat → Nat → Nat
  | 0, _, v => v
  | j + 1, i, v => mnf L j (i + 1) (min v (L i))
def laB (A : LA) (k : Nat) : Prop := (∀ w, A.1 w ≤ k) ∧ A.2.2 ≤ 200
theorem laB_po {A : LA} {k n : Nat} {w : Option Nat} (h : laB A k) (hn : n ≤ 200) : laB (poA w n A) (k + 1) := by
  cases w with
  | none => exact ⟨fun w => Nat.le_succ_of_le (h.1 w), Nat.max_le.mpr ⟨h.2, hn⟩⟩
  | some v =>
    refine ⟨fun w => ?_, Nat.max_le.mpr ⟨h.2, hn⟩⟩
    show setF A.1 v (A.1 v + 1) w ≤ k + 1
    have a := h.1 w
    have b := h.1 v
    unfold setF; split <;> omega
section EVC
variable {e : mm_E} {z b t u N P : Nat} {rl : Nat → List Int} {lw lk y : Int32}
theorem X11_ev_loop {i5 : Int32} {many : Nat} (hz : e.1 z = some (11, 19)) (hu : outT e.1 u) (hb : gameT e.1 b) (hut : u + 110 ≤ t ∨ t + 19 ≤ u) (hub : u + 110 ≤ b ∨ b + 20 ≤ u) (hbt : t + 19 ≤ b ∨ b + 20 ≤ t) (hzz : (z < u ∨ u + 110 ≤ z) ∧ (z < b ∨ b + 20 ≤ z) ∧ (z < t ∨ t + 19 ≤ z)) (hlk : lk = 0 ∨ lk = 1) (hm : many ≤ 60) (hN : 1000 < e.2.2) : ∀ (j i nn : Nat) (m : mm_V) (A : LA), i + j = many → j < nn → m z 1 = .ref t → m z 9 = .ref b → m z 12 = .ref u → cE e m t N P rl → outS m u → gmW m b → lossR m u A → laB A i → ∃ n1 m', X11_evenings_L82 e z y (zI many) lw lk i5 nn (zI i) m = X11_evenings_L82 e z y (zI many) lw lk i5 (n1 + 1) (zI many) m' ∧ lossR m' u (evs rl N P lw lk y j i A) ∧ laB (evs rl N P lw lk y j i A) many ∧ outS m' u ∧ gmW m' b ∧ (∀ j, j ≠ 5 → j ≠ 6 → m' u j = m u j) ∧ ∀ c, (c < b ∨ b + 20 ≤ c) → (c < u ∨ u + 7 ≤ c) → c ≠ u + 9 → c ≠ t + 6 → m' c = m c := by
  intro j
  induction j with
  | zero =>
    intro i nn m A hi hn r1 r9 r12 E hS hW hA hB
    obtain ⟨nn, rfl⟩ : ∃ n', nn = n' + 1 := ⟨nn - 1, by omega⟩
    have : i = many := by omega
    subst this
    exact ⟨nn, m, rfl, hA, hB, hS, hW, fun _ _ _ => rfl, fun _ _ _ _ _ => rfl⟩
  | succ j ih =>
    intro i nn m A hi hn r1 r9 r12 E hS hW hA hB
    obtain ⟨nn, rfl⟩ : ∃ n', nn = n' + 1 := ⟨nn - 1, by omega⟩
    obtain ⟨tT, tS, t6, t7, tr, tw, h2, h6, hP⟩ := id E
    obtain ⟨t0, f0, x0, w1, w2, w3⟩ := hW
    obtain ⟨m1, a1, a2, a3, a4, a5, a6, a7, a8⟩ := X4_open_eq (e := e) (t := t) (lw := lw) (lk := lk) hb w1 w2 hlk (by omega)
    have o1 : ∀ c, (c < b ∨ b + 20 ≤ c) → m1 c = m c := fun c hc => a8 c (by omega) (by omega) (by omega)
    obtain ⟨m2, b1, b2, b3, b4, b5, b6, b7, b8⟩ := X4_deal_eq (e := e) (P := P) hb tT.1 (by omega) h2 h6 hP a2 a3 (by rw [o1 _ (by omega)]; exact t6) (by rw [o1 _ (by omega)]; exact t7) (y + zI i) (by omega)
    have o2 : ∀ c, (c < b ∨ b + 20 ≤ c) → m2 c = m c := fun c hc => by rw [b8 c (by omega) (by omega) (by omega) (by omega), o1 c hc]
    have G2 : gC m2 b t (fun i => i) lw lk (dealS P (y + zI i)) (dealF N P (y + zI i), fun _ => 0, opn N (dealF N P (y + zI i)), zI 0) := gC.mk (a2.keep (fun j _ => b7 j (by omega) (by omega) (by omega)) (fun c _ _ => b8 c (by omega) (by omega) (by omega) (by omega))) b2 (fun k hk => by rw [b8 _ (by omega) (by omega) (by omega) (by omega)]; exact a4 k hk) b6 (by rw [b7 _ (by omega) (by omega) (by omega)]; exact a5) (by rw [b7 _ (by omega) (by omega) (by omega)]; exact a6) b3 b5 b4
    obtain ⟨m3, c1, c2, c3, c4, c5, c6, c7⟩ := X6_playOut_eq (e := e) (A := A) hu hut hb (by omega) (by omega) (fun i hi => hi) (hS.keep (fun j _ => by rw [o2 _ (by omega)]) (o2 _ (by omega)) (o2 _ (by omega))) (E.keep (fun c _ _ _ => o2 c (by omega))) G2 (okS_opn (by omega) (tabI_deal (by omega) _) _ _) ⟨fun i hi => by rw [o2 _ (by omega)]; exact hA.1 i hi, by rw [o2 _ (by omega)]; exact hA.2.1, by rw [o2 _ (by omega)]; exact hA.2.2⟩ hB.2 hN
    have o3 : ∀ c, (c < b ∨ b + 20 ≤ c) → (c < u ∨ u + 7 ≤ c) → c ≠ u + 9 → c ≠ t + 6 → m3 c = m c := fun c x1 x2 x3 x4 => by rw [c7 c x1 x2 x3 x4, o2 c x1]
    have hz3 : ∀ j, m3 z j = m z j := fun j => by rw [o3 _ (by omega) (by omega) (by omega) (by omega)]
    obtain ⟨n1, m', e1, e2, e3, e4, e5, e6, e7⟩ := ih (i + 1) nn m3 (evA rl N P lw lk (y + zI i) A) (by omega) (by omega) (by rw [hz3]; exact r1) (by rw [hz3]; exact r9) (by rw [hz3]; exact r12) (E.keep (fun c _ _ q => o3 c (by omega) (by omega) (by omega) q)) c3 c4 c2 (laB_po hB c5)
    refine ⟨n1, m', ?_, e2, e3, e4, e5, fun j x1 x2 => by rw [e6 j x1 x2, c6 j x1 x2, o2 _ (by omega)], fun c x1 x2 x3 x4 => by rw [e7 c x1 x2 x3 x4, o3 c x1 x2 x3 x4]⟩
    conv => lhs; unfold X11_evenings_L82
    rw [ien (by omega), rd_gr hz r9, Option.bind_some, rd_gr hz r1, Option.bind_some, if_pos hb.1, a1, Option.bind_some, rd_gr hz (v := b) (by rw [o1 _ (by omega)]; exact r9), Option.bind_some, if_pos hb.1, b1, Option.bind_some, rd_gr hz (v := u) (by rw [o2 _ (by omega)]; exact r12), Option.bind_some, rd_gr hz (v := b) (by rw [o2 _ (by omega)]; exact r9), Option.bind_some, if_pos hu.1, c1, Option.bind_some, show (zI (i : Int) + 1 : Int32) = zI ((i + 1 : Nat) : Int) from zI_add i 1]
    exact e1
theorem X6_losses_eq {m : mm_V} {A : LA} (hu : outT e.1 u) (hS : outS m u) (hA : lossR m u A) {w : Nat} (hw : w < 6) : X6_losses e u (zI w) m = some (zI (A.1 w), m) := by
  unfold X6_losses X6_losses_b20
  simp only [LT]
  rw [iln (by omega), ien (by omega), rd_gr hu.1 hS.2.2.2.2.1, Option.bind_some, rd_ai hu.2.2.2.2.2.1 (i := w) rfl (by omega) (by omega) (hA.1 w hw), Option.bind_some]
theorem J9_min_eq {u v : Nat} (hu : u < 100000) (hv : v < 100000) (m : mm_V) : J9_min_7cf53 e (zI u) (zI v) m = some (zI (min u v : Nat), m) := by
  unfold J9_min_7cf53 J9_min_7cf53_b10
  by_cases h : v < u
  · rw [ilp (by omega), Nat.min_eq_right (by omega)]
  · rw [iln (by omega), Nat.min_eq_left (by omega)]
theorem X6_mbl_loop {m : mm_V} {A : LA} (hu : outT e.1 u) (hS : outS m u) (hA : lossR m u A) (hB : laB A 60) (h6 : N ≤ 6) : ∀ (j i nn a c : Nat), i + j = N → j < nn → a ≤ 60 → c ≤ 60 → X6_mostByLeast_L15 e u (zI N) nn (zI a) (zI c) (zI i) m = some (zI (mxf A.1 j i a) - zI (mnf A.1 j i c), m) := by
  intro j
  induction j with
  | zero =>
    intro i nn a c hi hn ha hc
    obtain ⟨nn, rfl⟩ : ∃ n', nn = n' + 1 := ⟨nn - 1, by omega⟩
    unfold X6_mostByLeast_L15
    rw [iep (by omega)]; rfl
  | succ j ih =>
    intro i nn a c hi hn ha hc
    obtain ⟨nn, rfl⟩ : ∃ n', nn = n' + 1 := ⟨nn - 1, by omega⟩
    have hb := hB.1 i
    unfold X6_mostByLeast_L15
    rw [ien (by omega), X6_losses_eq hu hS hA (by omega), Option.bind_some, J9_max_eq (by omega) (by omega), Option.bind_some, X6_losses_eq hu hS hA (by omega), Option.bind_some, J9_min_eq (by omega) (by omega), Option.bind_some, show (zI (i : Int) + 1 : Int32) = zI ((i + 1 : Nat) : Int) from zI_add i 1]
    exact ih (i + 1) nn _ _ (by omega) (by omega) (by omega) (by omega)
theorem X6_mostByLeast_eq {m : mm_V} {A : LA} (hu : outT e.1 u) (hS : outS m u) (hA : lossR m u A) (hB : laB A 60) (h2 : 2 ≤ N) (h6 : N ≤ 6) (hN : 1000 < e.2.2) : X6_mostByLeast e u (zI N) m = some (zI (mxf A.1 (N - 1) 1 (A.1 0)) - zI (mnf A.1 (N - 1) 1 (A.1 0)), m) := by
  have hb := hB.1 0
  unfold X6_mostByLeast
  rw [show (0 : Int32) = zI ((0 : Nat) : Int) from rfl, X6_losses_eq hu hS hA (by omega), Option.bind_some, X6_losses_eq hu hS hA (by omega), Option.bind_some, show (1 : Int32) = zI ((1 : Nat) : Int) from rfl]
  exact X6_mbl_loop hu hS hA hB h6 (N - 1) 1 e.2.2 _ _ (by omega) (by omega) hb hb
end EVC
