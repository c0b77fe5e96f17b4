/-! BELIEF of the model: all arrangements, place by place. -/
def bK (q k : Nat) (m m' : mm_V) : Prop := (∀ j, j ≠ 66 → j ≠ 67 → m' q j = m q j) ∧ (∀ j, j < k → m' (q + 30) j = m (q + 30) j) ∧ ∀ b, b ≠ q → b ≠ q + 30 → b ≠ q + 31 → b ≠ q + 32 → b ≠ q + 33 → b ≠ q + 34 → m' b = m b
theorem bK.refl (q k : Nat) (m : mm_V) : bK q k m m := ⟨fun _ _ _ => rfl, fun _ _ => rfl, fun _ _ _ _ _ _ _ => rfl⟩
theorem bK.trans {q k : Nat} {m1 m2 m3 : mm_V} (h1 : bK q k m1 m2) (h2 : bK q k m2 m3) : bK q k m1 m3 := ⟨fun j x1 x2 => by rw [h2.1 j x1 x2, h1.1 j x1 x2], fun j x1 => by rw [h2.2.1 j x1, h1.2.1 j x1], fun b x1 x2 x3 x4 x5 x6 => by rw [h2.2.2 b x1 x2 x3 x4 x5 x6, h1.2.2 b x1 x2 x3 x4 x5 x6]⟩
theorem bK.less {q k d : Nat} {m1 m2 : mm_V} (h : bK q k m1 m2) (hd : d ≤ k) : bK q d m1 m2 := ⟨h.1, fun j hj => h.2.1 j (by omega), h.2.2⟩
def bmW (e : mm_E) (q N P : Nat) (rl : Nat → List Int) (H : List QR) (ow : List Nat) (f0 f : Nat → List Nat) (lf : Nat → Nat) (X : BC) (T : Nat) (m : mm_V) : Prop := mE e m q N P rl ∧ rowF m (q + 13) f0 ∧ (∀ k, k < 128 → ∃ x, m (q + 13) k = .int x) ∧ rowF m (q + 14) f ∧ mlogR m q H ∧ spM m q ow ∧ (∀ c, c < 10 → m (q + 31) c = .int (zI (lf c))) ∧ m q 67 = .int (zI T) ∧ bMR m q X
def bcst : Nat → Nat
  | 0 => 1
  | d + 1 => 10 * (1 + bcst d) + 1
def popB (e : mm_E) (q : Nat) (i1 i2 : Int32) (i3 : Int32) (n : Nat) (m : mm_V) : Option (Int32 × mm_V) := if (i3 + (-1)) < 0 then (X12_believes_L179 e q i1 i2 n (i3 + (-1)) m) else ((mm_gr e.1 m 12 75 q 62).bind fun c22 => (mm_gr e.1 m 12 75 q 61).bind fun c23 => (mm_ai e.1 m 20 c23 (i3 + (-1))).bind fun x24 => (mm_ai e.1 m 20 c22 x24).bind fun x25 => (mm_si e.1 m c22 x24 (x25 + (1 : Int32))).bind fun m26 => X12_believes_L179 e q i1 i2 n (i3 + (-1)) m26)
def beP (o : Option (BC × Nat)) (W : BC → Nat → mm_V → Prop) (q k nn c : Nat) (m : mm_V) (G : Nat → mm_V → Option (Int32 × mm_V)) (x : Option (Int32 × mm_V)) : Prop := match o with
  | some Y => Y.2 ≤ 20000 ∧ ∃ n2 m', nn ≤ n2 + c ∧ x = G n2 m' ∧ W Y.1 Y.2 m' ∧ bK q k m m'
  | none => ∃ m', x = some (zI 0, m') ∧ bK q 0 m m'
theorem itF_skip {α : Type} {F : Nat → α → Option α} : ∀ (j c : Nat) (Y : α), (∀ i, c ≤ i → i < c + j → ∀ Z, F i Z = some Z) → itF F j c Y = some Y
  | 0, _, _, _ => rfl
  | j + 1, c, Y, h => by
    rw [itF, h c (by omega) (by omega), Option.bind_some]
    exact itF_skip j (c + 1) Y (fun i x1 x2 => h i (by omega) (by omega))
theorem count_split (ow : List Nat) (k o : Nat) : (ow.take k).count o + (ow.drop k).count o = ow.count o := by
  rw [← List.count_append, List.take_append_drop]
theorem hsI_push {ow : List Nat} {p k c : Nat} {f0 g : Nat → List Nat} {hs : Nat → Nat} (h : hsI ow p f0 k hs g) (hop : gO ow k ≠ p) (hl : (g (gO ow k)).length = (ow.take k).count (gO ow k)) : hsI ow p f0 (k + 1) (setF hs k c) (setF g (gO ow k) (g (gO ow k) ++ [c])) := by
  generalize hO : gO ow k = o at hop hl
  refine ⟨fun j hj => ?_, fun o' ho' n c' hc => ?_, by rw [setF_ne _ _ (fun hh => hop hh.symm)]; exact h.2.2⟩
  · by_cases hjk : j = k
    · subst hjk
      rw [hO, setF_at, setF_at, ← hl, List.getElem?_append_right (Nat.le_refl _), Nat.sub_self]
      rfl
    · have i2 := h.1 j (by omega)
      rw [setF_ne _ _ hjk]
      by_cases hjo : gO ow j = o
      · rw [hjo] at i2 ⊢
        rw [setF_at, List.getElem?_append_left (List.getElem?_eq_some_iff.mp i2).1]
        exact i2
      · rw [setF_ne _ _ hjo]; exact i2
  · by_cases hoo : o' = o
    · subst hoo
      rw [setF_at] at hc
      by_cases hn : n < (g o').length
      · rw [List.getElem?_append_left hn] at hc
        obtain ⟨j, a1, a2, a3, a4⟩ := h.2.1 o' ho' n c' hc
        exact ⟨j, by omega, a2, a3, by rw [setF_ne _ _ (by omega)]; exact a4⟩
      · have hb := (List.getElem?_eq_some_iff.mp hc).1
        rw [List.length_append, List.length_singleton] at hb
        have hn' : n = (g o').length := by omega
        subst hn'
        rw [List.getElem?_append_right (Nat.le_refl _), Nat.sub_self] at hc
        cases hc
        exact ⟨k, by omega, hO, hl.symm, by rw [setF_at]⟩
    · rw [setF_ne _ _ hoo] at hc
      obtain ⟨j, a1, a2, a3, a4⟩ := h.2.1 o' ho' n c' hc
      exact ⟨j, by omega, a2, a3, by rw [setF_ne _ _ (by omega)]; exact a4⟩
theorem hsI_there {ow : List Nat} {p k c : Nat} {f0 g : Nat → List Nat} {hs : Nat → Nat} (h : hsI ow p f0 k hs g) (hop : gO ow k ≠ p) : (idx c (g (gO ow k))).isSome = true ↔ ∃ j, j < k ∧ gO ow j = gO ow k ∧ hs j = c := by
  constructor
  · intro hh
    obtain ⟨n, hn⟩ := Option.isSome_iff_exists.mp hh
    obtain ⟨j, a1, a2, a3, a4⟩ := h.2.1 _ hop n c (idx_lt hn)
    exact ⟨j, a1, a2, a4⟩
  · rintro ⟨j, a1, a2, a3⟩
    have i2 := h.1 j a1
    rw [a2, a3] at i2
    cases hi : idx c (g (gO ow k)) with
    | none => exact absurd (List.mem_of_getElem? i2) (idx_mem.mp hi)
    | some n => rfl
section BELV
variable {e : mm_E} {q N P p : Nat} {H : List QR} {R : List PR} {ow : List Nat} {f0 f : Nat → List Nat} {rl : Nat → List Int}
theorem X12_there_loop (hT : modT e.1 q) {m : mm_V} {hs : Nat → Nat} {k c : Nat} (hS : modS m q) (hM : spM m q ow) (hk : k < ow.length) (how : ow.length ≤ 19) (ho6 : ∀ j, j < ow.length → gO ow j < 6) (hh : ∀ j, j < k → m (q + 30) j = .int (zI (hs j))) (hsb : ∀ j, j < k → hs j < 1000) (hc : m (q + 30) k = .int (zI c)) (hcb : c < 1000) : ∀ (j i nn : Nat) (B : Bool), i + j = k → j < nn → (B = true ↔ ∃ j', i ≤ j' ∧ j' < k ∧ gO ow j' = gO ow k ∧ hs j' = c) → X12_isThere_L2 e q (zI k) nn (zI i) m = some (bZ B, m) := by
  intro j
  induction j with
  | zero =>
    intro i nn B hi hn hB
    obtain ⟨nn, rfl⟩ : ∃ n', nn = n' + 1 := ⟨nn - 1, by omega⟩
    have : B = false := by
      cases B with
      | false => rfl
      | true => obtain ⟨j', a, b, -⟩ := hB.mp rfl; omega
    subst this
    rw [X12_isThere_L2, iep (by omega)]; rfl
  | succ j ih =>
    intro i nn B hi hn hB
    obtain ⟨nn, rfl⟩ : ∃ n', nn = n' + 1 := ⟨nn - 1, by omega⟩
    have o1 := ho6 i (by omega)
    have o2 := ho6 k hk
    have hb := hsb i (by omega)
    rw [X12_isThere_L2]
    unfold X12_isThere_b39
    rw [ien (by omega), rd_gr hT.me hS.spotOf_, Option.bind_some, rd_ai hT.spotOf_ (i := i) rfl (by omega) (by omega) (hM i (by omega)).1, Option.bind_some, Option.bind_some, rd_ai hT.spotOf_ (i := k) rfl (by omega) (by omega) (hM k hk).1, Option.bind_some]
    by_cases h1 : gO ow i = gO ow k
    · rw [inn (by omega), rd_gr hT.me hS.holds_, Option.bind_some, rd_ai hT.holds_ (i := i) rfl (by omega) (by omega) (hh i (by omega)), Option.bind_some, Option.bind_some, rd_ai hT.holds_ (i := k) rfl (by omega) (by omega) hc, Option.bind_some]
      by_cases h2 : hs i = c
      · rw [inn (by omega)]
        have : B = true := hB.mpr ⟨i, Nat.le_refl _, by omega, h1, h2⟩
        rw [this]; rfl
      · rw [inp (by omega), show (zI (i : Int) + 1 : Int32) = zI ((i + 1 : Nat) : Int) from zI_add _ 1]
        refine ih (i + 1) nn B (by omega) (by omega) (hB.trans ⟨?_, ?_⟩)
        · rintro ⟨j', a, b, c1, d⟩
          exact ⟨j', by have : j' ≠ i := fun hh => h2 (hh ▸ d); omega, b, c1, d⟩
        · rintro ⟨j', a, b, c1, d⟩; exact ⟨j', by omega, b, c1, d⟩
    · rw [inp (by omega), show (zI (i : Int) + 1 : Int32) = zI ((i + 1 : Nat) : Int) from zI_add _ 1]
      refine ih (i + 1) nn B (by omega) (by omega) (hB.trans ⟨?_, ?_⟩)
      · rintro ⟨j', a, b, c1, d⟩
        exact ⟨j', by have : j' ≠ i := fun hh => h1 (hh ▸ c1); omega, b, c1, d⟩
      · rintro ⟨j', a, b, c1, d⟩; exact ⟨j', by omega, b, c1, d⟩
theorem bmW.keep {lf : Nat → Nat} {X : BC} {T : Nat} {m m' : mm_V} (h : bmW e q N P rl H ow f0 f lf X T m) (h1 : ∀ j, j ≠ 67 → m' q j = m q j) (h2 : ∀ b, b ≠ q → b ≠ q + 30 → b ≠ q + 31 → b ≠ q + 32 → m' b = m b) {lf' : Nat → Nat} {T' : Nat} (h3 : ∀ c, c < 10 → m' (q + 31) c = .int (zI (lf' c))) (h4 : m' q 67 = .int (zI T')) : bmW e q N P rl H ow f0 f lf' X T' m' := by
  obtain ⟨E, r13, i13, r14, L, S, l, t, X⟩ := h
  have bb : ∀ b, b ≠ q → b ≠ q + 30 → b ≠ q + 31 → b ≠ q + 32 → m' b = m b := h2
  refine ⟨E.keep' (L := [67]) (by decide) (fun j hj => h1 j (by simpa using hj)) (bb _ (by omega) (by omega) (by omega) (by omega)) (bb _ (by omega) (by omega) (by omega) (by omega)), r13.keep' (bb _ (by omega) (by omega) (by omega) (by omega)), fun k hk => by rw [bb _ (by omega) (by omega) (by omega) (by omega)]; exact i13 k hk, r14.keep' (bb _ (by omega) (by omega) (by omega) (by omega)), L.keep (h1 _ (by omega)) (bb _ (by omega) (by omega) (by omega) (by omega)), fun j hj => by rw [bb _ (by omega) (by omega) (by omega) (by omega), bb _ (by omega) (by omega) (by omega) (by omega)]; exact S j hj, h3, h4, ⟨by rw [h1 _ (by omega)]; exact X.1, fun i hi => by rw [bb _ (by omega) (by omega) (by omega) (by omega)]; exact X.2.1 i hi, fun i hi => by rw [bb _ (by omega) (by omega) (by omega) (by omega)]; exact X.2.2 i hi⟩⟩
theorem X12_believes_node (hH : hisD H R) (hp : p < N) (hP9 : P ≤ 9) (how : ow.length ≤ 19) (ho6 : ∀ j, j < ow.length → gO ow j < 6) (hop : ∀ j, j < ow.length → gO ow j ≠ p) (hcn : ∀ j, j < ow.length → ow.count (gO ow j) = (f0 (gO ow j)).length) (hz : szH N R (lenF f0)) (hN : 1000 < e.2.2) : ∀ (d k nn : Nat) (m : mm_V) (g : Nat → List Nat) (lf hs : Nat → Nat) (X : BC) (T : Nat), bcst d ≤ nn → arI N P p f0 ow d k g lf → hsI ow p f0 k hs g → (∀ j, j < k → hs j < 10) → bmW e q N P rl H ow f0 f lf X T m → (∀ j, j < k → m (q + 30) j = .int (zI (hs j))) → (d ≠ 0 → m (q + 30) k = .int (zI (-1))) → T ≤ 20000 → beP (trA ow (leafB N p (if hasC f p then nxt N f p else none) R) d k g lf (X, T)) (bmW e q N P rl H ow f0 f lf) q k nn (bcst d) m (popB e q (zI p) (zI ow.length) (zI k)) (X12_believes_L179 e q (zI p) (zI ow.length) nn (zI k) m) := by
  intro d
  induction d with
  | zero =>
    intro k nn m g lf hs X T hc hA hI hsb hB hh hm1 hT2
    obtain ⟨nn, rfl⟩ : ∃ n', nn = n' + 1 := ⟨nn - 1, by unfold bcst at hc; omega⟩
    obtain ⟨E, r13, i13, r14, L, S, l, t, hX⟩ := id hB
    have hk : k = ow.length := by have := hA.1; omega
    obtain ⟨htab, hlen⟩ := hA.leaf
    rw [hk] at hI hh
    obtain ⟨m', a1, a2, a3, a4⟩ := X12_counts_eq (e := e) (f := f) E hH hp how hI ho6 htab hlen hz r13 i13 r14 L S hh hX hN
    rw [trA]
    refine ⟨hT2, nn, m', by unfold bcst; omega, ?_, ?_, ⟨fun j x1 _ => a3 j x1, fun j hj => by rw [a4 _ (by omega) (by omega) (by omega) (by omega)], fun b x1 x2 x3 x4 x5 x6 => a4 b x1 x4 x5 x6⟩⟩
    · rw [X12_believes_L179, show (0 : Int32) = zI 0 from rfl, iln (by omega), hk, inn (by omega), a1, Option.bind_some]
      rfl
    · have bb : ∀ b, b ≠ q → b ≠ q + 32 → b ≠ q + 33 → b ≠ q + 34 → m' b = m b := a4
      exact ⟨E.keep' (L := [66]) (by decide) (fun j hj => a3 j (by simpa using hj)) (bb _ (by omega) (by omega) (by omega) (by omega)) (bb _ (by omega) (by omega) (by omega) (by omega)), r13.keep' (bb _ (by omega) (by omega) (by omega) (by omega)), fun k hk => by rw [bb _ (by omega) (by omega) (by omega) (by omega)]; exact i13 k hk, r14.keep' (bb _ (by omega) (by omega) (by omega) (by omega)), L.keep (a3 _ (by omega)) (bb _ (by omega) (by omega) (by omega) (by omega)), fun j hj => by rw [bb _ (by omega) (by omega) (by omega) (by omega), bb _ (by omega) (by omega) (by omega) (by omega)]; exact S j hj, fun c hc => by rw [bb _ (by omega) (by omega) (by omega) (by omega)]; exact l c hc, by rw [a3 _ (by omega)]; exact t, a2⟩
  | succ d ih =>
    intro k nn m g lf hs X T hc hA hI hsb hB hh hm1 hT2
    have hkd := hA.1
    have hk : k < ow.length := by omega
    have o6 := ho6 k hk
    have onp := hop k hk
    have ocn := hcn k hk
    have hlen := hA.2.2.2.2.2.2.2.1 (gO ow k)
    have hsp := count_split ow k (gO ow k)
    have hl : (g (gO ow k)).length = (ow.take k).count (gO ow k) := by omega
    have hbc : bcst (d + 1) = 10 * (1 + bcst d) + 1 := rfl
    have hlf : ∀ c, P < c → lf c = 0 := fun c hc => by
      by_cases h0 : lf c = 0
      · exact h0
      · have := hA.2.2.2.2.1 c h0; omega
    have hlfb : ∀ c, c < 10 → lf c ≤ 19 := fun c hc => by have := sumL_le lf 10 c hc; have := hA.2.2.2.2.2.1; omega
    rw [trA]
    generalize hF : (fun c (Y : BC × Nat) => if lf c = 0 then some Y else if 20000 ≤ Y.2 then none else if (idx c (g (gO ow k))).isSome = true then some (Y.1, Y.2 + 1) else trA ow (leafB N p (if hasC f p then nxt N f p else none) R) d (k + 1) (setF g (gO ow k) (g (gO ow k) ++ [c])) (setF lf c (lf c - 1)) (Y.1, Y.2 + 1)) = F
    have loop : ∀ (j c nn : Nat) (m : mm_V) (X : BC) (T : Nat), c + j = P + 1 → j * (1 + bcst d) + 1 ≤ nn → bmW e q N P rl H ow f0 f lf X T m → (∀ j, j < k → m (q + 30) j = .int (zI (hs j))) → m (q + 30) k = .int (zI ((c : Int) - 1)) → T ≤ 20000 → beP (itF F (j + (9 - P)) c (X, T)) (bmW e q N P rl H ow f0 f lf) q k nn (j * (1 + bcst d) + 1) m (popB e q (zI p) (zI ow.length) (zI k)) (X12_believes_L179 e q (zI p) (zI ow.length) nn (zI k) m) := by
      intro j
      induction j with
      | zero =>
        intro c nn m X T hcj hc hB hh hm hT2
        obtain ⟨nn, rfl⟩ : ∃ n', nn = n' + 1 := ⟨nn - 1, by omega⟩
        obtain ⟨E, r13, i13, r14, L, S, l, t, hX⟩ := id hB
        obtain ⟨hT, hS, h1, h2, -⟩ := id E
        rw [itF_skip _ _ _ (fun i x1 x2 Z => by rw [← hF]; simp only; rw [if_pos (hlf i (by omega))])]
        generalize hm3 : mm_up m (q + 30) k (.int (zI c)) = m3
        have r3 : ∀ b, b ≠ q + 30 → m3 b = m b := fun b h => by rw [← hm3, up_row _ _ _ h]
        refine ⟨hT2, nn, m3, by omega, ?_, hB.keep (fun j _ => by rw [r3 _ (by omega)]) (fun b _ x2 _ _ => r3 b x2) (fun c hc => by rw [r3 _ (by omega)]; exact l c hc) (by rw [r3 _ (by omega)]; exact t), ⟨fun j _ _ => by rw [r3 _ (by omega)], fun j hj => by rw [← hm3, up_ne _ _ (Or.inr (by omega))], fun b _ x2 _ _ _ _ => r3 b x2⟩⟩
        rw [X12_believes_L179]
        simp only [LT]
        rw [iln (by omega), inp (by omega), rd_gr hT.me hS.holds_, Option.bind_some, rd_ai hT.holds_ (i := k) rfl (by omega) (by omega) hm, Option.bind_some, zI_add, show ((c : Int) - 1 + 1) = (c : Int) by omega, wr_si hT.holds_ (i := k) rfl (by omega) (by omega), Option.bind_some, hm3, rd_gr hT.me (v := q + 30) (by rw [r3 _ (by omega)]; exact hS.holds_), Option.bind_some, rd_ai hT.holds_ (i := k) rfl (by omega) (by omega) (v := zI c) (by rw [← hm3, up_at]), Option.bind_some, rd_gi hT.me (v := zI P) (by rw [r3 _ (by omega)]; exact h2), Option.bind_some, ien (by omega)]
        unfold popB
        simp only [LT]
        rw [rd_gr (k := 61) hT.me (v := q + 30) (by rw [r3 _ (by omega)]; exact hS.holds_)]
      | succ j ihj =>
        intro c nn m X T hcj hc hB hh hm hT2
        have hmul : (j + 1) * (1 + bcst d) = j * (1 + bcst d) + (1 + bcst d) := Nat.succ_mul _ _
        obtain ⟨nn, rfl⟩ : ∃ n', nn = n' + 1 := ⟨nn - 1, by omega⟩
        obtain ⟨E, r13, i13, r14, L, S, l, t, hX⟩ := id hB
        obtain ⟨hT, hS, h1, h2, -⟩ := id E
        have hc10 : c < 10 := by omega
        have hlc := hlfb c hc10
        generalize hm3 : mm_up m (q + 30) k (.int (zI c)) = m3
        have r3 : ∀ b, b ≠ q + 30 → m3 b = m b := fun b h => by rw [← hm3, up_row _ _ _ h]
        have p3 : ∀ j, j < k → m3 (q + 30) j = m (q + 30) j := fun j hj => by rw [← hm3, up_ne _ _ (Or.inr (by omega))]
        have v3 : m3 (q + 30) k = .int (zI c) := by rw [← hm3, up_at]
        have S3 : modS m3 q := hS.keep (fun _ _ _ => by rw [r3 _ (by omega)])
        have B3 : bmW e q N P rl H ow f0 f lf X T m3 := hB.keep (fun j _ => by rw [r3 _ (by omega)]) (fun b _ x2 _ _ => r3 b x2) (fun c hc => by rw [r3 _ (by omega)]; exact l c hc) (by rw [r3 _ (by omega)]; exact t)
        have K3 : bK q k m m3 := ⟨fun j _ _ => by rw [r3 _ (by omega)], p3, fun b _ x2 _ _ _ _ => r3 b x2⟩
        have go1 : ∀ y, (if ¬ zI (lf c) = zI 0 then ((mm_gi e.1 m3 12 75 q 67).bind fun x11 => if ¬ x11 = zI 20000 then ((mm_gi e.1 m3 12 75 q 67).bind fun x12 => (mm_pf e.1 m3 12 75 q 67 (.int (x12 + zI 1))).bind fun m13 => (X12_isThere e q (zI k) m13).bind fun r14 => if r14.1 = zI 0 then ((mm_gr e.1 r14.2 12 75 q 62).bind fun c15 => (mm_gr e.1 r14.2 12 75 q 61).bind fun c16 => (mm_ai e.1 r14.2 20 c16 (zI k)).bind fun x17 => (mm_ai e.1 r14.2 20 c15 x17).bind fun x18 => (mm_si e.1 r14.2 c15 x17 (x18 - zI 1)).bind fun m19 => if zI ow.length ≤ (zI k + zI 1) then (X12_believes_L179 e q (zI p) (zI ow.length) nn (zI k + zI 1) m19) else ((mm_gr e.1 m19 12 75 q 61).bind fun c20 => (mm_si e.1 m19 c20 (zI k + zI 1) (-zI 1)).bind fun m21 => X12_believes_L179 e q (zI p) (zI ow.length) nn (zI k + zI 1) m21)) else (X12_believes_L179 e q (zI p) (zI ow.length) nn (zI k) r14.2)) else (mm_rz (zI 0) m3)) else (X12_believes_L179 e q (zI p) (zI ow.length) nn (zI k) m3)) = y → X12_believes_L179 e q (zI p) (zI ow.length) (nn + 1) (zI k) m = y := by
          intro y hy
          rw [X12_believes_L179]
          simp only [LT]
          rw [iln (by omega), inp (by omega), rd_gr hT.me hS.holds_, Option.bind_some, rd_ai hT.holds_ (i := k) rfl (by omega) (by omega) hm, Option.bind_some, zI_add, show ((c : Int) - 1 + 1) = (c : Int) by omega, wr_si hT.holds_ (i := k) rfl (by omega) (by omega), Option.bind_some, hm3, rd_gr hT.me S3.holds_, Option.bind_some, rd_ai hT.holds_ (i := k) rfl (by omega) (by omega) v3, Option.bind_some, rd_gi hT.me (v := zI P) (by rw [r3 _ (by omega)]; exact h2), Option.bind_some, iep (by omega), rd_gr hT.me S3.over_, Option.bind_some, Option.bind_some, rd_ai hT.holds_ (i := k) rfl (by omega) (by omega) v3, Option.bind_some, rd_ai hT.over_ (i := c) rfl (by omega) (by omega) (v := zI (lf c)) (by rw [r3 _ (by omega)]; exact l c hc10), Option.bind_some]
          exact hy
        have cont : ∀ (X' : BC) (T' n' : Nat) (m' : mm_V), nn ≤ n' + bcst d → bmW e q N P rl H ow f0 f lf X' T' m' → bK q k m m' → m' (q + 30) k = .int (zI c) → T' ≤ 20000 → beP (itF F (j + (9 - P)) (c + 1) (X', T')) (bmW e q N P rl H ow f0 f lf) q k (nn + 1) ((j + 1) * (1 + bcst d) + 1) m (popB e q (zI p) (zI ow.length) (zI k)) (X12_believes_L179 e q (zI p) (zI ow.length) n' (zI k) m') := by
          intro X' T' n' m' hn' hB' hK' hm' hT'
          have nxtS := ihj (c + 1) n' m' X' T' (by omega) (by omega) hB' (fun j hj => by rw [hK'.2.1 j hj]; exact hh j hj) (by rw [hm', show (((c + 1 : Nat) : Int) - 1) = (c : Int) by omega]) hT'
          cases hi : itF F (j + (9 - P)) (c + 1) (X', T') with
          | none =>
            rw [hi] at nxtS
            obtain ⟨m2, g1, g2⟩ := nxtS
            exact ⟨m2, g1, (hK'.less (Nat.zero_le _)).trans g2⟩
          | some Y =>
            rw [hi] at nxtS
            obtain ⟨g0, n3, m2, g1, g2, g3, g4⟩ := nxtS
            exact ⟨g0, n3, m2, by omega, g2, g3, hK'.trans g4⟩
        rw [show j + 1 + (9 - P) = (j + (9 - P)) + 1 by omega, itF]
        have hFc : F c (X, T) = if lf c = 0 then some (X, T) else if 20000 ≤ T then none else if (idx c (g (gO ow k))).isSome = true then some (X, T + 1) else trA ow (leafB N p (if hasC f p then nxt N f p else none) R) d (k + 1) (setF g (gO ow k) (g (gO ow k) ++ [c])) (setF lf c (lf c - 1)) (X, T + 1) := by rw [← hF]
        rw [hFc]
        by_cases h0 : lf c = 0
        · rw [if_pos h0, Option.bind_some, go1 _ rfl, inn (by omega)]
          exact cont X T nn m3 (by omega) B3 K3 v3 hT2
        · rw [if_neg h0]
          by_cases h20 : 20000 ≤ T
          · rw [if_pos h20]
            refine ⟨m3, go1 _ ?_, K3.less (Nat.zero_le _)⟩
            rw [inp (by omega), rd_gi hT.me (v := zI T) (by rw [r3 _ (by omega)]; exact t), Option.bind_some, inn (by omega)]; rfl
          · rw [if_neg h20]
            generalize hm4 : mm_up m3 q 67 (.int (zI (T + 1 : Nat))) = m4
            have r4 : ∀ b, b ≠ q → m4 b = m3 b := fun b h => by rw [← hm4, up_row _ _ _ h]
            have q4 : ∀ j, j ≠ 67 → m4 q j = m3 q j := fun j h => by rw [← hm4, up_ne _ _ (Or.inr h)]
            have S4 : modS m4 q := S3.keep (fun i x1 x2 => q4 _ (mfld_ne 67 (by decide) i x1 x2))
            have B4 : bmW e q N P rl H ow f0 f lf X (T + 1) m4 := B3.keep q4 (fun b x1 _ _ _ => r4 b x1) (fun c hc => by rw [r4 _ (by omega)]; exact B3.2.2.2.2.2.2.1 c hc) (by rw [← hm4, up_at])
            have K4 : bK q k m m4 := K3.trans ⟨fun j _ x2 => q4 j x2, fun j hj => by rw [r4 _ (by omega)], fun b x1 _ _ _ _ _ => r4 b x1⟩
            have v4 : m4 (q + 30) k = .int (zI c) := by rw [r4 _ (by omega)]; exact v3
            have th := X12_there_loop (e := e) (ow := ow) (hs := hs) (c := c) hT S4 B4.2.2.2.2.2.1 hk how ho6 (fun j hj => by rw [r4 _ (by omega), p3 j hj]; exact hh j hj) (fun j hj => by have := hsb j hj; omega) v4 (by omega) k 0 e.2.2 (idx c (g (gO ow k))).isSome (by omega) (by omega) ((hsI_there hI onp).trans ⟨fun ⟨j, a, b⟩ => ⟨j, by omega, a, b⟩, fun ⟨j, _, a, b⟩ => ⟨j, a, b⟩⟩)
            have go2 : ∀ y, (if bZ (idx c (g (gO ow k))).isSome = zI 0 then ((mm_gr e.1 m4 12 75 q 62).bind fun c15 => (mm_gr e.1 m4 12 75 q 61).bind fun c16 => (mm_ai e.1 m4 20 c16 (zI k)).bind fun x17 => (mm_ai e.1 m4 20 c15 x17).bind fun x18 => (mm_si e.1 m4 c15 x17 (x18 - zI 1)).bind fun m19 => if zI ow.length ≤ (zI k + zI 1) then (X12_believes_L179 e q (zI p) (zI ow.length) nn (zI k + zI 1) m19) else ((mm_gr e.1 m19 12 75 q 61).bind fun c20 => (mm_si e.1 m19 c20 (zI k + zI 1) (-zI 1)).bind fun m21 => X12_believes_L179 e q (zI p) (zI ow.length) nn (zI k + zI 1) m21)) else (X12_believes_L179 e q (zI p) (zI ow.length) nn (zI k) m4)) = y → X12_believes_L179 e q (zI p) (zI ow.length) (nn + 1) (zI k) m = y := by
              intro y hy
              refine go1 _ ?_
              rw [inp (by omega), rd_gi hT.me (v := zI T) (by rw [r3 _ (by omega)]; exact t), Option.bind_some, inp (by omega), Option.bind_some, show (zI (T : Int) + zI 1 : Int32) = zI ((T + 1 : Nat) : Int) from zI_add _ _, wr_pf hT.me, Option.bind_some, hm4]
              unfold X12_isThere
              rw [show (0 : Int32) = zI ((0 : Nat) : Int) from rfl, th, Option.bind_some]
              exact hy
            by_cases hsm : (idx c (g (gO ow k))).isSome = true
            · rw [if_pos hsm, Option.bind_some, go2 _ rfl, hsm]
              rw [show bZ true = zI 1 from rfl, iqn (by omega)]
              exact cont X (T + 1) nn m4 (by omega) B4 K4 v4 (by omega)
            · have hsf : (idx c (g (gO ow k))).isSome = false := by simpa using hsm
              rw [if_neg hsm]
              generalize hm5 : mm_up m4 (q + 31) c (.int (zI (lf c - 1 : Nat))) = m5
              have r5 : ∀ b, b ≠ q + 31 → m5 b = m4 b := fun b h => by rw [← hm5, up_row _ _ _ h]
              have S5 : modS m5 q := S4.keep (fun _ _ _ => by rw [r5 _ (by omega)])
              have l5 : ∀ i, i < 10 → m5 (q + 31) i = .int (zI (setF lf c (lf c - 1) i : Nat)) := fun i hi => by
                rw [← hm5]
                by_cases hic : i = c
                · rw [hic, up_at, setF_at]
                · rw [up_ne _ _ (Or.inr hic), setF_ne _ _ hic]; exact B4.2.2.2.2.2.2.1 i hi
              have B5 : bmW e q N P rl H ow f0 f (setF lf c (lf c - 1)) X (T + 1) m5 := B4.keep (fun j _ => by rw [r5 _ (by omega)]) (fun b _ _ x3 _ => r5 b x3) l5 (by rw [r5 _ (by omega)]; exact B4.2.2.2.2.2.2.2.1)
              have K5 : bK q k m m5 := K4.trans ⟨fun j _ _ => by rw [r5 _ (by omega)], fun j _ => by rw [r5 _ (by omega)], fun b _ _ x3 _ _ _ => r5 b x3⟩
              -- the child
              obtain ⟨m6, hgo, v6, p6, B6, K6, w6⟩ : ∃ m6, X12_believes_L179 e q (zI p) (zI ow.length) (nn + 1) (zI k) m = X12_believes_L179 e q (zI p) (zI ow.length) nn (zI (k + 1 : Nat)) m6 ∧ m6 (q + 30) k = .int (zI c) ∧ (∀ j, j < k → m6 (q + 30) j = .int (zI (hs j))) ∧ bmW e q N P rl H ow f0 f (setF lf c (lf c - 1)) X (T + 1) m6 ∧ bK q k m m6 ∧ (d ≠ 0 → m6 (q + 30) (k + 1) = .int (zI (-1))) := by
                have pre : ∀ y, (if zI ow.length ≤ zI (k + 1 : Nat) then (X12_believes_L179 e q (zI p) (zI ow.length) nn (zI (k + 1 : Nat)) m5) else ((mm_gr e.1 m5 12 75 q 61).bind fun c20 => (mm_si e.1 m5 c20 (zI (k + 1 : Nat)) (-zI 1)).bind fun m21 => X12_believes_L179 e q (zI p) (zI ow.length) nn (zI (k + 1 : Nat)) m21)) = y → X12_believes_L179 e q (zI p) (zI ow.length) (nn + 1) (zI k) m = y := by
                  intro y hy
                  refine go2 _ ?_
                  rw [hsf, show bZ false = zI 0 from rfl, iqp (by omega), rd_gr hT.me S4.over_, Option.bind_some, rd_gr hT.me S4.holds_, Option.bind_some, rd_ai hT.holds_ (i := k) rfl (by omega) (by omega) v4, Option.bind_some, rd_ai hT.over_ (i := c) rfl (by omega) (by omega) (B4.2.2.2.2.2.2.1 c hc10), Option.bind_some, show (zI (lf c : Int) - zI 1 : Int32) = zI ((lf c - 1 : Nat) : Int) by rw [zI_sub]; congr 1; omega, wr_si hT.over_ (i := c) rfl (by omega) (by omega), Option.bind_some, hm5, show (zI (k : Int) + zI 1 : Int32) = zI ((k + 1 : Nat) : Int) from zI_add _ _]
                  exact hy
                have v5 : m5 (q + 30) k = .int (zI c) := by rw [r5 _ (by omega)]; exact v4
                have p5 : ∀ j, j < k → m5 (q + 30) j = .int (zI (hs j)) := fun j hj => by rw [r5 _ (by omega), r4 _ (by omega), p3 j hj]; exact hh j hj
                by_cases hd0 : d = 0
                · refine ⟨m5, pre _ ?_, v5, p5, B5, K5, fun h => absurd hd0 h⟩
                  rw [iep (by omega)]
                · generalize hm6 : mm_up m5 (q + 30) (k + 1) (.int (zI (-1))) = m6
                  have r6 : ∀ b, b ≠ q + 30 → m6 b = m5 b := fun b h => by rw [← hm6, up_row _ _ _ h]
                  refine ⟨m6, pre _ ?_, by rw [← hm6, up_ne _ _ (Or.inr (by omega))]; exact v5, fun j hj => by rw [← hm6, up_ne _ _ (Or.inr (by omega))]; exact p5 j hj, B5.keep (fun j _ => by rw [r6 _ (by omega)]) (fun b _ x2 _ _ => r6 b x2) (fun i hi => by rw [r6 _ (by omega)]; exact l5 i hi) (by rw [r6 _ (by omega)]; exact B5.2.2.2.2.2.2.2.1), K5.trans ⟨fun j _ _ => by rw [r6 _ (by omega)], fun j hj => by rw [← hm6, up_ne _ _ (Or.inr (by omega))], fun b _ x2 _ _ _ _ => r6 b x2⟩, fun _ => by rw [← hm6, up_at]⟩
                  rw [ien (by omega), rd_gr hT.me S5.holds_, Option.bind_some, zI_neg, wr_si hT.holds_ (i := k + 1) rfl (by omega) (by omega), Option.bind_some, hm6]
              have hA2 := hA.next hP9 h0 hsf
              have child := ih (k + 1) nn m6 (setF g (gO ow k) (g (gO ow k) ++ [c])) (setF lf c (lf c - 1)) (setF hs k c) X (T + 1) (by omega) hA2 (hsI_push hI onp hl) (fun j hj => by
                by_cases hjk : j = k
                · rw [hjk, setF_at]; exact hc10
                · rw [setF_ne _ _ hjk]; exact hsb j (by omega)) B6 (fun j hj => by
                by_cases hjk : j = k
                · rw [hjk, setF_at]; exact v6
                · rw [setF_ne _ _ hjk]; exact p6 j (by omega)) w6 (by omega)
              rw [hgo]
              cases hr : trA ow (leafB N p (if hasC f p then nxt N f p else none) R) d (k + 1) (setF g (gO ow k) (g (gO ow k) ++ [c])) (setF lf c (lf c - 1)) (X, T + 1) with
              | none =>
                rw [hr] at child
                obtain ⟨m', f1, f2⟩ := child
                exact ⟨m', f1, (K6.less (Nat.zero_le _)).trans f2⟩
              | some Y =>
                rw [hr] at child
                obtain ⟨f0', n2, m7, f1, f2, f3, f4⟩ := child
                rw [f2]
                generalize hm8 : mm_up m7 (q + 31) c (.int (zI (lf c))) = m8
                have r8 : ∀ b, b ≠ q + 31 → m8 b = m7 b := fun b h => by rw [← hm8, up_row _ _ _ h]
                have S7 : modS m7 q := f3.1.2.1
                have v7 : m7 (q + 30) k = .int (zI c) := by rw [f4.2.1 k (by omega)]; exact v6
                have l7 : m7 (q + 31) c = .int (zI (lf c - 1 : Nat)) := by rw [f3.2.2.2.2.2.2.1 c hc10, setF_at]
                have B8 : bmW e q N P rl H ow f0 f lf Y.1 Y.2 m8 := f3.keep (fun j _ => by rw [r8 _ (by omega)]) (fun b _ _ x3 _ => r8 b x3) (fun i hi => by
                  rw [← hm8]
                  by_cases hic : i = c
                  · rw [hic, up_at]
                  · rw [up_ne _ _ (Or.inr hic), f3.2.2.2.2.2.2.1 i hi, setF_ne _ _ hic]) (by rw [r8 _ (by omega)]; exact f3.2.2.2.2.2.2.2.1)
                have K8 : bK q k m m8 := (K6.trans (f4.less (by omega))).trans ⟨fun j _ _ => by rw [r8 _ (by omega)], fun j _ => by rw [r8 _ (by omega)], fun b _ _ x3 _ _ _ => r8 b x3⟩
                have hpop : popB e q (zI p) (zI ow.length) (zI (k + 1 : Nat)) n2 m7 = X12_believes_L179 e q (zI p) (zI ow.length) n2 (zI k) m8 := by
                  unfold popB
                  simp only [LT]
                  rw [show (zI ((k + 1 : Nat) : Int) + -zI 1 : Int32) = zI (k : Int) by rw [zI_neg, zI_add]; congr 1; omega, iln (by omega), rd_gr hT.me S7.over_, Option.bind_some, rd_gr hT.me S7.holds_, Option.bind_some, rd_ai hT.holds_ (i := k) rfl (by omega) (by omega) v7, Option.bind_some, rd_ai hT.over_ (i := c) rfl (by omega) (by omega) l7, Option.bind_some, show (zI ((lf c - 1 : Nat) : Int) + zI 1 : Int32) = zI (lf c : Int) by rw [zI_add]; congr 1; omega, wr_si hT.over_ (i := c) rfl (by omega) (by omega), Option.bind_some, hm8]
                rw [hpop]
                exact cont Y.1 Y.2 n2 m8 f1 B8 K8 (by rw [r8 _ (by omega)]; exact v7) f0'
    have hm9 : (P + 1) * (1 + bcst d) ≤ 10 * (1 + bcst d) := Nat.mul_le_mul_right _ (by omega)
    have fin := loop (P + 1) 0 nn m X T (by omega) (by omega) hB hh (hm1 (by omega)) hT2
    rw [show P + 1 + (9 - P) = 10 by omega] at fin
    cases hi : itF F 10 0 (X, T) with
    | none => rw [hi] at fin; exact fin
    | some Y =>
      rw [hi] at fin
      obtain ⟨g0, n3, m', g1, g2, g3, g4⟩ := fin
      exact ⟨g0, n3, m', by omega, g2, g3, g4⟩
end BELV
