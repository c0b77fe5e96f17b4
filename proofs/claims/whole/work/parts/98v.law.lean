/-! THE LAW: one call a round. -/
theorem lg_eq (y : Int64) : lg_cmp y y = zI 0 := by
  unfold lg_cmp
  rw [if_neg (fun h : y > y => Int64.lt_irrefl h), if_pos rfl]
  rfl
def lwT (e : mm_E) (b z q o L : Nat) : Prop := icT e z ∧ imT e q ∧ e.1 b = some (31, L) ∧ e.1 o = some (21, 1) ∧ b < z ∧ q = z + 402 ∧ o = q + 40 ∧ L ≤ 3072
def lwI (e : mm_E) (b z q L : Nat) (xs : Nat → Int32) (K : Nat) (m : mm_V) : Prop := ∃ (t d : Nat) (C : CF) (G : GM) (M : MI), IC e m z t d C G M ∧ IM e m q C G M ∧ pureI C G M K ∧ ∀ k, k < L → m b k = .int (xs k)
def lwN {α : Type} (kf : String × mm_V → Option (Int32 × mm_V)) (A1 A2 : α ⊕ Nat) : Prop := (∀ v, A2 = .inl v → A1 = .inl v) ∧ ∀ k, A2 = .inr k → ∃ c : Nat, (c = 1 ∨ c = 2) ∧ A1 = .inr c ∧ ∀ m', kf (exN k, m') = some (zI c, m')
def lwR {α : Type} (cv : α → Int64) (o : Nat) (A1 : α ⊕ Nat) (r : Int32 × mm_V) : Prop := match A1 with
  | .inl v => r.1 = zI 0 ∧ r.2 o 0 = .long (cv v)
  | .inr c => (c = 1 ∨ c = 2) ∧ r.1 = zI c
section LAW
variable {e : mm_E} {b z q o L K : Nat} {xs : Nat → Int32} {P : Int32 × mm_V → Prop}
theorem ev_sc {F : Int32 → Option (Int32 × mm_V)} {m : mm_V} {i : Nat} (k : Nat) (hT : lwT e b z q o L) (hk : i + k < L) (hx : ∀ k, k < L → m b k = .int (xs k)) (h : Ev (F (xs (i + k))) P) : Ev ((mm_ai e.1 m 31 b (zI i + zI k)).bind F) P := by
  have hL := hT.2.2.2.2.2.2.2
  exact ev_ai (i + k) hT.2.2.1 (zI_add _ _) hk (by omega) (hx _ hk) h
theorem lw_call {α : Type} {cv : α → Int64} {A1 A2 : α ⊕ Nat} {kf : String × mm_V → Option (Int32 × mm_V)} {X : Option ((α ⊕ String) × mm_V)} {C' : CF} {G' : GM} {M' : MI} {m : mm_V} {F : Int32 × mm_V → Option (Int32 × mm_V)} (hT : lwT e b z q o L) (hx : Ev X (fun y => y.1 = cvA A2 ∧ (∃ t' d', IC e y.2 z t' d' C' G' M') ∧ ∀ b, (b < z ∨ z + 402 ≤ b) → y.2 b = m b)) (h12 : lwN kf A1 A2) (cont : ∀ (r : Int32 × mm_V) (t' d' : Nat), IC e r.2 z t' d' C' G' M' → lwR cv o A1 r → (∀ b, (b < z ∨ z + 402 ≤ b) → b ≠ o → r.2 b = m b) → Ev (F r) P) : Ev ((mm_tr X (fun rv => (mm_sj e.1 rv.2 o (zI 0) (cv rv.1)).bind fun m2 => some (zI 0, m2)) kf).bind F) P := by
  obtain ⟨hcT, hmT, hb, ho, hbz, hq, hoq, hL⟩ := hT
  obtain ⟨⟨w, m1⟩, e1, h1, ⟨t', d', h2⟩, h3⟩ := hx
  rw [e1]
  cases hA : A2 with
  | inl v =>
    rw [hA] at h1
    have h1 : w = .inl v := h1
    subst h1
    have hA1 := h12.1 v hA
    refine ev_eq (v := (zI 0, mm_up m1 o 0 (.long (cv v)))) ?_ (cont _ t' d' (h2.out hcT (fun b hb => up_row _ _ _ (by omega))) ?_ (fun b x1 x2 => ?_))
    · show (mm_sj e.1 m1 o (zI 0) (cv v)).bind (fun m2 => some (zI 0, m2)) = _
      rw [wr_sj ho (z := 0) (i := 0) rfl (by omega) (by omega)]
      rfl
    · rw [hA1]; exact ⟨rfl, up_at _ _ _ _⟩
    · show (mm_up m1 o 0 (.long (cv v))) b = m b
      rw [up_row _ _ _ x2]; exact h3 b x1
  | inr k =>
    rw [hA] at h1
    have h1 : w = .inr (exN k) := h1
    subst h1
    obtain ⟨c, c1, c2, c3⟩ := h12.2 k hA
    refine ev_eq (v := (zI c, m1)) (c3 m1) (cont _ t' d' h2 ?_ (fun b x1 _ => h3 b x1))
    rw [c2]; exact ⟨c1, rfl⟩
theorem lw_end {α : Type} {cv : α → Int64} {A1 : α ⊕ Nat} {r2 : Int32 × mm_V} {r4 : α × mm_V} {cont : mm_V → Option (Int32 × mm_V)} (hT : lwT e b z q o L) (h2 : lwR cv o A1 r2) (h4 : mvA A1 q r4) (ho : r4.2 o = r2.2 o) (k : Ev (cont r4.2) P) : Ev ((X12_thrown e q r4.2).bind fun r5 => if r5.1 = r2.1 then (if ¬ r2.1 = zI 0 then cont r5.2 else ((mm_al e.1 r5.2 o (zI 0)).bind fun y6 => if lg_cmp y6 (cv r4.1) = zI 0 then cont r5.2 else mm_rz (zI 0) r5.2)) else mm_rz (zI 0) r5.2) P := by
  obtain ⟨hcT, hmT, hb, ho2, hbz, hq, hoq, hL⟩ := hT
  unfold X12_thrown
  cases A1 with
  | inl v =>
    obtain ⟨h2a, h2b⟩ := h2
    obtain ⟨h4a, h4b⟩ := h4
    refine ev_call (Q := fun y => y = (zI 0, r4.2)) (ev_gi hmT.1.me h4b (ev_ret rfl)) ?_
    rintro r5 rfl
    rw [h2a, h4a]
    refine ev_yes rfl (ev_no (fun h => h rfl) (ev_al 0 ho2 rfl (by omega) (by omega) (v := cv v) (by show r4.2 o 0 = _; rw [ho]; exact h2b) ?_))
    exact ev_yes (lg_eq _) k
  | inr c =>
    obtain ⟨h2a, h2b⟩ := h2
    have h4 : r4.2 q 0 = .int (zI c) := h4
    refine ev_call (Q := fun y => y = (zI c, r4.2)) (ev_gi hmT.1.me h4 (ev_ret rfl)) ?_
    rintro r5 rfl
    rw [h2b]
    refine ev_yes rfl (ev_yes ?_ k)
    rcases h2a with h | h <;> rw [h] <;> decide
theorem cl_ex {α : Type} {A : α ⊕ Nat} {t d : Nat} {C : CF} {G : GM} {M : MI} {m : mm_V} {X : Option ((α ⊕ String) × mm_V)} (h : Ev X (clS A e z t d C G M m)) : Ev X (fun y => y.1 = cvA A ∧ (∃ t' d', IC e y.2 z t' d' C G M) ∧ ∀ b, (b < z ∨ z + 402 ≤ b) → y.2 b = m b) := ev_mono h (fun r hr => ⟨hr.1, ⟨t, d, hr.2.1⟩, hr.2.2⟩)
theorem lw_n1 {α : Type} {A : α ⊕ Nat} (h : ∀ k, A = .inr k → k = 1) : lwN (fun q => if q.1 = "java/util/NoSuchElementException" then some (zI 1, q.2) else none) A A := ⟨fun v hv => hv, fun k hk => ⟨1, Or.inl rfl, by rw [hk, h k hk], fun m' => by rw [h k hk]; exact if_pos rfl⟩⟩
theorem lw_n2 {α : Type} {A : α ⊕ Nat} (h : ∀ k, A = .inr k → k = 1 ∨ k = 2) : lwN (fun q => if q.1 = "java/util/NoSuchElementException" then some (zI 1, q.2) else if q.1 = "java/lang/IllegalArgumentException" then some (zI 2, q.2) else none) A A := ⟨fun v hv => hv, fun k hk => by
  rcases h k hk with hh | hh
  · exact ⟨1, Or.inl rfl, by rw [hk, hh], fun m' => by rw [hh]; exact if_pos rfl⟩
  · refine ⟨2, Or.inr rfl, by rw [hk, hh], fun m' => ?_⟩
    rw [hh]
    show (if exN 2 = "java/util/NoSuchElementException" then some (zI 1, m') else if exN 2 = "java/lang/IllegalArgumentException" then some (zI 2, m') else none) = _
    rw [if_neg (show ¬ exN 2 = "java/util/NoSuchElementException" by decide), if_pos (show exN 2 = "java/lang/IllegalArgumentException" by decide)]
    rfl⟩
theorem lw_n3 {α : Type} {A1 A2 : α ⊕ Nat} (h1 : ∀ v, A2 = .inl v → A1 = .inl v) (h : ∀ k, A2 = .inr k → k = 2 ∧ A1 = .inr 1) : lwN (fun q => if q.1 = "java/lang/IllegalArgumentException" then some (zI 1, q.2) else none) A1 A2 := ⟨h1, fun k hk => ⟨1, Or.inl rfl, (h k hk).2, fun m' => by
  rw [(h k hk).1]
  exact if_pos rfl⟩⟩
theorem lw_done {t d C G M} {m2 m4 : mm_V} (hT : lwT e b z q o L) (h2 : IC e m2 z t d C G M) (h4 : IM e m4 q C G M) (hp : pureI C G M (K + 200)) (hx : ∀ k, k < L → m2 b k = .int (xs k)) (hf : ∀ b, (b < q ∨ q + 40 ≤ b) → m4 b = m2 b) : lwI e b z q L xs (K + 200) m4 := by
  obtain ⟨hcT, hmT, hb, ho2, hbz, hq, hoq, hL⟩ := hT
  exact ⟨t, d, C, G, M, h2.out hcT (fun b hb => hf b (by omega)), h4, hp, fun k hk => by rw [hf b (by omega)]; exact hx k hk⟩
theorem lw_302 {k23 : Int32 → mm_V → Option (Int32 × mm_V)} {i : Nat} {m : mm_V} (hT : lwT e b z q o L) (hi : i + 6 ≤ L) (hK : K + 200 ≤ 1000000) (h : lwI e b z q L xs K m) (hk : ∀ m', lwI e b z q L xs (K + 200) m' → Ev (k23 (zI i + zI 6) m') P) : Ev (L_law_b302 e k23 b z q o (zI i) m) P := by
  have hT' := hT
  obtain ⟨hcT, hmT, hb, ho, hbz, hq, hoq, hL⟩ := hT'
  obtain ⟨t, d, C, G, M, hI, hM, hp, hx⟩ := h
  unfold L_law_b302 L_law_b355 L_law_b1713 L_count
  simp only [LT, zI_neg]
  obtain ⟨a1, ha1, e1⟩ := zI_ex (xs (i + 1))
  refine ev_sc 1 hT (by omega) hx ?_
  rw [e1]
  have hA : ∀ k, cntA C G M a1 = .inr k → k = 1 := by
    intro k hk
    unfold cntA at hk
    repeat' split at hk
    all_goals first | (cases hk; rfl) | cases hk
  refine lw_call (cv := Int32.toInt64) (A1 := cntA C G M a1) hT (cl_ex (cl_count ha1 hcT hp hI)) (lw_n1 hA) (fun r2 t2 d2 I2 res f2 => ?_)
  have hx2 : ∀ k, k < L → r2.2 b k = .int (xs k) := fun k hk => by rw [f2 b (by omega) (by omega)]; exact hx k hk
  refine ev_sc 1 hT (by omega) hx2 ?_
  rw [e1]
  refine ev_call (ml_count ha1 hmT hp (hM.out (fun b x1 x2 => f2 b (by omega) (by omega)))) (fun r4 h4 => ?_)
  exact lw_end (cv := Int32.toInt64) (cont := k23 (zI i + zI 6)) hT res h4.1 (h4.2.2 o (by omega)) (hk _ (lw_done hT I2 h4.2.1 (hp.mono (by omega) hK) hx2 h4.2.2))
theorem lw_358 {k23 : Int32 → mm_V → Option (Int32 × mm_V)} {i : Nat} {m : mm_V} (hT : lwT e b z q o L) (hi : i + 6 ≤ L) (hK : K + 200 ≤ 1000000) (h : lwI e b z q L xs K m) (hk : ∀ m', lwI e b z q L xs (K + 200) m' → Ev (k23 (zI i + zI 6) m') P) : Ev (L_law_b358 e k23 b z q o (zI i) m) P := by
  have hT' := hT
  obtain ⟨hcT, hmT, hb, ho, hbz, hq, hoq, hL⟩ := hT'
  obtain ⟨t, d, C, G, M, hI, hM, hp, hx⟩ := h
  unfold L_law_b358 L_law_b423 L_law_b1713 L_fan
  simp only [LT, zI_neg]
  obtain ⟨a1, ha1, e1⟩ := zI_ex (xs (i + 1))
  obtain ⟨a2, ha2, e2⟩ := zI_ex (xs (i + 2))
  refine ev_sc 1 hT (by omega) hx ?_
  refine ev_sc 2 hT (by omega) hx ?_
  rw [e1, e2]
  have hA : ∀ k, fanA C G a1 a2 = .inr k → k = 1 := by
    intro k hk
    unfold fanA at hk
    repeat' split at hk
    all_goals first | (cases hk; rfl) | cases hk
  refine lw_call (cv := Int32.toInt64) (A1 := fanA C G a1 a2) hT (cl_ex (cl_fan ha1 ha2 hcT hp hI)) (lw_n1 hA) (fun r2 t2 d2 I2 res f2 => ?_)
  have hx2 : ∀ k, k < L → r2.2 b k = .int (xs k) := fun k hk => by rw [f2 b (by omega) (by omega)]; exact hx k hk
  refine ev_sc 1 hT (by omega) hx2 ?_
  refine ev_sc 2 hT (by omega) hx2 ?_
  rw [e1, e2]
  refine ev_call (ml_fan ha1 ha2 hmT hp (hM.out (fun b x1 x2 => f2 b (by omega) (by omega)))) (fun r4 h4 => ?_)
  exact lw_end (cv := Int32.toInt64) (cont := k23 (zI i + zI 6)) hT res h4.1 (h4.2.2 o (by omega)) (hk _ (lw_done hT I2 h4.2.1 (hp.mono (by omega) hK) hx2 h4.2.2))
theorem lw_426 {k23 : Int32 → mm_V → Option (Int32 × mm_V)} {i : Nat} {m : mm_V} (hT : lwT e b z q o L) (hi : i + 6 ≤ L) (hK : K + 200 ≤ 1000000) (h : lwI e b z q L xs K m) (hk : ∀ m', lwI e b z q L xs (K + 200) m' → Ev (k23 (zI i + zI 6) m') P) : Ev (L_law_b426 e k23 b z q o (zI i) m) P := by
  have hT' := hT
  obtain ⟨hcT, hmT, hb, ho, hbz, hq, hoq, hL⟩ := hT'
  obtain ⟨t, d, C, G, M, hI, hM, hp, hx⟩ := h
  unfold L_law_b426 L_law_b491 L_law_b1713 L_person
  simp only [LT, zI_neg]
  obtain ⟨a1, ha1, e1⟩ := zI_ex (xs (i + 1))
  obtain ⟨a2, ha2, e2⟩ := zI_ex (xs (i + 2))
  refine ev_sc 1 hT (by omega) hx ?_
  refine ev_sc 2 hT (by omega) hx ?_
  rw [e1, e2]
  have hA : ∀ k, prsA C G a1 a2 = .inr k → k = 1 := by
    intro k hk
    unfold prsA at hk
    repeat' split at hk
    all_goals first | (cases hk; rfl) | cases hk
  refine lw_call (cv := Int32.toInt64) (A1 := prsA C G a1 a2) hT (cl_ex (cl_person ha1 ha2 hcT hp hI)) (lw_n1 hA) (fun r2 t2 d2 I2 res f2 => ?_)
  have hx2 : ∀ k, k < L → r2.2 b k = .int (xs k) := fun k hk => by rw [f2 b (by omega) (by omega)]; exact hx k hk
  refine ev_sc 1 hT (by omega) hx2 ?_
  refine ev_sc 2 hT (by omega) hx2 ?_
  rw [e1, e2]
  refine ev_call (ml_person ha1 ha2 hmT hp (hM.out (fun b x1 x2 => f2 b (by omega) (by omega)))) (fun r4 h4 => ?_)
  exact lw_end (cv := Int32.toInt64) (cont := k23 (zI i + zI 6)) hT res h4.1 (h4.2.2 o (by omega)) (hk _ (lw_done hT I2 h4.2.1 (hp.mono (by omega) hK) hx2 h4.2.2))
theorem lw_588 {k23 : Int32 → mm_V → Option (Int32 × mm_V)} {i : Nat} {m : mm_V} (hT : lwT e b z q o L) (hi : i + 6 ≤ L) (hK : K + 200 ≤ 1000000) (h : lwI e b z q L xs K m) (hk : ∀ m', lwI e b z q L xs (K + 200) m' → Ev (k23 (zI i + zI 6) m') P) : Ev (L_law_b588 e k23 b z q o (zI i) m) P := by
  have hT' := hT
  obtain ⟨hcT, hmT, hb, ho, hbz, hq, hoq, hL⟩ := hT'
  obtain ⟨t, d, C, G, M, hI, hM, hp, hx⟩ := h
  unfold L_law_b588 L_law_b641 L_law_b1713 L_ends
  simp only [LT, zI_neg]
  obtain ⟨a1, ha1, e1⟩ := zI_ex (xs (i + 1))
  refine ev_sc 1 hT (by omega) hx ?_
  rw [e1]
  have hA : ∀ k, endA C G a1 = .inr k → k = 1 := by
    intro k hk
    unfold endA at hk
    repeat' split at hk
    all_goals first | (cases hk; rfl) | cases hk
  refine lw_call (cv := Int32.toInt64) (A1 := endA C G a1) hT (cl_ex (cl_ends ha1 hcT hp hI)) (lw_n1 hA) (fun r2 t2 d2 I2 res f2 => ?_)
  have hx2 : ∀ k, k < L → r2.2 b k = .int (xs k) := fun k hk => by rw [f2 b (by omega) (by omega)]; exact hx k hk
  refine ev_sc 1 hT (by omega) hx2 ?_
  rw [e1]
  refine ev_call (ml_ends ha1 hmT hp (hM.out (fun b x1 x2 => f2 b (by omega) (by omega)))) (fun r4 h4 => ?_)
  exact lw_end (cv := Int32.toInt64) (cont := k23 (zI i + zI 6)) hT res h4.1 (h4.2.2 o (by omega)) (hk _ (lw_done hT I2 h4.2.1 (hp.mono (by omega) hK) hx2 h4.2.2))
theorem lw_728 {k23 : Int32 → mm_V → Option (Int32 × mm_V)} {i : Nat} {m : mm_V} (hT : lwT e b z q o L) (hi : i + 6 ≤ L) (hK : K + 200 ≤ 1000000) (h : lwI e b z q L xs K m) (hk : ∀ m', lwI e b z q L xs (K + 200) m' → Ev (k23 (zI i + zI 6) m') P) : Ev (L_law_b728 e k23 b z q o (zI i) m) P := by
  have hT' := hT
  obtain ⟨hcT, hmT, hb, ho, hbz, hq, hoq, hL⟩ := hT'
  obtain ⟨t, d, C, G, M, hI, hM, hp, hx⟩ := h
  unfold L_law_b728 L_law_b804 L_law_b1713 L_blind
  simp only [LT, zI_neg]
  obtain ⟨a1, ha1, e1⟩ := zI_ex (xs (i + 1))
  obtain ⟨a2, ha2, e2⟩ := zI_ex (xs (i + 2))
  obtain ⟨a3, ha3, e3⟩ := zI_ex (xs (i + 3))
  refine ev_sc 1 hT (by omega) hx ?_
  refine ev_sc 2 hT (by omega) hx ?_
  refine ev_sc 3 hT (by omega) hx ?_
  rw [e1, e2, e3]
  have hA : ∀ k, blA C G a1 a2 a3 = .inr k → k = 1 ∨ k = 2 := by
    intro k hk
    unfold blA at hk
    repeat' split at hk
    all_goals first | (cases hk; exact Or.inl rfl) | (cases hk; exact Or.inr rfl) | cases hk
  refine lw_call (cv := fun v => v) (A1 := blA C G a1 a2 a3) hT (cl_ex (cl_blind ha1 ha2 ha3 hcT hp hI)) (lw_n2 hA) (fun r2 t2 d2 I2 res f2 => ?_)
  have hx2 : ∀ k, k < L → r2.2 b k = .int (xs k) := fun k hk => by rw [f2 b (by omega) (by omega)]; exact hx k hk
  refine ev_sc 1 hT (by omega) hx2 ?_
  refine ev_sc 2 hT (by omega) hx2 ?_
  refine ev_sc 3 hT (by omega) hx2 ?_
  rw [e1, e2, e3]
  refine ev_call (ml_blind ha1 ha2 ha3 hmT hp (hM.out (fun b x1 x2 => f2 b (by omega) (by omega)))) (fun r4 h4 => ?_)
  exact lw_end (cv := fun v => v) (cont := k23 (zI i + zI 6)) hT res h4.1 (h4.2.2 o (by omega)) (hk _ (lw_done hT I2 h4.2.1 (hp.mono (by omega) hK) hx2 h4.2.2))
theorem lw_902 {k23 : Int32 → mm_V → Option (Int32 × mm_V)} {i : Nat} {m : mm_V} (hT : lwT e b z q o L) (hi : i + 6 ≤ L) (hK : K + 200 ≤ 1000000) (h : lwI e b z q L xs K m) (hk : ∀ m', lwI e b z q L xs (K + 200) m' → Ev (k23 (zI i + zI 6) m') P) : Ev (L_law_b902 e k23 b z q o (zI i) m) P := by
  have hT' := hT
  obtain ⟨hcT, hmT, hb, ho, hbz, hq, hoq, hL⟩ := hT'
  obtain ⟨t, d, C, G, M, hI, hM, hp, hx⟩ := h
  unfold L_law_b902 L_law_b967 L_law_b1713 L_belief
  simp only [LT, zI_neg]
  obtain ⟨a1, ha1, e1⟩ := zI_ex (xs (i + 1))
  obtain ⟨a2, ha2, e2⟩ := zI_ex (xs (i + 2))
  refine ev_sc 1 hT (by omega) hx ?_
  refine ev_sc 2 hT (by omega) hx ?_
  rw [e1, e2]
  have hA : ∀ k, blfA C G a1 a2 = .inr k → k = 1 := by
    intro k hk
    unfold blfA at hk
    repeat' split at hk
    all_goals first | (cases hk; rfl) | cases hk
  refine lw_call (cv := Int32.toInt64) (A1 := blfA C G a1 a2) hT (cl_ex (cl_belief ha1 ha2 hcT hp hI)) (lw_n1 hA) (fun r2 t2 d2 I2 res f2 => ?_)
  have hx2 : ∀ k, k < L → r2.2 b k = .int (xs k) := fun k hk => by rw [f2 b (by omega) (by omega)]; exact hx k hk
  refine ev_sc 1 hT (by omega) hx2 ?_
  refine ev_sc 2 hT (by omega) hx2 ?_
  rw [e1, e2]
  refine ev_call (ml_belief ha1 ha2 hmT hp (hM.out (fun b x1 x2 => f2 b (by omega) (by omega)))) (fun r4 h4 => ?_)
  exact lw_end (cv := Int32.toInt64) (cont := k23 (zI i + zI 6)) hT res h4.1 (h4.2.2 o (by omega)) (hk _ (lw_done hT I2 h4.2.1 (hp.mono (by omega) hK) hx2 h4.2.2))
theorem lw_970 {k23 : Int32 → mm_V → Option (Int32 × mm_V)} {i : Nat} {m : mm_V} (hT : lwT e b z q o L) (hi : i + 6 ≤ L) (hK : K + 200 ≤ 1000000) (h : lwI e b z q L xs K m) (hk : ∀ m', lwI e b z q L xs (K + 200) m' → Ev (k23 (zI i + zI 6) m') P) : Ev (L_law_b970 e k23 b z q o (zI i) m) P := by
  have hT' := hT
  obtain ⟨hcT, hmT, hb, ho, hbz, hq, hoq, hL⟩ := hT'
  obtain ⟨t, d, C, G, M, hI, hM, hp, hx⟩ := h
  unfold L_law_b970 L_law_b1034 L_law_b1713 L_peeped
  simp only [LT, zI_neg]
  obtain ⟨a1, ha1, e1⟩ := zI_ex (xs (i + 1))
  obtain ⟨a2, ha2, e2⟩ := zI_ex (xs (i + 2))
  refine ev_sc 1 hT (by omega) hx ?_
  refine ev_sc 2 hT (by omega) hx ?_
  rw [e1, e2]
  have hA : ∀ k, peA C G a1 a2 = .inr k → k = 1 := by
    intro k hk
    unfold peA at hk
    repeat' split at hk
    all_goals first | (cases hk; rfl) | cases hk
  refine lw_call (cv := fun v => v) (A1 := peA C G a1 a2) hT (cl_ex (cl_peeped ha1 ha2 hcT hp hI)) (lw_n1 hA) (fun r2 t2 d2 I2 res f2 => ?_)
  have hx2 : ∀ k, k < L → r2.2 b k = .int (xs k) := fun k hk => by rw [f2 b (by omega) (by omega)]; exact hx k hk
  refine ev_sc 1 hT (by omega) hx2 ?_
  refine ev_sc 2 hT (by omega) hx2 ?_
  rw [e1, e2]
  refine ev_call (ml_peeped ha1 ha2 hmT hp (hM.out (fun b x1 x2 => f2 b (by omega) (by omega)))) (fun r4 h4 => ?_)
  exact lw_end (cv := fun v => v) (cont := k23 (zI i + zI 6)) hT res h4.1 (h4.2.2 o (by omega)) (hk _ (lw_done hT I2 h4.2.1 (hp.mono (by omega) hK) hx2 h4.2.2))
theorem lw_1037 {k23 : Int32 → mm_V → Option (Int32 × mm_V)} {i : Nat} {m : mm_V} (hT : lwT e b z q o L) (hi : i + 6 ≤ L) (hK : K + 200 ≤ 1000000) (h : lwI e b z q L xs K m) (hk : ∀ m', lwI e b z q L xs (K + 200) m' → Ev (k23 (zI i + zI 6) m') P) : Ev (L_law_b1037 e k23 b z q o (zI i) m) P := by
  have hT' := hT
  obtain ⟨hcT, hmT, hb, ho, hbz, hq, hoq, hL⟩ := hT'
  obtain ⟨t, d, C, G, M, hI, hM, hp, hx⟩ := h
  unfold L_law_b1037 L_law_b1114 L_law_b1713 L_hold
  simp only [LT, zI_neg]
  obtain ⟨a1, ha1, e1⟩ := zI_ex (xs (i + 1))
  obtain ⟨a2, ha2, e2⟩ := zI_ex (xs (i + 2))
  obtain ⟨a3, ha3, e3⟩ := zI_ex (xs (i + 3))
  refine ev_sc 1 hT (by omega) hx ?_
  refine ev_sc 2 hT (by omega) hx ?_
  refine ev_sc 3 hT (by omega) hx ?_
  rw [e1, e2, e3]
  have hA : ∀ k, hoA C a1 a2 a3 = .inr k → k = 1 ∨ k = 2 := by
    intro k hk
    unfold hoA at hk
    repeat' split at hk
    all_goals first | (cases hk; exact Or.inl rfl) | (cases hk; exact Or.inr rfl) | cases hk
  refine lw_call (cv := Int32.toInt64) (A1 := hoA C a1 a2 a3) hT (cl_ex (cl_hold ha1 ha2 ha3 hcT hp hI)) (lw_n2 hA) (fun r2 t2 d2 I2 res f2 => ?_)
  have hx2 : ∀ k, k < L → r2.2 b k = .int (xs k) := fun k hk => by rw [f2 b (by omega) (by omega)]; exact hx k hk
  refine ev_sc 1 hT (by omega) hx2 ?_
  refine ev_sc 2 hT (by omega) hx2 ?_
  refine ev_sc 3 hT (by omega) hx2 ?_
  rw [e1, e2, e3]
  refine ev_call (ml_hold ha1 ha2 ha3 hmT hp (hM.out (fun b x1 x2 => f2 b (by omega) (by omega)))) (fun r4 h4 => ?_)
  exact lw_end (cv := Int32.toInt64) (cont := k23 (zI i + zI 6)) hT res h4.1 (h4.2.2 o (by omega)) (hk _ (lw_done hT I2 h4.2.1 (hp.mono (by omega) hK) hx2 h4.2.2))
theorem lw_1117 {k23 : Int32 → mm_V → Option (Int32 × mm_V)} {i : Nat} {m : mm_V} (hT : lwT e b z q o L) (hi : i + 6 ≤ L) (hK : K + 200 ≤ 1000000) (h : lwI e b z q L xs K m) (hk : ∀ m', lwI e b z q L xs (K + 200) m' → Ev (k23 (zI i + zI 6) m') P) : Ev (L_law_b1117 e k23 b z q o (zI i) m) P := by
  have hT' := hT
  obtain ⟨hcT, hmT, hb, ho, hbz, hq, hoq, hL⟩ := hT'
  obtain ⟨t, d, C, G, M, hI, hM, hp, hx⟩ := h
  unfold L_law_b1117 L_law_b1182 L_law_b1713 L_choose
  simp only [LT, zI_neg]
  obtain ⟨a1, ha1, e1⟩ := zI_ex (xs (i + 1))
  obtain ⟨a2, ha2, e2⟩ := zI_ex (xs (i + 2))
  refine ev_sc 1 hT (by omega) hx ?_
  refine ev_sc 2 hT (by omega) hx ?_
  rw [e1, e2]
  have hA : ∀ k, choA C G a1 a2 = .inr k → k = 1 := by
    intro k hk
    unfold choA at hk
    repeat' split at hk
    all_goals first | (cases hk; rfl) | cases hk
  refine lw_call (cv := Int32.toInt64) (A1 := choA C G a1 a2) hT (cl_ex (cl_choose ha1 ha2 hcT hp hI)) (lw_n1 hA) (fun r2 t2 d2 I2 res f2 => ?_)
  have hx2 : ∀ k, k < L → r2.2 b k = .int (xs k) := fun k hk => by rw [f2 b (by omega) (by omega)]; exact hx k hk
  refine ev_sc 1 hT (by omega) hx2 ?_
  refine ev_sc 2 hT (by omega) hx2 ?_
  rw [e1, e2]
  refine ev_call (ml_choose ha1 ha2 hmT hp (hM.out (fun b x1 x2 => f2 b (by omega) (by omega)))) (fun r4 h4 => ?_)
  exact lw_end (cv := Int32.toInt64) (cont := k23 (zI i + zI 6)) hT res h4.1 (h4.2.2 o (by omega)) (hk _ (lw_done hT I2 h4.2.1 (hp.mono (by omega) hK) hx2 h4.2.2))
theorem lw_1185 {k23 : Int32 → mm_V → Option (Int32 × mm_V)} {i : Nat} {m : mm_V} (hT : lwT e b z q o L) (hi : i + 6 ≤ L) (hK : K + 200 ≤ 1000000) (h : lwI e b z q L xs K m) (hk : ∀ m', lwI e b z q L xs (K + 200) m' → Ev (k23 (zI i + zI 6) m') P) : Ev (L_law_b1185 e k23 b z q o (zI i) m) P := by
  have hT' := hT
  obtain ⟨hcT, hmT, hb, ho, hbz, hq, hoq, hL⟩ := hT'
  obtain ⟨t, d, C, G, M, hI, hM, hp, hx⟩ := h
  unfold L_law_b1185 L_law_b1250 L_law_b1713 L_seats
  simp only [LT, zI_neg]
  obtain ⟨a1, ha1, e1⟩ := zI_ex (xs (i + 1))
  obtain ⟨a2, ha2, e2⟩ := zI_ex (xs (i + 2))
  refine ev_sc 1 hT (by omega) hx ?_
  refine ev_sc 2 hT (by omega) hx ?_
  rw [e1, e2]
  have hA : ∀ k, seA C G a1 a2 = .inr k → k = 1 := by
    intro k hk
    unfold seA at hk
    repeat' split at hk
    all_goals first | (cases hk; rfl) | cases hk
  refine lw_call (cv := Int32.toInt64) (A1 := seA C G a1 a2) hT (cl_ex (cl_seats ha1 ha2 hcT hp hI)) (lw_n1 hA) (fun r2 t2 d2 I2 res f2 => ?_)
  have hx2 : ∀ k, k < L → r2.2 b k = .int (xs k) := fun k hk => by rw [f2 b (by omega) (by omega)]; exact hx k hk
  refine ev_sc 1 hT (by omega) hx2 ?_
  refine ev_sc 2 hT (by omega) hx2 ?_
  rw [e1, e2]
  refine ev_call (ml_seats ha1 ha2 hmT hp (hM.out (fun b x1 x2 => f2 b (by omega) (by omega)))) (fun r4 h4 => ?_)
  exact lw_end (cv := Int32.toInt64) (cont := k23 (zI i + zI 6)) hT res h4.1 (h4.2.2 o (by omega)) (hk _ (lw_done hT I2 h4.2.1 (hp.mono (by omega) hK) hx2 h4.2.2))
theorem lw_1373 {k23 : Int32 → mm_V → Option (Int32 × mm_V)} {i : Nat} {m : mm_V} (hT : lwT e b z q o L) (hi : i + 6 ≤ L) (hK : K + 200 ≤ 1000000) (h : lwI e b z q L xs K m) (hk : ∀ m', lwI e b z q L xs (K + 200) m' → Ev (k23 (zI i + zI 6) m') P) : Ev (L_law_b1373 e k23 b z q o (zI i) m) P := by
  have hT' := hT
  obtain ⟨hcT, hmT, hb, ho, hbz, hq, hoq, hL⟩ := hT'
  obtain ⟨t, d, C, G, M, hI, hM, hp, hx⟩ := h
  unfold L_law_b1373 L_law_b1426 L_law_b1713 L_wouldLose
  simp only [LT, zI_neg]
  obtain ⟨a1, ha1, e1⟩ := zI_ex (xs (i + 1))
  refine ev_sc 1 hT (by omega) hx ?_
  rw [e1]
  have hA : ∀ k, wlA C G a1 = .inr k → k = 1 := by
    intro k hk
    unfold wlA at hk
    repeat' split at hk
    all_goals first | (cases hk; rfl) | cases hk
  refine lw_call (cv := Int32.toInt64) (A1 := wlA C G a1) hT (cl_ex (cl_wouldLose ha1 hcT hp hI)) (lw_n1 hA) (fun r2 t2 d2 I2 res f2 => ?_)
  have hx2 : ∀ k, k < L → r2.2 b k = .int (xs k) := fun k hk => by rw [f2 b (by omega) (by omega)]; exact hx k hk
  refine ev_sc 1 hT (by omega) hx2 ?_
  rw [e1]
  refine ev_call (ml_wouldLose ha1 hmT hp (hM.out (fun b x1 x2 => f2 b (by omega) (by omega)))) (fun r4 h4 => ?_)
  exact lw_end (cv := Int32.toInt64) (cont := k23 (zI i + zI 6)) hT res h4.1 (h4.2.2 o (by omega)) (hk _ (lw_done hT I2 h4.2.1 (hp.mono (by omega) hK) hx2 h4.2.2))
theorem lw_1429 {k23 : Int32 → mm_V → Option (Int32 × mm_V)} {i : Nat} {m : mm_V} (hT : lwT e b z q o L) (hi : i + 6 ≤ L) (hK : K + 200 ≤ 1000000) (h : lwI e b z q L xs K m) (hk : ∀ m', lwI e b z q L xs (K + 200) m' → Ev (k23 (zI i + zI 6) m') P) : Ev (L_law_b1429 e k23 b z q o (zI i) m) P := by
  have hT' := hT
  obtain ⟨hcT, hmT, hb, ho, hbz, hq, hoq, hL⟩ := hT'
  obtain ⟨t, d, C, G, M, hI, hM, hp, hx⟩ := h
  unfold L_law_b1429 L_law_b1482 L_law_b1713 L_isOut
  simp only [LT, zI_neg]
  obtain ⟨a1, ha1, e1⟩ := zI_ex (xs (i + 1))
  refine ev_sc 1 hT (by omega) hx ?_
  rw [e1]
  have hA : ∀ k, outA C G a1 = .inr k → k = 1 := by
    intro k hk
    unfold outA at hk
    repeat' split at hk
    all_goals first | (cases hk; rfl) | cases hk
  refine lw_call (cv := Int32.toInt64) (A1 := outA C G a1) hT (cl_ex (cl_isOut ha1 hcT hp hI)) (lw_n1 hA) (fun r2 t2 d2 I2 res f2 => ?_)
  have hx2 : ∀ k, k < L → r2.2 b k = .int (xs k) := fun k hk => by rw [f2 b (by omega) (by omega)]; exact hx k hk
  refine ev_sc 1 hT (by omega) hx2 ?_
  rw [e1]
  refine ev_call (ml_isOut ha1 hmT hp (hM.out (fun b x1 x2 => f2 b (by omega) (by omega)))) (fun r4 h4 => ?_)
  exact lw_end (cv := Int32.toInt64) (cont := k23 (zI i + zI 6)) hT res h4.1 (h4.2.2 o (by omega)) (hk _ (lw_done hT I2 h4.2.1 (hp.mono (by omega) hK) hx2 h4.2.2))
theorem lw_1485 {k23 : Int32 → mm_V → Option (Int32 × mm_V)} {i : Nat} {m : mm_V} (hT : lwT e b z q o L) (hi : i + 6 ≤ L) (hK : K + 200 ≤ 1000000) (h : lwI e b z q L xs K m) (hk : ∀ m', lwI e b z q L xs (K + 200) m' → Ev (k23 (zI i + zI 6) m') P) : Ev (L_law_b1485 e k23 b z q o (zI i) m) P := by
  have hT' := hT
  obtain ⟨hcT, hmT, hb, ho, hbz, hq, hoq, hL⟩ := hT'
  obtain ⟨t, d, C, G, M, hI, hM, hp, hx⟩ := h
  unfold L_law_b1485 L_law_b1538 L_law_b1713 L_rank
  simp only [LT, zI_neg]
  obtain ⟨a1, ha1, e1⟩ := zI_ex (xs (i + 1))
  refine ev_sc 1 hT (by omega) hx ?_
  rw [e1]
  have hA : ∀ k, rnkA C G a1 = .inr k → k = 1 := by
    intro k hk
    unfold rnkA at hk
    repeat' split at hk
    all_goals first | (cases hk; rfl) | cases hk
  refine lw_call (cv := Int32.toInt64) (A1 := rnkA C G a1) hT (cl_ex (cl_rank ha1 hcT hp hI)) (lw_n1 hA) (fun r2 t2 d2 I2 res f2 => ?_)
  have hx2 : ∀ k, k < L → r2.2 b k = .int (xs k) := fun k hk => by rw [f2 b (by omega) (by omega)]; exact hx k hk
  refine ev_sc 1 hT (by omega) hx2 ?_
  rw [e1]
  refine ev_call (ml_rank ha1 hmT hp (hM.out (fun b x1 x2 => f2 b (by omega) (by omega)))) (fun r4 h4 => ?_)
  exact lw_end (cv := Int32.toInt64) (cont := k23 (zI i + zI 6)) hT res h4.1 (h4.2.2 o (by omega)) (hk _ (lw_done hT I2 h4.2.1 (hp.mono (by omega) hK) hx2 h4.2.2))
theorem lw_1541 {k23 : Int32 → mm_V → Option (Int32 × mm_V)} {i : Nat} {m : mm_V} (hT : lwT e b z q o L) (hi : i + 6 ≤ L) (hK : K + 200 ≤ 1000000) (h : lwI e b z q L xs K m) (hk : ∀ m', lwI e b z q L xs (K + 200) m' → Ev (k23 (zI i + zI 6) m') P) : Ev (L_law_b1541 e k23 b z q o (zI i) m) P := by
  have hT' := hT
  obtain ⟨hcT, hmT, hb, ho, hbz, hq, hoq, hL⟩ := hT'
  obtain ⟨t, d, C, G, M, hI, hM, hp, hx⟩ := h
  unfold L_law_b1541 L_law_b1606 L_law_b1713 L_habit
  simp only [LT, zI_neg]
  obtain ⟨a1, ha1, e1⟩ := zI_ex (xs (i + 1))
  obtain ⟨a2, ha2, e2⟩ := zI_ex (xs (i + 2))
  refine ev_sc 1 hT (by omega) hx ?_
  refine ev_sc 2 hT (by omega) hx ?_
  rw [e1, e2]
  have hA : ∀ k, habA C G a1 a2 = .inr k → k = 1 := by
    intro k hk
    unfold habA at hk
    repeat' split at hk
    all_goals first | (cases hk; rfl) | cases hk
  refine lw_call (cv := Int32.toInt64) (A1 := habA C G a1 a2) hT (cl_ex (cl_habit ha1 ha2 hcT hp hI)) (lw_n1 hA) (fun r2 t2 d2 I2 res f2 => ?_)
  have hx2 : ∀ k, k < L → r2.2 b k = .int (xs k) := fun k hk => by rw [f2 b (by omega) (by omega)]; exact hx k hk
  refine ev_sc 1 hT (by omega) hx2 ?_
  refine ev_sc 2 hT (by omega) hx2 ?_
  rw [e1, e2]
  refine ev_call (ml_habit ha1 ha2 hmT hp (hM.out (fun b x1 x2 => f2 b (by omega) (by omega)))) (fun r4 h4 => ?_)
  exact lw_end (cv := Int32.toInt64) (cont := k23 (zI i + zI 6)) hT res h4.1 (h4.2.2 o (by omega)) (hk _ (lw_done hT I2 h4.2.1 (hp.mono (by omega) hK) hx2 h4.2.2))
theorem lw_1609 {k23 : Int32 → mm_V → Option (Int32 × mm_V)} {i : Nat} {m : mm_V} (hT : lwT e b z q o L) (hi : i + 6 ≤ L) (hK : K + 200 ≤ 1000000) (h : lwI e b z q L xs K m) (hk : ∀ m', lwI e b z q L xs (K + 200) m' → Ev (k23 (zI i + zI 6) m') P) : Ev (L_law_b1609 e k23 b z q o (zI i) m) P := by
  have hT' := hT
  obtain ⟨hcT, hmT, hb, ho, hbz, hq, hoq, hL⟩ := hT'
  obtain ⟨t, d, C, G, M, hI, hM, hp, hx⟩ := h
  unfold L_law_b1609 L_law_b1686 L_law_b1713 L_face
  simp only [LT, zI_neg]
  obtain ⟨a1, ha1, e1⟩ := zI_ex (xs (i + 1))
  obtain ⟨a2, ha2, e2⟩ := zI_ex (xs (i + 2))
  obtain ⟨a3, ha3, e3⟩ := zI_ex (xs (i + 3))
  refine ev_sc 1 hT (by omega) hx ?_
  refine ev_sc 2 hT (by omega) hx ?_
  refine ev_sc 3 hT (by omega) hx ?_
  rw [e1, e2, e3]
  have hA : ∀ k, fcA a1 a2 a3 = .inr k → k = 1 ∨ k = 2 := by
    intro k hk
    unfold fcA at hk
    repeat' split at hk
    all_goals first | (cases hk; exact Or.inl rfl) | (cases hk; exact Or.inr rfl) | cases hk
  refine lw_call (cv := Int32.toInt64) (A1 := fcA a1 a2 a3) hT (cl_ex (cl_face ha1 ha2 ha3 hcT hI)) (lw_n2 hA) (fun r2 t2 d2 I2 res f2 => ?_)
  have hx2 : ∀ k, k < L → r2.2 b k = .int (xs k) := fun k hk => by rw [f2 b (by omega) (by omega)]; exact hx k hk
  refine ev_sc 1 hT (by omega) hx2 ?_
  refine ev_sc 2 hT (by omega) hx2 ?_
  refine ev_sc 3 hT (by omega) hx2 ?_
  rw [e1, e2, e3]
  refine ev_call (ml_face ha1 ha2 ha3 hmT (hM.out (fun b x1 x2 => f2 b (by omega) (by omega)))) (fun r4 h4 => ?_)
  exact lw_end (cv := Int32.toInt64) (cont := k23 (zI i + zI 6)) hT res h4.1 (h4.2.2 o (by omega)) (hk _ (lw_done hT I2 h4.2.1 (hp.mono (by omega) hK) hx2 h4.2.2))
theorem lw_233 {k23 : Int32 → mm_V → Option (Int32 × mm_V)} {i : Nat} {m : mm_V} (hT : lwT e b z q o L) (hi : i + 6 ≤ L) (hK : K + 200 ≤ 1000000) (h : lwI e b z q L xs K m) (hk : ∀ m', lwI e b z q L xs (K + 200) m' → Ev (k23 (zI i + zI 6) m') P) : Ev (L_law_b233 e k23 b z q o (zI i) m) P := by
  have hT' := hT
  obtain ⟨hcT, hmT, hb, ho, hbz, hq, hoq, hL⟩ := hT'
  obtain ⟨t, d, C, G, M, hI, hM, hp, hx⟩ := h
  unfold L_law_b233 L_law_b286 L_law_b1713 L_table
  simp only [LT, zI_neg]
  obtain ⟨a1, ha1, e1⟩ := zI_ex (xs (i + 1))
  refine ev_sc 1 hT (by omega) hx ?_
  rw [e1]
  have hct := cl_table ha1 hcT hp (by omega) hI
  obtain ⟨-, -, -, -, hp', -⟩ := id hct
  have n3 : lwN (fun q => if q.1 = "java/lang/IllegalArgumentException" then some (zI 1, q.2) else none) (tbA M a1 1) (tbA M a1 2) := by
    refine lw_n3 (fun v hv => ?_) (fun k hk => ?_)
    · unfold tbA at hv ⊢
      split at hv
      · rename_i hx; rw [if_pos hx]; exact hv
      · cases hv
    · unfold tbA at hk ⊢
      split at hk
      · cases hk
      · rename_i hx; rw [if_neg hx]; cases hk; exact ⟨rfl, rfl⟩
  refine lw_call (cv := Int32.toInt64) (A1 := tbA M a1 1) (A2 := tbA M a1 2) hT (ev_mono hct (fun r hr => ⟨hr.1, hr.2.1, hr.2.2.2⟩)) n3 (fun r2 t2 d2 I2 res f2 => ?_)
  have hx2 : ∀ k, k < L → r2.2 b k = .int (xs k) := fun k hk => by rw [f2 b (by omega) (by omega)]; exact hx k hk
  refine ev_sc 1 hT (by omega) hx2 ?_
  rw [e1]
  refine ev_call (ml_table ha1 hmT hp (hM.out (fun b x1 x2 => f2 b (by omega) (by omega)))) (fun r4 h4 => ?_)
  exact lw_end (cv := Int32.toInt64) (cont := k23 (zI i + zI 6)) hT res h4.1 (h4.2.2 o (by omega)) (hk _ (lw_done hT I2 h4.2.1 (hp'.mono (by omega) hK) hx2 h4.2.2))
theorem lw_519 {k23 : Int32 → mm_V → Option (Int32 × mm_V)} {i : Nat} {m : mm_V} (hT : lwT e b z q o L) (hi : i + 6 ≤ L) (hK : K + 200 ≤ 1000000) (h : lwI e b z q L xs K m) (hk : ∀ m', lwI e b z q L xs (K + 200) m' → Ev (k23 (zI i + zI 6) m') P) : Ev (L_law_b519 e k23 b z q o (zI i) m) P := by
  have hT' := hT
  obtain ⟨hcT, hmT, hb, ho, hbz, hq, hoq, hL⟩ := hT'
  obtain ⟨t, d, C, G, M, hI, hM, hp, hx⟩ := h
  unfold L_law_b519 L_law_b572 L_law_b1713 L_play
  simp only [LT, zI_neg]
  obtain ⟨a1, ha1, e1⟩ := zI_ex (xs (i + 1))
  refine ev_sc 1 hT (by omega) hx ?_
  rw [e1]
  have hp' : pureI C (plG C G a1) M (K + 200) := by
    unfold plG
    split
    · exact (plS_ok a1.toNat 0 K G hp (by omega)).mono (by omega) hK
    · exact hp.mono (by omega) hK
  have n3 : lwN (fun q => if q.1 = "java/lang/IllegalArgumentException" then some (zI 1, q.2) else none) (plA C G a1 1) (plA C G a1 2) := by
    refine lw_n3 (fun v hv => ?_) (fun k hk => ?_)
    · unfold plA at hv ⊢
      split at hv
      · rename_i hx; rw [if_pos hx]; exact hv
      · cases hv
    · unfold plA at hk ⊢
      split at hk
      · cases hk
      · rename_i hx; rw [if_neg hx]; cases hk; exact ⟨rfl, rfl⟩
  refine lw_call (cv := Int32.toInt64) (A1 := plA C G a1 1) (A2 := plA C G a1 2) hT (cl_ex (cl_play ha1 hcT hp hK hI)) n3 (fun r2 t2 d2 I2 res f2 => ?_)
  have hx2 : ∀ k, k < L → r2.2 b k = .int (xs k) := fun k hk => by rw [f2 b (by omega) (by omega)]; exact hx k hk
  refine ev_sc 1 hT (by omega) hx2 ?_
  rw [e1]
  refine ev_call (ml_play ha1 hmT hp hK (hM.out (fun b x1 x2 => f2 b (by omega) (by omega)))) (fun r4 h4 => ?_)
  exact lw_end (cv := Int32.toInt64) (cont := k23 (zI i + zI 6)) hT res h4.1 (h4.2.2 o (by omega)) (hk _ (lw_done hT I2 h4.2.1 hp' hx2 h4.2.2))
theorem lw_160 {k23 : Int32 → mm_V → Option (Int32 × mm_V)} {i : Nat} {m : mm_V} (hT : lwT e b z q o L) (hi : i + 6 ≤ L) (hK : K + 200 ≤ 1000000) (h : lwI e b z q L xs K m) (hk : ∀ m', lwI e b z q L xs (K + 200) m' → Ev (k23 (zI i + zI 6) m') P) : Ev (L_law_b160 e k23 b z q o (zI i) m) P := by
  have hT' := hT
  obtain ⟨hcT, hmT, hb, ho, hbz, hq, hoq, hL⟩ := hT'
  obtain ⟨t, d, C, G, M, hI, hM, hp, hx⟩ := h
  unfold L_law_b160 L_law_b1713
  simp only [LT, zI_neg]
  refine ev_sc 1 hT (by omega) hx ?_
  refine ev_sc 2 hT (by omega) hx ?_
  refine ev_sc 3 hT (by omega) hx ?_
  refine ev_sc 4 hT (by omega) hx ?_
  refine ev_sc 5 hT (by omega) hx ?_
  refine ev_call (cl_feed hcT hp hI) (fun r2 h2 => ?_)
  have hx2 : ∀ k, k < L → r2.2 b k = .int (xs k) := fun k hk => by rw [h2.2.2 b (by omega)]; exact hx k hk
  have hM2 := hM.out (m' := r2.2) (fun b x1 x2 => h2.2.2 b (by omega))
  refine ev_sc 1 hT (by omega) hx2 ?_
  refine ev_sc 2 hT (by omega) hx2 ?_
  refine ev_sc 3 hT (by omega) hx2 ?_
  refine ev_sc 4 hT (by omega) hx2 ?_
  refine ev_sc 5 hT (by omega) hx2 ?_
  refine ev_call (ml_feed hmT hp hM2) (fun r4 h4 => ?_)
  exact ev_yes (by rw [h2.1, h4.1]) (hk _ (lw_done hT h2.2.1 h4.2.1 ((fdM_ok hp).mono (by omega) hK) hx2 h4.2.2))
theorem lw_289 {k23 : Int32 → mm_V → Option (Int32 × mm_V)} {i : Nat} {m : mm_V} (hT : lwT e b z q o L) (hi : i + 6 ≤ L) (hK : K + 200 ≤ 1000000) (h : lwI e b z q L xs K m) (hk : ∀ m', lwI e b z q L xs (K + 200) m' → Ev (k23 (zI i + zI 6) m') P) : Ev (L_law_b289 e k23 b z q o (zI i) m) P := by
  have hT' := hT
  obtain ⟨hcT, hmT, hb, ho, hbz, hq, hoq, hL⟩ := hT'
  obtain ⟨t, d, C, G, M, hI, hM, hp, hx⟩ := h
  unfold L_law_b289 L_law_b1713
  simp only [LT, zI_neg]
  refine ev_call (cl_fault hcT hI) (fun r2 h2 => ?_)
  have hx2 : ∀ k, k < L → r2.2 b k = .int (xs k) := fun k hk => by rw [h2.2.2 b (by omega)]; exact hx k hk
  have hM2 := hM.out (m' := r2.2) (fun b x1 x2 => h2.2.2 b (by omega))
  refine ev_call (ml_fault hmT hM2) (fun r4 h4 => ?_)
  exact ev_yes (by rw [h2.1, h4.1]) (hk _ (lw_done hT h2.2.1 h4.2.1 (hp.mono (by omega) hK) hx2 h4.2.2))
theorem lw_575 {k23 : Int32 → mm_V → Option (Int32 × mm_V)} {i : Nat} {m : mm_V} (hT : lwT e b z q o L) (hi : i + 6 ≤ L) (hK : K + 200 ≤ 1000000) (h : lwI e b z q L xs K m) (hk : ∀ m', lwI e b z q L xs (K + 200) m' → Ev (k23 (zI i + zI 6) m') P) : Ev (L_law_b575 e k23 b z q o (zI i) m) P := by
  have hT' := hT
  obtain ⟨hcT, hmT, hb, ho, hbz, hq, hoq, hL⟩ := hT'
  obtain ⟨t, d, C, G, M, hI, hM, hp, hx⟩ := h
  unfold L_law_b575 L_law_b1713
  simp only [LT, zI_neg]
  refine ev_call (cl_undo hcT hp hI) (fun r2 h2 => ?_)
  have hx2 : ∀ k, k < L → r2.2 b k = .int (xs k) := fun k hk => by rw [h2.2.2 b (by omega)]; exact hx k hk
  have hM2 := hM.out (m' := r2.2) (fun b x1 x2 => h2.2.2 b (by omega))
  refine ev_call (ml_undo hmT hp hM2) (fun r4 h4 => ?_)
  exact ev_yes (by rw [h2.1, h4.1]) (hk _ (lw_done hT h2.2.1 h4.2.1 ((unG_ok hp).mono (by omega) hK) hx2 h4.2.2))
theorem lw_1700 {k23 : Int32 → mm_V → Option (Int32 × mm_V)} {i : Nat} {m : mm_V} (hT : lwT e b z q o L) (hi : i + 6 ≤ L) (hK : K + 200 ≤ 1000000) (h : lwI e b z q L xs K m) (hk : ∀ m', lwI e b z q L xs (K + 200) m' → Ev (k23 (zI i + zI 6) m') P) : Ev (L_law_b1700 e k23 b z q o (zI i) m) P := by
  have hT' := hT
  obtain ⟨hcT, hmT, hb, ho, hbz, hq, hoq, hL⟩ := hT'
  obtain ⟨t, d, C, G, M, hI, hM, hp, hx⟩ := h
  unfold L_law_b1700 L_law_b1713
  simp only [LT, zI_neg]
  refine ev_call (cl_restore hcT hp hI) (fun r2 h2 => ?_)
  have hx2 : ∀ k, k < L → r2.2 b k = .int (xs k) := fun k hk => by rw [h2.2.2 b (by omega)]; exact hx k hk
  have hM2 := hM.out (m' := r2.2) (fun b x1 x2 => h2.2.2 b (by omega))
  refine ev_call (ml_restore hmT hp hM2) (fun r4 h4 => ?_)
  exact ev_yes (by rw [h2.1, h4.1]) (hk _ (lw_done hT h2.2.1 h4.2.1 ((resG_ok hp).mono (by omega) hK) hx2 h4.2.2))
theorem lw_1689 {k23 : Int32 → mm_V → Option (Int32 × mm_V)} {i : Nat} {m : mm_V} (hT : lwT e b z q o L) (hi : i + 6 ≤ L) (hK : K + 200 ≤ 1000000) (h : lwI e b z q L xs K m) (hk : ∀ m', lwI e b z q L xs (K + 200) m' → Ev (k23 (zI i + zI 6) m') P) : Ev (L_law_b1689 e k23 b z q o (zI i) m) P := by
  have hT' := hT
  obtain ⟨hcT, hmT, hb, ho, hbz, hq, hoq, hL⟩ := hT'
  obtain ⟨t, d, C, G, M, hI, hM, hp, hx⟩ := h
  unfold L_law_b1689 L_law_b1713
  simp only [LT, zI_neg]
  refine ev_call (cl_image hcT hp hI) (fun r2 h2 => ?_)
  have hx2 : ∀ k, k < L → r2 b k = .int (xs k) := fun k hk => by rw [h2.2 b (by omega)]; exact hx k hk
  have hM2 := hM.out (m' := r2) (fun b x1 x2 => h2.2 b (by omega))
  refine ev_call (ml_image hmT hp hM2) (fun r4 h4 => ?_)
  exact hk _ (lw_done hT h2.1 h4.1 ((imgG_ok hp).mono (by omega) hK) hx2 h4.2)
theorem lw_494 {k23 : Int32 → mm_V → Option (Int32 × mm_V)} {i : Nat} {m : mm_V} (hT : lwT e b z q o L) (hi : i + 6 ≤ L) (hK : K + 200 ≤ 1000000) (h : lwI e b z q L xs K m) (hk : ∀ m', lwI e b z q L xs (K + 200) m' → Ev (k23 (zI i + zI 6) m') P) : Ev (L_law_b494 e k23 b z q o (zI i) m) P := by
  have hT' := hT
  obtain ⟨hcT, hmT, hb, ho, hbz, hq, hoq, hL⟩ := hT'
  obtain ⟨t, d, C, G, M, hI, hM, hp, hx⟩ := h
  unfold L_law_b494 L_law_b1713
  simp only [LT, zI_neg]
  obtain ⟨a1, ha1, e1⟩ := zI_ex (xs (i + 1))
  refine ev_sc 1 hT (by omega) hx ?_
  rw [e1]
  by_cases hd : drwOk C G a1
  · refine ev_call ((cl_draw ha1 hcT hp hI).1 hd) (fun r2 h2 => ?_)
    have hx2 : ∀ k, k < L → r2.2 b k = .int (xs k) := fun k hk => by rw [h2.2.2 b (by omega)]; exact hx k hk
    have hM2 := hM.out (m' := r2.2) (fun b x1 x2 => h2.2.2 b (by omega))
    refine ev_sc 1 hT (by omega) hx2 ?_
    rw [e1]
    refine ev_call ((ml_draw ha1 hmT hp hM2).1 hd) (fun r4 h4 => ?_)
    exact ev_yes (by rw [h2.1, h4.1]) (hk _ (lw_done hT h2.2.1 h4.2.1 ((stepG_ok hp hd.1 (by have := hd.2; omega) (by omega)).mono (by omega) hK) hx2 h4.2.2))
  · refine ev_call ((cl_draw ha1 hcT hp hI).2 hd) (fun r2 h2 => ?_)
    have hx2 : ∀ k, k < L → r2.2 b k = .int (xs k) := fun k hk => by rw [h2.2.2 b (by omega)]; exact hx k hk
    have hM2 := hM.out (m' := r2.2) (fun b x1 x2 => h2.2.2 b (by omega))
    refine ev_sc 1 hT (by omega) hx2 ?_
    rw [e1]
    refine ev_call ((ml_draw ha1 hmT hp hM2).2 hd) (fun r4 h4 => ?_)
    exact ev_yes (by rw [h2.1, h4.1]) (hk _ (lw_done hT h2.2.1 h4.2.1 ((rdM_ok hp (by omega)).mono (by omega) hK) hx2 h4.2.2))
theorem lw_644 {k23 : Int32 → mm_V → Option (Int32 × mm_V)} {i : Nat} {m : mm_V} (hT : lwT e b z q o L) (hi : i + 6 ≤ L) (hK : K + 200 ≤ 1000000) (h : lwI e b z q L xs K m) (hk : ∀ m', lwI e b z q L xs (K + 200) m' → Ev (k23 (zI i + zI 6) m') P) : Ev (L_law_b644 e k23 b z q o (zI i) m) P := by
  have hT' := hT
  obtain ⟨hcT, hmT, hb, ho, hbz, hq, hoq, hL⟩ := hT'
  obtain ⟨t, d, C, G, M, hI, hM, hp, hx⟩ := h
  unfold L_law_b644
  simp only [LT, zI_neg]
  obtain ⟨a1, ha1, e1⟩ := zI_ex (xs (i + 1))
  have hA : ∀ bb : Bool, ∀ k, hasA C G a1 bb = .inr k → k = 1 := by
    intro bb k hk
    unfold hasA at hk
    repeat' split at hk
    all_goals first | (cases hk; rfl) | cases hk
  have main : ∀ bb : Bool, (bb = true ↔ ¬ xs (i + 2) = zI 0) → Ev (L_law_b665 e k23 b z q o (zI i) (zI a1) (bZ bb) m) P := by
    intro bb hbb
    unfold L_law_b665 L_has
    simp only [LT, zI_neg]
    refine lw_call (cv := Int32.toInt64) (A1 := hasA C G a1 bb) hT (cl_ex (cl_has ha1 hcT hp hI)) (lw_n1 (hA bb)) (fun r2 t2 d2 I2 res f2 => ?_)
    have hx2 : ∀ k, k < L → r2.2 b k = .int (xs k) := fun k hk => by rw [f2 b (by omega) (by omega)]; exact hx k hk
    have fin : Ev (L_law_b692 e k23 b z q o (zI i) r2.1 (zI a1) (bZ bb) r2.2) P := by
      unfold L_law_b692 L_law_b725 L_law_b1713
      simp only [LT, zI_neg]
      refine ev_call (ml_has ha1 hmT hp (hM.out (fun b x1 x2 => f2 b (by omega) (by omega)))) (fun r4 h4 => ?_)
      exact lw_end (cv := Int32.toInt64) (cont := k23 (zI i + zI 6)) hT res h4.1 (h4.2.2 o (by omega)) (hk _ (lw_done hT I2 h4.2.1 (hp.mono (by omega) hK) hx2 h4.2.2))
    refine ev_sc 1 hT (by omega) hx2 (ev_sc 2 hT (by omega) hx2 ?_)
    rw [e1]
    by_cases h0 : xs (i + 2) = zI 0
    · have hb0 : bb = false := by
        cases bb with
        | false => rfl
        | true => exact absurd h0 (hbb.mp rfl)
      subst hb0
      exact ev_yes h0 fin
    · have hb1 : bb = true := hbb.mpr h0
      subst hb1
      exact ev_no h0 fin
  refine ev_sc 1 hT (by omega) hx (ev_sc 2 hT (by omega) hx ?_)
  rw [e1]
  by_cases h0 : xs (i + 2) = zI 0
  · exact ev_yes h0 (main false (by simp [h0]))
  · exact ev_no h0 (main true (by simp [h0]))
theorem lw_807 {k23 : Int32 → mm_V → Option (Int32 × mm_V)} {i : Nat} {m : mm_V} (hT : lwT e b z q o L) (hi : i + 6 ≤ L) (hK : K + 200 ≤ 1000000) (h : lwI e b z q L xs K m) (hk : ∀ m', lwI e b z q L xs (K + 200) m' → Ev (k23 (zI i + zI 6) m') P) : Ev (L_law_b807 e k23 b z q o (zI i) m) P := by
  have hT' := hT
  obtain ⟨hcT, hmT, hb, ho, hbz, hq, hoq, hL⟩ := hT'
  obtain ⟨t, d, C, G, M, hI, hM, hp, hx⟩ := h
  unfold L_law_b807
  simp only [LT, zI_neg]
  obtain ⟨a1, ha1, e1⟩ := zI_ex (xs (i + 1))
  obtain ⟨a3, ha3, e3⟩ := zI_ex (xs (i + 3))
  have hA : ∀ bb : Bool, ∀ k, twA a1 bb a3 = .inr k → k = 1 ∨ k = 2 := by
    intro bb k hk
    unfold twA at hk
    repeat' split at hk
    all_goals first | (cases hk; exact Or.inl rfl) | (cases hk; exact Or.inr rfl) | cases hk
  have main : ∀ bb : Bool, (bb = true ↔ ¬ xs (i + 2) = zI 0) → Ev (L_law_b828 e k23 b z q o (zI i) (zI a1) (bZ bb) m) P := by
    intro bb hbb
    unfold L_law_b828 L_two
    simp only [LT, zI_neg]
    refine ev_sc 3 hT (by omega) hx ?_
    rw [e3]
    refine lw_call (cv := fun v => v) (A1 := twA a1 bb a3) hT (cl_ex (cl_two ha1 ha3 hcT hI)) (lw_n2 (hA bb)) (fun r2 t2 d2 I2 res f2 => ?_)
    have hx2 : ∀ k, k < L → r2.2 b k = .int (xs k) := fun k hk => by rw [f2 b (by omega) (by omega)]; exact hx k hk
    have fin : Ev (L_law_b861 e k23 b z q o (zI i) r2.1 (zI a1) (bZ bb) r2.2) P := by
      unfold L_law_b861 L_law_b899 L_law_b1713
      simp only [LT, zI_neg]
      refine ev_sc 3 hT (by omega) hx2 ?_
      rw [e3]
      refine ev_call (ml_two ha1 ha3 hmT (hM.out (fun b x1 x2 => f2 b (by omega) (by omega)))) (fun r4 h4 => ?_)
      exact lw_end (cv := fun v => v) (cont := k23 (zI i + zI 6)) hT res h4.1 (h4.2.2 o (by omega)) (hk _ (lw_done hT I2 h4.2.1 (hp.mono (by omega) hK) hx2 h4.2.2))
    refine ev_sc 1 hT (by omega) hx2 (ev_sc 2 hT (by omega) hx2 ?_)
    rw [e1]
    by_cases h0 : xs (i + 2) = zI 0
    · have hb0 : bb = false := by
        cases bb with
        | false => rfl
        | true => exact absurd h0 (hbb.mp rfl)
      subst hb0
      exact ev_yes h0 fin
    · have hb1 : bb = true := hbb.mpr h0
      subst hb1
      exact ev_no h0 fin
  refine ev_sc 1 hT (by omega) hx (ev_sc 2 hT (by omega) hx ?_)
  rw [e1]
  by_cases h0 : xs (i + 2) = zI 0
  · exact ev_yes h0 (main false (by simp [h0]))
  · exact ev_no h0 (main true (by simp [h0]))
theorem lw_1253 {k23 : Int32 → mm_V → Option (Int32 × mm_V)} {i : Nat} {m : mm_V} (hT : lwT e b z q o L) (hi : i + 6 ≤ L) (hK : K + 200 ≤ 1000000) (h : lwI e b z q L xs K m) (hk : ∀ m', lwI e b z q L xs (K + 200) m' → Ev (k23 (zI i + zI 6) m') P) : Ev (L_law_b1253 e k23 b z q o (zI i) m) P := by
  have hT' := hT
  obtain ⟨hcT, hmT, hb, ho, hbz, hq, hoq, hL⟩ := hT'
  obtain ⟨t, d, C, G, M, hI, hM, hp, hx⟩ := h
  unfold L_law_b1253
  simp only [LT, zI_neg]
  obtain ⟨a2, ha2, e2⟩ := zI_ex (xs (i + 2))
  obtain ⟨a3, ha3, e3⟩ := zI_ex (xs (i + 3))
  obtain ⟨a5, ha5, e5⟩ := zI_ex (xs (i + 5))
  have hA : ∀ bb : Bool, ∀ k, vnA C (xs (i + 1)) a2 a3 bb a5 = .inr k → k = 1 ∨ k = 2 := by
    intro bb k hk
    unfold vnA at hk
    repeat' split at hk
    all_goals first | (cases hk; exact Or.inl rfl) | (cases hk; exact Or.inr rfl) | cases hk
  have main : ∀ bb : Bool, (bb = true ↔ ¬ xs (i + 4) = zI 0) → Ev (L_law_b1286 e k23 b z q o (zI i) (xs (i + 1)) (zI a2) (zI a3) (bZ bb) m) P := by
    intro bb hbb
    unfold L_law_b1286 L_evenings
    simp only [LT, zI_neg]
    refine ev_sc 5 hT (by omega) hx ?_
    rw [e5]
    refine lw_call (cv := Int32.toInt64) (A1 := vnA C (xs (i + 1)) a2 a3 bb a5) hT (cl_ex (cl_evenings ha2 ha3 ha5 hcT hp hI)) (lw_n2 (hA bb)) (fun r2 t2 d2 I2 res f2 => ?_)
    have hx2 : ∀ k, k < L → r2.2 b k = .int (xs k) := fun k hk => by rw [f2 b (by omega) (by omega)]; exact hx k hk
    have fin : Ev (L_law_b1331 e k23 b z q o (zI i) r2.1 (xs (i + 1)) (zI a2) (zI a3) (bZ bb) r2.2) P := by
      unfold L_law_b1331 L_law_b1370 L_law_b1713
      simp only [LT, zI_neg]
      refine ev_sc 5 hT (by omega) hx2 ?_
      rw [e5]
      refine ev_call (ml_evenings ha2 ha3 ha5 hmT hp (hM.out (fun b x1 x2 => f2 b (by omega) (by omega)))) (fun r4 h4 => ?_)
      exact lw_end (cv := Int32.toInt64) (cont := k23 (zI i + zI 6)) hT res h4.1 (h4.2.2 o (by omega)) (hk _ (lw_done hT I2 h4.2.1 (hp.mono (by omega) hK) hx2 h4.2.2))
    refine ev_sc 1 hT (by omega) hx2 (ev_sc 2 hT (by omega) hx2 (ev_sc 3 hT (by omega) hx2 (ev_sc 4 hT (by omega) hx2 ?_)))
    rw [e2, e3]
    by_cases h0 : xs (i + 4) = zI 0
    · have hb0 : bb = false := by
        cases bb with
        | false => rfl
        | true => exact absurd h0 (hbb.mp rfl)
      subst hb0
      exact ev_yes h0 fin
    · have hb1 : bb = true := hbb.mpr h0
      subst hb1
      exact ev_no h0 fin
  refine ev_sc 1 hT (by omega) hx (ev_sc 2 hT (by omega) hx (ev_sc 3 hT (by omega) hx (ev_sc 4 hT (by omega) hx ?_)))
  rw [e2, e3]
  by_cases h0 : xs (i + 4) = zI 0
  · exact ev_yes h0 (main false (by simp [h0]))
  · exact ev_no h0 (main true (by simp [h0]))
theorem rd_lx {g : mm_T} {a n : Nat} (hg : g a = some (31, n)) : mm_lx g a = some (zI n) := by simp [mm_lx, hg, zI_nI]
theorem law_loop (hT : lwT e b z q o L) : ∀ (n i K : Nat) (m : mm_V), L < i + 6 * n → i ≤ L → K + 200 * n ≤ 1000000 → lwI e b z q L xs K m → Ev (L_law_L23 e b z q o n (zI i) m) (fun y => y.1 = zI 1) := by
  intro n
  induction n with
  | zero => intro i K m h1 h2; omega
  | succ n ih =>
    intro i K m h1 h2 hK h
    have hL := hT.2.2.2.2.2.2.2
    rw [L_law_L23]
    simp only [LT, zI_neg]
    refine ev_eq (rd_lx hT.2.2.1) ?_
    rw [zI_sub]
    by_cases hi : i + 6 ≤ L
    · have hk : ∀ m', lwI e b z q L xs (K + 200) m' → Ev (L_law_L23 e b z q o n (zI i + zI 6) m') (fun y => y.1 = zI 1) := fun m' hm' => by
        rw [show (zI (i : Int) + zI 6 : Int32) = zI ((i + 6 : Nat) : Int) from zI_add _ _]
        exact ih (i + 6) (K + 200) m' (by omega) (by omega) (by omega) hm'
      have hx := h
      obtain ⟨-, -, -, -, -, -, -, -, hx⟩ := hx
      refine ev_iln rfl rfl (by omega) (ev_ai i hT.2.2.1 rfl (by omega) (by omega) (hx i (by omega)) ?_)
      have hK' : K + 200 ≤ 1000000 := by omega
      by_cases c0 : xs i &&& zI 31 = zI 0
      · exact ev_yes c0 (lw_160 hT hi hK' h hk)
      refine ev_no c0 ?_
      by_cases c1 : xs i &&& zI 31 = zI 1
      · exact ev_yes c1 (lw_233 hT hi hK' h hk)
      refine ev_no c1 ?_
      by_cases c2 : xs i &&& zI 31 = zI 2
      · exact ev_yes c2 (lw_289 hT hi hK' h hk)
      refine ev_no c2 ?_
      by_cases c3 : xs i &&& zI 31 = zI 3
      · exact ev_yes c3 (lw_302 hT hi hK' h hk)
      refine ev_no c3 ?_
      by_cases c4 : xs i &&& zI 31 = zI 4
      · exact ev_yes c4 (lw_358 hT hi hK' h hk)
      refine ev_no c4 ?_
      by_cases c5 : xs i &&& zI 31 = zI 5
      · exact ev_yes c5 (lw_426 hT hi hK' h hk)
      refine ev_no c5 ?_
      by_cases c6 : xs i &&& zI 31 = zI 6
      · exact ev_yes c6 (lw_494 hT hi hK' h hk)
      refine ev_no c6 ?_
      by_cases c7 : xs i &&& zI 31 = zI 7
      · exact ev_yes c7 (lw_519 hT hi hK' h hk)
      refine ev_no c7 ?_
      by_cases c8 : xs i &&& zI 31 = zI 8
      · exact ev_yes c8 (lw_575 hT hi hK' h hk)
      refine ev_no c8 ?_
      by_cases c9 : xs i &&& zI 31 = zI 9
      · exact ev_yes c9 (lw_588 hT hi hK' h hk)
      refine ev_no c9 ?_
      by_cases c10 : xs i &&& zI 31 = zI 10
      · exact ev_yes c10 (lw_644 hT hi hK' h hk)
      refine ev_no c10 ?_
      by_cases c11 : xs i &&& zI 31 = zI 11
      · exact ev_yes c11 (lw_728 hT hi hK' h hk)
      refine ev_no c11 ?_
      by_cases c12 : xs i &&& zI 31 = zI 12
      · exact ev_yes c12 (lw_807 hT hi hK' h hk)
      refine ev_no c12 ?_
      by_cases c13 : xs i &&& zI 31 = zI 13
      · exact ev_yes c13 (lw_902 hT hi hK' h hk)
      refine ev_no c13 ?_
      by_cases c14 : xs i &&& zI 31 = zI 14
      · exact ev_yes c14 (lw_970 hT hi hK' h hk)
      refine ev_no c14 ?_
      by_cases c15 : xs i &&& zI 31 = zI 15
      · exact ev_yes c15 (lw_1037 hT hi hK' h hk)
      refine ev_no c15 ?_
      by_cases c16 : xs i &&& zI 31 = zI 16
      · exact ev_yes c16 (lw_1117 hT hi hK' h hk)
      refine ev_no c16 ?_
      by_cases c17 : xs i &&& zI 31 = zI 17
      · exact ev_yes c17 (lw_1185 hT hi hK' h hk)
      refine ev_no c17 ?_
      by_cases c18 : xs i &&& zI 31 = zI 18
      · exact ev_yes c18 (lw_1253 hT hi hK' h hk)
      refine ev_no c18 ?_
      by_cases c19 : xs i &&& zI 31 = zI 19
      · exact ev_yes c19 (lw_1373 hT hi hK' h hk)
      refine ev_no c19 ?_
      by_cases c20 : xs i &&& zI 31 = zI 20
      · exact ev_yes c20 (lw_1429 hT hi hK' h hk)
      refine ev_no c20 ?_
      by_cases c21 : xs i &&& zI 31 = zI 21
      · exact ev_yes c21 (lw_1485 hT hi hK' h hk)
      refine ev_no c21 ?_
      by_cases c22 : xs i &&& zI 31 = zI 22
      · exact ev_yes c22 (lw_1541 hT hi hK' h hk)
      refine ev_no c22 ?_
      by_cases c23 : xs i &&& zI 31 = zI 23
      · exact ev_yes c23 (lw_1609 hT hi hK' h hk)
      refine ev_no c23 ?_
      by_cases c24 : xs i &&& zI 31 = zI 24
      · exact ev_yes c24 (lw_1689 hT hi hK' h hk)
      refine ev_no c24 ?_
      by_cases c25 : xs i &&& zI 31 = zI 25
      · exact ev_yes c25 (lw_1700 hT hi hK' h hk)
      refine ev_no c25 ?_
      unfold L_law_b1713
      simp only [LT, zI_neg]
      obtain ⟨t, d, C, G, M, g1, g2, g3, g4⟩ := h
      exact hk m ⟨t, d, C, G, M, g1, g2, g3.mono (by omega) hK', g4⟩
    · exact ev_ilp rfl rfl (by omega) (ev_rz (Or.inr rfl) rfl)
end LAW
