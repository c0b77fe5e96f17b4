/-! THE CLASS, made: its parts. -/
theorem tg_at (g : mm_T) (z t n : Nat) : mm_tg g z t n z = some (t, n) := if_pos rfl
theorem tg_ne (g : mm_T) {z : Nat} (t n : Nat) {b : Nat} (h : b ≠ z) : mm_tg g z t n b = g b := if_neg h
theorem nw_at (m : mm_V) (z : Nat) (f : Nat → Value) : mm_nw m z f z = f := if_pos rfl
theorem nw_ne (m : mm_V) {z : Nat} (f : Nat → Value) {b : Nat} (h : b ≠ z) : mm_nw m z f b = m b := if_neg h
section MKC
variable {e : (Nat → Nat) × Nat} {a t z : Nat} {g : mm_T} {m : mm_V} {β : Type} {P : β → Prop}
theorem ev_new {z' t n : Nat} {f : Nat → Value} {F : mm_S → Option β} (hz : z = z') (h : Ev (F (mm_tg g z' t n, mm_nw m z' f, z' + 1)) P) : Ev ((mm_new g m z t n f).bind F) P := by
  subst hz
  exact h
theorem ev_sr {t n t2 n2 b : Nat} {i : Int32} (j : Nat) {F : mm_V → Option β} (hg : g a = some (t, n)) (hi : i = zI j) (hj : j < n) (hn : n ≤ 1000000) (hb : g b = some (t2, n2)) (h : Ev (F (mm_up m a j (.ref b))) P) : Ev ((mm_sr g m t t2 n2 a i b).bind F) P := by
  have : mm_sr g m t t2 n2 a i b = some (mm_up m a j (.ref b)) := by
    rw [hi]
    simp [mm_sr, ix_z hg rfl hj hn, hb]
  rw [this]; exact h
theorem mk3 {F : mm_S → Option β} (hg : g a = some (3, 2)) (hm : m a 1 = .int (zI 0)) (kk : ∀ g' m', fanT g' a → fanR m' a [] → (∀ b, b ≠ a + 1 → g' b = g b) → (∀ b, b ≠ a → b ≠ a + 1 → m' b = m b) → Ev (F (g', m', a + 2)) P) : Ev ((X3_init e a g m (a + 1)).bind F) P := by
  have h1 : mm_tg g (a + 1) 20 10 a = some (3, 2) := by rw [tg_ne _ _ _ (by omega)]; exact hg
  have hX : X3_init e a g m (a + 1) = some (mm_tg g (a + 1) 20 10, mm_up (mm_nw m (a + 1) (fun _ => defaultValue (mm_aty 20))) a 0 (.ref (a + 1)), a + 2) := by
    unfold X3_init mm_new
    rw [Option.bind_some]
    dsimp only
    rw [wr_pf h1, Option.bind_some]
  rw [hX]
  refine kk _ _ ⟨h1, tg_at _ _ _ _⟩ ⟨up_at _ _ _ _, ?_, Nat.zero_le _, fun k c hc => (by cases hc)⟩ (fun b hb => tg_ne _ _ _ hb) (fun b x1 x2 => by rw [up_row _ _ _ x1, nw_ne _ _ x2])
  rw [up_ne _ _ (by omega), nw_ne _ _ (by omega)]
  exact hm
theorem mk3n {F : mm_S → Option β} (kk : ∀ g' m', fanT g' a → fanR m' a [] → (∀ b, b < a → g' b = g b ∧ m' b = m b) → Ev (F (g', m', a + 2)) P) : Ev ((mm_new g m a 3 2 df_X3).bind fun s => (X3_init e a s.1 s.2.1 s.2.2).bind F) P := by
  refine ev_new rfl ?_
  dsimp only
  refine mk3 (tg_at _ _ _ _) (by rw [nw_at]; rfl) (fun g' m' h1 h2 h3 h4 => kk g' m' h1 h2 (fun b hb => ⟨?_, ?_⟩))
  · rw [h3 b (by omega), tg_ne _ _ _ (by omega)]
  · rw [h4 b (by omega) (by omega), nw_ne _ _ (by omega)]
theorem fanT.cong {g g' : mm_T} {a : Nat} (h : fanT g a) (h1 : ∀ b, a ≤ b → b < a + 2 → g' b = g b) : fanT g' a := ⟨by rw [h1 _ (by omega) (by omega)]; exact h.1, by rw [h1 _ (by omega) (by omega)]; exact h.2⟩
theorem toldT.cong {g g' : mm_T} {t : Nat} (h : toldT g t) (h1 : ∀ b, t ≤ b → b < t + 19 → g' b = g b) : toldT g' t := by
  obtain ⟨a0, a1, a2, a3, a4, a5, a6, a7⟩ := h
  exact ⟨by rw [h1 _ (by omega) (by omega)]; exact a0, by rw [h1 _ (by omega) (by omega)]; exact a1, by rw [h1 _ (by omega) (by omega)]; exact a2, by rw [h1 _ (by omega) (by omega)]; exact a3, by rw [h1 _ (by omega) (by omega)]; exact a4, by rw [h1 _ (by omega) (by omega)]; exact a5, by rw [h1 _ (by omega) (by omega)]; exact a6, fun i hi => (a7 i hi).cong (fun b x1 x2 => h1 b (by omega) (by omega))⟩
theorem gameT.cong {g g' : mm_T} {t : Nat} (h : gameT g t) (h1 : ∀ b, t ≤ b → b < t + 20 → g' b = g b) : gameT g' t := by
  obtain ⟨a0, a1, a2, a3, a4, a5, a6, a7⟩ := h
  exact ⟨by rw [h1 _ (by omega) (by omega)]; exact a0, by rw [h1 _ (by omega) (by omega)]; exact a1, a2.cong (fun b x1 x2 => h1 b (by omega) (by omega)), by rw [h1 _ (by omega) (by omega)]; exact a3, by rw [h1 _ (by omega) (by omega)]; exact a4, by rw [h1 _ (by omega) (by omega)]; exact a5, by rw [h1 _ (by omega) (by omega)]; exact a6, fun i hi => (a7 i hi).cong (fun b x1 x2 => h1 b (by omega) (by omega))⟩
theorem logT.cong {g g' : mm_T} {l : Nat} (h : logT g l) (h1 : ∀ b, l ≤ b → b < l + 63 → g' b = g b) : logT g' l := ⟨by rw [h1 _ (by omega) (by omega)]; exact h.1, by rw [h1 _ (by omega) (by omega)]; exact h.2.1, fun i hi => by rw [h1 _ (by omega) (by omega)]; exact h.2.2 i hi⟩
theorem plaT.cong {g g' : mm_T} {y : Nat} (h : plaT g y) (h1 : ∀ b, y ≤ b → b < y + 5 → g' b = g b) : plaT g' y := by
  obtain ⟨a0, a1, a2, a3, a4⟩ := h
  exact ⟨by rw [h1 _ (by omega) (by omega)]; exact a0, by rw [h1 _ (by omega) (by omega)]; exact a1, by rw [h1 _ (by omega) (by omega)]; exact a2, by rw [h1 _ (by omega) (by omega)]; exact a3, by rw [h1 _ (by omega) (by omega)]; exact a4⟩
theorem outT.cong {g g' : mm_T} {u : Nat} (h : outT g u) (h1 : ∀ b, u ≤ b → b < u + 110 → g' b = g b) : outT g' u := by
  obtain ⟨a0, a1, a2, a3, a4, a5, a6⟩ := h
  exact ⟨by rw [h1 _ (by omega) (by omega)]; exact a0, by rw [h1 _ (by omega) (by omega)]; exact a1, a2.cong (fun b x1 x2 => h1 b (by omega) (by omega)), by rw [h1 _ (by omega) (by omega)]; exact a3, by rw [h1 _ (by omega) (by omega)]; exact a4, by rw [h1 _ (by omega) (by omega)]; exact a5, fun i hi => (a6 i hi).cong (fun b x1 x2 => h1 b (by omega) (by omega))⟩
theorem belT.cong {g g' : mm_T} {w : Nat} (h : belT g w) (h1 : ∀ b, w ≤ b → b < w + 33 → g' b = g b) : belT g' w := by
  obtain ⟨a0, a1, a2, a3, a4, a5, a6, a7, a8⟩ := h
  exact ⟨by rw [h1 _ (by omega) (by omega)]; exact a0, by rw [h1 _ (by omega) (by omega)]; exact a1, by rw [h1 _ (by omega) (by omega)]; exact a2, a3.cong (fun b x1 x2 => h1 b (by omega) (by omega)), by rw [h1 _ (by omega) (by omega)]; exact a4, by rw [h1 _ (by omega) (by omega)]; exact a5, by rw [h1 _ (by omega) (by omega)]; exact a6, by rw [h1 _ (by omega) (by omega)]; exact a7, fun i hi => ⟨(a8 i hi).1.cong (fun b x1 x2 => h1 b (by omega) (by omega)), (a8 i hi).2.cong (fun b x1 x2 => h1 b (by omega) (by omega))⟩⟩
theorem X10_clear_ev {e : mm_E} {d : Nat} {mA : mm_V} {F0 : Nat → List Nat} (hD : toldT e.1 d) (hsA : toldS mA d) (hF : toldF mA d F0) (hN : 1000 < e.2.2) : Ev (X10_clear e d mA) (fun m1 => rcT m1 d 0 rd0 ∧ ∀ b, (b < d ∨ d + 19 ≤ b) → m1 b = mA b) := by
  unfold X10_clear
  simp only [LT, zI_neg]
  refine ev_pf hD.1 (ev_pf hD.1 (ev_pf hD.1 (ev_pf hD.1 (ev_pz hD.1 (Or.inl rfl) ?_))))
  generalize hB : mm_up (mm_up (mm_up (mm_up (mm_up mA d 6 (.int (zI 3))) d 7 (.int (zI 5))) d 8 (.int (zI 0))) d 9 (.int (zI 0))) d 10 (.int (zI 0)) = mB
  have oB : ∀ b, b ≠ d → mB b = mA b := fun b h => by rw [← hB, up_row _ _ _ h, up_row _ _ _ h, up_row _ _ _ h, up_row _ _ _ h, up_row _ _ _ h]
  have fB : ∀ k, k < 6 → mB d k = mA d k := fun k h => by rw [← hB, up_ne _ _ (by omega), up_ne _ _ (by omega), up_ne _ _ (by omega), up_ne _ _ (by omega), up_ne _ _ (by omega)]
  have b6 : mB d 6 = .int (zI 3) := by rw [← hB, up_ne _ _ (by omega), up_ne _ _ (by omega), up_ne _ _ (by omega), up_ne _ _ (by omega), up_at]
  have b7 : mB d 7 = .int (zI 5) := by rw [← hB, up_ne _ _ (by omega), up_ne _ _ (by omega), up_ne _ _ (by omega), up_at]
  have b8 : mB d 8 = .int (zI 0) := by rw [← hB, up_ne _ _ (by omega), up_ne _ _ (by omega), up_at]
  have b9 : mB d 9 = .int (zI 0) := by rw [← hB, up_ne _ _ (by omega), up_at]
  have b10 : mB d 10 = .int (zI 0) := by rw [← hB, up_at]
  have hsB : toldS mB d := hsA.keep (fun j hj => fB j hj) (oB _ (by omega))
  refine ev_mono (X10_clear_27 hD hN 6 0 e.2.2 mB F0 rfl (by omega) hsB (hF.keep (fun b x1 x2 => by rw [oB _ (by omega)])) (fun j hj => by omega)) ?_
  rintro m1 ⟨a1, a2, a3, a4⟩
  have ad : m1 d = mB d := a4 d (by omega)
  refine ⟨⟨hsB.keep (fun j _ => by rw [ad]) (a4 _ (by omega)), by rw [ad]; exact b6, by rw [ad]; exact b7, by rw [ad]; exact b8, by rw [ad]; exact b9, by rw [ad]; exact b10, a1, a2, fun k hk => ⟨0, 0, (a3 k hk).1, (a3 k hk).2, rfl, Nat.le_refl _, fun i c hc => ?_⟩⟩, fun b hb => by rw [a4 b (by omega), oB b (by omega)]⟩
  have : ([] : List Int)[i]? = some c := hc
  simp at this
def tl0 (t i : Nat) (g : mm_T) (m : mm_V) : Prop := (g t = some (10, 11) ∧ g (t + 1) = some (23, 6) ∧ g (t + 2) = some (20, 36) ∧ g (t + 3) = some (20, 600) ∧ g (t + 4) = some (20, 12) ∧ g (t + 5) = some (20, 12) ∧ g (t + 6) = some (20, 128)) ∧ (m t 0 = .ref (t + 1) ∧ m t 1 = .ref (t + 2) ∧ m t 2 = .ref (t + 3) ∧ m t 3 = .ref (t + 4) ∧ m t 4 = .ref (t + 5) ∧ m t 5 = .ref (t + 6)) ∧ ∀ j, j < i → fanT g (t + 7 + 2 * j) ∧ fanR m (t + 7 + 2 * j) [] ∧ m (t + 1) j = .ref (t + 7 + 2 * j)
theorem mk10_loop (hN : 1000 < e.2) : ∀ (k i nn : Nat) (g : mm_T) (m : mm_V), i + k = 6 → k < nn → tl0 t i g m → Ev (X10_init_L57 e t nn (zI i) g m (t + 7 + 2 * i)) (fun r => r.2.2 = t + 19 ∧ toldT r.1 t ∧ rcT r.2.1 t 0 rd0 ∧ ∀ b, b < t → r.1 b = g b ∧ r.2.1 b = m b) := by
  intro k
  induction k with
  | zero =>
    intro i nn g m hi hnn h
    obtain ⟨nn, rfl⟩ : ∃ n', nn = n' + 1 := ⟨nn - 1, by omega⟩
    have : i = 6 := by omega
    subst this
    obtain ⟨⟨a0, a1, a2, a3, a4, a5, a6⟩, ⟨b0, b1, b2, b3, b4, b5⟩, c⟩ := h
    rw [X10_init_L57]
    simp only [LT, zI_neg]
    have hT : toldT g t := ⟨a0, a1, a2, a3, a4, a5, a6, fun i hi => (c i hi).1⟩
    refine ev_iep rfl rfl (by omega) (ev_tg a0 (ev_call (X10_clear_ev (e := (g, e)) (F0 := fun _ => []) hT ⟨b0, b1, b2, b3, b4, b5, fun i hi => (c i hi).2.2⟩ (fun i hi => (c i hi).2.1) hN) ?_))
    rintro m1 ⟨d1, d2⟩
    exact ev_ret ⟨by show t + 7 + 2 * 6 = t + 19; omega, hT, d1, fun b hb => ⟨rfl, d2 b (by omega)⟩⟩
  | succ k ih =>
    intro i nn g m hi hnn h
    obtain ⟨nn, rfl⟩ : ∃ n', nn = n' + 1 := ⟨nn - 1, by omega⟩
    obtain ⟨⟨a0, a1, a2, a3, a4, a5, a6⟩, ⟨b0, b1, b2, b3, b4, b5⟩, c⟩ := h
    rw [X10_init_L57]
    simp only [LT, zI_neg]
    rw [show (zI (i : Int) + zI 1 : Int32) = zI ((i + 1 : Nat) : Int) from zI_add _ _]
    refine ev_ien rfl rfl (by omega) (ev_gr a0 b0 (mk3n (fun g' m' h1 h2 h3 => ?_)))
    dsimp only
    have gk : ∀ b, b < t + 7 + 2 * i → g' b = g b := fun b hb => (h3 b hb).1
    have mk : ∀ b, b < t + 7 + 2 * i → m' b = m b := fun b hb => (h3 b hb).2
    refine ev_sr i (by rw [gk _ (by omega)]; exact a1) rfl (by omega) (by omega) h1.1 ?_
    have hz : t + 7 + 2 * i + 2 = t + 7 + 2 * (i + 1) := by omega
    rw [hz]
    refine ev_mono (ih (i + 1) nn g' _ (by omega) (by omega) ⟨⟨by rw [gk _ (by omega)]; exact a0, by rw [gk _ (by omega)]; exact a1, by rw [gk _ (by omega)]; exact a2, by rw [gk _ (by omega)]; exact a3, by rw [gk _ (by omega)]; exact a4, by rw [gk _ (by omega)]; exact a5, by rw [gk _ (by omega)]; exact a6⟩, ⟨by rw [up_row _ _ _ (by omega), mk _ (by omega)]; exact b0, by rw [up_row _ _ _ (by omega), mk _ (by omega)]; exact b1, by rw [up_row _ _ _ (by omega), mk _ (by omega)]; exact b2, by rw [up_row _ _ _ (by omega), mk _ (by omega)]; exact b3, by rw [up_row _ _ _ (by omega), mk _ (by omega)]; exact b4, by rw [up_row _ _ _ (by omega), mk _ (by omega)]; exact b5⟩, fun j hj => ?_⟩) (fun r hr => ⟨hr.1, hr.2.1, hr.2.2.1, fun b hb => ⟨by rw [(hr.2.2.2 b hb).1, gk b (by omega)], by rw [(hr.2.2.2 b hb).2, up_row _ _ _ (by omega), mk b (by omega)]⟩⟩)
    by_cases hji : j = i
    · rw [hji]
      exact ⟨h1, h2.keep (up_row _ _ _ (by omega)) (up_row _ _ _ (by omega)), up_at _ _ _ _⟩
    · obtain ⟨c1, c2, c3⟩ := c j (by omega)
      exact ⟨c1.cong (fun b x1 x2 => gk b (by omega)), c2.keep (by rw [up_row _ _ _ (by omega), mk _ (by omega)]) (by rw [up_row _ _ _ (by omega), mk _ (by omega)]), by rw [up_ne _ _ (Or.inr hji), mk _ (by omega)]; exact c3⟩
theorem mk10 (hN : 1000 < e.2) (hg : g t = some (10, 11)) : Ev (X10_init e t g m (t + 1)) (fun r => r.2.2 = t + 19 ∧ toldT r.1 t ∧ rcT r.2.1 t 0 rd0 ∧ ∀ b, b < t → r.1 b = g b ∧ r.2.1 b = m b) := by
  unfold X10_init
  refine ev_new rfl (ev_pf (by simp [mm_tg, hg]) (ev_new (z' := t + 2) rfl (ev_pf (by simp [mm_tg, hg]) (ev_new (z' := t + 3) rfl (ev_pf (by simp [mm_tg, hg]) (ev_new (z' := t + 4) rfl (ev_pf (by simp [mm_tg, hg]) (ev_new (z' := t + 5) rfl (ev_pf (by simp [mm_tg, hg]) (ev_new (z' := t + 6) rfl (ev_pf (by simp [mm_tg, hg]) ?_)))))))))))
  dsimp only
  refine ev_mono (mk10_loop (t := t) hN 6 0 7 _ _ (by omega) (by omega) ⟨⟨by simp [mm_tg, hg], by simp [mm_tg], by simp [mm_tg], by simp [mm_tg], by simp [mm_tg], by simp [mm_tg], by simp [mm_tg]⟩, ⟨by simp [mm_up, mm_nw], by simp [mm_up, mm_nw], by simp [mm_up, mm_nw], by simp [mm_up, mm_nw], by simp [mm_up, mm_nw], by simp [mm_up, mm_nw]⟩, fun j hj => absurd hj (by omega)⟩) (fun r hr => ⟨hr.1, hr.2.1, hr.2.2.1, fun b hb => ⟨?_, ?_⟩⟩)
  · rw [(hr.2.2.2 b hb).1]
    iterate 6 rw [tg_ne _ _ _ (by omega)]
  · rw [(hr.2.2.2 b hb).2]
    iterate 6 rw [up_row _ _ _ (by omega), nw_ne _ _ (by omega)]
theorem mk9_eq {z : Nat} (hg : g a = some (9, 6)) (hz : z = a + 1) : X9_init e a g m z = some (mm_tg g z 20 0, mm_up (mm_up (mm_nw m z (fun _ => defaultValue (mm_aty 20))) a 0 (.ref z)) a 4 (.int (-1 : Int32)), z + 1) := by
  have h1 : mm_tg g z 20 0 a = some (9, 6) := by rw [tg_ne _ _ _ (by omega)]; exact hg
  unfold X9_init mm_new
  rw [Option.bind_some]
  dsimp only
  rw [wr_pf h1, Option.bind_some, wr_pf h1, Option.bind_some]
theorem mk1_eq {c d z : Nat} (hg : g a = some (1, 6)) (hz : z = a + 1) : X1_init e a c d g m z = some (mm_tg g z 20 128, mm_up (mm_up (mm_up (mm_nw m z (fun _ => defaultValue (mm_aty 20))) a 0 (.ref z)) a 4 (.ref c)) a 5 (.ref d), z + 1) := by
  have h1 : mm_tg g z 20 128 a = some (1, 6) := by rw [tg_ne _ _ _ (by omega)]; exact hg
  unfold X1_init mm_new
  rw [Option.bind_some]
  dsimp only
  rw [wr_pf h1, Option.bind_some, wr_pf h1, Option.bind_some, wr_pf h1, Option.bind_some]
def rdTg (g : mm_T) (r : Nat) : Prop := g r = some (8, 7) ∧ g (r + 1) = some (9, 6) ∧ g (r + 3) = some (20, 10) ∧ g (r + 4) = some (22, 42) ∧ g (r + 5) = some (1, 6) ∧ g (r + 6) = some (20, 128)
theorem rdTg.cong {g g' : mm_T} {r : Nat} (h : rdTg g r) (h1 : ∀ b, r ≤ b → b < r + 7 → g' b = g b) : rdTg g' r := by
  obtain ⟨a0, a1, a2, a3, a4, a5⟩ := h
  exact ⟨by rw [h1 _ (by omega) (by omega)]; exact a0, by rw [h1 _ (by omega) (by omega)]; exact a1, by rw [h1 _ (by omega) (by omega)]; exact a2, by rw [h1 _ (by omega) (by omega)]; exact a3, by rw [h1 _ (by omega) (by omega)]; exact a4, by rw [h1 _ (by omega) (by omega)]; exact a5⟩
theorem mk8 {d : Nat} (hg : g a = some (8, 7)) : Ev (X8_init e a d g m (a + 1)) (fun r => r.2.2 = a + 7 ∧ rdTg r.1 a ∧ rcS r.2.1 a ∧ ∀ b, b < a → r.1 b = g b ∧ r.2.1 b = m b) := by
  unfold X8_init
  refine ev_new rfl ?_
  dsimp only
  refine ev_eq (mk9_eq (a := a + 1) (z := a + 2) (tg_at _ _ _ _) rfl) ?_
  dsimp only
  refine ev_pf (by simp [mm_tg, hg]) (ev_new (z' := a + 3) rfl (ev_pf (by simp [mm_tg, hg]) (ev_new (z' := a + 4) rfl (ev_pf (by simp [mm_tg, hg]) (ev_pf (by simp [mm_tg, hg]) (ev_new (z' := a + 5) rfl ?_))))))
  dsimp only
  refine ev_gr (v := a + 1) (by simp [mm_tg, hg]) (by simp [mm_up, mm_nw]) (ev_eq (mk1_eq (a := a + 5) (z := a + 6) (tg_at _ _ _ _) rfl) ?_)
  dsimp only
  refine ev_pf (by simp [mm_tg, hg]) (ev_ret ⟨rfl, ⟨by simp [mm_tg, hg], by simp [mm_tg], by simp [mm_tg], by simp [mm_tg], by simp [mm_tg], by simp [mm_tg]⟩, ⟨by simp [mm_up, mm_nw], by simp [mm_up, mm_nw], by simp [mm_up, mm_nw], by simp [mm_up, mm_nw], by simp [mm_up, mm_nw], by simp [mm_up, mm_nw], ⟨_, (by simp [mm_up, mm_nw, df_X9]; rfl)⟩⟩, fun b hb => ⟨?_, ?_⟩⟩)
  · dsimp only
    iterate 6 rw [tg_ne _ _ _ (by omega)]
  · dsimp only
    rw [up_row _ _ _ (by omega), up_row _ _ _ (by omega), up_row _ _ _ (by omega), up_row _ _ _ (by omega), nw_ne _ _ (by omega), nw_ne _ _ (by omega), up_row _ _ _ (by omega), up_row _ _ _ (by omega), nw_ne _ _ (by omega), up_row _ _ _ (by omega), nw_ne _ _ (by omega), up_row _ _ _ (by omega), up_row _ _ _ (by omega), up_row _ _ _ (by omega), nw_ne _ _ (by omega), nw_ne _ _ (by omega)]
/-! a log -/
def lg0 (l i : Nat) (g : mm_T) (m : mm_V) : Prop := (g l = some (5, 4) ∧ g (l + 1) = some (24, 60) ∧ g (l + 2) = some (2, 9)) ∧ (m l 0 = .ref (l + 1) ∧ m l 1 = .ref (l + 2) ∧ m l 2 = .int (zI 0) ∧ m l 3 = .int (zI 0)) ∧ ∀ j, j < i → g (l + 3 + j) = some (2, 9) ∧ m (l + 3 + j) = df_X2 ∧ m (l + 1) j = .ref (l + 3 + j)
theorem df2 (j : Nat) : df_X2 j = .int (zI 0) := by
  unfold df_X2
  split <;> rfl
theorem mk5_loop {l : Nat} : ∀ (k i nn : Nat) (g : mm_T) (m : mm_V), i + k = 60 → k < nn → lg0 l i g m → Ev (X5_init_L26 e l nn (zI i) g m (l + 3 + i)) (fun r => r.2.2 = l + 63 ∧ logT r.1 l ∧ logR r.2.1 l [] ∧ ∀ b, b < l → r.1 b = g b ∧ r.2.1 b = m b) := by
  intro k
  induction k with
  | zero =>
    intro i nn g m hi hnn h
    obtain ⟨nn, rfl⟩ : ∃ n', nn = n' + 1 := ⟨nn - 1, by omega⟩
    have : i = 60 := by omega
    subst this
    obtain ⟨⟨a0, a1, a2⟩, ⟨b0, b1, b2, b3⟩, c⟩ := h
    rw [X5_init_L26]
    simp only [LT, zI_neg]
    refine ev_iep rfl rfl (by omega) (ev_ret ⟨by show l + 3 + 60 = l + 63; omega, ⟨a0, a1, fun i hi => ?_⟩, ⟨⟨b0, b1, fun i hi => (c i hi).2.2⟩, fun i hi => ⟨fun _ => 0, fun j hj => ?_, Or.inl rfl, Or.inl rfl⟩, Nat.zero_le _, b3, 0, by omega, b2, fun i v hv => (by cases hv)⟩, fun b hb => ⟨rfl, rfl⟩⟩)
    · by_cases h0 : i = 0
      · rw [h0]; exact a2
      · have := (c (i - 1) (by omega)).1
        rw [show l + 2 + i = l + 3 + (i - 1) by omega]; exact this
    · show m (l + 3 + i) j = _
      rw [(c i hi).2.1, df2]; rfl
  | succ k ih =>
    intro i nn g m hi hnn h
    obtain ⟨nn, rfl⟩ : ∃ n', nn = n' + 1 := ⟨nn - 1, by omega⟩
    obtain ⟨⟨a0, a1, a2⟩, ⟨b0, b1, b2, b3⟩, c⟩ := h
    rw [X5_init_L26]
    unfold X2_init
    simp only [LT, zI_neg]
    rw [show (zI (i : Int) + zI 1 : Int32) = zI ((i + 1 : Nat) : Int) from zI_add _ _]
    refine ev_ien rfl rfl (by omega) (ev_gr a0 b0 (ev_new rfl ?_))
    dsimp only
    refine ev_eq rfl ?_
    dsimp only
    have gk : ∀ b, b < l + 3 + i → mm_tg g (l + 3 + i) 2 9 b = g b := fun b hb => tg_ne _ _ _ (by omega)
    have mk : ∀ b, b < l + 3 + i → mm_nw m (l + 3 + i) df_X2 b = m b := fun b hb => nw_ne _ _ (by omega)
    refine ev_sr i (by rw [gk _ (by omega)]; exact a1) rfl (by omega) (by omega) (tg_at _ _ _ _) ?_
    have hz : l + 3 + i + 1 = l + 3 + (i + 1) := by omega
    rw [hz]
    refine ev_mono (ih (i + 1) nn _ _ (by omega) (by omega) ⟨⟨by rw [gk _ (by omega)]; exact a0, by rw [gk _ (by omega)]; exact a1, by rw [gk _ (by omega)]; exact a2⟩, ⟨by rw [up_row _ _ _ (by omega), mk _ (by omega)]; exact b0, by rw [up_row _ _ _ (by omega), mk _ (by omega)]; exact b1, by rw [up_row _ _ _ (by omega), mk _ (by omega)]; exact b2, by rw [up_row _ _ _ (by omega), mk _ (by omega)]; exact b3⟩, fun j hj => ?_⟩) (fun r hr => ⟨hr.1, hr.2.1, hr.2.2.1, fun b hb => ⟨by rw [(hr.2.2.2 b hb).1, gk b (by omega)], by rw [(hr.2.2.2 b hb).2, up_row _ _ _ (by omega), mk b (by omega)]⟩⟩)
    by_cases hji : j = i
    · rw [hji]
      exact ⟨tg_at _ _ _ _, by rw [up_row _ _ _ (by omega), nw_at], up_at _ _ _ _⟩
    · obtain ⟨c1, c2, c3⟩ := c j (by omega)
      exact ⟨by rw [gk _ (by omega)]; exact c1, by rw [up_row _ _ _ (by omega), mk _ (by omega)]; exact c2, by rw [up_ne _ _ (Or.inr hji), mk _ (by omega)]; exact c3⟩
theorem mk5 (hg : g a = some (5, 4)) (hm : m a = df_X5) : Ev (X5_init e a g m (a + 1)) (fun r => r.2.2 = a + 63 ∧ logT r.1 a ∧ logR r.2.1 a [] ∧ ∀ b, b < a → r.1 b = g b ∧ r.2.1 b = m b) := by
  unfold X5_init X2_init
  refine ev_new rfl (ev_pf (by simp [mm_tg, hg]) (ev_new (z' := a + 2) rfl ?_))
  dsimp only
  refine ev_eq rfl ?_
  dsimp only
  refine ev_pf (by simp [mm_tg, hg]) ?_
  refine ev_mono (mk5_loop (l := a) 60 0 61 _ _ (by omega) (by omega) ⟨⟨by simp [mm_tg, hg], by simp [mm_tg], by simp [mm_tg]⟩, ⟨by simp [mm_up, mm_nw], by simp [mm_up, mm_nw], by simp [mm_up, mm_nw, hm, df_X5]; rfl, by simp [mm_up, mm_nw, hm, df_X5]; rfl⟩, fun j hj => absurd hj (by omega)⟩) (fun r hr => ⟨hr.1, hr.2.1, hr.2.2.1, fun b hb => ⟨?_, ?_⟩⟩)
  · rw [(hr.2.2.2 b hb).1]
    iterate 2 rw [tg_ne _ _ _ (by omega)]
  · rw [(hr.2.2.2 b hb).2]
    iterate 2 rw [up_row _ _ _ (by omega), nw_ne _ _ (by omega)]
/-! a game -/
def gm0 (a t i : Nat) (g : mm_T) (m : mm_V) : Prop := (g a = some (4, 12) ∧ g (a + 1) = some (23, 6) ∧ fanT g (a + 2) ∧ g (a + 4) = some (20, 6) ∧ g (a + 5) = some (20, 6) ∧ g (a + 6) = some (20, 6) ∧ g (a + 7) = some (20, 19)) ∧ (m a 0 = .ref (a + 1) ∧ m a 1 = .ref (a + 2) ∧ m a 2 = .ref (a + 4) ∧ m a 3 = .ref (a + 5) ∧ m a 4 = .ref (a + 6) ∧ m a 5 = .ref (a + 7) ∧ m a 6 = .ref t ∧ m a 9 = .int (zI 0)) ∧ fanR m (a + 2) [] ∧ ∀ j, j < i → fanT g (a + 8 + 2 * j) ∧ fanR m (a + 8 + 2 * j) [] ∧ m (a + 1) j = .ref (a + 8 + 2 * j)
def gmM (g : mm_T) (m : mm_V) (a t : Nat) : Prop := gameT g a ∧ gameS m a t ∧ gameF m a (fun _ => []) ∧ m a 9 = .int (zI 0)
theorem mk4_loop : ∀ (k i nn : Nat) (g : mm_T) (m : mm_V), i + k = 6 → k < nn → gm0 a t i g m → Ev (X4_init_L63 e a nn (zI i) g m (a + 8 + 2 * i)) (fun r => r.2.2 = a + 20 ∧ gmM r.1 r.2.1 a t ∧ ∀ b, b < a → r.1 b = g b ∧ r.2.1 b = m b) := by
  intro k
  induction k with
  | zero =>
    intro i nn g m hi hnn h
    obtain ⟨nn, rfl⟩ : ∃ n', nn = n' + 1 := ⟨nn - 1, by omega⟩
    have : i = 6 := by omega
    subst this
    obtain ⟨⟨a0, a1, a2, a3, a4, a5, a6⟩, ⟨b0, b1, b2, b3, b4, b5, b6, b7⟩, b8, c⟩ := h
    rw [X4_init_L63]
    simp only [LT, zI_neg]
    exact ev_iep rfl rfl (by omega) (ev_ret ⟨by show a + 8 + 2 * 6 = a + 20; omega, ⟨⟨a0, a1, a2, a3, a4, a5, a6, fun i hi => (c i hi).1⟩, ⟨b0, b1, b2, b3, b4, b5, b6, b8, fun i hi => (c i hi).2.2⟩, fun i hi => (c i hi).2.1, b7⟩, fun b hb => ⟨rfl, rfl⟩⟩)
  | succ k ih =>
    intro i nn g m hi hnn h
    obtain ⟨nn, rfl⟩ : ∃ n', nn = n' + 1 := ⟨nn - 1, by omega⟩
    obtain ⟨⟨a0, a1, a2, a3, a4, a5, a6⟩, ⟨b0, b1, b2, b3, b4, b5, b6, b7⟩, b8, c⟩ := h
    rw [X4_init_L63]
    simp only [LT, zI_neg]
    rw [show (zI (i : Int) + zI 1 : Int32) = zI ((i + 1 : Nat) : Int) from zI_add _ _]
    refine ev_ien rfl rfl (by omega) (ev_gr a0 b0 (mk3n (fun g' m' h1 h2 h3 => ?_)))
    dsimp only
    have gk : ∀ b, b < a + 8 + 2 * i → g' b = g b := fun b hb => (h3 b hb).1
    have mk : ∀ b, b < a + 8 + 2 * i → m' b = m b := fun b hb => (h3 b hb).2
    refine ev_sr i (by rw [gk _ (by omega)]; exact a1) rfl (by omega) (by omega) h1.1 ?_
    have hz : a + 8 + 2 * i + 2 = a + 8 + 2 * (i + 1) := by omega
    rw [hz]
    refine ev_mono (ih (i + 1) nn g' _ (by omega) (by omega) ⟨⟨by rw [gk _ (by omega)]; exact a0, by rw [gk _ (by omega)]; exact a1, a2.cong (fun b x1 x2 => gk b (by omega)), by rw [gk _ (by omega)]; exact a3, by rw [gk _ (by omega)]; exact a4, by rw [gk _ (by omega)]; exact a5, by rw [gk _ (by omega)]; exact a6⟩, ⟨by rw [up_row _ _ _ (by omega), mk _ (by omega)]; exact b0, by rw [up_row _ _ _ (by omega), mk _ (by omega)]; exact b1, by rw [up_row _ _ _ (by omega), mk _ (by omega)]; exact b2, by rw [up_row _ _ _ (by omega), mk _ (by omega)]; exact b3, by rw [up_row _ _ _ (by omega), mk _ (by omega)]; exact b4, by rw [up_row _ _ _ (by omega), mk _ (by omega)]; exact b5, by rw [up_row _ _ _ (by omega), mk _ (by omega)]; exact b6, by rw [up_row _ _ _ (by omega), mk _ (by omega)]; exact b7⟩, b8.keep (by rw [up_row _ _ _ (by omega), mk _ (by omega)]) (by rw [up_row _ _ _ (by omega), mk _ (by omega)]), fun j hj => ?_⟩) (fun r hr => ⟨hr.1, hr.2.1, fun b hb => ⟨by rw [(hr.2.2 b hb).1, gk b (by omega)], by rw [(hr.2.2 b hb).2, up_row _ _ _ (by omega), mk b (by omega)]⟩⟩)
    by_cases hji : j = i
    · rw [hji]
      exact ⟨h1, h2.keep (up_row _ _ _ (by omega)) (up_row _ _ _ (by omega)), up_at _ _ _ _⟩
    · obtain ⟨c1, c2, c3⟩ := c j (by omega)
      exact ⟨c1.cong (fun b x1 x2 => gk b (by omega)), c2.keep (by rw [up_row _ _ _ (by omega), mk _ (by omega)]) (by rw [up_row _ _ _ (by omega), mk _ (by omega)]), by rw [up_ne _ _ (Or.inr hji), mk _ (by omega)]; exact c3⟩
theorem mk4 (hg : g a = some (4, 12)) (hm : m a = df_X4) : Ev (X4_init e a t g m (a + 1)) (fun r => r.2.2 = a + 20 ∧ gmM r.1 r.2.1 a t ∧ ∀ b, b < a → r.1 b = g b ∧ r.2.1 b = m b) := by
  unfold X4_init
  refine ev_new rfl (ev_pf (by simp [mm_tg, hg]) ?_)
  dsimp only
  refine mk3n (fun g' m' h1 h2 h3 => ?_)
  dsimp only
  have ga : g' a = some (4, 12) := by rw [(h3 a (by omega)).1]; simp [mm_tg, hg]
  have g1 : g' (a + 1) = some (23, 6) := by rw [(h3 (a + 1) (by omega)).1]; simp [mm_tg]
  have m0 : m' a 0 = .ref (a + 1) := by rw [(h3 a (by omega)).2]; simp [mm_up]
  have m9 : m' a 9 = .int (zI 0) := by rw [(h3 a (by omega)).2]; simp [mm_up, mm_nw, hm, df_X4]; rfl
  have fb : ∀ b, b < a → g' b = g b ∧ m' b = m b := fun b hb => ⟨by rw [(h3 b (by omega)).1, tg_ne _ _ _ (by omega)], by rw [(h3 b (by omega)).2, up_row _ _ _ (by omega), nw_ne _ _ (by omega)]⟩
  clear h3 hg hm
  refine ev_pf ga (ev_new (z' := a + 4) rfl (ev_pf (by simp [mm_tg, ga]) (ev_new (z' := a + 5) rfl (ev_pf (by simp [mm_tg, ga]) (ev_new (z' := a + 6) rfl (ev_pf (by simp [mm_tg, ga]) (ev_new (z' := a + 7) rfl (ev_pf (by simp [mm_tg, ga]) (ev_pf (by simp [mm_tg, ga]) ?_)))))))))
  dsimp only
  refine ev_mono (mk4_loop (a := a) (t := t) 6 0 7 _ _ (by omega) (by omega) ⟨⟨by simp [mm_tg, ga], by simp [mm_tg, g1], h1.cong (fun b x1 x2 => ?_), by simp [mm_tg], by simp [mm_tg], by simp [mm_tg], by simp [mm_tg]⟩, ⟨by simp [mm_up, mm_nw, m0], by simp [mm_up, mm_nw], by simp [mm_up, mm_nw], by simp [mm_up, mm_nw], by simp [mm_up, mm_nw], by simp [mm_up, mm_nw], by simp [mm_up, mm_nw], by simp [mm_up, mm_nw, m9]⟩, h2.keep ?_ ?_, fun j hj => absurd hj (by omega)⟩) (fun r hr => ⟨hr.1, hr.2.1, fun b hb => ⟨?_, ?_⟩⟩)
  · iterate 4 rw [tg_ne _ _ _ (by omega)]
  · rw [up_row _ _ _ (by omega), up_row _ _ _ (by omega), nw_ne _ _ (by omega), up_row _ _ _ (by omega), nw_ne _ _ (by omega), up_row _ _ _ (by omega), nw_ne _ _ (by omega), up_row _ _ _ (by omega), nw_ne _ _ (by omega), up_row _ _ _ (by omega)]
  · rw [up_row _ _ _ (by omega), up_row _ _ _ (by omega), nw_ne _ _ (by omega), up_row _ _ _ (by omega), nw_ne _ _ (by omega), up_row _ _ _ (by omega), nw_ne _ _ (by omega), up_row _ _ _ (by omega), nw_ne _ _ (by omega), up_row _ _ _ (by omega)]
  · rw [(hr.2.2 b hb).1]
    iterate 4 rw [tg_ne _ _ _ (by omega)]
    exact (fb b hb).1
  · rw [(hr.2.2 b hb).2, up_row _ _ _ (by omega), up_row _ _ _ (by omega), nw_ne _ _ (by omega), up_row _ _ _ (by omega), nw_ne _ _ (by omega), up_row _ _ _ (by omega), nw_ne _ _ (by omega), up_row _ _ _ (by omega), nw_ne _ _ (by omega), up_row _ _ _ (by omega)]
    exact (fb b hb).2
/-! what plays out -/
theorem mk7 (hg : g a = some (7, 8)) : Ev (X7_init e a g m (a + 1)) (fun r => r.2.2 = a + 5 ∧ plaT r.1 a ∧ plaS r.2.1 a ∧ ∀ b, b < a → r.1 b = g b ∧ r.2.1 b = m b) := by
  unfold X7_init X2_init
  refine ev_new rfl (ev_pf (by simp [mm_tg, hg]) (ev_new (z' := a + 2) rfl (ev_pf (by simp [mm_tg, hg]) (ev_new (z' := a + 3) rfl (ev_pf (by simp [mm_tg, hg]) (ev_new (z' := a + 4) rfl ?_))))))
  dsimp only
  refine ev_eq rfl ?_
  dsimp only
  refine ev_pf (by simp [mm_tg, hg]) (ev_ret ⟨rfl, ⟨by simp [mm_tg, hg], by simp [mm_tg], by simp [mm_tg], by simp [mm_tg], by simp [mm_tg]⟩, ⟨by simp [mm_up, mm_nw], by simp [mm_up, mm_nw], by simp [mm_up, mm_nw], by simp [mm_up, mm_nw]⟩, fun b hb => ⟨?_, ?_⟩⟩)
  · dsimp only
    iterate 4 rw [tg_ne _ _ _ (by omega)]
  · dsimp only
    iterate 4 rw [up_row _ _ _ (by omega), nw_ne _ _ (by omega)]
theorem gmM.keep {g g' : mm_T} {m m' : mm_V} {a t : Nat} (h : gmM g m a t) (h1 : ∀ b, a ≤ b → b < a + 20 → g' b = g b ∧ m' b = m b) : gmM g' m' a t := by
  obtain ⟨a1, a2, a3, a4⟩ := h
  exact ⟨a1.cong (fun b x1 x2 => (h1 b x1 x2).1), a2.keep (fun j _ => by rw [(h1 _ (by omega) (by omega)).2]) (fun b x1 x2 => (h1 b (by omega) (by omega)).2), a3.keep (fun b x1 x2 => (h1 b (by omega) (by omega)).2), by rw [(h1 _ (by omega) (by omega)).2]; exact a4⟩
theorem gmM.gmW {g : mm_T} {m : mm_V} {a t : Nat} (h : gmM g m a t) : _root_.Jvm.Pilot.CSootQueenLaw_law_r9312_e548d1.gmW m a := ⟨t, _, _, h.2.1, h.2.2.1, h.2.2.2⟩
/-! the outlook -/
def ot0 (a t i : Nat) (g : mm_T) (m : mm_V) : Prop := (g a = some (6, 12) ∧ g (a + 1) = some (25, 5) ∧ plaT g (a + 2) ∧ g (a + 7) = some (2, 9) ∧ g (a + 8) = some (20, 6) ∧ g (a + 9) = some (20, 6)) ∧ (m a 0 = .ref (a + 1) ∧ m a 1 = .ref (a + 2) ∧ m a 2 = .ref (a + 7) ∧ m a 3 = .ref (a + 8) ∧ m a 4 = .ref (a + 9)) ∧ plaS m (a + 2) ∧ ∀ j, j < i → gmM g m (a + 10 + 20 * j) t ∧ m (a + 1) j = .ref (a + 10 + 20 * j)
theorem mk6_loop : ∀ (k i nn : Nat) (g : mm_T) (m : mm_V), i + k = 5 → k < nn → ot0 a t i g m → Ev (X6_init_L52 e a t nn (zI i) g m (a + 10 + 20 * i)) (fun r => r.2.2 = a + 110 ∧ outT r.1 a ∧ outS r.2.1 a ∧ lvW r.2.1 a ∧ ∀ b, b < a → r.1 b = g b ∧ r.2.1 b = m b) := by
  intro k
  induction k with
  | zero =>
    intro i nn g m hi hnn h
    obtain ⟨nn, rfl⟩ : ∃ n', nn = n' + 1 := ⟨nn - 1, by omega⟩
    have : i = 5 := by omega
    subst this
    obtain ⟨⟨a0, a1, a2, a3, a4, a5⟩, ⟨b0, b1, b2, b3, b4⟩, b5, c⟩ := h
    rw [X6_init_L52]
    simp only [LT, zI_neg]
    exact ev_ilp rfl rfl (by omega) (ev_ret ⟨by show a + 10 + 20 * 5 = a + 110; omega, ⟨a0, a1, a2, a3, a4, a5, fun i hi => (c i hi).1.1⟩, ⟨b0, b1, b2, b3, b4, fun i hi => (c i hi).2, b5⟩, fun i hi => (c i hi).1.gmW, fun b hb => ⟨rfl, rfl⟩⟩)
  | succ k ih =>
    intro i nn g m hi hnn h
    obtain ⟨nn, rfl⟩ : ∃ n', nn = n' + 1 := ⟨nn - 1, by omega⟩
    obtain ⟨⟨a0, a1, a2, a3, a4, a5⟩, ⟨b0, b1, b2, b3, b4⟩, b5, c⟩ := h
    rw [X6_init_L52]
    simp only [LT, zI_neg]
    rw [show (zI (i : Int) + zI 1 : Int32) = zI ((i + 1 : Nat) : Int) from zI_add _ _]
    refine ev_iln rfl rfl (by omega) (ev_gr a0 b0 (ev_new rfl ?_))
    dsimp only
    refine ev_call (mk4 (tg_at _ _ _ _) (nw_at _ _ _)) ?_
    rintro ⟨g', m', z'⟩ ⟨h1, h2, h3⟩
    dsimp only at h1 h2 h3 ⊢
    subst h1
    have gk : ∀ b, b < a + 10 + 20 * i → g' b = g b := fun b hb => by rw [(h3 b hb).1, tg_ne _ _ _ (by omega)]
    have mk : ∀ b, b < a + 10 + 20 * i → m' b = m b := fun b hb => by rw [(h3 b hb).2, nw_ne _ _ (by omega)]
    refine ev_sr i (by rw [gk _ (by omega)]; exact a1) rfl (by omega) (by omega) h2.1.1 ?_
    have hz : a + 10 + 20 * i + 20 = a + 10 + 20 * (i + 1) := by omega
    rw [hz]
    refine ev_mono (ih (i + 1) nn g' _ (by omega) (by omega) ⟨⟨by rw [gk _ (by omega)]; exact a0, by rw [gk _ (by omega)]; exact a1, a2.cong (fun b x1 x2 => gk b (by omega)), by rw [gk _ (by omega)]; exact a3, by rw [gk _ (by omega)]; exact a4, by rw [gk _ (by omega)]; exact a5⟩, ⟨by rw [up_row _ _ _ (by omega), mk _ (by omega)]; exact b0, by rw [up_row _ _ _ (by omega), mk _ (by omega)]; exact b1, by rw [up_row _ _ _ (by omega), mk _ (by omega)]; exact b2, by rw [up_row _ _ _ (by omega), mk _ (by omega)]; exact b3, by rw [up_row _ _ _ (by omega), mk _ (by omega)]; exact b4⟩, b5.keep (fun j _ => by rw [up_row _ _ _ (by omega), mk _ (by omega)]), fun j hj => ?_⟩) (fun r hr => ⟨hr.1, hr.2.1, hr.2.2.1, hr.2.2.2.1, fun b hb => ⟨by rw [(hr.2.2.2.2 b hb).1, gk b (by omega)], by rw [(hr.2.2.2.2 b hb).2, up_row _ _ _ (by omega), mk b (by omega)]⟩⟩)
    by_cases hji : j = i
    · rw [hji]
      exact ⟨h2.keep (fun b x1 x2 => ⟨rfl, up_row _ _ _ (by omega)⟩), up_at _ _ _ _⟩
    · obtain ⟨c1, c2⟩ := c j (by omega)
      exact ⟨c1.keep (fun b x1 x2 => ⟨gk b (by omega), by rw [up_row _ _ _ (by omega), mk _ (by omega)]⟩), by rw [up_ne _ _ (Or.inr hji), mk _ (by omega)]; exact c2⟩
theorem mk6 (hg : g a = some (6, 12)) : Ev (X6_init e a t g m (a + 1)) (fun r => r.2.2 = a + 110 ∧ outT r.1 a ∧ outS r.2.1 a ∧ lvW r.2.1 a ∧ ∀ b, b < a → r.1 b = g b ∧ r.2.1 b = m b) := by
  unfold X6_init X2_init
  refine ev_new rfl (ev_pf (by simp [mm_tg, hg]) (ev_new (z' := a + 2) rfl ?_))
  dsimp only
  refine ev_call (mk7 (tg_at _ _ _ _)) ?_
  rintro ⟨g', m', z'⟩ ⟨h1, h2, h2', h3⟩
  dsimp only at h1 h2 h2' h3 ⊢
  subst h1
  have ga : g' a = some (6, 12) := by rw [(h3 a (by omega)).1]; simp [mm_tg, hg]
  have g1 : g' (a + 1) = some (25, 5) := by rw [(h3 (a + 1) (by omega)).1]; simp [mm_tg]
  have m0 : m' a 0 = .ref (a + 1) := by rw [(h3 a (by omega)).2]; simp [mm_up, mm_nw]
  have fb : ∀ b, b < a → g' b = g b ∧ m' b = m b := fun b hb => ⟨by rw [(h3 b (by omega)).1, tg_ne _ _ _ (by omega), tg_ne _ _ _ (by omega)], by rw [(h3 b (by omega)).2, nw_ne _ _ (by omega), up_row _ _ _ (by omega), nw_ne _ _ (by omega)]⟩
  clear h3 hg
  refine ev_pf ga (ev_new (z' := a + 7) rfl ?_)
  dsimp only
  refine ev_eq rfl ?_
  dsimp only
  refine ev_pf (by simp [mm_tg, ga]) (ev_new (z' := a + 8) rfl (ev_pf (by simp [mm_tg, ga]) (ev_new (z' := a + 9) rfl (ev_pf (by simp [mm_tg, ga]) ?_))))
  dsimp only
  refine ev_mono (mk6_loop (a := a) (t := t) 5 0 6 _ _ (by omega) (by omega) ⟨⟨by simp [mm_tg, ga], by simp [mm_tg, g1], h2.cong (fun b x1 x2 => ?_), by simp [mm_tg], by simp [mm_tg], by simp [mm_tg]⟩, ⟨by simp [mm_up, mm_nw, m0], by simp [mm_up, mm_nw], by simp [mm_up, mm_nw], by simp [mm_up, mm_nw], by simp [mm_up, mm_nw]⟩, h2'.keep (fun j _ => ?_), fun j hj => absurd hj (by omega)⟩) (fun r hr => ⟨hr.1, hr.2.1, hr.2.2.1, hr.2.2.2.1, fun b hb => ⟨?_, ?_⟩⟩)
  · iterate 3 rw [tg_ne _ _ _ (by omega)]
  · rw [up_row _ _ _ (by omega), nw_ne _ _ (by omega), up_row _ _ _ (by omega), nw_ne _ _ (by omega), up_row _ _ _ (by omega), nw_ne _ _ (by omega), up_row _ _ _ (by omega)]
  · rw [(hr.2.2.2.2 b hb).1]
    iterate 3 rw [tg_ne _ _ _ (by omega)]
    exact (fb b hb).1
  · rw [(hr.2.2.2.2 b hb).2, up_row _ _ _ (by omega), nw_ne _ _ (by omega), up_row _ _ _ (by omega), nw_ne _ _ (by omega), up_row _ _ _ (by omega), nw_ne _ _ (by omega), up_row _ _ _ (by omega)]
    exact (fb b hb).2
/-! the beliefs -/
def bl0 (a i : Nat) (g : mm_T) (m : mm_V) : Prop := (g a = some (0, 13) ∧ g (a + 1) = some (23, 6) ∧ g (a + 2) = some (23, 6) ∧ fanT g (a + 3) ∧ g (a + 5) = some (20, 10) ∧ g (a + 6) = some (20, 19) ∧ g (a + 7) = some (20, 6) ∧ g (a + 8) = some (20, 10)) ∧ (m a 0 = .ref (a + 1) ∧ m a 1 = .ref (a + 2) ∧ m a 2 = .ref (a + 3) ∧ m a 3 = .ref (a + 5) ∧ m a 4 = .ref (a + 6) ∧ m a 5 = .ref (a + 7) ∧ m a 6 = .ref (a + 8)) ∧ ∀ j, j < i → (fanT g (a + 9 + 4 * j) ∧ fanT g (a + 11 + 4 * j)) ∧ (fanR m (a + 9 + 4 * j) [] ∧ fanR m (a + 11 + 4 * j) []) ∧ m (a + 1) j = .ref (a + 9 + 4 * j) ∧ m (a + 2) j = .ref (a + 11 + 4 * j)
theorem mk0_loop : ∀ (k i nn : Nat) (g : mm_T) (m : mm_V), i + k = 6 → k < nn → bl0 a i g m → Ev (X0_init_L72 e a nn (zI i) g m (a + 9 + 4 * i)) (fun r => r.2.2 = a + 33 ∧ belT r.1 a ∧ belZ r.2.1 a ∧ ∀ b, b < a → r.1 b = g b ∧ r.2.1 b = m b) := by
  intro k
  induction k with
  | zero =>
    intro i nn g m hi hnn h
    obtain ⟨nn, rfl⟩ : ∃ n', nn = n' + 1 := ⟨nn - 1, by omega⟩
    have : i = 6 := by omega
    subst this
    obtain ⟨⟨a0, a1, a2, a3, a4, a5, a6, a7⟩, ⟨b0, b1, b2, b3, b4, b5, b6⟩, c⟩ := h
    rw [X0_init_L72]
    simp only [LT, zI_neg]
    exact ev_iep rfl rfl (by omega) (ev_ret ⟨by show a + 9 + 4 * 6 = a + 33; omega, ⟨a0, a1, a2, a3, a4, a5, a6, a7, fun i hi => (c i hi).1⟩, ⟨⟨b0, b1, b2, b3, b4, b5, b6, fun i hi => (c i hi).2.2.1, fun i hi => (c i hi).2.2.2⟩, ⟨fun _ => [], fun i hi => (c i hi).2.1.1⟩, ⟨fun _ => [], fun i hi => (c i hi).2.1.2⟩⟩, fun b hb => ⟨rfl, rfl⟩⟩)
  | succ k ih =>
    intro i nn g m hi hnn h
    obtain ⟨nn, rfl⟩ : ∃ n', nn = n' + 1 := ⟨nn - 1, by omega⟩
    obtain ⟨⟨a0, a1, a2, a3, a4, a5, a6, a7⟩, ⟨b0, b1, b2, b3, b4, b5, b6⟩, c⟩ := h
    rw [X0_init_L72]
    simp only [LT, zI_neg]
    rw [show (zI (i : Int) + zI 1 : Int32) = zI ((i + 1 : Nat) : Int) from zI_add _ _]
    refine ev_ien rfl rfl (by omega) (ev_gr a0 b0 (mk3n (fun g' m' h1 h2 h3 => ?_)))
    dsimp only
    have gk : ∀ b, b < a + 9 + 4 * i → g' b = g b := fun b hb => (h3 b hb).1
    have mk : ∀ b, b < a + 9 + 4 * i → m' b = m b := fun b hb => (h3 b hb).2
    refine ev_sr i (by rw [gk _ (by omega)]; exact a1) rfl (by omega) (by omega) h1.1 (ev_gr (v := a + 2) (by rw [gk _ (by omega)]; exact a0) (by rw [up_row _ _ _ (by omega), mk _ (by omega)]; exact b1) ?_)
    rw [show a + 9 + 4 * i + 2 = a + 11 + 4 * i by omega]
    refine mk3n (fun g2 m2 k1 k2 k3 => ?_)
    dsimp only
    have gj : ∀ b, b < a + 9 + 4 * i → g2 b = g b := fun b hb => by rw [(k3 b (by omega)).1, gk b hb]
    have mj : ∀ b, b < a + 9 + 4 * i → b ≠ a + 1 → m2 b = m b := fun b hb h => by rw [(k3 b (by omega)).2, up_row _ _ _ h, mk b hb]
    refine ev_sr i (by rw [gj _ (by omega)]; exact a2) rfl (by omega) (by omega) k1.1 ?_
    have hz : a + 11 + 4 * i + 2 = a + 9 + 4 * (i + 1) := by omega
    rw [hz]
    refine ev_mono (ih (i + 1) nn g2 _ (by omega) (by omega) ⟨⟨by rw [gj _ (by omega)]; exact a0, by rw [gj _ (by omega)]; exact a1, by rw [gj _ (by omega)]; exact a2, a3.cong (fun b x1 x2 => gj b (by omega)), by rw [gj _ (by omega)]; exact a4, by rw [gj _ (by omega)]; exact a5, by rw [gj _ (by omega)]; exact a6, by rw [gj _ (by omega)]; exact a7⟩, ⟨by rw [up_row _ _ _ (by omega), mj _ (by omega) (by omega)]; exact b0, by rw [up_row _ _ _ (by omega), mj _ (by omega) (by omega)]; exact b1, by rw [up_row _ _ _ (by omega), mj _ (by omega) (by omega)]; exact b2, by rw [up_row _ _ _ (by omega), mj _ (by omega) (by omega)]; exact b3, by rw [up_row _ _ _ (by omega), mj _ (by omega) (by omega)]; exact b4, by rw [up_row _ _ _ (by omega), mj _ (by omega) (by omega)]; exact b5, by rw [up_row _ _ _ (by omega), mj _ (by omega) (by omega)]; exact b6⟩, fun j hj => ?_⟩) (fun r hr => ⟨hr.1, hr.2.1, hr.2.2.1, fun b hb => ⟨by rw [(hr.2.2.2 b hb).1, gj b (by omega)], by rw [(hr.2.2.2 b hb).2, up_row _ _ _ (by omega), mj b (by omega) (by omega)]⟩⟩)
    by_cases hji : j = i
    · rw [hji]
      refine ⟨⟨h1.cong (fun b x1 x2 => (k3 b (by omega)).1), k1⟩, ⟨h2.keep ?_ ?_, k2.keep (up_row _ _ _ (by omega)) (up_row _ _ _ (by omega))⟩, ?_, up_at _ _ _ _⟩
      · rw [up_row _ _ _ (by omega), (k3 _ (by omega)).2, up_row _ _ _ (by omega)]
      · rw [up_row _ _ _ (by omega), (k3 _ (by omega)).2, up_row _ _ _ (by omega)]
      · rw [up_row _ _ _ (by omega), (k3 _ (by omega)).2, up_at]
    · obtain ⟨⟨c1, c2⟩, ⟨c3, c4⟩, c5, c6⟩ := c j (by omega)
      refine ⟨⟨c1.cong (fun b x1 x2 => gj b (by omega)), c2.cong (fun b x1 x2 => gj b (by omega))⟩, ⟨c3.keep (by rw [up_row _ _ _ (by omega), mj _ (by omega) (by omega)]) (by rw [up_row _ _ _ (by omega), mj _ (by omega) (by omega)]), c4.keep (by rw [up_row _ _ _ (by omega), mj _ (by omega) (by omega)]) (by rw [up_row _ _ _ (by omega), mj _ (by omega) (by omega)])⟩, ?_, ?_⟩
      · rw [up_row _ _ _ (by omega), (k3 _ (by omega)).2, up_ne _ _ (Or.inr hji), mk _ (by omega)]; exact c5
      · rw [up_ne _ _ (Or.inr hji), mj _ (by omega) (by omega)]; exact c6
theorem mk0 {l : Nat} (hg : g a = some (0, 13)) : Ev (X0_init e a l g m (a + 1)) (fun r => r.2.2 = a + 33 ∧ belT r.1 a ∧ belZ r.2.1 a ∧ ∀ b, b < a → r.1 b = g b ∧ r.2.1 b = m b) := by
  unfold X0_init
  refine ev_new rfl (ev_pf (by simp [mm_tg, hg]) (ev_new (z' := a + 2) rfl (ev_pf (by simp [mm_tg, hg]) ?_)))
  dsimp only
  refine mk3n (a := a + 3) (fun g' m' h1 h2 h3 => ?_)
  dsimp only
  have ga : g' a = some (0, 13) := by rw [(h3 a (by omega)).1]; simp [mm_tg, hg]
  have g1 : g' (a + 1) = some (23, 6) := by rw [(h3 (a + 1) (by omega)).1]; simp [mm_tg]
  have g2 : g' (a + 2) = some (23, 6) := by rw [(h3 (a + 2) (by omega)).1]; simp [mm_tg]
  have m0 : m' a 0 = .ref (a + 1) := by rw [(h3 a (by omega)).2]; simp [mm_up, mm_nw]
  have m1 : m' a 1 = .ref (a + 2) := by rw [(h3 a (by omega)).2]; simp [mm_up, mm_nw]
  have fb : ∀ b, b < a → g' b = g b ∧ m' b = m b := fun b hb => ⟨by rw [(h3 b (by omega)).1, tg_ne _ _ _ (by omega), tg_ne _ _ _ (by omega)], by rw [(h3 b (by omega)).2, up_row _ _ _ (by omega), nw_ne _ _ (by omega), up_row _ _ _ (by omega), nw_ne _ _ (by omega)]⟩
  clear h3 hg
  refine ev_pf ga (ev_new (z' := a + 5) rfl (ev_pf (by simp [mm_tg, ga]) (ev_new (z' := a + 6) rfl (ev_pf (by simp [mm_tg, ga]) (ev_new (z' := a + 7) rfl (ev_pf (by simp [mm_tg, ga]) (ev_new (z' := a + 8) rfl (ev_pf (by simp [mm_tg, ga]) (ev_pf (by simp [mm_tg, ga]) ?_)))))))))
  dsimp only
  refine ev_mono (mk0_loop (a := a) 6 0 7 _ _ (by omega) (by omega) ⟨⟨by simp [mm_tg, ga], by simp [mm_tg, g1], by simp [mm_tg, g2], h1.cong (fun b x1 x2 => ?_), by simp [mm_tg], by simp [mm_tg], by simp [mm_tg], by simp [mm_tg]⟩, ⟨by simp [mm_up, mm_nw, m0], by simp [mm_up, mm_nw, m1], by simp [mm_up, mm_nw], by simp [mm_up, mm_nw], by simp [mm_up, mm_nw], by simp [mm_up, mm_nw], by simp [mm_up, mm_nw]⟩, fun j hj => absurd hj (by omega)⟩) (fun r hr => ⟨hr.1, hr.2.1, hr.2.2.1, fun b hb => ⟨?_, ?_⟩⟩)
  · iterate 4 rw [tg_ne _ _ _ (by omega)]
  · rw [(hr.2.2.2 b hb).1]
    iterate 4 rw [tg_ne _ _ _ (by omega)]
    exact (fb b hb).1
  · rw [(hr.2.2.2 b hb).2, up_row _ _ _ (by omega), up_row _ _ _ (by omega), nw_ne _ _ (by omega), up_row _ _ _ (by omega), nw_ne _ _ (by omega), up_row _ _ _ (by omega), nw_ne _ _ (by omega), up_row _ _ _ (by omega), nw_ne _ _ (by omega), up_row _ _ _ (by omega)]
    exact (fb b hb).2
end MKC
