/-! THE CLASS, made; PG. -/
def cpos (i : Nat) : Nat := match i with
  | 0 => 1 | 1 => 2 | 2 => 21 | 3 => 40 | 4 => 47 | 5 => 110 | 6 => 173 | 7 => 193 | 8 => 213 | 9 => 233 | 10 => 253 | 11 => 254 | 12 => 259 | 13 => 369 | _ => 402
def cprt (z i : Nat) (g : mm_T) (m : mm_V) : Prop := match i with
  | 0 => g (z + 1) = some (20, 600)
  | 1 => toldT g (z + 2) ∧ rcT m (z + 2) 0 rd0
  | 2 => toldT g (z + 21) ∧ rcT m (z + 21) 0 rd0
  | 3 => rdTg g (z + 40) ∧ rcS m (z + 40)
  | 4 => logT g (z + 47) ∧ logR m (z + 47) []
  | 5 => logT g (z + 110) ∧ logR m (z + 110) []
  | 6 => gmM g m (z + 173) (z + 2)
  | 7 => gmM g m (z + 193) (z + 2)
  | 8 => gmM g m (z + 213) (z + 2)
  | 9 => gmM g m (z + 233) (z + 2)
  | 10 => g (z + 253) = some (2, 9)
  | 11 => plaT g (z + 254) ∧ plaS m (z + 254)
  | 12 => outT g (z + 259) ∧ outS m (z + 259) ∧ lvW m (z + 259)
  | 13 => belT g (z + 369) ∧ belZ m (z + 369)
  | _ => True
theorem cpos_mono : ∀ i : Fin 15, ∀ n : Fin 15, i.val < n.val → cpos (i.val + 1) ≤ cpos n.val := by decide +kernel
theorem cpos_1 : ∀ n : Fin 15, 1 ≤ cpos n.val := by decide +kernel
theorem belZ.keep {m m' : mm_V} {w : Nat} (h : belZ m w) (hk : ∀ b, w ≤ b → b < w + 33 → m' b = m b) : belZ m' w := by
  obtain ⟨a5, ⟨g1, a6⟩, g2, a7⟩ := h
  exact ⟨a5.keep (fun j _ => by rw [hk _ (by omega) (by omega)]) (hk _ (by omega) (by omega)) (hk _ (by omega) (by omega)), ⟨g1, a6.keep (fun i hi => ⟨hk _ (by omega) (by omega), hk _ (by omega) (by omega)⟩)⟩, g2, a7.keep (fun i hi => ⟨hk _ (by omega) (by omega), hk _ (by omega) (by omega)⟩)⟩
section MKD
variable {e : (Nat → Nat) × Nat} {z n : Nat} {g0 g : mm_T} {m0 m : mm_V} {β : Type} {P : β → Prop}
theorem cprt.keep {g' : mm_T} {m' : mm_V} : ∀ {i : Nat}, i < 14 → cprt z i g m → (∀ b, z + cpos i ≤ b → b < z + cpos (i + 1) → g' b = g b ∧ m' b = m b) → cprt z i g' m'
  | 0, _, h, k => by
    have k : ∀ b, z + 1 ≤ b → b < z + 2 → g' b = g b ∧ m' b = m b := k
    show g' (z + 1) = some (20, 600)
    rw [(k _ (by omega) (by omega)).1]; exact h
  | 1, _, h, k => by
    have k : ∀ b, z + 2 ≤ b → b < z + 21 → g' b = g b ∧ m' b = m b := k
    exact ⟨h.1.cong (fun b x1 x2 => (k b (by omega) (by omega)).1), h.2.keep (fun b x1 x2 => (k b (by omega) (by omega)).2)⟩
  | 2, _, h, k => by
    have k : ∀ b, z + 21 ≤ b → b < z + 40 → g' b = g b ∧ m' b = m b := k
    exact ⟨h.1.cong (fun b x1 x2 => (k b (by omega) (by omega)).1), h.2.keep (fun b x1 x2 => (k b (by omega) (by omega)).2)⟩
  | 3, _, h, k => by
    have k : ∀ b, z + 40 ≤ b → b < z + 47 → g' b = g b ∧ m' b = m b := k
    exact ⟨h.1.cong (fun b x1 x2 => (k b (by omega) (by omega)).1), h.2.row (fun b x1 x2 => (k b (by omega) (by omega)).2)⟩
  | 4, _, h, k => by
    have k : ∀ b, z + 47 ≤ b → b < z + 110 → g' b = g b ∧ m' b = m b := k
    exact ⟨h.1.cong (fun b x1 x2 => (k b (by omega) (by omega)).1), h.2.keep (fun b x1 x2 => (k b (by omega) (by omega)).2)⟩
  | 5, _, h, k => by
    have k : ∀ b, z + 110 ≤ b → b < z + 173 → g' b = g b ∧ m' b = m b := k
    exact ⟨h.1.cong (fun b x1 x2 => (k b (by omega) (by omega)).1), h.2.keep (fun b x1 x2 => (k b (by omega) (by omega)).2)⟩
  | 6, _, h, k => gmM.keep h k
  | 7, _, h, k => gmM.keep h k
  | 8, _, h, k => gmM.keep h k
  | 9, _, h, k => gmM.keep h k
  | 10, _, h, k => by
    have k : ∀ b, z + 253 ≤ b → b < z + 254 → g' b = g b ∧ m' b = m b := k
    show g' (z + 253) = some (2, 9)
    rw [(k _ (by omega) (by omega)).1]; exact h
  | 11, _, h, k => by
    have k : ∀ b, z + 254 ≤ b → b < z + 259 → g' b = g b ∧ m' b = m b := k
    exact ⟨h.1.cong (fun b x1 x2 => (k b (by omega) (by omega)).1), h.2.keep (fun j _ => by rw [(k _ (by omega) (by omega)).2])⟩
  | 12, _, h, k => by
    have k : ∀ b, z + 259 ≤ b → b < z + 369 → g' b = g b ∧ m' b = m b := k
    exact ⟨h.1.cong (fun b x1 x2 => (k b (by omega) (by omega)).1), h.2.1.keep (fun j _ => by rw [(k _ (by omega) (by omega)).2]) (k _ (by omega) (by omega)).2 (k _ (by omega) (by omega)).2, fun i hi => (h.2.2 i hi).keep (fun b x1 x2 => (k b (by omega) (by omega)).2)⟩
  | 13, _, h, k => by
    have k : ∀ b, z + 369 ≤ b → b < z + 402 → g' b = g b ∧ m' b = m b := k
    exact ⟨h.1.cong (fun b x1 x2 => (k b (by omega) (by omega)).1), h.2.keep (fun b x1 x2 => (k b (by omega) (by omega)).2)⟩
  | n + 14, h, _, _ => absurd h (by omega)
def c11 (z : Nat) (g0 : mm_T) (m0 : mm_V) (n : Nat) (g : mm_T) (m : mm_V) : Prop := g z = some (11, 19) ∧ (∀ i, i < n → cprt z i g m ∧ m z i = .ref (z + cpos i)) ∧ (∀ k, 14 ≤ k → m z k = df_X11 k) ∧ ∀ b, b < z → g b = g0 b ∧ m b = m0 b
theorem c11_pf {a : Nat} {g' : mm_T} {m' : mm_V} {F : mm_V → Option β} (h : c11 z g0 m0 n g m) (hn : n < 14) (ha : a = z + cpos n) (hc : cprt z n g' m') (hk : ∀ b, b < a → g' b = g b ∧ m' b = m b) (kk : ∀ m2, c11 z g0 m0 (n + 1) g' m2 → Ev (F m2) P) : Ev ((mm_pf g' m' 11 19 z n (.ref a)).bind F) P := by
  obtain ⟨h1, h2, h3, h4⟩ := h
  have hp := cpos_1 ⟨n, by omega⟩
  have hp : 1 ≤ cpos n := hp
  have hz : g' z = some (11, 19) := by rw [(hk z (by omega)).1]; exact h1
  rw [wr_pf hz, Option.bind_some]
  refine kk _ ⟨hz, fun i hi => ?_, fun k hk' => ?_, fun b hb => ⟨by rw [(hk b (by omega)).1]; exact (h4 b hb).1, by rw [up_row _ _ _ (by omega), (hk b (by omega)).2]; exact (h4 b hb).2⟩⟩
  · by_cases hin : i = n
    · subst hin
      refine ⟨cprt.keep hn hc (fun b x1 x2 => ⟨rfl, up_row _ _ _ (by omega)⟩), ?_⟩
      rw [up_at, ha]
    · obtain ⟨c1, c2⟩ := h2 i (by omega)
      have hm := cpos_mono ⟨i, by omega⟩ ⟨n, by omega⟩ (by show i < n; omega)
      have hm : cpos (i + 1) ≤ cpos n := hm
      have hp' := cpos_1 ⟨i, by omega⟩
      have hp' : 1 ≤ cpos i := hp'
      refine ⟨cprt.keep (by omega) c1 (fun b x1 x2 => ⟨(hk b (by omega)).1, by rw [up_row _ _ _ (by omega), (hk b (by omega)).2]⟩), ?_⟩
      rw [up_ne _ _ (Or.inr hin), (hk z (by omega)).2]
      exact c2
  · rw [up_ne _ _ (Or.inr (by omega)), (hk z (by omega)).2]
    exact h3 k hk'
theorem mk_class {g1 : mm_T} {m1 : mm_V} (hN : 2000 < e.2) (hz : g1 z = some (11, 19)) (hm : m1 z = df_X11) (hs : ∀ i, i < 17 → e.1 (100 + i) < z) (hst : ∀ i, i < 17 → g1 (e.1 (100 + i)) = some (30, wln i) ∧ ∀ k, k < wln i → m1 (e.1 (100 + i)) k = .int (zI (wch i k))) : Ev (X11_init e z g1 m1 (z + 1)) (fun r => r.2.2 = z + 402 ∧ icT (r.1, e) z ∧ IC (r.1, e) r.2.1 z (z + 2) (z + 21) Cfg0 (tbG1 rd0) Mi0 ∧ ∀ b, b < z → r.1 b = g1 b ∧ r.2.1 b = m1 b) := by
  have b0 : c11 z g1 m1 0 g1 m1 := ⟨hz, fun i hi => absurd hi (by omega), fun k _ => by rw [hm], fun b _ => ⟨rfl, rfl⟩⟩
  clear hm
  unfold X11_init X2_init
  refine ev_new (z' := z + 1) rfl ?_
  dsimp only
  refine c11_pf (n := 0) b0 (by omega) rfl (tg_at _ _ _ _) (fun b hb => ⟨tg_ne _ _ _ (by omega), nw_ne _ _ (by omega)⟩) (fun m b0 => ?_)
  generalize mm_tg g1 (z + 1) 20 600 = g at b0 ⊢
  have hN' : 1000 < e.2 := by omega
  refine ev_new (z' := z + 2) rfl ?_
  dsimp only
  refine ev_call (mk10 hN' (tg_at _ _ _ _)) ?_
  rintro ⟨g', m', z'⟩ ⟨h1, h2, h3, hk⟩
  dsimp only at h1 h2 h3 hk ⊢
  subst h1
  refine c11_pf (n := 1) b0 (by omega) rfl ⟨h2, h3⟩ (fun b hb => ⟨by rw [(hk b hb).1, tg_ne _ _ _ (by omega)], by rw [(hk b hb).2, nw_ne _ _ (by omega)]⟩) (fun m b0 => ?_)
  clear hk h2 h3
  refine ev_new (z' := z + 21) rfl ?_
  dsimp only
  refine ev_call (mk10 hN' (tg_at _ _ _ _)) ?_
  rintro ⟨g', m', z'⟩ ⟨h1, h2, h3, hk⟩
  dsimp only at h1 h2 h3 hk ⊢
  subst h1
  refine c11_pf (n := 2) b0 (by omega) rfl ⟨h2, h3⟩ (fun b hb => ⟨by rw [(hk b hb).1, tg_ne _ _ _ (by omega)], by rw [(hk b hb).2, nw_ne _ _ (by omega)]⟩) (fun m b0 => ?_)
  clear hk h2 h3
  refine ev_new (z' := z + 40) rfl ?_
  dsimp only
  refine ev_gr (v := z + cpos 2) (by rw [tg_ne _ _ _ (by omega)]; exact b0.1) (by rw [nw_ne _ _ (by omega)]; exact (b0.2.1 2 (by omega)).2) ?_
  refine ev_call (mk8 (tg_at _ _ _ _)) ?_
  rintro ⟨g', m', z'⟩ ⟨h1, h2, h3, hk⟩
  dsimp only at h1 h2 h3 hk ⊢
  subst h1
  refine c11_pf (n := 3) b0 (by omega) rfl ⟨h2, h3⟩ (fun b hb => ⟨by rw [(hk b hb).1, tg_ne _ _ _ (by omega)], by rw [(hk b hb).2, nw_ne _ _ (by omega)]⟩) (fun m b0 => ?_)
  clear hk h2 h3
  refine ev_new (z' := z + 47) rfl ?_
  dsimp only
  refine ev_call (mk5 (tg_at _ _ _ _) (nw_at _ _ _)) ?_
  rintro ⟨g', m', z'⟩ ⟨h1, h2, h3, hk⟩
  dsimp only at h1 h2 h3 hk ⊢
  subst h1
  refine c11_pf (n := 4) b0 (by omega) rfl ⟨h2, h3⟩ (fun b hb => ⟨by rw [(hk b hb).1, tg_ne _ _ _ (by omega)], by rw [(hk b hb).2, nw_ne _ _ (by omega)]⟩) (fun m b0 => ?_)
  clear hk h2 h3
  refine ev_new (z' := z + 110) rfl ?_
  dsimp only
  refine ev_call (mk5 (tg_at _ _ _ _) (nw_at _ _ _)) ?_
  rintro ⟨g', m', z'⟩ ⟨h1, h2, h3, hk⟩
  dsimp only at h1 h2 h3 hk ⊢
  subst h1
  refine c11_pf (n := 5) b0 (by omega) rfl ⟨h2, h3⟩ (fun b hb => ⟨by rw [(hk b hb).1, tg_ne _ _ _ (by omega)], by rw [(hk b hb).2, nw_ne _ _ (by omega)]⟩) (fun m b0 => ?_)
  clear hk h2 h3
  refine ev_new (z' := z + 173) rfl ?_
  dsimp only
  refine ev_gr (v := z + cpos 1) (by rw [tg_ne _ _ _ (by omega)]; exact b0.1) (by rw [nw_ne _ _ (by omega)]; exact (b0.2.1 1 (by omega)).2) ?_
  refine ev_call (mk4 (tg_at _ _ _ _) (nw_at _ _ _)) ?_
  rintro ⟨g', m', z'⟩ ⟨h1, h2, hk⟩
  dsimp only at h1 h2 hk ⊢
  subst h1
  refine c11_pf (n := 6) b0 (by omega) rfl h2 (fun b hb => ⟨by rw [(hk b hb).1, tg_ne _ _ _ (by omega)], by rw [(hk b hb).2, nw_ne _ _ (by omega)]⟩) (fun m b0 => ?_)
  clear hk h2
  refine ev_new (z' := z + 193) rfl ?_
  dsimp only
  refine ev_gr (v := z + cpos 1) (by rw [tg_ne _ _ _ (by omega)]; exact b0.1) (by rw [nw_ne _ _ (by omega)]; exact (b0.2.1 1 (by omega)).2) ?_
  refine ev_call (mk4 (tg_at _ _ _ _) (nw_at _ _ _)) ?_
  rintro ⟨g', m', z'⟩ ⟨h1, h2, hk⟩
  dsimp only at h1 h2 hk ⊢
  subst h1
  refine c11_pf (n := 7) b0 (by omega) rfl h2 (fun b hb => ⟨by rw [(hk b hb).1, tg_ne _ _ _ (by omega)], by rw [(hk b hb).2, nw_ne _ _ (by omega)]⟩) (fun m b0 => ?_)
  clear hk h2
  refine ev_new (z' := z + 213) rfl ?_
  dsimp only
  refine ev_gr (v := z + cpos 1) (by rw [tg_ne _ _ _ (by omega)]; exact b0.1) (by rw [nw_ne _ _ (by omega)]; exact (b0.2.1 1 (by omega)).2) ?_
  refine ev_call (mk4 (tg_at _ _ _ _) (nw_at _ _ _)) ?_
  rintro ⟨g', m', z'⟩ ⟨h1, h2, hk⟩
  dsimp only at h1 h2 hk ⊢
  subst h1
  refine c11_pf (n := 8) b0 (by omega) rfl h2 (fun b hb => ⟨by rw [(hk b hb).1, tg_ne _ _ _ (by omega)], by rw [(hk b hb).2, nw_ne _ _ (by omega)]⟩) (fun m b0 => ?_)
  clear hk h2
  refine ev_new (z' := z + 233) rfl ?_
  dsimp only
  refine ev_gr (v := z + cpos 1) (by rw [tg_ne _ _ _ (by omega)]; exact b0.1) (by rw [nw_ne _ _ (by omega)]; exact (b0.2.1 1 (by omega)).2) ?_
  refine ev_call (mk4 (tg_at _ _ _ _) (nw_at _ _ _)) ?_
  rintro ⟨g', m', z'⟩ ⟨h1, h2, hk⟩
  dsimp only at h1 h2 hk ⊢
  subst h1
  refine c11_pf (n := 9) b0 (by omega) rfl h2 (fun b hb => ⟨by rw [(hk b hb).1, tg_ne _ _ _ (by omega)], by rw [(hk b hb).2, nw_ne _ _ (by omega)]⟩) (fun m b0 => ?_)
  clear hk h2
  refine ev_new (z' := z + 253) rfl ?_
  dsimp only
  refine ev_eq rfl ?_
  dsimp only
  refine c11_pf (n := 10) b0 (by omega) rfl (tg_at _ _ _ _) (fun b hb => ⟨tg_ne _ _ _ (by omega), nw_ne _ _ (by omega)⟩) (fun m b0 => ?_)
  generalize mm_tg _ (z + 253) 2 9 = g at b0 ⊢
  refine ev_new (z' := z + 254) rfl ?_
  dsimp only
  refine ev_call (mk7 (tg_at _ _ _ _)) ?_
  rintro ⟨g', m', z'⟩ ⟨h1, h2, h3, hk⟩
  dsimp only at h1 h2 h3 hk ⊢
  subst h1
  refine c11_pf (n := 11) b0 (by omega) rfl ⟨h2, h3⟩ (fun b hb => ⟨by rw [(hk b hb).1, tg_ne _ _ _ (by omega)], by rw [(hk b hb).2, nw_ne _ _ (by omega)]⟩) (fun m b0 => ?_)
  clear hk h2 h3
  refine ev_new (z' := z + 259) rfl ?_
  dsimp only
  refine ev_gr (v := z + cpos 1) (by rw [tg_ne _ _ _ (by omega)]; exact b0.1) (by rw [nw_ne _ _ (by omega)]; exact (b0.2.1 1 (by omega)).2) ?_
  refine ev_call (mk6 (tg_at _ _ _ _)) ?_
  rintro ⟨g', m', z'⟩ ⟨h1, h2, h3, h4, hk⟩
  dsimp only at h1 h2 h3 h4 hk ⊢
  subst h1
  refine c11_pf (n := 12) b0 (by omega) rfl ⟨h2, h3, h4⟩ (fun b hb => ⟨by rw [(hk b hb).1, tg_ne _ _ _ (by omega)], by rw [(hk b hb).2, nw_ne _ _ (by omega)]⟩) (fun m b0 => ?_)
  clear hk h2 h3 h4
  refine ev_new (z' := z + 369) rfl ?_
  dsimp only
  refine ev_gr (v := z + cpos 4) (by rw [tg_ne _ _ _ (by omega)]; exact b0.1) (by rw [nw_ne _ _ (by omega)]; exact (b0.2.1 4 (by omega)).2) ?_
  refine ev_call (mk0 (tg_at _ _ _ _)) ?_
  rintro ⟨g', m', z'⟩ ⟨h1, h2, h3, hk⟩
  dsimp only at h1 h2 h3 hk ⊢
  subst h1
  refine c11_pf (n := 13) b0 (by omega) rfl ⟨h2, h3⟩ (fun b hb => ⟨by rw [(hk b hb).1, tg_ne _ _ _ (by omega)], by rw [(hk b hb).2, nw_ne _ _ (by omega)]⟩) (fun m b0 => ?_)
  clear hk h2 h3
  obtain ⟨p0, p1, p2, p3⟩ := b0
  have q0 := (p1 0 (by omega)).1
  have q1 := (p1 1 (by omega)).1
  have q2 := (p1 2 (by omega)).1
  have q3 := (p1 3 (by omega)).1
  have q4 := (p1 4 (by omega)).1
  have q5 := (p1 5 (by omega)).1
  have q6 : gmM g' m (z + 173) (z + 2) := (p1 6 (by omega)).1
  have q7 : gmM g' m (z + 193) (z + 2) := (p1 7 (by omega)).1
  have q8 : gmM g' m (z + 213) (z + 2) := (p1 8 (by omega)).1
  have q9 : gmM g' m (z + 233) (z + 2) := (p1 9 (by omega)).1
  have q10 := (p1 10 (by omega)).1
  have q11 := (p1 11 (by omega)).1
  have q12 := (p1 12 (by omega)).1
  have q13 := (p1 13 (by omega)).1
  refine ev_pf p0 (ev_tg p0 ?_)
  have oz : ∀ b, b ≠ z → (mm_up m z 16 (.int (-1 : Int32))) b = m b := fun b hb => up_row _ _ _ hb
  have fz : ∀ k, k ≠ 16 → (mm_up m z 16 (.int (-1 : Int32))) z k = m z k := fun k hk => up_ne _ _ (Or.inr hk)
  have v16 : (mm_up m z 16 (.int (-1 : Int32))) z 16 = .int (zI (-1)) := up_at _ _ _ _
  generalize mm_up m z 16 (.int (-1 : Int32)) = m5 at oz fz v16
  have hic : icT (g', e) z := by
    refine ⟨p0, ⟨q0, q1.1, q3.1.1, q3.1.2.1, q3.1.2.2.1, q3.1.2.2.2.1, q3.1.2.2.2.2.1, q3.1.2.2.2.2.2, by omega, by omega, fun i hi => ?_, hN'⟩, ⟨q0, q2.1, q3.1.1, q3.1.2.1, q3.1.2.2.1, q3.1.2.2.2.1, q3.1.2.2.2.2.1, q3.1.2.2.2.2.2, by omega, by omega, fun i hi => ?_, hN'⟩, q4.1, q5.1, q6.1, q7.1, q8.1, q9.1, q10, q11.1, q12.1, q13.1, hs, hN⟩
    · have := hs i hi
      show e.1 (100 + i) < z + 1
      omega
    · have := hs i hi
      show e.1 (100 + i) < z + 1
      omega
  have hg : rdG rd0 := ⟨rdI0, fun h => (by cases h)⟩
  have R5 : rcT m5 (z + 2) 0 rd0 := q1.2.keep (fun b x1 x2 => oz b (by omega))
  have hG6 : gmM g' m5 (z + 173) (z + 2) := q6.keep (fun b x1 x2 => ⟨rfl, oz b (by omega)⟩)
  have hG7 : gmM g' m5 (z + 193) (z + 2) := q7.keep (fun b x1 x2 => ⟨rfl, oz b (by omega)⟩)
  refine ev_call (cl_lay (e := (g', e)) (t := z + 2) hic (Or.inl rfl) R5 hg (by rw [fz _ (by omega)]; exact (p1 1 (by omega)).2) (by rw [fz _ (by omega)]; exact (p1 4 (by omega)).2) (by rw [fz _ (by omega)]; exact (p1 6 (by omega)).2) (by rw [fz _ (by omega)]; exact (p1 7 (by omega)).2) hG6.2.1 hG6.2.2.1 hG6.2.2.2 hG7.2.1 hG7.2.2.1 (q4.2.keep (fun b x1 x2 => oz b (by omega)))) ?_
  rintro m6 ⟨y1, y2, y3, y4, y5, y6⟩
  have fr : ∀ b, b ≠ z → b ≠ z + 47 → (b < z + 173 ∨ z + 213 ≤ b) → m6 b = m b := fun b x1 x2 x3 => by rw [y6 b x1 x2 x3, oz b x1]
  have ff : ∀ k, k ≠ 14 → k ≠ 16 → m6 z k = m z k := fun k x1 x2 => by rw [y5 k x1, fz k x2]
  refine ev_ret ⟨by show z + 369 + 33 = z + 402; omega, hic, ?_, fun b hb => ⟨(p3 b hb).1, by show m6 b = m1 b; rw [fr b (by omega) (by omega) (by omega)]; exact (p3 b hb).2⟩⟩
  show IC (g', e) m6 z (z + 2) (z + 21) Cfg0 (tbG1 rd0) Mi0
  refine ⟨Or.inl ⟨rfl, rfl⟩, ⟨⟨?_, ?_, ?_, ?_, ?_, ?_, ?_⟩, ⟨?_, ?_, ?_, ?_, ?_, ?_, ?_⟩, y4, ?_, ?_, ?_, ?_⟩, fun i hi => absurd hi (Nat.not_lt_zero i), ?_, ?_, ?_, ⟨y3, ?_⟩, ⟨y1, y2, ?_⟩, ⟨?_, ?_, ?_, ?_, ?_⟩, (fun Si Hi hx => by cases hx), fun i hi => ?_⟩
  · rw [ff _ (by omega) (by omega)]; exact (p1 0 (by omega)).2
  · rw [ff _ (by omega) (by omega)]; exact (p1 1 (by omega)).2
  · rw [ff _ (by omega) (by omega)]; exact (p1 2 (by omega)).2
  · rw [ff _ (by omega) (by omega)]; exact (p1 3 (by omega)).2
  · rw [ff _ (by omega) (by omega)]; exact (p1 4 (by omega)).2
  · rw [ff _ (by omega) (by omega)]; exact (p1 5 (by omega)).2
  · rw [ff _ (by omega) (by omega)]; exact (p1 6 (by omega)).2
  · rw [ff _ (by omega) (by omega)]; exact (p1 7 (by omega)).2
  · rw [ff _ (by omega) (by omega)]; exact (p1 8 (by omega)).2
  · rw [ff _ (by omega) (by omega)]; exact (p1 9 (by omega)).2
  · rw [ff _ (by omega) (by omega)]; exact (p1 10 (by omega)).2
  · rw [ff _ (by omega) (by omega)]; exact (p1 11 (by omega)).2
  · rw [ff _ (by omega) (by omega)]; exact (p1 12 (by omega)).2
  · rw [ff _ (by omega) (by omega)]; exact (p1 13 (by omega)).2
  · rw [ff _ (by omega) (by omega), p2 _ (by omega)]; rfl
  · rw [y5 _ (by omega)]; exact v16
  · rw [ff _ (by omega) (by omega), p2 _ (by omega)]; rfl
  · rw [ff _ (by omega) (by omega), p2 _ (by omega)]; rfl
  · exact (R5.keep (fun b x1 x2 => y6 b (by omega) (by omega) (by omega))).told (e := (g', e)) (by omega) q1.1 hg
  · exact ⟨q2.2.1.keep (fun j _ => by rw [fr _ (by omega) (by omega) (by omega)]) (fr _ (by omega) (by omega) (by omega)), _, q2.2.2.2.2.2.2.2.1.keep (fun b x1 x2 => fr b (by omega) (by omega) (by omega))⟩
  · exact q3.2.row (fun b x1 x2 => fr b (by omega) (by omega) (by omega))
  · exact ⟨_, q5.2.keep (fun b x1 x2 => fr b (by omega) (by omega) (by omega))⟩
  · exact q8.gmW.keep (fun b x1 x2 => fr b (by omega) (by omega) (by omega))
  · exact q9.gmW.keep (fun b x1 x2 => fr b (by omega) (by omega) (by omega))
  · exact q11.2.keep (fun j _ => by rw [fr _ (by omega) (by omega) (by omega)])
  · exact q12.2.1.keep (fun j _ => by rw [fr _ (by omega) (by omega) (by omega)]) (fr _ (by omega) (by omega) (by omega)) (fr _ (by omega) (by omega) (by omega))
  · exact fun i hi => (q12.2.2 i hi).keep (fun b x1 x2 => fr b (by omega) (by omega) (by omega))
  · exact q13.2.keep (fun b x1 x2 => fr b (by omega) (by omega) (by omega))
  · have hsi := hs i hi
    obtain ⟨t1, t2⟩ := hst i hi
    refine ⟨by show g' (e.1 (100 + i)) = _; rw [(p3 _ hsi).1]; exact t1, fun k hk => ?_⟩
    show m6 (e.1 (100 + i)) k = _
    rw [fr _ (by omega) (by omega) (by omega), (p3 _ hsi).2]
    exact t2 k hk
theorem sb_wch : ∀ i : Fin 17, ∀ k : Fin 7, k.val < wln i.val → (mm_sb.getD i.val []).getD k.val 0 = zI (wch i.val k.val) := by decide +kernel
theorem pureI_0 : pureI Cfg0 (tbG1 rd0) Mi0 0 := by
  have hg : rdG rd0 := ⟨rdI0, fun h => (by cases h)⟩
  have ok := tb_ok hg
  exact ⟨⟨by show 2 ≤ 3; omega, by show 3 ≤ 6; omega, by show 5 ≤ 9; omega, Nat.zero_le _, fun k _ h => absurd rfl h, fun _ => Nat.zero_le _⟩, ⟨ok, tb_19 hg⟩, ⟨ok, Nat.zero_le _, tbS rd0, 0, rfl, rfl, Nat.le_refl _, Nat.le_refl _, fun _ => rfl⟩, fun Si Hi hx => (by cases hx), ⟨Nat.zero_le _, fun i hi => absurd hi (Nat.not_lt_zero i), by show (-1 : Int) ≤ -1; omega, by show (-1 : Int) ≤ 600; omega, Nat.le_refl _, Nat.le_refl _⟩, by omega⟩
theorem icT.cong {g' : mm_T} (h : icT (g, e) z) (k : ∀ b, b < z + 402 → g' b = g b) : icT (g', e) z := by
  obtain ⟨a1, ⟨b1, b2, b3, b4, b5, b6, b7, b8, b9, b10, b11, b12⟩, ⟨c1, c2, c3, c4, c5, c6, c7, c8, c9, c10, c11, c12⟩, a4, a5, a6, a7, a8, a9, a10, a11, a12, a13, a14, a15⟩ := h
  refine ⟨by show g' z = _; rw [k z (by omega)]; exact a1, ⟨by show g' (z + 1) = _; rw [k _ (by omega)]; exact b1, b2.cong (fun b x1 x2 => k b (by omega)), by show g' (z + 40) = _; rw [k _ (by omega)]; exact b3, by show g' (z + 40 + 1) = _; rw [k _ (by omega)]; exact b4, by show g' (z + 40 + 3) = _; rw [k _ (by omega)]; exact b5, by show g' (z + 40 + 4) = _; rw [k _ (by omega)]; exact b6, by show g' (z + 40 + 5) = _; rw [k _ (by omega)]; exact b7, by show g' (z + 40 + 6) = _; rw [k _ (by omega)]; exact b8, b9, b10, b11, b12⟩, ⟨by show g' (z + 1) = _; rw [k _ (by omega)]; exact c1, c2.cong (fun b x1 x2 => k b (by omega)), by show g' (z + 40) = _; rw [k _ (by omega)]; exact c3, by show g' (z + 40 + 1) = _; rw [k _ (by omega)]; exact c4, by show g' (z + 40 + 3) = _; rw [k _ (by omega)]; exact c5, by show g' (z + 40 + 4) = _; rw [k _ (by omega)]; exact c6, by show g' (z + 40 + 5) = _; rw [k _ (by omega)]; exact c7, by show g' (z + 40 + 6) = _; rw [k _ (by omega)]; exact c8, c9, c10, c11, c12⟩, a4.cong (fun b x1 x2 => k b (by omega)), a5.cong (fun b x1 x2 => k b (by omega)), a6.cong (fun b x1 x2 => k b (by omega)), a7.cong (fun b x1 x2 => k b (by omega)), a8.cong (fun b x1 x2 => k b (by omega)), a9.cong (fun b x1 x2 => k b (by omega)), by show g' (z + 253) = _; rw [k _ (by omega)]; exact a10, a11.cong (fun b x1 x2 => k b (by omega)), a12.cong (fun b x1 x2 => k b (by omega)), a13.cong (fun b x1 x2 => k b (by omega)), a14, a15⟩
theorem IC.tag {g' : mm_T} {t d : Nat} {C : CF} {G : GM} {M : MI} (h : IC (g, e) m z t d C G M) (hT : icT (g, e) z) (k : ∀ b, b < z + 402 → g' b = g b) : IC (g', e) m z t d C G M := by
  have htf := t_far h
  obtain ⟨h1, h2, h3, ⟨⟨c1, c2⟩, c3⟩, h5, h6, h7, h8, h9, h10, h11⟩ := h
  have hs := hT.2.2.2.2.2.2.2.2.2.2.2.2.2.1
  refine ⟨h1, h2, h3, ⟨⟨c1.cong (fun b x1 x2 => k b (by omega)), c2⟩, c3⟩, h5, h6, h7, h8, h9, h10, fun i hi => ⟨?_, (h11 i hi).2⟩⟩
  have := hs i hi
  show g' (e.1 (100 + i)) = _
  rw [k _ (by have : e.1 (100 + i) < z := this; omega)]
  exact (h11 i hi).1
theorem IM.tag {g' : mm_T} {q : Nat} {C : CF} {G : GM} {M : MI} (h : IM (g, e) m q C G M) (hT : modT g' q) : IM (g', e) m q C G M := by
  obtain ⟨⟨-, h1⟩, h2⟩ := h
  exact ⟨⟨hT, h1⟩, h2⟩
theorem pg_all : PG := by
  intro zs b L xs z g m hL hbz hzs hgb hmb hst
  obtain ⟨N, hN1, hN2, hN3⟩ : ∃ N, 2000 < N ∧ bcst 19 < N ∧ cst 4 < N := ⟨bcst 19 + cst 4 + 2001, by omega, by omega, by omega⟩
  have hzg : ∀ i, i < 17 → (mm_tg g z 11 19) (zs (100 + i)) = some (30, wln i) ∧ ∀ k, k < wln i → (mm_nw m z df_X11) (zs (100 + i)) k = .int (zI (wch i k)) := by
    intro i hi
    have hlt := hzs i hi
    obtain ⟨t1, t2⟩ := hst i hi
    refine ⟨by rw [tg_ne _ _ _ (by omega)]; exact t1, fun k hk => ?_⟩
    have hk6 := (wln_le i hi).2
    rw [nw_ne _ _ (by omega), t2 k hk]
    have hsb : (mm_sb.getD i []).getD k 0 = zI (wch i k) := sb_wch ⟨i, hi⟩ ⟨k, by omega⟩ hk
    rw [hsb]
  obtain ⟨s1, e1, z1, icT1, IC1, fr1⟩ := mk_class (e := (zs, N)) (z := z) (g1 := mm_tg g z 11 19) (m1 := mm_nw m z df_X11) hN1 (tg_at _ _ _ _) (nw_at _ _ _) hzs hzg
  obtain ⟨s3, e3, z3, imT3, IM3, fr3⟩ := mk_model (e := (zs, N)) (q := s1.2.2) (s := mm_tg s1.1 s1.2.2 12 75) (m1 := mm_nw s1.2.1 s1.2.2 df_X12) hN1 hN2 hN3 (tg_at _ _ _ _) (nw_at _ _ _)
  obtain ⟨ga, ma, za⟩ := s1
  obtain ⟨gc, mc, zc⟩ := s3
  dsimp only at e1 z1 icT1 IC1 fr1 e3 z3 imT3 IM3 fr3
  subst z1
  subst z3
  have tA : ∀ b, b < z + 402 → mm_tg gc (z + 402 + 40) 21 1 b = ga b := fun b hb => by rw [tg_ne _ _ _ (by omega), (fr3 b hb).1, tg_ne _ _ _ (by omega)]
  have tC : ∀ b, b < z + 402 + 40 → mm_tg gc (z + 402 + 40) 21 1 b = gc b := fun b hb => tg_ne _ _ _ (by omega)
  have mA : ∀ b, b < z + 402 → (mm_nw mc (z + 402 + 40) (fun _ => defaultValue (mm_aty 21))) b = ma b := fun b hb => by rw [nw_ne _ _ (by omega), (fr3 b hb).2, nw_ne _ _ (by omega)]
  have mC : ∀ b, b < z + 402 + 40 → (mm_nw mc (z + 402 + 40) (fun _ => defaultValue (mm_aty 21))) b = mc b := fun b hb => nw_ne _ _ (by omega)
  have hicT : icT (mm_tg gc (z + 402 + 40) 21 1, zs, N) z := icT1.cong (g' := mm_tg gc (z + 402 + 40) 21 1) tA
  have himT : imT (mm_tg gc (z + 402 + 40) 21 1, zs, N) (z + 402) := ⟨fun i hi => by show mm_tg gc (z + 402 + 40) 21 1 (z + 402 + i) = _; rw [tC _ (by omega)]; exact imT3.1 i hi, imT3.2⟩
  have hIC : IC (mm_tg gc (z + 402 + 40) 21 1, zs, N) (mm_nw mc (z + 402 + 40) (fun _ => defaultValue (mm_aty 21))) z (z + 2) (z + 21) Cfg0 (tbG1 rd0) Mi0 := (IC1.out icT1 mA).tag (g' := mm_tg gc (z + 402 + 40) 21 1) icT1 tA
  have hIM : IM (mm_tg gc (z + 402 + 40) 21 1, zs, N) (mm_nw mc (z + 402 + 40) (fun _ => defaultValue (mm_aty 21))) (z + 402) Cfg0 (tbG1 rd0) Mi0 := (IM3.out (fun b x1 x2 => mC b (by omega))).tag himT.1
  have hlT : lwT (mm_tg gc (z + 402 + 40) 21 1, zs, N) b z (z + 402) (z + 402 + 40) L := ⟨hicT, himT, by show mm_tg gc (z + 402 + 40) 21 1 b = _; rw [tA b (by omega), (fr1 b hbz).1, tg_ne _ _ _ (by omega)]; exact hgb, tg_at _ _ _ _, hbz, rfl, rfl, hL⟩
  obtain ⟨⟨v, m'⟩, r1, r2⟩ := law_loop (xs := xs) hlT 514 0 0 _ (by omega) (by omega) (by omega) ⟨z + 2, z + 21, Cfg0, tbG1 rd0, Mi0, hIC, hIM, pureI_0, fun k hk => by rw [mA b (by omega), (fr1 b hbz).2, nw_ne _ _ (by omega)]; exact hmb k hk⟩
  have r2 : v = zI 1 := r2
  subst r2
  exact ⟨N, _, _, m', e1, e3, hicT.1, himT.1.me, r1⟩
end MKD
