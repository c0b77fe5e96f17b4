/-! THE MODEL, made. -/
theorem mfld_inj : ∀ i : Fin 40, ∀ j : Fin 40, 0 < i.val → 0 < j.val → i.val ≠ j.val → mfld i.val ≠ mfld j.val := by decide +kernel
def bmI (q : Nat) (g0 : mm_T) (m0 : mm_V) (n : Nat) (V : Nat → Value) (g : mm_T) (m : mm_V) : Prop := g q = some (12, 75) ∧ (∀ i, 0 < i → i ≤ n → g (q + i) = some (mtab i) ∧ m q (mfld i) = .ref (q + i)) ∧ (∀ i, 0 < i → i ≤ n → i ≠ 18 → (mtab i).1 = 20 → ∀ k, m (q + i) k = .int (zI 0)) ∧ (18 ≤ n → ∀ k, k < 6 → m (q + 18) k = .int (zI k)) ∧ (∀ k, (∀ i, 0 < i → i < 40 → k ≠ mfld i) → m q k = V k) ∧ ∀ b, b < q → g b = g0 b ∧ m b = m0 b
section MKM
variable {e : (Nat → Nat) × Nat} {q n k t l z : Nat} {g0 g : mm_T} {m0 m : mm_V} {V : Nat → Value} {f : Nat → Value} {β : Type} {P : β → Prop}
theorem bm_more (h : bmI q g0 m0 n V g m) (hn : n + 1 < 40) (hz : z = q + (n + 1)) (hmt : mtab (n + 1) = (t, l)) (hmf : mfld (n + 1) = k) {m2 : mm_V} (hr : n + 1 ≠ 18 → t = 20 → ∀ j, m2 z j = .int (zI 0)) (h18 : n + 1 = 18 → ∀ j, j < 6 → m2 z j = .int (zI j)) (ho : ∀ b, b ≠ z → m2 b = m b) : bmI q g0 m0 (n + 1) V (mm_tg g z t l) (mm_up m2 q k (.ref z)) := by
  obtain ⟨h1, h2, h3, h4, h5, h6⟩ := h
  have tg : ∀ b, b ≠ z → mm_tg g z t l b = g b := fun b hb => if_neg hb
  have tz : mm_tg g z t l z = some (t, l) := if_pos rfl
  refine ⟨by rw [tg _ (by omega)]; exact h1, fun i i1 i2 => ?_, fun i i1 i2 i3 i4 j => ?_, fun hn18 j hj => ?_, fun j hj => ?_, fun b hb => ⟨by rw [tg _ (by omega)]; exact (h6 b hb).1, by rw [up_row _ _ _ (by omega), ho b (by omega)]; exact (h6 b hb).2⟩⟩
  · by_cases hi : i = n + 1
    · rw [hi, ← hz, hmt, hmf]
      exact ⟨tz, up_at _ _ _ _⟩
    · refine ⟨by rw [tg _ (by omega)]; exact (h2 i i1 (by omega)).1, ?_⟩
      have hne := mfld_inj ⟨i, by omega⟩ ⟨n + 1, hn⟩ i1 (Nat.succ_pos n) hi
      rw [up_ne _ _ (Or.inr (by rw [← hmf]; exact hne)), ho _ (by omega)]
      exact (h2 i i1 (by omega)).2
  · by_cases hi : i = n + 1
    · rw [hi, hmt] at i4
      rw [up_row _ _ _ (by omega), hi, ← hz]
      exact hr (by omega) i4 j
    · rw [up_row _ _ _ (by omega), ho _ (by omega)]
      exact h3 i i1 (by omega) i3 i4 j
  · by_cases hi : n + 1 = 18
    · rw [up_row _ _ _ (by omega), show q + 18 = z by omega]
      exact h18 hi j hj
    · rw [up_row _ _ _ (by omega), ho _ (by omega)]
      exact h4 (by omega) j hj
  · rw [up_ne _ _ (Or.inr (by rw [← hmf]; exact hj (n + 1) (by omega) hn)), ho _ (by omega)]
    exact h5 j hj
theorem bm_row {F : mm_S → mm_V → Option β} (h : bmI q g0 m0 n V g m) (hn : n + 1 < 40) (hz : z = q + (n + 1)) (hmt : mtab (n + 1) = (t, l)) (hmf : mfld (n + 1) = k) (hf : t = 20 → ∀ j, f j = .int (zI 0)) (h18 : n + 1 ≠ 18) (kk : ∀ g' w m', bmI q g0 m0 (n + 1) V g' m' → Ev (F (g', w, z + 1) m') P) : Ev ((mm_new g m z t l f).bind fun s => (mm_pf s.1 s.2.1 12 75 q k (.ref z)).bind fun m2 => F s m2) P := by
  have hq : mm_tg g z t l q = some (12, 75) := by
    show (if q = z then some (t, l) else g q) = _
    rw [if_neg (by omega)]; exact h.1
  unfold mm_new
  rw [Option.bind_some]
  dsimp only
  rw [wr_pf hq, Option.bind_some]
  refine kk _ _ _ (bm_more h hn hz hmt hmf (fun _ ht j => ?_) (fun hx => absurd hx h18) (fun b hb => ?_))
  · show (if z = z then f else m z) j = _
    rw [if_pos rfl]; exact hf ht j
  · show (if b = z then f else m b) = _
    rw [if_neg hb]
theorem bm_sits {F : mm_S → mm_V → Option β} (h : bmI q g0 m0 17 V g m) (hz : z = q + 18) (kk : ∀ g' w m', bmI q g0 m0 18 V g' m' → Ev (F (g', w, z + 1) m') P) : Ev ((mm_new g m z 20 6 (fun _ => defaultValue (mm_aty 20))).bind fun s38 => (mm_si s38.1 s38.2.1 z (0 : Int32) (0 : Int32)).bind fun m39 => (mm_si s38.1 m39 z (1 : Int32) (1 : Int32)).bind fun m40 => (mm_si s38.1 m40 z (2 : Int32) (2 : Int32)).bind fun m41 => (mm_si s38.1 m41 z (3 : Int32) (3 : Int32)).bind fun m42 => (mm_si s38.1 m42 z (4 : Int32) (4 : Int32)).bind fun m43 => (mm_si s38.1 m43 z (5 : Int32) (5 : Int32)).bind fun m44 => (mm_pf s38.1 m44 12 75 q 44 (.ref z)).bind fun m45 => F s38 m45) P := by
  have hq : mm_tg g z 20 6 q = some (12, 75) := by
    show (if q = z then some (20, 6) else g q) = _
    rw [if_neg (by omega)]; exact h.1
  have hzz : mm_tg g z 20 6 z = some (20, 6) := if_pos rfl
  unfold mm_new
  rw [Option.bind_some]
  dsimp only
  simp only [LT, zI_neg]
  rw [wr_si hzz (z := 0) (i := 0) rfl (by omega) (by omega), Option.bind_some, wr_si hzz (z := 1) (i := 1) rfl (by omega) (by omega), Option.bind_some, wr_si hzz (z := 2) (i := 2) rfl (by omega) (by omega), Option.bind_some, wr_si hzz (z := 3) (i := 3) rfl (by omega) (by omega), Option.bind_some, wr_si hzz (z := 4) (i := 4) rfl (by omega) (by omega), Option.bind_some, wr_si hzz (z := 5) (i := 5) rfl (by omega) (by omega), Option.bind_some, wr_pf hq, Option.bind_some]
  refine kk _ _ _ (bm_more h (by omega) hz (show mtab (17 + 1) = (20, 6) from rfl) (show mfld (17 + 1) = 44 from rfl) (fun hx => absurd rfl hx) (fun _ j hj => ?_) (fun b hb => ?_))
  · have : j = 0 ∨ j = 1 ∨ j = 2 ∨ j = 3 ∨ j = 4 ∨ j = 5 := by omega
    rcases this with rfl | rfl | rfl | rfl | rfl | rfl
    · rw [up_ne _ _ (by omega), up_ne _ _ (by omega), up_ne _ _ (by omega), up_ne _ _ (by omega), up_ne _ _ (by omega), up_at]; rfl
    · rw [up_ne _ _ (by omega), up_ne _ _ (by omega), up_ne _ _ (by omega), up_ne _ _ (by omega), up_at]; rfl
    · rw [up_ne _ _ (by omega), up_ne _ _ (by omega), up_ne _ _ (by omega), up_at]; rfl
    · rw [up_ne _ _ (by omega), up_ne _ _ (by omega), up_at]; rfl
    · rw [up_ne _ _ (by omega), up_at]; rfl
    · rw [up_at]; rfl
  · rw [up_row _ _ _ hb, up_row _ _ _ hb, up_row _ _ _ hb, up_row _ _ _ hb, up_row _ _ _ hb, up_row _ _ _ hb]
    show (if b = z then _ else m b) = _
    rw [if_neg hb]
theorem bm_sc {v : Value} {F : mm_V → Option β} (h : bmI q g0 m0 n V g m) (hn : n < 40) (hk : k ∈ [0, 1, 2, 3, 4, 9, 10, 11, 13, 14, 15, 16, 17, 18, 19, 20, 21, 22, 23, 24, 25, 26, 27, 28, 29, 30, 41, 45, 46, 47, 48, 54, 66, 67, 71, 72]) (kk : ∀ m', bmI q g0 m0 n (setF V k v) g m' → Ev (F m') P) : Ev ((mm_pf g m 12 75 q k v).bind F) P := by
  obtain ⟨h1, h2, h3, h4, h5, h6⟩ := h
  rw [wr_pf h1, Option.bind_some]
  refine kk _ ⟨h1, fun i i1 i2 => ⟨(h2 i i1 i2).1, ?_⟩, fun i i1 i2 i3 i4 j => by rw [up_row _ _ _ (by omega)]; exact h3 i i1 i2 i3 i4 j, fun hx j hj => by rw [up_row _ _ _ (by omega)]; exact h4 hx j hj, fun j hj => ?_, fun b hb => ⟨(h6 b hb).1, by rw [up_row _ _ _ (by omega)]; exact (h6 b hb).2⟩⟩
  · rw [up_ne _ _ (Or.inr (mfld_ne k hk i (by omega) i1))]
    exact (h2 i i1 i2).2
  · by_cases hjk : j = k
    · rw [hjk, up_at, setF_at]
    · rw [up_ne _ _ (Or.inr hjk), setF_ne _ _ hjk]
      exact h5 j hj
def Cfg0 : CF := (3, 5, 0, fun _ => [], fun _ => 0)
def Mi0 : MI := (0, fun _ => 0, -1, 0, 0)
theorem mk_model {m1 : mm_V} {s : mm_T} (hN : 2000 < e.2) (hB : bcst 19 < e.2) (hC : cst 4 < e.2) (h0 : s q = some (12, 75)) (hm : m1 q = df_X12) : Ev (X12_init e q s m1 (q + 1)) (fun r => r.2.2 = q + 40 ∧ imT (r.1, e) q ∧ IM (r.1, e) r.2.1 q Cfg0 (tbG1 rd0) Mi0 ∧ ∀ b, b < q → r.1 b = s b ∧ r.2.1 b = m1 b) := by
  have b0 : bmI q s m1 0 df_X12 s m1 := ⟨h0, fun i i1 i2 => absurd i1 (by omega), fun i i1 i2 => absurd i1 (by omega), fun h => absurd h (by omega), fun k _ => by rw [hm], fun b _ => ⟨rfl, rfl⟩⟩
  have hd : ∀ j : Nat, (fun _ => defaultValue (mm_aty 20)) j = (.int (zI 0) : Value) := fun _ => rfl
  unfold X12_init
  refine bm_sc b0 (by omega) (by decide) (fun m b0 => ?_)
  clear hm h0
  refine bm_sc b0 (by omega) (by decide) (fun m b0 => ?_)
  refine bm_row b0 (by omega) (by omega) (show mtab (0 + 1) = (20, 12) from rfl) (show mfld (0 + 1) = 5 from rfl) (fun _ => hd) (by omega) (fun g w m b0 => ?_)
  dsimp only
  refine bm_row b0 (by omega) (by omega) (show mtab (1 + 1) = (20, 36) from rfl) (show mfld (1 + 1) = 6 from rfl) (fun _ => hd) (by omega) (fun g w m b0 => ?_)
  dsimp only
  refine bm_row b0 (by omega) (by omega) (show mtab (2 + 1) = (20, 1600) from rfl) (show mfld (2 + 1) = 7 from rfl) (fun _ => hd) (by omega) (fun g w m b0 => ?_)
  dsimp only
  refine bm_row b0 (by omega) (by omega) (show mtab (3 + 1) = (20, 600) from rfl) (show mfld (3 + 1) = 8 from rfl) (fun _ => hd) (by omega) (fun g w m b0 => ?_)
  dsimp only
  refine bm_sc b0 (by omega) (by decide) (fun m b0 => ?_)
  refine bm_row b0 (by omega) (by omega) (show mtab (4 + 1) = (20, 2) from rfl) (show mfld (4 + 1) = 12 from rfl) (fun _ => hd) (by omega) (fun g w m b0 => ?_)
  dsimp only
  refine bm_row b0 (by omega) (by omega) (show mtab (5 + 1) = (20, 12) from rfl) (show mfld (5 + 1) = 31 from rfl) (fun _ => hd) (by omega) (fun g w m b0 => ?_)
  dsimp only
  refine bm_row b0 (by omega) (by omega) (show mtab (6 + 1) = (20, 36) from rfl) (show mfld (6 + 1) = 32 from rfl) (fun _ => hd) (by omega) (fun g w m b0 => ?_)
  dsimp only
  refine bm_row b0 (by omega) (by omega) (show mtab (7 + 1) = (20, 121) from rfl) (show mfld (7 + 1) = 33 from rfl) (fun _ => hd) (by omega) (fun g w m b0 => ?_)
  dsimp only
  refine bm_row b0 (by omega) (by omega) (show mtab (8 + 1) = (20, 1600) from rfl) (show mfld (8 + 1) = 34 from rfl) (fun _ => hd) (by omega) (fun g w m b0 => ?_)
  dsimp only
  refine bm_row b0 (by omega) (by omega) (show mtab (9 + 1) = (20, 800) from rfl) (show mfld (9 + 1) = 35 from rfl) (fun _ => hd) (by omega) (fun g w m b0 => ?_)
  dsimp only
  refine bm_row b0 (by omega) (by omega) (show mtab (10 + 1) = (20, 10) from rfl) (show mfld (10 + 1) = 36 from rfl) (fun _ => hd) (by omega) (fun g w m b0 => ?_)
  dsimp only
  refine bm_row b0 (by omega) (by omega) (show mtab (11 + 1) = (22, 9) from rfl) (show mfld (11 + 1) = 37 from rfl) (fun h => absurd h (by omega)) (by omega) (fun g w m b0 => ?_)
  dsimp only
  refine bm_row b0 (by omega) (by omega) (show mtab (12 + 1) = (20, 128) from rfl) (show mfld (12 + 1) = 38 from rfl) (fun _ => hd) (by omega) (fun g w m b0 => ?_)
  dsimp only
  refine bm_row b0 (by omega) (by omega) (show mtab (13 + 1) = (20, 128) from rfl) (show mfld (13 + 1) = 39 from rfl) (fun _ => hd) (by omega) (fun g w m b0 => ?_)
  dsimp only
  refine bm_row b0 (by omega) (by omega) (show mtab (14 + 1) = (20, 128) from rfl) (show mfld (14 + 1) = 40 from rfl) (fun _ => hd) (by omega) (fun g w m b0 => ?_)
  dsimp only
  refine bm_row b0 (by omega) (by omega) (show mtab (15 + 1) = (20, 19) from rfl) (show mfld (15 + 1) = 42 from rfl) (fun _ => hd) (by omega) (fun g w m b0 => ?_)
  dsimp only
  refine bm_row b0 (by omega) (by omega) (show mtab (16 + 1) = (20, 800) from rfl) (show mfld (16 + 1) = 43 from rfl) (fun _ => hd) (by omega) (fun g w m b0 => ?_)
  dsimp only
  refine bm_sits b0 (by omega) (fun g w m b0 => ?_)
  dsimp only
  refine bm_row b0 (by omega) (by omega) (show mtab (18 + 1) = (20, 540) from rfl) (show mfld (18 + 1) = 49 from rfl) (fun _ => hd) (by omega) (fun g w m b0 => ?_)
  dsimp only
  refine bm_row b0 (by omega) (by omega) (show mtab (19 + 1) = (20, 6) from rfl) (show mfld (19 + 1) = 50 from rfl) (fun _ => hd) (by omega) (fun g w m b0 => ?_)
  dsimp only
  refine bm_row b0 (by omega) (by omega) (show mtab (20 + 1) = (20, 6) from rfl) (show mfld (20 + 1) = 51 from rfl) (fun _ => hd) (by omega) (fun g w m b0 => ?_)
  dsimp only
  refine bm_row b0 (by omega) (by omega) (show mtab (21 + 1) = (20, 6) from rfl) (show mfld (21 + 1) = 52 from rfl) (fun _ => hd) (by omega) (fun g w m b0 => ?_)
  dsimp only
  refine bm_row b0 (by omega) (by omega) (show mtab (22 + 1) = (20, 6) from rfl) (show mfld (22 + 1) = 53 from rfl) (fun _ => hd) (by omega) (fun g w m b0 => ?_)
  dsimp only
  refine bm_row b0 (by omega) (by omega) (show mtab (23 + 1) = (20, 640) from rfl) (show mfld (23 + 1) = 55 from rfl) (fun _ => hd) (by omega) (fun g w m b0 => ?_)
  dsimp only
  refine bm_row b0 (by omega) (by omega) (show mtab (24 + 1) = (20, 5) from rfl) (show mfld (24 + 1) = 56 from rfl) (fun _ => hd) (by omega) (fun g w m b0 => ?_)
  dsimp only
  refine bm_row b0 (by omega) (by omega) (show mtab (25 + 1) = (20, 128) from rfl) (show mfld (25 + 1) = 57 from rfl) (fun _ => hd) (by omega) (fun g w m b0 => ?_)
  dsimp only
  refine bm_row b0 (by omega) (by omega) (show mtab (26 + 1) = (21, 5) from rfl) (show mfld (26 + 1) = 58 from rfl) (fun h => absurd h (by omega)) (by omega) (fun g w m b0 => ?_)
  dsimp only
  refine bm_row b0 (by omega) (by omega) (show mtab (27 + 1) = (20, 19) from rfl) (show mfld (27 + 1) = 59 from rfl) (fun _ => hd) (by omega) (fun g w m b0 => ?_)
  dsimp only
  refine bm_row b0 (by omega) (by omega) (show mtab (28 + 1) = (20, 19) from rfl) (show mfld (28 + 1) = 60 from rfl) (fun _ => hd) (by omega) (fun g w m b0 => ?_)
  dsimp only
  refine bm_row b0 (by omega) (by omega) (show mtab (29 + 1) = (20, 19) from rfl) (show mfld (29 + 1) = 61 from rfl) (fun _ => hd) (by omega) (fun g w m b0 => ?_)
  dsimp only
  refine bm_row b0 (by omega) (by omega) (show mtab (30 + 1) = (20, 10) from rfl) (show mfld (30 + 1) = 62 from rfl) (fun _ => hd) (by omega) (fun g w m b0 => ?_)
  dsimp only
  refine bm_row b0 (by omega) (by omega) (show mtab (31 + 1) = (20, 128) from rfl) (show mfld (31 + 1) = 63 from rfl) (fun _ => hd) (by omega) (fun g w m b0 => ?_)
  dsimp only
  refine bm_row b0 (by omega) (by omega) (show mtab (32 + 1) = (20, 19) from rfl) (show mfld (32 + 1) = 64 from rfl) (fun _ => hd) (by omega) (fun g w m b0 => ?_)
  dsimp only
  refine bm_row b0 (by omega) (by omega) (show mtab (33 + 1) = (20, 6) from rfl) (show mfld (33 + 1) = 65 from rfl) (fun _ => hd) (by omega) (fun g w m b0 => ?_)
  dsimp only
  refine bm_row b0 (by omega) (by omega) (show mtab (34 + 1) = (20, 128) from rfl) (show mfld (34 + 1) = 68 from rfl) (fun _ => hd) (by omega) (fun g w m b0 => ?_)
  dsimp only
  refine bm_row b0 (by omega) (by omega) (show mtab (35 + 1) = (20, 128) from rfl) (show mfld (35 + 1) = 69 from rfl) (fun _ => hd) (by omega) (fun g w m b0 => ?_)
  dsimp only
  refine bm_row b0 (by omega) (by omega) (show mtab (36 + 1) = (20, 6) from rfl) (show mfld (36 + 1) = 70 from rfl) (fun _ => hd) (by omega) (fun g w m b0 => ?_)
  dsimp only
  refine bm_row b0 (by omega) (by omega) (show mtab (37 + 1) = (20, 128) from rfl) (show mfld (37 + 1) = 73 from rfl) (fun _ => hd) (by omega) (fun g w m b0 => ?_)
  dsimp only
  refine bm_row b0 (by omega) (by omega) (show mtab (38 + 1) = (20, 540) from rfl) (show mfld (38 + 1) = 74 from rfl) (fun _ => hd) (by omega) (fun g w m b0 => ?_)
  dsimp only
  refine bm_sc b0 (by omega) (by decide) (fun m b0 => ?_)
  obtain ⟨h1, h2, h3, h4, h5, h6⟩ := b0
  have hT : modT g q := fun i hi => by
    by_cases hi0 : i = 0
    · rw [hi0]; exact h1
    · exact (h2 i (by omega) (by omega)).1
  have hS : modS m q := fun i hi hi0 => (h2 i hi0 (by omega)).2
  have sc : ∀ k, k ∈ [0, 1, 2, 3, 4, 9, 10, 11, 13, 14, 15, 16, 17, 18, 19, 20, 21, 22, 23, 24, 25, 26, 27, 28, 29, 30, 41, 45, 46, 47, 48, 54, 66, 67, 71, 72] → m q k = setF (setF (setF (setF df_X12 1 (.int 3)) 2 (.int 5)) 11 (.int (-1))) 25 (.int 1) k := fun k hk => h5 k (fun i i1 i2 => (mfld_ne k hk i i2 i1).symm)
  have v1 : m q 1 = .int (zI (3 : Nat)) := sc 1 (by decide)
  have v2 : m q 2 = .int (zI (5 : Nat)) := sc 2 (by decide)
  have v3 : m q 3 = .int (zI (0 : Nat)) := sc 3 (by decide)
  have v0 : m q 0 = .int (zI 0) := sc 0 (by decide)
  have v9 : m q 9 = .int (zI (0 : Nat)) := sc 9 (by decide)
  have v11 : m q 11 = .int (zI (-1)) := sc 11 (by decide)
  have v18 : m q 18 = .int (zI 0) := sc 18 (by decide)
  have v19 : m q 19 = .int (zI 0) := sc 19 (by decide)
  have v48 : m q 48 = .int (zI 0) := sc 48 (by decide)
  have v71 : m q 71 = .int (zI 0) := sc 71 (by decide)
  have i13 : intR m (q + 13) 128 := fun k _ => ⟨_, h3 13 (by omega) (by omega) (by omega) rfl k⟩
  have R := tb_ok (R := rd0) ⟨rdI0, fun h => (by cases h)⟩
  refine ev_gi h1 v3 (ev_gr h1 hS.start_ (ev_tg h1 ?_))
  obtain ⟨m2, e2, d1, d2, d3, d4, d5, d6⟩ := X12_deals_eq (e := (g, e)) (r := q + 13) (N := 3) (P := 5) hT hS hT.start_ ⟨by omega, by omega⟩ (by omega) (by omega) (by omega) v1 v2 (zI (0 : Nat)) (by show 128 < e.2; omega)
  have S2 : modS m2 q := hS.keep (fun i a b => d5 _ (mfld_ne 41 (by decide) i a b))
  have I2 : intR m2 (q + 13) 128 := fun j hj => X12_deals_iK e2 (q + 13) 128 hT.start_ j (i13 j hj)
  obtain ⟨m3, e3, o3, w3⟩ := copies_same (e := (g, e)) (m := m2) (by omega) hT.start_ hT.now_ (by omega) I2 (by show 128 < e.2; omega) q
  have q3 : m3 q = m2 q := o3 q (by omega)
  have eb : X12_begins (g, e) q m2 = some (mm_up m3 q 48 (.int (zI 0))) := by
    unfold X12_begins
    simp only [LT, zI_neg]
    rw [rd_gr h1 S2.start_, Option.bind_some, rd_gr h1 S2.now_, Option.bind_some, e3, Option.bind_some, wr_pf h1, Option.bind_some]
  refine ev_eq e2 (ev_tg h1 (ev_eq eb (ev_ret ?_)))
  have S4 : modS (mm_up m3 q 48 (.int (zI 0))) q := (S2.row q3).up (by decide)
  have w48 : (mm_up m3 q 48 (.int (zI 0))) q 48 = .int (zI 0) := up_at _ _ _ _
  have f4 : ∀ k, k ≠ 41 → k ≠ 48 → (mm_up m3 q 48 (.int (zI 0))) q k = m q k := fun k x1 x2 => by rw [up_ne _ _ (Or.inr x2), q3, d5 k x1]
  have o4 : ∀ b, b ≠ q → (mm_up m3 q 48 (.int (zI 0))) b = m3 b := fun b hb => up_row _ _ _ hb
  generalize mm_up m3 q 48 (.int (zI 0)) = m4 at S4 w48 f4 o4
  have fr : ∀ b, b ≠ q → b ≠ q + 13 → b ≠ q + 14 → b ≠ q + 16 → m4 b = m b := fun b x1 x2 x3 x4 => by rw [o4 b x1, o3 b x3, d6 b x1 x4 x2]
  have row0 : ∀ i, 0 < i → i < 40 → i ≠ 18 → i ≠ 13 → i ≠ 14 → i ≠ 16 → (mtab i).1 = 20 → ∀ k, m4 (q + i) k = .int (zI 0) := fun i i1 i2 i3 i4 i5 i6 i7 k => by rw [fr _ (by omega) (by omega) (by omega) (by omega)]; exact h3 i i1 (by omega) i3 i7 k
  have G13 : gM m2 (q + 13) 3 (tbS rd0) := ⟨d1, d2, d3 1 (Or.inl rfl), fun i hi => d3 (8 + i) (Or.inr ⟨by omega, by omega⟩)⟩
  refine ⟨by show q + 39 + 1 = q + 40; omega, ⟨hT, hN, hB, hC⟩, ?_, fun b hb => ⟨(h6 b hb).1, by show m4 b = m1 b; rw [fr b (by omega) (by omega) (by omega) (by omega)]; exact (h6 b hb).2⟩⟩
  show IM (g, e) m4 q Cfg0 (tbG1 rd0) Mi0
  refine ⟨⟨hT, S4, ?_, ?_, fun k hk => ?_, fun k _ h => absurd rfl h, by show 2 ≤ 3; omega, by show 3 ≤ 6; omega, by show 5 ≤ 9; omega⟩, ⟨?_, ?_, ?_, ?_, ?_, ?_⟩, ⟨fun i hi => absurd hi (Nat.not_lt_zero i), ?_, ?_, fun i hi => ?_, fun k hk => ⟨_, row0 9 (by omega) (by omega) (by omega) (by omega) (by omega) (by omega) rfl k⟩⟩, fun i hi => ⟨?_, hi⟩, ⟨⟨G13.keep (by rw [o4 _ (by omega), o3 _ (by omega)]), I2.keep (by rw [o4 _ (by omega), o3 _ (by omega)])⟩, G13.cong (fun k hk => by rw [o4 _ (by omega)]; exact w3 k hk), I2.cong (fun k hk => by rw [o4 _ (by omega)]; exact w3 k hk)⟩, ⟨w48, ?_⟩, fun Si Hi hx => (by cases hx)⟩
  · rw [f4 _ (by omega) (by omega)]; exact v1
  · rw [f4 _ (by omega) (by omega)]; exact v2
  · refine ⟨0, row0 1 (by omega) (by omega) (by omega) (by omega) (by omega) (by omega) rfl _, by omega, fun _ => rfl, fun h => absurd rfl h⟩
  · rw [f4 _ (by omega) (by omega)]; exact v3
  · rw [f4 _ (by omega) (by omega)]; exact v9
  · rw [f4 _ (by omega) (by omega)]; exact v11
  · exact ⟨_, by rw [f4 _ (by omega) (by omega)]; exact v18⟩
  · exact ⟨_, by rw [f4 _ (by omega) (by omega)]; exact v19⟩
  · rw [f4 _ (by omega) (by omega)]; exact v71
  · exact row0 5 (by omega) (by omega) (by omega) (by omega) (by omega) (by omega) rfl 0
  · exact row0 5 (by omega) (by omega) (by omega) (by omega) (by omega) (by omega) rfl 1
  · exact row0 2 (by omega) (by omega) (by omega) (by omega) (by omega) (by omega) rfl i
  · rw [fr _ (by omega) (by omega) (by omega) (by omega)]; exact h4 (by omega) i hi
  · exact ⟨by show 0 ≤ 60; omega, fun k hk => ⟨_, row0 19 (by omega) (by omega) (by omega) (by omega) (by omega) (by omega) rfl k⟩, fun i v hv => (by cases hv)⟩
end MKM
