/-! BLIND DRAWS: the tree of all of them, and the class's walk through it. -/
def tn (S : PS) : Nat := S.2.2.1.getD 0
def sc (N : Nat) (S : PS) : Nat := (nxt N S.1 (tn S)).getD 0
def nxk (rl : Nat → List Int) (sit : Nat → Nat) (N : Nat) (S : PS) (k : Nat) : PS := nx rl sit (zI 0) N S (tn S) (sc N S) k ((S.1 (sc N S)).getD k 0)
def itF {α : Type} (F : Nat → α → Option α) : Nat → Nat → α → Option α
  | 0, _, A => some A
  | j + 1, i, A => (F i A).bind (itF F j (i + 1))
def spr {α : Type} (rl : Nat → List Int) (sit : Nat → Nat) (N : Nat) (lf : PS → Int64 → α → α) : Nat → PS → Int64 → α → Option α
  | 0, S, sh, A => some (lf S sh A)
  | d + 1, S, sh, A => if isOv N S.1 then some (lf S sh A) else if 9 < (S.1 (sc N S)).length then none else itF (fun k B => spr rl sit N lf d (nxk rl sit N S k) (sh / (zI (S.1 (sc N S)).length).toInt64) B) (S.1 (sc N S)).length 0 A
theorem nxk_ex {N P : Nat} {S : PS} (rl : Nat → List Int) (sit : Nat → Nat) (ok : okS N P S) (hov : isOv N S.1 = false) : ∃ p s, S.2.2.1 = some p ∧ p < N ∧ nxt N S.1 p = some s ∧ srcF (zI 0) N S.1 p = some s ∧ s < N ∧ s ≠ p ∧ hasC S.1 s = true ∧ tn S = p ∧ sc N S = s ∧ ∀ k, k < (S.1 s).length → ∃ c, (S.1 s)[k]? = some c ∧ nxk rl sit N S k = nx rl sit (zI 0) N S p s k c := by
  obtain ⟨p, p1, p2, p3⟩ := ok.2 hov
  obtain ⟨s, s1, s2, s3, s4⟩ := nxt_ex hov p2
  have h1 : tn S = p := by unfold tn; rw [p1]; rfl
  have h2 : sc N S = s := by unfold sc; rw [h1, s1]; rfl
  refine ⟨p, s, p1, p2, s1, by unfold srcF; rw [if_pos (by decide)]; exact s1, s2, s3, s4, h1, h2, fun k hk => ⟨(S.1 s)[k], List.getElem?_eq_getElem hk, ?_⟩⟩
  unfold nxk
  rw [h1, h2, List.getD_eq_getElem?_getD, List.getElem?_eq_getElem hk]
  rfl
theorem spr_map {α β : Type} {rl : Nat → List Int} {sit : Nat → Nat} {N : Nat} {lf : PS → Int64 → α → α} {lg : PS → Int64 → β → β} (φ : α → β) (h : ∀ S sh A, φ (lf S sh A) = lg S sh (φ A)) : ∀ (d : Nat) (S : PS) (sh : Int64) (A : α), (spr rl sit N lf d S sh A).map φ = spr rl sit N lg d S sh (φ A) := by
  intro d
  induction d with
  | zero => intro S sh A; rw [spr, spr, Option.map_some, h]
  | succ d ih =>
    intro S sh A
    rw [spr, spr]
    by_cases h1 : isOv N S.1 = true
    · rw [if_pos h1, if_pos h1, Option.map_some, h]
    · rw [if_neg h1, if_neg h1]
      by_cases h2 : 9 < (S.1 (sc N S)).length
      · rw [if_pos h2, if_pos h2]; rfl
      · rw [if_neg h2, if_neg h2]
        have key : ∀ (j i : Nat) (A : α), (itF (fun k B => spr rl sit N lf d (nxk rl sit N S k) (sh / (zI (S.1 (sc N S)).length).toInt64) B) j i A).map φ = itF (fun k B => spr rl sit N lg d (nxk rl sit N S k) (sh / (zI (S.1 (sc N S)).length).toInt64) B) j i (φ A) := by
          intro j
          induction j with
          | zero => intro i A; rfl
          | succ j ihj =>
            intro i A
            rw [itF, itF, ← ih]
            cases spr rl sit N lf d (nxk rl sit N S i) (sh / (zI (S.1 (sc N S)).length).toInt64) A with
            | none => rfl
            | some B => exact ihj (i + 1) B
        exact key _ _ _
abbrev L3 : Type := Int64 × Int64 × Int64
def lf3 (N p : Nat) : PS → Int64 → L3 → L3 := fun S sh A => (A.1 + (if qn N S.1 = some p then sh else 0), A.2.1 + (if hasC S.1 p = true then 0 else sh), A.2.2 + (if lsr N S.1 = some p then sh else 0))
def lng (m : mm_V) (u : Nat) (A : L3) : Prop := m u 9 = .long A.1 ∧ m u 10 = .long A.2.1 ∧ m u 11 = .long A.2.2
def outT (g : mm_T) (u : Nat) : Prop := g u = some (6, 12) ∧ g (u + 1) = some (25, 5) ∧ plaT g (u + 2) ∧ g (u + 7) = some (2, 9) ∧ g (u + 8) = some (20, 6) ∧ g (u + 9) = some (20, 6) ∧ ∀ i, i < 5 → gameT g (u + 10 + 20 * i)
def outS (m : mm_V) (u : Nat) : Prop := m u 0 = .ref (u + 1) ∧ m u 1 = .ref (u + 2) ∧ m u 2 = .ref (u + 7) ∧ m u 3 = .ref (u + 8) ∧ m u 4 = .ref (u + 9) ∧ (∀ i, i < 5 → m (u + 1) i = .ref (u + 10 + 20 * i)) ∧ plaS m (u + 2)
def gmW (m : mm_V) (a : Nat) : Prop := ∃ t0 f0 x0, gameS m a t0 ∧ gameF m a f0 ∧ m a 9 = .int x0
def lvW (m : mm_V) (u : Nat) : Prop := ∀ i, i < 5 → gmW m (u + 10 + 20 * i)
theorem gmW.keep {m m' : mm_V} {a : Nat} (h : gmW m a) (h1 : ∀ b, a ≤ b → b < a + 20 → m' b = m b) : gmW m' a := by
  obtain ⟨t0, f0, x0, h2, h3, h4⟩ := h
  exact ⟨t0, f0, x0, h2.keep (fun j _ => by rw [h1 _ (by omega) (by omega)]) (fun b _ _ => h1 _ (by omega) (by omega)), h3.keep (fun b _ _ => h1 _ (by omega) (by omega)), by rw [h1 _ (by omega) (by omega)]; exact h4⟩
theorem gC.gmW {m : mm_V} {a t : Nat} {sit : Nat → Nat} {lw lk x : Int32} {S : PS} (h : gC m a t sit lw lk x S) : _root_.Jvm.Pilot.CSootQueenLaw_law_r9312_e548d1.gmW m a := ⟨t, _, x, h.1, h.2.1, h.f9⟩
theorem outS.keep {m m' : mm_V} {u : Nat} (h : outS m u) (h1 : ∀ j, j < 5 → m' u j = m u j) (h2 : m' (u + 1) = m (u + 1)) (h3 : m' (u + 2) = m (u + 2)) : outS m' u := by
  obtain ⟨a0, a1, a2, a3, a4, a5, a6⟩ := h
  exact ⟨by rw [h1 _ (by omega)]; exact a0, by rw [h1 _ (by omega)]; exact a1, by rw [h1 _ (by omega)]; exact a2, by rw [h1 _ (by omega)]; exact a3, by rw [h1 _ (by omega)]; exact a4, fun i hi => by rw [h2]; exact a5 i hi, a6.keep (fun j _ => by rw [h3])⟩
theorem outS.keep' {m m' : mm_V} {u : Nat} (h : outS m u) (h1 : ∀ j, j < 5 → m' u j = m u j) (h2 : m' (u + 1) = m (u + 1)) (h3 : plaS m' (u + 2)) : outS m' u := by
  obtain ⟨a0, a1, a2, a3, a4, a5, a6⟩ := h
  exact ⟨by rw [h1 _ (by omega)]; exact a0, by rw [h1 _ (by omega)]; exact a1, by rw [h1 _ (by omega)]; exact a2, by rw [h1 _ (by omega)]; exact a3, by rw [h1 _ (by omega)]; exact a4, fun i hi => by rw [h2]; exact a5 i hi, h3⟩
def resP (o : Option L3) (v : Int32) (m : mm_V) (u : Nat) : Prop := match o with
  | some B => v = zI 1 ∧ lng m u B
  | none => v = zI 0
section SPREAD
variable {e : mm_E} {u t N P p n : Nat} {rl : Nat → List Int} {sit : Nat → Nat} {x : Int32}
theorem X6_leaf {kr : Nat → Int32 → Int32 → Int32 → Int64 → mm_V → Option (Int32 × mm_V)} {m : mm_V} {a : Nat} {S : PS} {sh : Int64} {A : L3} (hu : outT e.1 u) (ha : gameT e.1 a) (hau : u < a) (hut : u < t ∨ t + 19 ≤ u) (hp : p < N) (E : cE e m t N P rl) (h : gC m a t sit (zI 0) (zI 0) x S) (ok : okS N P S) (hA : lng m u A) (hN : 1000 < e.2.2) : ∃ m', X6_spreadFrom_b37 e kr u (zI p) sh a m = some (zI 1, m') ∧ lng m' u (lf3 N p S sh A) ∧ (∀ j, j ≠ 9 → j ≠ 10 → j ≠ 11 → m' u j = m u j) ∧ ∀ b, b ≠ u → m' b = m b := by
  obtain ⟨tT, tS, t6, t7, tr, tw, h2, h6, hP⟩ := E
  have hlt := ok.1.lt hP
  obtain ⟨w, w1, w2, w3⟩ := ok.1.qn
  have hq := ozI_some (o := qn N S.1) (w := p) (fun k hk => by rw [w2] at hk; cases hk; omega) (by omega)
  have hl := ozI_some (o := lsr N S.1) (w := p) (fun k hk => by unfold lsr at hk; split at hk; rw [w2] at hk; cases hk; omega; cases hk) (by omega)
  generalize hm1 : mm_up m u 9 (.long (lf3 N p S sh A).1) = m1
  have o1 : ∀ b, b ≠ u → m1 b = m b := fun b x1 => by rw [← hm1, up_row _ _ _ x1]
  have g1 : gC m1 a t sit (zI 0) (zI 0) x S := h.keep (fun b _ _ _ _ => o1 b (by omega))
  generalize hm2 : mm_up m1 u 10 (.long (lf3 N p S sh A).2.1) = m2
  have o2 : ∀ b, b ≠ u → m2 b = m b := fun b x1 => by rw [← hm2, up_row _ _ _ x1, o1 b x1]
  have g2 : gC m2 a t sit (zI 0) (zI 0) x S := h.keep (fun b _ _ _ _ => o2 b (by omega))
  generalize hm3 : mm_up m2 u 11 (.long (lf3 N p S sh A).2.2) = m3
  have q0 := X4_queenHolder_eq (e := e) ha tT.1 h.1 h.2.1 hlt t6 h6 (by omega)
  have q1 := X4_isEmpty_eq (e := e) ha g1.1 g1.2.1 (show p < 6 by omega)
  have q2 := X4_loser_eq (e := e) ha tT.1 g2.1 g2.2.1 hlt (by rw [o2 _ (by omega)]; exact t6) h6 (by omega)
  have l3 : X6_spreadFrom_b81 e kr u (zI p) sh a u A.2.1 (if hasC S.1 p = true then 0 else sh) m1 = some (zI 1, m3) := by
    unfold X6_spreadFrom_b81 X6_spreadFrom_b105
    rw [wr_pf hu.1, Option.bind_some]
    have : mm_up m1 u 10 (.long (A.2.1 + if hasC S.1 p = true then 0 else sh)) = m2 := hm2
    rw [this, rd_gl hu.1 (v := A.2.2) (by rw [← hm2, up_ne _ _ (Or.inr (by omega)), ← hm1, up_ne _ _ (Or.inr (by omega))]; exact hA.2.2), Option.bind_some, if_pos ha.1, q2, Option.bind_some]
    simp only [eq_comm (a := ozI (lsr N S.1)), hl]
    have h3 : ∀ B : Int64, B = A.2.2 + (if lsr N S.1 = some p then sh else 0) → (mm_pf e.1 m2 6 12 u 11 (.long B)).bind (fun m1 => mm_rz 1 m1) = some (zI 1, m3) := by
      intro B hB
      rw [wr_pf hu.1, Option.bind_some, hB]
      show mm_rz 1 (mm_up m2 u 11 (.long (lf3 N p S sh A).2.2)) = _
      rw [hm3]; rfl
    by_cases hh : lsr N S.1 = some p
    · rw [if_neg (not_not_intro hh)]
      exact h3 _ (by rw [if_pos hh])
    · rw [if_pos hh]
      exact h3 _ (by rw [if_neg hh])
  have l2 : X6_spreadFrom_b57 e kr u (zI p) sh a u A.1 (if qn N S.1 = some p then sh else 0) m = some (zI 1, m3) := by
    unfold X6_spreadFrom_b57
    rw [wr_pf hu.1, Option.bind_some]
    have : mm_up m u 9 (.long (A.1 + if qn N S.1 = some p then sh else 0)) = m1 := hm1
    rw [this, rd_gl hu.1 (v := A.2.1) (by rw [← hm1, up_ne _ _ (Or.inr (by omega))]; exact hA.2.1), Option.bind_some, if_pos ha.1, q1, Option.bind_some]
    cases hc : hasC S.1 p with
    | true =>
      rw [hc, if_pos rfl] at l3
      rw [if_pos (by rfl)]
      exact l3
    | false =>
      rw [hc, if_neg (by simp)] at l3
      rw [if_neg (show ¬ bZ (!false) = 0 by decide)]
      exact l3
  refine ⟨m3, ?_, ⟨?_, ?_, ?_⟩, fun j x1 x2 x3 => by rw [← hm3, up_ne _ _ (Or.inr x3), ← hm2, up_ne _ _ (Or.inr x2), ← hm1, up_ne _ _ (Or.inr x1)], fun b x1 => by rw [← hm3, up_row _ _ _ x1, o2 b x1]⟩
  · unfold X6_spreadFrom_b37
    rw [rd_gl hu.1 hA.1, Option.bind_some, if_pos ha.1, q0, Option.bind_some]
    simp only [eq_comm (a := ozI (qn N S.1)), hq]
    by_cases hh : qn N S.1 = some p
    · rw [if_pos hh] at l2
      rw [if_neg (not_not_intro hh)]
      exact l2
    · rw [if_neg hh] at l2
      rw [if_pos hh]
      exact l2
  · rw [← hm3, up_ne _ _ (Or.inr (by omega)), ← hm2, up_ne _ _ (Or.inr (by omega)), ← hm1, up_at]
  · rw [← hm3, up_ne _ _ (Or.inr (by omega)), ← hm2, up_at]
  · rw [← hm3, up_at]
theorem X6_from (hu : outT e.1 u) (hut : u + 110 ≤ t ∨ t + 19 ≤ u) (hn : n ≤ 4) (hp : p < N) (hsit : ∀ i, i < 6 → sit i < 6) (hN : 1000 < e.2.2) : ∀ (d fu dep : Nat) (m : mm_V) (S : PS) (sh : Int64) (A : L3), dep + d = n → d < fu → cE e m t N P rl → outS m u → lvW m u → gC m (u + 10 + 20 * dep) t sit (zI 0) (zI 0) x S → okS N P S → lng m u A → ∃ v m', X6_spreadFrom e fu u (zI dep) (zI n) (zI p) sh m = some (v, m') ∧ resP (spr rl sit N (lf3 N p) d S sh A) v m' u ∧ lvW m' u ∧ (∀ j, j ≠ 9 → j ≠ 10 → j ≠ 11 → m' u j = m u j) ∧ ∀ b, b ≠ u → b ≠ u + 7 → b ≠ t + 6 → (b < u + 10 + 20 * (dep + 1) ∨ u + 110 ≤ b) → m' b = m b := by
  intro d
  induction d with
  | zero =>
    intro fu dep m S sh A hd hf E hS hW h ok hA
    obtain ⟨fu, rfl⟩ : ∃ n', fu = n' + 1 := ⟨fu - 1, by omega⟩
    obtain ⟨m', e1, e2, e3, e4⟩ := X6_leaf (e := e) (kr := X6_spreadFrom e fu) (sh := sh) hu (hu.2.2.2.2.2.2 dep (by omega)) (by omega) (by omega) hp E h ok hA hN
    refine ⟨zI 1, m', ?_, ⟨rfl, e2⟩, fun i hi => (hW i hi).keep (fun b _ _ => e4 b (by omega)), e3, fun b x1 _ _ _ => e4 b x1⟩
    unfold X6_spreadFrom X6_spreadFrom_one
    simp only [LT]
    rw [iln (by omega), iep (by omega), rd_gr hu.1 hS.1, Option.bind_some, rd_aq hu.2.1 (i := dep) rfl (by omega) (by omega) (hS.2.2.2.2.2.1 dep (by omega)), Option.bind_some, iep (by omega)]
    exact e1
  | succ d ih =>
    intro fu dep m S sh A hd hf E hS hW h ok hA
    obtain ⟨fu, rfl⟩ : ∃ n', fu = n' + 1 := ⟨fu - 1, by omega⟩
    obtain ⟨tT, tS, t6, t7, tr, tw, h2, h6, hP⟩ := id E
    have ha := hu.2.2.2.2.2.2 dep (by omega)
    have ov := X4_over_eq (e := e) ha tT.1 h.1 h.2.1 t6 h6 (by omega)
    have pre : ∀ (y : Option (Int32 × mm_V)), (if bZ (isOv N S.1) = zI 0 then ((mm_gi e.1 m 4 12 (u + 10 + 20 * dep) 10).bind fun x5 => if e.1 (u + 10 + 20 * dep) = some (4, 12) then ((X4_source e (u + 10 + 20 * dep) x5 m).bind fun r6 => if e.1 (u + 10 + 20 * dep) = some (4, 12) then ((X4_fanAt e (u + 10 + 20 * dep) r6.1 r6.2).bind fun r8 => (mm_gi e.1 r8.2 3 2 r8.1 1).bind fun x10 => if x10 < (zI 1) then (X6_spreadFrom_b144 e (X6_spreadFrom e fu)   r8.2) else (if x10 ≤ (zI 9) then (X6_spreadFrom_L149 e (X6_spreadFrom e fu) u (zI dep) (zI n) (zI p) sh (u + 10 + 20 * dep) x10 e.2.2 (zI 0) r8.2) else (X6_spreadFrom_b144 e (X6_spreadFrom e fu)   r8.2))) else none) else none) else (X6_spreadFrom_b37 e (X6_spreadFrom e fu) u (zI p) sh (u + 10 + 20 * dep)  m)) = y → X6_spreadFrom e (fu + 1) u (zI dep) (zI n) (zI p) sh m = y := by
      intro y hy
      unfold X6_spreadFrom X6_spreadFrom_one
      simp only [LT]
      rw [iln (by omega), iep (by omega), rd_gr hu.1 hS.1, Option.bind_some, rd_aq hu.2.1 (i := dep) rfl (by omega) (by omega) (hS.2.2.2.2.2.1 dep (by omega)), Option.bind_some, ien (by omega), ien (by omega), if_pos ha.1, ov, Option.bind_some]
      exact hy
    cases hov : isOv N S.1 with
    | true =>
      obtain ⟨m', e1, e2, e3, e4⟩ := X6_leaf (e := e) (kr := X6_spreadFrom e fu) (sh := sh) hu ha (by omega) (by omega) hp E h ok hA hN
      have hsp : spr rl sit N (lf3 N p) (d + 1) S sh A = some (lf3 N p S sh A) := by rw [spr, if_pos hov]
      rw [hsp]
      refine ⟨zI 1, m', pre _ ?_, ⟨rfl, e2⟩, fun i hi => (hW i hi).keep (fun b _ _ => e4 b (by omega)), e3, fun b x1 _ _ _ => e4 b x1⟩
      rw [hov, if_neg (by decide)]
      exact e1
    | false =>
      obtain ⟨p', s, p1, p2, s1, s2, s3, s4, s5, s6, s7, s8⟩ := nxk_ex rl sit ok hov
      have hl := ok.1.len hP s
      have hpos := hasC_pos.mp s5
      have f10 := h.f10
      rw [p1] at f10
      have so := X4_source_eq (e := e) ha tT.1 h.1 h.2.1 t6 h2 h6 p2 h.f7 (by omega)
      rw [s2] at so
      have pre2 : ∀ (y : Option (Int32 × mm_V)), (if (zI (S.1 s).length) ≤ (zI 9) then (X6_spreadFrom_L149 e (X6_spreadFrom e fu) u (zI dep) (zI n) (zI p) sh (u + 10 + 20 * dep) (zI (S.1 s).length) e.2.2 (zI 0) m) else (X6_spreadFrom_b144 e (X6_spreadFrom e fu)   m)) = y → X6_spreadFrom e (fu + 1) u (zI dep) (zI n) (zI p) sh m = y := by
        intro y hy
        refine pre y ?_
        rw [hov, if_pos (by rfl), rd_gi ha.1 f10, Option.bind_some, if_pos ha.1]
        simp only [ozI] at so ⊢
        rw [so, Option.bind_some, if_pos ha.1, X4_fanAt_eq ha h.1 (show s < 6 by omega), Option.bind_some, rd_gi (v := zI (S.1 s).length) (ha.2.2.2.2.2.2.2 s (by omega)).1 (h.2.1 s (by omega)).2.1, Option.bind_some, iln (by omega)]
        exact hy
      have hsp : spr rl sit N (lf3 N p) (d + 1) S sh A = if 9 < (S.1 s).length then none else itF (fun k B => spr rl sit N (lf3 N p) d (nxk rl sit N S k) (sh / (zI (S.1 s).length).toInt64) B) (S.1 s).length 0 A := by rw [spr, if_neg (by rw [hov]; simp), s7]
      rw [hsp]
      by_cases h9 : 9 < (S.1 s).length
      · rw [if_pos h9]
        refine ⟨zI 0, m, pre2 _ ?_, rfl, hW, fun _ _ _ _ => rfl, fun _ _ _ _ _ => rfl⟩
        rw [ien (by omega)]; rfl
      · rw [if_neg h9]
        have hdv : ¬ (zI (S.1 s).length).toInt64 = 0 := by
          intro hh
          have h1 := congrArg Int64.toInt hh
          rw [Int32.toInt_toInt64, zI_toInt (by omega) (by omega)] at h1
          have : ((0 : Int64).toInt) = 0 := rfl
          omega
        have loop : ∀ (j i nn : Nat) (m : mm_V) (A : L3), i + j = (S.1 s).length → j < nn → cE e m t N P rl → outS m u → lvW m u → gC m (u + 10 + 20 * dep) t sit (zI 0) (zI 0) x S → lng m u A → ∃ v m', X6_spreadFrom_L149 e (X6_spreadFrom e fu) u (zI dep) (zI n) (zI p) sh (u + 10 + 20 * dep) (zI (S.1 s).length) nn (zI i) m = some (v, m') ∧ resP (itF (fun k B => spr rl sit N (lf3 N p) d (nxk rl sit N S k) (sh / (zI (S.1 s).length).toInt64) B) j i A) v m' u ∧ lvW m' u ∧ (∀ j, j ≠ 9 → j ≠ 10 → j ≠ 11 → m' u j = m u j) ∧ ∀ b, b ≠ u → b ≠ u + 7 → b ≠ t + 6 → (b < u + 10 + 20 * (dep + 1) ∨ u + 110 ≤ b) → m' b = m b := by
          intro j
          induction j with
          | zero =>
            intro i nn m A hi hj E hS hW h hA
            obtain ⟨nn, rfl⟩ : ∃ n', nn = n' + 1 := ⟨nn - 1, by omega⟩
            refine ⟨zI 1, m, ?_, ⟨rfl, hA⟩, hW, fun _ _ _ _ => rfl, fun _ _ _ _ _ => rfl⟩
            unfold X6_spreadFrom_L149
            rw [iep (by omega)]; rfl
          | succ j ihj =>
            intro i nn m A hi hj E hS hW h hA
            obtain ⟨nn, rfl⟩ : ∃ n', nn = n' + 1 := ⟨nn - 1, by omega⟩
            have ha1 := hu.2.2.2.2.2.2 (dep + 1) (by omega)
            obtain ⟨t0, f0, x0, w1, w2, w3⟩ := hW (dep + 1) (by omega)
            obtain ⟨m1, a1, a2, a3⟩ := X4_copyFrom_eq (e := e) ha1 ha (by omega) w1 w2 h (Or.inl rfl) (by omega)
            have a2' : gC m1 (u + 10 + 20 * (dep + 1)) t sit (zI 0) (zI 0) x S := a2
            obtain ⟨c, c1, c2⟩ := s8 i (by omega)
            obtain ⟨m2, b1, b2, b3, b4⟩ := X4_step_pure (e := e) (d := u + 7) (E.keep (fun b _ _ _ => a3 b (by omega))) ha1 (by omega) hu.2.2.2.1 (by omega) (by omega) a2' ok hsit p1 p2 s2 s3 s4 c1 hN
            rw [← c2] at b2
            have ok2 : okS N P (nxk rl sit N S i) := by rw [c2]; exact okS_nx ok p2 s3 s4 c1
            have o2 : ∀ b, b ≠ u + 7 → b ≠ t + 6 → (b < u + 10 + 20 * (dep + 1) ∨ u + 10 + 20 * (dep + 2) ≤ b) → m2 b = m b := fun b x1 x2 x3 => by rw [b4 b (by omega) x1 x2, a3 b (by omega)]
            have W2 : lvW m2 u := fun k hk => by
              by_cases hkd : k = dep + 1
              · rw [hkd]; exact b2.gmW
              · exact (hW k hk).keep (fun b _ _ => o2 b (by omega) (by omega) (by omega))
            obtain ⟨v, m3, c1', c2', c3', c4', c5'⟩ := ih fu (dep + 1) m2 (nxk rl sit N S i) (sh / (zI (S.1 s).length).toInt64) A (by omega) (by omega) (E.keep (fun b _ _ z => o2 b (by omega) z (by omega))) (hS.keep (fun j _ => by rw [o2 _ (by omega) (by omega) (by omega)]) (o2 _ (by omega) (by omega) (by omega)) (o2 _ (by omega) (by omega) (by omega))) W2 b2 ok2 ⟨by rw [o2 _ (by omega) (by omega) (by omega)]; exact hA.1, by rw [o2 _ (by omega) (by omega) (by omega)]; exact hA.2.1, by rw [o2 _ (by omega) (by omega) (by omega)]; exact hA.2.2⟩
            have q3 : ∀ j, j ≠ 9 → j ≠ 10 → j ≠ 11 → m3 u j = m u j := fun j x1 x2 x3 => by rw [c4' j x1 x2 x3, o2 _ (by omega) (by omega) (by omega)]
            have o3 : ∀ b, b ≠ u → b ≠ u + 7 → b ≠ t + 6 → (b < u + 10 + 20 * (dep + 1) ∨ u + 110 ≤ b) → m3 b = m b := fun b x1 x2 x3 x4 => by rw [c5' b x1 x2 x3 (by omega), o2 b x2 x3 (by omega)]
            have stepE : ∀ (y : Option (Int32 × mm_V)), (if ¬ v = 0 then (X6_spreadFrom_L149 e (X6_spreadFrom e fu) u (zI dep) (zI n) (zI p) sh (u + 10 + 20 * dep) (zI (S.1 s).length) nn (zI i + 1) m3) else (mm_rz (0 : Int32) m3)) = y → X6_spreadFrom_L149 e (X6_spreadFrom e fu) u (zI dep) (zI n) (zI p) sh (u + 10 + 20 * dep) (zI (S.1 s).length) (nn + 1) (zI i) m = y := by
              intro y hy
              unfold X6_spreadFrom_L149
              rw [ien (by omega), rd_gr hu.1 hS.1, Option.bind_some]
              rw [show (zI (dep : Int) + 1 : Int32) = zI ((dep + 1 : Nat) : Int) from zI_add dep 1, rd_aq hu.2.1 (i := dep + 1) rfl (by omega) (by omega) (hS.2.2.2.2.2.1 (dep + 1) (by omega)), Option.bind_some, if_pos ha1.1, a1, Option.bind_some, rd_gr hu.1 (v := u + 7) (by rw [a3 _ (by omega)]; exact hS.2.2.1), Option.bind_some, if_pos ha1.1, b1, Option.bind_some, if_neg hdv, c1', Option.bind_some]
              exact hy
            rw [itF]
            cases hr : spr rl sit N (lf3 N p) d (nxk rl sit N S i) (sh / (zI (S.1 s).length).toInt64) A with
            | none =>
              rw [hr] at c2'
              have hv : v = zI 0 := c2'
              refine ⟨zI 0, m3, stepE _ ?_, rfl, c3', q3, o3⟩
              rw [hv, if_neg (show ¬ ¬ (zI 0 : Int32) = 0 from not_not_intro rfl)]; rfl
            | some B =>
              rw [hr] at c2'
              obtain ⟨hv, hB⟩ : v = zI 1 ∧ lng m3 u B := c2'
              obtain ⟨v', m', e1, e2, e3, e4, e5⟩ := ihj (i + 1) nn m3 B (by omega) (by omega) (E.keep (fun b _ _ z => o3 b (by omega) (by omega) z (by omega))) (hS.keep (fun j _ => q3 j (by omega) (by omega) (by omega)) (o3 _ (by omega) (by omega) (by omega) (by omega)) (o3 _ (by omega) (by omega) (by omega) (by omega))) c3' (h.keep (fun b _ _ _ _ => o3 b (by omega) (by omega) (by omega) (by omega))) hB
              refine ⟨v', m', stepE _ ?_, e2, e3, fun j x1 x2 x3 => by rw [e4 j x1 x2 x3, q3 j x1 x2 x3], fun b x1 x2 x3 x4 => by rw [e5 b x1 x2 x3 x4, o3 b x1 x2 x3 x4]⟩
              rw [hv, if_pos (by decide), show (zI (i : Int) + 1 : Int32) = zI ((i + 1 : Nat) : Int) from zI_add i 1]
              exact e1
        obtain ⟨v, m', e1, e2⟩ := loop (S.1 s).length 0 e.2.2 m A (by omega) (by omega) E hS hW h hA
        refine ⟨v, m', pre2 _ ?_, e2⟩
        rw [iep (by omega)]
        exact e1
def whl : Nat → Int64
  | 0 => 1
  | n + 1 => whl n * 2520
theorem X6_spread_loop {a : Nat} (hu : outT e.1 u) (i2 : Int32) (hn : n ≤ 4) : ∀ (j i nn : Nat) (m : mm_V), i + j = n → j < nn → m u 8 = .long (whl i) → ∃ (m1 : mm_V) (n1 : Nat), X6_spread_L23 e u a i2 (zI n) nn (zI i) m = X6_spread_L23 e u a i2 (zI n) (n1 + 1) (zI n) m1 ∧ m1 u 8 = .long (whl n) ∧ (∀ j, j ≠ 8 → m1 u j = m u j) ∧ ∀ b, b ≠ u → m1 b = m b := by
  intro j
  induction j with
  | zero =>
    intro i nn m hi hj h8
    obtain ⟨nn, rfl⟩ : ∃ n', nn = n' + 1 := ⟨nn - 1, by omega⟩
    have : i = n := by omega
    subst this
    exact ⟨m, nn, rfl, h8, fun _ _ => rfl, fun _ _ => rfl⟩
  | succ j ih =>
    intro i nn m hi hj h8
    obtain ⟨nn, rfl⟩ : ∃ n', nn = n' + 1 := ⟨nn - 1, by omega⟩
    obtain ⟨m1, n1, e1, e2, e3, e4⟩ := ih (i + 1) nn (mm_up m u 8 (.long (whl i * 2520))) (by omega) (by omega) (up_at _ _ _ _)
    refine ⟨m1, n1, ?_, e2, fun j hj => by rw [e3 j hj, up_ne _ _ (Or.inr hj)], fun b hb => by rw [e4 b hb, up_row _ _ _ hb]⟩
    rw [X6_spread_L23]
    rw [ien (by omega), rd_gl hu.1 h8, Option.bind_some, wr_pf hu.1, Option.bind_some, show (zI (i : Int) + 1 : Int32) = zI ((i + 1 : Nat) : Int) from zI_add i 1]
    exact e1
theorem X6_spread_eq {m : mm_V} {a : Nat} {S : PS} (hu : outT e.1 u) (hut : u + 110 ≤ t ∨ t + 19 ≤ u) (ha : gameT e.1 a) (hau : u + 110 ≤ a ∨ a + 20 ≤ u) (hn : n ≤ 4) (hp : p < N) (hsit : ∀ i, i < 6 → sit i < 6) (E : cE e m t N P rl) (hS : outS m u) (hW : lvW m u) (h : gC m a t sit (zI 0) (zI 0) x S) (ok : okS N P S) (hN : 1000 < e.2.2) : ∃ v m', X6_spread e u a (zI p) (zI n) m = some (v, m') ∧ resP (spr rl sit N (lf3 N p) n S (whl n) (0, 0, 0)) v m' u ∧ m' u 8 = .long (whl n) ∧ outS m' u ∧ lvW m' u ∧ (∀ j, j < 8 → m' u j = m u j) ∧ ∀ b, b ≠ u → b ≠ u + 7 → b ≠ t + 6 → (b < u + 10 ∨ u + 110 ≤ b) → m' b = m b := by
  generalize hm1 : mm_up m u 9 (.long 0) = m1
  generalize hm2 : mm_up m1 u 10 (.long 0) = m2
  generalize hm3 : mm_up m2 u 11 (.long 0) = m3
  generalize hm4 : mm_up m3 u 8 (.long 1) = m4
  have o4 : ∀ b, b ≠ u → m4 b = m b := fun b x1 => by rw [← hm4, up_row _ _ _ x1, ← hm3, up_row _ _ _ x1, ← hm2, up_row _ _ _ x1, ← hm1, up_row _ _ _ x1]
  have q4 : ∀ j, j < 8 → m4 u j = m u j := fun j x1 => by rw [← hm4, up_ne _ _ (Or.inr (by omega)), ← hm3, up_ne _ _ (Or.inr (by omega)), ← hm2, up_ne _ _ (Or.inr (by omega)), ← hm1, up_ne _ _ (Or.inr (by omega))]
  have l4 : lng m4 u (0, 0, 0) := ⟨by rw [← hm4, up_ne _ _ (Or.inr (by omega)), ← hm3, up_ne _ _ (Or.inr (by omega)), ← hm2, up_ne _ _ (Or.inr (by omega)), ← hm1, up_at], by rw [← hm4, up_ne _ _ (Or.inr (by omega)), ← hm3, up_ne _ _ (Or.inr (by omega)), ← hm2, up_at], by rw [← hm4, up_ne _ _ (Or.inr (by omega)), ← hm3, up_at]⟩
  obtain ⟨m5, n1, a1, a2, a3, a4⟩ := X6_spread_loop (e := e) (a := a) hu (zI p) hn n 0 e.2.2 m4 (by omega) (by omega) (by rw [← hm4, up_at]; rfl)
  have o5 : ∀ b, b ≠ u → m5 b = m b := fun b x1 => by rw [a4 b x1, o4 b x1]
  have q5 : ∀ j, j < 8 → m5 u j = m u j := fun j x1 => by rw [a3 j (by omega), q4 j x1]
  have S5 : outS m5 u := hS.keep (fun j _ => q5 j (by omega)) (o5 _ (by omega)) (o5 _ (by omega))
  have g5 : gC m5 a t sit (zI 0) (zI 0) x S := h.keep (fun b _ _ _ _ => o5 b (by omega))
  have ha0 := hu.2.2.2.2.2.2 0 (by omega)
  obtain ⟨t0, f0, x0, w1, w2, w3⟩ := (hW 0 (by omega)).keep (fun b _ _ => o5 b (by omega))
  obtain ⟨m6, b1, b2, b3⟩ := X4_copyFrom_eq (e := e) ha0 ha (by omega) w1 w2 g5 (Or.inl rfl) (by omega)
  have b2' : gC m6 (u + 10 + 20 * 0) t sit (zI 0) (zI 0) x S := b2
  have o6 : ∀ b, b ≠ u → (b < u + 10 ∨ u + 30 ≤ b) → m6 b = m b := fun b x1 x2 => by rw [b3 b (by omega), o5 b x1]
  have W6 : lvW m6 u := fun k hk => by
    by_cases hk0 : k = 0
    · rw [hk0]; exact b2'.gmW
    · exact (hW k hk).keep (fun b _ _ => o6 b (by omega) (by omega))
  obtain ⟨v, m', c1, c2, c3, c4, c5⟩ := X6_from (e := e) (n := n) (p := p) (x := x) hu hut hn hp hsit hN n 6 0 m6 S (whl n) (0, 0, 0) (by omega) (by omega) (E.keep (fun b _ _ _ => o6 b (by omega) (by omega))) (S5.keep (fun j _ => by rw [b3 _ (by omega)]) (b3 _ (by omega)) (b3 _ (by omega))) W6 b2' ok ⟨by rw [b3 _ (by omega), a3 _ (by omega)]; exact l4.1, by rw [b3 _ (by omega), a3 _ (by omega)]; exact l4.2.1, by rw [b3 _ (by omega), a3 _ (by omega)]; exact l4.2.2⟩
  have q6 : ∀ j, j < 8 → m' u j = m u j := fun j hj => by rw [c4 j (by omega) (by omega) (by omega), b3 _ (by omega), q5 j hj]
  have hv : v = zI 0 ∨ v = zI 1 := by
    cases hr : spr rl sit N (lf3 N p) n S (whl n) (0, 0, 0) with
    | none => rw [hr] at c2; exact Or.inl c2
    | some B => rw [hr] at c2; exact Or.inr c2.1
  refine ⟨v, m', ?_, c2, by rw [c4 _ (by omega) (by omega) (by omega), b3 _ (by omega)]; exact a2, hS.keep (fun j _ => q6 j (by omega)) (by rw [c5 _ (by omega) (by omega) (by omega) (by omega), o6 _ (by omega) (by omega)]) (by rw [c5 _ (by omega) (by omega) (by omega) (by omega), o6 _ (by omega) (by omega)]), c3, q6, fun b x1 x2 x3 x4 => by rw [c5 b x1 x2 x3 (by omega), o6 b x1 (by omega)]⟩
  unfold X6_spread
  rw [wr_pf hu.1, Option.bind_some, hm1, wr_pf hu.1, Option.bind_some, hm2, wr_pf hu.1, Option.bind_some, hm3, wr_pf hu.1, Option.bind_some, hm4]
  rw [show (0 : Int32) = zI ((0 : Nat) : Int) from rfl, a1, X6_spread_L23, iep (by omega), rd_gr hu.1 S5.1, Option.bind_some, show (0 : Int32) = zI ((0 : Nat) : Int) from rfl, rd_aq hu.2.1 (i := 0) rfl (by omega) (by omega) (S5.2.2.2.2.2.1 0 (by omega)), Option.bind_some, if_pos ha0.1, b1, Option.bind_some, rd_gl hu.1 (v := whl n) (by rw [b3 _ (by omega)]; exact a2), Option.bind_some, c1, Option.bind_some]
  rcases hv with hv | hv <;> rw [hv] <;> rfl
end SPREAD
