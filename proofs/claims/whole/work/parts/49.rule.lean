/-! WHERE ONE DRAWS AND HOLDS by rules. -/
def dAt (rl : Nat → List Int) (sit : Nat → Nat) (f : Nat → List Nat) (last : Nat → Nat) (done : Int32) (p s : Nat) : Nat := if (rl (sit p)).isEmpty then (f s).length / 2 else fmd (ans rl (sit p) (svv f last done p (f s).length 0)) (f s).length
def hAt (rl : Nat → List Int) (sit : Nat → Nat) (f : Nat → List Nat) (last : Nat → Nat) (done : Int32) (p c : Nat) : Nat := if (rl (6 + sit p)).isEmpty then (f p).length else fmd (ans rl (6 + sit p) (svv f last done p (f p).length c)) ((f p).length + 1)
theorem fmd_small {k n : Nat} (h : k < n) (hn : n < 1000) : fmd (zI k) n = k := by
  unfold fmd
  rw [zI_toInt (by omega) (by omega), Int.emod_eq_of_lt (by omega) (by omega)]
  omega
theorem zI_half {n : Nat} (hn : n < 1000) : zI n / zI 2 = zI (n / 2 : Nat) := by
  rw [zI_div (by omega) (by omega) (by omega) (by omega)]
  congr 1
theorem dAt_lt {rl : Nat → List Int} {sit : Nat → Nat} {f : Nat → List Nat} {last : Nat → Nat} {done : Int32} {p s : Nat} (h : 0 < (f s).length) : dAt rl sit f last done p s < (f s).length := by
  unfold dAt
  split
  · omega
  · exact fmd_lt _ h
theorem hAt_le {rl : Nat → List Int} {sit : Nat → Nat} {f : Nat → List Nat} {last : Nat → Nat} {done : Int32} {p c : Nat} : hAt rl sit f last done p c ≤ (f p).length := by
  unfold hAt
  split
  · omega
  · have := fmd_lt (ans rl (6 + sit p) (svv f last done p (f p).length c)) (show 0 < (f p).length + 1 by omega); omega
section RULE2
variable {e : mm_E} {m : mm_V} {a t N q r : Nat} {f : Nat → List Nat} {rl : Nat → List Int} {sit last : Nat → Nat} {done : Int32} {p : Nat}
theorem X4_rulePlace_eq (ht : gameT e.1 a) (htt : toldT e.1 t) (hat : t + 19 ≤ a ∨ a + 20 ≤ t) (h : gameS m a t) (hf : gameF m a f) (hn : m t 6 = .int (zI N)) (h2 : 2 ≤ N) (h6 : N ≤ 6) (hp : p < N) {lw : Int32} (hl : m a 7 = .int lw) (hsit : m (a + 4) p = .int (zI (sit p))) (hs6 : sit p < 6) (hla : m (a + 5) p = .int (zI (last p))) (hd : m a 11 = .int done) (hS : toldS m t) (hr : rulesC m t rl) (hw : rulesW rl) {s : Nat} (hs : srcF lw N f p = some s) (hsN : s < 6) (hc : 0 < (f s).length) (hN : 1000 < e.2.2) : ∃ m', X4_rulePlace e a (zI p) m = some (zI (dAt rl sit f last done p s), m') ∧ ∀ b, b ≠ a + 6 → b ≠ t + 6 → m' b = m b := by
  have h10 := (hf s hsN).2.2.1
  obtain ⟨m1, e1, e2, e3⟩ := X4_see_eq (e := e) (n := (f s).length) (c := 0) (last := last) ht h hf (show p < 6 by omega) hla hd
  have hS1 : gameS m1 a t := h.keep (fun j _ => by rw [e3 _ (by omega)]) (fun b _ _ => e3 _ (by omega))
  have hT1 : toldS m1 t := hS.keep (fun j _ => by rw [e3 _ (by omega)]) (e3 _ (by omega))
  have hr1 : rulesC m1 t rl := hr.keep (e3 _ (by omega)) (e3 _ (by omega)) (e3 _ (by omega))
  unfold X4_rulePlace
  rw [X4_source_eq ht htt.1 h hf hn h2 h6 hp hl (by omega), Option.bind_some, hs]
  simp only [ozI]
  rw [X4_fanAt_eq ht h hsN, Option.bind_some, rd_gi (ht.2.2.2.2.2.2.2 s hsN).1 (hf s hsN).2.1, Option.bind_some]
  simp only [LT]
  rw [show (zI 0 : Int32) = zI ((0 : Nat) : Int) from rfl, e1, Option.bind_some, X4_sitterAt_eq ht hS1 (show p < 6 by omega) (by rw [e3 _ (by omega)]; exact hsit), Option.bind_some, rd_gr ht.1 hS1.2.2.2.2.2.2.1, Option.bind_some, if_pos htt.1, zI_add, show ((0 : Nat) : Int) + (sit p : Int) = ((sit p : Nat) : Int) by omega, X10_hasRule_eq htt hT1 hr1 (by omega), Option.bind_some]
  unfold dAt
  cases hrl : (rl (sit p)).isEmpty with
  | true =>
    refine ⟨m1, ?_, fun b hb _ => e3 b hb⟩
    simp only [bZ, Bool.not_true, Bool.false_eq_true, if_false, if_true]
    unfold X4_rulePlace_b57 X4_rulePlace_b73
    simp only [LT]
    rw [iqp (by omega), zI_half (by omega), ien (by omega), J9_floorMod_eq e _ hc (by omega), fmd_small (by omega) (by omega)]
    rfl
  | false =>
    obtain ⟨m2, g1, g2⟩ := X10_answer_eq (e := e) htt hT1 hr1 hw (show sit p < 12 by omega) (by intro hh; rw [hh] at hrl; simp at hrl) ht.2.2.2.2.2.1 (show a + 6 ≠ t + 6 by omega) e2 hN
    refine ⟨m2, ?_, fun b hb hb2 => by rw [g2 b hb2, e3 b hb]⟩
    simp only [bZ, Bool.not_false, Bool.false_eq_true, if_false, if_true]
    rw [iqn (by omega), rd_gr ht.1 hS1.2.2.2.2.2.2.1, Option.bind_some, rd_gr ht.1 hS1.2.2.2.2.1, Option.bind_some, if_pos htt.1, g1, Option.bind_some]
    unfold X4_rulePlace_b57 X4_rulePlace_b73
    simp only [LT]
    rw [ien (by omega), J9_floorMod_eq e _ hc (by omega)]
    rfl
theorem X4_holdPlace_eq (ht : gameT e.1 a) (htt : toldT e.1 t) (hat : t + 19 ≤ a ∨ a + 20 ≤ t) (h : gameS m a t) (hf : gameF m a f) (hp : p < 6) (hsit : m (a + 4) p = .int (zI (sit p))) (hs6 : sit p < 6) (hla : m (a + 5) p = .int (zI (last p))) (hd : m a 11 = .int done) (hS : toldS m t) (hr : rulesC m t rl) (hw : rulesW rl) {c : Nat} (hN : 1000 < e.2.2) : ∃ m', X4_holdPlace e a (zI p) (zI c) m = some (zI (hAt rl sit f last done p c), m') ∧ ∀ b, b ≠ a + 6 → b ≠ t + 6 → m' b = m b := by
  have h10 := (hf p hp).2.2.1
  obtain ⟨m1, e1, e2, e3⟩ := X4_see_eq (e := e) (n := (f p).length) (c := c) (last := last) ht h hf hp hla hd
  have hS1 : gameS m1 a t := h.keep (fun j _ => by rw [e3 _ (by omega)]) (fun b _ _ => e3 _ (by omega))
  have hT1 : toldS m1 t := hS.keep (fun j _ => by rw [e3 _ (by omega)]) (e3 _ (by omega))
  have hr1 : rulesC m1 t rl := hr.keep (e3 _ (by omega)) (e3 _ (by omega)) (e3 _ (by omega))
  unfold X4_holdPlace
  rw [X4_fanAt_eq ht h hp, Option.bind_some, rd_gi (ht.2.2.2.2.2.2.2 p hp).1 (hf p hp).2.1, Option.bind_some, e1, Option.bind_some, X4_sitterAt_eq ht hS1 hp (by rw [e3 _ (by omega)]; exact hsit), Option.bind_some, rd_gr ht.1 hS1.2.2.2.2.2.2.1, Option.bind_some, if_pos htt.1]
  simp only [LT]
  rw [zI_add, show (6 : Int) + (sit p : Int) = ((6 + sit p : Nat) : Int) by omega, X10_hasRule_eq htt hT1 hr1 (by omega), Option.bind_some]
  unfold hAt
  cases hrl : (rl (6 + sit p)).isEmpty with
  | true =>
    refine ⟨m1, ?_, fun b hb _ => e3 b hb⟩
    simp only [bZ, Bool.not_true, Bool.false_eq_true, if_false, if_true]
    unfold X4_holdPlace_b55 X4_holdPlace_b73
    simp only [LT]
    rw [iln (by omega), zI_add, show ((f p).length : Int) + 1 = (((f p).length + 1 : Nat) : Int) by omega, J9_floorMod_eq e _ (by omega) (by omega), fmd_small (by omega) (by omega)]
    rfl
  | false =>
    obtain ⟨m2, g1, g2⟩ := X10_answer_eq (e := e) htt hT1 hr1 hw (show 6 + sit p < 12 by omega) (by intro hh; rw [hh] at hrl; simp at hrl) ht.2.2.2.2.2.1 (show a + 6 ≠ t + 6 by omega) e2 hN
    refine ⟨m2, ?_, fun b hb hb2 => by rw [g2 b hb2, e3 b hb]⟩
    simp only [bZ, Bool.not_false, Bool.false_eq_true, if_false, if_true]
    rw [iqn (by omega), rd_gr ht.1 hS1.2.2.2.2.2.2.1, Option.bind_some, rd_gr ht.1 hS1.2.2.2.2.1, Option.bind_some, if_pos htt.1, g1, Option.bind_some]
    unfold X4_holdPlace_b55 X4_holdPlace_b73
    simp only [LT]
    rw [iln (by omega), zI_add, show ((f p).length : Int) + 1 = (((f p).length + 1 : Nat) : Int) by omega, J9_floorMod_eq e _ (by omega) (by omega)]
    rfl
theorem X12_valueOf_eq (ht : e.1 r = some (20, 128)) (h : rowF m r f) (hd : m r 1 = .int done) (hp : p < 6) (hl : m r (8 + p) = .int (zI (last p))) {n c k : Nat} (hk : k < 6) : X12_valueOf e q (zI k) r (zI p) (zI n) (zI c) m = some (svv f last done p n c k, m) := by
  unfold X12_valueOf
  rw [X12_size_eq ht h hp]
  simp only [LT, zI_add]
  rw [rd_ai ht (i := 1) (by omega) (by omega) (by omega) hd, rd_ai ht (i := 8 + p) (by omega) (by omega) (by omega) hl]
  simp only [Option.bind_some]
  have hc : k = 0 ∨ k = 1 ∨ k = 2 ∨ k = 3 ∨ k = 4 ∨ k = 5 := by omega
  rcases hc with rfl | rfl | rfl | rfl | rfl | rfl
  · rw [iqp (by omega)]; rfl
  · rw [iqn (by omega), iqp (by omega)]; rfl
  · rw [iqn (by omega), iqn (by omega), iqp (by omega)]; rfl
  · rw [iqn (by omega), iqn (by omega), iqn (by omega), iqp (by omega)]; rfl
  · rw [iqn (by omega), iqn (by omega), iqn (by omega), iqn (by omega), iqp (by omega)]; rfl
  · rw [iqn (by omega), iqn (by omega), iqn (by omega), iqn (by omega), iqn (by omega)]; rfl
theorem X12_reckons_eq (hT : modT e.1 q) (hS : modS m q) (ht : e.1 r = some (20, 128)) (hrq : r ≠ q + 17) (h : rowF m r f) (hd : m r 1 = .int done) (hp : p < 6) (hl : m r (8 + p) = .int (zI (last p))) (hw : rulesW rl) {n c k at_ : Nat} (hk : k < 12) (hne : rl k ≠ []) (hb : at_ + (enc (rl k)).length ≤ 1600) (hc : ∀ (i : Nat) (x : Int), (enc (rl k))[i]? = some x → m (q + 3) (at_ + i) = .int (zI x)) (hN : 2000 < e.2.2) : ∃ m', X12_reckons e q (zI at_) r (zI p) (zI n) (zI c) m = some (ans rl k (svv f last done p n c), m') ∧ ∀ b, b ≠ q + 17 → m' b = m b := by
  have hle : ∀ cs : List Int, cs.length ≤ (enc cs).length := by
    intro cs
    induction cs with
    | nil => simp
    | cons c cs ih =>
      have : 1 ≤ (encC c).length := by unfold encC; (repeat' split) <;> simp
      simp only [enc, List.length_append, List.length_cons]; omega
  have hl1 := hle (rl k)
  obtain ⟨v, m', e1, e2, e3⟩ := X12_reckons_loop (e := e) (q := q) (cd := q + 3) (pl := q + 17) (r := r) (sv := svv f last done p n c) (i3 := zI p) (i4 := zI n) (i5 := zI c) (m0 := m) hT.me hT.code_ hT.pile_ (by omega) (by omega) hS.code_ hS.pile_
    (fun m1 h1 j hj => X12_valueOf_eq ht (h.keep' (h1 r hrq)) (by rw [h1 r hrq]; exact hd) hp (by rw [h1 r hrq]; exact hl) hj)
    (rl k) at_ e.2.2 [] m hb (by omega) (fun _ _ => rfl) hc trivial (hw k hk hne) (by simp)
  refine ⟨m', ?_, e3⟩
  unfold X12_reckons ans
  rw [e2]
  exact e1
theorem X12_drawsAt_eq (hT : modT e.1 q) (hS : modS m q) (ht : e.1 r = some (20, 128)) (hrq : r ≠ q + 17) (h : rowF m r f) (hd : m r 1 = .int done) (hp : p < 6) (hl : m r (8 + p) = .int (zI (last p))) (hsit : m (q + 18) p = .int (zI (sit p))) (hs6 : sit p < 6) (hr : rulesM m (q + 1) (q + 3) rl) (hw : rulesW rl) {s : Nat} (hs : s < 6) (hc : 0 < (f s).length) (hN : 2000 < e.2.2) : ∃ m', X12_drawsAt e q r (zI p) (zI s) m = some (zI (dAt rl sit f last done p s), m') ∧ ∀ b, b ≠ q + 17 → m' b = m b := by
  have h19 := (h s hs).2.1
  obtain ⟨u, u1, u2, u3, u4⟩ := hr (sit p) (by omega)
  rw [if_pos hs6] at u1
  unfold X12_drawsAt
  rw [X12_size_eq ht h hs]
  simp only [Option.bind_some, LT]
  rw [rd_gr hT.me hS.ruleAt_, Option.bind_some, rd_gr hT.me hS.sits_, Option.bind_some, rd_ai hT.sits_ (i := p) rfl hp (by omega) hsit, Option.bind_some, zI_mul, rd_ai hT.ruleAt_ (i := 2 * sit p) (by omega) (by omega) (by omega) u1, Option.bind_some]
  unfold dAt
  cases hrl : (rl (sit p)).isEmpty with
  | true =>
    have := u3 (by simpa using hrl)
    refine ⟨m, ?_, fun _ _ => rfl⟩
    rw [inn (by omega), zI_half (by omega)]
    rfl
  | false =>
    have hne : rl (sit p) ≠ [] := by intro hh; rw [hh] at hrl; simp at hrl
    obtain ⟨v1, v2, v3⟩ := u4 hne
    obtain ⟨m1, e1, e2⟩ := X12_reckons_eq (e := e) (n := (f s).length) (c := 0) hT hS ht hrq h hd hp hl hw (show sit p < 12 by omega) hne v2 v3 hN
    refine ⟨m1, ?_, e2⟩
    rw [inp (by omega), show (zI 0 : Int32) = zI ((0 : Nat) : Int) from rfl, e1, Option.bind_some, X12_mod_eq e _ hc (by omega)]
    rfl
theorem X12_holdsAt_eq (hT : modT e.1 q) (hS : modS m q) (ht : e.1 r = some (20, 128)) (hrq : r ≠ q + 17) (h : rowF m r f) (hd : m r 1 = .int done) (hp : p < 6) (hl : m r (8 + p) = .int (zI (last p))) (hsit : m (q + 18) p = .int (zI (sit p))) (hs6 : sit p < 6) (hr : rulesM m (q + 1) (q + 3) rl) (hw : rulesW rl) {c : Nat} (hN : 2000 < e.2.2) : ∃ m', X12_holdsAt e q r (zI p) (zI c) m = some (zI (hAt rl sit f last done p c), m') ∧ ∀ b, b ≠ q + 17 → m' b = m b := by
  have h19 := (h p hp).2.1
  obtain ⟨u, u1, u2, u3, u4⟩ := hr (6 + sit p) (by omega)
  rw [if_neg (by omega), show 2 * (6 + sit p - 6) + 1 = 2 * sit p + 1 by omega] at u1
  unfold X12_holdsAt
  rw [X12_size_eq ht h hp]
  simp only [Option.bind_some, LT]
  rw [rd_gr hT.me hS.ruleAt_, Option.bind_some, rd_gr hT.me hS.sits_, Option.bind_some, rd_ai hT.sits_ (i := p) rfl hp (by omega) hsit, Option.bind_some, zI_mul, zI_add, rd_ai hT.ruleAt_ (i := 2 * sit p + 1) (by omega) (by omega) (by omega) u1, Option.bind_some]
  unfold hAt
  cases hrl : (rl (6 + sit p)).isEmpty with
  | true =>
    have := u3 (by simpa using hrl)
    refine ⟨m, ?_, fun _ _ => rfl⟩
    rw [inn (by omega)]
    rfl
  | false =>
    have hne : rl (6 + sit p) ≠ [] := by intro hh; rw [hh] at hrl; simp at hrl
    obtain ⟨v1, v2, v3⟩ := u4 hne
    obtain ⟨m1, e1, e2⟩ := X12_reckons_eq (e := e) (n := (f p).length) (c := c) hT hS ht hrq h hd hp hl hw (show 6 + sit p < 12 by omega) hne v2 v3 hN
    refine ⟨m1, ?_, e2⟩
    rw [inp (by omega), e1, Option.bind_some, zI_add, show ((f p).length : Int) + 1 = (((f p).length + 1 : Nat) : Int) by omega, X12_mod_eq e _ (by omega) (by omega)]
    rfl
end RULE2
