/-! THE READER of the model: bits, pictures, a number, who is told of. -/
def bitI (v : Int32) (k : Nat) : Bool := v.toBitVec.getLsbD k
theorem sh_ix : ∀ k, k < 32 → ((zI (k : Nat) &&& zI 31 : Int32) = zI (k : Nat) ∧ ((zI (k : Nat)).toBitVec.smod 32).toNat = k ∧ ((zI 1 : Int32) <<< (zI (k : Nat))).toBitVec = BitVec.twoPow 32 k) := by decide +kernel
theorem bit_get {v : Int32} {k : Nat} (hk : k < 32) : (((v >>> (zI k &&& zI 31)) &&& zI 1) = zI 1) ↔ bitI v k = true := by
  obtain ⟨h1, h2, -⟩ := sh_ix k hk
  rw [h1]
  have h4 : (v >>> (zI (k : Nat))).toBitVec = v.toBitVec.sshiftRight k := by
    rw [Int32.toBitVec_shiftRight]
    show v.toBitVec.sshiftRight ((zI (k : Nat)).toBitVec.smod 32).toNat = _
    rw [h2]
  have h5 : ((v >>> (zI (k : Nat))) &&& zI 1).toBitVec = BitVec.setWidth 32 (BitVec.ofBool (bitI v k)) := by
    rw [Int32.toBitVec_and, h4, show (zI 1).toBitVec = 1#32 from rfl, BitVec.and_one_eq_setWidth_ofBool_getLsbD]
    have : (v.toBitVec.sshiftRight k).getLsbD 0 = bitI v k := by
      rw [BitVec.getLsbD_sshiftRight]
      simp [bitI, hk]
    rw [this]
  constructor
  · intro h
    rw [h] at h5
    cases hb : bitI v k with
    | true => rfl
    | false => rw [hb] at h5; exact absurd h5 (by decide)
  · intro h
    rw [h] at h5
    exact Int32.toBitVec.inj (h5.trans (by decide))
theorem bit_set {v : Int32} {k j : Nat} (hk : k < 32) (hj : j < 32) : bitI (v ||| ((zI 1 : Int32) <<< (zI k &&& zI 31))) j = (bitI v j || decide (j = k)) := by
  obtain ⟨h1, -, h3⟩ := sh_ix k hk
  rw [h1]
  unfold bitI
  rw [Int32.toBitVec_or, h3, BitVec.getLsbD_or, BitVec.getLsbD_twoPow]
  have : decide (k = j) = decide (j = k) := by
    by_cases h : j = k
    · rw [h]
    · rw [decide_eq_false h, decide_eq_false (fun h' => h h'.symm)]
  rw [this, decide_eq_true hk, Bool.true_and]
theorem bit_0 (j : Nat) : bitI (zI 0) j = false := by
  show (0#32).getLsbD j = false
  simp
def rix (k : Nat) : Nat := if k < 6 then 2 * k else 2 * (k - 6) + 1
theorem rix_lt {k : Nat} (h : k < 12) : rix k < 12 := by unfold rix; split <;> omega
theorem rix_inj {k j : Nat} (h : k < 12) (hj : j < 12) (he : rix k = rix j) : k = j := by
  unfold rix at he
  by_cases h1 : k < 6
  · by_cases h2 : j < 6
    · rw [if_pos h1, if_pos h2] at he; omega
    · rw [if_pos h1, if_neg h2] at he; omega
  · by_cases h2 : j < 6
    · rw [if_neg h1, if_pos h2] at he; omega
    · rw [if_neg h1, if_neg h2] at he; omega
def ruM (m : mm_V) (q tp : Nat) (R : RD) (k : Nat) : Prop := ∃ a : Nat, m (q + 6) (rix k) = .int (zI a) ∧ (R.2.2.2.2.2.1 k = [] → a = 0) ∧ (R.2.2.2.2.2.1 k ≠ [] → 0 < a ∧ a + (enc (R.2.2.2.2.2.1 k)).length ≤ tp ∧ ∀ (i : Nat) (c : Int), (enc (R.2.2.2.2.2.1 k))[i]? = some c → m (q + 9) (a + i) = .int (zI c))
def rmD (m : mm_V) (q tp : Nat) (R : RD) : Prop := m q 21 = .int (zI R.1.1) ∧ m q 22 = .int (zI R.1.2.1) ∧ m q 23 = .int (zI R.1.2.2.1) ∧ m q 29 = .int (bZ R.1.2.2.2) ∧ m q 28 = .int (bZ R.2.2.2.2.1) ∧ m q 25 = .int (zI tp) ∧ (∃ v, m q 24 = .int v ∧ ∀ w, w < 3 → bitI v (6 + w) = R.2.2.2.1 (6 * w)) ∧ (∃ v, m q 30 = .int v ∧ ∀ w p, w < 4 → p < 6 → bitI v (6 * w + p) = R.2.2.2.1 (6 * (w + 3) + p)) ∧ (∀ p, p < 6 → newF m q p (R.2.1 p)) ∧ (∀ c, c < 10 → m (q + 11) c = .int (zI (R.2.2.1 c))) ∧ (∀ i, i < 36 → m (q + 7) i = .int (zI (R.2.2.2.2.2.2 i))) ∧ ∀ k, k < 12 → ruM m q tp R k
def rmR (m : mm_V) (q n : Nat) (T : Nat → Nat) (t : TK) (tp : Nat) (R : RD) : Prop := modS m q ∧ tkM m q n T t ∧ txR m (q + 4) n T ∧ m q 10 = .int (zI 0) ∧ m q 11 = .int (zI (-1)) ∧ ((∃ v, m q 18 = .int v) ∧ ∃ v, m q 19 = .int v) ∧ rmD m q tp R
def rmB (m : mm_V) (q f pl : Nat) : Prop := modS m q ∧ m q 10 = .int (zI f) ∧ m q 11 = .int (zI pl) ∧ (∃ v, m q 15 = .int v) ∧ (∃ v, m q 18 = .int v) ∧ (∃ v, m q 19 = .int v) ∧ ∀ c, c < 10 → ∃ v, m (q + 11) c = .int v
def fmC (q : Nat) (m m' : mm_V) : Prop := (∀ b, b ≠ q → (b < q + 6 ∨ q + 12 < b) → m' b = m b) ∧ (∀ k, (k < 10 ∨ k = 12 ∨ 30 < k) → m' q k = m q k) ∧ ∀ j, j < 1600 → (∃ v, m (q + 9) j = .int v) → ∃ v, m' (q + 9) j = .int v
theorem fmC.refl (q : Nat) (m : mm_V) : fmC q m m := ⟨fun _ _ _ => rfl, fun _ _ => rfl, fun _ _ h => h⟩
theorem fmC.trans {q : Nat} {m m1 m2 : mm_V} (h : fmC q m m1) (k : fmC q m1 m2) : fmC q m m2 := ⟨fun b h1 h2 => by (try dsimp only); rw [k.1 b h1 h2, h.1 b h1 h2], fun j hj => by (try dsimp only); rw [k.2.1 j hj, h.2.1 j hj], fun j hj hh => k.2.2 j hj (h.2.2 j hj hh)⟩
theorem mxK.fm {q tp : Nat} {m m' : mm_V} (h : mxK q tp m m') (hi : ∀ j, j < 1600 → (∃ v, m (q + 9) j = .int v) → ∃ v, m' (q + 9) j = .int v) : fmC q m m' := ⟨fun b h1 h2 => h.1 b h1 (by omega) (by omega) (by omega), fun k hk => h.2.1 k (by omega), hi⟩
/-- changed elsewhere than in the codes read -/
theorem fmC.mk {q : Nat} {m m' : mm_V} (h : ∀ b, b ≠ q → (b < q + 6 ∨ q + 12 < b ∨ b = q + 9) → m' b = m b) (k : ∀ k, (k < 10 ∨ k = 12 ∨ 30 < k) → m' q k = m q k) : fmC q m m' := ⟨fun b h1 h2 => h b h1 (by omega), k, fun j _ hh => by (try dsimp only); rw [h (q + 9) (by omega) (by omega)]; exact hh⟩
/-- changed in its own fields alone -/
theorem fmC.own {q : Nat} {m m' : mm_V} (h : ∀ b, b ≠ q → m' b = m b) (k : ∀ k, (k < 10 ∨ k = 12 ∨ 30 < k) → m' q k = m q k) : fmC q m m' := fmC.mk (fun b h1 _ => h b h1) k
theorem ruM.keep {m m' : mm_V} {q tp : Nat} {R : RD} {k : Nat} (h : ruM m q tp R k) (h6 : m' (q + 6) = m (q + 6)) (h9 : m' (q + 9) = m (q + 9)) : ruM m' q tp R k := by
  obtain ⟨a, a1, a2, a3⟩ := h
  exact ⟨a, by (try dsimp only); rw [h6]; exact a1, a2, fun hne => ⟨(a3 hne).1, (a3 hne).2.1, fun i c hc => by (try dsimp only); rw [h9]; exact (a3 hne).2.2 i c hc⟩⟩
theorem newF.same {m m' : mm_V} {q p : Nat} {l : List Nat} (h : newF m q p l) (h8 : m' (q + 8) = m (q + 8)) : newF m' q p l := ⟨by (try dsimp only); rw [h8]; exact h.1, fun k c hc => by (try dsimp only); rw [h8]; exact h.2 k c hc⟩
theorem rmD.keep {m m' : mm_V} {q tp : Nat} {R : RD} (h : rmD m q tp R) (hf : ∀ k, 20 < k → k < 26 ∨ k = 28 ∨ k = 29 ∨ k = 30 → m' q k = m q k) (ho : ∀ b, b ≠ q → m' b = m b) : rmD m' q tp R := by
  obtain ⟨a1, a2, a3, a4, a5, a6, ⟨v, a7, a8⟩, ⟨w, a9, a10⟩, a11, a12, a13, a14⟩ := h
  exact ⟨by (try dsimp only); rw [hf _ (by omega) (by omega)]; exact a1, by (try dsimp only); rw [hf _ (by omega) (by omega)]; exact a2, by (try dsimp only); rw [hf _ (by omega) (by omega)]; exact a3, by (try dsimp only); rw [hf _ (by omega) (by omega)]; exact a4, by (try dsimp only); rw [hf _ (by omega) (by omega)]; exact a5, by (try dsimp only); rw [hf _ (by omega) (by omega)]; exact a6, ⟨v, by (try dsimp only); rw [hf _ (by omega) (by omega)]; exact a7, a8⟩, ⟨w, by (try dsimp only); rw [hf _ (by omega) (by omega)]; exact a9, a10⟩, fun p hp => (a11 p hp).same (ho _ (by omega)), fun c hc => by (try dsimp only); rw [ho _ (by omega)]; exact a12 c hc, fun i hi => by (try dsimp only); rw [ho _ (by omega)]; exact a13 i hi, fun k hk => (a14 k hk).keep (ho _ (by omega)) (ho _ (by omega))⟩
theorem ev_nT {β : Type} {A B : Option β} {P : β → Prop} (h : Ev B P) : Ev (if ¬ True then A else B) P := by rw [if_neg (fun h => h trivial)]; exact h
theorem ev_T {β : Type} {A B : Option β} {P : β → Prop} (h : Ev A P) : Ev (if True then A else B) P := by rw [if_pos trivial]; exact h
theorem ev_fld {α : Type} {g : mm_T} {m : mm_V} {x : Option mm_V} {Q : mm_V → Prop} (h : Ev x Q) (k : ∀ r, x = some r → fldK g m r) : Ev x (fun r => Q r ∧ fldK g m r) := by
  obtain ⟨r, h1, h2⟩ := h
  exact ⟨r, h1, h2, k r h1⟩
section RDM
variable {e : mm_E} {q n tp : Nat} {T : Nat → Nat} {t : TK} {R : RD}
theorem rm_goes {m : mm_V} (hT : modT e.1 q) (hN : 1000 < e.2.2) (hv : tkV T n t) (h : rmR m q n T t tp R) : Ev (X12_goes e q m) (fun m' => rmR m' q n T (tok T n t.2.2) tp R ∧ fmC q m m' ∧ ∀ b, b ≠ q → m' b = m b) := by
  obtain ⟨h1, h2, h3, h4, h5, h6, h7⟩ := h
  obtain ⟨m', e1, e2, e3, e4, e5⟩ := X12_goes_eq (e := e) hT h1 h3 h2.1 h2.2.1 hv.2.1 hN
  have hk := X12_goes_fK e1 q 75 hT.me
  exact ⟨m', e1, ⟨e3, e2, h3.keep (e5 _ (by omega)), by (try dsimp only); rw [e4 _ (by omega)]; exact h4, by (try dsimp only); rw [e4 _ (by omega)]; exact h5, ⟨hk 18 (by omega) h6.1, hk 19 (by omega) h6.2⟩, h7.keep (fun k hk _ => e4 k (by omega)) e5⟩, fmC.own e5 (fun k hk => e4 k (by omega)), e5⟩
theorem rm_wrong {m : mm_V} {f : Nat} (hT : modT e.1 q) (h : rmR m q n T t tp R) : Ev (X12_wrong e q (zI f) m) (fun m' => rmB m' q f t.2.1 ∧ fmC q m m' ∧ ∀ b, b ≠ q → m' b = m b) := by
  obtain ⟨h1, h2, h3, h4, h5, h6, h7⟩ := h
  have f1 : ∀ k, k ≠ 10 → k ≠ 11 → (mm_up (mm_up m q 10 (.int (zI f))) q 11 (.int (zI t.2.1))) q k = m q k := fun k x1 x2 => by (try dsimp only); rw [up_ne _ _ (Or.inr x2), up_ne _ _ (Or.inr x1)]
  have o1 : ∀ b, b ≠ q → (mm_up (mm_up m q 10 (.int (zI f))) q 11 (.int (zI t.2.1))) b = m b := fun b x => by (try dsimp only); rw [up_row _ _ _ x, up_row _ _ _ x]
  refine ⟨_, X12_wrong_eq hT h4 h2.2.2.2.1, ⟨(h1.up (by decide)).up (by decide), by (try dsimp only); rw [up_ne _ _ (by omega), up_at], up_at _ _ _ _, ⟨_, by (try dsimp only); rw [f1 _ (by omega) (by omega)]; exact h2.2.2.1⟩, by (try dsimp only); rw [f1 _ (by omega) (by omega)]; exact h6.1, by (try dsimp only); rw [f1 _ (by omega) (by omega)]; exact h6.2, fun c hc => ⟨_, by (try dsimp only); rw [o1 _ (by omega)]; exact h7.2.2.2.2.2.2.2.2.2.1 c hc⟩⟩, fmC.own o1 (fun k hk => f1 k (by omega) (by omega)), o1⟩
theorem rm_good {m : mm_V} (hT : modT e.1 q) (h : rmR m q n T t tp R) : X12_isGood e q m = some (zI 1, m) := X12_isGood_1 hT h.2.2.2.1
theorem rm_bad {m : mm_V} {f pl : Nat} (hT : modT e.1 q) (h : rmB m q f pl) (hf : 1 ≤ f ∧ f < 100) : X12_isGood e q m = some (zI 0, m) := X12_isGood_0 hT h.2.1 hf
/-- a number, or a fault -/
def nbO (q n : Nat) (T : Nat → Nat) (t : TK) (tp : Nat) (R : RD) (lo hi : Nat) (m : mm_V) (y : Int32 × mm_V) : Prop := fmC q m y.2 ∧ (∀ b, b ≠ q → y.2 b = m b) ∧ (nmF T t lo hi ≠ 0 → rmB y.2 q (nmF T t lo hi) t.2.1) ∧ (nmF T t lo hi = 0 → y.1 = zI (vaT T t) ∧ rmR y.2 q n T (tok T n t.2.2) tp R)
theorem rm_number {m : mm_V} {lo hi : Nat} (hT : modT e.1 q) (hN : 1000 < e.2.2) (hv : tkV T n t) (hh : lo ≤ 20000 ∧ hi ≤ 20000) (h : rmR m q n T t tp R) : Ev (X12_number e q (zI lo) (zI hi) m) (nbO q n T t tp R lo hi m) := by
  have h' := h
  obtain ⟨h1, h2, h3, h4, h5, h6, h7⟩ := h'
  have hn := h3.1
  have hv0 := hv.1
  have hv2 := hv.2.1
  have bad : ∀ f : Nat, 1 ≤ f ∧ f ≤ 2 → nmF T t lo hi = f → Ev ((X12_wrong e q (zI f) m).bind fun r1 => X12_number_b54 e q r1) (nbO q n T t tp R lo hi m) := by
    intro f hf hnf
    refine ev_call (rm_wrong (f := f) hT h) ?_
    rintro m1 ⟨B1, f1, o1⟩
    obtain ⟨v, hv18⟩ := B1.2.2.2.2.1
    unfold X12_number_b54 X12_number_b70
    simp only [LT, zI_neg]
    refine ev_gi hT.me hv18 (ev_eq (rm_bad hT B1 (by omega)) (ev_iqp (x := 0) rfl rfl (by omega) (ev_ret ⟨f1, o1, fun _ => ?_, fun hz => by omega⟩)))
    rw [hnf]; exact B1
  unfold X12_number X12_number_b49
  simp only [LT, zI_neg]
  refine ev_eq (rm_good hT h) (ev_inp (x := 1) (y := 0) rfl rfl (by omega) (ev_gi hT.me h2.2.2.1 ?_))
  have hv4 := hv.2.2.1
  by_cases hk : t.1 = 2
  · refine ev_iqp rfl rfl (by omega) (ev_gi hT.me h2.2.2.2.2.1 ?_)
    by_cases hl : 4 < t.2.2 - t.2.1
    · exact ev_ilp rfl rfl (by omega) (bad 2 (by omega) (by unfold nmF; rw [if_neg (by omega), if_pos (by omega)]))
    have hva := vaT_eq hv hk (by omega)
    have h18 := h2.2.2.2.2.2.1 hk
    rw [show min (t.2.2 - t.2.1) 4 = t.2.2 - t.2.1 by omega, hva.1] at h18
    refine ev_iln rfl rfl (by omega) (ev_gi hT.me h18 ?_)
    by_cases hlo : vaT T t < lo
    · exact ev_ilp rfl rfl (by omega) (bad 2 (by omega) (by unfold nmF; rw [if_neg (by omega), if_pos (by omega)]))
    refine ev_iln rfl rfl (by omega) (ev_gi hT.me h18 ?_)
    by_cases hhi : hi < vaT T t
    · exact ev_ien rfl rfl (by omega) (bad 2 (by omega) (by unfold nmF; rw [if_neg (by omega), if_pos (by omega)]))
    refine ev_iep rfl rfl (by omega) ?_
    have hz : nmF T t lo hi = 0 := by unfold nmF; rw [if_neg (by omega), if_neg (by omega)]
    unfold X12_number_b54 X12_number_b70
    simp only [LT, zI_neg]
    refine ev_gi hT.me h18 (ev_eq (rm_good hT h) (ev_iqn (x := 1) (y := 0) rfl rfl (by omega) (ev_call (rm_goes hT hN hv h) ?_)))
    rintro m1 ⟨C1, f1, o1⟩
    exact ev_ret ⟨f1, o1, fun hnz => absurd hz hnz, fun _ => ⟨rfl, C1⟩⟩
  · exact ev_iqn rfl rfl (by omega) (bad 1 (by omega) (by unfold nmF; rw [if_pos hk]))
/-- the end of a line -/
def edO (q n : Nat) (T : Nat → Nat) (t : TK) (tp : Nat) (R : RD) (m m' : mm_V) : Prop := fmC q m m' ∧ (enF T t ≠ 0 → rmB m' q (enF T t) t.2.1) ∧ (enF T t = 0 → rmR m' q n T (tok T n t.2.2) tp R)
theorem rm_end {m : mm_V} (hT : modT e.1 q) (hN : 1000 < e.2.2) (hv : tkV T n t) (h : rmR m q n T t tp R) : Ev (X12_line_b163 e q m) (edO q n T t tp R m) := by
  unfold X12_line_b163 X12_need X12_need_b24
  simp only [LT, zI_neg]
  have hb := tkC_bd h.2.2.1 hv
  refine ev_eq (X12_isSign_eq (c := 59) hT h.2.1 h.2.2.1 hv (by omega)) ?_
  dsimp only
  rw [rm_good hT h]
  dsimp only [Option.bind_some, Option.bind]
  rw [if_pos (show ¬ zI 1 = zI 0 by decide)]
  by_cases h59 : tkC T t = 59
  · rw [decide_eq_true (show tkC T t = ((59 : Nat) : Int) from h59)]
    rw [if_neg (show ¬ bZ true = zI 0 by decide)]
    have hz : enF T t = 0 := by unfold enF; rw [if_pos h59]
    obtain ⟨m1, e1, C1, f1, o1⟩ := rm_goes hT hN hv h
    rw [e1]
    exact ev_ret ⟨f1, fun hnz => absurd hz hnz, fun _ => C1⟩
  · rw [decide_eq_false (show ¬ tkC T t = ((59 : Nat) : Int) from h59)]
    rw [if_pos (show bZ false = zI 0 from rfl)]
    have hz : enF T t = 1 := by unfold enF; rw [if_neg h59]
    obtain ⟨m1, e1, B1, f1, o1⟩ := rm_wrong (f := 1) hT h
    have e1 : X12_wrong e q (zI 1) m = some m1 := e1
    rw [e1]
    exact ev_ret ⟨f1, fun _ => by (try dsimp only); rw [hz]; exact B1, fun hnz => by omega⟩
theorem rm_end_no {m : mm_V} {f pl : Nat} (hT : modT e.1 q) (h : rmB m q f pl) (hf : 1 ≤ f ∧ f < 100) : X12_line_b163 e q m = some m := by
  have h' := h
  obtain ⟨h1, h2, h3, ⟨v15, h15⟩, h18, ⟨v19, h19⟩, h11⟩ := h'
  have hs : ∃ b : Bool, X12_isSign e q (zI 59) m = some (bZ b, m) := by
    unfold X12_isSign X12_isSign_b20 X12_isSign_b21
    simp only [LT, zI_neg]
    rw [rd_gi hT.me h15, Option.bind_some]
    split
    · exact ⟨false, rfl⟩
    · rw [rd_gi hT.me h19, Option.bind_some]
      split
      · exact ⟨false, rfl⟩
      · exact ⟨true, rfl⟩
  obtain ⟨b, hs⟩ := hs
  unfold X12_line_b163 X12_need
  simp only [LT, zI_neg]
  rw [hs, Option.bind_some, rm_bad hT h hf, Option.bind_some, if_neg (show ¬ ¬ zI 0 = zI 0 from fun h => h rfl)]
  rfl
def phF (T : Nat → Nat) (w : Nat) (t : TK) (R : RD) : Nat := if nmF T t 0 9999 ≠ 0 then nmF T t 0 9999 else if R.1.1 ≤ vaT T t then 3 else if R.2.2.2.1 (6 * (w + 3) + vaT T t) = true then 5 else 0
theorem phF_le (T : Nat → Nat) (w : Nat) (t : TK) (R : RD) : phF T w t R ≤ 5 := by
  have := nmF_le T t 0 9999
  unfold phF
  (repeat' split) <;> omega
/-- who is told of, or a fault -/
def phO (q n : Nat) (T : Nat → Nat) (w : Nat) (t : TK) (tp : Nat) (R : RD) (m : mm_V) (y : Int32 × mm_V) : Prop := fmC q m y.2 ∧ (∀ b, b ≠ q → y.2 b = m b) ∧ (phF T w t R ≠ 0 → y.1 = zI 0 ∧ rmB y.2 q (phF T w t R) t.2.1) ∧ (phF T w t R = 0 → y.1 = zI (vaT T t) ∧ rmR y.2 q n T (tok T n t.2.2) tp (sPt (sTl (6 * (w + 3) + vaT T t) R)))
theorem rm_person {m : mm_V} {w : Nat} (hT : modT e.1 q) (hN : 1000 < e.2.2) (hw : w < 4) (hI : rdI R) (hv : tkV T n t) (h : rmR m q n T t tp R) : Ev (X12_personHere e q (zI w) m) (phO q n T w (tok T n t.2.2) tp R m) := by
  obtain ⟨hv1, hb1⟩ := tok_V T (b := t.2.2) hv.2.1
  have hN6 := hI.1
  unfold X12_personHere
  simp only [LT, zI_neg]
  refine ev_call (rm_goes hT hN hv h) ?_
  rintro m1 ⟨C1, f1, o1⟩
  generalize tok T n t.2.2 = t1 at hv1 C1
  have hn := C1.2.2.1.1
  have hv0 := hv1.1
  have hv2 := hv1.2.1
  have hv4 := hv1.2.2.1
  have k2 := C1.2.1
  have bad : ∀ f : Nat, 1 ≤ f ∧ f ≤ 5 → phF T w t1 R = f → Ev ((X12_wrong e q (zI f) m1).bind fun r1 => X12_personHere_b80 e q (zI w) r1) (phO q n T w t1 tp R m) := by
    intro f hf hnf
    refine ev_call (rm_wrong (f := f) hT C1) ?_
    rintro m2 ⟨B1, f2, o2⟩
    unfold X12_personHere_b80
    simp only [LT, zI_neg]
    refine ev_eq (rm_bad hT B1 (by omega)) (ev_inn (x := 0) rfl rfl (by omega) (ev_ret ⟨f1.trans f2, fun b hb => by (try dsimp only); rw [o2 b hb, o1 b hb], fun _ => ⟨rfl, ?_⟩, fun hz => by omega⟩))
    rw [hnf]; exact B1
  refine ev_gi hT.me k2.2.2.1 ?_
  by_cases hk : t1.1 = 2
  · refine ev_iqp rfl rfl (by omega) (ev_gi hT.me k2.2.2.2.2.1 ?_)
    by_cases hl : 4 < t1.2.2 - t1.2.1
    · have hnf : nmF T t1 0 9999 = 2 := by unfold nmF; rw [if_neg (by omega), if_pos (by omega)]
      exact ev_ien rfl rfl (by omega) (bad 2 (by omega) (by unfold phF; rw [hnf, if_pos (by omega)]))
    have hva := vaT_eq hv1 hk (by omega)
    have h18 := k2.2.2.2.2.2.1 hk
    rw [show min (t1.2.2 - t1.2.1) 4 = t1.2.2 - t1.2.1 by omega, hva.1] at h18
    have hnf : nmF T t1 0 9999 = 0 := by unfold nmF; rw [if_neg (by omega), if_neg (by omega)]
    obtain ⟨c1, c2, c3, c4, c5, c6, c7⟩ := id C1
    obtain ⟨a1, a2, a3, a4, a5, a6, a7, ⟨v, a9, a10⟩, a11, a12, a13, a14⟩ := id c7
    refine ev_iep rfl rfl (by omega) (ev_gi hT.me h18 (ev_gi hT.me a1 ?_))
    by_cases hp : R.1.1 ≤ vaT T t1
    · exact ev_iln rfl rfl (by omega) (bad 3 (by omega) (by unfold phF; rw [hnf, if_neg (by omega), if_pos hp]))
    have hp6 : vaT T t1 < 6 := by omega
    refine ev_ilp rfl rfl (by omega) (ev_gi hT.me a9 (ev_gi hT.me h18 ?_))
    have hz : (zI 6 * zI (w : Int) + zI (vaT T t1 : Int) : Int32) = zI ((6 * w + vaT T t1 : Nat) : Int) := by (try dsimp only); rw [zI_mul, zI_add]; congr 1
    rw [hz]
    have hbit := a10 w (vaT T t1) hw hp6
    cases htl : R.2.2.2.1 (6 * (w + 3) + vaT T t1) with
    | true =>
      rw [htl] at hbit
      rw [if_neg (fun hh => hh ((bit_get (by omega)).mpr hbit))]
      exact bad 5 (by omega) (by unfold phF; rw [hnf, if_neg (by omega), if_neg hp, if_pos htl])
    | false =>
      rw [htl] at hbit
      rw [if_pos (fun hh => by have := (bit_get (by omega)).mp hh; rw [hbit] at this; cases this)]
      have hz0 : phF T w t1 R = 0 := by unfold phF; rw [hnf, if_neg (by omega), if_neg hp, if_neg (by (try dsimp only); rw [htl]; simp)]
      unfold X12_personHere_b80
      simp only [LT, zI_neg]
      refine ev_eq (rm_good hT C1) (ev_inp (x := 1) (y := 0) rfl rfl (by omega) (ev_gi hT.me h18 (ev_gi hT.me a9 ?_)))
      rw [hz]
      refine ev_pf hT.me (ev_pz hT.me (Or.inr rfl) ?_)
      generalize hu : (v ||| ((zI 1 : Int32) <<< (zI ((6 * w + vaT T t1 : Nat) : Int) &&& zI 31))) = u
      generalize hm2 : mm_up (mm_up m1 q 30 (.int u)) q 28 (.int (zI 1)) = m2
      have o2 : ∀ b, b ≠ q → m2 b = m1 b := fun b hb => by (try dsimp only); rw [← hm2, up_row _ _ _ hb, up_row _ _ _ hb]
      have g2 : ∀ k, k ≠ 28 → k ≠ 30 → m2 q k = m1 q k := fun k x1 x2 => by (try dsimp only); rw [← hm2, up_ne _ _ (Or.inr x1), up_ne _ _ (Or.inr x2)]
      have g28 : m2 q 28 = .int (zI 1) := by (try dsimp only); rw [← hm2, up_at]
      have g30 : m2 q 30 = .int u := by (try dsimp only); rw [← hm2, up_ne _ _ (by omega), up_at]
      have S2 : modS m2 q := by (try dsimp only); rw [← hm2]; exact (c1.up (by decide)).up (by decide)
      have C2 : rmR m2 q n T t1 tp (sPt (sTl (6 * (w + 3) + vaT T t1) R)) := by
        refine ⟨S2, c2.keep (fun k x1 x2 => g2 k (by omega) (by omega)), c3.keep (o2 _ (by omega)), by (try dsimp only); rw [g2 _ (by omega) (by omega)]; exact c4, by (try dsimp only); rw [g2 _ (by omega) (by omega)]; exact c5, ⟨by (try dsimp only); rw [g2 _ (by omega) (by omega)]; exact c6.1, by (try dsimp only); rw [g2 _ (by omega) (by omega)]; exact c6.2⟩, by (try dsimp only); rw [g2 _ (by omega) (by omega)]; exact a1, by (try dsimp only); rw [g2 _ (by omega) (by omega)]; exact a2, by (try dsimp only); rw [g2 _ (by omega) (by omega)]; exact a3, by (try dsimp only); rw [g2 _ (by omega) (by omega)]; exact a4, g28, by (try dsimp only); rw [g2 _ (by omega) (by omega)]; exact a6, ?_, ⟨u, g30, fun w' p' hw' hp' => ?_⟩, fun p hp => (a11 p hp).same (o2 _ (by omega)), fun c hc => by (try dsimp only); rw [o2 _ (by omega)]; exact a12 c hc, fun i hi => by (try dsimp only); rw [o2 _ (by omega)]; exact a13 i hi, fun k hk => (a14 k hk).keep (o2 _ (by omega)) (o2 _ (by omega))⟩
        · obtain ⟨v', b1, b2⟩ := a7
          refine ⟨v', by (try dsimp only); rw [g2 _ (by omega) (by omega)]; exact b1, fun w' hw' => ?_⟩
          rw [b2 w' hw']
          show _ = setF R.2.2.2.1 (6 * (w + 3) + vaT T t1) true (6 * w')
          rw [setF_ne _ _ (by omega)]
        · rw [← hu, bit_set (by omega) (by omega), a10 w' p' hw' hp']
          show _ = setF R.2.2.2.1 (6 * (w + 3) + vaT T t1) true (6 * (w' + 3) + p')
          by_cases hj : 6 * w' + p' = 6 * w + vaT T t1
          · rw [decide_eq_true hj, Bool.or_true, show 6 * (w' + 3) + p' = 6 * (w + 3) + vaT T t1 by omega, setF_at]
          · rw [decide_eq_false hj, Bool.or_false, setF_ne _ _ (by omega)]
      refine ev_call (rm_goes hT hN hv1 C2) ?_
      rintro m3 ⟨C3, f3, o3⟩
      refine ev_ret ⟨(f1.trans (fmC.own o2 (fun k hk => g2 k (by omega) (by omega)))).trans f3, fun b hb => by (try dsimp only); rw [o3 b hb, o2 b hb, o1 b hb], fun hnz => absurd hz0 hnz, fun _ => ⟨rfl, C3⟩⟩
  · have hnf : nmF T t1 0 9999 = 1 := by unfold nmF; rw [if_pos hk]
    exact ev_iqn rfl rfl (by omega) (bad 1 (by omega) (by unfold phF; rw [hnf, if_pos (by omega)]))
def rdJ (R : RD) : Prop := ∀ p, p < 6 → R.2.2.2.1 (18 + p) = false → R.2.1 p = []
theorem rdJ.sTl {R : RD} {w : Nat} (h : rdJ R) : rdJ (sTl w R) := fun p hp ht => h p hp (by
  have ht : setF R.2.2.2.1 w true (18 + p) = false := ht
  by_cases hw : 18 + p = w
  · rw [← hw, setF_at] at ht; cases ht
  · rw [setF_ne _ _ hw] at ht; exact ht)
theorem rdJ.sCd {R : RD} {p c : Nat} (h : rdJ R) (ht : R.2.2.2.1 (18 + p) = true) : rdJ (sCd p c R) := fun p' hp' hf => by
  have hf : R.2.2.2.1 (18 + p') = false := hf
  show setF R.2.1 p (R.2.1 p ++ [c]) p' = []
  by_cases hpp : p' = p
  · rw [hpp, ht] at hf; cases hf
  · rw [setF_ne _ _ hpp]; exact h p' hp' hf
/-- a line of a number alone -/
def mlO (q n : Nat) (T : Nat → Nat) (t0 : TK) (m : mm_V) (X : LX) (m' : mm_V) : Prop := fmC q m m' ∧ X.1 ≤ 5 ∧ tkV T n X.2.1 ∧ (X.1 ≠ 0 → rmB m' q X.1 X.2.1.2.1) ∧ (X.1 = 0 → (rdI X.2.2 ∧ rdJ X.2.2) ∧ t0.2.2 ≤ X.2.1.2.1 ∧ tkC T X.2.1 = 59 ∧ ∃ tp' : Nat, 1 ≤ tp' ∧ tp' ≤ 2 * X.2.1.2.1 + 1 ∧ rmR m' q n T (tok T n X.2.1.2.2) tp' X.2.2)
theorem enF_59 {t : TK} (h : enF T t = 0) : tkC T t = 59 := by
  unfold enF at h
  by_cases h59 : tkC T t = 59
  · exact h59
  · rw [if_neg h59] at h; omega
theorem enF_le (T : Nat → Nat) (t : TK) : enF T t ≤ 1 := by unfold enF; split <;> omega
theorem rm_once {m : mm_V} {w : Nat} (hT : modT e.1 q) (hN : 1000 < e.2.2) (hw : w < 3) (hI : rdI R) (hJ : rdJ R) (hv : tkV T n t) (htp : 1 ≤ tp ∧ tp ≤ 2 * t.2.1 + 1) (h : rmR m q n T t tp R) : Ev (X12_line_b23 e q (zI (6 + w : Nat)) m) (mlO q n T t m (lnN T n w t R)) := by
  have hv0 := hv.1
  unfold X12_line_b23
  have bad : ∀ f : Nat, 1 ≤ f ∧ f ≤ 5 → ∀ m1, rmB m1 q f t.2.1 → fmC q m m1 → Ev ((X12_once_b44 e q (zI (6 + w : Nat)) m1).bind fun r1 => X12_line_b163 e q r1) (mlO q n T t m (f, t, R)) := by
    intro f hf m1 B1 f1
    unfold X12_once_b44
    simp only [LT, zI_neg]
    rw [rm_bad hT B1 (by omega), Option.bind_some, if_neg (show ¬ ¬ zI 0 = zI 0 from fun h => h rfl), Option.bind_some, rm_end_no hT B1 (by omega)]
    exact ev_ret ⟨f1, hf.2, hv, fun _ => B1, fun hz => absurd hz (by simp only; omega)⟩
  obtain ⟨c1, c2, c3, c4, c5, c6, c7⟩ := id h
  obtain ⟨a1, a2, a3, a4, a5, a6, ⟨v, a7, a8⟩, a9, a11, a12, a13, a14⟩ := id c7
  have hbit := a8 w hw
  have b27 : ((w ≠ 2 → R.2.2.2.2.1 = false)) → Ev ((X12_once_b27 e q (zI (6 + w : Nat)) m).bind fun r1 => X12_line_b163 e q r1) (mlO q n T t m (lnN T n w t R)) := by
    intro hpt
    unfold lnN
    rw [if_neg (fun h => by (try dsimp only); rw [hpt h.1] at h; exact absurd h.2 (by simp))]
    unfold X12_once_b27
    simp only [LT, zI_neg]
    rw [rd_gi hT.me a7, Option.bind_some]
    cases htl : R.2.2.2.1 (6 * w) with
    | true =>
      rw [htl] at hbit
      rw [if_neg (fun hh => hh ((bit_get (by omega)).mpr hbit)), if_pos (show true = true from rfl)]
      obtain ⟨m1, e1, B1, f1, o1⟩ := rm_wrong (f := 5) hT h
      have e1 : X12_wrong e q (zI 5) m = some m1 := e1
      rw [e1, Option.bind_some]
      exact bad 5 (by omega) m1 B1 f1
    | false =>
      rw [htl] at hbit
      rw [if_pos (fun hh => by have := (bit_get (by omega)).mp hh; rw [hbit] at this; cases this), if_neg (show ¬ (false = true) by simp)]
      unfold X12_once_b44 X12_once_b120
      simp only [LT, zI_neg]
      rw [rm_good hT h, Option.bind_some, if_pos (show ¬ zI 1 = zI 0 by decide), rd_gi hT.me a7, Option.bind_some, wr_pf hT.me, Option.bind_some]
      generalize hu : (v ||| ((zI 1 : Int32) <<< (zI ((6 + w : Nat) : Int) &&& zI 31))) = u
      have C1 : rmR (mm_up m q 24 (.int u)) q n T t tp (sTl (6 * w) R) := by
        have o2 : ∀ b, b ≠ q → (mm_up m q 24 (.int u)) b = m b := fun b hb => up_row _ _ _ hb
        have g2 : ∀ k, k ≠ 24 → (mm_up m q 24 (.int u)) q k = m q k := fun k x => up_ne _ _ (Or.inr x)
        refine ⟨c1.up (by decide), c2.keep (fun k x1 x2 => g2 k (by omega)), c3.keep (o2 _ (by omega)), by (try dsimp only); rw [g2 _ (by omega)]; exact c4, by (try dsimp only); rw [g2 _ (by omega)]; exact c5, ⟨by (try dsimp only); rw [g2 _ (by omega)]; exact c6.1, by (try dsimp only); rw [g2 _ (by omega)]; exact c6.2⟩, by (try dsimp only); rw [g2 _ (by omega)]; exact a1, by (try dsimp only); rw [g2 _ (by omega)]; exact a2, by (try dsimp only); rw [g2 _ (by omega)]; exact a3, by (try dsimp only); rw [g2 _ (by omega)]; exact a4, by (try dsimp only); rw [g2 _ (by omega)]; exact a5, by (try dsimp only); rw [g2 _ (by omega)]; exact a6, ⟨u, up_at _ _ _ _, fun w' hw' => ?_⟩, ?_, fun p hp => (a11 p hp).same (o2 _ (by omega)), fun c hc => by (try dsimp only); rw [o2 _ (by omega)]; exact a12 c hc, fun i hi => by (try dsimp only); rw [o2 _ (by omega)]; exact a13 i hi, fun k hk => (a14 k hk).keep (o2 _ (by omega)) (o2 _ (by omega))⟩
        · rw [← hu, bit_set (by omega) (by omega), a8 w' hw']
          show _ = setF R.2.2.2.1 (6 * w) true (6 * w')
          by_cases hj : 6 + w' = 6 + w
          · rw [decide_eq_true hj, Bool.or_true, show w' = w by omega, setF_at]
          · rw [decide_eq_false hj, Bool.or_false, setF_ne _ _ (by omega)]
        · obtain ⟨v', b1, b2⟩ := a9
          refine ⟨v', by (try dsimp only); rw [g2 _ (by omega)]; exact b1, fun w' p' hw' hp' => ?_⟩
          rw [b2 w' p' hw' hp']
          show _ = setF R.2.2.2.1 (6 * w) true (6 * (w' + 3) + p')
          rw [setF_ne _ _ (by omega)]
      have f1 : fmC q m (mm_up m q 24 (.int u)) := fmC.own (fun b hb => up_row _ _ _ hb) (fun k hk => up_ne _ _ (Or.inr (by omega)))
      generalize mm_up m q 24 (.int u) = m1 at C1 f1
      obtain ⟨m2, e2, C2, f2, o2⟩ := rm_goes hT hN hv C1
      obtain ⟨hv1, hb1⟩ := tok_V T (b := t.2.2) hv.2.1
      obtain ⟨hv2, hb2⟩ := tok_V T (b := (tok T n t.2.2).2.2) hv1.2.1
      have hv10 := hv1.1
      rw [e2, Option.bind_some]
      -- behind the number
      have fin : ∀ (fl : Nat) (lo hi : Nat), fl = 21 + w → lo = loN w → hi = hiN w → Ev (((X12_number e q (zI lo) (zI hi) m2).bind fun r5 => (mm_pf e.1 r5.2 12 75 q fl (.int r5.1)).bind fun m6 => some m6).bind fun r1 => X12_line_b163 e q r1) (mlO q n T t m (if nmF T (tok T n t.2.2) (loN w) (hiN w) ≠ 0 then (nmF T (tok T n t.2.2) (loN w) (hiN w), tok T n t.2.2, R) else (enF T (tok T n (tok T n t.2.2).2.2), tok T n (tok T n t.2.2).2.2, sNm w (vaT T (tok T n t.2.2)) (sTl (6 * w) R)))) := by
        intro fl lo hi hfl hlo hhi
        have hle := nmF_le T (tok T n t.2.2) (loN w) (hiN w)
        obtain ⟨y, e3, y1, y2, y3, y4⟩ := rm_number (lo := lo) (hi := hi) hT hN hv1 (by (try dsimp only); rw [hlo, hhi]; unfold loN hiN; constructor <;> ((repeat' split) <;> omega)) C2
        rw [e3, Option.bind_some, wr_pf hT.me, Option.bind_some, Option.bind_some]
        rw [hlo, hhi] at y3 y4
        have g6 : ∀ k, k ≠ fl → (mm_up y.2 q fl (.int y.1)) q k = y.2 q k := fun k x => up_ne _ _ (Or.inr x)
        have o6 : ∀ b, b ≠ q → (mm_up y.2 q fl (.int y.1)) b = y.2 b := fun b x => up_row _ _ _ x
        have at6 : (mm_up y.2 q fl (.int y.1)) q fl = .int y.1 := up_at _ _ _ _
        have f6 : fmC q m (mm_up y.2 q fl (.int y.1)) := (f1.trans (f2.trans y1)).trans (fmC.own o6 (fun k hk => g6 k (by omega)))
        have hmem : fl ∈ [0, 1, 2, 3, 4, 9, 10, 11, 13, 14, 15, 16, 17, 18, 19, 20, 21, 22, 23, 24, 25, 26, 27, 28, 29, 30, 41, 45, 46, 47, 48, 54, 66, 67, 71, 72] := by
          have : fl = 21 ∨ fl = 22 ∨ fl = 23 := by omega
          rcases this with h | h | h <;> (rw [h]; decide)
        by_cases hz : nmF T (tok T n t.2.2) (loN w) (hiN w) = 0
        · rw [if_neg (show ¬ (nmF T (tok T n t.2.2) (loN w) (hiN w) ≠ 0) from fun h => h hz)]
          obtain ⟨z1, C3⟩ := y4 hz
          have hz0 := nmF_0 hz
          have S6 : modS (mm_up y.2 q fl (.int y.1)) q := C3.1.up hmem
          generalize hm6 : mm_up y.2 q fl (.int y.1) = m6 at g6 o6 at6 f6 S6
          have C6 : rmR m6 q n T (tok T n (tok T n t.2.2).2.2) tp (sNm w (vaT T (tok T n t.2.2)) (sTl (6 * w) R)) := by
            obtain ⟨c1, c2, c3, c4, c5, c6, c7⟩ := C3
            obtain ⟨a1, a2, a3, a4, a5, a6, a7, a9, a11, a12, a13, a14⟩ := c7
            rw [z1] at at6
            refine ⟨S6, c2.keep (fun k x1 x2 => g6 k (by omega)), c3.keep (o6 _ (by omega)), by (try dsimp only); rw [g6 _ (by omega)]; exact c4, by (try dsimp only); rw [g6 _ (by omega)]; exact c5, ⟨by (try dsimp only); rw [g6 _ (by omega)]; exact c6.1, by (try dsimp only); rw [g6 _ (by omega)]; exact c6.2⟩, ?_, ?_, ?_, by (try dsimp only); rw [g6 _ (by omega)]; exact a4, by (try dsimp only); rw [g6 _ (by omega)]; exact a5, by (try dsimp only); rw [g6 _ (by omega)]; exact a6, by (try dsimp only); rw [g6 _ (by omega)]; exact a7, by (try dsimp only); rw [g6 _ (by omega)]; exact a9, fun p hp => (a11 p hp).same (o6 _ (by omega)), fun c hc => by (try dsimp only); rw [o6 _ (by omega)]; exact a12 c hc, fun i hi => by (try dsimp only); rw [o6 _ (by omega)]; exact a13 i hi, fun k hk => (a14 k hk).keep (o6 _ (by omega)) (o6 _ (by omega))⟩
            · show m6 q 21 = .int (zI ((if w = 0 then vaT T (tok T n t.2.2) else R.1.1 : Nat) : Int))
              by_cases hw0 : w = 0
              · rw [if_pos hw0, show 21 = fl by omega]; exact at6
              · rw [if_neg hw0, g6 _ (by omega)]; exact a1
            · show m6 q 22 = .int (zI ((if w = 1 then vaT T (tok T n t.2.2) else R.1.2.1 : Nat) : Int))
              by_cases hw0 : w = 1
              · rw [if_pos hw0, show 22 = fl by omega]; exact at6
              · rw [if_neg hw0, g6 _ (by omega)]; exact a2
            · show m6 q 23 = .int (zI ((if w = 2 then vaT T (tok T n t.2.2) else R.1.2.2.1 : Nat) : Int))
              by_cases hw0 : w = 2
              · rw [if_pos hw0, show 23 = fl by omega]; exact at6
              · rw [if_neg hw0, g6 _ (by omega)]; exact a3
          refine ev_mono (rm_end hT hN hv2 C6) ?_
          rintro m7 ⟨w1, w2, w3⟩
          refine ⟨f6.trans w1, by simp only; have := enF_le T (tok T n (tok T n t.2.2).2.2); omega, hv2, w2, fun hz2 => ⟨⟨(hI.sTl).sNm hw hpt ⟨hz0.2.2.1, hz0.2.2.2⟩, hJ.sTl⟩, by simp only; omega, enF_59 hz2, tp, htp.1, by simp only; omega, w3 hz2⟩⟩
        · rw [if_pos (show nmF T (tok T n t.2.2) (loN w) (hiN w) ≠ 0 from hz)]
          have B3 := y3 hz
          have B6 : rmB (mm_up y.2 q fl (.int y.1)) q (nmF T (tok T n t.2.2) (loN w) (hiN w)) (tok T n t.2.2).2.1 := by
            obtain ⟨b1, b2, b3, b4, b5, b6, b7⟩ := B3
            exact ⟨b1.up hmem, by (try dsimp only); rw [g6 _ (by omega)]; exact b2, by (try dsimp only); rw [g6 _ (by omega)]; exact b3, by (try dsimp only); rw [g6 _ (by omega)]; exact b4, by (try dsimp only); rw [g6 _ (by omega)]; exact b5, by (try dsimp only); rw [g6 _ (by omega)]; exact b6, fun c hc => by (try dsimp only); rw [o6 _ (by omega)]; exact b7 c hc⟩
          rw [rm_end_no hT B6 (by omega)]
          exact ev_ret ⟨f6, by simp only; omega, hv1, fun _ => B6, fun hz2 => absurd hz2 hz⟩
      have hw3 : w = 0 ∨ w = 1 ∨ w = 2 := by omega
      rcases hw3 with rfl | rfl | rfl
      · rw [inn (by omega)]
        exact fin 21 2 6 rfl rfl rfl
      · rw [inp (by omega), inn (by omega)]
        exact fin 22 1 9 rfl rfl rfl
      · rw [inp (by omega), inp (by omega)]
        exact fin 23 0 9999 rfl rfl rfl
  have b12 : w ≠ 2 → Ev ((X12_once_b12 e q (zI (6 + w : Nat)) m).bind fun r1 => X12_line_b163 e q r1) (mlO q n T t m (lnN T n w t R)) := by
    intro hw2
    unfold X12_once_b12
    simp only [LT, zI_neg]
    rw [rd_gi hT.me a5, Option.bind_some]
    cases hpt : R.2.2.2.2.1 with
    | false =>
      rw [if_pos (show bZ false = zI 0 from rfl)]
      exact b27 (fun _ => hpt)
    | true =>
      rw [if_neg (show ¬ bZ true = zI 0 by decide)]
      unfold lnN
      rw [if_pos ⟨hw2, hpt⟩]
      obtain ⟨m1, e1, B1, f1, o1⟩ := rm_wrong (f := 2) hT h
      have e1 : X12_wrong e q (zI 2) m = some m1 := e1
      rw [e1, Option.bind_some]
      exact bad 2 (by omega) m1 B1 f1
  unfold X12_once
  simp only [LT, zI_neg]
  have hw3 : w = 0 ∨ w = 1 ∨ w = 2 := by omega
  rcases hw3 with rfl | rfl | rfl
  · rw [iqp (by omega)]
    exact b12 (by omega)
  · rw [iqn (by omega), inn (by omega)]
    exact b12 (by omega)
  · rw [iqn (by omega), inp (by omega)]
    exact b27 (fun h => absurd rfl h)
end RDM
