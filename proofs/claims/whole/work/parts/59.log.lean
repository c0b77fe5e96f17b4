/-! THE LOG of the class: 60 draws that go round. A record is a function of its nine fields. -/
abbrev QR : Type := Nat → Int32
def logT (g : mm_T) (l : Nat) : Prop := g l = some (5, 4) ∧ g (l + 1) = some (24, 60) ∧ ∀ i, i < 61 → g (l + 2 + i) = some (2, 9)
def logS (m : mm_V) (l : Nat) : Prop := m l 0 = .ref (l + 1) ∧ m l 1 = .ref (l + 2) ∧ ∀ i, i < 60 → m (l + 1) i = .ref (l + 3 + i)
def recR (m : mm_V) (d : Nat) (v : QR) : Prop := (∀ j, j < 9 → m d j = .int (v j)) ∧ (v 4 = 0 ∨ v 4 = 1) ∧ (v 6 = 0 ∨ v 6 = 1)
def logR (m : mm_V) (l : Nat) (H : List QR) : Prop := logS m l ∧ (∀ i, i < 60 → ∃ v, recR m (l + 3 + i) v) ∧ H.length ≤ 60 ∧ m l 3 = .int (zI H.length) ∧ ∃ s : Nat, s < 60 ∧ m l 2 = .int (zI s) ∧ ∀ (i : Nat) (v : QR), H[i]? = some v → recR m (l + 3 + (s + i) % 60) v
section LOG
variable {e : mm_E} {m : mm_V} {l : Nat} {H : List QR}
theorem X5_at_of (ht : logT e.1 l) (h : logS m l) {s i : Nat} (hs : s < 60) (hi : i < 60) (h2 : m l 2 = .int (zI s)) : X5_at e l (zI i) m = some (l + 3 + (s + i) % 60, m) := by
  unfold X5_at X5_at_b21 X5_at_b45
  simp only [LT]
  rw [rd_gi ht.1 h2, Option.bind_some, zI_add]
  by_cases hc : s + i < 60
  · rw [ilp (by omega), iln (by omega), ien (by omega), rd_gr ht.1 h.1, Option.bind_some, rd_aq ht.2.1 (i := s + i) (by omega) (by omega) (by omega) (h.2.2 _ (by omega)), Nat.mod_eq_of_lt hc]
    rfl
  · rw [iln (by omega), zI_sub, iln (by omega), ien (by omega), rd_gr ht.1 h.1, Option.bind_some, rd_aq ht.2.1 (i := s + i - 60) (by omega) (by omega) (by omega) (h.2.2 _ (by omega)), show (s + i) % 60 = s + i - 60 by omega]
    rfl
theorem X5_at_eq (ht : logT e.1 l) (h : logR m l H) {i : Nat} {v : QR} (hv : H[i]? = some v) : ∃ d, X5_at e l (zI i) m = some (d, m) ∧ recR m d v ∧ e.1 d = some (2, 9) ∧ l + 3 ≤ d ∧ d < l + 63 := by
  obtain ⟨h1, h2, h3, h4, s, h5, h6, h7⟩ := h
  have hi := (List.getElem?_eq_some_iff.mp hv).1
  refine ⟨_, X5_at_of ht h1 h5 (by omega) h6, h7 i v hv, ?_, by omega, by omega⟩
  have := ht.2.2 ((s + i) % 60 + 1) (by omega)
  rw [show l + 2 + ((s + i) % 60 + 1) = l + 3 + (s + i) % 60 by omega] at this
  exact this
/-- a place for the next record; once it is written the history has it -/
theorem X5_fresh_eq (ht : logT e.1 l) (h : logR m l H) : ∃ d m', X5_fresh e l m = some (d, m') ∧ e.1 d = some (2, 9) ∧ l + 3 ≤ d ∧ d < l + 63 ∧ (∀ b, b ≠ l → m' b = m b) ∧ ∀ (m2 : mm_V) (v : QR), (∀ b, l ≤ b → b < l + 63 → b ≠ d → m2 b = m' b) → recR m2 d v → logR m2 l ((if H.length < 60 then H else H.drop 1) ++ [v]) := by
  obtain ⟨h1, h2, h3, h4, s, h5, h6, h7⟩ := h
  have tg : ∀ i, i < 60 → e.1 (l + 3 + i) = some (2, 9) := fun i hi => by
    have := ht.2.2 (i + 1) (by omega)
    rw [show l + 2 + (i + 1) = l + 3 + i by omega] at this
    exact this
  unfold X5_fresh
  simp only [LT]
  rw [rd_gi ht.1 h4, Option.bind_some]
  by_cases hc : H.length < 60
  · rw [ien (by omega), Option.bind_some, wr_pf ht.1, Option.bind_some, if_pos hc]
    have S1 : logS (mm_up m l 3 (.int (zI (H.length : Int) + zI 1))) l := ⟨by rw [up_ne _ _ (Or.inr (by omega))]; exact h1.1, by rw [up_ne _ _ (Or.inr (by omega))]; exact h1.2.1, fun i hi => by rw [up_ne _ _ (Or.inl (by omega))]; exact h1.2.2 i hi⟩
    refine ⟨l + 3 + (s + H.length) % 60, mm_up m l 3 (.int (zI (H.length : Int) + zI 1)), ?_, tg _ (by omega), by omega, by omega, fun b hb => up_row _ _ _ hb, ?_⟩
    · unfold X5_fresh_b47
      simp only [LT]
      rw [rd_gi ht.1 (up_at _ _ _ _), Option.bind_some, zI_add, zI_sub, show (H.length : Int) + 1 - 1 = ((H.length : Nat) : Int) by omega, ← zI_add, X5_at_of ht S1 h5 hc (by rw [up_ne _ _ (Or.inr (by omega))]; exact h6)]
      rfl
    · intro m2 v hk hr
      have L2 : ∀ j, m2 l j = mm_up m l 3 (.int (zI (H.length : Int) + zI 1)) l j := fun j => by rw [hk l (by omega) (by omega) (by omega)]
      have O2 : ∀ b, l < b → b < l + 63 → b ≠ l + 3 + (s + H.length) % 60 → m2 b = m b := fun b y1 y2 y3 => by rw [hk b (by omega) y2 y3, up_row _ _ _ (by omega)]
      refine ⟨⟨by rw [L2, up_ne _ _ (Or.inr (by omega))]; exact h1.1, by rw [L2, up_ne _ _ (Or.inr (by omega))]; exact h1.2.1, fun i hi => by rw [O2 _ (by omega) (by omega) (by omega)]; exact h1.2.2 i hi⟩, fun i hi => ?_, by simp; omega, by rw [L2, up_at, zI_add]; simp, s, h5, by rw [L2, up_ne _ _ (Or.inr (by omega))]; exact h6, fun i w hw => ?_⟩
      · by_cases hd : i = (s + H.length) % 60
        · subst hd; exact ⟨v, hr⟩
        · obtain ⟨w, hw⟩ := h2 i hi
          exact ⟨w, by unfold recR; rw [O2 _ (by omega) (by omega) (by omega)]; exact hw⟩
      · by_cases hi : i < H.length
        · rw [List.getElem?_append_left hi] at hw
          unfold recR
          rw [O2 _ (by omega) (by omega) (by omega)]
          exact h7 i w hw
        · have hi2 := (List.getElem?_eq_some_iff.mp hw).1
          simp at hi2
          have : i = H.length := by omega
          subst this
          simp at hw
          subst hw
          exact hr
  · have h60 : H.length = 60 := by omega
    rw [iep (by omega), rd_gi ht.1 h6, Option.bind_some, if_neg hc, Option.bind_some, zI_add]
    have key : ∀ s' : Nat, s' = (s + 1) % 60 → ∃ d m', X5_fresh_b44 e l l (zI s') m = some (d, m') ∧ e.1 d = some (2, 9) ∧ l + 3 ≤ d ∧ d < l + 63 ∧ (∀ b, b ≠ l → m' b = m b) ∧ ∀ (m2 : mm_V) (v : QR), (∀ b, l ≤ b → b < l + 63 → b ≠ d → m2 b = m' b) → recR m2 d v → logR m2 l (H.drop 1 ++ [v]) := by
      intro s' hs'
      have S1 : logS (mm_up m l 2 (.int (zI s'))) l := ⟨by rw [up_ne _ _ (Or.inr (by omega))]; exact h1.1, by rw [up_ne _ _ (Or.inr (by omega))]; exact h1.2.1, fun i hi => by rw [up_ne _ _ (Or.inl (by omega))]; exact h1.2.2 i hi⟩
      refine ⟨l + 3 + (s' + 59) % 60, mm_up m l 2 (.int (zI s')), ?_, tg _ (by omega), by omega, by omega, fun b hb => up_row _ _ _ hb, ?_⟩
      · unfold X5_fresh_b44 X5_fresh_b47
        simp only [LT]
        rw [wr_pf ht.1, Option.bind_some, rd_gi ht.1 (v := zI (H.length : Int)) (by rw [up_ne _ _ (Or.inr (by omega))]; exact h4), Option.bind_some, zI_sub, show (H.length : Int) - 1 = ((59 : Nat) : Int) by omega, X5_at_of ht S1 (by omega) (by omega) (up_at _ _ _ _)]
        rfl
      · intro m2 v hk hr
        have hds : (s' + 59) % 60 = s := by omega
        rw [hds] at hk hr
        have L2 : ∀ j, m2 l j = mm_up m l 2 (.int (zI s')) l j := fun j => by rw [hk l (by omega) (by omega) (by omega)]
        have O2 : ∀ b, l < b → b < l + 63 → b ≠ l + 3 + s → m2 b = m b := fun b y1 y2 y3 => by rw [hk b (by omega) y2 y3, up_row _ _ _ (by omega)]
        refine ⟨⟨by rw [L2, up_ne _ _ (Or.inr (by omega))]; exact h1.1, by rw [L2, up_ne _ _ (Or.inr (by omega))]; exact h1.2.1, fun i hi => by rw [O2 _ (by omega) (by omega) (by omega)]; exact h1.2.2 i hi⟩, fun i hi => ?_, by simp; omega, by rw [L2, up_ne _ _ (Or.inr (by omega)), h4]; simp; congr 1; omega, s', by omega, by rw [L2, up_at], fun i w hw => ?_⟩
        · by_cases hd : i = s
          · subst hd; exact ⟨v, hr⟩
          · obtain ⟨w, hw⟩ := h2 i hi
            exact ⟨w, by unfold recR; rw [O2 _ (by omega) (by omega) (by omega)]; exact hw⟩
        · by_cases hi : i < 59
          · rw [List.getElem?_append_left (by simp; omega), List.getElem?_drop] at hw
            have := h7 (1 + i) w hw
            rw [show (s + (1 + i)) % 60 = (s' + i) % 60 by omega] at this
            unfold recR
            rw [O2 _ (by omega) (by omega) (by omega)]
            exact this
          · have hi2 := (List.getElem?_eq_some_iff.mp hw).1
            simp at hi2
            have : i = (H.drop 1).length := by simp; omega
            rw [this, List.getElem?_append_right (by omega)] at hw
            simp at hw
            subst hw
            rw [show (s' + i) % 60 = s by omega]
            exact hr
    by_cases hs1 : s + 1 < 60
    · rw [ien (by omega)]
      exact key (s + 1) (by omega)
    · rw [iep (by omega)]
      exact key 0 (by omega)
end LOG
section LOG2
variable {e : mm_E} {m : mm_V} {l : Nat} {H : List QR}
theorem X5_dropLast_eq (ht : logT e.1 l) (h : logR m l H) : ∃ m', X5_dropLast e l m = some m' ∧ logR m' l H.dropLast ∧ ∀ b, b ≠ l → m' b = m b := by
  obtain ⟨h1, h2, h3, h4, s, h5, h6, h7⟩ := h
  have hl : H.dropLast.length = H.length - 1 := List.length_dropLast
  refine ⟨mm_up m l 3 (.int (zI (H.length - 1 : Nat))), ?_, ⟨⟨by rw [up_ne _ _ (Or.inr (by omega))]; exact h1.1, by rw [up_ne _ _ (Or.inr (by omega))]; exact h1.2.1, fun i hi => by rw [up_ne _ _ (Or.inl (by omega))]; exact h1.2.2 i hi⟩, fun i hi => ?_, by omega, by rw [up_at, hl], s, h5, by rw [up_ne _ _ (Or.inr (by omega))]; exact h6, fun i v hv => ?_⟩, fun b hb => up_row _ _ _ hb⟩
  · unfold X5_dropLast X5_dropLast_b18
    simp only [LT]
    rw [rd_gi ht.1 h4, Option.bind_some]
    by_cases hc : H.length = 0
    · rw [iep (by omega), wr_pf ht.1, hc]; rfl
    · rw [ien (by omega), Option.bind_some, wr_pf ht.1, zI_sub, show (H.length : Int) - 1 = ((H.length - 1 : Nat) : Int) by omega]; rfl
  · obtain ⟨w, hw⟩ := h2 i hi
    exact ⟨w, by unfold recR; rw [up_row _ _ _ (by omega)]; exact hw⟩
  · have hi := (List.getElem?_eq_some_iff.mp hv).1
    unfold recR
    rw [up_row _ _ _ (by omega)]
    rw [List.getElem?_dropLast, if_pos (by omega)] at hv
    exact h7 i v hv
theorem X5_clear_eq (ht : logT e.1 l) (h : logR m l H) : ∃ m', X5_clear e l m = some m' ∧ logR m' l [] ∧ ∀ b, b ≠ l → m' b = m b := by
  obtain ⟨h1, h2, h3, h4, s, h5, h6, h7⟩ := h
  refine ⟨mm_up (mm_up m l 2 (.int (zI 0))) l 3 (.int (zI 0)), ?_, ⟨⟨by rw [up_ne _ _ (Or.inr (by omega)), up_ne _ _ (Or.inr (by omega))]; exact h1.1, by rw [up_ne _ _ (Or.inr (by omega)), up_ne _ _ (Or.inr (by omega))]; exact h1.2.1, fun i hi => by rw [up_ne _ _ (Or.inl (by omega)), up_ne _ _ (Or.inl (by omega))]; exact h1.2.2 i hi⟩, fun i hi => ?_, by simp, by rw [up_at]; rfl, 0, by omega, by rw [up_ne _ _ (Or.inr (by omega)), up_at]; rfl, fun i v hv => by simp at hv⟩, fun b hb => by rw [up_row _ _ _ hb, up_row _ _ _ hb]⟩
  · unfold X5_clear
    simp only [LT]
    rw [wr_pf ht.1, Option.bind_some, wr_pf ht.1]; rfl
  · obtain ⟨w, hw⟩ := h2 i hi
    exact ⟨w, by unfold recR; rw [up_row _ _ _ (by omega), up_row _ _ _ (by omega)]; exact hw⟩
end LOG2
section LOG3
variable {e : mm_E} {m : mm_V} {c d : Nat} {v : QR}
theorem X2_copyFrom_eq (hc : e.1 c = some (2, 9)) (hd : e.1 d = some (2, 9)) (hcd : c ≠ d) (h : recR m d v) : ∃ m', X2_copyFrom e c d m = some m' ∧ recR m' c v ∧ ∀ b, b ≠ c → m' b = m b := by
  have off : ∀ (m1 : mm_V) (k : Nat) (w : Value), (∀ b, b ≠ c → m1 b = m b) → ∀ b, b ≠ c → mm_up m1 c k w b = m b := fun m1 k w h1 b hb => by rw [up_row _ _ _ hb]; exact h1 b hb
  have rd : ∀ (m1 : mm_V) (j : Nat), (∀ b, b ≠ c → m1 b = m b) → j < 9 → mm_gi e.1 m1 2 9 d j = some (v j) := fun m1 j h1 hj => rd_gi hd (by rw [h1 _ (Ne.symm hcd)]; exact h.1 j hj)
  have o0 : ∀ b, b ≠ c → m b = m b := fun _ _ => rfl
  generalize hm1 : mm_up m c 0 (.int (v 0)) = m1
  have o1 : ∀ b, b ≠ c → m1 b = m b := by rw [← hm1]; exact off m _ _ o0
  generalize hm2 : mm_up m1 c 1 (.int (v 1)) = m2
  have o2 : ∀ b, b ≠ c → m2 b = m b := by rw [← hm2]; exact off m1 _ _ o1
  generalize hm3 : mm_up m2 c 2 (.int (v 2)) = m3
  have o3 : ∀ b, b ≠ c → m3 b = m b := by rw [← hm3]; exact off m2 _ _ o2
  generalize hm4 : mm_up m3 c 3 (.int (v 3)) = m4
  have o4 : ∀ b, b ≠ c → m4 b = m b := by rw [← hm4]; exact off m3 _ _ o3
  generalize hm5 : mm_up m4 c 4 (.int (v 4)) = m5
  have o5 : ∀ b, b ≠ c → m5 b = m b := by rw [← hm5]; exact off m4 _ _ o4
  generalize hm6 : mm_up m5 c 5 (.int (v 5)) = m6
  have o6 : ∀ b, b ≠ c → m6 b = m b := by rw [← hm6]; exact off m5 _ _ o5
  generalize hm7 : mm_up m6 c 6 (.int (v 6)) = m7
  have o7 : ∀ b, b ≠ c → m7 b = m b := by rw [← hm7]; exact off m6 _ _ o6
  generalize hm8 : mm_up m7 c 7 (.int (v 7)) = m8
  have o8 : ∀ b, b ≠ c → m8 b = m b := by rw [← hm8]; exact off m7 _ _ o7
  refine ⟨mm_up m8 c 8 (.int (v 8)), ?_, ⟨fun j hj => ?_, h.2⟩, off m8 _ _ o8⟩
  · unfold X2_copyFrom
    rw [rd m 0 o0 (by omega), Option.bind_some, wr_pf hc, Option.bind_some, hm1, rd m1 1 o1 (by omega), Option.bind_some, wr_pf hc, Option.bind_some, hm2, rd m2 2 o2 (by omega), Option.bind_some, wr_pf hc, Option.bind_some, hm3, rd m3 3 o3 (by omega), Option.bind_some, wr_pf hc, Option.bind_some, hm4, rd m4 4 o4 (by omega), Option.bind_some, wr_pz hc h.2.1, Option.bind_some, hm5, rd m5 5 o5 (by omega), Option.bind_some, wr_pf hc, Option.bind_some, hm6, rd m6 6 o6 (by omega), Option.bind_some, wr_pz hc h.2.2, Option.bind_some, hm7, rd m7 7 o7 (by omega), Option.bind_some, wr_pf hc, Option.bind_some, hm8, rd m8 8 o8 (by omega), Option.bind_some, wr_pf hc, Option.bind_some]
  · rw [← hm8, ← hm7, ← hm6, ← hm5, ← hm4, ← hm3, ← hm2, ← hm1]
    have hcj : j = 0 ∨ j = 1 ∨ j = 2 ∨ j = 3 ∨ j = 4 ∨ j = 5 ∨ j = 6 ∨ j = 7 ∨ j = 8 := by omega
    rcases hcj with rfl | rfl | rfl | rfl | rfl | rfl | rfl | rfl | rfl <;> simp [mm_up]
end LOG3
section LOG4
variable {e : mm_E} {c d : Nat} {H : List QR}
theorem X5_copyFrom_loop {m0 : mm_V} (hc : logT e.1 c) (hd : logT e.1 d) (hcd : c + 63 ≤ d ∨ d + 63 ≤ c) (hR : logR m0 d H) : ∀ (j i n : Nat) (m : mm_V), i + j = 60 → j < n → logS m c → (∀ b, b < c ∨ c + 63 ≤ b → m b = m0 b) → (∀ k, k < i → ∀ v, recR m0 (d + 3 + k) v → recR m (c + 3 + k) v) → ∃ m', X5_copyFrom_L2 e c d n (zI i) m = some m' ∧ logR m' c H ∧ ∀ b, b < c ∨ c + 63 ≤ b → m' b = m0 b := by
  obtain ⟨h1, h2, h3, h4, s, h5, h6, h7⟩ := hR
  have tg : ∀ (l : Nat), logT e.1 l → ∀ i, i < 60 → e.1 (l + 3 + i) = some (2, 9) := fun l ht i hi => by
    have := ht.2.2 (i + 1) (by omega)
    rw [show l + 2 + (i + 1) = l + 3 + i by omega] at this
    exact this
  intro j
  induction j with
  | zero =>
    intro i n m hi hn hS hk q1
    obtain ⟨n, rfl⟩ : ∃ n', n = n' + 1 := ⟨n - 1, by omega⟩
    generalize hm1 : mm_up m c 2 (.int (zI s)) = m1
    have d1 : m1 d 3 = .int (zI H.length) := by rw [← hm1, up_ne _ _ (Or.inl (by omega)), hk d (by omega)]; exact h4
    have o : ∀ b, b ≠ c → mm_up m1 c 3 (.int (zI H.length)) b = m b := fun b hb => by rw [up_row _ _ _ hb, ← hm1, up_row _ _ _ hb]
    refine ⟨mm_up m1 c 3 (.int (zI H.length)), ?_, ⟨⟨by rw [up_ne _ _ (Or.inr (by omega)), ← hm1, up_ne _ _ (Or.inr (by omega))]; exact hS.1, by rw [up_ne _ _ (Or.inr (by omega)), ← hm1, up_ne _ _ (Or.inr (by omega))]; exact hS.2.1, fun i hi => by rw [o _ (by omega)]; exact hS.2.2 i hi⟩, fun k hk60 => ?_, h3, up_at _ _ _ _, s, h5, by rw [up_ne _ _ (Or.inr (by omega)), ← hm1, up_at], fun k v hv => ?_⟩, fun b hb => by rw [o b (by omega)]; exact hk b hb⟩
    · unfold X5_copyFrom_L2
      simp only [LT]
      rw [iep (by omega), rd_gi hd.1 (v := zI s) (by rw [hk d (by omega)]; exact h6), Option.bind_some, wr_pf hc.1, Option.bind_some, hm1, rd_gi hd.1 d1, Option.bind_some, wr_pf hc.1]
      rfl
    · obtain ⟨v, hv⟩ := h2 k hk60
      exact ⟨v, by have := q1 k (by omega) v hv; unfold recR; rw [o _ (by omega)]; exact this⟩
    · have := q1 ((s + k) % 60) (by omega) v (h7 k v hv)
      unfold recR; rw [o _ (by omega)]; exact this
  | succ j ih =>
    intro i n m hi hn hS hk q1
    obtain ⟨n, rfl⟩ : ∃ n', n = n' + 1 := ⟨n - 1, by omega⟩
    obtain ⟨v, hv⟩ := h2 i (by omega)
    have hv' : recR m (d + 3 + i) v := by unfold recR; rw [hk _ (by omega)]; exact hv
    obtain ⟨m1, a1, a2, a3⟩ := X2_copyFrom_eq (e := e) (tg c hc i (by omega)) (tg d hd i (by omega)) (by omega) hv'
    obtain ⟨m', e1, e2, e3⟩ := ih (i + 1) n m1 (by omega) (by omega) ⟨by rw [a3 _ (by omega)]; exact hS.1, by rw [a3 _ (by omega)]; exact hS.2.1, fun i hi => by rw [a3 _ (by omega)]; exact hS.2.2 i hi⟩ (fun b hb => by rw [a3 _ (by omega)]; exact hk b hb)
      (fun k hk' w hw => by
        by_cases hki : k = i
        · subst hki
          refine ⟨fun j hj => ?_, hw.2⟩
          rw [a2.1 j hj]
          have x1 := hv.1 j hj
          have x2 := hw.1 j hj
          rw [x1] at x2
          exact x2
        · have := q1 k (by omega) w hw
          unfold recR; rw [a3 _ (by omega)]; exact this)
    refine ⟨m', ?_, e2, e3⟩
    unfold X5_copyFrom_L2
    simp only [LT]
    rw [ien (by omega), rd_gr hc.1 hS.1, Option.bind_some, rd_aq hc.2.1 (i := i) rfl (by omega) (by omega) (hS.2.2 i (by omega)), Option.bind_some, rd_gr hd.1 (v := d + 1) (by rw [hk d (by omega)]; exact h1.1), Option.bind_some, rd_aq hd.2.1 (i := i) (v := d + 3 + i) rfl (by omega) (by omega) (by rw [hk _ (by omega)]; exact h1.2.2 i (by omega)), Option.bind_some, if_pos (tg c hc i (by omega)), a1, Option.bind_some, zI_add]
    exact e1
theorem X5_copyFrom_eq {m : mm_V} {H0 : List QR} (hc : logT e.1 c) (hd : logT e.1 d) (hcd : c + 63 ≤ d ∨ d + 63 ≤ c) (h0 : logR m c H0) (hR : logR m d H) (hN : 100 < e.2.2) : ∃ m', X5_copyFrom e c d m = some m' ∧ logR m' c H ∧ ∀ b, b < c ∨ c + 63 ≤ b → m' b = m b :=
  X5_copyFrom_loop hc hd hcd hR 60 0 e.2.2 m (by omega) (by omega) h0.1 (fun _ _ => rfl) (fun k hk => absurd hk (by omega))
end LOG4
