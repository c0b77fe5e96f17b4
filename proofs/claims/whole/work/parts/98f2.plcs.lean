/-! THE PLACE OF A FAULT stays while there is none (written by genp.py). -/
def plcK (g : mm_T) (m m' : mm_V) : Prop := ∀ a n, g a = some (12, n) → m' a 10 = .int (zI 0) → m a 10 = .int (zI 0) ∧ m' a 11 = m a 11
theorem pR (g : mm_T) (m : mm_V) : plcK g m m := fun _ _ _ h => ⟨h, rfl⟩
theorem pT {g : mm_T} {m1 m2 m3 : mm_V} (h1 : plcK g m1 m2) (h2 : plcK g m2 m3) : plcK g m1 m3 := fun a n ha h => by
  obtain ⟨x1, x2⟩ := h2 a n ha h
  obtain ⟨y1, y2⟩ := h1 a n ha x1
  exact ⟨y1, x2.trans y2⟩
theorem pK_up {g : mm_T} {m : mm_V} {a k : Nat} {v : Value} (h1 : k ≠ 10) (h2 : k ≠ 11) : plcK g m (mm_up m a k v) := fun b n _ h => by
  rw [up_ne _ _ (Or.inr (fun hh => h1 hh.symm))] at h
  exact ⟨h, up_ne _ _ (Or.inr (fun hh => h2 hh.symm))⟩
theorem pK_ne {g : mm_T} {m : mm_V} {a k t n : Nat} {v : Value} (ha : g a = some (t, n)) (ht : t ≠ 12) : plcK g m (mm_up m a k v) := fun b n' hb h => by
  have hne : b ≠ a := fun hh => by rw [hh, ha] at hb; cases hb; exact ht rfl
  rw [up_ne _ _ (Or.inl hne)] at h
  exact ⟨h, up_ne _ _ (Or.inl hne)⟩
theorem pK_pf {g : mm_T} {m m' : mm_V} {t n a k : Nat} {v : Value} (h1 : k ≠ 10) (h2 : k ≠ 11) (h : mm_pf g m t n a k v = some m') : plcK g m m' := by
  unfold mm_pf at h
  rcases iteS h with ⟨hc, h⟩ | ⟨hc, h⟩
  · cases h; exact pK_up h1 h2
  · cases h
theorem pK_pz {g : mm_T} {m m' : mm_V} {t n a k : Nat} {x : Int32} (h1 : k ≠ 10) (h2 : k ≠ 11) (h : mm_pz g m t n a k x = some m') : plcK g m m' := by
  unfold mm_pz at h
  rcases iteS h with ⟨hc, h⟩ | ⟨hc, h⟩
  · rcases iteS h with ⟨hc2, h⟩ | ⟨hc2, h⟩
    · cases h; exact pK_up h1 h2
    · cases h
  · cases h
theorem pK_si {g : mm_T} {m m' : mm_V} {a : Nat} {i x : Int32} (h : mm_si g m a i x = some m') : plcK g m m' := by
  unfold mm_si at h
  cases hk : mm_ix g 20 a i with
  | none => rw [hk] at h; cases h
  | some k =>
    obtain ⟨n, hn⟩ := ix_tag hk
    rw [hk] at h; cases h; exact pK_ne hn (by decide)
theorem pK_sz {g : mm_T} {m m' : mm_V} {a : Nat} {i x : Int32} (h : mm_sz g m a i x = some m') : plcK g m m' := by
  unfold mm_sz at h
  cases hk : mm_ix g 22 a i with
  | none => rw [hk] at h; cases h
  | some k =>
    obtain ⟨n, hn⟩ := ix_tag hk
    rw [hk] at h
    rcases iteS h with ⟨hc, h⟩ | ⟨hc, h⟩
    · cases h; exact pK_ne hn (by decide)
    · cases h
theorem pK_rz {g : mm_T} {m : mm_V} {x : Int32} {r : Int32 × mm_V} (h : mm_rz x m = some r) : plcK g m r.2 := by
  unfold mm_rz at h
  rcases iteS h with ⟨hc, h⟩ | ⟨hc, h⟩
  · cases h; exact pR _ _
  · cases h
theorem pK_rd {g : mm_T} {m : mm_V} {t n a k : Nat} {v : Int32} (h : mm_gi g m t n a k = some v) : g a = some (t, n) ∧ m a k = .int v := by
  unfold mm_gi at h
  rcases iteS h with ⟨hc, h⟩ | ⟨hc, h⟩
  · refine ⟨hc, ?_⟩
    cases hv : m a k <;> rw [hv] at h <;> cases h
    rfl
  · cases h
theorem pK_wrong {e : mm_E} {a0 : Nat} {i1 : Int32} {m m' : mm_V} (hi : i1 ≠ 0) (h : X12_wrong e a0 i1 m = some m') : plcK e.1 m m' := by
  unfold X12_wrong at h
  obtain ⟨x1, u1, h⟩ := bndS h
  rcases iteS h with ⟨hc, h⟩ | ⟨hc, h⟩
  · obtain ⟨m2, u2, h⟩ := bndS h
    obtain ⟨x3, u3, h⟩ := bndS h
    obtain ⟨m4, u4, h⟩ := bndS h
    cases h
    have hg := (pK_rd u1).1
    rw [wr_pf hg] at u2; cases u2
    rw [wr_pf hg] at u4; cases u4
    intro b n hb h0
    rw [up_ne _ _ (Or.inr (by decide))] at h0
    by_cases hba : b = a0
    · rw [hba, up_at] at h0
      exact absurd (Value.int.inj h0) hi
    · rw [up_ne _ _ (Or.inl hba)] at h0
      exact ⟨h0, by rw [up_ne _ _ (Or.inl hba), up_ne _ _ (Or.inl hba)]⟩
  · cases h; exact pR _ _
theorem pK_same {g : mm_T} {m m' : mm_V} (h : m' = m) : plcK g m m' := by rw [h]; exact pR _ _
theorem X12_isGood_pK {e : mm_E} {a0 : Nat} {m : mm_V} {r} (h : X12_isGood e a0 m = some r) : plcK e.1 m r.2 := by
  unfold X12_isGood X12_isGood_b12 at h
  obtain ⟨x1, u1, h⟩ := bndS h
  rcases iteS h with ⟨hc, h⟩ | ⟨hc, h⟩
  · exact pK_rz h
  · exact pK_rz h
theorem X12_isSign_pK {e : mm_E} {a0 : Nat} {i1 : Int32} {m : mm_V} {r} (h : X12_isSign e a0 i1 m = some r) : plcK e.1 m r.2 := by
  unfold X12_isSign X12_isSign_b20 X12_isSign_b21 at h
  obtain ⟨x1, u1, h⟩ := bndS h
  rcases iteS h with ⟨hc, h⟩ | ⟨hc, h⟩
  · exact pK_rz h
  · obtain ⟨x2, u2, h⟩ := bndS h
    rcases iteS h with ⟨hc, h⟩ | ⟨hc, h⟩
    · exact pK_rz h
    · exact pK_rz h
theorem X12_deeper_61_pK {e : mm_E} {t0 : Nat} {t1 : Int32} {m : mm_V} {r} (ht : t1 ≠ 0) (h : X12_deeper_b61 e t0 t1 m = some r) : plcK e.1 m r := by
  unfold X12_deeper_b61 at h
  rcases iteS h with ⟨hc, h⟩ | ⟨hc, h⟩
  · obtain ⟨r1, u2, h⟩ := bndS h
    cases h
    exact pK_wrong ht u2
  · cases h
theorem X12_deeper_pK {e : mm_E} {a0 : Nat} {m : mm_V} {r} (h : X12_deeper e a0 m = some r) : plcK e.1 m r := by
  unfold X12_deeper X12_deeper_b56 at h
  obtain ⟨x1, u1, h⟩ := bndS h
  rcases iteS h with ⟨hc, h⟩ | ⟨hc, h⟩
  · obtain ⟨x2, u3, h⟩ := bndS h
    rcases iteS h with ⟨hc, h⟩ | ⟨hc, h⟩
    · exact X12_deeper_61_pK (by decide) h
    · obtain ⟨x3, u5, h⟩ := bndS h
      rcases iteS h with ⟨hc, h⟩ | ⟨hc, h⟩
      · exact X12_deeper_61_pK (by decide) h
      · obtain ⟨r4, u7, h⟩ := bndS h
        rcases iteS h with ⟨hc, h⟩ | ⟨hc, h⟩
        · exact pT (X12_isSign_pK u7) (X12_deeper_61_pK (by decide) h)
        · exact pT (X12_isSign_pK u7) (X12_deeper_61_pK (by decide) h)
  · obtain ⟨x5, u9, h⟩ := bndS h
    obtain ⟨m6, u10, h⟩ := bndS h
    obtain ⟨c7, u11, h⟩ := bndS h
    obtain ⟨x8, u12, h⟩ := bndS h
    obtain ⟨m9, u13, h⟩ := bndS h
    cases h
    exact pT (pK_pf (by decide) (by decide) u10) (pK_sz u13)
theorem X12_part_b101_pK {e : mm_E} {m : mm_V} {r} (h : X12_part_b101 e m = some r) : plcK e.1 m r := by
  unfold X12_part_b101 at h
  cases h
  exact pR _ _
theorem X12_byteAt_b18_pK {e : mm_E} {t0 : Int32} {m : mm_V} {r} (h : X12_byteAt_b18 e t0 m = some r) : plcK e.1 m r.2 := by
  unfold X12_byteAt_b18 at h
  cases h
  exact pR _ _
theorem X12_byteAt_pK {e : mm_E} {a0 : Nat} {i1 : Int32} {m : mm_V} {r} (h : X12_byteAt e a0 i1 m = some r) : plcK e.1 m r.2 := by
  unfold X12_byteAt at h
  obtain ⟨x1, u1, h⟩ := bndS h
  rcases iteS h with ⟨hc, h⟩ | ⟨hc, h⟩
  ·
    exact (X12_byteAt_b18_pK  h)
  ·
    obtain ⟨c2, u3, h⟩ := bndS h
    obtain ⟨x3, u4, h⟩ := bndS h
    exact (X12_byteAt_b18_pK  h)
theorem X12_isLetter_b17_pK {e : mm_E} {t0 : Int32} {m : mm_V} {r} (h : X12_isLetter_b17 e t0 m = some r) : plcK e.1 m r.2 := by
  unfold X12_isLetter_b17 at h
  exact (pK_rz h)
theorem X12_isLetter_b16_pK {e : mm_E} {m : mm_V} {r} (h : X12_isLetter_b16 e m = some r) : plcK e.1 m r.2 := by
  unfold X12_isLetter_b16 at h
  exact (X12_isLetter_b17_pK  h)
theorem X12_isLetter_pK {e : mm_E} {i0 : Int32} {m : mm_V} {r} (h : X12_isLetter e i0 m = some r) : plcK e.1 m r.2 := by
  unfold X12_isLetter at h
  rcases iteS h with ⟨hc, h⟩ | ⟨hc, h⟩
  ·
    exact (X12_isLetter_b16_pK  h)
  ·
    rcases iteS h with ⟨hc, h⟩ | ⟨hc, h⟩
    ·
      exact (X12_isLetter_b16_pK  h)
    ·
      exact (X12_isLetter_b17_pK  h)
theorem X12_isDigit_b17_pK {e : mm_E} {t0 : Int32} {m : mm_V} {r} (h : X12_isDigit_b17 e t0 m = some r) : plcK e.1 m r.2 := by
  unfold X12_isDigit_b17 at h
  exact (pK_rz h)
theorem X12_isDigit_b16_pK {e : mm_E} {m : mm_V} {r} (h : X12_isDigit_b16 e m = some r) : plcK e.1 m r.2 := by
  unfold X12_isDigit_b16 at h
  exact (X12_isDigit_b17_pK  h)
theorem X12_isDigit_pK {e : mm_E} {i0 : Int32} {m : mm_V} {r} (h : X12_isDigit e i0 m = some r) : plcK e.1 m r.2 := by
  unfold X12_isDigit at h
  rcases iteS h with ⟨hc, h⟩ | ⟨hc, h⟩
  ·
    exact (X12_isDigit_b16_pK  h)
  ·
    rcases iteS h with ⟨hc, h⟩ | ⟨hc, h⟩
    ·
      exact (X12_isDigit_b16_pK  h)
    ·
      exact (X12_isDigit_b17_pK  h)
theorem X12_goes_b331_pK {e : mm_E} {a0 : Nat} {m : mm_V} {r} (h : X12_goes_b331 e a0 m = some r) : plcK e.1 m r := by
  unfold X12_goes_b331 at h
  obtain ⟨x1, u1, h⟩ := bndS h
  obtain ⟨x2, u2, h⟩ := bndS h
  obtain ⟨m3, u3, h⟩ := bndS h
  cases h
  exact (by have z := (pK_pf (by decide) (by decide) u3); exact z)
theorem X12_goes_b328_pK {e : mm_E} {a0 : Nat} {t0 : Nat} {t1 : Int32} {m : mm_V} {r} (h : X12_goes_b328 e a0 t0 t1 m = some r) : plcK e.1 m r := by
  unfold X12_goes_b328 at h
  obtain ⟨m1, u1, h⟩ := bndS h
  exact pT (pK_pf (by decide) (by decide) u1) ((X12_goes_b331_pK  h))
theorem X12_goes_b323_pK {e : mm_E} {a0 : Nat} {t0 : Nat} {m : mm_V} {r} (h : X12_goes_b323 e a0 t0 m = some r) : plcK e.1 m r := by
  unfold X12_goes_b323 at h
  exact (X12_goes_b328_pK  h)
theorem X12_goes_b237_pK {e : mm_E} {k187 : mm_V → Option mm_V} {a0 : Nat} {m : mm_V} {r} (hk187 : ∀ y0 r, k187 y0 = some r → plcK e.1 y0 r) (h : X12_goes_b237 e k187 a0 m = some r) : plcK e.1 m r := by
  unfold X12_goes_b237 at h
  obtain ⟨x1, u1, h⟩ := bndS h
  obtain ⟨m2, u2, h⟩ := bndS h
  exact pT (pK_pf (by decide) (by decide) u2) ((hk187 _ _ h))
theorem X12_goes_L187_pK {e : mm_E} {a0 : Nat} : ∀ {n : Nat} {v0} {r}, X12_goes_L187 e a0 n v0 = some r → plcK e.1 v0 r := by
  intro n
  have key : ∀ v0 r, X12_goes_L187 e a0 n v0 = some r → plcK e.1 v0 r := by
    induction n with
    | zero => intro v0 r h; unfold X12_goes_L187 at h; cases h
    | succ n ih =>
      intro m r h
      unfold X12_goes_L187 at h
      obtain ⟨x1, u1, h⟩ := bndS h
      obtain ⟨r2, u2, h⟩ := bndS h
      obtain ⟨r3, u3, h⟩ := bndS h
      rcases iteS h with ⟨hc, h⟩ | ⟨hc, h⟩
      ·
        obtain ⟨m4, u5, h⟩ := bndS h
        exact pT (X12_byteAt_pK  u2) (pT (X12_isDigit_pK  u3) (pT (pK_pf (by decide) (by decide) u5) ((X12_goes_b331_pK  h))))
      ·
        obtain ⟨x5, u6, h⟩ := bndS h
        obtain ⟨x6, u7, h⟩ := bndS h
        rcases iteS h with ⟨hc, h⟩ | ⟨hc, h⟩
        ·
          exact pT (X12_byteAt_pK  u2) (pT (X12_isDigit_pK  u3) ((X12_goes_b237_pK (hk187 := (fun y0 r h => ih y0 r h)) h)))
        ·
          obtain ⟨x7, u9, h⟩ := bndS h
          obtain ⟨x8, u10, h⟩ := bndS h
          obtain ⟨r9, u11, h⟩ := bndS h
          obtain ⟨m10, u12, h⟩ := bndS h
          exact pT (X12_byteAt_pK  u2) (pT (X12_isDigit_pK  u3) (pT (X12_byteAt_pK  u11) (pT (pK_pf (by decide) (by decide) u12) ((X12_goes_b237_pK (hk187 := (fun y0 r h => ih y0 r h)) h)))))
  intro v0 r h
  exact key _  _ h
theorem X12_goes_b159_pK {e : mm_E} {k108 : mm_V → Option mm_V} {a0 : Nat} {m : mm_V} {r} (hk108 : ∀ y0 r, k108 y0 = some r → plcK e.1 y0 r) (h : X12_goes_b159 e k108 a0 m = some r) : plcK e.1 m r := by
  unfold X12_goes_b159 at h
  obtain ⟨x1, u1, h⟩ := bndS h
  obtain ⟨m2, u2, h⟩ := bndS h
  exact pT (pK_pf (by decide) (by decide) u2) ((hk108 _ _ h))
theorem X12_goes_L108_pK {e : mm_E} {a0 : Nat} : ∀ {n : Nat} {v0} {r}, X12_goes_L108 e a0 n v0 = some r → plcK e.1 v0 r := by
  intro n
  have key : ∀ v0 r, X12_goes_L108 e a0 n v0 = some r → plcK e.1 v0 r := by
    induction n with
    | zero => intro v0 r h; unfold X12_goes_L108 at h; cases h
    | succ n ih =>
      intro m r h
      unfold X12_goes_L108 at h
      obtain ⟨x1, u1, h⟩ := bndS h
      obtain ⟨r2, u2, h⟩ := bndS h
      obtain ⟨r3, u3, h⟩ := bndS h
      rcases iteS h with ⟨hc, h⟩ | ⟨hc, h⟩
      ·
        obtain ⟨m4, u5, h⟩ := bndS h
        exact pT (X12_byteAt_pK  u2) (pT (X12_isLetter_pK  u3) (pT (pK_pf (by decide) (by decide) u5) ((X12_goes_b331_pK  h))))
      ·
        obtain ⟨x5, u6, h⟩ := bndS h
        obtain ⟨x6, u7, h⟩ := bndS h
        rcases iteS h with ⟨hc, h⟩ | ⟨hc, h⟩
        ·
          exact pT (X12_byteAt_pK  u2) (pT (X12_isLetter_pK  u3) ((X12_goes_b159_pK (hk108 := (fun y0 r h => ih y0 r h)) h)))
        ·
          obtain ⟨y7, u9, h⟩ := bndS h
          obtain ⟨x8, u10, h⟩ := bndS h
          obtain ⟨r9, u11, h⟩ := bndS h
          obtain ⟨m10, u12, h⟩ := bndS h
          exact pT (X12_byteAt_pK  u2) (pT (X12_isLetter_pK  u3) (pT (X12_byteAt_pK  u11) (pT (pK_pf (by decide) (by decide) u12) ((X12_goes_b159_pK (hk108 := (fun y0 r h => ih y0 r h)) h)))))
  intro v0 r h
  exact key _  _ h
theorem X12_goes_b50_pK {e : mm_E} {a0 : Nat} {m : mm_V} {r} (h : X12_goes_b50 e a0 m = some r) : plcK e.1 m r := by
  unfold X12_goes_b50 at h
  obtain ⟨x1, u1, h⟩ := bndS h
  obtain ⟨m2, u2, h⟩ := bndS h
  obtain ⟨m3, u3, h⟩ := bndS h
  obtain ⟨m4, u4, h⟩ := bndS h
  obtain ⟨x5, u5, h⟩ := bndS h
  obtain ⟨r6, u6, h⟩ := bndS h
  obtain ⟨m7, u7, h⟩ := bndS h
  obtain ⟨x8, u8, h⟩ := bndS h
  obtain ⟨x9, u9, h⟩ := bndS h
  rcases iteS h with ⟨hc, h⟩ | ⟨hc, h⟩
  ·
    obtain ⟨r10, u11, h⟩ := bndS h
    rcases iteS h with ⟨hc, h⟩ | ⟨hc, h⟩
    ·
      obtain ⟨r11, u13, h⟩ := bndS h
      rcases iteS h with ⟨hc, h⟩ | ⟨hc, h⟩
      ·
        obtain ⟨x12, u15, h⟩ := bndS h
        obtain ⟨m13, u16, h⟩ := bndS h
        rcases iteS h with ⟨hc, h⟩ | ⟨hc, h⟩
        ·
          exact pT (pK_pf (by decide) (by decide) u2) (pT (pK_pf (by decide) (by decide) u3) (pT (pK_pf (by decide) (by decide) u4) (pT (X12_byteAt_pK  u6) (pT (pK_pf (by decide) (by decide) u7) (pT (X12_isLetter_pK  u11) (pT (X12_isDigit_pK  u13) (pT (pK_pf (by decide) (by decide) u16) ((X12_goes_b323_pK  h)))))))))
        ·
          rcases iteS h with ⟨hc, h⟩ | ⟨hc, h⟩
          ·
            exact pT (pK_pf (by decide) (by decide) u2) (pT (pK_pf (by decide) (by decide) u3) (pT (pK_pf (by decide) (by decide) u4) (pT (X12_byteAt_pK  u6) (pT (pK_pf (by decide) (by decide) u7) (pT (X12_isLetter_pK  u11) (pT (X12_isDigit_pK  u13) (pT (pK_pf (by decide) (by decide) u16) ((X12_goes_b323_pK  h)))))))))
          ·
            rcases iteS h with ⟨hc, h⟩ | ⟨hc, h⟩
            ·
              exact pT (pK_pf (by decide) (by decide) u2) (pT (pK_pf (by decide) (by decide) u3) (pT (pK_pf (by decide) (by decide) u4) (pT (X12_byteAt_pK  u6) (pT (pK_pf (by decide) (by decide) u7) (pT (X12_isLetter_pK  u11) (pT (X12_isDigit_pK  u13) (pT (pK_pf (by decide) (by decide) u16) ((X12_goes_b323_pK  h)))))))))
            ·
              rcases iteS h with ⟨hc, h⟩ | ⟨hc, h⟩
              ·
                exact pT (pK_pf (by decide) (by decide) u2) (pT (pK_pf (by decide) (by decide) u3) (pT (pK_pf (by decide) (by decide) u4) (pT (X12_byteAt_pK  u6) (pT (pK_pf (by decide) (by decide) u7) (pT (X12_isLetter_pK  u11) (pT (X12_isDigit_pK  u13) (pT (pK_pf (by decide) (by decide) u16) ((X12_goes_b323_pK  h)))))))))
              ·
                rcases iteS h with ⟨hc, h⟩ | ⟨hc, h⟩
                ·
                  exact pT (pK_pf (by decide) (by decide) u2) (pT (pK_pf (by decide) (by decide) u3) (pT (pK_pf (by decide) (by decide) u4) (pT (X12_byteAt_pK  u6) (pT (pK_pf (by decide) (by decide) u7) (pT (X12_isLetter_pK  u11) (pT (X12_isDigit_pK  u13) (pT (pK_pf (by decide) (by decide) u16) ((X12_goes_b323_pK  h)))))))))
                ·
                  rcases iteS h with ⟨hc, h⟩ | ⟨hc, h⟩
                  ·
                    exact pT (pK_pf (by decide) (by decide) u2) (pT (pK_pf (by decide) (by decide) u3) (pT (pK_pf (by decide) (by decide) u4) (pT (X12_byteAt_pK  u6) (pT (pK_pf (by decide) (by decide) u7) (pT (X12_isLetter_pK  u11) (pT (X12_isDigit_pK  u13) (pT (pK_pf (by decide) (by decide) u16) ((X12_goes_b323_pK  h)))))))))
                  ·
                    rcases iteS h with ⟨hc, h⟩ | ⟨hc, h⟩
                    ·
                      exact pT (pK_pf (by decide) (by decide) u2) (pT (pK_pf (by decide) (by decide) u3) (pT (pK_pf (by decide) (by decide) u4) (pT (X12_byteAt_pK  u6) (pT (pK_pf (by decide) (by decide) u7) (pT (X12_isLetter_pK  u11) (pT (X12_isDigit_pK  u13) (pT (pK_pf (by decide) (by decide) u16) ((X12_goes_b323_pK  h)))))))))
                    ·
                      rcases iteS h with ⟨hc, h⟩ | ⟨hc, h⟩
                      ·
                        exact pT (pK_pf (by decide) (by decide) u2) (pT (pK_pf (by decide) (by decide) u3) (pT (pK_pf (by decide) (by decide) u4) (pT (X12_byteAt_pK  u6) (pT (pK_pf (by decide) (by decide) u7) (pT (X12_isLetter_pK  u11) (pT (X12_isDigit_pK  u13) (pT (pK_pf (by decide) (by decide) u16) ((X12_goes_b323_pK  h)))))))))
                      ·
                        rcases iteS h with ⟨hc, h⟩ | ⟨hc, h⟩
                        ·
                          exact pT (pK_pf (by decide) (by decide) u2) (pT (pK_pf (by decide) (by decide) u3) (pT (pK_pf (by decide) (by decide) u4) (pT (X12_byteAt_pK  u6) (pT (pK_pf (by decide) (by decide) u7) (pT (X12_isLetter_pK  u11) (pT (X12_isDigit_pK  u13) (pT (pK_pf (by decide) (by decide) u16) ((X12_goes_b328_pK  h)))))))))
                        ·
                          exact pT (pK_pf (by decide) (by decide) u2) (pT (pK_pf (by decide) (by decide) u3) (pT (pK_pf (by decide) (by decide) u4) (pT (X12_byteAt_pK  u6) (pT (pK_pf (by decide) (by decide) u7) (pT (X12_isLetter_pK  u11) (pT (X12_isDigit_pK  u13) (pT (pK_pf (by decide) (by decide) u16) ((X12_goes_b323_pK  h)))))))))
      ·
        exact pT (pK_pf (by decide) (by decide) u2) (pT (pK_pf (by decide) (by decide) u3) (pT (pK_pf (by decide) (by decide) u4) (pT (X12_byteAt_pK  u6) (pT (pK_pf (by decide) (by decide) u7) (pT (X12_isLetter_pK  u11) (pT (X12_isDigit_pK  u13) ((X12_goes_L187_pK  h))))))))
    ·
      exact pT (pK_pf (by decide) (by decide) u2) (pT (pK_pf (by decide) (by decide) u3) (pT (pK_pf (by decide) (by decide) u4) (pT (X12_byteAt_pK  u6) (pT (pK_pf (by decide) (by decide) u7) (pT (X12_isLetter_pK  u11) ((X12_goes_L108_pK  h)))))))
  ·
    obtain ⟨m14, u26, h⟩ := bndS h
    exact pT (pK_pf (by decide) (by decide) u2) (pT (pK_pf (by decide) (by decide) u3) (pT (pK_pf (by decide) (by decide) u4) (pT (X12_byteAt_pK  u6) (pT (pK_pf (by decide) (by decide) u7) (pT (pK_pf (by decide) (by decide) u26) ((X12_goes_b331_pK  h)))))))
theorem X12_goes_b37_pK {e : mm_E} {k0 : mm_V → Option mm_V} {a0 : Nat} {m : mm_V} {r} (hk0 : ∀ y0 r, k0 y0 = some r → plcK e.1 y0 r) (h : X12_goes_b37 e k0 a0 m = some r) : plcK e.1 m r := by
  unfold X12_goes_b37 at h
  obtain ⟨x1, u1, h⟩ := bndS h
  obtain ⟨m2, u2, h⟩ := bndS h
  exact pT (pK_pf (by decide) (by decide) u2) ((hk0 _ _ h))
theorem X12_goes_L0_pK {e : mm_E} {a0 : Nat} : ∀ {n : Nat} {v0} {r}, X12_goes_L0 e a0 n v0 = some r → plcK e.1 v0 r := by
  intro n
  have key : ∀ v0 r, X12_goes_L0 e a0 n v0 = some r → plcK e.1 v0 r := by
    induction n with
    | zero => intro v0 r h; unfold X12_goes_L0 at h; cases h
    | succ n ih =>
      intro m r h
      unfold X12_goes_L0 at h
      obtain ⟨x1, u1, h⟩ := bndS h
      obtain ⟨x2, u2, h⟩ := bndS h
      rcases iteS h with ⟨hc, h⟩ | ⟨hc, h⟩
      ·
        exact (X12_goes_b50_pK  h)
      ·
        obtain ⟨x3, u4, h⟩ := bndS h
        obtain ⟨r4, u5, h⟩ := bndS h
        rcases iteS h with ⟨hc, h⟩ | ⟨hc, h⟩
        ·
          exact pT (X12_byteAt_pK  u5) ((X12_goes_b37_pK (hk0 := (fun y0 r h => ih y0 r h)) h))
        ·
          obtain ⟨x5, u7, h⟩ := bndS h
          obtain ⟨r6, u8, h⟩ := bndS h
          rcases iteS h with ⟨hc, h⟩ | ⟨hc, h⟩
          ·
            exact pT (X12_byteAt_pK  u5) (pT (X12_byteAt_pK  u8) ((X12_goes_b50_pK  h)))
          ·
            exact pT (X12_byteAt_pK  u5) (pT (X12_byteAt_pK  u8) ((X12_goes_b37_pK (hk0 := (fun y0 r h => ih y0 r h)) h)))
  intro v0 r h
  exact key _  _ h
theorem X12_goes_pK {e : mm_E} {a0 : Nat} {m : mm_V} {r} (h : X12_goes e a0 m = some r) : plcK e.1 m r := by
  unfold X12_goes at h
  exact (X12_goes_L0_pK  h)
theorem X12_part_b90_pK {e : mm_E} {a0 : Nat} {m : mm_V} {r} (h : X12_part_b90 e a0 m = some r) : plcK e.1 m r := by
  unfold X12_part_b90 at h
  obtain ⟨r1, u1, h⟩ := bndS h
  rcases iteS h with ⟨hc, h⟩ | ⟨hc, h⟩
  ·
    exact pT (X12_isGood_pK  u1) ((X12_part_b101_pK  h))
  ·
    obtain ⟨r2, u3, h⟩ := bndS h
    exact pT (X12_isGood_pK  u1) (pT (X12_goes_pK  u3) ((X12_part_b101_pK  h)))
theorem X12_knownWord_b17_pK {e : mm_E} {m : mm_V} {r} (h : X12_knownWord_b17 e m = some r) : plcK e.1 m r.2 := by
  unfold X12_knownWord_b17 at h
  cases h
  exact pR _ _
theorem X12_spelled_b84_pK {e : mm_E} {j6 : Int64} {m : mm_V} {r} (h : X12_spelled_b84 e j6 m = some r) : plcK e.1 m r.2 := by
  unfold X12_spelled_b84 at h
  cases h
  exact pR _ _
theorem X12_spelled_b66_pK {e : mm_E} {i5 : Int32} {j6 : Int64} {m : mm_V} {r} (h : X12_spelled_b66 e i5 j6 m = some r) : plcK e.1 m r.2 := by
  unfold X12_spelled_b66 at h
  rcases iteS h with ⟨hc, h⟩ | ⟨hc, h⟩
  ·
    exact (X12_spelled_b84_pK  h)
  ·
    exact (X12_spelled_b84_pK  h)
theorem X12_spelled_b48_pK {e : mm_E} {i4 : Int32} {i5 : Int32} {j6 : Int64} {m : mm_V} {r} (h : X12_spelled_b48 e i4 i5 j6 m = some r) : plcK e.1 m r.2 := by
  unfold X12_spelled_b48 at h
  rcases iteS h with ⟨hc, h⟩ | ⟨hc, h⟩
  ·
    exact (X12_spelled_b66_pK  h)
  ·
    exact (X12_spelled_b66_pK  h)
theorem X12_spelled_b32_pK {e : mm_E} {i3 : Int32} {i4 : Int32} {i5 : Int32} {j6 : Int64} {m : mm_V} {r} (h : X12_spelled_b32 e i3 i4 i5 j6 m = some r) : plcK e.1 m r.2 := by
  unfold X12_spelled_b32 at h
  rcases iteS h with ⟨hc, h⟩ | ⟨hc, h⟩
  ·
    exact (X12_spelled_b48_pK  h)
  ·
    exact (X12_spelled_b48_pK  h)
theorem X12_spelled_pK {e : mm_E} {i0 : Int32} {i1 : Int32} {i2 : Int32} {i3 : Int32} {i4 : Int32} {i5 : Int32} {m : mm_V} {r} (h : X12_spelled e i0 i1 i2 i3 i4 i5 m = some r) : plcK e.1 m r.2 := by
  unfold X12_spelled at h
  rcases iteS h with ⟨hc, h⟩ | ⟨hc, h⟩
  ·
    exact (X12_spelled_b32_pK  h)
  ·
    exact (X12_spelled_b32_pK  h)
theorem X12_letters_pK {e : mm_E} {i0 : Int32} {m : mm_V} {r} (h : X12_letters e i0 m = some r) : plcK e.1 m r.2 := by
  unfold X12_letters at h
  rcases iteS h with ⟨hc, h⟩ | ⟨hc, h⟩
  ·
    obtain ⟨r1, u2, h⟩ := bndS h
    cases h
    exact (by have z := (X12_spelled_pK  u2); exact z)
  ·
    rcases iteS h with ⟨hc, h⟩ | ⟨hc, h⟩
    ·
      obtain ⟨r3, u4, h⟩ := bndS h
      cases h
      exact (by have z := (X12_spelled_pK  u4); exact z)
    ·
      rcases iteS h with ⟨hc, h⟩ | ⟨hc, h⟩
      ·
        obtain ⟨r5, u6, h⟩ := bndS h
        cases h
        exact (by have z := (X12_spelled_pK  u6); exact z)
      ·
        rcases iteS h with ⟨hc, h⟩ | ⟨hc, h⟩
        ·
          obtain ⟨r7, u8, h⟩ := bndS h
          cases h
          exact (by have z := (X12_spelled_pK  u8); exact z)
        ·
          rcases iteS h with ⟨hc, h⟩ | ⟨hc, h⟩
          ·
            obtain ⟨r9, u10, h⟩ := bndS h
            cases h
            exact (by have z := (X12_spelled_pK  u10); exact z)
          ·
            rcases iteS h with ⟨hc, h⟩ | ⟨hc, h⟩
            ·
              obtain ⟨r11, u12, h⟩ := bndS h
              cases h
              exact (by have z := (X12_spelled_pK  u12); exact z)
            ·
              rcases iteS h with ⟨hc, h⟩ | ⟨hc, h⟩
              ·
                obtain ⟨r13, u14, h⟩ := bndS h
                cases h
                exact (by have z := (X12_spelled_pK  u14); exact z)
              ·
                rcases iteS h with ⟨hc, h⟩ | ⟨hc, h⟩
                ·
                  obtain ⟨r15, u16, h⟩ := bndS h
                  cases h
                  exact (by have z := (X12_spelled_pK  u16); exact z)
                ·
                  rcases iteS h with ⟨hc, h⟩ | ⟨hc, h⟩
                  ·
                    obtain ⟨r17, u18, h⟩ := bndS h
                    cases h
                    exact (by have z := (X12_spelled_pK  u18); exact z)
                  ·
                    rcases iteS h with ⟨hc, h⟩ | ⟨hc, h⟩
                    ·
                      obtain ⟨r19, u20, h⟩ := bndS h
                      cases h
                      exact (by have z := (X12_spelled_pK  u20); exact z)
                    ·
                      rcases iteS h with ⟨hc, h⟩ | ⟨hc, h⟩
                      ·
                        obtain ⟨r21, u22, h⟩ := bndS h
                        cases h
                        exact (by have z := (X12_spelled_pK  u22); exact z)
                      ·
                        rcases iteS h with ⟨hc, h⟩ | ⟨hc, h⟩
                        ·
                          obtain ⟨r23, u24, h⟩ := bndS h
                          cases h
                          exact (by have z := (X12_spelled_pK  u24); exact z)
                        ·
                          rcases iteS h with ⟨hc, h⟩ | ⟨hc, h⟩
                          ·
                            obtain ⟨r25, u26, h⟩ := bndS h
                            cases h
                            exact (by have z := (X12_spelled_pK  u26); exact z)
                          ·
                            rcases iteS h with ⟨hc, h⟩ | ⟨hc, h⟩
                            ·
                              obtain ⟨r27, u28, h⟩ := bndS h
                              cases h
                              exact (by have z := (X12_spelled_pK  u28); exact z)
                            ·
                              rcases iteS h with ⟨hc, h⟩ | ⟨hc, h⟩
                              ·
                                obtain ⟨r29, u30, h⟩ := bndS h
                                cases h
                                exact (by have z := (X12_spelled_pK  u30); exact z)
                              ·
                                rcases iteS h with ⟨hc, h⟩ | ⟨hc, h⟩
                                ·
                                  obtain ⟨r31, u32, h⟩ := bndS h
                                  cases h
                                  exact (by have z := (X12_spelled_pK  u32); exact z)
                                ·
                                  obtain ⟨r33, u33, h⟩ := bndS h
                                  cases h
                                  exact (by have z := (X12_spelled_pK  u33); exact z)
theorem X12_knownWord_L21_pK {e : mm_E} {a0 : Nat} : ∀ {n : Nat} {v0 v1} {r}, X12_knownWord_L21 e a0 n v0 v1 = some r → plcK e.1 v1 r.2 := by
  intro n
  have key : ∀ v0 v1 r, X12_knownWord_L21 e a0 n v0 v1 = some r → plcK e.1 v1 r.2 := by
    induction n with
    | zero => intro v0 v1 r h; unfold X12_knownWord_L21 at h; cases h
    | succ n ih =>
      intro i1 m r h
      unfold X12_knownWord_L21 at h
      rcases iteS h with ⟨hc, h⟩ | ⟨hc, h⟩
      ·
        cases h
        exact pR _ _
      ·
        obtain ⟨r1, u2, h⟩ := bndS h
        obtain ⟨y2, u3, h⟩ := bndS h
        rcases iteS h with ⟨hc, h⟩ | ⟨hc, h⟩
        ·
          exact pT (X12_letters_pK  u2) ((ih _ _ _ h))
        ·
          cases h
          exact (by have z := (X12_letters_pK  u2); exact z)
  intro v0 v1 r h
  exact key _ _ _ h
theorem X12_knownWord_pK {e : mm_E} {a0 : Nat} {m : mm_V} {r} (h : X12_knownWord e a0 m = some r) : plcK e.1 m r.2 := by
  unfold X12_knownWord at h
  obtain ⟨x1, u1, h⟩ := bndS h
  rcases iteS h with ⟨hc, h⟩ | ⟨hc, h⟩
  ·
    exact (X12_knownWord_b17_pK  h)
  ·
    obtain ⟨x2, u3, h⟩ := bndS h
    rcases iteS h with ⟨hc, h⟩ | ⟨hc, h⟩
    ·
      exact (X12_knownWord_L21_pK  h)
    ·
      exact (X12_knownWord_b17_pK  h)
theorem X12_puts_pK {e : mm_E} {a0 : Nat} {i1 : Int32} {m : mm_V} {r} (h : X12_puts e a0 i1 m = some r) : plcK e.1 m r := by
  unfold X12_puts at h
  obtain ⟨c1, u1, h⟩ := bndS h
  obtain ⟨x2, u2, h⟩ := bndS h
  obtain ⟨m3, u3, h⟩ := bndS h
  obtain ⟨x4, u4, h⟩ := bndS h
  obtain ⟨m5, u5, h⟩ := bndS h
  cases h
  exact (by have z := pT (pK_si u3) ((pK_pf (by decide) (by decide) u5)); exact z)
theorem X12_part_b72_pK {e : mm_E} {a0 : Nat} {i1 : Int32} {m : mm_V} {r} (h : X12_part_b72 e a0 i1 m = some r) : plcK e.1 m r := by
  unfold X12_part_b72 at h
  obtain ⟨r1, u1, h⟩ := bndS h
  obtain ⟨r2, u2, h⟩ := bndS h
  exact pT (X12_puts_pK  u1) (pT (X12_puts_pK  u2) ((X12_part_b90_pK  h)))
theorem X12_part_b67_pK {e : mm_E} {a0 : Nat} {i1 : Int32} {m : mm_V} {r} (h : X12_part_b67 e a0 i1 m = some r) : plcK e.1 m r := by
  unfold X12_part_b67 at h
  obtain ⟨r1, u1, h⟩ := bndS h
  exact pT (pK_wrong (by decide) u1) ((X12_part_b72_pK  h))
theorem X12_part_b29_pK {e : mm_E} {a0 : Nat} {m : mm_V} {r} (h : X12_part_b29 e a0 m = some r) : plcK e.1 m r := by
  unfold X12_part_b29 at h
  obtain ⟨r1, u1, h⟩ := bndS h
  obtain ⟨x2, u2, h⟩ := bndS h
  obtain ⟨r3, u3, h⟩ := bndS h
  exact pT (X12_puts_pK  u1) (pT (X12_puts_pK  u3) ((X12_part_b90_pK  h)))
theorem X12_part_pK {e : mm_E} {a0 : Nat} {m : mm_V} {r} (h : X12_part e a0 m = some r) : plcK e.1 m r := by
  unfold X12_part at h
  obtain ⟨r1, u1, h⟩ := bndS h
  rcases iteS h with ⟨hc, h⟩ | ⟨hc, h⟩
  ·
    obtain ⟨x2, u3, h⟩ := bndS h
    rcases iteS h with ⟨hc, h⟩ | ⟨hc, h⟩
    ·
      obtain ⟨x3, u5, h⟩ := bndS h
      rcases iteS h with ⟨hc, h⟩ | ⟨hc, h⟩
      ·
        obtain ⟨r4, u7, h⟩ := bndS h
        exact pT (X12_isGood_pK  u1) (pT (pK_wrong (by decide) u7) ((X12_part_b90_pK  h)))
      ·
        obtain ⟨r5, u8, h⟩ := bndS h
        rcases iteS h with ⟨hc, h⟩ | ⟨hc, h⟩
        ·
          exact pT (X12_isGood_pK  u1) (pT (X12_knownWord_pK  u8) ((X12_part_b67_pK  h)))
        ·
          rcases iteS h with ⟨hc, h⟩ | ⟨hc, h⟩
          ·
            exact pT (X12_isGood_pK  u1) (pT (X12_knownWord_pK  u8) ((X12_part_b72_pK  h)))
          ·
            exact pT (X12_isGood_pK  u1) (pT (X12_knownWord_pK  u8) ((X12_part_b67_pK  h)))
    ·
      obtain ⟨x6, u11, h⟩ := bndS h
      rcases iteS h with ⟨hc, h⟩ | ⟨hc, h⟩
      ·
        exact pT (X12_isGood_pK  u1) ((X12_part_b29_pK  h))
      ·
        obtain ⟨r7, u13, h⟩ := bndS h
        exact pT (X12_isGood_pK  u1) (pT (pK_wrong (by decide) u13) ((X12_part_b29_pK  h)))
  ·
    cases h
    exact (by have z := (X12_isGood_pK  u1); exact z)
theorem X12_operand_b120_pK {e : mm_E} {a0 : Nat} {m : mm_V} {r} (h : X12_operand_b120 e a0 m = some r) : plcK e.1 m r := by
  unfold X12_operand_b120 at h
  obtain ⟨r1, u1, h⟩ := bndS h
  cases h
  exact (by have z := (X12_part_pK  u1); exact z)
theorem X12_operand_b117_pK {e : mm_E} {k4 : Int32 → Int32 → mm_V → Option mm_V} {a0 : Nat} {i2 : Int32} {i3 : Int32} {m : mm_V} {r} (hk4 : ∀ y0 y1 y2 r, k4 y0 y1 y2 = some r → plcK e.1 y2 r) (h : X12_operand_b117 e k4 a0 i2 i3 m = some r) : plcK e.1 m r := by
  unfold X12_operand_b117 at h
  exact (hk4 _ _ _ _ h)
theorem X12_waitsFor_pK {e : mm_E} {a0 : Nat} {i1 : Int32} {m : mm_V} {r} (h : X12_waitsFor e a0 i1 m = some r) : plcK e.1 m r := by
  unfold X12_waitsFor at h
  obtain ⟨c1, u1, h⟩ := bndS h
  obtain ⟨x2, u2, h⟩ := bndS h
  obtain ⟨m3, u3, h⟩ := bndS h
  obtain ⟨x4, u4, h⟩ := bndS h
  obtain ⟨m5, u5, h⟩ := bndS h
  cases h
  exact (by have z := pT (pK_si u3) ((pK_pf (by decide) (by decide) u5)); exact z)
theorem X12_operand_b96_pK {e : mm_E} {k4 : Int32 → Int32 → mm_V → Option mm_V} {a0 : Nat} {i2 : Int32} {t0 : Int32} {m : mm_V} {r} (hk4 : ∀ y0 y1 y2 r, k4 y0 y1 y2 = some r → plcK e.1 y2 r) (h : X12_operand_b96 e k4 a0 i2 t0 m = some r) : plcK e.1 m r := by
  unfold X12_operand_b96 at h
  rcases iteS h with ⟨hc, h⟩ | ⟨hc, h⟩
  ·
    exact (X12_operand_b117_pK (hk4 := hk4) h)
  ·
    obtain ⟨r1, u2, h⟩ := bndS h
    obtain ⟨r2, u3, h⟩ := bndS h
    obtain ⟨r3, u4, h⟩ := bndS h
    exact pT (X12_waitsFor_pK  u2) (pT (X12_goes_pK  u3) (pT (X12_deeper_pK  u4) ((X12_operand_b117_pK (hk4 := hk4) h))))
theorem X12_operand_b95_pK {e : mm_E} {k4 : Int32 → Int32 → mm_V → Option mm_V} {a0 : Nat} {i2 : Int32} {m : mm_V} {r} (hk4 : ∀ y0 y1 y2 r, k4 y0 y1 y2 = some r → plcK e.1 y2 r) (h : X12_operand_b95 e k4 a0 i2 m = some r) : plcK e.1 m r := by
  unfold X12_operand_b95 at h
  exact (X12_operand_b96_pK (hk4 := hk4) h)
theorem X12_operand_b75_pK {e : mm_E} {k4 : Int32 → Int32 → mm_V → Option mm_V} {a0 : Nat} {i2 : Int32} {m : mm_V} {r} (hk4 : ∀ y0 y1 y2 r, k4 y0 y1 y2 = some r → plcK e.1 y2 r) (h : X12_operand_b75 e k4 a0 i2 m = some r) : plcK e.1 m r := by
  unfold X12_operand_b75 at h
  obtain ⟨r1, u1, h⟩ := bndS h
  rcases iteS h with ⟨hc, h⟩ | ⟨hc, h⟩
  ·
    exact pT (X12_isGood_pK  u1) ((X12_operand_b95_pK (hk4 := hk4) h))
  ·
    obtain ⟨r2, u3, h⟩ := bndS h
    rcases iteS h with ⟨hc, h⟩ | ⟨hc, h⟩
    ·
      exact pT (X12_isGood_pK  u1) (pT (X12_isSign_pK  u3) ((X12_operand_b95_pK (hk4 := hk4) h)))
    ·
      exact pT (X12_isGood_pK  u1) (pT (X12_isSign_pK  u3) ((X12_operand_b96_pK (hk4 := hk4) h)))
theorem X12_operand_b50_pK {e : mm_E} {k4 : Int32 → Int32 → mm_V → Option mm_V} {k18 : Int32 → mm_V → Option mm_V} {a0 : Nat} {i2 : Int32} {i4 : Int32} {m : mm_V} {r} (hk4 : ∀ y0 y1 y2 r, k4 y0 y1 y2 = some r → plcK e.1 y2 r) (hk18 : ∀ y0 y1 r, k18 y0 y1 = some r → plcK e.1 y1 r) (h : X12_operand_b50 e k4 k18 a0 i2 i4 m = some r) : plcK e.1 m r := by
  unfold X12_operand_b50 at h
  obtain ⟨r1, u1, h⟩ := bndS h
  rcases iteS h with ⟨hc, h⟩ | ⟨hc, h⟩
  ·
    obtain ⟨r2, u3, h⟩ := bndS h
    obtain ⟨r3, u4, h⟩ := bndS h
    exact pT (X12_isGood_pK  u1) (pT (X12_waitsFor_pK  u3) (pT (X12_goes_pK  u4) ((hk18 _ _ _ h))))
  ·
    exact pT (X12_isGood_pK  u1) ((hk18 _ _ _ h))
theorem X12_operand_L18_pK {e : mm_E} {k4 : Int32 → Int32 → mm_V → Option mm_V} {a0 : Nat} {i2 : Int32} (hk4 : ∀ y0 y1 y2 r, k4 y0 y1 y2 = some r → plcK e.1 y2 r) : ∀ {n : Nat} {v0 v1} {r}, X12_operand_L18 e k4 a0 i2 n v0 v1 = some r → plcK e.1 v1 r := by
  intro n
  have key : ∀ v0 v1 r, X12_operand_L18 e k4 a0 i2 n v0 v1 = some r → plcK e.1 v1 r := by
    induction n with
    | zero => intro v0 v1 r h; unfold X12_operand_L18 at h; cases h
    | succ n ih =>
      intro i4 m r h
      unfold X12_operand_L18 at h
      obtain ⟨r1, u1, h⟩ := bndS h
      rcases iteS h with ⟨hc, h⟩ | ⟨hc, h⟩
      ·
        exact pT (X12_isGood_pK  u1) ((X12_operand_b75_pK (hk4 := hk4) h))
      ·
        rcases iteS h with ⟨hc, h⟩ | ⟨hc, h⟩
        ·
          exact pT (X12_isGood_pK  u1) ((X12_operand_b75_pK (hk4 := hk4) h))
        ·
          obtain ⟨r2, u4, h⟩ := bndS h
          rcases iteS h with ⟨hc, h⟩ | ⟨hc, h⟩
          ·
            exact pT (X12_isGood_pK  u1) (pT (X12_knownWord_pK  u4) ((X12_operand_b75_pK (hk4 := hk4) h)))
          ·
            rcases iteS h with ⟨hc, h⟩ | ⟨hc, h⟩
            ·
              exact pT (X12_isGood_pK  u1) (pT (X12_knownWord_pK  u4) ((X12_operand_b50_pK (hk4 := hk4) (hk18 := (fun y0 y1 r h => ih y0 y1 r h)) h)))
            ·
              obtain ⟨r3, u7, h⟩ := bndS h
              exact pT (X12_isGood_pK  u1) (pT (X12_knownWord_pK  u4) (pT (pK_wrong (by decide) u7) ((X12_operand_b50_pK (hk4 := hk4) (hk18 := (fun y0 y1 r h => ih y0 y1 r h)) h))))
  intro v0 v1 r h
  exact key _ _ _ h
theorem X12_operand_L4_pK {e : mm_E} {a0 : Nat} : ∀ {n : Nat} {v0 v1 v2} {r}, X12_operand_L4 e a0 n v0 v1 v2 = some r → plcK e.1 v2 r := by
  intro n
  have key : ∀ v0 v1 v2 r, X12_operand_L4 e a0 n v0 v1 v2 = some r → plcK e.1 v2 r := by
    induction n with
    | zero => intro v0 v1 v2 r h; unfold X12_operand_L4 at h; cases h
    | succ n ih =>
      intro i2 i3 m r h
      unfold X12_operand_L4 at h
      rcases iteS h with ⟨hc, h⟩ | ⟨hc, h⟩
      ·
        exact (X12_operand_b120_pK  h)
      ·
        obtain ⟨r1, u2, h⟩ := bndS h
        rcases iteS h with ⟨hc, h⟩ | ⟨hc, h⟩
        ·
          exact pT (X12_isGood_pK  u2) ((X12_operand_b120_pK  h))
        ·
          exact pT (X12_isGood_pK  u2) ((X12_operand_L18_pK (hk4 := (fun y0 y1 y2 r h => ih y0 y1 y2 r h)) h))
  intro v0 v1 v2 r h
  exact key _ _ _ _ h
theorem X12_operand_pK {e : mm_E} {a0 : Nat} {i1 : Int32} {m : mm_V} {r} (h : X12_operand e a0 i1 m = some r) : plcK e.1 m r := by
  unfold X12_operand at h
  exact (X12_operand_L4_pK  h)
theorem X12_drops_b68_pK {e : mm_E} {m : mm_V} {r} (h : X12_drops_b68 e m = some r) : plcK e.1 m r := by
  unfold X12_drops_b68 at h
  cases h
  exact pR _ _
theorem X12_isOpen_b11_pK {e : mm_E} {t0 : Int32} {m : mm_V} {r} (h : X12_isOpen_b11 e t0 m = some r) : plcK e.1 m r.2 := by
  unfold X12_isOpen_b11 at h
  exact (pK_rz h)
theorem X12_isOpen_pK {e : mm_E} {i0 : Int32} {m : mm_V} {r} (h : X12_isOpen e i0 m = some r) : plcK e.1 m r.2 := by
  unfold X12_isOpen at h
  rcases iteS h with ⟨hc, h⟩ | ⟨hc, h⟩
  ·
    exact (X12_isOpen_b11_pK  h)
  ·
    exact (X12_isOpen_b11_pK  h)
theorem X12_strength_b61_pK {e : mm_E} {t0 : Int32} {m : mm_V} {r} (h : X12_strength_b61 e t0 m = some r) : plcK e.1 m r.2 := by
  unfold X12_strength_b61 at h
  cases h
  exact pR _ _
theorem X12_strength_b39_pK {e : mm_E} {m : mm_V} {r} (h : X12_strength_b39 e m = some r) : plcK e.1 m r.2 := by
  unfold X12_strength_b39 at h
  exact (X12_strength_b61_pK  h)
theorem X12_strength_b55_pK {e : mm_E} {m : mm_V} {r} (h : X12_strength_b55 e m = some r) : plcK e.1 m r.2 := by
  unfold X12_strength_b55 at h
  exact (X12_strength_b61_pK  h)
theorem X12_strength_pK {e : mm_E} {i0 : Int32} {m : mm_V} {r} (h : X12_strength e i0 m = some r) : plcK e.1 m r.2 := by
  unfold X12_strength at h
  rcases iteS h with ⟨hc, h⟩ | ⟨hc, h⟩
  ·
    rcases iteS h with ⟨hc, h⟩ | ⟨hc, h⟩
    ·
      rcases iteS h with ⟨hc, h⟩ | ⟨hc, h⟩
      ·
        rcases iteS h with ⟨hc, h⟩ | ⟨hc, h⟩
        ·
          exact (X12_strength_b39_pK  h)
        ·
          rcases iteS h with ⟨hc, h⟩ | ⟨hc, h⟩
          ·
            rcases iteS h with ⟨hc, h⟩ | ⟨hc, h⟩
            ·
              exact (X12_strength_b55_pK  h)
            ·
              rcases iteS h with ⟨hc, h⟩ | ⟨hc, h⟩
              ·
                exact (X12_strength_b61_pK  h)
              ·
                exact (X12_strength_b55_pK  h)
          ·
            exact (X12_strength_b39_pK  h)
      ·
        exact (X12_strength_b61_pK  h)
    ·
      exact (X12_strength_b61_pK  h)
  ·
    exact (X12_strength_b61_pK  h)
theorem X12_drops_L0_pK {e : mm_E} {a0 : Nat} {i1 : Int32} : ∀ {n : Nat} {v0} {r}, X12_drops_L0 e a0 i1 n v0 = some r → plcK e.1 v0 r := by
  intro n
  have key : ∀ v0 r, X12_drops_L0 e a0 i1 n v0 = some r → plcK e.1 v0 r := by
    induction n with
    | zero => intro v0 r h; unfold X12_drops_L0 at h; cases h
    | succ n ih =>
      intro m r h
      unfold X12_drops_L0 at h
      obtain ⟨x1, u1, h⟩ := bndS h
      rcases iteS h with ⟨hc, h⟩ | ⟨hc, h⟩
      ·
        exact (X12_drops_b68_pK  h)
      ·
        obtain ⟨c2, u3, h⟩ := bndS h
        obtain ⟨x3, u4, h⟩ := bndS h
        obtain ⟨x4, u5, h⟩ := bndS h
        obtain ⟨r5, u6, h⟩ := bndS h
        rcases iteS h with ⟨hc, h⟩ | ⟨hc, h⟩
        ·
          exact pT (X12_isOpen_pK  u6) ((X12_drops_b68_pK  h))
        ·
          obtain ⟨c6, u8, h⟩ := bndS h
          obtain ⟨x7, u9, h⟩ := bndS h
          obtain ⟨x8, u10, h⟩ := bndS h
          obtain ⟨r9, u11, h⟩ := bndS h
          rcases iteS h with ⟨hc, h⟩ | ⟨hc, h⟩
          ·
            exact pT (X12_isOpen_pK  u6) (pT (X12_strength_pK  u11) ((X12_drops_b68_pK  h)))
          ·
            obtain ⟨x10, u13, h⟩ := bndS h
            obtain ⟨m11, u14, h⟩ := bndS h
            obtain ⟨c12, u15, h⟩ := bndS h
            obtain ⟨x13, u16, h⟩ := bndS h
            obtain ⟨x14, u17, h⟩ := bndS h
            obtain ⟨r15, u18, h⟩ := bndS h
            exact pT (X12_isOpen_pK  u6) (pT (X12_strength_pK  u11) (pT (pK_pf (by decide) (by decide) u14) (pT (X12_puts_pK  u18) ((ih _ _ h)))))
  intro v0 r h
  exact key _  _ h
theorem X12_drops_pK {e : mm_E} {a0 : Nat} {i1 : Int32} {m : mm_V} {r} (h : X12_drops e a0 i1 m = some r) : plcK e.1 m r := by
  unfold X12_drops at h
  exact (X12_drops_L0_pK  h)
theorem X12_expression_b345_pK {e : mm_E} {a0 : Nat} {m : mm_V} {r} (h : X12_expression_b345 e a0 m = some r) : plcK e.1 m r := by
  unfold X12_expression_b345 at h
  obtain ⟨r1, u1, h⟩ := bndS h
  obtain ⟨r2, u2, h⟩ := bndS h
  cases h
  exact (by have z := pT (X12_drops_pK  u1) ((X12_puts_pK  u2)); exact z)
theorem X12_expression_b325_pK {e : mm_E} {a0 : Nat} {m : mm_V} {r} (h : X12_expression_b325 e a0 m = some r) : plcK e.1 m r := by
  unfold X12_expression_b325 at h
  obtain ⟨r1, u1, h⟩ := bndS h
  rcases iteS h with ⟨hc, h⟩ | ⟨hc, h⟩
  ·
    exact pT (X12_isGood_pK  u1) ((X12_expression_b345_pK  h))
  ·
    obtain ⟨x2, u3, h⟩ := bndS h
    rcases iteS h with ⟨hc, h⟩ | ⟨hc, h⟩
    ·
      exact pT (X12_isGood_pK  u1) ((X12_expression_b345_pK  h))
    ·
      obtain ⟨r3, u5, h⟩ := bndS h
      exact pT (X12_isGood_pK  u1) (pT (pK_wrong (by decide) u5) ((X12_expression_b345_pK  h)))
theorem X12_expression_b322_pK {e : mm_E} {k29 : Int32 → mm_V → Option mm_V} {a0 : Nat} {i1 : Int32} {m : mm_V} {r} (hk29 : ∀ y0 y1 r, k29 y0 y1 = some r → plcK e.1 y1 r) (h : X12_expression_b322 e k29 a0 i1 m = some r) : plcK e.1 m r := by
  unfold X12_expression_b322 at h
  exact (hk29 _ _ _ h)
theorem X12_expression_b84_pK {e : mm_E} {k29 : Int32 → mm_V → Option mm_V} {a0 : Nat} {i1 : Int32} {t0 : Nat} {t1 : Int32} {m : mm_V} {r} (hk29 : ∀ y0 y1 r, k29 y0 y1 = some r → plcK e.1 y1 r) (h : X12_expression_b84 e k29 a0 i1 t0 t1 m = some r) : plcK e.1 m r := by
  unfold X12_expression_b84 at h
  rcases iteS h with ⟨hc, h⟩ | ⟨hc, h⟩
  ·
    obtain ⟨r1, u2, h⟩ := bndS h
    obtain ⟨c3, u3, h⟩ := bndS h
    obtain ⟨x4, u4, h⟩ := bndS h
    obtain ⟨m5, u5, h⟩ := bndS h
    obtain ⟨r6, u6, h⟩ := bndS h
    obtain ⟨r7, u7, h⟩ := bndS h
    exact pT (X12_waitsFor_pK  u2) (pT (pK_sz u5) (pT (X12_goes_pK  u6) (pT (X12_operand_pK  u7) ((X12_expression_b322_pK (hk29 := hk29) h)))))
  ·
    cases h
theorem X12_expression_b69_pK {e : mm_E} {k29 : Int32 → mm_V → Option mm_V} {a0 : Nat} {i1 : Int32} {i2 : Int32} {t0 : Nat} {t1 : Int32} {m : mm_V} {r} (hk29 : ∀ y0 y1 r, k29 y0 y1 = some r → plcK e.1 y1 r) (h : X12_expression_b69 e k29 a0 i1 i2 t0 t1 m = some r) : plcK e.1 m r := by
  unfold X12_expression_b69 at h
  rcases iteS h with ⟨hc, h⟩ | ⟨hc, h⟩
  ·
    obtain ⟨r1, u2, h⟩ := bndS h
    rcases iteS h with ⟨hc, h⟩ | ⟨hc, h⟩
    ·
      exact pT (X12_drops_pK  u2) ((X12_expression_b84_pK (hk29 := hk29) h))
    ·
      exact pT (X12_drops_pK  u2) ((X12_expression_b84_pK (hk29 := hk29) h))
  ·
    cases h
theorem X12_expression_b57_pK {e : mm_E} {k29 : Int32 → mm_V → Option mm_V} {a0 : Nat} {i1 : Int32} {i2 : Int32} {m : mm_V} {r} (hk29 : ∀ y0 y1 r, k29 y0 y1 = some r → plcK e.1 y1 r) (h : X12_expression_b57 e k29 a0 i1 i2 m = some r) : plcK e.1 m r := by
  unfold X12_expression_b57 at h
  rcases iteS h with ⟨hc, h⟩ | ⟨hc, h⟩
  ·
    exact (X12_expression_b69_pK (hk29 := hk29) h)
  ·
    exact (X12_expression_b69_pK (hk29 := hk29) h)
theorem X12_expression_b226_pK {e : mm_E} {k29 : Int32 → mm_V → Option mm_V} {a0 : Nat} {i1 : Int32} {t0 : Nat} {t1 : Int32} {m : mm_V} {r} (hk29 : ∀ y0 y1 r, k29 y0 y1 = some r → plcK e.1 y1 r) (h : X12_expression_b226 e k29 a0 i1 t0 t1 m = some r) : plcK e.1 m r := by
  unfold X12_expression_b226 at h
  rcases iteS h with ⟨hc, h⟩ | ⟨hc, h⟩
  ·
    obtain ⟨r1, u2, h⟩ := bndS h
    obtain ⟨r3, u3, h⟩ := bndS h
    obtain ⟨r4, u4, h⟩ := bndS h
    exact pT (X12_waitsFor_pK  u2) (pT (X12_goes_pK  u3) (pT (X12_operand_pK  u4) ((X12_expression_b322_pK (hk29 := hk29) h))))
  ·
    cases h
theorem X12_expression_b204_pK {e : mm_E} {k29 : Int32 → mm_V → Option mm_V} {a0 : Nat} {i1 : Int32} {m : mm_V} {r} (hk29 : ∀ y0 y1 r, k29 y0 y1 = some r → plcK e.1 y1 r) (h : X12_expression_b204 e k29 a0 i1 m = some r) : plcK e.1 m r := by
  unfold X12_expression_b204 at h
  obtain ⟨r1, u1, h⟩ := bndS h
  obtain ⟨r2, u2, h⟩ := bndS h
  rcases iteS h with ⟨hc, h⟩ | ⟨hc, h⟩
  ·
    exact pT (X12_drops_pK  u1) (pT (X12_isSign_pK  u2) ((X12_expression_b226_pK (hk29 := hk29) h)))
  ·
    exact pT (X12_drops_pK  u1) (pT (X12_isSign_pK  u2) ((X12_expression_b226_pK (hk29 := hk29) h)))
theorem X12_expression_b282_pK {e : mm_E} {k29 : Int32 → mm_V → Option mm_V} {a0 : Nat} {i1 : Int32} {t0 : Nat} {t1 : Int32} {m : mm_V} {r} (hk29 : ∀ y0 y1 r, k29 y0 y1 = some r → plcK e.1 y1 r) (h : X12_expression_b282 e k29 a0 i1 t0 t1 m = some r) : plcK e.1 m r := by
  unfold X12_expression_b282 at h
  rcases iteS h with ⟨hc, h⟩ | ⟨hc, h⟩
  ·
    obtain ⟨r1, u2, h⟩ := bndS h
    obtain ⟨r3, u3, h⟩ := bndS h
    obtain ⟨r4, u4, h⟩ := bndS h
    exact pT (X12_waitsFor_pK  u2) (pT (X12_goes_pK  u3) (pT (X12_operand_pK  u4) ((X12_expression_b322_pK (hk29 := hk29) h))))
  ·
    cases h
theorem X12_expression_b259_pK {e : mm_E} {k29 : Int32 → mm_V → Option mm_V} {a0 : Nat} {i1 : Int32} {m : mm_V} {r} (hk29 : ∀ y0 y1 r, k29 y0 y1 = some r → plcK e.1 y1 r) (h : X12_expression_b259 e k29 a0 i1 m = some r) : plcK e.1 m r := by
  unfold X12_expression_b259 at h
  obtain ⟨r1, u1, h⟩ := bndS h
  obtain ⟨r2, u2, h⟩ := bndS h
  rcases iteS h with ⟨hc, h⟩ | ⟨hc, h⟩
  ·
    exact pT (X12_drops_pK  u1) (pT (X12_isSign_pK  u2) ((X12_expression_b282_pK (hk29 := hk29) h)))
  ·
    exact pT (X12_drops_pK  u1) (pT (X12_isSign_pK  u2) ((X12_expression_b282_pK (hk29 := hk29) h)))
theorem X12_expression_b320_pK {e : mm_E} {k29 : Int32 → mm_V → Option mm_V} {a0 : Nat} {m : mm_V} {r} (hk29 : ∀ y0 y1 r, k29 y0 y1 = some r → plcK e.1 y1 r) (h : X12_expression_b320 e k29 a0 m = some r) : plcK e.1 m r := by
  unfold X12_expression_b320 at h
  exact (X12_expression_b322_pK (hk29 := hk29) h)
theorem X12_isOpened_b38_pK {e : mm_E} {t0 : Int32} {m : mm_V} {r} (h : X12_isOpened_b38 e t0 m = some r) : plcK e.1 m r.2 := by
  unfold X12_isOpened_b38 at h
  exact (pK_rz h)
theorem X12_isOpened_b29_pK {e : mm_E} {i1 : Int32} {m : mm_V} {r} (h : X12_isOpened_b29 e i1 m = some r) : plcK e.1 m r.2 := by
  unfold X12_isOpened_b29 at h
  rcases iteS h with ⟨hc, h⟩ | ⟨hc, h⟩
  ·
    exact (X12_isOpened_b38_pK  h)
  ·
    exact (X12_isOpened_b38_pK  h)
theorem X12_isOpened_L7_pK {e : mm_E} {a0 : Nat} : ∀ {n : Nat} {v0 v1} {r}, X12_isOpened_L7 e a0 n v0 v1 = some r → plcK e.1 v1 r.2 := by
  intro n
  have key : ∀ v0 v1 r, X12_isOpened_L7 e a0 n v0 v1 = some r → plcK e.1 v1 r.2 := by
    induction n with
    | zero => intro v0 v1 r h; unfold X12_isOpened_L7 at h; cases h
    | succ n ih =>
      intro i1 m r h
      unfold X12_isOpened_L7 at h
      rcases iteS h with ⟨hc, h⟩ | ⟨hc, h⟩
      ·
        exact (X12_isOpened_b29_pK  h)
      ·
        obtain ⟨c1, u2, h⟩ := bndS h
        obtain ⟨x2, u3, h⟩ := bndS h
        obtain ⟨r3, u4, h⟩ := bndS h
        rcases iteS h with ⟨hc, h⟩ | ⟨hc, h⟩
        ·
          exact pT (X12_isOpen_pK  u4) ((X12_isOpened_b29_pK  h))
        ·
          exact pT (X12_isOpen_pK  u4) ((ih _ _ _ h))
  intro v0 v1 r h
  exact key _ _ _ h
theorem X12_isOpened_pK {e : mm_E} {a0 : Nat} {m : mm_V} {r} (h : X12_isOpened e a0 m = some r) : plcK e.1 m r.2 := by
  unfold X12_isOpened at h
  obtain ⟨x1, u1, h⟩ := bndS h
  exact (X12_isOpened_L7_pK  h)
theorem X12_closes_pK {e : mm_E} {a0 : Nat} {m : mm_V} {r} (h : X12_closes e a0 m = some r) : plcK e.1 m r := by
  unfold X12_closes at h
  obtain ⟨r1, u1, h⟩ := bndS h
  obtain ⟨x2, u2, h⟩ := bndS h
  obtain ⟨m3, u3, h⟩ := bndS h
  obtain ⟨x4, u4, h⟩ := bndS h
  obtain ⟨m5, u5, h⟩ := bndS h
  obtain ⟨r6, u6, h⟩ := bndS h
  cases h
  exact (by have z := pT (X12_drops_pK  u1) (pT (pK_pf (by decide) (by decide) u3) (pT (pK_pf (by decide) (by decide) u5) ((X12_goes_pK  u6)))); exact z)
theorem X12_expression_b186_pK {e : mm_E} {k29 : Int32 → mm_V → Option mm_V} {a0 : Nat} {i1 : Int32} {m : mm_V} {r} (hk29 : ∀ y0 y1 r, k29 y0 y1 = some r → plcK e.1 y1 r) (h : X12_expression_b186 e k29 a0 i1 m = some r) : plcK e.1 m r := by
  unfold X12_expression_b186 at h
  obtain ⟨r1, u1, h⟩ := bndS h
  rcases iteS h with ⟨hc, h⟩ | ⟨hc, h⟩
  ·
    exact pT (X12_isSign_pK  u1) ((X12_expression_b204_pK (hk29 := hk29) h))
  ·
    obtain ⟨r2, u3, h⟩ := bndS h
    rcases iteS h with ⟨hc, h⟩ | ⟨hc, h⟩
    ·
      obtain ⟨r3, u5, h⟩ := bndS h
      rcases iteS h with ⟨hc, h⟩ | ⟨hc, h⟩
      ·
        exact pT (X12_isSign_pK  u1) (pT (X12_isSign_pK  u3) (pT (X12_isSign_pK  u5) ((X12_expression_b259_pK (hk29 := hk29) h))))
      ·
        obtain ⟨r4, u7, h⟩ := bndS h
        rcases iteS h with ⟨hc, h⟩ | ⟨hc, h⟩
        ·
          obtain ⟨r5, u9, h⟩ := bndS h
          rcases iteS h with ⟨hc, h⟩ | ⟨hc, h⟩
          ·
            exact pT (X12_isSign_pK  u1) (pT (X12_isSign_pK  u3) (pT (X12_isSign_pK  u5) (pT (X12_isSign_pK  u7) (pT (X12_isSign_pK  u9) ((X12_expression_b320_pK (hk29 := hk29) h))))))
          ·
            obtain ⟨r6, u11, h⟩ := bndS h
            rcases iteS h with ⟨hc, h⟩ | ⟨hc, h⟩
            ·
              exact pT (X12_isSign_pK  u1) (pT (X12_isSign_pK  u3) (pT (X12_isSign_pK  u5) (pT (X12_isSign_pK  u7) (pT (X12_isSign_pK  u9) (pT (X12_isOpened_pK  u11) ((X12_expression_b320_pK (hk29 := hk29) h)))))))
            ·
              obtain ⟨r7, u13, h⟩ := bndS h
              exact pT (X12_isSign_pK  u1) (pT (X12_isSign_pK  u3) (pT (X12_isSign_pK  u5) (pT (X12_isSign_pK  u7) (pT (X12_isSign_pK  u9) (pT (X12_isOpened_pK  u11) (pT (X12_closes_pK  u13) ((X12_expression_b322_pK (hk29 := hk29) h))))))))
        ·
          exact pT (X12_isSign_pK  u1) (pT (X12_isSign_pK  u3) (pT (X12_isSign_pK  u5) (pT (X12_isSign_pK  u7) ((X12_expression_b259_pK (hk29 := hk29) h)))))
    ·
      exact pT (X12_isSign_pK  u1) (pT (X12_isSign_pK  u3) ((X12_expression_b204_pK (hk29 := hk29) h)))
theorem X12_expression_b161_pK {e : mm_E} {k29 : Int32 → mm_V → Option mm_V} {a0 : Nat} {i1 : Int32} {t0 : Nat} {t1 : Int32} {m : mm_V} {r} (hk29 : ∀ y0 y1 r, k29 y0 y1 = some r → plcK e.1 y1 r) (h : X12_expression_b161 e k29 a0 i1 t0 t1 m = some r) : plcK e.1 m r := by
  unfold X12_expression_b161 at h
  rcases iteS h with ⟨hc, h⟩ | ⟨hc, h⟩
  ·
    obtain ⟨r1, u2, h⟩ := bndS h
    obtain ⟨c3, u3, h⟩ := bndS h
    obtain ⟨x4, u4, h⟩ := bndS h
    obtain ⟨m5, u5, h⟩ := bndS h
    obtain ⟨r6, u6, h⟩ := bndS h
    obtain ⟨r7, u7, h⟩ := bndS h
    exact pT (X12_waitsFor_pK  u2) (pT (pK_sz u5) (pT (X12_goes_pK  u6) (pT (X12_operand_pK  u7) ((X12_expression_b322_pK (hk29 := hk29) h)))))
  ·
    cases h
theorem X12_expression_b127_pK {e : mm_E} {k29 : Int32 → mm_V → Option mm_V} {a0 : Nat} {i1 : Int32} {m : mm_V} {r} (hk29 : ∀ y0 y1 r, k29 y0 y1 = some r → plcK e.1 y1 r) (h : X12_expression_b127 e k29 a0 i1 m = some r) : plcK e.1 m r := by
  unfold X12_expression_b127 at h
  obtain ⟨c1, u1, h⟩ := bndS h
  obtain ⟨x2, u2, h⟩ := bndS h
  obtain ⟨x3, u3, h⟩ := bndS h
  rcases iteS h with ⟨hc, h⟩ | ⟨hc, h⟩
  ·
    exact (X12_expression_b186_pK (hk29 := hk29) h)
  ·
    obtain ⟨r4, u5, h⟩ := bndS h
    obtain ⟨r5, u6, h⟩ := bndS h
    rcases iteS h with ⟨hc, h⟩ | ⟨hc, h⟩
    ·
      exact pT (X12_drops_pK  u5) (pT (X12_isSign_pK  u6) ((X12_expression_b161_pK (hk29 := hk29) h)))
    ·
      exact pT (X12_drops_pK  u5) (pT (X12_isSign_pK  u6) ((X12_expression_b161_pK (hk29 := hk29) h)))
theorem X12_expression_L29_pK {e : mm_E} {a0 : Nat} : ∀ {n : Nat} {v0 v1} {r}, X12_expression_L29 e a0 n v0 v1 = some r → plcK e.1 v1 r := by
  intro n
  have key : ∀ v0 v1 r, X12_expression_L29 e a0 n v0 v1 = some r → plcK e.1 v1 r := by
    induction n with
    | zero => intro v0 v1 r h; unfold X12_expression_L29 at h; cases h
    | succ n ih =>
      intro i1 m r h
      unfold X12_expression_L29 at h
      rcases iteS h with ⟨hc, h⟩ | ⟨hc, h⟩
      ·
        exact (X12_expression_b325_pK  h)
      ·
        obtain ⟨r1, u2, h⟩ := bndS h
        rcases iteS h with ⟨hc, h⟩ | ⟨hc, h⟩
        ·
          exact pT (X12_isGood_pK  u2) ((X12_expression_b325_pK  h))
        ·
          obtain ⟨r2, u4, h⟩ := bndS h
          rcases iteS h with ⟨hc, h⟩ | ⟨hc, h⟩
          ·
            exact pT (X12_isGood_pK  u2) (pT (X12_knownWord_pK  u4) ((X12_expression_b57_pK (hk29 := (fun y0 y1 r h => ih y0 y1 r h)) h)))
          ·
            rcases iteS h with ⟨hc, h⟩ | ⟨hc, h⟩
            ·
              obtain ⟨r3, u7, h⟩ := bndS h
              rcases iteS h with ⟨hc, h⟩ | ⟨hc, h⟩
              ·
                exact pT (X12_isGood_pK  u2) (pT (X12_knownWord_pK  u4) (pT (X12_isSign_pK  u7) ((X12_expression_b127_pK (hk29 := (fun y0 y1 r h => ih y0 y1 r h)) h))))
              ·
                obtain ⟨r4, u9, h⟩ := bndS h
                rcases iteS h with ⟨hc, h⟩ | ⟨hc, h⟩
                ·
                  exact pT (X12_isGood_pK  u2) (pT (X12_knownWord_pK  u4) (pT (X12_isSign_pK  u7) (pT (X12_isSign_pK  u9) ((X12_expression_b186_pK (hk29 := (fun y0 y1 r h => ih y0 y1 r h)) h)))))
                ·
                  exact pT (X12_isGood_pK  u2) (pT (X12_knownWord_pK  u4) (pT (X12_isSign_pK  u7) (pT (X12_isSign_pK  u9) ((X12_expression_b127_pK (hk29 := (fun y0 y1 r h => ih y0 y1 r h)) h)))))
            ·
              exact pT (X12_isGood_pK  u2) (pT (X12_knownWord_pK  u4) ((X12_expression_b57_pK (hk29 := (fun y0 y1 r h => ih y0 y1 r h)) h)))
  intro v0 v1 r h
  exact key _ _ _ h
theorem X12_expression_pK {e : mm_E} {a0 : Nat} {m : mm_V} {r} (h : X12_expression e a0 m = some r) : plcK e.1 m r := by
  unfold X12_expression at h
  obtain ⟨r1, u1, h⟩ := bndS h
  rcases iteS h with ⟨hc, h⟩ | ⟨hc, h⟩
  ·
    obtain ⟨m2, u3, h⟩ := bndS h
    obtain ⟨m3, u4, h⟩ := bndS h
    obtain ⟨r4, u5, h⟩ := bndS h
    obtain ⟨r5, u6, h⟩ := bndS h
    exact pT (X12_isGood_pK  u1) (pT (pK_pf (by decide) (by decide) u3) (pT (pK_pf (by decide) (by decide) u4) (pT (X12_deeper_pK  u5) (pT (X12_operand_pK  u6) ((X12_expression_L29_pK  h))))))
  ·
    cases h
    exact (by have z := (X12_isGood_pK  u1); exact z)
