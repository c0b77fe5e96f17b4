/-! INT FIELDS of the model stay int fields (written by genf.py). -/
def fldK (g : mm_T) (m m' : mm_V) : Prop := ∀ a n, g a = some (12, n) → ∀ j, j ≠ 20 → (∃ x, m a j = .int x) → ∃ x, m' a j = .int x
theorem fR (g : mm_T) (m : mm_V) : fldK g m m := fun _ _ _ _ _ h => h
theorem fT {g : mm_T} {m1 m2 m3 : mm_V} (h1 : fldK g m1 m2) (h2 : fldK g m2 m3) : fldK g m1 m3 := fun a n ha j hj h => h2 a n ha j hj (h1 a n ha j hj h)
theorem fK_up {g : mm_T} {m : mm_V} {a k : Nat} {x : Int32} : fldK g m (mm_up m a k (.int x)) := fun b n _ j _ h => by
  by_cases hh : b = a ∧ j = k
  · rw [hh.1, hh.2, up_at]; exact ⟨x, rfl⟩
  · rw [up_ne _ _ (by omega)]; exact h
theorem fK_ne {g : mm_T} {m : mm_V} {a k t n : Nat} {v : Value} (ha : g a = some (t, n)) (ht : t ≠ 12) : fldK g m (mm_up m a k v) := fun b n' hb j _ h => by
  have : b ≠ a := fun hh => by rw [hh, ha] at hb; cases hb; exact ht rfl
  rw [up_ne _ _ (Or.inl this)]; exact h
theorem fK_pf {g : mm_T} {m m' : mm_V} {t n a k : Nat} {x : Int32} (h : mm_pf g m t n a k (.int x) = some m') : fldK g m m' := by
  unfold mm_pf at h
  rcases iteS h with ⟨hc, h⟩ | ⟨hc, h⟩
  · cases h; exact fK_up
  · cases h
theorem fK_pl {g : mm_T} {m m' : mm_V} {t n a : Nat} {x : Int64} (h : mm_pf g m t n a 20 (.long x) = some m') : fldK g m m' := by
  unfold mm_pf at h
  rcases iteS h with ⟨hc, h⟩ | ⟨hc, h⟩
  · cases h; exact fun b _ _ j hj hh => by rw [up_ne _ _ (Or.inr hj)]; exact hh
  · cases h
theorem fK_pz {g : mm_T} {m m' : mm_V} {t n a k : Nat} {x : Int32} (h : mm_pz g m t n a k x = some m') : fldK g m m' := by
  unfold mm_pz at h
  rcases iteS h with ⟨hc, h⟩ | ⟨hc, h⟩
  · rcases iteS h with ⟨hc2, h⟩ | ⟨hc2, h⟩
    · cases h; exact fK_up
    · cases h
  · cases h
theorem fK_si {g : mm_T} {m m' : mm_V} {a : Nat} {i x : Int32} (h : mm_si g m a i x = some m') : fldK g m m' := by
  unfold mm_si at h
  cases hk : mm_ix g 20 a i with
  | none => rw [hk] at h; cases h
  | some k => rw [hk] at h; cases h; exact fK_up
theorem fK_sj {g : mm_T} {m m' : mm_V} {a : Nat} {i : Int32} {x : Int64} (h : mm_sj g m a i x = some m') : fldK g m m' := by
  unfold mm_sj at h
  cases hk : mm_ix g 21 a i with
  | none => rw [hk] at h; cases h
  | some k =>
    obtain ⟨n, hn⟩ := ix_tag hk
    rw [hk] at h; cases h; exact fK_ne hn (by decide)
theorem fK_sz {g : mm_T} {m m' : mm_V} {a : Nat} {i x : Int32} (h : mm_sz g m a i x = some m') : fldK g m m' := by
  unfold mm_sz at h
  cases hk : mm_ix g 22 a i with
  | none => rw [hk] at h; cases h
  | some k =>
    rw [hk] at h
    rcases iteS h with ⟨hc, h⟩ | ⟨hc, h⟩
    · cases h; exact fK_up
    · cases h
theorem fK_rz {g : mm_T} {m : mm_V} {x : Int32} {r : Int32 × mm_V} (h : mm_rz x m = some r) : fldK g m r.2 := by
  unfold mm_rz at h
  rcases iteS h with ⟨hc, h⟩ | ⟨hc, h⟩
  · cases h; exact fR _ _
  · cases h
theorem X12_isGood_b12_fK {e : mm_E} {t0 : Int32} {m : mm_V} {r} (h : X12_isGood_b12 e t0 m = some r) : fldK e.1 m r.2 := by
  unfold X12_isGood_b12 at h
  exact (fK_rz h)
theorem X12_isGood_fK {e : mm_E} {a0 : Nat} {m : mm_V} {r} (h : X12_isGood e a0 m = some r) : fldK e.1 m r.2 := by
  unfold X12_isGood at h
  obtain ⟨x1, u1, h⟩ := bndS h
  rcases iteS h with ⟨hc, h⟩ | ⟨hc, h⟩
  ·
    exact (X12_isGood_b12_fK  h)
  ·
    exact (X12_isGood_b12_fK  h)
theorem X12_wrong_fK {e : mm_E} {a0 : Nat} {i1 : Int32} {m : mm_V} {r} (h : X12_wrong e a0 i1 m = some r) : fldK e.1 m r := by
  unfold X12_wrong at h
  obtain ⟨x1, u1, h⟩ := bndS h
  rcases iteS h with ⟨hc, h⟩ | ⟨hc, h⟩
  ·
    obtain ⟨m2, u3, h⟩ := bndS h
    obtain ⟨x3, u4, h⟩ := bndS h
    obtain ⟨m4, u5, h⟩ := bndS h
    cases h
    exact (by have z := fT (fK_pf u3) ((fK_pf u5)); exact z)
  ·
    cases h
    exact fR _ _
theorem X12_deeper_b61_fK {e : mm_E} {t0 : Nat} {t1 : Int32} {m : mm_V} {r} (h : X12_deeper_b61 e t0 t1 m = some r) : fldK e.1 m r := by
  unfold X12_deeper_b61 at h
  rcases iteS h with ⟨hc, h⟩ | ⟨hc, h⟩
  ·
    obtain ⟨r1, u2, h⟩ := bndS h
    cases h
    exact (by have z := (X12_wrong_fK  u2); exact z)
  ·
    cases h
theorem X12_deeper_b56_fK {e : mm_E} {t0 : Nat} {m : mm_V} {r} (h : X12_deeper_b56 e t0 m = some r) : fldK e.1 m r := by
  unfold X12_deeper_b56 at h
  exact (X12_deeper_b61_fK  h)
theorem X12_isSign_b21_fK {e : mm_E} {t0 : Int32} {m : mm_V} {r} (h : X12_isSign_b21 e t0 m = some r) : fldK e.1 m r.2 := by
  unfold X12_isSign_b21 at h
  exact (fK_rz h)
theorem X12_isSign_b20_fK {e : mm_E} {m : mm_V} {r} (h : X12_isSign_b20 e m = some r) : fldK e.1 m r.2 := by
  unfold X12_isSign_b20 at h
  exact (X12_isSign_b21_fK  h)
theorem X12_isSign_fK {e : mm_E} {a0 : Nat} {i1 : Int32} {m : mm_V} {r} (h : X12_isSign e a0 i1 m = some r) : fldK e.1 m r.2 := by
  unfold X12_isSign at h
  obtain ⟨x1, u1, h⟩ := bndS h
  rcases iteS h with ⟨hc, h⟩ | ⟨hc, h⟩
  ·
    exact (X12_isSign_b20_fK  h)
  ·
    obtain ⟨x2, u3, h⟩ := bndS h
    rcases iteS h with ⟨hc, h⟩ | ⟨hc, h⟩
    ·
      exact (X12_isSign_b20_fK  h)
    ·
      exact (X12_isSign_b21_fK  h)
theorem X12_deeper_fK {e : mm_E} {a0 : Nat} {m : mm_V} {r} (h : X12_deeper e a0 m = some r) : fldK e.1 m r := by
  unfold X12_deeper at h
  obtain ⟨x1, u1, h⟩ := bndS h
  rcases iteS h with ⟨hc, h⟩ | ⟨hc, h⟩
  ·
    obtain ⟨x2, u3, h⟩ := bndS h
    rcases iteS h with ⟨hc, h⟩ | ⟨hc, h⟩
    ·
      exact (X12_deeper_b56_fK  h)
    ·
      obtain ⟨x3, u5, h⟩ := bndS h
      rcases iteS h with ⟨hc, h⟩ | ⟨hc, h⟩
      ·
        exact (X12_deeper_b56_fK  h)
      ·
        obtain ⟨r4, u7, h⟩ := bndS h
        rcases iteS h with ⟨hc, h⟩ | ⟨hc, h⟩
        ·
          exact fT (X12_isSign_fK  u7) ((X12_deeper_b61_fK  h))
        ·
          exact fT (X12_isSign_fK  u7) ((X12_deeper_b56_fK  h))
  ·
    obtain ⟨x5, u9, h⟩ := bndS h
    obtain ⟨m6, u10, h⟩ := bndS h
    obtain ⟨c7, u11, h⟩ := bndS h
    obtain ⟨x8, u12, h⟩ := bndS h
    obtain ⟨m9, u13, h⟩ := bndS h
    cases h
    exact (by have z := fT (fK_pf u10) ((fK_sz u13)); exact z)
theorem X12_part_b101_fK {e : mm_E} {m : mm_V} {r} (h : X12_part_b101 e m = some r) : fldK e.1 m r := by
  unfold X12_part_b101 at h
  cases h
  exact fR _ _
theorem X12_byteAt_b18_fK {e : mm_E} {t0 : Int32} {m : mm_V} {r} (h : X12_byteAt_b18 e t0 m = some r) : fldK e.1 m r.2 := by
  unfold X12_byteAt_b18 at h
  cases h
  exact fR _ _
theorem X12_byteAt_fK {e : mm_E} {a0 : Nat} {i1 : Int32} {m : mm_V} {r} (h : X12_byteAt e a0 i1 m = some r) : fldK e.1 m r.2 := by
  unfold X12_byteAt at h
  obtain ⟨x1, u1, h⟩ := bndS h
  rcases iteS h with ⟨hc, h⟩ | ⟨hc, h⟩
  ·
    exact (X12_byteAt_b18_fK  h)
  ·
    obtain ⟨c2, u3, h⟩ := bndS h
    obtain ⟨x3, u4, h⟩ := bndS h
    exact (X12_byteAt_b18_fK  h)
theorem X12_isLetter_b17_fK {e : mm_E} {t0 : Int32} {m : mm_V} {r} (h : X12_isLetter_b17 e t0 m = some r) : fldK e.1 m r.2 := by
  unfold X12_isLetter_b17 at h
  exact (fK_rz h)
theorem X12_isLetter_b16_fK {e : mm_E} {m : mm_V} {r} (h : X12_isLetter_b16 e m = some r) : fldK e.1 m r.2 := by
  unfold X12_isLetter_b16 at h
  exact (X12_isLetter_b17_fK  h)
theorem X12_isLetter_fK {e : mm_E} {i0 : Int32} {m : mm_V} {r} (h : X12_isLetter e i0 m = some r) : fldK e.1 m r.2 := by
  unfold X12_isLetter at h
  rcases iteS h with ⟨hc, h⟩ | ⟨hc, h⟩
  ·
    exact (X12_isLetter_b16_fK  h)
  ·
    rcases iteS h with ⟨hc, h⟩ | ⟨hc, h⟩
    ·
      exact (X12_isLetter_b16_fK  h)
    ·
      exact (X12_isLetter_b17_fK  h)
theorem X12_isDigit_b17_fK {e : mm_E} {t0 : Int32} {m : mm_V} {r} (h : X12_isDigit_b17 e t0 m = some r) : fldK e.1 m r.2 := by
  unfold X12_isDigit_b17 at h
  exact (fK_rz h)
theorem X12_isDigit_b16_fK {e : mm_E} {m : mm_V} {r} (h : X12_isDigit_b16 e m = some r) : fldK e.1 m r.2 := by
  unfold X12_isDigit_b16 at h
  exact (X12_isDigit_b17_fK  h)
theorem X12_isDigit_fK {e : mm_E} {i0 : Int32} {m : mm_V} {r} (h : X12_isDigit e i0 m = some r) : fldK e.1 m r.2 := by
  unfold X12_isDigit at h
  rcases iteS h with ⟨hc, h⟩ | ⟨hc, h⟩
  ·
    exact (X12_isDigit_b16_fK  h)
  ·
    rcases iteS h with ⟨hc, h⟩ | ⟨hc, h⟩
    ·
      exact (X12_isDigit_b16_fK  h)
    ·
      exact (X12_isDigit_b17_fK  h)
theorem X12_goes_b331_fK {e : mm_E} {a0 : Nat} {m : mm_V} {r} (h : X12_goes_b331 e a0 m = some r) : fldK e.1 m r := by
  unfold X12_goes_b331 at h
  obtain ⟨x1, u1, h⟩ := bndS h
  obtain ⟨x2, u2, h⟩ := bndS h
  obtain ⟨m3, u3, h⟩ := bndS h
  cases h
  exact (by have z := (fK_pf u3); exact z)
theorem X12_goes_b328_fK {e : mm_E} {a0 : Nat} {t0 : Nat} {t1 : Int32} {m : mm_V} {r} (h : X12_goes_b328 e a0 t0 t1 m = some r) : fldK e.1 m r := by
  unfold X12_goes_b328 at h
  obtain ⟨m1, u1, h⟩ := bndS h
  exact fT (fK_pf u1) ((X12_goes_b331_fK  h))
theorem X12_goes_b323_fK {e : mm_E} {a0 : Nat} {t0 : Nat} {m : mm_V} {r} (h : X12_goes_b323 e a0 t0 m = some r) : fldK e.1 m r := by
  unfold X12_goes_b323 at h
  exact (X12_goes_b328_fK  h)
theorem X12_goes_b237_fK {e : mm_E} {k187 : mm_V → Option mm_V} {a0 : Nat} {m : mm_V} {r} (hk187 : ∀ y0 r, k187 y0 = some r → fldK e.1 y0 r) (h : X12_goes_b237 e k187 a0 m = some r) : fldK e.1 m r := by
  unfold X12_goes_b237 at h
  obtain ⟨x1, u1, h⟩ := bndS h
  obtain ⟨m2, u2, h⟩ := bndS h
  exact fT (fK_pf u2) ((hk187 _ _ h))
theorem X12_goes_L187_fK {e : mm_E} {a0 : Nat} : ∀ {n : Nat} {v0} {r}, X12_goes_L187 e a0 n v0 = some r → fldK e.1 v0 r := by
  intro n
  have key : ∀ v0 r, X12_goes_L187 e a0 n v0 = some r → fldK e.1 v0 r := by
    induction n with
    | zero => intro v0 r h; unfold X12_goes_L187 at h; cases h
    | succ n ih =>
      intro m r h
      unfold X12_goes_L187 at h
      obtain ⟨x1, u1, h⟩ := bndS h
      obtain ⟨r2, u2, h⟩ := bndS h
      obtain ⟨r3, u3, h⟩ := bndS h
      rcases iteS h with ⟨hc, h⟩ | ⟨hc, h⟩
      ·
        obtain ⟨m4, u5, h⟩ := bndS h
        exact fT (X12_byteAt_fK  u2) (fT (X12_isDigit_fK  u3) (fT (fK_pf u5) ((X12_goes_b331_fK  h))))
      ·
        obtain ⟨x5, u6, h⟩ := bndS h
        obtain ⟨x6, u7, h⟩ := bndS h
        rcases iteS h with ⟨hc, h⟩ | ⟨hc, h⟩
        ·
          exact fT (X12_byteAt_fK  u2) (fT (X12_isDigit_fK  u3) ((X12_goes_b237_fK (hk187 := (fun y0 r h => ih y0 r h)) h)))
        ·
          obtain ⟨x7, u9, h⟩ := bndS h
          obtain ⟨x8, u10, h⟩ := bndS h
          obtain ⟨r9, u11, h⟩ := bndS h
          obtain ⟨m10, u12, h⟩ := bndS h
          exact fT (X12_byteAt_fK  u2) (fT (X12_isDigit_fK  u3) (fT (X12_byteAt_fK  u11) (fT (fK_pf u12) ((X12_goes_b237_fK (hk187 := (fun y0 r h => ih y0 r h)) h)))))
  intro v0 r h
  exact key _  _ h
theorem X12_goes_b159_fK {e : mm_E} {k108 : mm_V → Option mm_V} {a0 : Nat} {m : mm_V} {r} (hk108 : ∀ y0 r, k108 y0 = some r → fldK e.1 y0 r) (h : X12_goes_b159 e k108 a0 m = some r) : fldK e.1 m r := by
  unfold X12_goes_b159 at h
  obtain ⟨x1, u1, h⟩ := bndS h
  obtain ⟨m2, u2, h⟩ := bndS h
  exact fT (fK_pf u2) ((hk108 _ _ h))
theorem X12_goes_L108_fK {e : mm_E} {a0 : Nat} : ∀ {n : Nat} {v0} {r}, X12_goes_L108 e a0 n v0 = some r → fldK e.1 v0 r := by
  intro n
  have key : ∀ v0 r, X12_goes_L108 e a0 n v0 = some r → fldK e.1 v0 r := by
    induction n with
    | zero => intro v0 r h; unfold X12_goes_L108 at h; cases h
    | succ n ih =>
      intro m r h
      unfold X12_goes_L108 at h
      obtain ⟨x1, u1, h⟩ := bndS h
      obtain ⟨r2, u2, h⟩ := bndS h
      obtain ⟨r3, u3, h⟩ := bndS h
      rcases iteS h with ⟨hc, h⟩ | ⟨hc, h⟩
      ·
        obtain ⟨m4, u5, h⟩ := bndS h
        exact fT (X12_byteAt_fK  u2) (fT (X12_isLetter_fK  u3) (fT (fK_pf u5) ((X12_goes_b331_fK  h))))
      ·
        obtain ⟨x5, u6, h⟩ := bndS h
        obtain ⟨x6, u7, h⟩ := bndS h
        rcases iteS h with ⟨hc, h⟩ | ⟨hc, h⟩
        ·
          exact fT (X12_byteAt_fK  u2) (fT (X12_isLetter_fK  u3) ((X12_goes_b159_fK (hk108 := (fun y0 r h => ih y0 r h)) h)))
        ·
          obtain ⟨y7, u9, h⟩ := bndS h
          obtain ⟨x8, u10, h⟩ := bndS h
          obtain ⟨r9, u11, h⟩ := bndS h
          obtain ⟨m10, u12, h⟩ := bndS h
          exact fT (X12_byteAt_fK  u2) (fT (X12_isLetter_fK  u3) (fT (X12_byteAt_fK  u11) (fT (fK_pl u12) ((X12_goes_b159_fK (hk108 := (fun y0 r h => ih y0 r h)) h)))))
  intro v0 r h
  exact key _  _ h
theorem X12_goes_b50_fK {e : mm_E} {a0 : Nat} {m : mm_V} {r} (h : X12_goes_b50 e a0 m = some r) : fldK e.1 m r := by
  unfold X12_goes_b50 at h
  obtain ⟨x1, u1, h⟩ := bndS h
  obtain ⟨m2, u2, h⟩ := bndS h
  obtain ⟨m3, u3, h⟩ := bndS h
  obtain ⟨m4, u4, h⟩ := bndS h
  obtain ⟨x5, u5, h⟩ := bndS h
  obtain ⟨r6, u6, h⟩ := bndS h
  obtain ⟨m7, u7, h⟩ := bndS h
  obtain ⟨x8, u8, h⟩ := bndS h
  obtain ⟨x9, u9, h⟩ := bndS h
  rcases iteS h with ⟨hc, h⟩ | ⟨hc, h⟩
  ·
    obtain ⟨r10, u11, h⟩ := bndS h
    rcases iteS h with ⟨hc, h⟩ | ⟨hc, h⟩
    ·
      obtain ⟨r11, u13, h⟩ := bndS h
      rcases iteS h with ⟨hc, h⟩ | ⟨hc, h⟩
      ·
        obtain ⟨x12, u15, h⟩ := bndS h
        obtain ⟨m13, u16, h⟩ := bndS h
        rcases iteS h with ⟨hc, h⟩ | ⟨hc, h⟩
        ·
          exact fT (fK_pf u2) (fT (fK_pl u3) (fT (fK_pf u4) (fT (X12_byteAt_fK  u6) (fT (fK_pf u7) (fT (X12_isLetter_fK  u11) (fT (X12_isDigit_fK  u13) (fT (fK_pf u16) ((X12_goes_b323_fK  h)))))))))
        ·
          rcases iteS h with ⟨hc, h⟩ | ⟨hc, h⟩
          ·
            exact fT (fK_pf u2) (fT (fK_pl u3) (fT (fK_pf u4) (fT (X12_byteAt_fK  u6) (fT (fK_pf u7) (fT (X12_isLetter_fK  u11) (fT (X12_isDigit_fK  u13) (fT (fK_pf u16) ((X12_goes_b323_fK  h)))))))))
          ·
            rcases iteS h with ⟨hc, h⟩ | ⟨hc, h⟩
            ·
              exact fT (fK_pf u2) (fT (fK_pl u3) (fT (fK_pf u4) (fT (X12_byteAt_fK  u6) (fT (fK_pf u7) (fT (X12_isLetter_fK  u11) (fT (X12_isDigit_fK  u13) (fT (fK_pf u16) ((X12_goes_b323_fK  h)))))))))
            ·
              rcases iteS h with ⟨hc, h⟩ | ⟨hc, h⟩
              ·
                exact fT (fK_pf u2) (fT (fK_pl u3) (fT (fK_pf u4) (fT (X12_byteAt_fK  u6) (fT (fK_pf u7) (fT (X12_isLetter_fK  u11) (fT (X12_isDigit_fK  u13) (fT (fK_pf u16) ((X12_goes_b323_fK  h)))))))))
              ·
                rcases iteS h with ⟨hc, h⟩ | ⟨hc, h⟩
                ·
                  exact fT (fK_pf u2) (fT (fK_pl u3) (fT (fK_pf u4) (fT (X12_byteAt_fK  u6) (fT (fK_pf u7) (fT (X12_isLetter_fK  u11) (fT (X12_isDigit_fK  u13) (fT (fK_pf u16) ((X12_goes_b323_fK  h)))))))))
                ·
                  rcases iteS h with ⟨hc, h⟩ | ⟨hc, h⟩
                  ·
                    exact fT (fK_pf u2) (fT (fK_pl u3) (fT (fK_pf u4) (fT (X12_byteAt_fK  u6) (fT (fK_pf u7) (fT (X12_isLetter_fK  u11) (fT (X12_isDigit_fK  u13) (fT (fK_pf u16) ((X12_goes_b323_fK  h)))))))))
                  ·
                    rcases iteS h with ⟨hc, h⟩ | ⟨hc, h⟩
                    ·
                      exact fT (fK_pf u2) (fT (fK_pl u3) (fT (fK_pf u4) (fT (X12_byteAt_fK  u6) (fT (fK_pf u7) (fT (X12_isLetter_fK  u11) (fT (X12_isDigit_fK  u13) (fT (fK_pf u16) ((X12_goes_b323_fK  h)))))))))
                    ·
                      rcases iteS h with ⟨hc, h⟩ | ⟨hc, h⟩
                      ·
                        exact fT (fK_pf u2) (fT (fK_pl u3) (fT (fK_pf u4) (fT (X12_byteAt_fK  u6) (fT (fK_pf u7) (fT (X12_isLetter_fK  u11) (fT (X12_isDigit_fK  u13) (fT (fK_pf u16) ((X12_goes_b323_fK  h)))))))))
                      ·
                        rcases iteS h with ⟨hc, h⟩ | ⟨hc, h⟩
                        ·
                          exact fT (fK_pf u2) (fT (fK_pl u3) (fT (fK_pf u4) (fT (X12_byteAt_fK  u6) (fT (fK_pf u7) (fT (X12_isLetter_fK  u11) (fT (X12_isDigit_fK  u13) (fT (fK_pf u16) ((X12_goes_b328_fK  h)))))))))
                        ·
                          exact fT (fK_pf u2) (fT (fK_pl u3) (fT (fK_pf u4) (fT (X12_byteAt_fK  u6) (fT (fK_pf u7) (fT (X12_isLetter_fK  u11) (fT (X12_isDigit_fK  u13) (fT (fK_pf u16) ((X12_goes_b323_fK  h)))))))))
      ·
        exact fT (fK_pf u2) (fT (fK_pl u3) (fT (fK_pf u4) (fT (X12_byteAt_fK  u6) (fT (fK_pf u7) (fT (X12_isLetter_fK  u11) (fT (X12_isDigit_fK  u13) ((X12_goes_L187_fK  h))))))))
    ·
      exact fT (fK_pf u2) (fT (fK_pl u3) (fT (fK_pf u4) (fT (X12_byteAt_fK  u6) (fT (fK_pf u7) (fT (X12_isLetter_fK  u11) ((X12_goes_L108_fK  h)))))))
  ·
    obtain ⟨m14, u26, h⟩ := bndS h
    exact fT (fK_pf u2) (fT (fK_pl u3) (fT (fK_pf u4) (fT (X12_byteAt_fK  u6) (fT (fK_pf u7) (fT (fK_pf u26) ((X12_goes_b331_fK  h)))))))
theorem X12_goes_b37_fK {e : mm_E} {k0 : mm_V → Option mm_V} {a0 : Nat} {m : mm_V} {r} (hk0 : ∀ y0 r, k0 y0 = some r → fldK e.1 y0 r) (h : X12_goes_b37 e k0 a0 m = some r) : fldK e.1 m r := by
  unfold X12_goes_b37 at h
  obtain ⟨x1, u1, h⟩ := bndS h
  obtain ⟨m2, u2, h⟩ := bndS h
  exact fT (fK_pf u2) ((hk0 _ _ h))
theorem X12_goes_L0_fK {e : mm_E} {a0 : Nat} : ∀ {n : Nat} {v0} {r}, X12_goes_L0 e a0 n v0 = some r → fldK e.1 v0 r := by
  intro n
  have key : ∀ v0 r, X12_goes_L0 e a0 n v0 = some r → fldK e.1 v0 r := by
    induction n with
    | zero => intro v0 r h; unfold X12_goes_L0 at h; cases h
    | succ n ih =>
      intro m r h
      unfold X12_goes_L0 at h
      obtain ⟨x1, u1, h⟩ := bndS h
      obtain ⟨x2, u2, h⟩ := bndS h
      rcases iteS h with ⟨hc, h⟩ | ⟨hc, h⟩
      ·
        exact (X12_goes_b50_fK  h)
      ·
        obtain ⟨x3, u4, h⟩ := bndS h
        obtain ⟨r4, u5, h⟩ := bndS h
        rcases iteS h with ⟨hc, h⟩ | ⟨hc, h⟩
        ·
          exact fT (X12_byteAt_fK  u5) ((X12_goes_b37_fK (hk0 := (fun y0 r h => ih y0 r h)) h))
        ·
          obtain ⟨x5, u7, h⟩ := bndS h
          obtain ⟨r6, u8, h⟩ := bndS h
          rcases iteS h with ⟨hc, h⟩ | ⟨hc, h⟩
          ·
            exact fT (X12_byteAt_fK  u5) (fT (X12_byteAt_fK  u8) ((X12_goes_b50_fK  h)))
          ·
            exact fT (X12_byteAt_fK  u5) (fT (X12_byteAt_fK  u8) ((X12_goes_b37_fK (hk0 := (fun y0 r h => ih y0 r h)) h)))
  intro v0 r h
  exact key _  _ h
theorem X12_goes_fK {e : mm_E} {a0 : Nat} {m : mm_V} {r} (h : X12_goes e a0 m = some r) : fldK e.1 m r := by
  unfold X12_goes at h
  exact (X12_goes_L0_fK  h)
theorem X12_part_b90_fK {e : mm_E} {a0 : Nat} {m : mm_V} {r} (h : X12_part_b90 e a0 m = some r) : fldK e.1 m r := by
  unfold X12_part_b90 at h
  obtain ⟨r1, u1, h⟩ := bndS h
  rcases iteS h with ⟨hc, h⟩ | ⟨hc, h⟩
  ·
    exact fT (X12_isGood_fK  u1) ((X12_part_b101_fK  h))
  ·
    obtain ⟨r2, u3, h⟩ := bndS h
    exact fT (X12_isGood_fK  u1) (fT (X12_goes_fK  u3) ((X12_part_b101_fK  h)))
theorem X12_knownWord_b17_fK {e : mm_E} {m : mm_V} {r} (h : X12_knownWord_b17 e m = some r) : fldK e.1 m r.2 := by
  unfold X12_knownWord_b17 at h
  cases h
  exact fR _ _
theorem X12_spelled_b84_fK {e : mm_E} {j6 : Int64} {m : mm_V} {r} (h : X12_spelled_b84 e j6 m = some r) : fldK e.1 m r.2 := by
  unfold X12_spelled_b84 at h
  cases h
  exact fR _ _
theorem X12_spelled_b66_fK {e : mm_E} {i5 : Int32} {j6 : Int64} {m : mm_V} {r} (h : X12_spelled_b66 e i5 j6 m = some r) : fldK e.1 m r.2 := by
  unfold X12_spelled_b66 at h
  rcases iteS h with ⟨hc, h⟩ | ⟨hc, h⟩
  ·
    exact (X12_spelled_b84_fK  h)
  ·
    exact (X12_spelled_b84_fK  h)
theorem X12_spelled_b48_fK {e : mm_E} {i4 : Int32} {i5 : Int32} {j6 : Int64} {m : mm_V} {r} (h : X12_spelled_b48 e i4 i5 j6 m = some r) : fldK e.1 m r.2 := by
  unfold X12_spelled_b48 at h
  rcases iteS h with ⟨hc, h⟩ | ⟨hc, h⟩
  ·
    exact (X12_spelled_b66_fK  h)
  ·
    exact (X12_spelled_b66_fK  h)
theorem X12_spelled_b32_fK {e : mm_E} {i3 : Int32} {i4 : Int32} {i5 : Int32} {j6 : Int64} {m : mm_V} {r} (h : X12_spelled_b32 e i3 i4 i5 j6 m = some r) : fldK e.1 m r.2 := by
  unfold X12_spelled_b32 at h
  rcases iteS h with ⟨hc, h⟩ | ⟨hc, h⟩
  ·
    exact (X12_spelled_b48_fK  h)
  ·
    exact (X12_spelled_b48_fK  h)
theorem X12_spelled_fK {e : mm_E} {i0 : Int32} {i1 : Int32} {i2 : Int32} {i3 : Int32} {i4 : Int32} {i5 : Int32} {m : mm_V} {r} (h : X12_spelled e i0 i1 i2 i3 i4 i5 m = some r) : fldK e.1 m r.2 := by
  unfold X12_spelled at h
  rcases iteS h with ⟨hc, h⟩ | ⟨hc, h⟩
  ·
    exact (X12_spelled_b32_fK  h)
  ·
    exact (X12_spelled_b32_fK  h)
theorem X12_letters_fK {e : mm_E} {i0 : Int32} {m : mm_V} {r} (h : X12_letters e i0 m = some r) : fldK e.1 m r.2 := by
  unfold X12_letters at h
  rcases iteS h with ⟨hc, h⟩ | ⟨hc, h⟩
  ·
    obtain ⟨r1, u2, h⟩ := bndS h
    cases h
    exact (by have z := (X12_spelled_fK  u2); exact z)
  ·
    rcases iteS h with ⟨hc, h⟩ | ⟨hc, h⟩
    ·
      obtain ⟨r3, u4, h⟩ := bndS h
      cases h
      exact (by have z := (X12_spelled_fK  u4); exact z)
    ·
      rcases iteS h with ⟨hc, h⟩ | ⟨hc, h⟩
      ·
        obtain ⟨r5, u6, h⟩ := bndS h
        cases h
        exact (by have z := (X12_spelled_fK  u6); exact z)
      ·
        rcases iteS h with ⟨hc, h⟩ | ⟨hc, h⟩
        ·
          obtain ⟨r7, u8, h⟩ := bndS h
          cases h
          exact (by have z := (X12_spelled_fK  u8); exact z)
        ·
          rcases iteS h with ⟨hc, h⟩ | ⟨hc, h⟩
          ·
            obtain ⟨r9, u10, h⟩ := bndS h
            cases h
            exact (by have z := (X12_spelled_fK  u10); exact z)
          ·
            rcases iteS h with ⟨hc, h⟩ | ⟨hc, h⟩
            ·
              obtain ⟨r11, u12, h⟩ := bndS h
              cases h
              exact (by have z := (X12_spelled_fK  u12); exact z)
            ·
              rcases iteS h with ⟨hc, h⟩ | ⟨hc, h⟩
              ·
                obtain ⟨r13, u14, h⟩ := bndS h
                cases h
                exact (by have z := (X12_spelled_fK  u14); exact z)
              ·
                rcases iteS h with ⟨hc, h⟩ | ⟨hc, h⟩
                ·
                  obtain ⟨r15, u16, h⟩ := bndS h
                  cases h
                  exact (by have z := (X12_spelled_fK  u16); exact z)
                ·
                  rcases iteS h with ⟨hc, h⟩ | ⟨hc, h⟩
                  ·
                    obtain ⟨r17, u18, h⟩ := bndS h
                    cases h
                    exact (by have z := (X12_spelled_fK  u18); exact z)
                  ·
                    rcases iteS h with ⟨hc, h⟩ | ⟨hc, h⟩
                    ·
                      obtain ⟨r19, u20, h⟩ := bndS h
                      cases h
                      exact (by have z := (X12_spelled_fK  u20); exact z)
                    ·
                      rcases iteS h with ⟨hc, h⟩ | ⟨hc, h⟩
                      ·
                        obtain ⟨r21, u22, h⟩ := bndS h
                        cases h
                        exact (by have z := (X12_spelled_fK  u22); exact z)
                      ·
                        rcases iteS h with ⟨hc, h⟩ | ⟨hc, h⟩
                        ·
                          obtain ⟨r23, u24, h⟩ := bndS h
                          cases h
                          exact (by have z := (X12_spelled_fK  u24); exact z)
                        ·
                          rcases iteS h with ⟨hc, h⟩ | ⟨hc, h⟩
                          ·
                            obtain ⟨r25, u26, h⟩ := bndS h
                            cases h
                            exact (by have z := (X12_spelled_fK  u26); exact z)
                          ·
                            rcases iteS h with ⟨hc, h⟩ | ⟨hc, h⟩
                            ·
                              obtain ⟨r27, u28, h⟩ := bndS h
                              cases h
                              exact (by have z := (X12_spelled_fK  u28); exact z)
                            ·
                              rcases iteS h with ⟨hc, h⟩ | ⟨hc, h⟩
                              ·
                                obtain ⟨r29, u30, h⟩ := bndS h
                                cases h
                                exact (by have z := (X12_spelled_fK  u30); exact z)
                              ·
                                rcases iteS h with ⟨hc, h⟩ | ⟨hc, h⟩
                                ·
                                  obtain ⟨r31, u32, h⟩ := bndS h
                                  cases h
                                  exact (by have z := (X12_spelled_fK  u32); exact z)
                                ·
                                  obtain ⟨r33, u33, h⟩ := bndS h
                                  cases h
                                  exact (by have z := (X12_spelled_fK  u33); exact z)
theorem X12_knownWord_L21_fK {e : mm_E} {a0 : Nat} : ∀ {n : Nat} {v0 v1} {r}, X12_knownWord_L21 e a0 n v0 v1 = some r → fldK e.1 v1 r.2 := by
  intro n
  have key : ∀ v0 v1 r, X12_knownWord_L21 e a0 n v0 v1 = some r → fldK e.1 v1 r.2 := by
    induction n with
    | zero => intro v0 v1 r h; unfold X12_knownWord_L21 at h; cases h
    | succ n ih =>
      intro i1 m r h
      unfold X12_knownWord_L21 at h
      rcases iteS h with ⟨hc, h⟩ | ⟨hc, h⟩
      ·
        cases h
        exact fR _ _
      ·
        obtain ⟨r1, u2, h⟩ := bndS h
        obtain ⟨y2, u3, h⟩ := bndS h
        rcases iteS h with ⟨hc, h⟩ | ⟨hc, h⟩
        ·
          exact fT (X12_letters_fK  u2) ((ih _ _ _ h))
        ·
          cases h
          exact (by have z := (X12_letters_fK  u2); exact z)
  intro v0 v1 r h
  exact key _ _ _ h
theorem X12_knownWord_fK {e : mm_E} {a0 : Nat} {m : mm_V} {r} (h : X12_knownWord e a0 m = some r) : fldK e.1 m r.2 := by
  unfold X12_knownWord at h
  obtain ⟨x1, u1, h⟩ := bndS h
  rcases iteS h with ⟨hc, h⟩ | ⟨hc, h⟩
  ·
    exact (X12_knownWord_b17_fK  h)
  ·
    obtain ⟨x2, u3, h⟩ := bndS h
    rcases iteS h with ⟨hc, h⟩ | ⟨hc, h⟩
    ·
      exact (X12_knownWord_L21_fK  h)
    ·
      exact (X12_knownWord_b17_fK  h)
theorem X12_puts_fK {e : mm_E} {a0 : Nat} {i1 : Int32} {m : mm_V} {r} (h : X12_puts e a0 i1 m = some r) : fldK e.1 m r := by
  unfold X12_puts at h
  obtain ⟨c1, u1, h⟩ := bndS h
  obtain ⟨x2, u2, h⟩ := bndS h
  obtain ⟨m3, u3, h⟩ := bndS h
  obtain ⟨x4, u4, h⟩ := bndS h
  obtain ⟨m5, u5, h⟩ := bndS h
  cases h
  exact (by have z := fT (fK_si u3) ((fK_pf u5)); exact z)
theorem X12_part_b72_fK {e : mm_E} {a0 : Nat} {i1 : Int32} {m : mm_V} {r} (h : X12_part_b72 e a0 i1 m = some r) : fldK e.1 m r := by
  unfold X12_part_b72 at h
  obtain ⟨r1, u1, h⟩ := bndS h
  obtain ⟨r2, u2, h⟩ := bndS h
  exact fT (X12_puts_fK  u1) (fT (X12_puts_fK  u2) ((X12_part_b90_fK  h)))
theorem X12_part_b67_fK {e : mm_E} {a0 : Nat} {i1 : Int32} {m : mm_V} {r} (h : X12_part_b67 e a0 i1 m = some r) : fldK e.1 m r := by
  unfold X12_part_b67 at h
  obtain ⟨r1, u1, h⟩ := bndS h
  exact fT (X12_wrong_fK  u1) ((X12_part_b72_fK  h))
theorem X12_part_b29_fK {e : mm_E} {a0 : Nat} {m : mm_V} {r} (h : X12_part_b29 e a0 m = some r) : fldK e.1 m r := by
  unfold X12_part_b29 at h
  obtain ⟨r1, u1, h⟩ := bndS h
  obtain ⟨x2, u2, h⟩ := bndS h
  obtain ⟨r3, u3, h⟩ := bndS h
  exact fT (X12_puts_fK  u1) (fT (X12_puts_fK  u3) ((X12_part_b90_fK  h)))
theorem X12_part_fK {e : mm_E} {a0 : Nat} {m : mm_V} {r} (h : X12_part e a0 m = some r) : fldK e.1 m r := by
  unfold X12_part at h
  obtain ⟨r1, u1, h⟩ := bndS h
  rcases iteS h with ⟨hc, h⟩ | ⟨hc, h⟩
  ·
    obtain ⟨x2, u3, h⟩ := bndS h
    rcases iteS h with ⟨hc, h⟩ | ⟨hc, h⟩
    ·
      obtain ⟨x3, u5, h⟩ := bndS h
      rcases iteS h with ⟨hc, h⟩ | ⟨hc, h⟩
      ·
        obtain ⟨r4, u7, h⟩ := bndS h
        exact fT (X12_isGood_fK  u1) (fT (X12_wrong_fK  u7) ((X12_part_b90_fK  h)))
      ·
        obtain ⟨r5, u8, h⟩ := bndS h
        rcases iteS h with ⟨hc, h⟩ | ⟨hc, h⟩
        ·
          exact fT (X12_isGood_fK  u1) (fT (X12_knownWord_fK  u8) ((X12_part_b67_fK  h)))
        ·
          rcases iteS h with ⟨hc, h⟩ | ⟨hc, h⟩
          ·
            exact fT (X12_isGood_fK  u1) (fT (X12_knownWord_fK  u8) ((X12_part_b72_fK  h)))
          ·
            exact fT (X12_isGood_fK  u1) (fT (X12_knownWord_fK  u8) ((X12_part_b67_fK  h)))
    ·
      obtain ⟨x6, u11, h⟩ := bndS h
      rcases iteS h with ⟨hc, h⟩ | ⟨hc, h⟩
      ·
        exact fT (X12_isGood_fK  u1) ((X12_part_b29_fK  h))
      ·
        obtain ⟨r7, u13, h⟩ := bndS h
        exact fT (X12_isGood_fK  u1) (fT (X12_wrong_fK  u13) ((X12_part_b29_fK  h)))
  ·
    cases h
    exact (by have z := (X12_isGood_fK  u1); exact z)
theorem X12_operand_b120_fK {e : mm_E} {a0 : Nat} {m : mm_V} {r} (h : X12_operand_b120 e a0 m = some r) : fldK e.1 m r := by
  unfold X12_operand_b120 at h
  obtain ⟨r1, u1, h⟩ := bndS h
  cases h
  exact (by have z := (X12_part_fK  u1); exact z)
theorem X12_operand_b117_fK {e : mm_E} {k4 : Int32 → Int32 → mm_V → Option mm_V} {a0 : Nat} {i2 : Int32} {i3 : Int32} {m : mm_V} {r} (hk4 : ∀ y0 y1 y2 r, k4 y0 y1 y2 = some r → fldK e.1 y2 r) (h : X12_operand_b117 e k4 a0 i2 i3 m = some r) : fldK e.1 m r := by
  unfold X12_operand_b117 at h
  exact (hk4 _ _ _ _ h)
theorem X12_waitsFor_fK {e : mm_E} {a0 : Nat} {i1 : Int32} {m : mm_V} {r} (h : X12_waitsFor e a0 i1 m = some r) : fldK e.1 m r := by
  unfold X12_waitsFor at h
  obtain ⟨c1, u1, h⟩ := bndS h
  obtain ⟨x2, u2, h⟩ := bndS h
  obtain ⟨m3, u3, h⟩ := bndS h
  obtain ⟨x4, u4, h⟩ := bndS h
  obtain ⟨m5, u5, h⟩ := bndS h
  cases h
  exact (by have z := fT (fK_si u3) ((fK_pf u5)); exact z)
theorem X12_operand_b96_fK {e : mm_E} {k4 : Int32 → Int32 → mm_V → Option mm_V} {a0 : Nat} {i2 : Int32} {t0 : Int32} {m : mm_V} {r} (hk4 : ∀ y0 y1 y2 r, k4 y0 y1 y2 = some r → fldK e.1 y2 r) (h : X12_operand_b96 e k4 a0 i2 t0 m = some r) : fldK e.1 m r := by
  unfold X12_operand_b96 at h
  rcases iteS h with ⟨hc, h⟩ | ⟨hc, h⟩
  ·
    exact (X12_operand_b117_fK (hk4 := hk4) h)
  ·
    obtain ⟨r1, u2, h⟩ := bndS h
    obtain ⟨r2, u3, h⟩ := bndS h
    obtain ⟨r3, u4, h⟩ := bndS h
    exact fT (X12_waitsFor_fK  u2) (fT (X12_goes_fK  u3) (fT (X12_deeper_fK  u4) ((X12_operand_b117_fK (hk4 := hk4) h))))
theorem X12_operand_b95_fK {e : mm_E} {k4 : Int32 → Int32 → mm_V → Option mm_V} {a0 : Nat} {i2 : Int32} {m : mm_V} {r} (hk4 : ∀ y0 y1 y2 r, k4 y0 y1 y2 = some r → fldK e.1 y2 r) (h : X12_operand_b95 e k4 a0 i2 m = some r) : fldK e.1 m r := by
  unfold X12_operand_b95 at h
  exact (X12_operand_b96_fK (hk4 := hk4) h)
theorem X12_operand_b75_fK {e : mm_E} {k4 : Int32 → Int32 → mm_V → Option mm_V} {a0 : Nat} {i2 : Int32} {m : mm_V} {r} (hk4 : ∀ y0 y1 y2 r, k4 y0 y1 y2 = some r → fldK e.1 y2 r) (h : X12_operand_b75 e k4 a0 i2 m = some r) : fldK e.1 m r := by
  unfold X12_operand_b75 at h
  obtain ⟨r1, u1, h⟩ := bndS h
  rcases iteS h with ⟨hc, h⟩ | ⟨hc, h⟩
  ·
    exact fT (X12_isGood_fK  u1) ((X12_operand_b95_fK (hk4 := hk4) h))
  ·
    obtain ⟨r2, u3, h⟩ := bndS h
    rcases iteS h with ⟨hc, h⟩ | ⟨hc, h⟩
    ·
      exact fT (X12_isGood_fK  u1) (fT (X12_isSign_fK  u3) ((X12_operand_b95_fK (hk4 := hk4) h)))
    ·
      exact fT (X12_isGood_fK  u1) (fT (X12_isSign_fK  u3) ((X12_operand_b96_fK (hk4 := hk4) h)))
theorem X12_operand_b50_fK {e : mm_E} {k4 : Int32 → Int32 → mm_V → Option mm_V} {k18 : Int32 → mm_V → Option mm_V} {a0 : Nat} {i2 : Int32} {i4 : Int32} {m : mm_V} {r} (hk4 : ∀ y0 y1 y2 r, k4 y0 y1 y2 = some r → fldK e.1 y2 r) (hk18 : ∀ y0 y1 r, k18 y0 y1 = some r → fldK e.1 y1 r) (h : X12_operand_b50 e k4 k18 a0 i2 i4 m = some r) : fldK e.1 m r := by
  unfold X12_operand_b50 at h
  obtain ⟨r1, u1, h⟩ := bndS h
  rcases iteS h with ⟨hc, h⟩ | ⟨hc, h⟩
  ·
    obtain ⟨r2, u3, h⟩ := bndS h
    obtain ⟨r3, u4, h⟩ := bndS h
    exact fT (X12_isGood_fK  u1) (fT (X12_waitsFor_fK  u3) (fT (X12_goes_fK  u4) ((hk18 _ _ _ h))))
  ·
    exact fT (X12_isGood_fK  u1) ((hk18 _ _ _ h))
theorem X12_operand_L18_fK {e : mm_E} {k4 : Int32 → Int32 → mm_V → Option mm_V} {a0 : Nat} {i2 : Int32} (hk4 : ∀ y0 y1 y2 r, k4 y0 y1 y2 = some r → fldK e.1 y2 r) : ∀ {n : Nat} {v0 v1} {r}, X12_operand_L18 e k4 a0 i2 n v0 v1 = some r → fldK e.1 v1 r := by
  intro n
  have key : ∀ v0 v1 r, X12_operand_L18 e k4 a0 i2 n v0 v1 = some r → fldK e.1 v1 r := by
    induction n with
    | zero => intro v0 v1 r h; unfold X12_operand_L18 at h; cases h
    | succ n ih =>
      intro i4 m r h
      unfold X12_operand_L18 at h
      obtain ⟨r1, u1, h⟩ := bndS h
      rcases iteS h with ⟨hc, h⟩ | ⟨hc, h⟩
      ·
        exact fT (X12_isGood_fK  u1) ((X12_operand_b75_fK (hk4 := hk4) h))
      ·
        rcases iteS h with ⟨hc, h⟩ | ⟨hc, h⟩
        ·
          exact fT (X12_isGood_fK  u1) ((X12_operand_b75_fK (hk4 := hk4) h))
        ·
          obtain ⟨r2, u4, h⟩ := bndS h
          rcases iteS h with ⟨hc, h⟩ | ⟨hc, h⟩
          ·
            exact fT (X12_isGood_fK  u1) (fT (X12_knownWord_fK  u4) ((X12_operand_b75_fK (hk4 := hk4) h)))
          ·
            rcases iteS h with ⟨hc, h⟩ | ⟨hc, h⟩
            ·
              exact fT (X12_isGood_fK  u1) (fT (X12_knownWord_fK  u4) ((X12_operand_b50_fK (hk4 := hk4) (hk18 := (fun y0 y1 r h => ih y0 y1 r h)) h)))
            ·
              obtain ⟨r3, u7, h⟩ := bndS h
              exact fT (X12_isGood_fK  u1) (fT (X12_knownWord_fK  u4) (fT (X12_wrong_fK  u7) ((X12_operand_b50_fK (hk4 := hk4) (hk18 := (fun y0 y1 r h => ih y0 y1 r h)) h))))
  intro v0 v1 r h
  exact key _ _ _ h
theorem X12_operand_L4_fK {e : mm_E} {a0 : Nat} : ∀ {n : Nat} {v0 v1 v2} {r}, X12_operand_L4 e a0 n v0 v1 v2 = some r → fldK e.1 v2 r := by
  intro n
  have key : ∀ v0 v1 v2 r, X12_operand_L4 e a0 n v0 v1 v2 = some r → fldK e.1 v2 r := by
    induction n with
    | zero => intro v0 v1 v2 r h; unfold X12_operand_L4 at h; cases h
    | succ n ih =>
      intro i2 i3 m r h
      unfold X12_operand_L4 at h
      rcases iteS h with ⟨hc, h⟩ | ⟨hc, h⟩
      ·
        exact (X12_operand_b120_fK  h)
      ·
        obtain ⟨r1, u2, h⟩ := bndS h
        rcases iteS h with ⟨hc, h⟩ | ⟨hc, h⟩
        ·
          exact fT (X12_isGood_fK  u2) ((X12_operand_b120_fK  h))
        ·
          exact fT (X12_isGood_fK  u2) ((X12_operand_L18_fK (hk4 := (fun y0 y1 y2 r h => ih y0 y1 y2 r h)) h))
  intro v0 v1 v2 r h
  exact key _ _ _ _ h
theorem X12_operand_fK {e : mm_E} {a0 : Nat} {i1 : Int32} {m : mm_V} {r} (h : X12_operand e a0 i1 m = some r) : fldK e.1 m r := by
  unfold X12_operand at h
  exact (X12_operand_L4_fK  h)
theorem X12_drops_b68_fK {e : mm_E} {m : mm_V} {r} (h : X12_drops_b68 e m = some r) : fldK e.1 m r := by
  unfold X12_drops_b68 at h
  cases h
  exact fR _ _
theorem X12_isOpen_b11_fK {e : mm_E} {t0 : Int32} {m : mm_V} {r} (h : X12_isOpen_b11 e t0 m = some r) : fldK e.1 m r.2 := by
  unfold X12_isOpen_b11 at h
  exact (fK_rz h)
theorem X12_isOpen_fK {e : mm_E} {i0 : Int32} {m : mm_V} {r} (h : X12_isOpen e i0 m = some r) : fldK e.1 m r.2 := by
  unfold X12_isOpen at h
  rcases iteS h with ⟨hc, h⟩ | ⟨hc, h⟩
  ·
    exact (X12_isOpen_b11_fK  h)
  ·
    exact (X12_isOpen_b11_fK  h)
theorem X12_strength_b61_fK {e : mm_E} {t0 : Int32} {m : mm_V} {r} (h : X12_strength_b61 e t0 m = some r) : fldK e.1 m r.2 := by
  unfold X12_strength_b61 at h
  cases h
  exact fR _ _
theorem X12_strength_b39_fK {e : mm_E} {m : mm_V} {r} (h : X12_strength_b39 e m = some r) : fldK e.1 m r.2 := by
  unfold X12_strength_b39 at h
  exact (X12_strength_b61_fK  h)
theorem X12_strength_b55_fK {e : mm_E} {m : mm_V} {r} (h : X12_strength_b55 e m = some r) : fldK e.1 m r.2 := by
  unfold X12_strength_b55 at h
  exact (X12_strength_b61_fK  h)
theorem X12_strength_fK {e : mm_E} {i0 : Int32} {m : mm_V} {r} (h : X12_strength e i0 m = some r) : fldK e.1 m r.2 := by
  unfold X12_strength at h
  rcases iteS h with ⟨hc, h⟩ | ⟨hc, h⟩
  ·
    rcases iteS h with ⟨hc, h⟩ | ⟨hc, h⟩
    ·
      rcases iteS h with ⟨hc, h⟩ | ⟨hc, h⟩
      ·
        rcases iteS h with ⟨hc, h⟩ | ⟨hc, h⟩
        ·
          exact (X12_strength_b39_fK  h)
        ·
          rcases iteS h with ⟨hc, h⟩ | ⟨hc, h⟩
          ·
            rcases iteS h with ⟨hc, h⟩ | ⟨hc, h⟩
            ·
              exact (X12_strength_b55_fK  h)
            ·
              rcases iteS h with ⟨hc, h⟩ | ⟨hc, h⟩
              ·
                exact (X12_strength_b61_fK  h)
              ·
                exact (X12_strength_b55_fK  h)
          ·
            exact (X12_strength_b39_fK  h)
      ·
        exact (X12_strength_b61_fK  h)
    ·
      exact (X12_strength_b61_fK  h)
  ·
    exact (X12_strength_b61_fK  h)
theorem X12_drops_L0_fK {e : mm_E} {a0 : Nat} {i1 : Int32} : ∀ {n : Nat} {v0} {r}, X12_drops_L0 e a0 i1 n v0 = some r → fldK e.1 v0 r := by
  intro n
  have key : ∀ v0 r, X12_drops_L0 e a0 i1 n v0 = some r → fldK e.1 v0 r := by
    induction n with
    | zero => intro v0 r h; unfold X12_drops_L0 at h; cases h
    | succ n ih =>
      intro m r h
      unfold X12_drops_L0 at h
      obtain ⟨x1, u1, h⟩ := bndS h
      rcases iteS h with ⟨hc, h⟩ | ⟨hc, h⟩
      ·
        exact (X12_drops_b68_fK  h)
      ·
        obtain ⟨c2, u3, h⟩ := bndS h
        obtain ⟨x3, u4, h⟩ := bndS h
        obtain ⟨x4, u5, h⟩ := bndS h
        obtain ⟨r5, u6, h⟩ := bndS h
        rcases iteS h with ⟨hc, h⟩ | ⟨hc, h⟩
        ·
          exact fT (X12_isOpen_fK  u6) ((X12_drops_b68_fK  h))
        ·
          obtain ⟨c6, u8, h⟩ := bndS h
          obtain ⟨x7, u9, h⟩ := bndS h
          obtain ⟨x8, u10, h⟩ := bndS h
          obtain ⟨r9, u11, h⟩ := bndS h
          rcases iteS h with ⟨hc, h⟩ | ⟨hc, h⟩
          ·
            exact fT (X12_isOpen_fK  u6) (fT (X12_strength_fK  u11) ((X12_drops_b68_fK  h)))
          ·
            obtain ⟨x10, u13, h⟩ := bndS h
            obtain ⟨m11, u14, h⟩ := bndS h
            obtain ⟨c12, u15, h⟩ := bndS h
            obtain ⟨x13, u16, h⟩ := bndS h
            obtain ⟨x14, u17, h⟩ := bndS h
            obtain ⟨r15, u18, h⟩ := bndS h
            exact fT (X12_isOpen_fK  u6) (fT (X12_strength_fK  u11) (fT (fK_pf u14) (fT (X12_puts_fK  u18) ((ih _ _ h)))))
  intro v0 r h
  exact key _  _ h
theorem X12_drops_fK {e : mm_E} {a0 : Nat} {i1 : Int32} {m : mm_V} {r} (h : X12_drops e a0 i1 m = some r) : fldK e.1 m r := by
  unfold X12_drops at h
  exact (X12_drops_L0_fK  h)
theorem X12_expression_b345_fK {e : mm_E} {a0 : Nat} {m : mm_V} {r} (h : X12_expression_b345 e a0 m = some r) : fldK e.1 m r := by
  unfold X12_expression_b345 at h
  obtain ⟨r1, u1, h⟩ := bndS h
  obtain ⟨r2, u2, h⟩ := bndS h
  cases h
  exact (by have z := fT (X12_drops_fK  u1) ((X12_puts_fK  u2)); exact z)
theorem X12_expression_b325_fK {e : mm_E} {a0 : Nat} {m : mm_V} {r} (h : X12_expression_b325 e a0 m = some r) : fldK e.1 m r := by
  unfold X12_expression_b325 at h
  obtain ⟨r1, u1, h⟩ := bndS h
  rcases iteS h with ⟨hc, h⟩ | ⟨hc, h⟩
  ·
    exact fT (X12_isGood_fK  u1) ((X12_expression_b345_fK  h))
  ·
    obtain ⟨x2, u3, h⟩ := bndS h
    rcases iteS h with ⟨hc, h⟩ | ⟨hc, h⟩
    ·
      exact fT (X12_isGood_fK  u1) ((X12_expression_b345_fK  h))
    ·
      obtain ⟨r3, u5, h⟩ := bndS h
      exact fT (X12_isGood_fK  u1) (fT (X12_wrong_fK  u5) ((X12_expression_b345_fK  h)))
theorem X12_expression_b322_fK {e : mm_E} {k29 : Int32 → mm_V → Option mm_V} {a0 : Nat} {i1 : Int32} {m : mm_V} {r} (hk29 : ∀ y0 y1 r, k29 y0 y1 = some r → fldK e.1 y1 r) (h : X12_expression_b322 e k29 a0 i1 m = some r) : fldK e.1 m r := by
  unfold X12_expression_b322 at h
  exact (hk29 _ _ _ h)
theorem X12_expression_b84_fK {e : mm_E} {k29 : Int32 → mm_V → Option mm_V} {a0 : Nat} {i1 : Int32} {t0 : Nat} {t1 : Int32} {m : mm_V} {r} (hk29 : ∀ y0 y1 r, k29 y0 y1 = some r → fldK e.1 y1 r) (h : X12_expression_b84 e k29 a0 i1 t0 t1 m = some r) : fldK e.1 m r := by
  unfold X12_expression_b84 at h
  rcases iteS h with ⟨hc, h⟩ | ⟨hc, h⟩
  ·
    obtain ⟨r1, u2, h⟩ := bndS h
    obtain ⟨c3, u3, h⟩ := bndS h
    obtain ⟨x4, u4, h⟩ := bndS h
    obtain ⟨m5, u5, h⟩ := bndS h
    obtain ⟨r6, u6, h⟩ := bndS h
    obtain ⟨r7, u7, h⟩ := bndS h
    exact fT (X12_waitsFor_fK  u2) (fT (fK_sz u5) (fT (X12_goes_fK  u6) (fT (X12_operand_fK  u7) ((X12_expression_b322_fK (hk29 := hk29) h)))))
  ·
    cases h
theorem X12_expression_b69_fK {e : mm_E} {k29 : Int32 → mm_V → Option mm_V} {a0 : Nat} {i1 : Int32} {i2 : Int32} {t0 : Nat} {t1 : Int32} {m : mm_V} {r} (hk29 : ∀ y0 y1 r, k29 y0 y1 = some r → fldK e.1 y1 r) (h : X12_expression_b69 e k29 a0 i1 i2 t0 t1 m = some r) : fldK e.1 m r := by
  unfold X12_expression_b69 at h
  rcases iteS h with ⟨hc, h⟩ | ⟨hc, h⟩
  ·
    obtain ⟨r1, u2, h⟩ := bndS h
    rcases iteS h with ⟨hc, h⟩ | ⟨hc, h⟩
    ·
      exact fT (X12_drops_fK  u2) ((X12_expression_b84_fK (hk29 := hk29) h))
    ·
      exact fT (X12_drops_fK  u2) ((X12_expression_b84_fK (hk29 := hk29) h))
  ·
    cases h
theorem X12_expression_b57_fK {e : mm_E} {k29 : Int32 → mm_V → Option mm_V} {a0 : Nat} {i1 : Int32} {i2 : Int32} {m : mm_V} {r} (hk29 : ∀ y0 y1 r, k29 y0 y1 = some r → fldK e.1 y1 r) (h : X12_expression_b57 e k29 a0 i1 i2 m = some r) : fldK e.1 m r := by
  unfold X12_expression_b57 at h
  rcases iteS h with ⟨hc, h⟩ | ⟨hc, h⟩
  ·
    exact (X12_expression_b69_fK (hk29 := hk29) h)
  ·
    exact (X12_expression_b69_fK (hk29 := hk29) h)
theorem X12_expression_b226_fK {e : mm_E} {k29 : Int32 → mm_V → Option mm_V} {a0 : Nat} {i1 : Int32} {t0 : Nat} {t1 : Int32} {m : mm_V} {r} (hk29 : ∀ y0 y1 r, k29 y0 y1 = some r → fldK e.1 y1 r) (h : X12_expression_b226 e k29 a0 i1 t0 t1 m = some r) : fldK e.1 m r := by
  unfold X12_expression_b226 at h
  rcases iteS h with ⟨hc, h⟩ | ⟨hc, h⟩
  ·
    obtain ⟨r1, u2, h⟩ := bndS h
    obtain ⟨r3, u3, h⟩ := bndS h
    obtain ⟨r4, u4, h⟩ := bndS h
    exact fT (X12_waitsFor_fK  u2) (fT (X12_goes_fK  u3) (fT (X12_operand_fK  u4) ((X12_expression_b322_fK (hk29 := hk29) h))))
  ·
    cases h
theorem X12_expression_b204_fK {e : mm_E} {k29 : Int32 → mm_V → Option mm_V} {a0 : Nat} {i1 : Int32} {m : mm_V} {r} (hk29 : ∀ y0 y1 r, k29 y0 y1 = some r → fldK e.1 y1 r) (h : X12_expression_b204 e k29 a0 i1 m = some r) : fldK e.1 m r := by
  unfold X12_expression_b204 at h
  obtain ⟨r1, u1, h⟩ := bndS h
  obtain ⟨r2, u2, h⟩ := bndS h
  rcases iteS h with ⟨hc, h⟩ | ⟨hc, h⟩
  ·
    exact fT (X12_drops_fK  u1) (fT (X12_isSign_fK  u2) ((X12_expression_b226_fK (hk29 := hk29) h)))
  ·
    exact fT (X12_drops_fK  u1) (fT (X12_isSign_fK  u2) ((X12_expression_b226_fK (hk29 := hk29) h)))
theorem X12_expression_b282_fK {e : mm_E} {k29 : Int32 → mm_V → Option mm_V} {a0 : Nat} {i1 : Int32} {t0 : Nat} {t1 : Int32} {m : mm_V} {r} (hk29 : ∀ y0 y1 r, k29 y0 y1 = some r → fldK e.1 y1 r) (h : X12_expression_b282 e k29 a0 i1 t0 t1 m = some r) : fldK e.1 m r := by
  unfold X12_expression_b282 at h
  rcases iteS h with ⟨hc, h⟩ | ⟨hc, h⟩
  ·
    obtain ⟨r1, u2, h⟩ := bndS h
    obtain ⟨r3, u3, h⟩ := bndS h
    obtain ⟨r4, u4, h⟩ := bndS h
    exact fT (X12_waitsFor_fK  u2) (fT (X12_goes_fK  u3) (fT (X12_operand_fK  u4) ((X12_expression_b322_fK (hk29 := hk29) h))))
  ·
    cases h
theorem X12_expression_b259_fK {e : mm_E} {k29 : Int32 → mm_V → Option mm_V} {a0 : Nat} {i1 : Int32} {m : mm_V} {r} (hk29 : ∀ y0 y1 r, k29 y0 y1 = some r → fldK e.1 y1 r) (h : X12_expression_b259 e k29 a0 i1 m = some r) : fldK e.1 m r := by
  unfold X12_expression_b259 at h
  obtain ⟨r1, u1, h⟩ := bndS h
  obtain ⟨r2, u2, h⟩ := bndS h
  rcases iteS h with ⟨hc, h⟩ | ⟨hc, h⟩
  ·
    exact fT (X12_drops_fK  u1) (fT (X12_isSign_fK  u2) ((X12_expression_b282_fK (hk29 := hk29) h)))
  ·
    exact fT (X12_drops_fK  u1) (fT (X12_isSign_fK  u2) ((X12_expression_b282_fK (hk29 := hk29) h)))
theorem X12_expression_b320_fK {e : mm_E} {k29 : Int32 → mm_V → Option mm_V} {a0 : Nat} {m : mm_V} {r} (hk29 : ∀ y0 y1 r, k29 y0 y1 = some r → fldK e.1 y1 r) (h : X12_expression_b320 e k29 a0 m = some r) : fldK e.1 m r := by
  unfold X12_expression_b320 at h
  exact (X12_expression_b322_fK (hk29 := hk29) h)
theorem X12_isOpened_b38_fK {e : mm_E} {t0 : Int32} {m : mm_V} {r} (h : X12_isOpened_b38 e t0 m = some r) : fldK e.1 m r.2 := by
  unfold X12_isOpened_b38 at h
  exact (fK_rz h)
theorem X12_isOpened_b29_fK {e : mm_E} {i1 : Int32} {m : mm_V} {r} (h : X12_isOpened_b29 e i1 m = some r) : fldK e.1 m r.2 := by
  unfold X12_isOpened_b29 at h
  rcases iteS h with ⟨hc, h⟩ | ⟨hc, h⟩
  ·
    exact (X12_isOpened_b38_fK  h)
  ·
    exact (X12_isOpened_b38_fK  h)
theorem X12_isOpened_L7_fK {e : mm_E} {a0 : Nat} : ∀ {n : Nat} {v0 v1} {r}, X12_isOpened_L7 e a0 n v0 v1 = some r → fldK e.1 v1 r.2 := by
  intro n
  have key : ∀ v0 v1 r, X12_isOpened_L7 e a0 n v0 v1 = some r → fldK e.1 v1 r.2 := by
    induction n with
    | zero => intro v0 v1 r h; unfold X12_isOpened_L7 at h; cases h
    | succ n ih =>
      intro i1 m r h
      unfold X12_isOpened_L7 at h
      rcases iteS h with ⟨hc, h⟩ | ⟨hc, h⟩
      ·
        exact (X12_isOpened_b29_fK  h)
      ·
        obtain ⟨c1, u2, h⟩ := bndS h
        obtain ⟨x2, u3, h⟩ := bndS h
        obtain ⟨r3, u4, h⟩ := bndS h
        rcases iteS h with ⟨hc, h⟩ | ⟨hc, h⟩
        ·
          exact fT (X12_isOpen_fK  u4) ((X12_isOpened_b29_fK  h))
        ·
          exact fT (X12_isOpen_fK  u4) ((ih _ _ _ h))
  intro v0 v1 r h
  exact key _ _ _ h
theorem X12_isOpened_fK {e : mm_E} {a0 : Nat} {m : mm_V} {r} (h : X12_isOpened e a0 m = some r) : fldK e.1 m r.2 := by
  unfold X12_isOpened at h
  obtain ⟨x1, u1, h⟩ := bndS h
  exact (X12_isOpened_L7_fK  h)
theorem X12_closes_fK {e : mm_E} {a0 : Nat} {m : mm_V} {r} (h : X12_closes e a0 m = some r) : fldK e.1 m r := by
  unfold X12_closes at h
  obtain ⟨r1, u1, h⟩ := bndS h
  obtain ⟨x2, u2, h⟩ := bndS h
  obtain ⟨m3, u3, h⟩ := bndS h
  obtain ⟨x4, u4, h⟩ := bndS h
  obtain ⟨m5, u5, h⟩ := bndS h
  obtain ⟨r6, u6, h⟩ := bndS h
  cases h
  exact (by have z := fT (X12_drops_fK  u1) (fT (fK_pf u3) (fT (fK_pf u5) ((X12_goes_fK  u6)))); exact z)
theorem X12_expression_b186_fK {e : mm_E} {k29 : Int32 → mm_V → Option mm_V} {a0 : Nat} {i1 : Int32} {m : mm_V} {r} (hk29 : ∀ y0 y1 r, k29 y0 y1 = some r → fldK e.1 y1 r) (h : X12_expression_b186 e k29 a0 i1 m = some r) : fldK e.1 m r := by
  unfold X12_expression_b186 at h
  obtain ⟨r1, u1, h⟩ := bndS h
  rcases iteS h with ⟨hc, h⟩ | ⟨hc, h⟩
  ·
    exact fT (X12_isSign_fK  u1) ((X12_expression_b204_fK (hk29 := hk29) h))
  ·
    obtain ⟨r2, u3, h⟩ := bndS h
    rcases iteS h with ⟨hc, h⟩ | ⟨hc, h⟩
    ·
      obtain ⟨r3, u5, h⟩ := bndS h
      rcases iteS h with ⟨hc, h⟩ | ⟨hc, h⟩
      ·
        exact fT (X12_isSign_fK  u1) (fT (X12_isSign_fK  u3) (fT (X12_isSign_fK  u5) ((X12_expression_b259_fK (hk29 := hk29) h))))
      ·
        obtain ⟨r4, u7, h⟩ := bndS h
        rcases iteS h with ⟨hc, h⟩ | ⟨hc, h⟩
        ·
          obtain ⟨r5, u9, h⟩ := bndS h
          rcases iteS h with ⟨hc, h⟩ | ⟨hc, h⟩
          ·
            exact fT (X12_isSign_fK  u1) (fT (X12_isSign_fK  u3) (fT (X12_isSign_fK  u5) (fT (X12_isSign_fK  u7) (fT (X12_isSign_fK  u9) ((X12_expression_b320_fK (hk29 := hk29) h))))))
          ·
            obtain ⟨r6, u11, h⟩ := bndS h
            rcases iteS h with ⟨hc, h⟩ | ⟨hc, h⟩
            ·
              exact fT (X12_isSign_fK  u1) (fT (X12_isSign_fK  u3) (fT (X12_isSign_fK  u5) (fT (X12_isSign_fK  u7) (fT (X12_isSign_fK  u9) (fT (X12_isOpened_fK  u11) ((X12_expression_b320_fK (hk29 := hk29) h)))))))
            ·
              obtain ⟨r7, u13, h⟩ := bndS h
              exact fT (X12_isSign_fK  u1) (fT (X12_isSign_fK  u3) (fT (X12_isSign_fK  u5) (fT (X12_isSign_fK  u7) (fT (X12_isSign_fK  u9) (fT (X12_isOpened_fK  u11) (fT (X12_closes_fK  u13) ((X12_expression_b322_fK (hk29 := hk29) h))))))))
        ·
          exact fT (X12_isSign_fK  u1) (fT (X12_isSign_fK  u3) (fT (X12_isSign_fK  u5) (fT (X12_isSign_fK  u7) ((X12_expression_b259_fK (hk29 := hk29) h)))))
    ·
      exact fT (X12_isSign_fK  u1) (fT (X12_isSign_fK  u3) ((X12_expression_b204_fK (hk29 := hk29) h)))
theorem X12_expression_b161_fK {e : mm_E} {k29 : Int32 → mm_V → Option mm_V} {a0 : Nat} {i1 : Int32} {t0 : Nat} {t1 : Int32} {m : mm_V} {r} (hk29 : ∀ y0 y1 r, k29 y0 y1 = some r → fldK e.1 y1 r) (h : X12_expression_b161 e k29 a0 i1 t0 t1 m = some r) : fldK e.1 m r := by
  unfold X12_expression_b161 at h
  rcases iteS h with ⟨hc, h⟩ | ⟨hc, h⟩
  ·
    obtain ⟨r1, u2, h⟩ := bndS h
    obtain ⟨c3, u3, h⟩ := bndS h
    obtain ⟨x4, u4, h⟩ := bndS h
    obtain ⟨m5, u5, h⟩ := bndS h
    obtain ⟨r6, u6, h⟩ := bndS h
    obtain ⟨r7, u7, h⟩ := bndS h
    exact fT (X12_waitsFor_fK  u2) (fT (fK_sz u5) (fT (X12_goes_fK  u6) (fT (X12_operand_fK  u7) ((X12_expression_b322_fK (hk29 := hk29) h)))))
  ·
    cases h
theorem X12_expression_b127_fK {e : mm_E} {k29 : Int32 → mm_V → Option mm_V} {a0 : Nat} {i1 : Int32} {m : mm_V} {r} (hk29 : ∀ y0 y1 r, k29 y0 y1 = some r → fldK e.1 y1 r) (h : X12_expression_b127 e k29 a0 i1 m = some r) : fldK e.1 m r := by
  unfold X12_expression_b127 at h
  obtain ⟨c1, u1, h⟩ := bndS h
  obtain ⟨x2, u2, h⟩ := bndS h
  obtain ⟨x3, u3, h⟩ := bndS h
  rcases iteS h with ⟨hc, h⟩ | ⟨hc, h⟩
  ·
    exact (X12_expression_b186_fK (hk29 := hk29) h)
  ·
    obtain ⟨r4, u5, h⟩ := bndS h
    obtain ⟨r5, u6, h⟩ := bndS h
    rcases iteS h with ⟨hc, h⟩ | ⟨hc, h⟩
    ·
      exact fT (X12_drops_fK  u5) (fT (X12_isSign_fK  u6) ((X12_expression_b161_fK (hk29 := hk29) h)))
    ·
      exact fT (X12_drops_fK  u5) (fT (X12_isSign_fK  u6) ((X12_expression_b161_fK (hk29 := hk29) h)))
theorem X12_expression_L29_fK {e : mm_E} {a0 : Nat} : ∀ {n : Nat} {v0 v1} {r}, X12_expression_L29 e a0 n v0 v1 = some r → fldK e.1 v1 r := by
  intro n
  have key : ∀ v0 v1 r, X12_expression_L29 e a0 n v0 v1 = some r → fldK e.1 v1 r := by
    induction n with
    | zero => intro v0 v1 r h; unfold X12_expression_L29 at h; cases h
    | succ n ih =>
      intro i1 m r h
      unfold X12_expression_L29 at h
      rcases iteS h with ⟨hc, h⟩ | ⟨hc, h⟩
      ·
        exact (X12_expression_b325_fK  h)
      ·
        obtain ⟨r1, u2, h⟩ := bndS h
        rcases iteS h with ⟨hc, h⟩ | ⟨hc, h⟩
        ·
          exact fT (X12_isGood_fK  u2) ((X12_expression_b325_fK  h))
        ·
          obtain ⟨r2, u4, h⟩ := bndS h
          rcases iteS h with ⟨hc, h⟩ | ⟨hc, h⟩
          ·
            exact fT (X12_isGood_fK  u2) (fT (X12_knownWord_fK  u4) ((X12_expression_b57_fK (hk29 := (fun y0 y1 r h => ih y0 y1 r h)) h)))
          ·
            rcases iteS h with ⟨hc, h⟩ | ⟨hc, h⟩
            ·
              obtain ⟨r3, u7, h⟩ := bndS h
              rcases iteS h with ⟨hc, h⟩ | ⟨hc, h⟩
              ·
                exact fT (X12_isGood_fK  u2) (fT (X12_knownWord_fK  u4) (fT (X12_isSign_fK  u7) ((X12_expression_b127_fK (hk29 := (fun y0 y1 r h => ih y0 y1 r h)) h))))
              ·
                obtain ⟨r4, u9, h⟩ := bndS h
                rcases iteS h with ⟨hc, h⟩ | ⟨hc, h⟩
                ·
                  exact fT (X12_isGood_fK  u2) (fT (X12_knownWord_fK  u4) (fT (X12_isSign_fK  u7) (fT (X12_isSign_fK  u9) ((X12_expression_b186_fK (hk29 := (fun y0 y1 r h => ih y0 y1 r h)) h)))))
                ·
                  exact fT (X12_isGood_fK  u2) (fT (X12_knownWord_fK  u4) (fT (X12_isSign_fK  u7) (fT (X12_isSign_fK  u9) ((X12_expression_b127_fK (hk29 := (fun y0 y1 r h => ih y0 y1 r h)) h)))))
            ·
              exact fT (X12_isGood_fK  u2) (fT (X12_knownWord_fK  u4) ((X12_expression_b57_fK (hk29 := (fun y0 y1 r h => ih y0 y1 r h)) h)))
  intro v0 v1 r h
  exact key _ _ _ h
theorem X12_expression_fK {e : mm_E} {a0 : Nat} {m : mm_V} {r} (h : X12_expression e a0 m = some r) : fldK e.1 m r := by
  unfold X12_expression at h
  obtain ⟨r1, u1, h⟩ := bndS h
  rcases iteS h with ⟨hc, h⟩ | ⟨hc, h⟩
  ·
    obtain ⟨m2, u3, h⟩ := bndS h
    obtain ⟨m3, u4, h⟩ := bndS h
    obtain ⟨r4, u5, h⟩ := bndS h
    obtain ⟨r5, u6, h⟩ := bndS h
    exact fT (X12_isGood_fK  u1) (fT (fK_pf u3) (fT (fK_pf u4) (fT (X12_deeper_fK  u5) (fT (X12_operand_fK  u6) ((X12_expression_L29_fK  h))))))
  ·
    cases h
    exact (by have z := (X12_isGood_fK  u1); exact z)
