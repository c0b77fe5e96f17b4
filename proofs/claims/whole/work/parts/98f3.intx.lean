/-! INT ARRAYS stay int arrays: expressions (written by genx.py). -/
theorem X12_isGood_b12_iK {e : mm_E} {t0 : Int32} {m : mm_V} {r} (h : X12_isGood_b12 e t0 m = some r) : intK e.1 m r.2 := by
  unfold X12_isGood_b12 at h
  exact (iK_rz h)
theorem X12_isGood_iK {e : mm_E} {a0 : Nat} {m : mm_V} {r} (h : X12_isGood e a0 m = some r) : intK e.1 m r.2 := by
  unfold X12_isGood at h
  obtain ⟨x1, u1, h⟩ := bndS h
  rcases iteS h with ⟨hc, h⟩ | ⟨hc, h⟩
  ·
    exact (X12_isGood_b12_iK  h)
  ·
    exact (X12_isGood_b12_iK  h)
theorem X12_wrong_iK {e : mm_E} {a0 : Nat} {i1 : Int32} {m : mm_V} {r} (h : X12_wrong e a0 i1 m = some r) : intK e.1 m r := by
  unfold X12_wrong at h
  obtain ⟨x1, u1, h⟩ := bndS h
  rcases iteS h with ⟨hc, h⟩ | ⟨hc, h⟩
  ·
    obtain ⟨m2, u3, h⟩ := bndS h
    obtain ⟨x3, u4, h⟩ := bndS h
    obtain ⟨m4, u5, h⟩ := bndS h
    cases h
    exact (by have z := iT (iK_pf (by decide) u3) ((iK_pf (by decide) u5)); exact z)
  ·
    cases h
    exact iR _ _
theorem X12_deeper_b61_iK {e : mm_E} {t0 : Nat} {t1 : Int32} {m : mm_V} {r} (h : X12_deeper_b61 e t0 t1 m = some r) : intK e.1 m r := by
  unfold X12_deeper_b61 at h
  rcases iteS h with ⟨hc, h⟩ | ⟨hc, h⟩
  ·
    obtain ⟨r1, u2, h⟩ := bndS h
    cases h
    exact (by have z := (X12_wrong_iK  u2); exact z)
  ·
    cases h
theorem X12_deeper_b56_iK {e : mm_E} {t0 : Nat} {m : mm_V} {r} (h : X12_deeper_b56 e t0 m = some r) : intK e.1 m r := by
  unfold X12_deeper_b56 at h
  exact (X12_deeper_b61_iK  h)
theorem X12_isSign_b21_iK {e : mm_E} {t0 : Int32} {m : mm_V} {r} (h : X12_isSign_b21 e t0 m = some r) : intK e.1 m r.2 := by
  unfold X12_isSign_b21 at h
  exact (iK_rz h)
theorem X12_isSign_b20_iK {e : mm_E} {m : mm_V} {r} (h : X12_isSign_b20 e m = some r) : intK e.1 m r.2 := by
  unfold X12_isSign_b20 at h
  exact (X12_isSign_b21_iK  h)
theorem X12_isSign_iK {e : mm_E} {a0 : Nat} {i1 : Int32} {m : mm_V} {r} (h : X12_isSign e a0 i1 m = some r) : intK e.1 m r.2 := by
  unfold X12_isSign at h
  obtain ⟨x1, u1, h⟩ := bndS h
  rcases iteS h with ⟨hc, h⟩ | ⟨hc, h⟩
  ·
    exact (X12_isSign_b20_iK  h)
  ·
    obtain ⟨x2, u3, h⟩ := bndS h
    rcases iteS h with ⟨hc, h⟩ | ⟨hc, h⟩
    ·
      exact (X12_isSign_b20_iK  h)
    ·
      exact (X12_isSign_b21_iK  h)
theorem X12_deeper_iK {e : mm_E} {a0 : Nat} {m : mm_V} {r} (h : X12_deeper e a0 m = some r) : intK e.1 m r := by
  unfold X12_deeper at h
  obtain ⟨x1, u1, h⟩ := bndS h
  rcases iteS h with ⟨hc, h⟩ | ⟨hc, h⟩
  ·
    obtain ⟨x2, u3, h⟩ := bndS h
    rcases iteS h with ⟨hc, h⟩ | ⟨hc, h⟩
    ·
      exact (X12_deeper_b56_iK  h)
    ·
      obtain ⟨x3, u5, h⟩ := bndS h
      rcases iteS h with ⟨hc, h⟩ | ⟨hc, h⟩
      ·
        exact (X12_deeper_b56_iK  h)
      ·
        obtain ⟨r4, u7, h⟩ := bndS h
        rcases iteS h with ⟨hc, h⟩ | ⟨hc, h⟩
        ·
          exact iT (X12_isSign_iK  u7) ((X12_deeper_b61_iK  h))
        ·
          exact iT (X12_isSign_iK  u7) ((X12_deeper_b56_iK  h))
  ·
    obtain ⟨x5, u9, h⟩ := bndS h
    obtain ⟨m6, u10, h⟩ := bndS h
    obtain ⟨c7, u11, h⟩ := bndS h
    obtain ⟨x8, u12, h⟩ := bndS h
    obtain ⟨m9, u13, h⟩ := bndS h
    cases h
    exact (by have z := iT (iK_pf (by decide) u10) ((iK_sz u13)); exact z)
theorem X12_part_b101_iK {e : mm_E} {m : mm_V} {r} (h : X12_part_b101 e m = some r) : intK e.1 m r := by
  unfold X12_part_b101 at h
  cases h
  exact iR _ _
theorem X12_byteAt_b18_iK {e : mm_E} {t0 : Int32} {m : mm_V} {r} (h : X12_byteAt_b18 e t0 m = some r) : intK e.1 m r.2 := by
  unfold X12_byteAt_b18 at h
  cases h
  exact iR _ _
theorem X12_byteAt_iK {e : mm_E} {a0 : Nat} {i1 : Int32} {m : mm_V} {r} (h : X12_byteAt e a0 i1 m = some r) : intK e.1 m r.2 := by
  unfold X12_byteAt at h
  obtain ⟨x1, u1, h⟩ := bndS h
  rcases iteS h with ⟨hc, h⟩ | ⟨hc, h⟩
  ·
    exact (X12_byteAt_b18_iK  h)
  ·
    obtain ⟨c2, u3, h⟩ := bndS h
    obtain ⟨x3, u4, h⟩ := bndS h
    exact (X12_byteAt_b18_iK  h)
theorem X12_isLetter_b17_iK {e : mm_E} {t0 : Int32} {m : mm_V} {r} (h : X12_isLetter_b17 e t0 m = some r) : intK e.1 m r.2 := by
  unfold X12_isLetter_b17 at h
  exact (iK_rz h)
theorem X12_isLetter_b16_iK {e : mm_E} {m : mm_V} {r} (h : X12_isLetter_b16 e m = some r) : intK e.1 m r.2 := by
  unfold X12_isLetter_b16 at h
  exact (X12_isLetter_b17_iK  h)
theorem X12_isLetter_iK {e : mm_E} {i0 : Int32} {m : mm_V} {r} (h : X12_isLetter e i0 m = some r) : intK e.1 m r.2 := by
  unfold X12_isLetter at h
  rcases iteS h with ⟨hc, h⟩ | ⟨hc, h⟩
  ·
    exact (X12_isLetter_b16_iK  h)
  ·
    rcases iteS h with ⟨hc, h⟩ | ⟨hc, h⟩
    ·
      exact (X12_isLetter_b16_iK  h)
    ·
      exact (X12_isLetter_b17_iK  h)
theorem X12_isDigit_b17_iK {e : mm_E} {t0 : Int32} {m : mm_V} {r} (h : X12_isDigit_b17 e t0 m = some r) : intK e.1 m r.2 := by
  unfold X12_isDigit_b17 at h
  exact (iK_rz h)
theorem X12_isDigit_b16_iK {e : mm_E} {m : mm_V} {r} (h : X12_isDigit_b16 e m = some r) : intK e.1 m r.2 := by
  unfold X12_isDigit_b16 at h
  exact (X12_isDigit_b17_iK  h)
theorem X12_isDigit_iK {e : mm_E} {i0 : Int32} {m : mm_V} {r} (h : X12_isDigit e i0 m = some r) : intK e.1 m r.2 := by
  unfold X12_isDigit at h
  rcases iteS h with ⟨hc, h⟩ | ⟨hc, h⟩
  ·
    exact (X12_isDigit_b16_iK  h)
  ·
    rcases iteS h with ⟨hc, h⟩ | ⟨hc, h⟩
    ·
      exact (X12_isDigit_b16_iK  h)
    ·
      exact (X12_isDigit_b17_iK  h)
theorem X12_goes_b331_iK {e : mm_E} {a0 : Nat} {m : mm_V} {r} (h : X12_goes_b331 e a0 m = some r) : intK e.1 m r := by
  unfold X12_goes_b331 at h
  obtain ⟨x1, u1, h⟩ := bndS h
  obtain ⟨x2, u2, h⟩ := bndS h
  obtain ⟨m3, u3, h⟩ := bndS h
  cases h
  exact (by have z := (iK_pf (by decide) u3); exact z)
theorem X12_goes_b328_iK {e : mm_E} {a0 : Nat} {t0 : Nat} {t1 : Int32} {m : mm_V} {r} (h : X12_goes_b328 e a0 t0 t1 m = some r) : intK e.1 m r := by
  unfold X12_goes_b328 at h
  obtain ⟨m1, u1, h⟩ := bndS h
  exact iT (iK_pf (by decide) u1) ((X12_goes_b331_iK  h))
theorem X12_goes_b323_iK {e : mm_E} {a0 : Nat} {t0 : Nat} {m : mm_V} {r} (h : X12_goes_b323 e a0 t0 m = some r) : intK e.1 m r := by
  unfold X12_goes_b323 at h
  exact (X12_goes_b328_iK  h)
theorem X12_goes_b237_iK {e : mm_E} {k187 : mm_V → Option mm_V} {a0 : Nat} {m : mm_V} {r} (hk187 : ∀ y0 r, k187 y0 = some r → intK e.1 y0 r) (h : X12_goes_b237 e k187 a0 m = some r) : intK e.1 m r := by
  unfold X12_goes_b237 at h
  obtain ⟨x1, u1, h⟩ := bndS h
  obtain ⟨m2, u2, h⟩ := bndS h
  exact iT (iK_pf (by decide) u2) ((hk187 _ _ h))
theorem X12_goes_L187_iK {e : mm_E} {a0 : Nat} : ∀ {n : Nat} {v0} {r}, X12_goes_L187 e a0 n v0 = some r → intK e.1 v0 r := by
  intro n
  have key : ∀ v0 r, X12_goes_L187 e a0 n v0 = some r → intK e.1 v0 r := by
    induction n with
    | zero => intro v0 r h; unfold X12_goes_L187 at h; cases h
    | succ n ih =>
      intro m r h
      unfold X12_goes_L187 at h
      obtain ⟨x1, u1, h⟩ := bndS h
      obtain ⟨r2, u2, h⟩ := bndS h
      obtain ⟨r3, u3, h⟩ := bndS h
      rcases iteS h with ⟨hc, h⟩ | ⟨hc, h⟩
      ·
        obtain ⟨m4, u5, h⟩ := bndS h
        exact iT (X12_byteAt_iK  u2) (iT (X12_isDigit_iK  u3) (iT (iK_pf (by decide) u5) ((X12_goes_b331_iK  h))))
      ·
        obtain ⟨x5, u6, h⟩ := bndS h
        obtain ⟨x6, u7, h⟩ := bndS h
        rcases iteS h with ⟨hc, h⟩ | ⟨hc, h⟩
        ·
          exact iT (X12_byteAt_iK  u2) (iT (X12_isDigit_iK  u3) ((X12_goes_b237_iK (hk187 := (fun y0 r h => ih y0 r h)) h)))
        ·
          obtain ⟨x7, u9, h⟩ := bndS h
          obtain ⟨x8, u10, h⟩ := bndS h
          obtain ⟨r9, u11, h⟩ := bndS h
          obtain ⟨m10, u12, h⟩ := bndS h
          exact iT (X12_byteAt_iK  u2) (iT (X12_isDigit_iK  u3) (iT (X12_byteAt_iK  u11) (iT (iK_pf (by decide) u12) ((X12_goes_b237_iK (hk187 := (fun y0 r h => ih y0 r h)) h)))))
  intro v0 r h
  exact key _  _ h
theorem X12_goes_b159_iK {e : mm_E} {k108 : mm_V → Option mm_V} {a0 : Nat} {m : mm_V} {r} (hk108 : ∀ y0 r, k108 y0 = some r → intK e.1 y0 r) (h : X12_goes_b159 e k108 a0 m = some r) : intK e.1 m r := by
  unfold X12_goes_b159 at h
  obtain ⟨x1, u1, h⟩ := bndS h
  obtain ⟨m2, u2, h⟩ := bndS h
  exact iT (iK_pf (by decide) u2) ((hk108 _ _ h))
theorem X12_goes_L108_iK {e : mm_E} {a0 : Nat} : ∀ {n : Nat} {v0} {r}, X12_goes_L108 e a0 n v0 = some r → intK e.1 v0 r := by
  intro n
  have key : ∀ v0 r, X12_goes_L108 e a0 n v0 = some r → intK e.1 v0 r := by
    induction n with
    | zero => intro v0 r h; unfold X12_goes_L108 at h; cases h
    | succ n ih =>
      intro m r h
      unfold X12_goes_L108 at h
      obtain ⟨x1, u1, h⟩ := bndS h
      obtain ⟨r2, u2, h⟩ := bndS h
      obtain ⟨r3, u3, h⟩ := bndS h
      rcases iteS h with ⟨hc, h⟩ | ⟨hc, h⟩
      ·
        obtain ⟨m4, u5, h⟩ := bndS h
        exact iT (X12_byteAt_iK  u2) (iT (X12_isLetter_iK  u3) (iT (iK_pf (by decide) u5) ((X12_goes_b331_iK  h))))
      ·
        obtain ⟨x5, u6, h⟩ := bndS h
        obtain ⟨x6, u7, h⟩ := bndS h
        rcases iteS h with ⟨hc, h⟩ | ⟨hc, h⟩
        ·
          exact iT (X12_byteAt_iK  u2) (iT (X12_isLetter_iK  u3) ((X12_goes_b159_iK (hk108 := (fun y0 r h => ih y0 r h)) h)))
        ·
          obtain ⟨y7, u9, h⟩ := bndS h
          obtain ⟨x8, u10, h⟩ := bndS h
          obtain ⟨r9, u11, h⟩ := bndS h
          obtain ⟨m10, u12, h⟩ := bndS h
          exact iT (X12_byteAt_iK  u2) (iT (X12_isLetter_iK  u3) (iT (X12_byteAt_iK  u11) (iT (iK_pf (by decide) u12) ((X12_goes_b159_iK (hk108 := (fun y0 r h => ih y0 r h)) h)))))
  intro v0 r h
  exact key _  _ h
theorem X12_goes_b50_iK {e : mm_E} {a0 : Nat} {m : mm_V} {r} (h : X12_goes_b50 e a0 m = some r) : intK e.1 m r := by
  unfold X12_goes_b50 at h
  obtain ⟨x1, u1, h⟩ := bndS h
  obtain ⟨m2, u2, h⟩ := bndS h
  obtain ⟨m3, u3, h⟩ := bndS h
  obtain ⟨m4, u4, h⟩ := bndS h
  obtain ⟨x5, u5, h⟩ := bndS h
  obtain ⟨r6, u6, h⟩ := bndS h
  obtain ⟨m7, u7, h⟩ := bndS h
  obtain ⟨x8, u8, h⟩ := bndS h
  obtain ⟨x9, u9, h⟩ := bndS h
  rcases iteS h with ⟨hc, h⟩ | ⟨hc, h⟩
  ·
    obtain ⟨r10, u11, h⟩ := bndS h
    rcases iteS h with ⟨hc, h⟩ | ⟨hc, h⟩
    ·
      obtain ⟨r11, u13, h⟩ := bndS h
      rcases iteS h with ⟨hc, h⟩ | ⟨hc, h⟩
      ·
        obtain ⟨x12, u15, h⟩ := bndS h
        obtain ⟨m13, u16, h⟩ := bndS h
        rcases iteS h with ⟨hc, h⟩ | ⟨hc, h⟩
        ·
          exact iT (iK_pf (by decide) u2) (iT (iK_pf (by decide) u3) (iT (iK_pf (by decide) u4) (iT (X12_byteAt_iK  u6) (iT (iK_pf (by decide) u7) (iT (X12_isLetter_iK  u11) (iT (X12_isDigit_iK  u13) (iT (iK_pf (by decide) u16) ((X12_goes_b323_iK  h)))))))))
        ·
          rcases iteS h with ⟨hc, h⟩ | ⟨hc, h⟩
          ·
            exact iT (iK_pf (by decide) u2) (iT (iK_pf (by decide) u3) (iT (iK_pf (by decide) u4) (iT (X12_byteAt_iK  u6) (iT (iK_pf (by decide) u7) (iT (X12_isLetter_iK  u11) (iT (X12_isDigit_iK  u13) (iT (iK_pf (by decide) u16) ((X12_goes_b323_iK  h)))))))))
          ·
            rcases iteS h with ⟨hc, h⟩ | ⟨hc, h⟩
            ·
              exact iT (iK_pf (by decide) u2) (iT (iK_pf (by decide) u3) (iT (iK_pf (by decide) u4) (iT (X12_byteAt_iK  u6) (iT (iK_pf (by decide) u7) (iT (X12_isLetter_iK  u11) (iT (X12_isDigit_iK  u13) (iT (iK_pf (by decide) u16) ((X12_goes_b323_iK  h)))))))))
            ·
              rcases iteS h with ⟨hc, h⟩ | ⟨hc, h⟩
              ·
                exact iT (iK_pf (by decide) u2) (iT (iK_pf (by decide) u3) (iT (iK_pf (by decide) u4) (iT (X12_byteAt_iK  u6) (iT (iK_pf (by decide) u7) (iT (X12_isLetter_iK  u11) (iT (X12_isDigit_iK  u13) (iT (iK_pf (by decide) u16) ((X12_goes_b323_iK  h)))))))))
              ·
                rcases iteS h with ⟨hc, h⟩ | ⟨hc, h⟩
                ·
                  exact iT (iK_pf (by decide) u2) (iT (iK_pf (by decide) u3) (iT (iK_pf (by decide) u4) (iT (X12_byteAt_iK  u6) (iT (iK_pf (by decide) u7) (iT (X12_isLetter_iK  u11) (iT (X12_isDigit_iK  u13) (iT (iK_pf (by decide) u16) ((X12_goes_b323_iK  h)))))))))
                ·
                  rcases iteS h with ⟨hc, h⟩ | ⟨hc, h⟩
                  ·
                    exact iT (iK_pf (by decide) u2) (iT (iK_pf (by decide) u3) (iT (iK_pf (by decide) u4) (iT (X12_byteAt_iK  u6) (iT (iK_pf (by decide) u7) (iT (X12_isLetter_iK  u11) (iT (X12_isDigit_iK  u13) (iT (iK_pf (by decide) u16) ((X12_goes_b323_iK  h)))))))))
                  ·
                    rcases iteS h with ⟨hc, h⟩ | ⟨hc, h⟩
                    ·
                      exact iT (iK_pf (by decide) u2) (iT (iK_pf (by decide) u3) (iT (iK_pf (by decide) u4) (iT (X12_byteAt_iK  u6) (iT (iK_pf (by decide) u7) (iT (X12_isLetter_iK  u11) (iT (X12_isDigit_iK  u13) (iT (iK_pf (by decide) u16) ((X12_goes_b323_iK  h)))))))))
                    ·
                      rcases iteS h with ⟨hc, h⟩ | ⟨hc, h⟩
                      ·
                        exact iT (iK_pf (by decide) u2) (iT (iK_pf (by decide) u3) (iT (iK_pf (by decide) u4) (iT (X12_byteAt_iK  u6) (iT (iK_pf (by decide) u7) (iT (X12_isLetter_iK  u11) (iT (X12_isDigit_iK  u13) (iT (iK_pf (by decide) u16) ((X12_goes_b323_iK  h)))))))))
                      ·
                        rcases iteS h with ⟨hc, h⟩ | ⟨hc, h⟩
                        ·
                          exact iT (iK_pf (by decide) u2) (iT (iK_pf (by decide) u3) (iT (iK_pf (by decide) u4) (iT (X12_byteAt_iK  u6) (iT (iK_pf (by decide) u7) (iT (X12_isLetter_iK  u11) (iT (X12_isDigit_iK  u13) (iT (iK_pf (by decide) u16) ((X12_goes_b328_iK  h)))))))))
                        ·
                          exact iT (iK_pf (by decide) u2) (iT (iK_pf (by decide) u3) (iT (iK_pf (by decide) u4) (iT (X12_byteAt_iK  u6) (iT (iK_pf (by decide) u7) (iT (X12_isLetter_iK  u11) (iT (X12_isDigit_iK  u13) (iT (iK_pf (by decide) u16) ((X12_goes_b323_iK  h)))))))))
      ·
        exact iT (iK_pf (by decide) u2) (iT (iK_pf (by decide) u3) (iT (iK_pf (by decide) u4) (iT (X12_byteAt_iK  u6) (iT (iK_pf (by decide) u7) (iT (X12_isLetter_iK  u11) (iT (X12_isDigit_iK  u13) ((X12_goes_L187_iK  h))))))))
    ·
      exact iT (iK_pf (by decide) u2) (iT (iK_pf (by decide) u3) (iT (iK_pf (by decide) u4) (iT (X12_byteAt_iK  u6) (iT (iK_pf (by decide) u7) (iT (X12_isLetter_iK  u11) ((X12_goes_L108_iK  h)))))))
  ·
    obtain ⟨m14, u26, h⟩ := bndS h
    exact iT (iK_pf (by decide) u2) (iT (iK_pf (by decide) u3) (iT (iK_pf (by decide) u4) (iT (X12_byteAt_iK  u6) (iT (iK_pf (by decide) u7) (iT (iK_pf (by decide) u26) ((X12_goes_b331_iK  h)))))))
theorem X12_goes_b37_iK {e : mm_E} {k0 : mm_V → Option mm_V} {a0 : Nat} {m : mm_V} {r} (hk0 : ∀ y0 r, k0 y0 = some r → intK e.1 y0 r) (h : X12_goes_b37 e k0 a0 m = some r) : intK e.1 m r := by
  unfold X12_goes_b37 at h
  obtain ⟨x1, u1, h⟩ := bndS h
  obtain ⟨m2, u2, h⟩ := bndS h
  exact iT (iK_pf (by decide) u2) ((hk0 _ _ h))
theorem X12_goes_L0_iK {e : mm_E} {a0 : Nat} : ∀ {n : Nat} {v0} {r}, X12_goes_L0 e a0 n v0 = some r → intK e.1 v0 r := by
  intro n
  have key : ∀ v0 r, X12_goes_L0 e a0 n v0 = some r → intK e.1 v0 r := by
    induction n with
    | zero => intro v0 r h; unfold X12_goes_L0 at h; cases h
    | succ n ih =>
      intro m r h
      unfold X12_goes_L0 at h
      obtain ⟨x1, u1, h⟩ := bndS h
      obtain ⟨x2, u2, h⟩ := bndS h
      rcases iteS h with ⟨hc, h⟩ | ⟨hc, h⟩
      ·
        exact (X12_goes_b50_iK  h)
      ·
        obtain ⟨x3, u4, h⟩ := bndS h
        obtain ⟨r4, u5, h⟩ := bndS h
        rcases iteS h with ⟨hc, h⟩ | ⟨hc, h⟩
        ·
          exact iT (X12_byteAt_iK  u5) ((X12_goes_b37_iK (hk0 := (fun y0 r h => ih y0 r h)) h))
        ·
          obtain ⟨x5, u7, h⟩ := bndS h
          obtain ⟨r6, u8, h⟩ := bndS h
          rcases iteS h with ⟨hc, h⟩ | ⟨hc, h⟩
          ·
            exact iT (X12_byteAt_iK  u5) (iT (X12_byteAt_iK  u8) ((X12_goes_b50_iK  h)))
          ·
            exact iT (X12_byteAt_iK  u5) (iT (X12_byteAt_iK  u8) ((X12_goes_b37_iK (hk0 := (fun y0 r h => ih y0 r h)) h)))
  intro v0 r h
  exact key _  _ h
theorem X12_goes_iK {e : mm_E} {a0 : Nat} {m : mm_V} {r} (h : X12_goes e a0 m = some r) : intK e.1 m r := by
  unfold X12_goes at h
  exact (X12_goes_L0_iK  h)
theorem X12_part_b90_iK {e : mm_E} {a0 : Nat} {m : mm_V} {r} (h : X12_part_b90 e a0 m = some r) : intK e.1 m r := by
  unfold X12_part_b90 at h
  obtain ⟨r1, u1, h⟩ := bndS h
  rcases iteS h with ⟨hc, h⟩ | ⟨hc, h⟩
  ·
    exact iT (X12_isGood_iK  u1) ((X12_part_b101_iK  h))
  ·
    obtain ⟨r2, u3, h⟩ := bndS h
    exact iT (X12_isGood_iK  u1) (iT (X12_goes_iK  u3) ((X12_part_b101_iK  h)))
theorem X12_knownWord_b17_iK {e : mm_E} {m : mm_V} {r} (h : X12_knownWord_b17 e m = some r) : intK e.1 m r.2 := by
  unfold X12_knownWord_b17 at h
  cases h
  exact iR _ _
theorem X12_spelled_b84_iK {e : mm_E} {j6 : Int64} {m : mm_V} {r} (h : X12_spelled_b84 e j6 m = some r) : intK e.1 m r.2 := by
  unfold X12_spelled_b84 at h
  cases h
  exact iR _ _
theorem X12_spelled_b66_iK {e : mm_E} {i5 : Int32} {j6 : Int64} {m : mm_V} {r} (h : X12_spelled_b66 e i5 j6 m = some r) : intK e.1 m r.2 := by
  unfold X12_spelled_b66 at h
  rcases iteS h with ⟨hc, h⟩ | ⟨hc, h⟩
  ·
    exact (X12_spelled_b84_iK  h)
  ·
    exact (X12_spelled_b84_iK  h)
theorem X12_spelled_b48_iK {e : mm_E} {i4 : Int32} {i5 : Int32} {j6 : Int64} {m : mm_V} {r} (h : X12_spelled_b48 e i4 i5 j6 m = some r) : intK e.1 m r.2 := by
  unfold X12_spelled_b48 at h
  rcases iteS h with ⟨hc, h⟩ | ⟨hc, h⟩
  ·
    exact (X12_spelled_b66_iK  h)
  ·
    exact (X12_spelled_b66_iK  h)
theorem X12_spelled_b32_iK {e : mm_E} {i3 : Int32} {i4 : Int32} {i5 : Int32} {j6 : Int64} {m : mm_V} {r} (h : X12_spelled_b32 e i3 i4 i5 j6 m = some r) : intK e.1 m r.2 := by
  unfold X12_spelled_b32 at h
  rcases iteS h with ⟨hc, h⟩ | ⟨hc, h⟩
  ·
    exact (X12_spelled_b48_iK  h)
  ·
    exact (X12_spelled_b48_iK  h)
theorem X12_spelled_iK {e : mm_E} {i0 : Int32} {i1 : Int32} {i2 : Int32} {i3 : Int32} {i4 : Int32} {i5 : Int32} {m : mm_V} {r} (h : X12_spelled e i0 i1 i2 i3 i4 i5 m = some r) : intK e.1 m r.2 := by
  unfold X12_spelled at h
  rcases iteS h with ⟨hc, h⟩ | ⟨hc, h⟩
  ·
    exact (X12_spelled_b32_iK  h)
  ·
    exact (X12_spelled_b32_iK  h)
theorem X12_letters_iK {e : mm_E} {i0 : Int32} {m : mm_V} {r} (h : X12_letters e i0 m = some r) : intK e.1 m r.2 := by
  unfold X12_letters at h
  rcases iteS h with ⟨hc, h⟩ | ⟨hc, h⟩
  ·
    obtain ⟨r1, u2, h⟩ := bndS h
    cases h
    exact (by have z := (X12_spelled_iK  u2); exact z)
  ·
    rcases iteS h with ⟨hc, h⟩ | ⟨hc, h⟩
    ·
      obtain ⟨r3, u4, h⟩ := bndS h
      cases h
      exact (by have z := (X12_spelled_iK  u4); exact z)
    ·
      rcases iteS h with ⟨hc, h⟩ | ⟨hc, h⟩
      ·
        obtain ⟨r5, u6, h⟩ := bndS h
        cases h
        exact (by have z := (X12_spelled_iK  u6); exact z)
      ·
        rcases iteS h with ⟨hc, h⟩ | ⟨hc, h⟩
        ·
          obtain ⟨r7, u8, h⟩ := bndS h
          cases h
          exact (by have z := (X12_spelled_iK  u8); exact z)
        ·
          rcases iteS h with ⟨hc, h⟩ | ⟨hc, h⟩
          ·
            obtain ⟨r9, u10, h⟩ := bndS h
            cases h
            exact (by have z := (X12_spelled_iK  u10); exact z)
          ·
            rcases iteS h with ⟨hc, h⟩ | ⟨hc, h⟩
            ·
              obtain ⟨r11, u12, h⟩ := bndS h
              cases h
              exact (by have z := (X12_spelled_iK  u12); exact z)
            ·
              rcases iteS h with ⟨hc, h⟩ | ⟨hc, h⟩
              ·
                obtain ⟨r13, u14, h⟩ := bndS h
                cases h
                exact (by have z := (X12_spelled_iK  u14); exact z)
              ·
                rcases iteS h with ⟨hc, h⟩ | ⟨hc, h⟩
                ·
                  obtain ⟨r15, u16, h⟩ := bndS h
                  cases h
                  exact (by have z := (X12_spelled_iK  u16); exact z)
                ·
                  rcases iteS h with ⟨hc, h⟩ | ⟨hc, h⟩
                  ·
                    obtain ⟨r17, u18, h⟩ := bndS h
                    cases h
                    exact (by have z := (X12_spelled_iK  u18); exact z)
                  ·
                    rcases iteS h with ⟨hc, h⟩ | ⟨hc, h⟩
                    ·
                      obtain ⟨r19, u20, h⟩ := bndS h
                      cases h
                      exact (by have z := (X12_spelled_iK  u20); exact z)
                    ·
                      rcases iteS h with ⟨hc, h⟩ | ⟨hc, h⟩
                      ·
                        obtain ⟨r21, u22, h⟩ := bndS h
                        cases h
                        exact (by have z := (X12_spelled_iK  u22); exact z)
                      ·
                        rcases iteS h with ⟨hc, h⟩ | ⟨hc, h⟩
                        ·
                          obtain ⟨r23, u24, h⟩ := bndS h
                          cases h
                          exact (by have z := (X12_spelled_iK  u24); exact z)
                        ·
                          rcases iteS h with ⟨hc, h⟩ | ⟨hc, h⟩
                          ·
                            obtain ⟨r25, u26, h⟩ := bndS h
                            cases h
                            exact (by have z := (X12_spelled_iK  u26); exact z)
                          ·
                            rcases iteS h with ⟨hc, h⟩ | ⟨hc, h⟩
                            ·
                              obtain ⟨r27, u28, h⟩ := bndS h
                              cases h
                              exact (by have z := (X12_spelled_iK  u28); exact z)
                            ·
                              rcases iteS h with ⟨hc, h⟩ | ⟨hc, h⟩
                              ·
                                obtain ⟨r29, u30, h⟩ := bndS h
                                cases h
                                exact (by have z := (X12_spelled_iK  u30); exact z)
                              ·
                                rcases iteS h with ⟨hc, h⟩ | ⟨hc, h⟩
                                ·
                                  obtain ⟨r31, u32, h⟩ := bndS h
                                  cases h
                                  exact (by have z := (X12_spelled_iK  u32); exact z)
                                ·
                                  obtain ⟨r33, u33, h⟩ := bndS h
                                  cases h
                                  exact (by have z := (X12_spelled_iK  u33); exact z)
theorem X12_knownWord_L21_iK {e : mm_E} {a0 : Nat} : ∀ {n : Nat} {v0 v1} {r}, X12_knownWord_L21 e a0 n v0 v1 = some r → intK e.1 v1 r.2 := by
  intro n
  have key : ∀ v0 v1 r, X12_knownWord_L21 e a0 n v0 v1 = some r → intK e.1 v1 r.2 := by
    induction n with
    | zero => intro v0 v1 r h; unfold X12_knownWord_L21 at h; cases h
    | succ n ih =>
      intro i1 m r h
      unfold X12_knownWord_L21 at h
      rcases iteS h with ⟨hc, h⟩ | ⟨hc, h⟩
      ·
        cases h
        exact iR _ _
      ·
        obtain ⟨r1, u2, h⟩ := bndS h
        obtain ⟨y2, u3, h⟩ := bndS h
        rcases iteS h with ⟨hc, h⟩ | ⟨hc, h⟩
        ·
          exact iT (X12_letters_iK  u2) ((ih _ _ _ h))
        ·
          cases h
          exact (by have z := (X12_letters_iK  u2); exact z)
  intro v0 v1 r h
  exact key _ _ _ h
theorem X12_knownWord_iK {e : mm_E} {a0 : Nat} {m : mm_V} {r} (h : X12_knownWord e a0 m = some r) : intK e.1 m r.2 := by
  unfold X12_knownWord at h
  obtain ⟨x1, u1, h⟩ := bndS h
  rcases iteS h with ⟨hc, h⟩ | ⟨hc, h⟩
  ·
    exact (X12_knownWord_b17_iK  h)
  ·
    obtain ⟨x2, u3, h⟩ := bndS h
    rcases iteS h with ⟨hc, h⟩ | ⟨hc, h⟩
    ·
      exact (X12_knownWord_L21_iK  h)
    ·
      exact (X12_knownWord_b17_iK  h)
theorem X12_puts_iK {e : mm_E} {a0 : Nat} {i1 : Int32} {m : mm_V} {r} (h : X12_puts e a0 i1 m = some r) : intK e.1 m r := by
  unfold X12_puts at h
  obtain ⟨c1, u1, h⟩ := bndS h
  obtain ⟨x2, u2, h⟩ := bndS h
  obtain ⟨m3, u3, h⟩ := bndS h
  obtain ⟨x4, u4, h⟩ := bndS h
  obtain ⟨m5, u5, h⟩ := bndS h
  cases h
  exact (by have z := iT (iK_si u3) ((iK_pf (by decide) u5)); exact z)
theorem X12_part_b72_iK {e : mm_E} {a0 : Nat} {i1 : Int32} {m : mm_V} {r} (h : X12_part_b72 e a0 i1 m = some r) : intK e.1 m r := by
  unfold X12_part_b72 at h
  obtain ⟨r1, u1, h⟩ := bndS h
  obtain ⟨r2, u2, h⟩ := bndS h
  exact iT (X12_puts_iK  u1) (iT (X12_puts_iK  u2) ((X12_part_b90_iK  h)))
theorem X12_part_b67_iK {e : mm_E} {a0 : Nat} {i1 : Int32} {m : mm_V} {r} (h : X12_part_b67 e a0 i1 m = some r) : intK e.1 m r := by
  unfold X12_part_b67 at h
  obtain ⟨r1, u1, h⟩ := bndS h
  exact iT (X12_wrong_iK  u1) ((X12_part_b72_iK  h))
theorem X12_part_b29_iK {e : mm_E} {a0 : Nat} {m : mm_V} {r} (h : X12_part_b29 e a0 m = some r) : intK e.1 m r := by
  unfold X12_part_b29 at h
  obtain ⟨r1, u1, h⟩ := bndS h
  obtain ⟨x2, u2, h⟩ := bndS h
  obtain ⟨r3, u3, h⟩ := bndS h
  exact iT (X12_puts_iK  u1) (iT (X12_puts_iK  u3) ((X12_part_b90_iK  h)))
theorem X12_part_iK {e : mm_E} {a0 : Nat} {m : mm_V} {r} (h : X12_part e a0 m = some r) : intK e.1 m r := by
  unfold X12_part at h
  obtain ⟨r1, u1, h⟩ := bndS h
  rcases iteS h with ⟨hc, h⟩ | ⟨hc, h⟩
  ·
    obtain ⟨x2, u3, h⟩ := bndS h
    rcases iteS h with ⟨hc, h⟩ | ⟨hc, h⟩
    ·
      obtain ⟨x3, u5, h⟩ := bndS h
      rcases iteS h with ⟨hc, h⟩ | ⟨hc, h⟩
      ·
        obtain ⟨r4, u7, h⟩ := bndS h
        exact iT (X12_isGood_iK  u1) (iT (X12_wrong_iK  u7) ((X12_part_b90_iK  h)))
      ·
        obtain ⟨r5, u8, h⟩ := bndS h
        rcases iteS h with ⟨hc, h⟩ | ⟨hc, h⟩
        ·
          exact iT (X12_isGood_iK  u1) (iT (X12_knownWord_iK  u8) ((X12_part_b67_iK  h)))
        ·
          rcases iteS h with ⟨hc, h⟩ | ⟨hc, h⟩
          ·
            exact iT (X12_isGood_iK  u1) (iT (X12_knownWord_iK  u8) ((X12_part_b72_iK  h)))
          ·
            exact iT (X12_isGood_iK  u1) (iT (X12_knownWord_iK  u8) ((X12_part_b67_iK  h)))
    ·
      obtain ⟨x6, u11, h⟩ := bndS h
      rcases iteS h with ⟨hc, h⟩ | ⟨hc, h⟩
      ·
        exact iT (X12_isGood_iK  u1) ((X12_part_b29_iK  h))
      ·
        obtain ⟨r7, u13, h⟩ := bndS h
        exact iT (X12_isGood_iK  u1) (iT (X12_wrong_iK  u13) ((X12_part_b29_iK  h)))
  ·
    cases h
    exact (by have z := (X12_isGood_iK  u1); exact z)
theorem X12_operand_b120_iK {e : mm_E} {a0 : Nat} {m : mm_V} {r} (h : X12_operand_b120 e a0 m = some r) : intK e.1 m r := by
  unfold X12_operand_b120 at h
  obtain ⟨r1, u1, h⟩ := bndS h
  cases h
  exact (by have z := (X12_part_iK  u1); exact z)
theorem X12_operand_b117_iK {e : mm_E} {k4 : Int32 → Int32 → mm_V → Option mm_V} {a0 : Nat} {i2 : Int32} {i3 : Int32} {m : mm_V} {r} (hk4 : ∀ y0 y1 y2 r, k4 y0 y1 y2 = some r → intK e.1 y2 r) (h : X12_operand_b117 e k4 a0 i2 i3 m = some r) : intK e.1 m r := by
  unfold X12_operand_b117 at h
  exact (hk4 _ _ _ _ h)
theorem X12_waitsFor_iK {e : mm_E} {a0 : Nat} {i1 : Int32} {m : mm_V} {r} (h : X12_waitsFor e a0 i1 m = some r) : intK e.1 m r := by
  unfold X12_waitsFor at h
  obtain ⟨c1, u1, h⟩ := bndS h
  obtain ⟨x2, u2, h⟩ := bndS h
  obtain ⟨m3, u3, h⟩ := bndS h
  obtain ⟨x4, u4, h⟩ := bndS h
  obtain ⟨m5, u5, h⟩ := bndS h
  cases h
  exact (by have z := iT (iK_si u3) ((iK_pf (by decide) u5)); exact z)
theorem X12_operand_b96_iK {e : mm_E} {k4 : Int32 → Int32 → mm_V → Option mm_V} {a0 : Nat} {i2 : Int32} {t0 : Int32} {m : mm_V} {r} (hk4 : ∀ y0 y1 y2 r, k4 y0 y1 y2 = some r → intK e.1 y2 r) (h : X12_operand_b96 e k4 a0 i2 t0 m = some r) : intK e.1 m r := by
  unfold X12_operand_b96 at h
  rcases iteS h with ⟨hc, h⟩ | ⟨hc, h⟩
  ·
    exact (X12_operand_b117_iK (hk4 := hk4) h)
  ·
    obtain ⟨r1, u2, h⟩ := bndS h
    obtain ⟨r2, u3, h⟩ := bndS h
    obtain ⟨r3, u4, h⟩ := bndS h
    exact iT (X12_waitsFor_iK  u2) (iT (X12_goes_iK  u3) (iT (X12_deeper_iK  u4) ((X12_operand_b117_iK (hk4 := hk4) h))))
theorem X12_operand_b95_iK {e : mm_E} {k4 : Int32 → Int32 → mm_V → Option mm_V} {a0 : Nat} {i2 : Int32} {m : mm_V} {r} (hk4 : ∀ y0 y1 y2 r, k4 y0 y1 y2 = some r → intK e.1 y2 r) (h : X12_operand_b95 e k4 a0 i2 m = some r) : intK e.1 m r := by
  unfold X12_operand_b95 at h
  exact (X12_operand_b96_iK (hk4 := hk4) h)
theorem X12_operand_b75_iK {e : mm_E} {k4 : Int32 → Int32 → mm_V → Option mm_V} {a0 : Nat} {i2 : Int32} {m : mm_V} {r} (hk4 : ∀ y0 y1 y2 r, k4 y0 y1 y2 = some r → intK e.1 y2 r) (h : X12_operand_b75 e k4 a0 i2 m = some r) : intK e.1 m r := by
  unfold X12_operand_b75 at h
  obtain ⟨r1, u1, h⟩ := bndS h
  rcases iteS h with ⟨hc, h⟩ | ⟨hc, h⟩
  ·
    exact iT (X12_isGood_iK  u1) ((X12_operand_b95_iK (hk4 := hk4) h))
  ·
    obtain ⟨r2, u3, h⟩ := bndS h
    rcases iteS h with ⟨hc, h⟩ | ⟨hc, h⟩
    ·
      exact iT (X12_isGood_iK  u1) (iT (X12_isSign_iK  u3) ((X12_operand_b95_iK (hk4 := hk4) h)))
    ·
      exact iT (X12_isGood_iK  u1) (iT (X12_isSign_iK  u3) ((X12_operand_b96_iK (hk4 := hk4) h)))
theorem X12_operand_b50_iK {e : mm_E} {k4 : Int32 → Int32 → mm_V → Option mm_V} {k18 : Int32 → mm_V → Option mm_V} {a0 : Nat} {i2 : Int32} {i4 : Int32} {m : mm_V} {r} (hk4 : ∀ y0 y1 y2 r, k4 y0 y1 y2 = some r → intK e.1 y2 r) (hk18 : ∀ y0 y1 r, k18 y0 y1 = some r → intK e.1 y1 r) (h : X12_operand_b50 e k4 k18 a0 i2 i4 m = some r) : intK e.1 m r := by
  unfold X12_operand_b50 at h
  obtain ⟨r1, u1, h⟩ := bndS h
  rcases iteS h with ⟨hc, h⟩ | ⟨hc, h⟩
  ·
    obtain ⟨r2, u3, h⟩ := bndS h
    obtain ⟨r3, u4, h⟩ := bndS h
    exact iT (X12_isGood_iK  u1) (iT (X12_waitsFor_iK  u3) (iT (X12_goes_iK  u4) ((hk18 _ _ _ h))))
  ·
    exact iT (X12_isGood_iK  u1) ((hk18 _ _ _ h))
theorem X12_operand_L18_iK {e : mm_E} {k4 : Int32 → Int32 → mm_V → Option mm_V} {a0 : Nat} {i2 : Int32} (hk4 : ∀ y0 y1 y2 r, k4 y0 y1 y2 = some r → intK e.1 y2 r) : ∀ {n : Nat} {v0 v1} {r}, X12_operand_L18 e k4 a0 i2 n v0 v1 = some r → intK e.1 v1 r := by
  intro n
  have key : ∀ v0 v1 r, X12_operand_L18 e k4 a0 i2 n v0 v1 = some r → intK e.1 v1 r := by
    induction n with
    | zero => intro v0 v1 r h; unfold X12_operand_L18 at h; cases h
    | succ n ih =>
      intro i4 m r h
      unfold X12_operand_L18 at h
      obtain ⟨r1, u1, h⟩ := bndS h
      rcases iteS h with ⟨hc, h⟩ | ⟨hc, h⟩
      ·
        exact iT (X12_isGood_iK  u1) ((X12_operand_b75_iK (hk4 := hk4) h))
      ·
        rcases iteS h with ⟨hc, h⟩ | ⟨hc, h⟩
        ·
          exact iT (X12_isGood_iK  u1) ((X12_operand_b75_iK (hk4 := hk4) h))
        ·
          obtain ⟨r2, u4, h⟩ := bndS h
          rcases iteS h with ⟨hc, h⟩ | ⟨hc, h⟩
          ·
            exact iT (X12_isGood_iK  u1) (iT (X12_knownWord_iK  u4) ((X12_operand_b75_iK (hk4 := hk4) h)))
          ·
            rcases iteS h with ⟨hc, h⟩ | ⟨hc, h⟩
            ·
              exact iT (X12_isGood_iK  u1) (iT (X12_knownWord_iK  u4) ((X12_operand_b50_iK (hk4 := hk4) (hk18 := (fun y0 y1 r h => ih y0 y1 r h)) h)))
            ·
              obtain ⟨r3, u7, h⟩ := bndS h
              exact iT (X12_isGood_iK  u1) (iT (X12_knownWord_iK  u4) (iT (X12_wrong_iK  u7) ((X12_operand_b50_iK (hk4 := hk4) (hk18 := (fun y0 y1 r h => ih y0 y1 r h)) h))))
  intro v0 v1 r h
  exact key _ _ _ h
theorem X12_operand_L4_iK {e : mm_E} {a0 : Nat} : ∀ {n : Nat} {v0 v1 v2} {r}, X12_operand_L4 e a0 n v0 v1 v2 = some r → intK e.1 v2 r := by
  intro n
  have key : ∀ v0 v1 v2 r, X12_operand_L4 e a0 n v0 v1 v2 = some r → intK e.1 v2 r := by
    induction n with
    | zero => intro v0 v1 v2 r h; unfold X12_operand_L4 at h; cases h
    | succ n ih =>
      intro i2 i3 m r h
      unfold X12_operand_L4 at h
      rcases iteS h with ⟨hc, h⟩ | ⟨hc, h⟩
      ·
        exact (X12_operand_b120_iK  h)
      ·
        obtain ⟨r1, u2, h⟩ := bndS h
        rcases iteS h with ⟨hc, h⟩ | ⟨hc, h⟩
        ·
          exact iT (X12_isGood_iK  u2) ((X12_operand_b120_iK  h))
        ·
          exact iT (X12_isGood_iK  u2) ((X12_operand_L18_iK (hk4 := (fun y0 y1 y2 r h => ih y0 y1 y2 r h)) h))
  intro v0 v1 v2 r h
  exact key _ _ _ _ h
theorem X12_operand_iK {e : mm_E} {a0 : Nat} {i1 : Int32} {m : mm_V} {r} (h : X12_operand e a0 i1 m = some r) : intK e.1 m r := by
  unfold X12_operand at h
  exact (X12_operand_L4_iK  h)
theorem X12_drops_b68_iK {e : mm_E} {m : mm_V} {r} (h : X12_drops_b68 e m = some r) : intK e.1 m r := by
  unfold X12_drops_b68 at h
  cases h
  exact iR _ _
theorem X12_isOpen_b11_iK {e : mm_E} {t0 : Int32} {m : mm_V} {r} (h : X12_isOpen_b11 e t0 m = some r) : intK e.1 m r.2 := by
  unfold X12_isOpen_b11 at h
  exact (iK_rz h)
theorem X12_isOpen_iK {e : mm_E} {i0 : Int32} {m : mm_V} {r} (h : X12_isOpen e i0 m = some r) : intK e.1 m r.2 := by
  unfold X12_isOpen at h
  rcases iteS h with ⟨hc, h⟩ | ⟨hc, h⟩
  ·
    exact (X12_isOpen_b11_iK  h)
  ·
    exact (X12_isOpen_b11_iK  h)
theorem X12_strength_b61_iK {e : mm_E} {t0 : Int32} {m : mm_V} {r} (h : X12_strength_b61 e t0 m = some r) : intK e.1 m r.2 := by
  unfold X12_strength_b61 at h
  cases h
  exact iR _ _
theorem X12_strength_b39_iK {e : mm_E} {m : mm_V} {r} (h : X12_strength_b39 e m = some r) : intK e.1 m r.2 := by
  unfold X12_strength_b39 at h
  exact (X12_strength_b61_iK  h)
theorem X12_strength_b55_iK {e : mm_E} {m : mm_V} {r} (h : X12_strength_b55 e m = some r) : intK e.1 m r.2 := by
  unfold X12_strength_b55 at h
  exact (X12_strength_b61_iK  h)
theorem X12_strength_iK {e : mm_E} {i0 : Int32} {m : mm_V} {r} (h : X12_strength e i0 m = some r) : intK e.1 m r.2 := by
  unfold X12_strength at h
  rcases iteS h with ⟨hc, h⟩ | ⟨hc, h⟩
  ·
    rcases iteS h with ⟨hc, h⟩ | ⟨hc, h⟩
    ·
      rcases iteS h with ⟨hc, h⟩ | ⟨hc, h⟩
      ·
        rcases iteS h with ⟨hc, h⟩ | ⟨hc, h⟩
        ·
          exact (X12_strength_b39_iK  h)
        ·
          rcases iteS h with ⟨hc, h⟩ | ⟨hc, h⟩
          ·
            rcases iteS h with ⟨hc, h⟩ | ⟨hc, h⟩
            ·
              exact (X12_strength_b55_iK  h)
            ·
              rcases iteS h with ⟨hc, h⟩ | ⟨hc, h⟩
              ·
                exact (X12_strength_b61_iK  h)
              ·
                exact (X12_strength_b55_iK  h)
          ·
            exact (X12_strength_b39_iK  h)
      ·
        exact (X12_strength_b61_iK  h)
    ·
      exact (X12_strength_b61_iK  h)
  ·
    exact (X12_strength_b61_iK  h)
theorem X12_drops_L0_iK {e : mm_E} {a0 : Nat} {i1 : Int32} : ∀ {n : Nat} {v0} {r}, X12_drops_L0 e a0 i1 n v0 = some r → intK e.1 v0 r := by
  intro n
  have key : ∀ v0 r, X12_drops_L0 e a0 i1 n v0 = some r → intK e.1 v0 r := by
    induction n with
    | zero => intro v0 r h; unfold X12_drops_L0 at h; cases h
    | succ n ih =>
      intro m r h
      unfold X12_drops_L0 at h
      obtain ⟨x1, u1, h⟩ := bndS h
      rcases iteS h with ⟨hc, h⟩ | ⟨hc, h⟩
      ·
        exact (X12_drops_b68_iK  h)
      ·
        obtain ⟨c2, u3, h⟩ := bndS h
        obtain ⟨x3, u4, h⟩ := bndS h
        obtain ⟨x4, u5, h⟩ := bndS h
        obtain ⟨r5, u6, h⟩ := bndS h
        rcases iteS h with ⟨hc, h⟩ | ⟨hc, h⟩
        ·
          exact iT (X12_isOpen_iK  u6) ((X12_drops_b68_iK  h))
        ·
          obtain ⟨c6, u8, h⟩ := bndS h
          obtain ⟨x7, u9, h⟩ := bndS h
          obtain ⟨x8, u10, h⟩ := bndS h
          obtain ⟨r9, u11, h⟩ := bndS h
          rcases iteS h with ⟨hc, h⟩ | ⟨hc, h⟩
          ·
            exact iT (X12_isOpen_iK  u6) (iT (X12_strength_iK  u11) ((X12_drops_b68_iK  h)))
          ·
            obtain ⟨x10, u13, h⟩ := bndS h
            obtain ⟨m11, u14, h⟩ := bndS h
            obtain ⟨c12, u15, h⟩ := bndS h
            obtain ⟨x13, u16, h⟩ := bndS h
            obtain ⟨x14, u17, h⟩ := bndS h
            obtain ⟨r15, u18, h⟩ := bndS h
            exact iT (X12_isOpen_iK  u6) (iT (X12_strength_iK  u11) (iT (iK_pf (by decide) u14) (iT (X12_puts_iK  u18) ((ih _ _ h)))))
  intro v0 r h
  exact key _  _ h
theorem X12_drops_iK {e : mm_E} {a0 : Nat} {i1 : Int32} {m : mm_V} {r} (h : X12_drops e a0 i1 m = some r) : intK e.1 m r := by
  unfold X12_drops at h
  exact (X12_drops_L0_iK  h)
theorem X12_expression_b345_iK {e : mm_E} {a0 : Nat} {m : mm_V} {r} (h : X12_expression_b345 e a0 m = some r) : intK e.1 m r := by
  unfold X12_expression_b345 at h
  obtain ⟨r1, u1, h⟩ := bndS h
  obtain ⟨r2, u2, h⟩ := bndS h
  cases h
  exact (by have z := iT (X12_drops_iK  u1) ((X12_puts_iK  u2)); exact z)
theorem X12_expression_b325_iK {e : mm_E} {a0 : Nat} {m : mm_V} {r} (h : X12_expression_b325 e a0 m = some r) : intK e.1 m r := by
  unfold X12_expression_b325 at h
  obtain ⟨r1, u1, h⟩ := bndS h
  rcases iteS h with ⟨hc, h⟩ | ⟨hc, h⟩
  ·
    exact iT (X12_isGood_iK  u1) ((X12_expression_b345_iK  h))
  ·
    obtain ⟨x2, u3, h⟩ := bndS h
    rcases iteS h with ⟨hc, h⟩ | ⟨hc, h⟩
    ·
      exact iT (X12_isGood_iK  u1) ((X12_expression_b345_iK  h))
    ·
      obtain ⟨r3, u5, h⟩ := bndS h
      exact iT (X12_isGood_iK  u1) (iT (X12_wrong_iK  u5) ((X12_expression_b345_iK  h)))
theorem X12_expression_b322_iK {e : mm_E} {k29 : Int32 → mm_V → Option mm_V} {a0 : Nat} {i1 : Int32} {m : mm_V} {r} (hk29 : ∀ y0 y1 r, k29 y0 y1 = some r → intK e.1 y1 r) (h : X12_expression_b322 e k29 a0 i1 m = some r) : intK e.1 m r := by
  unfold X12_expression_b322 at h
  exact (hk29 _ _ _ h)
theorem X12_expression_b84_iK {e : mm_E} {k29 : Int32 → mm_V → Option mm_V} {a0 : Nat} {i1 : Int32} {t0 : Nat} {t1 : Int32} {m : mm_V} {r} (hk29 : ∀ y0 y1 r, k29 y0 y1 = some r → intK e.1 y1 r) (h : X12_expression_b84 e k29 a0 i1 t0 t1 m = some r) : intK e.1 m r := by
  unfold X12_expression_b84 at h
  rcases iteS h with ⟨hc, h⟩ | ⟨hc, h⟩
  ·
    obtain ⟨r1, u2, h⟩ := bndS h
    obtain ⟨c3, u3, h⟩ := bndS h
    obtain ⟨x4, u4, h⟩ := bndS h
    obtain ⟨m5, u5, h⟩ := bndS h
    obtain ⟨r6, u6, h⟩ := bndS h
    obtain ⟨r7, u7, h⟩ := bndS h
    exact iT (X12_waitsFor_iK  u2) (iT (iK_sz u5) (iT (X12_goes_iK  u6) (iT (X12_operand_iK  u7) ((X12_expression_b322_iK (hk29 := hk29) h)))))
  ·
    cases h
theorem X12_expression_b69_iK {e : mm_E} {k29 : Int32 → mm_V → Option mm_V} {a0 : Nat} {i1 : Int32} {i2 : Int32} {t0 : Nat} {t1 : Int32} {m : mm_V} {r} (hk29 : ∀ y0 y1 r, k29 y0 y1 = some r → intK e.1 y1 r) (h : X12_expression_b69 e k29 a0 i1 i2 t0 t1 m = some r) : intK e.1 m r := by
  unfold X12_expression_b69 at h
  rcases iteS h with ⟨hc, h⟩ | ⟨hc, h⟩
  ·
    obtain ⟨r1, u2, h⟩ := bndS h
    rcases iteS h with ⟨hc, h⟩ | ⟨hc, h⟩
    ·
      exact iT (X12_drops_iK  u2) ((X12_expression_b84_iK (hk29 := hk29) h))
    ·
      exact iT (X12_drops_iK  u2) ((X12_expression_b84_iK (hk29 := hk29) h))
  ·
    cases h
theorem X12_expression_b57_iK {e : mm_E} {k29 : Int32 → mm_V → Option mm_V} {a0 : Nat} {i1 : Int32} {i2 : Int32} {m : mm_V} {r} (hk29 : ∀ y0 y1 r, k29 y0 y1 = some r → intK e.1 y1 r) (h : X12_expression_b57 e k29 a0 i1 i2 m = some r) : intK e.1 m r := by
  unfold X12_expression_b57 at h
  rcases iteS h with ⟨hc, h⟩ | ⟨hc, h⟩
  ·
    exact (X12_expression_b69_iK (hk29 := hk29) h)
  ·
    exact (X12_expression_b69_iK (hk29 := hk29) h)
theorem X12_expression_b226_iK {e : mm_E} {k29 : Int32 → mm_V → Option mm_V} {a0 : Nat} {i1 : Int32} {t0 : Nat} {t1 : Int32} {m : mm_V} {r} (hk29 : ∀ y0 y1 r, k29 y0 y1 = some r → intK e.1 y1 r) (h : X12_expression_b226 e k29 a0 i1 t0 t1 m = some r) : intK e.1 m r := by
  unfold X12_expression_b226 at h
  rcases iteS h with ⟨hc, h⟩ | ⟨hc, h⟩
  ·
    obtain ⟨r1, u2, h⟩ := bndS h
    obtain ⟨r3, u3, h⟩ := bndS h
    obtain ⟨r4, u4, h⟩ := bndS h
    exact iT (X12_waitsFor_iK  u2) (iT (X12_goes_iK  u3) (iT (X12_operand_iK  u4) ((X12_expression_b322_iK (hk29 := hk29) h))))
  ·
    cases h
theorem X12_expression_b204_iK {e : mm_E} {k29 : Int32 → mm_V → Option mm_V} {a0 : Nat} {i1 : Int32} {m : mm_V} {r} (hk29 : ∀ y0 y1 r, k29 y0 y1 = some r → intK e.1 y1 r) (h : X12_expression_b204 e k29 a0 i1 m = some r) : intK e.1 m r := by
  unfold X12_expression_b204 at h
  obtain ⟨r1, u1, h⟩ := bndS h
  obtain ⟨r2, u2, h⟩ := bndS h
  rcases iteS h with ⟨hc, h⟩ | ⟨hc, h⟩
  ·
    exact iT (X12_drops_iK  u1) (iT (X12_isSign_iK  u2) ((X12_expression_b226_iK (hk29 := hk29) h)))
  ·
    exact iT (X12_drops_iK  u1) (iT (X12_isSign_iK  u2) ((X12_expression_b226_iK (hk29 := hk29) h)))
theorem X12_expression_b282_iK {e : mm_E} {k29 : Int32 → mm_V → Option mm_V} {a0 : Nat} {i1 : Int32} {t0 : Nat} {t1 : Int32} {m : mm_V} {r} (hk29 : ∀ y0 y1 r, k29 y0 y1 = some r → intK e.1 y1 r) (h : X12_expression_b282 e k29 a0 i1 t0 t1 m = some r) : intK e.1 m r := by
  unfold X12_expression_b282 at h
  rcases iteS h with ⟨hc, h⟩ | ⟨hc, h⟩
  ·
    obtain ⟨r1, u2, h⟩ := bndS h
    obtain ⟨r3, u3, h⟩ := bndS h
    obtain ⟨r4, u4, h⟩ := bndS h
    exact iT (X12_waitsFor_iK  u2) (iT (X12_goes_iK  u3) (iT (X12_operand_iK  u4) ((X12_expression_b322_iK (hk29 := hk29) h))))
  ·
    cases h
theorem X12_expression_b259_iK {e : mm_E} {k29 : Int32 → mm_V → Option mm_V} {a0 : Nat} {i1 : Int32} {m : mm_V} {r} (hk29 : ∀ y0 y1 r, k29 y0 y1 = some r → intK e.1 y1 r) (h : X12_expression_b259 e k29 a0 i1 m = some r) : intK e.1 m r := by
  unfold X12_expression_b259 at h
  obtain ⟨r1, u1, h⟩ := bndS h
  obtain ⟨r2, u2, h⟩ := bndS h
  rcases iteS h with ⟨hc, h⟩ | ⟨hc, h⟩
  ·
    exact iT (X12_drops_iK  u1) (iT (X12_isSign_iK  u2) ((X12_expression_b282_iK (hk29 := hk29) h)))
  ·
    exact iT (X12_drops_iK  u1) (iT (X12_isSign_iK  u2) ((X12_expression_b282_iK (hk29 := hk29) h)))
theorem X12_expression_b320_iK {e : mm_E} {k29 : Int32 → mm_V → Option mm_V} {a0 : Nat} {m : mm_V} {r} (hk29 : ∀ y0 y1 r, k29 y0 y1 = some r → intK e.1 y1 r) (h : X12_expression_b320 e k29 a0 m = some r) : intK e.1 m r := by
  unfold X12_expression_b320 at h
  exact (X12_expression_b322_iK (hk29 := hk29) h)
theorem X12_isOpened_b38_iK {e : mm_E} {t0 : Int32} {m : mm_V} {r} (h : X12_isOpened_b38 e t0 m = some r) : intK e.1 m r.2 := by
  unfold X12_isOpened_b38 at h
  exact (iK_rz h)
theorem X12_isOpened_b29_iK {e : mm_E} {i1 : Int32} {m : mm_V} {r} (h : X12_isOpened_b29 e i1 m = some r) : intK e.1 m r.2 := by
  unfold X12_isOpened_b29 at h
  rcases iteS h with ⟨hc, h⟩ | ⟨hc, h⟩
  ·
    exact (X12_isOpened_b38_iK  h)
  ·
    exact (X12_isOpened_b38_iK  h)
theorem X12_isOpened_L7_iK {e : mm_E} {a0 : Nat} : ∀ {n : Nat} {v0 v1} {r}, X12_isOpened_L7 e a0 n v0 v1 = some r → intK e.1 v1 r.2 := by
  intro n
  have key : ∀ v0 v1 r, X12_isOpened_L7 e a0 n v0 v1 = some r → intK e.1 v1 r.2 := by
    induction n with
    | zero => intro v0 v1 r h; unfold X12_isOpened_L7 at h; cases h
    | succ n ih =>
      intro i1 m r h
      unfold X12_isOpened_L7 at h
      rcases iteS h with ⟨hc, h⟩ | ⟨hc, h⟩
      ·
        exact (X12_isOpened_b29_iK  h)
      ·
        obtain ⟨c1, u2, h⟩ := bndS h
        obtain ⟨x2, u3, h⟩ := bndS h
        obtain ⟨r3, u4, h⟩ := bndS h
        rcases iteS h with ⟨hc, h⟩ | ⟨hc, h⟩
        ·
          exact iT (X12_isOpen_iK  u4) ((X12_isOpened_b29_iK  h))
        ·
          exact iT (X12_isOpen_iK  u4) ((ih _ _ _ h))
  intro v0 v1 r h
  exact key _ _ _ h
theorem X12_isOpened_iK {e : mm_E} {a0 : Nat} {m : mm_V} {r} (h : X12_isOpened e a0 m = some r) : intK e.1 m r.2 := by
  unfold X12_isOpened at h
  obtain ⟨x1, u1, h⟩ := bndS h
  exact (X12_isOpened_L7_iK  h)
theorem X12_closes_iK {e : mm_E} {a0 : Nat} {m : mm_V} {r} (h : X12_closes e a0 m = some r) : intK e.1 m r := by
  unfold X12_closes at h
  obtain ⟨r1, u1, h⟩ := bndS h
  obtain ⟨x2, u2, h⟩ := bndS h
  obtain ⟨m3, u3, h⟩ := bndS h
  obtain ⟨x4, u4, h⟩ := bndS h
  obtain ⟨m5, u5, h⟩ := bndS h
  obtain ⟨r6, u6, h⟩ := bndS h
  cases h
  exact (by have z := iT (X12_drops_iK  u1) (iT (iK_pf (by decide) u3) (iT (iK_pf (by decide) u5) ((X12_goes_iK  u6)))); exact z)
theorem X12_expression_b186_iK {e : mm_E} {k29 : Int32 → mm_V → Option mm_V} {a0 : Nat} {i1 : Int32} {m : mm_V} {r} (hk29 : ∀ y0 y1 r, k29 y0 y1 = some r → intK e.1 y1 r) (h : X12_expression_b186 e k29 a0 i1 m = some r) : intK e.1 m r := by
  unfold X12_expression_b186 at h
  obtain ⟨r1, u1, h⟩ := bndS h
  rcases iteS h with ⟨hc, h⟩ | ⟨hc, h⟩
  ·
    exact iT (X12_isSign_iK  u1) ((X12_expression_b204_iK (hk29 := hk29) h))
  ·
    obtain ⟨r2, u3, h⟩ := bndS h
    rcases iteS h with ⟨hc, h⟩ | ⟨hc, h⟩
    ·
      obtain ⟨r3, u5, h⟩ := bndS h
      rcases iteS h with ⟨hc, h⟩ | ⟨hc, h⟩
      ·
        exact iT (X12_isSign_iK  u1) (iT (X12_isSign_iK  u3) (iT (X12_isSign_iK  u5) ((X12_expression_b259_iK (hk29 := hk29) h))))
      ·
        obtain ⟨r4, u7, h⟩ := bndS h
        rcases iteS h with ⟨hc, h⟩ | ⟨hc, h⟩
        ·
          obtain ⟨r5, u9, h⟩ := bndS h
          rcases iteS h with ⟨hc, h⟩ | ⟨hc, h⟩
          ·
            exact iT (X12_isSign_iK  u1) (iT (X12_isSign_iK  u3) (iT (X12_isSign_iK  u5) (iT (X12_isSign_iK  u7) (iT (X12_isSign_iK  u9) ((X12_expression_b320_iK (hk29 := hk29) h))))))
          ·
            obtain ⟨r6, u11, h⟩ := bndS h
            rcases iteS h with ⟨hc, h⟩ | ⟨hc, h⟩
            ·
              exact iT (X12_isSign_iK  u1) (iT (X12_isSign_iK  u3) (iT (X12_isSign_iK  u5) (iT (X12_isSign_iK  u7) (iT (X12_isSign_iK  u9) (iT (X12_isOpened_iK  u11) ((X12_expression_b320_iK (hk29 := hk29) h)))))))
            ·
              obtain ⟨r7, u13, h⟩ := bndS h
              exact iT (X12_isSign_iK  u1) (iT (X12_isSign_iK  u3) (iT (X12_isSign_iK  u5) (iT (X12_isSign_iK  u7) (iT (X12_isSign_iK  u9) (iT (X12_isOpened_iK  u11) (iT (X12_closes_iK  u13) ((X12_expression_b322_iK (hk29 := hk29) h))))))))
        ·
          exact iT (X12_isSign_iK  u1) (iT (X12_isSign_iK  u3) (iT (X12_isSign_iK  u5) (iT (X12_isSign_iK  u7) ((X12_expression_b259_iK (hk29 := hk29) h)))))
    ·
      exact iT (X12_isSign_iK  u1) (iT (X12_isSign_iK  u3) ((X12_expression_b204_iK (hk29 := hk29) h)))
theorem X12_expression_b161_iK {e : mm_E} {k29 : Int32 → mm_V → Option mm_V} {a0 : Nat} {i1 : Int32} {t0 : Nat} {t1 : Int32} {m : mm_V} {r} (hk29 : ∀ y0 y1 r, k29 y0 y1 = some r → intK e.1 y1 r) (h : X12_expression_b161 e k29 a0 i1 t0 t1 m = some r) : intK e.1 m r := by
  unfold X12_expression_b161 at h
  rcases iteS h with ⟨hc, h⟩ | ⟨hc, h⟩
  ·
    obtain ⟨r1, u2, h⟩ := bndS h
    obtain ⟨c3, u3, h⟩ := bndS h
    obtain ⟨x4, u4, h⟩ := bndS h
    obtain ⟨m5, u5, h⟩ := bndS h
    obtain ⟨r6, u6, h⟩ := bndS h
    obtain ⟨r7, u7, h⟩ := bndS h
    exact iT (X12_waitsFor_iK  u2) (iT (iK_sz u5) (iT (X12_goes_iK  u6) (iT (X12_operand_iK  u7) ((X12_expression_b322_iK (hk29 := hk29) h)))))
  ·
    cases h
theorem X12_expression_b127_iK {e : mm_E} {k29 : Int32 → mm_V → Option mm_V} {a0 : Nat} {i1 : Int32} {m : mm_V} {r} (hk29 : ∀ y0 y1 r, k29 y0 y1 = some r → intK e.1 y1 r) (h : X12_expression_b127 e k29 a0 i1 m = some r) : intK e.1 m r := by
  unfold X12_expression_b127 at h
  obtain ⟨c1, u1, h⟩ := bndS h
  obtain ⟨x2, u2, h⟩ := bndS h
  obtain ⟨x3, u3, h⟩ := bndS h
  rcases iteS h with ⟨hc, h⟩ | ⟨hc, h⟩
  ·
    exact (X12_expression_b186_iK (hk29 := hk29) h)
  ·
    obtain ⟨r4, u5, h⟩ := bndS h
    obtain ⟨r5, u6, h⟩ := bndS h
    rcases iteS h with ⟨hc, h⟩ | ⟨hc, h⟩
    ·
      exact iT (X12_drops_iK  u5) (iT (X12_isSign_iK  u6) ((X12_expression_b161_iK (hk29 := hk29) h)))
    ·
      exact iT (X12_drops_iK  u5) (iT (X12_isSign_iK  u6) ((X12_expression_b161_iK (hk29 := hk29) h)))
theorem X12_expression_L29_iK {e : mm_E} {a0 : Nat} : ∀ {n : Nat} {v0 v1} {r}, X12_expression_L29 e a0 n v0 v1 = some r → intK e.1 v1 r := by
  intro n
  have key : ∀ v0 v1 r, X12_expression_L29 e a0 n v0 v1 = some r → intK e.1 v1 r := by
    induction n with
    | zero => intro v0 v1 r h; unfold X12_expression_L29 at h; cases h
    | succ n ih =>
      intro i1 m r h
      unfold X12_expression_L29 at h
      rcases iteS h with ⟨hc, h⟩ | ⟨hc, h⟩
      ·
        exact (X12_expression_b325_iK  h)
      ·
        obtain ⟨r1, u2, h⟩ := bndS h
        rcases iteS h with ⟨hc, h⟩ | ⟨hc, h⟩
        ·
          exact iT (X12_isGood_iK  u2) ((X12_expression_b325_iK  h))
        ·
          obtain ⟨r2, u4, h⟩ := bndS h
          rcases iteS h with ⟨hc, h⟩ | ⟨hc, h⟩
          ·
            exact iT (X12_isGood_iK  u2) (iT (X12_knownWord_iK  u4) ((X12_expression_b57_iK (hk29 := (fun y0 y1 r h => ih y0 y1 r h)) h)))
          ·
            rcases iteS h with ⟨hc, h⟩ | ⟨hc, h⟩
            ·
              obtain ⟨r3, u7, h⟩ := bndS h
              rcases iteS h with ⟨hc, h⟩ | ⟨hc, h⟩
              ·
                exact iT (X12_isGood_iK  u2) (iT (X12_knownWord_iK  u4) (iT (X12_isSign_iK  u7) ((X12_expression_b127_iK (hk29 := (fun y0 y1 r h => ih y0 y1 r h)) h))))
              ·
                obtain ⟨r4, u9, h⟩ := bndS h
                rcases iteS h with ⟨hc, h⟩ | ⟨hc, h⟩
                ·
                  exact iT (X12_isGood_iK  u2) (iT (X12_knownWord_iK  u4) (iT (X12_isSign_iK  u7) (iT (X12_isSign_iK  u9) ((X12_expression_b186_iK (hk29 := (fun y0 y1 r h => ih y0 y1 r h)) h)))))
                ·
                  exact iT (X12_isGood_iK  u2) (iT (X12_knownWord_iK  u4) (iT (X12_isSign_iK  u7) (iT (X12_isSign_iK  u9) ((X12_expression_b127_iK (hk29 := (fun y0 y1 r h => ih y0 y1 r h)) h)))))
            ·
              exact iT (X12_isGood_iK  u2) (iT (X12_knownWord_iK  u4) ((X12_expression_b57_iK (hk29 := (fun y0 y1 r h => ih y0 y1 r h)) h)))
  intro v0 v1 r h
  exact key _ _ _ h
theorem X12_expression_iK {e : mm_E} {a0 : Nat} {m : mm_V} {r} (h : X12_expression e a0 m = some r) : intK e.1 m r := by
  unfold X12_expression at h
  obtain ⟨r1, u1, h⟩ := bndS h
  rcases iteS h with ⟨hc, h⟩ | ⟨hc, h⟩
  ·
    obtain ⟨m2, u3, h⟩ := bndS h
    obtain ⟨m3, u4, h⟩ := bndS h
    obtain ⟨r4, u5, h⟩ := bndS h
    obtain ⟨r5, u6, h⟩ := bndS h
    exact iT (X12_isGood_iK  u1) (iT (iK_pf (by decide) u3) (iT (iK_pf (by decide) u4) (iT (X12_deeper_iK  u5) (iT (X12_operand_iK  u6) ((X12_expression_L29_iK  h))))))
  ·
    cases h
    exact (by have z := (X12_isGood_iK  u1); exact z)
