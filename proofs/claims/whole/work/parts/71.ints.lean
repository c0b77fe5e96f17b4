/-! INT ARRAYS stay int arrays (written by geni.py). -/
def intK (g : mm_T) (m m' : mm_V) : Prop := ∀ a n, g a = some (20, n) → ∀ j, (∃ x, m a j = .int x) → ∃ x, m' a j = .int x
theorem iR (g : mm_T) (m : mm_V) : intK g m m := fun _ _ _ _ h => h
theorem iT {g : mm_T} {m1 m2 m3 : mm_V} (h1 : intK g m1 m2) (h2 : intK g m2 m3) : intK g m1 m3 := fun a n ha j h => h2 a n ha j (h1 a n ha j h)
theorem bndS {α β : Type} {o : Option α} {f : α → Option β} {r : β} (h : o.bind f = some r) : ∃ a, o = some a ∧ f a = some r := Option.bind_eq_some_iff.mp h
theorem iteS {β : Type} {c : Prop} [Decidable c] {A B : Option β} {r : β} (h : (if c then A else B) = some r) : (c ∧ A = some r) ∨ (¬ c ∧ B = some r) := by
  by_cases hc : c
  · rw [if_pos hc] at h; exact Or.inl ⟨hc, h⟩
  · rw [if_neg hc] at h; exact Or.inr ⟨hc, h⟩
theorem iK_up {g : mm_T} {m : mm_V} {a k : Nat} {x : Int32} : intK g m (mm_up m a k (.int x)) := fun b n _ j h => by
  by_cases hh : b = a ∧ j = k
  · rw [hh.1, hh.2, up_at]; exact ⟨x, rfl⟩
  · rw [up_ne _ _ (by omega)]; exact h
theorem iK_ne {g : mm_T} {m : mm_V} {a k t n : Nat} {v : Value} (ha : g a = some (t, n)) (ht : t ≠ 20) : intK g m (mm_up m a k v) := fun b n' hb j h => by
  have : b ≠ a := fun hh => by rw [hh, ha] at hb; cases hb; exact ht rfl
  rw [up_ne _ _ (Or.inl this)]; exact h
theorem iK_pf {g : mm_T} {m m' : mm_V} {t n a k : Nat} {v : Value} (ht : t ≠ 20) (h : mm_pf g m t n a k v = some m') : intK g m m' := by
  unfold mm_pf at h
  rcases iteS h with ⟨hc, h⟩ | ⟨hc, h⟩
  · cases h; exact iK_ne hc ht
  · cases h
theorem iK_pz {g : mm_T} {m m' : mm_V} {t n a k : Nat} {x : Int32} (ht : t ≠ 20) (h : mm_pz g m t n a k x = some m') : intK g m m' := by
  unfold mm_pz at h
  rcases iteS h with ⟨hc, h⟩ | ⟨hc, h⟩
  · rcases iteS h with ⟨hc2, h⟩ | ⟨hc2, h⟩
    · cases h; exact iK_ne hc ht
    · cases h
  · cases h
theorem iK_si {g : mm_T} {m m' : mm_V} {a : Nat} {i x : Int32} (h : mm_si g m a i x = some m') : intK g m m' := by
  unfold mm_si at h
  cases hk : mm_ix g 20 a i with
  | none => rw [hk] at h; cases h
  | some k => rw [hk] at h; cases h; exact iK_up
theorem ix_tag {g : mm_T} {t a k : Nat} {i : Int32} (h : mm_ix g t a i = some k) : ∃ n, g a = some (t, n) := by
  unfold mm_ix at h
  cases hg : g a with
  | none => rw [hg] at h; cases h
  | some p =>
    obtain ⟨t', n⟩ := p
    rw [hg] at h
    rcases iteS h with ⟨hc, h⟩ | ⟨hc, h⟩
    · exact ⟨n, by rw [hc.1]⟩
    · cases h
theorem iK_sj {g : mm_T} {m m' : mm_V} {a : Nat} {i : Int32} {x : Int64} (h : mm_sj g m a i x = some m') : intK g m m' := by
  unfold mm_sj at h
  cases hk : mm_ix g 21 a i with
  | none => rw [hk] at h; cases h
  | some k =>
    obtain ⟨n, hn⟩ := ix_tag hk
    rw [hk] at h; cases h; exact iK_ne hn (by decide)
theorem iK_sz {g : mm_T} {m m' : mm_V} {a : Nat} {i x : Int32} (h : mm_sz g m a i x = some m') : intK g m m' := by
  unfold mm_sz at h
  cases hk : mm_ix g 22 a i with
  | none => rw [hk] at h; cases h
  | some k =>
    rw [hk] at h
    rcases iteS h with ⟨hc, h⟩ | ⟨hc, h⟩
    · cases h; exact iK_up
    · cases h
theorem iK_rz {g : mm_T} {m : mm_V} {x : Int32} {r : Int32 × mm_V} (h : mm_rz x m = some r) : intK g m r.2 := by
  unfold mm_rz at h
  rcases iteS h with ⟨hc, h⟩ | ⟨hc, h⟩
  · cases h; exact iR _ _
  · cases h
theorem X12_card_iK {e : mm_E} {a0 : Nat} {i1 : Int32} {i2 : Int32} {m : mm_V} {r} (h : X12_card e a0 i1 i2 m = some r) : intK e.1 m r.2 := by
  unfold X12_card at h
  obtain ⟨x1, u1, h⟩ := bndS h
  cases h
  exact iR _ _
theorem X12_size_iK {e : mm_E} {a0 : Nat} {i1 : Int32} {m : mm_V} {r} (h : X12_size e a0 i1 m = some r) : intK e.1 m r.2 := by
  unfold X12_size at h
  obtain ⟨x1, u1, h⟩ := bndS h
  cases h
  exact iR _ _
theorem X12_takes_L19_iK {e : mm_E} {a0 : Nat} {i1 : Int32} {i3 : Int32} : ∀ {n : Nat} {v0 v1} {r}, X12_takes_L19 e a0 i1 i3 n v0 v1 = some r → intK e.1 v1 r.2 := by
  intro n
  have key : ∀ v0 v1 r, X12_takes_L19 e a0 i1 i3 n v0 v1 = some r → intK e.1 v1 r.2 := by
    induction n with
    | zero => intro v0 v1 r h; unfold X12_takes_L19 at h; cases h
    | succ n ih =>
      intro i4 m r h
      unfold X12_takes_L19 at h
      obtain ⟨r1, u1, h⟩ := bndS h
      rcases iteS h with ⟨hc, h⟩ | ⟨hc, h⟩
      ·
        cases h
        exact (by have z := (X12_size_iK  u1); exact z)
      ·
        obtain ⟨r2, u3, h⟩ := bndS h
        obtain ⟨m3, u4, h⟩ := bndS h
        exact iT (X12_size_iK  u1) (iT (X12_card_iK  u3) (iT (iK_si u4) ((ih _ _ _ h))))
  intro v0 v1 r h
  exact key _ _ _ h
theorem X12_takes_iK {e : mm_E} {a0 : Nat} {i1 : Int32} {i2 : Int32} {m : mm_V} {r} (h : X12_takes e a0 i1 i2 m = some r) : intK e.1 m r.2 := by
  unfold X12_takes at h
  obtain ⟨r1, u1, h⟩ := bndS h
  obtain ⟨x2, u2, h⟩ := bndS h
  obtain ⟨m3, u3, h⟩ := bndS h
  exact iT (X12_card_iK  u1) (iT (iK_si u3) ((X12_takes_L19_iK  h)))
theorem X12_valueOf_iK {e : mm_E} {a0 : Nat} {i1 : Int32} {a2 : Nat} {i3 : Int32} {i4 : Int32} {i5 : Int32} {m : mm_V} {r} (h : X12_valueOf e a0 i1 a2 i3 i4 i5 m = some r) : intK e.1 m r.2 := by
  unfold X12_valueOf at h
  rcases iteS h with ⟨hc, h⟩ | ⟨hc, h⟩
  ·
    cases h
    exact iR _ _
  ·
    rcases iteS h with ⟨hc, h⟩ | ⟨hc, h⟩
    ·
      obtain ⟨r2, u3, h⟩ := bndS h
      cases h
      exact (by have z := (X12_size_iK  u3); exact z)
    ·
      rcases iteS h with ⟨hc, h⟩ | ⟨hc, h⟩
      ·
        obtain ⟨x4, u5, h⟩ := bndS h
        cases h
        exact iR _ _
      ·
        rcases iteS h with ⟨hc, h⟩ | ⟨hc, h⟩
        ·
          cases h
          exact iR _ _
        ·
          rcases iteS h with ⟨hc, h⟩ | ⟨hc, h⟩
          ·
            obtain ⟨x7, u8, h⟩ := bndS h
            cases h
            exact iR _ _
          ·
            cases h
            exact iR _ _
theorem X12_reckons_b157_iK {e : mm_E} {k6 : Int32 → Int32 → mm_V → Option (Int32 × mm_V)} {a0 : Nat} {a2 : Nat} {i3 : Int32} {i4 : Int32} {i5 : Int32} {i6 : Int32} {i7 : Int32} {m : mm_V} {r} (hk6 : ∀ y0 y1 y2 r, k6 y0 y1 y2 = some r → intK e.1 y2 r.2) (h : X12_reckons_b157 e k6 a0 a2 i3 i4 i5 i6 i7 m = some r) : intK e.1 m r.2 := by
  unfold X12_reckons_b157 at h
  exact (hk6 _ _ _ _ h)
theorem X12_reckons_b79_iK {e : mm_E} {k6 : Int32 → Int32 → mm_V → Option (Int32 × mm_V)} {a0 : Nat} {a2 : Nat} {i3 : Int32} {i4 : Int32} {i5 : Int32} {i6 : Int32} {i7 : Int32} {t0 : Nat} {t1 : Int32} {t2 : Int32} {m : mm_V} {r} (hk6 : ∀ y0 y1 y2 r, k6 y0 y1 y2 = some r → intK e.1 y2 r.2) (h : X12_reckons_b79 e k6 a0 a2 i3 i4 i5 i6 i7 t0 t1 t2 m = some r) : intK e.1 m r.2 := by
  unfold X12_reckons_b79 at h
  obtain ⟨m1, u1, h⟩ := bndS h
  exact iT (iK_si u1) ((X12_reckons_b157_iK (hk6 := hk6) h))
theorem X12_reckons_b40_iK {e : mm_E} {k6 : Int32 → Int32 → mm_V → Option (Int32 × mm_V)} {a0 : Nat} {a2 : Nat} {i3 : Int32} {i4 : Int32} {i5 : Int32} {i6 : Int32} {i7 : Int32} {i8 : Int32} {m : mm_V} {r} (hk6 : ∀ y0 y1 y2 r, k6 y0 y1 y2 = some r → intK e.1 y2 r.2) (h : X12_reckons_b40 e k6 a0 a2 i3 i4 i5 i6 i7 i8 m = some r) : intK e.1 m r.2 := by
  unfold X12_reckons_b40 at h
  obtain ⟨c1, u1, h⟩ := bndS h
  rcases iteS h with ⟨hc, h⟩ | ⟨hc, h⟩
  ·
    obtain ⟨c2, u3, h⟩ := bndS h
    obtain ⟨x3, u4, h⟩ := bndS h
    obtain ⟨r4, u5, h⟩ := bndS h
    exact iT (X12_valueOf_iK  u5) ((X12_reckons_b79_iK (hk6 := hk6) h))
  ·
    obtain ⟨c5, u6, h⟩ := bndS h
    obtain ⟨x6, u7, h⟩ := bndS h
    exact (X12_reckons_b79_iK (hk6 := hk6) h)
theorem X12_works_b57_iK {e : mm_E} {t0 : Int32} {m : mm_V} {r} (h : X12_works_b57 e t0 m = some r) : intK e.1 m r.2 := by
  unfold X12_works_b57 at h
  cases h
  exact iR _ _
theorem X12_works_b56_iK {e : mm_E} {m : mm_V} {r} (h : X12_works_b56 e m = some r) : intK e.1 m r.2 := by
  unfold X12_works_b56 at h
  exact (X12_works_b57_iK  h)
theorem X12_works_b71_iK {e : mm_E} {t0 : Int32} {m : mm_V} {r} (h : X12_works_b71 e t0 m = some r) : intK e.1 m r.2 := by
  unfold X12_works_b71 at h
  cases h
  exact iR _ _
theorem X12_works_b66_iK {e : mm_E} {m : mm_V} {r} (h : X12_works_b66 e m = some r) : intK e.1 m r.2 := by
  unfold X12_works_b66 at h
  exact (X12_works_b71_iK  h)
theorem X12_works_b82_iK {e : mm_E} {t0 : Int32} {m : mm_V} {r} (h : X12_works_b82 e t0 m = some r) : intK e.1 m r.2 := by
  unfold X12_works_b82 at h
  cases h
  exact iR _ _
theorem X12_works_b93_iK {e : mm_E} {t0 : Int32} {m : mm_V} {r} (h : X12_works_b93 e t0 m = some r) : intK e.1 m r.2 := by
  unfold X12_works_b93 at h
  cases h
  exact iR _ _
theorem X12_works_b117_iK {e : mm_E} {t0 : Int32} {m : mm_V} {r} (h : X12_works_b117 e t0 m = some r) : intK e.1 m r.2 := by
  unfold X12_works_b117 at h
  cases h
  exact iR _ _
theorem X12_works_iK {e : mm_E} {i0 : Int32} {i1 : Int32} {i2 : Int32} {m : mm_V} {r} (h : X12_works e i0 i1 i2 m = some r) : intK e.1 m r.2 := by
  unfold X12_works at h
  rcases iteS h with ⟨hc, h⟩ | ⟨hc, h⟩
  ·
    rcases iteS h with ⟨hc, h⟩ | ⟨hc, h⟩
    ·
      exact (X12_works_b56_iK  h)
    ·
      rcases iteS h with ⟨hc, h⟩ | ⟨hc, h⟩
      ·
        exact (X12_works_b56_iK  h)
      ·
        exact (X12_works_b57_iK  h)
  ·
    rcases iteS h with ⟨hc, h⟩ | ⟨hc, h⟩
    ·
      rcases iteS h with ⟨hc, h⟩ | ⟨hc, h⟩
      ·
        exact (X12_works_b66_iK  h)
      ·
        rcases iteS h with ⟨hc, h⟩ | ⟨hc, h⟩
        ·
          exact (X12_works_b71_iK  h)
        ·
          exact (X12_works_b66_iK  h)
    ·
      rcases iteS h with ⟨hc, h⟩ | ⟨hc, h⟩
      ·
        rcases iteS h with ⟨hc, h⟩ | ⟨hc, h⟩
        ·
          exact (X12_works_b82_iK  h)
        ·
          exact (X12_works_b82_iK  h)
      ·
        rcases iteS h with ⟨hc, h⟩ | ⟨hc, h⟩
        ·
          rcases iteS h with ⟨hc, h⟩ | ⟨hc, h⟩
          ·
            exact (X12_works_b93_iK  h)
          ·
            exact (X12_works_b93_iK  h)
        ·
          rcases iteS h with ⟨hc, h⟩ | ⟨hc, h⟩
          ·
            cases h
            exact iR _ _
          ·
            rcases iteS h with ⟨hc, h⟩ | ⟨hc, h⟩
            ·
              cases h
              exact iR _ _
            ·
              rcases iteS h with ⟨hc, h⟩ | ⟨hc, h⟩
              ·
                cases h
                exact iR _ _
              ·
                rcases iteS h with ⟨hc, h⟩ | ⟨hc, h⟩
                ·
                  rcases iteS h with ⟨hc, h⟩ | ⟨hc, h⟩
                  ·
                    cases h
                  ·
                    exact (X12_works_b117_iK  h)
                ·
                  exact (X12_works_b117_iK  h)
theorem X12_reckons_b120_iK {e : mm_E} {k6 : Int32 → Int32 → mm_V → Option (Int32 × mm_V)} {a0 : Nat} {a2 : Nat} {i3 : Int32} {i4 : Int32} {i5 : Int32} {i6 : Int32} {i7 : Int32} {t0 : Nat} {t1 : Int32} {t2 : Int32} {m : mm_V} {r} (hk6 : ∀ y0 y1 y2 r, k6 y0 y1 y2 = some r → intK e.1 y2 r.2) (h : X12_reckons_b120 e k6 a0 a2 i3 i4 i5 i6 i7 t0 t1 t2 m = some r) : intK e.1 m r.2 := by
  unfold X12_reckons_b120 at h
  obtain ⟨m1, u1, h⟩ := bndS h
  exact iT (iK_si u1) ((X12_reckons_b157_iK (hk6 := hk6) h))
theorem X12_reckons_L6_iK {e : mm_E} {a0 : Nat} {a2 : Nat} {i3 : Int32} {i4 : Int32} {i5 : Int32} : ∀ {n : Nat} {v0 v1 v2} {r}, X12_reckons_L6 e a0 a2 i3 i4 i5 n v0 v1 v2 = some r → intK e.1 v2 r.2 := by
  intro n
  have key : ∀ v0 v1 v2 r, X12_reckons_L6 e a0 a2 i3 i4 i5 n v0 v1 v2 = some r → intK e.1 v2 r.2 := by
    induction n with
    | zero => intro v0 v1 v2 r h; unfold X12_reckons_L6 at h; cases h
    | succ n ih =>
      intro i6 i7 m r h
      unfold X12_reckons_L6 at h
      obtain ⟨c1, u1, h⟩ := bndS h
      obtain ⟨x2, u2, h⟩ := bndS h
      rcases iteS h with ⟨hc, h⟩ | ⟨hc, h⟩
      ·
        obtain ⟨c3, u4, h⟩ := bndS h
        obtain ⟨x4, u5, h⟩ := bndS h
        cases h
        exact iR _ _
      ·
        obtain ⟨c5, u6, h⟩ := bndS h
        obtain ⟨x6, u7, h⟩ := bndS h
        rcases iteS h with ⟨hc, h⟩ | ⟨hc, h⟩
        ·
          exact (X12_reckons_b40_iK (hk6 := (fun y0 y1 y2 r h => ih y0 y1 y2 r h)) h)
        ·
          rcases iteS h with ⟨hc, h⟩ | ⟨hc, h⟩
          ·
            rcases iteS h with ⟨hc, h⟩ | ⟨hc, h⟩
            ·
              obtain ⟨c7, u11, h⟩ := bndS h
              obtain ⟨c8, u12, h⟩ := bndS h
              obtain ⟨x9, u13, h⟩ := bndS h
              obtain ⟨c10, u14, h⟩ := bndS h
              obtain ⟨x11, u15, h⟩ := bndS h
              obtain ⟨r12, u16, h⟩ := bndS h
              obtain ⟨m13, u17, h⟩ := bndS h
              exact iT (X12_works_iK  u16) (iT (iK_si u17) ((X12_reckons_b157_iK (hk6 := (fun y0 y1 y2 r h => ih y0 y1 y2 r h)) h)))
            ·
              obtain ⟨c14, u18, h⟩ := bndS h
              obtain ⟨c15, u19, h⟩ := bndS h
              obtain ⟨x16, u20, h⟩ := bndS h
              rcases iteS h with ⟨hc, h⟩ | ⟨hc, h⟩
              ·
                exact (X12_reckons_b120_iK (hk6 := (fun y0 y1 y2 r h => ih y0 y1 y2 r h)) h)
              ·
                exact (X12_reckons_b120_iK (hk6 := (fun y0 y1 y2 r h => ih y0 y1 y2 r h)) h)
          ·
            exact (X12_reckons_b40_iK (hk6 := (fun y0 y1 y2 r h => ih y0 y1 y2 r h)) h)
  intro v0 v1 v2 r h
  exact key _ _ _ _ h
theorem X12_reckons_iK {e : mm_E} {a0 : Nat} {i1 : Int32} {a2 : Nat} {i3 : Int32} {i4 : Int32} {i5 : Int32} {m : mm_V} {r} (h : X12_reckons e a0 i1 a2 i3 i4 i5 m = some r) : intK e.1 m r.2 := by
  unfold X12_reckons at h
  exact (X12_reckons_L6_iK  h)
theorem X12_mod_b15_iK {e : mm_E} {t0 : Int32} {m : mm_V} {r} (h : X12_mod_b15 e t0 m = some r) : intK e.1 m r.2 := by
  unfold X12_mod_b15 at h
  cases h
  exact iR _ _
theorem X12_mod_iK {e : mm_E} {i0 : Int32} {i1 : Int32} {m : mm_V} {r} (h : X12_mod e i0 i1 m = some r) : intK e.1 m r.2 := by
  unfold X12_mod at h
  rcases iteS h with ⟨hc, h⟩ | ⟨hc, h⟩
  ·
    cases h
  ·
    rcases iteS h with ⟨hc, h⟩ | ⟨hc, h⟩
    ·
      exact (X12_mod_b15_iK  h)
    ·
      exact (X12_mod_b15_iK  h)
theorem X12_holdsAt_b52_iK {e : mm_E} {t0 : Int32} {m : mm_V} {r} (h : X12_holdsAt_b52 e t0 m = some r) : intK e.1 m r.2 := by
  unfold X12_holdsAt_b52 at h
  cases h
  exact iR _ _
theorem X12_holdsAt_iK {e : mm_E} {a0 : Nat} {a1 : Nat} {i2 : Int32} {i3 : Int32} {m : mm_V} {r} (h : X12_holdsAt e a0 a1 i2 i3 m = some r) : intK e.1 m r.2 := by
  unfold X12_holdsAt at h
  obtain ⟨r1, u1, h⟩ := bndS h
  obtain ⟨c2, u2, h⟩ := bndS h
  obtain ⟨c3, u3, h⟩ := bndS h
  obtain ⟨x4, u4, h⟩ := bndS h
  obtain ⟨x5, u5, h⟩ := bndS h
  rcases iteS h with ⟨hc, h⟩ | ⟨hc, h⟩
  ·
    obtain ⟨r6, u7, h⟩ := bndS h
    obtain ⟨r7, u8, h⟩ := bndS h
    exact iT (X12_size_iK  u1) (iT (X12_reckons_iK  u7) (iT (X12_mod_iK  u8) ((X12_holdsAt_b52_iK  h))))
  ·
    exact iT (X12_size_iK  u1) ((X12_holdsAt_b52_iK  h))
theorem X12_inserts_L7_iK {e : mm_E} {a0 : Nat} {i1 : Int32} {i2 : Int32} {i3 : Int32} : ∀ {n : Nat} {v0 v1} {r}, X12_inserts_L7 e a0 i1 i2 i3 n v0 v1 = some r → intK e.1 v1 r := by
  intro n
  have key : ∀ v0 v1 r, X12_inserts_L7 e a0 i1 i2 i3 n v0 v1 = some r → intK e.1 v1 r := by
    induction n with
    | zero => intro v0 v1 r h; unfold X12_inserts_L7 at h; cases h
    | succ n ih =>
      intro i4 m r h
      unfold X12_inserts_L7 at h
      rcases iteS h with ⟨hc, h⟩ | ⟨hc, h⟩
      ·
        obtain ⟨m1, u2, h⟩ := bndS h
        obtain ⟨x2, u3, h⟩ := bndS h
        obtain ⟨m3, u4, h⟩ := bndS h
        cases h
        exact (by have z := iT (iK_si u2) ((iK_si u4)); exact z)
      ·
        obtain ⟨r4, u5, h⟩ := bndS h
        obtain ⟨m5, u6, h⟩ := bndS h
        exact iT (X12_card_iK  u5) (iT (iK_si u6) ((ih _ _ _ h)))
  intro v0 v1 r h
  exact key _ _ _ h
theorem X12_inserts_iK {e : mm_E} {a0 : Nat} {i1 : Int32} {i2 : Int32} {i3 : Int32} {m : mm_V} {r} (h : X12_inserts e a0 i1 i2 i3 m = some r) : intK e.1 m r := by
  unfold X12_inserts at h
  obtain ⟨r1, u1, h⟩ := bndS h
  exact iT (X12_size_iK  u1) ((X12_inserts_L7_iK  h))
theorem X12_isOver_b44_iK {e : mm_E} {t0 : Int32} {m : mm_V} {r} (h : X12_isOver_b44 e t0 m = some r) : intK e.1 m r.2 := by
  unfold X12_isOver_b44 at h
  exact (iK_rz h)
theorem X12_isOver_b26_iK {e : mm_E} {k4 : Int32 → Int32 → mm_V → Option (Int32 × mm_V)} {a0 : Nat} {a1 : Nat} {i3 : Int32} {t0 : Int32} {t1 : Int32} {m : mm_V} {r} (hk4 : ∀ y0 y1 y2 r, k4 y0 y1 y2 = some r → intK e.1 y2 r.2) (h : X12_isOver_b26 e k4 a0 a1 i3 t0 t1 m = some r) : intK e.1 m r.2 := by
  unfold X12_isOver_b26 at h
  exact (hk4 _ _ _ _ h)
theorem X12_isOver_L4_iK {e : mm_E} {a0 : Nat} {a1 : Nat} : ∀ {n : Nat} {v0 v1 v2} {r}, X12_isOver_L4 e a0 a1 n v0 v1 v2 = some r → intK e.1 v2 r.2 := by
  intro n
  have key : ∀ v0 v1 v2 r, X12_isOver_L4 e a0 a1 n v0 v1 v2 = some r → intK e.1 v2 r.2 := by
    induction n with
    | zero => intro v0 v1 v2 r h; unfold X12_isOver_L4 at h; cases h
    | succ n ih =>
      intro i2 i3 m r h
      unfold X12_isOver_L4 at h
      obtain ⟨x1, u1, h⟩ := bndS h
      rcases iteS h with ⟨hc, h⟩ | ⟨hc, h⟩
      ·
        rcases iteS h with ⟨hc, h⟩ | ⟨hc, h⟩
        ·
          exact (X12_isOver_b44_iK  h)
        ·
          exact (X12_isOver_b44_iK  h)
      ·
        obtain ⟨r2, u4, h⟩ := bndS h
        rcases iteS h with ⟨hc, h⟩ | ⟨hc, h⟩
        ·
          exact iT (X12_size_iK  u4) ((X12_isOver_b26_iK (hk4 := (fun y0 y1 y2 r h => ih y0 y1 y2 r h)) h))
        ·
          exact iT (X12_size_iK  u4) ((X12_isOver_b26_iK (hk4 := (fun y0 y1 y2 r h => ih y0 y1 y2 r h)) h))
  intro v0 v1 v2 r h
  exact key _ _ _ _ h
theorem X12_isOver_iK {e : mm_E} {a0 : Nat} {a1 : Nat} {m : mm_V} {r} (h : X12_isOver e a0 a1 m = some r) : intK e.1 m r.2 := by
  unfold X12_isOver at h
  exact (X12_isOver_L4_iK  h)
theorem X12_nextOf_L5_iK {e : mm_E} {a0 : Nat} {a1 : Nat} : ∀ {n : Nat} {v0 v1 v2} {r}, X12_nextOf_L5 e a0 a1 n v0 v1 v2 = some r → intK e.1 v2 r.2 := by
  intro n
  have key : ∀ v0 v1 v2 r, X12_nextOf_L5 e a0 a1 n v0 v1 v2 = some r → intK e.1 v2 r.2 := by
    induction n with
    | zero => intro v0 v1 v2 r h; unfold X12_nextOf_L5 at h; cases h
    | succ n ih =>
      intro i3 i4 m r h
      unfold X12_nextOf_L5 at h
      obtain ⟨x1, u1, h⟩ := bndS h
      rcases iteS h with ⟨hc, h⟩ | ⟨hc, h⟩
      ·
        cases h
        exact iR _ _
      ·
        obtain ⟨x2, u3, h⟩ := bndS h
        rcases iteS h with ⟨hc, h⟩ | ⟨hc, h⟩
        ·
          cases h
        ·
          obtain ⟨r3, u5, h⟩ := bndS h
          rcases iteS h with ⟨hc, h⟩ | ⟨hc, h⟩
          ·
            exact iT (X12_size_iK  u5) ((ih _ _ _ _ h))
          ·
            cases h
            exact (by have z := (X12_size_iK  u5); exact z)
  intro v0 v1 v2 r h
  exact key _ _ _ _ h
theorem X12_nextOf_iK {e : mm_E} {a0 : Nat} {a1 : Nat} {i2 : Int32} {m : mm_V} {r} (h : X12_nextOf e a0 a1 i2 m = some r) : intK e.1 m r.2 := by
  unfold X12_nextOf at h
  exact (X12_nextOf_L5_iK  h)
theorem X12_drawsOf_b172_iK {e : mm_E} {t0 : Nat} {t1 : Int32} {t2 : Int32} {m : mm_V} {r} (h : X12_drawsOf_b172 e t0 t1 t2 m = some r) : intK e.1 m r := by
  unfold X12_drawsOf_b172 at h
  obtain ⟨m1, u1, h⟩ := bndS h
  cases h
  exact (by have z := (iK_si u1); exact z)
theorem X12_drawsOf_b144_iK {e : mm_E} {a0 : Nat} {a1 : Nat} {i5 : Int32} {m : mm_V} {r} (h : X12_drawsOf_b144 e a0 a1 i5 m = some r) : intK e.1 m r := by
  unfold X12_drawsOf_b144 at h
  obtain ⟨x1, u1, h⟩ := bndS h
  obtain ⟨m2, u2, h⟩ := bndS h
  obtain ⟨r3, u3, h⟩ := bndS h
  rcases iteS h with ⟨hc, h⟩ | ⟨hc, h⟩
  ·
    obtain ⟨r4, u5, h⟩ := bndS h
    exact iT (iK_si u2) (iT (X12_isOver_iK  u3) (iT (X12_nextOf_iK  u5) ((X12_drawsOf_b172_iK  h))))
  ·
    exact iT (iK_si u2) (iT (X12_isOver_iK  u3) ((X12_drawsOf_b172_iK  h)))
theorem X12_drawsOf_b91_iK {e : mm_E} {a0 : Nat} {a1 : Nat} {i5 : Int32} {t0 : Nat} {t1 : Int32} {m : mm_V} {r} (h : X12_drawsOf_b91 e a0 a1 i5 t0 t1 m = some r) : intK e.1 m r := by
  unfold X12_drawsOf_b91 at h
  obtain ⟨m1, u1, h⟩ := bndS h
  obtain ⟨x2, u2, h⟩ := bndS h
  rcases iteS h with ⟨hc, h⟩ | ⟨hc, h⟩
  ·
    obtain ⟨x3, u4, h⟩ := bndS h
    obtain ⟨r4, u5, h⟩ := bndS h
    obtain ⟨m5, u6, h⟩ := bndS h
    obtain ⟨x6, u7, h⟩ := bndS h
    obtain ⟨x7, u8, h⟩ := bndS h
    obtain ⟨r8, u9, h⟩ := bndS h
    exact iT (iK_pz (by decide) u1) (iT (X12_holdsAt_iK  u5) (iT (iK_pf (by decide) u6) (iT (X12_inserts_iK  u9) ((X12_drawsOf_b144_iK  h)))))
  ·
    obtain ⟨x9, u10, h⟩ := bndS h
    obtain ⟨r10, u11, h⟩ := bndS h
    exact iT (iK_pz (by decide) u1) (iT (X12_takes_iK  u11) ((X12_drawsOf_b144_iK  h)))
theorem X12_drawsOf_b74_iK {e : mm_E} {a0 : Nat} {a1 : Nat} {i5 : Int32} {t0 : Nat} {t1 : Int32} {m : mm_V} {r} (h : X12_drawsOf_b74 e a0 a1 i5 t0 t1 m = some r) : intK e.1 m r := by
  unfold X12_drawsOf_b74 at h
  obtain ⟨m1, u1, h⟩ := bndS h
  obtain ⟨x2, u2, h⟩ := bndS h
  rcases iteS h with ⟨hc, h⟩ | ⟨hc, h⟩
  ·
    exact iT (iK_pf (by decide) u1) ((X12_drawsOf_b91_iK  h))
  ·
    exact iT (iK_pf (by decide) u1) ((X12_drawsOf_b91_iK  h))
theorem X12_placeOf_L2_iK {e : mm_E} {a0 : Nat} {i1 : Int32} {i2 : Int32} : ∀ {n : Nat} {v0 v1} {r}, X12_placeOf_L2 e a0 i1 i2 n v0 v1 = some r → intK e.1 v1 r.2 := by
  intro n
  have key : ∀ v0 v1 r, X12_placeOf_L2 e a0 i1 i2 n v0 v1 = some r → intK e.1 v1 r.2 := by
    induction n with
    | zero => intro v0 v1 r h; unfold X12_placeOf_L2 at h; cases h
    | succ n ih =>
      intro i3 m r h
      unfold X12_placeOf_L2 at h
      obtain ⟨r1, u1, h⟩ := bndS h
      rcases iteS h with ⟨hc, h⟩ | ⟨hc, h⟩
      ·
        cases h
        exact (by have z := (X12_size_iK  u1); exact z)
      ·
        obtain ⟨r2, u3, h⟩ := bndS h
        rcases iteS h with ⟨hc, h⟩ | ⟨hc, h⟩
        ·
          exact iT (X12_size_iK  u1) (iT (X12_card_iK  u3) ((ih _ _ _ h)))
        ·
          cases h
          exact (by have z := iT (X12_size_iK  u1) ((X12_card_iK  u3)); exact z)
  intro v0 v1 r h
  exact key _ _ _ h
theorem X12_placeOf_iK {e : mm_E} {a0 : Nat} {i1 : Int32} {i2 : Int32} {m : mm_V} {r} (h : X12_placeOf e a0 i1 i2 m = some r) : intK e.1 m r.2 := by
  unfold X12_placeOf at h
  exact (X12_placeOf_L2_iK  h)
theorem X12_drawsOf_b45_iK {e : mm_E} {a0 : Nat} {a1 : Nat} {i2 : Int32} {i3 : Int32} {i5 : Int32} {m : mm_V} {r} (h : X12_drawsOf_b45 e a0 a1 i2 i3 i5 m = some r) : intK e.1 m r := by
  unfold X12_drawsOf_b45 at h
  obtain ⟨r1, u1, h⟩ := bndS h
  obtain ⟨x2, u2, h⟩ := bndS h
  rcases iteS h with ⟨hc, h⟩ | ⟨hc, h⟩
  ·
    exact iT (X12_takes_iK  u1) ((X12_drawsOf_b74_iK  h))
  ·
    obtain ⟨x3, u4, h⟩ := bndS h
    obtain ⟨r4, u5, h⟩ := bndS h
    exact iT (X12_takes_iK  u1) (iT (X12_placeOf_iK  u5) ((X12_drawsOf_b74_iK  h)))
theorem X12_drawsOf_iK {e : mm_E} {a0 : Nat} {a1 : Nat} {i2 : Int32} {i3 : Int32} {i4 : Int32} {m : mm_V} {r} (h : X12_drawsOf e a0 a1 i2 i3 i4 m = some r) : intK e.1 m r := by
  unfold X12_drawsOf at h
  obtain ⟨x1, u1, h⟩ := bndS h
  obtain ⟨m2, u2, h⟩ := bndS h
  obtain ⟨r3, u3, h⟩ := bndS h
  obtain ⟨m4, u4, h⟩ := bndS h
  obtain ⟨m5, u5, h⟩ := bndS h
  obtain ⟨m6, u6, h⟩ := bndS h
  obtain ⟨x7, u7, h⟩ := bndS h
  rcases iteS h with ⟨hc, h⟩ | ⟨hc, h⟩
  ·
    exact iT (iK_si u2) (iT (X12_card_iK  u3) (iT (iK_pf (by decide) u4) (iT (iK_pz (by decide) u5) (iT (iK_pf (by decide) u6) ((X12_drawsOf_b45_iK  h))))))
  ·
    rcases iteS h with ⟨hc, h⟩ | ⟨hc, h⟩
    ·
      exact iT (iK_si u2) (iT (X12_card_iK  u3) (iT (iK_pf (by decide) u4) (iT (iK_pz (by decide) u5) (iT (iK_pf (by decide) u6) ((X12_drawsOf_b144_iK  h))))))
    ·
      exact iT (iK_si u2) (iT (X12_card_iK  u3) (iT (iK_pf (by decide) u4) (iT (iK_pz (by decide) u5) (iT (iK_pf (by decide) u6) ((X12_drawsOf_b45_iK  h))))))
theorem X12_drawsNow_b209_iK {e : mm_E} {a0 : Nat} {i2 : Int32} {t0 : Nat} {t1 : Int32} {t2 : Int32} {m : mm_V} {r} (h : X12_drawsNow_b209 e a0 i2 t0 t1 t2 m = some r) : intK e.1 m r := by
  unfold X12_drawsNow_b209 at h
  obtain ⟨m1, u1, h⟩ := bndS h
  obtain ⟨c2, u2, h⟩ := bndS h
  obtain ⟨x3, u3, h⟩ := bndS h
  obtain ⟨m4, u4, h⟩ := bndS h
  obtain ⟨x5, u5, h⟩ := bndS h
  obtain ⟨m6, u6, h⟩ := bndS h
  cases h
  exact (by have z := iT (iK_si u1) (iT (iK_si u4) ((iK_pf (by decide) u6))); exact z)
theorem X12_drawsNow_b165_iK {e : mm_E} {a0 : Nat} {i1 : Int32} {i2 : Int32} {i4 : Int32} {t0 : Nat} {t1 : Int32} {t2 : Int32} {m : mm_V} {r} (h : X12_drawsNow_b165 e a0 i1 i2 i4 t0 t1 t2 m = some r) : intK e.1 m r := by
  unfold X12_drawsNow_b165 at h
  obtain ⟨m1, u1, h⟩ := bndS h
  obtain ⟨c2, u2, h⟩ := bndS h
  obtain ⟨r3, u3, h⟩ := bndS h
  obtain ⟨c4, u4, h⟩ := bndS h
  obtain ⟨x5, u5, h⟩ := bndS h
  obtain ⟨m6, u6, h⟩ := bndS h
  obtain ⟨c7, u7, h⟩ := bndS h
  obtain ⟨x8, u8, h⟩ := bndS h
  rcases iteS h with ⟨hc, h⟩ | ⟨hc, h⟩
  ·
    exact iT (iK_si u1) (iT (X12_drawsOf_iK  u3) (iT (iK_si u6) ((X12_drawsNow_b209_iK  h))))
  ·
    exact iT (iK_si u1) (iT (X12_drawsOf_iK  u3) (iT (iK_si u6) ((X12_drawsNow_b209_iK  h))))
theorem X12_drawsNow_b50_iK {e : mm_E} {a0 : Nat} {i1 : Int32} {m : mm_V} {r} (h : X12_drawsNow_b50 e a0 i1 m = some r) : intK e.1 m r := by
  unfold X12_drawsNow_b50 at h
  obtain ⟨x1, u1, h⟩ := bndS h
  obtain ⟨c2, u2, h⟩ := bndS h
  obtain ⟨x3, u3, h⟩ := bndS h
  obtain ⟨c4, u4, h⟩ := bndS h
  obtain ⟨r5, u5, h⟩ := bndS h
  obtain ⟨c6, u6, h⟩ := bndS h
  obtain ⟨m7, u7, h⟩ := bndS h
  obtain ⟨c8, u8, h⟩ := bndS h
  obtain ⟨m9, u9, h⟩ := bndS h
  obtain ⟨c10, u10, h⟩ := bndS h
  obtain ⟨m11, u11, h⟩ := bndS h
  obtain ⟨c12, u12, h⟩ := bndS h
  obtain ⟨c13, u13, h⟩ := bndS h
  obtain ⟨x14, u14, h⟩ := bndS h
  obtain ⟨m15, u15, h⟩ := bndS h
  obtain ⟨c16, u16, h⟩ := bndS h
  obtain ⟨c17, u17, h⟩ := bndS h
  obtain ⟨r18, u18, h⟩ := bndS h
  obtain ⟨m19, u19, h⟩ := bndS h
  obtain ⟨c20, u20, h⟩ := bndS h
  obtain ⟨c21, u21, h⟩ := bndS h
  obtain ⟨r22, u22, h⟩ := bndS h
  rcases iteS h with ⟨hc, h⟩ | ⟨hc, h⟩
  ·
    exact iT (X12_nextOf_iK  u5) (iT (iK_si u7) (iT (iK_si u9) (iT (iK_si u11) (iT (iK_si u15) (iT (X12_size_iK  u18) (iT (iK_si u19) (iT (X12_placeOf_iK  u22) ((X12_drawsNow_b165_iK  h)))))))))
  ·
    exact iT (X12_nextOf_iK  u5) (iT (iK_si u7) (iT (iK_si u9) (iT (iK_si u11) (iT (iK_si u15) (iT (X12_size_iK  u18) (iT (iK_si u19) (iT (X12_placeOf_iK  u22) ((X12_drawsNow_b165_iK  h)))))))))
theorem X12_drawsNow_L12_iK {e : mm_E} {a0 : Nat} {i1 : Int32} : ∀ {n : Nat} {v0 v1} {r}, X12_drawsNow_L12 e a0 i1 n v0 v1 = some r → intK e.1 v1 r := by
  intro n
  have key : ∀ v0 v1 r, X12_drawsNow_L12 e a0 i1 n v0 v1 = some r → intK e.1 v1 r := by
    induction n with
    | zero => intro v0 v1 r h; unfold X12_drawsNow_L12 at h; cases h
    | succ n ih =>
      intro i2 m r h
      unfold X12_drawsNow_L12 at h
      rcases iteS h with ⟨hc, h⟩ | ⟨hc, h⟩
      ·
        obtain ⟨x1, u2, h⟩ := bndS h
        obtain ⟨m2, u3, h⟩ := bndS h
        exact iT (iK_pf (by decide) u3) ((X12_drawsNow_b50_iK  h))
      ·
        obtain ⟨c3, u4, h⟩ := bndS h
        obtain ⟨c4, u5, h⟩ := bndS h
        obtain ⟨x5, u6, h⟩ := bndS h
        obtain ⟨m6, u7, h⟩ := bndS h
        exact iT (iK_si u7) ((ih _ _ _ h))
  intro v0 v1 r h
  exact key _ _ _ h
theorem X12_drawsNow_iK {e : mm_E} {a0 : Nat} {i1 : Int32} {m : mm_V} {r} (h : X12_drawsNow e a0 i1 m = some r) : intK e.1 m r := by
  unfold X12_drawsNow at h
  obtain ⟨x1, u1, h⟩ := bndS h
  rcases iteS h with ⟨hc, h⟩ | ⟨hc, h⟩
  ·
    exact (X12_drawsNow_b50_iK  h)
  ·
    exact (X12_drawsNow_L12_iK  h)
theorem X12_did_iK {e : mm_E} {a0 : Nat} {i1 : Int32} {i2 : Int32} {m : mm_V} {r} (h : X12_did e a0 i1 i2 m = some r) : intK e.1 m r.2 := by
  unfold X12_did at h
  obtain ⟨c1, u1, h⟩ := bndS h
  obtain ⟨x2, u2, h⟩ := bndS h
  cases h
  exact iR _ _
theorem X12_undo_b94_iK {e : mm_E} {a0 : Nat} {i1 : Int32} {m : mm_V} {r} (h : X12_undo_b94 e a0 i1 m = some r) : intK e.1 m r.2 := by
  unfold X12_undo_b94 at h
  obtain ⟨c1, u1, h⟩ := bndS h
  obtain ⟨x2, u2, h⟩ := bndS h
  obtain ⟨r3, u3, h⟩ := bndS h
  obtain ⟨x4, u4, h⟩ := bndS h
  obtain ⟨r5, u5, h⟩ := bndS h
  obtain ⟨x6, u6, h⟩ := bndS h
  obtain ⟨r7, u7, h⟩ := bndS h
  obtain ⟨r8, u8, h⟩ := bndS h
  obtain ⟨c9, u9, h⟩ := bndS h
  obtain ⟨x10, u10, h⟩ := bndS h
  obtain ⟨r11, u11, h⟩ := bndS h
  obtain ⟨m12, u12, h⟩ := bndS h
  obtain ⟨c13, u13, h⟩ := bndS h
  obtain ⟨x14, u14, h⟩ := bndS h
  obtain ⟨m15, u15, h⟩ := bndS h
  obtain ⟨c16, u16, h⟩ := bndS h
  obtain ⟨m17, u17, h⟩ := bndS h
  obtain ⟨x18, u18, h⟩ := bndS h
  cases h
  exact (by have z := iT (X12_did_iK  u3) (iT (X12_did_iK  u5) (iT (X12_did_iK  u7) (iT (X12_inserts_iK  u8) (iT (X12_did_iK  u11) (iT (iK_si u12) (iT (iK_si u15) ((iK_si u17)))))))); exact z)
theorem X12_undo_iK {e : mm_E} {a0 : Nat} {m : mm_V} {r} (h : X12_undo e a0 m = some r) : intK e.1 m r.2 := by
  unfold X12_undo at h
  obtain ⟨m1, u1, h⟩ := bndS h
  obtain ⟨x2, u2, h⟩ := bndS h
  rcases iteS h with ⟨hc, h⟩ | ⟨hc, h⟩
  ·
    obtain ⟨x3, u4, h⟩ := bndS h
    obtain ⟨m4, u5, h⟩ := bndS h
    obtain ⟨x5, u6, h⟩ := bndS h
    obtain ⟨r6, u7, h⟩ := bndS h
    obtain ⟨x7, u8, h⟩ := bndS h
    obtain ⟨r8, u9, h⟩ := bndS h
    rcases iteS h with ⟨hc, h⟩ | ⟨hc, h⟩
    ·
      obtain ⟨c9, u11, h⟩ := bndS h
      obtain ⟨x10, u12, h⟩ := bndS h
      obtain ⟨r11, u13, h⟩ := bndS h
      obtain ⟨r12, u14, h⟩ := bndS h
      exact iT (iK_pf (by decide) u1) (iT (iK_pf (by decide) u5) (iT (X12_did_iK  u7) (iT (X12_did_iK  u9) (iT (X12_did_iK  u13) (iT (X12_takes_iK  u14) ((X12_undo_b94_iK  h)))))))
    ·
      obtain ⟨c13, u15, h⟩ := bndS h
      obtain ⟨x14, u16, h⟩ := bndS h
      obtain ⟨r15, u17, h⟩ := bndS h
      obtain ⟨x16, u18, h⟩ := bndS h
      obtain ⟨r17, u19, h⟩ := bndS h
      obtain ⟨r18, u20, h⟩ := bndS h
      exact iT (iK_pf (by decide) u1) (iT (iK_pf (by decide) u5) (iT (X12_did_iK  u7) (iT (X12_did_iK  u9) (iT (X12_did_iK  u17) (iT (X12_did_iK  u19) (iT (X12_inserts_iK  u20) ((X12_undo_b94_iK  h))))))))
  ·
    cases h
    exact (by have z := (iK_pf (by decide) u1); exact z)
theorem X12_clears_L2_iK {e : mm_E} {a1 : Nat} : ∀ {n : Nat} {v0 v1} {r}, X12_clears_L2 e a1 n v0 v1 = some r → intK e.1 v1 r := by
  intro n
  have key : ∀ v0 v1 r, X12_clears_L2 e a1 n v0 v1 = some r → intK e.1 v1 r := by
    induction n with
    | zero => intro v0 v1 r h; unfold X12_clears_L2 at h; cases h
    | succ n ih =>
      intro i2 m r h
      unfold X12_clears_L2 at h
      rcases iteS h with ⟨hc, h⟩ | ⟨hc, h⟩
      ·
        cases h
        exact iR _ _
      ·
        obtain ⟨m1, u2, h⟩ := bndS h
        exact iT (iK_si u2) ((ih _ _ _ h))
  intro v0 v1 r h
  exact key _ _ _ h
theorem X12_clears_iK {e : mm_E} {a0 : Nat} {a1 : Nat} {m : mm_V} {r} (h : X12_clears e a0 a1 m = some r) : intK e.1 m r := by
  unfold X12_clears at h
  exact (X12_clears_L2_iK  h)
theorem X12_opens_b32_iK {e : mm_E} {t0 : Nat} {t1 : Int32} {t2 : Int32} {m : mm_V} {r} (h : X12_opens_b32 e t0 t1 t2 m = some r) : intK e.1 m r := by
  unfold X12_opens_b32 at h
  obtain ⟨m1, u1, h⟩ := bndS h
  cases h
  exact (by have z := (iK_si u1); exact z)
theorem X12_opens_iK {e : mm_E} {a0 : Nat} {a1 : Nat} {m : mm_V} {r} (h : X12_opens e a0 a1 m = some r) : intK e.1 m r := by
  unfold X12_opens at h
  obtain ⟨r1, u1, h⟩ := bndS h
  rcases iteS h with ⟨hc, h⟩ | ⟨hc, h⟩
  ·
    obtain ⟨r2, u3, h⟩ := bndS h
    rcases iteS h with ⟨hc, h⟩ | ⟨hc, h⟩
    ·
      obtain ⟨r3, u5, h⟩ := bndS h
      exact iT (X12_isOver_iK  u1) (iT (X12_size_iK  u3) (iT (X12_nextOf_iK  u5) ((X12_opens_b32_iK  h))))
    ·
      exact iT (X12_isOver_iK  u1) (iT (X12_size_iK  u3) ((X12_opens_b32_iK  h)))
  ·
    exact iT (X12_isOver_iK  u1) ((X12_opens_b32_iK  h))
theorem X12_deals_b260_iK {e : mm_E} {k163 : Int32 → mm_V → Option mm_V} {k175 : Int32 → mm_V → Option mm_V} {a0 : Nat} {a2 : Nat} {i4 : Int32} {i5 : Int32} {m : mm_V} {r} (hk163 : ∀ y0 y1 r, k163 y0 y1 = some r → intK e.1 y1 r) (hk175 : ∀ y0 y1 r, k175 y0 y1 = some r → intK e.1 y1 r) (h : X12_deals_b260 e k163 k175 a0 a2 i4 i5 m = some r) : intK e.1 m r := by
  unfold X12_deals_b260 at h
  exact (hk175 _ _ _ h)
theorem X12_deals_L213_iK {e : mm_E} {k163 : Int32 → mm_V → Option mm_V} {k175 : Int32 → mm_V → Option mm_V} {a0 : Nat} {a2 : Nat} {i4 : Int32} {i5 : Int32} {i6 : Int32} (hk163 : ∀ y0 y1 r, k163 y0 y1 = some r → intK e.1 y1 r) (hk175 : ∀ y0 y1 r, k175 y0 y1 = some r → intK e.1 y1 r) : ∀ {n : Nat} {v0 v1} {r}, X12_deals_L213 e k163 k175 a0 a2 i4 i5 i6 n v0 v1 = some r → intK e.1 v1 r := by
  intro n
  have key : ∀ v0 v1 r, X12_deals_L213 e k163 k175 a0 a2 i4 i5 i6 n v0 v1 = some r → intK e.1 v1 r := by
    induction n with
    | zero => intro v0 v1 r h; unfold X12_deals_L213 at h; cases h
    | succ n ih =>
      intro i7 m r h
      unfold X12_deals_L213 at h
      obtain ⟨r1, u1, h⟩ := bndS h
      rcases iteS h with ⟨hc, h⟩ | ⟨hc, h⟩
      ·
        rcases iteS h with ⟨hc, h⟩ | ⟨hc, h⟩
        ·
          obtain ⟨r2, u4, h⟩ := bndS h
          obtain ⟨r3, u5, h⟩ := bndS h
          exact iT (X12_card_iK  u1) (iT (X12_takes_iK  u4) (iT (X12_takes_iK  u5) ((X12_deals_b260_iK (hk163 := hk163) (hk175 := hk175) h))))
        ·
          exact iT (X12_card_iK  u1) ((X12_deals_b260_iK (hk163 := hk163) (hk175 := hk175) h))
      ·
        exact iT (X12_card_iK  u1) ((ih _ _ _ h))
  intro v0 v1 r h
  exact key _ _ _ h
theorem X12_deals_L175_iK {e : mm_E} {k163 : Int32 → mm_V → Option mm_V} {a0 : Nat} {a2 : Nat} {i4 : Int32} (hk163 : ∀ y0 y1 r, k163 y0 y1 = some r → intK e.1 y1 r) : ∀ {n : Nat} {v0 v1} {r}, X12_deals_L175 e k163 a0 a2 i4 n v0 v1 = some r → intK e.1 v1 r := by
  intro n
  have key : ∀ v0 v1 r, X12_deals_L175 e k163 a0 a2 i4 n v0 v1 = some r → intK e.1 v1 r := by
    induction n with
    | zero => intro v0 v1 r h; unfold X12_deals_L175 at h; cases h
    | succ n ih =>
      intro i5 m r h
      unfold X12_deals_L175 at h
      obtain ⟨x1, u1, h⟩ := bndS h
      rcases iteS h with ⟨hc, h⟩ | ⟨hc, h⟩
      ·
        exact (hk163 _ _ _ h)
      ·
        obtain ⟨r2, u3, h⟩ := bndS h
        rcases iteS h with ⟨hc, h⟩ | ⟨hc, h⟩
        ·
          obtain ⟨r3, u5, h⟩ := bndS h
          exact iT (X12_placeOf_iK  u3) (iT (X12_size_iK  u5) ((X12_deals_L213_iK (hk163 := hk163) (hk175 := (fun y0 y1 r h => ih y0 y1 r h)) h)))
        ·
          exact iT (X12_placeOf_iK  u3) ((X12_deals_b260_iK (hk163 := hk163) (hk175 := (fun y0 y1 r h => ih y0 y1 r h)) h))
  intro v0 v1 r h
  exact key _ _ _ h
theorem X12_deals_L163_iK {e : mm_E} {a0 : Nat} {a2 : Nat} : ∀ {n : Nat} {v0 v1} {r}, X12_deals_L163 e a0 a2 n v0 v1 = some r → intK e.1 v1 r := by
  intro n
  have key : ∀ v0 v1 r, X12_deals_L163 e a0 a2 n v0 v1 = some r → intK e.1 v1 r := by
    induction n with
    | zero => intro v0 v1 r h; unfold X12_deals_L163 at h; cases h
    | succ n ih =>
      intro i4 m r h
      unfold X12_deals_L163 at h
      obtain ⟨x1, u1, h⟩ := bndS h
      rcases iteS h with ⟨hc, h⟩ | ⟨hc, h⟩
      ·
        obtain ⟨r2, u3, h⟩ := bndS h
        cases h
        exact (by have z := (X12_opens_iK  u3); exact z)
      ·
        exact (X12_deals_L175_iK (hk163 := (fun y0 y1 r h => ih y0 y1 r h)) h)
  intro v0 v1 r h
  exact key _ _ _ h
theorem X12_deals_L119_iK {e : mm_E} {a0 : Nat} {a2 : Nat} {i3 : Int32} : ∀ {n : Nat} {v0 v1} {r}, X12_deals_L119 e a0 a2 i3 n v0 v1 = some r → intK e.1 v1 r := by
  intro n
  have key : ∀ v0 v1 r, X12_deals_L119 e a0 a2 i3 n v0 v1 = some r → intK e.1 v1 r := by
    induction n with
    | zero => intro v0 v1 r h; unfold X12_deals_L119 at h; cases h
    | succ n ih =>
      intro i4 m r h
      unfold X12_deals_L119 at h
      rcases iteS h with ⟨hc, h⟩ | ⟨hc, h⟩
      ·
        exact (X12_deals_L163_iK  h)
      ·
        obtain ⟨x1, u2, h⟩ := bndS h
        rcases iteS h with ⟨hc, h⟩ | ⟨hc, h⟩
        ·
          cases h
        ·
          obtain ⟨x2, u4, h⟩ := bndS h
          rcases iteS h with ⟨hc, h⟩ | ⟨hc, h⟩
          ·
            cases h
          ·
            obtain ⟨r3, u6, h⟩ := bndS h
            obtain ⟨c4, u7, h⟩ := bndS h
            obtain ⟨x5, u8, h⟩ := bndS h
            obtain ⟨r6, u9, h⟩ := bndS h
            exact iT (X12_size_iK  u6) (iT (X12_inserts_iK  u9) ((ih _ _ _ h)))
  intro v0 v1 r h
  exact key _ _ _ h
theorem X12_draws_iK {e : mm_E} {a0 : Nat} {i1 : Int32} {m : mm_V} {r} (h : X12_draws e a0 i1 m = some r) : intK e.1 m r.2 := by
  unfold X12_draws at h
  obtain ⟨x1, u1, h⟩ := bndS h
  obtain ⟨m2, u2, h⟩ := bndS h
  obtain ⟨x3, u3, h⟩ := bndS h
  rcases iteS h with ⟨hc, h⟩ | ⟨hc, h⟩
  ·
    cases h
  ·
    cases h
    exact (by have z := (iK_pf (by decide) u2); exact z)
theorem X12_deals_L63_iK {e : mm_E} {a0 : Nat} {a2 : Nat} {i3 : Int32} : ∀ {n : Nat} {v0 v1} {r}, X12_deals_L63 e a0 a2 i3 n v0 v1 = some r → intK e.1 v1 r := by
  intro n
  have key : ∀ v0 v1 r, X12_deals_L63 e a0 a2 i3 n v0 v1 = some r → intK e.1 v1 r := by
    induction n with
    | zero => intro v0 v1 r h; unfold X12_deals_L63 at h; cases h
    | succ n ih =>
      intro i4 m r h
      unfold X12_deals_L63 at h
      rcases iteS h with ⟨hc, h⟩ | ⟨hc, h⟩
      ·
        exact (X12_deals_L119_iK  h)
      ·
        obtain ⟨r1, u2, h⟩ := bndS h
        obtain ⟨c2, u3, h⟩ := bndS h
        obtain ⟨x3, u4, h⟩ := bndS h
        obtain ⟨c4, u5, h⟩ := bndS h
        obtain ⟨c5, u6, h⟩ := bndS h
        obtain ⟨x6, u7, h⟩ := bndS h
        obtain ⟨m7, u8, h⟩ := bndS h
        obtain ⟨c8, u9, h⟩ := bndS h
        obtain ⟨m9, u10, h⟩ := bndS h
        exact iT (X12_draws_iK  u2) (iT (iK_si u8) (iT (iK_si u10) ((ih _ _ _ h))))
  intro v0 v1 r h
  exact key _ _ _ h
theorem X12_deals_L22_iK {e : mm_E} {a0 : Nat} {a2 : Nat} {i3 : Int32} : ∀ {n : Nat} {v0 v1} {r}, X12_deals_L22 e a0 a2 i3 n v0 v1 = some r → intK e.1 v1 r := by
  intro n
  have key : ∀ v0 v1 r, X12_deals_L22 e a0 a2 i3 n v0 v1 = some r → intK e.1 v1 r := by
    induction n with
    | zero => intro v0 v1 r h; unfold X12_deals_L22 at h; cases h
    | succ n ih =>
      intro i4 m r h
      unfold X12_deals_L22 at h
      rcases iteS h with ⟨hc, h⟩ | ⟨hc, h⟩
      ·
        obtain ⟨c1, u2, h⟩ := bndS h
        obtain ⟨m2, u3, h⟩ := bndS h
        exact iT (iK_si u3) ((X12_deals_L63_iK  h))
      ·
        obtain ⟨c3, u4, h⟩ := bndS h
        obtain ⟨m4, u5, h⟩ := bndS h
        exact iT (iK_si u5) ((ih _ _ _ h))
  intro v0 v1 r h
  exact key _ _ _ h
theorem X12_deals_iK {e : mm_E} {a0 : Nat} {i1 : Int32} {a2 : Nat} {m : mm_V} {r} (h : X12_deals e a0 i1 a2 m = some r) : intK e.1 m r := by
  unfold X12_deals at h
  obtain ⟨r1, u1, h⟩ := bndS h
  obtain ⟨m2, u2, h⟩ := bndS h
  obtain ⟨x3, u3, h⟩ := bndS h
  exact iT (X12_clears_iK  u1) (iT (iK_pf (by decide) u2) ((X12_deals_L22_iK  h)))
theorem X12_tells_L17_iK {e : mm_E} {k7 : Int32 → mm_V → Option mm_V} {a0 : Nat} {a1 : Nat} {i2 : Int32} (hk7 : ∀ y0 y1 r, k7 y0 y1 = some r → intK e.1 y1 r) : ∀ {n : Nat} {v0 v1} {r}, X12_tells_L17 e k7 a0 a1 i2 n v0 v1 = some r → intK e.1 v1 r := by
  intro n
  have key : ∀ v0 v1 r, X12_tells_L17 e k7 a0 a1 i2 n v0 v1 = some r → intK e.1 v1 r := by
    induction n with
    | zero => intro v0 v1 r h; unfold X12_tells_L17 at h; cases h
    | succ n ih =>
      intro i3 m r h
      unfold X12_tells_L17 at h
      obtain ⟨c1, u1, h⟩ := bndS h
      obtain ⟨x2, u2, h⟩ := bndS h
      rcases iteS h with ⟨hc, h⟩ | ⟨hc, h⟩
      ·
        exact (hk7 _ _ _ h)
      ·
        obtain ⟨c3, u4, h⟩ := bndS h
        obtain ⟨x4, u5, h⟩ := bndS h
        obtain ⟨r5, u6, h⟩ := bndS h
        exact iT (X12_inserts_iK  u6) ((ih _ _ _ h))
  intro v0 v1 r h
  exact key _ _ _ h
theorem X12_tells_L7_iK {e : mm_E} {a0 : Nat} {a1 : Nat} : ∀ {n : Nat} {v0 v1} {r}, X12_tells_L7 e a0 a1 n v0 v1 = some r → intK e.1 v1 r := by
  intro n
  have key : ∀ v0 v1 r, X12_tells_L7 e a0 a1 n v0 v1 = some r → intK e.1 v1 r := by
    induction n with
    | zero => intro v0 v1 r h; unfold X12_tells_L7 at h; cases h
    | succ n ih =>
      intro i2 m r h
      unfold X12_tells_L7 at h
      obtain ⟨x1, u1, h⟩ := bndS h
      rcases iteS h with ⟨hc, h⟩ | ⟨hc, h⟩
      ·
        obtain ⟨r2, u3, h⟩ := bndS h
        cases h
        exact (by have z := (X12_opens_iK  u3); exact z)
      ·
        exact (X12_tells_L17_iK (hk7 := (fun y0 y1 r h => ih y0 y1 r h)) h)
  intro v0 v1 r h
  exact key _ _ _ h
theorem X12_tells_iK {e : mm_E} {a0 : Nat} {a1 : Nat} {m : mm_V} {r} (h : X12_tells e a0 a1 m = some r) : intK e.1 m r := by
  unfold X12_tells at h
  obtain ⟨r1, u1, h⟩ := bndS h
  exact iT (X12_clears_iK  u1) ((X12_tells_L7_iK  h))
