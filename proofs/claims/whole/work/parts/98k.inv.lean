/-! WHAT HOLDS BETWEEN CALLS. -/
abbrev HS : Type := PS × Nat × Nat × Nat × Nat
abbrev CF : Type := Nat × Nat × Nat × (Nat → List Int) × (Nat → Nat)
abbrev GM : Type := PS × PS × List HS × Option (PS × List HS)
abbrev MI : Type := Nat × (Nat → Nat) × Int × Nat × Nat
def idF : Nat → Nat := fun i => i
def hsOk (N P : Nat) (h : HS) : Prop := okS N P h.1 ∧ isOv N h.1.1 = false ∧ h.1.2.2.1 = some h.2.1 ∧ h.2.1 < N ∧ nxt N h.1.1 h.2.1 = some h.2.2.1 ∧ h.2.2.1 < N ∧ h.2.2.1 ≠ h.2.1 ∧ (h.1.1 h.2.2.1)[h.2.2.2.1]? = some h.2.2.2.2
def hsN (rl : Nat → List Int) (N : Nat) (h : HS) : PS := nx rl idF (zI 0) N h.1 h.2.1 h.2.2.1 h.2.2.2.1 h.2.2.2.2
def hsV (rl : Nat → List Int) (h : HS) : QR := recF rl idF (zI 0) h.1.1 h.1.2.1 h.1.2.2.2 h.2.1 h.2.2.1 h.2.2.2.1 h.2.2.2.2
def hsO (rl : Nat → List Int) (h : HS) : Nat := match idx h.2.2.2.2 (h.1.1 h.2.1) with
  | some j => j
  | none => hAt rl idF (setF h.1.1 h.2.2.1 ((h.1.1 h.2.2.1).eraseIdx h.2.2.2.1)) (setF h.1.2.1 h.2.1 h.2.2.2.1) h.1.2.2.2 h.2.1 h.2.2.2.2
def hsR (rl : Nat → List Int) (h : HS) : PR := (h.2.1, h.2.2.1, h.2.2.2.1, h.2.2.2.2, (idx h.2.2.2.2 (h.1.1 h.2.1)).isSome, hsO rl h)
def chn (rl : Nat → List Int) (N P : Nat) : List HS → PS → PS → Prop
  | [], A, B => A = B
  | h :: hs, A, B => h.1 = A ∧ hsOk N P h ∧ chn rl N P hs (hsN rl N h) B
theorem chn_snoc {rl : Nat → List Int} {N P : Nat} : ∀ (hs : List HS) (h : HS) (A B : PS), chn rl N P (hs ++ [h]) A B ↔ chn rl N P hs A h.1 ∧ hsOk N P h ∧ hsN rl N h = B
  | [], h, A, B => by
    show (h.1 = A ∧ hsOk N P h ∧ hsN rl N h = B) ↔ (A = h.1 ∧ hsOk N P h ∧ hsN rl N h = B)
    exact ⟨fun x => ⟨x.1.symm, x.2⟩, fun x => ⟨x.1.symm, x.2⟩⟩
  | g :: hs, h, A, B => by
    show (g.1 = A ∧ hsOk N P g ∧ chn rl N P (hs ++ [h]) (hsN rl N g) B) ↔ ((g.1 = A ∧ hsOk N P g ∧ chn rl N P hs (hsN rl N g) h.1) ∧ hsOk N P h ∧ hsN rl N h = B)
    rw [chn_snoc hs h (hsN rl N g) B]
    exact ⟨fun x => ⟨⟨x.1, x.2.1, x.2.2.1⟩, x.2.2.2⟩, fun x => ⟨x.1.1, x.1.2.1, x.1.2.2, x.2⟩⟩
def histOk (rl : Nat → List Int) (N P : Nat) (S0 S : PS) (hs : List HS) (K : Nat) : Prop := okS N P S ∧ hs.length ≤ 60 ∧ ∃ (A : PS) (D : Nat), chn rl N P hs A S ∧ S.2.2.2 = zI D ∧ hs.length ≤ D ∧ D ≤ K ∧ (hs.length = D → A = S0)
theorem histOk.mono {rl : Nat → List Int} {N P K K' : Nat} {S0 S : PS} {hs : List HS} (h : histOk rl N P S0 S hs K) (hk : K ≤ K') : histOk rl N P S0 S hs K' := by
  obtain ⟨h1, h2, A, D, h3, h4, h5, h6, h7⟩ := h
  exact ⟨h1, h2, A, D, h3, h4, h5, by omega, h7⟩
def addH (hs : List HS) (h : HS) : List HS := (if hs.length < 60 then hs else hs.drop 1) ++ [h]
theorem histOk.add {rl : Nat → List Int} {N P K : Nat} {S0 : PS} {hs : List HS} {h : HS} (hh : histOk rl N P S0 h.1 hs K) (ho : hsOk N P h) : histOk rl N P S0 (hsN rl N h) (addH hs h) (K + 1) := by
  obtain ⟨h1, h2, A, D, h3, h4, h5, h6, h7⟩ := hh
  have hd : (hsN rl N h).2.2.2 = zI ((D + 1 : Nat) : Int) := by
    show h.1.2.2.2 + zI 1 = _
    rw [h4, zI_add]; rfl
  refine ⟨okS_nx ho.1 ho.2.2.2.1 ho.2.2.2.2.2.1 ho.2.2.2.2.2.2.1 ho.2.2.2.2.2.2.2, ?_, ?_⟩
  · unfold addH
    rw [List.length_append, List.length_singleton]
    split
    · omega
    · rw [List.length_drop]; omega
  · unfold addH
    by_cases hl : hs.length < 60
    · rw [if_pos hl]
      exact ⟨A, D + 1, (chn_snoc hs h A _).mpr ⟨h3, ho, rfl⟩, hd, by (try dsimp only); rw [List.length_append, List.length_singleton]; omega, by omega, fun hx => h7 (by (try dsimp only); rw [List.length_append, List.length_singleton] at hx; omega)⟩
    · rw [if_neg hl]
      cases hs with
      | nil => simp at hl
      | cons g hs =>
        refine ⟨hsN rl N g, D + 1, (chn_snoc hs h _ _).mpr ⟨h3.2.2, ho, rfl⟩, hd, ?_, by omega, fun hx => ?_⟩
        · rw [List.length_cons] at h5
          simp only [List.drop_succ_cons, List.drop_zero, List.length_append, List.length_singleton]; omega
        · rw [List.length_cons] at h5 hl
          simp only [List.drop_succ_cons, List.drop_zero, List.length_append, List.length_singleton] at hx; omega
theorem histOk.undo {rl : Nat → List Int} {N P K : Nat} {S0 S : PS} {hs : List HS} {h : HS} (hh : histOk rl N P S0 S (hs ++ [h]) K) : hsOk N P h ∧ hsN rl N h = S ∧ histOk rl N P S0 h.1 hs K := by
  obtain ⟨h1, h2, A, D, h3, h4, h5, h6, h7⟩ := hh
  obtain ⟨c1, c2, c3⟩ := (chn_snoc hs h A S).mp h3
  rw [List.length_append, List.length_singleton] at h2 h5 h7
  refine ⟨c2, c3, c2.1, by omega, A, D - 1, c1, ?_, by omega, by omega, fun hx => h7 (by omega)⟩
  have : h.1.2.2.2 + zI 1 = zI D := by (try dsimp only); rw [← h4, ← c3]; rfl
  have h9 : h.1.2.2.2 = zI D - zI 1 := by (try dsimp only); rw [← this, Int32.add_sub_cancel]
  rw [h9, zI_sub]
  congr 1
  omega
theorem stays_0 (c : Nat) : stays (zI 0) c = false := by
  unfold stays
  exact decide_eq_false (fun h => h.2 (by decide))
theorem hsO_eq {rl : Nat → List Int} {h : HS} : stOwn rl idF (zI 0) h.1.1 h.1.2.1 h.1.2.2.2 h.2.1 h.2.2.1 h.2.2.2.1 h.2.2.2.2 = zI (hsO rl h) := by
  unfold stOwn hsO
  cases idx h.2.2.2.2 (h.1.1 h.2.1) with
  | some j => rfl
  | none => simp only [stays_0]; rfl
theorem hs_recD (rl : Nat → List Int) (h : HS) : recD (hsV rl h) (hsR rl h) := ⟨rfl, rfl, rfl, rfl, rfl, fun _ => hsO_eq⟩
theorem hs_hisD (rl : Nat → List Int) (hs : List HS) : hisD (hs.map (hsV rl)) (hs.map (hsR rl)) := by
  refine ⟨by (try dsimp only); rw [List.length_map, List.length_map], fun i v r hv hr => ?_⟩
  rw [List.getElem?_map] at hv hr
  cases hh : hs[i]? with
  | none => rw [hh] at hv; cases hv
  | some h =>
    rw [hh] at hv hr
    cases hv; cases hr
    exact hs_recD rl h
theorem hsO_le {rl : Nat → List Int} {N P : Nat} {h : HS} (ho : hsOk N P h) : hsO rl h ≤ (h.1.1 h.2.1).length := by
  unfold hsO
  cases hi : idx h.2.2.2.2 (h.1.1 h.2.1) with
  | some j => exact Nat.le_of_lt (idx_bound hi)
  | none =>
    have := hAt_le (rl := rl) (sit := idF) (f := setF h.1.1 h.2.2.1 ((h.1.1 h.2.2.1).eraseIdx h.2.2.2.1)) (last := setF h.1.2.1 h.2.1 h.2.2.2.1) (done := h.1.2.2.2) (p := h.2.1) (c := h.2.2.2.2)
    rw [setF_ne _ _ (fun hx => ho.2.2.2.2.2.2.1 hx.symm)] at this
    exact this
theorem hs_szR {rl : Nat → List Int} {N P : Nat} {h : HS} (ho : hsOk N P h) (hP : P ≤ 9) : szR N (hsR rl h) (lenF h.1.1) ∧ lenF (hsN rl N h).1 = szN (hsR rl h) (lenF h.1.1) := by
  have hO := hsO_le (rl := rl) ho
  obtain ⟨o1, o2, o3, o4, o5, o6, o7, o8⟩ := ho
  have hk := (List.getElem?_eq_some_iff.mp o8).1
  have hc : h.2.2.2.2 ∈ h.1.1 h.2.2.1 := List.mem_of_getElem? o8
  have hcP := o1.1.2.1 _ _ hc
  refine ⟨⟨o4, o6, o7, hk, by show h.2.2.2.2 < 1000; omega, fun ha => ⟨hO, ?_⟩⟩, ?_⟩
  · have hi : idx h.2.2.2.2 (h.1.1 h.2.1) = none := by
      have ha : (idx h.2.2.2.2 (h.1.1 h.2.1)).isSome = false := ha
      cases hx : idx h.2.2.2.2 (h.1.1 h.2.1) with
      | none => rfl
      | some j => rw [hx] at ha; cases ha
    exact o1.1.room hP hcP hi
  · show lenF (stF rl idF (zI 0) h.1.1 h.1.2.1 h.1.2.2.2 h.2.1 h.2.2.1 h.2.2.2.1 h.2.2.2.2) = setF (setF (lenF h.1.1) h.2.2.1 (lenF h.1.1 h.2.2.1 - 1)) h.2.1 (if (idx h.2.2.2.2 (h.1.1 h.2.1)).isSome = true then lenF h.1.1 h.2.1 - 1 else lenF h.1.1 h.2.1 + 1)
    have he : ((h.1.1 h.2.2.1).eraseIdx h.2.2.2.1).length = lenF h.1.1 h.2.2.1 - 1 := by (try dsimp only); rw [List.length_eraseIdx_of_lt hk]; rfl
    unfold stF
    cases hi : idx h.2.2.2.2 (h.1.1 h.2.1) with
    | some j =>
      simp only [Option.isSome_some, if_true]
      rw [len_set, len_set, he, List.length_eraseIdx_of_lt (idx_bound hi)]
      rfl
    | none =>
      simp only [stays_0, Option.isSome_none]
      rw [if_neg (by simp), if_neg (by simp)]
      rw [len_set, len_set, he]
      congr 1
      have hh := hAt_le (rl := rl) (sit := idF) (f := setF h.1.1 h.2.2.1 ((h.1.1 h.2.2.1).eraseIdx h.2.2.2.1)) (last := setF h.1.2.1 h.2.1 h.2.2.2.1) (done := h.1.2.2.2) (p := h.2.1) (c := h.2.2.2.2)
      rw [setF_ne _ _ (fun hx => o7 hx.symm)] at hh
      rw [List.length_insertIdx, if_pos hh]
      rfl
theorem chn_szH {rl : Nat → List Int} {N P : Nat} (hP : P ≤ 9) : ∀ (hs : List HS) (A B : PS), chn rl N P hs A B → szH N (hs.map (hsR rl)) (lenF A.1)
  | [], _, _, _ => trivial
  | h :: hs, A, B, hc => by
    obtain ⟨h1, h2, h3⟩ := hc
    obtain ⟨z1, z2⟩ := hs_szR (rl := rl) h2 hP
    rw [← h1]
    refine ⟨z1, ?_⟩
    rw [← z2]
    exact chn_szH hP hs _ B h3
/-- the pure part -/
def pureI (C : CF) (G : GM) (M : MI) (K : Nat) : Prop := (2 ≤ C.1 ∧ C.1 ≤ 6 ∧ C.2.1 ≤ 9 ∧ C.2.2.1 ≤ 9999 ∧ rulesW C.2.2.2.1 ∧ ∀ i, C.2.2.2.2 i ≤ 99) ∧ (okS C.1 C.2.1 G.1 ∧ totL G.1.1 6 ≤ 19) ∧ histOk C.2.2.2.1 C.1 C.2.1 G.1 G.2.1 G.2.2.1 K ∧ (∀ Si Hi, G.2.2.2 = some (Si, Hi) → histOk C.2.2.2.1 C.1 C.2.1 G.1 Si Hi K) ∧ (M.1 ≤ 600 ∧ (∀ i, i < M.1 → M.2.1 i < 256) ∧ -1 ≤ M.2.2.1 ∧ M.2.2.1 ≤ 600 ∧ M.2.2.2.1 ≤ K ∧ M.2.2.2.2 ≤ K) ∧ K ≤ 1000000
theorem pureI.mono {C : CF} {G : GM} {M : MI} {K K' : Nat} (h : pureI C G M K) (hk : K ≤ K') (hb : K' ≤ 1000000) : pureI C G M K' := by
  obtain ⟨h1, h2, h3, h4, ⟨h5, h6, h7, h8, h9, h10⟩, h11⟩ := h
  exact ⟨h1, h2, h3.mono hk, fun Si Hi hx => (h4 Si Hi hx).mono hk, ⟨h5, h6, h7, h8, by omega, by omega⟩, hb⟩
/-- the class -/
def icT (e : mm_E) (z : Nat) : Prop := e.1 z = some (11, 19) ∧ rdT e (z + 1) (z + 2) (z + 40) ∧ rdT e (z + 1) (z + 21) (z + 40) ∧ logT e.1 (z + 47) ∧ logT e.1 (z + 110) ∧ gameT e.1 (z + 173) ∧ gameT e.1 (z + 193) ∧ gameT e.1 (z + 213) ∧ gameT e.1 (z + 233) ∧ e.1 (z + 253) = some (2, 9) ∧ plaT e.1 (z + 254) ∧ outT e.1 (z + 259) ∧ belT e.1 (z + 369) ∧ (∀ i, i < 17 → e.2.1 (100 + i) < z) ∧ 2000 < e.2.2
def icF (m : mm_V) (z t d : Nat) (im : Bool) (M : MI) : Prop := (m z 0 = .ref (z + 1) ∧ m z 1 = .ref t ∧ m z 2 = .ref d ∧ m z 3 = .ref (z + 40) ∧ m z 4 = .ref (z + 47) ∧ m z 5 = .ref (z + 110) ∧ m z 6 = .ref (z + 173)) ∧ (m z 7 = .ref (z + 193) ∧ m z 8 = .ref (z + 213) ∧ m z 9 = .ref (z + 233) ∧ m z 10 = .ref (z + 253) ∧ m z 11 = .ref (z + 254) ∧ m z 12 = .ref (z + 259) ∧ m z 13 = .ref (z + 369)) ∧ m z 14 = .int (bZ im) ∧ m z 15 = .int (zI M.1) ∧ m z 16 = .int (zI M.2.2.1) ∧ m z 17 = .int (zI M.2.2.2.1) ∧ m z 18 = .int (zI M.2.2.2.2)
def icA (m : mm_V) (z : Nat) (M : MI) : Prop := ∀ i, i < M.1 → m (z + 1) i = .int (zI (M.2.1 i))
def icD (m : mm_V) (t : Nat) : Prop := toldS m t ∧ ∃ F, toldF m t F
def icC (e : mm_E) (m : mm_V) (t : Nat) (C : CF) : Prop := cE e m t C.1 C.2.1 C.2.2.2.1 ∧ m t 8 = .int (zI C.2.2.1) ∧ (∀ i, i < 36 → m (t + 2) i = .int (zI (C.2.2.2.2 i))) ∧ ∃ F, toldF m t F
def icL (m : mm_V) (z : Nat) (rl : Nat → List Int) (hs : List HS) : Prop := logR m (z + 47) (hs.map (hsV rl)) ∧ ∃ H, logR m (z + 110) H
def icG (m : mm_V) (z t : Nat) (G : GM) : Prop := (∃ x, gC m (z + 173) t idF (zI 0) (zI 0) x G.2.1) ∧ (∃ x, gC m (z + 193) t idF (zI 0) (zI 0) x G.1) ∧ gmW m (z + 213)
def icS (m : mm_V) (z : Nat) : Prop := gmW m (z + 233) ∧ plaS m (z + 254) ∧ outS m (z + 259) ∧ lvW m (z + 259) ∧ belZ m (z + 369)
def icI (m : mm_V) (z t : Nat) (rl : Nat → List Int) (im : Option (PS × List HS)) : Prop := ∀ Si Hi, im = some (Si, Hi) → (∃ x, gC m (z + 213) t idF (zI 0) (zI 0) x Si) ∧ logR m (z + 110) (Hi.map (hsV rl))
def IC (e : mm_E) (m : mm_V) (z t d : Nat) (C : CF) (G : GM) (M : MI) : Prop := ((t = z + 2 ∧ d = z + 21) ∨ (t = z + 21 ∧ d = z + 2)) ∧ icF m z t d G.2.2.2.isSome M ∧ icA m z M ∧ icC e m t C ∧ icD m d ∧ rcS m (z + 40) ∧ icL m z C.2.2.2.1 G.2.2.1 ∧ icG m z t G ∧ icS m z ∧ icI m z t C.2.2.2.1 G.2.2.2 ∧ strS e m
theorem icF.keep {m m' : mm_V} {z t d : Nat} {im : Bool} {M : MI} (h : icF m z t d im M) (h1 : m' z = m z) : icF m' z t d im M := by
  unfold icF at h ⊢
  rw [h1]; exact h
theorem icD.keep {m m' : mm_V} {t : Nat} (h : icD m t) (h1 : ∀ b, t ≤ b → b < t + 19 → b ≠ t + 6 → m' b = m b) : icD m' t := by
  obtain ⟨a1, F, a2⟩ := h
  exact ⟨a1.keep (fun j _ => by (try dsimp only); rw [h1 _ (by omega) (by omega) (by omega)]) (h1 _ (by omega) (by omega) (by omega)), F, a2.keep (fun b x1 x2 => h1 b (by omega) (by omega) (by omega))⟩
theorem icC.keep {e : mm_E} {m m' : mm_V} {t : Nat} {C : CF} (h : icC e m t C) (h1 : ∀ b, t ≤ b → b < t + 19 → b ≠ t + 6 → m' b = m b) : icC e m' t C := by
  obtain ⟨a1, a2, a3, F, a4⟩ := h
  exact ⟨a1.keep (fun b x1 x2 x3 => h1 b x1 (by omega) x3), by (try dsimp only); rw [h1 _ (by omega) (by omega) (by omega)]; exact a2, fun i hi => by (try dsimp only); rw [h1 _ (by omega) (by omega) (by omega)]; exact a3 i hi, F, a4.keep (fun b x1 x2 => h1 b (by omega) (by omega) (by omega))⟩
theorem icL.keep {m m' : mm_V} {z : Nat} {rl : Nat → List Int} {hs : List HS} (h : icL m z rl hs) (h1 : ∀ b, z + 47 ≤ b → b < z + 173 → m' b = m b) : icL m' z rl hs := by
  obtain ⟨a1, H, a2⟩ := h
  exact ⟨a1.keep (fun b x1 x2 => h1 b (by omega) (by omega)), H, a2.keep (fun b x1 x2 => h1 b (by omega) (by omega))⟩
theorem icG.keep {m m' : mm_V} {z t : Nat} {G : GM} (h : icG m z t G) (h1 : ∀ b, z + 173 ≤ b → b < z + 233 → b ≠ z + 179 → b ≠ z + 180 → m' b = m b) : icG m' z t G := by
  obtain ⟨⟨x, a1⟩, ⟨y, a2⟩, a3⟩ := h
  exact ⟨⟨x, a1.keep (fun b x1 x2 x3 x4 => h1 b (by omega) (by omega) (by omega) (by omega))⟩, ⟨y, a2.keep (fun b x1 x2 x3 x4 => h1 b (by omega) (by omega) (by omega) (by omega))⟩, a3.keep (fun b x1 x2 => h1 b (by omega) (by omega) (by omega) (by omega))⟩
theorem icI.keep {m m' : mm_V} {z t : Nat} {rl : Nat → List Int} {im : Option (PS × List HS)} (h : icI m z t rl im) (h1 : ∀ b, (z + 110 ≤ b ∧ b < z + 173) ∨ (z + 213 ≤ b ∧ b < z + 233) → m' b = m b) : icI m' z t rl im := by
  intro Si Hi hx
  obtain ⟨⟨x, a1⟩, a2⟩ := h Si Hi hx
  exact ⟨⟨x, a1.keep (fun b x1 x2 x3 x4 => h1 b (by omega))⟩, a2.keep (fun b x1 x2 => h1 b (by omega))⟩
theorem rcS.row {m m' : mm_V} {r : Nat} (h : rcS m r) (h1 : ∀ b, r ≤ b → b < r + 7 → m' b = m b) : rcS m' r := h.keep (fun j _ => by (try dsimp only); rw [h1 _ (by omega) (by omega)]) ⟨by (try dsimp only); rw [h1 _ (by omega) (by omega)], by (try dsimp only); rw [h1 _ (by omega) (by omega)]⟩ (by (try dsimp only); rw [h1 _ (by omega) (by omega)]; exact h.2.2.2.2.2.2)
/-- only what is used anew has changed -/
theorem IC.scr {e : mm_E} {m m' : mm_V} {z t d : Nat} {C : CF} {G : GM} {M : MI} (hT : icT e z) (h : IC e m z t d C G M) (hk : ∀ b, b < z + 233 → b ≠ t + 6 → b ≠ z + 179 → b ≠ z + 180 → m' b = m b) (hs : icS m' z) : IC e m' z t d C G M := by
  obtain ⟨h1, h2, h3, h4, h5, h6, h7, h8, h9, h10, h11⟩ := h
  have hst := hT.2.2.2.2.2.2.2.2.2.2.2.2.2.1
  refine ⟨h1, h2.keep (hk _ (by omega) (by omega) (by omega) (by omega)), fun i hi => by (try dsimp only); rw [hk _ (by omega) (by omega) (by omega) (by omega)]; exact h3 i hi, h4.keep (fun b x1 x2 x3 => hk b (by omega) (by omega) (by omega) (by omega)), h5.keep (fun b x1 x2 x3 => hk b (by omega) (by omega) (by omega) (by omega)), h6.row (fun b x1 x2 => hk b (by omega) (by omega) (by omega) (by omega)), h7.keep (fun b x1 x2 => hk b (by omega) (by omega) (by omega) (by omega)), h8.keep (fun b x1 x2 x3 x4 => hk b (by omega) (by omega) x3 x4), hs, h10.keep (fun b x1 => hk b (by omega) (by omega) (by omega) (by omega)), h11.keep hst (fun b hb => hk b (by omega) (by omega) (by omega) (by omega))⟩
theorem icS.keep {m m' : mm_V} {z : Nat} (h : icS m z) (hk : ∀ b, z + 233 ≤ b → b < z + 402 → m' b = m b) : icS m' z := by
  obtain ⟨a1, a2, a3, a4, a5, ⟨g1, a6⟩, g2, a7⟩ := h
  exact ⟨a1.keep (fun b x1 x2 => hk b (by omega) (by omega)), a2.keep (fun j _ => by (try dsimp only); rw [hk _ (by omega) (by omega)]), a3.keep (fun j _ => by (try dsimp only); rw [hk _ (by omega) (by omega)]) (hk _ (by omega) (by omega)) (hk _ (by omega) (by omega)), fun i hi => (a4 i hi).keep (fun b x1 x2 => hk b (by omega) (by omega)), a5.keep (fun j _ => by (try dsimp only); rw [hk _ (by omega) (by omega)]) (hk _ (by omega) (by omega)) (hk _ (by omega) (by omega)), ⟨g1, a6.keep (fun i hi => ⟨hk _ (by omega) (by omega), hk _ (by omega) (by omega)⟩)⟩, g2, a7.keep (fun i hi => ⟨hk _ (by omega) (by omega), hk _ (by omega) (by omega)⟩)⟩
theorem IC.out {e : mm_E} {m m' : mm_V} {z t d : Nat} {C : CF} {G : GM} {M : MI} (hT : icT e z) (h : IC e m z t d C G M) (hk : ∀ b, b < z + 402 → m' b = m b) : IC e m' z t d C G M := h.scr hT (fun b x1 _ _ _ => hk b (by omega)) (h.2.2.2.2.2.2.2.2.1.keep (fun b _ x2 => hk b x2))
/-- the model -/
def imT (e : mm_E) (q : Nat) : Prop := modT e.1 q ∧ 2000 < e.2.2 ∧ bcst 19 < e.2.2 ∧ cst 4 < e.2.2
def intR (m : mm_V) (a n : Nat) : Prop := ∀ k, k < n → ∃ v, m a k = .int v
def imF (m : mm_V) (q : Nat) (C : CF) (im : Bool) (M : MI) : Prop := m q 3 = .int (zI C.2.2.1) ∧ m q 9 = .int (zI M.1) ∧ m q 11 = .int (zI M.2.2.1) ∧ (∃ v, m q 18 = .int v) ∧ (∃ v, m q 19 = .int v) ∧ m q 71 = .int (bZ im)
def imA (m : mm_V) (q : Nat) (C : CF) (M : MI) : Prop := (∀ i, i < M.1 → m (q + 4) i = .int (zI (M.2.1 i))) ∧ m (q + 5) 0 = .int (zI M.2.2.2.1) ∧ m (q + 5) 1 = .int (zI M.2.2.2.2) ∧ (∀ i, i < 36 → m (q + 2) i = .int (zI (C.2.2.2.2 i))) ∧ intR m (q + 9) 1600
def imG (m : mm_V) (q N : Nat) (G : GM) : Prop := (gM m (q + 13) N G.1 ∧ intR m (q + 13) 128) ∧ gM m (q + 14) N G.2.1 ∧ intR m (q + 14) 128
def imI (m : mm_V) (q N : Nat) (rl : Nat → List Int) (im : Option (PS × List HS)) : Prop := ∀ Si Hi, im = some (Si, Hi) → m q 72 = .int (zI Hi.length) ∧ gM m (q + 38) N Si ∧ intR m (q + 38) 128 ∧ mlogA m (q + 39) (Hi.map (hsV rl))
def IM (e : mm_E) (m : mm_V) (q : Nat) (C : CF) (G : GM) (M : MI) : Prop := mE e m q C.1 C.2.1 C.2.2.2.1 ∧ imF m q C G.2.2.2.isSome M ∧ imA m q C M ∧ sitM m q idF ∧ imG m q C.1 G ∧ mlogR m q (G.2.2.1.map (hsV C.2.2.2.1)) ∧ imI m q C.1 C.2.2.2.1 G.2.2.2
theorem intR.keep {m m' : mm_V} {a n : Nat} (h : intR m a n) (h1 : m' a = m a) : intR m' a n := fun k hk => by (try dsimp only); rw [h1]; exact h k hk
theorem IM.scr {e : mm_E} {m m' : mm_V} {q : Nat} {C : CF} {G : GM} {M : MI} (h : IM e m q C G M) (hf : ∀ k, k ≠ 0 → k ≠ 41 → k ≠ 45 → k ≠ 46 → k ≠ 47 → k ≠ 54 → k ≠ 66 → k ≠ 67 → m' q k = m q k) (ho : ∀ b, b ≠ q → (b < q + 15 ∨ b = q + 18 ∨ b = q + 19 ∨ q + 38 ≤ b) → m' b = m b) : IM e m' q C G M := by
  obtain ⟨h1, ⟨a1, a2, a3, a4, a5, a6⟩, ⟨b1, b2, b3, b4, b5⟩, h4, ⟨⟨c1, c2⟩, c3, c4⟩, h6, h7⟩ := h
  refine ⟨h1.keep' (L := [0, 41, 45, 46, 47, 54, 66, 67]) (by decide) (fun j hj => by
    simp only [List.mem_cons, List.not_mem_nil, or_false, not_or] at hj
    exact hf j hj.1 hj.2.1 hj.2.2.1 hj.2.2.2.1 hj.2.2.2.2.1 hj.2.2.2.2.2.1 hj.2.2.2.2.2.2.1 hj.2.2.2.2.2.2.2) (ho _ (by omega) (by omega)) (ho _ (by omega) (by omega)), ⟨by (try dsimp only); rw [hf _ (by omega) (by omega) (by omega) (by omega) (by omega) (by omega) (by omega) (by omega)]; exact a1, by (try dsimp only); rw [hf _ (by omega) (by omega) (by omega) (by omega) (by omega) (by omega) (by omega) (by omega)]; exact a2, by (try dsimp only); rw [hf _ (by omega) (by omega) (by omega) (by omega) (by omega) (by omega) (by omega) (by omega)]; exact a3, by (try dsimp only); rw [hf _ (by omega) (by omega) (by omega) (by omega) (by omega) (by omega) (by omega) (by omega)]; exact a4, by (try dsimp only); rw [hf _ (by omega) (by omega) (by omega) (by omega) (by omega) (by omega) (by omega) (by omega)]; exact a5, by (try dsimp only); rw [hf _ (by omega) (by omega) (by omega) (by omega) (by omega) (by omega) (by omega) (by omega)]; exact a6⟩, ⟨fun i hi => by (try dsimp only); rw [ho _ (by omega) (by omega)]; exact b1 i hi, by (try dsimp only); rw [ho _ (by omega) (by omega)]; exact b2, by (try dsimp only); rw [ho _ (by omega) (by omega)]; exact b3, fun i hi => by (try dsimp only); rw [ho _ (by omega) (by omega)]; exact b4 i hi, b5.keep (ho _ (by omega) (by omega))⟩, h4.keep (ho _ (by omega) (by omega)), ⟨⟨c1.keep (ho _ (by omega) (by omega)), c2.keep (ho _ (by omega) (by omega))⟩, c3.keep (ho _ (by omega) (by omega)), c4.keep (ho _ (by omega) (by omega))⟩, h6.keep (hf _ (by omega) (by omega) (by omega) (by omega) (by omega) (by omega) (by omega) (by omega)) (ho _ (by omega) (by omega)), fun Si Hi hx => ?_⟩
  obtain ⟨d1, d2, d3, d4⟩ := h7 Si Hi hx
  exact ⟨by (try dsimp only); rw [hf _ (by omega) (by omega) (by omega) (by omega) (by omega) (by omega) (by omega) (by omega)]; exact d1, d2.keep (ho _ (by omega) (by omega)), d3.keep (ho _ (by omega) (by omega)), d4.keep (ho _ (by omega) (by omega))⟩
theorem IM.out {e : mm_E} {m m' : mm_V} {q : Nat} {C : CF} {G : GM} {M : MI} (h : IM e m q C G M) (hk : ∀ b, q ≤ b → b < q + 40 → m' b = m b) : IM e m' q C G M := by
  obtain ⟨h1, ⟨a1, a2, a3, a4, a5, a6⟩, ⟨b1, b2, b3, b4, b5⟩, h4, ⟨⟨c1, c2⟩, c3, c4⟩, h6, h7⟩ := h
  have hq := hk q (by omega) (by omega)
  have ho : ∀ i, i < 40 → m' (q + i) = m (q + i) := fun i hi => hk _ (by omega) (by omega)
  refine ⟨h1.keep (fun j _ => by (try dsimp only); rw [hq]) (ho 1 (by omega)) (ho 3 (by omega)), ⟨by (try dsimp only); rw [hq]; exact a1, by (try dsimp only); rw [hq]; exact a2, by (try dsimp only); rw [hq]; exact a3, by (try dsimp only); rw [hq]; exact a4, by (try dsimp only); rw [hq]; exact a5, by (try dsimp only); rw [hq]; exact a6⟩, ⟨fun i hi => by (try dsimp only); rw [ho 4 (by omega)]; exact b1 i hi, by (try dsimp only); rw [ho 5 (by omega)]; exact b2, by (try dsimp only); rw [ho 5 (by omega)]; exact b3, fun i hi => by (try dsimp only); rw [ho 2 (by omega)]; exact b4 i hi, b5.keep (ho 9 (by omega))⟩, h4.keep (ho 18 (by omega)), ⟨⟨c1.keep (ho 13 (by omega)), c2.keep (ho 13 (by omega))⟩, c3.keep (ho 14 (by omega)), c4.keep (ho 14 (by omega))⟩, h6.keep (by (try dsimp only); rw [hq]) (ho 19 (by omega)), fun Si Hi hx => ?_⟩
  obtain ⟨d1, d2, d3, d4⟩ := h7 Si Hi hx
  exact ⟨by (try dsimp only); rw [hq]; exact d1, d2.keep (ho 38 (by omega)), d3.keep (ho 38 (by omega)), d4.keep (ho 39 (by omega))⟩
