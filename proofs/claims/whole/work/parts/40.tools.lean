/-! NUMBERS: an int as a whole number; reads and writes of the functions. -/
def zI (z : Int) : Int32 := Int32.ofInt z
theorem zI_add (x y : Int) : zI x + zI y = zI (x + y) := (Int32.ofInt_add x y).symm
theorem zI_sub (x y : Int) : zI x - zI y = zI (x - y) := (Int32.ofInt_sub x y).symm
theorem zI_mul (x y : Int) : zI x * zI y = zI (x * y) := (Int32.ofInt_mul x y).symm
theorem zI_neg (x : Int) : -zI x = zI (-x) := (Int32.ofInt_neg x).symm
theorem zI_nI (n : Nat) : nI n = zI n := Int32.ofInt_eq_ofNat.symm
theorem zI_toInt {x : Int} (a : -2147483648 ≤ x) (b : x < 2147483648) : (zI x).toInt = x := Int32.toInt_ofInt_of_le (by omega) (by omega)
theorem zI_lt {x y : Int} (a : -2147483648 ≤ x) (b : x < 2147483648) (c : -2147483648 ≤ y) (d : y < 2147483648) : (zI x < zI y) = (x < y) := by
  rw [Int32.lt_iff_toInt_lt, zI_toInt a b, zI_toInt c d]
theorem zI_le {x y : Int} (a : -2147483648 ≤ x) (b : x < 2147483648) (c : -2147483648 ≤ y) (d : y < 2147483648) : (zI x ≤ zI y) = (x ≤ y) := by
  rw [Int32.le_iff_toInt_le, zI_toInt a b, zI_toInt c d]
theorem zI_eq {x y : Int} (a : -2147483648 ≤ x) (b : x < 2147483648) (c : -2147483648 ≤ y) (d : y < 2147483648) : (zI x = zI y) = (x = y) := by
  rw [← Int32.toInt_inj, zI_toInt a b, zI_toInt c d]
theorem zI_ix {x : Int} (a : 0 ≤ x) (b : x < 2147483648) : (zI x).toNatClampNeg = x.toNat := by
  show (zI x).toInt.toNat = x.toNat
  rw [zI_toInt (by omega) b]
theorem zI_neg0 {x : Int} (a : 0 ≤ x) (b : x < 2147483648) : ¬ zI x < 0 := by
  rw [show (0 : Int32) = zI 0 from rfl, zI_lt (by omega) b (by omega) (by omega)]; omega
theorem LT : ((-21 : Int32) = zI (-21)) ∧ ((-20 : Int32) = zI (-20)) ∧ ((-19 : Int32) = zI (-19)) ∧ ((-18 : Int32) = zI (-18)) ∧ ((-17 : Int32) = zI (-17)) ∧ ((-16 : Int32) = zI (-16)) ∧ ((-15 : Int32) = zI (-15)) ∧ ((-14 : Int32) = zI (-14)) ∧ ((-13 : Int32) = zI (-13)) ∧ ((-12 : Int32) = zI (-12)) ∧ ((-11 : Int32) = zI (-11)) ∧ ((-8 : Int32) = zI (-8)) ∧ ((-6 : Int32) = zI (-6)) ∧ ((-5 : Int32) = zI (-5)) ∧ ((-4 : Int32) = zI (-4)) ∧ ((-3 : Int32) = zI (-3)) ∧ ((-2 : Int32) = zI (-2)) ∧ ((-1 : Int32) = zI (-1)) ∧ ((0 : Int32) = zI (0)) ∧ ((1 : Int32) = zI (1)) ∧ ((2 : Int32) = zI (2)) ∧ ((3 : Int32) = zI (3)) ∧ ((4 : Int32) = zI (4)) ∧ ((5 : Int32) = zI (5)) ∧ ((6 : Int32) = zI (6)) ∧ ((7 : Int32) = zI (7)) ∧ ((8 : Int32) = zI (8)) ∧ ((9 : Int32) = zI (9)) ∧ ((10 : Int32) = zI (10)) ∧ ((11 : Int32) = zI (11)) ∧ ((12 : Int32) = zI (12)) ∧ ((13 : Int32) = zI (13)) ∧ ((14 : Int32) = zI (14)) ∧ ((15 : Int32) = zI (15)) ∧ ((16 : Int32) = zI (16)) ∧ ((17 : Int32) = zI (17)) ∧ ((18 : Int32) = zI (18)) ∧ ((19 : Int32) = zI (19)) ∧ ((20 : Int32) = zI (20)) ∧ ((21 : Int32) = zI (21)) ∧ ((22 : Int32) = zI (22)) ∧ ((23 : Int32) = zI (23)) ∧ ((24 : Int32) = zI (24)) ∧ ((25 : Int32) = zI (25)) ∧ ((31 : Int32) = zI (31)) ∧ ((32 : Int32) = zI (32)) ∧ ((36 : Int32) = zI (36)) ∧ ((40 : Int32) = zI (40)) ∧ ((41 : Int32) = zI (41)) ∧ ((42 : Int32) = zI (42)) ∧ ((43 : Int32) = zI (43)) ∧ ((45 : Int32) = zI (45)) ∧ ((47 : Int32) = zI (47)) ∧ ((48 : Int32) = zI (48)) ∧ ((57 : Int32) = zI (57)) ∧ ((59 : Int32) = zI (59)) ∧ ((60 : Int32) = zI (60)) ∧ ((61 : Int32) = zI (61)) ∧ ((96 : Int32) = zI (96)) ∧ ((97 : Int32) = zI (97)) ∧ ((98 : Int32) = zI (98)) ∧ ((99 : Int32) = zI (99)) ∧ ((100 : Int32) = zI (100)) ∧ ((101 : Int32) = zI (101)) ∧ ((102 : Int32) = zI (102)) ∧ ((104 : Int32) = zI (104)) ∧ ((105 : Int32) = zI (105)) ∧ ((108 : Int32) = zI (108)) ∧ ((109 : Int32) = zI (109)) ∧ ((110 : Int32) = zI (110)) ∧ ((111 : Int32) = zI (111)) ∧ ((112 : Int32) = zI (112)) ∧ ((113 : Int32) = zI (113)) ∧ ((114 : Int32) = zI (114)) ∧ ((115 : Int32) = zI (115)) ∧ ((116 : Int32) = zI (116)) ∧ ((117 : Int32) = zI (117)) ∧ ((119 : Int32) = zI (119)) ∧ ((120 : Int32) = zI (120)) ∧ ((121 : Int32) = zI (121)) ∧ ((122 : Int32) = zI (122)) ∧ ((128 : Int32) = zI (128)) ∧ ((200 : Int32) = zI (200)) ∧ ((255 : Int32) = zI (255)) ∧ ((540 : Int32) = zI (540)) ∧ ((580 : Int32) = zI (580)) ∧ ((600 : Int32) = zI (600)) ∧ ((640 : Int32) = zI (640)) ∧ ((800 : Int32) = zI (800)) ∧ ((1600 : Int32) = zI (1600)) ∧ ((9999 : Int32) = zI (9999)) ∧ ((12345 : Int32) = zI (12345)) ∧ ((20000 : Int32) = zI (20000)) ∧ ((32767 : Int32) = zI (32767)) ∧ ((1103515245 : Int32) = zI (1103515245)) := ⟨rfl, rfl, rfl, rfl, rfl, rfl, rfl, rfl, rfl, rfl, rfl, rfl, rfl, rfl, rfl, rfl, rfl, rfl, rfl, rfl, rfl, rfl, rfl, rfl, rfl, rfl, rfl, rfl, rfl, rfl, rfl, rfl, rfl, rfl, rfl, rfl, rfl, rfl, rfl, rfl, rfl, rfl, rfl, rfl, rfl, rfl, rfl, rfl, rfl, rfl, rfl, rfl, rfl, rfl, rfl, rfl, rfl, rfl, rfl, rfl, rfl, rfl, rfl, rfl, rfl, rfl, rfl, rfl, rfl, rfl, rfl, rfl, rfl, rfl, rfl, rfl, rfl, rfl, rfl, rfl, rfl, rfl, rfl, rfl, rfl, rfl, rfl, rfl, rfl, rfl, rfl, rfl, rfl, rfl, rfl⟩
theorem ZA : (∀ x : Int, -zI x = zI (-x)) ∧ (∀ x y : Int, zI x + zI y = zI (x + y)) ∧ (∀ x y : Int, zI x - zI y = zI (x - y)) ∧ (∀ x y : Int, zI x * zI y = zI (x * y)) ∧ (∀ n : Nat, nI n = zI n) := ⟨zI_neg, zI_add, zI_sub, zI_mul, zI_nI⟩
theorem ZC : (∀ x y : Int, -2147483648 ≤ x → x < 2147483648 → -2147483648 ≤ y → y < 2147483648 → ((zI x < zI y) = (x < y))) ∧ (∀ x y : Int, -2147483648 ≤ x → x < 2147483648 → -2147483648 ≤ y → y < 2147483648 → ((zI x ≤ zI y) = (x ≤ y))) ∧ (∀ x y : Int, -2147483648 ≤ x → x < 2147483648 → -2147483648 ≤ y → y < 2147483648 → ((zI x = zI y) = (x = y))) := ⟨fun _ _ => zI_lt, fun _ _ => zI_le, fun _ _ => zI_eq⟩
section RW
variable {g : mm_T} {m : mm_V} {t n a k : Nat}
theorem rd_gi {v : Int32} (hg : g a = some (t, n)) (hv : m a k = .int v) : mm_gi g m t n a k = some v := by simp [mm_gi, hg, hv]
theorem rd_gl {v : Int64} (hg : g a = some (t, n)) (hv : m a k = .long v) : mm_gl g m t n a k = some v := by simp [mm_gl, hg, hv]
theorem rd_gr {v : Nat} (hg : g a = some (t, n)) (hv : m a k = .ref v) : mm_gr g m t n a k = some v := by simp [mm_gr, hg, hv]
theorem wr_pf {v : Value} (hg : g a = some (t, n)) : mm_pf g m t n a k v = some (mm_up m a k v) := by simp [mm_pf, hg]
theorem wr_pz {x : Int32} (hg : g a = some (t, n)) (hx : x = 0 ∨ x = 1) : mm_pz g m t n a k x = some (mm_up m a k (.int x)) := by simp [mm_pz, hg, hx]
theorem ix_z {z : Int} {i : Nat} (hg : g a = some (t, n)) (hz : z = i) (hi : i < n) (hn : n ≤ 1000000) : mm_ix g t a (zI z) = some i := by
  subst hz
  unfold mm_ix
  rw [hg]
  have h1 : (zI (i : Int)).toNatClampNeg = i := by rw [zI_ix (by omega) (by omega)]; simp
  simp only [h1]
  rw [if_pos ⟨trivial, zI_neg0 (by omega) (by omega), hi⟩]
theorem rd_ai {z : Int} {i : Nat} {v : Int32} (hg : g a = some (t, n)) (hz : z = i) (hi : i < n) (hn : n ≤ 1000000) (hv : m a i = .int v) : mm_ai g m t a (zI z) = some v := by simp [mm_ai, ix_z hg hz hi hn, hv]
theorem rd_al {z : Int} {i : Nat} {v : Int64} (hg : g a = some (21, n)) (hz : z = i) (hi : i < n) (hn : n ≤ 1000000) (hv : m a i = .long v) : mm_al g m a (zI z) = some v := by simp [mm_al, ix_z hg hz hi hn, hv]
theorem rd_aq {z : Int} {i v : Nat} (hg : g a = some (t, n)) (hz : z = i) (hi : i < n) (hn : n ≤ 1000000) (hv : m a i = .ref v) : mm_aq g m t a (zI z) = some v := by simp [mm_aq, ix_z hg hz hi hn, hv]
theorem wr_si {z : Int} {i : Nat} {x : Int32} (hg : g a = some (20, n)) (hz : z = i) (hi : i < n) (hn : n ≤ 1000000) : mm_si g m a (zI z) x = some (mm_up m a i (.int x)) := by simp [mm_si, ix_z hg hz hi hn]
theorem wr_sj {z : Int} {i : Nat} {x : Int64} (hg : g a = some (21, n)) (hz : z = i) (hi : i < n) (hn : n ≤ 1000000) : mm_sj g m a (zI z) x = some (mm_up m a i (.long x)) := by simp [mm_sj, ix_z hg hz hi hn]
theorem wr_sz {z : Int} {i : Nat} {x : Int32} (hg : g a = some (22, n)) (hz : z = i) (hi : i < n) (hn : n ≤ 1000000) (hx : x = 0 ∨ x = 1) : mm_sz g m a (zI z) x = some (mm_up m a i (.int x)) := by simp [mm_sz, ix_z hg hz hi hn, hx]
theorem rd_ln (hg : g a = some (t, n)) (h1 : 20 ≤ t) (h2 : t ≤ 25) : mm_ln g a = some (zI n) := by simp [mm_ln, hg, h1, h2, zI_nI]
end RW
theorem up_at (m : mm_V) (a k : Nat) (v : Value) : mm_up m a k v a k = v := by simp [mm_up]
theorem up_ne (m : mm_V) {a k b j : Nat} (v : Value) (h : b ≠ a ∨ j ≠ k) : mm_up m a k v b j = m b j := by
  unfold mm_up
  rw [if_neg]
  rintro ⟨rfl, rfl⟩
  rcases h with h | h <;> exact h rfl
theorem up_row (m : mm_V) {a b : Nat} (k : Nat) (v : Value) (h : b ≠ a) : mm_up m a k v b = m b := mm_up_ne m k v h
theorem rz_0 (m : mm_V) : mm_rz (zI 0) m = some (zI 0, m) := rfl
theorem rz_1 (m : mm_V) : mm_rz (zI 1) m = some (zI 1, m) := rfl
/-! ifs decided by arithmetic: < il, ≤ ie, = iq, ≠ in; p taken, n not -/
theorem ilp {α : Type} {x y : Int} {A B : α} (h : -2147483648 ≤ x ∧ x < 2147483648 ∧ -2147483648 ≤ y ∧ y < 2147483648 ∧ x < y) : (if zI x < zI y then A else B) = A := if_pos (by rw [zI_lt h.1 h.2.1 h.2.2.1 h.2.2.2.1]; exact h.2.2.2.2)
theorem iln {α : Type} {x y : Int} {A B : α} (h : -2147483648 ≤ x ∧ x < 2147483648 ∧ -2147483648 ≤ y ∧ y < 2147483648 ∧ ¬ (x < y)) : (if zI x < zI y then A else B) = B := if_neg (by rw [zI_lt h.1 h.2.1 h.2.2.1 h.2.2.2.1]; exact h.2.2.2.2)
theorem iep {α : Type} {x y : Int} {A B : α} (h : -2147483648 ≤ x ∧ x < 2147483648 ∧ -2147483648 ≤ y ∧ y < 2147483648 ∧ x ≤ y) : (if zI x ≤ zI y then A else B) = A := if_pos (by rw [zI_le h.1 h.2.1 h.2.2.1 h.2.2.2.1]; exact h.2.2.2.2)
theorem ien {α : Type} {x y : Int} {A B : α} (h : -2147483648 ≤ x ∧ x < 2147483648 ∧ -2147483648 ≤ y ∧ y < 2147483648 ∧ ¬ (x ≤ y)) : (if zI x ≤ zI y then A else B) = B := if_neg (by rw [zI_le h.1 h.2.1 h.2.2.1 h.2.2.2.1]; exact h.2.2.2.2)
theorem iqp {α : Type} {x y : Int} {A B : α} (h : -2147483648 ≤ x ∧ x < 2147483648 ∧ -2147483648 ≤ y ∧ y < 2147483648 ∧ x = y) : (if zI x = zI y then A else B) = A := if_pos (by rw [zI_eq h.1 h.2.1 h.2.2.1 h.2.2.2.1]; exact h.2.2.2.2)
theorem iqn {α : Type} {x y : Int} {A B : α} (h : -2147483648 ≤ x ∧ x < 2147483648 ∧ -2147483648 ≤ y ∧ y < 2147483648 ∧ ¬ (x = y)) : (if zI x = zI y then A else B) = B := if_neg (by rw [zI_eq h.1 h.2.1 h.2.2.1 h.2.2.2.1]; exact h.2.2.2.2)
theorem inp {α : Type} {x y : Int} {A B : α} (h : -2147483648 ≤ x ∧ x < 2147483648 ∧ -2147483648 ≤ y ∧ y < 2147483648 ∧ x ≠ y) : (if ¬ zI x = zI y then A else B) = A := if_pos (by rw [zI_eq h.1 h.2.1 h.2.2.1 h.2.2.2.1]; exact h.2.2.2.2)
theorem inn {α : Type} {x y : Int} {A B : α} (h : -2147483648 ≤ x ∧ x < 2147483648 ∧ -2147483648 ≤ y ∧ y < 2147483648 ∧ x = y) : (if ¬ zI x = zI y then A else B) = B := if_neg (by rw [zI_eq h.1 h.2.1 h.2.2.1 h.2.2.2.1]; exact fun k => k h.2.2.2.2)
