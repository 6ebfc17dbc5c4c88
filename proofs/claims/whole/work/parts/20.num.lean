/-! ===== numbers: ints as their values ===== -/
def zI (z : Int) : Int32 := Int32.ofInt z
def zL (z : Int) : Int64 := Int64.ofInt z
theorem zI_to {a : Int} (h1 : -2147483648 ≤ a) (h2 : a < 2147483648) : (zI a).toInt = a := Int32.toInt_ofInt_of_le (by omega) (by omega)
theorem zL_to {a : Int} (h1 : -9223372036854775808 ≤ a) (h2 : a < 9223372036854775808) : (zL a).toInt = a := Int64.toInt_ofInt_of_le (by omega) (by omega)
theorem zI_add (a b : Int) : zI a + zI b = zI (a + b) := (Int32.ofInt_add a b).symm
theorem zI_sub (a b : Int) : zI a - zI b = zI (a - b) := (Int32.ofInt_sub a b).symm
theorem zI_mul (a b : Int) : zI a * zI b = zI (a * b) := (Int32.ofInt_mul a b).symm
theorem zI_neg (a : Int) : -zI a = zI (-a) := (Int32.ofInt_neg a).symm
theorem zL_add (a b : Int) : zL a + zL b = zL (a + b) := (Int64.ofInt_add a b).symm
theorem zL_sub (a b : Int) : zL a - zL b = zL (a - b) := (Int64.ofInt_sub a b).symm
theorem zL_mul (a b : Int) : zL a * zL b = zL (a * b) := (Int64.ofInt_mul a b).symm
theorem zI_lt {a b : Int} (h1 : -2147483648 ≤ a) (h2 : a < 2147483648) (h3 : -2147483648 ≤ b) (h4 : b < 2147483648) : zI a < zI b ↔ a < b := by rw [Int32.lt_iff_toInt_lt, zI_to h1 h2, zI_to h3 h4]
theorem zI_le {a b : Int} (h1 : -2147483648 ≤ a) (h2 : a < 2147483648) (h3 : -2147483648 ≤ b) (h4 : b < 2147483648) : zI a ≤ zI b ↔ a ≤ b := by rw [Int32.le_iff_toInt_le, zI_to h1 h2, zI_to h3 h4]
theorem zI_eq {a b : Int} (h1 : -2147483648 ≤ a) (h2 : a < 2147483648) (h3 : -2147483648 ≤ b) (h4 : b < 2147483648) : zI a = zI b ↔ a = b := by
  rw [← Int32.toInt_inj, zI_to h1 h2, zI_to h3 h4]
theorem zL_lt {a b : Int} (h1 : -9223372036854775808 ≤ a) (h2 : a < 9223372036854775808) (h3 : -9223372036854775808 ≤ b) (h4 : b < 9223372036854775808) : zL a < zL b ↔ a < b := by rw [Int64.lt_iff_toInt_lt, zL_to h1 h2, zL_to h3 h4]
theorem zL_eq {a b : Int} (h1 : -9223372036854775808 ≤ a) (h2 : a < 9223372036854775808) (h3 : -9223372036854775808 ≤ b) (h4 : b < 9223372036854775808) : zL a = zL b ↔ a = b := by rw [← Int64.toInt_inj, zL_to h1 h2, zL_to h3 h4]
theorem zI_of (x : Int32) : ∃ a : Int, x = zI a ∧ -2147483648 ≤ a ∧ a < 2147483648 := by
  refine ⟨x.toInt, (Int32.ofInt_toInt x).symm, ?_, ?_⟩
  · have := Int32.minValue_le_toInt x
    have e : Int32.minValue.toInt = -2147483648 := by decide
    omega
  · have := Int32.toInt_le x
    have e : Int32.maxValue.toInt = 2147483647 := by decide
    omega
theorem zI_L {a : Int} (h1 : -2147483648 ≤ a) (h2 : a < 2147483648) : (zI a).toInt64 = zL a := by
  refine Int32.toInt64_ofInt ?_ ?_
  · have e : Int32.minValue.toInt = -2147483648 := by decide
    omega
  · have e : Int32.maxValue.toInt = 2147483647 := by decide
    omega
theorem zL_I (a : Int) (h1 : -2147483648 ≤ a) (h2 : a < 2147483648) : (zL a).toInt32 = zI a := by
  rw [← zI_L h1 h2, Int32.toInt32_toInt64]
theorem zI_div {a b : Int} (h1 : 0 ≤ a) (h2 : a < 2147483648) (h3 : 0 < b) (h4 : b < 2147483648) : zI a / zI b = zI (a / b) := by
  have e1 : Int32.minValue.toInt = -2147483648 := by decide
  have e2 : Int32.maxValue.toInt = 2147483647 := by decide
  unfold zI
  rw [← Int32.ofInt_tdiv (by omega) (by omega) (by omega) (by omega), Int.tdiv_eq_ediv_of_nonneg h1]
theorem zL_div {a b : Int} (h1 : 0 ≤ a) (h2 : a < 9223372036854775808) (h3 : 0 < b) (h4 : b < 9223372036854775808) : zL a / zL b = zL (a / b) := by
  have e1 : Int64.minValue.toInt = -9223372036854775808 := by decide
  have e2 : Int64.maxValue.toInt = 9223372036854775807 := by decide
  unfold zL
  rw [← Int64.ofInt_tdiv (by omega) (by omega) (by omega) (by omega), Int.tdiv_eq_ediv_of_nonneg h1]
theorem zI_rem {a b : Int} (h1 : 0 ≤ a) (h2 : a < 2147483648) (h3 : 0 < b) (h4 : b < 2147483648) : remI (zI a) (zI b) = zI (a % b) := by
  unfold remI
  rw [zI_div h1 h2 h3 h4, zI_mul, zI_sub, Int.emod_def, Int.mul_comm b]
theorem zL_rem {a b : Int} (h1 : 0 ≤ a) (h2 : a < 9223372036854775808) (h3 : 0 < b) (h4 : b < 9223372036854775808) : remL (zL a) (zL b) = zL (a % b) := by
  unfold remL
  rw [zL_div h1 h2 h3 h4, zL_mul, zL_sub, Int.emod_def, Int.mul_comm b]
theorem ix_zI {a : Int} (h1 : 0 ≤ a) (h2 : a < 2147483648) : ix (zI a) = a.toNat := by
  unfold ix zI
  rw [Int32.toBitVec_ofInt, BitVec.toNat_ofInt]
  rw [Int.emod_eq_of_lt h1 (by omega)]
theorem inb_zI {a : Int} {n : Nat} (h1 : 0 ≤ a) (h2 : a < 2147483648) (h3 : a < n) : inb (zI a) n = true := by
  unfold inb
  rw [ix_zI h1 h2]
  exact Nat.ble_eq_true_of_le (by show a.toNat + 1 ≤ n; omega)
theorem nz_zI {a : Int} (h1 : 0 < a) (h2 : a < 2147483648) : nz (zI a) = true := by
  unfold nz
  rw [ix_zI (by omega) h2]
  cases hb : Nat.beq a.toNat 0 with
  | false => rfl
  | true => have := Nat.eq_of_beq_eq_true hb; omega
theorem nzL_zL {a : Int} (h1 : 0 < a) (h2 : a < 9223372036854775808) : nzL (zL a) = true := by
  unfold nzL zL
  rw [Int64.toBitVec_ofInt, BitVec.toNat_ofInt, Int.emod_eq_of_lt (by omega) (by omega)]
  cases hb : Nat.beq a.toNat 0 with
  | false => rfl
  | true => have := Nat.eq_of_beq_eq_true hb; omega
theorem imax_zI {a b : Int} (h1 : -2147483648 ≤ a) (h2 : a < 2147483648) (h3 : -2147483648 ≤ b) (h4 : b < 2147483648) : imax (zI a) (zI b) = zI (max a b) := by
  unfold imax
  by_cases h : a < b
  · rw [if_pos ((zI_lt h1 h2 h3 h4).mpr h), Int.max_eq_right (by omega)]
  · rw [if_neg (fun z => h ((zI_lt h1 h2 h3 h4).mp z)), Int.max_eq_left (by omega)]
theorem imin_zI {a b : Int} (h1 : -2147483648 ≤ a) (h2 : a < 2147483648) (h3 : -2147483648 ≤ b) (h4 : b < 2147483648) : imin (zI a) (zI b) = zI (min a b) := by
  unfold imin
  by_cases h : b < a
  · rw [if_pos ((zI_lt h3 h4 h1 h2).mpr h), Int.min_eq_right (by omega)]
  · rw [if_neg (fun z => h ((zI_lt h3 h4 h1 h2).mp z)), Int.min_eq_left (by omega)]
theorem lg_lt0 {a b : Int} (h1 : -9223372036854775808 ≤ a) (h2 : a < 9223372036854775808) (h3 : -9223372036854775808 ≤ b) (h4 : b < 9223372036854775808) : lg_cmp (zL a) (zL b) < 0 ↔ a < b := by
  unfold lg_cmp
  by_cases g1 : zL a > zL b
  · rw [if_pos g1]
    have : b < a := (zL_lt h3 h4 h1 h2).mp g1
    constructor
    · intro z; exact absurd z (by decide)
    · intro z; omega
  · rw [if_neg g1]
    have g1' : ¬ b < a := fun z => g1 ((zL_lt h3 h4 h1 h2).mpr z)
    by_cases g2 : zL a = zL b
    · rw [if_pos g2]
      have : a = b := (zL_eq h1 h2 h3 h4).mp g2
      constructor
      · intro z; exact absurd z (by decide)
      · intro z; omega
    · rw [if_neg g2]
      have : a ≠ b := fun z => g2 ((zL_eq h1 h2 h3 h4).mpr z)
      constructor
      · intro z; omega
      · intro z; decide
theorem lg_gt0 {a b : Int} (h1 : -9223372036854775808 ≤ a) (h2 : a < 9223372036854775808) (h3 : -9223372036854775808 ≤ b) (h4 : b < 9223372036854775808) : 0 < lg_cmp (zL a) (zL b) ↔ b < a := by
  unfold lg_cmp
  by_cases g1 : zL a > zL b
  · rw [if_pos g1]
    have : b < a := (zL_lt h3 h4 h1 h2).mp g1
    constructor
    · intro z; omega
    · intro z; decide
  · rw [if_neg g1]
    have g1' : ¬ b < a := fun z => g1 ((zL_lt h3 h4 h1 h2).mpr z)
    by_cases g2 : zL a = zL b
    · rw [if_pos g2]
      constructor
      · intro z; exact absurd z (by decide)
      · intro z; omega
    · rw [if_neg g2]
      constructor
      · intro z; exact absurd z (by decide)
      · intro z; omega
theorem nb01 : nb (zI 0) = true ∧ nb (zI 1) = true := by decide +kernel
theorem nI_zI (n : Nat) : nI n = zI n := (Int32.ofInt_eq_ofNat).symm
theorem c_t {P : Prop} : cnd true P = P := rfl
theorem zl_0 : (0 : Int32) = zI 0 := rfl
theorem zl_1 : (1 : Int32) = zI 1 := rfl
theorem zl_2 : (2 : Int32) = zI 2 := rfl
theorem zl_3 : (3 : Int32) = zI 3 := rfl
theorem zl_4 : (4 : Int32) = zI 4 := rfl
theorem zl_5 : (5 : Int32) = zI 5 := rfl
theorem zl_6 : (6 : Int32) = zI 6 := rfl
theorem zl_7 : (7 : Int32) = zI 7 := rfl
theorem zl_8 : (8 : Int32) = zI 8 := rfl
theorem zl_9 : (9 : Int32) = zI 9 := rfl
theorem zl_10 : (10 : Int32) = zI 10 := rfl
theorem zl_11 : (11 : Int32) = zI 11 := rfl
theorem zl_12 : (12 : Int32) = zI 12 := rfl
theorem zl_13 : (13 : Int32) = zI 13 := rfl
theorem zl_14 : (14 : Int32) = zI 14 := rfl
theorem zl_15 : (15 : Int32) = zI 15 := rfl
theorem zl_16 : (16 : Int32) = zI 16 := rfl
theorem zl_17 : (17 : Int32) = zI 17 := rfl
theorem zl_18 : (18 : Int32) = zI 18 := rfl
theorem zl_19 : (19 : Int32) = zI 19 := rfl
theorem zl_20 : (20 : Int32) = zI 20 := rfl
theorem zl_24 : (24 : Int32) = zI 24 := rfl
theorem zl_30 : (30 : Int32) = zI 30 := rfl
theorem zl_31 : (31 : Int32) = zI 31 := rfl
theorem zl_36 : (36 : Int32) = zI 36 := rfl
theorem zl_42 : (42 : Int32) = zI 42 := rfl
theorem zl_44 : (44 : Int32) = zI 44 := rfl
theorem zl_48 : (48 : Int32) = zI 48 := rfl
theorem zl_57 : (57 : Int32) = zI 57 := rfl
theorem zl_58 : (58 : Int32) = zI 58 := rfl
theorem zl_59 : (59 : Int32) = zI 59 := rfl
theorem zl_60 : (60 : Int32) = zI 60 := rfl
theorem zl_61 : (61 : Int32) = zI 61 := rfl
theorem zl_62 : (62 : Int32) = zI 62 := rfl
theorem zl_63 : (63 : Int32) = zI 63 := rfl
theorem zl_64 : (64 : Int32) = zI 64 := rfl
theorem zl_72 : (72 : Int32) = zI 72 := rfl
theorem zl_73 : (73 : Int32) = zI 73 := rfl
theorem zl_96 : (96 : Int32) = zI 96 := rfl
theorem zl_99 : (99 : Int32) = zI 99 := rfl
theorem zl_100 : (100 : Int32) = zI 100 := rfl
theorem zl_104 : (104 : Int32) = zI 104 := rfl
theorem zl_107 : (107 : Int32) = zI 107 := rfl
theorem zl_111 : (111 : Int32) = zI 111 := rfl
theorem zl_114 : (114 : Int32) = zI 114 := rfl
theorem zl_116 : (116 : Int32) = zI 116 := rfl
theorem zl_120 : (120 : Int32) = zI 120 := rfl
theorem zl_200 : (200 : Int32) = zI 200 := rfl
theorem zl_255 : (255 : Int32) = zI 255 := rfl
theorem zl_256 : (256 : Int32) = zI 256 := rfl
theorem zl_360 : (360 : Int32) = zI 360 := rfl
theorem zl_600 : (600 : Int32) = zI 600 := rfl
theorem zl_800 : (800 : Int32) = zI 800 := rfl
theorem zl_1000 : (1000 : Int32) = zI 1000 := rfl
theorem zl_2000 : (2000 : Int32) = zI 2000 := rfl
theorem zl_1664525 : (1664525 : Int32) = zI 1664525 := rfl
theorem zl_252645135 : (252645135 : Int32) = zI 252645135 := rfl
theorem zl_858993459 : (858993459 : Int32) = zI 858993459 := rfl
theorem zl_1013904223 : (1013904223 : Int32) = zI 1013904223 := rfl
theorem zl_1431655765 : (1431655765 : Int32) = zI 1431655765 := rfl
theorem zl_2147483647 : (2147483647 : Int32) = zI 2147483647 := rfl
theorem zm_0 : (0 : Int64) = zL 0 := rfl
theorem zm_1 : (1 : Int64) = zL 1 := rfl
theorem zm_2 : (2 : Int64) = zL 2 := rfl
theorem zm_5 : (5 : Int64) = zL 5 := rfl
theorem zm_8 : (8 : Int64) = zL 8 := rfl
theorem zm_9 : (9 : Int64) = zL 9 := rfl
theorem zm_15 : (15 : Int64) = zL 15 := rfl
theorem zm_16 : (16 : Int64) = zL 16 := rfl
theorem zm_11 : (11 : Int64) = zL 11 := rfl
theorem zm_20 : (20 : Int64) = zL 20 := rfl
theorem zm_59 : (59 : Int64) = zL 59 := rfl
theorem zm_60 : (60 : Int64) = zL 60 := rfl
theorem zm_96 : (96 : Int64) = zL 96 := rfl
theorem zm_99 : (99 : Int64) = zL 99 := rfl
theorem zm_255 : (255 : Int64) = zL 255 := rfl
theorem zm_600 : (600 : Int64) = zL 600 := rfl
theorem zm_2147483647 : (2147483647 : Int64) = zL 2147483647 := rfl
theorem zm_4000000000000000000 : (4000000000000000000 : Int64) = zL 4000000000000000000 := rfl
theorem zm_3 : (3 : Int64) = zL 3 := rfl
theorem zm_48 : (48 : Int64) = zL 48 := rfl
theorem zm_57 : (57 : Int64) = zL 57 := rfl
