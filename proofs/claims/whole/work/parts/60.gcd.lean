/-! ===== common divisors, multiples ===== -/
theorem lg_eqz {a b : Int} (h1 : -9223372036854775808 ≤ a) (h2 : a < 9223372036854775808) (h3 : -9223372036854775808 ≤ b) (h4 : b < 9223372036854775808) : lg_cmp (zL a) (zL b) = zI 0 ↔ a = b := by
  have e1 := lg_lt0 h1 h2 h3 h4
  have e2 := lg_gt0 h1 h2 h3 h4
  constructor
  · intro z
    have n1 : ¬ a < b := fun y => by
      have := e1.mpr y
      rw [z] at this
      exact absurd this (by decide)
    have n2 : ¬ b < a := fun y => by
      have := e2.mpr y
      rw [z] at this
      exact absurd this (by decide)
    omega
  · intro z
    subst z
    unfold lg_cmp
    rw [if_neg (fun y => by
      have := (zL_lt h1 h2 h1 h2).mp y
      omega), if_pos rfl]
    rfl
theorem lg_lez {a b : Int} (h1 : -9223372036854775808 ≤ a) (h2 : a < 9223372036854775808) (h3 : -9223372036854775808 ≤ b) (h4 : b < 9223372036854775808) : lg_cmp (zL a) (zL b) ≤ zI 0 ↔ a ≤ b := by
  have e2 := lg_gt0 h1 h2 h3 h4
  have : lg_cmp (zL a) (zL b) ≤ zI 0 ↔ ¬ (0 < lg_cmp (zL a) (zL b)) := Int32.not_lt.symm
  rw [this, e2]
  omega
def gz (a b : Int) : Int := (Nat.gcd a.toNat b.toNat : Nat)
theorem gz_0 {a : Int} (h : 0 ≤ a) : gz a 0 = a := by
  unfold gz
  rw [show (0 : Int).toNat = 0 from rfl, Nat.gcd_zero_right]
  omega
theorem gz_st {a b : Int} (ha : 0 ≤ a) (hb : 0 ≤ b) : gz a b = gz b (a % b) := by
  unfold gz
  rw [Int.toNat_emod ha hb]
  congr 1
  rw [Nat.gcd_comm, Nat.gcd_rec, Nat.gcd_comm]
theorem gz_pos {a b : Int} (hb : 0 < b) : 0 < gz a b := by
  unfold gz
  have := Nat.gcd_pos_of_pos_right (m := a.toNat) (n := b.toNat) (by omega)
  omega
theorem gz_le {a b : Int} (hb : 0 < b) : gz a b ≤ b := by
  unfold gz
  have := Nat.gcd_le_right (m := a.toNat) (n := b.toNat) (by omega)
  omega
theorem emod_half {a b : Int} (ha : 0 ≤ a) (hb : 0 < b) (hba : b ≤ a) : 2 * (a % b) < a := by
  have h1 := Int.emod_lt_of_pos a hb
  have h2 := Int.emod_nonneg a (show b ≠ 0 by omega)
  have h3 := Int.emod_add_mul_ediv a b
  have h4 : 1 ≤ a / b := by
    have := Int.ediv_le_ediv hb hba
    rw [Int.ediv_self (by omega)] at this
    exact this
  have h5 : b * 1 ≤ b * (a / b) := Int.mul_le_mul_of_nonneg_left h4 (by omega)
  omega
section GC
variable {E : XE} {h : Mem} {Q : Int64 → Mem → Prop}
theorem sM_divisor {a b : Int} (ha : 0 ≤ a ∧ a < 4611686018427387904) (hb : 0 ≤ b ∧ b < 4611686018427387904) (hq : Q (zL (gz a b)) h) : CALLL E mM_divisor [.long (zL a), .long (zL b)] h Q := by
  refine fM_divisor ?_
  have key : ∀ (n : Nat) (x y : Int), y.toNat < n → 0 ≤ x ∧ x < 4611686018427387904 → 0 ≤ y ∧ y < 4611686018427387904 → gz x y = gz a b → WP E mM_divisor 6 [none, none, none, none, some (.long (zL x)), none, some (.long (zL y)), none, none, none] [] h (qL Q) := by
    intro n
    induction n with
    | zero => intro x y hn; omega
    | succ n ih =>
      intro x y hn hx hy e
      refine fM_divisor_6 ?_
      simp (disch := omega) only [zI_add, zI_sub, zI_mul, zI_neg, zI_lt, zI_le, zI_eq, zI_div, zI_rem, ix_zI, inb_zI, nz_zI, imax_zI, imin_zI, c_t, nb01.1, nb01.2, zl_0, zl_1, zl_2, zl_3, zl_4, zl_5, zl_6, zl_7, zl_8, zl_9, zl_10, zl_11, zl_12, zl_13, zl_14, zl_15, zl_16, zl_17, zl_18, zl_19, zl_20, zl_24, zl_30, zl_31, zl_36, zl_42, zl_44, zl_48, zl_57, zl_58, zl_59, zl_60, zl_61, zl_62, zl_63, zl_64, zl_72, zl_73, zl_96, zl_99, zl_100, zl_104, zl_107, zl_111, zl_114, zl_116, zl_120, zl_200, zl_255, zl_256, zl_360, zl_600, zl_800, zl_1000, zl_2000, zI_L, lg_ltz, lg_gtz, zL_add, zL_sub, zL_mul, zL_div, zL_rem, nzL_zL, zm_0, zm_1, zm_2, zm_5, zm_8, zm_9, zm_15, zm_16, zm_11, zm_20, zm_59, zm_60, zm_96, zm_99, zm_255, zm_600, zm_2147483647, zm_4000000000000000000, zm_3, zm_48, zm_57, lg_eqz]
      refine ⟨fun z => ?_, fun z => ?_⟩
      · rw [z, gz_0 hx.1] at e
        rw [e]; exact hq
      · have m1 := Int.emod_lt_of_pos x (show 0 < y by omega)
        have m2 := Int.emod_nonneg x (show y ≠ 0 by omega)
        simp (disch := omega) only [zI_L, lg_ltz, lg_gtz, zL_add, zL_sub, zL_mul, zL_div, zL_rem, nzL_zL, zm_0, zm_1, zm_2, zm_5, zm_8, zm_9, zm_15, zm_16, zm_11, zm_20, zm_59, zm_60, zm_96, zm_99, zm_255, zm_600, zm_2147483647, zm_4000000000000000000, zm_3, zm_48, zm_57, c_t]
        exact ih y (x % y) (by omega) hy (by omega) (by rw [← gz_st hx.1 hy.1]; exact e)
  exact key (b.toNat + 1) a b (by omega) ha hb rfl
theorem sNU_divisor {a b : Int} (ha : 0 ≤ a ∧ a < 4611686018427387904) (hb : 0 ≤ b ∧ b < 4611686018427387904) (hq : Q (zL (gz a b)) h) : CALLL E mNU_commonDivisor [.long (zL a), .long (zL b)] h Q := by
  refine fNU_commonDivisor ?_
  have key : ∀ (n : Nat) (x y s : Int), y < 2 ^ n → 0 ≤ x ∧ x < 4611686018427387904 → 0 ≤ y ∧ y < 4611686018427387904 → 0 ≤ s → s + 2 * n ≤ 190 → gz x y = gz a b → WP E mNU_commonDivisor 9 [none, none, none, none, some (.long (zL x)), none, some (.long (zL y)), none, some (.int (zI s)), none, none] [] h (qL Q) := by
    intro n
    induction n with
    | zero =>
      intro x y s hn hx hy hs hsn e
      refine fNU_commonDivisor_9 ?_
      have y0 : y = 0 := by
        have : y < 1 := hn
        omega
      rw [y0, gz_0 hx.1] at e
      simp (disch := omega) only [zI_add, zI_sub, zI_mul, zI_neg, zI_lt, zI_le, zI_eq, zI_div, zI_rem, ix_zI, inb_zI, nz_zI, imax_zI, imin_zI, c_t, nb01.1, nb01.2, zl_0, zl_1, zl_2, zl_3, zl_4, zl_5, zl_6, zl_7, zl_8, zl_9, zl_10, zl_11, zl_12, zl_13, zl_14, zl_15, zl_16, zl_17, zl_18, zl_19, zl_20, zl_24, zl_30, zl_31, zl_36, zl_42, zl_44, zl_48, zl_57, zl_58, zl_59, zl_60, zl_61, zl_62, zl_63, zl_64, zl_72, zl_73, zl_96, zl_99, zl_100, zl_104, zl_107, zl_111, zl_114, zl_116, zl_120, zl_200, zl_255, zl_256, zl_360, zl_600, zl_800, zl_1000, zl_2000, zI_L, lg_ltz, lg_gtz, zL_add, zL_sub, zL_mul, zL_div, zL_rem, nzL_zL, zm_0, zm_1, zm_2, zm_5, zm_8, zm_9, zm_15, zm_16, zm_11, zm_20, zm_59, zm_60, zm_96, zm_99, zm_255, zm_600, zm_2147483647, zm_4000000000000000000, zm_3, zm_48, zm_57, lg_eqz]
      rw [e]
      exact ⟨fun _ => hq, fun _ => ⟨fun _ => hq, fun z => absurd y0 z⟩⟩
    | succ n ih =>
      intro x y s hn hx hy hs hsn e
      refine fNU_commonDivisor_9 ?_
      simp (disch := omega) only [zI_add, zI_sub, zI_mul, zI_neg, zI_lt, zI_le, zI_eq, zI_div, zI_rem, ix_zI, inb_zI, nz_zI, imax_zI, imin_zI, c_t, nb01.1, nb01.2, zl_0, zl_1, zl_2, zl_3, zl_4, zl_5, zl_6, zl_7, zl_8, zl_9, zl_10, zl_11, zl_12, zl_13, zl_14, zl_15, zl_16, zl_17, zl_18, zl_19, zl_20, zl_24, zl_30, zl_31, zl_36, zl_42, zl_44, zl_48, zl_57, zl_58, zl_59, zl_60, zl_61, zl_62, zl_63, zl_64, zl_72, zl_73, zl_96, zl_99, zl_100, zl_104, zl_107, zl_111, zl_114, zl_116, zl_120, zl_200, zl_255, zl_256, zl_360, zl_600, zl_800, zl_1000, zl_2000, zI_L, lg_ltz, lg_gtz, zL_add, zL_sub, zL_mul, zL_div, zL_rem, nzL_zL, zm_0, zm_1, zm_2, zm_5, zm_8, zm_9, zm_15, zm_16, zm_11, zm_20, zm_59, zm_60, zm_96, zm_99, zm_255, zm_600, zm_2147483647, zm_4000000000000000000, zm_3, zm_48, zm_57, lg_eqz]
      refine ⟨fun z => by omega, fun _ => ⟨fun z => ?_, fun z => ?_⟩⟩
      · rw [z, gz_0 hx.1] at e
        rw [e]; exact hq
      · have m1 := Int.emod_lt_of_pos x (show 0 < y by omega)
        have m2 := Int.emod_nonneg x (show y ≠ 0 by omega)
        simp (disch := omega) only [zI_L, lg_ltz, lg_gtz, zL_add, zL_sub, zL_mul, zL_div, zL_rem, nzL_zL, zm_0, zm_1, zm_2, zm_5, zm_8, zm_9, zm_15, zm_16, zm_11, zm_20, zm_59, zm_60, zm_96, zm_99, zm_255, zm_600, zm_2147483647, zm_4000000000000000000, zm_3, zm_48, zm_57, c_t]
        have e2 : gz y (x % y) = gz a b := by rw [← gz_st hx.1 hy.1]; exact e
        generalize x % y = r at m1 m2 e2 ⊢
        refine fNU_commonDivisor_9 ?_
        simp (disch := omega) only [zI_add, zI_sub, zI_mul, zI_neg, zI_lt, zI_le, zI_eq, zI_div, zI_rem, ix_zI, inb_zI, nz_zI, imax_zI, imin_zI, c_t, nb01.1, nb01.2, zl_0, zl_1, zl_2, zl_3, zl_4, zl_5, zl_6, zl_7, zl_8, zl_9, zl_10, zl_11, zl_12, zl_13, zl_14, zl_15, zl_16, zl_17, zl_18, zl_19, zl_20, zl_24, zl_30, zl_31, zl_36, zl_42, zl_44, zl_48, zl_57, zl_58, zl_59, zl_60, zl_61, zl_62, zl_63, zl_64, zl_72, zl_73, zl_96, zl_99, zl_100, zl_104, zl_107, zl_111, zl_114, zl_116, zl_120, zl_200, zl_255, zl_256, zl_360, zl_600, zl_800, zl_1000, zl_2000, zI_L, lg_ltz, lg_gtz, zL_add, zL_sub, zL_mul, zL_div, zL_rem, nzL_zL, zm_0, zm_1, zm_2, zm_5, zm_8, zm_9, zm_15, zm_16, zm_11, zm_20, zm_59, zm_60, zm_96, zm_99, zm_255, zm_600, zm_2147483647, zm_4000000000000000000, zm_3, zm_48, zm_57, lg_eqz]
        refine ⟨fun z => by omega, fun _ => ⟨fun z => ?_, fun z => ?_⟩⟩
        · rw [z, gz_0 hy.1] at e2
          rw [e2]; exact hq
        · have m3 := Int.emod_lt_of_pos y (show 0 < r by omega)
          have m4 := Int.emod_nonneg y (show r ≠ 0 by omega)
          have m5 := emod_half (a := y) (b := r) (by omega) (by omega) (by omega)
          simp (disch := omega) only [zI_L, lg_ltz, lg_gtz, zL_add, zL_sub, zL_mul, zL_div, zL_rem, nzL_zL, zm_0, zm_1, zm_2, zm_5, zm_8, zm_9, zm_15, zm_16, zm_11, zm_20, zm_59, zm_60, zm_96, zm_99, zm_255, zm_600, zm_2147483647, zm_4000000000000000000, zm_3, zm_48, zm_57, c_t]
          have p2 : (2 : Int) ^ (n + 1) = 2 ^ n * 2 := Int.pow_succ 2 n
          refine ih r (y % r) (s + 1 + 1) ?_ (by omega) (by omega) (by omega) (by omega) (by rw [← gz_st hy.1 (by omega)]; exact e2)
          rw [p2] at hn
          omega
  exact key 62 a b 0 hb.2 ha hb (by omega) (by omega) rfl
end GC
/-! ===== the least common multiple of all distances ===== -/
def mulS (w : Int → Int) : Nat → Int
  | 0 => 1
  | k + 1 => if w (42 + (k : Int)) = 1 then mulS w k / gz (mulS w k) (dist w (k : Int)) * dist w (k : Int) else mulS w k
theorem mulS_b {w : Int → Int} (hw : WF w) : ∀ k : Nat, (k : Int) ≤ w 72 → 1 ≤ mulS w k ∧ mulS w k ≤ 69 ^ k
  | 0, _ => ⟨Int.le_refl _, Int.le_refl _⟩
  | k + 1, h => by
    have ih := mulS_b hw k (by omega)
    have d := dist_b hw (i := (k : Int)) (by omega) (by omega)
    have p : (69 : Int) ^ (k + 1) = 69 ^ k * 69 := Int.pow_succ 69 k
    unfold mulS
    split
    · have g1 := gz_pos (a := mulS w k) (b := dist w (k : Int)) (by omega)
      have g2 : gz (mulS w k) (dist w (k : Int)) ≤ mulS w k := by
        unfold gz
        have := Nat.gcd_le_left (m := (mulS w k).toNat) (n := (dist w (k : Int)).toNat) (by omega)
        omega
      have q1 : 1 ≤ mulS w k / gz (mulS w k) (dist w (k : Int)) := by
        have := Int.ediv_le_ediv g1 g2
        rw [Int.ediv_self (by omega)] at this
        exact this
      have q2 : mulS w k / gz (mulS w k) (dist w (k : Int)) ≤ mulS w k := Int.ediv_le_self _ (by omega)
      have r1 : 1 * 1 ≤ mulS w k / gz (mulS w k) (dist w (k : Int)) * dist w (k : Int) := Int.mul_le_mul q1 (by omega) (by omega) (by omega)
      have r2 : mulS w k / gz (mulS w k) (dist w (k : Int)) * dist w (k : Int) ≤ 69 ^ k * 69 := Int.mul_le_mul (by omega) d.2 (by omega) (by omega)
      rw [p]
      omega
    · rw [p]
      omega
theorem mulS_c {w : Int → Int} (hw : WF w) {k : Nat} (h : (k : Int) ≤ w 72) : 1 ≤ mulS w k ∧ mulS w k ≤ 107918163081 := by
  have b := mulS_b hw k h
  have hn := hw.1
  have k6 : k ≤ 6 := by omega
  have : ∀ j : Nat, j ≤ 6 → (69 : Int) ^ j ≤ 107918163081 := by decide
  have := this k k6
  omega
def wrkS (w : Int → Int) (b : Int) (k : Nat) : Int := sumT (fun i => if w (42 + i) = 1 then b / dist w i * w i else 0) k
theorem wrkS_b {w : Int → Int} (hw : WF w) {b : Int} (hb : 0 ≤ b ∧ b ≤ 107918163081) : ∀ k : Nat, (k : Int) ≤ w 72 → 0 ≤ wrkS w b k ∧ wrkS w b k ≤ 21583632616200 * k
  | 0, _ => ⟨Int.le_refl _, Int.le_refl _⟩
  | k + 1, h => by
    have ih := wrkS_b hw hb k (by omega)
    have d := dist_b hw (i := (k : Int)) (by omega) (by omega)
    have c := hw.all (i := (k : Int)) (by omega) (by have := hw.1; omega)
    have q1 : 0 ≤ b / dist w (k : Int) := Int.ediv_nonneg hb.1 (by omega)
    have q2 : b / dist w (k : Int) ≤ b := Int.ediv_le_self _ hb.1
    have r1 : 0 ≤ b / dist w (k : Int) * w (k : Int) := Int.mul_nonneg q1 c.1
    have r2 : b / dist w (k : Int) * w (k : Int) ≤ 107918163081 * 200 := Int.mul_le_mul (by omega) c.2 c.1 (by omega)
    show 0 ≤ wrkS w b k + (if w (42 + (k : Int)) = 1 then b / dist w (k : Int) * w (k : Int) else 0) ∧ wrkS w b k + (if w (42 + (k : Int)) = 1 then b / dist w (k : Int) * w (k : Int) else 0) ≤ 21583632616200 * ((k + 1 : Nat) : Int)
    split <;> omega
