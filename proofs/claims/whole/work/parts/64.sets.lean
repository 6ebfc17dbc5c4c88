/-! ===== sums over sets ===== -/
def sumN (F : Nat → Int) : Nat → Int
  | 0 => 0
  | k + 1 => sumN F k + F k
theorem sumN_cg {F G : Nat → Int} : ∀ k : Nat, (∀ i, i < k → F i = G i) → sumN F k = sumN G k
  | 0, _ => rfl
  | k + 1, h => by unfold sumN; rw [sumN_cg k (fun i a => h i (by omega)), h k (by omega)]
theorem sumN_b {F : Nat → Int} {B : Int} : ∀ k : Nat, (∀ i, i < k → 0 ≤ F i ∧ F i ≤ B) → 0 ≤ sumN F k ∧ sumN F k ≤ k * B
  | 0, _ => by unfold sumN; simp
  | k + 1, h => by
    have ih := sumN_b k (fun i a => h i (by omega))
    have hk := h k (by omega)
    unfold sumN
    have e : ((k + 1 : Nat) : Int) * B = (k : Int) * B + B := by rw [Int.natCast_add, Int.add_mul]; simp
    rw [e]
    omega
theorem sumN_0 {F : Nat → Int} : ∀ (k j : Nat), k ≤ j → (∀ i, k ≤ i → i < j → F i = 0) → sumN F j = sumN F k
  | k, 0, h, _ => by rw [show k = 0 by omega]
  | k, j + 1, h, h0 => by
    by_cases e : k = j + 1
    · rw [e]
    · show sumN F j + F j = sumN F k
      rw [h0 j (by omega) (by omega), Int.add_zero]
      exact sumN_0 k j (by omega) (fun i a b => h0 i a (by omega))
theorem sx_0 (F : Nat → Int) : sumN (fun S => F (S ^^^ 0)) 32 = sumN F 32 := rfl
theorem sx_1 (F : Nat → Int) : sumN (fun S => F (S ^^^ 1)) 32 = sumN F 32 := by
  simp only [sumN, Nat.reduceXor]
  omega
theorem sx_2 (F : Nat → Int) : sumN (fun S => F (S ^^^ 2)) 32 = sumN F 32 := by
  simp only [sumN, Nat.reduceXor]
  omega
theorem sx_3 (F : Nat → Int) : sumN (fun S => F (S ^^^ 3)) 32 = sumN F 32 := by
  simp only [sumN, Nat.reduceXor]
  omega
theorem sx_4 (F : Nat → Int) : sumN (fun S => F (S ^^^ 4)) 32 = sumN F 32 := by
  simp only [sumN, Nat.reduceXor]
  omega
theorem sx_5 (F : Nat → Int) : sumN (fun S => F (S ^^^ 5)) 32 = sumN F 32 := by
  simp only [sumN, Nat.reduceXor]
  omega
theorem sx_6 (F : Nat → Int) : sumN (fun S => F (S ^^^ 6)) 32 = sumN F 32 := by
  simp only [sumN, Nat.reduceXor]
  omega
theorem sx_7 (F : Nat → Int) : sumN (fun S => F (S ^^^ 7)) 32 = sumN F 32 := by
  simp only [sumN, Nat.reduceXor]
  omega
theorem sx_8 (F : Nat → Int) : sumN (fun S => F (S ^^^ 8)) 32 = sumN F 32 := by
  simp only [sumN, Nat.reduceXor]
  omega
theorem sx_9 (F : Nat → Int) : sumN (fun S => F (S ^^^ 9)) 32 = sumN F 32 := by
  simp only [sumN, Nat.reduceXor]
  omega
theorem sx_10 (F : Nat → Int) : sumN (fun S => F (S ^^^ 10)) 32 = sumN F 32 := by
  simp only [sumN, Nat.reduceXor]
  omega
theorem sx_11 (F : Nat → Int) : sumN (fun S => F (S ^^^ 11)) 32 = sumN F 32 := by
  simp only [sumN, Nat.reduceXor]
  omega
theorem sx_12 (F : Nat → Int) : sumN (fun S => F (S ^^^ 12)) 32 = sumN F 32 := by
  simp only [sumN, Nat.reduceXor]
  omega
theorem sx_13 (F : Nat → Int) : sumN (fun S => F (S ^^^ 13)) 32 = sumN F 32 := by
  simp only [sumN, Nat.reduceXor]
  omega
theorem sx_14 (F : Nat → Int) : sumN (fun S => F (S ^^^ 14)) 32 = sumN F 32 := by
  simp only [sumN, Nat.reduceXor]
  omega
theorem sx_15 (F : Nat → Int) : sumN (fun S => F (S ^^^ 15)) 32 = sumN F 32 := by
  simp only [sumN, Nat.reduceXor]
  omega
theorem sx_16 (F : Nat → Int) : sumN (fun S => F (S ^^^ 16)) 32 = sumN F 32 := by
  simp only [sumN, Nat.reduceXor]
  omega
theorem sx_17 (F : Nat → Int) : sumN (fun S => F (S ^^^ 17)) 32 = sumN F 32 := by
  simp only [sumN, Nat.reduceXor]
  omega
theorem sx_18 (F : Nat → Int) : sumN (fun S => F (S ^^^ 18)) 32 = sumN F 32 := by
  simp only [sumN, Nat.reduceXor]
  omega
theorem sx_19 (F : Nat → Int) : sumN (fun S => F (S ^^^ 19)) 32 = sumN F 32 := by
  simp only [sumN, Nat.reduceXor]
  omega
theorem sx_20 (F : Nat → Int) : sumN (fun S => F (S ^^^ 20)) 32 = sumN F 32 := by
  simp only [sumN, Nat.reduceXor]
  omega
theorem sx_21 (F : Nat → Int) : sumN (fun S => F (S ^^^ 21)) 32 = sumN F 32 := by
  simp only [sumN, Nat.reduceXor]
  omega
theorem sx_22 (F : Nat → Int) : sumN (fun S => F (S ^^^ 22)) 32 = sumN F 32 := by
  simp only [sumN, Nat.reduceXor]
  omega
theorem sx_23 (F : Nat → Int) : sumN (fun S => F (S ^^^ 23)) 32 = sumN F 32 := by
  simp only [sumN, Nat.reduceXor]
  omega
theorem sx_24 (F : Nat → Int) : sumN (fun S => F (S ^^^ 24)) 32 = sumN F 32 := by
  simp only [sumN, Nat.reduceXor]
  omega
theorem sx_25 (F : Nat → Int) : sumN (fun S => F (S ^^^ 25)) 32 = sumN F 32 := by
  simp only [sumN, Nat.reduceXor]
  omega
theorem sx_26 (F : Nat → Int) : sumN (fun S => F (S ^^^ 26)) 32 = sumN F 32 := by
  simp only [sumN, Nat.reduceXor]
  omega
theorem sx_27 (F : Nat → Int) : sumN (fun S => F (S ^^^ 27)) 32 = sumN F 32 := by
  simp only [sumN, Nat.reduceXor]
  omega
theorem sx_28 (F : Nat → Int) : sumN (fun S => F (S ^^^ 28)) 32 = sumN F 32 := by
  simp only [sumN, Nat.reduceXor]
  omega
theorem sx_29 (F : Nat → Int) : sumN (fun S => F (S ^^^ 29)) 32 = sumN F 32 := by
  simp only [sumN, Nat.reduceXor]
  omega
theorem sx_30 (F : Nat → Int) : sumN (fun S => F (S ^^^ 30)) 32 = sumN F 32 := by
  simp only [sumN, Nat.reduceXor]
  omega
theorem sx_31 (F : Nat → Int) : sumN (fun S => F (S ^^^ 31)) 32 = sumN F 32 := by
  simp only [sumN, Nat.reduceXor]
  omega
theorem sx (F : Nat → Int) : ∀ m, m < 32 → sumN (fun S => F (S ^^^ m)) 32 = sumN F 32
  | 0, _ => sx_0 F
  | 1, _ => sx_1 F
  | 2, _ => sx_2 F
  | 3, _ => sx_3 F
  | 4, _ => sx_4 F
  | 5, _ => sx_5 F
  | 6, _ => sx_6 F
  | 7, _ => sx_7 F
  | 8, _ => sx_8 F
  | 9, _ => sx_9 F
  | 10, _ => sx_10 F
  | 11, _ => sx_11 F
  | 12, _ => sx_12 F
  | 13, _ => sx_13 F
  | 14, _ => sx_14 F
  | 15, _ => sx_15 F
  | 16, _ => sx_16 F
  | 17, _ => sx_17 F
  | 18, _ => sx_18 F
  | 19, _ => sx_19 F
  | 20, _ => sx_20 F
  | 21, _ => sx_21 F
  | 22, _ => sx_22 F
  | 23, _ => sx_23 F
  | 24, _ => sx_24 F
  | 25, _ => sx_25 F
  | 26, _ => sx_26 F
  | 27, _ => sx_27 F
  | 28, _ => sx_28 F
  | 29, _ => sx_29 F
  | 30, _ => sx_30 F
  | 31, _ => sx_31 F
  | m + 32, h => by omega
theorem mm1 : ∀ m, m < 32 → ∀ S, S < 32 → (S ^^^ m) &&& (63 ^^^ m) = S &&& (63 ^^^ m) := by decide +kernel
theorem mm2 : ∀ m, m < 32 → ∀ S, S < 32 → S &&& (63 ^^^ m) = 0 → S ≤ m ∧ m &&& (63 ^^^ S) = S ^^^ m := by decide +kernel
theorem mm3 : ∀ o, o < 64 → o &&& 31 < 32 := by decide +kernel
set_option maxRecDepth 100000 in
theorem mm4 : ∀ o, o < 64 → zI (o : Nat) &&& zI 31 = zI ((o &&& 31 : Nat) : Int) := by decide +kernel
theorem mm5 : ∀ S, S < 32 → ∀ m, m < 32 → S ^^^ m < 32 := by decide +kernel
def pwS (c : Int) : Nat → Int
  | 0 => 1
  | k + 1 => pwS c k * c
/-- c for each of the first k places that are in m, together -/
def odS (m : Nat) (c : Int) : Nat → Int
  | 0 => 1
  | k + 1 => if m.testBit k then odS m c k * c else odS m c k
theorem od_pw (m : Nat) (c : Int) : ∀ k : Nat, odS m c k = pwS c (pcK m k)
  | 0 => rfl
  | k + 1 => by
    unfold odS pcK
    rw [od_pw m c k]
    split <;> rfl
theorem od_5 {m : Nat} (hm : m < 32) (c : Int) : odS m c 5 = pwS c (pc6 m) := by
  rw [od_pw]
  have : m.testBit 5 = false := Nat.testBit_lt_two_pow (by omega)
  have e : pc6 m = pcK m 5 + if m.testBit 5 then 1 else 0 := rfl
  rw [e, this]
  simp
theorem pwS_b {c : Int} (hc : 0 ≤ c ∧ c ≤ 20) : ∀ k : Nat, 0 ≤ pwS c k ∧ pwS c k ≤ 20 ^ k
  | 0 => by unfold pwS; omega
  | k + 1 => by
    have ih := pwS_b hc k
    have p : (20 : Int) ^ (k + 1) = 20 ^ k * 20 := Int.pow_succ 20 k
    unfold pwS
    rw [p]
    exact ⟨Int.mul_nonneg ih.1 hc.1, Int.mul_le_mul ih.2 hc.2 hc.1 (by omega)⟩
theorem pwS_6 {c : Int} (hc : 0 ≤ c ∧ c ≤ 20) {k : Nat} (hk : k ≤ 6) : 0 ≤ pwS c k ∧ pwS c k ≤ 64000000 := by
  have b := pwS_b hc k
  have : ∀ j : Nat, j ≤ 6 → (20 : Int) ^ j ≤ 64000000 := by decide
  have := this k hk
  omega
theorem pwS_1 {c : Int} (hc : 1 ≤ c) : ∀ k : Nat, 1 ≤ pwS c k
  | 0 => Int.le_refl _
  | k + 1 => by
    have ih := pwS_1 hc k
    unfold pwS
    have := Int.mul_le_mul ih hc (by omega) (by omega)
    omega
section PWR
variable {E : XE} {h : Mem} {Q : Int64 → Mem → Prop}
theorem sC_power {c : Int} {n : Nat} (hc : 0 ≤ c ∧ c ≤ 20) (hn : n ≤ 6) (hq : Q (zL (pwS c n)) h) : CALLL E mC_power [.int (zI c), .int (zI n)] h Q := by
  refine fC_power ?_
  have key : ∀ (j k : Nat), k + j = n → WP E mC_power 5 [some (.int (zI c)), some (.int (zI n)), some (.long (zL (pwS c k))), none, some (.int (zI k))] [] h (qL Q) := by
    intro j
    induction j with
    | zero =>
      intro k hk
      refine fC_power_5 ?_
      rw [show n = k by omega] at hq ⊢
      exact ⟨fun _ => hq, fun z => absurd ((zI_le (by omega) (by omega) (by omega) (by omega)).mpr (Int.le_refl _)) z⟩
    | succ j ih =>
      intro k hk
      refine fC_power_5 ?_
      have hnext := ih (k + 1) (by omega)
      have pb := pwS_6 hc (k := k) (by omega)
      rw [show ((k + 1 : Nat) : Int) = (k : Int) + 1 by omega] at hnext
      simp (disch := omega) only [zI_add, zI_sub, zI_mul, zI_neg, zI_lt, zI_le, zI_eq, zI_div, zI_rem, ix_zI, inb_zI, nz_zI, imax_zI, imin_zI, c_t, nb01.1, nb01.2, zl_0, zl_1, zl_2, zl_3, zl_4, zl_5, zl_6, zl_7, zl_8, zl_9, zl_10, zl_11, zl_12, zl_13, zl_14, zl_15, zl_16, zl_17, zl_18, zl_19, zl_20, zl_24, zl_30, zl_31, zl_36, zl_42, zl_44, zl_48, zl_57, zl_58, zl_59, zl_60, zl_61, zl_62, zl_63, zl_64, zl_72, zl_73, zl_96, zl_99, zl_100, zl_104, zl_107, zl_111, zl_114, zl_116, zl_120, zl_200, zl_255, zl_256, zl_360, zl_600, zl_800, zl_1000, zl_2000, zI_L, lg_ltz, lg_gtz, zL_add, zL_sub, zL_mul, zL_div, zL_rem, nzL_zL, zm_0, zm_1, zm_2, zm_5, zm_8, zm_9, zm_15, zm_16, zm_11, zm_20, zm_59, zm_60, zm_96, zm_99, zm_255, zm_600, zm_2147483647, zm_4000000000000000000, zm_3, zm_48, zm_57]
      exact ⟨fun z => by omega, fun _ => hnext⟩
  exact key n 0 (by omega)
end PWR
/-! ===== some of the first five are on ===== -/
def wOn (w : Int → Int) (S : Nat) : Int → Int := fun x => if 42 ≤ x ∧ x < 47 then (if S.testBit (x - 42).toNat then 1 else 0) else w x
theorem wo_ne {w : Int → Int} {S : Nat} {x : Int} (h : ¬ (42 ≤ x ∧ x < 47)) : wOn w S x = w x := if_neg h
theorem wo_b {w : Int → Int} {S k : Nat} (h : k < 5) : wOn w S (42 + (k : Int)) = if S.testBit k then 1 else 0 := by
  unfold wOn
  rw [if_pos (by omega), show (42 + (k : Int) - 42).toNat = k by omega]
theorem WF.won {w : Int → Int} (hw : WF w) (S : Nat) : WF (wOn w S) := by
  have hn := hw.1
  have e72 : wOn w S 72 = w 72 := wo_ne (by omega)
  refine ⟨by rw [e72]; exact hn, fun i i0 i1 => ?_, fun i i0 i1 => ?_⟩
  · unfold wOn
    split
    · split <;> omega
    · exact hw.2.1 i i0 i1
  · rw [e72] at i1
    have a := hw.2.2 i i0 i1
    rw [wo_ne (by omega), wo_ne (by omega), wo_ne (by omega), wo_ne (by omega), wo_ne (by omega), wo_ne (by omega), wo_ne (by omega)]
    refine ⟨⟨a.1.1, a.1.2.1, a.1.2.2.1, a.1.2.2.2.1, a.1.2.2.2.2.1, a.1.2.2.2.2.2.1, a.1.2.2.2.2.2.2.1, a.1.2.2.2.2.2.2.2.1, a.1.2.2.2.2.2.2.2.2.1, ?_⟩, fun l l0 l1 => by rw [wo_ne (by omega)]; exact a.2 l l0 l1⟩
    unfold wOn
    split
    · split <;> omega
    · exact a.1.2.2.2.2.2.2.2.2.2
theorem onM_won {w : Int → Int} (hw : WF w) {S : Nat} (hS : S < 32) (hs : S &&& (63 ^^^ (onM w &&& 31)) = 0) : onM (wOn w S) = (onM w &&& (63 ^^^ (onM w &&& 31))) ||| S := by
  have hn := hw.n
  have e72 : wOn w S 72 = w 72 := wo_ne (by omega)
  have ol := onM_lt hw
  have lt6 : ∀ i, ¬ i < 6 → S.testBit i = false := fun i hi => Nat.testBit_lt_two_pow (Nat.lt_of_lt_of_le (show S < 2 ^ 5 from hS) (Nat.pow_le_pow_right (by omega) (by omega)))
  have lt5 : ∀ i, ¬ i < 5 → S.testBit i = false := fun i hi => Nat.testBit_lt_two_pow (Nat.lt_of_lt_of_le (show S < 2 ^ 5 from hS) (Nat.pow_le_pow_right (by omega) (by omega)))
  apply Nat.eq_of_testBit_eq
  intro i
  have hz : (S &&& (63 ^^^ (onM w &&& 31))).testBit i = false := by rw [hs]; exact Nat.zero_testBit i
  have e31 : (31 : Nat).testBit i = decide (i < 5) := Nat.testBit_two_pow_sub_one 5 i
  have e63 : (63 : Nat).testBit i = decide (i < 6) := Nat.testBit_two_pow_sub_one 6 i
  have eo : (onM w).testBit i = (decide (i < (w 72).toNat) && decide (w (42 + (i : Int)) = 1)) := by unfold onM; exact onK_bit w _ i
  have eo2 : (onM (wOn w S)).testBit i = (decide (i < (w 72).toNat) && decide (wOn w S (42 + (i : Int)) = 1)) := by
    unfold onM
    rw [e72]
    exact onK_bit (wOn w S) _ i
  rw [Nat.testBit_and, Nat.testBit_xor, Nat.testBit_and, e31, e63] at hz
  rw [Nat.testBit_or, Nat.testBit_and, Nat.testBit_xor, Nat.testBit_and, e31, e63, eo2]
  by_cases h5 : i < 5
  · rw [wo_b h5]
    have h6 : i < 6 := by omega
    simp only [h5, h6, decide_true, Bool.and_true, Bool.true_xor] at hz ⊢
    rw [eo] at hz ⊢
    by_cases hb : S.testBit i = true
    · rw [hb] at hz ⊢
      simp at hz
      simp [hz.1]
    · have hb : S.testBit i = false := by simpa using hb
      rw [hb]
      simp
  · rw [wo_ne (by omega), eo, lt5 i h5]
    by_cases h6 : i < 6
    · simp [h5, h6]
    · have : ¬ i < (w 72).toNat := by omega
      simp [this]
