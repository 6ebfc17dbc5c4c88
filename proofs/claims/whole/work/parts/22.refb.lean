/-! ===== sums, growth, settling ===== -/
theorem sumT_congr {f g : Int → Int} : ∀ (k : Nat), (∀ i : Int, 0 ≤ i → i < k → f i = g i) → sumT f k = sumT g k
  | 0, _ => rfl
  | k + 1, h => by
    unfold sumT
    rw [sumT_congr k (fun i h0 h1 => h i h0 (by omega)), h k (by omega) (by omega)]
theorem sumT_le {f g : Int → Int} : ∀ (k : Nat), (∀ i : Int, 0 ≤ i → i < k → f i ≤ g i) → sumT f k ≤ sumT g k
  | 0, _ => Int.le_refl _
  | k + 1, h => by
    unfold sumT
    have h1 := sumT_le k (fun i h0 h1 => h i h0 (by omega))
    have h2 := h k (by omega) (by omega)
    omega
theorem sumT_b {f : Int → Int} {B : Int} (hB : 0 ≤ B) : ∀ (k : Nat), k ≤ 6 → (∀ i : Int, 0 ≤ i → i < k → 0 ≤ f i ∧ f i ≤ B) → 0 ≤ sumT f k ∧ sumT f k ≤ k * B
  | 0, _, _ => by unfold sumT; omega
  | k + 1, hk, h => by
    unfold sumT
    have h1 := sumT_b hB k (by omega) (fun i h0 h1 => h i h0 (by omega))
    have h2 := h k (by omega) (by omega)
    have e : ((k + 1 : Nat) : Int) * B = (k : Int) * B + B := by rw [Int.natCast_add, Int.add_mul]; simp
    rw [e]
    omega
theorem prod_b {a b B : Int} (h0 : 0 ≤ a) (h1 : a ≤ 200) (h2 : 0 ≤ b) (h3 : b ≤ B) : 0 ≤ a * b ∧ a * b ≤ 200 * B := by
  refine ⟨Int.mul_nonneg h0 h2, ?_⟩
  calc a * b ≤ 200 * b := Int.mul_le_mul_of_nonneg_right h1 h2
    _ ≤ 200 * B := Int.mul_le_mul_of_nonneg_left h3 (by omega)
theorem byK_mono {w : Int → Int} {i a b : Int} (h : a ≤ b) : byK w i a ≤ byK w i b := by
  unfold byK
  split
  · omega
  · split <;> omega
theorem asked_mono {w : Int → Int} (hw : WF w) {i a b : Int} (h0 : 0 ≤ i) (h1 : i < w 72) (ha : 0 ≤ a) (hab : a ≤ b) : asked w i a ≤ asked w i b := by
  have d1 := dist_b hw h0 h1
  have hb := asked_b hw h0 h1 (t := b) (by omega)
  by_cases za : a = 0
  · have : asked w i a = 0 := by unfold asked; rw [if_pos za]
    omega
  · unfold asked
    rw [if_neg za, if_neg (by omega)]
    exact byK_mono (Int.ediv_le_ediv (by omega) (by omega))
theorem owed_mono {w : Int → Int} (hw : WF w) {i a b : Int} (h0 : 0 ≤ i) (h1 : i < w 72) (ha : 0 ≤ a) (hab : a ≤ b) : owed w i a ≤ owed w i b := by
  have d1 := dist_b hw h0 h1
  have hb := owed_b hw h0 h1 (t := b) (by omega)
  by_cases za : a = 0 ∨ a + lat w i - lim w i < 0
  · have : owed w i a = 0 := by unfold owed; rw [if_pos za]
    omega
  · unfold owed
    rw [if_neg za, if_neg (by omega)]
    have := Int.ediv_le_ediv (c := dist w i) (by omega) (show a + lat w i - lim w i ≤ b + lat w i - lim w i by omega)
    exact byK_mono (by omega)
theorem WF.n {w : Int → Int} (hw : WF w) : (((w 72).toNat : Nat) : Int) = w 72 ∧ (w 72).toNat ≤ 6 := by
  have := hw.1
  omega
theorem dem_mono {w : Int → Int} (hw : WF w) {a b : Int} (ha : 0 ≤ a) (hab : a ≤ b) : dem w a ≤ dem w b := by
  unfold dem
  have hn := hw.n
  refine sumT_le _ (fun i h0 h1 => ?_)
  have h1' : i < w 72 := by omega
  obtain ⟨c0, c1, -⟩ := hw.at h0 h1'
  split
  · exact Int.mul_le_mul_of_nonneg_left (owed_mono hw h0 h1' ha hab) (by omega)
  · omega
theorem asksM_mono {w : Int → Int} (hw : WF w) (m : Nat) {a b : Int} (ha : 0 ≤ a) (hab : a ≤ b) : asksM w m a ≤ asksM w m b := by
  unfold asksM
  have hn := hw.n
  refine sumT_le _ (fun i h0 h1 => ?_)
  have h1' : i < w 72 := by omega
  obtain ⟨c0, c1, -⟩ := hw.at h0 h1'
  split
  · exact Int.mul_le_mul_of_nonneg_left (asked_mono hw h0 h1' ha hab) (by omega)
  · omega
theorem dem_b {w : Int → Int} (hw : WF w) {t : Int} (ht : 0 ≤ t) : 0 ≤ dem w t ∧ dem w t ≤ 1200 * (t + 80) := by
  unfold dem
  have hn := hw.n
  have h := sumT_b (f := fun i => if w (42 + i) = 1 then w i * owed w i t else 0) (B := 200 * (t + 80)) (by omega) (w 72).toNat hn.2 (fun i h0 h1 => by
    have h1' : i < w 72 := by omega
    obtain ⟨c0, c1, -⟩ := hw.at h0 h1'
    have ob := owed_b hw h0 h1' ht
    split
    · exact prod_b (by omega) c1.2 ob.1 ob.2
    · omega)
  refine ⟨h.1, Int.le_trans h.2 ?_⟩
  have := Int.mul_le_mul_of_nonneg_right (show (((w 72).toNat : Nat) : Int) ≤ 6 by omega) (show 0 ≤ 200 * (t + 80) by omega)
  omega
theorem asksM_b {w : Int → Int} (hw : WF w) (m : Nat) {t : Int} (ht : 0 ≤ t) : 0 ≤ asksM w m t ∧ asksM w m t ≤ 1200 * (t + 80) := by
  unfold asksM
  have hn := hw.n
  have h := sumT_b (f := fun i => if m.testBit i.toNat then w i * asked w i t else 0) (B := 200 * (t + 80)) (by omega) (w 72).toNat hn.2 (fun i h0 h1 => by
    have h1' : i < w 72 := by omega
    obtain ⟨c0, c1, -⟩ := hw.at h0 h1'
    have ob := asked_b hw h0 h1' ht
    split
    · exact prod_b (by omega) c1.2 ob.1 ob.2
    · omega)
  refine ⟨h.1, Int.le_trans h.2 ?_⟩
  have := Int.mul_le_mul_of_nonneg_right (show (((w 72).toNat : Nat) : Int) ≤ 6 by omega) (show 0 ≤ 200 * (t + 80) by omega)
  omega
theorem onK_bit (w : Int → Int) : ∀ (k i : Nat), (onK w k).testBit i = (decide (i < k) && decide (w (42 + (i : Int)) = 1))
  | 0, i => by simp [onK]
  | k + 1, i => by
    unfold onK
    by_cases e : i = k
    · subst e
      split
      · rename_i h
        rw [Nat.testBit_or, Nat.testBit_two_pow_self]
        simp [h]
      · rename_i h
        rw [onK_bit w i i]
        simp [h]
    · have hne : ¬ k = i := fun z => e z.symm
      split
      · rw [Nat.testBit_or, Nat.testBit_two_pow, onK_bit w k i]
        have : decide (i < k + 1) = decide (i < k) := by
          apply decide_eq_decide.mpr; omega
        simp [hne, this]
      · rw [onK_bit w k i]
        have : decide (i < k + 1) = decide (i < k) := by
          apply decide_eq_decide.mpr; omega
        rw [this]
theorem onM_bit {w : Int → Int} (hw : WF w) {i : Int} (h0 : 0 ≤ i) (h1 : i < w 72) : (onM w).testBit i.toNat = decide (w (42 + i) = 1) := by
  unfold onM
  rw [onK_bit]
  have hn := hw.n
  have e : ((i.toNat : Nat) : Int) = i := by omega
  have : i.toNat < (w 72).toNat := by omega
  simp [this, e]
theorem onK_lt (w : Int → Int) : ∀ k : Nat, onK w k < 2 ^ k
  | 0 => by simp [onK]
  | k + 1 => by
    have ih := onK_lt w k
    unfold onK
    have h2 : (2 : Nat) ^ k < 2 ^ (k + 1) := Nat.pow_lt_pow_right (by omega) (by omega)
    split
    · exact Nat.or_lt_two_pow (by omega) h2
    · omega
theorem onM_lt {w : Int → Int} (hw : WF w) : onM w < 64 := by
  have h := onK_lt w (w 72).toNat
  have hn := hw.n
  have : (2 : Nat) ^ (w 72).toNat ≤ 2 ^ 6 := Nat.pow_le_pow_right (by omega) hn.2
  unfold onM
  omega
/-- the first t of t, A t, A (A t), .. that is its own next; -9: none up to 600 -/
def settle (A : Int → Int) : Nat → Int → Int
  | 0, _ => -9
  | k + 1, t => if 600 < t then -9 else if A t = t then t else settle A k (A t)
def busy (w : Int → Int) : Int := settle (asksM w (onM w)) 700 (asksM w (onM w) 1)
theorem settle_b {A : Int → Int} : ∀ (k : Nat) (t : Int), 0 ≤ t → (∀ a, 0 ≤ a → 0 ≤ A a) → settle A k t = -9 ∨ (0 ≤ settle A k t ∧ settle A k t ≤ 600)
  | 0, t, _, _ => Or.inl rfl
  | k + 1, t, h0, hA => by
    unfold settle
    split
    · exact Or.inl rfl
    · split
      · exact Or.inr (by omega)
      · exact settle_b k (A t) (hA t h0) hA
theorem busy_b {w : Int → Int} (hw : WF w) : busy w = -9 ∨ (0 ≤ busy w ∧ busy w ≤ 600) :=
  settle_b _ _ (asksM_b hw _ (by omega)).1 (fun a ha => (asksM_b hw _ ha).1)
section RC
variable {E : XE} {h : Mem} {w : Int → Int}
theorem sM_demandOf {Q : Int32 → Mem → Prop} {t : Int} (hm : RW (h 61) w) (hw : WF w) (ht : 0 ≤ t ∧ t < 1000000000) (hq : Q (zI (dem w t)) h) : CALLI E mM_demandOf [.ref 60, .int (zI t)] h Q := by
  refine fM_demandOf ?_
  have hn := hw.1
  have key : ∀ (j k : Nat), (k : Int) + j = w 72 → WP E mM_demandOf 4 [some (.ref 60), some (.int (zI t)), some (.int (zI (sumT (fun i => if w (42 + i) = 1 then w i * owed w i t else 0) k))), some (.int (zI k))] [] h (qI Q) := by
    intro j
    induction j with
    | zero =>
      intro k hk
      refine fM_demandOf_4 ?_
      simp (disch := omega) only [zI_add, zI_sub, zI_mul, zI_neg, zI_lt, zI_le, zI_eq, zI_div, zI_rem, ix_zI, inb_zI, nz_zI, imax_zI, imin_zI, c_t, nb01.1, nb01.2, zl_0, zl_1, zl_2, zl_3, zl_4, zl_5, zl_6, zl_7, zl_8, zl_9, zl_10, zl_11, zl_12, zl_13, zl_14, zl_15, zl_16, zl_17, zl_18, zl_19, zl_20, zl_24, zl_30, zl_31, zl_36, zl_42, zl_44, zl_48, zl_57, zl_58, zl_59, zl_60, zl_61, zl_62, zl_63, zl_64, zl_72, zl_73, zl_96, zl_99, zl_100, zl_104, zl_107, zl_111, zl_114, zl_116, zl_120, zl_200, zl_255, zl_256, zl_360, zl_600, zl_800, zl_1000, zl_2000, hm _]
      refine ⟨fun _ => ?_, fun z => absurd (by omega) z⟩
      have : (w 72).toNat = k := by omega
      unfold dem at hq
      rw [this] at hq
      exact hq
    | succ j ih =>
      intro k hk
      refine fM_demandOf_4 ?_
      simp (disch := omega) only [zI_add, zI_sub, zI_mul, zI_neg, zI_lt, zI_le, zI_eq, zI_div, zI_rem, ix_zI, inb_zI, nz_zI, imax_zI, imin_zI, c_t, nb01.1, nb01.2, zl_0, zl_1, zl_2, zl_3, zl_4, zl_5, zl_6, zl_7, zl_8, zl_9, zl_10, zl_11, zl_12, zl_13, zl_14, zl_15, zl_16, zl_17, zl_18, zl_19, zl_20, zl_24, zl_30, zl_31, zl_36, zl_42, zl_44, zl_48, zl_57, zl_58, zl_59, zl_60, zl_61, zl_62, zl_63, zl_64, zl_72, zl_73, zl_96, zl_99, zl_100, zl_104, zl_107, zl_111, zl_114, zl_116, zl_120, zl_200, zl_255, zl_256, zl_360, zl_600, zl_800, zl_1000, zl_2000, hm _]
      refine ⟨fun z => by omega, fun z => sM_isOn hm hw (by omega) (by omega) ?_⟩
      have ih' := ih (k + 1) (by omega)
      unfold sumT at ih'
      by_cases hon : w (42 + (k : Int)) = 1
      · rw [if_pos hon] at ih' ⊢
        simp (disch := omega) only [zI_add, zI_sub, zI_mul, zI_neg, zI_lt, zI_le, zI_eq, zI_div, zI_rem, ix_zI, inb_zI, nz_zI, imax_zI, imin_zI, c_t, nb01.1, nb01.2, zl_0, zl_1, zl_2, zl_3, zl_4, zl_5, zl_6, zl_7, zl_8, zl_9, zl_10, zl_11, zl_12, zl_13, zl_14, zl_15, zl_16, zl_17, zl_18, zl_19, zl_20, zl_24, zl_30, zl_31, zl_36, zl_42, zl_44, zl_48, zl_57, zl_58, zl_59, zl_60, zl_61, zl_62, zl_63, zl_64, zl_72, zl_73, zl_96, zl_99, zl_100, zl_104, zl_107, zl_111, zl_114, zl_116, zl_120, zl_200, zl_255, zl_256, zl_360, zl_600, zl_800, zl_1000, zl_2000]
        refine ⟨fun z => by omega, fun _ => sM_owedOf hm hw (by omega) (by omega) ht ?_⟩
        simp (disch := omega) only [zI_add, zI_sub, zI_mul, zI_neg, zI_lt, zI_le, zI_eq, zI_div, zI_rem, ix_zI, inb_zI, nz_zI, imax_zI, imin_zI, c_t, nb01.1, nb01.2, zl_0, zl_1, zl_2, zl_3, zl_4, zl_5, zl_6, zl_7, zl_8, zl_9, zl_10, zl_11, zl_12, zl_13, zl_14, zl_15, zl_16, zl_17, zl_18, zl_19, zl_20, zl_24, zl_30, zl_31, zl_36, zl_42, zl_44, zl_48, zl_57, zl_58, zl_59, zl_60, zl_61, zl_62, zl_63, zl_64, zl_72, zl_73, zl_96, zl_99, zl_100, zl_104, zl_107, zl_111, zl_114, zl_116, zl_120, zl_200, zl_255, zl_256, zl_360, zl_600, zl_800, zl_1000, zl_2000, hm _]
        rw [Int.zero_add]
        exact ih'
      · rw [if_neg hon] at ih' ⊢
        simp (disch := omega) only [zI_add, zI_sub, zI_mul, zI_neg, zI_lt, zI_le, zI_eq, zI_div, zI_rem, ix_zI, inb_zI, nz_zI, imax_zI, imin_zI, c_t, nb01.1, nb01.2, zl_0, zl_1, zl_2, zl_3, zl_4, zl_5, zl_6, zl_7, zl_8, zl_9, zl_10, zl_11, zl_12, zl_13, zl_14, zl_15, zl_16, zl_17, zl_18, zl_19, zl_20, zl_24, zl_30, zl_31, zl_36, zl_42, zl_44, zl_48, zl_57, zl_58, zl_59, zl_60, zl_61, zl_62, zl_63, zl_64, zl_72, zl_73, zl_96, zl_99, zl_100, zl_104, zl_107, zl_111, zl_114, zl_116, zl_120, zl_200, zl_255, zl_256, zl_360, zl_600, zl_800, zl_1000, zl_2000]
        refine ⟨fun _ => ih', fun z => absurd trivial z⟩
  exact key (w 72).toNat 0 (by omega)
theorem sM_asksAll {Q : Int32 → Mem → Prop} {t : Int} (hm : RW (h 61) w) (hw : WF w) (ht : 0 ≤ t ∧ t < 1000000000) (hq : Q (zI (asksM w (onM w) t)) h) : CALLI E mM_asksAll [.ref 60, .int (zI t)] h Q := by
  refine fM_asksAll ?_
  have hn := hw.1
  have e : asksM w (onM w) t = sumT (fun i => if w (42 + i) = 1 then w i * asked w i t else 0) (w 72).toNat := by
    unfold asksM
    refine sumT_congr _ (fun i h0 h1 => ?_)
    rw [onM_bit hw h0 (by omega)]
    simp
  have key : ∀ (j k : Nat), (k : Int) + j = w 72 → WP E mM_asksAll 4 [some (.ref 60), some (.int (zI t)), some (.int (zI (sumT (fun i => if w (42 + i) = 1 then w i * asked w i t else 0) k))), some (.int (zI k))] [] h (qI Q) := by
    intro j
    induction j with
    | zero =>
      intro k hk
      refine fM_asksAll_4 ?_
      simp (disch := omega) only [zI_add, zI_sub, zI_mul, zI_neg, zI_lt, zI_le, zI_eq, zI_div, zI_rem, ix_zI, inb_zI, nz_zI, imax_zI, imin_zI, c_t, nb01.1, nb01.2, zl_0, zl_1, zl_2, zl_3, zl_4, zl_5, zl_6, zl_7, zl_8, zl_9, zl_10, zl_11, zl_12, zl_13, zl_14, zl_15, zl_16, zl_17, zl_18, zl_19, zl_20, zl_24, zl_30, zl_31, zl_36, zl_42, zl_44, zl_48, zl_57, zl_58, zl_59, zl_60, zl_61, zl_62, zl_63, zl_64, zl_72, zl_73, zl_96, zl_99, zl_100, zl_104, zl_107, zl_111, zl_114, zl_116, zl_120, zl_200, zl_255, zl_256, zl_360, zl_600, zl_800, zl_1000, zl_2000, hm _]
      refine ⟨fun _ => ?_, fun z => absurd (by omega) z⟩
      have : (w 72).toNat = k := by omega
      rw [e, this] at hq
      exact hq
    | succ j ih =>
      intro k hk
      refine fM_asksAll_4 ?_
      simp (disch := omega) only [zI_add, zI_sub, zI_mul, zI_neg, zI_lt, zI_le, zI_eq, zI_div, zI_rem, ix_zI, inb_zI, nz_zI, imax_zI, imin_zI, c_t, nb01.1, nb01.2, zl_0, zl_1, zl_2, zl_3, zl_4, zl_5, zl_6, zl_7, zl_8, zl_9, zl_10, zl_11, zl_12, zl_13, zl_14, zl_15, zl_16, zl_17, zl_18, zl_19, zl_20, zl_24, zl_30, zl_31, zl_36, zl_42, zl_44, zl_48, zl_57, zl_58, zl_59, zl_60, zl_61, zl_62, zl_63, zl_64, zl_72, zl_73, zl_96, zl_99, zl_100, zl_104, zl_107, zl_111, zl_114, zl_116, zl_120, zl_200, zl_255, zl_256, zl_360, zl_600, zl_800, zl_1000, zl_2000, hm _]
      refine ⟨fun z => by omega, fun z => sM_isOn hm hw (by omega) (by omega) ?_⟩
      have ih' := ih (k + 1) (by omega)
      unfold sumT at ih'
      by_cases hon : w (42 + (k : Int)) = 1
      · rw [if_pos hon] at ih' ⊢
        simp (disch := omega) only [zI_add, zI_sub, zI_mul, zI_neg, zI_lt, zI_le, zI_eq, zI_div, zI_rem, ix_zI, inb_zI, nz_zI, imax_zI, imin_zI, c_t, nb01.1, nb01.2, zl_0, zl_1, zl_2, zl_3, zl_4, zl_5, zl_6, zl_7, zl_8, zl_9, zl_10, zl_11, zl_12, zl_13, zl_14, zl_15, zl_16, zl_17, zl_18, zl_19, zl_20, zl_24, zl_30, zl_31, zl_36, zl_42, zl_44, zl_48, zl_57, zl_58, zl_59, zl_60, zl_61, zl_62, zl_63, zl_64, zl_72, zl_73, zl_96, zl_99, zl_100, zl_104, zl_107, zl_111, zl_114, zl_116, zl_120, zl_200, zl_255, zl_256, zl_360, zl_600, zl_800, zl_1000, zl_2000]
        refine ⟨fun z => by omega, fun _ => sM_askedOf hm hw (by omega) (by omega) ht ?_⟩
        simp (disch := omega) only [zI_add, zI_sub, zI_mul, zI_neg, zI_lt, zI_le, zI_eq, zI_div, zI_rem, ix_zI, inb_zI, nz_zI, imax_zI, imin_zI, c_t, nb01.1, nb01.2, zl_0, zl_1, zl_2, zl_3, zl_4, zl_5, zl_6, zl_7, zl_8, zl_9, zl_10, zl_11, zl_12, zl_13, zl_14, zl_15, zl_16, zl_17, zl_18, zl_19, zl_20, zl_24, zl_30, zl_31, zl_36, zl_42, zl_44, zl_48, zl_57, zl_58, zl_59, zl_60, zl_61, zl_62, zl_63, zl_64, zl_72, zl_73, zl_96, zl_99, zl_100, zl_104, zl_107, zl_111, zl_114, zl_116, zl_120, zl_200, zl_255, zl_256, zl_360, zl_600, zl_800, zl_1000, zl_2000, hm _]
        rw [Int.zero_add]
        exact ih'
      · rw [if_neg hon] at ih' ⊢
        simp (disch := omega) only [zI_add, zI_sub, zI_mul, zI_neg, zI_lt, zI_le, zI_eq, zI_div, zI_rem, ix_zI, inb_zI, nz_zI, imax_zI, imin_zI, c_t, nb01.1, nb01.2, zl_0, zl_1, zl_2, zl_3, zl_4, zl_5, zl_6, zl_7, zl_8, zl_9, zl_10, zl_11, zl_12, zl_13, zl_14, zl_15, zl_16, zl_17, zl_18, zl_19, zl_20, zl_24, zl_30, zl_31, zl_36, zl_42, zl_44, zl_48, zl_57, zl_58, zl_59, zl_60, zl_61, zl_62, zl_63, zl_64, zl_72, zl_73, zl_96, zl_99, zl_100, zl_104, zl_107, zl_111, zl_114, zl_116, zl_120, zl_200, zl_255, zl_256, zl_360, zl_600, zl_800, zl_1000, zl_2000]
        refine ⟨fun _ => ih', fun z => absurd trivial z⟩
  exact key (w 72).toNat 0 (by omega)
theorem asks1_le {w : Int → Int} (hw : WF w) : asksM w (onM w) 1 ≤ asksM w (onM w) (asksM w (onM w) 1) := by
  by_cases z : 1 ≤ asksM w (onM w) 1
  · exact asksM_mono hw _ (by omega) z
  · have b1 := asksM_b hw (onM w) (t := 1) (by omega)
    have e : asksM w (onM w) 1 = 0 := by omega
    rw [e]
    have := asksM_b hw (onM w) (t := 0) (by omega)
    omega
theorem sM_busyOf {Q : Int32 → Mem → Prop} (hm : RW (h 61) w) (hw : WF w) (hq : Q (zI (busy w)) h) : CALLI E mM_busyOf [.ref 60] h Q := by
  refine fM_busyOf ?_
  have b1 := asksM_b hw (onM w) (t := 1) (by omega)
  simp (disch := omega) only [zI_add, zI_sub, zI_mul, zI_neg, zI_lt, zI_le, zI_eq, zI_div, zI_rem, ix_zI, inb_zI, nz_zI, imax_zI, imin_zI, c_t, nb01.1, nb01.2, zl_0, zl_1, zl_2, zl_3, zl_4, zl_5, zl_6, zl_7, zl_8, zl_9, zl_10, zl_11, zl_12, zl_13, zl_14, zl_15, zl_16, zl_17, zl_18, zl_19, zl_20, zl_24, zl_30, zl_31, zl_36, zl_42, zl_44, zl_48, zl_57, zl_58, zl_59, zl_60, zl_61, zl_62, zl_63, zl_64, zl_72, zl_73, zl_96, zl_99, zl_100, zl_104, zl_107, zl_111, zl_114, zl_116, zl_120, zl_200, zl_255, zl_256, zl_360, zl_600, zl_800, zl_1000, zl_2000]
  refine sM_asksAll hm hw (by omega) (sM_asksAll hm hw (by omega) ?_)
  have key : ∀ (f : Nat) (t : Int), 0 ≤ t → t < 100000000 → t ≤ asksM w (onM w) t → 601 - t ≤ f → Q (zI (settle (asksM w (onM w)) f t)) h → WP E mM_busyOf 12 [some (.ref 60), some (.int (zI t)), some (.int (zI (asksM w (onM w) t)))] [] h (qI Q) := by
    intro f
    induction f with
    | zero =>
      intro t h0 h1 h2 h3 hq
      refine fM_busyOf_12 ?_
      simp (disch := omega) only [zI_add, zI_sub, zI_mul, zI_neg, zI_lt, zI_le, zI_eq, zI_div, zI_rem, ix_zI, inb_zI, nz_zI, imax_zI, imin_zI, c_t, nb01.1, nb01.2, zl_0, zl_1, zl_2, zl_3, zl_4, zl_5, zl_6, zl_7, zl_8, zl_9, zl_10, zl_11, zl_12, zl_13, zl_14, zl_15, zl_16, zl_17, zl_18, zl_19, zl_20, zl_24, zl_30, zl_31, zl_36, zl_42, zl_44, zl_48, zl_57, zl_58, zl_59, zl_60, zl_61, zl_62, zl_63, zl_64, zl_72, zl_73, zl_96, zl_99, zl_100, zl_104, zl_107, zl_111, zl_114, zl_116, zl_120, zl_200, zl_255, zl_256, zl_360, zl_600, zl_800, zl_1000, zl_2000]
      exact ⟨fun _ => ⟨fun z => by omega, fun _ => hq⟩, fun z => by omega⟩
    | succ f ih =>
      intro t h0 h1 h2 h3 hq
      refine fM_busyOf_12 ?_
      unfold settle at hq
      by_cases hb : 600 < t
      · rw [if_pos hb] at hq
        simp (disch := omega) only [zI_add, zI_sub, zI_mul, zI_neg, zI_lt, zI_le, zI_eq, zI_div, zI_rem, ix_zI, inb_zI, nz_zI, imax_zI, imin_zI, c_t, nb01.1, nb01.2, zl_0, zl_1, zl_2, zl_3, zl_4, zl_5, zl_6, zl_7, zl_8, zl_9, zl_10, zl_11, zl_12, zl_13, zl_14, zl_15, zl_16, zl_17, zl_18, zl_19, zl_20, zl_24, zl_30, zl_31, zl_36, zl_42, zl_44, zl_48, zl_57, zl_58, zl_59, zl_60, zl_61, zl_62, zl_63, zl_64, zl_72, zl_73, zl_96, zl_99, zl_100, zl_104, zl_107, zl_111, zl_114, zl_116, zl_120, zl_200, zl_255, zl_256, zl_360, zl_600, zl_800, zl_1000, zl_2000]
        exact ⟨fun _ => ⟨fun z => by omega, fun _ => hq⟩, fun z => absurd hb z⟩
      · rw [if_neg hb] at hq
        have b2 := asksM_b hw (onM w) (t := t) (by omega)
        simp (disch := omega) only [zI_add, zI_sub, zI_mul, zI_neg, zI_lt, zI_le, zI_eq, zI_div, zI_rem, ix_zI, inb_zI, nz_zI, imax_zI, imin_zI, c_t, nb01.1, nb01.2, zl_0, zl_1, zl_2, zl_3, zl_4, zl_5, zl_6, zl_7, zl_8, zl_9, zl_10, zl_11, zl_12, zl_13, zl_14, zl_15, zl_16, zl_17, zl_18, zl_19, zl_20, zl_24, zl_30, zl_31, zl_36, zl_42, zl_44, zl_48, zl_57, zl_58, zl_59, zl_60, zl_61, zl_62, zl_63, zl_64, zl_72, zl_73, zl_96, zl_99, zl_100, zl_104, zl_107, zl_111, zl_114, zl_116, zl_120, zl_200, zl_255, zl_256, zl_360, zl_600, zl_800, zl_1000, zl_2000]
        refine ⟨fun z => absurd z hb, fun _ => ⟨fun z => ⟨fun _ => ?_, fun z2 => by omega⟩, fun z => sM_asksAll hm hw (by omega) ?_⟩⟩
        · rw [if_pos z] at hq; exact hq
        · rw [if_neg z] at hq
          exact ih _ (by omega) (by omega) (asksM_mono hw _ h0 h2) (by omega) hq
  exact key 700 _ b1.1 (by omega) (asks1_le hw) (by omega) hq
end RC
