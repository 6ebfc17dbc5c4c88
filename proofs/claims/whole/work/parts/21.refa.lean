/-! ===== the task system as numbers; the reference's readings of it ===== -/
def RW (f : Nat → Int32) (w : Int → Int) : Prop := ∀ i : Int, 0 ≤ i → i < 73 → f i.toNat = zI (w i)
def WF (w : Int → Int) : Prop := (0 ≤ w 72 ∧ w 72 ≤ 6) ∧ (∀ i : Int, 0 ≤ i → i < 73 → 0 ≤ w i ∧ w i ≤ 200) ∧ ∀ i : Int, 0 ≤ i → i < w 72 →
  (1 ≤ w i ∧ 2 ≤ w (6 + i) ∧ w (6 + i) ≤ 60 ∧ 1 ≤ w (12 + i) ∧ w (12 + i) ≤ 60 ∧ w (18 + i) ≤ 59 ∧ w (24 + i) ≤ 9 ∧ w (30 + i) ≤ 5 ∧ w (36 + i) ≤ 9 ∧ w (42 + i) ≤ 1) ∧ ∀ l : Int, 0 ≤ l → l < 4 → w (48 + 4 * i + l) ≤ 9
def dist (w : Int → Int) (i : Int) : Int := w (6 + i) + if w (30 + i) = 2 ∨ w (30 + i) = 3 then w (36 + i) else 0
def lat (w : Int → Int) (i : Int) : Int := if w (30 + i) = 1 ∨ w (30 + i) = 4 then w (36 + i) else 0
def lim (w : Int → Int) (i : Int) : Int := if w (30 + i) = 5 then max 1 (w (12 + i) - w (36 + i)) else w (12 + i)
def byK (w : Int → Int) (i n : Int) : Int := if w (30 + i) = 3 then n + 1 else if w (30 + i) = 4 then min n (w (36 + i) + 1) else n
def asked (w : Int → Int) (i t : Int) : Int := if t = 0 then 0 else byK w i ((t + lat w i + dist w i - 1) / dist w i)
def owed (w : Int → Int) (i t : Int) : Int := if t = 0 ∨ t + lat w i - lim w i < 0 then 0 else byK w i ((t + lat w i - lim w i) / dist w i + 1)
def sumT (f : Int → Int) : Nat → Int
  | 0 => 0
  | k + 1 => sumT f k + f k
def dem (w : Int → Int) (t : Int) : Int := sumT (fun i => if w (42 + i) = 1 then w i * owed w i t else 0) (w 72).toNat
/-- what the tasks of a set (bits) ask within t -/
def asksM (w : Int → Int) (m : Nat) (t : Int) : Int := sumT (fun i => if m.testBit i.toNat then w i * asked w i t else 0) (w 72).toNat
def onK (w : Int → Int) : Nat → Nat
  | 0 => 0
  | k + 1 => if w (42 + (k : Int)) = 1 then onK w k ||| 2 ^ k else onK w k
def onM (w : Int → Int) : Nat := onK w (w 72).toNat
theorem lg_ltz {a b : Int} (h1 : -9223372036854775808 ≤ a) (h2 : a < 9223372036854775808) (h3 : -9223372036854775808 ≤ b) (h4 : b < 9223372036854775808) : lg_cmp (zL a) (zL b) < zI 0 ↔ a < b := lg_lt0 h1 h2 h3 h4
theorem lg_gtz {a b : Int} (h1 : -9223372036854775808 ≤ a) (h2 : a < 9223372036854775808) (h3 : -9223372036854775808 ≤ b) (h4 : b < 9223372036854775808) : zI 0 < lg_cmp (zL a) (zL b) ↔ b < a := lg_gt0 h1 h2 h3 h4
theorem WF.all {w : Int → Int} (hw : WF w) {i : Int} (h0 : 0 ≤ i) (h1 : i < 73) : 0 ≤ w i ∧ w i ≤ 200 := hw.2.1 i h0 h1
theorem WF.at {w : Int → Int} (hw : WF w) {i : Int} (h0 : 0 ≤ i) (h1 : i < w 72) : i < 6 ∧ (1 ≤ w i ∧ w i ≤ 200) ∧ (2 ≤ w (6 + i) ∧ w (6 + i) ≤ 60) ∧ (1 ≤ w (12 + i) ∧ w (12 + i) ≤ 60) ∧ (0 ≤ w (18 + i) ∧ w (18 + i) ≤ 59) ∧ (0 ≤ w (24 + i) ∧ w (24 + i) ≤ 9) ∧ (0 ≤ w (30 + i) ∧ w (30 + i) ≤ 5) ∧ (0 ≤ w (36 + i) ∧ w (36 + i) ≤ 9) ∧ (0 ≤ w (42 + i) ∧ w (42 + i) ≤ 1) ∧ ∀ l : Int, 0 ≤ l → l < 4 → 0 ≤ w (48 + 4 * i + l) ∧ w (48 + 4 * i + l) ≤ 9 := by
  obtain ⟨⟨a1, a2⟩, a3, a4⟩ := hw
  have h6 : i < 6 := by omega
  obtain ⟨⟨b1, b2, b3, b4, b5, b6, b7, b8, b9, b10⟩, b11⟩ := a4 i h0 h1
  refine ⟨h6, ⟨b1, (a3 i h0 (by omega)).2⟩, ⟨b2, b3⟩, ⟨b4, b5⟩, ⟨(a3 (18 + i) (by omega) (by omega)).1, b6⟩, ⟨(a3 (24 + i) (by omega) (by omega)).1, b7⟩, ⟨(a3 (30 + i) (by omega) (by omega)).1, b8⟩, ⟨(a3 (36 + i) (by omega) (by omega)).1, b9⟩, ⟨(a3 (42 + i) (by omega) (by omega)).1, b10⟩, fun l h l4 => ⟨(a3 (48 + 4 * i + l) (by omega) (by omega)).1, b11 l h l4⟩⟩
theorem dist_b {w : Int → Int} (hw : WF w) {i : Int} (h0 : 0 ≤ i) (h1 : i < w 72) : 2 ≤ dist w i ∧ dist w i ≤ 69 := by
  obtain ⟨c0, c1, c2, c3, c4, c5, c6, c7, c8, c9⟩ := hw.at h0 h1
  unfold dist
  split <;> omega
theorem lat_b {w : Int → Int} (hw : WF w) {i : Int} (h0 : 0 ≤ i) (h1 : i < w 72) : 0 ≤ lat w i ∧ lat w i ≤ 9 := by
  obtain ⟨c0, c1, c2, c3, c4, c5, c6, c7, c8, c9⟩ := hw.at h0 h1
  unfold lat
  split <;> omega
theorem lim_b {w : Int → Int} (hw : WF w) {i : Int} (h0 : 0 ≤ i) (h1 : i < w 72) : 1 ≤ lim w i ∧ lim w i ≤ 60 := by
  obtain ⟨c0, c1, c2, c3, c4, c5, c6, c7, c8, c9⟩ := hw.at h0 h1
  unfold lim
  split <;> omega
theorem byK_b {w : Int → Int} (hw : WF w) {i n : Int} (h0 : 0 ≤ i) (h1 : i < w 72) (hn : 0 ≤ n) : 0 ≤ byK w i n ∧ byK w i n ≤ n + 1 := by
  obtain ⟨c0, c1, c2, c3, c4, c5, c6, c7, c8, c9⟩ := hw.at h0 h1
  unfold byK
  split
  · omega
  · split <;> omega
theorem ediv_le {a d : Int} (ha : 0 ≤ a) (hd : 1 ≤ d) : 0 ≤ a / d ∧ a / d ≤ a := ⟨Int.ediv_nonneg ha (by omega), Int.ediv_le_self d ha⟩
theorem asked_b {w : Int → Int} (hw : WF w) {i t : Int} (h0 : 0 ≤ i) (h1 : i < w 72) (ht : 0 ≤ t) : 0 ≤ asked w i t ∧ asked w i t ≤ t + 80 := by
  have d1 := dist_b hw h0 h1
  have l1 := lat_b hw h0 h1
  unfold asked
  split
  · omega
  · have e := ediv_le (a := t + lat w i + dist w i - 1) (d := dist w i) (by omega) (by omega)
    have b := byK_b hw h0 h1 e.1
    omega
theorem owed_b {w : Int → Int} (hw : WF w) {i t : Int} (h0 : 0 ≤ i) (h1 : i < w 72) (ht : 0 ≤ t) : 0 ≤ owed w i t ∧ owed w i t ≤ t + 80 := by
  have d1 := dist_b hw h0 h1
  have l1 := lat_b hw h0 h1
  have l2 := lim_b hw h0 h1
  unfold owed
  split
  · omega
  · have e := ediv_le (a := t + lat w i - lim w i) (d := dist w i) (by omega) (by omega)
    have b := byK_b hw h0 h1 (n := (t + lat w i - lim w i) / dist w i + 1) (by omega)
    omega
section RB
variable {E : XE} {h : Mem} {w : Int → Int}
theorem sM_in {Q : Int32 → Mem → Prop} {a b c : Int} (ha : -9223372036854775808 ≤ a ∧ a < 9223372036854775808) (hb : -9223372036854775808 ≤ b ∧ b < 9223372036854775808) (hc : -9223372036854775808 ≤ c ∧ c < 9223372036854775808)
    (hq : Q (zI (if b ≤ a ∧ a ≤ c then 1 else 0)) h) : CALLI E mM_in [.long (zL a), .long (zL b), .long (zL c)] h Q := by
  refine fM_in ?_
  simp (disch := omega) only [zI_add, zI_sub, zI_mul, zI_neg, zI_lt, zI_le, zI_eq, zI_div, zI_rem, ix_zI, inb_zI, nz_zI, imax_zI, imin_zI, c_t, nb01.1, nb01.2, zl_0, zl_1, zl_2, zl_3, zl_4, zl_5, zl_6, zl_7, zl_8, zl_9, zl_10, zl_11, zl_12, zl_13, zl_14, zl_15, zl_16, zl_17, zl_18, zl_19, zl_20, zl_24, zl_30, zl_31, zl_36, zl_42, zl_44, zl_48, zl_57, zl_58, zl_59, zl_60, zl_61, zl_62, zl_63, zl_64, zl_72, zl_73, zl_96, zl_99, zl_100, zl_104, zl_107, zl_111, zl_114, zl_116, zl_120, zl_200, zl_255, zl_256, zl_360, zl_600, zl_800, zl_1000, zl_2000, zI_L, lg_ltz, lg_gtz, zL_add, zL_sub, zL_mul, zL_div, zL_rem, nzL_zL, zm_0, zm_1, zm_2, zm_5, zm_8, zm_9, zm_15, zm_16, zm_11, zm_20, zm_59, zm_60, zm_96, zm_99, zm_255, zm_600, zm_2147483647, zm_4000000000000000000, zm_3, zm_48, zm_57]
  split at hq
  · refine ⟨fun z => by omega, fun _ => ⟨fun z => by omega, fun _ => hq⟩⟩
  · exact ⟨fun _ => hq, fun z => ⟨fun _ => hq, fun z2 => by omega⟩⟩
theorem sM_isTask {Q : Int32 → Mem → Prop} {t : Int} (hm : RW (h 61) w) (hw : WF w) (ht : -2147483648 ≤ t ∧ t < 2147483648) (hq : Q (zI (if 0 ≤ t ∧ t < w 72 then 1 else 0)) h) : CALLI E mM_isTask [.ref 60, .int (zI t)] h Q := by
  refine fM_isTask ?_
  have w72 := hw.1
  simp (disch := omega) only [zI_add, zI_sub, zI_mul, zI_neg, zI_lt, zI_le, zI_eq, zI_div, zI_rem, ix_zI, inb_zI, nz_zI, imax_zI, imin_zI, c_t, nb01.1, nb01.2, zl_0, zl_1, zl_2, zl_3, zl_4, zl_5, zl_6, zl_7, zl_8, zl_9, zl_10, zl_11, zl_12, zl_13, zl_14, zl_15, zl_16, zl_17, zl_18, zl_19, zl_20, zl_24, zl_30, zl_31, zl_36, zl_42, zl_44, zl_48, zl_57, zl_58, zl_59, zl_60, zl_61, zl_62, zl_63, zl_64, zl_72, zl_73, zl_96, zl_99, zl_100, zl_104, zl_107, zl_111, zl_114, zl_116, zl_120, zl_200, zl_255, zl_256, zl_360, zl_600, zl_800, zl_1000, zl_2000, zI_L, lg_ltz, lg_gtz, zL_add, zL_sub, zL_mul, zL_div, zL_rem, nzL_zL, zm_0, zm_1, zm_2, zm_5, zm_8, zm_9, zm_15, zm_16, zm_11, zm_20, zm_59, zm_60, zm_96, zm_99, zm_255, zm_600, zm_2147483647, zm_4000000000000000000, zm_3, zm_48, zm_57, hm _]
  refine sM_in (by omega) (by omega) (by omega) ?_
  have e : (0 ≤ t ∧ t ≤ w 72 - 1) ↔ (0 ≤ t ∧ t < w 72) := by omega
  simp only [e]
  split at hq <;> simp only [*, if_true, if_false, zI_add, zI_sub, zI_mul, zI_neg, zI_lt, zI_le, zI_eq, zI_div, zI_rem, ix_zI, inb_zI, nz_zI, imax_zI, imin_zI, c_t, nb01.1, nb01.2, zl_0, zl_1, zl_2, zl_3, zl_4, zl_5, zl_6, zl_7, zl_8, zl_9, zl_10, zl_11, zl_12, zl_13, zl_14, zl_15, zl_16, zl_17, zl_18, zl_19, zl_20, zl_24, zl_30, zl_31, zl_36, zl_42, zl_44, zl_48, zl_57, zl_58, zl_59, zl_60, zl_61, zl_62, zl_63, zl_64, zl_72, zl_73, zl_96, zl_99, zl_100, zl_104, zl_107, zl_111, zl_114, zl_116, zl_120, zl_200, zl_255, zl_256, zl_360, zl_600, zl_800, zl_1000, zl_2000] <;> exact hq
theorem sM_isOn {Q : Int32 → Mem → Prop} {t : Int} (hm : RW (h 61) w) (hw : WF w) (h0 : 0 ≤ t) (h1 : t < 6) (hq : Q (zI (if w (42 + t) = 1 then 1 else 0)) h) : CALLI E mM_isOn [.ref 60, .int (zI t)] h Q := by
  refine fM_isOn ?_
  have b := hw.all (i := 42 + t) (by omega) (by omega)
  simp (disch := omega) only [zI_add, zI_sub, zI_mul, zI_neg, zI_lt, zI_le, zI_eq, zI_div, zI_rem, ix_zI, inb_zI, nz_zI, imax_zI, imin_zI, c_t, nb01.1, nb01.2, zl_0, zl_1, zl_2, zl_3, zl_4, zl_5, zl_6, zl_7, zl_8, zl_9, zl_10, zl_11, zl_12, zl_13, zl_14, zl_15, zl_16, zl_17, zl_18, zl_19, zl_20, zl_24, zl_30, zl_31, zl_36, zl_42, zl_44, zl_48, zl_57, zl_58, zl_59, zl_60, zl_61, zl_62, zl_63, zl_64, zl_72, zl_73, zl_96, zl_99, zl_100, zl_104, zl_107, zl_111, zl_114, zl_116, zl_120, zl_200, zl_255, zl_256, zl_360, zl_600, zl_800, zl_1000, zl_2000, hm _]
  split at hq
  · exact ⟨fun z => absurd (by assumption) z, fun _ => hq⟩
  · exact ⟨fun _ => hq, fun z => absurd z (by assumption)⟩
theorem sM_distance {Q : Int32 → Mem → Prop} {t : Int} (hm : RW (h 61) w) (hw : WF w) (h0 : 0 ≤ t) (h1 : t < w 72) (hq : Q (zI (dist w t)) h) : CALLI E mM_distance [.ref 60, .int (zI t)] h Q := by
  refine fM_distance ?_
  obtain ⟨c0, c1, c2, c3, c4, c5, c6, c7, c8, c9⟩ := hw.at h0 h1
  simp (disch := omega) only [zI_add, zI_sub, zI_mul, zI_neg, zI_lt, zI_le, zI_eq, zI_div, zI_rem, ix_zI, inb_zI, nz_zI, imax_zI, imin_zI, c_t, nb01.1, nb01.2, zl_0, zl_1, zl_2, zl_3, zl_4, zl_5, zl_6, zl_7, zl_8, zl_9, zl_10, zl_11, zl_12, zl_13, zl_14, zl_15, zl_16, zl_17, zl_18, zl_19, zl_20, zl_24, zl_30, zl_31, zl_36, zl_42, zl_44, zl_48, zl_57, zl_58, zl_59, zl_60, zl_61, zl_62, zl_63, zl_64, zl_72, zl_73, zl_96, zl_99, zl_100, zl_104, zl_107, zl_111, zl_114, zl_116, zl_120, zl_200, zl_255, zl_256, zl_360, zl_600, zl_800, zl_1000, zl_2000, hm _]
  unfold dist at hq
  refine ⟨fun z => ?_, fun z => ⟨fun z2 => ?_, fun z2 => ?_⟩⟩
  · rw [if_pos (Or.inl z)] at hq; exact hq
  · rw [if_neg (by omega)] at hq; exact hq
  · rw [if_pos (Or.inr z2)] at hq; exact hq
theorem sM_late {Q : Int32 → Mem → Prop} {t : Int} (hm : RW (h 61) w) (hw : WF w) (h0 : 0 ≤ t) (h1 : t < w 72) (hq : Q (zI (lat w t)) h) : CALLI E mM_late [.ref 60, .int (zI t)] h Q := by
  refine fM_late ?_
  obtain ⟨c0, c1, c2, c3, c4, c5, c6, c7, c8, c9⟩ := hw.at h0 h1
  simp (disch := omega) only [zI_add, zI_sub, zI_mul, zI_neg, zI_lt, zI_le, zI_eq, zI_div, zI_rem, ix_zI, inb_zI, nz_zI, imax_zI, imin_zI, c_t, nb01.1, nb01.2, zl_0, zl_1, zl_2, zl_3, zl_4, zl_5, zl_6, zl_7, zl_8, zl_9, zl_10, zl_11, zl_12, zl_13, zl_14, zl_15, zl_16, zl_17, zl_18, zl_19, zl_20, zl_24, zl_30, zl_31, zl_36, zl_42, zl_44, zl_48, zl_57, zl_58, zl_59, zl_60, zl_61, zl_62, zl_63, zl_64, zl_72, zl_73, zl_96, zl_99, zl_100, zl_104, zl_107, zl_111, zl_114, zl_116, zl_120, zl_200, zl_255, zl_256, zl_360, zl_600, zl_800, zl_1000, zl_2000, hm _]
  unfold lat at hq
  refine ⟨fun z => ?_, fun z => ⟨fun z2 => ?_, fun z2 => ?_⟩⟩
  · rw [if_pos (Or.inl z)] at hq; exact hq
  · rw [if_neg (by omega)] at hq; exact hq
  · rw [if_pos (Or.inr z2)] at hq; exact hq
theorem sM_limit {Q : Int32 → Mem → Prop} {t : Int} (hm : RW (h 61) w) (hw : WF w) (h0 : 0 ≤ t) (h1 : t < w 72) (hq : Q (zI (lim w t)) h) : CALLI E mM_limit [.ref 60, .int (zI t)] h Q := by
  refine fM_limit ?_
  obtain ⟨c0, c1, c2, c3, c4, c5, c6, c7, c8, c9⟩ := hw.at h0 h1
  simp (disch := omega) only [zI_add, zI_sub, zI_mul, zI_neg, zI_lt, zI_le, zI_eq, zI_div, zI_rem, ix_zI, inb_zI, nz_zI, imax_zI, imin_zI, c_t, nb01.1, nb01.2, zl_0, zl_1, zl_2, zl_3, zl_4, zl_5, zl_6, zl_7, zl_8, zl_9, zl_10, zl_11, zl_12, zl_13, zl_14, zl_15, zl_16, zl_17, zl_18, zl_19, zl_20, zl_24, zl_30, zl_31, zl_36, zl_42, zl_44, zl_48, zl_57, zl_58, zl_59, zl_60, zl_61, zl_62, zl_63, zl_64, zl_72, zl_73, zl_96, zl_99, zl_100, zl_104, zl_107, zl_111, zl_114, zl_116, zl_120, zl_200, zl_255, zl_256, zl_360, zl_600, zl_800, zl_1000, zl_2000, hm _]
  unfold lim at hq
  refine ⟨fun z => ?_, fun z => ?_⟩
  · rw [if_neg z] at hq; exact hq
  · rw [if_pos z] at hq; exact hq
theorem sM_byKind {Q : Int32 → Mem → Prop} {t n : Int} (hm : RW (h 61) w) (hw : WF w) (h0 : 0 ≤ t) (h1 : t < w 72) (hn : 0 ≤ n ∧ n < 2000000000) (hq : Q (zI (byK w t n)) h) : CALLI E mM_byKind [.ref 60, .int (zI t), .int (zI n)] h Q := by
  refine fM_byKind ?_
  obtain ⟨c0, c1, c2, c3, c4, c5, c6, c7, c8, c9⟩ := hw.at h0 h1
  simp (disch := omega) only [zI_add, zI_sub, zI_mul, zI_neg, zI_lt, zI_le, zI_eq, zI_div, zI_rem, ix_zI, inb_zI, nz_zI, imax_zI, imin_zI, c_t, nb01.1, nb01.2, zl_0, zl_1, zl_2, zl_3, zl_4, zl_5, zl_6, zl_7, zl_8, zl_9, zl_10, zl_11, zl_12, zl_13, zl_14, zl_15, zl_16, zl_17, zl_18, zl_19, zl_20, zl_24, zl_30, zl_31, zl_36, zl_42, zl_44, zl_48, zl_57, zl_58, zl_59, zl_60, zl_61, zl_62, zl_63, zl_64, zl_72, zl_73, zl_96, zl_99, zl_100, zl_104, zl_107, zl_111, zl_114, zl_116, zl_120, zl_200, zl_255, zl_256, zl_360, zl_600, zl_800, zl_1000, zl_2000, hm _]
  unfold byK at hq
  refine ⟨fun z => ⟨fun z2 => ?_, fun z2 => ?_⟩, fun z => ?_⟩
  · rw [if_neg z, if_neg z2] at hq; exact hq
  · rw [if_neg z, if_pos z2] at hq; exact hq
  · rw [if_pos z] at hq; exact hq
theorem sM_askedOf {Q : Int32 → Mem → Prop} {t n : Int} (hm : RW (h 61) w) (hw : WF w) (h0 : 0 ≤ t) (h1 : t < w 72) (hn : 0 ≤ n ∧ n < 1000000000) (hq : Q (zI (asked w t n)) h) : CALLI E mM_askedOf [.ref 60, .int (zI t), .int (zI n)] h Q := by
  refine fM_askedOf ?_
  have d1 := dist_b hw h0 h1
  have l1 := lat_b hw h0 h1
  unfold asked at hq
  simp (disch := omega) only [zI_add, zI_sub, zI_mul, zI_neg, zI_lt, zI_le, zI_eq, zI_div, zI_rem, ix_zI, inb_zI, nz_zI, imax_zI, imin_zI, c_t, nb01.1, nb01.2, zl_0, zl_1, zl_2, zl_3, zl_4, zl_5, zl_6, zl_7, zl_8, zl_9, zl_10, zl_11, zl_12, zl_13, zl_14, zl_15, zl_16, zl_17, zl_18, zl_19, zl_20, zl_24, zl_30, zl_31, zl_36, zl_42, zl_44, zl_48, zl_57, zl_58, zl_59, zl_60, zl_61, zl_62, zl_63, zl_64, zl_72, zl_73, zl_96, zl_99, zl_100, zl_104, zl_107, zl_111, zl_114, zl_116, zl_120, zl_200, zl_255, zl_256, zl_360, zl_600, zl_800, zl_1000, zl_2000]
  refine ⟨fun z => ?_, fun z => ?_⟩
  · rw [if_neg z] at hq
    refine sM_late hm hw h0 h1 (sM_distance hm hw h0 h1 (sM_distance hm hw h0 h1 ?_))
    have e := ediv_le (a := n + lat w t + dist w t - 1) (d := dist w t) (by omega) (by omega)
    simp (disch := omega) only [zI_add, zI_sub, zI_mul, zI_neg, zI_lt, zI_le, zI_eq, zI_div, zI_rem, ix_zI, inb_zI, nz_zI, imax_zI, imin_zI, c_t, nb01.1, nb01.2, zl_0, zl_1, zl_2, zl_3, zl_4, zl_5, zl_6, zl_7, zl_8, zl_9, zl_10, zl_11, zl_12, zl_13, zl_14, zl_15, zl_16, zl_17, zl_18, zl_19, zl_20, zl_24, zl_30, zl_31, zl_36, zl_42, zl_44, zl_48, zl_57, zl_58, zl_59, zl_60, zl_61, zl_62, zl_63, zl_64, zl_72, zl_73, zl_96, zl_99, zl_100, zl_104, zl_107, zl_111, zl_114, zl_116, zl_120, zl_200, zl_255, zl_256, zl_360, zl_600, zl_800, zl_1000, zl_2000]
    exact sM_byKind hm hw h0 h1 (by omega) hq
  · rw [if_pos z] at hq; exact hq
theorem sM_owedOf {Q : Int32 → Mem → Prop} {t n : Int} (hm : RW (h 61) w) (hw : WF w) (h0 : 0 ≤ t) (h1 : t < w 72) (hn : 0 ≤ n ∧ n < 1000000000) (hq : Q (zI (owed w t n)) h) : CALLI E mM_owedOf [.ref 60, .int (zI t), .int (zI n)] h Q := by
  refine fM_owedOf ?_
  have d1 := dist_b hw h0 h1
  have l1 := lat_b hw h0 h1
  have l2 := lim_b hw h0 h1
  unfold owed at hq
  refine sM_late hm hw h0 h1 (sM_limit hm hw h0 h1 ?_)
  simp (disch := omega) only [zI_add, zI_sub, zI_mul, zI_neg, zI_lt, zI_le, zI_eq, zI_div, zI_rem, ix_zI, inb_zI, nz_zI, imax_zI, imin_zI, c_t, nb01.1, nb01.2, zl_0, zl_1, zl_2, zl_3, zl_4, zl_5, zl_6, zl_7, zl_8, zl_9, zl_10, zl_11, zl_12, zl_13, zl_14, zl_15, zl_16, zl_17, zl_18, zl_19, zl_20, zl_24, zl_30, zl_31, zl_36, zl_42, zl_44, zl_48, zl_57, zl_58, zl_59, zl_60, zl_61, zl_62, zl_63, zl_64, zl_72, zl_73, zl_96, zl_99, zl_100, zl_104, zl_107, zl_111, zl_114, zl_116, zl_120, zl_200, zl_255, zl_256, zl_360, zl_600, zl_800, zl_1000, zl_2000]
  refine ⟨fun z => ?_, fun z => ⟨fun z2 => ?_, fun z2 => ?_⟩⟩
  · rw [if_pos (Or.inl z)] at hq; exact hq
  · rw [if_neg (by omega)] at hq
    refine sM_distance hm hw h0 h1 ?_
    have e := ediv_le (a := n + lat w t - lim w t) (d := dist w t) (by omega) (by omega)
    simp (disch := omega) only [zI_add, zI_sub, zI_mul, zI_neg, zI_lt, zI_le, zI_eq, zI_div, zI_rem, ix_zI, inb_zI, nz_zI, imax_zI, imin_zI, c_t, nb01.1, nb01.2, zl_0, zl_1, zl_2, zl_3, zl_4, zl_5, zl_6, zl_7, zl_8, zl_9, zl_10, zl_11, zl_12, zl_13, zl_14, zl_15, zl_16, zl_17, zl_18, zl_19, zl_20, zl_24, zl_30, zl_31, zl_36, zl_42, zl_44, zl_48, zl_57, zl_58, zl_59, zl_60, zl_61, zl_62, zl_63, zl_64, zl_72, zl_73, zl_96, zl_99, zl_100, zl_104, zl_107, zl_111, zl_114, zl_116, zl_120, zl_200, zl_255, zl_256, zl_360, zl_600, zl_800, zl_1000, zl_2000]
    exact sM_byKind hm hw h0 h1 (by omega) hq
  · rw [if_pos (Or.inr (by omega))] at hq; exact hq
end RB
