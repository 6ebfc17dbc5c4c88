/-! ===== the class's tasks ===== -/
def mostJ (w : Int → Int) (i : Int) : Int := if w (30 + i) = 4 then w (36 + i) + 1 else 2147483647
def moreJ (w : Int → Int) (i : Int) : Int := if w (30 + i) = 3 then 1 else 0
/-- rows of an object of tasks (0 the object's own numbers) hold w -/
def DR (g : Nat → Nat → Int32) (w : Int → Int) : Prop := g 0 0 = zI (w 72) ∧ g 0 1 = zI (onM w) ∧
  (∀ i : Int, 0 ≤ i → i < w 72 → (g 1 i.toNat = zI (w i) ∧ g 2 i.toNat = zI (w (6 + i)) ∧ g 3 i.toNat = zI (w (12 + i)) ∧ g 4 i.toNat = zI (w (18 + i)) ∧ g 5 i.toNat = zI (w (24 + i)) ∧ g 6 i.toNat = zI (w (30 + i)) ∧ g 7 i.toNat = zI (w (36 + i))) ∧
    (∀ l : Int, 0 ≤ l → l < 4 → g 8 (i * 4 + l).toNat = zI (w (48 + 4 * i + l))) ∧ g 9 i.toNat = zI (dist w i) ∧ g 10 i.toNat = zI (lat w i) ∧ g 11 i.toNat = zI (lim w i) ∧ g 12 i.toNat = zI (mostJ w i) ∧ g 13 i.toNat = zI (moreJ w i)) ∧
  (∀ i : Int, w 72 ≤ i → i < 6 → (g 4 i.toNat = zI 0 ∧ g 5 i.toNat = zI 0 ∧ g 6 i.toNat = zI 0 ∧ g 7 i.toNat = zI 0) ∧ ∀ l : Int, 0 ≤ l → l < 4 → g 8 (i * 4 + l).toNat = zI 0)
def DW (h : Mem) (p : Nat) (w : Int → Int) : Prop := DR (fun k => h (p + k)) w
def isP (p : Nat) : Prop := p = 1 ∨ p = 15 ∨ p = 29
theorem DW.of {h h' : Mem} {p : Nat} {w : Int → Int} (hd : DW h p w) (hq : ∀ k, k ≤ 13 → h' (p + k) = h (p + k)) : DW h' p w := by
  unfold DW DR at hd ⊢
  simp only [hq 0 (by omega), hq 1 (by omega), hq 2 (by omega), hq 3 (by omega), hq 4 (by omega), hq 5 (by omega), hq 6 (by omega), hq 7 (by omega), hq 8 (by omega), hq 9 (by omega), hq 10 (by omega), hq 11 (by omega), hq 12 (by omega), hq 13 (by omega)]
  exact hd
theorem DW.n {h : Mem} {p : Nat} {w : Int → Int} (hd : DW h p w) : h p 0 = zI (w 72) := hd.1
theorem DW.on {h : Mem} {p : Nat} {w : Int → Int} (hd : DW h p w) : h p 1 = zI (onM w) := hd.2.1
section DWr
variable {h : Mem} {p : Nat} {w : Int → Int} {i : Int}
theorem DW.r1 (hd : DW h p w) (h0 : 0 ≤ i) (h1 : i < w 72) : h (p + 1) i.toNat = zI (w i) := (hd.2.2.1 i h0 h1).1.1
theorem DW.r2 (hd : DW h p w) (h0 : 0 ≤ i) (h1 : i < w 72) : h (p + 2) i.toNat = zI (w (6 + i)) := (hd.2.2.1 i h0 h1).1.2.1
theorem DW.r3 (hd : DW h p w) (h0 : 0 ≤ i) (h1 : i < w 72) : h (p + 3) i.toNat = zI (w (12 + i)) := (hd.2.2.1 i h0 h1).1.2.2.1
theorem DW.r4 (hd : DW h p w) (h0 : 0 ≤ i) (h1 : i < w 72) : h (p + 4) i.toNat = zI (w (18 + i)) := (hd.2.2.1 i h0 h1).1.2.2.2.1
theorem DW.r5 (hd : DW h p w) (h0 : 0 ≤ i) (h1 : i < w 72) : h (p + 5) i.toNat = zI (w (24 + i)) := (hd.2.2.1 i h0 h1).1.2.2.2.2.1
theorem DW.r6 (hd : DW h p w) (h0 : 0 ≤ i) (h1 : i < w 72) : h (p + 6) i.toNat = zI (w (30 + i)) := (hd.2.2.1 i h0 h1).1.2.2.2.2.2.1
theorem DW.r7 (hd : DW h p w) (h0 : 0 ≤ i) (h1 : i < w 72) : h (p + 7) i.toNat = zI (w (36 + i)) := (hd.2.2.1 i h0 h1).1.2.2.2.2.2.2
theorem DW.r8 (hd : DW h p w) (h0 : 0 ≤ i) (h1 : i < w 72) {l : Int} (l0 : 0 ≤ l) (l1 : l < 4) : h (p + 8) (i * 4 + l).toNat = zI (w (48 + 4 * i + l)) := (hd.2.2.1 i h0 h1).2.1 l l0 l1
theorem DW.r9 (hd : DW h p w) (h0 : 0 ≤ i) (h1 : i < w 72) : h (p + 9) i.toNat = zI (dist w i) := (hd.2.2.1 i h0 h1).2.2.1
theorem DW.r10 (hd : DW h p w) (h0 : 0 ≤ i) (h1 : i < w 72) : h (p + 10) i.toNat = zI (lat w i) := (hd.2.2.1 i h0 h1).2.2.2.1
theorem DW.r11 (hd : DW h p w) (h0 : 0 ≤ i) (h1 : i < w 72) : h (p + 11) i.toNat = zI (lim w i) := (hd.2.2.1 i h0 h1).2.2.2.2.1
theorem DW.r12 (hd : DW h p w) (h0 : 0 ≤ i) (h1 : i < w 72) : h (p + 12) i.toNat = zI (mostJ w i) := (hd.2.2.1 i h0 h1).2.2.2.2.2.1
theorem DW.r13 (hd : DW h p w) (h0 : 0 ≤ i) (h1 : i < w 72) : h (p + 13) i.toNat = zI (moreJ w i) := (hd.2.2.1 i h0 h1).2.2.2.2.2.2
end DWr
set_option maxRecDepth 100000 in
theorem bit_k : ∀ m, m < 64 → ∀ k, k < 6 → (zI (m : Nat) &&& shl (zI 1) (zI (k : Nat)) = zI 0 ↔ m.testBit k = false) := by decide +kernel
theorem bit_z {m : Nat} {k : Int} (hm : m < 64) (h0 : 0 ≤ k) (h1 : k < 6) : (zI (m : Nat) &&& shl (zI 1) (zI k) = zI 0) ↔ m.testBit k.toNat = false := by
  have := bit_k m hm k.toNat (by omega)
  rw [show ((k.toNat : Nat) : Int) = k by omega] at this
  exact this
theorem most_b {w : Int → Int} (hw : WF w) {i : Int} (h0 : 0 ≤ i) (h1 : i < w 72) : 1 ≤ mostJ w i ∧ mostJ w i ≤ 2147483647 := by
  obtain ⟨c0, c1, c2, c3, c4, c5, c6, c7, c8, c9⟩ := hw.at h0 h1
  unfold mostJ
  split <;> omega
theorem byK_eq {w : Int → Int} {i n : Int} (hn : n ≤ 2147483647) : min n (mostJ w i) + moreJ w i = byK w i n := by
  unfold mostJ moreJ byK
  by_cases a : w (30 + i) = 3
  · rw [if_neg (by omega), if_pos a, if_pos a]; omega
  · rw [if_neg a, if_neg a]
    split <;> omega
section CD
variable {E : XE} {h : Mem} {w : Int → Int} {p : Nat}
theorem sD_has {Q : Int32 → Mem → Prop} {t : Int} (hp : isP p) (hd : DW h p w) (hw : WF w) (ht : -2147483648 ≤ t ∧ t < 2147483648) (hq : Q (zI (if 0 ≤ t ∧ t < w 72 then 1 else 0)) h) : CALLI E mD_has [.ref p, .int (zI t)] h Q := by
  refine fD_has hp ?_
  have w72 := hw.1
  simp (disch := omega) only [zI_add, zI_sub, zI_mul, zI_neg, zI_lt, zI_le, zI_eq, zI_div, zI_rem, ix_zI, inb_zI, nz_zI, imax_zI, imin_zI, c_t, nb01.1, nb01.2, zl_0, zl_1, zl_2, zl_3, zl_4, zl_5, zl_6, zl_7, zl_8, zl_9, zl_10, zl_11, zl_12, zl_13, zl_14, zl_15, zl_16, zl_17, zl_18, zl_19, zl_20, zl_24, zl_30, zl_31, zl_36, zl_42, zl_44, zl_48, zl_57, zl_58, zl_59, zl_60, zl_61, zl_62, zl_63, zl_64, zl_72, zl_73, zl_96, zl_99, zl_100, zl_104, zl_107, zl_111, zl_114, zl_116, zl_120, zl_200, zl_255, zl_256, zl_360, zl_600, zl_800, zl_1000, zl_2000, hd.n]
  refine ⟨fun z => ?_, fun z => ⟨fun z2 => ?_, fun z2 => ?_⟩⟩
  · rw [if_neg (by omega)] at hq; exact hq
  · rw [if_neg (by omega)] at hq; exact hq
  · rw [if_pos (by omega)] at hq; exact hq
theorem sD_isOn {Q : Int32 → Mem → Prop} {t : Int} (hp : isP p) (hd : DW h p w) (hw : WF w) (ht : -2147483648 ≤ t ∧ t < 2147483648) (hq : Q (zI (if 0 ≤ t ∧ t < w 72 ∧ w (42 + t) = 1 then 1 else 0)) h) : CALLI E mD_isOn [.ref p, .int (zI t)] h Q := by
  refine fD_isOn hp ?_
  refine sD_has hp hd hw ht ?_
  have w72 := hw.1
  by_cases c : 0 ≤ t ∧ t < w 72
  · rw [if_pos c]
    have ob := onM_bit hw c.1 c.2
    have lt := onM_lt hw
    simp (disch := omega) only [zI_add, zI_sub, zI_mul, zI_neg, zI_lt, zI_le, zI_eq, zI_div, zI_rem, ix_zI, inb_zI, nz_zI, imax_zI, imin_zI, c_t, nb01.1, nb01.2, zl_0, zl_1, zl_2, zl_3, zl_4, zl_5, zl_6, zl_7, zl_8, zl_9, zl_10, zl_11, zl_12, zl_13, zl_14, zl_15, zl_16, zl_17, zl_18, zl_19, zl_20, zl_24, zl_30, zl_31, zl_36, zl_42, zl_44, zl_48, zl_57, zl_58, zl_59, zl_60, zl_61, zl_62, zl_63, zl_64, zl_72, zl_73, zl_96, zl_99, zl_100, zl_104, zl_107, zl_111, zl_114, zl_116, zl_120, zl_200, zl_255, zl_256, zl_360, zl_600, zl_800, zl_1000, zl_2000, hd.on, bit_z]
    rw [ob]
    refine ⟨fun z => by omega, fun _ => ⟨fun z2 => ?_, fun z2 => ?_⟩⟩
    · rw [if_neg (by simp at z2; omega)] at hq; exact hq
    · rw [if_pos (by simp at z2; omega)] at hq; exact hq
  · rw [if_neg c]
    rw [if_neg (by omega)] at hq
    simp (disch := omega) only [zI_add, zI_sub, zI_mul, zI_neg, zI_lt, zI_le, zI_eq, zI_div, zI_rem, ix_zI, inb_zI, nz_zI, imax_zI, imin_zI, c_t, nb01.1, nb01.2, zl_0, zl_1, zl_2, zl_3, zl_4, zl_5, zl_6, zl_7, zl_8, zl_9, zl_10, zl_11, zl_12, zl_13, zl_14, zl_15, zl_16, zl_17, zl_18, zl_19, zl_20, zl_24, zl_30, zl_31, zl_36, zl_42, zl_44, zl_48, zl_57, zl_58, zl_59, zl_60, zl_61, zl_62, zl_63, zl_64, zl_72, zl_73, zl_96, zl_99, zl_100, zl_104, zl_107, zl_111, zl_114, zl_116, zl_120, zl_200, zl_255, zl_256, zl_360, zl_600, zl_800, zl_1000, zl_2000]
    exact ⟨fun _ => hq, fun z => absurd trivial z⟩
theorem sD_asked {Q : Int32 → Mem → Prop} {t n : Int} (hp : isP p) (hd : DW h p w) (hw : WF w) (h0 : 0 ≤ t) (h1 : t < w 72) (hn : 0 ≤ n ∧ n < 1000000000) (hq : Q (zI (asked w t n)) h) : CALLI E mD_askedWithin [.ref p, .int (zI t), .int (zI n)] h Q := by
  refine fD_askedWithin hp ?_
  have d1 := dist_b hw h0 h1
  have l1 := lat_b hw h0 h1
  have m1 := most_b hw h0 h1
  have w72 := hw.1
  simp (disch := omega) only [zI_add, zI_sub, zI_mul, zI_neg, zI_lt, zI_le, zI_eq, zI_div, zI_rem, ix_zI, inb_zI, nz_zI, imax_zI, imin_zI, c_t, nb01.1, nb01.2, zl_0, zl_1, zl_2, zl_3, zl_4, zl_5, zl_6, zl_7, zl_8, zl_9, zl_10, zl_11, zl_12, zl_13, zl_14, zl_15, zl_16, zl_17, zl_18, zl_19, zl_20, zl_24, zl_30, zl_31, zl_36, zl_42, zl_44, zl_48, zl_57, zl_58, zl_59, zl_60, zl_61, zl_62, zl_63, zl_64, zl_72, zl_73, zl_96, zl_99, zl_100, zl_104, zl_107, zl_111, zl_114, zl_116, zl_120, zl_200, zl_255, zl_256, zl_360, zl_600, zl_800, zl_1000, zl_2000, hd.r9, hd.r10, hd.r12, hd.r13]
  refine ⟨fun z => ?_, fun z => ⟨fun _ => ?_, fun z2 => by omega⟩⟩
  · unfold asked at hq; rw [if_pos (by omega)] at hq; exact hq
  · have e := ediv_le (a := n + lat w t + dist w t - 1) (d := dist w t) (by omega) (by omega)
    simp (disch := omega) only [zI_add, zI_sub, zI_mul, zI_neg, zI_lt, zI_le, zI_eq, zI_div, zI_rem, ix_zI, inb_zI, nz_zI, imax_zI, imin_zI, c_t, nb01.1, nb01.2, zl_0, zl_1, zl_2, zl_3, zl_4, zl_5, zl_6, zl_7, zl_8, zl_9, zl_10, zl_11, zl_12, zl_13, zl_14, zl_15, zl_16, zl_17, zl_18, zl_19, zl_20, zl_24, zl_30, zl_31, zl_36, zl_42, zl_44, zl_48, zl_57, zl_58, zl_59, zl_60, zl_61, zl_62, zl_63, zl_64, zl_72, zl_73, zl_96, zl_99, zl_100, zl_104, zl_107, zl_111, zl_114, zl_116, zl_120, zl_200, zl_255, zl_256, zl_360, zl_600, zl_800, zl_1000, zl_2000]
    rw [byK_eq (by omega)]
    unfold asked at hq; rw [if_neg (by omega)] at hq; exact hq
theorem sD_owed {Q : Int32 → Mem → Prop} {t n : Int} (hp : isP p) (hd : DW h p w) (hw : WF w) (h0 : 0 ≤ t) (h1 : t < w 72) (hn : 0 ≤ n ∧ n < 1000000000) (hq : Q (zI (owed w t n)) h) : CALLI E mD_owedWithin [.ref p, .int (zI t), .int (zI n)] h Q := by
  refine fD_owedWithin hp ?_
  have d1 := dist_b hw h0 h1
  have l1 := lat_b hw h0 h1
  have l2 := lim_b hw h0 h1
  have m1 := most_b hw h0 h1
  have w72 := hw.1
  simp (disch := omega) only [zI_add, zI_sub, zI_mul, zI_neg, zI_lt, zI_le, zI_eq, zI_div, zI_rem, ix_zI, inb_zI, nz_zI, imax_zI, imin_zI, c_t, nb01.1, nb01.2, zl_0, zl_1, zl_2, zl_3, zl_4, zl_5, zl_6, zl_7, zl_8, zl_9, zl_10, zl_11, zl_12, zl_13, zl_14, zl_15, zl_16, zl_17, zl_18, zl_19, zl_20, zl_24, zl_30, zl_31, zl_36, zl_42, zl_44, zl_48, zl_57, zl_58, zl_59, zl_60, zl_61, zl_62, zl_63, zl_64, zl_72, zl_73, zl_96, zl_99, zl_100, zl_104, zl_107, zl_111, zl_114, zl_116, zl_120, zl_200, zl_255, zl_256, zl_360, zl_600, zl_800, zl_1000, zl_2000, hd.r9, hd.r10, hd.r11, hd.r12, hd.r13]
  refine ⟨fun z => ?_, fun z => ⟨fun z2 => ?_, fun z2 => ⟨fun _ => ?_, fun z3 => by omega⟩⟩⟩
  · unfold owed at hq; rw [if_pos (by omega)] at hq; exact hq
  · unfold owed at hq; rw [if_pos (by omega)] at hq; exact hq
  · have e := ediv_le (a := n + lat w t - lim w t) (d := dist w t) (by omega) (by omega)
    simp (disch := omega) only [zI_add, zI_sub, zI_mul, zI_neg, zI_lt, zI_le, zI_eq, zI_div, zI_rem, ix_zI, inb_zI, nz_zI, imax_zI, imin_zI, c_t, nb01.1, nb01.2, zl_0, zl_1, zl_2, zl_3, zl_4, zl_5, zl_6, zl_7, zl_8, zl_9, zl_10, zl_11, zl_12, zl_13, zl_14, zl_15, zl_16, zl_17, zl_18, zl_19, zl_20, zl_24, zl_30, zl_31, zl_36, zl_42, zl_44, zl_48, zl_57, zl_58, zl_59, zl_60, zl_61, zl_62, zl_63, zl_64, zl_72, zl_73, zl_96, zl_99, zl_100, zl_104, zl_107, zl_111, zl_114, zl_116, zl_120, zl_200, zl_255, zl_256, zl_360, zl_600, zl_800, zl_1000, zl_2000]
    rw [byK_eq (by omega)]
    unfold owed at hq; rw [if_neg (by omega)] at hq; exact hq
theorem sD_demand {Q : Int32 → Mem → Prop} {t : Int} (hp : isP p) (hd : DW h p w) (hw : WF w) (ht : 0 ≤ t ∧ t < 1000000000) (hq : Q (zI (dem w t)) h) : CALLI E mD_demandWithin [.ref p, .int (zI t)] h Q := by
  refine fD_demandWithin hp ?_
  have hn := hw.1
  have lt := onM_lt hw
  have key : ∀ (j k : Nat), (k : Int) + j = w 72 → WP E mD_demandWithin 4 [some (.ref p), some (.int (zI t)), some (.int (zI (sumT (fun i => if w (42 + i) = 1 then w i * owed w i t else 0) k))), some (.int (zI k))] [] h (qI Q) := by
    intro j
    induction j with
    | zero =>
      intro k hk
      refine fD_demandWithin_4 hp ?_
      simp (disch := omega) only [zI_add, zI_sub, zI_mul, zI_neg, zI_lt, zI_le, zI_eq, zI_div, zI_rem, ix_zI, inb_zI, nz_zI, imax_zI, imin_zI, c_t, nb01.1, nb01.2, zl_0, zl_1, zl_2, zl_3, zl_4, zl_5, zl_6, zl_7, zl_8, zl_9, zl_10, zl_11, zl_12, zl_13, zl_14, zl_15, zl_16, zl_17, zl_18, zl_19, zl_20, zl_24, zl_30, zl_31, zl_36, zl_42, zl_44, zl_48, zl_57, zl_58, zl_59, zl_60, zl_61, zl_62, zl_63, zl_64, zl_72, zl_73, zl_96, zl_99, zl_100, zl_104, zl_107, zl_111, zl_114, zl_116, zl_120, zl_200, zl_255, zl_256, zl_360, zl_600, zl_800, zl_1000, zl_2000, hd.n]
      refine ⟨fun _ => ?_, fun z => absurd (by omega) z⟩
      have : (w 72).toNat = k := by omega
      unfold dem at hq
      rw [this] at hq
      exact hq
    | succ j ih =>
      intro k hk
      refine fD_demandWithin_4 hp ?_
      have ob := onM_bit hw (i := k) (by omega) (by omega)
      simp (disch := omega) only [zI_add, zI_sub, zI_mul, zI_neg, zI_lt, zI_le, zI_eq, zI_div, zI_rem, ix_zI, inb_zI, nz_zI, imax_zI, imin_zI, c_t, nb01.1, nb01.2, zl_0, zl_1, zl_2, zl_3, zl_4, zl_5, zl_6, zl_7, zl_8, zl_9, zl_10, zl_11, zl_12, zl_13, zl_14, zl_15, zl_16, zl_17, zl_18, zl_19, zl_20, zl_24, zl_30, zl_31, zl_36, zl_42, zl_44, zl_48, zl_57, zl_58, zl_59, zl_60, zl_61, zl_62, zl_63, zl_64, zl_72, zl_73, zl_96, zl_99, zl_100, zl_104, zl_107, zl_111, zl_114, zl_116, zl_120, zl_200, zl_255, zl_256, zl_360, zl_600, zl_800, zl_1000, zl_2000, hd.n, hd.on, bit_z]
      rw [ob]
      have ih' := ih (k + 1) (by omega)
      unfold sumT at ih'
      refine ⟨fun z => by omega, fun z => ⟨fun z2 => ?_, fun z2 => ?_⟩⟩
      · rw [if_neg (by simpa using z2)] at ih'
        rw [Int.add_zero] at ih'
        exact ih'
      · rw [if_pos (by simpa using z2)] at ih'
        refine sD_owed hp hd hw (by omega) (by omega) ht ?_
        simp (disch := omega) only [zI_add, zI_sub, zI_mul, zI_neg, zI_lt, zI_le, zI_eq, zI_div, zI_rem, ix_zI, inb_zI, nz_zI, imax_zI, imin_zI, c_t, nb01.1, nb01.2, zl_0, zl_1, zl_2, zl_3, zl_4, zl_5, zl_6, zl_7, zl_8, zl_9, zl_10, zl_11, zl_12, zl_13, zl_14, zl_15, zl_16, zl_17, zl_18, zl_19, zl_20, zl_24, zl_30, zl_31, zl_36, zl_42, zl_44, zl_48, zl_57, zl_58, zl_59, zl_60, zl_61, zl_62, zl_63, zl_64, zl_72, zl_73, zl_96, zl_99, zl_100, zl_104, zl_107, zl_111, zl_114, zl_116, zl_120, zl_200, zl_255, zl_256, zl_360, zl_600, zl_800, zl_1000, zl_2000, hd.r1]
        exact ih'
  exact key (w 72).toNat 0 (by omega)
theorem sD_work {Q : Int32 → Mem → Prop} {m : Nat} {t : Int} (hp : isP p) (hd : DW h p w) (hw : WF w) (hm : m < 64) (ht : 0 ≤ t ∧ t < 1000000000) (hq : Q (zI (asksM w m t)) h) : CALLI E mD_workAsked [.ref p, .int (zI m), .int (zI t)] h Q := by
  refine fD_workAsked hp ?_
  have hn := hw.1
  have key : ∀ (j k : Nat), (k : Int) + j = w 72 → WP E mD_workAsked 5 [some (.ref p), some (.int (zI m)), some (.int (zI t)), some (.int (zI (sumT (fun i => if m.testBit i.toNat then w i * asked w i t else 0) k))), some (.int (zI k))] [] h (qI Q) := by
    intro j
    induction j with
    | zero =>
      intro k hk
      refine fD_workAsked_5 hp ?_
      simp (disch := omega) only [zI_add, zI_sub, zI_mul, zI_neg, zI_lt, zI_le, zI_eq, zI_div, zI_rem, ix_zI, inb_zI, nz_zI, imax_zI, imin_zI, c_t, nb01.1, nb01.2, zl_0, zl_1, zl_2, zl_3, zl_4, zl_5, zl_6, zl_7, zl_8, zl_9, zl_10, zl_11, zl_12, zl_13, zl_14, zl_15, zl_16, zl_17, zl_18, zl_19, zl_20, zl_24, zl_30, zl_31, zl_36, zl_42, zl_44, zl_48, zl_57, zl_58, zl_59, zl_60, zl_61, zl_62, zl_63, zl_64, zl_72, zl_73, zl_96, zl_99, zl_100, zl_104, zl_107, zl_111, zl_114, zl_116, zl_120, zl_200, zl_255, zl_256, zl_360, zl_600, zl_800, zl_1000, zl_2000, hd.n]
      refine ⟨fun _ => ?_, fun z => absurd (by omega) z⟩
      have : (w 72).toNat = k := by omega
      unfold asksM at hq
      rw [this] at hq
      exact hq
    | succ j ih =>
      intro k hk
      refine fD_workAsked_5 hp ?_
      simp (disch := omega) only [zI_add, zI_sub, zI_mul, zI_neg, zI_lt, zI_le, zI_eq, zI_div, zI_rem, ix_zI, inb_zI, nz_zI, imax_zI, imin_zI, c_t, nb01.1, nb01.2, zl_0, zl_1, zl_2, zl_3, zl_4, zl_5, zl_6, zl_7, zl_8, zl_9, zl_10, zl_11, zl_12, zl_13, zl_14, zl_15, zl_16, zl_17, zl_18, zl_19, zl_20, zl_24, zl_30, zl_31, zl_36, zl_42, zl_44, zl_48, zl_57, zl_58, zl_59, zl_60, zl_61, zl_62, zl_63, zl_64, zl_72, zl_73, zl_96, zl_99, zl_100, zl_104, zl_107, zl_111, zl_114, zl_116, zl_120, zl_200, zl_255, zl_256, zl_360, zl_600, zl_800, zl_1000, zl_2000, hd.n, bit_z]
      have ih' := ih (k + 1) (by omega)
      unfold sumT at ih'
      refine ⟨fun z => by omega, fun z => ⟨fun z2 => ?_, fun z2 => ?_⟩⟩
      · rw [if_neg (by rw [z2]; exact Bool.false_ne_true)] at ih'
        rw [Int.add_zero] at ih'
        exact ih'
      · rw [if_pos (by simpa using z2)] at ih'
        refine sD_asked hp hd hw (by omega) (by omega) ht ?_
        simp (disch := omega) only [zI_add, zI_sub, zI_mul, zI_neg, zI_lt, zI_le, zI_eq, zI_div, zI_rem, ix_zI, inb_zI, nz_zI, imax_zI, imin_zI, c_t, nb01.1, nb01.2, zl_0, zl_1, zl_2, zl_3, zl_4, zl_5, zl_6, zl_7, zl_8, zl_9, zl_10, zl_11, zl_12, zl_13, zl_14, zl_15, zl_16, zl_17, zl_18, zl_19, zl_20, zl_24, zl_30, zl_31, zl_36, zl_42, zl_44, zl_48, zl_57, zl_58, zl_59, zl_60, zl_61, zl_62, zl_63, zl_64, zl_72, zl_73, zl_96, zl_99, zl_100, zl_104, zl_107, zl_111, zl_114, zl_116, zl_120, zl_200, zl_255, zl_256, zl_360, zl_600, zl_800, zl_1000, zl_2000, hd.r1]
        exact ih'
  exact key (w 72).toNat 0 (by omega)
end CD
