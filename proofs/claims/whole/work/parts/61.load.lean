/-! ===== load, anew ===== -/
def cAnsL (c : Nat) (x : Int) : Int := if c = 0 then x else 4000000000000000000 + (c : Int)
def partS (a b p : Int) : Int := (if p = 0 then a else b) / gz a b
def mulA (w : Int → Int) : Int := mulS w (w 72).toNat
def loadS (w : Int → Int) (p : Int) : Int := partS (wrkS w (mulA w) (w 72).toNat) (mulA w) p
def anewS (w : Int → Int) : Int := if mulA w ≤ 2147483647 then mulA w else -9
theorem zL_of (n : Int) : Int64.ofInt n = zL n := rfl
section LO2
variable {E : XE} {h : Mem} {w : Int → Int} {s : St} {p : Nat}
theorem sC_refuseLong {Q : Int64 → Mem → Prop} {c : Nat} (ha : SA h s) (h1 : c ≠ 0) (h6 : c ≤ 6) (hq : ∀ h', SA h' (s.rfd c) → FA h h' → Q (zL (4000000000000000000 + (c : Int))) h') : CALLL E mC_refuseLong [.ref 0, .int (zI (-(c : Nat)))] h Q :=
  fC_refuseLong (sC_refuse ha h1 h6 fun h' a b => by
    have := hq h' a b
    simp (disch := omega) only [zI_L, lg_ltz, lg_gtz, zL_add, zL_sub, zL_mul, zL_div, zL_rem, nzL_zL, zm_0, zm_1, zm_2, zm_5, zm_8, zm_9, zm_15, zm_16, zm_11, zm_20, zm_59, zm_60, zm_96, zm_99, zm_255, zm_600, zm_2147483647, zm_4000000000000000000, zm_3, zm_48, zm_57]
    rw [show (4000000000000000000 : Int) - -(c : Int) = 4000000000000000000 + (c : Int) by omega]
    exact this)
theorem sC_finL {Q : Int64 → Mem → Prop} {P : Prop} {c : Nat} {x : Int} (ha : SA h s) (h6 : c ≤ 6) (hq : ∀ h', SA h' (s.rfd c) → FA h h' → Q (zL (cAnsL c x)) h') (hP : c = 0 → (∀ h', Off cs h h' → Q (zL x) h') → P) :
    (zI (-(c : Nat)) = 0 → P) ∧ (¬ zI (-(c : Nat)) = 0 → CALLL E mC_refuseLong [.ref 0, .int (zI (-(c : Nat)))] h Q) := by
  rw [zl_0, zI_eq (by omega) (by omega) (by omega) (by omega)]
  refine ⟨fun z => hP (by omega) fun h' ho => ?_, fun z => sC_refuseLong ha (by omega) h6 fun h' a b => ?_⟩
  · have z : c = 0 := by omega
    subst z
    exact hq h' (ho.sa ha) ho.fa
  · have := hq h' a b
    unfold cAnsL at this
    rw [if_neg (by omega)] at this
    exact this
theorem sC_partOf {Q : Int64 → Mem → Prop} {a b q : Int} (ha : 0 ≤ a ∧ a < 4611686018427387904) (hb : 1 ≤ b ∧ b < 4611686018427387904) (hqq : 0 ≤ q ∧ q < 2) (hq : Q (zL (partS a b q)) h) : CALLL E mC_partOf [.long (zL a), .long (zL b), .int (zI q)] h Q := by
  refine fC_partOf (sNU_divisor ha (by omega) ?_)
  have g1 := gz_pos (a := a) (b := b) (by omega)
  have g2 := gz_le (a := a) (b := b) (by omega)
  unfold partS at hq
  simp (disch := omega) only [zI_add, zI_sub, zI_mul, zI_neg, zI_lt, zI_le, zI_eq, zI_div, zI_rem, ix_zI, inb_zI, nz_zI, imax_zI, imin_zI, c_t, nb01.1, nb01.2, zl_0, zl_1, zl_2, zl_3, zl_4, zl_5, zl_6, zl_7, zl_8, zl_9, zl_10, zl_11, zl_12, zl_13, zl_14, zl_15, zl_16, zl_17, zl_18, zl_19, zl_20, zl_24, zl_30, zl_31, zl_36, zl_42, zl_44, zl_48, zl_57, zl_58, zl_59, zl_60, zl_61, zl_62, zl_63, zl_64, zl_72, zl_73, zl_96, zl_99, zl_100, zl_104, zl_107, zl_111, zl_114, zl_116, zl_120, zl_200, zl_255, zl_256, zl_360, zl_600, zl_800, zl_1000, zl_2000, zI_L, lg_ltz, lg_gtz, zL_add, zL_sub, zL_mul, zL_div, zL_rem, nzL_zL, zm_0, zm_1, zm_2, zm_5, zm_8, zm_9, zm_15, zm_16, zm_11, zm_20, zm_59, zm_60, zm_96, zm_99, zm_255, zm_600, zm_2147483647, zm_4000000000000000000, zm_3, zm_48, zm_57, lg_lez]
  refine ⟨fun z => ⟨fun y => by omega, fun y => ?_⟩, fun z => ⟨fun y => by omega, fun y => ?_⟩⟩
  · rw [if_neg z] at hq
    exact hq
  · rw [if_pos z] at hq
    exact hq
theorem sM_part {Q : Int64 → Mem → Prop} {a b q : Int} (ha : 0 ≤ a ∧ a < 4611686018427387904) (hb : 1 ≤ b ∧ b < 4611686018427387904) (hqq : 0 ≤ q ∧ q < 2) (hq : Q (zL (partS a b q)) h) : CALLL E mM_part [.long (zL a), .long (zL b), .int (zI q)] h Q := by
  refine fM_part (sM_divisor ha (by omega) ?_)
  have g1 := gz_pos (a := a) (b := b) (by omega)
  have g2 := gz_le (a := a) (b := b) (by omega)
  unfold partS at hq
  simp (disch := omega) only [zI_add, zI_sub, zI_mul, zI_neg, zI_lt, zI_le, zI_eq, zI_div, zI_rem, ix_zI, inb_zI, nz_zI, imax_zI, imin_zI, c_t, nb01.1, nb01.2, zl_0, zl_1, zl_2, zl_3, zl_4, zl_5, zl_6, zl_7, zl_8, zl_9, zl_10, zl_11, zl_12, zl_13, zl_14, zl_15, zl_16, zl_17, zl_18, zl_19, zl_20, zl_24, zl_30, zl_31, zl_36, zl_42, zl_44, zl_48, zl_57, zl_58, zl_59, zl_60, zl_61, zl_62, zl_63, zl_64, zl_72, zl_73, zl_96, zl_99, zl_100, zl_104, zl_107, zl_111, zl_114, zl_116, zl_120, zl_200, zl_255, zl_256, zl_360, zl_600, zl_800, zl_1000, zl_2000, zI_L, lg_ltz, lg_gtz, zL_add, zL_sub, zL_mul, zL_div, zL_rem, nzL_zL, zm_0, zm_1, zm_2, zm_5, zm_8, zm_9, zm_15, zm_16, zm_11, zm_20, zm_59, zm_60, zm_96, zm_99, zm_255, zm_600, zm_2147483647, zm_4000000000000000000, zm_3, zm_48, zm_57]
  refine ⟨fun z => ?_, fun z => ?_⟩
  · rw [if_neg z] at hq
    exact hq
  · rw [if_pos z] at hq
    exact hq
theorem sD_commonDistance {Q : Int64 → Mem → Prop} (hp : isP p) (hd : DW h p w) (hw : WF w) (hq : Q (zL (mulA w)) h) : CALLL E mD_commonDistance [.ref p] h Q := by
  refine fD_commonDistance hp ?_
  have hn := hw.1
  have key : ∀ (j k : Nat), (k : Int) + j = w 72 → WP E mD_commonDistance 4 [some (.ref p), some (.long (zL (mulS w k))), none, some (.int (zI k))] [] h (qL Q) := by
    intro j
    induction j with
    | zero =>
      intro k hk
      refine fD_commonDistance_4 hp ?_
      simp (disch := omega) only [zI_add, zI_sub, zI_mul, zI_neg, zI_lt, zI_le, zI_eq, zI_div, zI_rem, ix_zI, inb_zI, nz_zI, imax_zI, imin_zI, c_t, nb01.1, nb01.2, zl_0, zl_1, zl_2, zl_3, zl_4, zl_5, zl_6, zl_7, zl_8, zl_9, zl_10, zl_11, zl_12, zl_13, zl_14, zl_15, zl_16, zl_17, zl_18, zl_19, zl_20, zl_24, zl_30, zl_31, zl_36, zl_42, zl_44, zl_48, zl_57, zl_58, zl_59, zl_60, zl_61, zl_62, zl_63, zl_64, zl_72, zl_73, zl_96, zl_99, zl_100, zl_104, zl_107, zl_111, zl_114, zl_116, zl_120, zl_200, zl_255, zl_256, zl_360, zl_600, zl_800, zl_1000, zl_2000, hd.n]
      unfold mulA at hq
      rw [show (w 72).toNat = k by omega] at hq
      exact ⟨fun _ => hq, fun z => absurd (by omega) z⟩
    | succ j ih =>
      intro k hk
      refine fD_commonDistance_4 hp ?_
      have hb := mulS_c hw (k := k) (by omega)
      have hd9 : h (p + 9) (k : Int).toNat = zI (dist w (k : Int)) := hd.r9 (by omega) (by omega)
      have db := dist_b hw (i := (k : Int)) (by omega) (by omega)
      have hnext := ih (k + 1) (by omega)
      have e1 : ((k + 1 : Nat) : Int) = (k : Int) + 1 := by omega
      have e2 : mulS w (k + 1) = if w (42 + (k : Int)) = 1 then mulS w k / gz (mulS w k) (dist w (k : Int)) * dist w (k : Int) else mulS w k := rfl
      rw [e1, e2] at hnext
      simp (disch := omega) only [zI_add, zI_sub, zI_mul, zI_neg, zI_lt, zI_le, zI_eq, zI_div, zI_rem, ix_zI, inb_zI, nz_zI, imax_zI, imin_zI, c_t, nb01.1, nb01.2, zl_0, zl_1, zl_2, zl_3, zl_4, zl_5, zl_6, zl_7, zl_8, zl_9, zl_10, zl_11, zl_12, zl_13, zl_14, zl_15, zl_16, zl_17, zl_18, zl_19, zl_20, zl_24, zl_30, zl_31, zl_36, zl_42, zl_44, zl_48, zl_57, zl_58, zl_59, zl_60, zl_61, zl_62, zl_63, zl_64, zl_72, zl_73, zl_96, zl_99, zl_100, zl_104, zl_107, zl_111, zl_114, zl_116, zl_120, zl_200, zl_255, zl_256, zl_360, zl_600, zl_800, zl_1000, zl_2000, hd.n]
      refine ⟨fun z => by omega, fun _ => sD_isOn hp hd hw (by omega) ?_⟩
      by_cases c : w (42 + (k : Int)) = 1
      · rw [if_pos c] at hnext
        rw [if_pos ⟨by omega, by omega, c⟩]
        refine ⟨fun z => absurd z (by decide), fun _ => ?_⟩
        simp (disch := omega) only [zI_add, zI_sub, zI_mul, zI_neg, zI_lt, zI_le, zI_eq, zI_div, zI_rem, ix_zI, inb_zI, nz_zI, imax_zI, imin_zI, c_t, nb01.1, nb01.2, zl_0, zl_1, zl_2, zl_3, zl_4, zl_5, zl_6, zl_7, zl_8, zl_9, zl_10, zl_11, zl_12, zl_13, zl_14, zl_15, zl_16, zl_17, zl_18, zl_19, zl_20, zl_24, zl_30, zl_31, zl_36, zl_42, zl_44, zl_48, zl_57, zl_58, zl_59, zl_60, zl_61, zl_62, zl_63, zl_64, zl_72, zl_73, zl_96, zl_99, zl_100, zl_104, zl_107, zl_111, zl_114, zl_116, zl_120, zl_200, zl_255, zl_256, zl_360, zl_600, zl_800, zl_1000, zl_2000, hd9, zI_L, lg_ltz, lg_gtz, zL_add, zL_sub, zL_mul, zL_div, zL_rem, nzL_zL, zm_0, zm_1, zm_2, zm_5, zm_8, zm_9, zm_15, zm_16, zm_11, zm_20, zm_59, zm_60, zm_96, zm_99, zm_255, zm_600, zm_2147483647, zm_4000000000000000000, zm_3, zm_48, zm_57]
        refine fNU_commonMultiple (sNU_divisor (by omega) (by omega) ?_)
        have g1 := gz_pos (a := mulS w k) (b := dist w (k : Int)) (by omega)
        have g2 := gz_le (a := mulS w k) (b := dist w (k : Int)) (by omega)
        simp (disch := omega) only [zI_add, zI_sub, zI_mul, zI_neg, zI_lt, zI_le, zI_eq, zI_div, zI_rem, ix_zI, inb_zI, nz_zI, imax_zI, imin_zI, c_t, nb01.1, nb01.2, zl_0, zl_1, zl_2, zl_3, zl_4, zl_5, zl_6, zl_7, zl_8, zl_9, zl_10, zl_11, zl_12, zl_13, zl_14, zl_15, zl_16, zl_17, zl_18, zl_19, zl_20, zl_24, zl_30, zl_31, zl_36, zl_42, zl_44, zl_48, zl_57, zl_58, zl_59, zl_60, zl_61, zl_62, zl_63, zl_64, zl_72, zl_73, zl_96, zl_99, zl_100, zl_104, zl_107, zl_111, zl_114, zl_116, zl_120, zl_200, zl_255, zl_256, zl_360, zl_600, zl_800, zl_1000, zl_2000, zI_L, lg_ltz, lg_gtz, zL_add, zL_sub, zL_mul, zL_div, zL_rem, nzL_zL, zm_0, zm_1, zm_2, zm_5, zm_8, zm_9, zm_15, zm_16, zm_11, zm_20, zm_59, zm_60, zm_96, zm_99, zm_255, zm_600, zm_2147483647, zm_4000000000000000000, zm_3, zm_48, zm_57, lg_lez, c_t]
        exact ⟨fun y => by omega, fun _ => hnext⟩
      · rw [if_neg c] at hnext
        rw [if_neg (fun z => c z.2.2)]
        exact ⟨fun _ => hnext, fun z => absurd rfl z⟩
  exact key (w 72).toNat 0 (by omega)
theorem sM_multipleAll {Q : Int64 → Mem → Prop} (hm : RW (h 61) w) (hw : WF w) (hq : Q (zL (mulA w)) h) : CALLL E mM_multipleAll [.ref 60] h Q := by
  refine fM_multipleAll ?_
  have hn := hw.1
  have key : ∀ (j k : Nat), (k : Int) + j = w 72 → WP E mM_multipleAll 4 [some (.ref 60), some (.long (zL (mulS w k))), none, some (.int (zI k))] [] h (qL Q) := by
    intro j
    induction j with
    | zero =>
      intro k hk
      refine fM_multipleAll_4 ?_
      simp (disch := omega) only [zI_add, zI_sub, zI_mul, zI_neg, zI_lt, zI_le, zI_eq, zI_div, zI_rem, ix_zI, inb_zI, nz_zI, imax_zI, imin_zI, c_t, nb01.1, nb01.2, zl_0, zl_1, zl_2, zl_3, zl_4, zl_5, zl_6, zl_7, zl_8, zl_9, zl_10, zl_11, zl_12, zl_13, zl_14, zl_15, zl_16, zl_17, zl_18, zl_19, zl_20, zl_24, zl_30, zl_31, zl_36, zl_42, zl_44, zl_48, zl_57, zl_58, zl_59, zl_60, zl_61, zl_62, zl_63, zl_64, zl_72, zl_73, zl_96, zl_99, zl_100, zl_104, zl_107, zl_111, zl_114, zl_116, zl_120, zl_200, zl_255, zl_256, zl_360, zl_600, zl_800, zl_1000, zl_2000, hm _]
      unfold mulA at hq
      rw [show (w 72).toNat = k by omega] at hq
      exact ⟨fun _ => hq, fun z => absurd (by omega) z⟩
    | succ j ih =>
      intro k hk
      refine fM_multipleAll_4 ?_
      have hb := mulS_c hw (k := k) (by omega)
      have db := dist_b hw (i := (k : Int)) (by omega) (by omega)
      have hnext := ih (k + 1) (by omega)
      have e1 : ((k + 1 : Nat) : Int) = (k : Int) + 1 := by omega
      have e2 : mulS w (k + 1) = if w (42 + (k : Int)) = 1 then mulS w k / gz (mulS w k) (dist w (k : Int)) * dist w (k : Int) else mulS w k := rfl
      rw [e1, e2] at hnext
      simp (disch := omega) only [zI_add, zI_sub, zI_mul, zI_neg, zI_lt, zI_le, zI_eq, zI_div, zI_rem, ix_zI, inb_zI, nz_zI, imax_zI, imin_zI, c_t, nb01.1, nb01.2, zl_0, zl_1, zl_2, zl_3, zl_4, zl_5, zl_6, zl_7, zl_8, zl_9, zl_10, zl_11, zl_12, zl_13, zl_14, zl_15, zl_16, zl_17, zl_18, zl_19, zl_20, zl_24, zl_30, zl_31, zl_36, zl_42, zl_44, zl_48, zl_57, zl_58, zl_59, zl_60, zl_61, zl_62, zl_63, zl_64, zl_72, zl_73, zl_96, zl_99, zl_100, zl_104, zl_107, zl_111, zl_114, zl_116, zl_120, zl_200, zl_255, zl_256, zl_360, zl_600, zl_800, zl_1000, zl_2000, hm _]
      refine ⟨fun z => by omega, fun _ => sM_isOn hm hw (by omega) (by omega) ?_⟩
      by_cases c : w (42 + (k : Int)) = 1
      · rw [if_pos c] at hnext
        rw [if_pos c]
        refine ⟨fun z => absurd z (by decide), fun _ => sM_distance hm hw (by omega) (by omega) ?_⟩
        have g1 := gz_pos (a := mulS w k) (b := dist w (k : Int)) (by omega)
        have g2 := gz_le (a := mulS w k) (b := dist w (k : Int)) (by omega)
        simp (disch := omega) only [zI_L, lg_ltz, lg_gtz, zL_add, zL_sub, zL_mul, zL_div, zL_rem, nzL_zL, zm_0, zm_1, zm_2, zm_5, zm_8, zm_9, zm_15, zm_16, zm_11, zm_20, zm_59, zm_60, zm_96, zm_99, zm_255, zm_600, zm_2147483647, zm_4000000000000000000, zm_3, zm_48, zm_57]
        refine sM_divisor (by omega) (by omega) ?_
        simp (disch := omega) only [zI_L, lg_ltz, lg_gtz, zL_add, zL_sub, zL_mul, zL_div, zL_rem, nzL_zL, zm_0, zm_1, zm_2, zm_5, zm_8, zm_9, zm_15, zm_16, zm_11, zm_20, zm_59, zm_60, zm_96, zm_99, zm_255, zm_600, zm_2147483647, zm_4000000000000000000, zm_3, zm_48, zm_57, c_t]
        refine sM_distance hm hw (by omega) (by omega) ?_
        simp (disch := omega) only [zI_L, lg_ltz, lg_gtz, zL_add, zL_sub, zL_mul, zL_div, zL_rem, nzL_zL, zm_0, zm_1, zm_2, zm_5, zm_8, zm_9, zm_15, zm_16, zm_11, zm_20, zm_59, zm_60, zm_96, zm_99, zm_255, zm_600, zm_2147483647, zm_4000000000000000000, zm_3, zm_48, zm_57]
        exact hnext
      · rw [if_neg c] at hnext
        rw [if_neg c]
        exact ⟨fun _ => hnext, fun z => absurd rfl z⟩
  exact key (w 72).toNat 0 (by omega)
theorem mulA_b (hw : WF w) : 1 ≤ mulA w ∧ mulA w ≤ 107918163081 := mulS_c hw (by have := hw.1; omega)
theorem sD_workWithin {Q : Int64 → Mem → Prop} (hp : isP p) (hd : DW h p w) (hw : WF w) (hq : Q (zL (wrkS w (mulA w) (w 72).toNat)) h) : CALLL E mD_workWithin [.ref p, .long (zL (mulA w))] h Q := by
  refine fD_workWithin hp ?_
  have hn := hw.1
  have mb := mulA_b hw
  have key : ∀ (j k : Nat), (k : Int) + j = w 72 → WP E mD_workWithin 5 [some (.ref p), some (.long (zL (mulA w))), none, some (.long (zL (wrkS w (mulA w) k))), none, some (.int (zI k)), none] [] h (qL Q) := by
    intro j
    induction j with
    | zero =>
      intro k hk
      refine fD_workWithin_5 hp ?_
      simp (disch := omega) only [zI_add, zI_sub, zI_mul, zI_neg, zI_lt, zI_le, zI_eq, zI_div, zI_rem, ix_zI, inb_zI, nz_zI, imax_zI, imin_zI, c_t, nb01.1, nb01.2, zl_0, zl_1, zl_2, zl_3, zl_4, zl_5, zl_6, zl_7, zl_8, zl_9, zl_10, zl_11, zl_12, zl_13, zl_14, zl_15, zl_16, zl_17, zl_18, zl_19, zl_20, zl_24, zl_30, zl_31, zl_36, zl_42, zl_44, zl_48, zl_57, zl_58, zl_59, zl_60, zl_61, zl_62, zl_63, zl_64, zl_72, zl_73, zl_96, zl_99, zl_100, zl_104, zl_107, zl_111, zl_114, zl_116, zl_120, zl_200, zl_255, zl_256, zl_360, zl_600, zl_800, zl_1000, zl_2000, hd.n]
      rw [show (w 72).toNat = k by omega] at hq
      exact ⟨fun _ => hq, fun z => absurd (by omega) z⟩
    | succ j ih =>
      intro k hk
      refine fD_workWithin_5 hp ?_
      have hb := wrkS_b hw (b := mulA w) (by omega) k (by omega)
      have hd9 : h (p + 9) (k : Int).toNat = zI (dist w (k : Int)) := hd.r9 (by omega) (by omega)
      have hd1 : h (p + 1) (k : Int).toNat = zI (w (k : Int)) := hd.r1 (by omega) (by omega)
      have db := dist_b hw (i := (k : Int)) (by omega) (by omega)
      have cb := hw.all (i := (k : Int)) (by omega) (by omega)
      have hnext := ih (k + 1) (by omega)
      have e1 : ((k + 1 : Nat) : Int) = (k : Int) + 1 := by omega
      have e2 : wrkS w (mulA w) (k + 1) = wrkS w (mulA w) k + if w (42 + (k : Int)) = 1 then mulA w / dist w (k : Int) * w (k : Int) else 0 := rfl
      rw [e1, e2] at hnext
      simp (disch := omega) only [zI_add, zI_sub, zI_mul, zI_neg, zI_lt, zI_le, zI_eq, zI_div, zI_rem, ix_zI, inb_zI, nz_zI, imax_zI, imin_zI, c_t, nb01.1, nb01.2, zl_0, zl_1, zl_2, zl_3, zl_4, zl_5, zl_6, zl_7, zl_8, zl_9, zl_10, zl_11, zl_12, zl_13, zl_14, zl_15, zl_16, zl_17, zl_18, zl_19, zl_20, zl_24, zl_30, zl_31, zl_36, zl_42, zl_44, zl_48, zl_57, zl_58, zl_59, zl_60, zl_61, zl_62, zl_63, zl_64, zl_72, zl_73, zl_96, zl_99, zl_100, zl_104, zl_107, zl_111, zl_114, zl_116, zl_120, zl_200, zl_255, zl_256, zl_360, zl_600, zl_800, zl_1000, zl_2000, hd.n]
      refine ⟨fun z => by omega, fun _ => sD_isOn hp hd hw (by omega) ?_⟩
      by_cases c : w (42 + (k : Int)) = 1
      · rw [if_pos c] at hnext
        rw [if_pos ⟨by omega, by omega, c⟩]
        refine ⟨fun z => absurd z (by decide), fun _ => ?_⟩
        simp (disch := omega) only [zI_add, zI_sub, zI_mul, zI_neg, zI_lt, zI_le, zI_eq, zI_div, zI_rem, ix_zI, inb_zI, nz_zI, imax_zI, imin_zI, c_t, nb01.1, nb01.2, zl_0, zl_1, zl_2, zl_3, zl_4, zl_5, zl_6, zl_7, zl_8, zl_9, zl_10, zl_11, zl_12, zl_13, zl_14, zl_15, zl_16, zl_17, zl_18, zl_19, zl_20, zl_24, zl_30, zl_31, zl_36, zl_42, zl_44, zl_48, zl_57, zl_58, zl_59, zl_60, zl_61, zl_62, zl_63, zl_64, zl_72, zl_73, zl_96, zl_99, zl_100, zl_104, zl_107, zl_111, zl_114, zl_116, zl_120, zl_200, zl_255, zl_256, zl_360, zl_600, zl_800, zl_1000, zl_2000, hd9, hd1, zI_L, lg_ltz, lg_gtz, zL_add, zL_sub, zL_mul, zL_div, zL_rem, nzL_zL, zm_0, zm_1, zm_2, zm_5, zm_8, zm_9, zm_15, zm_16, zm_11, zm_20, zm_59, zm_60, zm_96, zm_99, zm_255, zm_600, zm_2147483647, zm_4000000000000000000, zm_3, zm_48, zm_57, c_t]
        exact ⟨fun z => by omega, fun _ => hnext⟩
      · rw [if_neg c, Int.add_zero] at hnext
        rw [if_neg (fun z => c z.2.2)]
        exact ⟨fun _ => hnext, fun z => absurd rfl z⟩
  exact key (w 72).toNat 0 (by omega)
theorem qC_load {Q : Int64 → Mem → Prop} {a : Int} (hv : SV s) (ha : SA h s) (hi : I32 a) (hq : ∀ h', SA h' (s.rfd (cOth a 2)) → FA h h' → Q (zL (cAnsL (cOth a 2) (loadS s.w a))) h') : CALLL E mC_load [.ref 0, .int (zI a)] h Q :=
  fC_load (sC_otherThan (n := 2) hi (by unfold I32; omega) (sC_finL ha (cOth_b _ _) hq fun z K => by
    rw [cOth_0] at z
    have mb := mulA_b hv.w
    have hn := hv.w.1
    have wb := wrkS_b hv.w (b := mulA s.w) (by omega) (s.w 72).toNat (by omega)
    exact sD_commonDistance (Or.inl rfl) ha.w hv.w (sD_workWithin (Or.inl rfl) ha.w hv.w (sC_partOf (by omega) (by omega) z (K h Off.rf)))))
theorem qM_load {Q : Int64 → Mem → Prop} {a : Int} (hv : SV s) (hb : SB h s) (hi : I32 a) (hq : ∀ h', SB h' (s.rfd (cOth a 2)) → FB h h' → Q (zL (cAnsL (cOth a 2) (loadS s.w a))) h') : CALLL E mM_load [.ref 60, .int (zI a)] h Q := by
  refine fM_load ?_
  unfold I32 at hi
  have hn := hv.w.1
  have mb := mulA_b hv.w
  simp (disch := omega) only [zI_add, zI_sub, zI_mul, zI_neg, zI_lt, zI_le, zI_eq, zI_div, zI_rem, ix_zI, inb_zI, nz_zI, imax_zI, imin_zI, c_t, nb01.1, nb01.2, zl_0, zl_1, zl_2, zl_3, zl_4, zl_5, zl_6, zl_7, zl_8, zl_9, zl_10, zl_11, zl_12, zl_13, zl_14, zl_15, zl_16, zl_17, zl_18, zl_19, zl_20, zl_24, zl_30, zl_31, zl_36, zl_42, zl_44, zl_48, zl_57, zl_58, zl_59, zl_60, zl_61, zl_62, zl_63, zl_64, zl_72, zl_73, zl_96, zl_99, zl_100, zl_104, zl_107, zl_111, zl_114, zl_116, zl_120, zl_200, zl_255, zl_256, zl_360, zl_600, zl_800, zl_1000, zl_2000, zI_L, lg_ltz, lg_gtz, zL_add, zL_sub, zL_mul, zL_div, zL_rem, nzL_zL, zm_0, zm_1, zm_2, zm_5, zm_8, zm_9, zm_15, zm_16, zm_11, zm_20, zm_59, zm_60, zm_96, zm_99, zm_255, zm_600, zm_2147483647, zm_4000000000000000000, zm_3, zm_48, zm_57]
  refine sM_in (by omega) (by omega) (by omega) ?_
  by_cases c : 0 ≤ a ∧ a ≤ 1
  · rw [if_pos c]
    rw [cOth_0.mpr (show 0 ≤ a ∧ a < 2 by omega)] at hq
    refine ⟨fun _ => sM_multipleAll hb.w hv.w ?_, fun z => absurd z (by decide)⟩
    have key : ∀ (j k : Nat), (k : Int) + j = s.w 72 → WP E mM_load 33 [some (.ref 60), some (.int (zI a)), some (.long (zL (mulA s.w))), none, some (.long (zL (wrkS s.w (mulA s.w) k))), none, some (.int (zI k))] [] h (qL Q) := by
      intro j
      induction j with
      | zero =>
        intro k hk
        refine fM_load_33 ?_
        have wb := wrkS_b hv.w (b := mulA s.w) (by omega) k (by omega)
        simp (disch := omega) only [zI_add, zI_sub, zI_mul, zI_neg, zI_lt, zI_le, zI_eq, zI_div, zI_rem, ix_zI, inb_zI, nz_zI, imax_zI, imin_zI, c_t, nb01.1, nb01.2, zl_0, zl_1, zl_2, zl_3, zl_4, zl_5, zl_6, zl_7, zl_8, zl_9, zl_10, zl_11, zl_12, zl_13, zl_14, zl_15, zl_16, zl_17, zl_18, zl_19, zl_20, zl_24, zl_30, zl_31, zl_36, zl_42, zl_44, zl_48, zl_57, zl_58, zl_59, zl_60, zl_61, zl_62, zl_63, zl_64, zl_72, zl_73, zl_96, zl_99, zl_100, zl_104, zl_107, zl_111, zl_114, zl_116, zl_120, zl_200, zl_255, zl_256, zl_360, zl_600, zl_800, zl_1000, zl_2000, hb.w _]
        refine ⟨fun _ => sM_part (by omega) (by omega) (by omega) ?_, fun z => absurd (by omega) z⟩
        have := hq h hb FB.rf
        unfold cAnsL loadS at this
        rw [if_pos rfl, show (s.w 72).toNat = k by omega] at this
        exact this
      | succ j ih =>
        intro k hk
        refine fM_load_33 ?_
        have wb := wrkS_b hv.w (b := mulA s.w) (by omega) k (by omega)
        have db := dist_b hv.w (i := (k : Int)) (by omega) (by omega)
        have cb := hv.w.all (i := (k : Int)) (by omega) (by omega)
        have hnext := ih (k + 1) (by omega)
        have e1 : ((k + 1 : Nat) : Int) = (k : Int) + 1 := by omega
        have e2 : wrkS s.w (mulA s.w) (k + 1) = wrkS s.w (mulA s.w) k + if s.w (42 + (k : Int)) = 1 then mulA s.w / dist s.w (k : Int) * s.w (k : Int) else 0 := rfl
        rw [e1, e2] at hnext
        simp (disch := omega) only [zI_add, zI_sub, zI_mul, zI_neg, zI_lt, zI_le, zI_eq, zI_div, zI_rem, ix_zI, inb_zI, nz_zI, imax_zI, imin_zI, c_t, nb01.1, nb01.2, zl_0, zl_1, zl_2, zl_3, zl_4, zl_5, zl_6, zl_7, zl_8, zl_9, zl_10, zl_11, zl_12, zl_13, zl_14, zl_15, zl_16, zl_17, zl_18, zl_19, zl_20, zl_24, zl_30, zl_31, zl_36, zl_42, zl_44, zl_48, zl_57, zl_58, zl_59, zl_60, zl_61, zl_62, zl_63, zl_64, zl_72, zl_73, zl_96, zl_99, zl_100, zl_104, zl_107, zl_111, zl_114, zl_116, zl_120, zl_200, zl_255, zl_256, zl_360, zl_600, zl_800, zl_1000, zl_2000, hb.w _]
        refine ⟨fun z => by omega, fun _ => sM_isOn hb.w hv.w (by omega) (by omega) ?_⟩
        by_cases c2 : s.w (42 + (k : Int)) = 1
        · rw [if_pos c2] at hnext
          rw [if_pos c2]
          refine ⟨fun z => absurd z (by decide), fun _ => sM_distance hb.w hv.w (by omega) (by omega) ?_⟩
          simp (disch := omega) only [zI_add, zI_sub, zI_mul, zI_neg, zI_lt, zI_le, zI_eq, zI_div, zI_rem, ix_zI, inb_zI, nz_zI, imax_zI, imin_zI, c_t, nb01.1, nb01.2, zl_0, zl_1, zl_2, zl_3, zl_4, zl_5, zl_6, zl_7, zl_8, zl_9, zl_10, zl_11, zl_12, zl_13, zl_14, zl_15, zl_16, zl_17, zl_18, zl_19, zl_20, zl_24, zl_30, zl_31, zl_36, zl_42, zl_44, zl_48, zl_57, zl_58, zl_59, zl_60, zl_61, zl_62, zl_63, zl_64, zl_72, zl_73, zl_96, zl_99, zl_100, zl_104, zl_107, zl_111, zl_114, zl_116, zl_120, zl_200, zl_255, zl_256, zl_360, zl_600, zl_800, zl_1000, zl_2000, zI_L, lg_ltz, lg_gtz, zL_add, zL_sub, zL_mul, zL_div, zL_rem, nzL_zL, zm_0, zm_1, zm_2, zm_5, zm_8, zm_9, zm_15, zm_16, zm_11, zm_20, zm_59, zm_60, zm_96, zm_99, zm_255, zm_600, zm_2147483647, zm_4000000000000000000, zm_3, zm_48, zm_57, c_t, Int.zero_add, hb.w _]
          exact hnext
        · rw [if_neg c2] at hnext
          rw [if_neg c2]
          refine ⟨fun _ => ?_, fun z => absurd rfl z⟩
          simp (disch := omega) only [zI_L, lg_ltz, lg_gtz, zL_add, zL_sub, zL_mul, zL_div, zL_rem, nzL_zL, zm_0, zm_1, zm_2, zm_5, zm_8, zm_9, zm_15, zm_16, zm_11, zm_20, zm_59, zm_60, zm_96, zm_99, zm_255, zm_600, zm_2147483647, zm_4000000000000000000, zm_3, zm_48, zm_57]
          exact hnext
    exact key (s.w 72).toNat 0 (by omega)
  · rw [if_neg c]
    rw [cOth_2 (show ¬ (0 ≤ a ∧ a < 2) by omega)] at hq
    exact ⟨fun z => absurd rfl z, fun _ => sM_refused (c := 2) hb (by omega) (by omega) hq⟩
theorem qC_anew {Q : Int32 → Mem → Prop} (hv : SV s) (ha : SA h s) (hq : ∀ h', SA h' s → FA h h' → Q (zI (anewS s.w)) h') : CALLI E mC_anew [.ref 0] h Q := by
  refine fC_anew (sD_commonDistance (Or.inl rfl) ha.w hv.w ?_)
  have mb := mulA_b hv.w
  have hq := hq h ha FA.rf
  unfold anewS at hq
  simp (disch := omega) only [zI_add, zI_sub, zI_mul, zI_neg, zI_lt, zI_le, zI_eq, zI_div, zI_rem, ix_zI, inb_zI, nz_zI, imax_zI, imin_zI, c_t, nb01.1, nb01.2, zl_0, zl_1, zl_2, zl_3, zl_4, zl_5, zl_6, zl_7, zl_8, zl_9, zl_10, zl_11, zl_12, zl_13, zl_14, zl_15, zl_16, zl_17, zl_18, zl_19, zl_20, zl_24, zl_30, zl_31, zl_36, zl_42, zl_44, zl_48, zl_57, zl_58, zl_59, zl_60, zl_61, zl_62, zl_63, zl_64, zl_72, zl_73, zl_96, zl_99, zl_100, zl_104, zl_107, zl_111, zl_114, zl_116, zl_120, zl_200, zl_255, zl_256, zl_360, zl_600, zl_800, zl_1000, zl_2000, zI_L, lg_ltz, lg_gtz, zL_add, zL_sub, zL_mul, zL_div, zL_rem, nzL_zL, zm_0, zm_1, zm_2, zm_5, zm_8, zm_9, zm_15, zm_16, zm_11, zm_20, zm_59, zm_60, zm_96, zm_99, zm_255, zm_600, zm_2147483647, zm_4000000000000000000, zm_3, zm_48, zm_57, lg_lez]
  refine ⟨fun z => ?_, fun z => ?_⟩
  · rw [if_pos z] at hq
    rw [zL_I _ (by omega) (by omega)]
    exact hq
  · rw [if_neg z] at hq; exact hq
theorem qM_anew {Q : Int32 → Mem → Prop} (hv : SV s) (hb : SB h s) (hq : ∀ h', SB h' s → FB h h' → Q (zI (anewS s.w)) h') : CALLI E mM_anew [.ref 60] h Q := by
  refine fM_anew (sM_multipleAll hb.w hv.w ?_)
  have mb := mulA_b hv.w
  have hq := hq h hb FB.rf
  unfold anewS at hq
  simp (disch := omega) only [zI_add, zI_sub, zI_mul, zI_neg, zI_lt, zI_le, zI_eq, zI_div, zI_rem, ix_zI, inb_zI, nz_zI, imax_zI, imin_zI, c_t, nb01.1, nb01.2, zl_0, zl_1, zl_2, zl_3, zl_4, zl_5, zl_6, zl_7, zl_8, zl_9, zl_10, zl_11, zl_12, zl_13, zl_14, zl_15, zl_16, zl_17, zl_18, zl_19, zl_20, zl_24, zl_30, zl_31, zl_36, zl_42, zl_44, zl_48, zl_57, zl_58, zl_59, zl_60, zl_61, zl_62, zl_63, zl_64, zl_72, zl_73, zl_96, zl_99, zl_100, zl_104, zl_107, zl_111, zl_114, zl_116, zl_120, zl_200, zl_255, zl_256, zl_360, zl_600, zl_800, zl_1000, zl_2000, zI_L, lg_ltz, lg_gtz, zL_add, zL_sub, zL_mul, zL_div, zL_rem, nzL_zL, zm_0, zm_1, zm_2, zm_5, zm_8, zm_9, zm_15, zm_16, zm_11, zm_20, zm_59, zm_60, zm_96, zm_99, zm_255, zm_600, zm_2147483647, zm_4000000000000000000, zm_3, zm_48, zm_57, lg_lez]
  refine ⟨fun z => ?_, fun z => ?_⟩
  · rw [if_pos z] at hq
    rw [zL_I _ (by omega) (by omega)]
    exact hq
  · rw [if_neg z] at hq; exact hq
end LO2
