/-! ===== count ===== -/
theorem of_zI {a : Int} : Int32.ofInt a = zI a := rfl
def countS (s : St) (a : Int) : Int32 := if a = 0 then zI (s.w 72) else if a = 1 then zI (onM s.w : Nat) else if a = 2 then zI (costS s.w (s.w 72).toNat) else if a = 3 then zI s.rn else if a = 4 then zI s.ln else if 11 ≤ a ∧ a ≤ 16 then s.rf (a - 10).toNat else zI (-9)
section CN
variable {E : XE} {h : Mem} {s : St} {Q : Int32 → Mem → Prop}
theorem qC_count {a : Int} (hv : SV s) (ha : SA h s) (hi : I32 a) (hq : ∀ h', SA h' s → FA h h' → Q (countS s a) h') : CALLI E mC_count [.ref 0, .int (zI a)] h Q := by
  refine fC_count ?_
  have hq := hq h ha FA.rf
  unfold countS at hq
  unfold I32 at hi
  simp (disch := omega) only [of_zI, zI_eq]
  refine ⟨fun z => ?_, fun z => ⟨fun z1 => ?_, fun z1 => ⟨fun z2 => ?_, fun z2 => ⟨fun z3 => ?_, fun z3 => ⟨fun z4 => ?_, fun z4 => ?_⟩⟩⟩⟩⟩
  · rw [if_pos z] at hq
    rw [show h 1 0 = zI (s.w 72) from ha.w.n]; exact hq
  · rw [if_neg z, if_pos z1] at hq
    rw [show h 1 1 = zI (onM s.w : Nat) from ha.w.on]; exact hq
  · rw [if_neg z, if_neg z1, if_pos z2] at hq
    exact sD_costTogether (Or.inl rfl) ha.w hv.w hq
  · rw [if_neg z, if_neg z1, if_neg z2, if_pos z3] at hq
    rw [ha.rn]; exact hq
  · rw [if_neg z, if_neg z1, if_neg z2, if_neg z3, if_pos z4] at hq
    refine fTE_size ?_
    rw [ha.ln]; exact hq
  · rw [if_neg z, if_neg z1, if_neg z2, if_neg z3, if_neg z4] at hq
    simp (disch := omega) only [zI_add, zI_sub, zI_mul, zI_neg, zI_lt, zI_le, zI_eq, zI_div, zI_rem, ix_zI, inb_zI, nz_zI, imax_zI, imin_zI, c_t, nb01.1, nb01.2, zl_0, zl_1, zl_2, zl_3, zl_4, zl_5, zl_6, zl_7, zl_8, zl_9, zl_10, zl_11, zl_12, zl_13, zl_14, zl_15, zl_16, zl_17, zl_18, zl_19, zl_20, zl_24, zl_30, zl_31, zl_36, zl_42, zl_44, zl_48, zl_57, zl_58, zl_59, zl_60, zl_61, zl_62, zl_63, zl_64, zl_72, zl_73, zl_96, zl_99, zl_100, zl_104, zl_107, zl_111, zl_114, zl_116, zl_120, zl_200, zl_255, zl_256, zl_360, zl_600, zl_800, zl_1000, zl_2000]
    refine ⟨fun z5 => ?_, fun z5 => ⟨fun z6 => ?_, fun z6 => ?_⟩⟩
    · rw [if_neg (by omega)] at hq; exact hq
    · rw [if_neg (by omega)] at hq; exact hq
    · rw [if_pos (by omega)] at hq
      simp (disch := omega) only [zI_add, zI_sub, zI_mul, zI_neg, zI_lt, zI_le, zI_eq, zI_div, zI_rem, ix_zI, inb_zI, nz_zI, imax_zI, imin_zI, c_t, nb01.1, nb01.2, zl_0, zl_1, zl_2, zl_3, zl_4, zl_5, zl_6, zl_7, zl_8, zl_9, zl_10, zl_11, zl_12, zl_13, zl_14, zl_15, zl_16, zl_17, zl_18, zl_19, zl_20, zl_24, zl_30, zl_31, zl_36, zl_42, zl_44, zl_48, zl_57, zl_58, zl_59, zl_60, zl_61, zl_62, zl_63, zl_64, zl_72, zl_73, zl_96, zl_99, zl_100, zl_104, zl_107, zl_111, zl_114, zl_116, zl_120, zl_200, zl_255, zl_256, zl_360, zl_600, zl_800, zl_1000, zl_2000]
      rw [ha.rf _ (by omega)]; exact hq
theorem qM_count {a : Int} (hv : SV s) (hb : SB h s) (hi : I32 a) (hq : ∀ h', SB h' s → FB h h' → Q (countS s a) h') : CALLI E mM_count [.ref 60, .int (zI a)] h Q := by
  refine fM_count ?_
  have hq := hq h hb FB.rf
  unfold countS at hq
  unfold I32 at hi
  simp (disch := omega) only [of_zI, zI_eq]
  refine ⟨fun z => ?_, fun z => ⟨fun z1 => ?_, fun z1 => ⟨fun z2 => ?_, fun z2 => ⟨fun z3 => ?_, fun z3 => ⟨fun z4 => ?_, fun z4 => ?_⟩⟩⟩⟩⟩
  · rw [if_pos z] at hq
    rw [show h 61 (ix 72) = zI (s.w 72) from hb.w 72 (by omega) (by omega)]; exact hq
  · rw [if_neg z, if_pos z1] at hq
    exact sM_onSet hb.w hv.w hq
  · rw [if_neg z, if_neg z1, if_pos z2] at hq
    exact sM_costAll hb.w hv.w hq
  · rw [if_neg z, if_neg z1, if_neg z2, if_pos z3] at hq
    rw [hb.rn]; exact hq
  · rw [if_neg z, if_neg z1, if_neg z2, if_neg z3, if_pos z4] at hq
    rw [hb.ln]; exact hq
  · rw [if_neg z, if_neg z1, if_neg z2, if_neg z3, if_neg z4] at hq
    simp (disch := omega) only [zI_add, zI_sub, zI_mul, zI_neg, zI_lt, zI_le, zI_eq, zI_div, zI_rem, ix_zI, inb_zI, nz_zI, imax_zI, imin_zI, c_t, nb01.1, nb01.2, zl_0, zl_1, zl_2, zl_3, zl_4, zl_5, zl_6, zl_7, zl_8, zl_9, zl_10, zl_11, zl_12, zl_13, zl_14, zl_15, zl_16, zl_17, zl_18, zl_19, zl_20, zl_24, zl_30, zl_31, zl_36, zl_42, zl_44, zl_48, zl_57, zl_58, zl_59, zl_60, zl_61, zl_62, zl_63, zl_64, zl_72, zl_73, zl_96, zl_99, zl_100, zl_104, zl_107, zl_111, zl_114, zl_116, zl_120, zl_200, zl_255, zl_256, zl_360, zl_600, zl_800, zl_1000, zl_2000, zI_L, lg_ltz, lg_gtz, zL_add, zL_sub, zL_mul, zL_div, zL_rem, nzL_zL, zm_0, zm_1, zm_2, zm_5, zm_8, zm_9, zm_15, zm_16, zm_11, zm_20, zm_59, zm_60, zm_96, zm_99, zm_255, zm_600, zm_2147483647, zm_4000000000000000000, zm_3, zm_48, zm_57]
    refine sM_in (by omega) (by omega) (by omega) ?_
    by_cases c : 11 ≤ a ∧ a ≤ 16
    · rw [if_pos c] at hq ⊢
      simp (disch := omega) only [zI_add, zI_sub, zI_mul, zI_neg, zI_lt, zI_le, zI_eq, zI_div, zI_rem, ix_zI, inb_zI, nz_zI, imax_zI, imin_zI, c_t, nb01.1, nb01.2, zl_0, zl_1, zl_2, zl_3, zl_4, zl_5, zl_6, zl_7, zl_8, zl_9, zl_10, zl_11, zl_12, zl_13, zl_14, zl_15, zl_16, zl_17, zl_18, zl_19, zl_20, zl_24, zl_30, zl_31, zl_36, zl_42, zl_44, zl_48, zl_57, zl_58, zl_59, zl_60, zl_61, zl_62, zl_63, zl_64, zl_72, zl_73, zl_96, zl_99, zl_100, zl_104, zl_107, zl_111, zl_114, zl_116, zl_120, zl_200, zl_255, zl_256, zl_360, zl_600, zl_800, zl_1000, zl_2000]
      refine ⟨fun z => absurd z (by omega), fun _ => ?_⟩
      rw [hb.rf _ (by omega)]; exact hq
    · rw [if_neg c] at hq ⊢
      simp (disch := omega) only [zI_add, zI_sub, zI_mul, zI_neg, zI_lt, zI_le, zI_eq, zI_div, zI_rem, ix_zI, inb_zI, nz_zI, imax_zI, imin_zI, c_t, nb01.1, nb01.2, zl_0, zl_1, zl_2, zl_3, zl_4, zl_5, zl_6, zl_7, zl_8, zl_9, zl_10, zl_11, zl_12, zl_13, zl_14, zl_15, zl_16, zl_17, zl_18, zl_19, zl_20, zl_24, zl_30, zl_31, zl_36, zl_42, zl_44, zl_48, zl_57, zl_58, zl_59, zl_60, zl_61, zl_62, zl_63, zl_64, zl_72, zl_73, zl_96, zl_99, zl_100, zl_104, zl_107, zl_111, zl_114, zl_116, zl_120, zl_200, zl_255, zl_256, zl_360, zl_600, zl_800, zl_1000, zl_2000]
      exact ⟨fun _ => hq, fun z => absurd trivial z⟩
end CN
