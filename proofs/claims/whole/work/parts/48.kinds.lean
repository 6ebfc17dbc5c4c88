/-! ===== kind ===== -/
def cKind (w : Int → Int) (t k f : Int) : Nat := cFst (cFst (cTask w t) (cOth k 6)) (cOut f 0 9)
theorem cKind_b (w : Int → Int) (t k f : Int) : cKind w t k f ≤ 6 := cFst_b (cFst_b (cTask_b _ _) (cOth_b _ _)) (cOut_b _ _ _)
def kindSt (s : St) (t k f : Int) : St := if cKind s.w t k f = 0 then newW s (kset s.w t k f) else s.rfd (cKind s.w t k f)
section KQ
variable {E : XE} {h : Mem} {s : St} {Q : Int32 → Mem → Prop}
theorem qC_kind {t k f : Int} (hv : SV s) (ha : SA h s) (ht : I32 t) (hk : I32 k) (hf : I32 f) (hq : ∀ h', SA h' (kindSt s t k f) → FA h h' → Q (zI (cAns (cKind s.w t k f) (10 * s.w (30 + t) + s.w (36 + t)))) h') : CALLI E mC_kind [.ref 0, .int (zI t), .int (zI k), .int (zI f)] h Q := by
  refine fC_kind (sC_missingTask hv ha ht (sC_otherThan (n := 6) hk (by unfold I32; omega) (sC_firstOf (cTask_b _ _) (sC_outside (lo := 0) (hi := 9) hf (by unfold I32; omega) (by unfold I32; omega) (sC_firstOf (cFst_b (cTask_b _ _) (cOth_b _ _)) (sC_fin2 ha (cKind_b _ _ _ _) hq fun z K => ?_))))))
  unfold cKind at z
  rw [cFst_0, cFst_0, cTask_0, cOth_0, cOut_0] at z
  have hn := hv.w.1
  have b := hv.w.at z.1.1.1 z.1.1.2
  have e7 : h 7 t.toNat = zI (s.w (30 + t)) := ha.w.r6 z.1.1.1 z.1.1.2
  have e8 : h 8 t.toNat = zI (s.w (36 + t)) := ha.w.r7 z.1.1.1 z.1.1.2
  have e2 : h (1 + 2) t.toNat = zI (s.w (6 + t)) := ha.w.r2 z.1.1.1 z.1.1.2
  have e3 : h (1 + 3) t.toNat = zI (s.w (12 + t)) := ha.w.r3 z.1.1.1 z.1.1.2
  simp (disch := omega) only [zI_add, zI_sub, zI_mul, zI_neg, zI_lt, zI_le, zI_eq, zI_div, zI_rem, ix_zI, inb_zI, nz_zI, imax_zI, imin_zI, c_t, nb01.1, nb01.2, zl_0, zl_1, zl_2, zl_3, zl_4, zl_5, zl_6, zl_7, zl_8, zl_9, zl_10, zl_11, zl_12, zl_13, zl_14, zl_15, zl_16, zl_17, zl_18, zl_19, zl_20, zl_24, zl_30, zl_31, zl_36, zl_42, zl_44, zl_48, zl_57, zl_58, zl_59, zl_60, zl_61, zl_62, zl_63, zl_64, zl_72, zl_73, zl_96, zl_99, zl_100, zl_104, zl_107, zl_111, zl_114, zl_116, zl_120, zl_200, zl_255, zl_256, zl_360, zl_600, zl_800, zl_1000, zl_2000, e7, e8]
  refine sD_setKind (Or.inl rfl) z.1.1.1 b.1 (by omega) (by omega) e2 e3 (by omega) (by omega) fun h' c => K h' (ha.neww (c.dw ha.w hv.w z.1.1.1 z.1.1.2) fun q hq => c.1 q (by omega)) (fun q hq => c.1 q (by omega))
theorem qM_kind {t k f : Int} (hv : SV s) (hb : SB h s) (ht : I32 t) (hk : I32 k) (hf : I32 f) (hq : ∀ h', SB h' (kindSt s t k f) → FB h h' → Q (zI (cAns (cKind s.w t k f) (10 * s.w (30 + t) + s.w (36 + t)))) h') : CALLI E mM_kind [.ref 60, .int (zI t), .int (zI k), .int (zI f)] h Q := by
  refine fM_kind (sM_isTask hb.w hv.w ht ?_)
  have hneg : ∀ c, cKind s.w t k f = c → c ≠ 0 → c ≤ 6 → CALLI E mM_refused [.ref 60, .int (zI (-(c : Nat)))] h Q := fun c e n l => sM_refused hb n l fun h' a b => by
    have hq := hq h' (by unfold kindSt; rw [if_neg (by omega), e]; exact a) b
    rw [e, cAns_lt n] at hq
    exact hq
  unfold cKind at hneg
  unfold I32 at hk hf
  by_cases c : 0 ≤ t ∧ t < s.w 72
  · rw [if_pos c]
    rw [cTask_0.mpr c] at hneg
    have hn := hv.w.1
    refine ⟨fun _ => ?_, fun z => absurd z (by decide)⟩
    simp (disch := omega) only [zI_add, zI_sub, zI_mul, zI_neg, zI_lt, zI_le, zI_eq, zI_div, zI_rem, ix_zI, inb_zI, nz_zI, imax_zI, imin_zI, c_t, nb01.1, nb01.2, zl_0, zl_1, zl_2, zl_3, zl_4, zl_5, zl_6, zl_7, zl_8, zl_9, zl_10, zl_11, zl_12, zl_13, zl_14, zl_15, zl_16, zl_17, zl_18, zl_19, zl_20, zl_24, zl_30, zl_31, zl_36, zl_42, zl_44, zl_48, zl_57, zl_58, zl_59, zl_60, zl_61, zl_62, zl_63, zl_64, zl_72, zl_73, zl_96, zl_99, zl_100, zl_104, zl_107, zl_111, zl_114, zl_116, zl_120, zl_200, zl_255, zl_256, zl_360, zl_600, zl_800, zl_1000, zl_2000, zI_L, lg_ltz, lg_gtz, zL_add, zL_sub, zL_mul, zL_div, zL_rem, nzL_zL, zm_0, zm_1, zm_2, zm_5, zm_8, zm_9, zm_15, zm_16, zm_11, zm_20, zm_59, zm_60, zm_96, zm_99, zm_255, zm_600, zm_2147483647, zm_4000000000000000000, zm_3, zm_48, zm_57]
    refine sM_in (by omega) (by omega) (by omega) ?_
    by_cases c2 : 0 ≤ k ∧ k ≤ 5
    · rw [if_pos c2]
      rw [cOth_0.mpr (show 0 ≤ k ∧ k < 6 by omega)] at hneg
      simp (disch := omega) only [zI_add, zI_sub, zI_mul, zI_neg, zI_lt, zI_le, zI_eq, zI_div, zI_rem, ix_zI, inb_zI, nz_zI, imax_zI, imin_zI, c_t, nb01.1, nb01.2, zl_0, zl_1, zl_2, zl_3, zl_4, zl_5, zl_6, zl_7, zl_8, zl_9, zl_10, zl_11, zl_12, zl_13, zl_14, zl_15, zl_16, zl_17, zl_18, zl_19, zl_20, zl_24, zl_30, zl_31, zl_36, zl_42, zl_44, zl_48, zl_57, zl_58, zl_59, zl_60, zl_61, zl_62, zl_63, zl_64, zl_72, zl_73, zl_96, zl_99, zl_100, zl_104, zl_107, zl_111, zl_114, zl_116, zl_120, zl_200, zl_255, zl_256, zl_360, zl_600, zl_800, zl_1000, zl_2000]
      refine ⟨fun _ => sM_in (by omega) (by omega) (by omega) ?_, fun z => absurd z (by omega)⟩
      by_cases c3 : 0 ≤ f ∧ f ≤ 9
      · rw [if_pos c3]
        have hc : cKind s.w t k f = 0 := by unfold cKind; rw [cTask_0.mpr c, cOth_0.mpr (show 0 ≤ k ∧ k < 6 by omega), cOut_0.mpr c3]; rfl
        have hq := hq (upd2 (upd2 h 61 (30 + t).toNat (zI k)) 61 (36 + t).toNat (zI f)) (by
          unfold kindSt
          rw [if_pos hc]
          refine hb.neww ?_ fun q hq => (upd2_ne q hq).trans (upd2_ne q hq)
          have r1 : RW (upd2 h 61 (30 + t).toNat (zI k) 61) (fset s.w (30 + t) k) := by
            have := hb.w.put (v := k) (j := 30 + t) (by omega) (by omega)
            intro i i0 i1
            exact this i i0 i1
          have := r1.put (v := f) (j := 36 + t) (by omega) (by omega)
          intro i i0 i1
          exact this i i0 i1) ((FB.rf.up (by omega)).up (by omega))
        rw [hc] at hq
        simp (disch := omega) only [zI_add, zI_sub, zI_mul, zI_neg, zI_lt, zI_le, zI_eq, zI_div, zI_rem, ix_zI, inb_zI, nz_zI, imax_zI, imin_zI, c_t, nb01.1, nb01.2, zl_0, zl_1, zl_2, zl_3, zl_4, zl_5, zl_6, zl_7, zl_8, zl_9, zl_10, zl_11, zl_12, zl_13, zl_14, zl_15, zl_16, zl_17, zl_18, zl_19, zl_20, zl_24, zl_30, zl_31, zl_36, zl_42, zl_44, zl_48, zl_57, zl_58, zl_59, zl_60, zl_61, zl_62, zl_63, zl_64, zl_72, zl_73, zl_96, zl_99, zl_100, zl_104, zl_107, zl_111, zl_114, zl_116, zl_120, zl_200, zl_255, zl_256, zl_360, zl_600, zl_800, zl_1000, zl_2000, hb.w _]
        exact ⟨fun _ => hq, fun z => absurd z (by omega)⟩
      · rw [if_neg c3]
        simp (disch := omega) only [zI_add, zI_sub, zI_mul, zI_neg, zI_lt, zI_le, zI_eq, zI_div, zI_rem, ix_zI, inb_zI, nz_zI, imax_zI, imin_zI, c_t, nb01.1, nb01.2, zl_0, zl_1, zl_2, zl_3, zl_4, zl_5, zl_6, zl_7, zl_8, zl_9, zl_10, zl_11, zl_12, zl_13, zl_14, zl_15, zl_16, zl_17, zl_18, zl_19, zl_20, zl_24, zl_30, zl_31, zl_36, zl_42, zl_44, zl_48, zl_57, zl_58, zl_59, zl_60, zl_61, zl_62, zl_63, zl_64, zl_72, zl_73, zl_96, zl_99, zl_100, zl_104, zl_107, zl_111, zl_114, zl_116, zl_120, zl_200, zl_255, zl_256, zl_360, zl_600, zl_800, zl_1000, zl_2000]
        refine ⟨fun z => absurd trivial z, fun _ => ⟨fun z => ?_, fun z => ?_⟩⟩
        · have e : cOut f 0 9 = 6 := by unfold cOut; rw [if_neg (by omega), if_pos (by omega)]
          exact hneg 6 (by rw [e]; rfl) (by omega) (by omega)
        · have e : cOut f 0 9 = 4 := by unfold cOut; rw [if_pos (by omega)]
          exact hneg 4 (by rw [e]; rfl) (by omega) (by omega)
    · rw [if_neg c2]
      simp (disch := omega) only [zI_add, zI_sub, zI_mul, zI_neg, zI_lt, zI_le, zI_eq, zI_div, zI_rem, ix_zI, inb_zI, nz_zI, imax_zI, imin_zI, c_t, nb01.1, nb01.2, zl_0, zl_1, zl_2, zl_3, zl_4, zl_5, zl_6, zl_7, zl_8, zl_9, zl_10, zl_11, zl_12, zl_13, zl_14, zl_15, zl_16, zl_17, zl_18, zl_19, zl_20, zl_24, zl_30, zl_31, zl_36, zl_42, zl_44, zl_48, zl_57, zl_58, zl_59, zl_60, zl_61, zl_62, zl_63, zl_64, zl_72, zl_73, zl_96, zl_99, zl_100, zl_104, zl_107, zl_111, zl_114, zl_116, zl_120, zl_200, zl_255, zl_256, zl_360, zl_600, zl_800, zl_1000, zl_2000]
      exact ⟨fun z => absurd trivial z, fun _ => hneg 2 (by rw [cOth_2 (by omega)]; rfl) (by omega) (by omega)⟩
  · rw [if_neg c]
    exact ⟨fun z => absurd rfl z, fun _ => hneg 1 (by rw [cTask_1 c]; rfl) (by omega) (by omega)⟩
end KQ
