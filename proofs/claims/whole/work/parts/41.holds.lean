/-! ===== holds, turns ===== -/
def holdSt (s : St) (t l v : Int) : St := laySt s (cHold s.w t l v) (48 + 4 * t + l) v
section HT
variable {E : XE} {h : Mem} {s : St} {Q : Int32 → Mem → Prop}
theorem qC_holds {t l v : Int} (hv : SV s) (ha : SA h s) (ht : I32 t) (hl : I32 l) (hi : I32 v) (hq : ∀ h', SA h' (holdSt s t l v) → FA h h' → Q (zI (cAns (cHold s.w t l v) (s.w (48 + 4 * t + l)))) h') : CALLI E mC_holds [.ref 0, .int (zI t), .int (zI l), .int (zI v)] h Q := by
  refine fC_holds (sC_missingTask hv ha ht (sC_missingLock hl (sC_firstOf (cTask_b _ _) (sC_outside (lo := 0) (hi := 9) hi (by unfold I32; omega) (by unfold I32; omega) (sC_firstOf (cFst_b (cTask_b _ _) (cLock_b _)) (sC_fin2 ha (cHold_b _ _ _ _) hq fun z K => ?_))))))
  unfold cHold at z
  rw [cFst_0, cFst_0, cTask_0, cLock_0] at z
  have hn := hv.w.1
  simp (disch := omega) only [zI_add, zI_sub, zI_mul, zI_neg, zI_lt, zI_le, zI_eq, zI_div, zI_rem, ix_zI, inb_zI, nz_zI, imax_zI, imin_zI, c_t, nb01.1, nb01.2, zl_0, zl_1, zl_2, zl_3, zl_4, zl_5, zl_6, zl_7, zl_8, zl_9, zl_10, zl_11, zl_12, zl_13, zl_14, zl_15, zl_16, zl_17, zl_18, zl_19, zl_20, zl_24, zl_30, zl_31, zl_36, zl_42, zl_44, zl_48, zl_57, zl_58, zl_59, zl_60, zl_61, zl_62, zl_63, zl_64, zl_72, zl_73, zl_96, zl_99, zl_100, zl_104, zl_107, zl_111, zl_114, zl_116, zl_120, zl_200, zl_255, zl_256, zl_360, zl_600, zl_800, zl_1000, zl_2000]
  refine sC_exchange (n := 24) (by omega) (by omega) (by omega) ?_
  have e : h 9 (t * 4 + l).toNat = zI (s.w (48 + 4 * t + l)) := ha.w.r8 z.1.1.1 z.1.1.2 z.1.2.1 z.1.2.2
  rw [e]
  exact K _ (ha.neww (ha.w.hold hv.w z.1.1.1 z.1.1.2 z.1.2.1 z.1.2.2) fun q hq => upd2_ne q (by omega)) (FA.rf.up (by omega))
theorem qM_holds {t l v : Int} (hv : SV s) (hb : SB h s) (ht : I32 t) (hl : I32 l) (hi : I32 v) (hq : ∀ h', SB h' (holdSt s t l v) → FB h h' → Q (zI (cAns (cHold s.w t l v) (s.w (48 + 4 * t + l)))) h') : CALLI E mM_holds [.ref 60, .int (zI t), .int (zI l), .int (zI v)] h Q := by
  refine fM_holds (sM_isTask hb.w hv.w ht ?_)
  have hneg : ∀ c, cHold s.w t l v = c → c ≠ 0 → c ≤ 6 → CALLI E mM_refused [.ref 60, .int (zI (-(c : Nat)))] h Q := fun c e n l => sM_refused hb n l fun h' a b => by
    have hq := hq h' (by unfold holdSt laySt; rw [if_neg (by omega), e]; exact a) b
    rw [e, cAns_lt n] at hq
    exact hq
  unfold cHold at hneg
  by_cases c : 0 ≤ t ∧ t < s.w 72
  · rw [if_pos c]
    rw [cTask_0.mpr c] at hneg
    have hn := hv.w.1
    refine ⟨fun z => absurd z (by decide), fun _ => sM_isLock hl ?_⟩
    by_cases c2 : 0 ≤ l ∧ l < 4
    · rw [if_pos c2]
      have e : cHold s.w t l v = cLay s.w t v 0 9 := by unfold cHold cLay; rw [cTask_0.mpr c, cLock_0.mpr c2]; rfl
      unfold holdSt at hq
      rw [e] at hq
      have hh := sM_laidTo (E := E) (b := 48 + 3 * t + l) (lo := 0) (hi := 9) hv hb ht hi (by omega) (by omega) (j := 48 + 4 * t + l) (by omega) (fun a b => by omega) (fun _ _ => by unfold I32; omega) hq
      simp (disch := omega) only [zI_add, zI_sub, zI_mul, zI_neg, zI_lt, zI_le, zI_eq, zI_div, zI_rem, ix_zI, inb_zI, nz_zI, imax_zI, imin_zI, c_t, nb01.1, nb01.2, zl_0, zl_1, zl_2, zl_3, zl_4, zl_5, zl_6, zl_7, zl_8, zl_9, zl_10, zl_11, zl_12, zl_13, zl_14, zl_15, zl_16, zl_17, zl_18, zl_19, zl_20, zl_24, zl_30, zl_31, zl_36, zl_42, zl_44, zl_48, zl_57, zl_58, zl_59, zl_60, zl_61, zl_62, zl_63, zl_64, zl_72, zl_73, zl_96, zl_99, zl_100, zl_104, zl_107, zl_111, zl_114, zl_116, zl_120, zl_200, zl_255, zl_256, zl_360, zl_600, zl_800, zl_1000, zl_2000]
      refine ⟨fun _ => ?_, fun z => absurd z (by omega)⟩
      exact hh
    · rw [if_neg c2]
      exact ⟨fun z => absurd rfl z, fun _ => hneg 1 (by rw [cLock_1 c2]; rfl) (by omega) (by omega)⟩
  · rw [if_neg c]
    exact ⟨fun _ => hneg 1 (by rw [cTask_1 c]; rfl) (by omega) (by omega), fun z => absurd rfl z⟩
end HT
