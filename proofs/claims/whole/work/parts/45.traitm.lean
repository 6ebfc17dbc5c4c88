section TR2
variable {E : XE} {h : Mem} {s : St} {Q : Int32 → Mem → Prop}
theorem qM_task {t a : Int} (hv : SV s) (hb : SB h s) (ht : I32 t) (hi : I32 a) (hq : ∀ h', SB h' (s.rfd (cTrait s.w t a)) → FB h h' → Q (zI (cAns (cTrait s.w t a) (traitS s.w t a))) h') : CALLI E mM_task [.ref 60, .int (zI t), .int (zI a)] h Q := by
  refine fM_task (sM_isTask hb.w hv.w ht ?_)
  by_cases c : 0 ≤ t ∧ t < s.w 72
  · rw [if_pos c]
    refine ⟨fun _ => ?_, fun z => absurd z (by decide)⟩
    unfold cTrait at hq
    rw [cTask_0.mpr c] at hq
    have hn := hv.w.1
    unfold I32 at hi
    have K : 0 ≤ a → a < 11 → Q (zI (traitS s.w t a)) h := fun x y => by
      rw [cOth_0.mpr ⟨x, y⟩] at hq
      exact hq h hb FB.rf
    unfold traitS at K
    have A : 0 ≤ a ∧ a ≤ 7 → cnd (inb ((6 * zI a) + zI t) 73) (Q (h 61 (ix ((6 * zI a) + zI t))) h) := fun x => by
      have K := K x.1 (by omega)
      rw [if_pos (by omega)] at K
      simp (disch := omega) only [zI_add, zI_sub, zI_mul, zI_neg, zI_lt, zI_le, zI_eq, zI_div, zI_rem, ix_zI, inb_zI, nz_zI, imax_zI, imin_zI, c_t, nb01.1, nb01.2, zl_0, zl_1, zl_2, zl_3, zl_4, zl_5, zl_6, zl_7, zl_8, zl_9, zl_10, zl_11, zl_12, zl_13, zl_14, zl_15, zl_16, zl_17, zl_18, zl_19, zl_20, zl_24, zl_30, zl_31, zl_36, zl_42, zl_44, zl_48, zl_57, zl_58, zl_59, zl_60, zl_61, zl_62, zl_63, zl_64, zl_72, zl_73, zl_96, zl_99, zl_100, zl_104, zl_107, zl_111, zl_114, zl_116, zl_120, zl_200, zl_255, zl_256, zl_360, zl_600, zl_800, zl_1000, zl_2000, hb.w _]
      exact K
    simp (disch := omega) only [of_zI, zI_eq]
    refine ⟨fun e => ?_, fun e0 => ⟨fun e => ?_, fun e1 => ⟨fun e => ?_, fun e2 => ⟨fun e => ?_, fun e3 => ⟨fun e => ?_, fun e4 => ⟨fun e => ?_, fun e5 => ⟨fun e => ?_, fun e6 => ⟨fun e => ?_, fun e7 => ⟨fun e => ?_, fun e8 => ⟨fun e => ?_, fun e9 => ⟨fun e => ?_, fun e10 => ?_⟩⟩⟩⟩⟩⟩⟩⟩⟩⟩⟩
    · exact A (by omega)
    · exact A (by omega)
    · exact A (by omega)
    · exact A (by omega)
    · exact A (by omega)
    · exact A (by omega)
    · exact A (by omega)
    · exact A (by omega)
    · have K := K (by omega) (by omega)
      rw [if_neg (by omega), if_pos e] at K
      exact sM_distance hb.w hv.w c.1 c.2 K
    · have K := K (by omega) (by omega)
      rw [if_neg (by omega), if_neg (by omega), if_pos e] at K
      exact sM_late hb.w hv.w c.1 c.2 K
    · have K := K (by omega) (by omega)
      rw [if_neg (by omega), if_neg (by omega), if_neg (by omega)] at K
      exact sM_limit hb.w hv.w c.1 c.2 K
    · rw [cOth_2 (by omega)] at hq
      exact sM_refused (c := 2) hb (by omega) (by omega) hq
  · rw [if_neg c]
    unfold cTrait at hq
    rw [cTask_1 c] at hq
    exact ⟨fun z => absurd rfl z, fun _ => sM_refused (c := 1) hb (by omega) (by omega) hq⟩
end TR2
