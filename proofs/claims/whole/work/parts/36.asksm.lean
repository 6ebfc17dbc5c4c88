/-! ===== the reference's calls that ask ===== -/
section MQ
variable {E : XE} {h : Mem} {s : St} {Q : Int32 → Mem → Prop}
theorem sM_isOrder {pol : Int} (hp : I32 pol) (hq : Q (zI (if 0 ≤ pol ∧ pol < 3 then 1 else 0)) h) : CALLI E mM_isOrder [.int (zI pol)] h Q := by
  refine fM_isOrder ?_
  unfold I32 at hp
  simp (disch := omega) only [zI_add, zI_sub, zI_mul, zI_neg, zI_lt, zI_le, zI_eq, zI_div, zI_rem, ix_zI, inb_zI, nz_zI, imax_zI, imin_zI, c_t, nb01.1, nb01.2, zl_0, zl_1, zl_2, zl_3, zl_4, zl_5, zl_6, zl_7, zl_8, zl_9, zl_10, zl_11, zl_12, zl_13, zl_14, zl_15, zl_16, zl_17, zl_18, zl_19, zl_20, zl_24, zl_30, zl_31, zl_36, zl_42, zl_44, zl_48, zl_57, zl_58, zl_59, zl_60, zl_61, zl_62, zl_63, zl_64, zl_72, zl_73, zl_96, zl_99, zl_100, zl_104, zl_107, zl_111, zl_114, zl_116, zl_120, zl_200, zl_255, zl_256, zl_360, zl_600, zl_800, zl_1000, zl_2000, zI_L, lg_ltz, lg_gtz, zL_add, zL_sub, zL_mul, zL_div, zL_rem, nzL_zL, zm_0, zm_1, zm_2, zm_5, zm_8, zm_9, zm_15, zm_16, zm_11, zm_20, zm_59, zm_60, zm_96, zm_99, zm_255, zm_600, zm_2147483647, zm_4000000000000000000, zm_3, zm_48, zm_57]
  refine sM_in (by omega) (by omega) (by omega) ?_
  by_cases c : 0 ≤ pol ∧ pol < 3
  · rw [if_pos c] at hq
    rw [if_pos (by omega)]
    simp (disch := omega) only [zI_add, zI_sub, zI_mul, zI_neg, zI_lt, zI_le, zI_eq, zI_div, zI_rem, ix_zI, inb_zI, nz_zI, imax_zI, imin_zI, c_t, nb01.1, nb01.2, zl_0, zl_1, zl_2, zl_3, zl_4, zl_5, zl_6, zl_7, zl_8, zl_9, zl_10, zl_11, zl_12, zl_13, zl_14, zl_15, zl_16, zl_17, zl_18, zl_19, zl_20, zl_24, zl_30, zl_31, zl_36, zl_42, zl_44, zl_48, zl_57, zl_58, zl_59, zl_60, zl_61, zl_62, zl_63, zl_64, zl_72, zl_73, zl_96, zl_99, zl_100, zl_104, zl_107, zl_111, zl_114, zl_116, zl_120, zl_200, zl_255, zl_256, zl_360, zl_600, zl_800, zl_1000, zl_2000]
    exact hq
  · rw [if_neg c] at hq
    rw [if_neg (by omega)]
    simp (disch := omega) only [zI_add, zI_sub, zI_mul, zI_neg, zI_lt, zI_le, zI_eq, zI_div, zI_rem, ix_zI, inb_zI, nz_zI, imax_zI, imin_zI, c_t, nb01.1, nb01.2, zl_0, zl_1, zl_2, zl_3, zl_4, zl_5, zl_6, zl_7, zl_8, zl_9, zl_10, zl_11, zl_12, zl_13, zl_14, zl_15, zl_16, zl_17, zl_18, zl_19, zl_20, zl_24, zl_30, zl_31, zl_36, zl_42, zl_44, zl_48, zl_57, zl_58, zl_59, zl_60, zl_61, zl_62, zl_63, zl_64, zl_72, zl_73, zl_96, zl_99, zl_100, zl_104, zl_107, zl_111, zl_114, zl_116, zl_120, zl_200, zl_255, zl_256, zl_360, zl_600, zl_800, zl_1000, zl_2000]
    exact hq
theorem sM_isLock {l : Int} (hp : I32 l) (hq : Q (zI (if 0 ≤ l ∧ l < 4 then 1 else 0)) h) : CALLI E mM_isLock [.int (zI l)] h Q := by
  refine fM_isLock ?_
  unfold I32 at hp
  simp (disch := omega) only [zI_add, zI_sub, zI_mul, zI_neg, zI_lt, zI_le, zI_eq, zI_div, zI_rem, ix_zI, inb_zI, nz_zI, imax_zI, imin_zI, c_t, nb01.1, nb01.2, zl_0, zl_1, zl_2, zl_3, zl_4, zl_5, zl_6, zl_7, zl_8, zl_9, zl_10, zl_11, zl_12, zl_13, zl_14, zl_15, zl_16, zl_17, zl_18, zl_19, zl_20, zl_24, zl_30, zl_31, zl_36, zl_42, zl_44, zl_48, zl_57, zl_58, zl_59, zl_60, zl_61, zl_62, zl_63, zl_64, zl_72, zl_73, zl_96, zl_99, zl_100, zl_104, zl_107, zl_111, zl_114, zl_116, zl_120, zl_200, zl_255, zl_256, zl_360, zl_600, zl_800, zl_1000, zl_2000, zI_L, lg_ltz, lg_gtz, zL_add, zL_sub, zL_mul, zL_div, zL_rem, nzL_zL, zm_0, zm_1, zm_2, zm_5, zm_8, zm_9, zm_15, zm_16, zm_11, zm_20, zm_59, zm_60, zm_96, zm_99, zm_255, zm_600, zm_2147483647, zm_4000000000000000000, zm_3, zm_48, zm_57]
  refine sM_in (by omega) (by omega) (by omega) ?_
  by_cases c : 0 ≤ l ∧ l < 4
  · rw [if_pos c] at hq
    rw [if_pos (by omega)]
    simp (disch := omega) only [zI_add, zI_sub, zI_mul, zI_neg, zI_lt, zI_le, zI_eq, zI_div, zI_rem, ix_zI, inb_zI, nz_zI, imax_zI, imin_zI, c_t, nb01.1, nb01.2, zl_0, zl_1, zl_2, zl_3, zl_4, zl_5, zl_6, zl_7, zl_8, zl_9, zl_10, zl_11, zl_12, zl_13, zl_14, zl_15, zl_16, zl_17, zl_18, zl_19, zl_20, zl_24, zl_30, zl_31, zl_36, zl_42, zl_44, zl_48, zl_57, zl_58, zl_59, zl_60, zl_61, zl_62, zl_63, zl_64, zl_72, zl_73, zl_96, zl_99, zl_100, zl_104, zl_107, zl_111, zl_114, zl_116, zl_120, zl_200, zl_255, zl_256, zl_360, zl_600, zl_800, zl_1000, zl_2000]
    exact hq
  · rw [if_neg c] at hq
    rw [if_neg (by omega)]
    simp (disch := omega) only [zI_add, zI_sub, zI_mul, zI_neg, zI_lt, zI_le, zI_eq, zI_div, zI_rem, ix_zI, inb_zI, nz_zI, imax_zI, imin_zI, c_t, nb01.1, nb01.2, zl_0, zl_1, zl_2, zl_3, zl_4, zl_5, zl_6, zl_7, zl_8, zl_9, zl_10, zl_11, zl_12, zl_13, zl_14, zl_15, zl_16, zl_17, zl_18, zl_19, zl_20, zl_24, zl_30, zl_31, zl_36, zl_42, zl_44, zl_48, zl_57, zl_58, zl_59, zl_60, zl_61, zl_62, zl_63, zl_64, zl_72, zl_73, zl_96, zl_99, zl_100, zl_104, zl_107, zl_111, zl_114, zl_116, zl_120, zl_200, zl_255, zl_256, zl_360, zl_600, zl_800, zl_1000, zl_2000]
    exact hq
theorem sM_wrongTime {n : Int} (hb : SB h s) (hn : I32 n) (hq : ∀ h', SB h' (s.rfd (cOut n 0 600)) → FB h h' → Q (zI (cAns (cOut n 0 600) 0)) h') : CALLI E mM_wrongTime [.ref 60, .int (zI n)] h Q := by
  refine fM_wrongTime ?_
  unfold I32 at hn
  simp (disch := omega) only [zI_add, zI_sub, zI_mul, zI_neg, zI_lt, zI_le, zI_eq, zI_div, zI_rem, ix_zI, inb_zI, nz_zI, imax_zI, imin_zI, c_t, nb01.1, nb01.2, zl_0, zl_1, zl_2, zl_3, zl_4, zl_5, zl_6, zl_7, zl_8, zl_9, zl_10, zl_11, zl_12, zl_13, zl_14, zl_15, zl_16, zl_17, zl_18, zl_19, zl_20, zl_24, zl_30, zl_31, zl_36, zl_42, zl_44, zl_48, zl_57, zl_58, zl_59, zl_60, zl_61, zl_62, zl_63, zl_64, zl_72, zl_73, zl_96, zl_99, zl_100, zl_104, zl_107, zl_111, zl_114, zl_116, zl_120, zl_200, zl_255, zl_256, zl_360, zl_600, zl_800, zl_1000, zl_2000, zI_L, lg_ltz, lg_gtz, zL_add, zL_sub, zL_mul, zL_div, zL_rem, nzL_zL, zm_0, zm_1, zm_2, zm_5, zm_8, zm_9, zm_15, zm_16, zm_11, zm_20, zm_59, zm_60, zm_96, zm_99, zm_255, zm_600, zm_2147483647, zm_4000000000000000000, zm_3, zm_48, zm_57]
  refine sM_in (by omega) (by omega) (by omega) ?_
  by_cases c : 0 ≤ n ∧ n ≤ 600
  · rw [cOut_0.mpr c] at hq
    rw [if_pos c]
    simp (disch := omega) only [zI_add, zI_sub, zI_mul, zI_neg, zI_lt, zI_le, zI_eq, zI_div, zI_rem, ix_zI, inb_zI, nz_zI, imax_zI, imin_zI, c_t, nb01.1, nb01.2, zl_0, zl_1, zl_2, zl_3, zl_4, zl_5, zl_6, zl_7, zl_8, zl_9, zl_10, zl_11, zl_12, zl_13, zl_14, zl_15, zl_16, zl_17, zl_18, zl_19, zl_20, zl_24, zl_30, zl_31, zl_36, zl_42, zl_44, zl_48, zl_57, zl_58, zl_59, zl_60, zl_61, zl_62, zl_63, zl_64, zl_72, zl_73, zl_96, zl_99, zl_100, zl_104, zl_107, zl_111, zl_114, zl_116, zl_120, zl_200, zl_255, zl_256, zl_360, zl_600, zl_800, zl_1000, zl_2000]
    exact ⟨fun z => absurd z (by omega), fun _ => hq h hb FB.rf⟩
  · rw [if_neg c]
    simp (disch := omega) only [zI_add, zI_sub, zI_mul, zI_neg, zI_lt, zI_le, zI_eq, zI_div, zI_rem, ix_zI, inb_zI, nz_zI, imax_zI, imin_zI, c_t, nb01.1, nb01.2, zl_0, zl_1, zl_2, zl_3, zl_4, zl_5, zl_6, zl_7, zl_8, zl_9, zl_10, zl_11, zl_12, zl_13, zl_14, zl_15, zl_16, zl_17, zl_18, zl_19, zl_20, zl_24, zl_30, zl_31, zl_36, zl_42, zl_44, zl_48, zl_57, zl_58, zl_59, zl_60, zl_61, zl_62, zl_63, zl_64, zl_72, zl_73, zl_96, zl_99, zl_100, zl_104, zl_107, zl_111, zl_114, zl_116, zl_120, zl_200, zl_255, zl_256, zl_360, zl_600, zl_800, zl_1000, zl_2000]
    refine ⟨fun _ => ⟨fun z => ?_, fun z => ?_⟩, fun z => absurd trivial z⟩
    · have e : cOut n 0 600 = 6 := by unfold cOut; rw [if_neg (by omega), if_pos (by omega)]
      rw [e] at hq
      exact sM_refused (c := 6) hb (by omega) (by omega) hq
    · have e : cOut n 0 600 = 4 := by unfold cOut; rw [if_pos (by omega)]
      rw [e] at hq
      exact sM_refused (c := 4) hb (by omega) (by omega) hq
theorem cAns_lt {c : Nat} (h : c ≠ 0) (x : Int) : cAns c x = -(c : Int) := by unfold cAns; rw [if_neg h]
theorem sM_wrongIn {pol t : Int} (hv : SV s) (hb : SB h s) (hp : I32 pol) (ht : I32 t) (hq : ∀ h', SB h' (s.rfd (cIn s.w pol t)) → FB h h' → Q (zI (cAns (cIn s.w pol t) 0)) h') : CALLI E mM_wrongIn [.ref 60, .int (zI pol), .int (zI t)] h Q := by
  refine fM_wrongIn (sM_isOrder hp ?_)
  have hn := hv.w.1
  by_cases c : 0 ≤ pol ∧ pol < 3
  · rw [if_pos c]
    refine ⟨fun _ => sM_isTask hb.w hv.w ht ?_, fun z => absurd z (by decide)⟩
    by_cases c2 : 0 ≤ t ∧ t < s.w 72
    · rw [if_pos c2]
      refine ⟨fun _ => sM_isOn hb.w hv.w (by omega) (by omega) ?_, fun z => absurd z (by decide)⟩
      by_cases c3 : s.w (42 + t) = 1
      · rw [if_pos c3]
        rw [cIn_0.mpr ⟨c, c2.1, c2.2, c3⟩] at hq
        exact ⟨fun z => absurd z (by decide), fun _ => hq h hb FB.rf⟩
      · rw [if_neg c3]
        have e : cIn s.w pol t = 3 := by
          unfold cIn
          rw [cFst_0.mpr ⟨cOth_0.mpr c, cTask_0.mpr c2⟩]
          show cOff s.w t = 3
          unfold cOff
          rw [if_neg (fun z => c3 z.2.2)]
        rw [e] at hq
        exact ⟨fun _ => sM_refused (c := 3) hb (by omega) (by omega) hq, fun z => absurd rfl z⟩
    · rw [if_neg c2]
      have e : cIn s.w pol t = 1 := by
        unfold cIn
        rw [cOth_0.mpr c]
        have : cTask s.w t = 1 := by unfold cTask; rw [if_neg c2]
        rw [this]
        rfl
      rw [e] at hq
      exact ⟨fun z => absurd rfl z, fun _ => sM_refused (c := 1) hb (by omega) (by omega) hq⟩
  · rw [if_neg c]
    have e : cIn s.w pol t = 2 := by
      have : cOth pol 3 = 2 := by unfold cOth; rw [if_pos (by omega)]
      unfold cIn
      rw [this]
      rfl
    rw [e] at hq
    exact ⟨fun z => absurd rfl z, fun _ => sM_refused (c := 2) hb (by omega) (by omega) hq⟩
theorem cTask_1 {w : Int → Int} {t : Int} (h : ¬ (0 ≤ t ∧ t < w 72)) : cTask w t = 1 := by unfold cTask; rw [if_neg h]
theorem cOth_2 {a n : Int} (h : ¬ (0 ≤ a ∧ a < n)) : cOth a n = 2 := by unfold cOth; rw [if_pos (by omega)]
theorem cLock_1 {a : Int} (h : ¬ (0 ≤ a ∧ a < 4)) : cLock a = 1 := by unfold cLock; rw [if_pos (by omega)]
theorem cGe_4 {a lo : Int} (h : ¬ lo ≤ a) : cGe a lo = 4 := by unfold cGe; rw [if_pos (by omega)]
/-- behind a looked at time or policy: on, or out -/
theorem sM_on0 {P : Prop} {c : Nat} (h6 : c ≤ 6) (h0 : c = 0 → P) (h1 : c ≠ 0 → Q (zI (cAns c 0)) h) : (0 ≤ zI (cAns c 0) → P) ∧ (¬ 0 ≤ zI (cAns c 0) → Q (zI (cAns c 0)) h) := by
  by_cases e : c = 0
  · subst e
    exact ⟨fun _ => h0 rfl, fun z => absurd (by decide) z⟩
  · rw [cAns_lt e, zl_0, zI_le (by omega) (by omega) (by omega) (by omega)]
    refine ⟨fun z => by omega, fun _ => ?_⟩
    have := h1 e
    rw [cAns_lt e] at this
    exact this
theorem cAns_x {c : Nat} (h : c ≠ 0) {x y : Int} : cAns c x = cAns c y := by rw [cAns_lt h, cAns_lt h]
theorem qM_asked {t n : Int} (hv : SV s) (hb : SB h s) (ht : I32 t) (hn : I32 n) (hq : ∀ h', SB h' (s.rfd (cFst (cTask s.w t) (cOut n 0 600))) → FB h h' → Q (zI (cAns (cFst (cTask s.w t) (cOut n 0 600)) (asked s.w t n))) h') : CALLI E mM_asked [.ref 60, .int (zI t), .int (zI n)] h Q := by
  refine fM_asked (sM_isTask hb.w hv.w ht ?_)
  by_cases c : 0 ≤ t ∧ t < s.w 72
  · rw [if_pos c]
    rw [cTask_0.mpr c] at hq
    refine ⟨fun z => absurd z (by decide), fun _ => sM_wrongTime hb hn fun h' hb' hf => sM_on0 (cOut_b _ _ _) (fun z => ?_) (fun z => ?_)⟩
    · have hq := hq h' hb' hf
      rw [show cFst 0 (cOut n 0 600) = cOut n 0 600 from rfl, z] at hq
      have zz := cOut_0.mp z
      rw [z] at hb'
      exact sM_askedOf hb'.w hv.w c.1 c.2 (by omega) hq
    · rw [cAns_x z (y := asked s.w t n)]
      exact hq h' hb' hf
  · rw [if_neg c]
    rw [cTask_1 c] at hq
    exact ⟨fun _ => sM_refused (c := 1) hb (by omega) (by omega) fun h' hb' hf => ⟨fun z => absurd z (by decide), fun _ => hq h' hb' hf⟩, fun z => absurd rfl z⟩
theorem qM_owed {t n : Int} (hv : SV s) (hb : SB h s) (ht : I32 t) (hn : I32 n) (hq : ∀ h', SB h' (s.rfd (cFst (cTask s.w t) (cOut n 0 600))) → FB h h' → Q (zI (cAns (cFst (cTask s.w t) (cOut n 0 600)) (owed s.w t n))) h') : CALLI E mM_owed [.ref 60, .int (zI t), .int (zI n)] h Q := by
  refine fM_owed (sM_isTask hb.w hv.w ht ?_)
  by_cases c : 0 ≤ t ∧ t < s.w 72
  · rw [if_pos c]
    rw [cTask_0.mpr c] at hq
    refine ⟨fun z => absurd z (by decide), fun _ => sM_wrongTime hb hn fun h' hb' hf => sM_on0 (cOut_b _ _ _) (fun z => ?_) (fun z => ?_)⟩
    · have hq := hq h' hb' hf
      rw [show cFst 0 (cOut n 0 600) = cOut n 0 600 from rfl, z] at hq
      have zz := cOut_0.mp z
      rw [z] at hb'
      exact sM_owedOf hb'.w hv.w c.1 c.2 (by omega) hq
    · rw [cAns_x z (y := owed s.w t n)]
      exact hq h' hb' hf
  · rw [if_neg c]
    rw [cTask_1 c] at hq
    exact ⟨fun _ => sM_refused (c := 1) hb (by omega) (by omega) fun h' hb' hf => ⟨fun z => absurd z (by decide), fun _ => hq h' hb' hf⟩, fun z => absurd rfl z⟩
theorem qM_demand {n : Int} (hv : SV s) (hb : SB h s) (hn : I32 n) (hq : ∀ h', SB h' (s.rfd (cOut n 0 600)) → FB h h' → Q (zI (cAns (cOut n 0 600) (dem s.w n))) h') : CALLI E mM_demand [.ref 60, .int (zI n)] h Q := by
  refine fM_demand (sM_wrongTime hb hn fun h' hb' hf => sM_on0 (cOut_b _ _ _) (fun z => ?_) (fun z => ?_))
  · have hq := hq h' hb' hf
    rw [z] at hq
    have zz := cOut_0.mp z
    rw [z] at hb'
    exact sM_demandOf hb'.w hv.w (by omega) hq
  · rw [cAns_x z (y := dem s.w n)]
    exact hq h' hb' hf
theorem qM_busy (hv : SV s) (hb : SB h s) (hq : ∀ h', SB h' s → FB h h' → Q (zI (busy s.w)) h') : CALLI E mM_busy [.ref 60] h Q := fM_busy (sM_busyOf hb.w hv.w (hq h hb FB.rf))
theorem qM_miss (hv : SV s) (hb : SB h s) (hq : ∀ h', SB h' s → FB h h' → Q (zI (missT s.w)) h') : CALLI E mM_miss [.ref 60] h Q :=
  fM_miss (sM_findsPoints hb.w hv.w fun h' hf => by
    rw [hf.2.2.2.1]
    exact hq h' (hf.KM.sb hb) hf.KM.fb)
theorem qM_spare (hv : SV s) (hb : SB h s) (hq : ∀ h', SB h' s → FB h h' → Q (zI (spR s.w (ptsL s.w) 1000)) h') : CALLI E mM_spare [.ref 60] h Q :=
  fM_spare (sM_findsPoints hb.w hv.w fun h' hf => by
    rw [hf.2.2.2.2.1]
    exact hq h' (hf.KM.sb hb) hf.KM.fb)
theorem qM_point {i : Int} (hv : SV s) (hb : SB h s) (hi : I32 i) (hq : ∀ h', SB h' (s.rfd (cGe i (-1))) → FB h h' → Q (zI (cAns (cGe i (-1)) (pointS s.w i))) h') : CALLI E mM_point [.ref 60, .int (zI i)] h Q := by
  refine fM_point ?_
  unfold I32 at hi
  have hl := ptsL_len hv.w
  simp (disch := omega) only [zI_add, zI_sub, zI_mul, zI_neg, zI_lt, zI_le, zI_eq, zI_div, zI_rem, ix_zI, inb_zI, nz_zI, imax_zI, imin_zI, c_t, nb01.1, nb01.2, zl_0, zl_1, zl_2, zl_3, zl_4, zl_5, zl_6, zl_7, zl_8, zl_9, zl_10, zl_11, zl_12, zl_13, zl_14, zl_15, zl_16, zl_17, zl_18, zl_19, zl_20, zl_24, zl_30, zl_31, zl_36, zl_42, zl_44, zl_48, zl_57, zl_58, zl_59, zl_60, zl_61, zl_62, zl_63, zl_64, zl_72, zl_73, zl_96, zl_99, zl_100, zl_104, zl_107, zl_111, zl_114, zl_116, zl_120, zl_200, zl_255, zl_256, zl_360, zl_600, zl_800, zl_1000, zl_2000]
  refine ⟨fun z => sM_findsPoints hb.w hv.w fun h' hf => ?_, fun z => ?_⟩
  · rw [cGe_0.mpr z] at hq
    have K : Q (zI (pointS s.w i)) h' := hq h' (hf.KM.sb hb) hf.KM.fb
    rw [hf.2.2.1]
    unfold pointS at K
    simp (disch := omega) only [zI_add, zI_sub, zI_mul, zI_neg, zI_lt, zI_le, zI_eq, zI_div, zI_rem, ix_zI, inb_zI, nz_zI, imax_zI, imin_zI, c_t, nb01.1, nb01.2, zl_0, zl_1, zl_2, zl_3, zl_4, zl_5, zl_6, zl_7, zl_8, zl_9, zl_10, zl_11, zl_12, zl_13, zl_14, zl_15, zl_16, zl_17, zl_18, zl_19, zl_20, zl_24, zl_30, zl_31, zl_36, zl_42, zl_44, zl_48, zl_57, zl_58, zl_59, zl_60, zl_61, zl_62, zl_63, zl_64, zl_72, zl_73, zl_96, zl_99, zl_100, zl_104, zl_107, zl_111, zl_114, zl_116, zl_120, zl_200, zl_255, zl_256, zl_360, zl_600, zl_800, zl_1000, zl_2000]
    refine ⟨fun z2 => ⟨fun z3 => ?_, fun z3 => ?_⟩, fun z2 => ?_⟩
    · rw [if_neg (by omega), if_neg (by omega)] at K
      exact K
    · rw [if_neg (by omega), if_pos (by omega)] at K
      have h67 := hf.2.2.2.2.2 i.toNat (by omega)
      simp (disch := omega) only [zI_add, zI_sub, zI_mul, zI_neg, zI_lt, zI_le, zI_eq, zI_div, zI_rem, ix_zI, inb_zI, nz_zI, imax_zI, imin_zI, c_t, nb01.1, nb01.2, zl_0, zl_1, zl_2, zl_3, zl_4, zl_5, zl_6, zl_7, zl_8, zl_9, zl_10, zl_11, zl_12, zl_13, zl_14, zl_15, zl_16, zl_17, zl_18, zl_19, zl_20, zl_24, zl_30, zl_31, zl_36, zl_42, zl_44, zl_48, zl_57, zl_58, zl_59, zl_60, zl_61, zl_62, zl_63, zl_64, zl_72, zl_73, zl_96, zl_99, zl_100, zl_104, zl_107, zl_111, zl_114, zl_116, zl_120, zl_200, zl_255, zl_256, zl_360, zl_600, zl_800, zl_1000, zl_2000, h67]
      exact K
    · rw [if_pos (by omega)] at K
      exact K
  · rw [cGe_4 z] at hq
    exact sM_refused (c := 4) hb (by omega) (by omega) hq
theorem qM_order {pol i : Int} (hv : SV s) (hb : SB h s) (hp : I32 pol) (hi : I32 i) (hq : ∀ h', SB h' (s.rfd (cFst (cOth pol 3) (cGe i 0))) → FB h h' → Q (zI (cAns (cFst (cOth pol 3) (cGe i 0)) (ordS s.w pol i))) h') : CALLI E mM_order [.ref 60, .int (zI pol), .int (zI i)] h Q := by
  refine fM_order (sM_isOrder hp ?_)
  by_cases c : 0 ≤ pol ∧ pol < 3
  · rw [if_pos c]
    rw [cOth_0.mpr c] at hq
    unfold I32 at hi
    refine ⟨fun _ => ?_, fun z => absurd z (by decide)⟩
    have hlen := ordL_len hv.w (pol := pol)
    simp (disch := omega) only [zI_add, zI_sub, zI_mul, zI_neg, zI_lt, zI_le, zI_eq, zI_div, zI_rem, ix_zI, inb_zI, nz_zI, imax_zI, imin_zI, c_t, nb01.1, nb01.2, zl_0, zl_1, zl_2, zl_3, zl_4, zl_5, zl_6, zl_7, zl_8, zl_9, zl_10, zl_11, zl_12, zl_13, zl_14, zl_15, zl_16, zl_17, zl_18, zl_19, zl_20, zl_24, zl_30, zl_31, zl_36, zl_42, zl_44, zl_48, zl_57, zl_58, zl_59, zl_60, zl_61, zl_62, zl_63, zl_64, zl_72, zl_73, zl_96, zl_99, zl_100, zl_104, zl_107, zl_111, zl_114, zl_116, zl_120, zl_200, zl_255, zl_256, zl_360, zl_600, zl_800, zl_1000, zl_2000]
    refine ⟨fun z => sM_lines hb.w hv.w (by omega) fun h' hk hl => ?_, fun z => ?_⟩
    · rw [cGe_0.mpr z] at hq
      have K : Q (zI (ordS s.w pol i)) h' := hq h' (hk.sb hb) hk.fb
      unfold ordS at K
      rw [hl.1]
      simp (disch := omega) only [zI_add, zI_sub, zI_mul, zI_neg, zI_lt, zI_le, zI_eq, zI_div, zI_rem, ix_zI, inb_zI, nz_zI, imax_zI, imin_zI, c_t, nb01.1, nb01.2, zl_0, zl_1, zl_2, zl_3, zl_4, zl_5, zl_6, zl_7, zl_8, zl_9, zl_10, zl_11, zl_12, zl_13, zl_14, zl_15, zl_16, zl_17, zl_18, zl_19, zl_20, zl_24, zl_30, zl_31, zl_36, zl_42, zl_44, zl_48, zl_57, zl_58, zl_59, zl_60, zl_61, zl_62, zl_63, zl_64, zl_72, zl_73, zl_96, zl_99, zl_100, zl_104, zl_107, zl_111, zl_114, zl_116, zl_120, zl_200, zl_255, zl_256, zl_360, zl_600, zl_800, zl_1000, zl_2000]
      refine ⟨fun z2 => ?_, fun z2 => ?_⟩
      · rw [if_neg (by omega)] at K
        exact K
      · rw [if_pos (by omega)] at K
        have h68 := hl.2 i.toNat (by omega)
        simp (disch := omega) only [zI_add, zI_sub, zI_mul, zI_neg, zI_lt, zI_le, zI_eq, zI_div, zI_rem, ix_zI, inb_zI, nz_zI, imax_zI, imin_zI, c_t, nb01.1, nb01.2, zl_0, zl_1, zl_2, zl_3, zl_4, zl_5, zl_6, zl_7, zl_8, zl_9, zl_10, zl_11, zl_12, zl_13, zl_14, zl_15, zl_16, zl_17, zl_18, zl_19, zl_20, zl_24, zl_30, zl_31, zl_36, zl_42, zl_44, zl_48, zl_57, zl_58, zl_59, zl_60, zl_61, zl_62, zl_63, zl_64, zl_72, zl_73, zl_96, zl_99, zl_100, zl_104, zl_107, zl_111, zl_114, zl_116, zl_120, zl_200, zl_255, zl_256, zl_360, zl_600, zl_800, zl_1000, zl_2000, h68]
        exact K
    · rw [cGe_4 z] at hq
      exact sM_refused (c := 4) hb (by omega) (by omega) hq
  · rw [if_neg c]
    rw [cOth_2 c] at hq
    exact ⟨fun z => absurd rfl z, fun _ => sM_refused (c := 2) hb (by omega) (by omega) hq⟩
theorem qM_ceiling {pol l : Int} (hv : SV s) (hb : SB h s) (hp : I32 pol) (hl : I32 l) (hq : ∀ h', SB h' (s.rfd (cFst (cOth pol 3) (cLock l))) → FB h h' → Q (zI (cAns (cFst (cOth pol 3) (cLock l)) (ceilS s.w pol l))) h') : CALLI E mM_ceiling [.ref 60, .int (zI pol), .int (zI l)] h Q := by
  refine fM_ceiling (sM_isOrder hp ?_)
  by_cases c : 0 ≤ pol ∧ pol < 3
  · rw [if_pos c]
    rw [cOth_0.mpr c] at hq
    refine ⟨fun _ => sM_isLock hl ?_, fun z => absurd z (by decide)⟩
    by_cases c2 : 0 ≤ l ∧ l < 4
    · rw [if_pos c2]
      rw [cLock_0.mpr c2] at hq
      exact ⟨fun z => absurd z (by decide), fun _ => sM_ceilingOf hb.w hv.w c2.1 c2.2 (by omega) fun h' hk => hq h' (hk.sb hb) hk.fb⟩
    · rw [if_neg c2]
      rw [cLock_1 c2] at hq
      exact ⟨fun _ => sM_refused (c := 1) hb (by omega) (by omega) hq, fun z => absurd rfl z⟩
  · rw [if_neg c]
    rw [cOth_2 c] at hq
    exact ⟨fun z => absurd rfl z, fun _ => sM_refused (c := 2) hb (by omega) (by omega) hq⟩
theorem qM_fits {pol : Int} (hv : SV s) (hb : SB h s) (hp : I32 pol) (hq : ∀ h', SB h' (s.rfd (cOth pol 3)) → FB h h' → Q (zI (cAns (cOth pol 3) (fitsM s.w pol : Nat))) h') : CALLI E mM_fits [.ref 60, .int (zI pol)] h Q := by
  refine fM_fits (sM_isOrder hp ?_)
  by_cases c : 0 ≤ pol ∧ pol < 3
  · rw [if_pos c]
    rw [cOth_0.mpr c] at hq
    exact ⟨fun z => absurd z (by decide), fun _ => sM_fitsAll hb.w hv.w (by omega) fun h' hk => hq h' (hk.sb hb) hk.fb⟩
  · rw [if_neg c]
    rw [cOth_2 c] at hq
    exact ⟨fun _ => sM_refused (c := 2) hb (by omega) (by omega) hq, fun z => absurd rfl z⟩
theorem qM_blocking {pol t : Int} (hv : SV s) (hb : SB h s) (hp : I32 pol) (ht : I32 t) (hq : ∀ h', SB h' (s.rfd (cIn s.w pol t)) → FB h h' → Q (zI (cAns (cIn s.w pol t) (blkS s.w pol t))) h') : CALLI E mM_blocking [.ref 60, .int (zI pol), .int (zI t)] h Q := by
  refine fM_blocking (sM_wrongIn hv hb hp ht fun h' hb' hf => sM_on0 (cIn_b _ _ _) (fun z => ?_) (fun z => ?_))
  · have zz := cIn_0.mp z
    rw [z] at hb' hq
    refine sM_aheadOf hb'.w hv.w zz.2.1 zz.2.2.1 zz.2.2.2 (by omega) fun h2 hk => ?_
    have hb2 := hk.sb hb'
    exact sM_behindOf hb2.w hv.w zz.2.1 zz.2.2.1 (aheadM_lt hv.w) (sM_blockingBy hb2.w hv.w zz.2.1 zz.2.2.1 (aheadM_lt hv.w) (behM_lt hv.w) (hq h2 hb2 (hf.tr hk.fb)))
  · rw [cAns_x z (y := blkS s.w pol t)]
    exact hq h' hb' hf
theorem qM_response {pol t : Int} (hv : SV s) (hb : SB h s) (hp : I32 pol) (ht : I32 t) (hq : ∀ h', SB h' (s.rfd (cIn s.w pol t)) → FB h h' → Q (zI (cAns (cIn s.w pol t) (respS s.w pol t))) h') : CALLI E mM_response [.ref 60, .int (zI pol), .int (zI t)] h Q := by
  refine fM_response (sM_wrongIn hv hb hp ht fun h' hb' hf => sM_on0 (cIn_b _ _ _) (fun z => ?_) (fun z => ?_))
  · have zz := cIn_0.mp z
    rw [z] at hb' hq
    exact sM_responseOf hb'.w hv.w zz.2.1 zz.2.2.1 zz.2.2.2 (by omega) fun h2 hk _ => hq h2 (hk.sb hb') (hf.tr hk.fb)
  · rw [cAns_x z (y := respS s.w pol t)]
    exact hq h' hb' hf
theorem qM_rounds {pol t : Int} (hv : SV s) (hb : SB h s) (hp : I32 pol) (ht : I32 t) (hq : ∀ h', SB h' (s.rfd (cIn s.w pol t)) → FB h h' → Q (zI (cAns (cIn s.w pol t) (rndS s.w pol t))) h') : CALLI E mM_rounds [.ref 60, .int (zI pol), .int (zI t)] h Q := by
  refine fM_rounds (sM_wrongIn hv hb hp ht fun h' hb' hf => sM_on0 (cIn_b _ _ _) (fun z => ?_) (fun z => ?_))
  · have zz := cIn_0.mp z
    rw [z] at hb' hq
    have hb' : SB h' s := hb'
    refine sM_responseOf hb'.w hv.w zz.2.1 zz.2.2.1 zz.2.2.2 (by omega) fun h2 hk hr => ?_
    have rb := resp_b hv.w zz.2.1 zz.2.2.1 (aheadM s.w pol t) (behM s.w (aheadM s.w pol t) t)
    have := hq h2 (hk.sb hb') (hf.tr hk.fb)
    unfold rndS respS at this
    simp (disch := omega) only [zI_add, zI_sub, zI_mul, zI_neg, zI_lt, zI_le, zI_eq, zI_div, zI_rem, ix_zI, inb_zI, nz_zI, imax_zI, imin_zI, c_t, nb01.1, nb01.2, zl_0, zl_1, zl_2, zl_3, zl_4, zl_5, zl_6, zl_7, zl_8, zl_9, zl_10, zl_11, zl_12, zl_13, zl_14, zl_15, zl_16, zl_17, zl_18, zl_19, zl_20, zl_24, zl_30, zl_31, zl_36, zl_42, zl_44, zl_48, zl_57, zl_58, zl_59, zl_60, zl_61, zl_62, zl_63, zl_64, zl_72, zl_73, zl_96, zl_99, zl_100, zl_104, zl_107, zl_111, zl_114, zl_116, zl_120, zl_200, zl_255, zl_256, zl_360, zl_600, zl_800, zl_1000, zl_2000]
    refine ⟨fun z2 => ?_, fun z2 => ?_⟩
    · rw [if_neg (by omega)] at this
      rw [hr]
      exact this
    · rw [if_pos (by omega)] at this
      exact this
  · rw [cAns_x z (y := rndS s.w pol t)]
    exact hq h' hb' hf
theorem qM_lawful {i : Int} (hv : SV s) (hb : SB h s) (hi : I32 i) (hq : ∀ h', SB h' (s.rfd (cGe i 0)) → FB h h' → Q (zI (cAns (cGe i 0) (lawS s.w i))) h') : CALLI E mM_lawful [.ref 60, .int (zI i)] h Q := by
  unfold I32 at hi
  by_cases c : 0 ≤ i
  · rw [cGe_0.mpr c] at hq
    exact sM_lawful hb.w hv.w (by omega) fun h' hk => hq h' (hk.sb hb) hk.fb
  · rw [cGe_4 c] at hq
    refine fM_lawful ?_
    simp (disch := omega) only [zI_add, zI_sub, zI_mul, zI_neg, zI_lt, zI_le, zI_eq, zI_div, zI_rem, ix_zI, inb_zI, nz_zI, imax_zI, imin_zI, c_t, nb01.1, nb01.2, zl_0, zl_1, zl_2, zl_3, zl_4, zl_5, zl_6, zl_7, zl_8, zl_9, zl_10, zl_11, zl_12, zl_13, zl_14, zl_15, zl_16, zl_17, zl_18, zl_19, zl_20, zl_24, zl_30, zl_31, zl_36, zl_42, zl_44, zl_48, zl_57, zl_58, zl_59, zl_60, zl_61, zl_62, zl_63, zl_64, zl_72, zl_73, zl_96, zl_99, zl_100, zl_104, zl_107, zl_111, zl_114, zl_116, zl_120, zl_200, zl_255, zl_256, zl_360, zl_600, zl_800, zl_1000, zl_2000]
    exact ⟨fun z => absurd z c, fun _ => sM_refused (c := 4) hb (by omega) (by omega) hq⟩
end MQ
