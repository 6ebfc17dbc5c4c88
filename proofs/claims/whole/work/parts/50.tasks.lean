/-! ===== tasks ===== -/
def cAdd (w : Int → Int) (c pd dl : Int) : Nat := if c < 1 ∨ pd < 2 ∨ dl < 1 then 4 else if 20 < c ∨ 60 < pd ∨ 60 < dl ∨ 6 ≤ w 72 then 6 else 0
theorem cAdd_b (w : Int → Int) (c pd dl : Int) : cAdd w c pd dl ≤ 6 := by unfold cAdd; split <;> (try split) <;> omega
theorem cAdd_4 {w : Int → Int} {c pd dl : Int} (h : c < 1 ∨ pd < 2 ∨ dl < 1) : cAdd w c pd dl = 4 := if_pos h
theorem cAdd_6 {w : Int → Int} {c pd dl : Int} (h : ¬ (c < 1 ∨ pd < 2 ∨ dl < 1)) (h2 : 20 < c ∨ 60 < pd ∨ 60 < dl ∨ 6 ≤ w 72) : cAdd w c pd dl = 6 := by unfold cAdd; rw [if_neg h, if_pos h2]
theorem cAdd_0 {w : Int → Int} {c pd dl : Int} (h : ¬ (c < 1 ∨ pd < 2 ∨ dl < 1)) (h2 : ¬ (20 < c ∨ 60 < pd ∨ 60 < dl ∨ 6 ≤ w 72)) : cAdd w c pd dl = 0 := by unfold cAdd; rw [if_neg h, if_neg h2]
def addSt (s : St) (c pd dl : Int) : St := if cAdd s.w c pd dl = 0 then newW s (addW s.w c pd dl) else s.rfd (cAdd s.w c pd dl)
def canI (c pd dl : Int) : Prop := (1 ≤ c ∧ c ≤ 20) ∧ (2 ≤ pd ∧ pd ≤ 60) ∧ 1 ≤ dl ∧ dl ≤ 60
theorem canI_d (c pd dl : Int) : canI c pd dl ∨ ¬ canI c pd dl := Classical.em _
section AQ
variable {E : XE} {h : Mem} {s : St} {Q : Int32 → Mem → Prop}
theorem sD_canBe {c pd dl : Int} (hc : I32 c) (hp : I32 pd) (hd : I32 dl) (h1 : canI c pd dl → Q (zI 1) h) (h0 : ¬ canI c pd dl → Q (zI 0) h) : CALLI E mD_canBe [.int (zI c), .int (zI pd), .int (zI dl)] h Q := by
  refine fD_canBe ?_
  unfold I32 at hc hp hd
  unfold canI at h1 h0
  simp (disch := omega) only [zI_add, zI_sub, zI_mul, zI_neg, zI_lt, zI_le, zI_eq, zI_div, zI_rem, ix_zI, inb_zI, nz_zI, imax_zI, imin_zI, c_t, nb01.1, nb01.2, zl_0, zl_1, zl_2, zl_3, zl_4, zl_5, zl_6, zl_7, zl_8, zl_9, zl_10, zl_11, zl_12, zl_13, zl_14, zl_15, zl_16, zl_17, zl_18, zl_19, zl_20, zl_24, zl_30, zl_31, zl_36, zl_42, zl_44, zl_48, zl_57, zl_58, zl_59, zl_60, zl_61, zl_62, zl_63, zl_64, zl_72, zl_73, zl_96, zl_99, zl_100, zl_104, zl_107, zl_111, zl_114, zl_116, zl_120, zl_200, zl_255, zl_256, zl_360, zl_600, zl_800, zl_1000, zl_2000]
  exact ⟨fun z => h0 (by omega), fun z => ⟨fun z => h0 (by omega), fun z => ⟨fun z => h0 (by omega), fun z => ⟨fun z => h0 (by omega), fun z => ⟨fun z => h0 (by omega), fun z => ⟨fun z => h0 (by omega), fun z => h1 (by omega)⟩⟩⟩⟩⟩⟩
theorem sM_isTaskTold {c pd dl : Int} (hc : I32 c) (hp : I32 pd) (hd : I32 dl) (h1 : canI c pd dl → Q (zI 1) h) (h0 : ¬ canI c pd dl → Q (zI 0) h) : CALLI E mM_isTaskTold [.int (zI c), .int (zI pd), .int (zI dl)] h Q := by
  refine fM_isTaskTold ?_
  unfold I32 at hc hp hd
  unfold canI at h1 h0
  simp (disch := omega) only [zI_add, zI_sub, zI_mul, zI_neg, zI_lt, zI_le, zI_eq, zI_div, zI_rem, ix_zI, inb_zI, nz_zI, imax_zI, imin_zI, c_t, nb01.1, nb01.2, zl_0, zl_1, zl_2, zl_3, zl_4, zl_5, zl_6, zl_7, zl_8, zl_9, zl_10, zl_11, zl_12, zl_13, zl_14, zl_15, zl_16, zl_17, zl_18, zl_19, zl_20, zl_24, zl_30, zl_31, zl_36, zl_42, zl_44, zl_48, zl_57, zl_58, zl_59, zl_60, zl_61, zl_62, zl_63, zl_64, zl_72, zl_73, zl_96, zl_99, zl_100, zl_104, zl_107, zl_111, zl_114, zl_116, zl_120, zl_200, zl_255, zl_256, zl_360, zl_600, zl_800, zl_1000, zl_2000, zI_L, lg_ltz, lg_gtz, zL_add, zL_sub, zL_mul, zL_div, zL_rem, nzL_zL, zm_0, zm_1, zm_2, zm_5, zm_8, zm_9, zm_15, zm_16, zm_11, zm_20, zm_59, zm_60, zm_96, zm_99, zm_255, zm_600, zm_2147483647, zm_4000000000000000000, zm_3, zm_48, zm_57]
  refine sM_in (by omega) (by omega) (by omega) ?_
  by_cases c1 : 1 ≤ c ∧ c ≤ 20
  · rw [if_pos c1]
    refine ⟨fun z => absurd z (by decide), fun _ => sM_in (by omega) (by omega) (by omega) ?_⟩
    by_cases c2 : 2 ≤ pd ∧ pd ≤ 60
    · rw [if_pos c2]
      refine ⟨fun z => absurd z (by decide), fun _ => sM_in (by omega) (by omega) (by omega) ?_⟩
      by_cases c3 : 1 ≤ dl ∧ dl ≤ 60
      · rw [if_pos c3]
        exact ⟨fun z => absurd z (by decide), fun _ => h1 (by omega)⟩
      · rw [if_neg c3]
        exact ⟨fun _ => h0 (by omega), fun z => absurd rfl z⟩
    · rw [if_neg c2]
      exact ⟨fun _ => h0 (by omega), fun z => absurd rfl z⟩
  · rw [if_neg c1]
    exact ⟨fun _ => h0 (by omega), fun z => absurd rfl z⟩
theorem qC_tasks {c pd dl : Int} (hv : SV s) (ha : SA h s) (hc : I32 c) (hp : I32 pd) (hd : I32 dl) (hq : ∀ h', SA h' (addSt s c pd dl) → FA h h' → Q (zI (cAns (cAdd s.w c pd dl) (s.w 72))) h') : CALLI E mC_tasks [.ref 0, .int (zI c), .int (zI pd), .int (zI dl)] h Q := by
  refine fC_tasks ?_
  have hneg : ∀ r, cAdd s.w c pd dl = r → r ≠ 0 → r ≤ 6 → CALLI E mC_refuse [.ref 0, .int (zI (-(r : Nat)))] h Q := fun r e n l => sC_refuse ha n l fun h' a b => by
    have hq := hq h' (by unfold addSt; rw [if_neg (by omega), e]; exact a) b
    rw [e, cAns_lt n] at hq
    exact hq
  have bc := hc
  have bp := hp
  have bd := hd
  unfold I32 at bc bp bd
  have hn := hv.w.1
  simp (disch := omega) only [zI_add, zI_sub, zI_mul, zI_neg, zI_lt, zI_le, zI_eq, zI_div, zI_rem, ix_zI, inb_zI, nz_zI, imax_zI, imin_zI, c_t, nb01.1, nb01.2, zl_0, zl_1, zl_2, zl_3, zl_4, zl_5, zl_6, zl_7, zl_8, zl_9, zl_10, zl_11, zl_12, zl_13, zl_14, zl_15, zl_16, zl_17, zl_18, zl_19, zl_20, zl_24, zl_30, zl_31, zl_36, zl_42, zl_44, zl_48, zl_57, zl_58, zl_59, zl_60, zl_61, zl_62, zl_63, zl_64, zl_72, zl_73, zl_96, zl_99, zl_100, zl_104, zl_107, zl_111, zl_114, zl_116, zl_120, zl_200, zl_255, zl_256, zl_360, zl_600, zl_800, zl_1000, zl_2000]
  refine ⟨fun z => hneg 4 (cAdd_4 (by omega)) (by omega) (by omega), fun z => ⟨fun z2 => hneg 4 (cAdd_4 (by omega)) (by omega) (by omega), fun z2 => ⟨fun z3 => ?_, fun z3 => hneg 4 (cAdd_4 (by omega)) (by omega) (by omega)⟩⟩⟩
  refine sD_canBe hc hp hd (fun y => ?_) (fun y => ?_)
  · refine ⟨fun z => absurd z (by decide), fun _ => sD_isFull (Or.inl rfl) ha.w hv.w ?_⟩
    unfold canI at y
    by_cases c6 : s.w 72 < 6
    · rw [if_pos c6]
      refine ⟨fun _ => sD_add (Or.inl rfl) ha.w hv.w c6 y.1 y.2.1 y.2.2 fun h' d f => ?_, fun z => absurd rfl z⟩
      have e : cAdd s.w c pd dl = 0 := cAdd_0 (by omega) (by omega)
      have hq := hq h' (by unfold addSt; rw [if_pos e]; exact ha.neww d fun q hq => f q (by omega)) (fun q hq => f q (by omega))
      rw [e] at hq
      exact hq
    · rw [if_neg c6]
      exact ⟨fun z => absurd z (by decide), fun _ => hneg 6 (cAdd_6 (by omega) (by omega)) (by omega) (by omega)⟩
  · unfold canI at y
    exact ⟨fun _ => hneg 6 (cAdd_6 (by omega) (by omega)) (by omega) (by omega), fun z => absurd rfl z⟩
theorem qM_tasks {c pd dl : Int} (hv : SV s) (hb : SB h s) (hc : I32 c) (hp : I32 pd) (hd : I32 dl) (hq : ∀ h', SB h' (addSt s c pd dl) → FB h h' → Q (zI (cAns (cAdd s.w c pd dl) (s.w 72))) h') : CALLI E mM_tasks [.ref 60, .int (zI c), .int (zI pd), .int (zI dl)] h Q := by
  refine fM_tasks ?_
  have hneg : ∀ r, cAdd s.w c pd dl = r → r ≠ 0 → r ≤ 6 → CALLI E mM_refused [.ref 60, .int (zI (-(r : Nat)))] h Q := fun r e n l => sM_refused hb n l fun h' a b => by
    have hq := hq h' (by unfold addSt; rw [if_neg (by omega), e]; exact a) b
    rw [e, cAns_lt n] at hq
    exact hq
  have bc := hc
  have bp := hp
  have bd := hd
  unfold I32 at bc bp bd
  have hn := hv.w.1
  simp (disch := omega) only [zI_add, zI_sub, zI_mul, zI_neg, zI_lt, zI_le, zI_eq, zI_div, zI_rem, ix_zI, inb_zI, nz_zI, imax_zI, imin_zI, c_t, nb01.1, nb01.2, zl_0, zl_1, zl_2, zl_3, zl_4, zl_5, zl_6, zl_7, zl_8, zl_9, zl_10, zl_11, zl_12, zl_13, zl_14, zl_15, zl_16, zl_17, zl_18, zl_19, zl_20, zl_24, zl_30, zl_31, zl_36, zl_42, zl_44, zl_48, zl_57, zl_58, zl_59, zl_60, zl_61, zl_62, zl_63, zl_64, zl_72, zl_73, zl_96, zl_99, zl_100, zl_104, zl_107, zl_111, zl_114, zl_116, zl_120, zl_200, zl_255, zl_256, zl_360, zl_600, zl_800, zl_1000, zl_2000]
  refine ⟨fun z => hneg 4 (cAdd_4 (by omega)) (by omega) (by omega), fun z => ⟨fun z2 => hneg 4 (cAdd_4 (by omega)) (by omega) (by omega), fun z2 => ⟨fun z3 => ?_, fun z3 => hneg 4 (cAdd_4 (by omega)) (by omega) (by omega)⟩⟩⟩
  refine sM_isTaskTold hc hp hd (fun y => ?_) (fun y => ?_)
  · unfold canI at y
    refine ⟨fun z => absurd z (by decide), fun _ => sM_comes hb.w hv.w (fun z6 => ?_) (fun z6 h' r f => ?_)⟩
    · exact ⟨fun z => absurd rfl z, fun _ => hneg 6 (cAdd_6 (by omega) (by omega)) (by omega) (by omega)⟩
    · refine ⟨fun _ => ?_, fun z => absurd z (by decide)⟩
      have e : cAdd s.w c pd dl = 0 := cAdd_0 (by omega) (by omega)
      have hq := hq h' (by unfold addSt; rw [if_pos e]; exact hb.neww r f) (fun q hq => f q (by omega))
      rw [e] at hq
      have e72 : h' 61 (Int.toNat 72) = zI (s.w 72 + 1) := by
        rw [r 72 (by omega) (by omega), aw_n ⟨hn.1, z6⟩]
      rw [e72, zI_sub, show s.w 72 + 1 - 1 = s.w 72 by omega]
      exact hq
  · unfold canI at y
    exact ⟨fun _ => hneg 6 (cAdd_6 (by omega) (by omega)) (by omega) (by omega), fun z => absurd rfl z⟩
end AQ
