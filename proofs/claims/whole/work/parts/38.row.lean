/-! ===== the row, letters, how many ===== -/
def seta (f : Nat → Int) (k : Nat) (v : Int) : Nat → Int := fun i => if i = k then v else f i
def clSt (s : St) : St := mkSt s.w s.has s.k s.rf 0 s.row s.ln s.lt
def cRow (s : St) (v : Int) : Nat := cFst (cOut v 0 99) (if s.rn < 8 then 0 else 6)
def rowSt (s : St) (v : Int) : St := if cRow s v = 0 then mkSt s.w s.has s.k s.rf (s.rn + 1) (seta s.row s.rn v) s.ln s.lt else s.rfd (cRow s v)
def cLet (s : St) (v : Int) : Nat := cFst (cOut v 0 255) (if s.ln < 96 then 0 else 6)
def letSt (s : St) (v : Int) : St := if cLet s v = 0 then mkSt s.w s.has s.k s.rf s.rn s.row (s.ln + 1) (seta s.lt s.ln v) else s.rfd (cLet s v)
theorem if6 {P : Prop} [Decidable P] : (if P then 0 else 6) ≤ 6 := by split <;> omega
theorem cRow_b (s : St) (v : Int) : cRow s v ≤ 6 := cFst_b (cOut_b _ _ _) if6
theorem cLet_b (s : St) (v : Int) : cLet s v ≤ 6 := cFst_b (cOut_b _ _ _) if6
section RL
variable {E : XE} {h : Mem} {s : St} {Q : Int32 → Mem → Prop}
theorem qC_clear (hv : SV s) (ha : SA h s) (hq : ∀ h', SA h' (clSt s) → FA h h' → Q (zI s.rn) h') : CALLI E mC_clear [.ref 0] h Q := by
  refine fC_clear ?_
  have e : ∀ q, q ≠ 0 → upd2 h 0 10 0 q = h q := fun q hq => upd2_ne q hq
  rw [ha.rn]
  exact hq _ ⟨ha.w.kp fun q a b => e q (by omega), (u_i (by omega)).trans ha.has, fun z => (ha.k z).kp fun q a b => e q (by omega), fun i hi => by rw [e 59 (by omega)]; exact ha.rf i hi, u_s, fun i hi => absurd hi (Nat.not_lt_zero i), by rw [e 55 (by omega)]; exact ha.ln, fun i hi => by rw [e 56 (by omega)]; exact ha.lt i hi⟩ (fun q hq => e q (by omega))
theorem qM_clear (hv : SV s) (hb : SB h s) (hq : ∀ h', SB h' (clSt s) → FB h h' → Q (zI s.rn) h') : CALLI E mM_clear [.ref 60] h Q := by
  refine fM_clear ?_
  have e : ∀ q, q ≠ 60 → upd2 h 60 6 0 q = h q := fun q hq => upd2_ne q hq
  rw [hb.rn]
  exact hq _ ⟨by rw [e 61 (by omega)]; exact hb.w, (u_i (by omega)).trans hb.has, fun z => by rw [e 62 (by omega)]; exact hb.k z, fun i hi => by rw [e 64 (by omega)]; exact hb.rf i hi, u_s, fun i hi => absurd hi (Nat.not_lt_zero i), (u_i (by omega)).trans hb.ln, fun i hi => by rw [e 66 (by omega)]; exact hb.lt i hi⟩ (fun q hq => e q (by omega))
theorem SA.row1 (ha : SA h s) {v : Int} : SA (upd2 (upd2 h 58 s.rn (zI v)) 0 10 (zI ((s.rn : Int) + 1))) (mkSt s.w s.has s.k s.rf (s.rn + 1) (seta s.row s.rn v) s.ln s.lt) := by
  have e : ∀ q, q ≠ 0 → q ≠ 58 → upd2 (upd2 h 58 s.rn (zI v)) 0 10 (zI ((s.rn : Int) + 1)) q = h q := fun q a b => (upd2_ne q a).trans (upd2_ne q b)
  refine ⟨ha.w.kp fun q a b => e q (by omega) (by omega), (u_i (by omega)).trans ((congrFun (upd2_ne 0 (by omega)) 3).trans ha.has), fun z => (ha.k z).kp fun q a b => e q (by omega) (by omega), fun i hi => by rw [e 59 (by omega) (by omega)]; exact ha.rf i hi, u_s.trans (congrArg zI (Int.natCast_succ s.rn).symm), fun i hi => ?_, by rw [e 55 (by omega) (by omega)]; exact ha.ln, fun i hi => by rw [e 56 (by omega) (by omega)]; exact ha.lt i hi⟩
  rw [upd2_ne 58 (by omega)]
  show _ = zI (if i = s.rn then v else s.row i)
  have hi : i < s.rn + 1 := hi
  by_cases c : i = s.rn
  · rw [c, u_s, if_pos rfl]
  · rw [u_i c, if_neg c]
    exact ha.row i (by omega)
theorem SA.let1 (ha : SA h s) {v : Int} : SA (upd2 (upd2 h 56 s.ln (zI v)) 55 1 (zI ((s.ln : Int) + 1))) (mkSt s.w s.has s.k s.rf s.rn s.row (s.ln + 1) (seta s.lt s.ln v)) := by
  have e : ∀ q, q ≠ 55 → q ≠ 56 → upd2 (upd2 h 56 s.ln (zI v)) 55 1 (zI ((s.ln : Int) + 1)) q = h q := fun q a b => (upd2_ne q a).trans (upd2_ne q b)
  refine ⟨ha.w.kp fun q a b => e q (by omega) (by omega), by rw [e 0 (by omega) (by omega)]; exact ha.has, fun z => (ha.k z).kp fun q a b => e q (by omega) (by omega), fun i hi => by rw [e 59 (by omega) (by omega)]; exact ha.rf i hi, by rw [e 0 (by omega) (by omega)]; exact ha.rn, fun i hi => by rw [e 58 (by omega) (by omega)]; exact ha.row i hi, u_s.trans (congrArg zI (Int.natCast_succ s.ln).symm), fun i hi => ?_⟩
  rw [upd2_ne 56 (by omega)]
  show _ = zI (if i = s.ln then v else s.lt i)
  have hi : i < s.ln + 1 := hi
  by_cases c : i = s.ln
  · rw [c, u_s, if_pos rfl]
  · rw [u_i c, if_neg c]
    exact ha.lt i (by omega)
theorem SB.row1 (hb : SB h s) {v : Int} : SB (upd2 (upd2 h 65 s.rn (zI v)) 60 6 (zI ((s.rn : Int) + 1))) (mkSt s.w s.has s.k s.rf (s.rn + 1) (seta s.row s.rn v) s.ln s.lt) := by
  have e : ∀ q, q ≠ 60 → q ≠ 65 → upd2 (upd2 h 65 s.rn (zI v)) 60 6 (zI ((s.rn : Int) + 1)) q = h q := fun q a b => (upd2_ne q a).trans (upd2_ne q b)
  have e6 : ∀ i, i ≠ 6 → upd2 (upd2 h 65 s.rn (zI v)) 60 6 (zI ((s.rn : Int) + 1)) 60 i = h 60 i := fun i a => (u_i a).trans (congrFun (upd2_ne 60 (by omega)) i)
  refine ⟨by rw [e 61 (by omega) (by omega)]; exact hb.w, (e6 3 (by omega)).trans hb.has, fun z => by rw [e 62 (by omega) (by omega)]; exact hb.k z, fun i hi => by rw [e 64 (by omega) (by omega)]; exact hb.rf i hi, u_s.trans (congrArg zI (Int.natCast_succ s.rn).symm), fun i hi => ?_, (e6 8 (by omega)).trans hb.ln, fun i hi => by rw [e 66 (by omega) (by omega)]; exact hb.lt i hi⟩
  rw [upd2_ne 65 (by omega)]
  show _ = zI (if i = s.rn then v else s.row i)
  have hi : i < s.rn + 1 := hi
  by_cases c : i = s.rn
  · rw [c, u_s, if_pos rfl]
  · rw [u_i c, if_neg c]
    exact hb.row i (by omega)
theorem SB.let1 (hb : SB h s) {v : Int} : SB (upd2 (upd2 h 66 s.ln (zI v)) 60 8 (zI ((s.ln : Int) + 1))) (mkSt s.w s.has s.k s.rf s.rn s.row (s.ln + 1) (seta s.lt s.ln v)) := by
  have e : ∀ q, q ≠ 60 → q ≠ 66 → upd2 (upd2 h 66 s.ln (zI v)) 60 8 (zI ((s.ln : Int) + 1)) q = h q := fun q a b => (upd2_ne q a).trans (upd2_ne q b)
  have e8 : ∀ i, i ≠ 8 → upd2 (upd2 h 66 s.ln (zI v)) 60 8 (zI ((s.ln : Int) + 1)) 60 i = h 60 i := fun i a => (u_i a).trans (congrFun (upd2_ne 60 (by omega)) i)
  refine ⟨by rw [e 61 (by omega) (by omega)]; exact hb.w, (e8 3 (by omega)).trans hb.has, fun z => by rw [e 62 (by omega) (by omega)]; exact hb.k z, fun i hi => by rw [e 64 (by omega) (by omega)]; exact hb.rf i hi, (e8 6 (by omega)).trans hb.rn, fun i hi => by rw [e 65 (by omega) (by omega)]; exact hb.row i hi, u_s.trans (congrArg zI (Int.natCast_succ s.ln).symm), fun i hi => ?_⟩
  rw [upd2_ne 66 (by omega)]
  show _ = zI (if i = s.ln then v else s.lt i)
  have hi : i < s.ln + 1 := hi
  by_cases c : i = s.ln
  · rw [c, u_s, if_pos rfl]
  · rw [u_i c, if_neg c]
    exact hb.lt i (by omega)
theorem cOut_or (v lo hi : Int) : cOut v lo hi = 0 ∨ cOut v lo hi = 4 ∨ cOut v lo hi = 6 := by unfold cOut; split <;> (try split) <;> omega
theorem qC_row {v : Int} (hv : SV s) (ha : SA h s) (hi : I32 v) (hq : ∀ h', SA h' (rowSt s v) → FA h h' → Q (zI (cAns (cRow s v) ((s.rn : Int) + 1))) h') : CALLI E mC_row [.ref 0, .int (zI v)] h Q := by
  refine fC_row (sC_outside (lo := 0) (hi := 99) hi (by unfold I32; omega) (by unfold I32; omega) ?_)
  have hrn := hv.rn
  rw [ha.rn]
  have hneg : ∀ c, cRow s v = c → c ≠ 0 → c ≤ 6 → CALLI E mC_refuse [.ref 0, .int (zI (-(c : Nat)))] h Q := fun c e n l => sC_refuse ha n l fun h' a b => by
    have hq := hq h' (by unfold rowSt; rw [if_neg (by omega), e]; exact a) b
    rw [e, cAns_lt n] at hq
    exact hq
  unfold cRow at hneg
  rcases cOut_or v 0 99 with e | e | e
  · rw [e]
    by_cases c : s.rn < 8
    · have hc : cRow s v = 0 := by unfold cRow; rw [e, if_pos c]; rfl
      have hq := hq _ (by unfold rowSt; rw [if_pos hc]; exact ha.row1 (v := v)) ((FA.rf.up (by omega)).up (by omega))
      rw [hc] at hq
      have e10 : upd2 h 58 s.rn (zI v) 0 10 = zI s.rn := (congrFun (upd2_ne 0 (by omega)) 10).trans ha.rn
      simp (disch := omega) only [zI_add, zI_sub, zI_mul, zI_neg, zI_lt, zI_le, zI_eq, zI_div, zI_rem, ix_zI, inb_zI, nz_zI, imax_zI, imin_zI, c_t, nb01.1, nb01.2, zl_0, zl_1, zl_2, zl_3, zl_4, zl_5, zl_6, zl_7, zl_8, zl_9, zl_10, zl_11, zl_12, zl_13, zl_14, zl_15, zl_16, zl_17, zl_18, zl_19, zl_20, zl_24, zl_30, zl_31, zl_36, zl_42, zl_44, zl_48, zl_57, zl_58, zl_59, zl_60, zl_61, zl_62, zl_63, zl_64, zl_72, zl_73, zl_96, zl_99, zl_100, zl_104, zl_107, zl_111, zl_114, zl_116, zl_120, zl_200, zl_255, zl_256, zl_360, zl_600, zl_800, zl_1000, zl_2000, Int.toNat_natCast, e10, u_s]
      exact ⟨fun z => absurd z (by omega), fun _ => ⟨fun _ => ⟨fun _ => hq, fun z => absurd z (by omega)⟩, fun z => absurd z (by omega)⟩⟩
    · have := hneg 6 (by rw [e, if_neg c]; rfl) (by omega) (by omega)
      refine ⟨fun z => absurd rfl z, fun _ => ⟨fun z => ?_, fun _ => ⟨fun z => absurd z (by decide), fun _ => this⟩⟩⟩
      rw [show (8 : Int32) = zI 8 from rfl, zI_lt (by omega) (by omega) (by omega) (by omega)] at z
      omega
  · rw [e]
    have := hneg 4 (by rw [e]; rfl) (by omega) (by omega)
    exact ⟨fun _ => ⟨fun z => absurd z (by decide), fun _ => this⟩, fun z => absurd z (by decide)⟩
  · rw [e]
    have := hneg 6 (by rw [e]; rfl) (by omega) (by omega)
    exact ⟨fun _ => ⟨fun z => absurd z (by decide), fun _ => this⟩, fun z => absurd z (by decide)⟩
theorem sTE_isFull (ha : SA h s) (hv : SV s) (hq : Q (if s.ln < 96 then 0 else 1) h) : CALLI E mTE_isFull [.ref 55] h Q := by
  refine fTE_isFull ?_
  have := hv.ln
  rw [ha.ln]
  simp (disch := omega) only [zI_add, zI_sub, zI_mul, zI_neg, zI_lt, zI_le, zI_eq, zI_div, zI_rem, ix_zI, inb_zI, nz_zI, imax_zI, imin_zI, c_t, nb01.1, nb01.2, zl_0, zl_1, zl_2, zl_3, zl_4, zl_5, zl_6, zl_7, zl_8, zl_9, zl_10, zl_11, zl_12, zl_13, zl_14, zl_15, zl_16, zl_17, zl_18, zl_19, zl_20, zl_24, zl_30, zl_31, zl_36, zl_42, zl_44, zl_48, zl_57, zl_58, zl_59, zl_60, zl_61, zl_62, zl_63, zl_64, zl_72, zl_73, zl_96, zl_99, zl_100, zl_104, zl_107, zl_111, zl_114, zl_116, zl_120, zl_200, zl_255, zl_256, zl_360, zl_600, zl_800, zl_1000, zl_2000]
  refine ⟨fun z => ?_, fun z => ?_⟩
  · rw [if_pos (by omega)] at hq; exact hq
  · rw [if_neg (by omega)] at hq; exact hq
theorem qC_letter {v : Int} (hv : SV s) (ha : SA h s) (hi : I32 v) (hq : ∀ h', SA h' (letSt s v) → FA h h' → Q (zI (cAns (cLet s v) ((s.ln : Int) + 1))) h') : CALLI E mC_letter [.ref 0, .int (zI v)] h Q := by
  refine fC_letter (sC_outside (lo := 0) (hi := 255) hi (by unfold I32; omega) (by unfold I32; omega) ?_)
  have hrn := hv.ln
  have hneg : ∀ c, cLet s v = c → c ≠ 0 → c ≤ 6 → CALLI E mC_refuse [.ref 0, .int (zI (-(c : Nat)))] h Q := fun c e n l => sC_refuse ha n l fun h' a b => by
    have hq := hq h' (by unfold letSt; rw [if_neg (by omega), e]; exact a) b
    rw [e, cAns_lt n] at hq
    exact hq
  unfold cLet at hneg
  rcases cOut_or v 0 255 with e | e | e
  · rw [e]
    by_cases c : s.ln < 96
    · have hc : cLet s v = 0 := by unfold cLet; rw [e, if_pos c]; rfl
      have hq := hq _ (by unfold letSt; rw [if_pos hc]; exact ha.let1 (v := v)) ((FA.rf.up (by omega)).up (by omega))
      rw [hc] at hq
      have e10 : upd2 h 56 s.ln (zI v) 55 1 = zI s.ln := (congrFun (upd2_ne 55 (by omega)) 1).trans ha.ln
      refine ⟨fun z => absurd rfl z, fun _ => sTE_isFull ha hv ?_⟩
      rw [if_pos c]
      refine ⟨fun _ => ⟨fun _ => fTE_append (sTE_isFull ha hv ?_), fun z => absurd rfl z⟩, fun z => absurd rfl z⟩
      rw [if_pos c, ha.ln]
      simp (disch := omega) only [zI_add, zI_sub, zI_mul, zI_neg, zI_lt, zI_le, zI_eq, zI_div, zI_rem, ix_zI, inb_zI, nz_zI, imax_zI, imin_zI, c_t, nb01.1, nb01.2, zl_0, zl_1, zl_2, zl_3, zl_4, zl_5, zl_6, zl_7, zl_8, zl_9, zl_10, zl_11, zl_12, zl_13, zl_14, zl_15, zl_16, zl_17, zl_18, zl_19, zl_20, zl_24, zl_30, zl_31, zl_36, zl_42, zl_44, zl_48, zl_57, zl_58, zl_59, zl_60, zl_61, zl_62, zl_63, zl_64, zl_72, zl_73, zl_96, zl_99, zl_100, zl_104, zl_107, zl_111, zl_114, zl_116, zl_120, zl_200, zl_255, zl_256, zl_360, zl_600, zl_800, zl_1000, zl_2000, Int.toNat_natCast, e10, u_s]
      exact ⟨fun z => absurd trivial z, fun _ => hq⟩
    · have := hneg 6 (by rw [e, if_neg c]; rfl) (by omega) (by omega)
      refine ⟨fun z => absurd rfl z, fun _ => sTE_isFull ha hv ?_⟩
      rw [if_neg c]
      exact ⟨fun z => absurd z (by decide), fun _ => ⟨fun z => absurd z (by decide), fun _ => this⟩⟩
  · rw [e]
    have := hneg 4 (by rw [e]; rfl) (by omega) (by omega)
    exact ⟨fun _ => ⟨fun z => absurd z (by decide), fun _ => this⟩, fun z => absurd z (by decide)⟩
  · rw [e]
    have := hneg 6 (by rw [e]; rfl) (by omega) (by omega)
    exact ⟨fun _ => ⟨fun z => absurd z (by decide), fun _ => this⟩, fun z => absurd z (by decide)⟩
theorem qM_row {v : Int} (hv : SV s) (hb : SB h s) (hi : I32 v) (hq : ∀ h', SB h' (rowSt s v) → FB h h' → Q (zI (cAns (cRow s v) ((s.rn : Int) + 1))) h') : CALLI E mM_row [.ref 60, .int (zI v)] h Q := by
  refine fM_row ?_
  unfold I32 at hi
  have hrn := hv.rn
  have hneg : ∀ c, cRow s v = c → c ≠ 0 → c ≤ 6 → CALLI E mM_refused [.ref 60, .int (zI (-(c : Nat)))] h Q := fun c e n l => sM_refused hb n l fun h' a b => by
    have hq := hq h' (by unfold rowSt; rw [if_neg (by omega), e]; exact a) b
    rw [e, cAns_lt n] at hq
    exact hq
  unfold cRow at hneg
  simp (disch := omega) only [zI_add, zI_sub, zI_mul, zI_neg, zI_lt, zI_le, zI_eq, zI_div, zI_rem, ix_zI, inb_zI, nz_zI, imax_zI, imin_zI, c_t, nb01.1, nb01.2, zl_0, zl_1, zl_2, zl_3, zl_4, zl_5, zl_6, zl_7, zl_8, zl_9, zl_10, zl_11, zl_12, zl_13, zl_14, zl_15, zl_16, zl_17, zl_18, zl_19, zl_20, zl_24, zl_30, zl_31, zl_36, zl_42, zl_44, zl_48, zl_57, zl_58, zl_59, zl_60, zl_61, zl_62, zl_63, zl_64, zl_72, zl_73, zl_96, zl_99, zl_100, zl_104, zl_107, zl_111, zl_114, zl_116, zl_120, zl_200, zl_255, zl_256, zl_360, zl_600, zl_800, zl_1000, zl_2000, zI_L, lg_ltz, lg_gtz, zL_add, zL_sub, zL_mul, zL_div, zL_rem, nzL_zL, zm_0, zm_1, zm_2, zm_5, zm_8, zm_9, zm_15, zm_16, zm_11, zm_20, zm_59, zm_60, zm_96, zm_99, zm_255, zm_600, zm_2147483647, zm_4000000000000000000, zm_3, zm_48, zm_57]
  refine sM_in (by omega) (by omega) (by omega) ?_
  rw [hb.rn]
  by_cases c0 : 0 ≤ v ∧ v ≤ 99
  · rw [if_pos c0]
    have e := cOut_0.mpr c0
    by_cases c : s.rn < 8
    · have hc : cRow s v = 0 := by unfold cRow; rw [e, if_pos c]; rfl
      have hq := hq _ (by unfold rowSt; rw [if_pos hc]; exact hb.row1 (v := v)) ((FB.rf.up (by omega)).up (by omega))
      rw [hc] at hq
      have e10 : upd2 h 65 s.rn (zI v) 60 6 = zI s.rn := (congrFun (upd2_ne 60 (by omega)) 6).trans hb.rn
      simp (disch := omega) only [zI_add, zI_sub, zI_mul, zI_neg, zI_lt, zI_le, zI_eq, zI_div, zI_rem, ix_zI, inb_zI, nz_zI, imax_zI, imin_zI, c_t, nb01.1, nb01.2, zl_0, zl_1, zl_2, zl_3, zl_4, zl_5, zl_6, zl_7, zl_8, zl_9, zl_10, zl_11, zl_12, zl_13, zl_14, zl_15, zl_16, zl_17, zl_18, zl_19, zl_20, zl_24, zl_30, zl_31, zl_36, zl_42, zl_44, zl_48, zl_57, zl_58, zl_59, zl_60, zl_61, zl_62, zl_63, zl_64, zl_72, zl_73, zl_96, zl_99, zl_100, zl_104, zl_107, zl_111, zl_114, zl_116, zl_120, zl_200, zl_255, zl_256, zl_360, zl_600, zl_800, zl_1000, zl_2000, Int.toNat_natCast, e10, u_s]
      exact ⟨fun z => ⟨fun z2 => hq, fun z => absurd z (by omega)⟩, fun z => absurd z (by omega)⟩
    · have := hneg 6 (by rw [e, if_neg c]; rfl) (by omega) (by omega)
      simp (disch := omega) only [zI_add, zI_sub, zI_mul, zI_neg, zI_lt, zI_le, zI_eq, zI_div, zI_rem, ix_zI, inb_zI, nz_zI, imax_zI, imin_zI, c_t, nb01.1, nb01.2, zl_0, zl_1, zl_2, zl_3, zl_4, zl_5, zl_6, zl_7, zl_8, zl_9, zl_10, zl_11, zl_12, zl_13, zl_14, zl_15, zl_16, zl_17, zl_18, zl_19, zl_20, zl_24, zl_30, zl_31, zl_36, zl_42, zl_44, zl_48, zl_57, zl_58, zl_59, zl_60, zl_61, zl_62, zl_63, zl_64, zl_72, zl_73, zl_96, zl_99, zl_100, zl_104, zl_107, zl_111, zl_114, zl_116, zl_120, zl_200, zl_255, zl_256, zl_360, zl_600, zl_800, zl_1000, zl_2000]
      exact ⟨fun _ => ⟨fun z => absurd z (by omega), fun _ => this⟩, fun z => absurd z (by omega)⟩
  · rw [if_neg c0]
    simp (disch := omega) only [zI_add, zI_sub, zI_mul, zI_neg, zI_lt, zI_le, zI_eq, zI_div, zI_rem, ix_zI, inb_zI, nz_zI, imax_zI, imin_zI, c_t, nb01.1, nb01.2, zl_0, zl_1, zl_2, zl_3, zl_4, zl_5, zl_6, zl_7, zl_8, zl_9, zl_10, zl_11, zl_12, zl_13, zl_14, zl_15, zl_16, zl_17, zl_18, zl_19, zl_20, zl_24, zl_30, zl_31, zl_36, zl_42, zl_44, zl_48, zl_57, zl_58, zl_59, zl_60, zl_61, zl_62, zl_63, zl_64, zl_72, zl_73, zl_96, zl_99, zl_100, zl_104, zl_107, zl_111, zl_114, zl_116, zl_120, zl_200, zl_255, zl_256, zl_360, zl_600, zl_800, zl_1000, zl_2000]
    refine ⟨fun z => absurd trivial z, fun _ => ⟨fun z => ?_, fun z => ?_⟩⟩
    · have e : cOut v 0 99 = 6 := by unfold cOut; rw [if_neg (by omega), if_pos (by omega)]
      exact hneg 6 (by rw [e]; rfl) (by omega) (by omega)
    · have e : cOut v 0 99 = 4 := by unfold cOut; rw [if_pos (by omega)]
      exact hneg 4 (by rw [e]; rfl) (by omega) (by omega)
theorem qM_letter {v : Int} (hv : SV s) (hb : SB h s) (hi : I32 v) (hq : ∀ h', SB h' (letSt s v) → FB h h' → Q (zI (cAns (cLet s v) ((s.ln : Int) + 1))) h') : CALLI E mM_letter [.ref 60, .int (zI v)] h Q := by
  refine fM_letter ?_
  unfold I32 at hi
  have hrn := hv.ln
  have hneg : ∀ c, cLet s v = c → c ≠ 0 → c ≤ 6 → CALLI E mM_refused [.ref 60, .int (zI (-(c : Nat)))] h Q := fun c e n l => sM_refused hb n l fun h' a b => by
    have hq := hq h' (by unfold letSt; rw [if_neg (by omega), e]; exact a) b
    rw [e, cAns_lt n] at hq
    exact hq
  unfold cLet at hneg
  simp (disch := omega) only [zI_add, zI_sub, zI_mul, zI_neg, zI_lt, zI_le, zI_eq, zI_div, zI_rem, ix_zI, inb_zI, nz_zI, imax_zI, imin_zI, c_t, nb01.1, nb01.2, zl_0, zl_1, zl_2, zl_3, zl_4, zl_5, zl_6, zl_7, zl_8, zl_9, zl_10, zl_11, zl_12, zl_13, zl_14, zl_15, zl_16, zl_17, zl_18, zl_19, zl_20, zl_24, zl_30, zl_31, zl_36, zl_42, zl_44, zl_48, zl_57, zl_58, zl_59, zl_60, zl_61, zl_62, zl_63, zl_64, zl_72, zl_73, zl_96, zl_99, zl_100, zl_104, zl_107, zl_111, zl_114, zl_116, zl_120, zl_200, zl_255, zl_256, zl_360, zl_600, zl_800, zl_1000, zl_2000, zI_L, lg_ltz, lg_gtz, zL_add, zL_sub, zL_mul, zL_div, zL_rem, nzL_zL, zm_0, zm_1, zm_2, zm_5, zm_8, zm_9, zm_15, zm_16, zm_11, zm_20, zm_59, zm_60, zm_96, zm_99, zm_255, zm_600, zm_2147483647, zm_4000000000000000000, zm_3, zm_48, zm_57]
  refine sM_in (by omega) (by omega) (by omega) ?_
  rw [hb.ln]
  by_cases c0 : 0 ≤ v ∧ v ≤ 255
  · rw [if_pos c0]
    have e := cOut_0.mpr c0
    by_cases c : s.ln < 96
    · have hc : cLet s v = 0 := by unfold cLet; rw [e, if_pos c]; rfl
      have hq := hq _ (by unfold letSt; rw [if_pos hc]; exact hb.let1 (v := v)) ((FB.rf.up (by omega)).up (by omega))
      rw [hc] at hq
      have e10 : upd2 h 66 s.ln (zI v) 60 8 = zI s.ln := (congrFun (upd2_ne 60 (by omega)) 8).trans hb.ln
      simp (disch := omega) only [zI_add, zI_sub, zI_mul, zI_neg, zI_lt, zI_le, zI_eq, zI_div, zI_rem, ix_zI, inb_zI, nz_zI, imax_zI, imin_zI, c_t, nb01.1, nb01.2, zl_0, zl_1, zl_2, zl_3, zl_4, zl_5, zl_6, zl_7, zl_8, zl_9, zl_10, zl_11, zl_12, zl_13, zl_14, zl_15, zl_16, zl_17, zl_18, zl_19, zl_20, zl_24, zl_30, zl_31, zl_36, zl_42, zl_44, zl_48, zl_57, zl_58, zl_59, zl_60, zl_61, zl_62, zl_63, zl_64, zl_72, zl_73, zl_96, zl_99, zl_100, zl_104, zl_107, zl_111, zl_114, zl_116, zl_120, zl_200, zl_255, zl_256, zl_360, zl_600, zl_800, zl_1000, zl_2000, Int.toNat_natCast, e10, u_s]
      exact ⟨fun z => ⟨fun z2 => hq, fun z => absurd z (by omega)⟩, fun z => absurd z (by omega)⟩
    · have := hneg 6 (by rw [e, if_neg c]; rfl) (by omega) (by omega)
      simp (disch := omega) only [zI_add, zI_sub, zI_mul, zI_neg, zI_lt, zI_le, zI_eq, zI_div, zI_rem, ix_zI, inb_zI, nz_zI, imax_zI, imin_zI, c_t, nb01.1, nb01.2, zl_0, zl_1, zl_2, zl_3, zl_4, zl_5, zl_6, zl_7, zl_8, zl_9, zl_10, zl_11, zl_12, zl_13, zl_14, zl_15, zl_16, zl_17, zl_18, zl_19, zl_20, zl_24, zl_30, zl_31, zl_36, zl_42, zl_44, zl_48, zl_57, zl_58, zl_59, zl_60, zl_61, zl_62, zl_63, zl_64, zl_72, zl_73, zl_96, zl_99, zl_100, zl_104, zl_107, zl_111, zl_114, zl_116, zl_120, zl_200, zl_255, zl_256, zl_360, zl_600, zl_800, zl_1000, zl_2000]
      exact ⟨fun _ => ⟨fun z => absurd z (by omega), fun _ => this⟩, fun z => absurd z (by omega)⟩
  · rw [if_neg c0]
    simp (disch := omega) only [zI_add, zI_sub, zI_mul, zI_neg, zI_lt, zI_le, zI_eq, zI_div, zI_rem, ix_zI, inb_zI, nz_zI, imax_zI, imin_zI, c_t, nb01.1, nb01.2, zl_0, zl_1, zl_2, zl_3, zl_4, zl_5, zl_6, zl_7, zl_8, zl_9, zl_10, zl_11, zl_12, zl_13, zl_14, zl_15, zl_16, zl_17, zl_18, zl_19, zl_20, zl_24, zl_30, zl_31, zl_36, zl_42, zl_44, zl_48, zl_57, zl_58, zl_59, zl_60, zl_61, zl_62, zl_63, zl_64, zl_72, zl_73, zl_96, zl_99, zl_100, zl_104, zl_107, zl_111, zl_114, zl_116, zl_120, zl_200, zl_255, zl_256, zl_360, zl_600, zl_800, zl_1000, zl_2000]
    refine ⟨fun z => absurd trivial z, fun _ => ⟨fun z => ?_, fun z => ?_⟩⟩
    · have e : cOut v 0 255 = 6 := by unfold cOut; rw [if_neg (by omega), if_pos (by omega)]
      exact hneg 6 (by rw [e]; rfl) (by omega) (by omega)
    · have e : cOut v 0 255 = 4 := by unfold cOut; rw [if_pos (by omega)]
      exact hneg 4 (by rw [e]; rfl) (by omega) (by omega)
end RL
