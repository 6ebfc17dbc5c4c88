/-! ===== offset, rank, cost, holds ===== -/
def newW (s : St) (w : Int → Int) : St := mkSt w s.has s.k s.rf s.rn s.row s.ln s.lt
def laySt (s : St) (c : Nat) (j v : Int) : St := if c = 0 then newW s (fset s.w j v) else s.rfd c
def cLay (w : Int → Int) (t v lo hi : Int) : Nat := cFst (cTask w t) (cOut v lo hi)
theorem cLay_b (w : Int → Int) (t v lo hi : Int) : cLay w t v lo hi ≤ 6 := cFst_b (cTask_b _ _) (cOut_b _ _ _)
def cHold (w : Int → Int) (t l v : Int) : Nat := cFst (cFst (cTask w t) (cLock l)) (cOut v 0 9)
theorem cHold_b (w : Int → Int) (t l v : Int) : cHold w t l v ≤ 6 := cFst_b (cFst_b (cTask_b _ _) (cLock_b _)) (cOut_b _ _ _)
theorem SA.neww {h h' : Mem} {s : St} {w' : Int → Int} (ha : SA h s) (hd : DW h' 1 w') (hf : ∀ q, ¬ (1 ≤ q ∧ q ≤ 14) → h' q = h q) : SA h' (newW s w') :=
  ⟨hd, by rw [hf 0 (by omega)]; exact ha.has, fun z => (ha.k z).kp fun q a b => hf q (by omega), fun i hi => by rw [hf 59 (by omega)]; exact ha.rf i hi, by rw [hf 0 (by omega)]; exact ha.rn, fun i hi => by rw [hf 58 (by omega)]; exact ha.row i hi, by rw [hf 55 (by omega)]; exact ha.ln, fun i hi => by rw [hf 56 (by omega)]; exact ha.lt i hi⟩
theorem SB.neww {h h' : Mem} {s : St} {w' : Int → Int} (hb : SB h s) (hd : RW (h' 61) w') (hf : ∀ q, q ≠ 61 → h' q = h q) : SB h' (newW s w') :=
  ⟨hd, by rw [hf 60 (by omega)]; exact hb.has, fun z => by rw [hf 62 (by omega)]; exact hb.k z, fun i hi => by rw [hf 64 (by omega)]; exact hb.rf i hi, by rw [hf 60 (by omega)]; exact hb.rn, fun i hi => by rw [hf 65 (by omega)]; exact hb.row i hi, by rw [hf 60 (by omega)]; exact hb.ln, fun i hi => by rw [hf 66 (by omega)]; exact hb.lt i hi⟩
section LT
variable {E : XE} {h : Mem} {s : St} {Q : Int32 → Mem → Prop}
theorem sC_fin2 {P : Prop} {c : Nat} {x : Int} {s' : St} (ha : SA h s) (h6 : c ≤ 6) (hq : ∀ h', SA h' (if c = 0 then s' else s.rfd c) → FA h h' → Q (zI (cAns c x)) h') (hP : c = 0 → (∀ h', SA h' s' → FA h h' → Q (zI x) h') → P) :
    (zI (-(c : Nat)) = 0 → P) ∧ (¬ zI (-(c : Nat)) = 0 → CALLI E mC_refuse [.ref 0, .int (zI (-(c : Nat)))] h Q) := by
  rw [zl_0, zI_eq (by omega) (by omega) (by omega) (by omega)]
  refine ⟨fun z => hP (by omega) fun h' a b => ?_, fun z => sC_refuse ha (by omega) h6 fun h' a b => ?_⟩
  · have z : c = 0 := by omega
    subst z
    exact hq h' a b
  · have z : c ≠ 0 := by omega
    have := hq h' (by rw [if_neg z]; exact a) b
    rw [cAns_lt z] at this
    exact this
theorem sC_exchange {a n : Nat} {i v : Int} (hn : (a = 2 ∨ a = 5 ∨ a = 6) ∧ n = 6 ∨ a = 9 ∧ n = 24) (i0 : 0 ≤ i) (i1 : i < n) (hq : Q (h a i.toNat) (upd2 h a i.toNat (zI v))) : CALLI E mC_exchange [.ref a, .int (zI i), .int (zI v)] h Q := by
  have ha : a = 2 ∨ a = 5 ∨ a = 6 ∨ a = 9 := by omega
  have hs : ∀ P : Nat → Prop, P n → shN a 0 P := by
    intro P hP
    rcases hn with ⟨rfl | rfl | rfl, rfl⟩ | ⟨rfl, rfl⟩ <;> exact hP
  refine fC_exchange ha ?_
  have hlt : zI i < nI n := by rw [nI_zI, zI_lt (by omega) (by omega) (by omega) (by omega)]; exact i1
  refine ⟨fun z => ?_, fun _ => hs _ ⟨fun _ => hs _ ?_, fun z => absurd hlt z⟩⟩
  · rw [zl_0, zI_lt (by omega) (by omega) (by omega) (by omega)] at z
    omega
  · have hin : inb (zI i) n = true := inb_zI (by omega) (by omega) (by omega)
    rw [hin, ix_zI (by omega) (by omega)]
    rw [c_t]
    refine hs _ ?_
    show cnd (inb (zI i) n) _
    rw [hin]
    exact hq
theorem qC_lay {r : Nat} {b t v lo hi : Int} (hv : SV s) (ha : SA h s) (hrb : (r = 1 ∧ b = 0) ∨ (r = 4 ∧ b = 18) ∨ (r = 5 ∧ b = 24)) (hq : ∀ h', SA h' (laySt s (cLay s.w t v lo hi) (b + t) v) → FA h h' → Q (zI (cAns (cLay s.w t v lo hi) (s.w (b + t)))) h') :
    (zI (-(cLay s.w t v lo hi : Nat)) = 0 → CALLI E mC_exchange [.ref (1 + r), .int (zI t), .int (zI v)] h Q) ∧ (¬ zI (-(cLay s.w t v lo hi : Nat)) = 0 → CALLI E mC_refuse [.ref 0, .int (zI (-(cLay s.w t v lo hi : Nat)))] h Q) :=
  sC_fin2 ha (cLay_b _ _ _ _ _) hq fun z K => by
    unfold cLay at z
    rw [cFst_0, cTask_0] at z
    have hn := hv.w.1
    refine sC_exchange (n := 6) (by omega) z.1.1 (by omega) ?_
    have d := ha.w.2.2.1 t z.1.1 z.1.2
    have e : h (1 + r) t.toNat = zI (s.w (b + t)) := by
      rcases hrb with ⟨rfl, rfl⟩ | ⟨rfl, rfl⟩ | ⟨rfl, rfl⟩
      · rw [Int.zero_add]; exact d.1.1
      · exact d.1.2.2.2.1
      · exact d.1.2.2.2.2.1
    rw [e]
    exact K _ (ha.neww (ha.w.put hv.w hrb z.1.1 z.1.2) fun q hq => upd2_ne q (by omega)) (FA.rf.up (by omega))
theorem qC_cost {t v : Int} (hv : SV s) (ha : SA h s) (ht : I32 t) (hi : I32 v) (hq : ∀ h', SA h' (laySt s (cLay s.w t v 1 20) (0 + t) v) → FA h h' → Q (zI (cAns (cLay s.w t v 1 20) (s.w (0 + t)))) h') : CALLI E mC_cost [.ref 0, .int (zI t), .int (zI v)] h Q :=
  fC_cost (sC_missingTask hv ha ht (sC_outside (lo := 1) (hi := 20) hi (by unfold I32; omega) (by unfold I32; omega) (sC_firstOf (cTask_b _ _) (qC_lay (r := 1) hv ha (by omega) hq))))
theorem qC_offset {t v : Int} (hv : SV s) (ha : SA h s) (ht : I32 t) (hi : I32 v) (hq : ∀ h', SA h' (laySt s (cLay s.w t v 0 59) (18 + t) v) → FA h h' → Q (zI (cAns (cLay s.w t v 0 59) (s.w (18 + t)))) h') : CALLI E mC_offset [.ref 0, .int (zI t), .int (zI v)] h Q :=
  fC_offset (sC_missingTask hv ha ht (sC_outside (lo := 0) (hi := 59) hi (by unfold I32; omega) (by unfold I32; omega) (sC_firstOf (cTask_b _ _) (qC_lay (r := 4) hv ha (by omega) hq))))
theorem qC_rank {t v : Int} (hv : SV s) (ha : SA h s) (ht : I32 t) (hi : I32 v) (hq : ∀ h', SA h' (laySt s (cLay s.w t v 0 9) (24 + t) v) → FA h h' → Q (zI (cAns (cLay s.w t v 0 9) (s.w (24 + t)))) h') : CALLI E mC_rank [.ref 0, .int (zI t), .int (zI v)] h Q :=
  fC_rank (sC_missingTask hv ha ht (sC_outside (lo := 0) (hi := 9) hi (by unfold I32; omega) (by unfold I32; omega) (sC_firstOf (cTask_b _ _) (qC_lay (r := 5) hv ha (by omega) hq))))
theorem sM_laidTo {b t v lo hi j : Int} (hv : SV s) (hb : SB h s) (ht : I32 t) (hi1 : I32 v) (hlo : 0 ≤ lo ∧ lo ≤ 100) (hhi : lo ≤ hi ∧ hi ≤ 100) (hj : b + t = j) (jr : 0 ≤ t → t < s.w 72 → 0 ≤ j ∧ j < 73) (br : 0 ≤ t → t < s.w 72 → I32 b) (hq : ∀ h', SB h' (laySt s (cLay s.w t v lo hi) j v) → FB h h' → Q (zI (cAns (cLay s.w t v lo hi) (s.w j))) h') : CALLI E mM_laidTo [.ref 60, .int (zI b), .int (zI t), .int (zI v), .int (zI lo), .int (zI hi)] h Q := by
  refine fM_laidTo (sM_isTask hb.w hv.w ht ?_)
  have hneg : ∀ c, cLay s.w t v lo hi = c → c ≠ 0 → c ≤ 6 → CALLI E mM_refused [.ref 60, .int (zI (-(c : Nat)))] h Q := fun c e n l => sM_refused hb n l fun h' a b => by
    have hq := hq h' (by unfold laySt; rw [if_neg (by omega), e]; exact a) b
    rw [e, cAns_lt n] at hq
    exact hq
  unfold cLay at hneg
  by_cases c : 0 ≤ t ∧ t < s.w 72
  · rw [if_pos c]
    rw [cTask_0.mpr c] at hneg
    have jr := jr c.1 c.2
    have br := br c.1 c.2
    have hn := hv.w.1
    unfold I32 at hi1 ht br
    refine ⟨fun _ => ?_, fun z => absurd z (by decide)⟩
    simp (disch := omega) only [zI_add, zI_sub, zI_mul, zI_neg, zI_lt, zI_le, zI_eq, zI_div, zI_rem, ix_zI, inb_zI, nz_zI, imax_zI, imin_zI, c_t, nb01.1, nb01.2, zl_0, zl_1, zl_2, zl_3, zl_4, zl_5, zl_6, zl_7, zl_8, zl_9, zl_10, zl_11, zl_12, zl_13, zl_14, zl_15, zl_16, zl_17, zl_18, zl_19, zl_20, zl_24, zl_30, zl_31, zl_36, zl_42, zl_44, zl_48, zl_57, zl_58, zl_59, zl_60, zl_61, zl_62, zl_63, zl_64, zl_72, zl_73, zl_96, zl_99, zl_100, zl_104, zl_107, zl_111, zl_114, zl_116, zl_120, zl_200, zl_255, zl_256, zl_360, zl_600, zl_800, zl_1000, zl_2000, zI_L, lg_ltz, lg_gtz, zL_add, zL_sub, zL_mul, zL_div, zL_rem, nzL_zL, zm_0, zm_1, zm_2, zm_5, zm_8, zm_9, zm_15, zm_16, zm_11, zm_20, zm_59, zm_60, zm_96, zm_99, zm_255, zm_600, zm_2147483647, zm_4000000000000000000, zm_3, zm_48, zm_57]
    refine sM_in (by omega) (by omega) (by omega) ?_
    by_cases c0 : lo ≤ v ∧ v ≤ hi
    · rw [if_pos c0]
      have hc : cLay s.w t v lo hi = 0 := by unfold cLay; rw [cTask_0.mpr c, cOut_0.mpr c0]; rfl
      rw [hc] at hq
      have hq := hq (upd2 h 61 j.toNat (zI v)) (hb.neww (by
        have := hb.w.put (v := v) jr.1 jr.2
        intro i i0 i1
        exact this i i0 i1) fun q hq => upd2_ne q hq) (FB.rf.up (by omega))
      simp (disch := omega) only [zI_add, zI_sub, zI_mul, zI_neg, zI_lt, zI_le, zI_eq, zI_div, zI_rem, ix_zI, inb_zI, nz_zI, imax_zI, imin_zI, c_t, nb01.1, nb01.2, zl_0, zl_1, zl_2, zl_3, zl_4, zl_5, zl_6, zl_7, zl_8, zl_9, zl_10, zl_11, zl_12, zl_13, zl_14, zl_15, zl_16, zl_17, zl_18, zl_19, zl_20, zl_24, zl_30, zl_31, zl_36, zl_42, zl_44, zl_48, zl_57, zl_58, zl_59, zl_60, zl_61, zl_62, zl_63, zl_64, zl_72, zl_73, zl_96, zl_99, zl_100, zl_104, zl_107, zl_111, zl_114, zl_116, zl_120, zl_200, zl_255, zl_256, zl_360, zl_600, zl_800, zl_1000, zl_2000, hj, hb.w _]
      exact ⟨fun _ => hq, fun z => absurd z (by omega)⟩
    · rw [if_neg c0]
      simp (disch := omega) only [zI_add, zI_sub, zI_mul, zI_neg, zI_lt, zI_le, zI_eq, zI_div, zI_rem, ix_zI, inb_zI, nz_zI, imax_zI, imin_zI, c_t, nb01.1, nb01.2, zl_0, zl_1, zl_2, zl_3, zl_4, zl_5, zl_6, zl_7, zl_8, zl_9, zl_10, zl_11, zl_12, zl_13, zl_14, zl_15, zl_16, zl_17, zl_18, zl_19, zl_20, zl_24, zl_30, zl_31, zl_36, zl_42, zl_44, zl_48, zl_57, zl_58, zl_59, zl_60, zl_61, zl_62, zl_63, zl_64, zl_72, zl_73, zl_96, zl_99, zl_100, zl_104, zl_107, zl_111, zl_114, zl_116, zl_120, zl_200, zl_255, zl_256, zl_360, zl_600, zl_800, zl_1000, zl_2000]
      refine ⟨fun z => absurd trivial z, fun _ => ⟨fun z => ?_, fun z => ?_⟩⟩
      · have e : cOut v lo hi = 6 := by unfold cOut; rw [if_neg (by omega), if_pos (by omega)]
        exact hneg 6 (by rw [e]; rfl) (by omega) (by omega)
      · have e : cOut v lo hi = 4 := by unfold cOut; rw [if_pos (by omega)]
        exact hneg 4 (by rw [e]; rfl) (by omega) (by omega)
  · rw [if_neg c]
    exact ⟨fun z => absurd rfl z, fun _ => hneg 1 (by rw [cTask_1 c]; rfl) (by omega) (by omega)⟩
theorem qM_cost {t v : Int} (hv : SV s) (hb : SB h s) (ht : I32 t) (hi : I32 v) (hq : ∀ h', SB h' (laySt s (cLay s.w t v 1 20) (0 + t) v) → FB h h' → Q (zI (cAns (cLay s.w t v 1 20) (s.w (0 + t)))) h') : CALLI E mM_cost [.ref 60, .int (zI t), .int (zI v)] h Q :=
  fM_cost (sM_laidTo (b := 0) (lo := 1) (hi := 20) hv hb ht hi (by omega) (by omega) rfl (fun a b => by have := hv.w.1; omega) (fun _ _ => by unfold I32; omega) hq)
theorem qM_offset {t v : Int} (hv : SV s) (hb : SB h s) (ht : I32 t) (hi : I32 v) (hq : ∀ h', SB h' (laySt s (cLay s.w t v 0 59) (18 + t) v) → FB h h' → Q (zI (cAns (cLay s.w t v 0 59) (s.w (18 + t)))) h') : CALLI E mM_offset [.ref 60, .int (zI t), .int (zI v)] h Q :=
  fM_offset (sM_laidTo (b := 18) (lo := 0) (hi := 59) hv hb ht hi (by omega) (by omega) rfl (fun a b => by have := hv.w.1; omega) (fun _ _ => by unfold I32; omega) hq)
theorem qM_rank {t v : Int} (hv : SV s) (hb : SB h s) (ht : I32 t) (hi : I32 v) (hq : ∀ h', SB h' (laySt s (cLay s.w t v 0 9) (24 + t) v) → FB h h' → Q (zI (cAns (cLay s.w t v 0 9) (s.w (24 + t)))) h') : CALLI E mM_rank [.ref 60, .int (zI t), .int (zI v)] h Q :=
  fM_rank (sM_laidTo (b := 24) (lo := 0) (hi := 9) hv hb ht hi (by omega) (by omega) rfl (fun a b => by have := hv.w.1; omega) (fun _ _ => by unfold I32; omega) hq)
end LT
