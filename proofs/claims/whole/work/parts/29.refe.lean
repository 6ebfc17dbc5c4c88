/-! ===== the reference's responses ===== -/
theorem KM.rs {h h' : Mem} {x : Int32} (h1 : KM h h') : KM h (upd2 h' 60 15 x) := h1.f (by omega)
def KR (h h' : Mem) : Prop := KM h h' ∧ ∀ q, q ≠ 60 → h' q = h q
theorem KR.rf {h : Mem} : KR h h := ⟨KM.rf, fun _ _ => rfl⟩
theorem KR.rs {h h' : Mem} {x : Int32} (h1 : KR h h') : KR h (upd2 h' 60 15 x) := ⟨h1.1.rs, fun q hq => (upd2_ne q hq).trans (h1.2 q hq)⟩
theorem KR.w {h h' : Mem} {w : Int → Int} (hk : KR h h') (hm : RW (h 61) w) : RW (h' 61) w := hk.1.w hm
theorem respA_mono {w : Int → Int} (hw : WF w) (o : Int) (m : Nat) {a b : Int} (ha : 0 ≤ a) (hab : a ≤ b) : o + asksM w m a ≤ o + asksM w m b := by
  have := asksM_mono hw m ha hab
  omega
section RR
variable {E : XE} {h : Mem} {w : Int → Int}
theorem sM_responseByR {Q : Int32 → Mem → Prop} {t : Int} {a b : Nat} (hm : RW (h 61) w) (hw : WF w) (h0 : 0 ≤ t) (h1 : t < w 72) (ha : a < 64) (hb : b < 64) (hq : ∀ h', KR h h' → h' 60 15 = zI (rnds w t a b) → Q (zI (resp w t a b)) h') : CALLI E mM_responseBy [.ref 60, .int (zI t), .int (zI a), .int (zI b)] h Q := by
  refine fM_responseBy ?_
  have hn := hw.1
  have hn2 := hw.n
  simp (disch := omega) only [zI_add, zI_sub, zI_mul, zI_neg, zI_lt, zI_le, zI_eq, zI_div, zI_rem, ix_zI, inb_zI, nz_zI, imax_zI, imin_zI, c_t, nb01.1, nb01.2, zl_0, zl_1, zl_2, zl_3, zl_4, zl_5, zl_6, zl_7, zl_8, zl_9, zl_10, zl_11, zl_12, zl_13, zl_14, zl_15, zl_16, zl_17, zl_18, zl_19, zl_20, zl_24, zl_30, zl_31, zl_36, zl_42, zl_44, zl_48, zl_57, zl_58, zl_59, zl_60, zl_61, zl_62, zl_63, zl_64, zl_72, zl_73, zl_96, zl_99, zl_100, zl_104, zl_107, zl_111, zl_114, zl_116, zl_120, zl_200, zl_255, zl_256, zl_360, zl_600, zl_800, zl_1000, zl_2000]
  refine sM_askedOf hm hw h0 h1 (by omega) (sM_blockingBy hm hw h0 h1 ha hb ?_)
  simp (disch := omega) only [zI_add, zI_sub, zI_mul, zI_neg, zI_lt, zI_le, zI_eq, zI_div, zI_rem, ix_zI, inb_zI, nz_zI, imax_zI, imin_zI, c_t, nb01.1, nb01.2, zl_0, zl_1, zl_2, zl_3, zl_4, zl_5, zl_6, zl_7, zl_8, zl_9, zl_10, zl_11, zl_12, zl_13, zl_14, zl_15, zl_16, zl_17, zl_18, zl_19, zl_20, zl_24, zl_30, zl_31, zl_36, zl_42, zl_44, zl_48, zl_57, zl_58, zl_59, zl_60, zl_61, zl_62, zl_63, zl_64, zl_72, zl_73, zl_96, zl_99, zl_100, zl_104, zl_107, zl_111, zl_114, zl_116, zl_120, zl_200, zl_255, zl_256, zl_360, zl_600, zl_800, zl_1000, zl_2000, hm _]
  rw [Int.zero_add]
  have ob := own1_b hw h0 h1 a b
  have eo : w t * asked w t 1 + blk w (a ||| 2 ^ t.toNat) b = own1 w t a b := rfl
  rw [eo]
  have key : ∀ (f : Nat) (r c : Int) (h1 : Mem), KR h h1 → h1 60 15 = zI c → 0 ≤ r → r < 100000000 → r ≤ own1 w t a b + asksM w a r → 601 - r ≤ f →
      (∀ h', KR h h' → h' 60 15 = zI (steps (fun r => own1 w t a b + asksM w a r) f r c) → Q (zI (settle (fun r => own1 w t a b + asksM w a r) f r)) h') →
      WP E mM_responseBy 34 [some (.ref 60), none, some (.int (zI a)), none, some (.int (zI (own1 w t a b))), some (.int (zI r)), none, none] [] h1 (qI Q) := by
    intro f
    induction f with
    | zero =>
      intro r c h1 hk hc r0 r1 r2 r3 hq
      refine fM_responseBy_34 ?_
      simp (disch := omega) only [zI_add, zI_sub, zI_mul, zI_neg, zI_lt, zI_le, zI_eq, zI_div, zI_rem, ix_zI, inb_zI, nz_zI, imax_zI, imin_zI, c_t, nb01.1, nb01.2, zl_0, zl_1, zl_2, zl_3, zl_4, zl_5, zl_6, zl_7, zl_8, zl_9, zl_10, zl_11, zl_12, zl_13, zl_14, zl_15, zl_16, zl_17, zl_18, zl_19, zl_20, zl_24, zl_30, zl_31, zl_36, zl_42, zl_44, zl_48, zl_57, zl_58, zl_59, zl_60, zl_61, zl_62, zl_63, zl_64, zl_72, zl_73, zl_96, zl_99, zl_100, zl_104, zl_107, zl_111, zl_114, zl_116, zl_120, zl_200, zl_255, zl_256, zl_360, zl_600, zl_800, zl_1000, zl_2000]
      exact ⟨fun _ => hq h1 hk hc, fun z => absurd (by omega) z⟩
    | succ f ih =>
      intro r c h1 hk hc r0 r1 r2 r3 hq
      refine fM_responseBy_34 ?_
      unfold settle steps at hq
      by_cases hb : 600 < r
      · rw [if_pos hb] at hq
        rw [if_pos hb] at hq
        simp (disch := omega) only [zI_add, zI_sub, zI_mul, zI_neg, zI_lt, zI_le, zI_eq, zI_div, zI_rem, ix_zI, inb_zI, nz_zI, imax_zI, imin_zI, c_t, nb01.1, nb01.2, zl_0, zl_1, zl_2, zl_3, zl_4, zl_5, zl_6, zl_7, zl_8, zl_9, zl_10, zl_11, zl_12, zl_13, zl_14, zl_15, zl_16, zl_17, zl_18, zl_19, zl_20, zl_24, zl_30, zl_31, zl_36, zl_42, zl_44, zl_48, zl_57, zl_58, zl_59, zl_60, zl_61, zl_62, zl_63, zl_64, zl_72, zl_73, zl_96, zl_99, zl_100, zl_104, zl_107, zl_111, zl_114, zl_116, zl_120, zl_200, zl_255, zl_256, zl_360, zl_600, zl_800, zl_1000, zl_2000]
        exact ⟨fun _ => hq h1 hk hc, fun z => absurd hb z⟩
      · rw [if_neg hb] at hq
        rw [if_neg hb] at hq
        have hm1 := hk.w hm
        have ab := asksM_b hw a (t := r) r0
        simp (disch := omega) only [zI_add, zI_sub, zI_mul, zI_neg, zI_lt, zI_le, zI_eq, zI_div, zI_rem, ix_zI, inb_zI, nz_zI, imax_zI, imin_zI, c_t, nb01.1, nb01.2, zl_0, zl_1, zl_2, zl_3, zl_4, zl_5, zl_6, zl_7, zl_8, zl_9, zl_10, zl_11, zl_12, zl_13, zl_14, zl_15, zl_16, zl_17, zl_18, zl_19, zl_20, zl_24, zl_30, zl_31, zl_36, zl_42, zl_44, zl_48, zl_57, zl_58, zl_59, zl_60, zl_61, zl_62, zl_63, zl_64, zl_72, zl_73, zl_96, zl_99, zl_100, zl_104, zl_107, zl_111, zl_114, zl_116, zl_120, zl_200, zl_255, zl_256, zl_360, zl_600, zl_800, zl_1000, zl_2000]
        refine ⟨fun z => absurd z hb, fun _ => ?_⟩
        have inner : ∀ (j k : Nat), (k : Int) + j = w 72 → WP E mM_responseBy 49 [some (.ref 60), none, some (.int (zI a)), none, some (.int (zI (own1 w t a b))), some (.int (zI r)), some (.int (zI (own1 w t a b + sumT (fun i => if a.testBit i.toNat then w i * asked w i r else 0) k))), some (.int (zI k))] [] h1 (qI Q) := by
          intro j
          induction j with
          | zero =>
            intro k hk2
            refine fM_responseBy_49 ?_
            have es : sumT (fun i => if a.testBit i.toNat then w i * asked w i r else 0) k = asksM w a r := by
              unfold asksM
              rw [show (w 72).toNat = k by omega]
            rw [es, hc]
            simp (disch := omega) only [zI_add, zI_sub, zI_mul, zI_neg, zI_lt, zI_le, zI_eq, zI_div, zI_rem, ix_zI, inb_zI, nz_zI, imax_zI, imin_zI, c_t, nb01.1, nb01.2, zl_0, zl_1, zl_2, zl_3, zl_4, zl_5, zl_6, zl_7, zl_8, zl_9, zl_10, zl_11, zl_12, zl_13, zl_14, zl_15, zl_16, zl_17, zl_18, zl_19, zl_20, zl_24, zl_30, zl_31, zl_36, zl_42, zl_44, zl_48, zl_57, zl_58, zl_59, zl_60, zl_61, zl_62, zl_63, zl_64, zl_72, zl_73, zl_96, zl_99, zl_100, zl_104, zl_107, zl_111, zl_114, zl_116, zl_120, zl_200, zl_255, zl_256, zl_360, zl_600, zl_800, zl_1000, zl_2000, hm1 _]
            refine ⟨fun _ => ⟨fun z => ?_, fun z => ?_⟩, fun z => absurd (by omega) z⟩
            · rw [if_neg z] at hq
              rw [if_neg z] at hq
              exact ih _ (c + 1) _ hk.rs u_s (by omega) (by omega) (respA_mono hw _ a r0 r2) (by omega) hq
            · rw [if_pos z] at hq
              rw [if_pos z] at hq
              exact hq h1 hk hc
          | succ j ihj =>
            intro k hk2
            refine fM_responseBy_49 ?_
            have ihj' := ihj (k + 1) (by omega)
            have e2 : ((k + 1 : Nat) : Int) = (k : Int) + 1 := by omega
            unfold sumT at ihj'
            rw [e2] at ihj'
            simp (disch := omega) only [zI_add, zI_sub, zI_mul, zI_neg, zI_lt, zI_le, zI_eq, zI_div, zI_rem, ix_zI, inb_zI, nz_zI, imax_zI, imin_zI, c_t, nb01.1, nb01.2, zl_0, zl_1, zl_2, zl_3, zl_4, zl_5, zl_6, zl_7, zl_8, zl_9, zl_10, zl_11, zl_12, zl_13, zl_14, zl_15, zl_16, zl_17, zl_18, zl_19, zl_20, zl_24, zl_30, zl_31, zl_36, zl_42, zl_44, zl_48, zl_57, zl_58, zl_59, zl_60, zl_61, zl_62, zl_63, zl_64, zl_72, zl_73, zl_96, zl_99, zl_100, zl_104, zl_107, zl_111, zl_114, zl_116, zl_120, zl_200, zl_255, zl_256, zl_360, zl_600, zl_800, zl_1000, zl_2000, hm1 _]
            refine ⟨fun z => by omega, fun _ => sM_has ha (by omega) (by omega) ?_⟩
            by_cases c : a.testBit (k : Int).toNat = true
            · rw [if_pos c] at ihj' ⊢
              refine ⟨fun z => absurd z (by decide), fun _ => sM_askedOf hm1 hw (by omega) (by omega) (by omega) ?_⟩
              simp (disch := omega) only [zI_add, zI_sub, zI_mul, zI_neg, zI_lt, zI_le, zI_eq, zI_div, zI_rem, ix_zI, inb_zI, nz_zI, imax_zI, imin_zI, c_t, nb01.1, nb01.2, zl_0, zl_1, zl_2, zl_3, zl_4, zl_5, zl_6, zl_7, zl_8, zl_9, zl_10, zl_11, zl_12, zl_13, zl_14, zl_15, zl_16, zl_17, zl_18, zl_19, zl_20, zl_24, zl_30, zl_31, zl_36, zl_42, zl_44, zl_48, zl_57, zl_58, zl_59, zl_60, zl_61, zl_62, zl_63, zl_64, zl_72, zl_73, zl_96, zl_99, zl_100, zl_104, zl_107, zl_111, zl_114, zl_116, zl_120, zl_200, zl_255, zl_256, zl_360, zl_600, zl_800, zl_1000, zl_2000, hm1 _]
              rw [Int.zero_add]
              rw [← Int.add_assoc] at ihj'
              exact ihj'
            · rw [if_neg c] at ihj' ⊢
              refine ⟨fun _ => ?_, fun z => absurd rfl z⟩
              rw [← Int.add_assoc] at ihj'
              exact ihj'
        have := inner (w 72).toNat 0 (by omega)
        simpa [sumT] using this
  have a0 := asksM_b hw a (t := own1 w t a b) ob.1
  exact key 700 _ 1 _ KR.rf.rs u_s ob.1 (by omega) (by omega) (by omega) hq
theorem sM_responseBy {Q : Int32 → Mem → Prop} {t : Int} {a b : Nat} (hm : RW (h 61) w) (hw : WF w) (h0 : 0 ≤ t) (h1 : t < w 72) (ha : a < 64) (hb : b < 64) (hq : ∀ h', KM h h' → h' 60 15 = zI (rnds w t a b) → Q (zI (resp w t a b)) h') : CALLI E mM_responseBy [.ref 60, .int (zI t), .int (zI a), .int (zI b)] h Q := sM_responseByR hm hw h0 h1 ha hb fun h' hk hr => hq h' hk.1 hr
theorem sM_responseOf {Q : Int32 → Mem → Prop} {t pol : Int} (hm : RW (h 61) w) (hw : WF w) (h0 : 0 ≤ t) (h1 : t < w 72) (hon : w (42 + t) = 1) (hp : 0 ≤ pol ∧ pol < 100)
    (hq : ∀ h', KM h h' → h' 60 15 = zI (rnds w t (aheadM w pol t) (behM w (aheadM w pol t) t)) → Q (zI (resp w t (aheadM w pol t) (behM w (aheadM w pol t) t))) h') : CALLI E mM_responseOf [.ref 60, .int (zI t), .int (zI pol)] h Q := by
  refine fM_responseOf (sM_aheadOf hm hw h0 h1 hon hp fun ha hk1 => ?_)
  have hm1 := hk1.w hm
  exact sM_behindOf hm1 hw h0 h1 (aheadM_lt hw) (sM_responseBy hm1 hw h0 h1 (aheadM_lt hw) (behM_lt hw) fun h' hk2 hr => hq h' (hk1.tr hk2) hr)
theorem sM_fitsByR {Q : Int32 → Mem → Prop} {t : Int} {a b : Nat} (hm : RW (h 61) w) (hw : WF w) (h0 : 0 ≤ t) (h1 : t < w 72) (ha : a < 64) (hb : b < 64) (hq : ∀ h', KR h h' → Q (if fitB w t a b then 1 else 0) h') : CALLI E mM_fitsBy [.ref 60, .int (zI t), .int (zI a), .int (zI b)] h Q := by
  refine fM_fitsBy (sM_responseByR hm hw h0 h1 ha hb fun h1' hk _ => ?_)
  have hm1 := hk.w hm
  have rb := resp_b hw h0 h1 a b
  have l1 := lat_b hw h0 h1
  have l2 := lim_b hw h0 h1
  have hf := hq h1' hk
  unfold fitB at hf
  simp (disch := omega) only [zI_add, zI_sub, zI_mul, zI_neg, zI_lt, zI_le, zI_eq, zI_div, zI_rem, ix_zI, inb_zI, nz_zI, imax_zI, imin_zI, c_t, nb01.1, nb01.2, zl_0, zl_1, zl_2, zl_3, zl_4, zl_5, zl_6, zl_7, zl_8, zl_9, zl_10, zl_11, zl_12, zl_13, zl_14, zl_15, zl_16, zl_17, zl_18, zl_19, zl_20, zl_24, zl_30, zl_31, zl_36, zl_42, zl_44, zl_48, zl_57, zl_58, zl_59, zl_60, zl_61, zl_62, zl_63, zl_64, zl_72, zl_73, zl_96, zl_99, zl_100, zl_104, zl_107, zl_111, zl_114, zl_116, zl_120, zl_200, zl_255, zl_256, zl_360, zl_600, zl_800, zl_1000, zl_2000]
  refine ⟨fun z => ?_, fun z => sM_late hm1 hw h0 h1 (sM_limit hm1 hw h0 h1 ?_)⟩
  · rw [if_neg (by simp; omega)] at hf; exact hf
  · simp (disch := omega) only [zI_add, zI_sub, zI_mul, zI_neg, zI_lt, zI_le, zI_eq, zI_div, zI_rem, ix_zI, inb_zI, nz_zI, imax_zI, imin_zI, c_t, nb01.1, nb01.2, zl_0, zl_1, zl_2, zl_3, zl_4, zl_5, zl_6, zl_7, zl_8, zl_9, zl_10, zl_11, zl_12, zl_13, zl_14, zl_15, zl_16, zl_17, zl_18, zl_19, zl_20, zl_24, zl_30, zl_31, zl_36, zl_42, zl_44, zl_48, zl_57, zl_58, zl_59, zl_60, zl_61, zl_62, zl_63, zl_64, zl_72, zl_73, zl_96, zl_99, zl_100, zl_104, zl_107, zl_111, zl_114, zl_116, zl_120, zl_200, zl_255, zl_256, zl_360, zl_600, zl_800, zl_1000, zl_2000]
    refine ⟨fun z2 => ?_, fun z2 => ?_⟩
    · rw [if_neg (by simp; omega)] at hf; exact hf
    · rw [if_pos (by simp; omega)] at hf; exact hf
theorem sM_fitsBy {Q : Int32 → Mem → Prop} {t : Int} {a b : Nat} (hm : RW (h 61) w) (hw : WF w) (h0 : 0 ≤ t) (h1 : t < w 72) (ha : a < 64) (hb : b < 64) (hq : ∀ h', KM h h' → Q (if fitB w t a b then 1 else 0) h') : CALLI E mM_fitsBy [.ref 60, .int (zI t), .int (zI a), .int (zI b)] h Q := sM_fitsByR hm hw h0 h1 ha hb fun h' hk => hq h' hk.1
theorem sM_fitsAll {Q : Int32 → Mem → Prop} {pol : Int} (hm : RW (h 61) w) (hw : WF w) (hp : 0 ≤ pol ∧ pol < 100) (hq : ∀ h', KM h h' → Q (zI (fitsM w pol : Nat)) h') : CALLI E mM_fitsAll [.ref 60, .int (zI pol)] h Q := by
  refine fM_fitsAll ?_
  have hn := hw.1
  have key : ∀ (j k : Nat) (h1 : Mem), KM h h1 → (k : Int) + j = w 72 → WP E mM_fitsAll 4 [some (.ref 60), some (.int (zI pol)), some (.int (zI (maskK (fun t => decide (w (42 + t) = 1) && fitB w t (aheadM w pol t) (behM w (aheadM w pol t) t)) k : Nat))), some (.int (zI k)), none] [] h1 (qI Q) := by
    intro j
    induction j with
    | zero =>
      intro k h1 hk1 hk
      have hm1 := hk1.w hm
      refine fM_fitsAll_4 ?_
      simp (disch := omega) only [zI_add, zI_sub, zI_mul, zI_neg, zI_lt, zI_le, zI_eq, zI_div, zI_rem, ix_zI, inb_zI, nz_zI, imax_zI, imin_zI, c_t, nb01.1, nb01.2, zl_0, zl_1, zl_2, zl_3, zl_4, zl_5, zl_6, zl_7, zl_8, zl_9, zl_10, zl_11, zl_12, zl_13, zl_14, zl_15, zl_16, zl_17, zl_18, zl_19, zl_20, zl_24, zl_30, zl_31, zl_36, zl_42, zl_44, zl_48, zl_57, zl_58, zl_59, zl_60, zl_61, zl_62, zl_63, zl_64, zl_72, zl_73, zl_96, zl_99, zl_100, zl_104, zl_107, zl_111, zl_114, zl_116, zl_120, zl_200, zl_255, zl_256, zl_360, zl_600, zl_800, zl_1000, zl_2000, hm1 _]
      refine ⟨fun _ => ?_, fun z => absurd (by omega) z⟩
      have hf := hq h1 hk1
      unfold fitsM at hf
      rw [show (w 72).toNat = k by omega] at hf
      exact hf
    | succ j ih =>
      intro k h1 hk1 hk
      have hm1 := hk1.w hm
      refine fM_fitsAll_4 ?_
      have lt : maskK (fun t => decide (w (42 + t) = 1) && fitB w t (aheadM w pol t) (behM w (aheadM w pol t) t)) k < 64 := mask64 (by omega)
      have ih' := fun h2 hk2 => ih (k + 1) h2 hk2 (by omega)
      unfold maskK at ih'
      have e1 : ((k + 1 : Nat) : Int) = (k : Int) + 1 := by omega
      rw [e1] at ih'
      simp (disch := omega) only [zI_add, zI_sub, zI_mul, zI_neg, zI_lt, zI_le, zI_eq, zI_div, zI_rem, ix_zI, inb_zI, nz_zI, imax_zI, imin_zI, c_t, nb01.1, nb01.2, zl_0, zl_1, zl_2, zl_3, zl_4, zl_5, zl_6, zl_7, zl_8, zl_9, zl_10, zl_11, zl_12, zl_13, zl_14, zl_15, zl_16, zl_17, zl_18, zl_19, zl_20, zl_24, zl_30, zl_31, zl_36, zl_42, zl_44, zl_48, zl_57, zl_58, zl_59, zl_60, zl_61, zl_62, zl_63, zl_64, zl_72, zl_73, zl_96, zl_99, zl_100, zl_104, zl_107, zl_111, zl_114, zl_116, zl_120, zl_200, zl_255, zl_256, zl_360, zl_600, zl_800, zl_1000, zl_2000, hm1 _]
      refine ⟨fun z => by omega, fun z => sM_isOn hm1 hw (by omega) (by omega) ?_⟩
      by_cases hon : w (42 + (k : Int)) = 1
      · rw [if_pos hon]
        simp (disch := omega) only [zI_add, zI_sub, zI_mul, zI_neg, zI_lt, zI_le, zI_eq, zI_div, zI_rem, ix_zI, inb_zI, nz_zI, imax_zI, imin_zI, c_t, nb01.1, nb01.2, zl_0, zl_1, zl_2, zl_3, zl_4, zl_5, zl_6, zl_7, zl_8, zl_9, zl_10, zl_11, zl_12, zl_13, zl_14, zl_15, zl_16, zl_17, zl_18, zl_19, zl_20, zl_24, zl_30, zl_31, zl_36, zl_42, zl_44, zl_48, zl_57, zl_58, zl_59, zl_60, zl_61, zl_62, zl_63, zl_64, zl_72, zl_73, zl_96, zl_99, zl_100, zl_104, zl_107, zl_111, zl_114, zl_116, zl_120, zl_200, zl_255, zl_256, zl_360, zl_600, zl_800, zl_1000, zl_2000]
        refine ⟨fun z => by omega, fun _ => sM_aheadOf hm1 hw (by omega) (by omega) hon hp fun h2 hk2 => ?_⟩
        have hm2 := hk2.w hm1
        refine sM_behindOf hm2 hw (by omega) (by omega) (aheadM_lt hw) (sM_fitsBy hm2 hw (by omega) (by omega) (aheadM_lt hw) (behM_lt hw) fun h3 hk3 => ?_)
        have ih2 := ih' h3 ((hk1.tr hk2).tr hk3)
        by_cases c : fitB w k (aheadM w pol k) (behM w (aheadM w pol k) k) = true
        · rw [if_pos (by simp [hon, c])] at ih2
          rw [if_pos c]
          simp (disch := omega) only [zI_add, zI_sub, zI_mul, zI_neg, zI_lt, zI_le, zI_eq, zI_div, zI_rem, ix_zI, inb_zI, nz_zI, imax_zI, imin_zI, c_t, nb01.1, nb01.2, zl_0, zl_1, zl_2, zl_3, zl_4, zl_5, zl_6, zl_7, zl_8, zl_9, zl_10, zl_11, zl_12, zl_13, zl_14, zl_15, zl_16, zl_17, zl_18, zl_19, zl_20, zl_24, zl_30, zl_31, zl_36, zl_42, zl_44, zl_48, zl_57, zl_58, zl_59, zl_60, zl_61, zl_62, zl_63, zl_64, zl_72, zl_73, zl_96, zl_99, zl_100, zl_104, zl_107, zl_111, zl_114, zl_116, zl_120, zl_200, zl_255, zl_256, zl_360, zl_600, zl_800, zl_1000, zl_2000, or_z]
          exact ⟨fun z => by omega, fun _ => ih2⟩
        · rw [if_neg (by simp [c])] at ih2
          rw [if_neg c]
          simp (disch := omega) only [zI_add, zI_sub, zI_mul, zI_neg, zI_lt, zI_le, zI_eq, zI_div, zI_rem, ix_zI, inb_zI, nz_zI, imax_zI, imin_zI, c_t, nb01.1, nb01.2, zl_0, zl_1, zl_2, zl_3, zl_4, zl_5, zl_6, zl_7, zl_8, zl_9, zl_10, zl_11, zl_12, zl_13, zl_14, zl_15, zl_16, zl_17, zl_18, zl_19, zl_20, zl_24, zl_30, zl_31, zl_36, zl_42, zl_44, zl_48, zl_57, zl_58, zl_59, zl_60, zl_61, zl_62, zl_63, zl_64, zl_72, zl_73, zl_96, zl_99, zl_100, zl_104, zl_107, zl_111, zl_114, zl_116, zl_120, zl_200, zl_255, zl_256, zl_360, zl_600, zl_800, zl_1000, zl_2000, or_0]
          exact ⟨fun _ => ih2, fun z => absurd trivial z⟩
      · rw [if_neg hon]
        have ih2 := ih' h1 hk1
        rw [if_neg (by simp [hon])] at ih2
        simp (disch := omega) only [zI_add, zI_sub, zI_mul, zI_neg, zI_lt, zI_le, zI_eq, zI_div, zI_rem, ix_zI, inb_zI, nz_zI, imax_zI, imin_zI, c_t, nb01.1, nb01.2, zl_0, zl_1, zl_2, zl_3, zl_4, zl_5, zl_6, zl_7, zl_8, zl_9, zl_10, zl_11, zl_12, zl_13, zl_14, zl_15, zl_16, zl_17, zl_18, zl_19, zl_20, zl_24, zl_30, zl_31, zl_36, zl_42, zl_44, zl_48, zl_57, zl_58, zl_59, zl_60, zl_61, zl_62, zl_63, zl_64, zl_72, zl_73, zl_96, zl_99, zl_100, zl_104, zl_107, zl_111, zl_114, zl_116, zl_120, zl_200, zl_255, zl_256, zl_360, zl_600, zl_800, zl_1000, zl_2000]
        exact ⟨fun _ => ih2, fun z => absurd trivial z⟩
  exact key (w 72).toNat 0 h KM.rf (by omega)
def allFit (w : Int → Int) (pol : Int) : Bool := decide (fitsM w pol = onM w)
theorem fitsM_lt {w : Int → Int} (hw : WF w) {pol : Int} : fitsM w pol < 64 := mask64 hw.n.2
theorem sM_doAllFit {Q : Int32 → Mem → Prop} {pol : Int} (hm : RW (h 61) w) (hw : WF w) (hp : 0 ≤ pol ∧ pol < 100) (hq : ∀ h', KM h h' → Q (if allFit w pol then 1 else 0) h') : CALLI E mM_doAllFit [.ref 60, .int (zI pol)] h Q := by
  refine fM_doAllFit (sM_fitsAll hm hw hp fun h1 hk => sM_onSet (hk.w hm) hw ?_)
  have f1 := fitsM_lt hw (pol := pol)
  have f2 := onM_lt hw
  have hf := hq h1 hk
  unfold allFit at hf
  simp (disch := omega) only [zI_add, zI_sub, zI_mul, zI_neg, zI_lt, zI_le, zI_eq, zI_div, zI_rem, ix_zI, inb_zI, nz_zI, imax_zI, imin_zI, c_t, nb01.1, nb01.2, zl_0, zl_1, zl_2, zl_3, zl_4, zl_5, zl_6, zl_7, zl_8, zl_9, zl_10, zl_11, zl_12, zl_13, zl_14, zl_15, zl_16, zl_17, zl_18, zl_19, zl_20, zl_24, zl_30, zl_31, zl_36, zl_42, zl_44, zl_48, zl_57, zl_58, zl_59, zl_60, zl_61, zl_62, zl_63, zl_64, zl_72, zl_73, zl_96, zl_99, zl_100, zl_104, zl_107, zl_111, zl_114, zl_116, zl_120, zl_200, zl_255, zl_256, zl_360, zl_600, zl_800, zl_1000, zl_2000]
  refine ⟨fun z => ?_, fun z => ?_⟩
  · rw [if_neg (by simp; omega)] at hf; exact hf
  · rw [if_pos (by simp; omega)] at hf; exact hf
end RR
