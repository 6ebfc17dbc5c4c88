/-! ===== a lawful order: both seeks ===== -/
def lawS (w : Int → Int) (i : Int) : Int := if canS w (onM w) = true ∧ i < (pc6 (onM w) : Nat) then (orderF w (pc6 (onM w)) (onM w)).getD i.toNat 0 else -9
theorem bhd_up {w : Int → Int} (hw : WF w) {S t : Nat} (hS : S < 64) (hs : S &&& onM w = S) (ht : t < 6) (hb : S.testBit t = true) : bhd w S ||| 2 ^ t = bhd w (lessT S t) := bm2 _ (onM_lt hw) S hS hs t ht hb
theorem bhd_un {w : Int → Int} (hw : WF w) {S : Nat} (hS : S < 64) (hs : S &&& onM w = S) : onM w &&& (63 ^^^ bhd w S) = S := bm1 _ (onM_lt hw) S hS hs
theorem canS_no {w : Int → Int} (hw : WF w) {S : Nat} (hS : S < 64) (h0 : S ≠ 0) (hf : firstK (okS w S) (nT w) 0 = none) : canS w S = false := by rw [canS_eq hw hS h0, hf]; rfl
theorem canS_yes {w : Int → Int} (hw : WF w) {S t : Nat} (hS : S < 64) (h0 : S ≠ 0) (hf : firstK (okS w S) (nT w) 0 = some t) : canS w S = true := by rw [canS_eq hw hS h0, hf]; rfl
theorem orderF_s {w : Int → Int} {f S t : Nat} (hf : firstK (okS w S) (nT w) 0 = some t) : orderF w (f + 1) S = orderF w f (lessT S t) ++ [(t : Int)] := by
  show (match firstK (okS w S) (nT w) 0 with
    | some t => orderF w f (lessT S t) ++ [(t : Int)]
    | none => []) = _
  rw [hf]
theorem okS_f {w : Int → Int} {S t : Nat} (h : S.testBit t = false) : okS w S t = false := by unfold okS; rw [h]; rfl
theorem okS_t {w : Int → Int} {S t : Nat} (h : S.testBit t = true) : okS w S t = (fitB w t (lessT S t) (bhd w S) && canS w (lessT S t)) := by unfold okS; rw [h]; rfl
theorem firstK_f {P : Nat → Bool} {j k : Nat} (h : P k = false) : firstK P (j + 1) k = firstK P j (k + 1) := by
  show (if P k then some k else firstK P j (k + 1)) = _
  rw [h]; rfl
theorem firstK_t {P : Nat → Bool} {j k : Nat} (h : P k = true) : firstK P (j + 1) k = some k := by
  show (if P k then some k else firstK P j (k + 1)) = _
  rw [h]; rfl
set_option maxRecDepth 100000 in
theorem or_mm : ∀ m, m < 64 → ∀ k, k < 64 → zI (m : Nat) ||| zI (k : Nat) = zI ((m ||| k : Nat) : Int) := by decide +kernel
section LB
variable {E : XE} {h : Mem} {w : Int → Int} {p : Nat}
theorem sM_ones {Q : Int32 → Mem → Prop} {m : Nat} (hm : m < 64) (hq : Q (zI (pc6 m : Nat)) h) : CALLI E mM_ones [.int (zI m)] h Q := by
  refine fM_ones ?_
  have key : ∀ (j k : Nat), k + j = 6 → pcK m k ≤ k → WP E mM_ones 4 [some (.int (zI m)), some (.int (zI (pcK m k : Nat))), some (.int (zI k))] [] h (qI Q) := by
    intro j
    induction j with
    | zero =>
      intro k hk _
      refine fM_ones_4 ?_
      have : k = 6 := by omega
      subst this
      simp (disch := omega) only [zI_add, zI_sub, zI_mul, zI_neg, zI_lt, zI_le, zI_eq, zI_div, zI_rem, ix_zI, inb_zI, nz_zI, imax_zI, imin_zI, c_t, nb01.1, nb01.2, zl_0, zl_1, zl_2, zl_3, zl_4, zl_5, zl_6, zl_7, zl_8, zl_9, zl_10, zl_11, zl_12, zl_13, zl_14, zl_15, zl_16, zl_17, zl_18, zl_19, zl_20, zl_24, zl_30, zl_31, zl_36, zl_42, zl_44, zl_48, zl_57, zl_58, zl_59, zl_60, zl_61, zl_62, zl_63, zl_64, zl_72, zl_73, zl_96, zl_99, zl_100, zl_104, zl_107, zl_111, zl_114, zl_116, zl_120, zl_200, zl_255, zl_256, zl_360, zl_600, zl_800, zl_1000, zl_2000]
      exact ⟨fun _ => hq, fun z => absurd (by omega) z⟩
    | succ j ih =>
      intro k hk hb
      refine fM_ones_4 ?_
      have hs : pcK m (k + 1) = pcK m k + if m.testBit k then 1 else 0 := rfl
      have hnext := ih (k + 1) (by omega) (by rw [hs]; split <;> omega)
      have hh := has_z hm (k := (k : Int)) (by omega) (by omega)
      rw [Int.toNat_natCast] at hh
      rw [zl_1, hh]
      have e1 : ((k + 1 : Nat) : Int) = (k : Int) + 1 := by omega
      rw [e1, hs] at hnext
      by_cases c : m.testBit k = true
      · rw [if_pos c] at hnext ⊢
        have e2 : ((pcK m k + 1 : Nat) : Int) = (pcK m k : Int) + 1 := by omega
        rw [e2] at hnext
        simp (disch := omega) only [zI_add, zI_sub, zI_mul, zI_neg, zI_lt, zI_le, zI_eq, zI_div, zI_rem, ix_zI, inb_zI, nz_zI, imax_zI, imin_zI, c_t, nb01.1, nb01.2, zl_0, zl_1, zl_2, zl_3, zl_4, zl_5, zl_6, zl_7, zl_8, zl_9, zl_10, zl_11, zl_12, zl_13, zl_14, zl_15, zl_16, zl_17, zl_18, zl_19, zl_20, zl_24, zl_30, zl_31, zl_36, zl_42, zl_44, zl_48, zl_57, zl_58, zl_59, zl_60, zl_61, zl_62, zl_63, zl_64, zl_72, zl_73, zl_96, zl_99, zl_100, zl_104, zl_107, zl_111, zl_114, zl_116, zl_120, zl_200, zl_255, zl_256, zl_360, zl_600, zl_800, zl_1000, zl_2000]
        exact ⟨fun z => by omega, fun _ => hnext⟩
      · rw [if_neg c] at hnext ⊢
        rw [Nat.add_zero] at hnext
        simp (disch := omega) only [zI_add, zI_sub, zI_mul, zI_neg, zI_lt, zI_le, zI_eq, zI_div, zI_rem, ix_zI, inb_zI, nz_zI, imax_zI, imin_zI, c_t, nb01.1, nb01.2, zl_0, zl_1, zl_2, zl_3, zl_4, zl_5, zl_6, zl_7, zl_8, zl_9, zl_10, zl_11, zl_12, zl_13, zl_14, zl_15, zl_16, zl_17, zl_18, zl_19, zl_20, zl_24, zl_30, zl_31, zl_36, zl_42, zl_44, zl_48, zl_57, zl_58, zl_59, zl_60, zl_61, zl_62, zl_63, zl_64, zl_72, zl_73, zl_96, zl_99, zl_100, zl_104, zl_107, zl_111, zl_114, zl_116, zl_120, zl_200, zl_255, zl_256, zl_360, zl_600, zl_800, zl_1000, zl_2000, Int.add_zero]
        exact ⟨fun z => by omega, fun _ => hnext⟩
  exact key 6 0 (by omega) (by show 0 ≤ 0; omega)
theorem sM_seeks0 {Q : Int32 → Mem → Prop} {S left : Nat} (hm : RW (h 61) w) (hw : WF w) (hS : S < 64) (hs : S &&& onM w = S) (hl : left = pc6 S) (hlev : left ≤ 0)
    (hq : ∀ h', KM h h' → (∀ i, left ≤ i → h' 69 i = h 69 i) → (canS w S = true → ∀ i, i < left → h' 69 i = zI ((orderF w left S).getD i 0)) → Q (if canS w S then 1 else 0) h') : CALLI E mM_seeks0 [.ref 60, .int (zI (bhd w S : Nat)), .int (zI left)] h Q := by
  refine fM_seeks0 (sM_onSet hm hw ?_)
  rw [show (-1 : Int32) = zI (-1) from rfl, not_k _ (onM_lt hw) _ (bhd_lt hw), bhd_un hw hS hs]
  have h0 : S = 0 := (bm6 S hS).mp (by omega)
  subst h0
  have := hq h KM.rf (fun _ _ => rfl) (fun _ i hi => by omega)
  rw [canS_0, if_pos rfl] at this
  exact ⟨fun z => absurd rfl z, fun _ => this⟩
theorem sM_seeks1 {Q : Int32 → Mem → Prop} {S left : Nat} (hm : RW (h 61) w) (hw : WF w) (hS : S < 64) (hs : S &&& onM w = S) (hl : left = pc6 S) (hlev : left ≤ 1)
    (hq : ∀ h', KM h h' → (∀ i, left ≤ i → h' 69 i = h 69 i) → (canS w S = true → ∀ i, i < left → h' 69 i = zI ((orderF w left S).getD i 0)) → Q (if canS w S then 1 else 0) h') : CALLI E mM_seeks1 [.ref 60, .int (zI (bhd w S : Nat)), .int (zI left)] h Q := by
  refine fM_seeks1 (sM_onSet hm hw ?_)
  rw [show (-1 : Int32) = zI (-1) from rfl, not_k _ (onM_lt hw) _ (bhd_lt hw), bhd_un hw hS hs]
  by_cases h0 : S = 0
  · subst h0
    have hl0 : left = 0 := hl.trans ((bm6 0 (by omega)).mpr rfl)
    have := hq h KM.rf (fun _ _ => rfl) (fun _ i hi => by omega)
    rw [canS_0, if_pos rfl] at this
    exact ⟨fun z => absurd rfl z, fun _ => this⟩
  have hl0 : left ≠ 0 := fun z => h0 ((bm6 S hS).mp (by omega))
  obtain ⟨f, rfl⟩ : ∃ f, left = f + 1 := ⟨left - 1, by omega⟩
  have hn := hw.1
  have hnT : ((nT w : Nat) : Int) = w 72 := by unfold nT; omega
  have key : ∀ (j k : Nat) (h1 : Mem), KM h h1 → (∀ i, f + 1 ≤ i → h1 69 i = h 69 i) → k + j = nT w → firstK (okS w S) (nT w) 0 = firstK (okS w S) j k →
      WP E mM_seeks1 18 [some (.ref 60), some (.int (zI (bhd w S : Nat))), some (.int (zI (f + 1 : Nat))), some (.int (zI (S : Nat))), some (.int (zI k))] [] h1 (qI Q) := by
    intro j
    induction j with
    | zero =>
      intro k h1 hk hi hj hf
      refine fM_seeks1_18 ?_
      have hm1 := hk.w hm
      simp (disch := omega) only [zI_add, zI_sub, zI_mul, zI_neg, zI_lt, zI_le, zI_eq, zI_div, zI_rem, ix_zI, inb_zI, nz_zI, imax_zI, imin_zI, c_t, nb01.1, nb01.2, zl_0, zl_1, zl_2, zl_3, zl_4, zl_5, zl_6, zl_7, zl_8, zl_9, zl_10, zl_11, zl_12, zl_13, zl_14, zl_15, zl_16, zl_17, zl_18, zl_19, zl_20, zl_24, zl_30, zl_31, zl_36, zl_42, zl_44, zl_48, zl_57, zl_58, zl_59, zl_60, zl_61, zl_62, zl_63, zl_64, zl_72, zl_73, zl_96, zl_99, zl_100, zl_104, zl_107, zl_111, zl_114, zl_116, zl_120, zl_200, zl_255, zl_256, zl_360, zl_600, zl_800, zl_1000, zl_2000, hm1 _]
      have hc := canS_no hw hS h0 hf
      have := hq h1 hk hi (fun z => by rw [hc] at z; cases z)
      rw [hc, if_neg Bool.false_ne_true] at this
      exact ⟨fun _ => this, fun z => absurd (by omega) z⟩
    | succ j ih =>
      intro k h1 hk hi hj hf
      refine fM_seeks1_18 ?_
      have hm1 := hk.w hm
      have e1 : ((k + 1 : Nat) : Int) = (k : Int) + 1 := by omega
      have hnext := fun h2 a b c => ih (k + 1) h2 a b (by omega) (hf.trans (firstK_f c))
      rw [e1] at hnext
      have e3 : lessT S k < S ∧ pc6 (lessT S k) + 1 = pc6 S ∨ S.testBit k = false := by
        cases c : S.testBit k with
        | false => exact Or.inr rfl
        | true => exact Or.inl (bm3 S hS k (by omega) c)
      simp (disch := omega) only [zl_1, zI_neg, shl_z, Int.toNat_natCast]
      rw [not_k _ hS _ (pow6 (k := k) (by omega)), or_mm _ (bhd_lt hw) _ (pow6 (k := k) (by omega))]
      simp (disch := omega) only [zI_add, zI_sub, zI_mul, zI_neg, zI_lt, zI_le, zI_eq, zI_div, zI_rem, ix_zI, inb_zI, nz_zI, imax_zI, imin_zI, c_t, nb01.1, nb01.2, zl_0, zl_1, zl_2, zl_3, zl_4, zl_5, zl_6, zl_7, zl_8, zl_9, zl_10, zl_11, zl_12, zl_13, zl_14, zl_15, zl_16, zl_17, zl_18, zl_19, zl_20, zl_24, zl_30, zl_31, zl_36, zl_42, zl_44, zl_48, zl_57, zl_58, zl_59, zl_60, zl_61, zl_62, zl_63, zl_64, zl_72, zl_73, zl_96, zl_99, zl_100, zl_104, zl_107, zl_111, zl_114, zl_116, zl_120, zl_200, zl_255, zl_256, zl_360, zl_600, zl_800, zl_1000, zl_2000, hm1 _]
      refine ⟨fun z => by omega, fun _ => sM_has (k := (k : Int)) hS (by omega) (by omega) ?_⟩
      rw [Int.toNat_natCast]
      by_cases c : S.testBit k = true
      · rw [if_pos c]
        have e3 := e3.resolve_right (by rw [c]; simp)
        refine ⟨fun z => absurd z (by decide), fun _ => ?_⟩
        rw [show S &&& (63 ^^^ 2 ^ k) = lessT S k from rfl]
        refine sM_fitsByR (t := (k : Int)) (a := lessT S k) hm1 hw (by omega) (by omega) (less_lt hS) (bhd_lt hw) fun h2 hk2 => ?_
        have hi2 : ∀ i, f + 1 ≤ i → h2 69 i = h 69 i := fun i hh => (congrFun (hk2.2 69 (by omega)) i).trans (hi i hh)
        by_cases c2 : fitB w k (lessT S k) (bhd w S) = true
        · rw [if_pos c2]
          refine ⟨fun z => absurd z (by decide), fun _ => ?_⟩
          have e4 : bhd w S ||| 2 ^ k = bhd w (lessT S k) := bhd_up hw hS hs (by omega) c
          rw [e4]
          have b7 := bm7 S hS
          have ef : ((f + 1 : Nat) : Int) - 1 = (f : Nat) := by omega
          simp (disch := omega) only [zI_add, zI_sub, zI_mul, zI_neg, zI_lt, zI_le, zI_eq, zI_div, zI_rem, ix_zI, inb_zI, nz_zI, imax_zI, imin_zI, c_t, nb01.1, nb01.2, zl_0, zl_1, zl_2, zl_3, zl_4, zl_5, zl_6, zl_7, zl_8, zl_9, zl_10, zl_11, zl_12, zl_13, zl_14, zl_15, zl_16, zl_17, zl_18, zl_19, zl_20, zl_24, zl_30, zl_31, zl_36, zl_42, zl_44, zl_48, zl_57, zl_58, zl_59, zl_60, zl_61, zl_62, zl_63, zl_64, zl_72, zl_73, zl_96, zl_99, zl_100, zl_104, zl_107, zl_111, zl_114, zl_116, zl_120, zl_200, zl_255, zl_256, zl_360, zl_600, zl_800, zl_1000, zl_2000, ef, Int.toNat_natCast]
          refine sM_seeks0 (S := lessT S k) (left := f) ?_ hw (less_lt hS) (bm5 _ (onM_lt hw) S hS hs k (by omega)) (by omega) (by omega) fun h3 hk3 hi3 hv3 => ?_
          · show RW (upd2 h2 69 f (zI k) 61) w
            rw [upd2_ne 61 (by omega)]
            exact (hk.tr hk2.1).w hm
          have hk13 : KM h h3 := ((hk.tr hk2.1).up (p := 69) (i := f) (x := zI k) (by omega)).tr hk3
          have hi13 : ∀ i, f + 1 ≤ i → h3 69 i = h 69 i := fun i hh => (hi3 i (by omega)).trans ((u_i (by omega)).trans (hi2 i hh))
          by_cases c3 : canS w (lessT S k) = true
          · rw [if_pos c3]
            have ho : okS w S k = true := by rw [okS_t c, c2, c3]; rfl
            have hff := hf.trans (firstK_t ho)
            have hc := canS_yes hw hS h0 hff
            have := hq h3 hk13 hi13 (fun _ i hh => ?_)
            · rw [hc, if_pos rfl] at this
              exact ⟨fun z => absurd z (by decide), fun _ => this⟩
            · rw [orderF_s hff]
              have hlen := orderF_len hw f (lessT S k) (less_lt hS) (by omega) c3
              by_cases ei : i = f
              · subst ei
                rw [hi3 i (by omega), u_s, List.getD_eq_getElem?_getD, List.getElem?_append_right (by omega), hlen, Nat.sub_self]
                rfl
              · rw [hv3 c3 i (by omega), List.getD_eq_getElem?_getD, List.getD_eq_getElem?_getD, List.getElem?_append_left (by omega)]
          · rw [if_neg c3]
            refine ⟨fun _ => hnext h3 hk13 hi13 ?_, fun z => absurd rfl z⟩
            rw [okS_t c, c2, Bool.eq_false_iff.mpr c3]; rfl
        · rw [if_neg c2]
          refine ⟨fun _ => hnext h2 (hk.tr hk2.1) hi2 ?_, fun z => absurd rfl z⟩
          rw [okS_t c, Bool.eq_false_iff.mpr c2]; rfl
      · rw [if_neg c]
        exact ⟨fun _ => hnext h1 hk hi (okS_f (Bool.eq_false_iff.mpr c)), fun z => absurd rfl z⟩
  refine ⟨fun _ => key (nT w) 0 h KM.rf (fun _ _ => rfl) (by omega) rfl, fun z => ?_⟩
  rw [zl_0, zI_eq (by omega) (by omega) (by omega) (by omega)] at z
  omega
theorem sM_seeks2 {Q : Int32 → Mem → Prop} {S left : Nat} (hm : RW (h 61) w) (hw : WF w) (hS : S < 64) (hs : S &&& onM w = S) (hl : left = pc6 S) (hlev : left ≤ 2)
    (hq : ∀ h', KM h h' → (∀ i, left ≤ i → h' 69 i = h 69 i) → (canS w S = true → ∀ i, i < left → h' 69 i = zI ((orderF w left S).getD i 0)) → Q (if canS w S then 1 else 0) h') : CALLI E mM_seeks2 [.ref 60, .int (zI (bhd w S : Nat)), .int (zI left)] h Q := by
  refine fM_seeks2 (sM_onSet hm hw ?_)
  rw [show (-1 : Int32) = zI (-1) from rfl, not_k _ (onM_lt hw) _ (bhd_lt hw), bhd_un hw hS hs]
  by_cases h0 : S = 0
  · subst h0
    have hl0 : left = 0 := hl.trans ((bm6 0 (by omega)).mpr rfl)
    have := hq h KM.rf (fun _ _ => rfl) (fun _ i hi => by omega)
    rw [canS_0, if_pos rfl] at this
    exact ⟨fun z => absurd rfl z, fun _ => this⟩
  have hl0 : left ≠ 0 := fun z => h0 ((bm6 S hS).mp (by omega))
  obtain ⟨f, rfl⟩ : ∃ f, left = f + 1 := ⟨left - 1, by omega⟩
  have hn := hw.1
  have hnT : ((nT w : Nat) : Int) = w 72 := by unfold nT; omega
  have key : ∀ (j k : Nat) (h1 : Mem), KM h h1 → (∀ i, f + 1 ≤ i → h1 69 i = h 69 i) → k + j = nT w → firstK (okS w S) (nT w) 0 = firstK (okS w S) j k →
      WP E mM_seeks2 18 [some (.ref 60), some (.int (zI (bhd w S : Nat))), some (.int (zI (f + 1 : Nat))), some (.int (zI (S : Nat))), some (.int (zI k))] [] h1 (qI Q) := by
    intro j
    induction j with
    | zero =>
      intro k h1 hk hi hj hf
      refine fM_seeks2_18 ?_
      have hm1 := hk.w hm
      simp (disch := omega) only [zI_add, zI_sub, zI_mul, zI_neg, zI_lt, zI_le, zI_eq, zI_div, zI_rem, ix_zI, inb_zI, nz_zI, imax_zI, imin_zI, c_t, nb01.1, nb01.2, zl_0, zl_1, zl_2, zl_3, zl_4, zl_5, zl_6, zl_7, zl_8, zl_9, zl_10, zl_11, zl_12, zl_13, zl_14, zl_15, zl_16, zl_17, zl_18, zl_19, zl_20, zl_24, zl_30, zl_31, zl_36, zl_42, zl_44, zl_48, zl_57, zl_58, zl_59, zl_60, zl_61, zl_62, zl_63, zl_64, zl_72, zl_73, zl_96, zl_99, zl_100, zl_104, zl_107, zl_111, zl_114, zl_116, zl_120, zl_200, zl_255, zl_256, zl_360, zl_600, zl_800, zl_1000, zl_2000, hm1 _]
      have hc := canS_no hw hS h0 hf
      have := hq h1 hk hi (fun z => by rw [hc] at z; cases z)
      rw [hc, if_neg Bool.false_ne_true] at this
      exact ⟨fun _ => this, fun z => absurd (by omega) z⟩
    | succ j ih =>
      intro k h1 hk hi hj hf
      refine fM_seeks2_18 ?_
      have hm1 := hk.w hm
      have e1 : ((k + 1 : Nat) : Int) = (k : Int) + 1 := by omega
      have hnext := fun h2 a b c => ih (k + 1) h2 a b (by omega) (hf.trans (firstK_f c))
      rw [e1] at hnext
      have e3 : lessT S k < S ∧ pc6 (lessT S k) + 1 = pc6 S ∨ S.testBit k = false := by
        cases c : S.testBit k with
        | false => exact Or.inr rfl
        | true => exact Or.inl (bm3 S hS k (by omega) c)
      simp (disch := omega) only [zl_1, zI_neg, shl_z, Int.toNat_natCast]
      rw [not_k _ hS _ (pow6 (k := k) (by omega)), or_mm _ (bhd_lt hw) _ (pow6 (k := k) (by omega))]
      simp (disch := omega) only [zI_add, zI_sub, zI_mul, zI_neg, zI_lt, zI_le, zI_eq, zI_div, zI_rem, ix_zI, inb_zI, nz_zI, imax_zI, imin_zI, c_t, nb01.1, nb01.2, zl_0, zl_1, zl_2, zl_3, zl_4, zl_5, zl_6, zl_7, zl_8, zl_9, zl_10, zl_11, zl_12, zl_13, zl_14, zl_15, zl_16, zl_17, zl_18, zl_19, zl_20, zl_24, zl_30, zl_31, zl_36, zl_42, zl_44, zl_48, zl_57, zl_58, zl_59, zl_60, zl_61, zl_62, zl_63, zl_64, zl_72, zl_73, zl_96, zl_99, zl_100, zl_104, zl_107, zl_111, zl_114, zl_116, zl_120, zl_200, zl_255, zl_256, zl_360, zl_600, zl_800, zl_1000, zl_2000, hm1 _]
      refine ⟨fun z => by omega, fun _ => sM_has (k := (k : Int)) hS (by omega) (by omega) ?_⟩
      rw [Int.toNat_natCast]
      by_cases c : S.testBit k = true
      · rw [if_pos c]
        have e3 := e3.resolve_right (by rw [c]; simp)
        refine ⟨fun z => absurd z (by decide), fun _ => ?_⟩
        rw [show S &&& (63 ^^^ 2 ^ k) = lessT S k from rfl]
        refine sM_fitsByR (t := (k : Int)) (a := lessT S k) hm1 hw (by omega) (by omega) (less_lt hS) (bhd_lt hw) fun h2 hk2 => ?_
        have hi2 : ∀ i, f + 1 ≤ i → h2 69 i = h 69 i := fun i hh => (congrFun (hk2.2 69 (by omega)) i).trans (hi i hh)
        by_cases c2 : fitB w k (lessT S k) (bhd w S) = true
        · rw [if_pos c2]
          refine ⟨fun z => absurd z (by decide), fun _ => ?_⟩
          have e4 : bhd w S ||| 2 ^ k = bhd w (lessT S k) := bhd_up hw hS hs (by omega) c
          rw [e4]
          have b7 := bm7 S hS
          have ef : ((f + 1 : Nat) : Int) - 1 = (f : Nat) := by omega
          simp (disch := omega) only [zI_add, zI_sub, zI_mul, zI_neg, zI_lt, zI_le, zI_eq, zI_div, zI_rem, ix_zI, inb_zI, nz_zI, imax_zI, imin_zI, c_t, nb01.1, nb01.2, zl_0, zl_1, zl_2, zl_3, zl_4, zl_5, zl_6, zl_7, zl_8, zl_9, zl_10, zl_11, zl_12, zl_13, zl_14, zl_15, zl_16, zl_17, zl_18, zl_19, zl_20, zl_24, zl_30, zl_31, zl_36, zl_42, zl_44, zl_48, zl_57, zl_58, zl_59, zl_60, zl_61, zl_62, zl_63, zl_64, zl_72, zl_73, zl_96, zl_99, zl_100, zl_104, zl_107, zl_111, zl_114, zl_116, zl_120, zl_200, zl_255, zl_256, zl_360, zl_600, zl_800, zl_1000, zl_2000, ef, Int.toNat_natCast]
          refine sM_seeks1 (S := lessT S k) (left := f) ?_ hw (less_lt hS) (bm5 _ (onM_lt hw) S hS hs k (by omega)) (by omega) (by omega) fun h3 hk3 hi3 hv3 => ?_
          · show RW (upd2 h2 69 f (zI k) 61) w
            rw [upd2_ne 61 (by omega)]
            exact (hk.tr hk2.1).w hm
          have hk13 : KM h h3 := ((hk.tr hk2.1).up (p := 69) (i := f) (x := zI k) (by omega)).tr hk3
          have hi13 : ∀ i, f + 1 ≤ i → h3 69 i = h 69 i := fun i hh => (hi3 i (by omega)).trans ((u_i (by omega)).trans (hi2 i hh))
          by_cases c3 : canS w (lessT S k) = true
          · rw [if_pos c3]
            have ho : okS w S k = true := by rw [okS_t c, c2, c3]; rfl
            have hff := hf.trans (firstK_t ho)
            have hc := canS_yes hw hS h0 hff
            have := hq h3 hk13 hi13 (fun _ i hh => ?_)
            · rw [hc, if_pos rfl] at this
              exact ⟨fun z => absurd z (by decide), fun _ => this⟩
            · rw [orderF_s hff]
              have hlen := orderF_len hw f (lessT S k) (less_lt hS) (by omega) c3
              by_cases ei : i = f
              · subst ei
                rw [hi3 i (by omega), u_s, List.getD_eq_getElem?_getD, List.getElem?_append_right (by omega), hlen, Nat.sub_self]
                rfl
              · rw [hv3 c3 i (by omega), List.getD_eq_getElem?_getD, List.getD_eq_getElem?_getD, List.getElem?_append_left (by omega)]
          · rw [if_neg c3]
            refine ⟨fun _ => hnext h3 hk13 hi13 ?_, fun z => absurd rfl z⟩
            rw [okS_t c, c2, Bool.eq_false_iff.mpr c3]; rfl
        · rw [if_neg c2]
          refine ⟨fun _ => hnext h2 (hk.tr hk2.1) hi2 ?_, fun z => absurd rfl z⟩
          rw [okS_t c, Bool.eq_false_iff.mpr c2]; rfl
      · rw [if_neg c]
        exact ⟨fun _ => hnext h1 hk hi (okS_f (Bool.eq_false_iff.mpr c)), fun z => absurd rfl z⟩
  refine ⟨fun _ => key (nT w) 0 h KM.rf (fun _ _ => rfl) (by omega) rfl, fun z => ?_⟩
  rw [zl_0, zI_eq (by omega) (by omega) (by omega) (by omega)] at z
  omega
theorem sM_seeks3 {Q : Int32 → Mem → Prop} {S left : Nat} (hm : RW (h 61) w) (hw : WF w) (hS : S < 64) (hs : S &&& onM w = S) (hl : left = pc6 S) (hlev : left ≤ 3)
    (hq : ∀ h', KM h h' → (∀ i, left ≤ i → h' 69 i = h 69 i) → (canS w S = true → ∀ i, i < left → h' 69 i = zI ((orderF w left S).getD i 0)) → Q (if canS w S then 1 else 0) h') : CALLI E mM_seeks3 [.ref 60, .int (zI (bhd w S : Nat)), .int (zI left)] h Q := by
  refine fM_seeks3 (sM_onSet hm hw ?_)
  rw [show (-1 : Int32) = zI (-1) from rfl, not_k _ (onM_lt hw) _ (bhd_lt hw), bhd_un hw hS hs]
  by_cases h0 : S = 0
  · subst h0
    have hl0 : left = 0 := hl.trans ((bm6 0 (by omega)).mpr rfl)
    have := hq h KM.rf (fun _ _ => rfl) (fun _ i hi => by omega)
    rw [canS_0, if_pos rfl] at this
    exact ⟨fun z => absurd rfl z, fun _ => this⟩
  have hl0 : left ≠ 0 := fun z => h0 ((bm6 S hS).mp (by omega))
  obtain ⟨f, rfl⟩ : ∃ f, left = f + 1 := ⟨left - 1, by omega⟩
  have hn := hw.1
  have hnT : ((nT w : Nat) : Int) = w 72 := by unfold nT; omega
  have key : ∀ (j k : Nat) (h1 : Mem), KM h h1 → (∀ i, f + 1 ≤ i → h1 69 i = h 69 i) → k + j = nT w → firstK (okS w S) (nT w) 0 = firstK (okS w S) j k →
      WP E mM_seeks3 18 [some (.ref 60), some (.int (zI (bhd w S : Nat))), some (.int (zI (f + 1 : Nat))), some (.int (zI (S : Nat))), some (.int (zI k))] [] h1 (qI Q) := by
    intro j
    induction j with
    | zero =>
      intro k h1 hk hi hj hf
      refine fM_seeks3_18 ?_
      have hm1 := hk.w hm
      simp (disch := omega) only [zI_add, zI_sub, zI_mul, zI_neg, zI_lt, zI_le, zI_eq, zI_div, zI_rem, ix_zI, inb_zI, nz_zI, imax_zI, imin_zI, c_t, nb01.1, nb01.2, zl_0, zl_1, zl_2, zl_3, zl_4, zl_5, zl_6, zl_7, zl_8, zl_9, zl_10, zl_11, zl_12, zl_13, zl_14, zl_15, zl_16, zl_17, zl_18, zl_19, zl_20, zl_24, zl_30, zl_31, zl_36, zl_42, zl_44, zl_48, zl_57, zl_58, zl_59, zl_60, zl_61, zl_62, zl_63, zl_64, zl_72, zl_73, zl_96, zl_99, zl_100, zl_104, zl_107, zl_111, zl_114, zl_116, zl_120, zl_200, zl_255, zl_256, zl_360, zl_600, zl_800, zl_1000, zl_2000, hm1 _]
      have hc := canS_no hw hS h0 hf
      have := hq h1 hk hi (fun z => by rw [hc] at z; cases z)
      rw [hc, if_neg Bool.false_ne_true] at this
      exact ⟨fun _ => this, fun z => absurd (by omega) z⟩
    | succ j ih =>
      intro k h1 hk hi hj hf
      refine fM_seeks3_18 ?_
      have hm1 := hk.w hm
      have e1 : ((k + 1 : Nat) : Int) = (k : Int) + 1 := by omega
      have hnext := fun h2 a b c => ih (k + 1) h2 a b (by omega) (hf.trans (firstK_f c))
      rw [e1] at hnext
      have e3 : lessT S k < S ∧ pc6 (lessT S k) + 1 = pc6 S ∨ S.testBit k = false := by
        cases c : S.testBit k with
        | false => exact Or.inr rfl
        | true => exact Or.inl (bm3 S hS k (by omega) c)
      simp (disch := omega) only [zl_1, zI_neg, shl_z, Int.toNat_natCast]
      rw [not_k _ hS _ (pow6 (k := k) (by omega)), or_mm _ (bhd_lt hw) _ (pow6 (k := k) (by omega))]
      simp (disch := omega) only [zI_add, zI_sub, zI_mul, zI_neg, zI_lt, zI_le, zI_eq, zI_div, zI_rem, ix_zI, inb_zI, nz_zI, imax_zI, imin_zI, c_t, nb01.1, nb01.2, zl_0, zl_1, zl_2, zl_3, zl_4, zl_5, zl_6, zl_7, zl_8, zl_9, zl_10, zl_11, zl_12, zl_13, zl_14, zl_15, zl_16, zl_17, zl_18, zl_19, zl_20, zl_24, zl_30, zl_31, zl_36, zl_42, zl_44, zl_48, zl_57, zl_58, zl_59, zl_60, zl_61, zl_62, zl_63, zl_64, zl_72, zl_73, zl_96, zl_99, zl_100, zl_104, zl_107, zl_111, zl_114, zl_116, zl_120, zl_200, zl_255, zl_256, zl_360, zl_600, zl_800, zl_1000, zl_2000, hm1 _]
      refine ⟨fun z => by omega, fun _ => sM_has (k := (k : Int)) hS (by omega) (by omega) ?_⟩
      rw [Int.toNat_natCast]
      by_cases c : S.testBit k = true
      · rw [if_pos c]
        have e3 := e3.resolve_right (by rw [c]; simp)
        refine ⟨fun z => absurd z (by decide), fun _ => ?_⟩
        rw [show S &&& (63 ^^^ 2 ^ k) = lessT S k from rfl]
        refine sM_fitsByR (t := (k : Int)) (a := lessT S k) hm1 hw (by omega) (by omega) (less_lt hS) (bhd_lt hw) fun h2 hk2 => ?_
        have hi2 : ∀ i, f + 1 ≤ i → h2 69 i = h 69 i := fun i hh => (congrFun (hk2.2 69 (by omega)) i).trans (hi i hh)
        by_cases c2 : fitB w k (lessT S k) (bhd w S) = true
        · rw [if_pos c2]
          refine ⟨fun z => absurd z (by decide), fun _ => ?_⟩
          have e4 : bhd w S ||| 2 ^ k = bhd w (lessT S k) := bhd_up hw hS hs (by omega) c
          rw [e4]
          have b7 := bm7 S hS
          have ef : ((f + 1 : Nat) : Int) - 1 = (f : Nat) := by omega
          simp (disch := omega) only [zI_add, zI_sub, zI_mul, zI_neg, zI_lt, zI_le, zI_eq, zI_div, zI_rem, ix_zI, inb_zI, nz_zI, imax_zI, imin_zI, c_t, nb01.1, nb01.2, zl_0, zl_1, zl_2, zl_3, zl_4, zl_5, zl_6, zl_7, zl_8, zl_9, zl_10, zl_11, zl_12, zl_13, zl_14, zl_15, zl_16, zl_17, zl_18, zl_19, zl_20, zl_24, zl_30, zl_31, zl_36, zl_42, zl_44, zl_48, zl_57, zl_58, zl_59, zl_60, zl_61, zl_62, zl_63, zl_64, zl_72, zl_73, zl_96, zl_99, zl_100, zl_104, zl_107, zl_111, zl_114, zl_116, zl_120, zl_200, zl_255, zl_256, zl_360, zl_600, zl_800, zl_1000, zl_2000, ef, Int.toNat_natCast]
          refine sM_seeks2 (S := lessT S k) (left := f) ?_ hw (less_lt hS) (bm5 _ (onM_lt hw) S hS hs k (by omega)) (by omega) (by omega) fun h3 hk3 hi3 hv3 => ?_
          · show RW (upd2 h2 69 f (zI k) 61) w
            rw [upd2_ne 61 (by omega)]
            exact (hk.tr hk2.1).w hm
          have hk13 : KM h h3 := ((hk.tr hk2.1).up (p := 69) (i := f) (x := zI k) (by omega)).tr hk3
          have hi13 : ∀ i, f + 1 ≤ i → h3 69 i = h 69 i := fun i hh => (hi3 i (by omega)).trans ((u_i (by omega)).trans (hi2 i hh))
          by_cases c3 : canS w (lessT S k) = true
          · rw [if_pos c3]
            have ho : okS w S k = true := by rw [okS_t c, c2, c3]; rfl
            have hff := hf.trans (firstK_t ho)
            have hc := canS_yes hw hS h0 hff
            have := hq h3 hk13 hi13 (fun _ i hh => ?_)
            · rw [hc, if_pos rfl] at this
              exact ⟨fun z => absurd z (by decide), fun _ => this⟩
            · rw [orderF_s hff]
              have hlen := orderF_len hw f (lessT S k) (less_lt hS) (by omega) c3
              by_cases ei : i = f
              · subst ei
                rw [hi3 i (by omega), u_s, List.getD_eq_getElem?_getD, List.getElem?_append_right (by omega), hlen, Nat.sub_self]
                rfl
              · rw [hv3 c3 i (by omega), List.getD_eq_getElem?_getD, List.getD_eq_getElem?_getD, List.getElem?_append_left (by omega)]
          · rw [if_neg c3]
            refine ⟨fun _ => hnext h3 hk13 hi13 ?_, fun z => absurd rfl z⟩
            rw [okS_t c, c2, Bool.eq_false_iff.mpr c3]; rfl
        · rw [if_neg c2]
          refine ⟨fun _ => hnext h2 (hk.tr hk2.1) hi2 ?_, fun z => absurd rfl z⟩
          rw [okS_t c, Bool.eq_false_iff.mpr c2]; rfl
      · rw [if_neg c]
        exact ⟨fun _ => hnext h1 hk hi (okS_f (Bool.eq_false_iff.mpr c)), fun z => absurd rfl z⟩
  refine ⟨fun _ => key (nT w) 0 h KM.rf (fun _ _ => rfl) (by omega) rfl, fun z => ?_⟩
  rw [zl_0, zI_eq (by omega) (by omega) (by omega) (by omega)] at z
  omega
theorem sM_seeks4 {Q : Int32 → Mem → Prop} {S left : Nat} (hm : RW (h 61) w) (hw : WF w) (hS : S < 64) (hs : S &&& onM w = S) (hl : left = pc6 S) (hlev : left ≤ 4)
    (hq : ∀ h', KM h h' → (∀ i, left ≤ i → h' 69 i = h 69 i) → (canS w S = true → ∀ i, i < left → h' 69 i = zI ((orderF w left S).getD i 0)) → Q (if canS w S then 1 else 0) h') : CALLI E mM_seeks4 [.ref 60, .int (zI (bhd w S : Nat)), .int (zI left)] h Q := by
  refine fM_seeks4 (sM_onSet hm hw ?_)
  rw [show (-1 : Int32) = zI (-1) from rfl, not_k _ (onM_lt hw) _ (bhd_lt hw), bhd_un hw hS hs]
  by_cases h0 : S = 0
  · subst h0
    have hl0 : left = 0 := hl.trans ((bm6 0 (by omega)).mpr rfl)
    have := hq h KM.rf (fun _ _ => rfl) (fun _ i hi => by omega)
    rw [canS_0, if_pos rfl] at this
    exact ⟨fun z => absurd rfl z, fun _ => this⟩
  have hl0 : left ≠ 0 := fun z => h0 ((bm6 S hS).mp (by omega))
  obtain ⟨f, rfl⟩ : ∃ f, left = f + 1 := ⟨left - 1, by omega⟩
  have hn := hw.1
  have hnT : ((nT w : Nat) : Int) = w 72 := by unfold nT; omega
  have key : ∀ (j k : Nat) (h1 : Mem), KM h h1 → (∀ i, f + 1 ≤ i → h1 69 i = h 69 i) → k + j = nT w → firstK (okS w S) (nT w) 0 = firstK (okS w S) j k →
      WP E mM_seeks4 18 [some (.ref 60), some (.int (zI (bhd w S : Nat))), some (.int (zI (f + 1 : Nat))), some (.int (zI (S : Nat))), some (.int (zI k))] [] h1 (qI Q) := by
    intro j
    induction j with
    | zero =>
      intro k h1 hk hi hj hf
      refine fM_seeks4_18 ?_
      have hm1 := hk.w hm
      simp (disch := omega) only [zI_add, zI_sub, zI_mul, zI_neg, zI_lt, zI_le, zI_eq, zI_div, zI_rem, ix_zI, inb_zI, nz_zI, imax_zI, imin_zI, c_t, nb01.1, nb01.2, zl_0, zl_1, zl_2, zl_3, zl_4, zl_5, zl_6, zl_7, zl_8, zl_9, zl_10, zl_11, zl_12, zl_13, zl_14, zl_15, zl_16, zl_17, zl_18, zl_19, zl_20, zl_24, zl_30, zl_31, zl_36, zl_42, zl_44, zl_48, zl_57, zl_58, zl_59, zl_60, zl_61, zl_62, zl_63, zl_64, zl_72, zl_73, zl_96, zl_99, zl_100, zl_104, zl_107, zl_111, zl_114, zl_116, zl_120, zl_200, zl_255, zl_256, zl_360, zl_600, zl_800, zl_1000, zl_2000, hm1 _]
      have hc := canS_no hw hS h0 hf
      have := hq h1 hk hi (fun z => by rw [hc] at z; cases z)
      rw [hc, if_neg Bool.false_ne_true] at this
      exact ⟨fun _ => this, fun z => absurd (by omega) z⟩
    | succ j ih =>
      intro k h1 hk hi hj hf
      refine fM_seeks4_18 ?_
      have hm1 := hk.w hm
      have e1 : ((k + 1 : Nat) : Int) = (k : Int) + 1 := by omega
      have hnext := fun h2 a b c => ih (k + 1) h2 a b (by omega) (hf.trans (firstK_f c))
      rw [e1] at hnext
      have e3 : lessT S k < S ∧ pc6 (lessT S k) + 1 = pc6 S ∨ S.testBit k = false := by
        cases c : S.testBit k with
        | false => exact Or.inr rfl
        | true => exact Or.inl (bm3 S hS k (by omega) c)
      simp (disch := omega) only [zl_1, zI_neg, shl_z, Int.toNat_natCast]
      rw [not_k _ hS _ (pow6 (k := k) (by omega)), or_mm _ (bhd_lt hw) _ (pow6 (k := k) (by omega))]
      simp (disch := omega) only [zI_add, zI_sub, zI_mul, zI_neg, zI_lt, zI_le, zI_eq, zI_div, zI_rem, ix_zI, inb_zI, nz_zI, imax_zI, imin_zI, c_t, nb01.1, nb01.2, zl_0, zl_1, zl_2, zl_3, zl_4, zl_5, zl_6, zl_7, zl_8, zl_9, zl_10, zl_11, zl_12, zl_13, zl_14, zl_15, zl_16, zl_17, zl_18, zl_19, zl_20, zl_24, zl_30, zl_31, zl_36, zl_42, zl_44, zl_48, zl_57, zl_58, zl_59, zl_60, zl_61, zl_62, zl_63, zl_64, zl_72, zl_73, zl_96, zl_99, zl_100, zl_104, zl_107, zl_111, zl_114, zl_116, zl_120, zl_200, zl_255, zl_256, zl_360, zl_600, zl_800, zl_1000, zl_2000, hm1 _]
      refine ⟨fun z => by omega, fun _ => sM_has (k := (k : Int)) hS (by omega) (by omega) ?_⟩
      rw [Int.toNat_natCast]
      by_cases c : S.testBit k = true
      · rw [if_pos c]
        have e3 := e3.resolve_right (by rw [c]; simp)
        refine ⟨fun z => absurd z (by decide), fun _ => ?_⟩
        rw [show S &&& (63 ^^^ 2 ^ k) = lessT S k from rfl]
        refine sM_fitsByR (t := (k : Int)) (a := lessT S k) hm1 hw (by omega) (by omega) (less_lt hS) (bhd_lt hw) fun h2 hk2 => ?_
        have hi2 : ∀ i, f + 1 ≤ i → h2 69 i = h 69 i := fun i hh => (congrFun (hk2.2 69 (by omega)) i).trans (hi i hh)
        by_cases c2 : fitB w k (lessT S k) (bhd w S) = true
        · rw [if_pos c2]
          refine ⟨fun z => absurd z (by decide), fun _ => ?_⟩
          have e4 : bhd w S ||| 2 ^ k = bhd w (lessT S k) := bhd_up hw hS hs (by omega) c
          rw [e4]
          have b7 := bm7 S hS
          have ef : ((f + 1 : Nat) : Int) - 1 = (f : Nat) := by omega
          simp (disch := omega) only [zI_add, zI_sub, zI_mul, zI_neg, zI_lt, zI_le, zI_eq, zI_div, zI_rem, ix_zI, inb_zI, nz_zI, imax_zI, imin_zI, c_t, nb01.1, nb01.2, zl_0, zl_1, zl_2, zl_3, zl_4, zl_5, zl_6, zl_7, zl_8, zl_9, zl_10, zl_11, zl_12, zl_13, zl_14, zl_15, zl_16, zl_17, zl_18, zl_19, zl_20, zl_24, zl_30, zl_31, zl_36, zl_42, zl_44, zl_48, zl_57, zl_58, zl_59, zl_60, zl_61, zl_62, zl_63, zl_64, zl_72, zl_73, zl_96, zl_99, zl_100, zl_104, zl_107, zl_111, zl_114, zl_116, zl_120, zl_200, zl_255, zl_256, zl_360, zl_600, zl_800, zl_1000, zl_2000, ef, Int.toNat_natCast]
          refine sM_seeks3 (S := lessT S k) (left := f) ?_ hw (less_lt hS) (bm5 _ (onM_lt hw) S hS hs k (by omega)) (by omega) (by omega) fun h3 hk3 hi3 hv3 => ?_
          · show RW (upd2 h2 69 f (zI k) 61) w
            rw [upd2_ne 61 (by omega)]
            exact (hk.tr hk2.1).w hm
          have hk13 : KM h h3 := ((hk.tr hk2.1).up (p := 69) (i := f) (x := zI k) (by omega)).tr hk3
          have hi13 : ∀ i, f + 1 ≤ i → h3 69 i = h 69 i := fun i hh => (hi3 i (by omega)).trans ((u_i (by omega)).trans (hi2 i hh))
          by_cases c3 : canS w (lessT S k) = true
          · rw [if_pos c3]
            have ho : okS w S k = true := by rw [okS_t c, c2, c3]; rfl
            have hff := hf.trans (firstK_t ho)
            have hc := canS_yes hw hS h0 hff
            have := hq h3 hk13 hi13 (fun _ i hh => ?_)
            · rw [hc, if_pos rfl] at this
              exact ⟨fun z => absurd z (by decide), fun _ => this⟩
            · rw [orderF_s hff]
              have hlen := orderF_len hw f (lessT S k) (less_lt hS) (by omega) c3
              by_cases ei : i = f
              · subst ei
                rw [hi3 i (by omega), u_s, List.getD_eq_getElem?_getD, List.getElem?_append_right (by omega), hlen, Nat.sub_self]
                rfl
              · rw [hv3 c3 i (by omega), List.getD_eq_getElem?_getD, List.getD_eq_getElem?_getD, List.getElem?_append_left (by omega)]
          · rw [if_neg c3]
            refine ⟨fun _ => hnext h3 hk13 hi13 ?_, fun z => absurd rfl z⟩
            rw [okS_t c, c2, Bool.eq_false_iff.mpr c3]; rfl
        · rw [if_neg c2]
          refine ⟨fun _ => hnext h2 (hk.tr hk2.1) hi2 ?_, fun z => absurd rfl z⟩
          rw [okS_t c, Bool.eq_false_iff.mpr c2]; rfl
      · rw [if_neg c]
        exact ⟨fun _ => hnext h1 hk hi (okS_f (Bool.eq_false_iff.mpr c)), fun z => absurd rfl z⟩
  refine ⟨fun _ => key (nT w) 0 h KM.rf (fun _ _ => rfl) (by omega) rfl, fun z => ?_⟩
  rw [zl_0, zI_eq (by omega) (by omega) (by omega) (by omega)] at z
  omega
theorem sM_seeks5 {Q : Int32 → Mem → Prop} {S left : Nat} (hm : RW (h 61) w) (hw : WF w) (hS : S < 64) (hs : S &&& onM w = S) (hl : left = pc6 S) (hlev : left ≤ 5)
    (hq : ∀ h', KM h h' → (∀ i, left ≤ i → h' 69 i = h 69 i) → (canS w S = true → ∀ i, i < left → h' 69 i = zI ((orderF w left S).getD i 0)) → Q (if canS w S then 1 else 0) h') : CALLI E mM_seeks5 [.ref 60, .int (zI (bhd w S : Nat)), .int (zI left)] h Q := by
  refine fM_seeks5 (sM_onSet hm hw ?_)
  rw [show (-1 : Int32) = zI (-1) from rfl, not_k _ (onM_lt hw) _ (bhd_lt hw), bhd_un hw hS hs]
  by_cases h0 : S = 0
  · subst h0
    have hl0 : left = 0 := hl.trans ((bm6 0 (by omega)).mpr rfl)
    have := hq h KM.rf (fun _ _ => rfl) (fun _ i hi => by omega)
    rw [canS_0, if_pos rfl] at this
    exact ⟨fun z => absurd rfl z, fun _ => this⟩
  have hl0 : left ≠ 0 := fun z => h0 ((bm6 S hS).mp (by omega))
  obtain ⟨f, rfl⟩ : ∃ f, left = f + 1 := ⟨left - 1, by omega⟩
  have hn := hw.1
  have hnT : ((nT w : Nat) : Int) = w 72 := by unfold nT; omega
  have key : ∀ (j k : Nat) (h1 : Mem), KM h h1 → (∀ i, f + 1 ≤ i → h1 69 i = h 69 i) → k + j = nT w → firstK (okS w S) (nT w) 0 = firstK (okS w S) j k →
      WP E mM_seeks5 18 [some (.ref 60), some (.int (zI (bhd w S : Nat))), some (.int (zI (f + 1 : Nat))), some (.int (zI (S : Nat))), some (.int (zI k))] [] h1 (qI Q) := by
    intro j
    induction j with
    | zero =>
      intro k h1 hk hi hj hf
      refine fM_seeks5_18 ?_
      have hm1 := hk.w hm
      simp (disch := omega) only [zI_add, zI_sub, zI_mul, zI_neg, zI_lt, zI_le, zI_eq, zI_div, zI_rem, ix_zI, inb_zI, nz_zI, imax_zI, imin_zI, c_t, nb01.1, nb01.2, zl_0, zl_1, zl_2, zl_3, zl_4, zl_5, zl_6, zl_7, zl_8, zl_9, zl_10, zl_11, zl_12, zl_13, zl_14, zl_15, zl_16, zl_17, zl_18, zl_19, zl_20, zl_24, zl_30, zl_31, zl_36, zl_42, zl_44, zl_48, zl_57, zl_58, zl_59, zl_60, zl_61, zl_62, zl_63, zl_64, zl_72, zl_73, zl_96, zl_99, zl_100, zl_104, zl_107, zl_111, zl_114, zl_116, zl_120, zl_200, zl_255, zl_256, zl_360, zl_600, zl_800, zl_1000, zl_2000, hm1 _]
      have hc := canS_no hw hS h0 hf
      have := hq h1 hk hi (fun z => by rw [hc] at z; cases z)
      rw [hc, if_neg Bool.false_ne_true] at this
      exact ⟨fun _ => this, fun z => absurd (by omega) z⟩
    | succ j ih =>
      intro k h1 hk hi hj hf
      refine fM_seeks5_18 ?_
      have hm1 := hk.w hm
      have e1 : ((k + 1 : Nat) : Int) = (k : Int) + 1 := by omega
      have hnext := fun h2 a b c => ih (k + 1) h2 a b (by omega) (hf.trans (firstK_f c))
      rw [e1] at hnext
      have e3 : lessT S k < S ∧ pc6 (lessT S k) + 1 = pc6 S ∨ S.testBit k = false := by
        cases c : S.testBit k with
        | false => exact Or.inr rfl
        | true => exact Or.inl (bm3 S hS k (by omega) c)
      simp (disch := omega) only [zl_1, zI_neg, shl_z, Int.toNat_natCast]
      rw [not_k _ hS _ (pow6 (k := k) (by omega)), or_mm _ (bhd_lt hw) _ (pow6 (k := k) (by omega))]
      simp (disch := omega) only [zI_add, zI_sub, zI_mul, zI_neg, zI_lt, zI_le, zI_eq, zI_div, zI_rem, ix_zI, inb_zI, nz_zI, imax_zI, imin_zI, c_t, nb01.1, nb01.2, zl_0, zl_1, zl_2, zl_3, zl_4, zl_5, zl_6, zl_7, zl_8, zl_9, zl_10, zl_11, zl_12, zl_13, zl_14, zl_15, zl_16, zl_17, zl_18, zl_19, zl_20, zl_24, zl_30, zl_31, zl_36, zl_42, zl_44, zl_48, zl_57, zl_58, zl_59, zl_60, zl_61, zl_62, zl_63, zl_64, zl_72, zl_73, zl_96, zl_99, zl_100, zl_104, zl_107, zl_111, zl_114, zl_116, zl_120, zl_200, zl_255, zl_256, zl_360, zl_600, zl_800, zl_1000, zl_2000, hm1 _]
      refine ⟨fun z => by omega, fun _ => sM_has (k := (k : Int)) hS (by omega) (by omega) ?_⟩
      rw [Int.toNat_natCast]
      by_cases c : S.testBit k = true
      · rw [if_pos c]
        have e3 := e3.resolve_right (by rw [c]; simp)
        refine ⟨fun z => absurd z (by decide), fun _ => ?_⟩
        rw [show S &&& (63 ^^^ 2 ^ k) = lessT S k from rfl]
        refine sM_fitsByR (t := (k : Int)) (a := lessT S k) hm1 hw (by omega) (by omega) (less_lt hS) (bhd_lt hw) fun h2 hk2 => ?_
        have hi2 : ∀ i, f + 1 ≤ i → h2 69 i = h 69 i := fun i hh => (congrFun (hk2.2 69 (by omega)) i).trans (hi i hh)
        by_cases c2 : fitB w k (lessT S k) (bhd w S) = true
        · rw [if_pos c2]
          refine ⟨fun z => absurd z (by decide), fun _ => ?_⟩
          have e4 : bhd w S ||| 2 ^ k = bhd w (lessT S k) := bhd_up hw hS hs (by omega) c
          rw [e4]
          have b7 := bm7 S hS
          have ef : ((f + 1 : Nat) : Int) - 1 = (f : Nat) := by omega
          simp (disch := omega) only [zI_add, zI_sub, zI_mul, zI_neg, zI_lt, zI_le, zI_eq, zI_div, zI_rem, ix_zI, inb_zI, nz_zI, imax_zI, imin_zI, c_t, nb01.1, nb01.2, zl_0, zl_1, zl_2, zl_3, zl_4, zl_5, zl_6, zl_7, zl_8, zl_9, zl_10, zl_11, zl_12, zl_13, zl_14, zl_15, zl_16, zl_17, zl_18, zl_19, zl_20, zl_24, zl_30, zl_31, zl_36, zl_42, zl_44, zl_48, zl_57, zl_58, zl_59, zl_60, zl_61, zl_62, zl_63, zl_64, zl_72, zl_73, zl_96, zl_99, zl_100, zl_104, zl_107, zl_111, zl_114, zl_116, zl_120, zl_200, zl_255, zl_256, zl_360, zl_600, zl_800, zl_1000, zl_2000, ef, Int.toNat_natCast]
          refine sM_seeks4 (S := lessT S k) (left := f) ?_ hw (less_lt hS) (bm5 _ (onM_lt hw) S hS hs k (by omega)) (by omega) (by omega) fun h3 hk3 hi3 hv3 => ?_
          · show RW (upd2 h2 69 f (zI k) 61) w
            rw [upd2_ne 61 (by omega)]
            exact (hk.tr hk2.1).w hm
          have hk13 : KM h h3 := ((hk.tr hk2.1).up (p := 69) (i := f) (x := zI k) (by omega)).tr hk3
          have hi13 : ∀ i, f + 1 ≤ i → h3 69 i = h 69 i := fun i hh => (hi3 i (by omega)).trans ((u_i (by omega)).trans (hi2 i hh))
          by_cases c3 : canS w (lessT S k) = true
          · rw [if_pos c3]
            have ho : okS w S k = true := by rw [okS_t c, c2, c3]; rfl
            have hff := hf.trans (firstK_t ho)
            have hc := canS_yes hw hS h0 hff
            have := hq h3 hk13 hi13 (fun _ i hh => ?_)
            · rw [hc, if_pos rfl] at this
              exact ⟨fun z => absurd z (by decide), fun _ => this⟩
            · rw [orderF_s hff]
              have hlen := orderF_len hw f (lessT S k) (less_lt hS) (by omega) c3
              by_cases ei : i = f
              · subst ei
                rw [hi3 i (by omega), u_s, List.getD_eq_getElem?_getD, List.getElem?_append_right (by omega), hlen, Nat.sub_self]
                rfl
              · rw [hv3 c3 i (by omega), List.getD_eq_getElem?_getD, List.getD_eq_getElem?_getD, List.getElem?_append_left (by omega)]
          · rw [if_neg c3]
            refine ⟨fun _ => hnext h3 hk13 hi13 ?_, fun z => absurd rfl z⟩
            rw [okS_t c, c2, Bool.eq_false_iff.mpr c3]; rfl
        · rw [if_neg c2]
          refine ⟨fun _ => hnext h2 (hk.tr hk2.1) hi2 ?_, fun z => absurd rfl z⟩
          rw [okS_t c, Bool.eq_false_iff.mpr c2]; rfl
      · rw [if_neg c]
        exact ⟨fun _ => hnext h1 hk hi (okS_f (Bool.eq_false_iff.mpr c)), fun z => absurd rfl z⟩
  refine ⟨fun _ => key (nT w) 0 h KM.rf (fun _ _ => rfl) (by omega) rfl, fun z => ?_⟩
  rw [zl_0, zI_eq (by omega) (by omega) (by omega) (by omega)] at z
  omega
theorem sM_seeks6 {Q : Int32 → Mem → Prop} {S left : Nat} (hm : RW (h 61) w) (hw : WF w) (hS : S < 64) (hs : S &&& onM w = S) (hl : left = pc6 S) (hlev : left ≤ 6)
    (hq : ∀ h', KM h h' → (∀ i, left ≤ i → h' 69 i = h 69 i) → (canS w S = true → ∀ i, i < left → h' 69 i = zI ((orderF w left S).getD i 0)) → Q (if canS w S then 1 else 0) h') : CALLI E mM_seeks6 [.ref 60, .int (zI (bhd w S : Nat)), .int (zI left)] h Q := by
  refine fM_seeks6 (sM_onSet hm hw ?_)
  rw [show (-1 : Int32) = zI (-1) from rfl, not_k _ (onM_lt hw) _ (bhd_lt hw), bhd_un hw hS hs]
  by_cases h0 : S = 0
  · subst h0
    have hl0 : left = 0 := hl.trans ((bm6 0 (by omega)).mpr rfl)
    have := hq h KM.rf (fun _ _ => rfl) (fun _ i hi => by omega)
    rw [canS_0, if_pos rfl] at this
    exact ⟨fun z => absurd rfl z, fun _ => this⟩
  have hl0 : left ≠ 0 := fun z => h0 ((bm6 S hS).mp (by omega))
  obtain ⟨f, rfl⟩ : ∃ f, left = f + 1 := ⟨left - 1, by omega⟩
  have hn := hw.1
  have hnT : ((nT w : Nat) : Int) = w 72 := by unfold nT; omega
  have key : ∀ (j k : Nat) (h1 : Mem), KM h h1 → (∀ i, f + 1 ≤ i → h1 69 i = h 69 i) → k + j = nT w → firstK (okS w S) (nT w) 0 = firstK (okS w S) j k →
      WP E mM_seeks6 18 [some (.ref 60), some (.int (zI (bhd w S : Nat))), some (.int (zI (f + 1 : Nat))), some (.int (zI (S : Nat))), some (.int (zI k))] [] h1 (qI Q) := by
    intro j
    induction j with
    | zero =>
      intro k h1 hk hi hj hf
      refine fM_seeks6_18 ?_
      have hm1 := hk.w hm
      simp (disch := omega) only [zI_add, zI_sub, zI_mul, zI_neg, zI_lt, zI_le, zI_eq, zI_div, zI_rem, ix_zI, inb_zI, nz_zI, imax_zI, imin_zI, c_t, nb01.1, nb01.2, zl_0, zl_1, zl_2, zl_3, zl_4, zl_5, zl_6, zl_7, zl_8, zl_9, zl_10, zl_11, zl_12, zl_13, zl_14, zl_15, zl_16, zl_17, zl_18, zl_19, zl_20, zl_24, zl_30, zl_31, zl_36, zl_42, zl_44, zl_48, zl_57, zl_58, zl_59, zl_60, zl_61, zl_62, zl_63, zl_64, zl_72, zl_73, zl_96, zl_99, zl_100, zl_104, zl_107, zl_111, zl_114, zl_116, zl_120, zl_200, zl_255, zl_256, zl_360, zl_600, zl_800, zl_1000, zl_2000, hm1 _]
      have hc := canS_no hw hS h0 hf
      have := hq h1 hk hi (fun z => by rw [hc] at z; cases z)
      rw [hc, if_neg Bool.false_ne_true] at this
      exact ⟨fun _ => this, fun z => absurd (by omega) z⟩
    | succ j ih =>
      intro k h1 hk hi hj hf
      refine fM_seeks6_18 ?_
      have hm1 := hk.w hm
      have e1 : ((k + 1 : Nat) : Int) = (k : Int) + 1 := by omega
      have hnext := fun h2 a b c => ih (k + 1) h2 a b (by omega) (hf.trans (firstK_f c))
      rw [e1] at hnext
      have e3 : lessT S k < S ∧ pc6 (lessT S k) + 1 = pc6 S ∨ S.testBit k = false := by
        cases c : S.testBit k with
        | false => exact Or.inr rfl
        | true => exact Or.inl (bm3 S hS k (by omega) c)
      simp (disch := omega) only [zl_1, zI_neg, shl_z, Int.toNat_natCast]
      rw [not_k _ hS _ (pow6 (k := k) (by omega)), or_mm _ (bhd_lt hw) _ (pow6 (k := k) (by omega))]
      simp (disch := omega) only [zI_add, zI_sub, zI_mul, zI_neg, zI_lt, zI_le, zI_eq, zI_div, zI_rem, ix_zI, inb_zI, nz_zI, imax_zI, imin_zI, c_t, nb01.1, nb01.2, zl_0, zl_1, zl_2, zl_3, zl_4, zl_5, zl_6, zl_7, zl_8, zl_9, zl_10, zl_11, zl_12, zl_13, zl_14, zl_15, zl_16, zl_17, zl_18, zl_19, zl_20, zl_24, zl_30, zl_31, zl_36, zl_42, zl_44, zl_48, zl_57, zl_58, zl_59, zl_60, zl_61, zl_62, zl_63, zl_64, zl_72, zl_73, zl_96, zl_99, zl_100, zl_104, zl_107, zl_111, zl_114, zl_116, zl_120, zl_200, zl_255, zl_256, zl_360, zl_600, zl_800, zl_1000, zl_2000, hm1 _]
      refine ⟨fun z => by omega, fun _ => sM_has (k := (k : Int)) hS (by omega) (by omega) ?_⟩
      rw [Int.toNat_natCast]
      by_cases c : S.testBit k = true
      · rw [if_pos c]
        have e3 := e3.resolve_right (by rw [c]; simp)
        refine ⟨fun z => absurd z (by decide), fun _ => ?_⟩
        rw [show S &&& (63 ^^^ 2 ^ k) = lessT S k from rfl]
        refine sM_fitsByR (t := (k : Int)) (a := lessT S k) hm1 hw (by omega) (by omega) (less_lt hS) (bhd_lt hw) fun h2 hk2 => ?_
        have hi2 : ∀ i, f + 1 ≤ i → h2 69 i = h 69 i := fun i hh => (congrFun (hk2.2 69 (by omega)) i).trans (hi i hh)
        by_cases c2 : fitB w k (lessT S k) (bhd w S) = true
        · rw [if_pos c2]
          refine ⟨fun z => absurd z (by decide), fun _ => ?_⟩
          have e4 : bhd w S ||| 2 ^ k = bhd w (lessT S k) := bhd_up hw hS hs (by omega) c
          rw [e4]
          have b7 := bm7 S hS
          have ef : ((f + 1 : Nat) : Int) - 1 = (f : Nat) := by omega
          simp (disch := omega) only [zI_add, zI_sub, zI_mul, zI_neg, zI_lt, zI_le, zI_eq, zI_div, zI_rem, ix_zI, inb_zI, nz_zI, imax_zI, imin_zI, c_t, nb01.1, nb01.2, zl_0, zl_1, zl_2, zl_3, zl_4, zl_5, zl_6, zl_7, zl_8, zl_9, zl_10, zl_11, zl_12, zl_13, zl_14, zl_15, zl_16, zl_17, zl_18, zl_19, zl_20, zl_24, zl_30, zl_31, zl_36, zl_42, zl_44, zl_48, zl_57, zl_58, zl_59, zl_60, zl_61, zl_62, zl_63, zl_64, zl_72, zl_73, zl_96, zl_99, zl_100, zl_104, zl_107, zl_111, zl_114, zl_116, zl_120, zl_200, zl_255, zl_256, zl_360, zl_600, zl_800, zl_1000, zl_2000, ef, Int.toNat_natCast]
          refine sM_seeks5 (S := lessT S k) (left := f) ?_ hw (less_lt hS) (bm5 _ (onM_lt hw) S hS hs k (by omega)) (by omega) (by omega) fun h3 hk3 hi3 hv3 => ?_
          · show RW (upd2 h2 69 f (zI k) 61) w
            rw [upd2_ne 61 (by omega)]
            exact (hk.tr hk2.1).w hm
          have hk13 : KM h h3 := ((hk.tr hk2.1).up (p := 69) (i := f) (x := zI k) (by omega)).tr hk3
          have hi13 : ∀ i, f + 1 ≤ i → h3 69 i = h 69 i := fun i hh => (hi3 i (by omega)).trans ((u_i (by omega)).trans (hi2 i hh))
          by_cases c3 : canS w (lessT S k) = true
          · rw [if_pos c3]
            have ho : okS w S k = true := by rw [okS_t c, c2, c3]; rfl
            have hff := hf.trans (firstK_t ho)
            have hc := canS_yes hw hS h0 hff
            have := hq h3 hk13 hi13 (fun _ i hh => ?_)
            · rw [hc, if_pos rfl] at this
              exact ⟨fun z => absurd z (by decide), fun _ => this⟩
            · rw [orderF_s hff]
              have hlen := orderF_len hw f (lessT S k) (less_lt hS) (by omega) c3
              by_cases ei : i = f
              · subst ei
                rw [hi3 i (by omega), u_s, List.getD_eq_getElem?_getD, List.getElem?_append_right (by omega), hlen, Nat.sub_self]
                rfl
              · rw [hv3 c3 i (by omega), List.getD_eq_getElem?_getD, List.getD_eq_getElem?_getD, List.getElem?_append_left (by omega)]
          · rw [if_neg c3]
            refine ⟨fun _ => hnext h3 hk13 hi13 ?_, fun z => absurd rfl z⟩
            rw [okS_t c, c2, Bool.eq_false_iff.mpr c3]; rfl
        · rw [if_neg c2]
          refine ⟨fun _ => hnext h2 (hk.tr hk2.1) hi2 ?_, fun z => absurd rfl z⟩
          rw [okS_t c, Bool.eq_false_iff.mpr c2]; rfl
      · rw [if_neg c]
        exact ⟨fun _ => hnext h1 hk hi (okS_f (Bool.eq_false_iff.mpr c)), fun z => absurd rfl z⟩
  refine ⟨fun _ => key (nT w) 0 h KM.rf (fun _ _ => rfl) (by omega) rfl, fun z => ?_⟩
  rw [zl_0, zI_eq (by omega) (by omega) (by omega) (by omega)] at z
  omega
theorem sM_lawful {Q : Int32 → Mem → Prop} {i : Int} (hm : RW (h 61) w) (hw : WF w) (hi : 0 ≤ i ∧ i < 2147483648) (hq : ∀ h', KM h h' → Q (zI (lawS w i)) h') : CALLI E mM_lawful [.ref 60, .int (zI i)] h Q := by
  refine fM_lawful ?_
  simp (disch := omega) only [zI_add, zI_sub, zI_mul, zI_neg, zI_lt, zI_le, zI_eq, zI_div, zI_rem, ix_zI, inb_zI, nz_zI, imax_zI, imin_zI, c_t, nb01.1, nb01.2, zl_0, zl_1, zl_2, zl_3, zl_4, zl_5, zl_6, zl_7, zl_8, zl_9, zl_10, zl_11, zl_12, zl_13, zl_14, zl_15, zl_16, zl_17, zl_18, zl_19, zl_20, zl_24, zl_30, zl_31, zl_36, zl_42, zl_44, zl_48, zl_57, zl_58, zl_59, zl_60, zl_61, zl_62, zl_63, zl_64, zl_72, zl_73, zl_96, zl_99, zl_100, zl_104, zl_107, zl_111, zl_114, zl_116, zl_120, zl_200, zl_255, zl_256, zl_360, zl_600, zl_800, zl_1000, zl_2000]
  refine ⟨fun _ => sM_onSet hm hw (sM_ones (onM_lt hw) ?_), fun z => absurd hi.1 z⟩
  have b7 := bm7 _ (onM_lt hw)
  have hb0 : bhd w (onM w) = 0 := (bm10 _ (onM_lt hw)).2
  have ht := fun Q hq => sM_seeks6 (E := E) (Q := Q) (S := onM w) (left := pc6 (onM w)) hm hw (onM_lt hw) (bm10 _ (onM_lt hw)).1 rfl (by omega) hq
  rw [hb0] at ht
  simp (disch := omega) only [zI_add, zI_sub, zI_mul, zI_neg, zI_lt, zI_le, zI_eq, zI_div, zI_rem, ix_zI, inb_zI, nz_zI, imax_zI, imin_zI, c_t, nb01.1, nb01.2, zl_0, zl_1, zl_2, zl_3, zl_4, zl_5, zl_6, zl_7, zl_8, zl_9, zl_10, zl_11, zl_12, zl_13, zl_14, zl_15, zl_16, zl_17, zl_18, zl_19, zl_20, zl_24, zl_30, zl_31, zl_36, zl_42, zl_44, zl_48, zl_57, zl_58, zl_59, zl_60, zl_61, zl_62, zl_63, zl_64, zl_72, zl_73, zl_96, zl_99, zl_100, zl_104, zl_107, zl_111, zl_114, zl_116, zl_120, zl_200, zl_255, zl_256, zl_360, zl_600, zl_800, zl_1000, zl_2000]
  refine ⟨fun z => ?_, fun z => ht _ fun h3 hk3 _ hv => ?_⟩
  · have := hq h KM.rf
    unfold lawS at this
    rw [if_neg (by omega)] at this
    exact this
  · have := hq h3 hk3
    by_cases c : canS w (onM w) = true
    · rw [if_pos c]
      unfold lawS at this
      rw [if_pos ⟨c, by omega⟩] at this
      refine ⟨fun z => absurd z (by decide), fun _ => ?_⟩
      have hv := hv c i.toNat (by omega)
      simp (disch := omega) only [zI_add, zI_sub, zI_mul, zI_neg, zI_lt, zI_le, zI_eq, zI_div, zI_rem, ix_zI, inb_zI, nz_zI, imax_zI, imin_zI, c_t, nb01.1, nb01.2, zl_0, zl_1, zl_2, zl_3, zl_4, zl_5, zl_6, zl_7, zl_8, zl_9, zl_10, zl_11, zl_12, zl_13, zl_14, zl_15, zl_16, zl_17, zl_18, zl_19, zl_20, zl_24, zl_30, zl_31, zl_36, zl_42, zl_44, zl_48, zl_57, zl_58, zl_59, zl_60, zl_61, zl_62, zl_63, zl_64, zl_72, zl_73, zl_96, zl_99, zl_100, zl_104, zl_107, zl_111, zl_114, zl_116, zl_120, zl_200, zl_255, zl_256, zl_360, zl_600, zl_800, zl_1000, zl_2000, hv]
      exact this
    · rw [if_neg c]
      unfold lawS at this
      rw [if_neg (fun z => c z.1)] at this
      exact ⟨fun _ => this, fun z => absurd rfl z⟩
end LB
