/-! ===== the reference's orders, blocking, responses, on ===== -/
def ceilS (w : Int → Int) (pol l : Int) : Int := match (ordL w pol).find? (fun e => decide (0 < hld w e l)) with
  | some e => e
  | none => -9
section RP
variable {E : XE} {h : Mem} {w : Int → Int}
theorem sM_has {Q : Int32 → Mem → Prop} {m : Nat} {k : Int} (hm : m < 64) (h0 : 0 ≤ k) (h1 : k < 6) (hq : Q (if m.testBit k.toNat then 1 else 0) h) : CALLI E mM_has [.int (zI m), .int (zI k)] h Q := by
  refine fM_has ?_
  rw [zl_1, has_z hm h0 h1]
  by_cases c : m.testBit k.toNat = true
  · rw [if_pos c] at hq ⊢
    exact ⟨fun z => absurd rfl z, fun _ => hq⟩
  · rw [if_neg c] at hq ⊢
    exact ⟨fun _ => hq, fun z => absurd z (by decide)⟩
theorem sM_hold {Q : Int32 → Mem → Prop} {t l : Int} (hm : RW (h 61) w) (hw : WF w) (h0 : 0 ≤ t) (h1 : t < 6) (l0 : 0 ≤ l) (l1 : l < 4) (hq : Q (zI (hld w t l)) h) : CALLI E mM_hold [.ref 60, .int (zI t), .int (zI l)] h Q := by
  refine fM_hold ?_
  simp (disch := omega) only [zI_add, zI_sub, zI_mul, zI_neg, zI_lt, zI_le, zI_eq, zI_div, zI_rem, ix_zI, inb_zI, nz_zI, imax_zI, imin_zI, c_t, nb01.1, nb01.2, zl_0, zl_1, zl_2, zl_3, zl_4, zl_5, zl_6, zl_7, zl_8, zl_9, zl_10, zl_11, zl_12, zl_13, zl_14, zl_15, zl_16, zl_17, zl_18, zl_19, zl_20, zl_24, zl_30, zl_31, zl_36, zl_42, zl_44, zl_48, zl_57, zl_58, zl_59, zl_60, zl_61, zl_62, zl_63, zl_64, zl_72, zl_73, zl_96, zl_99, zl_100, zl_104, zl_107, zl_111, zl_114, zl_116, zl_120, zl_200, zl_255, zl_256, zl_360, zl_600, zl_800, zl_1000, zl_2000, hm _]
  exact hq
theorem sM_aheadOf {Q : Int32 → Mem → Prop} {t pol : Int} (hm : RW (h 61) w) (hw : WF w) (h0 : 0 ≤ t) (h1 : t < w 72) (hon : w (42 + t) = 1) (hp : 0 ≤ pol ∧ pol < 100) (hq : ∀ h', KM h h' → Q (zI (aheadM w pol t : Nat)) h') : CALLI E mM_aheadOf [.ref 60, .int (zI t), .int (zI pol)] h Q := by
  refine fM_aheadOf (sM_lines hm hw hp fun h1' hk hl => ?_)
  have hn := hw.1
  obtain ⟨l1, l2, hdec⟩ := List.append_of_mem ((ordL_mem hw (pol := pol)).mpr ⟨h0, h1, hon⟩)
  have hs := ordL_sorted (w := w) (pol := pol)
  rw [hdec] at hs
  have hs2 := List.pairwise_append.mp hs
  have hmem : ∀ x ∈ ordL w pol, 0 ≤ x ∧ x < 6 := fun x hx => by
    have := (ordL_mem hw).mp hx
    have := hw.1
    omega
  have hlen := ordL_len hw (pol := pol)
  have hfin := hq h1' hk
  rw [← orL_ahead hw hdec] at hfin
  have key : ∀ (b a : List Int), l1 = a ++ b → WP E mM_aheadOf 10 [some (.ref 60), some (.int (zI t)), none, some (.int (zI (orL a 0 : Nat))), some (.int (zI a.length))] [] h1' (qI Q) := by
    intro b
    induction b with
    | nil =>
      intro a ha
      rw [List.append_nil] at ha
      subst ha
      refine fM_aheadOf_10 ?_
      have hl2 := hl.2 l1.length (by rw [hdec]; simp)
      rw [hdec] at hl2
      have hg : (l1 ++ t :: l2).getD l1.length 0 = t := by simp
      rw [hg] at hl2
      have : l1.length < 6 := by rw [hdec] at hlen; simp at hlen; omega
      simp (disch := omega) only [zI_add, zI_sub, zI_mul, zI_neg, zI_lt, zI_le, zI_eq, zI_div, zI_rem, ix_zI, inb_zI, nz_zI, imax_zI, imin_zI, c_t, nb01.1, nb01.2, zl_0, zl_1, zl_2, zl_3, zl_4, zl_5, zl_6, zl_7, zl_8, zl_9, zl_10, zl_11, zl_12, zl_13, zl_14, zl_15, zl_16, zl_17, zl_18, zl_19, zl_20, zl_24, zl_30, zl_31, zl_36, zl_42, zl_44, zl_48, zl_57, zl_58, zl_59, zl_60, zl_61, zl_62, zl_63, zl_64, zl_72, zl_73, zl_96, zl_99, zl_100, zl_104, zl_107, zl_111, zl_114, zl_116, zl_120, zl_200, zl_255, zl_256, zl_360, zl_600, zl_800, zl_1000, zl_2000, Int.toNat_natCast, hl2]
      exact ⟨fun _ => hfin, fun z => absurd trivial z⟩
    | cons e b ih =>
      intro a ha
      refine fM_aheadOf_10 ?_
      have hl2 := hl.2 a.length (by rw [hdec, ha]; simp)
      rw [hdec, ha] at hl2
      have hg : ((a ++ e :: b) ++ t :: l2).getD a.length 0 = e := by simp
      rw [hg] at hl2
      have hal : a.length < 6 := by rw [hdec, ha] at hlen; simp at hlen; omega
      have he := hmem e (by rw [hdec, ha]; simp)
      have hne : ¬ e = t := by
        intro z
        have := hs2.2.2 e (by rw [ha]; simp) t List.mem_cons_self
        rw [z] at this
        exact prec_ir this
      have hlt : orL a 0 < 64 := orL_lt a 0 (by omega) (fun x hx => hmem x (by rw [hdec, ha]; simp [hx]))
      simp (disch := omega) only [zI_add, zI_sub, zI_mul, zI_neg, zI_lt, zI_le, zI_eq, zI_div, zI_rem, ix_zI, inb_zI, nz_zI, imax_zI, imin_zI, c_t, nb01.1, nb01.2, zl_0, zl_1, zl_2, zl_3, zl_4, zl_5, zl_6, zl_7, zl_8, zl_9, zl_10, zl_11, zl_12, zl_13, zl_14, zl_15, zl_16, zl_17, zl_18, zl_19, zl_20, zl_24, zl_30, zl_31, zl_36, zl_42, zl_44, zl_48, zl_57, zl_58, zl_59, zl_60, zl_61, zl_62, zl_63, zl_64, zl_72, zl_73, zl_96, zl_99, zl_100, zl_104, zl_107, zl_111, zl_114, zl_116, zl_120, zl_200, zl_255, zl_256, zl_360, zl_600, zl_800, zl_1000, zl_2000, Int.toNat_natCast, hl2, or_z]
      refine ⟨fun z => absurd z hne, fun _ => ?_⟩
      have := ih (a ++ [e]) (by rw [ha]; simp)
      rw [orL_snoc] at this
      simpa using this
  exact key l1 [] rfl
theorem sM_onSet {Q : Int32 → Mem → Prop} (hm : RW (h 61) w) (hw : WF w) (hq : Q (zI (onM w : Nat)) h) : CALLI E mM_onSet [.ref 60] h Q := by
  refine fM_onSet ?_
  have hn := hw.1
  have key : ∀ (j k : Nat), (k : Int) + j = w 72 → WP E mM_onSet 4 [some (.ref 60), some (.int (zI (onK w k : Nat))), some (.int (zI k))] [] h (qI Q) := by
    intro j
    induction j with
    | zero =>
      intro k hk
      refine fM_onSet_4 ?_
      simp (disch := omega) only [zI_add, zI_sub, zI_mul, zI_neg, zI_lt, zI_le, zI_eq, zI_div, zI_rem, ix_zI, inb_zI, nz_zI, imax_zI, imin_zI, c_t, nb01.1, nb01.2, zl_0, zl_1, zl_2, zl_3, zl_4, zl_5, zl_6, zl_7, zl_8, zl_9, zl_10, zl_11, zl_12, zl_13, zl_14, zl_15, zl_16, zl_17, zl_18, zl_19, zl_20, zl_24, zl_30, zl_31, zl_36, zl_42, zl_44, zl_48, zl_57, zl_58, zl_59, zl_60, zl_61, zl_62, zl_63, zl_64, zl_72, zl_73, zl_96, zl_99, zl_100, zl_104, zl_107, zl_111, zl_114, zl_116, zl_120, zl_200, zl_255, zl_256, zl_360, zl_600, zl_800, zl_1000, zl_2000, hm _]
      refine ⟨fun _ => ?_, fun z => absurd (by omega) z⟩
      have : (w 72).toNat = k := by omega
      unfold onM at hq
      rw [this] at hq
      exact hq
    | succ j ih =>
      intro k hk
      refine fM_onSet_4 ?_
      have lt : onK w k < 64 := by rw [onK_mask]; exact mask64 (by omega)
      simp (disch := omega) only [zI_add, zI_sub, zI_mul, zI_neg, zI_lt, zI_le, zI_eq, zI_div, zI_rem, ix_zI, inb_zI, nz_zI, imax_zI, imin_zI, c_t, nb01.1, nb01.2, zl_0, zl_1, zl_2, zl_3, zl_4, zl_5, zl_6, zl_7, zl_8, zl_9, zl_10, zl_11, zl_12, zl_13, zl_14, zl_15, zl_16, zl_17, zl_18, zl_19, zl_20, zl_24, zl_30, zl_31, zl_36, zl_42, zl_44, zl_48, zl_57, zl_58, zl_59, zl_60, zl_61, zl_62, zl_63, zl_64, zl_72, zl_73, zl_96, zl_99, zl_100, zl_104, zl_107, zl_111, zl_114, zl_116, zl_120, zl_200, zl_255, zl_256, zl_360, zl_600, zl_800, zl_1000, zl_2000, hm _]
      refine ⟨fun z => by omega, fun z => sM_isOn hm hw (by omega) (by omega) ?_⟩
      have ih' := ih (k + 1) (by omega)
      unfold onK at ih'
      have e1 : ((k + 1 : Nat) : Int) = (k : Int) + 1 := by omega
      rw [e1] at ih'
      by_cases hon : w (42 + (k : Int)) = 1
      · rw [if_pos hon] at ih' ⊢
        simp (disch := omega) only [zI_add, zI_sub, zI_mul, zI_neg, zI_lt, zI_le, zI_eq, zI_div, zI_rem, ix_zI, inb_zI, nz_zI, imax_zI, imin_zI, c_t, nb01.1, nb01.2, zl_0, zl_1, zl_2, zl_3, zl_4, zl_5, zl_6, zl_7, zl_8, zl_9, zl_10, zl_11, zl_12, zl_13, zl_14, zl_15, zl_16, zl_17, zl_18, zl_19, zl_20, zl_24, zl_30, zl_31, zl_36, zl_42, zl_44, zl_48, zl_57, zl_58, zl_59, zl_60, zl_61, zl_62, zl_63, zl_64, zl_72, zl_73, zl_96, zl_99, zl_100, zl_104, zl_107, zl_111, zl_114, zl_116, zl_120, zl_200, zl_255, zl_256, zl_360, zl_600, zl_800, zl_1000, zl_2000, or_z]
        exact ⟨fun z => by omega, fun _ => ih'⟩
      · rw [if_neg hon] at ih' ⊢
        simp (disch := omega) only [zI_add, zI_sub, zI_mul, zI_neg, zI_lt, zI_le, zI_eq, zI_div, zI_rem, ix_zI, inb_zI, nz_zI, imax_zI, imin_zI, c_t, nb01.1, nb01.2, zl_0, zl_1, zl_2, zl_3, zl_4, zl_5, zl_6, zl_7, zl_8, zl_9, zl_10, zl_11, zl_12, zl_13, zl_14, zl_15, zl_16, zl_17, zl_18, zl_19, zl_20, zl_24, zl_30, zl_31, zl_36, zl_42, zl_44, zl_48, zl_57, zl_58, zl_59, zl_60, zl_61, zl_62, zl_63, zl_64, zl_72, zl_73, zl_96, zl_99, zl_100, zl_104, zl_107, zl_111, zl_114, zl_116, zl_120, zl_200, zl_255, zl_256, zl_360, zl_600, zl_800, zl_1000, zl_2000, or_0]
        exact ⟨fun _ => ih', fun z => absurd trivial z⟩
  exact key (w 72).toNat 0 (by omega)
theorem sM_behindOf {Q : Int32 → Mem → Prop} {t : Int} {a : Nat} (hm : RW (h 61) w) (hw : WF w) (h0 : 0 ≤ t) (h1 : t < w 72) (ha : a < 64) (hq : Q (zI (behM w a t : Nat)) h) : CALLI E mM_behindOf [.ref 60, .int (zI t), .int (zI a)] h Q := by
  refine fM_behindOf (sM_onSet hm hw ?_)
  have hn := hw.1
  have lt := onM_lt hw
  have p6 : 2 ^ t.toNat < 64 := pow6 (by omega)
  simp (disch := omega) only [zl_0, zl_1, zl_2, zl_3, zl_4, zl_5, zl_6, zl_7, zl_8, zl_9, zl_10, zl_11, zl_12, zl_13, zl_14, zl_15, zl_16, zl_17, zl_18, zl_19, zl_20, zl_24, zl_30, zl_31, zl_36, zl_42, zl_44, zl_48, zl_57, zl_58, zl_59, zl_60, zl_61, zl_62, zl_63, zl_64, zl_72, zl_73, zl_96, zl_99, zl_100, zl_104, zl_107, zl_111, zl_114, zl_116, zl_120, zl_200, zl_255, zl_256, zl_360, zl_600, zl_800, zl_1000, zl_2000, zI_neg, shl_z]
  rw [not_k _ lt _ ha, not_k _ (and64 lt) _ p6]
  exact hq
theorem sM_ceilingOf {Q : Int32 → Mem → Prop} {l pol : Int} (hm : RW (h 61) w) (hw : WF w) (l0 : 0 ≤ l) (l1 : l < 4) (hp : 0 ≤ pol ∧ pol < 100) (hq : ∀ h', KM h h' → Q (zI (ceilS w pol l)) h') : CALLI E mM_ceilingOf [.ref 60, .int (zI l), .int (zI pol)] h Q := by
  refine fM_ceilingOf (sM_lines hm hw hp fun h1' hk hl => ?_)
  have hlen := ordL_len hw (pol := pol)
  have hmem : ∀ x ∈ ordL w pol, 0 ≤ x ∧ x < w 72 := fun x hx => by
    have := (ordL_mem hw).mp hx
    omega
  have hn := hw.1
  have hm1 := hk.w hm
  have hfin := hq h1' hk
  have key : ∀ (b a : List Int), ordL w pol = a ++ b → (∀ e ∈ a, ¬ 0 < hld w e l) → WP E mM_ceilingOf 7 [some (.ref 60), some (.int (zI l)), none, some (.int (zI a.length))] [] h1' (qI Q) := by
    intro b
    induction b with
    | nil =>
      intro a ha hno
      rw [List.append_nil] at ha
      refine fM_ceilingOf_7 ?_
      have hf : (ordL w pol).find? (fun e => decide (0 < hld w e l)) = none := by
        rw [List.find?_eq_none]
        intro x hx
        rw [ha] at hx
        simpa using hno x hx
      unfold ceilS at hfin
      rw [hf] at hfin
      rw [hl.1, ha]
      rw [ha] at hlen
      simp (disch := omega) only [zI_add, zI_sub, zI_mul, zI_neg, zI_lt, zI_le, zI_eq, zI_div, zI_rem, ix_zI, inb_zI, nz_zI, imax_zI, imin_zI, c_t, nb01.1, nb01.2, zl_0, zl_1, zl_2, zl_3, zl_4, zl_5, zl_6, zl_7, zl_8, zl_9, zl_10, zl_11, zl_12, zl_13, zl_14, zl_15, zl_16, zl_17, zl_18, zl_19, zl_20, zl_24, zl_30, zl_31, zl_36, zl_42, zl_44, zl_48, zl_57, zl_58, zl_59, zl_60, zl_61, zl_62, zl_63, zl_64, zl_72, zl_73, zl_96, zl_99, zl_100, zl_104, zl_107, zl_111, zl_114, zl_116, zl_120, zl_200, zl_255, zl_256, zl_360, zl_600, zl_800, zl_1000, zl_2000]
      exact ⟨fun _ => hfin, fun z => absurd (by omega) z⟩
    | cons e b ih =>
      intro a ha hno
      refine fM_ceilingOf_7 ?_
      have he := hmem e (by rw [ha]; simp)
      have hl2 := hl.2 a.length (by rw [ha]; simp)
      rw [ha] at hl2
      have hg : (a ++ e :: b).getD a.length 0 = e := by simp
      rw [hg] at hl2
      have hb := hld_b hw he.1 he.2 l0 l1
      have hal : a.length + 1 + b.length ≤ 6 := by rw [ha] at hlen; simp at hlen; omega
      have hl1 : h1' 60 14 = zI (a.length + 1 + b.length : Nat) := by rw [hl.1, ha]; congr 1; simp; omega
      rw [hl1]
      simp (disch := omega) only [zI_add, zI_sub, zI_mul, zI_neg, zI_lt, zI_le, zI_eq, zI_div, zI_rem, ix_zI, inb_zI, nz_zI, imax_zI, imin_zI, c_t, nb01.1, nb01.2, zl_0, zl_1, zl_2, zl_3, zl_4, zl_5, zl_6, zl_7, zl_8, zl_9, zl_10, zl_11, zl_12, zl_13, zl_14, zl_15, zl_16, zl_17, zl_18, zl_19, zl_20, zl_24, zl_30, zl_31, zl_36, zl_42, zl_44, zl_48, zl_57, zl_58, zl_59, zl_60, zl_61, zl_62, zl_63, zl_64, zl_72, zl_73, zl_96, zl_99, zl_100, zl_104, zl_107, zl_111, zl_114, zl_116, zl_120, zl_200, zl_255, zl_256, zl_360, zl_600, zl_800, zl_1000, zl_2000, Int.toNat_natCast, hl2]
      refine ⟨fun z => by omega, fun _ => sM_hold hm1 hw he.1 (by omega) l0 l1 ?_⟩
      rw [hl2]
      simp (disch := omega) only [zI_add, zI_sub, zI_mul, zI_neg, zI_lt, zI_le, zI_eq, zI_div, zI_rem, ix_zI, inb_zI, nz_zI, imax_zI, imin_zI, c_t, nb01.1, nb01.2, zl_0, zl_1, zl_2, zl_3, zl_4, zl_5, zl_6, zl_7, zl_8, zl_9, zl_10, zl_11, zl_12, zl_13, zl_14, zl_15, zl_16, zl_17, zl_18, zl_19, zl_20, zl_24, zl_30, zl_31, zl_36, zl_42, zl_44, zl_48, zl_57, zl_58, zl_59, zl_60, zl_61, zl_62, zl_63, zl_64, zl_72, zl_73, zl_96, zl_99, zl_100, zl_104, zl_107, zl_111, zl_114, zl_116, zl_120, zl_200, zl_255, zl_256, zl_360, zl_600, zl_800, zl_1000, zl_2000]
      refine ⟨fun z => ?_, fun z => ?_⟩
      · have := ih (a ++ [e]) (by rw [ha]; simp) (fun x hx => by
          rcases List.mem_append.mp hx with hx | hx
          · exact hno x hx
          · simp at hx; subst hx; omega)
        simpa using this
      · have hf : (ordL w pol).find? (fun e => decide (0 < hld w e l)) = some e := by
          rw [ha, List.find?_append]
          have : a.find? (fun e => decide (0 < hld w e l)) = none := by
            rw [List.find?_eq_none]
            intro x hx
            simpa using hno x hx
          rw [this]
          simp
          omega
        unfold ceilS at hfin
        rw [hf] at hfin
        exact hfin
  exact key (ordL w pol) [] rfl (fun e he => by simp at he)
theorem sM_blockingBy {Q : Int32 → Mem → Prop} {t : Int} {a b : Nat} (hm : RW (h 61) w) (hw : WF w) (h0 : 0 ≤ t) (h1 : t < w 72) (ha : a < 64) (hb : b < 64) (hq : Q (zI (blk w (a ||| 2 ^ t.toNat) b)) h) : CALLI E mM_blockingBy [.ref 60, .int (zI t), .int (zI a), .int (zI b)] h Q := by
  refine fM_blockingBy ?_
  have hn := hw.1
  have hn2 := hw.n
  have up64 : a ||| 2 ^ t.toNat < 64 := or64 ha (pow6 (by omega))
  have l6 : ∀ (j l : Nat), l + j = 4 → WP E mM_blockingBy 6 [some (.ref 60), some (.int (zI t)), some (.int (zI a)), some (.int (zI b)), some (.int (zI (blkL w (a ||| 2 ^ t.toNat) b l))), some (.int (zI l)), none, none] [] h (qI Q) := by
    intro j
    induction j with
    | zero =>
      intro l hl
      have : l = 4 := by omega
      subst this
      refine fM_blockingBy_6 ?_
      simp (disch := omega) only [zI_add, zI_sub, zI_mul, zI_neg, zI_lt, zI_le, zI_eq, zI_div, zI_rem, ix_zI, inb_zI, nz_zI, imax_zI, imin_zI, c_t, nb01.1, nb01.2, zl_0, zl_1, zl_2, zl_3, zl_4, zl_5, zl_6, zl_7, zl_8, zl_9, zl_10, zl_11, zl_12, zl_13, zl_14, zl_15, zl_16, zl_17, zl_18, zl_19, zl_20, zl_24, zl_30, zl_31, zl_36, zl_42, zl_44, zl_48, zl_57, zl_58, zl_59, zl_60, zl_61, zl_62, zl_63, zl_64, zl_72, zl_73, zl_96, zl_99, zl_100, zl_104, zl_107, zl_111, zl_114, zl_116, zl_120, zl_200, zl_255, zl_256, zl_360, zl_600, zl_800, zl_1000, zl_2000]
      exact ⟨fun _ => hq, fun z => absurd (by omega) z⟩
    | succ j ih =>
      intro l hl
      have ih' := ih (l + 1) (by omega)
      have e1 : ((l + 1 : Nat) : Int) = (l : Int) + 1 := by omega
      rw [e1] at ih'
      have bb := blkL_b hw (up := a ||| 2 ^ t.toNat) (bh := b) l (by omega)
      refine fM_blockingBy_6 ?_
      simp (disch := omega) only [zI_add, zI_sub, zI_mul, zI_neg, zI_lt, zI_le, zI_eq, zI_div, zI_rem, ix_zI, inb_zI, nz_zI, imax_zI, imin_zI, c_t, nb01.1, nb01.2, zl_0, zl_1, zl_2, zl_3, zl_4, zl_5, zl_6, zl_7, zl_8, zl_9, zl_10, zl_11, zl_12, zl_13, zl_14, zl_15, zl_16, zl_17, zl_18, zl_19, zl_20, zl_24, zl_30, zl_31, zl_36, zl_42, zl_44, zl_48, zl_57, zl_58, zl_59, zl_60, zl_61, zl_62, zl_63, zl_64, zl_72, zl_73, zl_96, zl_99, zl_100, zl_104, zl_107, zl_111, zl_114, zl_116, zl_120, zl_200, zl_255, zl_256, zl_360, zl_600, zl_800, zl_1000, zl_2000]
      refine ⟨fun z => by omega, fun _ => ?_⟩
      have l75 : ∀ (j k : Nat), (k : Int) + j = w 72 → 0 < mxK w (a ||| 2 ^ t.toNat) l 0 (w 72).toNat →
          WP E mM_blockingBy 75 [some (.ref 60), some (.int (zI t)), some (.int (zI a)), some (.int (zI b)), some (.int (zI (mxK w b l (blkL w (a ||| 2 ^ t.toNat) b l) k))), some (.int (zI l)), some (.int (zI 1)), some (.int (zI k))] [] h (qI Q) := by
        intro j
        induction j with
        | zero =>
          intro k hk hpos
          refine fM_blockingBy_75 ?_
          unfold blkL at ih'
          rw [if_pos hpos, show (w 72).toNat = k by omega] at ih'
          simp (disch := omega) only [zI_add, zI_sub, zI_mul, zI_neg, zI_lt, zI_le, zI_eq, zI_div, zI_rem, ix_zI, inb_zI, nz_zI, imax_zI, imin_zI, c_t, nb01.1, nb01.2, zl_0, zl_1, zl_2, zl_3, zl_4, zl_5, zl_6, zl_7, zl_8, zl_9, zl_10, zl_11, zl_12, zl_13, zl_14, zl_15, zl_16, zl_17, zl_18, zl_19, zl_20, zl_24, zl_30, zl_31, zl_36, zl_42, zl_44, zl_48, zl_57, zl_58, zl_59, zl_60, zl_61, zl_62, zl_63, zl_64, zl_72, zl_73, zl_96, zl_99, zl_100, zl_104, zl_107, zl_111, zl_114, zl_116, zl_120, zl_200, zl_255, zl_256, zl_360, zl_600, zl_800, zl_1000, zl_2000, hm _]
          exact ⟨fun _ => ih', fun z => absurd (by omega) z⟩
        | succ j ihj =>
          intro k hk hpos
          refine fM_blockingBy_75 ?_
          have ihj' := ihj (k + 1) (by omega) hpos
          have e2 : ((k + 1 : Nat) : Int) = (k : Int) + 1 := by omega
          rw [e2] at ihj'
          unfold mxK at ihj'
          have mb := mxK_b hw (b := b) (l := l) (by omega) (by omega) bb k (by omega)
          have hb1 := hld_b hw (i := k) (l := l) (by omega) (by omega) (by omega) (by omega)
          simp (disch := omega) only [zI_add, zI_sub, zI_mul, zI_neg, zI_lt, zI_le, zI_eq, zI_div, zI_rem, ix_zI, inb_zI, nz_zI, imax_zI, imin_zI, c_t, nb01.1, nb01.2, zl_0, zl_1, zl_2, zl_3, zl_4, zl_5, zl_6, zl_7, zl_8, zl_9, zl_10, zl_11, zl_12, zl_13, zl_14, zl_15, zl_16, zl_17, zl_18, zl_19, zl_20, zl_24, zl_30, zl_31, zl_36, zl_42, zl_44, zl_48, zl_57, zl_58, zl_59, zl_60, zl_61, zl_62, zl_63, zl_64, zl_72, zl_73, zl_96, zl_99, zl_100, zl_104, zl_107, zl_111, zl_114, zl_116, zl_120, zl_200, zl_255, zl_256, zl_360, zl_600, zl_800, zl_1000, zl_2000, hm _]
          refine ⟨fun z => by omega, fun _ => ⟨fun z => by omega, fun _ => sM_has hb (by omega) (by omega) ?_⟩⟩
          rw [Int.toNat_natCast]
          by_cases c : b.testBit k = true
          · rw [if_pos c] at ihj' ⊢
            refine ⟨fun z => absurd z (by decide), fun _ => sM_hold hm hw (by omega) (by omega) (by omega) (by omega) ?_⟩
            simp (disch := omega) only [zI_add, zI_sub, zI_mul, zI_neg, zI_lt, zI_le, zI_eq, zI_div, zI_rem, ix_zI, inb_zI, nz_zI, imax_zI, imin_zI, c_t, nb01.1, nb01.2, zl_0, zl_1, zl_2, zl_3, zl_4, zl_5, zl_6, zl_7, zl_8, zl_9, zl_10, zl_11, zl_12, zl_13, zl_14, zl_15, zl_16, zl_17, zl_18, zl_19, zl_20, zl_24, zl_30, zl_31, zl_36, zl_42, zl_44, zl_48, zl_57, zl_58, zl_59, zl_60, zl_61, zl_62, zl_63, zl_64, zl_72, zl_73, zl_96, zl_99, zl_100, zl_104, zl_107, zl_111, zl_114, zl_116, zl_120, zl_200, zl_255, zl_256, zl_360, zl_600, zl_800, zl_1000, zl_2000]
            exact ihj'
          · rw [if_neg c] at ihj' ⊢
            exact ⟨fun _ => ihj', fun z => absurd rfl z⟩
      have l18 : ∀ (j k : Nat), (k : Int) + j = w 72 →
          WP E mM_blockingBy 18 [some (.ref 60), some (.int (zI t)), some (.int (zI a)), some (.int (zI b)), some (.int (zI (blkL w (a ||| 2 ^ t.toNat) b l))), some (.int (zI l)), some (.int (if 0 < mxK w (a ||| 2 ^ t.toNat) l 0 k then zI 1 else zI 0)), some (.int (zI k))] [] h (qI Q) := by
        intro j
        induction j with
        | zero =>
          intro k hk
          refine fM_blockingBy_18 ?_
          simp (disch := omega) only [zI_add, zI_sub, zI_mul, zI_neg, zI_lt, zI_le, zI_eq, zI_div, zI_rem, ix_zI, inb_zI, nz_zI, imax_zI, imin_zI, c_t, nb01.1, nb01.2, zl_0, zl_1, zl_2, zl_3, zl_4, zl_5, zl_6, zl_7, zl_8, zl_9, zl_10, zl_11, zl_12, zl_13, zl_14, zl_15, zl_16, zl_17, zl_18, zl_19, zl_20, zl_24, zl_30, zl_31, zl_36, zl_42, zl_44, zl_48, zl_57, zl_58, zl_59, zl_60, zl_61, zl_62, zl_63, zl_64, zl_72, zl_73, zl_96, zl_99, zl_100, zl_104, zl_107, zl_111, zl_114, zl_116, zl_120, zl_200, zl_255, zl_256, zl_360, zl_600, zl_800, zl_1000, zl_2000, hm _]
          refine ⟨fun _ => ?_, fun z => absurd (by omega) z⟩
          by_cases c : 0 < mxK w (a ||| 2 ^ t.toNat) l 0 k
          · rw [if_pos c]
            exact l75 (w 72).toNat 0 (by omega) (by rw [show (w 72).toNat = k by omega]; exact c)
          · rw [if_neg c]
            unfold blkL at ih'
            rw [if_neg (by rw [show (w 72).toNat = k by omega]; exact c)] at ih'
            refine fM_blockingBy_75 ?_
            simp (disch := omega) only [zI_add, zI_sub, zI_mul, zI_neg, zI_lt, zI_le, zI_eq, zI_div, zI_rem, ix_zI, inb_zI, nz_zI, imax_zI, imin_zI, c_t, nb01.1, nb01.2, zl_0, zl_1, zl_2, zl_3, zl_4, zl_5, zl_6, zl_7, zl_8, zl_9, zl_10, zl_11, zl_12, zl_13, zl_14, zl_15, zl_16, zl_17, zl_18, zl_19, zl_20, zl_24, zl_30, zl_31, zl_36, zl_42, zl_44, zl_48, zl_57, zl_58, zl_59, zl_60, zl_61, zl_62, zl_63, zl_64, zl_72, zl_73, zl_96, zl_99, zl_100, zl_104, zl_107, zl_111, zl_114, zl_116, zl_120, zl_200, zl_255, zl_256, zl_360, zl_600, zl_800, zl_1000, zl_2000, hm _]
            exact ⟨fun _ => ih', fun _ => ⟨fun _ => ih', fun z => absurd trivial z⟩⟩
        | succ j ihj =>
          intro k hk
          have ihj' := ihj (k + 1) (by omega)
          have e2 : ((k + 1 : Nat) : Int) = (k : Int) + 1 := by omega
          rw [e2] at ihj'
          unfold mxK at ihj'
          have hb1 := hld_b hw (i := k) (l := l) (by omega) (by omega) (by omega) (by omega)
          refine fM_blockingBy_18 ?_
          by_cases c : 0 < mxK w (a ||| 2 ^ t.toNat) l 0 k
          · rw [if_pos c]
            rw [if_pos (by split <;> omega)] at ihj'
            simp (disch := omega) only [zI_add, zI_sub, zI_mul, zI_neg, zI_lt, zI_le, zI_eq, zI_div, zI_rem, ix_zI, inb_zI, nz_zI, imax_zI, imin_zI, c_t, nb01.1, nb01.2, zl_0, zl_1, zl_2, zl_3, zl_4, zl_5, zl_6, zl_7, zl_8, zl_9, zl_10, zl_11, zl_12, zl_13, zl_14, zl_15, zl_16, zl_17, zl_18, zl_19, zl_20, zl_24, zl_30, zl_31, zl_36, zl_42, zl_44, zl_48, zl_57, zl_58, zl_59, zl_60, zl_61, zl_62, zl_63, zl_64, zl_72, zl_73, zl_96, zl_99, zl_100, zl_104, zl_107, zl_111, zl_114, zl_116, zl_120, zl_200, zl_255, zl_256, zl_360, zl_600, zl_800, zl_1000, zl_2000, hm _]
            exact ⟨fun z => by omega, fun _ => ⟨fun _ => ihj', fun z => by omega⟩⟩
          · rw [if_neg c]
            simp (disch := omega) only [zI_add, zI_sub, zI_mul, zI_neg, zI_lt, zI_le, zI_eq, zI_div, zI_rem, ix_zI, inb_zI, nz_zI, imax_zI, imin_zI, c_t, nb01.1, nb01.2, zl_0, zl_1, zl_2, zl_3, zl_4, zl_5, zl_6, zl_7, zl_8, zl_9, zl_10, zl_11, zl_12, zl_13, zl_14, zl_15, zl_16, zl_17, zl_18, zl_19, zl_20, zl_24, zl_30, zl_31, zl_36, zl_42, zl_44, zl_48, zl_57, zl_58, zl_59, zl_60, zl_61, zl_62, zl_63, zl_64, zl_72, zl_73, zl_96, zl_99, zl_100, zl_104, zl_107, zl_111, zl_114, zl_116, zl_120, zl_200, zl_255, zl_256, zl_360, zl_600, zl_800, zl_1000, zl_2000, hm _, or_z]
            refine ⟨fun z => by omega, fun _ => ⟨fun z => absurd trivial z, fun _ => sM_has up64 (by omega) (by omega) ?_⟩⟩
            rw [Int.toNat_natCast]
            by_cases c2 : (a ||| 2 ^ t.toNat).testBit k = true
            · rw [if_pos c2] at ihj' ⊢
              refine ⟨fun z => absurd z (by decide), fun _ => sM_hold hm hw (by omega) (by omega) (by omega) (by omega) ?_⟩
              simp (disch := omega) only [zI_add, zI_sub, zI_mul, zI_neg, zI_lt, zI_le, zI_eq, zI_div, zI_rem, ix_zI, inb_zI, nz_zI, imax_zI, imin_zI, c_t, nb01.1, nb01.2, zl_0, zl_1, zl_2, zl_3, zl_4, zl_5, zl_6, zl_7, zl_8, zl_9, zl_10, zl_11, zl_12, zl_13, zl_14, zl_15, zl_16, zl_17, zl_18, zl_19, zl_20, zl_24, zl_30, zl_31, zl_36, zl_42, zl_44, zl_48, zl_57, zl_58, zl_59, zl_60, zl_61, zl_62, zl_63, zl_64, zl_72, zl_73, zl_96, zl_99, zl_100, zl_104, zl_107, zl_111, zl_114, zl_116, zl_120, zl_200, zl_255, zl_256, zl_360, zl_600, zl_800, zl_1000, zl_2000]
              refine ⟨fun z => ?_, fun z => ?_⟩
              · rw [if_neg (by omega)] at ihj'; exact ihj'
              · rw [if_pos (by omega)] at ihj'; exact ihj'
            · rw [if_neg c2, if_neg c] at ihj'
              rw [if_neg c2]
              exact ⟨fun _ => ihj', fun z => absurd rfl z⟩
      exact l18 (w 72).toNat 0 (by omega)
  exact l6 4 0 (by omega)
end RP
