/-! ===== a task's traits; how many ===== -/
def traitS (w : Int → Int) (t a : Int) : Int := if a < 8 then w (6 * a + t) else if a = 8 then dist w t else if a = 9 then lat w t else lim w t
def costS (w : Int → Int) (k : Nat) : Int := sumT (fun i => if w (42 + i) = 1 then w i else 0) k
theorem costS_b {w : Int → Int} (hw : WF w) : ∀ k : Nat, (k : Int) ≤ w 72 → 0 ≤ costS w k ∧ costS w k ≤ 200 * k
  | 0, _ => ⟨Int.le_refl _, Int.le_refl _⟩
  | k + 1, h => by
    have ih := costS_b hw k (by omega)
    have hn := hw.1
    have a := hw.2.1 (k : Int) (by omega) (by omega)
    show 0 ≤ costS w k + (if w (42 + (k : Int)) = 1 then w (k : Int) else 0) ∧ costS w k + (if w (42 + (k : Int)) = 1 then w (k : Int) else 0) ≤ 200 * ((k + 1 : Nat) : Int)
    split <;> omega
section TQ
variable {E : XE} {h : Mem} {w : Int → Int} {s : St} {Q : Int32 → Mem → Prop} {p : Nat}
theorem sD_costTogether (hp : isP p) (hd : DW h p w) (hw : WF w) (hq : Q (zI (costS w (w 72).toNat)) h) : CALLI E mD_costTogether [.ref p] h Q := by
  refine fD_costTogether hp ?_
  have hn := hw.1
  have key : ∀ (j k : Nat), (k : Int) + j = w 72 → WP E mD_costTogether 4 [some (.ref p), some (.int (zI (costS w k))), some (.int (zI k))] [] h (qI Q) := by
    intro j
    induction j with
    | zero =>
      intro k hk
      refine fD_costTogether_4 hp ?_
      simp (disch := omega) only [zI_add, zI_sub, zI_mul, zI_neg, zI_lt, zI_le, zI_eq, zI_div, zI_rem, ix_zI, inb_zI, nz_zI, imax_zI, imin_zI, c_t, nb01.1, nb01.2, zl_0, zl_1, zl_2, zl_3, zl_4, zl_5, zl_6, zl_7, zl_8, zl_9, zl_10, zl_11, zl_12, zl_13, zl_14, zl_15, zl_16, zl_17, zl_18, zl_19, zl_20, zl_24, zl_30, zl_31, zl_36, zl_42, zl_44, zl_48, zl_57, zl_58, zl_59, zl_60, zl_61, zl_62, zl_63, zl_64, zl_72, zl_73, zl_96, zl_99, zl_100, zl_104, zl_107, zl_111, zl_114, zl_116, zl_120, zl_200, zl_255, zl_256, zl_360, zl_600, zl_800, zl_1000, zl_2000, hd.n]
      rw [show (w 72).toNat = k by omega] at hq
      exact ⟨fun _ => hq, fun z => absurd (by omega) z⟩
    | succ j ih =>
      intro k hk
      refine fD_costTogether_4 hp ?_
      have hb := costS_b hw k (by omega)
      have a := hw.2.1 (k : Int) (by omega) (by omega)
      have hnext := ih (k + 1) (by omega)
      have e1 : ((k + 1 : Nat) : Int) = (k : Int) + 1 := by omega
      have e2 : costS w (k + 1) = costS w k + (if w (42 + (k : Int)) = 1 then w (k : Int) else 0) := rfl
      rw [e1, e2] at hnext
      have h1 : h (p + 1) (k : Int).toNat = zI (w (k : Int)) := hd.r1 (by omega) (by omega)
      simp (disch := omega) only [zI_add, zI_sub, zI_mul, zI_neg, zI_lt, zI_le, zI_eq, zI_div, zI_rem, ix_zI, inb_zI, nz_zI, imax_zI, imin_zI, c_t, nb01.1, nb01.2, zl_0, zl_1, zl_2, zl_3, zl_4, zl_5, zl_6, zl_7, zl_8, zl_9, zl_10, zl_11, zl_12, zl_13, zl_14, zl_15, zl_16, zl_17, zl_18, zl_19, zl_20, zl_24, zl_30, zl_31, zl_36, zl_42, zl_44, zl_48, zl_57, zl_58, zl_59, zl_60, zl_61, zl_62, zl_63, zl_64, zl_72, zl_73, zl_96, zl_99, zl_100, zl_104, zl_107, zl_111, zl_114, zl_116, zl_120, zl_200, zl_255, zl_256, zl_360, zl_600, zl_800, zl_1000, zl_2000, hd.n]
      refine ⟨fun z => by omega, fun _ => sD_isOn hp hd hw (by omega) ?_⟩
      by_cases c : w (42 + (k : Int)) = 1
      · rw [if_pos c] at hnext
        rw [if_pos ⟨by omega, by omega, c⟩]
        simp (disch := omega) only [zI_add, zI_sub, zI_mul, zI_neg, zI_lt, zI_le, zI_eq, zI_div, zI_rem, ix_zI, inb_zI, nz_zI, imax_zI, imin_zI, c_t, nb01.1, nb01.2, zl_0, zl_1, zl_2, zl_3, zl_4, zl_5, zl_6, zl_7, zl_8, zl_9, zl_10, zl_11, zl_12, zl_13, zl_14, zl_15, zl_16, zl_17, zl_18, zl_19, zl_20, zl_24, zl_30, zl_31, zl_36, zl_42, zl_44, zl_48, zl_57, zl_58, zl_59, zl_60, zl_61, zl_62, zl_63, zl_64, zl_72, zl_73, zl_96, zl_99, zl_100, zl_104, zl_107, zl_111, zl_114, zl_116, zl_120, zl_200, zl_255, zl_256, zl_360, zl_600, zl_800, zl_1000, zl_2000, h1]
        exact ⟨fun z => absurd z (by omega), fun _ => hnext⟩
      · rw [if_neg c, Int.add_zero] at hnext
        rw [if_neg (fun z => c z.2.2)]
        simp (disch := omega) only [zI_add, zI_sub, zI_mul, zI_neg, zI_lt, zI_le, zI_eq, zI_div, zI_rem, ix_zI, inb_zI, nz_zI, imax_zI, imin_zI, c_t, nb01.1, nb01.2, zl_0, zl_1, zl_2, zl_3, zl_4, zl_5, zl_6, zl_7, zl_8, zl_9, zl_10, zl_11, zl_12, zl_13, zl_14, zl_15, zl_16, zl_17, zl_18, zl_19, zl_20, zl_24, zl_30, zl_31, zl_36, zl_42, zl_44, zl_48, zl_57, zl_58, zl_59, zl_60, zl_61, zl_62, zl_63, zl_64, zl_72, zl_73, zl_96, zl_99, zl_100, zl_104, zl_107, zl_111, zl_114, zl_116, zl_120, zl_200, zl_255, zl_256, zl_360, zl_600, zl_800, zl_1000, zl_2000]
        exact ⟨fun _ => hnext, fun z => absurd trivial z⟩
  exact key (w 72).toNat 0 (by omega)
theorem sM_costAll (hm : RW (h 61) w) (hw : WF w) (hq : Q (zI (costS w (w 72).toNat)) h) : CALLI E mM_costAll [.ref 60] h Q := by
  refine fM_costAll ?_
  have hn := hw.1
  have key : ∀ (j k : Nat), (k : Int) + j = w 72 → WP E mM_costAll 4 [some (.ref 60), some (.int (zI (costS w k))), some (.int (zI k))] [] h (qI Q) := by
    intro j
    induction j with
    | zero =>
      intro k hk
      refine fM_costAll_4 ?_
      simp (disch := omega) only [zI_add, zI_sub, zI_mul, zI_neg, zI_lt, zI_le, zI_eq, zI_div, zI_rem, ix_zI, inb_zI, nz_zI, imax_zI, imin_zI, c_t, nb01.1, nb01.2, zl_0, zl_1, zl_2, zl_3, zl_4, zl_5, zl_6, zl_7, zl_8, zl_9, zl_10, zl_11, zl_12, zl_13, zl_14, zl_15, zl_16, zl_17, zl_18, zl_19, zl_20, zl_24, zl_30, zl_31, zl_36, zl_42, zl_44, zl_48, zl_57, zl_58, zl_59, zl_60, zl_61, zl_62, zl_63, zl_64, zl_72, zl_73, zl_96, zl_99, zl_100, zl_104, zl_107, zl_111, zl_114, zl_116, zl_120, zl_200, zl_255, zl_256, zl_360, zl_600, zl_800, zl_1000, zl_2000, hm _]
      rw [show (w 72).toNat = k by omega] at hq
      exact ⟨fun _ => hq, fun z => absurd (by omega) z⟩
    | succ j ih =>
      intro k hk
      refine fM_costAll_4 ?_
      have hb := costS_b hw k (by omega)
      have a := hw.2.1 (k : Int) (by omega) (by omega)
      have hnext := ih (k + 1) (by omega)
      have e1 : ((k + 1 : Nat) : Int) = (k : Int) + 1 := by omega
      have e2 : costS w (k + 1) = costS w k + (if w (42 + (k : Int)) = 1 then w (k : Int) else 0) := rfl
      rw [e1, e2] at hnext
      simp (disch := omega) only [zI_add, zI_sub, zI_mul, zI_neg, zI_lt, zI_le, zI_eq, zI_div, zI_rem, ix_zI, inb_zI, nz_zI, imax_zI, imin_zI, c_t, nb01.1, nb01.2, zl_0, zl_1, zl_2, zl_3, zl_4, zl_5, zl_6, zl_7, zl_8, zl_9, zl_10, zl_11, zl_12, zl_13, zl_14, zl_15, zl_16, zl_17, zl_18, zl_19, zl_20, zl_24, zl_30, zl_31, zl_36, zl_42, zl_44, zl_48, zl_57, zl_58, zl_59, zl_60, zl_61, zl_62, zl_63, zl_64, zl_72, zl_73, zl_96, zl_99, zl_100, zl_104, zl_107, zl_111, zl_114, zl_116, zl_120, zl_200, zl_255, zl_256, zl_360, zl_600, zl_800, zl_1000, zl_2000, hm _]
      refine ⟨fun z => by omega, fun _ => sM_isOn hm hw (by omega) (by omega) ?_⟩
      by_cases c : w (42 + (k : Int)) = 1
      · rw [if_pos c] at hnext
        rw [if_pos c]
        simp (disch := omega) only [zI_add, zI_sub, zI_mul, zI_neg, zI_lt, zI_le, zI_eq, zI_div, zI_rem, ix_zI, inb_zI, nz_zI, imax_zI, imin_zI, c_t, nb01.1, nb01.2, zl_0, zl_1, zl_2, zl_3, zl_4, zl_5, zl_6, zl_7, zl_8, zl_9, zl_10, zl_11, zl_12, zl_13, zl_14, zl_15, zl_16, zl_17, zl_18, zl_19, zl_20, zl_24, zl_30, zl_31, zl_36, zl_42, zl_44, zl_48, zl_57, zl_58, zl_59, zl_60, zl_61, zl_62, zl_63, zl_64, zl_72, zl_73, zl_96, zl_99, zl_100, zl_104, zl_107, zl_111, zl_114, zl_116, zl_120, zl_200, zl_255, zl_256, zl_360, zl_600, zl_800, zl_1000, zl_2000, Int.zero_add, hm _]
        exact ⟨fun z => absurd z (by omega), fun _ => hnext⟩
      · rw [if_neg c] at hnext
        rw [if_neg c]
        simp (disch := omega) only [zI_add, zI_sub, zI_mul, zI_neg, zI_lt, zI_le, zI_eq, zI_div, zI_rem, ix_zI, inb_zI, nz_zI, imax_zI, imin_zI, c_t, nb01.1, nb01.2, zl_0, zl_1, zl_2, zl_3, zl_4, zl_5, zl_6, zl_7, zl_8, zl_9, zl_10, zl_11, zl_12, zl_13, zl_14, zl_15, zl_16, zl_17, zl_18, zl_19, zl_20, zl_24, zl_30, zl_31, zl_36, zl_42, zl_44, zl_48, zl_57, zl_58, zl_59, zl_60, zl_61, zl_62, zl_63, zl_64, zl_72, zl_73, zl_96, zl_99, zl_100, zl_104, zl_107, zl_111, zl_114, zl_116, zl_120, zl_200, zl_255, zl_256, zl_360, zl_600, zl_800, zl_1000, zl_2000]
        exact ⟨fun _ => hnext, fun z => absurd trivial z⟩
  exact key (w 72).toNat 0 (by omega)
end TQ
