/-! ===== the class's orders, blocking, responses ===== -/
theorem zof (z : Int) : Int32.ofInt z = zI z := rfl
def pcK (m : Nat) : Nat → Nat
  | 0 => 0
  | k + 1 => pcK m k + if m.testBit k then 1 else 0
def pc6 (m : Nat) : Nat := pcK m 6
def rs (q : Nat) : Prop := q = 44 ∨ q = 46
theorem DW.rs {h h' : Mem} {p : Nat} {w : Int → Int} (hp : isP p) (hd : DW h p w) (ho : Off rs h h') : DW h' p w := hd.off ho (fun k hk z => by
  have := hp.b
  have z : p + k = 44 ∨ p + k = 46 := z
  omega)
set_option maxRecDepth 100000 in
theorem pc_or : ∀ m, m < 64 → ∀ k, k < 6 → m.testBit k = false → pc6 (m ||| 2 ^ k) = pc6 m + 1 := by decide +kernel
theorem pc_orL : ∀ (l : List Int) (m : Nat), m < 64 → (∀ e ∈ l, 0 ≤ e ∧ e < 6) → l.Nodup → (∀ e ∈ l, m.testBit e.toNat = false) → pc6 (orL l m) = pc6 m + l.length
  | [], m, _, _, _, _ => rfl
  | e :: l, m, hm, hb, hn, hz => by
    obtain ⟨n1, n2⟩ := List.nodup_cons.mp hn
    have he := hb e List.mem_cons_self
    unfold orL
    rw [pc_orL l _ (or64 hm (pow6 (by omega))) (fun x hx => hb x (List.mem_cons_of_mem _ hx)) n2 (fun x hx => ?_), pc_or m hm e.toNat (by omega) (hz e List.mem_cons_self)]
    · simp; omega
    · rw [Nat.testBit_or, hz x (List.mem_cons_of_mem _ hx), Nat.testBit_two_pow]
      have hxb := hb x (List.mem_cons_of_mem _ hx)
      have : ¬ e.toNat = x.toNat := fun z => n1 (by rw [show e = x by omega]; exact hx)
      simp [this]
theorem ordL_nodup {w : Int → Int} {pol : Int} : (ordL w pol).Nodup := by
  have hs := ordL_sorted (w := w) (pol := pol)
  have hi : ∀ {a b : Int}, prec w pol a b → a ≠ b := fun {a b} h e => by
    rw [e] at h
    exact prec_ir h
  exact List.Pairwise.imp hi hs
theorem pc_ahead {w : Int → Int} (hw : WF w) {pol t : Int} {l1 l2 : List Int} (h : ordL w pol = l1 ++ t :: l2) : pc6 (aheadM w pol t) = l1.length := by
  rw [← orL_ahead hw h]
  have hn := hw.1
  have hmem : ∀ x ∈ l1, 0 ≤ x ∧ x < 6 := fun x hx => by
    have := (ordL_mem hw (pol := pol)).mp (show x ∈ ordL w pol by rw [h]; exact List.mem_append_left _ hx)
    omega
  have hnd := ordL_nodup (w := w) (pol := pol)
  rw [h] at hnd
  have := pc_orL l1 0 (by omega) hmem (List.nodup_append.mp hnd).1 (fun e _ => by simp)
  rw [this]
  simp [pc6, pcK]
def ordS (w : Int → Int) (pol i : Int) : Int := if i < (ordL w pol).length then (ordL w pol).getD i.toNat 0 else -9
theorem ceil_of {w : Int → Int} (hw : WF w) {pol l c : Int} (hc : c ∈ ordL w pol) (hh : 0 < hld w c l) (hmin : ∀ x ∈ ordL w pol, 0 < hld w x l → x = c ∨ prec w pol c x) : ceilS w pol l = c := by
  unfold ceilS
  cases hf : (ordL w pol).find? (fun e => decide (0 < hld w e l)) with
  | none =>
    rw [List.find?_eq_none] at hf
    exact absurd hh (by simpa using hf c hc)
  | some e =>
    obtain ⟨he, l1, l2, hdec, hno⟩ := List.find?_eq_some_iff_append.mp hf
    have he : 0 < hld w e l := by simpa using he
    simp only
    have hem : e ∈ ordL w pol := by rw [hdec]; simp
    rcases hmin e hem he with h | h
    · exact h
    · exfalso
      rw [hdec] at hc
      have hs := ordL_sorted (w := w) (pol := pol)
      rw [hdec] at hs
      rcases List.mem_append.mp hc with hc | hc
      · have := hno c hc
        simp at this
        omega
      · rcases List.mem_cons.mp hc with hc | hc
        · rw [hc] at h; exact prec_ir h
        · exact prec_as h ((List.pairwise_cons.mp (List.pairwise_append.mp hs).2.1).1 c hc)
theorem ceil_no {w : Int → Int} {pol l : Int} (h : ∀ x ∈ ordL w pol, ¬ 0 < hld w x l) : ceilS w pol l = -9 := by
  unfold ceilS
  have : (ordL w pol).find? (fun e => decide (0 < hld w e l)) = none := by
    rw [List.find?_eq_none]
    intro x hx
    simpa using h x hx
  rw [this]
section CR
variable {E : XE} {h : Mem} {w : Int → Int} {p r : Nat}
theorem sRS_key {Q : Int32 → Mem → Prop} {pol t : Int} (hp : isP p) (hd : DW h p w) (hw : WF w) (h0 : 0 ≤ t) (h1 : t < w 72) (hpo : 0 ≤ pol ∧ pol < 3) (hq : Q (zI (keyP w pol t)) h) : CALLI E mRS_key [.ref p, .int (zI pol), .int (zI t)] h Q := by
  refine fRS_key hp ?_
  have hn := hw.1
  unfold keyP at hq
  simp (disch := omega) only [zI_add, zI_sub, zI_mul, zI_neg, zI_lt, zI_le, zI_eq, zI_div, zI_rem, ix_zI, inb_zI, nz_zI, imax_zI, imin_zI, c_t, nb01.1, nb01.2, zl_0, zl_1, zl_2, zl_3, zl_4, zl_5, zl_6, zl_7, zl_8, zl_9, zl_10, zl_11, zl_12, zl_13, zl_14, zl_15, zl_16, zl_17, zl_18, zl_19, zl_20, zl_24, zl_30, zl_31, zl_36, zl_42, zl_44, zl_48, zl_57, zl_58, zl_59, zl_60, zl_61, zl_62, zl_63, zl_64, zl_72, zl_73, zl_96, zl_99, zl_100, zl_104, zl_107, zl_111, zl_114, zl_116, zl_120, zl_200, zl_255, zl_256, zl_360, zl_600, zl_800, zl_1000, zl_2000, zof, hd.r2, hd.r5, hd.r11]
  refine ⟨fun z => ?_, fun z => ⟨fun z2 => ?_, fun z2 => ?_⟩⟩
  · rw [if_pos z] at hq; exact hq
  · rw [if_neg z, if_neg (by omega)] at hq; exact hq
  · rw [if_neg z, if_pos (by omega)] at hq; exact hq
theorem sRS_precedes {Q : Int32 → Mem → Prop} {pol a b : Int} (hp : isP p) (hd : DW h p w) (hw : WF w) (a0 : 0 ≤ a) (a1 : a < w 72) (b0 : 0 ≤ b) (b1 : b < w 72) (hpo : 0 ≤ pol ∧ pol < 3) (hq : Q (if precB w pol a b then 1 else 0) h) : CALLI E mRS_precedes [.ref p, .int (zI pol), .int (zI a), .int (zI b)] h Q := by
  refine fRS_precedes hp (sRS_key hp hd hw a0 a1 hpo (sRS_key hp hd hw b0 b1 hpo ?_))
  have hn := hw.1
  have ka := key_b hw (pol := pol) a0 a1
  have kb := key_b hw (pol := pol) b0 b1
  have pi := precB_iff (w := w) (pol := pol) (i := a) (j := b)
  unfold prec at pi
  simp (disch := omega) only [zI_add, zI_sub, zI_mul, zI_neg, zI_lt, zI_le, zI_eq, zI_div, zI_rem, ix_zI, inb_zI, nz_zI, imax_zI, imin_zI, c_t, nb01.1, nb01.2, zl_0, zl_1, zl_2, zl_3, zl_4, zl_5, zl_6, zl_7, zl_8, zl_9, zl_10, zl_11, zl_12, zl_13, zl_14, zl_15, zl_16, zl_17, zl_18, zl_19, zl_20, zl_24, zl_30, zl_31, zl_36, zl_42, zl_44, zl_48, zl_57, zl_58, zl_59, zl_60, zl_61, zl_62, zl_63, zl_64, zl_72, zl_73, zl_96, zl_99, zl_100, zl_104, zl_107, zl_111, zl_114, zl_116, zl_120, zl_200, zl_255, zl_256, zl_360, zl_600, zl_800, zl_1000, zl_2000]
  by_cases c : precB w pol a b = true
  · rw [if_pos c] at hq
    have := pi.mp c
    exact ⟨fun _ => hq, fun z => ⟨fun z2 => by omega, fun _ => ⟨fun z3 => by omega, fun _ => hq⟩⟩⟩
  · rw [if_neg c] at hq
    have : ¬ _ := fun z => c (pi.mpr z)
    exact ⟨fun z => by omega, fun z => ⟨fun z2 => hq, fun _ => ⟨fun z3 => hq, fun _ => by omega⟩⟩⟩
theorem sRS_aheadOf {Q : Int32 → Mem → Prop} {pol t : Int} (hp : isP p) (hd : DW h p w) (hw : WF w) (h0 : 0 ≤ t) (h1 : t < w 72) (hpo : 0 ≤ pol ∧ pol < 3) (hq : Q (zI (aheadM w pol t : Nat)) h) : CALLI E mRS_aheadOf [.ref p, .int (zI pol), .int (zI t)] h Q := by
  refine fRS_aheadOf hp ?_
  have hn := hw.1
  have key : ∀ (j k : Nat), (k : Int) + j = w 72 → WP E mRS_aheadOf 5 [some (.ref p), some (.int (zI pol)), some (.int (zI t)), some (.int (zI (maskK (fun j => decide (w (42 + j) = 1) && precB w pol j t) k : Nat))), some (.int (zI k))] [] h (qI Q) := by
    intro j
    induction j with
    | zero =>
      intro k hk
      refine fRS_aheadOf_5 hp ?_
      simp (disch := omega) only [zI_add, zI_sub, zI_mul, zI_neg, zI_lt, zI_le, zI_eq, zI_div, zI_rem, ix_zI, inb_zI, nz_zI, imax_zI, imin_zI, c_t, nb01.1, nb01.2, zl_0, zl_1, zl_2, zl_3, zl_4, zl_5, zl_6, zl_7, zl_8, zl_9, zl_10, zl_11, zl_12, zl_13, zl_14, zl_15, zl_16, zl_17, zl_18, zl_19, zl_20, zl_24, zl_30, zl_31, zl_36, zl_42, zl_44, zl_48, zl_57, zl_58, zl_59, zl_60, zl_61, zl_62, zl_63, zl_64, zl_72, zl_73, zl_96, zl_99, zl_100, zl_104, zl_107, zl_111, zl_114, zl_116, zl_120, zl_200, zl_255, zl_256, zl_360, zl_600, zl_800, zl_1000, zl_2000, hd.n]
      refine ⟨fun _ => ?_, fun z => absurd (by omega) z⟩
      unfold aheadM at hq
      rw [show (w 72).toNat = k by omega] at hq
      exact hq
    | succ j ih =>
      intro k hk
      refine fRS_aheadOf_5 hp ?_
      have lt : maskK (fun j => decide (w (42 + j) = 1) && precB w pol j t) k < 64 := mask64 (by omega)
      have ih' := ih (k + 1) (by omega)
      unfold maskK at ih'
      have e1 : ((k + 1 : Nat) : Int) = (k : Int) + 1 := by omega
      rw [e1] at ih'
      simp (disch := omega) only [zI_add, zI_sub, zI_mul, zI_neg, zI_lt, zI_le, zI_eq, zI_div, zI_rem, ix_zI, inb_zI, nz_zI, imax_zI, imin_zI, c_t, nb01.1, nb01.2, zl_0, zl_1, zl_2, zl_3, zl_4, zl_5, zl_6, zl_7, zl_8, zl_9, zl_10, zl_11, zl_12, zl_13, zl_14, zl_15, zl_16, zl_17, zl_18, zl_19, zl_20, zl_24, zl_30, zl_31, zl_36, zl_42, zl_44, zl_48, zl_57, zl_58, zl_59, zl_60, zl_61, zl_62, zl_63, zl_64, zl_72, zl_73, zl_96, zl_99, zl_100, zl_104, zl_107, zl_111, zl_114, zl_116, zl_120, zl_200, zl_255, zl_256, zl_360, zl_600, zl_800, zl_1000, zl_2000, hd.n]
      refine ⟨fun z => by omega, fun _ => sD_isOn hp hd hw (by omega) ?_⟩
      by_cases hon : w (42 + (k : Int)) = 1
      · rw [if_pos ⟨by omega, by omega, hon⟩]
        simp (disch := omega) only [zI_add, zI_sub, zI_mul, zI_neg, zI_lt, zI_le, zI_eq, zI_div, zI_rem, ix_zI, inb_zI, nz_zI, imax_zI, imin_zI, c_t, nb01.1, nb01.2, zl_0, zl_1, zl_2, zl_3, zl_4, zl_5, zl_6, zl_7, zl_8, zl_9, zl_10, zl_11, zl_12, zl_13, zl_14, zl_15, zl_16, zl_17, zl_18, zl_19, zl_20, zl_24, zl_30, zl_31, zl_36, zl_42, zl_44, zl_48, zl_57, zl_58, zl_59, zl_60, zl_61, zl_62, zl_63, zl_64, zl_72, zl_73, zl_96, zl_99, zl_100, zl_104, zl_107, zl_111, zl_114, zl_116, zl_120, zl_200, zl_255, zl_256, zl_360, zl_600, zl_800, zl_1000, zl_2000]
        refine ⟨fun z => by omega, fun _ => sRS_precedes hp hd hw (by omega) (by omega) h0 h1 hpo ?_⟩
        by_cases c : precB w pol k t = true
        · rw [if_pos (by simp [hon, c])] at ih'
          rw [if_pos c]
          simp (disch := omega) only [zI_add, zI_sub, zI_mul, zI_neg, zI_lt, zI_le, zI_eq, zI_div, zI_rem, ix_zI, inb_zI, nz_zI, imax_zI, imin_zI, c_t, nb01.1, nb01.2, zl_0, zl_1, zl_2, zl_3, zl_4, zl_5, zl_6, zl_7, zl_8, zl_9, zl_10, zl_11, zl_12, zl_13, zl_14, zl_15, zl_16, zl_17, zl_18, zl_19, zl_20, zl_24, zl_30, zl_31, zl_36, zl_42, zl_44, zl_48, zl_57, zl_58, zl_59, zl_60, zl_61, zl_62, zl_63, zl_64, zl_72, zl_73, zl_96, zl_99, zl_100, zl_104, zl_107, zl_111, zl_114, zl_116, zl_120, zl_200, zl_255, zl_256, zl_360, zl_600, zl_800, zl_1000, zl_2000, or_z]
          exact ⟨fun z => by omega, fun _ => ih'⟩
        · rw [if_neg (by simp [c])] at ih'
          rw [if_neg c]
          simp (disch := omega) only [zI_add, zI_sub, zI_mul, zI_neg, zI_lt, zI_le, zI_eq, zI_div, zI_rem, ix_zI, inb_zI, nz_zI, imax_zI, imin_zI, c_t, nb01.1, nb01.2, zl_0, zl_1, zl_2, zl_3, zl_4, zl_5, zl_6, zl_7, zl_8, zl_9, zl_10, zl_11, zl_12, zl_13, zl_14, zl_15, zl_16, zl_17, zl_18, zl_19, zl_20, zl_24, zl_30, zl_31, zl_36, zl_42, zl_44, zl_48, zl_57, zl_58, zl_59, zl_60, zl_61, zl_62, zl_63, zl_64, zl_72, zl_73, zl_96, zl_99, zl_100, zl_104, zl_107, zl_111, zl_114, zl_116, zl_120, zl_200, zl_255, zl_256, zl_360, zl_600, zl_800, zl_1000, zl_2000]
          exact ⟨fun _ => ih', fun z => absurd trivial z⟩
      · rw [if_neg (by omega)]
        rw [if_neg (by simp [hon])] at ih'
        simp (disch := omega) only [zI_add, zI_sub, zI_mul, zI_neg, zI_lt, zI_le, zI_eq, zI_div, zI_rem, ix_zI, inb_zI, nz_zI, imax_zI, imin_zI, c_t, nb01.1, nb01.2, zl_0, zl_1, zl_2, zl_3, zl_4, zl_5, zl_6, zl_7, zl_8, zl_9, zl_10, zl_11, zl_12, zl_13, zl_14, zl_15, zl_16, zl_17, zl_18, zl_19, zl_20, zl_24, zl_30, zl_31, zl_36, zl_42, zl_44, zl_48, zl_57, zl_58, zl_59, zl_60, zl_61, zl_62, zl_63, zl_64, zl_72, zl_73, zl_96, zl_99, zl_100, zl_104, zl_107, zl_111, zl_114, zl_116, zl_120, zl_200, zl_255, zl_256, zl_360, zl_600, zl_800, zl_1000, zl_2000]
        exact ⟨fun _ => ih', fun z => absurd trivial z⟩
  exact key (w 72).toNat 0 (by omega)
theorem sRS_behind {Q : Int32 → Mem → Prop} {t : Int} {a : Nat} (hp : isP p) (hd : DW h p w) (hw : WF w) (h0 : 0 ≤ t) (h1 : t < w 72) (ha : a < 64) (hq : Q (zI (behM w a t : Nat)) h) : CALLI E mRS_behind [.ref p, .int (zI t), .int (zI a)] h Q := by
  refine fRS_behind hp ?_
  have hn := hw.1
  have lt := onM_lt hw
  have p6 : 2 ^ t.toNat < 64 := pow6 (by omega)
  rw [hd.on]
  simp (disch := omega) only [zl_0, zl_1, zl_2, zl_3, zl_4, zl_5, zl_6, zl_7, zl_8, zl_9, zl_10, zl_11, zl_12, zl_13, zl_14, zl_15, zl_16, zl_17, zl_18, zl_19, zl_20, zl_24, zl_30, zl_31, zl_36, zl_42, zl_44, zl_48, zl_57, zl_58, zl_59, zl_60, zl_61, zl_62, zl_63, zl_64, zl_72, zl_73, zl_96, zl_99, zl_100, zl_104, zl_107, zl_111, zl_114, zl_116, zl_120, zl_200, zl_255, zl_256, zl_360, zl_600, zl_800, zl_1000, zl_2000, zI_neg, shl_z]
  rw [not_k _ lt _ ha, not_k _ (and64 lt) _ p6]
  exact hq
theorem sRS_longestHold {Q : Int32 → Mem → Prop} {m : Nat} {l : Int} (hp : isP p) (hd : DW h p w) (hw : WF w) (hm : m < 64) (l0 : 0 ≤ l) (l1 : l < 4) (hq : Q (zI (mxK w m l 0 (w 72).toNat)) h) : CALLI E mRS_longestHold [.ref p, .int (zI m), .int (zI l)] h Q := by
  refine fRS_longestHold hp ?_
  have hn := hw.1
  have key : ∀ (j k : Nat), (k : Int) + j = w 72 → WP E mRS_longestHold 5 [some (.ref p), some (.int (zI m)), some (.int (zI l)), some (.int (zI (mxK w m l 0 k))), some (.int (zI k))] [] h (qI Q) := by
    intro j
    induction j with
    | zero =>
      intro k hk
      refine fRS_longestHold_5 hp ?_
      simp (disch := omega) only [zI_add, zI_sub, zI_mul, zI_neg, zI_lt, zI_le, zI_eq, zI_div, zI_rem, ix_zI, inb_zI, nz_zI, imax_zI, imin_zI, c_t, nb01.1, nb01.2, zl_0, zl_1, zl_2, zl_3, zl_4, zl_5, zl_6, zl_7, zl_8, zl_9, zl_10, zl_11, zl_12, zl_13, zl_14, zl_15, zl_16, zl_17, zl_18, zl_19, zl_20, zl_24, zl_30, zl_31, zl_36, zl_42, zl_44, zl_48, zl_57, zl_58, zl_59, zl_60, zl_61, zl_62, zl_63, zl_64, zl_72, zl_73, zl_96, zl_99, zl_100, zl_104, zl_107, zl_111, zl_114, zl_116, zl_120, zl_200, zl_255, zl_256, zl_360, zl_600, zl_800, zl_1000, zl_2000, hd.n]
      refine ⟨fun _ => ?_, fun z => absurd (by omega) z⟩
      rw [show (w 72).toNat = k by omega] at hq
      exact hq
    | succ j ih =>
      intro k hk
      refine fRS_longestHold_5 hp ?_
      have ih' := ih (k + 1) (by omega)
      unfold mxK at ih'
      have e1 : ((k + 1 : Nat) : Int) = (k : Int) + 1 := by omega
      rw [e1] at ih'
      have mb := mxK_b hw (b := m) l0 l1 (s := 0) (by omega) k (by omega)
      have hb := hld_b hw (i := k) (by omega) (by omega) l0 l1
      have h8 := hd.r8 (i := (k : Int)) (by omega) (by omega) l0 l1
      have h8' : h (p + 8) ((k : Int) * 4 + l).toNat = zI (hld w k l) := h8
      simp (disch := omega) only [zI_add, zI_sub, zI_mul, zI_neg, zI_lt, zI_le, zI_eq, zI_div, zI_rem, ix_zI, inb_zI, nz_zI, imax_zI, imin_zI, c_t, nb01.1, nb01.2, zl_0, zl_1, zl_2, zl_3, zl_4, zl_5, zl_6, zl_7, zl_8, zl_9, zl_10, zl_11, zl_12, zl_13, zl_14, zl_15, zl_16, zl_17, zl_18, zl_19, zl_20, zl_24, zl_30, zl_31, zl_36, zl_42, zl_44, zl_48, zl_57, zl_58, zl_59, zl_60, zl_61, zl_62, zl_63, zl_64, zl_72, zl_73, zl_96, zl_99, zl_100, zl_104, zl_107, zl_111, zl_114, zl_116, zl_120, zl_200, zl_255, zl_256, zl_360, zl_600, zl_800, zl_1000, zl_2000, hd.n, bit_z, h8']
      refine ⟨fun z => by omega, fun _ => ⟨fun z => ?_, fun z => ?_⟩⟩
      · rw [if_neg (by rw [Int.toNat_natCast] at z; rw [z]; exact Bool.false_ne_true)] at ih'
        exact ih'
      · rw [if_pos (by rw [Int.toNat_natCast] at z; simpa using z)] at ih'
        exact ih'
  exact key (w 72).toNat 0 (by omega)
theorem sRS_blockingAt {Q : Int32 → Mem → Prop} {up bh : Nat} (hp : isP p) (hd : DW h p w) (hw : WF w) (hu : up < 64) (hb : bh < 64) (hq : Q (zI (blk w up bh)) h) : CALLI E mRS_blockingAt [.ref p, .int (zI up), .int (zI bh)] h Q := by
  refine fRS_blockingAt hp ?_
  have hn := hw.1
  have hn2 := hw.n
  have key : ∀ (j l : Nat), l + j = 4 → WP E mRS_blockingAt 5 [some (.ref p), some (.int (zI up)), some (.int (zI bh)), some (.int (zI (blkL w up bh l))), some (.int (zI l))] [] h (qI Q) := by
    intro j
    induction j with
    | zero =>
      intro l hl
      have : l = 4 := by omega
      subst this
      refine fRS_blockingAt_5 hp ?_
      simp (disch := omega) only [zI_add, zI_sub, zI_mul, zI_neg, zI_lt, zI_le, zI_eq, zI_div, zI_rem, ix_zI, inb_zI, nz_zI, imax_zI, imin_zI, c_t, nb01.1, nb01.2, zl_0, zl_1, zl_2, zl_3, zl_4, zl_5, zl_6, zl_7, zl_8, zl_9, zl_10, zl_11, zl_12, zl_13, zl_14, zl_15, zl_16, zl_17, zl_18, zl_19, zl_20, zl_24, zl_30, zl_31, zl_36, zl_42, zl_44, zl_48, zl_57, zl_58, zl_59, zl_60, zl_61, zl_62, zl_63, zl_64, zl_72, zl_73, zl_96, zl_99, zl_100, zl_104, zl_107, zl_111, zl_114, zl_116, zl_120, zl_200, zl_255, zl_256, zl_360, zl_600, zl_800, zl_1000, zl_2000]
      exact ⟨fun _ => hq, fun z => absurd (by omega) z⟩
    | succ j ih =>
      intro l hl
      have ih' := ih (l + 1) (by omega)
      have e1 : ((l + 1 : Nat) : Int) = (l : Int) + 1 := by omega
      rw [e1] at ih'
      have bb := blkL_b hw (up := up) (bh := bh) l (by omega)
      have m1 := mxK_b hw (b := up) (l := l) (by omega) (by omega) (s := 0) (by omega) (w 72).toNat (by omega)
      have m2 := mxK_b hw (b := bh) (l := l) (by omega) (by omega) (s := 0) (by omega) (w 72).toNat (by omega)
      unfold blkL at ih'
      refine fRS_blockingAt_5 hp ?_
      simp (disch := omega) only [zI_add, zI_sub, zI_mul, zI_neg, zI_lt, zI_le, zI_eq, zI_div, zI_rem, ix_zI, inb_zI, nz_zI, imax_zI, imin_zI, c_t, nb01.1, nb01.2, zl_0, zl_1, zl_2, zl_3, zl_4, zl_5, zl_6, zl_7, zl_8, zl_9, zl_10, zl_11, zl_12, zl_13, zl_14, zl_15, zl_16, zl_17, zl_18, zl_19, zl_20, zl_24, zl_30, zl_31, zl_36, zl_42, zl_44, zl_48, zl_57, zl_58, zl_59, zl_60, zl_61, zl_62, zl_63, zl_64, zl_72, zl_73, zl_96, zl_99, zl_100, zl_104, zl_107, zl_111, zl_114, zl_116, zl_120, zl_200, zl_255, zl_256, zl_360, zl_600, zl_800, zl_1000, zl_2000]
      refine ⟨fun z => by omega, fun _ => sRS_longestHold hp hd hw hu (by omega) (by omega) ?_⟩
      simp (disch := omega) only [zI_add, zI_sub, zI_mul, zI_neg, zI_lt, zI_le, zI_eq, zI_div, zI_rem, ix_zI, inb_zI, nz_zI, imax_zI, imin_zI, c_t, nb01.1, nb01.2, zl_0, zl_1, zl_2, zl_3, zl_4, zl_5, zl_6, zl_7, zl_8, zl_9, zl_10, zl_11, zl_12, zl_13, zl_14, zl_15, zl_16, zl_17, zl_18, zl_19, zl_20, zl_24, zl_30, zl_31, zl_36, zl_42, zl_44, zl_48, zl_57, zl_58, zl_59, zl_60, zl_61, zl_62, zl_63, zl_64, zl_72, zl_73, zl_96, zl_99, zl_100, zl_104, zl_107, zl_111, zl_114, zl_116, zl_120, zl_200, zl_255, zl_256, zl_360, zl_600, zl_800, zl_1000, zl_2000]
      refine ⟨fun z => ?_, fun z => sRS_longestHold hp hd hw hb (by omega) (by omega) ?_⟩
      · rw [if_neg (by omega)] at ih'; exact ih'
      · rw [if_pos (by omega), mxK_s bb.1] at ih'
        simp (disch := omega) only [zI_add, zI_sub, zI_mul, zI_neg, zI_lt, zI_le, zI_eq, zI_div, zI_rem, ix_zI, inb_zI, nz_zI, imax_zI, imin_zI, c_t, nb01.1, nb01.2, zl_0, zl_1, zl_2, zl_3, zl_4, zl_5, zl_6, zl_7, zl_8, zl_9, zl_10, zl_11, zl_12, zl_13, zl_14, zl_15, zl_16, zl_17, zl_18, zl_19, zl_20, zl_24, zl_30, zl_31, zl_36, zl_42, zl_44, zl_48, zl_57, zl_58, zl_59, zl_60, zl_61, zl_62, zl_63, zl_64, zl_72, zl_73, zl_96, zl_99, zl_100, zl_104, zl_107, zl_111, zl_114, zl_116, zl_120, zl_200, zl_255, zl_256, zl_360, zl_600, zl_800, zl_1000, zl_2000]
        exact ih'
  exact key 4 0 (by omega)
theorem sRS_settle {Q : Int32 → Mem → Prop} {t : Int} {a b : Nat} (hr : r = 44 ∨ r = 46) (hp : isP p) (hd : DW h p w) (hw : WF w) (h0 : 0 ≤ t) (h1 : t < w 72) (ha : a < 64) (hb : b < 64) (hq : ∀ h', Off rs h h' → h' r 0 = zI (rnds w t a b) → Q (zI (resp w t a b)) h') : CALLI E mRS_settle [.ref r, .ref p, .int (zI t), .int (zI a), .int (zI b)] h Q := by
  refine fRS_settle hr hp ?_
  have hn := hw.1
  have hrs : rs r := hr
  have ob := own1_b hw h0 h1 a b
  have up64 : a ||| 2 ^ t.toNat < 64 := or64 ha (pow6 (by omega))
  simp (disch := omega) only [zI_add, zI_sub, zI_mul, zI_neg, zI_lt, zI_le, zI_eq, zI_div, zI_rem, ix_zI, inb_zI, nz_zI, imax_zI, imin_zI, c_t, nb01.1, nb01.2, zl_0, zl_1, zl_2, zl_3, zl_4, zl_5, zl_6, zl_7, zl_8, zl_9, zl_10, zl_11, zl_12, zl_13, zl_14, zl_15, zl_16, zl_17, zl_18, zl_19, zl_20, zl_24, zl_30, zl_31, zl_36, zl_42, zl_44, zl_48, zl_57, zl_58, zl_59, zl_60, zl_61, zl_62, zl_63, zl_64, zl_72, zl_73, zl_96, zl_99, zl_100, zl_104, zl_107, zl_111, zl_114, zl_116, zl_120, zl_200, zl_255, zl_256, zl_360, zl_600, zl_800, zl_1000, zl_2000, or_z]
  refine sD_asked hp hd hw h0 h1 (by omega) (sRS_blockingAt hp hd hw up64 hb ?_)
  simp (disch := omega) only [zI_add, zI_sub, zI_mul, zI_neg, zI_lt, zI_le, zI_eq, zI_div, zI_rem, ix_zI, inb_zI, nz_zI, imax_zI, imin_zI, c_t, nb01.1, nb01.2, zl_0, zl_1, zl_2, zl_3, zl_4, zl_5, zl_6, zl_7, zl_8, zl_9, zl_10, zl_11, zl_12, zl_13, zl_14, zl_15, zl_16, zl_17, zl_18, zl_19, zl_20, zl_24, zl_30, zl_31, zl_36, zl_42, zl_44, zl_48, zl_57, zl_58, zl_59, zl_60, zl_61, zl_62, zl_63, zl_64, zl_72, zl_73, zl_96, zl_99, zl_100, zl_104, zl_107, zl_111, zl_114, zl_116, zl_120, zl_200, zl_255, zl_256, zl_360, zl_600, zl_800, zl_1000, zl_2000, hd.r1]
  have eo : w t * asked w t 1 + blk w (a ||| 2 ^ t.toNat) b = own1 w t a b := rfl
  rw [eo]
  have key : ∀ (f : Nat) (x c s : Int) (h1 : Mem), Off rs h h1 → h1 r 0 = zI c → 0 ≤ s → s ≤ x → x < 100000000 → x ≤ own1 w t a b + asksM w a x → 601 - x ≤ f →
      (∀ h', Off rs h h' → h' r 0 = zI (steps (fun x => own1 w t a b + asksM w a x) f x c) → Q (zI (settle (fun x => own1 w t a b + asksM w a x) f x)) h') →
      WP E mRS_settle 39 [some (.ref r), some (.ref p), none, some (.int (zI a)), none, some (.int (zI (own1 w t a b))), some (.int (zI x)), some (.int (zI s)), none] [] h1 (qI Q) := by
    intro f
    induction f with
    | zero =>
      intro x c s h1 hk hc s0 s1 x1 x2 x3 hq
      refine fRS_settle_39 hr hp ?_
      simp (disch := omega) only [zI_add, zI_sub, zI_mul, zI_neg, zI_lt, zI_le, zI_eq, zI_div, zI_rem, ix_zI, inb_zI, nz_zI, imax_zI, imin_zI, c_t, nb01.1, nb01.2, zl_0, zl_1, zl_2, zl_3, zl_4, zl_5, zl_6, zl_7, zl_8, zl_9, zl_10, zl_11, zl_12, zl_13, zl_14, zl_15, zl_16, zl_17, zl_18, zl_19, zl_20, zl_24, zl_30, zl_31, zl_36, zl_42, zl_44, zl_48, zl_57, zl_58, zl_59, zl_60, zl_61, zl_62, zl_63, zl_64, zl_72, zl_73, zl_96, zl_99, zl_100, zl_104, zl_107, zl_111, zl_114, zl_116, zl_120, zl_200, zl_255, zl_256, zl_360, zl_600, zl_800, zl_1000, zl_2000]
      exact ⟨fun _ => hq h1 hk hc, fun _ => ⟨fun _ => hq h1 hk hc, fun z => absurd (by omega) z⟩⟩
    | succ f ih =>
      intro x c s h1 hk hc s0 s1 x1 x2 x3 hq
      refine fRS_settle_39 hr hp ?_
      unfold settle steps at hq
      by_cases hb : 600 < x
      · rw [if_pos hb] at hq
        rw [if_pos hb] at hq
        simp (disch := omega) only [zI_add, zI_sub, zI_mul, zI_neg, zI_lt, zI_le, zI_eq, zI_div, zI_rem, ix_zI, inb_zI, nz_zI, imax_zI, imin_zI, c_t, nb01.1, nb01.2, zl_0, zl_1, zl_2, zl_3, zl_4, zl_5, zl_6, zl_7, zl_8, zl_9, zl_10, zl_11, zl_12, zl_13, zl_14, zl_15, zl_16, zl_17, zl_18, zl_19, zl_20, zl_24, zl_30, zl_31, zl_36, zl_42, zl_44, zl_48, zl_57, zl_58, zl_59, zl_60, zl_61, zl_62, zl_63, zl_64, zl_72, zl_73, zl_96, zl_99, zl_100, zl_104, zl_107, zl_111, zl_114, zl_116, zl_120, zl_200, zl_255, zl_256, zl_360, zl_600, zl_800, zl_1000, zl_2000]
        exact ⟨fun _ => hq h1 hk hc, fun _ => ⟨fun _ => hq h1 hk hc, fun z => absurd hb z⟩⟩
      · rw [if_neg hb] at hq
        rw [if_neg hb] at hq
        have hd1 : DW h1 p w := hd.rs hp hk
        have ab := asksM_b hw a (t := x) (by omega)
        simp (disch := omega) only [zI_add, zI_sub, zI_mul, zI_neg, zI_lt, zI_le, zI_eq, zI_div, zI_rem, ix_zI, inb_zI, nz_zI, imax_zI, imin_zI, c_t, nb01.1, nb01.2, zl_0, zl_1, zl_2, zl_3, zl_4, zl_5, zl_6, zl_7, zl_8, zl_9, zl_10, zl_11, zl_12, zl_13, zl_14, zl_15, zl_16, zl_17, zl_18, zl_19, zl_20, zl_24, zl_30, zl_31, zl_36, zl_42, zl_44, zl_48, zl_57, zl_58, zl_59, zl_60, zl_61, zl_62, zl_63, zl_64, zl_72, zl_73, zl_96, zl_99, zl_100, zl_104, zl_107, zl_111, zl_114, zl_116, zl_120, zl_200, zl_255, zl_256, zl_360, zl_600, zl_800, zl_1000, zl_2000]
        refine ⟨fun z => by omega, fun _ => ⟨fun z => absurd z hb, fun _ => sD_work hp hd1 hw ha (by omega) ?_⟩⟩
        rw [hc]
        simp (disch := omega) only [zI_add, zI_sub, zI_mul, zI_neg, zI_lt, zI_le, zI_eq, zI_div, zI_rem, ix_zI, inb_zI, nz_zI, imax_zI, imin_zI, c_t, nb01.1, nb01.2, zl_0, zl_1, zl_2, zl_3, zl_4, zl_5, zl_6, zl_7, zl_8, zl_9, zl_10, zl_11, zl_12, zl_13, zl_14, zl_15, zl_16, zl_17, zl_18, zl_19, zl_20, zl_24, zl_30, zl_31, zl_36, zl_42, zl_44, zl_48, zl_57, zl_58, zl_59, zl_60, zl_61, zl_62, zl_63, zl_64, zl_72, zl_73, zl_96, zl_99, zl_100, zl_104, zl_107, zl_111, zl_114, zl_116, zl_120, zl_200, zl_255, zl_256, zl_360, zl_600, zl_800, zl_1000, zl_2000]
        refine ⟨fun z => ?_, fun z => ?_⟩
        · rw [if_neg z] at hq
          rw [if_neg z] at hq
          exact ih _ (c + 1) (s + 1) _ (Off.up hrs hk) u_s (by omega) (by omega) (by omega) (respA_mono hw _ a (by omega) x2) (by omega) hq
        · rw [if_pos z] at hq
          rw [if_pos z] at hq
          exact hq h1 hk hc
  have a0 := asksM_b hw a (t := own1 w t a b) ob.1
  exact key 700 _ 1 0 _ (Off.up hrs Off.rf) u_s (by omega) ob.1 (by omega) (by omega) (by omega) hq
theorem sRS_settleBy {Q : Int32 → Mem → Prop} {t pol : Int} (hr : r = 44 ∨ r = 46) (hp : isP p) (hd : DW h p w) (hw : WF w) (h0 : 0 ≤ t) (h1 : t < w 72) (hpo : 0 ≤ pol ∧ pol < 3)
    (hq : ∀ h', Off rs h h' → h' r 0 = zI (rnds w t (aheadM w pol t) (behM w (aheadM w pol t) t)) → Q (zI (resp w t (aheadM w pol t) (behM w (aheadM w pol t) t))) h') : CALLI E mRS_settleBy [.ref r, .ref p, .int (zI pol), .int (zI t)] h Q :=
  fRS_settleBy hr hp (sRS_aheadOf hp hd hw h0 h1 hpo (sRS_behind hp hd hw h0 h1 (aheadM_lt hw) (sRS_settle hr hp hd hw h0 h1 (aheadM_lt hw) (behM_lt hw) fun h' ho hrn => hq h' ho hrn)))
theorem sRS_blockingBy {Q : Int32 → Mem → Prop} {t pol : Int} (hp : isP p) (hd : DW h p w) (hw : WF w) (h0 : 0 ≤ t) (h1 : t < w 72) (hpo : 0 ≤ pol ∧ pol < 3)
    (hq : Q (zI (blk w (aheadM w pol t ||| 2 ^ t.toNat) (behM w (aheadM w pol t) t))) h) : CALLI E mRS_blockingBy [.ref p, .int (zI pol), .int (zI t)] h Q := by
  refine fRS_blockingBy hp (sRS_aheadOf hp hd hw h0 h1 hpo (sRS_behind hp hd hw h0 h1 (aheadM_lt hw) ?_))
  have hn := hw.1
  have al := aheadM_lt hw (pol := pol) (i := t)
  simp (disch := omega) only [zl_0, zl_1, zl_2, zl_3, zl_4, zl_5, zl_6, zl_7, zl_8, zl_9, zl_10, zl_11, zl_12, zl_13, zl_14, zl_15, zl_16, zl_17, zl_18, zl_19, zl_20, zl_24, zl_30, zl_31, zl_36, zl_42, zl_44, zl_48, zl_57, zl_58, zl_59, zl_60, zl_61, zl_62, zl_63, zl_64, zl_72, zl_73, zl_96, zl_99, zl_100, zl_104, zl_107, zl_111, zl_114, zl_116, zl_120, zl_200, zl_255, zl_256, zl_360, zl_600, zl_800, zl_1000, zl_2000, or_z]
  exact sRS_blockingAt hp hd hw (or64 (aheadM_lt hw) (pow6 (by omega))) (behM_lt hw) hq
theorem sRS_isSoon {Q : Int32 → Mem → Prop} {t : Int} {a b : Nat} (hp : isP p) (hd : DW h p w) (hw : WF w) (h0 : 0 ≤ t) (h1 : t < w 72) (hq : Q (if fitB w t a b then 1 else 0) h) : CALLI E mRS_isSoonEnough [.ref p, .int (zI t), .int (zI (resp w t a b))] h Q := by
  refine fRS_isSoonEnough hp ?_
  have hn := hw.1
  have rb := resp_b hw h0 h1 a b
  have l1 := lat_b hw h0 h1
  have l2 := lim_b hw h0 h1
  unfold fitB at hq
  simp (disch := omega) only [zI_add, zI_sub, zI_mul, zI_neg, zI_lt, zI_le, zI_eq, zI_div, zI_rem, ix_zI, inb_zI, nz_zI, imax_zI, imin_zI, c_t, nb01.1, nb01.2, zl_0, zl_1, zl_2, zl_3, zl_4, zl_5, zl_6, zl_7, zl_8, zl_9, zl_10, zl_11, zl_12, zl_13, zl_14, zl_15, zl_16, zl_17, zl_18, zl_19, zl_20, zl_24, zl_30, zl_31, zl_36, zl_42, zl_44, zl_48, zl_57, zl_58, zl_59, zl_60, zl_61, zl_62, zl_63, zl_64, zl_72, zl_73, zl_96, zl_99, zl_100, zl_104, zl_107, zl_111, zl_114, zl_116, zl_120, zl_200, zl_255, zl_256, zl_360, zl_600, zl_800, zl_1000, zl_2000, hd.r10, hd.r11]
  refine ⟨fun z => ?_, fun z => ⟨fun z2 => ?_, fun z2 => ?_⟩⟩
  · rw [if_neg (by simp; omega)] at hq; exact hq
  · rw [if_neg (by simp; omega)] at hq; exact hq
  · rw [if_pos (by simp; omega)] at hq; exact hq
theorem sRS_fitting {Q : Int32 → Mem → Prop} {pol : Int} (hr : r = 44 ∨ r = 46) (hp : isP p) (hd : DW h p w) (hw : WF w) (hpo : 0 ≤ pol ∧ pol < 3) (hq : ∀ h', Off rs h h' → Q (zI (fitsM w pol : Nat)) h') : CALLI E mRS_fitting [.ref r, .ref p, .int (zI pol)] h Q := by
  refine fRS_fitting hr hp ?_
  have hn := hw.1
  have key : ∀ (j k : Nat) (h1 : Mem), Off rs h h1 → (k : Int) + j = w 72 → WP E mRS_fitting 5 [some (.ref r), some (.ref p), some (.int (zI pol)), some (.int (zI (maskK (fun t => decide (w (42 + t) = 1) && fitB w t (aheadM w pol t) (behM w (aheadM w pol t) t)) k : Nat))), some (.int (zI k)), none, none] [] h1 (qI Q) := by
    intro j
    induction j with
    | zero =>
      intro k h1 hk1 hk
      have hd1 : DW h1 p w := hd.rs hp hk1
      refine fRS_fitting_5 hr hp ?_
      simp (disch := omega) only [zI_add, zI_sub, zI_mul, zI_neg, zI_lt, zI_le, zI_eq, zI_div, zI_rem, ix_zI, inb_zI, nz_zI, imax_zI, imin_zI, c_t, nb01.1, nb01.2, zl_0, zl_1, zl_2, zl_3, zl_4, zl_5, zl_6, zl_7, zl_8, zl_9, zl_10, zl_11, zl_12, zl_13, zl_14, zl_15, zl_16, zl_17, zl_18, zl_19, zl_20, zl_24, zl_30, zl_31, zl_36, zl_42, zl_44, zl_48, zl_57, zl_58, zl_59, zl_60, zl_61, zl_62, zl_63, zl_64, zl_72, zl_73, zl_96, zl_99, zl_100, zl_104, zl_107, zl_111, zl_114, zl_116, zl_120, zl_200, zl_255, zl_256, zl_360, zl_600, zl_800, zl_1000, zl_2000, hd1.n]
      refine ⟨fun _ => ?_, fun z => absurd (by omega) z⟩
      have hf := hq h1 hk1
      unfold fitsM at hf
      rw [show (w 72).toNat = k by omega] at hf
      exact hf
    | succ j ih =>
      intro k h1 hk1 hk
      have hd1 : DW h1 p w := hd.rs hp hk1
      refine fRS_fitting_5 hr hp ?_
      have lt : maskK (fun t => decide (w (42 + t) = 1) && fitB w t (aheadM w pol t) (behM w (aheadM w pol t) t)) k < 64 := mask64 (by omega)
      have ih' := fun h2 hk2 => ih (k + 1) h2 hk2 (by omega)
      unfold maskK at ih'
      have e1 : ((k + 1 : Nat) : Int) = (k : Int) + 1 := by omega
      rw [e1] at ih'
      simp (disch := omega) only [zI_add, zI_sub, zI_mul, zI_neg, zI_lt, zI_le, zI_eq, zI_div, zI_rem, ix_zI, inb_zI, nz_zI, imax_zI, imin_zI, c_t, nb01.1, nb01.2, zl_0, zl_1, zl_2, zl_3, zl_4, zl_5, zl_6, zl_7, zl_8, zl_9, zl_10, zl_11, zl_12, zl_13, zl_14, zl_15, zl_16, zl_17, zl_18, zl_19, zl_20, zl_24, zl_30, zl_31, zl_36, zl_42, zl_44, zl_48, zl_57, zl_58, zl_59, zl_60, zl_61, zl_62, zl_63, zl_64, zl_72, zl_73, zl_96, zl_99, zl_100, zl_104, zl_107, zl_111, zl_114, zl_116, zl_120, zl_200, zl_255, zl_256, zl_360, zl_600, zl_800, zl_1000, zl_2000, hd1.n]
      refine ⟨fun z => by omega, fun z => sD_isOn hp hd1 hw (by omega) ?_⟩
      by_cases hon : w (42 + (k : Int)) = 1
      · rw [if_pos ⟨by omega, by omega, hon⟩]
        simp (disch := omega) only [zI_add, zI_sub, zI_mul, zI_neg, zI_lt, zI_le, zI_eq, zI_div, zI_rem, ix_zI, inb_zI, nz_zI, imax_zI, imin_zI, c_t, nb01.1, nb01.2, zl_0, zl_1, zl_2, zl_3, zl_4, zl_5, zl_6, zl_7, zl_8, zl_9, zl_10, zl_11, zl_12, zl_13, zl_14, zl_15, zl_16, zl_17, zl_18, zl_19, zl_20, zl_24, zl_30, zl_31, zl_36, zl_42, zl_44, zl_48, zl_57, zl_58, zl_59, zl_60, zl_61, zl_62, zl_63, zl_64, zl_72, zl_73, zl_96, zl_99, zl_100, zl_104, zl_107, zl_111, zl_114, zl_116, zl_120, zl_200, zl_255, zl_256, zl_360, zl_600, zl_800, zl_1000, zl_2000]
        refine ⟨fun _ => sRS_aheadOf hp hd1 hw (by omega) (by omega) hpo (sRS_behind hp hd1 hw (by omega) (by omega) (aheadM_lt hw) (sRS_settle hr hp hd1 hw (by omega) (by omega) (aheadM_lt hw) (behM_lt hw) fun h2 hk2 _ => ?_)), fun z => by omega⟩
        have hd2 : DW h2 p w := hd1.rs hp hk2
        refine sRS_isSoon hp hd2 hw (by omega) (by omega) ?_
        have ih2 := ih' h2 (hk1.tr hk2)
        by_cases c : fitB w k (aheadM w pol k) (behM w (aheadM w pol k) k) = true
        · rw [if_pos (by simp [hon, c])] at ih2
          rw [if_pos c]
          simp (disch := omega) only [zI_add, zI_sub, zI_mul, zI_neg, zI_lt, zI_le, zI_eq, zI_div, zI_rem, ix_zI, inb_zI, nz_zI, imax_zI, imin_zI, c_t, nb01.1, nb01.2, zl_0, zl_1, zl_2, zl_3, zl_4, zl_5, zl_6, zl_7, zl_8, zl_9, zl_10, zl_11, zl_12, zl_13, zl_14, zl_15, zl_16, zl_17, zl_18, zl_19, zl_20, zl_24, zl_30, zl_31, zl_36, zl_42, zl_44, zl_48, zl_57, zl_58, zl_59, zl_60, zl_61, zl_62, zl_63, zl_64, zl_72, zl_73, zl_96, zl_99, zl_100, zl_104, zl_107, zl_111, zl_114, zl_116, zl_120, zl_200, zl_255, zl_256, zl_360, zl_600, zl_800, zl_1000, zl_2000, or_z]
          exact ⟨fun z => by omega, fun _ => ih2⟩
        · rw [if_neg (by simp [c])] at ih2
          rw [if_neg c]
          simp (disch := omega) only [zI_add, zI_sub, zI_mul, zI_neg, zI_lt, zI_le, zI_eq, zI_div, zI_rem, ix_zI, inb_zI, nz_zI, imax_zI, imin_zI, c_t, nb01.1, nb01.2, zl_0, zl_1, zl_2, zl_3, zl_4, zl_5, zl_6, zl_7, zl_8, zl_9, zl_10, zl_11, zl_12, zl_13, zl_14, zl_15, zl_16, zl_17, zl_18, zl_19, zl_20, zl_24, zl_30, zl_31, zl_36, zl_42, zl_44, zl_48, zl_57, zl_58, zl_59, zl_60, zl_61, zl_62, zl_63, zl_64, zl_72, zl_73, zl_96, zl_99, zl_100, zl_104, zl_107, zl_111, zl_114, zl_116, zl_120, zl_200, zl_255, zl_256, zl_360, zl_600, zl_800, zl_1000, zl_2000]
          exact ⟨fun _ => ih2, fun z => absurd trivial z⟩
      · rw [if_neg (by omega)]
        have ih2 := ih' h1 hk1
        rw [if_neg (by simp [hon])] at ih2
        simp (disch := omega) only [zI_add, zI_sub, zI_mul, zI_neg, zI_lt, zI_le, zI_eq, zI_div, zI_rem, ix_zI, inb_zI, nz_zI, imax_zI, imin_zI, c_t, nb01.1, nb01.2, zl_0, zl_1, zl_2, zl_3, zl_4, zl_5, zl_6, zl_7, zl_8, zl_9, zl_10, zl_11, zl_12, zl_13, zl_14, zl_15, zl_16, zl_17, zl_18, zl_19, zl_20, zl_24, zl_30, zl_31, zl_36, zl_42, zl_44, zl_48, zl_57, zl_58, zl_59, zl_60, zl_61, zl_62, zl_63, zl_64, zl_72, zl_73, zl_96, zl_99, zl_100, zl_104, zl_107, zl_111, zl_114, zl_116, zl_120, zl_200, zl_255, zl_256, zl_360, zl_600, zl_800, zl_1000, zl_2000]
        exact ⟨fun z => absurd trivial z, fun _ => ih2⟩
  exact key (w 72).toNat 0 h Off.rf (by omega)
end CR
