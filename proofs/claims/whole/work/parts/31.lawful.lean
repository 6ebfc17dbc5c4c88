/-! ===== a lawful order, sought from its end ===== -/
set_option maxRecDepth 100000 in
theorem bc_k : ∀ m, m < 64 → (((((((((zI (m : Nat)) - ((ushr (zI (m : Nat)) 1) &&& 1431655765)) &&& 858993459) + ((ushr ((zI (m : Nat)) - ((ushr (zI (m : Nat)) 1) &&& 1431655765)) 2) &&& 858993459)) + (ushr ((((zI (m : Nat)) - ((ushr (zI (m : Nat)) 1) &&& 1431655765)) &&& 858993459) + ((ushr ((zI (m : Nat)) - ((ushr (zI (m : Nat)) 1) &&& 1431655765)) 2) &&& 858993459)) 4)) &&& 252645135) + (ushr ((((((zI (m : Nat)) - ((ushr (zI (m : Nat)) 1) &&& 1431655765)) &&& 858993459) + ((ushr ((zI (m : Nat)) - ((ushr (zI (m : Nat)) 1) &&& 1431655765)) 2) &&& 858993459)) + (ushr ((((zI (m : Nat)) - ((ushr (zI (m : Nat)) 1) &&& 1431655765)) &&& 858993459) + ((ushr ((zI (m : Nat)) - ((ushr (zI (m : Nat)) 1) &&& 1431655765)) 2) &&& 858993459)) 4)) &&& 252645135) 8)) + (ushr (((((((zI (m : Nat)) - ((ushr (zI (m : Nat)) 1) &&& 1431655765)) &&& 858993459) + ((ushr ((zI (m : Nat)) - ((ushr (zI (m : Nat)) 1) &&& 1431655765)) 2) &&& 858993459)) + (ushr ((((zI (m : Nat)) - ((ushr (zI (m : Nat)) 1) &&& 1431655765)) &&& 858993459) + ((ushr ((zI (m : Nat)) - ((ushr (zI (m : Nat)) 1) &&& 1431655765)) 2) &&& 858993459)) 4)) &&& 252645135) + (ushr ((((((zI (m : Nat)) - ((ushr (zI (m : Nat)) 1) &&& 1431655765)) &&& 858993459) + ((ushr ((zI (m : Nat)) - ((ushr (zI (m : Nat)) 1) &&& 1431655765)) 2) &&& 858993459)) + (ushr ((((zI (m : Nat)) - ((ushr (zI (m : Nat)) 1) &&& 1431655765)) &&& 858993459) + ((ushr ((zI (m : Nat)) - ((ushr (zI (m : Nat)) 1) &&& 1431655765)) 2) &&& 858993459)) 4)) &&& 252645135) 8)) 16)) &&& 63) = zI (pc6 m : Nat) := by decide +kernel
set_option maxRecDepth 100000 in
set_option maxHeartbeats 4000000 in
theorem bm1 : ∀ o, o < 64 → ∀ S, S < 64 → S &&& o = S → o &&& (63 ^^^ (o &&& (63 ^^^ S))) = S := by decide +kernel
set_option maxRecDepth 100000 in
set_option maxHeartbeats 4000000 in
theorem bm2 : ∀ o, o < 64 → ∀ S, S < 64 → S &&& o = S → ∀ t, t < 6 → S.testBit t = true → (o &&& (63 ^^^ S)) ||| 2 ^ t = o &&& (63 ^^^ (S &&& (63 ^^^ 2 ^ t))) := by decide +kernel
set_option maxRecDepth 100000 in
theorem bm3 : ∀ S, S < 64 → ∀ t, t < 6 → S.testBit t = true → S &&& (63 ^^^ 2 ^ t) < S ∧ pc6 (S &&& (63 ^^^ 2 ^ t)) + 1 = pc6 S := by decide +kernel
set_option maxRecDepth 100000 in
theorem bm4 : ∀ S, S < 64 → ∀ t, t < 6 → (S &&& (63 ^^^ 2 ^ t) = S ↔ S.testBit t = false) := by decide +kernel
set_option maxRecDepth 100000 in
set_option maxHeartbeats 4000000 in
theorem bm5 : ∀ o, o < 64 → ∀ S, S < 64 → S &&& o = S → ∀ t, t < 6 → (S &&& (63 ^^^ 2 ^ t)) &&& o = S &&& (63 ^^^ 2 ^ t) := by decide +kernel
set_option maxRecDepth 100000 in
theorem bm6 : ∀ S, S < 64 → (pc6 S = 0 ↔ S = 0) := by decide +kernel
set_option maxRecDepth 100000 in
theorem bm7 : ∀ S, S < 64 → pc6 S ≤ 6 := by decide +kernel
set_option maxRecDepth 100000 in
set_option maxHeartbeats 4000000 in
theorem bm8 : ∀ o, o < 64 → ∀ S, S < 64 → (S &&& (63 ^^^ o) = 0 ↔ S &&& o = S) := by decide +kernel
set_option maxRecDepth 100000 in
set_option maxHeartbeats 4000000 in
theorem bm9 : ∀ o, o < 64 → ∀ S, S < 64 → S &&& o = S → ∀ t, t < 6 → S.testBit t = true → o.testBit t = true := by decide +kernel
set_option maxRecDepth 100000 in
theorem bm10 : ∀ S, S < 64 → S &&& S = S ∧ (S &&& (63 ^^^ S)) = 0 := by decide +kernel
theorem ordL_split {w : Int → Int} {pol : Int} {i : Nat} (hi : i < (ordL w pol).length) : ordL w pol = (ordL w pol).take i ++ (ordL w pol)[i] :: (ordL w pol).drop (i + 1) := by
  have e : (ordL w pol).drop i = (ordL w pol)[i] :: (ordL w pol).drop (i + 1) := List.drop_eq_getElem_cons hi
  rw [← e, List.take_append_drop]
def firstK (P : Nat → Bool) : Nat → Nat → Option Nat
  | 0, _ => none
  | j + 1, k => if P k then some k else firstK P j (k + 1)
def bhd (w : Int → Int) (S : Nat) : Nat := onM w &&& (63 ^^^ S)
def lessT (S t : Nat) : Nat := S &&& (63 ^^^ 2 ^ t)
def nT (w : Int → Int) : Nat := (w 72).toNat
def canF (w : Int → Int) : Nat → Nat → Bool
  | 0, S => Nat.beq S 0
  | f + 1, S => Nat.beq S 0 || (firstK (fun t => S.testBit t && fitB w t (lessT S t) (bhd w S) && canF w f (lessT S t)) (nT w) 0).isSome
def canS (w : Int → Int) (S : Nat) : Bool := canF w (pc6 S) S
def okS (w : Int → Int) (S t : Nat) : Bool := S.testBit t && fitB w t (lessT S t) (bhd w S) && canS w (lessT S t)
def orderF (w : Int → Int) : Nat → Nat → List Int
  | 0, _ => []
  | f + 1, S => match firstK (okS w S) (nT w) 0 with
    | some t => orderF w f (lessT S t) ++ [(t : Int)]
    | none => []
theorem firstK_congr {P P' : Nat → Bool} : ∀ (j k : Nat), (∀ t, k ≤ t → t < k + j → P t = P' t) → firstK P j k = firstK P' j k
  | 0, _, _ => rfl
  | j + 1, k, h => by
    unfold firstK
    rw [h k (Nat.le_refl _) (by omega), firstK_congr j (k + 1) (fun t h1 h2 => h t (by omega) (by omega))]
theorem firstK_some {P : Nat → Bool} : ∀ (j k t : Nat), firstK P j k = some t → k ≤ t ∧ t < k + j ∧ P t = true
  | 0, _, _, h => by cases h
  | j + 1, k, t, h => by
    unfold firstK at h
    split at h
    · injection h with h; subst h; exact ⟨Nat.le_refl _, by omega, by assumption⟩
    · have := firstK_some j (k + 1) t h
      exact ⟨by omega, by omega, this.2.2⟩
theorem canS_eq {w : Int → Int} (hw : WF w) {S : Nat} (hS : S < 64) (h0 : S ≠ 0) : canS w S = (firstK (okS w S) (nT w) 0).isSome := by
  unfold canS
  have hn := hw.n
  obtain ⟨f, hf⟩ : ∃ f, pc6 S = f + 1 := ⟨pc6 S - 1, by have := (bm6 S hS); omega⟩
  rw [hf]
  unfold canF
  have : Nat.beq S 0 = false := by
    cases hb : Nat.beq S 0 with
    | false => rfl
    | true => exact absurd (Nat.eq_of_beq_eq_true hb) h0
  rw [this, Bool.false_or]
  congr 1
  refine firstK_congr _ _ (fun t h1 h2 => ?_)
  unfold okS
  cases hb : S.testBit t with
  | false => simp
  | true =>
    have h3 := bm3 S hS t (by unfold nT at h2; omega) hb
    have : pc6 (lessT S t) = f := by unfold lessT; omega
    unfold canS
    rw [this]
theorem canS_0 {w : Int → Int} : canS w 0 = true := rfl
theorem less_lt {S t : Nat} (hS : S < 64) : lessT S t < 64 := and64 hS
theorem bhd_lt {w : Int → Int} (hw : WF w) {S : Nat} : bhd w S < 64 := and64 (onM_lt hw)
theorem orderF_len {w : Int → Int} (hw : WF w) : ∀ (f S : Nat), S < 64 → pc6 S = f → canS w S = true → (orderF w f S).length = f
  | 0, S, _, _, _ => rfl
  | f + 1, S, hS, hp, hc => by
    have h0 : S ≠ 0 := fun z => by have := (bm6 S hS).mpr z; omega
    rw [canS_eq hw hS h0] at hc
    have hn := hw.n
    unfold orderF
    cases hf : firstK (okS w S) (nT w) 0 with
    | none => rw [hf] at hc; cases hc
    | some t =>
      obtain ⟨t1, t2, t3⟩ := firstK_some _ _ _ hf
      unfold okS at t3
      simp only [Bool.and_eq_true] at t3
      have h3 := bm3 S hS t (by unfold nT at t2; omega) t3.1.1
      simp only
      rw [List.length_append, orderF_len hw f _ (less_lt hS) (by unfold lessT; omega) t3.2]
      rfl
section LA
variable {E : XE} {h : Mem} {w : Int → Int} {p : Nat}
theorem sJ_bitCount {Q : Int32 → Mem → Prop} {m : Nat} (hm : m < 64) (hq : Q (zI (pc6 m : Nat)) h) : CALLI E mJ_bitCount [.int (zI m)] h Q := by
  refine fJ_bitCount ?_
  rw [bc_k m hm]
  exact hq
theorem sRS_taskAt {Q : Int32 → Mem → Prop} {pol i : Int} (hp : isP p) (hd : DW h p w) (hw : WF w) (hpo : 0 ≤ pol ∧ pol < 3) (hi : 0 ≤ i ∧ i < 2147483648) (hq : Q (zI (ordS w pol i)) h) : CALLI E mRS_taskAt [.ref p, .int (zI pol), .int (zI i)] h Q := by
  refine fRS_taskAt hp ?_
  have hn := hw.1
  have key : ∀ (j k : Nat), (k : Int) + j = w 72 → (∀ t : Int, 0 ≤ t → t < k → w (42 + t) = 1 → (pc6 (aheadM w pol t) : Int) ≠ i) → WP E mRS_taskAt 2 [some (.ref p), some (.int (zI pol)), some (.int (zI i)), some (.int (zI k))] [] h (qI Q) := by
    intro j
    induction j with
    | zero =>
      intro k hk hno
      refine fRS_taskAt_2 hp ?_
      simp (disch := omega) only [zI_add, zI_sub, zI_mul, zI_neg, zI_lt, zI_le, zI_eq, zI_div, zI_rem, ix_zI, inb_zI, nz_zI, imax_zI, imin_zI, c_t, nb01.1, nb01.2, zl_0, zl_1, zl_2, zl_3, zl_4, zl_5, zl_6, zl_7, zl_8, zl_9, zl_10, zl_11, zl_12, zl_13, zl_14, zl_15, zl_16, zl_17, zl_18, zl_19, zl_20, zl_24, zl_30, zl_31, zl_36, zl_42, zl_44, zl_48, zl_57, zl_58, zl_59, zl_60, zl_61, zl_62, zl_63, zl_64, zl_72, zl_73, zl_96, zl_99, zl_100, zl_104, zl_107, zl_111, zl_114, zl_116, zl_120, zl_200, zl_255, zl_256, zl_360, zl_600, zl_800, zl_1000, zl_2000, hd.n]
      refine ⟨fun _ => ?_, fun z => absurd (by omega) z⟩
      unfold ordS at hq
      rw [if_neg (fun z => ?_)] at hq
      · exact hq
      · have hlt : i.toNat < (ordL w pol).length := by omega
        have hs := ordL_split hlt
        have hmem := (ordL_mem hw (pol := pol)).mp (List.getElem_mem hlt)
        have := pc_ahead hw hs
        rw [List.length_take, Nat.min_eq_left (by omega)] at this
        exact hno _ hmem.1 (by omega) hmem.2.2 (by omega)
    | succ j ih =>
      intro k hk hno
      refine fRS_taskAt_2 hp ?_
      have hnext := fun hh => ih (k + 1) (by omega) hh
      have e1 : ((k + 1 : Nat) : Int) = (k : Int) + 1 := by omega
      rw [e1] at hnext
      simp (disch := omega) only [zI_add, zI_sub, zI_mul, zI_neg, zI_lt, zI_le, zI_eq, zI_div, zI_rem, ix_zI, inb_zI, nz_zI, imax_zI, imin_zI, c_t, nb01.1, nb01.2, zl_0, zl_1, zl_2, zl_3, zl_4, zl_5, zl_6, zl_7, zl_8, zl_9, zl_10, zl_11, zl_12, zl_13, zl_14, zl_15, zl_16, zl_17, zl_18, zl_19, zl_20, zl_24, zl_30, zl_31, zl_36, zl_42, zl_44, zl_48, zl_57, zl_58, zl_59, zl_60, zl_61, zl_62, zl_63, zl_64, zl_72, zl_73, zl_96, zl_99, zl_100, zl_104, zl_107, zl_111, zl_114, zl_116, zl_120, zl_200, zl_255, zl_256, zl_360, zl_600, zl_800, zl_1000, zl_2000, hd.n]
      refine ⟨fun z => by omega, fun _ => sD_isOn hp hd hw (by omega) ?_⟩
      by_cases hon : w (42 + (k : Int)) = 1
      · rw [if_pos ⟨by omega, by omega, hon⟩]
        simp (disch := omega) only [zI_add, zI_sub, zI_mul, zI_neg, zI_lt, zI_le, zI_eq, zI_div, zI_rem, ix_zI, inb_zI, nz_zI, imax_zI, imin_zI, c_t, nb01.1, nb01.2, zl_0, zl_1, zl_2, zl_3, zl_4, zl_5, zl_6, zl_7, zl_8, zl_9, zl_10, zl_11, zl_12, zl_13, zl_14, zl_15, zl_16, zl_17, zl_18, zl_19, zl_20, zl_24, zl_30, zl_31, zl_36, zl_42, zl_44, zl_48, zl_57, zl_58, zl_59, zl_60, zl_61, zl_62, zl_63, zl_64, zl_72, zl_73, zl_96, zl_99, zl_100, zl_104, zl_107, zl_111, zl_114, zl_116, zl_120, zl_200, zl_255, zl_256, zl_360, zl_600, zl_800, zl_1000, zl_2000]
        refine ⟨fun z => by omega, fun _ => sRS_aheadOf hp hd hw (by omega) (by omega) hpo (sJ_bitCount (aheadM_lt hw) ?_)⟩
        have b7 := bm7 _ (aheadM_lt hw (pol := pol) (i := (k : Int)))
        simp (disch := omega) only [zI_add, zI_sub, zI_mul, zI_neg, zI_lt, zI_le, zI_eq, zI_div, zI_rem, ix_zI, inb_zI, nz_zI, imax_zI, imin_zI, c_t, nb01.1, nb01.2, zl_0, zl_1, zl_2, zl_3, zl_4, zl_5, zl_6, zl_7, zl_8, zl_9, zl_10, zl_11, zl_12, zl_13, zl_14, zl_15, zl_16, zl_17, zl_18, zl_19, zl_20, zl_24, zl_30, zl_31, zl_36, zl_42, zl_44, zl_48, zl_57, zl_58, zl_59, zl_60, zl_61, zl_62, zl_63, zl_64, zl_72, zl_73, zl_96, zl_99, zl_100, zl_104, zl_107, zl_111, zl_114, zl_116, zl_120, zl_200, zl_255, zl_256, zl_360, zl_600, zl_800, zl_1000, zl_2000]
        refine ⟨fun z => hnext (fun t h0 h1 ho => ?_), fun z => ?_⟩
        · by_cases e : t = k
          · rw [e]; exact z
          · exact hno t h0 (by omega) ho
        · obtain ⟨l1, l2, hdec⟩ := List.append_of_mem ((ordL_mem hw (pol := pol)).mpr ⟨by omega, by omega, hon⟩)
          have hpc := pc_ahead hw hdec
          unfold ordS at hq
          rw [if_pos (by rw [hdec]; simp; omega), show i.toNat = l1.length by omega] at hq
          have : (ordL w pol).getD l1.length 0 = k := by rw [hdec]; simp
          rw [this] at hq
          exact hq
      · rw [if_neg (by omega)]
        simp (disch := omega) only [zI_add, zI_sub, zI_mul, zI_neg, zI_lt, zI_le, zI_eq, zI_div, zI_rem, ix_zI, inb_zI, nz_zI, imax_zI, imin_zI, c_t, nb01.1, nb01.2, zl_0, zl_1, zl_2, zl_3, zl_4, zl_5, zl_6, zl_7, zl_8, zl_9, zl_10, zl_11, zl_12, zl_13, zl_14, zl_15, zl_16, zl_17, zl_18, zl_19, zl_20, zl_24, zl_30, zl_31, zl_36, zl_42, zl_44, zl_48, zl_57, zl_58, zl_59, zl_60, zl_61, zl_62, zl_63, zl_64, zl_72, zl_73, zl_96, zl_99, zl_100, zl_104, zl_107, zl_111, zl_114, zl_116, zl_120, zl_200, zl_255, zl_256, zl_360, zl_600, zl_800, zl_1000, zl_2000]
        refine ⟨fun _ => hnext (fun t h0 h1 ho => ?_), fun z => absurd trivial z⟩
        by_cases e : t = k
        · rw [e] at ho; exact absurd ho hon
        · exact hno t h0 (by omega) ho
  exact key (w 72).toNat 0 (by omega) (fun t h0 h1 => by omega)
theorem sRS_ceilingOf {Q : Int32 → Mem → Prop} {pol l : Int} (hp : isP p) (hd : DW h p w) (hw : WF w) (hpo : 0 ≤ pol ∧ pol < 3) (l0 : 0 ≤ l) (l1 : l < 4) (hq : Q (zI (ceilS w pol l)) h) : CALLI E mRS_ceilingOf [.ref p, .int (zI pol), .int (zI l)] h Q := by
  refine fRS_ceilingOf hp ?_
  have hn := hw.1
  have key : ∀ (j k : Nat) (b : Int), (k : Int) + j = w 72 → ((b = -9 ∧ ∀ t : Int, 0 ≤ t → t < k → w (42 + t) = 1 → ¬ 0 < hld w t l) ∨ ((0 ≤ b ∧ b < k ∧ w (42 + b) = 1 ∧ 0 < hld w b l) ∧ ∀ t : Int, 0 ≤ t → t < k → w (42 + t) = 1 → 0 < hld w t l → t = b ∨ prec w pol b t)) →
      WP E mRS_ceilingOf 6 [some (.ref p), some (.int (zI pol)), some (.int (zI l)), some (.int (zI b)), some (.int (zI k))] [] h (qI Q) := by
    intro j
    induction j with
    | zero =>
      intro k b hk hb
      refine fRS_ceilingOf_6 hp ?_
      simp (disch := omega) only [zI_add, zI_sub, zI_mul, zI_neg, zI_lt, zI_le, zI_eq, zI_div, zI_rem, ix_zI, inb_zI, nz_zI, imax_zI, imin_zI, c_t, nb01.1, nb01.2, zl_0, zl_1, zl_2, zl_3, zl_4, zl_5, zl_6, zl_7, zl_8, zl_9, zl_10, zl_11, zl_12, zl_13, zl_14, zl_15, zl_16, zl_17, zl_18, zl_19, zl_20, zl_24, zl_30, zl_31, zl_36, zl_42, zl_44, zl_48, zl_57, zl_58, zl_59, zl_60, zl_61, zl_62, zl_63, zl_64, zl_72, zl_73, zl_96, zl_99, zl_100, zl_104, zl_107, zl_111, zl_114, zl_116, zl_120, zl_200, zl_255, zl_256, zl_360, zl_600, zl_800, zl_1000, zl_2000, hd.n]
      refine ⟨fun _ => ?_, fun z => absurd (by omega) z⟩
      rcases hb with ⟨rfl, hb⟩ | ⟨hb1, hb2⟩
      · rw [ceil_no (fun x hx => by
          have := (ordL_mem hw).mp hx
          exact hb x this.1 (by omega) this.2.2)] at hq
        exact hq
      · rw [ceil_of hw ((ordL_mem hw).mpr ⟨hb1.1, by omega, hb1.2.2.1⟩) hb1.2.2.2 (fun x hx hh => by
          have := (ordL_mem hw).mp hx
          exact hb2 x this.1 (by omega) this.2.2 hh)] at hq
        exact hq
    | succ j ih =>
      intro k b hk hb
      refine fRS_ceilingOf_6 hp ?_
      have hnext := fun b' hh => ih (k + 1) b' (by omega) hh
      have e1 : ((k + 1 : Nat) : Int) = (k : Int) + 1 := by omega
      rw [e1] at hnext
      have hbr : b = -9 ∨ (0 ≤ b ∧ b < k) := by
        rcases hb with h | h
        · exact Or.inl h.1
        · exact Or.inr ⟨h.1.1, h.1.2.1⟩
      have same : (w (42 + (k : Int)) = 1 → ¬ 0 < hld w k l) → WP E mRS_ceilingOf 6 [some (.ref p), some (.int (zI pol)), some (.int (zI l)), some (.int (zI b)), some (.int (zI ((k : Int) + 1)))] [] h (qI Q) := by
        intro hno
        refine hnext b ?_
        rcases hb with ⟨hb, h2⟩ | ⟨h1, h2⟩
        · exact Or.inl ⟨hb, fun t t0 t1 ho => by
            by_cases e : t = k
            · rw [e] at ho ⊢; exact hno ho
            · exact h2 t t0 (by omega) ho⟩
        · exact Or.inr ⟨⟨h1.1, by omega, h1.2.2⟩, fun t t0 t1 ho hh => by
            by_cases e : t = k
            · rw [e] at ho hh; exact absurd hh (hno ho)
            · exact h2 t t0 (by omega) ho hh⟩
      simp (disch := omega) only [zI_add, zI_sub, zI_mul, zI_neg, zI_lt, zI_le, zI_eq, zI_div, zI_rem, ix_zI, inb_zI, nz_zI, imax_zI, imin_zI, c_t, nb01.1, nb01.2, zl_0, zl_1, zl_2, zl_3, zl_4, zl_5, zl_6, zl_7, zl_8, zl_9, zl_10, zl_11, zl_12, zl_13, zl_14, zl_15, zl_16, zl_17, zl_18, zl_19, zl_20, zl_24, zl_30, zl_31, zl_36, zl_42, zl_44, zl_48, zl_57, zl_58, zl_59, zl_60, zl_61, zl_62, zl_63, zl_64, zl_72, zl_73, zl_96, zl_99, zl_100, zl_104, zl_107, zl_111, zl_114, zl_116, zl_120, zl_200, zl_255, zl_256, zl_360, zl_600, zl_800, zl_1000, zl_2000, hd.n]
      refine ⟨fun z => by omega, fun _ => sD_isOn hp hd hw (by omega) ?_⟩
      by_cases hon : w (42 + (k : Int)) = 1
      · rw [if_pos ⟨by omega, by omega, hon⟩]
        have hb1 := hld_b hw (i := k) (by omega) (by omega) l0 l1
        have h8 : h (p + 8) ((k : Int) * 4 + l).toNat = zI (hld w k l) := hd.r8 (i := (k : Int)) (by omega) (by omega) l0 l1
        simp (disch := omega) only [zI_add, zI_sub, zI_mul, zI_neg, zI_lt, zI_le, zI_eq, zI_div, zI_rem, ix_zI, inb_zI, nz_zI, imax_zI, imin_zI, c_t, nb01.1, nb01.2, zl_0, zl_1, zl_2, zl_3, zl_4, zl_5, zl_6, zl_7, zl_8, zl_9, zl_10, zl_11, zl_12, zl_13, zl_14, zl_15, zl_16, zl_17, zl_18, zl_19, zl_20, zl_24, zl_30, zl_31, zl_36, zl_42, zl_44, zl_48, zl_57, zl_58, zl_59, zl_60, zl_61, zl_62, zl_63, zl_64, zl_72, zl_73, zl_96, zl_99, zl_100, zl_104, zl_107, zl_111, zl_114, zl_116, zl_120, zl_200, zl_255, zl_256, zl_360, zl_600, zl_800, zl_1000, zl_2000, h8]
        refine ⟨fun z => by omega, fun _ => ⟨fun z => same (fun _ => by omega), fun z => ⟨fun z2 => hnext k ?_, fun z2 => ?_⟩⟩⟩
        · rcases hb with ⟨hb, h2⟩ | ⟨h1, h2⟩
          · exact Or.inr ⟨⟨by omega, by omega, hon, by omega⟩, fun t t0 t1 ho hh => by
              by_cases e : t = k
              · exact Or.inl e
              · exact absurd hh (h2 t t0 (by omega) ho)⟩
          · omega
        · rcases hb with ⟨hb, h2⟩ | ⟨h1, h2⟩
          · exact absurd hb z2
          · refine sRS_precedes hp hd hw (by omega) (by omega) h1.1 (by omega) hpo ?_
            by_cases c : precB w pol k b = true
            · rw [if_pos c]
              have c := precB_iff.mp c
              simp (disch := omega) only [zI_add, zI_sub, zI_mul, zI_neg, zI_lt, zI_le, zI_eq, zI_div, zI_rem, ix_zI, inb_zI, nz_zI, imax_zI, imin_zI, c_t, nb01.1, nb01.2, zl_0, zl_1, zl_2, zl_3, zl_4, zl_5, zl_6, zl_7, zl_8, zl_9, zl_10, zl_11, zl_12, zl_13, zl_14, zl_15, zl_16, zl_17, zl_18, zl_19, zl_20, zl_24, zl_30, zl_31, zl_36, zl_42, zl_44, zl_48, zl_57, zl_58, zl_59, zl_60, zl_61, zl_62, zl_63, zl_64, zl_72, zl_73, zl_96, zl_99, zl_100, zl_104, zl_107, zl_111, zl_114, zl_116, zl_120, zl_200, zl_255, zl_256, zl_360, zl_600, zl_800, zl_1000, zl_2000]
              refine ⟨fun z => by omega, fun _ => hnext k (Or.inr ⟨⟨by omega, by omega, hon, by omega⟩, fun t t0 t1 ho hh => ?_⟩)⟩
              by_cases e : t = k
              · exact Or.inl e
              · rcases h2 t t0 (by omega) ho hh with h3 | h3
                · rw [h3]; exact Or.inr c
                · exact Or.inr (prec_tr c h3)
            · rw [if_neg c]
              have c : ¬ prec w pol k b := fun z => c (precB_iff.mpr z)
              simp (disch := omega) only [zI_add, zI_sub, zI_mul, zI_neg, zI_lt, zI_le, zI_eq, zI_div, zI_rem, ix_zI, inb_zI, nz_zI, imax_zI, imin_zI, c_t, nb01.1, nb01.2, zl_0, zl_1, zl_2, zl_3, zl_4, zl_5, zl_6, zl_7, zl_8, zl_9, zl_10, zl_11, zl_12, zl_13, zl_14, zl_15, zl_16, zl_17, zl_18, zl_19, zl_20, zl_24, zl_30, zl_31, zl_36, zl_42, zl_44, zl_48, zl_57, zl_58, zl_59, zl_60, zl_61, zl_62, zl_63, zl_64, zl_72, zl_73, zl_96, zl_99, zl_100, zl_104, zl_107, zl_111, zl_114, zl_116, zl_120, zl_200, zl_255, zl_256, zl_360, zl_600, zl_800, zl_1000, zl_2000]
              refine ⟨fun _ => hnext b (Or.inr ⟨⟨h1.1, by omega, h1.2.2⟩, fun t t0 t1 ho hh => ?_⟩), fun z => absurd trivial z⟩
              by_cases e : t = k
              · right; rw [e]; exact prec_to (by omega) c
              · exact h2 t t0 (by omega) ho hh
      · rw [if_neg (by omega)]
        simp (disch := omega) only [zI_add, zI_sub, zI_mul, zI_neg, zI_lt, zI_le, zI_eq, zI_div, zI_rem, ix_zI, inb_zI, nz_zI, imax_zI, imin_zI, c_t, nb01.1, nb01.2, zl_0, zl_1, zl_2, zl_3, zl_4, zl_5, zl_6, zl_7, zl_8, zl_9, zl_10, zl_11, zl_12, zl_13, zl_14, zl_15, zl_16, zl_17, zl_18, zl_19, zl_20, zl_24, zl_30, zl_31, zl_36, zl_42, zl_44, zl_48, zl_57, zl_58, zl_59, zl_60, zl_61, zl_62, zl_63, zl_64, zl_72, zl_73, zl_96, zl_99, zl_100, zl_104, zl_107, zl_111, zl_114, zl_116, zl_120, zl_200, zl_255, zl_256, zl_360, zl_600, zl_800, zl_1000, zl_2000]
        exact ⟨fun _ => same (fun z => absurd z hon), fun z => absurd trivial z⟩
  exact key (w 72).toNat 0 (-9) (by omega) (Or.inl ⟨rfl, fun t h0 h1 => by omega⟩)
end LA
