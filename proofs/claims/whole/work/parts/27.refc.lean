/-! ===== the reference's orders, blocking, responses ===== -/
/-- the reference's lasting cells stay -/
def KM (h h' : Mem) : Prop := (∀ q, ¬ (q = 60 ∨ (67 ≤ q ∧ q ≤ 76)) → h' q = h q) ∧ h' 60 3 = h 60 3 ∧ h' 60 6 = h 60 6 ∧ h' 60 8 = h 60 8 ∧ h' 60 30 = h 60 30
theorem KM.rf {h : Mem} : KM h h := ⟨fun _ _ => rfl, rfl, rfl, rfl, rfl⟩
theorem KM.tr {a b c : Mem} (h1 : KM a b) (h2 : KM b c) : KM a c := ⟨fun q hq => (h2.1 q hq).trans (h1.1 q hq), h2.2.1.trans h1.2.1, h2.2.2.1.trans h1.2.2.1, h2.2.2.2.1.trans h1.2.2.2.1, h2.2.2.2.2.trans h1.2.2.2.2⟩
theorem KM.up {h h' : Mem} {p i : Nat} {x : Int32} (h1 : KM h h') (hp : 67 ≤ p ∧ p ≤ 76) : KM h (upd2 h' p i x) := by
  have e : ∀ q, q ≠ p → upd2 h' p i x q = h' q := upd2_ne
  refine ⟨fun q hq => (e q (fun z => hq (by omega))).trans (h1.1 q hq), ?_, ?_, ?_, ?_⟩
  · rw [e 60 (by omega)]; exact h1.2.1
  · rw [e 60 (by omega)]; exact h1.2.2.1
  · rw [e 60 (by omega)]; exact h1.2.2.2.1
  · rw [e 60 (by omega)]; exact h1.2.2.2.2
theorem KM.f {h h' : Mem} {i : Nat} {x : Int32} (h1 : KM h h') (hi : i ≠ 3 ∧ i ≠ 6 ∧ i ≠ 8 ∧ i ≠ 30) : KM h (upd2 h' 60 i x) :=
  ⟨fun q hq => (upd2_ne q (fun z => hq (Or.inl z))).trans (h1.1 q hq), (u_i (by omega)).trans h1.2.1, (u_i (by omega)).trans h1.2.2.1, (u_i (by omega)).trans h1.2.2.2.1, (u_i (by omega)).trans h1.2.2.2.2⟩
theorem FP.KM {h h' : Mem} {w : Int → Int} {l : List Int} (hf : FP h h' w l) : KM h h' :=
  ⟨fun q hq => hf.1 q (by omega) (by omega), hf.2.1 3 (by omega) (by omega) (by omega), hf.2.1 6 (by omega) (by omega) (by omega), hf.2.1 8 (by omega) (by omega) (by omega), hf.2.1 30 (by omega) (by omega) (by omega)⟩
theorem KM.w {h h' : Mem} {w : Int → Int} (hk : KM h h') (hm : RW (h 61) w) : RW (h' 61) w := by rw [hk.1 61 (by omega)]; exact hm
def hld (w : Int → Int) (i l : Int) : Int := w (48 + 4 * i + l)
def LN (h : Mem) (l : List Int) : Prop := h 60 14 = zI l.length ∧ ∀ i : Nat, i < l.length → h 68 i = zI (l.getD i 0)
def mxK (w : Int → Int) (b : Nat) (l : Int) (s : Int) : Nat → Int
  | 0 => s
  | k + 1 => if b.testBit k then max (mxK w b l s k) (hld w k l) else mxK w b l s k
def blkL (w : Int → Int) (up bh : Nat) : Nat → Int
  | 0 => 0
  | l + 1 => if 0 < mxK w up l 0 (w 72).toNat then mxK w bh l (blkL w up bh l) (w 72).toNat else blkL w up bh l
def blk (w : Int → Int) (up bh : Nat) : Int := blkL w up bh 4
def own1 (w : Int → Int) (t : Int) (a b : Nat) : Int := w t * asked w t 1 + blk w (a ||| 2 ^ t.toNat) b
def resp (w : Int → Int) (t : Int) (a b : Nat) : Int := settle (fun r => own1 w t a b + asksM w a r) 700 (own1 w t a b)
/-- how many different ones on the way -/
def steps (A : Int → Int) : Nat → Int → Int → Int
  | 0, _, c => c
  | k + 1, t, c => if 600 < t then c else if A t = t then c else steps A k (A t) (c + 1)
def rnds (w : Int → Int) (t : Int) (a b : Nat) : Int := steps (fun r => own1 w t a b + asksM w a r) 700 (own1 w t a b) 1
def fitB (w : Int → Int) (t : Int) (a b : Nat) : Bool := decide (0 ≤ resp w t a b) && decide (resp w t a b + lat w t ≤ lim w t)
def fitsM (w : Int → Int) (pol : Int) : Nat := maskK (fun t => decide (w (42 + t) = 1) && fitB w t (aheadM w pol t) (behM w (aheadM w pol t) t)) (w 72).toNat
theorem hld_b {w : Int → Int} (hw : WF w) {i l : Int} (h0 : 0 ≤ i) (h1 : i < w 72) (l0 : 0 ≤ l) (l1 : l < 4) : 0 ≤ hld w i l ∧ hld w i l ≤ 9 := (hw.at h0 h1).2.2.2.2.2.2.2.2.2 l l0 l1
theorem mxK_b {w : Int → Int} (hw : WF w) {b : Nat} {l s : Int} (l0 : 0 ≤ l) (l1 : l < 4) (hs : 0 ≤ s ∧ s ≤ 9) : ∀ k : Nat, (k : Int) ≤ w 72 → 0 ≤ mxK w b l s k ∧ mxK w b l s k ≤ 9
  | 0, _ => hs
  | k + 1, hk => by
    have ih := mxK_b hw (b := b) l0 l1 hs k (by omega)
    have hb := hld_b hw (i := k) (by omega) (by omega) l0 l1
    unfold mxK
    split <;> omega
theorem mxK_ge {w : Int → Int} {b : Nat} {l s : Int} : ∀ k : Nat, s ≤ mxK w b l s k
  | 0 => Int.le_refl _
  | k + 1 => by
    have := mxK_ge (w := w) (b := b) (l := l) (s := s) k
    unfold mxK
    split <;> omega
theorem mxK_s {w : Int → Int} {b : Nat} {l s : Int} (hs : 0 ≤ s) : ∀ k : Nat, mxK w b l s k = max s (mxK w b l 0 k)
  | 0 => by unfold mxK; omega
  | k + 1 => by
    have := mxK_s (w := w) (b := b) (l := l) hs k
    unfold mxK
    split <;> omega
theorem blkL_b {w : Int → Int} (hw : WF w) {up bh : Nat} : ∀ l : Nat, l ≤ 4 → 0 ≤ blkL w up bh l ∧ blkL w up bh l ≤ 9
  | 0, _ => by unfold blkL; omega
  | l + 1, hl => by
    have ih := blkL_b hw (up := up) (bh := bh) l (by omega)
    have hn := hw.n
    unfold blkL
    split
    · exact mxK_b hw (by omega) (by omega) ih _ (by omega)
    · exact ih
theorem own1_b {w : Int → Int} (hw : WF w) {t : Int} (h0 : 0 ≤ t) (h1 : t < w 72) (a b : Nat) : 0 ≤ own1 w t a b ∧ own1 w t a b ≤ 20000 := by
  obtain ⟨c0, c1, -⟩ := hw.at h0 h1
  have ab := asked_b hw h0 h1 (t := 1) (by omega)
  have pb := prod_b (a := w t) (b := asked w t 1) (B := 81) (by omega) c1.2 ab.1 (by omega)
  have bb := blkL_b hw (up := a ||| 2 ^ t.toNat) (bh := b) 4 (by omega)
  unfold own1 blk
  omega
theorem resp_b {w : Int → Int} (hw : WF w) {t : Int} (h0 : 0 ≤ t) (h1 : t < w 72) (a b : Nat) : resp w t a b = -9 ∨ (0 ≤ resp w t a b ∧ resp w t a b ≤ 600) := by
  have ob := own1_b hw h0 h1 a b
  exact settle_b _ _ ob.1 (fun r hr => by have := asksM_b hw a (t := r) hr; omega)
theorem insR_cons (w : Int → Int) (pol t e : Int) (l : List Int) : insR w pol t (e :: l) = if precB w pol t e then e :: insR w pol t l else t :: e :: l := rfl
theorem gd_l {l m : List Int} {i : Nat} (hi : i < l.length) : (l ++ m).getD i 0 = l.getD i 0 := by
  rw [List.getD_eq_getElem?_getD, List.getD_eq_getElem?_getD, List.getElem?_append_left hi]
theorem gd_r {l m : List Int} {i : Nat} (hi : l.length ≤ i) : (l ++ m).getD i 0 = m.getD (i - l.length) 0 := by
  rw [List.getD_eq_getElem?_getD, List.getD_eq_getElem?_getD, List.getElem?_append_right hi]
section RO
variable {E : XE} {h : Mem} {w : Int → Int}
theorem sM_isAhead {Q : Int32 → Mem → Prop} {a b pol : Int} (hm : RW (h 61) w) (hw : WF w) (a0 : 0 ≤ a) (a1 : a < w 72) (b0 : 0 ≤ b) (b1 : b < w 72) (hp : 0 ≤ pol ∧ pol < 100) (hq : Q (if precB w pol a b then 1 else 0) h) : CALLI E mM_isAhead [.ref 60, .int (zI a), .int (zI b), .int (zI pol)] h Q := by
  obtain ⟨c0, c1, c2, c3, c4, c5, c6, c7, c8, c9⟩ := hw.at a0 a1
  obtain ⟨d0, d1, d2, d3, d4, d5, d6, d7, d8, d9⟩ := hw.at b0 b1
  have la := lim_b hw a0 a1
  have lb := lim_b hw b0 b1
  have ka := key_b hw (pol := pol) a0 a1
  have kb := key_b hw (pol := pol) b0 b1
  have fin : ∀ d : Int, d = keyP w pol a - keyP w pol b → WP E mM_isAhead 64 [none, some (.int (zI a)), some (.int (zI b)), none, none] [.int (zI d)] h (qI Q) := by
    intro d hd
    refine fM_isAhead_64 ?_
    simp (disch := omega) only [zI_add, zI_sub, zI_mul, zI_neg, zI_lt, zI_le, zI_eq, zI_div, zI_rem, ix_zI, inb_zI, nz_zI, imax_zI, imin_zI, c_t, nb01.1, nb01.2, zl_0, zl_1, zl_2, zl_3, zl_4, zl_5, zl_6, zl_7, zl_8, zl_9, zl_10, zl_11, zl_12, zl_13, zl_14, zl_15, zl_16, zl_17, zl_18, zl_19, zl_20, zl_24, zl_30, zl_31, zl_36, zl_42, zl_44, zl_48, zl_57, zl_58, zl_59, zl_60, zl_61, zl_62, zl_63, zl_64, zl_72, zl_73, zl_96, zl_99, zl_100, zl_104, zl_107, zl_111, zl_114, zl_116, zl_120, zl_200, zl_255, zl_256, zl_360, zl_600, zl_800, zl_1000, zl_2000]
    have pi := precB_iff (w := w) (pol := pol) (i := a) (j := b)
    unfold prec at pi
    by_cases c : precB w pol a b = true
    · rw [if_pos c] at hq
      have := pi.mp c
      exact ⟨fun _ => hq, fun z => ⟨fun z2 => by omega, fun _ => ⟨fun z3 => by omega, fun _ => hq⟩⟩⟩
    · rw [if_neg c] at hq
      have : ¬ _ := fun z => c (pi.mpr z)
      exact ⟨fun z => by omega, fun z => ⟨fun z2 => hq, fun _ => ⟨fun z3 => hq, fun _ => by omega⟩⟩⟩
  refine fM_isAhead ?_
  unfold keyP at fin
  simp (disch := omega) only [zI_add, zI_sub, zI_mul, zI_neg, zI_lt, zI_le, zI_eq, zI_div, zI_rem, ix_zI, inb_zI, nz_zI, imax_zI, imin_zI, c_t, nb01.1, nb01.2, zl_0, zl_1, zl_2, zl_3, zl_4, zl_5, zl_6, zl_7, zl_8, zl_9, zl_10, zl_11, zl_12, zl_13, zl_14, zl_15, zl_16, zl_17, zl_18, zl_19, zl_20, zl_24, zl_30, zl_31, zl_36, zl_42, zl_44, zl_48, zl_57, zl_58, zl_59, zl_60, zl_61, zl_62, zl_63, zl_64, zl_72, zl_73, zl_96, zl_99, zl_100, zl_104, zl_107, zl_111, zl_114, zl_116, zl_120, zl_200, zl_255, zl_256, zl_360, zl_600, zl_800, zl_1000, zl_2000, hm _]
  refine ⟨fun z => ⟨fun z2 => ?_, fun z2 => ?_⟩, fun z => ?_⟩
  · rw [if_neg z, if_neg z2, if_neg z, if_neg z2] at fin
    exact fin _ (by omega)
  · rw [if_neg z, if_pos z2, if_neg z, if_pos z2] at fin
    refine sM_limit hm hw a0 a1 (sM_limit hm hw b0 b1 ?_)
    simp (disch := omega) only [zI_add, zI_sub, zI_mul, zI_neg, zI_lt, zI_le, zI_eq, zI_div, zI_rem, ix_zI, inb_zI, nz_zI, imax_zI, imin_zI, c_t, nb01.1, nb01.2, zl_0, zl_1, zl_2, zl_3, zl_4, zl_5, zl_6, zl_7, zl_8, zl_9, zl_10, zl_11, zl_12, zl_13, zl_14, zl_15, zl_16, zl_17, zl_18, zl_19, zl_20, zl_24, zl_30, zl_31, zl_36, zl_42, zl_44, zl_48, zl_57, zl_58, zl_59, zl_60, zl_61, zl_62, zl_63, zl_64, zl_72, zl_73, zl_96, zl_99, zl_100, zl_104, zl_107, zl_111, zl_114, zl_116, zl_120, zl_200, zl_255, zl_256, zl_360, zl_600, zl_800, zl_1000, zl_2000]
    exact fin _ rfl
  · rw [if_pos z, if_pos z] at fin
    exact fin _ rfl
theorem sM_lines {Q : Mem → Prop} {pol : Int} (hm : RW (h 61) w) (hw : WF w) (hp : 0 ≤ pol ∧ pol < 100) (hq : ∀ h', KM h h' → LN h' (ordL w pol) → Q h') : CALLV E mM_lines [.ref 60, .int (zI pol)] h Q := by
  refine fM_lines ?_
  have hn := hw.1
  have hn2 := hw.n
  have key : ∀ (j k : Nat) (h1 : Mem), (k : Int) + j = w 72 → KM h h1 → LN h1 (ordR w pol k).reverse → WP E mM_lines 7 [some (.ref 60), some (.int (zI pol)), some (.int (zI k)), none] [] h1 (qV Q) := by
    intro j
    induction j with
    | zero =>
      intro k h1 hk hkm hl
      have hm1 := hkm.w hm
      refine fM_lines_7 ?_
      simp (disch := omega) only [zI_add, zI_sub, zI_mul, zI_neg, zI_lt, zI_le, zI_eq, zI_div, zI_rem, ix_zI, inb_zI, nz_zI, imax_zI, imin_zI, c_t, nb01.1, nb01.2, zl_0, zl_1, zl_2, zl_3, zl_4, zl_5, zl_6, zl_7, zl_8, zl_9, zl_10, zl_11, zl_12, zl_13, zl_14, zl_15, zl_16, zl_17, zl_18, zl_19, zl_20, zl_24, zl_30, zl_31, zl_36, zl_42, zl_44, zl_48, zl_57, zl_58, zl_59, zl_60, zl_61, zl_62, zl_63, zl_64, zl_72, zl_73, zl_96, zl_99, zl_100, zl_104, zl_107, zl_111, zl_114, zl_116, zl_120, zl_200, zl_255, zl_256, zl_360, zl_600, zl_800, zl_1000, zl_2000, hm1 _]
      refine ⟨fun _ => hq h1 hkm ?_, fun z => absurd (by omega) z⟩
      unfold ordL
      rw [show (w 72).toNat = k by omega]
      exact hl
    | succ j ih =>
      intro k h1 hk hkm hl
      have hm1 := hkm.w hm
      refine fM_lines_7 ?_
      simp (disch := omega) only [zI_add, zI_sub, zI_mul, zI_neg, zI_lt, zI_le, zI_eq, zI_div, zI_rem, ix_zI, inb_zI, nz_zI, imax_zI, imin_zI, c_t, nb01.1, nb01.2, zl_0, zl_1, zl_2, zl_3, zl_4, zl_5, zl_6, zl_7, zl_8, zl_9, zl_10, zl_11, zl_12, zl_13, zl_14, zl_15, zl_16, zl_17, zl_18, zl_19, zl_20, zl_24, zl_30, zl_31, zl_36, zl_42, zl_44, zl_48, zl_57, zl_58, zl_59, zl_60, zl_61, zl_62, zl_63, zl_64, zl_72, zl_73, zl_96, zl_99, zl_100, zl_104, zl_107, zl_111, zl_114, zl_116, zl_120, zl_200, zl_255, zl_256, zl_360, zl_600, zl_800, zl_1000, zl_2000, hm1 _]
      refine ⟨fun z => by omega, fun _ => sM_isOn hm1 hw (by omega) (by omega) ?_⟩
      have ih' := fun h2 => ih (k + 1) h2 (by omega)
      unfold ordR at ih'
      have e1 : ((k + 1 : Nat) : Int) = (k : Int) + 1 := by omega
      rw [e1] at ih'
      by_cases hon : w (42 + (k : Int)) = 1
      · rw [if_pos hon] at ih' ⊢
        simp (disch := omega) only [zI_add, zI_sub, zI_mul, zI_neg, zI_lt, zI_le, zI_eq, zI_div, zI_rem, ix_zI, inb_zI, nz_zI, imax_zI, imin_zI, c_t, nb01.1, nb01.2, zl_0, zl_1, zl_2, zl_3, zl_4, zl_5, zl_6, zl_7, zl_8, zl_9, zl_10, zl_11, zl_12, zl_13, zl_14, zl_15, zl_16, zl_17, zl_18, zl_19, zl_20, zl_24, zl_30, zl_31, zl_36, zl_42, zl_44, zl_48, zl_57, zl_58, zl_59, zl_60, zl_61, zl_62, zl_63, zl_64, zl_72, zl_73, zl_96, zl_99, zl_100, zl_104, zl_107, zl_111, zl_114, zl_116, zl_120, zl_200, zl_255, zl_256, zl_360, zl_600, zl_800, zl_1000, zl_2000]
        refine ⟨fun z => by omega, fun _ => ?_⟩
        obtain ⟨hl1, hl2⟩ := hl
        rw [hl1]
        have olen := ordR_len (w := w) (pol := pol) k
        have omem : ∀ x ∈ ordR w pol k, 0 ≤ x ∧ x < w 72 := fun x hx => by
          have := (ordR_mem k).mp hx
          omega
        have ins : ∀ (rest D : List Int) (h2 : Mem), (∀ x ∈ rest, 0 ≤ x ∧ x < w 72) → rest.length + D.length ≤ 5 → (insR w pol k rest).reverse ++ D = (insR w pol k (ordR w pol k)).reverse → KM h h2 → h2 60 14 = zI (rest.length + D.length : Nat) →
            (∀ i : Nat, i < rest.length → h2 68 i = zI (rest.reverse.getD i 0)) → (∀ i : Nat, i < D.length → h2 68 (rest.length + 1 + i) = zI (D.getD i 0)) →
            WP E mM_lines 31 [some (.ref 60), some (.int (zI pol)), some (.int (zI k)), some (.int (zI rest.length))] [] h2 (qV Q) := by
          intro rest
          induction rest with
          | nil =>
            intro D h2 hx hlen he hk2 h14 ha hb
            refine fM_lines_31 ?_
            simp only [List.length_nil, Nat.zero_add] at hlen h14 hb ⊢
            simp (disch := omega) only [zI_add, zI_sub, zI_mul, zI_neg, zI_lt, zI_le, zI_eq, zI_div, zI_rem, ix_zI, inb_zI, nz_zI, imax_zI, imin_zI, c_t, nb01.1, nb01.2, zl_0, zl_1, zl_2, zl_3, zl_4, zl_5, zl_6, zl_7, zl_8, zl_9, zl_10, zl_11, zl_12, zl_13, zl_14, zl_15, zl_16, zl_17, zl_18, zl_19, zl_20, zl_24, zl_30, zl_31, zl_36, zl_42, zl_44, zl_48, zl_57, zl_58, zl_59, zl_60, zl_61, zl_62, zl_63, zl_64, zl_72, zl_73, zl_96, zl_99, zl_100, zl_104, zl_107, zl_111, zl_114, zl_116, zl_120, zl_200, zl_255, zl_256, zl_360, zl_600, zl_800, zl_1000, zl_2000, u_p, h14]
            refine ⟨fun _ => ih' _ ((hk2.up (by omega)).f (by omega)) ?_, fun z => by omega⟩
            rw [← he]
            simp only [insR, List.reverse_singleton]
            refine ⟨by rw [u_s]; simp, fun i hi => ?_⟩
            cases i with
            | zero => simp [upd2, upd]
            | succ i =>
              simp at hi
              have := hb i (by omega)
              rw [Nat.add_comm] at this
              simpa [upd2, upd] using this
          | cons e rest ihr =>
            intro D h2 hx hlen he hk2 h14 ha hb
            have hxe := hx e List.mem_cons_self
            simp only [List.length_cons] at hlen h14 ha hb ⊢
            have hm2 := hk2.w hm
            have he0 : h2 68 rest.length = zI e := by
              rw [ha rest.length (by omega)]
              simp [List.reverse_cons]
            have e2 : ((rest.length + 1 : Nat) : Int) = (rest.length : Int) + 1 := by omega
            refine fM_lines_31 ?_
            rw [e2]
            have e3 : (rest.length : Int) + 1 - 1 = rest.length := by omega
            have e4 : ((rest.length : Int) + 1).toNat = rest.length + 1 := by omega
            have e5 : (rest.length : Int) + 1 + -1 = rest.length := by omega
            simp (disch := omega) only [zI_add, zI_sub, zI_mul, zI_neg, zI_lt, zI_le, zI_eq, zI_div, zI_rem, ix_zI, inb_zI, nz_zI, imax_zI, imin_zI, c_t, nb01.1, nb01.2, zl_0, zl_1, zl_2, zl_3, zl_4, zl_5, zl_6, zl_7, zl_8, zl_9, zl_10, zl_11, zl_12, zl_13, zl_14, zl_15, zl_16, zl_17, zl_18, zl_19, zl_20, zl_24, zl_30, zl_31, zl_36, zl_42, zl_44, zl_48, zl_57, zl_58, zl_59, zl_60, zl_61, zl_62, zl_63, zl_64, zl_72, zl_73, zl_96, zl_99, zl_100, zl_104, zl_107, zl_111, zl_114, zl_116, zl_120, zl_200, zl_255, zl_256, zl_360, zl_600, zl_800, zl_1000, zl_2000, e3, e4, e5, Int.toNat_natCast, he0]
            refine ⟨fun z => by omega, fun _ => sM_isAhead hm2 hw (by omega) (by omega) hxe.1 hxe.2 hp ?_⟩
            rw [insR_cons] at he
            by_cases c : precB w pol k e = true
            · rw [if_pos c] at he ⊢
              rw [he0]
              refine ⟨fun z => absurd z (by decide), fun _ => ihr (e :: D) _ (fun x h' => hx x (List.mem_cons_of_mem _ h')) (by simp; omega) (by rw [← he]; simp) (hk2.up (by omega)) (by rw [u_p (by omega), h14]; congr 1; simp; omega) (fun i hi => ?_) (fun i hi => ?_)⟩
              · have := ha i (by omega)
                rw [List.reverse_cons, gd_l (by simpa using hi)] at this
                rw [← this]
                simp only [upd2, upd, if_true]
                rw [if_neg (by omega)]
              · cases i with
                | zero => simp [upd2, upd]
                | succ i =>
                  simp at hi
                  have := hb i (by omega)
                  rw [show rest.length + 1 + (i + 1) = rest.length + 1 + 1 + i by omega]
                  simp only [upd2, upd, if_true]
                  rw [if_neg (by omega)]
                  simpa using this
            · rw [if_neg c] at he ⊢
              have h14' : (upd2 h2 68 (rest.length + 1) (zI k)) 60 14 = zI (rest.length + 1 + D.length : Nat) := by rw [u_p (by omega), h14]
              rw [h14']
              refine ⟨fun _ => ih' _ ((hk2.up (by omega)).f (by omega)) ?_, fun z => absurd rfl z⟩
              rw [← he]
              refine ⟨by rw [u_s]; show zI _ + zI 1 = _; rw [zI_add]; congr 1; simp; omega, fun i hi => ?_⟩
              simp only [List.reverse_cons, List.append_assoc, List.length_append, List.length_reverse, List.length_cons, List.length_nil] at hi
              rw [u_p (by omega), upd2_eq]
              unfold upd
              have e7 : ((k : Int) :: e :: rest).reverse ++ D = (e :: rest).reverse ++ ((k : Int) :: D) := by simp
              rw [e7]
              have el : (e :: rest).reverse.length = rest.length + 1 := by simp
              by_cases i1 : i < rest.length + 1
              · rw [if_neg (by omega), ha i i1, gd_l (by omega)]
              · rw [gd_r (by omega), el]
                by_cases i2 : i = rest.length + 1
                · rw [if_pos i2]
                  subst i2
                  simp
                · rw [if_neg i2]
                  have := hb (i - (rest.length + 2)) (by omega)
                  rw [show rest.length + 1 + 1 + (i - (rest.length + 2)) = i by omega] at this
                  rw [this, show i - (rest.length + 1) = i - (rest.length + 2) + 1 by omega]
                  simp
        have fin := ins (ordR w pol k) [] h1 omem (by simp; omega) (by simp) hkm (by rw [hl1]; simp) (fun i hi => hl2 i (by simpa using hi)) (fun i hi => by simp at hi)
        simpa using fin
      · rw [if_neg hon] at ih' ⊢
        simp (disch := omega) only [zI_add, zI_sub, zI_mul, zI_neg, zI_lt, zI_le, zI_eq, zI_div, zI_rem, ix_zI, inb_zI, nz_zI, imax_zI, imin_zI, c_t, nb01.1, nb01.2, zl_0, zl_1, zl_2, zl_3, zl_4, zl_5, zl_6, zl_7, zl_8, zl_9, zl_10, zl_11, zl_12, zl_13, zl_14, zl_15, zl_16, zl_17, zl_18, zl_19, zl_20, zl_24, zl_30, zl_31, zl_36, zl_42, zl_44, zl_48, zl_57, zl_58, zl_59, zl_60, zl_61, zl_62, zl_63, zl_64, zl_72, zl_73, zl_96, zl_99, zl_100, zl_104, zl_107, zl_111, zl_114, zl_116, zl_120, zl_200, zl_255, zl_256, zl_360, zl_600, zl_800, zl_1000, zl_2000]
        exact ⟨fun _ => ih' h1 hkm hl, fun z => absurd trivial z⟩
  refine key (w 72).toNat 0 _ (by omega) (KM.rf.f (by omega)) ⟨by rw [u_s]; rfl, fun i hi => by simp [ordR] at hi⟩
end RO
