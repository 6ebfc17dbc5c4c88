/-! ===== the class's lawful order ===== -/
def lo (q : Nat) : Prop := q = 44 ∨ q = 46 ∨ q = 47
theorem DW.lo {h h' : Mem} {p : Nat} {w : Int → Int} (hp : isP p) (hd : DW h p w) (ho : Off lo h h') : DW h' p w := hd.off ho (fun k hk z => by
  have := hp.b
  have z : p + k = 44 ∨ p + k = 46 ∨ p + k = 47 := z
  omega)
/-- the table as far as it is filled -/
def TB (h : Mem) (w : Int → Int) (n : Nat) : Prop := ∀ S, S < n → h 47 S = if S &&& onM w = S ∧ canS w S = true then zI 1 else zI 0
def lastS (w : Int → Int) (S : Nat) : Int := match firstK (okS w S) (nT w) 0 with
  | some t => t
  | none => -9
section LC
variable {E : XE} {h : Mem} {w : Int → Int} {p : Nat}
theorem sLO_lastOf {Q : Int32 → Mem → Prop} {S : Nat} (hp : isP p) (hd : DW h p w) (hw : WF w) (hS : S < 64) (hs : S &&& onM w = S) (ht : TB h w S)
    (hq : ∀ h', Off rs h h' → Q (zI (lastS w S)) h') : CALLI E mLO_lastOf [.ref 45, .ref p, .int (zI S)] h Q := by
  refine fLO_lastOf hp ?_
  have hn := hw.1
  have hnT : ((nT w : Nat) : Int) = w 72 := by unfold nT; omega
  have key : ∀ (j k : Nat) (h1 : Mem), Off rs h h1 → k + j = nT w → firstK (okS w S) (nT w) 0 = firstK (okS w S) j k →
      WP E mLO_lastOf 2 [some (.ref 45), some (.ref p), some (.int (zI (S : Nat))), some (.int (zI k)), none, none] [] h1 (qI Q) := by
    intro j
    induction j with
    | zero =>
      intro k h1 ho hj hf
      refine fLO_lastOf_2 hp ?_
      have hd1 : DW h1 p w := hd.rs hp ho
      simp (disch := omega) only [zI_add, zI_sub, zI_mul, zI_neg, zI_lt, zI_le, zI_eq, zI_div, zI_rem, ix_zI, inb_zI, nz_zI, imax_zI, imin_zI, c_t, nb01.1, nb01.2, zl_0, zl_1, zl_2, zl_3, zl_4, zl_5, zl_6, zl_7, zl_8, zl_9, zl_10, zl_11, zl_12, zl_13, zl_14, zl_15, zl_16, zl_17, zl_18, zl_19, zl_20, zl_24, zl_30, zl_31, zl_36, zl_42, zl_44, zl_48, zl_57, zl_58, zl_59, zl_60, zl_61, zl_62, zl_63, zl_64, zl_72, zl_73, zl_96, zl_99, zl_100, zl_104, zl_107, zl_111, zl_114, zl_116, zl_120, zl_200, zl_255, zl_256, zl_360, zl_600, zl_800, zl_1000, zl_2000, hd1.n]
      have := hq h1 ho
      unfold lastS at this
      rw [hf] at this
      exact ⟨fun _ => this, fun z => absurd (by omega) z⟩
    | succ j ih =>
      intro k h1 ho hj hf
      refine fLO_lastOf_2 hp ?_
      have hd1 : DW h1 p w := hd.rs hp ho
      have e1 : ((k + 1 : Nat) : Int) = (k : Int) + 1 := by omega
      have hnext := fun h2 a c => ih (k + 1) h2 a (by omega) (hf.trans (firstK_f c))
      rw [e1] at hnext
      simp (disch := omega) only [zl_1, zI_neg, shl_z, Int.toNat_natCast]
      rw [not_k _ hS _ (pow6 (k := k) (by omega)), show S &&& (63 ^^^ 2 ^ k) = lessT S k from rfl]
      have b4 : lessT S k = S ↔ S.testBit k = false := bm4 S hS k (by omega)
      have hl := less_lt (t := k) hS
      simp (disch := omega) only [zI_add, zI_sub, zI_mul, zI_neg, zI_lt, zI_le, zI_eq, zI_div, zI_rem, ix_zI, inb_zI, nz_zI, imax_zI, imin_zI, c_t, nb01.1, nb01.2, zl_0, zl_1, zl_2, zl_3, zl_4, zl_5, zl_6, zl_7, zl_8, zl_9, zl_10, zl_11, zl_12, zl_13, zl_14, zl_15, zl_16, zl_17, zl_18, zl_19, zl_20, zl_24, zl_30, zl_31, zl_36, zl_42, zl_44, zl_48, zl_57, zl_58, zl_59, zl_60, zl_61, zl_62, zl_63, zl_64, zl_72, zl_73, zl_96, zl_99, zl_100, zl_104, zl_107, zl_111, zl_114, zl_116, zl_120, zl_200, zl_255, zl_256, zl_360, zl_600, zl_800, zl_1000, zl_2000, hd1.n, hd1.on, Int.toNat_natCast]
      refine ⟨fun z => by omega, fun _ => ⟨fun z => ?_, fun z => ?_⟩⟩
      · exact hnext h1 ho (okS_f (b4.mp (by omega)))
      · have c : S.testBit k = true := by
          cases c : S.testBit k with
          | true => rfl
          | false => exact absurd (congrArg Int.ofNat (b4.mpr c)) z
        have b3 : lessT S k < S ∧ pc6 (lessT S k) + 1 = pc6 S := bm3 S hS k (by omega) c
        have b5 : lessT S k &&& onM w = lessT S k := bm5 _ (onM_lt hw) S hS hs k (by omega)
        have h47 : h1 47 (lessT S k) = if canS w (lessT S k) = true then zI 1 else zI 0 := by
          rw [ho 47 (by unfold rs; omega), ht _ b3.1]
          by_cases cc : canS w (lessT S k) = true
          · rw [if_pos ⟨b5, cc⟩, if_pos cc]
          · rw [if_neg (fun z => cc z.2), if_neg cc]
        rw [h47]
        by_cases cc : canS w (lessT S k) = true
        · rw [if_pos cc, not_k _ (onM_lt hw) _ hS, show onM w &&& (63 ^^^ S) = bhd w S from rfl]
          refine ⟨fun _ => sRS_settle (t := (k : Int)) (Or.inr rfl) hp hd1 hw (by omega) (by omega) hl (bhd_lt hw) fun h2 ho2 _ => ?_, fun z => absurd z (by decide)⟩
          have hd2 := hd1.rs hp ho2
          refine sRS_isSoon hp hd2 hw (by omega) (by omega) ?_
          by_cases c2 : fitB w k (lessT S k) (bhd w S) = true
          · rw [if_pos c2]
            refine ⟨fun z => absurd z (by decide), fun _ => ?_⟩
            have := hq h2 (ho.tr ho2)
            unfold lastS at this
            rw [hf.trans (firstK_t (by rw [okS_t c, c2, cc]; rfl))] at this
            exact this
          · rw [if_neg c2]
            refine ⟨fun _ => hnext h2 (ho.tr ho2) ?_, fun z => absurd rfl z⟩
            rw [okS_t c, Bool.eq_false_iff.mpr c2]; rfl
        · rw [if_neg cc]
          refine ⟨fun z => absurd rfl z, fun _ => hnext h1 ho ?_⟩
          rw [okS_t c, Bool.eq_false_iff.mpr cc, Bool.and_false]
  exact key (nT w) 0 h Off.rf (by omega) rfl
theorem lastS_canS (hw : WF w) {S : Nat} (hS : S < 64) (h0 : S ≠ 0) : lastS w S = -9 ↔ canS w S = false := by
  unfold lastS
  cases hf : firstK (okS w S) (nT w) 0 with
  | none => exact ⟨fun _ => canS_no hw hS h0 hf, fun _ => rfl⟩
  | some t =>
    refine ⟨fun z => ?_, fun z => ?_⟩
    · have z : ((t : Nat) : Int) = -9 := z
      omega
    · rw [canS_yes hw hS h0 hf] at z; cases z
theorem lastS_b (hw : WF w) {S : Nat} : lastS w S = -9 ∨ ∃ t : Nat, lastS w S = t ∧ t < 6 ∧ firstK (okS w S) (nT w) 0 = some t := by
  have hn := hw.1
  unfold lastS
  cases hf : firstK (okS w S) (nT w) 0 with
  | none => exact Or.inl rfl
  | some t =>
    have := firstK_some _ _ _ hf
    exact Or.inr ⟨t, rfl, by unfold nT at this; omega, rfl⟩
theorem sLO_look {Q : Mem → Prop} (hp : isP p) (hd : DW h p w) (hw : WF w) (hq : ∀ h', Off lo h h' → TB h' w 64 → Q h') : CALLV E mLO_look [.ref 45, .ref p] h Q := by
  refine fLO_look hp ?_
  have hl47 : lo 47 := Or.inr (Or.inr rfl)
  have key : ∀ (j n : Nat) (h1 : Mem), Off lo h h1 → n + j = 64 → 0 < n → TB h1 w n → WP E mLO_look 9 [some (.ref 45), some (.ref p), some (.int (zI n)), none] [] h1 (qV Q) := by
    intro j
    induction j with
    | zero =>
      intro n h1 ho hj n0 htb
      refine fLO_look_9 hp ?_
      simp (disch := omega) only [zI_add, zI_sub, zI_mul, zI_neg, zI_lt, zI_le, zI_eq, zI_div, zI_rem, ix_zI, inb_zI, nz_zI, imax_zI, imin_zI, c_t, nb01.1, nb01.2, zl_0, zl_1, zl_2, zl_3, zl_4, zl_5, zl_6, zl_7, zl_8, zl_9, zl_10, zl_11, zl_12, zl_13, zl_14, zl_15, zl_16, zl_17, zl_18, zl_19, zl_20, zl_24, zl_30, zl_31, zl_36, zl_42, zl_44, zl_48, zl_57, zl_58, zl_59, zl_60, zl_61, zl_62, zl_63, zl_64, zl_72, zl_73, zl_96, zl_99, zl_100, zl_104, zl_107, zl_111, zl_114, zl_116, zl_120, zl_200, zl_255, zl_256, zl_360, zl_600, zl_800, zl_1000, zl_2000]
      have : n = 64 := by omega
      subst this
      exact ⟨fun _ => hq h1 ho htb, fun z => absurd (by omega) z⟩
    | succ j ih =>
      intro n h1 ho hj n0 htb
      refine fLO_look_9 hp ?_
      have hd1 := hd.lo hp ho
      have e1 : ((n + 1 : Nat) : Int) = (n : Int) + 1 := by omega
      have hnext : ∀ (h2 : Mem) (v : Int), Off rs h1 h2 → v = (if n &&& onM w = n ∧ canS w n = true then 1 else 0) → WP E mLO_look 9 [some (.ref 45), some (.ref p), some (.int (zI ((n : Int) + 1))), none] [] (upd2 h2 47 n (zI v)) (qV Q) := by
        intro h2 v ho2 hv
        rw [← e1]
        have ho2' : Off lo h1 h2 := ho2.mono fun q z => by
          have z : q = 44 ∨ q = 46 := z
          show q = 44 ∨ q = 46 ∨ q = 47
          omega
        refine ih (n + 1) _ (Off.up hl47 (ho.tr ho2')) (by omega) (by omega) (fun S hS => ?_)
        by_cases e : S = n
        · subst e
          rw [u_s, hv]
          split <;> rfl
        · rw [u_i (by omega), ho2 47 (by unfold rs; omega)]
          exact htb S (by omega)
      have b8 := bm8 _ (onM_lt hw) n (by omega)
      have hlt : n &&& (63 ^^^ onM w) < 64 := and64 (by omega)
      rw [hd1.on, show (-1 : Int32) = zI (-1) from rfl, not_k _ (by omega) _ (onM_lt hw)]
      simp (disch := omega) only [zI_add, zI_sub, zI_mul, zI_neg, zI_lt, zI_le, zI_eq, zI_div, zI_rem, ix_zI, inb_zI, nz_zI, imax_zI, imin_zI, c_t, nb01.1, nb01.2, zl_0, zl_1, zl_2, zl_3, zl_4, zl_5, zl_6, zl_7, zl_8, zl_9, zl_10, zl_11, zl_12, zl_13, zl_14, zl_15, zl_16, zl_17, zl_18, zl_19, zl_20, zl_24, zl_30, zl_31, zl_36, zl_42, zl_44, zl_48, zl_57, zl_58, zl_59, zl_60, zl_61, zl_62, zl_63, zl_64, zl_72, zl_73, zl_96, zl_99, zl_100, zl_104, zl_107, zl_111, zl_114, zl_116, zl_120, zl_200, zl_255, zl_256, zl_360, zl_600, zl_800, zl_1000, zl_2000, Int.toNat_natCast]
      refine ⟨fun z => by omega, fun _ => ⟨fun z => ⟨fun _ => ?_, fun z => absurd trivial z⟩, fun z => ⟨fun z => absurd z (by omega), fun _ => ?_⟩⟩⟩
      · refine hnext h1 0 Off.rf ?_
        rw [if_neg (fun zz => z (by rw [b8.mpr zz.1]; rfl))]
      · have hs : n &&& onM w = n := b8.mp (by omega)
        refine sLO_lastOf hp hd1 hw (by omega) hs htb fun h2 ho2 => ?_
        have hlc := lastS_canS hw (S := n) (by omega) (by omega)
        have hlb := lastS_b hw (S := n)
        have hlb2 : -9 ≤ lastS w n ∧ lastS w n < 6 := by
          rcases hlb with h | ⟨t, h, h2, _⟩ <;> omega
        simp (disch := omega) only [zI_add, zI_sub, zI_mul, zI_neg, zI_lt, zI_le, zI_eq, zI_div, zI_rem, ix_zI, inb_zI, nz_zI, imax_zI, imin_zI, c_t, nb01.1, nb01.2, zl_0, zl_1, zl_2, zl_3, zl_4, zl_5, zl_6, zl_7, zl_8, zl_9, zl_10, zl_11, zl_12, zl_13, zl_14, zl_15, zl_16, zl_17, zl_18, zl_19, zl_20, zl_24, zl_30, zl_31, zl_36, zl_42, zl_44, zl_48, zl_57, zl_58, zl_59, zl_60, zl_61, zl_62, zl_63, zl_64, zl_72, zl_73, zl_96, zl_99, zl_100, zl_104, zl_107, zl_111, zl_114, zl_116, zl_120, zl_200, zl_255, zl_256, zl_360, zl_600, zl_800, zl_1000, zl_2000, Int.toNat_natCast]
        refine ⟨fun z => hnext h2 0 ho2 ?_, fun z => hnext h2 1 ho2 ?_⟩
        · rw [if_neg (fun zz => by rw [hlc.mp z] at zz; cases zz.2)]
        · rw [if_pos ⟨hs, by
            cases hc : canS w n with
            | true => rfl
            | false => exact absurd (hlc.mpr hc) z⟩]
  simp (disch := omega) only [zI_add, zI_sub, zI_mul, zI_neg, zI_lt, zI_le, zI_eq, zI_div, zI_rem, ix_zI, inb_zI, nz_zI, imax_zI, imin_zI, c_t, nb01.1, nb01.2, zl_0, zl_1, zl_2, zl_3, zl_4, zl_5, zl_6, zl_7, zl_8, zl_9, zl_10, zl_11, zl_12, zl_13, zl_14, zl_15, zl_16, zl_17, zl_18, zl_19, zl_20, zl_24, zl_30, zl_31, zl_36, zl_42, zl_44, zl_48, zl_57, zl_58, zl_59, zl_60, zl_61, zl_62, zl_63, zl_64, zl_72, zl_73, zl_96, zl_99, zl_100, zl_104, zl_107, zl_111, zl_114, zl_116, zl_120, zl_200, zl_255, zl_256, zl_360, zl_600, zl_800, zl_1000, zl_2000]
  refine key 63 1 _ (Off.up hl47 Off.rf) (by omega) (by omega) (fun S hS => ?_)
  have : S = 0 := by omega
  subst this
  rw [show ((0 : Int).toNat) = 0 from rfl, u_s, if_pos ⟨Nat.zero_and _, canS_0⟩]
theorem sLO_taskAt {Q : Int32 → Mem → Prop} {i : Int} (hp : isP p) (hd : DW h p w) (hw : WF w) (ht : TB h w 64) (hi : 0 ≤ i ∧ i < 2147483648) (hq : ∀ h', Off lo h h' → Q (zI (lawS w i)) h') : CALLI E mLO_taskAt [.ref 45, .ref p, .int (zI i)] h Q := by
  refine fLO_taskAt hp ?_
  rw [hd.on]
  refine sJ_bitCount (onM_lt hw) ?_
  have key : ∀ (f S : Nat) (h1 : Mem), Off rs h h1 → S < 64 → S &&& onM w = S → pc6 S = f → (∀ h', Off rs h h' → Q (zI (if canS w S = true ∧ i < f then (orderF w f S).getD i.toNat 0 else -9)) h') →
      WP E mLO_taskAt 13 [some (.ref 45), some (.ref p), some (.int (zI i)), some (.int (zI (S : Nat))), some (.int (zI ((f : Int) - 1))), none] [] h1 (qI Q) := by
    intro f
    induction f with
    | zero =>
      intro S h1 ho hS hs hf hq
      refine fLO_taskAt_13 hp ?_
      simp (disch := omega) only [zI_add, zI_sub, zI_mul, zI_neg, zI_lt, zI_le, zI_eq, zI_div, zI_rem, ix_zI, inb_zI, nz_zI, imax_zI, imin_zI, c_t, nb01.1, nb01.2, zl_0, zl_1, zl_2, zl_3, zl_4, zl_5, zl_6, zl_7, zl_8, zl_9, zl_10, zl_11, zl_12, zl_13, zl_14, zl_15, zl_16, zl_17, zl_18, zl_19, zl_20, zl_24, zl_30, zl_31, zl_36, zl_42, zl_44, zl_48, zl_57, zl_58, zl_59, zl_60, zl_61, zl_62, zl_63, zl_64, zl_72, zl_73, zl_96, zl_99, zl_100, zl_104, zl_107, zl_111, zl_114, zl_116, zl_120, zl_200, zl_255, zl_256, zl_360, zl_600, zl_800, zl_1000, zl_2000]
      have := hq h1 ho
      rw [if_neg (by omega)] at this
      exact ⟨fun _ => this, fun z => absurd (by omega) z⟩
    | succ f ih =>
      intro S h1 ho hS hs hf hq
      refine fLO_taskAt_13 hp ?_
      have hd1 := hd.rs hp ho
      have b7 := bm7 S hS
      have h0 : S ≠ 0 := fun z => by have := (bm6 S hS).mpr z; omega
      have htb : TB h1 w S := fun X hX => by rw [ho 47 (by unfold rs; omega)]; exact ht X (by omega)
      simp (disch := omega) only [zI_add, zI_sub, zI_mul, zI_neg, zI_lt, zI_le, zI_eq, zI_div, zI_rem, ix_zI, inb_zI, nz_zI, imax_zI, imin_zI, c_t, nb01.1, nb01.2, zl_0, zl_1, zl_2, zl_3, zl_4, zl_5, zl_6, zl_7, zl_8, zl_9, zl_10, zl_11, zl_12, zl_13, zl_14, zl_15, zl_16, zl_17, zl_18, zl_19, zl_20, zl_24, zl_30, zl_31, zl_36, zl_42, zl_44, zl_48, zl_57, zl_58, zl_59, zl_60, zl_61, zl_62, zl_63, zl_64, zl_72, zl_73, zl_96, zl_99, zl_100, zl_104, zl_107, zl_111, zl_114, zl_116, zl_120, zl_200, zl_255, zl_256, zl_360, zl_600, zl_800, zl_1000, zl_2000]
      refine ⟨fun z => by omega, fun _ => sLO_lastOf hp hd1 hw hS hs htb fun h2 ho2 => ?_⟩
      have hlc := lastS_canS hw hS h0
      have ho3 := ho.tr ho2
      rcases lastS_b hw (S := S) with hl | ⟨t, hl, t6, hf2⟩
      · have := hq h2 ho3
        rw [if_neg (fun z => by rw [hlc.mp hl] at z; cases z.1)] at this
        rw [hl]
        simp (disch := omega) only [zI_add, zI_sub, zI_mul, zI_neg, zI_lt, zI_le, zI_eq, zI_div, zI_rem, ix_zI, inb_zI, nz_zI, imax_zI, imin_zI, c_t, nb01.1, nb01.2, zl_0, zl_1, zl_2, zl_3, zl_4, zl_5, zl_6, zl_7, zl_8, zl_9, zl_10, zl_11, zl_12, zl_13, zl_14, zl_15, zl_16, zl_17, zl_18, zl_19, zl_20, zl_24, zl_30, zl_31, zl_36, zl_42, zl_44, zl_48, zl_57, zl_58, zl_59, zl_60, zl_61, zl_62, zl_63, zl_64, zl_72, zl_73, zl_96, zl_99, zl_100, zl_104, zl_107, zl_111, zl_114, zl_116, zl_120, zl_200, zl_255, zl_256, zl_360, zl_600, zl_800, zl_1000, zl_2000]
        exact ⟨fun _ => this, fun z => absurd trivial z⟩
      · rw [hl]
        have hc := canS_yes hw hS h0 hf2
        have hok := (firstK_some _ _ _ hf2).2.2
        have c : S.testBit t = true := by
          cases c : S.testBit t with
          | true => rfl
          | false => rw [okS_f c] at hok; cases hok
        rw [okS_t c] at hok
        have hok := (Bool.and_eq_true _ _ ▸ hok : _ ∧ _).2
        have b3 : lessT S t < S ∧ pc6 (lessT S t) + 1 = pc6 S := bm3 S hS t t6 c
        have hlen := orderF_len hw f (lessT S t) (less_lt hS) (by omega) hok
        simp (disch := omega) only [zl_1, zI_neg, shl_z, Int.toNat_natCast]
        rw [not_k _ hS _ (pow6 t6), show S &&& (63 ^^^ 2 ^ t) = lessT S t from rfl]
        have ef : ((f + 1 : Nat) : Int) - 1 = (f : Nat) := by omega
        rw [ef]
        simp (disch := omega) only [zI_add, zI_sub, zI_mul, zI_neg, zI_lt, zI_le, zI_eq, zI_div, zI_rem, ix_zI, inb_zI, nz_zI, imax_zI, imin_zI, c_t, nb01.1, nb01.2, zl_0, zl_1, zl_2, zl_3, zl_4, zl_5, zl_6, zl_7, zl_8, zl_9, zl_10, zl_11, zl_12, zl_13, zl_14, zl_15, zl_16, zl_17, zl_18, zl_19, zl_20, zl_24, zl_30, zl_31, zl_36, zl_42, zl_44, zl_48, zl_57, zl_58, zl_59, zl_60, zl_61, zl_62, zl_63, zl_64, zl_72, zl_73, zl_96, zl_99, zl_100, zl_104, zl_107, zl_111, zl_114, zl_116, zl_120, zl_200, zl_255, zl_256, zl_360, zl_600, zl_800, zl_1000, zl_2000]
        refine ⟨fun z => by omega, fun _ => ⟨fun z => ?_, fun z => ?_⟩⟩
        · refine ih (lessT S t) h2 ho3 (less_lt hS) (bm5 _ (onM_lt hw) S hS hs t t6) (by omega) fun h' ho' => ?_
          have := hq h' ho'
          rw [orderF_s hf2] at this
          by_cases c2 : i < f
          · rw [if_pos ⟨hc, by omega⟩, List.getD_eq_getElem?_getD, List.getElem?_append_left (by omega)] at this
            rw [if_pos ⟨hok, c2⟩, List.getD_eq_getElem?_getD]
            exact this
          · rw [if_neg (by omega)] at this
            rw [if_neg (by omega)]
            exact this
        · have := hq h2 ho3
          rw [if_pos ⟨hc, by omega⟩, orderF_s hf2, List.getD_eq_getElem?_getD, List.getElem?_append_right (by omega), hlen, show i.toNat - f = 0 by omega] at this
          exact this
  have hfin := key (pc6 (onM w)) (onM w) h Off.rf (onM_lt hw) (bm10 _ (onM_lt hw)).1 rfl (fun h' ho => hq h' (ho.mono fun q z => by
    have z : q = 44 ∨ q = 46 := z
    show q = 44 ∨ q = 46 ∨ q = 47
    omega))
  have b7 := bm7 _ (onM_lt hw)
  simp (disch := omega) only [zI_add, zI_sub, zI_mul, zI_neg, zI_lt, zI_le, zI_eq, zI_div, zI_rem, ix_zI, inb_zI, nz_zI, imax_zI, imin_zI, c_t, nb01.1, nb01.2, zl_0, zl_1, zl_2, zl_3, zl_4, zl_5, zl_6, zl_7, zl_8, zl_9, zl_10, zl_11, zl_12, zl_13, zl_14, zl_15, zl_16, zl_17, zl_18, zl_19, zl_20, zl_24, zl_30, zl_31, zl_36, zl_42, zl_44, zl_48, zl_57, zl_58, zl_59, zl_60, zl_61, zl_62, zl_63, zl_64, zl_72, zl_73, zl_96, zl_99, zl_100, zl_104, zl_107, zl_111, zl_114, zl_116, zl_120, zl_200, zl_255, zl_256, zl_360, zl_600, zl_800, zl_1000, zl_2000]
  exact hfin
end LC
