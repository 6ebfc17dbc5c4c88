/-! ===== the class's calls that ask ===== -/
theorem cFst_0 {a b : Nat} : cFst a b = 0 ↔ a = 0 ∧ b = 0 := by unfold cFst; split <;> omega
theorem cOut_0 {a lo hi : Int} : cOut a lo hi = 0 ↔ lo ≤ a ∧ a ≤ hi := by unfold cOut; split <;> (try split) <;> omega
theorem cOth_0 {a n : Int} : cOth a n = 0 ↔ 0 ≤ a ∧ a < n := by unfold cOth; split <;> omega
theorem cLock_0 {a : Int} : cLock a = 0 ↔ 0 ≤ a ∧ a < 4 := by unfold cLock; split <;> omega
theorem cTask_0 {w : Int → Int} {t : Int} : cTask w t = 0 ↔ 0 ≤ t ∧ t < w 72 := by unfold cTask; split <;> omega
theorem cOff_0 {w : Int → Int} {t : Int} : cOff w t = 0 ↔ 0 ≤ t ∧ t < w 72 ∧ w (42 + t) = 1 := by unfold cOff; split <;> omega
theorem cIn_0 {w : Int → Int} {pol t : Int} : cIn w pol t = 0 ↔ (0 ≤ pol ∧ pol < 3) ∧ 0 ≤ t ∧ t < w 72 ∧ w (42 + t) = 1 := by
  unfold cIn
  rw [cFst_0, cFst_0, cOth_0, cTask_0, cOff_0]
  omega
theorem i32 {a : Int} (h1 : -2147483648 ≤ a) (h2 : a < 2147483648) : I32 a := ⟨h1, h2⟩
def cGe (a lo : Int) : Nat := if a < lo then 4 else 0
theorem cGe_0 {a lo : Int} : cGe a lo = 0 ↔ lo ≤ a := by unfold cGe; split <;> omega
theorem cGe_b (a lo : Int) : cGe a lo ≤ 6 := by unfold cGe; split <;> omega
def pointS (w : Int → Int) (i : Int) : Int := if i < 0 then (ptsL w).length else if i < (ptsL w).length then (ptsL w).getD i.toNat 0 else -9
def blkS (w : Int → Int) (pol t : Int) : Int := blk w (aheadM w pol t ||| 2 ^ t.toNat) (behM w (aheadM w pol t) t)
def respS (w : Int → Int) (pol t : Int) : Int := resp w t (aheadM w pol t) (behM w (aheadM w pol t) t)
def rndS (w : Int → Int) (pol t : Int) : Int := if respS w pol t = -9 then -9 else rnds w t (aheadM w pol t) (behM w (aheadM w pol t) t)
section CQ
variable {E : XE} {h : Mem} {s : St} {Q : Int32 → Mem → Prop}
theorem sC_fin {P : Prop} {c : Nat} {x : Int} (ha : SA h s) (h6 : c ≤ 6) (hq : ∀ h', SA h' (s.rfd c) → FA h h' → Q (zI (cAns c x)) h') (hP : c = 0 → (∀ h', Off cs h h' → Q (zI x) h') → P) :
    (zI (-(c : Nat)) = 0 → P) ∧ (¬ zI (-(c : Nat)) = 0 → CALLI E mC_refuse [.ref 0, .int (zI (-(c : Nat)))] h Q) := by
  rw [zl_0, zI_eq (by omega) (by omega) (by omega) (by omega)]
  refine ⟨fun z => hP (by omega) fun h' ho => ?_, fun z => (sC_ends (E := E) ha h6 hq).2 (by omega)⟩
  have z : c = 0 := by omega
  subst z
  exact hq h' (ho.sa ha) ho.fa
theorem sC_not {P : Prop} {c : Nat} {x : Int} (ha : SA h s) (h6 : c ≤ 6) (hq : ∀ h', SA h' (s.rfd c) → FA h h' → Q (zI (cAns c x)) h') (hc : c ≠ 0) (e : P → True) : CALLI E mC_refuse [.ref 0, .int (zI (-(c : Nat)))] h Q := (sC_ends (E := E) ha h6 hq).2 hc
theorem qC_asked {t n : Int} (hv : SV s) (ha : SA h s) (ht : I32 t) (hn : I32 n) (hq : ∀ h', SA h' (s.rfd (cFst (cTask s.w t) (cOut n 0 600))) → FA h h' → Q (zI (cAns (cFst (cTask s.w t) (cOut n 0 600)) (asked s.w t n))) h') : CALLI E mC_asked [.ref 0, .int (zI t), .int (zI n)] h Q :=
  fC_asked (sC_missingTask hv ha ht (sC_outside (lo := 0) (hi := 600) hn (by unfold I32; omega) (by unfold I32; omega) (sC_firstOf (cTask_b _ _) (sC_fin ha (cFst_b (cTask_b _ _) (cOut_b _ _ _)) hq fun z K => by
    rw [cFst_0, cTask_0, cOut_0] at z
    exact sD_asked (Or.inl rfl) ha.w hv.w z.1.1 z.1.2 (by omega) (K h Off.rf)))))
theorem qC_owed {t n : Int} (hv : SV s) (ha : SA h s) (ht : I32 t) (hn : I32 n) (hq : ∀ h', SA h' (s.rfd (cFst (cTask s.w t) (cOut n 0 600))) → FA h h' → Q (zI (cAns (cFst (cTask s.w t) (cOut n 0 600)) (owed s.w t n))) h') : CALLI E mC_owed [.ref 0, .int (zI t), .int (zI n)] h Q :=
  fC_owed (sC_missingTask hv ha ht (sC_outside (lo := 0) (hi := 600) hn (by unfold I32; omega) (by unfold I32; omega) (sC_firstOf (cTask_b _ _) (sC_fin ha (cFst_b (cTask_b _ _) (cOut_b _ _ _)) hq fun z K => by
    rw [cFst_0, cTask_0, cOut_0] at z
    exact sD_owed (Or.inl rfl) ha.w hv.w z.1.1 z.1.2 (by omega) (K h Off.rf)))))
theorem qC_demand {n : Int} (hv : SV s) (ha : SA h s) (hn : I32 n) (hq : ∀ h', SA h' (s.rfd (cOut n 0 600)) → FA h h' → Q (zI (cAns (cOut n 0 600) (dem s.w n))) h') : CALLI E mC_demand [.ref 0, .int (zI n)] h Q :=
  fC_demand (sC_outside (lo := 0) (hi := 600) hn (by unfold I32; omega) (by unfold I32; omega) (sC_fin ha (cOut_b _ _ _) hq fun z K => by
    rw [cOut_0] at z
    exact sD_demand (Or.inl rfl) ha.w hv.w (by omega) (K h Off.rf)))
theorem qC_busy (hv : SV s) (ha : SA h s) (hq : ∀ h', SA h' s → FA h h' → Q (zI (busy s.w)) h') : CALLI E mC_busy [.ref 0] h Q :=
  fC_busy (sPW_busy (Or.inl rfl) ha.w hv.w fun h' ho => hq h' ((ho.mono fun _ => pw_cs).sa ha) (ho.mono fun _ => pw_cs).fa)
theorem qC_miss (hv : SV s) (ha : SA h s) (hq : ∀ h', SA h' s → FA h h' → Q (zI (missT s.w)) h') : CALLI E mC_miss [.ref 0] h Q :=
  fC_miss (sPW_miss (Or.inl rfl) ha.w hv.w fun h' ho => hq h' ((ho.mono fun _ => pw_cs).sa ha) (ho.mono fun _ => pw_cs).fa)
theorem qC_spare (hv : SV s) (ha : SA h s) (hq : ∀ h', SA h' s → FA h h' → Q (zI (spR s.w (ptsL s.w) 1000)) h') : CALLI E mC_spare [.ref 0] h Q :=
  fC_spare (sPW_spare (Or.inl rfl) ha.w hv.w fun h' ho => hq h' ((ho.mono fun _ => pw_cs).sa ha) (ho.mono fun _ => pw_cs).fa)
theorem qC_point {i : Int} (hv : SV s) (ha : SA h s) (hi : I32 i) (hq : ∀ h', SA h' (s.rfd (cGe i (-1))) → FA h h' → Q (zI (cAns (cGe i (-1)) (pointS s.w i))) h') : CALLI E mC_point [.ref 0, .int (zI i)] h Q := by
  refine fC_point ?_
  unfold I32 at hi
  have hn := hv.w.1
  simp (disch := omega) only [zI_add, zI_sub, zI_mul, zI_neg, zI_lt, zI_le, zI_eq, zI_div, zI_rem, ix_zI, inb_zI, nz_zI, imax_zI, imin_zI, c_t, nb01.1, nb01.2, zl_0, zl_1, zl_2, zl_3, zl_4, zl_5, zl_6, zl_7, zl_8, zl_9, zl_10, zl_11, zl_12, zl_13, zl_14, zl_15, zl_16, zl_17, zl_18, zl_19, zl_20, zl_24, zl_30, zl_31, zl_36, zl_42, zl_44, zl_48, zl_57, zl_58, zl_59, zl_60, zl_61, zl_62, zl_63, zl_64, zl_72, zl_73, zl_96, zl_99, zl_100, zl_104, zl_107, zl_111, zl_114, zl_116, zl_120, zl_200, zl_255, zl_256, zl_360, zl_600, zl_800, zl_1000, zl_2000]
  refine ⟨fun z => ?_, fun z => ?_⟩
  · rw [cGe_0.mpr z] at hq
    have K : ∀ h', Off pw h h' → Q (zI (pointS s.w i)) h' := fun h' ho => hq h' ((ho.mono fun _ => pw_cs).sa ha) (ho.mono fun _ => pw_cs).fa
    unfold pointS at K
    refine ⟨fun z2 => sPW_point (Or.inl rfl) ha.w hv.w (by omega) fun h' ho => ?_, fun z2 => sPW_count (Or.inl rfl) ha.w hv.w fun h' ho => ?_⟩
    · have := K h' ho
      rw [if_neg (by omega)] at this
      exact this
    · have := K h' ho
      rw [if_pos (by omega)] at this
      exact this
  · have e : cGe i (-1) = 4 := by unfold cGe; rw [if_pos (by omega)]
    rw [e] at hq
    exact sC_refuse (c := 4) ha (by omega) (by omega) hq
theorem qC_lawful {i : Int} (hv : SV s) (ha : SA h s) (hi : I32 i) (hq : ∀ h', SA h' (s.rfd (cGe i 0)) → FA h h' → Q (zI (cAns (cGe i 0) (lawS s.w i))) h') : CALLI E mC_lawful [.ref 0, .int (zI i)] h Q := by
  refine fC_lawful ?_
  unfold I32 at hi
  simp (disch := omega) only [zI_add, zI_sub, zI_mul, zI_neg, zI_lt, zI_le, zI_eq, zI_div, zI_rem, ix_zI, inb_zI, nz_zI, imax_zI, imin_zI, c_t, nb01.1, nb01.2, zl_0, zl_1, zl_2, zl_3, zl_4, zl_5, zl_6, zl_7, zl_8, zl_9, zl_10, zl_11, zl_12, zl_13, zl_14, zl_15, zl_16, zl_17, zl_18, zl_19, zl_20, zl_24, zl_30, zl_31, zl_36, zl_42, zl_44, zl_48, zl_57, zl_58, zl_59, zl_60, zl_61, zl_62, zl_63, zl_64, zl_72, zl_73, zl_96, zl_99, zl_100, zl_104, zl_107, zl_111, zl_114, zl_116, zl_120, zl_200, zl_255, zl_256, zl_360, zl_600, zl_800, zl_1000, zl_2000]
  refine ⟨fun z => ?_, fun z => ?_⟩
  · rw [cGe_0.mpr z] at hq
    refine sLO_look (Or.inl rfl) ha.w hv.w fun h1 ho1 ht => sLO_taskAt (Or.inl rfl) (ha.w.lo (Or.inl rfl) ho1) hv.w ht (by omega) fun h2 ho2 => ?_
    exact hq h2 (((ho1.tr ho2).mono fun _ => lo_cs).sa ha) ((ho1.tr ho2).mono fun _ => lo_cs).fa
  · have e : cGe i 0 = 4 := by unfold cGe; rw [if_pos (by omega)]
    rw [e] at hq
    exact sC_refuse (c := 4) ha (by omega) (by omega) hq
theorem qC_order {pol i : Int} (hv : SV s) (ha : SA h s) (hp : I32 pol) (hi : I32 i) (hq : ∀ h', SA h' (s.rfd (cFst (cOth pol 3) (cGe i 0))) → FA h h' → Q (zI (cAns (cFst (cOth pol 3) (cGe i 0)) (ordS s.w pol i))) h') : CALLI E mC_order [.ref 0, .int (zI pol), .int (zI i)] h Q := by
  have e : cGe i 0 = cOut i 0 2147483647 := by unfold I32 at hi; unfold cGe cOut; split <;> (try split) <;> omega
  rw [e] at hq
  exact fC_order (sC_otherThan (n := 3) hp (by unfold I32; omega) (sC_outside (lo := 0) (hi := 2147483647) hi (by unfold I32; omega) (by unfold I32; omega) (sC_firstOf (cOth_b _ _) (sC_fin ha (cFst_b (cOth_b _ _) (cOut_b _ _ _)) hq fun z K => by
    rw [cFst_0, cOth_0, cOut_0] at z
    exact sRS_taskAt (Or.inl rfl) ha.w hv.w z.1 (by omega) (K h Off.rf)))))
theorem qC_ceiling {pol l : Int} (hv : SV s) (ha : SA h s) (hp : I32 pol) (hl : I32 l) (hq : ∀ h', SA h' (s.rfd (cFst (cOth pol 3) (cLock l))) → FA h h' → Q (zI (cAns (cFst (cOth pol 3) (cLock l)) (ceilS s.w pol l))) h') : CALLI E mC_ceiling [.ref 0, .int (zI pol), .int (zI l)] h Q :=
  fC_ceiling (sC_otherThan (n := 3) hp (by unfold I32; omega) (sC_missingLock hl (sC_firstOf (cOth_b _ _) (sC_fin ha (cFst_b (cOth_b _ _) (cLock_b _)) hq fun z K => by
    rw [cFst_0, cOth_0, cLock_0] at z
    exact sRS_ceilingOf (Or.inl rfl) ha.w hv.w z.1 z.2.1 z.2.2 (K h Off.rf)))))
theorem qC_blocking {pol t : Int} (hv : SV s) (ha : SA h s) (hp : I32 pol) (ht : I32 t) (hq : ∀ h', SA h' (s.rfd (cIn s.w pol t)) → FA h h' → Q (zI (cAns (cIn s.w pol t) (blkS s.w pol t))) h') : CALLI E mC_blocking [.ref 0, .int (zI pol), .int (zI t)] h Q :=
  fC_blocking (sC_notInOrder hv ha hp ht (sC_fin ha (cIn_b _ _ _) hq fun z K => by
    rw [cIn_0] at z
    exact sRS_blockingBy (Or.inl rfl) ha.w hv.w z.2.1 z.2.2.1 z.1 (K h Off.rf)))
theorem qC_response {pol t : Int} (hv : SV s) (ha : SA h s) (hp : I32 pol) (ht : I32 t) (hq : ∀ h', SA h' (s.rfd (cIn s.w pol t)) → FA h h' → Q (zI (cAns (cIn s.w pol t) (respS s.w pol t))) h') : CALLI E mC_response [.ref 0, .int (zI pol), .int (zI t)] h Q :=
  fC_response (sC_notInOrder hv ha hp ht (sC_fin ha (cIn_b _ _ _) hq fun z K => by
    rw [cIn_0] at z
    exact sRS_settleBy (Or.inl rfl) (Or.inl rfl) ha.w hv.w z.2.1 z.2.2.1 z.1 fun h' ho _ => K h' (ho.mono fun _ => rs_cs)))
theorem qC_rounds {pol t : Int} (hv : SV s) (ha : SA h s) (hp : I32 pol) (ht : I32 t) (hq : ∀ h', SA h' (s.rfd (cIn s.w pol t)) → FA h h' → Q (zI (cAns (cIn s.w pol t) (rndS s.w pol t))) h') : CALLI E mC_rounds [.ref 0, .int (zI pol), .int (zI t)] h Q :=
  fC_rounds (sC_notInOrder hv ha hp ht (sC_fin ha (cIn_b _ _ _) hq fun z K => by
    rw [cIn_0] at z
    refine sRS_settleBy (Or.inl rfl) (Or.inl rfl) ha.w hv.w z.2.1 z.2.2.1 z.1 fun h' ho hr => ?_
    have rb := resp_b hv.w z.2.1 z.2.2.1 (aheadM s.w pol t) (behM s.w (aheadM s.w pol t) t)
    have := K h' (ho.mono fun _ => rs_cs)
    unfold rndS respS at this
    simp (disch := omega) only [zI_add, zI_sub, zI_mul, zI_neg, zI_lt, zI_le, zI_eq, zI_div, zI_rem, ix_zI, inb_zI, nz_zI, imax_zI, imin_zI, c_t, nb01.1, nb01.2, zl_0, zl_1, zl_2, zl_3, zl_4, zl_5, zl_6, zl_7, zl_8, zl_9, zl_10, zl_11, zl_12, zl_13, zl_14, zl_15, zl_16, zl_17, zl_18, zl_19, zl_20, zl_24, zl_30, zl_31, zl_36, zl_42, zl_44, zl_48, zl_57, zl_58, zl_59, zl_60, zl_61, zl_62, zl_63, zl_64, zl_72, zl_73, zl_96, zl_99, zl_100, zl_104, zl_107, zl_111, zl_114, zl_116, zl_120, zl_200, zl_255, zl_256, zl_360, zl_600, zl_800, zl_1000, zl_2000]
    refine ⟨fun z2 => fRS_roundsTaken (Or.inl rfl) ?_, fun z2 => ?_⟩
    · rw [if_neg z2] at this
      rw [hr]
      exact this
    · rw [if_pos z2] at this
      exact this))
theorem qC_fits {pol : Int} (hv : SV s) (ha : SA h s) (hp : I32 pol) (hq : ∀ h', SA h' (s.rfd (cOth pol 3)) → FA h h' → Q (zI (cAns (cOth pol 3) (fitsM s.w pol : Nat))) h') : CALLI E mC_fits [.ref 0, .int (zI pol)] h Q :=
  fC_fits (sC_otherThan (n := 3) hp (by unfold I32; omega) (sC_fin ha (cOth_b _ _) hq fun z K => by
    rw [cOth_0] at z
    exact sRS_fitting (Or.inl rfl) (Or.inl rfl) ha.w hv.w z fun h' ho => K h' (ho.mono fun _ => rs_cs)))
end CQ
