/-! ===== missing ===== -/
theorem zl_32 : (32 : Int32) = zI 32 := rfl
def mayS (w : Int → Int) : Nat := onM w &&& 31
def gM (w : Int → Int) (t : Int) (S : Nat) : Int := if missT (wOn w S) = -9 then odS S (t - 1) 5 else 0
def mF (w : Int → Int) (t : Int) (S : Nat) : Int := if S &&& (63 ^^^ mayS w) = 0 then gM w t S else 0
def rF (w : Int → Int) (t : Int) (S : Nat) : Int := if S &&& (63 ^^^ mayS w) = 0 then gM w t (mayS w &&& (63 ^^^ S)) else 0
def missS (w : Int → Int) (t p : Int) : Int := partS (sumN (mF w t) 32) (odS (mayS w) t 5) p
def cMis (t p : Int) : Nat := cFst (cOut t 2 20) (cOth p 2)
theorem cMis_b (t p : Int) : cMis t p ≤ 6 := cFst_b (cOut_b _ _ _) (cOth_b _ _)
section MI2
variable {w : Int → Int}
theorem may_lt (hw : WF w) : mayS w < 32 := mm3 _ (onM_lt hw)
theorem rF_sum (hw : WF w) (t : Int) : sumN (rF w t) 32 = sumN (mF w t) 32 := by
  have ml := may_lt hw
  rw [← sx (mF w t) (mayS w) ml]
  refine sumN_cg _ fun S hS => ?_
  unfold rF mF
  rw [mm1 _ ml S hS]
  by_cases c : S &&& (63 ^^^ mayS w) = 0
  · rw [if_pos c, if_pos c, (mm2 _ ml S hS c).2]
  · rw [if_neg c, if_neg c]
theorem gM_b {t : Int} (ht : 2 ≤ t ∧ t ≤ 20) {S : Nat} (hS : S < 32) : 0 ≤ gM w t S ∧ gM w t S ≤ 64000000 := by
  unfold gM
  split
  · rw [od_5 hS]
    exact pwS_6 (by omega) (bm7 S (by omega))
  · omega
theorem mF_b {t : Int} (ht : 2 ≤ t ∧ t ≤ 20) {S : Nat} (hS : S < 32) : 0 ≤ mF w t S ∧ mF w t S ≤ 64000000 := by
  unfold mF
  split
  · exact gM_b ht hS
  · omega
theorem mF_sum {t : Int} (ht : 2 ≤ t ∧ t ≤ 20) {k : Nat} (hk : k ≤ 32) : 0 ≤ sumN (mF w t) k ∧ sumN (mF w t) k ≤ 2048000000 := by
  have := sumN_b (F := mF w t) (B := 64000000) k (fun i hi => mF_b ht (by omega))
  omega
theorem rF_b (hw : WF w) {t : Int} (ht : 2 ≤ t ∧ t ≤ 20) {S : Nat} (hS : S < 32) : 0 ≤ rF w t S ∧ rF w t S ≤ 64000000 := by
  have ml := may_lt hw
  unfold rF
  split
  · rename_i c
    rw [(mm2 _ ml S hS c).2]
    exact gM_b ht (mm5 S hS _ ml)
  · omega
theorem rF_sumb (hw : WF w) {t : Int} (ht : 2 ≤ t ∧ t ≤ 20) {k : Nat} (hk : k ≤ 32) : 0 ≤ sumN (rF w t) k ∧ sumN (rF w t) k ≤ 2048000000 := by
  have := sumN_b (F := rF w t) (B := 64000000) k (fun i hi => rF_b hw ht (by omega))
  omega
theorem od_b {m : Nat} {c : Int} (hc : 0 ≤ c ∧ c ≤ 20) {k : Nat} (hk : k ≤ 5) : 0 ≤ odS m c k ∧ odS m c k ≤ 64000000 := by
  rw [od_pw]
  have : ∀ j, pcK m j ≤ j := by
    intro j
    induction j with
    | zero => exact Nat.le_refl _
    | succ j ih => unfold pcK; split <;> omega
  have := this k
  exact pwS_6 hc (by omega)
theorem below_b (hw : WF w) {t : Int} (ht : 2 ≤ t ∧ t ≤ 20) : 1 ≤ odS (mayS w) t 5 ∧ odS (mayS w) t 5 ≤ 64000000 := by
  have b := od_b (m := mayS w) (c := t) (by omega) (k := 5) (by omega)
  rw [od_5 (may_lt hw)] at b ⊢
  exact ⟨pwS_1 (by omega) _, b.2⟩
end MI2
section MI3
variable {E : XE} {h : Mem} {s : St}
theorem sC_ways {Q : Int64 → Mem → Prop} {t : Int} (hv : SV s) (ha : SA h s) (ht : 2 ≤ t ∧ t ≤ 20) (hq : ∀ h', Off cs h h' → Q (zL (sumN (mF s.w t) 32)) h') : CALLL E mC_waysWithoutMiss [.ref 0, .int (zI (mayS s.w : Nat)), .int (zI t)] h Q := by
  have ml := may_lt hv.w
  have ol := onM_lt hv.w
  have hn := hv.w.1
  refine fC_waysWithoutMiss (sD_copyFrom (Or.inr (Or.inl rfl)) (Or.inl rfl) (by omega) fun h1 c1 => ?_)
  have o1 : Off cs h h1 := fun q hq => c1.1 q (by unfold cs at hq; omega)
  rw [show h1 1 1 = zI (onM s.w : Nat) from (o1.sa ha).w.on]
  have sl : onM s.w &&& (63 ^^^ mayS s.w) < 64 := and64 ol
  have key : ∀ (j k : Nat) (h2 : Mem) (w1 : Int → Int), k + j = mayS s.w + 1 → Off cs h h2 → DW h2 15 w1 → WF w1 → (∀ i : Int, 0 ≤ i → i < 73 → ¬ (42 ≤ i ∧ i < 48) → w1 i = s.w i) →
      WP E mC_waysWithoutMiss 29 [some (.ref 0), some (.int (zI (mayS s.w : Nat))), some (.int (zI t)), some (.int (zI (onM s.w &&& (63 ^^^ mayS s.w) : Nat))), some (.long (zL (sumN (mF s.w t) k))), none, some (.int (zI k))] [] h2 (qL Q) := by
    intro j
    induction j with
    | zero =>
      intro k h2 w1 hk ho hd hw1 e1
      refine fC_waysWithoutMiss_29 ?_
      rw [zI_lt (by omega) (by omega) (by omega) (by omega)]
      refine ⟨fun _ => ?_, fun z => by omega⟩
      have e : sumN (mF s.w t) 32 = sumN (mF s.w t) k := sumN_0 k 32 (by omega) fun i a b => by
        unfold mF
        rw [if_neg]
        intro z
        have := (mm2 _ ml i b z).1
        omega
      rw [← e]
      exact hq h2 ho
    | succ j ih =>
      intro k h2 w1 hk ho hd hw1 e1
      refine fC_waysWithoutMiss_29 ?_
      have sb := mF_sum (w := s.w) ht (k := k) (by omega)
      have k1 : ((k + 1 : Nat) : Int) = (k : Int) + 1 := by omega
      have es : sumN (mF s.w t) (k + 1) = sumN (mF s.w t) k + mF s.w t k := rfl
      have hnext := fun h' w' => ih (k + 1) h' w' (by omega)
      rw [k1, es] at hnext
      simp (disch := omega) only [zI_add, zI_sub, zI_mul, zI_neg, zI_lt, zI_le, zI_eq, zI_div, zI_rem, ix_zI, inb_zI, nz_zI, imax_zI, imin_zI, c_t, nb01.1, nb01.2, zl_0, zl_1, zl_2, zl_3, zl_4, zl_5, zl_6, zl_7, zl_8, zl_9, zl_10, zl_11, zl_12, zl_13, zl_14, zl_15, zl_16, zl_17, zl_18, zl_19, zl_20, zl_24, zl_30, zl_31, zl_36, zl_42, zl_44, zl_48, zl_57, zl_58, zl_59, zl_60, zl_61, zl_62, zl_63, zl_64, zl_72, zl_73, zl_96, zl_99, zl_100, zl_104, zl_107, zl_111, zl_114, zl_116, zl_120, zl_200, zl_255, zl_256, zl_360, zl_600, zl_800, zl_1000, zl_2000, not_k, or_mm]
      refine ⟨fun z => by omega, fun _ => ⟨fun z => ?_, fun z => ?_⟩⟩
      · have z : k &&& (63 ^^^ mayS s.w) = 0 := by
          rw [zI_eq (by omega) (by have := Nat.and_le_left (n := k) (m := 63 ^^^ mayS s.w); omega) (by omega) (by omega)] at z
          omega
        have eF : mF s.w t k = gM s.w t k := if_pos z
        rw [eF] at hnext
        unfold gM at hnext
        have d3 : DW (upd2 h2 15 1 (zI ((onM s.w &&& (63 ^^^ mayS s.w)) ||| k : Nat))) 15 (wOn s.w k) := by
          refine hd.ons hw1 (fun i a b c => ?_) (fun q hq => upd2_ne q hq) (u_i (by omega)) ?_
          · rw [wo_ne (by omega)]; exact (e1 i a b c).symm
          · rw [onM_won hv.w (show k < 32 by omega) z, u_s]; rfl
        have o3 : Off cs h (upd2 h2 15 1 (zI ((onM s.w &&& (63 ^^^ mayS s.w)) ||| k : Nat))) := Off.up (P := cs) (by unfold cs; omega) ho
        have wn := hv.w.won k
        refine sPW_miss (Or.inr (Or.inl rfl)) d3 wn fun h4 o4 => ?_
        have d4 := d3.pw (Or.inr (Or.inl rfl)) o4
        have o5 := o3.tr (o4.mono fun _ => pw_cs)
        have ew : ∀ i : Int, 0 ≤ i → i < 73 → ¬ (42 ≤ i ∧ i < 48) → wOn s.w k i = s.w i := fun i _ _ c => wo_ne (by omega)
        have mb := missR_b (wOn s.w k) (ptsL (wOn s.w k)) (fun x h' => by have := ptsL_b wn x h'; omega)
        have mb2 : missT (wOn s.w k) = missR (wOn s.w k) (ptsL (wOn s.w k)) := rfl
        have hnext := hnext h4 (wOn s.w k) o5 d4 wn ew
        rw [zI_eq (by omega) (by omega) (by omega) (by omega)]
        refine ⟨fun y => ?_, fun y => ?_⟩
        · rw [if_neg y, Int.add_zero] at hnext
          exact hnext
        · rw [if_pos y, od_5 (show k < 32 by omega)] at hnext
          refine sJ_bitCount (by omega) (sC_power (by omega) (bm7 k (by omega)) ?_)
          rw [zL_add]
          exact hnext
      · have z : ¬ k &&& (63 ^^^ mayS s.w) = 0 := fun y => z (by rw [y]; rfl)
        have eF : mF s.w t k = 0 := if_neg z
        rw [eF, Int.add_zero] at hnext
        exact hnext h2 w1 ho hd hw1 e1
  have e0 : zI (onM s.w : Nat) &&& (zI (mayS s.w : Nat) ^^^ -1) = zI ((onM s.w &&& (63 ^^^ mayS s.w) : Nat) : Int) := not_k _ ol _ (by omega)
  rw [e0]
  exact key (mayS s.w + 1) 0 h1 s.w (by omega) o1 (c1.dw hv.w ha.w) hv.w (fun _ _ _ _ => rfl)
theorem qC_missing {Q : Int64 → Mem → Prop} {t p : Int} (hv : SV s) (ha : SA h s) (ht : I32 t) (hp : I32 p) (hq : ∀ h', SA h' (s.rfd (cMis t p)) → FA h h' → Q (zL (cAnsL (cMis t p) (missS s.w t p))) h') : CALLL E mC_missing [.ref 0, .int (zI t), .int (zI p)] h Q :=
  fC_missing (sC_outside (lo := 2) (hi := 20) ht (by unfold I32; omega) (by unfold I32; omega) (sC_otherThan (n := 2) hp (by unfold I32; omega) (sC_firstOf (cOut_b _ _ _) (sC_finL ha (cMis_b _ _) hq fun z K => by
    rw [cFst_0, cOut_0, cOth_0] at z
    have ml := may_lt hv.w
    have bb := below_b hv.w z.1
    have sb := mF_sum (w := s.w) z.1 (k := 32) (by omega)
    have e : h 1 1 &&& 31 = zI (mayS s.w : Nat) := by
      rw [show h 1 1 = zI (onM s.w : Nat) from ha.w.on]
      exact mm4 _ (onM_lt hv.w)
    rw [e]
    refine sC_ways hv ha z.1 fun h' o => sJ_bitCount (by omega) (sC_power (by omega) (bm7 _ (by omega)) ?_)
    have K := K h' o
    unfold missS at K
    rw [← od_5 ml]
    exact sC_partOf (by omega) (by omega) z.2 K))))
theorem qM_missing {Q : Int64 → Mem → Prop} {t p : Int} (hv : SV s) (hb : SB h s) (ht : I32 t) (hp : I32 p) (hq : ∀ h', SB h' (s.rfd (cMis t p)) → FB h h' → Q (zL (cAnsL (cMis t p) (missS s.w t p))) h') : CALLL E mM_missing [.ref 60, .int (zI t), .int (zI p)] h Q := by
  refine fM_missing ?_
  have hneg : ∀ c : Nat, cMis t p = c → c ≠ 0 → c ≤ 6 → CALLI E mM_refused [.ref 60, .int (zI (-(c : Nat)))] h fun v h' => Q (4000000000000000000 - v.toInt64) h' := fun c e n l => sM_refused hb n l fun h' a b => by
    have hq := hq h' (by rw [e]; exact a) b
    rw [e] at hq
    unfold cAnsL at hq
    rw [if_neg n] at hq
    simp (disch := omega) only [zI_L, lg_ltz, lg_gtz, zL_add, zL_sub, zL_mul, zL_div, zL_rem, nzL_zL, zm_0, zm_1, zm_2, zm_5, zm_8, zm_9, zm_15, zm_16, zm_11, zm_20, zm_59, zm_60, zm_96, zm_99, zm_255, zm_600, zm_2147483647, zm_4000000000000000000, zm_3, zm_48, zm_57]
    rw [show (4000000000000000000 : Int) - -(c : Int) = 4000000000000000000 + (c : Int) by omega]
    exact hq
  unfold cMis at hneg
  unfold I32 at ht hp
  have hn := hv.w.1
  have ml := may_lt hv.w
  have ol := onM_lt hv.w
  simp (disch := omega) only [zI_add, zI_sub, zI_mul, zI_neg, zI_lt, zI_le, zI_eq, zI_div, zI_rem, ix_zI, inb_zI, nz_zI, imax_zI, imin_zI, c_t, nb01.1, nb01.2, zl_0, zl_1, zl_2, zl_3, zl_4, zl_5, zl_6, zl_7, zl_8, zl_9, zl_10, zl_11, zl_12, zl_13, zl_14, zl_15, zl_16, zl_17, zl_18, zl_19, zl_20, zl_24, zl_30, zl_31, zl_36, zl_42, zl_44, zl_48, zl_57, zl_58, zl_59, zl_60, zl_61, zl_62, zl_63, zl_64, zl_72, zl_73, zl_96, zl_99, zl_100, zl_104, zl_107, zl_111, zl_114, zl_116, zl_120, zl_200, zl_255, zl_256, zl_360, zl_600, zl_800, zl_1000, zl_2000, zI_L, lg_ltz, lg_gtz, zL_add, zL_sub, zL_mul, zL_div, zL_rem, nzL_zL, zm_0, zm_1, zm_2, zm_5, zm_8, zm_9, zm_15, zm_16, zm_11, zm_20, zm_59, zm_60, zm_96, zm_99, zm_255, zm_600, zm_2147483647, zm_4000000000000000000, zm_3, zm_48, zm_57]
  refine sM_in (by omega) (by omega) (by omega) ?_
  by_cases c : 2 ≤ t ∧ t ≤ 20
  · rw [if_pos c]
    rw [cOut_0.mpr c] at hneg
    refine ⟨fun _ => sM_in (by omega) (by omega) (by omega) ?_, fun z => absurd z (by decide)⟩
    by_cases c2 : 0 ≤ p ∧ p ≤ 1
    · rw [if_pos c2]
      have hc : cMis t p = 0 := by unfold cMis; rw [cOut_0.mpr c, cOth_0.mpr (show 0 ≤ p ∧ p < 2 by omega)]; rfl
      rw [hc] at hq
      have hq : ∀ h', SB h' s → FB h h' → Q (zL (missS s.w t p)) h' := hq
      have bb := below_b hv.w c
      refine ⟨fun _ => sM_minds hb.w fun h1 f1 r1 => ?_, fun z => absurd z (by decide)⟩
      have k1 : K1 h h1 := K1.of (Or.inr rfl) f1
      have m1 : RW (h1 61) s.w := by rw [f1 61 (by omega)]; exact hb.w
      refine sM_onSet m1 hv.w ?_
      rw [show zI (onM s.w : Nat) &&& zI 31 = zI (mayS s.w : Nat) from mm4 _ ol]
      have s114 : ∀ (j k : Nat) (h2 : Mem) (w1 : Int → Int), k + j = 32 → K1 h h2 → RW (h2 61) w1 → RW (h2 63) s.w → (∀ x : Int, 0 ≤ x → x < 73 → ¬ (42 ≤ x ∧ x < 47) → w1 x = s.w x) →
          WP E mM_missing 114 [some (.ref 60), some (.int (zI t)), some (.int (zI p)), some (.int (zI (mayS s.w : Nat))), some (.long (zL (sumN (rF s.w t) k))), none, some (.long (zL (odS (mayS s.w) t 5))), none, some (.int (zI k)), none, none, none] [] h2 (qL Q) := by
        intro j
        induction j with
        | zero =>
          intro k h2 w1 hk k2 r2 r3 e1
          refine fM_missing_114 ?_
          have sb := rF_sumb hv.w c (k := k) (by omega)
          simp (disch := omega) only [zI_add, zI_sub, zI_mul, zI_neg, zI_lt, zI_le, zI_eq, zI_div, zI_rem, ix_zI, inb_zI, nz_zI, imax_zI, imin_zI, c_t, nb01.1, nb01.2, zl_0, zl_1, zl_2, zl_3, zl_4, zl_5, zl_6, zl_7, zl_8, zl_9, zl_10, zl_11, zl_12, zl_13, zl_14, zl_15, zl_16, zl_17, zl_18, zl_19, zl_20, zl_24, zl_30, zl_31, zl_36, zl_42, zl_44, zl_48, zl_57, zl_58, zl_59, zl_60, zl_61, zl_62, zl_63, zl_64, zl_72, zl_73, zl_96, zl_99, zl_100, zl_104, zl_107, zl_111, zl_114, zl_116, zl_120, zl_200, zl_255, zl_256, zl_360, zl_600, zl_800, zl_1000, zl_2000, zl_32]
          refine ⟨fun _ => sM_forgets r3 fun h3 f3 r4 => sM_part (by omega) (by omega) (by omega) ?_, fun z => by omega⟩
          have k3 : K1 h h3 := k2.tr (K1.of (Or.inl rfl) f3)
          have := hq h3 (k3.sb0 hb r4) k3.fb
          unfold missS at this
          rw [← rF_sum hv.w, show 32 = k by omega] at this
          exact this
        | succ j ih =>
          intro k h2 w1 hk k2 r2 r3 e1
          refine fM_missing_114 ?_
          have sb := rF_sumb hv.w c (k := k) (by omega)
          have kk1 : ((k + 1 : Nat) : Int) = (k : Int) + 1 := by omega
          have es : sumN (rF s.w t) (k + 1) = sumN (rF s.w t) k + rF s.w t k := rfl
          have hnext := fun h' w' => ih (k + 1) h' w' (by omega)
          rw [kk1, es] at hnext
          simp (disch := omega) only [zI_add, zI_sub, zI_mul, zI_neg, zI_lt, zI_le, zI_eq, zI_div, zI_rem, ix_zI, inb_zI, nz_zI, imax_zI, imin_zI, c_t, nb01.1, nb01.2, zl_0, zl_1, zl_2, zl_3, zl_4, zl_5, zl_6, zl_7, zl_8, zl_9, zl_10, zl_11, zl_12, zl_13, zl_14, zl_15, zl_16, zl_17, zl_18, zl_19, zl_20, zl_24, zl_30, zl_31, zl_36, zl_42, zl_44, zl_48, zl_57, zl_58, zl_59, zl_60, zl_61, zl_62, zl_63, zl_64, zl_72, zl_73, zl_96, zl_99, zl_100, zl_104, zl_107, zl_111, zl_114, zl_116, zl_120, zl_200, zl_255, zl_256, zl_360, zl_600, zl_800, zl_1000, zl_2000, zl_32, not_k]
          refine ⟨fun z => by omega, fun _ => ⟨fun z => ?_, fun z => ?_⟩⟩
          · have z : ¬ k &&& (63 ^^^ mayS s.w) = 0 := fun y => z (by rw [y]; rfl)
            have eF : rF s.w t k = 0 := if_neg z
            rw [eF, Int.add_zero] at hnext
            exact hnext h2 w1 k2 r2 r3 e1
          · have z : k &&& (63 ^^^ mayS s.w) = 0 := by
              rw [zI_eq (by have := Nat.and_le_left (n := k) (m := 63 ^^^ mayS s.w); omega) (by have := Nat.and_le_left (n := k) (m := 63 ^^^ mayS s.w); omega) (by omega) (by omega)] at z
              omega
            have eF : rF s.w t k = gM s.w t (mayS s.w &&& (63 ^^^ k)) := if_pos z
            rw [eF] at hnext
            have Sl : mayS s.w &&& (63 ^^^ k) < 32 := Nat.lt_of_le_of_lt Nat.and_le_left ml
            have S64 : mayS s.w &&& (63 ^^^ k) < 64 := by omega
            generalize hS : mayS s.w &&& (63 ^^^ k) = S at hnext Sl S64
            have s136 : ∀ (i j : Nat) (h3 : Mem) (w3 : Int → Int), j + i = 5 → K1 h h3 → RW (h3 61) w3 → RW (h3 63) s.w → (∀ x : Int, 0 ≤ x → x < 73 → ¬ (42 ≤ x ∧ x < 47) → w3 x = s.w x) → (∀ a : Nat, a < j → w3 (42 + (a : Int)) = if S.testBit a then 1 else 0) →
                WP E mM_missing 136 [some (.ref 60), some (.int (zI t)), some (.int (zI p)), some (.int (zI (mayS s.w : Nat))), some (.long (zL (sumN (rF s.w t) k))), none, some (.long (zL (odS (mayS s.w) t 5))), none, some (.int (zI k)), some (.long (zL (odS S (t - 1) j))), none, some (.int (zI j))] [] h3 (qL Q) := by
              intro i
              induction i with
              | zero =>
                intro j h3 w3 hj k3 r31 r33 ex ea
                refine fM_missing_136 ?_
                have rw3 : RW (h3 61) (wOn s.w S) := r31.cg fun x x0 x1 => by
                  by_cases cx : 42 ≤ x ∧ x < 47
                  · have := ea (x - 42).toNat (by omega)
                    rw [show (42 : Int) + ((x - 42).toNat : Int) = x by omega] at this
                    rw [this]
                    exact if_pos cx
                  · rw [wo_ne cx]; exact (ex x x0 x1 cx).symm
                have wn := hv.w.won S
                have mb := missR_b (wOn s.w S) (ptsL (wOn s.w S)) (fun x h' => by have := ptsL_b wn x h'; omega)
                have mb2 : missT (wOn s.w S) = missR (wOn s.w S) (ptsL (wOn s.w S)) := rfl
                have j5 : j = 5 := by omega
                subst j5
                simp (disch := omega) only [zI_add, zI_sub, zI_mul, zI_neg, zI_lt, zI_le, zI_eq, zI_div, zI_rem, ix_zI, inb_zI, nz_zI, imax_zI, imin_zI, c_t, nb01.1, nb01.2, zl_0, zl_1, zl_2, zl_3, zl_4, zl_5, zl_6, zl_7, zl_8, zl_9, zl_10, zl_11, zl_12, zl_13, zl_14, zl_15, zl_16, zl_17, zl_18, zl_19, zl_20, zl_24, zl_30, zl_31, zl_36, zl_42, zl_44, zl_48, zl_57, zl_58, zl_59, zl_60, zl_61, zl_62, zl_63, zl_64, zl_72, zl_73, zl_96, zl_99, zl_100, zl_104, zl_107, zl_111, zl_114, zl_116, zl_120, zl_200, zl_255, zl_256, zl_360, zl_600, zl_800, zl_1000, zl_2000, zI_L, lg_ltz, lg_gtz, zL_add, zL_sub, zL_mul, zL_div, zL_rem, nzL_zL, zm_0, zm_1, zm_2, zm_5, zm_8, zm_9, zm_15, zm_16, zm_11, zm_20, zm_59, zm_60, zm_96, zm_99, zm_255, zm_600, zm_2147483647, zm_4000000000000000000, zm_3, zm_48, zm_57]
                refine ⟨fun _ => sM_isMissed rw3 wn fun h4 fp => ?_, fun z => by omega⟩
                have k4 := k3.tr fp.KM.k1
                have hnext := hnext h4 (wOn s.w S) k4 (fp.KM.w rw3) (by rw [fp.KM.1 63 (by omega)]; exact r33) (fun x _ _ cx => wo_ne cx)
                unfold gM at hnext
                by_cases g : 0 ≤ missT (wOn s.w S)
                · rw [if_pos g]
                  rw [if_neg (by omega)] at hnext
                  exact ⟨fun z => absurd z (by decide), fun _ => hnext⟩
                · rw [if_neg g]
                  rw [if_pos (by omega)] at hnext
                  exact ⟨fun _ => hnext, fun z => absurd rfl z⟩
              | succ i ih2 =>
                intro j h3 w3 hj k3 r31 r33 ex ea
                refine fM_missing_136 ?_
                have jj1 : ((j + 1 : Nat) : Int) = (j : Int) + 1 := by omega
                have od1 : odS S (t - 1) (j + 1) = if S.testBit j then odS S (t - 1) j * (t - 1) else odS S (t - 1) j := rfl
                have ob := od_b (m := S) (c := t - 1) (by omega) (k := j) (by omega)
                have go : ∀ b : Int, (b = if S.testBit j then 1 else 0) → WP E mM_missing 136 [some (.ref 60), some (.int (zI t)), some (.int (zI p)), some (.int (zI (mayS s.w : Nat))), some (.long (zL (sumN (rF s.w t) k))), none, some (.long (zL (odS (mayS s.w) t 5))), none, some (.int (zI k)), some (.long (zL (odS S (t - 1) (j + 1)))), none, some (.int (zI (j + 1)))] [] (upd2 h3 61 (42 + (j : Int)).toNat (zI b)) (qL Q) := fun b eb => by
                  have r4 := r31.up (j := 42 + (j : Int)) (v := b) (by omega) (by omega)
                  have := ih2 (j + 1) _ (fset w3 (42 + (j : Int)) b) (by omega) (k3.up (p := 61) (i := (42 + (j : Int)).toNat) (x := zI b) (Or.inl rfl)) r4 (by rw [upd2_ne 63 (by omega)]; exact r33) (fun x x0 x1 cx => by rw [fs_ne (by omega)]; exact ex x x0 x1 cx) (fun a ha => by
                    by_cases e : a = j
                    · rw [e, fs_eq]; exact eb
                    · rw [fs_ne (by omega)]; exact ea a (by omega))
                  rw [jj1] at this
                  exact this
                rw [od1] at go
                have e1 : zI (mayS s.w : Nat) &&& (zI (k : Int) ^^^ -1) = zI (S : Nat) := by rw [← hS]; exact not_k _ (by omega) k (by omega)
                rw [e1]
                have tb : ∀ (Q2 : Int32 → Mem → Prop) (h4 : Mem), Q2 (if S.testBit j then 1 else 0) h4 → CALLI E mM_has [.int (zI (S : Nat)), .int (zI (j : Int))] h4 Q2 := fun Q2 h4 y => sM_has S64 (by omega) (by omega) y
                rw [show (5 : Int32) = zI 5 from rfl, zI_le (by omega) (by omega) (by omega) (by omega)]
                refine ⟨fun z => by omega, fun _ => tb _ _ ?_⟩
                by_cases bt : S.testBit j = true
                · have go1 := go 1 (by rw [if_pos bt])
                  rw [if_pos bt] at go1
                  rw [if_pos bt]
                  refine ⟨fun z => absurd z (by decide), fun _ => tb _ _ ?_⟩
                  rw [if_pos bt]
                  refine ⟨fun z => absurd z (by decide), fun _ => ?_⟩
                  simp (disch := omega) only [zI_add, zI_sub, zI_mul, zI_neg, zI_lt, zI_le, zI_eq, zI_div, zI_rem, ix_zI, inb_zI, nz_zI, imax_zI, imin_zI, c_t, nb01.1, nb01.2, zl_0, zl_1, zl_2, zl_3, zl_4, zl_5, zl_6, zl_7, zl_8, zl_9, zl_10, zl_11, zl_12, zl_13, zl_14, zl_15, zl_16, zl_17, zl_18, zl_19, zl_20, zl_24, zl_30, zl_31, zl_36, zl_42, zl_44, zl_48, zl_57, zl_58, zl_59, zl_60, zl_61, zl_62, zl_63, zl_64, zl_72, zl_73, zl_96, zl_99, zl_100, zl_104, zl_107, zl_111, zl_114, zl_116, zl_120, zl_200, zl_255, zl_256, zl_360, zl_600, zl_800, zl_1000, zl_2000, zI_L, lg_ltz, lg_gtz, zL_add, zL_sub, zL_mul, zL_div, zL_rem, nzL_zL, zm_0, zm_1, zm_2, zm_5, zm_8, zm_9, zm_15, zm_16, zm_11, zm_20, zm_59, zm_60, zm_96, zm_99, zm_255, zm_600, zm_2147483647, zm_4000000000000000000, zm_3, zm_48, zm_57]
                  exact go1
                · have go1 := go 0 (by rw [if_neg bt])
                  rw [if_neg bt] at go1
                  rw [if_neg bt]
                  refine ⟨fun _ => tb _ _ ?_, fun z => absurd rfl z⟩
                  rw [if_neg bt]
                  refine ⟨fun _ => ?_, fun z => absurd rfl z⟩
                  simp (disch := omega) only [zI_add, zI_sub, zI_mul, zI_neg, zI_lt, zI_le, zI_eq, zI_div, zI_rem, ix_zI, inb_zI, nz_zI, imax_zI, imin_zI, c_t, nb01.1, nb01.2, zl_0, zl_1, zl_2, zl_3, zl_4, zl_5, zl_6, zl_7, zl_8, zl_9, zl_10, zl_11, zl_12, zl_13, zl_14, zl_15, zl_16, zl_17, zl_18, zl_19, zl_20, zl_24, zl_30, zl_31, zl_36, zl_42, zl_44, zl_48, zl_57, zl_58, zl_59, zl_60, zl_61, zl_62, zl_63, zl_64, zl_72, zl_73, zl_96, zl_99, zl_100, zl_104, zl_107, zl_111, zl_114, zl_116, zl_120, zl_200, zl_255, zl_256, zl_360, zl_600, zl_800, zl_1000, zl_2000, zI_L, lg_ltz, lg_gtz, zL_add, zL_sub, zL_mul, zL_div, zL_rem, nzL_zL, zm_0, zm_1, zm_2, zm_5, zm_8, zm_9, zm_15, zm_16, zm_11, zm_20, zm_59, zm_60, zm_96, zm_99, zm_255, zm_600, zm_2147483647, zm_4000000000000000000, zm_3, zm_48, zm_57, Int.mul_one]
                  exact go1
            exact s136 5 0 h2 w1 rfl k2 r2 r3 e1 (fun a ha => absurd ha (Nat.not_lt_zero a))
      have s79 : ∀ (j k : Nat), k + j = 5 → WP E mM_missing 79 [some (.ref 60), some (.int (zI t)), some (.int (zI p)), some (.int (zI (mayS s.w : Nat))), some (.long (zL 0)), none, some (.long (zL (odS (mayS s.w) t k))), none, some (.int (zI k)), none, none, none] [] h1 (qL Q) := by
        intro j
        induction j with
        | zero =>
          intro k hk
          refine fM_missing_79 ?_
          have k5 : k = 5 := by omega
          subst k5
          exact ⟨fun _ => s114 32 0 h1 s.w rfl k1 m1 r1 (fun _ _ _ _ => rfl), fun z => absurd (by decide) z⟩
        | succ j ih =>
          intro k hk
          refine fM_missing_79 ?_
          have ob := od_b (m := mayS s.w) (c := t) (by omega) (k := k) (by omega)
          have kk1 : ((k + 1 : Nat) : Int) = (k : Int) + 1 := by omega
          have od1 : odS (mayS s.w) t (k + 1) = if (mayS s.w).testBit k then odS (mayS s.w) t k * t else odS (mayS s.w) t k := rfl
          have hnext := ih (k + 1) (by omega)
          rw [kk1, od1] at hnext
          simp (disch := omega) only [zI_add, zI_sub, zI_mul, zI_neg, zI_lt, zI_le, zI_eq, zI_div, zI_rem, ix_zI, inb_zI, nz_zI, imax_zI, imin_zI, c_t, nb01.1, nb01.2, zl_0, zl_1, zl_2, zl_3, zl_4, zl_5, zl_6, zl_7, zl_8, zl_9, zl_10, zl_11, zl_12, zl_13, zl_14, zl_15, zl_16, zl_17, zl_18, zl_19, zl_20, zl_24, zl_30, zl_31, zl_36, zl_42, zl_44, zl_48, zl_57, zl_58, zl_59, zl_60, zl_61, zl_62, zl_63, zl_64, zl_72, zl_73, zl_96, zl_99, zl_100, zl_104, zl_107, zl_111, zl_114, zl_116, zl_120, zl_200, zl_255, zl_256, zl_360, zl_600, zl_800, zl_1000, zl_2000]
          refine ⟨fun z => by omega, fun _ => sM_has (show mayS s.w < 64 by omega) (by omega) (by omega) ?_⟩
          rw [Int.toNat_natCast]
          by_cases bt : (mayS s.w).testBit k = true
          · rw [if_pos bt] at hnext ⊢
            refine ⟨fun z => absurd z (by decide), fun _ => ?_⟩
            simp (disch := omega) only [zI_L, lg_ltz, lg_gtz, zL_add, zL_sub, zL_mul, zL_div, zL_rem, nzL_zL, zm_0, zm_1, zm_2, zm_5, zm_8, zm_9, zm_15, zm_16, zm_11, zm_20, zm_59, zm_60, zm_96, zm_99, zm_255, zm_600, zm_2147483647, zm_4000000000000000000, zm_3, zm_48, zm_57]
            exact hnext
          · rw [if_neg bt] at hnext ⊢
            refine ⟨fun _ => ?_, fun z => absurd rfl z⟩
            simp (disch := omega) only [zI_L, lg_ltz, lg_gtz, zL_add, zL_sub, zL_mul, zL_div, zL_rem, nzL_zL, zm_0, zm_1, zm_2, zm_5, zm_8, zm_9, zm_15, zm_16, zm_11, zm_20, zm_59, zm_60, zm_96, zm_99, zm_255, zm_600, zm_2147483647, zm_4000000000000000000, zm_3, zm_48, zm_57, Int.mul_one]
            exact hnext
      exact s79 5 0 rfl
    · rw [if_neg c2]
      exact ⟨fun z => absurd rfl z, fun _ => hneg 2 (by rw [cOth_2 (by omega)]; rfl) (by omega) (by omega)⟩
  · rw [if_neg c]
    refine ⟨fun z => absurd rfl z, fun _ => ⟨fun z => ?_, fun z => ?_⟩⟩
    · have e : cOut t 2 20 = 6 := by unfold cOut; rw [if_neg (by omega), if_pos (by omega)]
      exact hneg 6 (by rw [e]; rfl) (by omega) (by omega)
    · have e : cOut t 2 20 = 4 := by unfold cOut; rw [if_pos (by omega)]
      exact hneg 4 (by rw [e]; rfl) (by omega) (by omega)
end MI3
