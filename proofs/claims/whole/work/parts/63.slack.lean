/-! ===== slack ===== -/
def goodS (w : Int → Int) (pol : Int) : Bool := if pol = 3 then decide (missT w = -9) else allFit w pol
def slF (w : Int → Int) (pol t : Int) (v : Int) : Bool := goodS (fset w t (w t + v)) pol
def slackS (w : Int → Int) (pol t : Int) : Int := slR (slF w pol t) 100 0 (-9)
def cSlk (w : Int → Int) (t : Int) : Nat := cFst (cTask w t) (cOff w t)
theorem cSlk_b (w : Int → Int) (t : Int) : cSlk w t ≤ 6 := cFst_b (cTask_b _ _) (cOff_b _ _)
theorem WF.cost {w : Int → Int} (hw : WF w) {t v : Int} (h0 : 0 ≤ t) (h1 : t < w 72) (hv : 1 ≤ v ∧ v ≤ 200) : WF (fset w t v) := hw.put h0 h1 (Or.inl ⟨rfl, hv⟩)
theorem slF_anti {w : Int → Int} (hw : WF w) (hc : C20 w) {pol t : Int} (h0 : 0 ≤ t) (h1 : t < w 72) {a b : Int} (ha : 0 ≤ a) (hab : a ≤ b) (hb : b ≤ 100) (h : slF w pol t b = true) : slF w pol t a = true := by
  have c20 := hc t h0 h1
  have bt := hw.at h0 h1
  have cl : CLe (fset w t (w t + a)) (fset w t (w t + b)) := by
    refine ⟨fun x hx => by rw [fs_ne (by omega), fs_ne (by omega)], fun i i0 i1 => ?_⟩
    unfold fset
    split <;> omega
  have wa := hw.cost (v := w t + a) h0 h1 (by omega)
  have wb := hw.cost (v := w t + b) h0 h1 (by omega)
  unfold slF goodS at h ⊢
  by_cases p : pol = 3
  · rw [if_pos p] at h ⊢
    rw [decide_eq_true_iff] at h ⊢
    exact cl_miss cl wa wb h
  · rw [if_neg p] at h ⊢
    exact cl_all cl wa wb h
section SL
variable {E : XE} {h : Mem} {s : St} {w : Int → Int}
theorem sC_trialGood {Q : Int32 → Mem → Prop} {pol : Int} (hd : DW h 15 w) (hw : WF w) (hp : 0 ≤ pol ∧ pol < 4) (hq : ∀ h', Off cs h h' → DW h' 15 w → Q (if goodS w pol = true then 1 else 0) h') : CALLI E mC_isTrialGood [.ref 0, .int (zI pol)] h Q := by
  refine fC_isTrialGood ?_
  unfold goodS at hq
  rw [show (3 : Int32) = zI 3 from rfl, zI_eq (by omega) (by omega) (by omega) (by omega)]
  refine ⟨fun z => ?_, fun z => ?_⟩
  · simp only [if_neg z] at hq
    refine sRS_fitting (Or.inl rfl) (Or.inr (Or.inl rfl)) hd hw (by omega) fun h' ho => ?_
    have d' : DW h' 15 w := hd.kp fun q a b => ho q (fun z => by have z : q = 44 ∨ q = 46 := z; omega)
    have hq := hq h' (ho.mono fun _ => rs_cs) d'
    unfold allFit at hq
    have f1 := fitsM_lt hw (pol := pol)
    have f2 := onM_lt hw
    rw [show h' 15 1 = zI (onM w : Nat) from d'.on, zI_eq (by omega) (by omega) (by omega) (by omega)]
    refine ⟨fun y => ?_, fun y => ?_⟩
    · rw [if_neg (by rw [decide_eq_true_iff]; omega)] at hq; exact hq
    · rw [if_pos (by rw [decide_eq_true_iff]; omega)] at hq; exact hq
  · simp only [if_pos z] at hq
    refine sPW_miss (Or.inr (Or.inl rfl)) hd hw fun h' ho => ?_
    have hq := hq h' (ho.mono fun _ => pw_cs) (hd.pw (Or.inr (Or.inl rfl)) ho)
    have mb := missR_b w (ptsL w) (fun x h' => by have := ptsL_b hw x h'; omega)
    have mb2 : missT w = missR w (ptsL w) := rfl
    rw [show (-9 : Int32) = zI (-9) from rfl, zI_eq (by omega) (by omega) (by omega) (by omega)]
    refine ⟨fun y => ?_, fun y => ?_⟩
    · rw [if_neg (by rw [decide_eq_true_iff]; exact y)] at hq; exact hq
    · rw [if_pos (by rw [decide_eq_true_iff]; exact y)] at hq; exact hq
theorem sC_mostMore {Q : Int32 → Mem → Prop} {pol t : Int} (hv : SV s) (ha : SA h s) (hp : 0 ≤ pol ∧ pol < 4) (h0 : 0 ≤ t) (h1 : t < s.w 72) (hq : ∀ h', Off cs h h' → Q (zI (slackS s.w pol t)) h') : CALLI E mC_mostMore [.ref 0, .int (zI pol), .int (zI t)] h Q := by
  have c20 := hv.c t h0 h1
  have bt := hv.w.at h0 h1
  refine fC_mostMore (sD_copyFrom (Or.inr (Or.inl rfl)) (Or.inl rfl) (by omega) fun h1' c1 => ?_)
  have o1 : Off cs h h1' := fun q hq => c1.1 q (by unfold cs at hq; omega)
  have key : ∀ (n : Nat) (low high st : Int) (h2 : Mem) (x : Int), high - low + 1 = n → 0 ≤ low → low ≤ high + 1 → high ≤ 99 → 0 ≤ st → st + n ≤ 100 → Off cs h h2 → DW h2 15 (fset s.w t x) → 1 ≤ x ∧ x ≤ 200 → (∀ i : Int, 0 ≤ i → i < low → slF s.w pol t i = true) → (high = 99 ∨ slF s.w pol t (high + 1) = false) →
      WP E mC_mostMore 24 [some (.ref 0), some (.int (zI pol)), some (.int (zI t)), some (.int (zI (if low = 0 then -9 else low - 1))), some (.int (zI low)), some (.int (zI high)), some (.int (zI st)), none] [] h2 (qI Q) := by
    intro n
    induction n using Nat.strongRecOn with
    | ind n ih =>
      intro low high st h2 x hn hl hlh hh hs hsn ho hd hx hF hG
      refine fC_mostMore_24 ?_
      have fin : high < low → Q (zI (if low = 0 then -9 else low - 1)) h2 := fun z => by
        have e : low = high + 1 := by omega
        have sl := slR_eq (F := slF s.w pol t) low.toNat 100 0 (-9) (by omega) (fun i a b => hF i a (by omega)) (by
          rcases hG with g | g
          · exact Or.inl (by omega)
          · right
            rw [show (0 : Int) + (low.toNat : Int) = high + 1 by omega]
            exact g)
        have hq := hq h2 ho
        unfold slackS at hq
        rw [sl] at hq
        by_cases z0 : low = 0
        · rw [if_pos z0]
          rw [if_pos (by omega)] at hq
          exact hq
        · rw [if_neg z0]
          rw [if_neg (by omega), show (0 : Int) + (low.toNat : Int) - 1 = low - 1 by omega] at hq
          exact hq
      have lb : -9 ≤ (if low = 0 then -9 else low - 1) ∧ (if low = 0 then -9 else low - 1) ≤ 99 := by split <;> omega
      have e2 : h2 2 t.toNat = zI (s.w t) := by rw [ho 2 (by unfold cs; omega)]; exact ha.w.r1 h0 h1
      generalize hm : (if low = 0 then (-9 : Int) else low - 1) = mo at fin lb ⊢
      by_cases z : high < low
      · simp (disch := omega) only [zI_add, zI_sub, zI_mul, zI_neg, zI_lt, zI_le, zI_eq, zI_div, zI_rem, ix_zI, inb_zI, nz_zI, imax_zI, imin_zI, c_t, nb01.1, nb01.2, zl_0, zl_1, zl_2, zl_3, zl_4, zl_5, zl_6, zl_7, zl_8, zl_9, zl_10, zl_11, zl_12, zl_13, zl_14, zl_15, zl_16, zl_17, zl_18, zl_19, zl_20, zl_24, zl_30, zl_31, zl_36, zl_42, zl_44, zl_48, zl_57, zl_58, zl_59, zl_60, zl_61, zl_62, zl_63, zl_64, zl_72, zl_73, zl_96, zl_99, zl_100, zl_104, zl_107, zl_111, zl_114, zl_116, zl_120, zl_200, zl_255, zl_256, zl_360, zl_600, zl_800, zl_1000, zl_2000]
        exact ⟨fun _ => fin z, fun _ => ⟨fun _ => fin z, fun y => absurd z y⟩⟩
      · have q0 : 0 ≤ (low + high) / 2 := Int.ediv_nonneg (by omega) (by omega)
        have m1 : low ≤ (low + high) / 2 := by omega
        have m2 : (low + high) / 2 ≤ high := by omega
        simp (disch := omega) only [zI_add, zI_sub, zI_mul, zI_neg, zI_lt, zI_le, zI_eq, zI_div, zI_rem, ix_zI, inb_zI, nz_zI, imax_zI, imin_zI, c_t, nb01.1, nb01.2, zl_0, zl_1, zl_2, zl_3, zl_4, zl_5, zl_6, zl_7, zl_8, zl_9, zl_10, zl_11, zl_12, zl_13, zl_14, zl_15, zl_16, zl_17, zl_18, zl_19, zl_20, zl_24, zl_30, zl_31, zl_36, zl_42, zl_44, zl_48, zl_57, zl_58, zl_59, zl_60, zl_61, zl_62, zl_63, zl_64, zl_72, zl_73, zl_96, zl_99, zl_100, zl_104, zl_107, zl_111, zl_114, zl_116, zl_120, zl_200, zl_255, zl_256, zl_360, zl_600, zl_800, zl_1000, zl_2000, e2]
        refine ⟨fun y => by omega, fun _ => ⟨fun y => absurd y z, fun _ => ?_⟩⟩
        generalize hmid : (low + high) / 2 = mid at m1 m2 q0 ⊢
        have wx := hv.w.cost (v := x) h0 h1 hx
        have d3 := hd.put (r := 1) (b := 0) (v := s.w t + mid) wx (by omega) h0 (by rw [fs_ne (by omega)]; exact h1)
        rw [Int.zero_add, fs_fs] at d3
        have wn := hv.w.cost (v := s.w t + mid) h0 h1 (by omega)
        have o3 : Off cs h (upd2 h2 (15 + 1) t.toNat (zI (s.w t + mid))) := Off.up (P := cs) (by unfold cs; omega) ho
        refine sC_trialGood d3 wn hp fun h4 o4 d4 => ?_
        by_cases g : goodS (fset s.w t (s.w t + mid)) pol = true
        · rw [if_pos g]
          refine ⟨fun y => absurd y (by decide), fun _ => ?_⟩
          have := ih (high - (mid + 1) + 1).toNat (by omega) (mid + 1) high (st + 1) h4 (s.w t + mid) (by omega) (by omega) (by omega) hh (by omega) (by omega) (o3.tr o4) d4 (by omega) (fun i a b => slF_anti hv.w hv.c h0 h1 a (show i ≤ mid by omega) (by omega) g) hG
          rw [if_neg (show ¬ mid + 1 = 0 by omega), show mid + 1 - 1 = mid by omega] at this
          exact this
        · rw [if_neg g]
          refine ⟨fun _ => ?_, fun y => absurd rfl y⟩
          have := ih (mid - 1 - low + 1).toNat (by omega) low (mid - 1) (st + 1) h4 (s.w t + mid) (by omega) hl (by omega) (by omega) (by omega) (by omega) (o3.tr o4) d4 (by omega) hF (Or.inr (by
            rw [show mid - 1 + 1 = mid by omega]
            unfold slF
            simpa using g))
          rw [hm] at this
          exact this
  exact key 100 0 99 0 h1' (s.w t) (by omega) (by omega) (by omega) (by omega) (by omega) (by omega) o1 (by rw [fs_self]; exact c1.dw hv.w ha.w) (by omega) (fun i a b => by omega) (Or.inl rfl)
theorem qC_slack {Q : Int32 → Mem → Prop} {t : Int} (hv : SV s) (ha : SA h s) (ht : I32 t) (hq : ∀ h', SA h' (s.rfd (cSlk s.w t)) → FA h h' → Q (zI (cAns (cSlk s.w t) (slackS s.w 3 t))) h') : CALLI E mC_slack [.ref 0, .int (zI t)] h Q :=
  fC_slack (sC_missingTask hv ha ht (sC_turnedOff hv ha ht (sC_firstOf (cTask_b _ _) (sC_fin ha (cSlk_b _ _) hq fun z K => by
    rw [cFst_0, cTask_0, cOff_0] at z
    exact sC_mostMore (pol := 3) hv ha (by omega) z.1.1 z.1.2 K))))
theorem qC_slackBy {Q : Int32 → Mem → Prop} {pol t : Int} (hv : SV s) (ha : SA h s) (hp : I32 pol) (ht : I32 t) (hq : ∀ h', SA h' (s.rfd (cIn s.w pol t)) → FA h h' → Q (zI (cAns (cIn s.w pol t) (slackS s.w pol t))) h') : CALLI E mC_slackBy [.ref 0, .int (zI pol), .int (zI t)] h Q :=
  fC_slackBy (sC_notInOrder hv ha hp ht (sC_fin ha (cIn_b _ _ _) hq fun z K => by
    rw [cIn_0] at z
    exact sC_mostMore hv ha (by omega) z.2.1 z.2.2.1 K))
theorem qM_slack {Q : Int32 → Mem → Prop} {t : Int} (hv : SV s) (hb : SB h s) (ht : I32 t) (hq : ∀ h', SB h' (s.rfd (cSlk s.w t)) → FB h h' → Q (zI (cAns (cSlk s.w t) (slackS s.w 3 t))) h') : CALLI E mM_slack [.ref 60, .int (zI t)] h Q := by
  refine fM_slack (sM_isTask hb.w hv.w ht ?_)
  have hn := hv.w.1
  by_cases c : 0 ≤ t ∧ t < s.w 72
  · rw [if_pos c]
    refine ⟨fun _ => sM_isOn hb.w hv.w (by omega) (by omega) ?_, fun z => absurd z (by decide)⟩
    by_cases c2 : s.w (42 + t) = 1
    · rw [if_pos c2]
      have c20 := hv.c t c.1 c.2
      have bt := hv.w.at c.1 c.2
      have hc : cSlk s.w t = 0 := by unfold cSlk; rw [cTask_0.mpr c, cOff_0.mpr ⟨c.1, c.2, c2⟩]; rfl
      rw [hc] at hq
      have hq : ∀ h', SB h' s → FB h h' → Q (zI (slackS s.w 3 t)) h' := hq
      refine ⟨fun _ => ?_, fun z => absurd z (by decide)⟩
      simp (disch := omega) only [zI_add, zI_sub, zI_mul, zI_neg, zI_lt, zI_le, zI_eq, zI_div, zI_rem, ix_zI, inb_zI, nz_zI, imax_zI, imin_zI, c_t, nb01.1, nb01.2, zl_0, zl_1, zl_2, zl_3, zl_4, zl_5, zl_6, zl_7, zl_8, zl_9, zl_10, zl_11, zl_12, zl_13, zl_14, zl_15, zl_16, zl_17, zl_18, zl_19, zl_20, zl_24, zl_30, zl_31, zl_36, zl_42, zl_44, zl_48, zl_57, zl_58, zl_59, zl_60, zl_61, zl_62, zl_63, zl_64, zl_72, zl_73, zl_96, zl_99, zl_100, zl_104, zl_107, zl_111, zl_114, zl_116, zl_120, zl_200, zl_255, zl_256, zl_360, zl_600, zl_800, zl_1000, zl_2000, Int.zero_add, hb.w _]
      have key : ∀ (f : Nat) (v m : Int) (h1 : Mem) (x : Int), v + f = 100 → 0 ≤ v → -9 ≤ m ∧ m ≤ 100 → K1 h h1 → RW (h1 61) (fset s.w t x) → (v < 100 → x = s.w t + v) → slR (slF s.w 3 t) f v m = slackS s.w 3 t → WP E mM_slack 44 [some (.ref 60), some (.int (zI t)), some (.int (zI (s.w t))), some (.int (zI m)), some (.int (zI v))] [] h1 (qI Q) := by
        intro f
        induction f with
        | zero =>
          intro v m h1 x hf hv0 hm k1 r1 ex e
          refine fM_slack_44 ?_
          have r2 := r1.up (j := t) (v := s.w t) (by omega) (by omega)
          rw [fs_fs, fs_self] at r2
          have K := hq _ ((k1.up (p := 61) (i := t.toNat) (x := zI (s.w t)) (Or.inl rfl)).sb0 hb r2) (k1.up (Or.inl rfl)).fb
          rw [← e] at K
          simp (disch := omega) only [zI_add, zI_sub, zI_mul, zI_neg, zI_lt, zI_le, zI_eq, zI_div, zI_rem, ix_zI, inb_zI, nz_zI, imax_zI, imin_zI, c_t, nb01.1, nb01.2, zl_0, zl_1, zl_2, zl_3, zl_4, zl_5, zl_6, zl_7, zl_8, zl_9, zl_10, zl_11, zl_12, zl_13, zl_14, zl_15, zl_16, zl_17, zl_18, zl_19, zl_20, zl_24, zl_30, zl_31, zl_36, zl_42, zl_44, zl_48, zl_57, zl_58, zl_59, zl_60, zl_61, zl_62, zl_63, zl_64, zl_72, zl_73, zl_96, zl_99, zl_100, zl_104, zl_107, zl_111, zl_114, zl_116, zl_120, zl_200, zl_255, zl_256, zl_360, zl_600, zl_800, zl_1000, zl_2000, Int.zero_add]
          exact ⟨fun _ => K, fun z => by omega⟩
        | succ f ih =>
          intro v m h1 x hf hv0 hm k1 r1 ex e
          refine fM_slack_44 ?_
          have ex := ex (by omega)
          subst ex
          have wx := hv.w.cost (v := s.w t + v) c.1 c.2 (by omega)
          unfold slR at e
          have ef : slF s.w 3 t v = decide (missT (fset s.w t (s.w t + v)) = -9) := by unfold slF goodS; rw [if_pos rfl]
          rw [ef] at e
          simp (disch := omega) only [zI_add, zI_sub, zI_mul, zI_neg, zI_lt, zI_le, zI_eq, zI_div, zI_rem, ix_zI, inb_zI, nz_zI, imax_zI, imin_zI, c_t, nb01.1, nb01.2, zl_0, zl_1, zl_2, zl_3, zl_4, zl_5, zl_6, zl_7, zl_8, zl_9, zl_10, zl_11, zl_12, zl_13, zl_14, zl_15, zl_16, zl_17, zl_18, zl_19, zl_20, zl_24, zl_30, zl_31, zl_36, zl_42, zl_44, zl_48, zl_57, zl_58, zl_59, zl_60, zl_61, zl_62, zl_63, zl_64, zl_72, zl_73, zl_96, zl_99, zl_100, zl_104, zl_107, zl_111, zl_114, zl_116, zl_120, zl_200, zl_255, zl_256, zl_360, zl_600, zl_800, zl_1000, zl_2000, Int.zero_add]
          refine ⟨fun z => by omega, fun _ => sM_isMissed r1 wx fun h2 fp => ?_⟩
          have k2 := k1.tr fp.KM.k1
          have r2 : RW (h2 61) (fset s.w t (s.w t + v)) := fp.KM.w r1
          have mb := missR_b (fset s.w t (s.w t + v)) (ptsL (fset s.w t (s.w t + v))) (fun x h' => by have := ptsL_b wx x h'; omega)
          have mb2 : missT (fset s.w t (s.w t + v)) = missR (fset s.w t (s.w t + v)) (ptsL (fset s.w t (s.w t + v))) := rfl
          by_cases g : 0 ≤ missT (fset s.w t (s.w t + v))
          · rw [if_pos g]
            rw [if_neg (by rw [decide_eq_true_iff]; omega)] at e
            refine ⟨fun _ => ?_, fun z => absurd z (by decide)⟩
            have r3 := r2.up (j := t) (v := s.w t) (by omega) (by omega)
            rw [fs_fs, fs_self] at r3
            have K := hq _ ((k2.up (p := 61) (i := t.toNat) (x := zI (s.w t)) (Or.inl rfl)).sb0 hb r3) (k2.up (Or.inl rfl)).fb
            rw [← e] at K
            exact K
          · rw [if_neg g]
            rw [if_pos (by rw [decide_eq_true_iff]; omega)] at e
            refine ⟨fun z => absurd rfl z, fun _ => ?_⟩
            have r3 := r2.up (j := t) (v := s.w t + v + 1) (by omega) (by omega)
            rw [fs_fs] at r3
            exact ih (v + 1) v _ (s.w t + v + 1) (by omega) (by omega) (by omega) (k2.up (Or.inl rfl)) r3 (fun _ => by omega) e
      exact key 100 0 (-9) h (s.w t) (by omega) (by omega) (by omega) K1.rf (by rw [fs_self]; exact hb.w) (fun _ => by omega) rfl
    · rw [if_neg c2]
      have e : cSlk s.w t = 3 := by
        unfold cSlk
        rw [cTask_0.mpr c]
        show cOff s.w t = 3
        unfold cOff
        rw [if_neg (fun z => c2 z.2.2)]
      rw [e] at hq
      exact ⟨fun z => absurd rfl z, fun _ => sM_refused (c := 3) hb (by omega) (by omega) hq⟩
  · rw [if_neg c]
    have e : cSlk s.w t = 1 := by unfold cSlk; rw [cTask_1 c]; rfl
    rw [e] at hq
    exact ⟨fun z => absurd rfl z, fun _ => sM_refused (c := 1) hb (by omega) (by omega) hq⟩
theorem qM_slackBy {Q : Int32 → Mem → Prop} {pol t : Int} (hv : SV s) (hb : SB h s) (hp : I32 pol) (ht : I32 t) (hq : ∀ h', SB h' (s.rfd (cIn s.w pol t)) → FB h h' → Q (zI (cAns (cIn s.w pol t) (slackS s.w pol t))) h') : CALLI E mM_slackBy [.ref 60, .int (zI pol), .int (zI t)] h Q := by
  refine fM_slackBy (sM_wrongIn hv hb hp ht fun h' hb' hf => ?_)
  have hn := hv.w.1
  by_cases c : cIn s.w pol t = 0
  · have zz := cIn_0.mp c
    rw [c] at hb' hq
    have hb : SB h' s := hb'
    have hq : ∀ h2, SB h2 s → FB h h2 → Q (zI (slackS s.w pol t)) h2 := hq
    have c20 := hv.c t zz.2.1 zz.2.2.1
    have bt := hv.w.at zz.2.1 zz.2.2.1
    have c0 : 0 ≤ t ∧ t < s.w 72 := ⟨zz.2.1, zz.2.2.1⟩
    rw [c]
    refine ⟨fun _ => ?_, fun z => absurd (by decide) z⟩
    simp (disch := omega) only [zI_add, zI_sub, zI_mul, zI_neg, zI_lt, zI_le, zI_eq, zI_div, zI_rem, ix_zI, inb_zI, nz_zI, imax_zI, imin_zI, c_t, nb01.1, nb01.2, zl_0, zl_1, zl_2, zl_3, zl_4, zl_5, zl_6, zl_7, zl_8, zl_9, zl_10, zl_11, zl_12, zl_13, zl_14, zl_15, zl_16, zl_17, zl_18, zl_19, zl_20, zl_24, zl_30, zl_31, zl_36, zl_42, zl_44, zl_48, zl_57, zl_58, zl_59, zl_60, zl_61, zl_62, zl_63, zl_64, zl_72, zl_73, zl_96, zl_99, zl_100, zl_104, zl_107, zl_111, zl_114, zl_116, zl_120, zl_200, zl_255, zl_256, zl_360, zl_600, zl_800, zl_1000, zl_2000, Int.zero_add, hb.w _]
    have key : ∀ (f : Nat) (v m : Int) (h1 : Mem) (x : Int), v + f = 100 → 0 ≤ v → -9 ≤ m ∧ m ≤ 100 → K1 h' h1 → RW (h1 61) (fset s.w t x) → (v < 100 → x = s.w t + v) → slR (slF s.w pol t) f v m = slackS s.w pol t → WP E mM_slackBy 30 [some (.ref 60), some (.int (zI pol)), some (.int (zI t)), none, some (.int (zI (s.w t))), some (.int (zI m)), some (.int (zI v))] [] h1 (qI Q) := by
      intro f
      induction f with
      | zero =>
        intro v m h1 x hff hv0 hm k1 r1 ex e
        refine fM_slackBy_30 ?_
        have r2 := r1.up (j := t) (v := s.w t) (by omega) (by omega)
        rw [fs_fs, fs_self] at r2
        have K := hq _ ((k1.up (p := 61) (i := t.toNat) (x := zI (s.w t)) (Or.inl rfl)).sb0 hb r2) (hf.tr (k1.up (Or.inl rfl)).fb)
        rw [← e] at K
        simp (disch := omega) only [zI_add, zI_sub, zI_mul, zI_neg, zI_lt, zI_le, zI_eq, zI_div, zI_rem, ix_zI, inb_zI, nz_zI, imax_zI, imin_zI, c_t, nb01.1, nb01.2, zl_0, zl_1, zl_2, zl_3, zl_4, zl_5, zl_6, zl_7, zl_8, zl_9, zl_10, zl_11, zl_12, zl_13, zl_14, zl_15, zl_16, zl_17, zl_18, zl_19, zl_20, zl_24, zl_30, zl_31, zl_36, zl_42, zl_44, zl_48, zl_57, zl_58, zl_59, zl_60, zl_61, zl_62, zl_63, zl_64, zl_72, zl_73, zl_96, zl_99, zl_100, zl_104, zl_107, zl_111, zl_114, zl_116, zl_120, zl_200, zl_255, zl_256, zl_360, zl_600, zl_800, zl_1000, zl_2000, Int.zero_add]
        exact ⟨fun _ => K, fun z => by omega⟩
      | succ f ih =>
        intro v m h1 x hff hv0 hm k1 r1 ex e
        refine fM_slackBy_30 ?_
        have ex := ex (by omega)
        subst ex
        have wx := hv.w.cost (v := s.w t + v) c0.1 c0.2 (by omega)
        unfold slR at e
        have ef : slF s.w pol t v = allFit (fset s.w t (s.w t + v)) pol := by unfold slF goodS; rw [if_neg (by omega)]
        rw [ef] at e
        simp (disch := omega) only [zI_add, zI_sub, zI_mul, zI_neg, zI_lt, zI_le, zI_eq, zI_div, zI_rem, ix_zI, inb_zI, nz_zI, imax_zI, imin_zI, c_t, nb01.1, nb01.2, zl_0, zl_1, zl_2, zl_3, zl_4, zl_5, zl_6, zl_7, zl_8, zl_9, zl_10, zl_11, zl_12, zl_13, zl_14, zl_15, zl_16, zl_17, zl_18, zl_19, zl_20, zl_24, zl_30, zl_31, zl_36, zl_42, zl_44, zl_48, zl_57, zl_58, zl_59, zl_60, zl_61, zl_62, zl_63, zl_64, zl_72, zl_73, zl_96, zl_99, zl_100, zl_104, zl_107, zl_111, zl_114, zl_116, zl_120, zl_200, zl_255, zl_256, zl_360, zl_600, zl_800, zl_1000, zl_2000, Int.zero_add]
        refine ⟨fun z => by omega, fun _ => sM_doAllFit r1 wx (by omega) fun h2 km => ?_⟩
        have k2 := k1.tr km.k1
        have r2 : RW (h2 61) (fset s.w t (s.w t + v)) := km.w r1
        by_cases g : allFit (fset s.w t (s.w t + v)) pol = true
        · rw [if_pos g] at e ⊢
          refine ⟨fun z => absurd z (by decide), fun _ => ?_⟩
          have r3 := r2.up (j := t) (v := s.w t + v + 1) (by omega) (by omega)
          rw [fs_fs] at r3
          exact ih (v + 1) v _ (s.w t + v + 1) (by omega) (by omega) (by omega) (k2.up (Or.inl rfl)) r3 (fun _ => by omega) e
        · rw [if_neg g] at e ⊢
          refine ⟨fun _ => ?_, fun z => absurd rfl z⟩
          have r3 := r2.up (j := t) (v := s.w t) (by omega) (by omega)
          rw [fs_fs, fs_self] at r3
          have K := hq _ ((k2.up (p := 61) (i := t.toNat) (x := zI (s.w t)) (Or.inl rfl)).sb0 hb r3) (hf.tr (k2.up (Or.inl rfl)).fb)
          rw [← e] at K
          exact K
    exact key 100 0 (-9) h' (s.w t) (by omega) (by omega) (by omega) K1.rf (by rw [fs_self]; exact hb.w) (fun _ => by omega) rfl
  · rw [cAns_x c (y := slackS s.w pol t)] 
    have K := hq h' hb' hf
    rw [cAns_lt c] at K ⊢
    have b6 := cIn_b s.w pol t
    rw [zl_0, zI_le (by omega) (by omega) (by omega) (by omega)]
    exact ⟨fun z => by omega, fun _ => K⟩
end SL
