/-! ===== lots ===== -/
def nxS (x : Int32) : Int32 := x * 1664525 + 1013904223
def drS (x : Int32) : Int := ((x &&& 2147483647).toInt / 256) % 9
theorem drS_e (x : Int32) : remI ((x &&& 2147483647) / 256) 9 = zI (drS x) ∧ 0 ≤ drS x ∧ drS x ≤ 8 := by
  obtain ⟨j, hj, e⟩ := pk_andE x (m := 2147483647) 31 (by decide)
  unfold drS
  have hj : j < 2147483648 := hj
  rw [e, nI_zI, show (zI (j : Nat)).toInt = (j : Int) from zI_to (by omega) (by omega)]
  have q1 : 0 ≤ (j : Int) / 256 := Int.ediv_nonneg (by omega) (by omega)
  have q2 : (j : Int) / 256 ≤ j := Int.ediv_le_self _ (by omega)
  have r1 := Int.emod_lt_of_pos ((j : Int) / 256) (show (0 : Int) < 9 by omega)
  have r2 := Int.emod_nonneg ((j : Int) / 256) (show (9 : Int) ≠ 0 by omega)
  refine ⟨?_, r2, by omega⟩
  rw [show (256 : Int32) = zI 256 from rfl, show (9 : Int32) = zI 9 from rfl, zI_div (by omega) (by omega) (by omega) (by omega), zI_rem (by omega) (by omega) (by omega) (by omega)]
abbrev LotT : Type := (Int → Int) × Int32
/-- the first k costs drawn anew -/
def dWS (p : LotT) : Nat → LotT
  | 0 => p
  | k + 1 => (fset (dWS p k).1 (k : Int) (1 + drS (nxS (dWS p k).2)), nxS (dWS p k).2)
def stepL (p : LotT) : LotT := dWS p (p.1 72).toNat
def lotR (pol : Int) : Nat → LotT → Int → Int
  | 0, _, m => m
  | f + 1, p, m => lotR pol f (stepL p) (m + if goodS (stepL p).1 pol = true then 1 else 0)
def lotS (w : Int → Int) (n z a : Int) : Int := lotR (if a = 0 then 3 else 1) n.toNat (w, zI z) 0
def cLot (n a : Int) : Nat := cFst (cOut n 1 20) (cOth a 2)
theorem cLot_b (n a : Int) : cLot n a ≤ 6 := cFst_b (cOut_b _ _ _) (cOth_b _ _)
theorem dWS_n {p : LotT} (hw : WF p.1) : ∀ k : Nat, (k : Int) ≤ p.1 72 → (dWS p k).1 72 = p.1 72 ∧ WF (dWS p k).1
  | 0, _ => ⟨rfl, hw⟩
  | k + 1, h => by
    have ih := dWS_n hw k (by omega)
    have hn := hw.1
    have d := (drS_e (nxS (dWS p k).2)).2
    have e : (fset (dWS p k).1 (k : Int) (1 + drS (nxS (dWS p k).2))) 72 = p.1 72 := (fs_ne (by omega)).trans ih.1
    exact ⟨e, ih.2.cost (t := (k : Int)) (by omega) (by rw [ih.1]; omega) (by omega)⟩
theorem stepL_f {p : LotT} (hw : WF p.1) : WF (stepL p).1 := by
  have hn := hw.1
  exact (dWS_n hw (p.1 72).toNat (by omega)).2
def LF (h h' : Mem) : Prop := (∀ q, ¬ cs q → q ≠ 0 → h' q = h q) ∧ ∀ j, j ≠ 12 → h' 0 j = h 0 j
theorem LF.rf {h : Mem} : LF h h := ⟨fun _ _ _ => rfl, fun _ _ => rfl⟩
theorem LF.tr {a b c : Mem} (h1 : LF a b) (h2 : LF b c) : LF a c := ⟨fun q x y => (h2.1 q x y).trans (h1.1 q x y), fun j x => (h2.2 j x).trans (h1.2 j x)⟩
theorem Off.lf {h h' : Mem} (o : Off cs h h') : LF h h' := ⟨fun q a _ => o q a, fun j _ => congrFun (o 0 (by unfold cs; omega)) j⟩
theorem LF.z {h h' : Mem} {x : Int32} (f : LF h h') : LF h (upd2 h' 0 12 x) := ⟨fun q a b => (upd2_ne q b).trans (f.1 q a b), fun j a => (u_i a).trans (f.2 j a)⟩
theorem LF.sa {h h' : Mem} {s : St} (f : LF h h') (ha : SA h s) : SA h' s := by
  have e : ∀ q, q ≠ 0 → ¬ cs q → h' q = h q := fun q a b => f.1 q b a
  exact ⟨ha.w.kp fun q h1 h2 => e q (by omega) (by unfold cs; omega), (f.2 3 (by omega)).trans ha.has, fun z => (ha.k z).kp fun q h1 h2 => e q (by omega) (by unfold cs; omega), fun i hi => by rw [e 59 (by omega) (by unfold cs; omega)]; exact ha.rf i hi, (f.2 10 (by omega)).trans ha.rn, fun i hi => by rw [e 58 (by omega) (by unfold cs; omega)]; exact ha.row i hi, by rw [e 55 (by omega) (by unfold cs; omega)]; exact ha.ln, fun i hi => by rw [e 56 (by omega) (by unfold cs; omega)]; exact ha.lt i hi⟩
theorem LF.fa {h h' : Mem} (f : LF h h') : FA h h' := fun q hq => f.1 q (by unfold cs; omega) (by omega)
theorem K1.z {h h' : Mem} {x : Int32} (k : K1 h h') : K1 h (upd2 h' 60 30 x) := ⟨fun q hq => (upd2_ne q (by omega)).trans (k.1 q hq), (u_i (by omega)).trans k.2.1, (u_i (by omega)).trans k.2.2.1, (u_i (by omega)).trans k.2.2.2⟩
section LO3
variable {E : XE} {h : Mem} {s : St}
theorem sC_draw {Q : Int32 → Mem → Prop} (hq : Q (zI (drS (nxS (h 0 12)))) (upd2 h 0 12 (nxS (h 0 12)))) : CALLI E mC_draw [.ref 0, .int (zI 9)] h Q := by
  refine fC_draw ?_
  refine ⟨fun z => absurd z (by decide), fun _ => ?_⟩
  rw [u_s, show nz (zI 9) = true from nz_zI (by omega) (by omega), c_t]
  show Q (remI ((nxS (h 0 12) &&& 2147483647) / 256) 9) (upd2 h 0 12 (nxS (h 0 12)))
  rw [(drS_e _).1]
  exact hq
theorem sM_draw {Q : Int32 → Mem → Prop} (hq : Q (zI (drS (nxS (h 60 30)))) (upd2 h 60 30 (nxS (h 60 30)))) : CALLI E mM_draw [.ref 60, .int (zI 9)] h Q := by
  refine fM_draw ?_
  rw [u_s, show nz (zI 9) = true from nz_zI (by omega) (by omega), c_t]
  show Q (remI ((nxS (h 60 30) &&& 2147483647) / 256) 9) (upd2 h 60 30 (nxS (h 60 30)))
  rw [(drS_e _).1]
  exact hq
theorem sC_drawCosts {Q : Mem → Prop} {p : LotT} (hd : DW h 15 p.1) (hw : WF p.1) (hz : h 0 12 = p.2) (hq : ∀ h', LF h h' → DW h' 15 (stepL p).1 → h' 0 12 = (stepL p).2 → Q h') : CALLV E mC_drawCosts [.ref 0] h Q := by
  refine fC_drawCosts ?_
  have hn := hw.1
  have key : ∀ (j k : Nat) (h1 : Mem), (k : Int) + j = p.1 72 → LF h h1 → DW h1 15 (dWS p k).1 → h1 0 12 = (dWS p k).2 → WP E mC_drawCosts 2 [some (.ref 0), some (.int (zI k))] [] h1 (qV Q) := by
    intro j
    induction j with
    | zero =>
      intro k h1 hk f d z
      refine fC_drawCosts_2 ?_
      have w := dWS_n hw k (by omega)
      rw [show h1 15 0 = zI (p.1 72) from by rw [← w.1]; exact d.n, zI_le (by omega) (by omega) (by omega) (by omega)]
      refine ⟨fun _ => hq h1 f ?_ ?_, fun z => by omega⟩
      · unfold stepL; rw [show (p.1 72).toNat = k by omega]; exact d
      · unfold stepL; rw [show (p.1 72).toNat = k by omega]; exact z
    | succ j ih =>
      intro k h1 hk f d z
      refine fC_drawCosts_2 ?_
      have w := dWS_n hw k (by omega)
      have dr := (drS_e (nxS (dWS p k).2)).2
      have hnext := ih (k + 1)
      rw [show ((k + 1 : Nat) : Int) = (k : Int) + 1 by omega] at hnext
      rw [show h1 15 0 = zI (p.1 72) from by rw [← w.1]; exact d.n, zI_le (by omega) (by omega) (by omega) (by omega)]
      refine ⟨fun z => by omega, fun _ => sC_draw ?_⟩
      rw [z]
      have d2 : DW (upd2 h1 0 12 (nxS (dWS p k).2)) 15 (dWS p k).1 := d.kp fun q a b => upd2_ne q (by omega)
      have d3 := d2.put (r := 1) (b := 0) (t := (k : Int)) (v := 1 + drS (nxS (dWS p k).2)) w.2 (by omega) (by omega) (by rw [w.1]; omega)
      rw [Int.zero_add] at d3
      simp (disch := omega) only [zI_add, zI_sub, zI_mul, zI_neg, zI_lt, zI_le, zI_eq, zI_div, zI_rem, ix_zI, inb_zI, nz_zI, imax_zI, imin_zI, c_t, nb01.1, nb01.2, zl_0, zl_1, zl_2, zl_3, zl_4, zl_5, zl_6, zl_7, zl_8, zl_9, zl_10, zl_11, zl_12, zl_13, zl_14, zl_15, zl_16, zl_17, zl_18, zl_19, zl_20, zl_24, zl_30, zl_31, zl_36, zl_42, zl_44, zl_48, zl_57, zl_58, zl_59, zl_60, zl_61, zl_62, zl_63, zl_64, zl_72, zl_73, zl_96, zl_99, zl_100, zl_104, zl_107, zl_111, zl_114, zl_116, zl_120, zl_200, zl_255, zl_256, zl_360, zl_600, zl_800, zl_1000, zl_2000]
      refine hnext _ (by omega) ?_ d3 ((congrFun (upd2_ne 0 (by omega)) 12).trans u_s)
      exact f.z.tr ⟨fun q a _ => upd2_ne q (fun y => a (by unfold cs; omega)), fun j _ => congrFun (upd2_ne 0 (by omega)) j⟩
  exact key (p.1 72).toNat 0 h (by omega) LF.rf hd hz
theorem qC_lots {Q : Int32 → Mem → Prop} {n z a : Int} (hv : SV s) (ha : SA h s) (hn : I32 n) (hz : I32 z) (hi : I32 a) (hq : ∀ h', SA h' (s.rfd (cLot n a)) → FA h h' → Q (zI (cAns (cLot n a) (lotS s.w n z a))) h') : CALLI E mC_lots [.ref 0, .int (zI n), .int (zI z), .int (zI a)] h Q := by
  refine fC_lots (sC_outside (lo := 1) (hi := 20) hn (by unfold I32; omega) (by unfold I32; omega) (sC_otherThan (n := 2) hi (by unfold I32; omega) (sC_firstOf (cOut_b _ _ _) ?_)))
  have ei : (if cLot n a = 0 then s else s.rfd (cLot n a)) = s.rfd (cLot n a) := by
    by_cases c : cLot n a = 0
    · rw [if_pos c]; unfold St.rfd; rw [if_pos c]
    · rw [if_neg c]
  refine sC_fin2 (c := cLot n a) (s' := s) ha (cLot_b _ _) (fun h' x b => hq h' (by rw [← ei]; exact x) b) fun zz K => ?_
  unfold cLot at zz
  rw [cFst_0, cOut_0, cOth_0] at zz
  refine sD_copyFrom (Or.inr (Or.inl rfl)) (Or.inl rfl) (by omega) fun h1 c1 => ?_
  have o1 : Off cs h h1 := fun q hq => c1.1 q (by unfold cs at hq; omega)
  have d1 : DW h1 15 s.w := c1.dw hv.w ha.w
  have hpol : 0 ≤ (if a = 0 then (3 : Int) else 1) ∧ (if a = 0 then (3 : Int) else 1) < 4 := by split <;> omega
  have key : ∀ (f k : Nat) (m : Int) (p : LotT) (h2 : Mem), (k : Int) + f = n → 0 ≤ m ∧ m ≤ k → LF h h2 → DW h2 15 p.1 → WF p.1 → h2 0 12 = p.2 → lotR (if a = 0 then 3 else 1) f p m = lotS s.w n z a →
      WP E mC_lots 51 [some (.ref 0), some (.int (zI n)), none, some (.int (zI a)), none, some (.int (zI m)), some (.int (zI k))] [] h2 (qI Q) := by
    intro f
    induction f with
    | zero =>
      intro k m p h2 hk hm f2 d2 w2 z2 e
      refine fC_lots_51 ?_
      have := K h2 (f2.sa ha) f2.fa
      rw [← e] at this
      rw [zI_le (by omega) (by omega) (by omega) (by omega)]
      exact ⟨fun _ => this, fun z => by omega⟩
    | succ f ih =>
      intro k m p h2 hk hm f2 d2 w2 z2 e
      refine fC_lots_51 ?_
      unfold lotR at e
      have ws := stepL_f w2
      have hnext := fun m' h' => ih (k + 1) m' (stepL p) h'
      rw [show ((k + 1 : Nat) : Int) = (k : Int) + 1 by omega] at hnext
      have both : ∀ pol : Int, pol = (if a = 0 then 3 else 1) → ∀ h3, LF h2 h3 → DW h3 15 (stepL p).1 → h3 0 12 = (stepL p).2 → CALLI E mC_isTrialGood [.ref 0, .int (zI pol)] h3 fun v2 h2 => (v2 = 0 → WP E mC_lots 51 [some (.ref 0), some (.int (zI n)), none, some (.int (zI a)), none, some (.int (zI m)), some (.int (zI (k + 1)))] [] h2 (qI Q)) ∧ (¬ v2 = 0 → WP E mC_lots 51 [some (.ref 0), some (.int (zI n)), none, some (.int (zI a)), none, some (.int (zI (m + 1))), some (.int (zI (k + 1)))] [] h2 (qI Q)) := by
        intro pol ep h3 f3 d3 z3
        rw [← ep] at e hpol
        refine sC_trialGood d3 ws hpol fun h4 o4 d4 => ?_
        have fl := (f2.tr f3).tr o4.lf
        have z4 : h4 0 12 = (stepL p).2 := (congrFun (o4 0 (by unfold cs; omega)) 12).trans z3
        rw [← ep] at hnext
        by_cases g : goodS (stepL p).1 pol = true
        · rw [if_pos g] at e ⊢
          exact ⟨fun y => absurd y (by decide), fun _ => hnext (m + 1) h4 (by omega) (by omega) fl d4 ws z4 e⟩
        · rw [if_neg g, Int.add_zero] at e
          rw [if_neg g]
          exact ⟨fun _ => hnext m h4 (by omega) (by omega) fl d4 ws z4 e, fun y => absurd rfl y⟩
      simp (disch := omega) only [zI_add, zI_sub, zI_mul, zI_neg, zI_lt, zI_le, zI_eq, zI_div, zI_rem, ix_zI, inb_zI, nz_zI, imax_zI, imin_zI, c_t, nb01.1, nb01.2, zl_0, zl_1, zl_2, zl_3, zl_4, zl_5, zl_6, zl_7, zl_8, zl_9, zl_10, zl_11, zl_12, zl_13, zl_14, zl_15, zl_16, zl_17, zl_18, zl_19, zl_20, zl_24, zl_30, zl_31, zl_36, zl_42, zl_44, zl_48, zl_57, zl_58, zl_59, zl_60, zl_61, zl_62, zl_63, zl_64, zl_72, zl_73, zl_96, zl_99, zl_100, zl_104, zl_107, zl_111, zl_114, zl_116, zl_120, zl_200, zl_255, zl_256, zl_360, zl_600, zl_800, zl_1000, zl_2000]
      refine ⟨fun y => by omega, fun _ => sC_drawCosts d2 w2 z2 fun h3 f3 d3 z3 => ⟨fun y => ?_, fun y => ?_⟩⟩
      · exact both 1 (by rw [if_neg y]) h3 f3 d3 z3
      · exact both 3 (by rw [if_pos y]) h3 f3 d3 z3
  exact key n.toNat 0 0 (s.w, zI z) _ (by omega) (by omega) o1.lf.z (d1.kp fun q a b => upd2_ne q (by omega)) hv.w u_s rfl
theorem qM_lots {Q : Int32 → Mem → Prop} {n z a : Int} (hv : SV s) (hb : SB h s) (hn : I32 n) (hz : I32 z) (hi : I32 a) (hq : ∀ h', SB h' (s.rfd (cLot n a)) → FB h h' → Q (zI (cAns (cLot n a) (lotS s.w n z a))) h') : CALLI E mM_lots [.ref 60, .int (zI n), .int (zI z), .int (zI a)] h Q := by
  refine fM_lots ?_
  have hneg : ∀ c, cLot n a = c → c ≠ 0 → c ≤ 6 → CALLI E mM_refused [.ref 60, .int (zI (-(c : Nat)))] h Q := fun c e n l => sM_refused hb n l fun h' a b => by
    have hq := hq h' (by rw [e]; exact a) b
    rw [e, cAns_lt n] at hq
    exact hq
  unfold cLot at hneg
  unfold I32 at hn hz hi
  simp (disch := omega) only [zI_add, zI_sub, zI_mul, zI_neg, zI_lt, zI_le, zI_eq, zI_div, zI_rem, ix_zI, inb_zI, nz_zI, imax_zI, imin_zI, c_t, nb01.1, nb01.2, zl_0, zl_1, zl_2, zl_3, zl_4, zl_5, zl_6, zl_7, zl_8, zl_9, zl_10, zl_11, zl_12, zl_13, zl_14, zl_15, zl_16, zl_17, zl_18, zl_19, zl_20, zl_24, zl_30, zl_31, zl_36, zl_42, zl_44, zl_48, zl_57, zl_58, zl_59, zl_60, zl_61, zl_62, zl_63, zl_64, zl_72, zl_73, zl_96, zl_99, zl_100, zl_104, zl_107, zl_111, zl_114, zl_116, zl_120, zl_200, zl_255, zl_256, zl_360, zl_600, zl_800, zl_1000, zl_2000, zI_L, lg_ltz, lg_gtz, zL_add, zL_sub, zL_mul, zL_div, zL_rem, nzL_zL, zm_0, zm_1, zm_2, zm_5, zm_8, zm_9, zm_15, zm_16, zm_11, zm_20, zm_59, zm_60, zm_96, zm_99, zm_255, zm_600, zm_2147483647, zm_4000000000000000000, zm_3, zm_48, zm_57]
  refine sM_in (by omega) (by omega) (by omega) ?_
  by_cases c : 1 ≤ n ∧ n ≤ 20
  · rw [if_pos c]
    rw [cOut_0.mpr c] at hneg
    refine ⟨fun _ => sM_in (by omega) (by omega) (by omega) ?_, fun z => absurd z (by decide)⟩
    by_cases c2 : 0 ≤ a ∧ a ≤ 1
    · rw [if_pos c2]
      have hc : cLot n a = 0 := by unfold cLot; rw [cOut_0.mpr c, cOth_0.mpr (show 0 ≤ a ∧ a < 2 by omega)]; rfl
      rw [hc] at hq
      have hq : ∀ h', SB h' s → FB h h' → Q (zI (lotS s.w n z a)) h' := hq
      have m0 : RW (upd2 h 60 30 (zI z) 61) s.w := by rw [upd2_ne 61 (by omega)]; exact hb.w
      refine ⟨fun _ => sM_minds m0 fun h1 f1 r1 => ?_, fun z => absurd z (by decide)⟩
      have k1 : K1 h h1 := K1.rf.z.tr (K1.of (Or.inr rfl) f1)
      have m1 : RW (h1 61) s.w := by rw [f1 61 (by omega)]; exact m0
      have z1 : h1 60 30 = zI z := by rw [f1 60 (by omega)]; exact u_s
      have key : ∀ (f k : Nat) (m : Int) (p : LotT) (h2 : Mem), (k : Int) + f = n → 0 ≤ m ∧ m ≤ k → K1 h h2 → RW (h2 61) p.1 → WF p.1 → RW (h2 63) s.w → h2 60 30 = p.2 → lotR (if a = 0 then 3 else 1) f p m = lotS s.w n z a →
          WP E mM_lots 61 [some (.ref 60), some (.int (zI n)), none, some (.int (zI a)), some (.int (zI m)), some (.int (zI k)), none] [] h2 (qI Q) := by
        intro f
        induction f with
        | zero =>
          intro k m p h2 hk hm k2 r2 w2 r3 z2 e
          refine fM_lots_61 ?_
          rw [zI_le (by omega) (by omega) (by omega) (by omega)]
          refine ⟨fun _ => sM_forgets r3 fun h3 f3 r4 => ?_, fun z => by omega⟩
          have k3 : K1 h h3 := k2.tr (K1.of (Or.inl rfl) f3)
          have := hq h3 (k3.sb0 hb r4) k3.fb
          rw [← e] at this
          exact this
        | succ f ih =>
          intro k m p h2 hk hm k2 r2 w2 r3 z2 e
          refine fM_lots_61 ?_
          rw [zI_le (by omega) (by omega) (by omega) (by omega)]
          refine ⟨fun z => by omega, fun _ => ?_⟩
          unfold lotR at e
          have ws := stepL_f w2
          have hpn := w2.1
          have hnext := fun m' h' => ih (k + 1) m' (stepL p) h'
          rw [show ((k + 1 : Nat) : Int) = (k : Int) + 1 by omega] at hnext
          have s70 : ∀ (j t : Nat) (h3 : Mem), (t : Int) + j = p.1 72 → K1 h h3 → RW (h3 61) (dWS p t).1 → RW (h3 63) s.w → h3 60 30 = (dWS p t).2 → WP E mM_lots 70 [some (.ref 60), some (.int (zI n)), none, some (.int (zI a)), some (.int (zI m)), some (.int (zI k)), some (.int (zI t))] [] h3 (qI Q) := by
            intro j
            induction j with
            | zero =>
              intro t h3 ht k3 r31 r33 z3
              refine fM_lots_70 ?_
              have w := dWS_n w2 t (by omega)
              have est : stepL p = dWS p t := by unfold stepL; rw [show (p.1 72).toNat = t by omega]
              rw [← est] at r31 z3 w
              have n72 : h3 61 (Int.toNat 72) = zI (p.1 72) := by rw [r31 72 (by omega) (by omega), w.1]
              simp (disch := omega) only [zI_add, zI_sub, zI_mul, zI_neg, zI_lt, zI_le, zI_eq, zI_div, zI_rem, ix_zI, inb_zI, nz_zI, imax_zI, imin_zI, c_t, nb01.1, nb01.2, zl_0, zl_1, zl_2, zl_3, zl_4, zl_5, zl_6, zl_7, zl_8, zl_9, zl_10, zl_11, zl_12, zl_13, zl_14, zl_15, zl_16, zl_17, zl_18, zl_19, zl_20, zl_24, zl_30, zl_31, zl_36, zl_42, zl_44, zl_48, zl_57, zl_58, zl_59, zl_60, zl_61, zl_62, zl_63, zl_64, zl_72, zl_73, zl_96, zl_99, zl_100, zl_104, zl_107, zl_111, zl_114, zl_116, zl_120, zl_200, zl_255, zl_256, zl_360, zl_600, zl_800, zl_1000, zl_2000, n72]
              refine ⟨fun _ => ⟨fun y => ?_, fun y => ?_⟩, fun z => by omega⟩
              · refine sM_doAllFit (pol := 1) r31 ws (by omega) fun h4 k4 => ?_
                have hnext := fun m' => hnext m' h4
                have ef : goodS (stepL p).1 (if a = 0 then 3 else 1) = allFit (stepL p).1 1 := by unfold goodS; rw [if_neg y, if_neg (by omega)]
                rw [ef] at e
                have r34 : RW (h4 63) s.w := by rw [k4.1 63 (by omega)]; exact r33
                have z4 : h4 60 30 = (stepL p).2 := k4.2.2.2.2.trans z3
                by_cases g : allFit (stepL p).1 1 = true
                · rw [if_pos g] at e ⊢
                  exact ⟨fun y => absurd y (by decide), fun _ => hnext (m + 1) (by omega) (by omega) (k3.tr k4.k1) (k4.w r31) ws r34 z4 e⟩
                · rw [if_neg g, Int.add_zero] at e
                  rw [if_neg g]
                  exact ⟨fun _ => by rw [Int.add_zero]; exact hnext m (by omega) (by omega) (k3.tr k4.k1) (k4.w r31) ws r34 z4 e, fun y => absurd rfl y⟩
              · refine sM_isMissed r31 ws fun h4 fp => ?_
                have k4 := fp.KM
                have hnext := fun m' => hnext m' h4
                have ef : goodS (stepL p).1 (if a = 0 then 3 else 1) = decide (missT (stepL p).1 = -9) := by unfold goodS; rw [if_pos y, if_pos rfl]
                rw [ef] at e
                have r34 : RW (h4 63) s.w := by rw [k4.1 63 (by omega)]; exact r33
                have z4 : h4 60 30 = (stepL p).2 := k4.2.2.2.2.trans z3
                have mb := missR_b (stepL p).1 (ptsL (stepL p).1) (fun x h' => by have := ptsL_b ws x h'; omega)
                have mb2 : missT (stepL p).1 = missR (stepL p).1 (ptsL (stepL p).1) := rfl
                by_cases g : 0 ≤ missT (stepL p).1
                · rw [if_pos g]
                  have e2 : (if decide (missT (stepL p).1 = -9) = true then (1 : Int) else 0) = 0 := if_neg (by rw [decide_eq_true_iff]; omega)
                  rw [e2, Int.add_zero] at e
                  exact ⟨fun _ => ⟨fun _ => by rw [Int.add_zero]; exact hnext m (by omega) (by omega) (k3.tr k4.k1) (k4.w r31) ws r34 z4 e, fun y => absurd trivial y⟩, fun y => absurd y (by decide)⟩
                · rw [if_neg g]
                  have e2 : (if decide (missT (stepL p).1 = -9) = true then (1 : Int) else 0) = 1 := if_pos (by rw [decide_eq_true_iff]; omega)
                  rw [e2] at e
                  exact ⟨fun y => absurd rfl y, fun _ => ⟨fun y => absurd y (by decide), fun _ => hnext (m + 1) (by omega) (by omega) (k3.tr k4.k1) (k4.w r31) ws r34 z4 e⟩⟩
            | succ j ih2 =>
              intro t h3 ht k3 r31 r33 z3
              refine fM_lots_70 ?_
              have w := dWS_n w2 t (by omega)
              have dr := (drS_e (nxS (dWS p t).2)).2
              have n72 : h3 61 (Int.toNat 72) = zI (p.1 72) := by rw [r31 72 (by omega) (by omega), w.1]
              have hn2 := ih2 (t + 1)
              rw [show ((t + 1 : Nat) : Int) = (t : Int) + 1 by omega] at hn2
              have r4 : RW (upd2 h3 60 30 (nxS (dWS p t).2) 61) (dWS p t).1 := by rw [upd2_ne 61 (by omega)]; exact r31
              have r5 := r4.up (j := (t : Int)) (v := 1 + drS (nxS (dWS p t).2)) (by omega) (by omega)
              simp (disch := omega) only [zI_add, zI_sub, zI_mul, zI_neg, zI_lt, zI_le, zI_eq, zI_div, zI_rem, ix_zI, inb_zI, nz_zI, imax_zI, imin_zI, c_t, nb01.1, nb01.2, zl_0, zl_1, zl_2, zl_3, zl_4, zl_5, zl_6, zl_7, zl_8, zl_9, zl_10, zl_11, zl_12, zl_13, zl_14, zl_15, zl_16, zl_17, zl_18, zl_19, zl_20, zl_24, zl_30, zl_31, zl_36, zl_42, zl_44, zl_48, zl_57, zl_58, zl_59, zl_60, zl_61, zl_62, zl_63, zl_64, zl_72, zl_73, zl_96, zl_99, zl_100, zl_104, zl_107, zl_111, zl_114, zl_116, zl_120, zl_200, zl_255, zl_256, zl_360, zl_600, zl_800, zl_1000, zl_2000, n72]
              refine ⟨fun z => by omega, fun _ => sM_draw ?_⟩
              rw [z3]
              simp (disch := omega) only [zI_add, zI_sub, zI_mul, zI_neg, zI_lt, zI_le, zI_eq, zI_div, zI_rem, ix_zI, inb_zI, nz_zI, imax_zI, imin_zI, c_t, nb01.1, nb01.2, zl_0, zl_1, zl_2, zl_3, zl_4, zl_5, zl_6, zl_7, zl_8, zl_9, zl_10, zl_11, zl_12, zl_13, zl_14, zl_15, zl_16, zl_17, zl_18, zl_19, zl_20, zl_24, zl_30, zl_31, zl_36, zl_42, zl_44, zl_48, zl_57, zl_58, zl_59, zl_60, zl_61, zl_62, zl_63, zl_64, zl_72, zl_73, zl_96, zl_99, zl_100, zl_104, zl_107, zl_111, zl_114, zl_116, zl_120, zl_200, zl_255, zl_256, zl_360, zl_600, zl_800, zl_1000, zl_2000, Int.zero_add]
              exact hn2 _ (by omega) (k3.z.up (Or.inl rfl)) r5 (by rw [upd2_ne 63 (by omega), upd2_ne 63 (by omega)]; exact r33) ((congrFun (upd2_ne 60 (by omega)) 30).trans u_s)
          exact s70 (p.1 72).toNat 0 h2 (by omega) k2 r2 r3 z2
      exact key n.toNat 0 0 (s.w, zI z) h1 (by omega) (by omega) k1 m1 hv.w r1 z1 rfl
    · rw [if_neg c2]
      exact ⟨fun z => absurd rfl z, fun _ => hneg 2 (by rw [cOth_2 (by omega)]; rfl) (by omega) (by omega)⟩
  · rw [if_neg c]
    refine ⟨fun z => absurd rfl z, fun _ => ⟨fun z => ?_, fun z => ?_⟩⟩
    · have e : cOut n 1 20 = 6 := by unfold cOut; rw [if_neg (by omega), if_pos (by omega)]
      exact hneg 6 (by rw [e]; rfl) (by omega) (by omega)
    · have e : cOut n 1 20 = 4 := by unfold cOut; rw [if_pos (by omega)]
      exact hneg 4 (by rw [e]; rfl) (by omega) (by omega)
end LO3
