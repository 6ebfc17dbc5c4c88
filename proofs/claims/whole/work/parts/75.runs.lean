/-! ===== the reference's run, whole; its calls ===== -/
section MR
variable {E : XE} {h : Mem} {w : Int → Int}
theorem TM.row74 {h : Mem} {R : List Job} {s : RSt} (ht : TM h R s) (u : Nat) (x : Int32) : TM (upd2 h 74 u x) R s := by
  obtain ⟨a1, a2, aL, a3, a4, a5, a6⟩ := ht
  have o : ∀ q, q ≠ 74 → upd2 h 74 u x q = h q := fun q hq => upd2_ne q hq
  exact ⟨by rw [o 60 (by omega)]; exact a1, fun x hx => (a2 x hx).fr (o _ (by omega)) (o _ (by omega)) (o _ (by omega)), aL, fun x hx => by rw [o 75 (by omega)]; exact a3 x hx, fun x hx => by rw [o 76 (by omega)]; exact a4 x hx, by rw [o 60 (by omega)]; exact a5, by rw [o 60 (by omega)]; exact a6⟩
theorem cm_jr {w : Int → Int} (hw : WF w) {t u : Int} (h0 : 0 ≤ t) (h1 : t < w 72) (hu : 0 ≤ u ∧ u < 60) : JR (w 72) (cmK w t u 30) := (cm_jb hw h0 h1 hu 30).jr
theorem sM_runs {Q : Mem → Prop} {pol : Int} (hm : RW (h 61) w) (hw : WF w) (hpol : 0 ≤ pol ∧ pol < 4) (hq : ∀ h' R, KM h h' → TM h' R (endS w pol) → (∀ x : Nat, x < 60 → h' 74 x = zI (runS w pol x)) → Q h') : CALLV E mM_runs [.ref 60, .int (zI pol)] h Q := by
  have hn := hw.1
  refine fM_runs ?_
  have key : ∀ (j u : Nat) (h2 : Mem) (R : List Job), u + j = 60 → KM h h2 → TM h2 R (plS w pol u).1 → JR (w 72) R → (R.length : Int) ≤ potS w u 0 (w 72).toNat → (∀ x : Nat, x < u → h2 74 x = zI ((plS w pol u).2 x)) → WP E mM_runs 47 [some (.ref 60), some (.int (zI pol)), some (.int (zI u)), none] [] h2 (qV Q) := by
    intro j
    induction j with
    | zero =>
      intro u h2 R hu hk ht jr hl hr
      have iv := pl_inv hw pol u (by omega)
      have p3 := pot360 hw u 0
      have l := iv.2.1
      refine fM_runs_47 ?_
      have u60 : u = 60 := by omega
      subst u60
      refine ⟨fun _ => sM_misses (u := 60) (n := w 72) hn.2 ht jr (by omega) iv.2.2 (by omega) fun h3 R3 k3 t3 j3 l3 => hq h3 R3 (hk.tr k3.1) t3 fun x hx => ?_, fun z => absurd (by decide) z⟩
      rw [k3.2]
      exact hr x hx
    | succ j ih =>
      intro u h2 R hu hk ht jr hl hr
      have iv := pl_inv hw pol u (by omega)
      have p3 := pot360 hw u 0
      have l := iv.2.1
      refine fM_runs_47 ?_
      rw [show (60 : Int32) = zI 60 from rfl, zI_le (by omega) (by omega) (by omega) (by omega)]
      refine ⟨fun z => by omega, fun _ => sM_misses (u := (u : Int)) (n := w 72) hn.2 ht jr (by omega) iv.2.2 (by omega) fun h3 R3 k3 t3 j3 l3 => ?_⟩
      have r3 : ∀ x : Nat, x < u → h3 74 x = zI ((plS w pol u).2 x) := fun x hx => by rw [k3.2]; exact hr x hx
      have inner : ∀ (i t : Nat) (h4 : Mem) (R4 : List Job), (t : Int) + i = w 72 → KM h h4 → TM h4 R4 (afCm w u t (afMs u (plS w pol u).1)) → JR (w 72) R4 → (R4.length : Int) ≤ potS w u t (w 72).toNat → (∀ x : Nat, x < u → h4 74 x = zI ((plS w pol u).2 x)) → WP E mM_runs 60 [some (.ref 60), some (.int (zI pol)), some (.int (zI u)), some (.int (zI t))] [] h4 (qV Q) := by
        intro i
        induction i with
        | zero =>
          intro t h4 R4 hi k4 t4 j4 l4 r4
          refine fM_runs_60 ?_
          have m4 := k4.w hm
          have p4 := pot360 hw u t
          have tn : t = (w 72).toNat := by omega
          rw [show h4 61 (ix 72) = zI (w 72) from m4 72 (by omega) (by omega), zI_le (by omega) (by omega) (by omega) (by omega)]
          refine ⟨fun _ => sM_works m4 hw hpol t4 j4 (by omega) fun h5 R5 k5 t5 j5 l5 => ?_, fun z => by omega⟩
          have hin : inb (zI (u : Int)) 60 = true := inb_zI (by omega) (by omega) (by omega)
          have hix : ix (zI (u : Int)) = u := by rw [ix_zI (by omega) (by omega)]; rfl
          rw [hin, hix, c_t, zl_1, zI_add]
          rw [tn] at t5 l4 ⊢
          have nx := pot_nx w (u : Int) (w 72).toNat
          have ntn : (((w 72).toNat : Nat) : Int) = w 72 := by omega
          have pe2 : (plS w pol (u + 1)).2 = fset (plS w pol u).2 (u : Int) (wkJ w pol (afCm w u (w 72).toNat (afMs u (plS w pol u).1)).2.1 (afCm w u (w 72).toNat (afMs u (plS w pol u).1)).1).2.2 := rfl
          have k5' := k5.1
          refine ih (u + 1) _ R5 (by omega) ((k4.tr k5.1).up (by omega)) (t5.row74 u _) j5 ?_ (fun x hx => ?_)
          · rw [show ((u + 1 : Nat) : Int) = (u : Int) + 1 by omega, nx]
            omega
          · rw [pe2]
            by_cases ex : x = u
            · subst ex
              rw [u_s, fs_eq]
            · rw [u_i ex, fs_ne (by omega), k5.2]
              exact r4 x (by omega)
        | succ i ih2 =>
          intro t h4 R4 hi k4 t4 j4 l4 r4
          refine fM_runs_60 ?_
          have m4 := k4.w hm
          have pu := pot_up w u t (w 72).toNat
          rw [if_pos (show t < (w 72).toNat by omega)] at pu
          have cl := cm_len w (t : Int) u 30
          have cq := cq_b w (t : Int) u 30
          have p4 := pot360 hw u ((t + 1 : Nat) : Int)
          have e : (afCm w u (t + 1) (afMs u (plS w pol u).1)) = ((afCm w u t (afMs u (plS w pol u).1)).1 ++ (if w (42 + (t : Int)) = 1 then cmK w (t : Int) u 30 else []), (afCm w u t (afMs u (plS w pol u).1)).2) := by
            show ((afMs u (plS w pol u).1).1 ++ (cmT w u t ++ _), _) = (((afMs u (plS w pol u).1).1 ++ cmT w u t) ++ _, _)
            rw [List.append_assoc]
            rfl
          have hnext := ih2 (t + 1)
          rw [pu, show ((t + 1 : Nat) : Int) = (t : Int) + 1 by omega, e] at hnext
          rw [show h4 61 (ix 72) = zI (w 72) from m4 72 (by omega) (by omega), zI_le (by omega) (by omega) (by omega) (by omega), zl_1]
          simp only [zI_add]
          refine ⟨fun z => by omega, fun _ => sM_isOn m4 hw (by omega) (by omega) ?_⟩
          by_cases c : w (42 + (t : Int)) = 1
          · rw [if_pos c]
            rw [if_pos c] at hnext
            refine ⟨fun z => absurd z (by decide), fun _ => sM_comeJobs m4 hw (by omega) (by omega) (by omega) t4 (by omega) fun h5 k5 t5 => ?_⟩
            exact hnext h5 _ (by omega) (k4.tr k5.1) t5 (j4.app (cm_jr hw (by omega) (by omega) (by omega))) (by rw [List.length_append]; omega) fun x hx => by rw [k5.2]; exact r4 x hx
          · rw [if_neg c]
            rw [if_neg c, List.append_nil] at hnext
            exact ⟨fun _ => hnext h4 R4 (by omega) k4 t4 j4 (by omega) r4, fun z => absurd rfl z⟩
      refine inner (w 72).toNat 0 h3 R3 (by omega) (hk.tr k3.1) ?_ j3 (by rw [l3]; exact hl) r3
      have e0 : afCm w u 0 (afMs u (plS w pol u).1) = afMs u (plS w pol u).1 := by
        show ((afMs u (plS w pol u).1).1 ++ [], _) = _
        rw [List.append_nil]
      rw [e0]
      exact t3
  have fill : ∀ (j k : Nat) (h1 : Mem), k + j = 6 → KM h h1 → h1 60 24 = 0 → h1 60 28 = -9 → h1 60 29 = -9 → (∀ x, x < k → h1 75 x = 0 ∧ h1 76 x = 0) → WP E mM_runs 19 [some (.ref 60), some (.int (zI pol)), some (.int (zI k)), none] [] h1 (qV Q) := by
    intro j
    induction j with
    | zero =>
      intro k h1 hk ho e8 e3 e4 g
      refine fM_runs_19 ?_
      have k6 : k = 6 := by omega
      subst k6
      have pb := pot_b w 0 0 (w 72).toNat
      refine ⟨fun _ => ?_, fun z => absurd (by decide) z⟩
      exact key 60 0 h1 [] rfl ho ⟨e8, fun i hi => absurd hi (Nat.not_lt_zero i), rfl, fun x hx => (g x hx).1, fun x hx => (g x hx).2, e3, e4⟩ (fun _ z => absurd z List.not_mem_nil) pb.1 (fun x hx => absurd hx (Nat.not_lt_zero x))
    | succ j ih =>
      intro k h1 hk ho e8 e3 e4 g
      refine fM_runs_19 ?_
      have hnext := ih (k + 1)
      rw [show ((k + 1 : Nat) : Int) = (k : Int) + 1 by omega] at hnext
      simp (disch := omega) only [zI_add, zI_sub, zI_mul, zI_neg, zI_lt, zI_le, zI_eq, zI_div, zI_rem, ix_zI, inb_zI, nz_zI, imax_zI, imin_zI, c_t, nb01.1, nb01.2, zl_0, zl_1, zl_2, zl_3, zl_4, zl_5, zl_6, zl_7, zl_8, zl_9, zl_10, zl_11, zl_12, zl_13, zl_14, zl_15, zl_16, zl_17, zl_18, zl_19, zl_20, zl_24, zl_30, zl_31, zl_36, zl_42, zl_44, zl_48, zl_57, zl_58, zl_59, zl_60, zl_61, zl_62, zl_63, zl_64, zl_72, zl_73, zl_96, zl_99, zl_100, zl_104, zl_107, zl_111, zl_114, zl_116, zl_120, zl_200, zl_255, zl_256, zl_360, zl_600, zl_800, zl_1000, zl_2000, Int.toNat_natCast]
      refine ⟨fun z => by omega, fun _ => hnext _ (by omega) ((ho.up (by omega)).up (by omega)) ?_ ?_ ?_ (fun x hx => ?_)⟩
      · rw [upd2_ne 60 (by omega), upd2_ne 60 (by omega)]; exact e8
      · rw [upd2_ne 60 (by omega), upd2_ne 60 (by omega)]; exact e3
      · rw [upd2_ne 60 (by omega), upd2_ne 60 (by omega)]; exact e4
      · by_cases ex : x = k
        · subst ex
          exact ⟨(congrFun (upd2_ne 75 (by omega)) x).trans u_s, u_s⟩
        · have := g x (by omega)
          exact ⟨(congrFun (upd2_ne 75 (by omega)) x).trans ((u_i ex).trans this.1), (u_i ex).trans ((congrFun (upd2_ne 76 (by omega)) x).trans this.2)⟩
  exact fill 6 0 _ rfl (((KM.rf.f (by omega)).f (by omega)).f (by omega)) ((u_i (by omega)).trans ((u_i (by omega)).trans u_s)) ((u_i (by omega)).trans u_s) u_s (fun x hx => absurd hx (Nat.not_lt_zero x))
theorem sM_isPolicy {Q : Int32 → Mem → Prop} {pol : Int} (hp : I32 pol) (hq : Q (zI (if 0 ≤ pol ∧ pol ≤ 3 then 1 else 0)) h) : CALLI E mM_isPolicy [.int (zI pol)] h Q := by
  refine fM_isPolicy ?_
  unfold I32 at hp
  simp (disch := omega) only [zI_add, zI_sub, zI_mul, zI_neg, zI_lt, zI_le, zI_eq, zI_div, zI_rem, ix_zI, inb_zI, nz_zI, imax_zI, imin_zI, c_t, nb01.1, nb01.2, zl_0, zl_1, zl_2, zl_3, zl_4, zl_5, zl_6, zl_7, zl_8, zl_9, zl_10, zl_11, zl_12, zl_13, zl_14, zl_15, zl_16, zl_17, zl_18, zl_19, zl_20, zl_24, zl_30, zl_31, zl_36, zl_42, zl_44, zl_48, zl_57, zl_58, zl_59, zl_60, zl_61, zl_62, zl_63, zl_64, zl_72, zl_73, zl_96, zl_99, zl_100, zl_104, zl_107, zl_111, zl_114, zl_116, zl_120, zl_200, zl_255, zl_256, zl_360, zl_600, zl_800, zl_1000, zl_2000, zI_L, lg_ltz, lg_gtz, zL_add, zL_sub, zL_mul, zL_div, zL_rem, nzL_zL, zm_0, zm_1, zm_2, zm_5, zm_8, zm_9, zm_15, zm_16, zm_11, zm_20, zm_59, zm_60, zm_96, zm_99, zm_255, zm_600, zm_2147483647, zm_4000000000000000000, zm_3, zm_48, zm_57]
  refine sM_in (by omega) (by omega) (by omega) ?_
  split at hq
  · rename_i c
    rw [if_pos c]
    exact hq
  · rename_i c
    rw [if_neg c]
    exact hq
end MR
section RQM
variable {E : XE} {h : Mem} {s : St} {Q : Int32 → Mem → Prop}
theorem sM_neg {c0 c : Nat} {x : Int} (hb : SB h s) (e : c0 = c) (n : c ≠ 0) (l : c ≤ 6) (hq : ∀ h', SB h' (s.rfd c0) → FB h h' → Q (zI (cAns c0 x)) h') : CALLI E mM_refused [.ref 60, .int (zI (-(c : Nat)))] h fun v h' => Q v h' := sM_refused hb n l fun h' a b => by
  subst e
  have := hq h' a b
  unfold cAns at this
  rw [if_neg n] at this
  exact this
theorem sM_pos {c0 : Nat} {x : Int} (hb : SB h s) (e : c0 = 0) (hq : ∀ h', SB h' (s.rfd c0) → FB h h' → Q (zI (cAns c0 x)) h') : ∀ h', KM h h' → Q (zI x) h' := fun h' k => by
  subst e
  exact hq h' (k.sb hb) k.fb
theorem qM_run {pol u : Int} (hv : SV s) (hb : SB h s) (hp : I32 pol) (hu : I32 u) (hq : ∀ h', SB h' (s.rfd (cRun pol u)) → FB h h' → Q (zI (cAns (cRun pol u) (runS s.w pol u))) h') : CALLI E mM_run [.ref 60, .int (zI pol), .int (zI u)] h Q := by
  refine fM_run (sM_isPolicy hp ?_)
  by_cases c : 0 ≤ pol ∧ pol ≤ 3
  · rw [if_pos c]
    have o1 : cOth pol 4 = 0 := cOth_0.mpr (by omega)
    refine ⟨fun _ => ?_, fun z => absurd z (by decide)⟩
    unfold I32 at hu
    simp (disch := omega) only [zI_add, zI_sub, zI_mul, zI_neg, zI_lt, zI_le, zI_eq, zI_div, zI_rem, ix_zI, inb_zI, nz_zI, imax_zI, imin_zI, c_t, nb01.1, nb01.2, zl_0, zl_1, zl_2, zl_3, zl_4, zl_5, zl_6, zl_7, zl_8, zl_9, zl_10, zl_11, zl_12, zl_13, zl_14, zl_15, zl_16, zl_17, zl_18, zl_19, zl_20, zl_24, zl_30, zl_31, zl_36, zl_42, zl_44, zl_48, zl_57, zl_58, zl_59, zl_60, zl_61, zl_62, zl_63, zl_64, zl_72, zl_73, zl_96, zl_99, zl_100, zl_104, zl_107, zl_111, zl_114, zl_116, zl_120, zl_200, zl_255, zl_256, zl_360, zl_600, zl_800, zl_1000, zl_2000, zI_L, lg_ltz, lg_gtz, zL_add, zL_sub, zL_mul, zL_div, zL_rem, nzL_zL, zm_0, zm_1, zm_2, zm_5, zm_8, zm_9, zm_15, zm_16, zm_11, zm_20, zm_59, zm_60, zm_96, zm_99, zm_255, zm_600, zm_2147483647, zm_4000000000000000000, zm_3, zm_48, zm_57]
    refine sM_in (by omega) (by omega) (by omega) ?_
    by_cases c2 : 0 ≤ u ∧ u ≤ 59
    · rw [if_pos c2]
      have K := sM_pos hb (show cRun pol u = 0 by unfold cRun; rw [o1, cOut_0.mpr c2]; rfl) hq
      refine ⟨fun _ => sM_runs hb.w hv.w (by omega) fun h' R k t r => ?_, fun z => absurd z (by decide)⟩
      have r1 := r u.toNat (by omega)
      rw [show ((u.toNat : Nat) : Int) = u by omega] at r1
      simp (disch := omega) only [zI_add, zI_sub, zI_mul, zI_neg, zI_lt, zI_le, zI_eq, zI_div, zI_rem, ix_zI, inb_zI, nz_zI, imax_zI, imin_zI, c_t, nb01.1, nb01.2, zl_0, zl_1, zl_2, zl_3, zl_4, zl_5, zl_6, zl_7, zl_8, zl_9, zl_10, zl_11, zl_12, zl_13, zl_14, zl_15, zl_16, zl_17, zl_18, zl_19, zl_20, zl_24, zl_30, zl_31, zl_36, zl_42, zl_44, zl_48, zl_57, zl_58, zl_59, zl_60, zl_61, zl_62, zl_63, zl_64, zl_72, zl_73, zl_96, zl_99, zl_100, zl_104, zl_107, zl_111, zl_114, zl_116, zl_120, zl_200, zl_255, zl_256, zl_360, zl_600, zl_800, zl_1000, zl_2000, r1]
      exact K h' k
    · rw [if_neg c2]
      refine ⟨fun z => absurd rfl z, fun _ => ⟨fun z => ?_, fun z => ?_⟩⟩
      · refine sM_neg (c := 6) hb ?_ (by omega) (by omega) hq
        unfold cRun cFst
        rw [if_pos o1]
        unfold cOut
        rw [if_neg (by omega), if_pos (by omega)]
      · refine sM_neg (c := 4) hb ?_ (by omega) (by omega) hq
        unfold cRun cFst
        rw [if_pos o1]
        unfold cOut
        rw [if_pos (by omega)]
  · rw [if_neg c]
    refine ⟨fun z => absurd rfl z, fun _ => ?_⟩
    refine sM_neg (c := 2) hb ?_ (by omega) (by omega) hq
    have o2 : cOth pol 4 = 2 := by unfold cOth; rw [if_pos (by omega)]
    unfold cRun cFst
    rw [o2]
    rfl
theorem qM_jobs {pol t a : Int} (hv : SV s) (hb : SB h s) (hp : I32 pol) (ht : I32 t) (hi : I32 a) (hq : ∀ h', SB h' (s.rfd (cJbs s.w pol t a)) → FB h h' → Q (zI (cAns (cJbs s.w pol t a) (jobsS s.w pol t a))) h') : CALLI E mM_jobs [.ref 60, .int (zI pol), .int (zI t), .int (zI a)] h Q := by
  have hn := hv.w.1
  refine fM_jobs (sM_isPolicy hp ?_)
  by_cases c : 0 ≤ pol ∧ pol ≤ 3
  · rw [if_pos c]
    have o1 : cOth pol 4 = 0 := cOth_0.mpr (by omega)
    refine ⟨fun _ => sM_isTask hb.w hv.w ht ?_, fun z => absurd z (by decide)⟩
    by_cases c2 : 0 ≤ t ∧ t < s.w 72
    · rw [if_pos c2]
      have o2 : cTask s.w t = 0 := cTask_0.mpr c2
      refine ⟨fun _ => ?_, fun z => absurd z (by decide)⟩
      unfold I32 at hi
      simp (disch := omega) only [zI_add, zI_sub, zI_mul, zI_neg, zI_lt, zI_le, zI_eq, zI_div, zI_rem, ix_zI, inb_zI, nz_zI, imax_zI, imin_zI, c_t, nb01.1, nb01.2, zl_0, zl_1, zl_2, zl_3, zl_4, zl_5, zl_6, zl_7, zl_8, zl_9, zl_10, zl_11, zl_12, zl_13, zl_14, zl_15, zl_16, zl_17, zl_18, zl_19, zl_20, zl_24, zl_30, zl_31, zl_36, zl_42, zl_44, zl_48, zl_57, zl_58, zl_59, zl_60, zl_61, zl_62, zl_63, zl_64, zl_72, zl_73, zl_96, zl_99, zl_100, zl_104, zl_107, zl_111, zl_114, zl_116, zl_120, zl_200, zl_255, zl_256, zl_360, zl_600, zl_800, zl_1000, zl_2000, zI_L, lg_ltz, lg_gtz, zL_add, zL_sub, zL_mul, zL_div, zL_rem, nzL_zL, zm_0, zm_1, zm_2, zm_5, zm_8, zm_9, zm_15, zm_16, zm_11, zm_20, zm_59, zm_60, zm_96, zm_99, zm_255, zm_600, zm_2147483647, zm_4000000000000000000, zm_3, zm_48, zm_57]
      refine sM_in (by omega) (by omega) (by omega) ?_
      by_cases c3 : 0 ≤ a ∧ a ≤ 1
      · rw [if_pos c3]
        have K := sM_pos hb (show cJbs s.w pol t a = 0 by unfold cJbs; rw [o1, o2, cOth_0.mpr (show 0 ≤ a ∧ a < 2 by omega)]; rfl) hq
        refine ⟨fun _ => sM_runs hb.w hv.w (by omega) fun h' R k tm r => ?_, fun z => absurd z (by decide)⟩
        have r1 := tm.2.2.2.1 t.toNat (by omega)
        have r2 := tm.2.2.2.2.1 t.toNat (by omega)
        rw [show ((t.toNat : Nat) : Int) = t by omega] at r1 r2
        have K := K h' k
        unfold jobsS at K
        simp (disch := omega) only [zI_add, zI_sub, zI_mul, zI_neg, zI_lt, zI_le, zI_eq, zI_div, zI_rem, ix_zI, inb_zI, nz_zI, imax_zI, imin_zI, c_t, nb01.1, nb01.2, zl_0, zl_1, zl_2, zl_3, zl_4, zl_5, zl_6, zl_7, zl_8, zl_9, zl_10, zl_11, zl_12, zl_13, zl_14, zl_15, zl_16, zl_17, zl_18, zl_19, zl_20, zl_24, zl_30, zl_31, zl_36, zl_42, zl_44, zl_48, zl_57, zl_58, zl_59, zl_60, zl_61, zl_62, zl_63, zl_64, zl_72, zl_73, zl_96, zl_99, zl_100, zl_104, zl_107, zl_111, zl_114, zl_116, zl_120, zl_200, zl_255, zl_256, zl_360, zl_600, zl_800, zl_1000, zl_2000, r1, r2]
        refine ⟨fun y => ?_, fun y => ?_⟩
        · rw [if_neg y] at K; exact K
        · rw [if_pos y] at K; exact K
      · rw [if_neg c3]
        refine ⟨fun z => absurd rfl z, fun _ => ?_⟩
        refine sM_neg (c := 2) hb ?_ (by omega) (by omega) hq
        have o3 : cOth a 2 = 2 := by unfold cOth; rw [if_pos (by omega)]
        unfold cJbs
        rw [o1, o2, o3]; rfl
    · rw [if_neg c2]
      refine ⟨fun z => absurd rfl z, fun _ => ?_⟩
      refine sM_neg (c := 1) hb ?_ (by omega) (by omega) hq
      have o2 : cTask s.w t = 1 := by unfold cTask; rw [if_neg c2]
      unfold cJbs
      rw [o1, o2]; rfl
  · rw [if_neg c]
    refine ⟨fun z => absurd rfl z, fun _ => ?_⟩
    refine sM_neg (c := 2) hb ?_ (by omega) (by omega) hq
    have o2 : cOth pol 4 = 2 := by unfold cOth; rw [if_pos (by omega)]
    unfold cJbs cFst
    rw [o2]
    rfl
theorem qM_first {pol a : Int} (hv : SV s) (hb : SB h s) (hp : I32 pol) (hi : I32 a) (hq : ∀ h', SB h' (s.rfd (cFir pol a)) → FB h h' → Q (zI (cAns (cFir pol a) (firstS s.w pol a))) h') : CALLI E mM_first [.ref 60, .int (zI pol), .int (zI a)] h Q := by
  refine fM_first (sM_isPolicy hp ?_)
  by_cases c : 0 ≤ pol ∧ pol ≤ 3
  · rw [if_pos c]
    have o1 : cOth pol 4 = 0 := cOth_0.mpr (by omega)
    refine ⟨fun z => absurd z (by decide), fun _ => ?_⟩
    unfold I32 at hi
    simp (disch := omega) only [zI_add, zI_sub, zI_mul, zI_neg, zI_lt, zI_le, zI_eq, zI_div, zI_rem, ix_zI, inb_zI, nz_zI, imax_zI, imin_zI, c_t, nb01.1, nb01.2, zl_0, zl_1, zl_2, zl_3, zl_4, zl_5, zl_6, zl_7, zl_8, zl_9, zl_10, zl_11, zl_12, zl_13, zl_14, zl_15, zl_16, zl_17, zl_18, zl_19, zl_20, zl_24, zl_30, zl_31, zl_36, zl_42, zl_44, zl_48, zl_57, zl_58, zl_59, zl_60, zl_61, zl_62, zl_63, zl_64, zl_72, zl_73, zl_96, zl_99, zl_100, zl_104, zl_107, zl_111, zl_114, zl_116, zl_120, zl_200, zl_255, zl_256, zl_360, zl_600, zl_800, zl_1000, zl_2000, zI_L, lg_ltz, lg_gtz, zL_add, zL_sub, zL_mul, zL_div, zL_rem, nzL_zL, zm_0, zm_1, zm_2, zm_5, zm_8, zm_9, zm_15, zm_16, zm_11, zm_20, zm_59, zm_60, zm_96, zm_99, zm_255, zm_600, zm_2147483647, zm_4000000000000000000, zm_3, zm_48, zm_57]
    refine sM_in (by omega) (by omega) (by omega) ?_
    by_cases c3 : 0 ≤ a ∧ a ≤ 1
    · rw [if_pos c3]
      have K := sM_pos hb (show cFir pol a = 0 by unfold cFir; rw [o1, cOth_0.mpr (show 0 ≤ a ∧ a < 2 by omega)]; rfl) hq
      refine ⟨fun _ => sM_runs hb.w hv.w (by omega) fun h' R k tm r => ?_, fun z => absurd z (by decide)⟩
      have K := K h' k
      unfold firstS at K
      refine ⟨fun y => ?_, fun y => ?_⟩
      · rw [if_neg y] at K
        rw [tm.2.2.2.2.2.2]; exact K
      · rw [if_pos y] at K
        rw [tm.2.2.2.2.2.1]; exact K
    · rw [if_neg c3]
      refine ⟨fun z => absurd rfl z, fun _ => ?_⟩
      refine sM_neg (c := 2) hb ?_ (by omega) (by omega) hq
      have o3 : cOth a 2 = 2 := by unfold cOth; rw [if_pos (by omega)]
      unfold cFir
      rw [o1, o3]; rfl
  · rw [if_neg c]
    refine ⟨fun _ => ?_, fun z => absurd rfl z⟩
    refine sM_neg (c := 2) hb ?_ (by omega) (by omega) hq
    have o2 : cOth pol 4 = 2 := by unfold cOth; rw [if_pos (by omega)]
    unfold cFir cFst
    rw [o2]
    rfl
end RQM
