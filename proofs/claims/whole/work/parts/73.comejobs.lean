/-! ===== the reference's run: jobs that come ===== -/
theorem cm_stop {w : Int → Int} (hw : WF w) {t u : Int} (h0 : 0 ≤ t) (h1 : t < w 72) : ∀ (k m : Nat), u < w (18 + t) + (k : Int) * dist w t → cmK w t u (k + m) = cmK w t u k
  | k, 0, _ => rfl
  | k, m + 1, h => by
    have ih := cm_stop hw h0 h1 k m h
    have db := dist_b hw h0 h1
    have lb := lat_b hw h0 h1
    show cmK w t u (k + m) ++ itS w t u (k + m) = _
    rw [ih, it_eq, if_neg, List.append_nil]
    intro z
    have z1 := z.1
    unfold arrS at z1
    have mo : (k : Int) * dist w t ≤ ((k + m : Nat) : Int) * dist w t := Int.mul_le_mul_of_nonneg_right (by omega) (by omega)
    split at z1 <;> omega
section MC
variable {E : XE} {h : Mem} {w : Int → Int}
theorem tm_add {R : List Job} {s : RSt} {j : Job} (ht : TM h R s) (hj : 0 < j.2.2) : TM (upd2 (upd3 h 71 R.length (zI j.1) (zI j.2.1) (zI j.2.2)) 60 24 (zI ((R.length : Int) + 1))) (R ++ [j]) (s.1 ++ [j], s.2) := by
  obtain ⟨q1, q2, qL, q3, q4, q5, q6⟩ := ht
  have o : ∀ q, q ≠ 60 → q ≠ 71 ∧ q ≠ 72 ∧ q ≠ 73 → upd2 (upd3 h 71 R.length (zI j.1) (zI j.2.1) (zI j.2.2)) 60 24 (zI ((R.length : Int) + 1)) q = h q := fun q a b => (upd2_ne q a).trans (u3_f b)
  have o60 : ∀ i, i ≠ 24 → upd2 (upd3 h 71 R.length (zI j.1) (zI j.2.1) (zI j.2.2)) 60 24 (zI ((R.length : Int) + 1)) 60 i = h 60 i := fun i hi => (u_i hi).trans (congrFun (u3_f (by omega)) i)
  refine ⟨u_s.trans (by simp), fun x hx => ?_, ?_, fun x hx => by rw [o 75 (by omega) (by omega)]; exact q3 x hx, fun x hx => by rw [o 76 (by omega) (by omega)]; exact q4 x hx, (o60 28 (by omega)).trans q5, (o60 29 (by omega)).trans q6⟩
  · have f : ∀ q, q ≠ 60 → upd2 (upd3 h 71 R.length (zI j.1) (zI j.2.1) (zI j.2.2)) 60 24 (zI ((R.length : Int) + 1)) q = upd3 h 71 R.length (zI j.1) (zI j.2.1) (zI j.2.2) q := fun q a => upd2_ne q a
    refine JXi.fr ?_ (f _ (by omega)) (f _ (by omega)) (f _ (by omega))
    by_cases ex : x = R.length
    · rw [ex, gj_m rfl]; exact u3_s
    · have hx : x < R.length := by simp at hx; omega
      rw [gj_l hx]
      exact u3_o ex (q2 x hx)
  · rw [liv_app, qL, liv_pos hj]; rfl
theorem sM_comesJob {Q : Mem → Prop} {t dl : Int} {R : List Job} {s : RSt} (hm : RW (h 61) w) (hw : WF w) (h0 : 0 ≤ t) (h1 : t < w 72) (ht : TM h R s) (hl : R.length < 360) (hq : ∀ h', MJ h h' → TM h' (R ++ [(t, dl, w t)]) (s.1 ++ [(t, dl, w t)], s.2) → Q h') : CALLV E mM_comesJob [.ref 60, .int (zI t), .int (zI dl)] h Q := by
  refine fM_comesJob ?_
  have bt := hw.at h0 h1
  have q1 := ht.1
  have e1 : ∀ i x, upd2 h 71 i x 60 24 = zI R.length := fun i x => (congrFun (upd2_ne 60 (by omega)) 24).trans q1
  have e2 : ∀ i x i2 y, upd2 (upd2 h 71 i x) 72 i2 y 60 24 = zI R.length := fun i x i2 y => (congrFun (upd2_ne 60 (by omega)) 24).trans (e1 i x)
  have e3 : ∀ i x i2 y i3 z, upd2 (upd2 (upd2 h 71 i x) 72 i2 y) 73 i3 z 60 24 = zI R.length := fun i x i2 y i3 z => (congrFun (upd2_ne 60 (by omega)) 24).trans (e2 i x i2 y)
  have e4 : ∀ i x i2 y, upd2 (upd2 h 71 i x) 72 i2 y 61 t.toNat = zI (w t) := fun i x i2 y => (congrFun ((upd2_ne 61 (by omega)).trans (upd2_ne 61 (by omega))) _).trans (hm t (by omega) (by omega))
  rw [q1]
  simp (disch := omega) only [zI_add, zI_sub, zI_mul, zI_neg, zI_lt, zI_le, zI_eq, zI_div, zI_rem, ix_zI, inb_zI, nz_zI, imax_zI, imin_zI, c_t, nb01.1, nb01.2, zl_0, zl_1, zl_2, zl_3, zl_4, zl_5, zl_6, zl_7, zl_8, zl_9, zl_10, zl_11, zl_12, zl_13, zl_14, zl_15, zl_16, zl_17, zl_18, zl_19, zl_20, zl_24, zl_30, zl_31, zl_36, zl_42, zl_44, zl_48, zl_57, zl_58, zl_59, zl_60, zl_61, zl_62, zl_63, zl_64, zl_72, zl_73, zl_96, zl_99, zl_100, zl_104, zl_107, zl_111, zl_114, zl_116, zl_120, zl_200, zl_255, zl_256, zl_360, zl_600, zl_800, zl_1000, zl_2000, Int.toNat_natCast, e1, e2, e3, Int.zero_add, e4]
  have := tm_add (j := (t, dl, w t)) ht (by show 0 < w t; omega)
  exact hq _ (MJ.rf.u3.f (by omega)) this
theorem sM_comeJobs {Q : Mem → Prop} {t u : Int} {R : List Job} {s : RSt} (hm : RW (h 61) w) (hw : WF w) (h0 : 0 ≤ t) (h1 : t < w 72) (hu : 0 ≤ u ∧ u < 60) (ht : TM h R s) (hl : (R.length : Int) + (cmK w t u 30).length ≤ 360) (hq : ∀ h', MJ h h' → TM h' (R ++ cmK w t u 30) (s.1 ++ cmK w t u 30, s.2) → Q h') : CALLV E mM_comeJobs [.ref 60, .int (zI t), .int (zI u)] h Q := by
  refine fM_comeJobs ?_
  have bt := hw.at h0 h1
  have db := dist_b hw h0 h1
  have lb := lim_b hw h0 h1
  have ab := lat_b hw h0 h1
  have key : ∀ (j k : Nat) (h2 : Mem), k + j = 30 → MJ h h2 → TM h2 (R ++ cmK w t u k) (s.1 ++ cmK w t u k, s.2) → WP E mM_comeJobs 2 [some (.ref 60), some (.int (zI t)), some (.int (zI u)), some (.int (zI k)), none, none] [] h2 (qV Q) := by
    intro j
    induction j with
    | zero =>
      intro k h2 hk mj tm
      have k30 : k = 30 := by omega
      subst k30
      have m2 := mj.1.w hm
      refine fM_comeJobs_2 ?_
      simp (disch := omega) only [zI_add, zI_sub, zI_mul, zI_neg, zI_lt, zI_le, zI_eq, zI_div, zI_rem, ix_zI, inb_zI, nz_zI, imax_zI, imin_zI, c_t, nb01.1, nb01.2, zl_0, zl_1, zl_2, zl_3, zl_4, zl_5, zl_6, zl_7, zl_8, zl_9, zl_10, zl_11, zl_12, zl_13, zl_14, zl_15, zl_16, zl_17, zl_18, zl_19, zl_20, zl_24, zl_30, zl_31, zl_36, zl_42, zl_44, zl_48, zl_57, zl_58, zl_59, zl_60, zl_61, zl_62, zl_63, zl_64, zl_72, zl_73, zl_96, zl_99, zl_100, zl_104, zl_107, zl_111, zl_114, zl_116, zl_120, zl_200, zl_255, zl_256, zl_360, zl_600, zl_800, zl_1000, zl_2000, m2 _]
      refine sM_distance m2 hw h0 h1 ?_
      simp (disch := omega) only [zI_add, zI_sub, zI_mul, zI_neg, zI_lt, zI_le, zI_eq, zI_div, zI_rem, ix_zI, inb_zI, nz_zI, imax_zI, imin_zI, c_t, nb01.1, nb01.2, zl_0, zl_1, zl_2, zl_3, zl_4, zl_5, zl_6, zl_7, zl_8, zl_9, zl_10, zl_11, zl_12, zl_13, zl_14, zl_15, zl_16, zl_17, zl_18, zl_19, zl_20, zl_24, zl_30, zl_31, zl_36, zl_42, zl_44, zl_48, zl_57, zl_58, zl_59, zl_60, zl_61, zl_62, zl_63, zl_64, zl_72, zl_73, zl_96, zl_99, zl_100, zl_104, zl_107, zl_111, zl_114, zl_116, zl_120, zl_200, zl_255, zl_256, zl_360, zl_600, zl_800, zl_1000, zl_2000]
      refine ⟨fun _ => hq h2 mj tm, fun z => ?_⟩
      exact absurd (by omega : u < w (18 + t) + 30 * dist w t) z
    | succ j ih =>
      intro k h2 hk mj tm
      have m2 := mj.1.w hm
      have kd0 : 0 ≤ (k : Int) * dist w t := Int.mul_nonneg (by omega) (by omega)
      have kd1 : (k : Int) * dist w t ≤ 30 * 69 := Int.mul_le_mul (by omega) (by omega) (by omega) (by omega)
      have hnext := ih (k + 1)
      rw [show ((k + 1 : Nat) : Int) = (k : Int) + 1 by omega] at hnext
      have ec : cmK w t u (k + 1) = cmK w t u k ++ itS w t u k := rfl
      have lk : ∀ (m : Nat), (cmK w t u k).length ≤ (cmK w t u (k + m)).length := fun m => by
        induction m with
        | zero => exact Nat.le_refl _
        | succ m im =>
          have : (cmK w t u (k + (m + 1))).length = (cmK w t u (k + m) ++ itS w t u (k + m)).length := rfl
          rw [List.length_append] at this
          omega
      have lk1 : (cmK w t u (k + 1)).length ≤ (cmK w t u 30).length := by
        have : ∀ (m : Nat), (cmK w t u (k + 1)).length ≤ (cmK w t u (k + 1 + m)).length := fun m => by
          induction m with
          | zero => exact Nat.le_refl _
          | succ m im =>
            have : (cmK w t u (k + 1 + (m + 1))).length = (cmK w t u (k + 1 + m) ++ itS w t u (k + 1 + m)).length := rfl
            rw [List.length_append] at this
            omega
        have := this j
        rwa [show k + 1 + j = 30 by omega] at this
      rw [ec, List.length_append] at lk1
      have none' : itS w t u k = [] → WP E mM_comeJobs 2 [some (.ref 60), some (.int (zI t)), some (.int (zI u)), some (.int (zI ((k : Int) + 1))), none, none] [] h2 (qV Q) := fun e => by
        have := hnext h2 (by omega) mj
        rw [ec, e, List.append_nil] at this
        exact this tm
      have s54 : ∀ s0 : Int, (s0 = if w (30 + t) ≠ 4 ∨ (k : Int) ≤ w (36 + t) then 1 else 0) → WP E mM_comeJobs 54 [some (.ref 60), some (.int (zI t)), some (.int (zI u)), some (.int (zI k)), none, none] [.int (zI s0)] h2 (qV Q) := by
        intro s0 es0
        refine fM_comeJobs_54 ?_
        simp (disch := omega) only [zI_add, zI_sub, zI_mul, zI_neg, zI_lt, zI_le, zI_eq, zI_div, zI_rem, ix_zI, inb_zI, nz_zI, imax_zI, imin_zI, c_t, nb01.1, nb01.2, zl_0, zl_1, zl_2, zl_3, zl_4, zl_5, zl_6, zl_7, zl_8, zl_9, zl_10, zl_11, zl_12, zl_13, zl_14, zl_15, zl_16, zl_17, zl_18, zl_19, zl_20, zl_24, zl_30, zl_31, zl_36, zl_42, zl_44, zl_48, zl_57, zl_58, zl_59, zl_60, zl_61, zl_62, zl_63, zl_64, zl_72, zl_73, zl_96, zl_99, zl_100, zl_104, zl_107, zl_111, zl_114, zl_116, zl_120, zl_200, zl_255, zl_256, zl_360, zl_600, zl_800, zl_1000, zl_2000, m2 _]
        refine sM_distance m2 hw h0 h1 ?_
        have b0 : s0 = 0 ∨ s0 = 1 := by rw [es0]; split <;> omega
        have arr : s0 ≠ 0 → arrS w t k = u → ∀ x : Int, x = w (18 + t) + (k : Int) * dist w t → CALLI E mM_limit [.ref 60, .int (zI t)] h2 fun v2 h2 => CALLV E mM_comesJob [.ref 60, .int (zI t), .int (zI x + v2)] h2 fun h3 => (¬ h3 61 (30 + t).toNat = zI 3 → WP E mM_comeJobs 2 [some (.ref 60), some (.int (zI t)), some (.int (zI u)), some (.int (zI ((k : Int) + 1))), none, none] [] h3 (qV Q)) ∧ (h3 61 (30 + t).toNat = zI 3 → CALLI E mM_limit [.ref 60, .int (zI t)] h3 fun v4 h4 => CALLV E mM_comesJob [.ref 60, .int (zI t), .int (zI x + v4)] h4 fun h5 => WP E mM_comeJobs 2 [some (.ref 60), some (.int (zI t)), some (.int (zI u)), some (.int (zI ((k : Int) + 1))), none, none] [] h5 (qV Q)) := by
          intro z0 za x ex
          have zc : w (30 + t) ≠ 4 ∨ (k : Int) ≤ w (36 + t) := by
            rw [es0] at z0
            split at z0
            · assumption
            · exact absurd rfl z0
          have ei : itS w t u k = jlS w t k := by rw [it_eq, if_pos ⟨za, zc⟩]
          have ej : (t, x + lim w t, w t) = jbS w t k := by unfold jbS; rw [ex]
          rw [ei] at lk1 ec
          unfold jlS at lk1 ec
          refine sM_limit m2 hw h0 h1 ?_
          rw [zI_add]
          by_cases k3 : w (30 + t) = 3
          · rw [if_pos k3] at lk1 ec
            simp only [List.length_cons, List.length_nil] at lk1
            refine sM_comesJob m2 hw h0 h1 tm (by simp; omega) fun h3 mj3 t3 => ?_
            have m3 := mj3.1.w m2
            rw [m3 (30 + t) (by omega) (by omega)]
            refine ⟨fun z => absurd (by rw [k3]) z, fun _ => sM_limit m3 hw h0 h1 ?_⟩
            rw [zI_add]
            refine sM_comesJob m3 hw h0 h1 t3 (by simp; omega) fun h4 mj4 t4 => hnext h4 (by omega) ((mj.tr mj3).tr mj4) ?_
            rw [ec, ← ej]
            simpa using t4
          · rw [if_neg k3] at lk1 ec
            simp only [List.length_cons, List.length_nil] at lk1
            refine sM_comesJob m2 hw h0 h1 tm (by simp; omega) fun h3 mj3 t3 => ?_
            have m3 := mj3.1.w m2
            rw [m3 (30 + t) (by omega) (by omega), zI_eq (by omega) (by omega) (by omega) (by omega)]
            refine ⟨fun _ => hnext h3 (by omega) (mj.tr mj3) ?_, fun z => absurd z k3⟩
            rw [ec, ← ej]
            simpa using t3
        have non : ¬ (arrS w t k = u ∧ s0 ≠ 0) → itS w t u k = [] := fun z => by
          rw [it_eq, if_neg]
          intro y
          rw [if_pos y.2] at es0
          exact z ⟨y.1, by omega⟩
        simp (disch := omega) only [zI_add, zI_sub, zI_mul, zI_neg, zI_lt, zI_le, zI_eq, zI_div, zI_rem, ix_zI, inb_zI, nz_zI, imax_zI, imin_zI, c_t, nb01.1, nb01.2, zl_0, zl_1, zl_2, zl_3, zl_4, zl_5, zl_6, zl_7, zl_8, zl_9, zl_10, zl_11, zl_12, zl_13, zl_14, zl_15, zl_16, zl_17, zl_18, zl_19, zl_20, zl_24, zl_30, zl_31, zl_36, zl_42, zl_44, zl_48, zl_57, zl_58, zl_59, zl_60, zl_61, zl_62, zl_63, zl_64, zl_72, zl_73, zl_96, zl_99, zl_100, zl_104, zl_107, zl_111, zl_114, zl_116, zl_120, zl_200, zl_255, zl_256, zl_360, zl_600, zl_800, zl_1000, zl_2000]
        refine ⟨fun z => none' (non (fun y => y.2 z)), fun z => ⟨fun z1 => ?_, fun z1 => sM_late m2 hw h0 h1 ?_⟩⟩
        · have ae : arrS w t k = w (18 + t) + (k : Int) * dist w t := arr_even (by omega)
          rw [Int.add_zero]
          exact ⟨fun z2 => none' (non (fun y => z2 (by rw [← ae]; exact y.1))), fun z2 => arr z (by rw [ae]; exact z2) _ rfl⟩
        · have ae : arrS w t k = w (18 + t) + (k : Int) * dist w t + lat w t := arr_odd (by omega)
          simp (disch := omega) only [zI_add, zI_sub, zI_mul, zI_neg, zI_lt, zI_le, zI_eq, zI_div, zI_rem, ix_zI, inb_zI, nz_zI, imax_zI, imin_zI, c_t, nb01.1, nb01.2, zl_0, zl_1, zl_2, zl_3, zl_4, zl_5, zl_6, zl_7, zl_8, zl_9, zl_10, zl_11, zl_12, zl_13, zl_14, zl_15, zl_16, zl_17, zl_18, zl_19, zl_20, zl_24, zl_30, zl_31, zl_36, zl_42, zl_44, zl_48, zl_57, zl_58, zl_59, zl_60, zl_61, zl_62, zl_63, zl_64, zl_72, zl_73, zl_96, zl_99, zl_100, zl_104, zl_107, zl_111, zl_114, zl_116, zl_120, zl_200, zl_255, zl_256, zl_360, zl_600, zl_800, zl_1000, zl_2000]
          exact ⟨fun z2 => none' (non (fun y => z2 (by rw [← ae]; exact y.1))), fun z2 => arr z (by rw [ae]; exact z2) _ rfl⟩
      refine fM_comeJobs_2 ?_
      simp (disch := omega) only [zI_add, zI_sub, zI_mul, zI_neg, zI_lt, zI_le, zI_eq, zI_div, zI_rem, ix_zI, inb_zI, nz_zI, imax_zI, imin_zI, c_t, nb01.1, nb01.2, zl_0, zl_1, zl_2, zl_3, zl_4, zl_5, zl_6, zl_7, zl_8, zl_9, zl_10, zl_11, zl_12, zl_13, zl_14, zl_15, zl_16, zl_17, zl_18, zl_19, zl_20, zl_24, zl_30, zl_31, zl_36, zl_42, zl_44, zl_48, zl_57, zl_58, zl_59, zl_60, zl_61, zl_62, zl_63, zl_64, zl_72, zl_73, zl_96, zl_99, zl_100, zl_104, zl_107, zl_111, zl_114, zl_116, zl_120, zl_200, zl_255, zl_256, zl_360, zl_600, zl_800, zl_1000, zl_2000, m2 _]
      refine sM_distance m2 hw h0 h1 ?_
      simp (disch := omega) only [zI_add, zI_sub, zI_mul, zI_neg, zI_lt, zI_le, zI_eq, zI_div, zI_rem, ix_zI, inb_zI, nz_zI, imax_zI, imin_zI, c_t, nb01.1, nb01.2, zl_0, zl_1, zl_2, zl_3, zl_4, zl_5, zl_6, zl_7, zl_8, zl_9, zl_10, zl_11, zl_12, zl_13, zl_14, zl_15, zl_16, zl_17, zl_18, zl_19, zl_20, zl_24, zl_30, zl_31, zl_36, zl_42, zl_44, zl_48, zl_57, zl_58, zl_59, zl_60, zl_61, zl_62, zl_63, zl_64, zl_72, zl_73, zl_96, zl_99, zl_100, zl_104, zl_107, zl_111, zl_114, zl_116, zl_120, zl_200, zl_255, zl_256, zl_360, zl_600, zl_800, zl_1000, zl_2000, m2 _]
      refine ⟨fun z => hq h2 mj ?_, fun z => ⟨fun z1 => s54 1 (by rw [if_pos (Or.inl z1)]), fun z1 => ⟨fun z2 => s54 0 (by rw [if_neg (by omega)]), fun z2 => s54 1 (by rw [if_pos (by omega)])⟩⟩⟩
      have := cm_stop hw h0 h1 (u := u) k (j + 1) z
      rw [show k + (j + 1) = 30 by omega] at this
      rw [this]
      exact tm
  have := key 30 0 h rfl MJ.rf
  simp only [cmK, List.append_nil] at this
  exact this ht
end MC
