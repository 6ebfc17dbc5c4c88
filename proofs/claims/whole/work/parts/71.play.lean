/-! ===== the class's run, whole; its calls ===== -/
def ti (q : Nat) : Prop := 48 ≤ q ∧ q ≤ 54
theorem ti_cs {q : Nat} (h : ti q) : cs q := by unfold ti at h; unfold cs; omega
theorem tj_ti {q : Nat} (h : tj q) : ti q := by unfold tj at h; unfold ti; omega
theorem DW.tik {h h' : Mem} {p : Nat} {w : Int → Int} (hp : isP p) (hd : DW h p w) (o : Off ti h h') : DW h' p w := hd.off o (fun k hk z => by have := hp.b; unfold ti at z; omega)
def cRun (pol u : Int) : Nat := cFst (cOth pol 4) (cOut u 0 59)
theorem cRun_b (pol u : Int) : cRun pol u ≤ 6 := cFst_b (cOth_b _ _) (cOut_b _ _ _)
def cJbs (w : Int → Int) (pol t a : Int) : Nat := cFst (cFst (cOth pol 4) (cTask w t)) (cOth a 2)
theorem cJbs_b (w : Int → Int) (pol t a : Int) : cJbs w pol t a ≤ 6 := cFst_b (cFst_b (cOth_b _ _) (cTask_b _ _)) (cOth_b _ _)
def cFir (pol a : Int) : Nat := cFst (cOth pol 4) (cOth a 2)
theorem cFir_b (pol a : Int) : cFir pol a ≤ 6 := cFst_b (cOth_b _ _) (cOth_b _ _)
theorem pl_w {w : Int → Int} {pol : Int} : ∀ (u x : Nat), x < u → (plS w pol (x + 1)).2 (x : Int) = (plS w pol u).2 (x : Int)
  | 0, x, h => by omega
  | u + 1, x, h => by
    by_cases e : x = u
    · rw [e]
    · rw [pl_w u x (by omega)]
      exact (fs_ne (by omega)).symm
section PL
variable {E : XE} {h : Mem} {w : Int → Int} {p : Nat}
theorem sTI_forget {Q : Mem → Prop} (hq : ∀ h', Off tj h h' → TQ h' ([], fun _ => 0, fun _ => 0, -9, -9) → Q h') : CALLV E mTI_forget [.ref 48] h Q := by
  refine fTI_forget ?_
  have key : ∀ (j k : Nat) (h1 : Mem), k + j = 6 → Off tj h h1 → h1 48 8 = 0 → h1 48 3 = -9 → h1 48 4 = -9 → (∀ x, x < k → h1 50 x = 0 ∧ h1 51 x = 0) → WP E mTI_forget 19 [some (.ref 48), some (.int (zI k))] [] h1 (qV Q) := by
    intro j
    induction j with
    | zero =>
      intro k h1 hk ho e8 e3 e4 g
      refine fTI_forget_19 ?_
      have k6 : k = 6 := by omega
      subst k6
      exact ⟨fun _ => hq h1 ho ⟨e8, fun i hi => absurd hi (Nat.not_lt_zero i), fun x hx => (g x hx).1, fun x hx => (g x hx).2, e3, e4⟩, fun z => absurd (by decide) z⟩
    | succ j ih =>
      intro k h1 hk ho e8 e3 e4 g
      refine fTI_forget_19 ?_
      have hnext := ih (k + 1)
      rw [show ((k + 1 : Nat) : Int) = (k : Int) + 1 by omega] at hnext
      simp (disch := omega) only [zI_add, zI_sub, zI_mul, zI_neg, zI_lt, zI_le, zI_eq, zI_div, zI_rem, ix_zI, inb_zI, nz_zI, imax_zI, imin_zI, c_t, nb01.1, nb01.2, zl_0, zl_1, zl_2, zl_3, zl_4, zl_5, zl_6, zl_7, zl_8, zl_9, zl_10, zl_11, zl_12, zl_13, zl_14, zl_15, zl_16, zl_17, zl_18, zl_19, zl_20, zl_24, zl_30, zl_31, zl_36, zl_42, zl_44, zl_48, zl_57, zl_58, zl_59, zl_60, zl_61, zl_62, zl_63, zl_64, zl_72, zl_73, zl_96, zl_99, zl_100, zl_104, zl_107, zl_111, zl_114, zl_116, zl_120, zl_200, zl_255, zl_256, zl_360, zl_600, zl_800, zl_1000, zl_2000, Int.toNat_natCast]
      refine ⟨fun z => by omega, fun _ => hnext _ (by omega) ((ho.up (P := tj) (by unfold tj; omega)).up (by unfold tj; omega)) ?_ ?_ ?_ (fun x hx => ?_)⟩
      · rw [upd2_ne 48 (by omega), upd2_ne 48 (by omega)]; exact e8
      · rw [upd2_ne 48 (by omega), upd2_ne 48 (by omega)]; exact e3
      · rw [upd2_ne 48 (by omega), upd2_ne 48 (by omega)]; exact e4
      · by_cases ex : x = k
        · subst ex
          exact ⟨(congrFun (upd2_ne 50 (by omega)) x).trans u_s, u_s⟩
        · have := g x (by omega)
          exact ⟨(congrFun (upd2_ne 50 (by omega)) x).trans ((u_i ex).trans this.1), (u_i ex).trans ((congrFun (upd2_ne 51 (by omega)) x).trans this.2)⟩
  exact key 6 0 _ rfl (((Off.rf.up (P := tj) (by unfold tj; omega)).up (by unfold tj; omega)).up (by unfold tj; omega)) ((u_i (by omega)).trans ((u_i (by omega)).trans u_s)) ((u_i (by omega)).trans u_s) u_s (fun x hx => absurd hx (Nat.not_lt_zero x))
theorem sTI_play {Q : Mem → Prop} {pol : Int} (hp : isP p) (hd : DW h p w) (hw : WF w) (hpol : 0 ≤ pol ∧ pol < 4) (hq : ∀ h', Off ti h h' → TQ h' (endS w pol) → (∀ x : Nat, x < 60 → h' 49 x = zI (runS w pol x)) → Q h') : CALLV E mTI_play [.ref 48, .ref p, .int (zI pol)] h Q := by
  have hn := hw.1
  refine fTI_play hp (sTI_forget fun h1 o1 t1 => ?_)
  have key : ∀ (j u : Nat) (h2 : Mem), u + j = 60 → Off ti h h2 → TQ h2 (plS w pol u).1 → (∀ x : Nat, x < u → h2 49 x = zI ((plS w pol u).2 x)) → WP E mTI_play 6 [some (.ref 48), some (.ref p), some (.int (zI pol)), some (.int (zI u)), none] [] h2 (qV Q) := by
    intro j
    induction j with
    | zero =>
      intro u h2 hu ho ht hr
      have iv := pl_inv hw pol u (by omega)
      have p3 := pot360 hw u 0
      have l := iv.2.1
      refine fTI_play_6 hp ?_
      have u60 : u = 60 := by omega
      subst u60
      refine ⟨fun _ => sTI_dropMissed (u := 60) (n := w 72) hn.2 ht iv.1 (by omega) iv.2.2 (by omega) fun h3 o3 t3 => hq h3 (ho.tr (o3.mono fun _ => tj_ti)) t3 fun x hx => ?_, fun z => absurd (by decide) z⟩
      rw [o3 49 (by unfold tj; omega)]
      exact hr x hx
    | succ j ih =>
      intro u h2 hu ho ht hr
      have iv := pl_inv hw pol u (by omega)
      have p3 := pot360 hw u 0
      have l := iv.2.1
      refine fTI_play_6 hp ?_
      rw [show (60 : Int32) = zI 60 from rfl, zI_le (by omega) (by omega) (by omega) (by omega)]
      refine ⟨fun z => by omega, fun _ => sTI_dropMissed (u := (u : Int)) (n := w 72) hn.2 ht iv.1 (by omega) iv.2.2 (by omega) fun h3 o3 t3 => ?_⟩
      have r3 : ∀ x : Nat, x < u → h3 49 x = zI ((plS w pol u).2 x) := fun x hx => by rw [o3 49 (by unfold tj; omega)]; exact hr x hx
      have o3' := ho.tr (o3.mono fun _ => tj_ti)
      have inner : ∀ (i t : Nat) (h4 : Mem), (t : Int) + i = w 72 → Off ti h h4 → TQ h4 (afCm w u t (afMs u (plS w pol u).1)) → (∀ x : Nat, x < u → h4 49 x = zI ((plS w pol u).2 x)) → WP E mTI_play 20 [some (.ref 48), some (.ref p), some (.int (zI pol)), some (.int (zI u)), some (.int (zI t))] [] h4 (qV Q) := by
        intro i
        induction i with
        | zero =>
          intro t h4 hi o4 t4 r4
          refine fTI_play_20 hp ?_
          have d4 := hd.tik hp o4
          have iv2 := in_inv hw (u := (u : Int)) (by omega) iv t (by omega)
          have p4 := pot360 hw u t
          have tn : t = (w 72).toNat := by omega
          rw [d4.n, zI_le (by omega) (by omega) (by omega) (by omega)]
          refine ⟨fun _ => sTI_workOne hp d4 hw hpol t4 iv2.1 (by omega) fun h5 o5 t5 => ?_, fun z => by omega⟩
          have hin : inb (zI (u : Int)) 60 = true := inb_zI (by omega) (by omega) (by omega)
          have hix : ix (zI (u : Int)) = u := by rw [ix_zI (by omega) (by omega)]; rfl
          rw [hin, hix, c_t, zl_1, zI_add]
          rw [tn] at t5 ⊢
          have pe1 : (plS w pol (u + 1)).1 = afWk w pol (afCm w u (w 72).toNat (afMs u (plS w pol u).1)) := rfl
          have pe2 : (plS w pol (u + 1)).2 = fset (plS w pol u).2 (u : Int) (wkJ w pol (afCm w u (w 72).toNat (afMs u (plS w pol u).1)).2.1 (afCm w u (w 72).toNat (afMs u (plS w pol u).1)).1).2.2 := rfl
          have o6 : ∀ v q, q ≠ 49 → upd2 h5 49 u v q = h5 q := fun v q hq => upd2_ne q hq
          refine ih (u + 1) _ (by omega) ((o4.tr (o5.mono fun _ => tj_ti)).up (P := ti) (by unfold ti; omega)) ?_ (fun x hx => ?_)
          · rw [pe1]
            obtain ⟨a1, a2, a3, a4, a5, a6⟩ := t5
            exact ⟨by rw [o6 _ 48 (by omega)]; exact a1, fun x hx => (a2 x hx).fr (o6 _ _ (by omega)) (o6 _ _ (by omega)) (o6 _ _ (by omega)), fun x hx => by rw [o6 _ 50 (by omega)]; exact a3 x hx, fun x hx => by rw [o6 _ 51 (by omega)]; exact a4 x hx, by rw [o6 _ 48 (by omega)]; exact a5, by rw [o6 _ 48 (by omega)]; exact a6⟩
          · rw [pe2]
            by_cases ex : x = u
            · subst ex
              rw [u_s, fs_eq]
            · rw [u_i ex, fs_ne (by omega), o5 49 (by unfold tj; omega)]
              exact r4 x (by omega)
        | succ i ih2 =>
          intro t h4 hi o4 t4 r4
          refine fTI_play_20 hp ?_
          have d4 := hd.tik hp o4
          have iv2 := in_inv hw (u := (u : Int)) (by omega) iv (t + 1) (by omega)
          have p4 := pot360 hw u ((t + 1 : Nat) : Int)
          have e : (afCm w u (t + 1) (afMs u (plS w pol u).1)) = ((afCm w u t (afMs u (plS w pol u).1)).1 ++ (if w (42 + (t : Int)) = 1 then cmK w (t : Int) u 30 else []), (afCm w u t (afMs u (plS w pol u).1)).2) := by
            show ((afMs u (plS w pol u).1).1 ++ (cmT w u t ++ _), _) = (((afMs u (plS w pol u).1).1 ++ cmT w u t) ++ _, _)
            rw [List.append_assoc]
            rfl
          have hnext := ih2 (t + 1)
          rw [show ((t + 1 : Nat) : Int) = (t : Int) + 1 by omega, e] at hnext
          rw [e] at iv2
          have il := iv2.2
          simp only [List.length_append] at il
          rw [d4.n, zI_le (by omega) (by omega) (by omega) (by omega), zl_1]
          simp only [zI_add]
          refine ⟨fun z => by omega, fun _ => sD_isOn hp d4 hw (by omega) ?_⟩
          by_cases c : w (42 + (t : Int)) = 1
          · rw [if_pos ⟨by omega, by omega, c⟩]
            rw [if_pos c] at hnext il
            refine ⟨fun z => absurd z (by decide), fun _ => sTI_letCome hp d4 hw (by omega) (by omega) (by omega) t4 (by omega) fun h5 o5 t5 => ?_⟩
            exact hnext h5 (by omega) (o4.tr (o5.mono fun _ => tj_ti)) t5 fun x hx => by rw [o5 49 (by unfold tj; omega)]; exact r4 x hx
          · rw [if_neg (fun z => c z.2.2)]
            rw [if_neg c, List.append_nil] at hnext
            exact ⟨fun _ => hnext h4 (by omega) o4 t4 r4, fun z => absurd rfl z⟩
      refine inner (w 72).toNat 0 h3 (by omega) o3' ?_ r3
      have e0 : afCm w u 0 (afMs u (plS w pol u).1) = afMs u (plS w pol u).1 := by
        show ((afMs u (plS w pol u).1).1 ++ [], _) = _
        rw [List.append_nil]
      rw [e0]
      exact t3
  exact key 60 0 h1 rfl (o1.mono fun _ => tj_ti) t1 (fun x hx => absurd hx (Nat.not_lt_zero x))
end PL
section RQ
variable {E : XE} {h : Mem} {s : St} {Q : Int32 → Mem → Prop}
theorem qC_run {pol u : Int} (hv : SV s) (ha : SA h s) (hp : I32 pol) (hu : I32 u) (hq : ∀ h', SA h' (s.rfd (cRun pol u)) → FA h h' → Q (zI (cAns (cRun pol u) (runS s.w pol u))) h') : CALLI E mC_run [.ref 0, .int (zI pol), .int (zI u)] h Q :=
  fC_run (sC_otherThan (n := 4) hp (by unfold I32; omega) (sC_outside (lo := 0) (hi := 59) hu (by unfold I32; omega) (by unfold I32; omega) (sC_firstOf (cOth_b _ _) (sC_fin ha (cRun_b _ _) hq fun z K => by
    rw [cFst_0, cOth_0, cOut_0] at z
    refine sTI_play (Or.inl rfl) ha.w hv.w z.1 fun h' o t r => fTI_workedAt ?_
    have K := K h' (o.mono fun _ => ti_cs)
    have r1 := r u.toNat (by omega)
    rw [show ((u.toNat : Nat) : Int) = u by omega] at r1
    simp (disch := omega) only [zI_add, zI_sub, zI_mul, zI_neg, zI_lt, zI_le, zI_eq, zI_div, zI_rem, ix_zI, inb_zI, nz_zI, imax_zI, imin_zI, c_t, nb01.1, nb01.2, zl_0, zl_1, zl_2, zl_3, zl_4, zl_5, zl_6, zl_7, zl_8, zl_9, zl_10, zl_11, zl_12, zl_13, zl_14, zl_15, zl_16, zl_17, zl_18, zl_19, zl_20, zl_24, zl_30, zl_31, zl_36, zl_42, zl_44, zl_48, zl_57, zl_58, zl_59, zl_60, zl_61, zl_62, zl_63, zl_64, zl_72, zl_73, zl_96, zl_99, zl_100, zl_104, zl_107, zl_111, zl_114, zl_116, zl_120, zl_200, zl_255, zl_256, zl_360, zl_600, zl_800, zl_1000, zl_2000, r1]
    exact ⟨fun y => by omega, fun _ => ⟨fun y => by omega, fun _ => K⟩⟩))))
theorem qC_jobs {pol t a : Int} (hv : SV s) (ha : SA h s) (hp : I32 pol) (ht : I32 t) (hi : I32 a) (hq : ∀ h', SA h' (s.rfd (cJbs s.w pol t a)) → FA h h' → Q (zI (cAns (cJbs s.w pol t a) (jobsS s.w pol t a))) h') : CALLI E mC_jobs [.ref 0, .int (zI pol), .int (zI t), .int (zI a)] h Q :=
  fC_jobs (sC_otherThan (n := 4) hp (by unfold I32; omega) (sC_missingTask hv ha ht (sC_firstOf (cOth_b _ _) (sC_otherThan (n := 2) hi (by unfold I32; omega) (sC_firstOf (cFst_b (cOth_b _ _) (cTask_b _ _)) (sC_fin ha (cJbs_b _ _ _ _) hq fun z K => by
    rw [cFst_0, cFst_0, cOth_0, cTask_0, cOth_0] at z
    have hn := hv.w.1
    refine sTI_play (Or.inl rfl) ha.w hv.w z.1.1 fun h' o tq r => ?_
    have K := K h' (o.mono fun _ => ti_cs)
    unfold jobsS at K
    have r1 := tq.2.2.1 t.toNat (by omega)
    have r2 := tq.2.2.2.1 t.toNat (by omega)
    rw [show ((t.toNat : Nat) : Int) = t by omega] at r1 r2
    have hin : inb (zI t) 6 = true := inb_zI (by omega) (by omega) (by omega)
    have hix : ix (zI t) = t.toNat := ix_zI (by omega) (by omega)
    rw [zl_0, zI_eq (by omega) (by omega) (by omega) (by omega)]
    refine ⟨fun y => fTI_missedOf ?_, fun y => fTI_doneOf ?_⟩
    · rw [if_neg y] at K
      rw [hin, hix, c_t, r2]
      exact K
    · rw [if_pos y] at K
      rw [hin, hix, c_t, r1]
      exact K))))))
theorem qC_first {pol a : Int} (hv : SV s) (ha : SA h s) (hp : I32 pol) (hi : I32 a) (hq : ∀ h', SA h' (s.rfd (cFir pol a)) → FA h h' → Q (zI (cAns (cFir pol a) (firstS s.w pol a))) h') : CALLI E mC_first [.ref 0, .int (zI pol), .int (zI a)] h Q :=
  fC_first (sC_otherThan (n := 4) hp (by unfold I32; omega) (sC_otherThan (n := 2) hi (by unfold I32; omega) (sC_firstOf (cOth_b _ _) (sC_fin ha (cFir_b _ _) hq fun z K => by
    rw [cFst_0, cOth_0, cOth_0] at z
    refine sTI_play (Or.inl rfl) ha.w hv.w z.1 fun h' o tq r => ?_
    have K := K h' (o.mono fun _ => ti_cs)
    unfold firstS at K
    rw [zl_0, zI_eq (by omega) (by omega) (by omega) (by omega)]
    refine ⟨fun y => fTI_firstMissTask ?_, fun y => fTI_firstMissTime ?_⟩
    · rw [if_neg y] at K
      rw [tq.2.2.2.2.2]
      exact K
    · rw [if_pos y] at K
      rw [tq.2.2.2.2.1]
      exact K))))
end RQ
