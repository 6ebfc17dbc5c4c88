/-! ===== the class's run ===== -/
def PIv (w : Int → Int) (u : Int) (s : RSt) : Prop := JB (w 72) s.1 ∧ (s.1.length : Int) ≤ potS w u 0 (w 72).toNat ∧ whB s.2.2.2.1 s.2.2.2.2
section PV
variable {w : Int → Int}
theorem pot360 (hw : WF w) (u t : Int) : potS w u t (w 72).toNat ≤ 360 := by
  have hn := hw.1
  have := pot_b w u t (w 72).toNat
  omega
theorem in_inv (hw : WF w) {u : Int} (hu : 0 ≤ u ∧ u < 60) {s : RSt} (hp : PIv w u s) : ∀ t : Nat, (t : Int) ≤ w 72 → JB (w 72) (afCm w u t (afMs u s)).1 ∧ ((afCm w u t (afMs u s)).1.length : Int) ≤ potS w u t (w 72).toNat
  | 0, _ => by
    have m := ms_sub u s.1 s.2.2.1 s.2.2.2.1 s.2.2.2.2
    have e : (afCm w u 0 (afMs u s)).1 = (msJ u s.1 s.2.2.1 s.2.2.2.1 s.2.2.2.2).1 := List.append_nil _
    rw [e]
    have l := hp.2.1
    exact ⟨hp.1.sub m.1, by have := m.2; show ((msJ u s.1 s.2.2.1 s.2.2.2.1 s.2.2.2.2).1.length : Int) ≤ potS w u 0 (w 72).toNat; omega⟩
  | t + 1, h => by
    have ih := in_inv hw hu hp t (by omega)
    have pu := pot_up w u t (w 72).toNat
    rw [if_pos (show t < (w 72).toNat by omega)] at pu
    have cl := cm_len w (t : Int) u 30
    have cq := cq_b w (t : Int) u 30
    have e : (afCm w u (t + 1) (afMs u s)).1 = (afCm w u t (afMs u s)).1 ++ if w (42 + (t : Int)) = 1 then cmK w (t : Int) u 30 else [] := by
      show (afMs u s).1 ++ (cmT w u t ++ _) = ((afMs u s).1 ++ cmT w u t) ++ _
      rw [List.append_assoc]
    rw [e, pu]
    by_cases c : w (42 + (t : Int)) = 1
    · rw [if_pos c]
      exact ⟨ih.1.app (cm_jb hw (by omega) (by omega) hu 30), by rw [List.length_append]; omega⟩
    · rw [if_neg c, List.append_nil]
      exact ⟨ih.1, by omega⟩
theorem pl_inv (hw : WF w) (pol : Int) : ∀ u : Nat, u ≤ 60 → PIv w (u : Int) (plS w pol u).1
  | 0, _ => ⟨JB.nil, by have := pot_b w 0 0 (w 72).toNat; exact this.1, Or.inl rfl, by unfold plS; simp⟩
  | u + 1, h => by
    have ih := pl_inv hw pol u (by omega)
    have hn := hw.1
    have i := in_inv hw (u := (u : Int)) (by omega) ih (w 72).toNat (by omega)
    have k := wk_f (w := w) (pol := pol) (dn := (afCm w u (w 72).toNat (afMs u (plS w pol u).1)).2.1) i.1
    have nx := pot_nx w (u : Int) (w 72).toNat
    have wh := ms_wh (n := w 72) hn.2 (u := (u : Int)) (by omega) (plS w pol u).1.1 (plS w pol u).1.2.2.1 (plS w pol u).1.2.2.2.1 (plS w pol u).1.2.2.2.2 ih.1 ih.2.2
    refine ⟨k.1, ?_, wh⟩
    rw [show ((u + 1 : Nat) : Int) = (u : Int) + 1 by omega, nx]
    have k2 := k.2
    have i2 := i.2
    show ((wkJ w pol (afCm w u (w 72).toNat (afMs u (plS w pol u).1)).2.1 (afCm w u (w 72).toNat (afMs u (plS w pol u).1)).1).1.length : Int) ≤ _
    omega
end PV
theorem gj_del {A B : List Job} {b : Job} {x : Nat} (h : A.length ≤ x) : (A ++ b :: B).getD (x + 1) jb0 = (A ++ B).getD x jb0 := by
  rw [gj_r (by omega), gj_r h, show x + 1 - A.length = (x - A.length) + 1 by omega]
  rfl
theorem bsJ_cons {w : Int → Int} {pol : Int} {pre mid l : List Job} {b j : Job} : bsJ w pol pre b mid (j :: l) = if goesJ w pol j b = true then bsJ w pol (pre ++ b :: mid) j [] l else bsJ w pol pre b (mid ++ [j]) l := rfl
section WO
variable {E : XE} {h : Mem} {w : Int → Int} {p : Nat}
theorem sTI_goesFirst {Q : Int32 → Mem → Prop} {i k : Nat} {pol : Int} {a b : Job} (hp : isP p) (hd : DW h p w) (hw : WF w) (hi : i < 360) (hk : k < 360) (ja : JXi h 52 i a) (jb : JXi h 52 k b) (ba : JB (w 72) [a]) (bb : JB (w 72) [b]) (hpol : 0 ≤ pol ∧ pol < 4) (hq : Q (if goesJ w pol a b = true then 1 else 0) h) : CALLI E mTI_goesFirst [.ref 48, .ref p, .int (zI pol), .int (zI i), .int (zI k)] h Q := by
  refine fTI_goesFirst hp ?_
  have ba := ba a (by simp)
  have bb := bb b (by simp)
  have hn := hw.1
  have a52 : h 52 i = zI a.1 := ja.1
  have b52 : h 52 k = zI b.1 := jb.1
  have a53 : h 53 i = zI a.2.1 := ja.2.1
  have b53 : h 53 k = zI b.2.1 := jb.2.1
  unfold goesJ at hq
  simp (disch := omega) only [zI_add, zI_sub, zI_mul, zI_neg, zI_lt, zI_le, zI_eq, zI_div, zI_rem, ix_zI, inb_zI, nz_zI, imax_zI, imin_zI, c_t, nb01.1, nb01.2, zl_0, zl_1, zl_2, zl_3, zl_4, zl_5, zl_6, zl_7, zl_8, zl_9, zl_10, zl_11, zl_12, zl_13, zl_14, zl_15, zl_16, zl_17, zl_18, zl_19, zl_20, zl_24, zl_30, zl_31, zl_36, zl_42, zl_44, zl_48, zl_57, zl_58, zl_59, zl_60, zl_61, zl_62, zl_63, zl_64, zl_72, zl_73, zl_96, zl_99, zl_100, zl_104, zl_107, zl_111, zl_114, zl_116, zl_120, zl_200, zl_255, zl_256, zl_360, zl_600, zl_800, zl_1000, zl_2000, Int.toNat_natCast, a52, b52, a53, b53]
  refine ⟨fun z => ?_, fun z => ?_⟩
  · simp only [if_pos z] at hq
    refine ⟨fun y => ?_, fun y => ⟨fun y2 => ?_, fun y2 => ⟨fun y3 => ?_, fun y3 => ?_⟩⟩⟩
    · rw [if_pos (by rw [decide_eq_true_iff]; omega)] at hq; exact hq
    · rw [if_neg (by rw [decide_eq_true_iff]; omega)] at hq; exact hq
    · rw [if_neg (by rw [decide_eq_true_iff]; omega)] at hq; exact hq
    · rw [if_pos (by rw [decide_eq_true_iff]; omega)] at hq; exact hq
  · simp only [if_neg z] at hq
    refine sRS_precedes hp hd hw ba.1.1 ba.1.2 bb.1.1 bb.1.2 (by omega) ?_
    have nbt : ∀ P : Prop, [Decidable P] → nb (if P then (1 : Int32) else 0) = true := fun P _ => by split <;> decide
    rw [nbt, c_t]
    exact hq
theorem sTI_removeJob {Q : Mem → Prop} {pre post : List Job} {b : Job} (e8 : h 48 8 = zI ((pre.length + 1 + post.length : Nat) : Int)) (hj : JH h 52 (pre ++ b :: post)) (hl : pre.length + 1 + post.length ≤ 360) (hq : ∀ h', Off tj h h' → h' 48 8 = zI ((pre.length + post.length : Nat) : Int) → JH h' 52 (pre ++ post) → (∀ i, i ≠ 8 → h' 48 i = h 48 i) → h' 50 = h 50 → h' 51 = h 51 → Q h') : CALLV E mTI_removeJob [.ref 48, .int (zI pre.length)] h Q := by
  refine fTI_removeJob ?_
  have L : (pre ++ b :: post).length = pre.length + 1 + post.length := by simp; omega
  have key : ∀ (j k : Nat) (h1 : Mem), k + j = pre.length + 1 + post.length → pre.length < k → Off tj h h1 → h1 48 = h 48 → h1 50 = h 50 → h1 51 = h 51 → (∀ x, x < pre.length → JXi h1 52 x ((pre ++ b :: post).getD x jb0)) → (∀ x, pre.length ≤ x → x + 1 < k → JXi h1 52 x ((pre ++ b :: post).getD (x + 1) jb0)) → (∀ x, k ≤ x → x < pre.length + 1 + post.length → JXi h1 52 x ((pre ++ b :: post).getD x jb0)) →
      WP E mTI_removeJob 4 [some (.ref 48), none, some (.int (zI k))] [] h1 (qV Q) := by
    intro j
    induction j with
    | zero =>
      intro k h1 hk hgk ho f48 f50 f51 g1 g2 g3
      refine fTI_removeJob_4 ?_
      rw [show h1 48 8 = zI ((pre.length + 1 + post.length : Nat) : Int) from by rw [f48]; exact e8, zI_le (by omega) (by omega) (by omega) (by omega), zl_1, zI_sub]
      have o : ∀ q, q ≠ 48 → upd2 h1 48 8 (zI (((pre.length + 1 + post.length : Nat) : Int) - 1)) q = h1 q := fun q hq => upd2_ne q hq
      refine ⟨fun _ => hq _ (ho.up (P := tj) (by unfold tj; omega)) (u_s.trans (congrArg zI (by omega))) (fun x hx => ?_) (fun i hi => (u_i hi).trans (congrFun f48 i)) (by rw [o 50 (by omega)]; exact f50) (by rw [o 51 (by omega)]; exact f51), fun z => by omega⟩
      refine JXi.fr ?_ (o _ (by omega)) (o _ (by omega)) (o _ (by omega))
      have hx : x < pre.length + post.length := by simpa using hx
      by_cases c : x < pre.length
      · have := g1 x c
        rw [gj_l c] at this ⊢
        exact this
      · have := g2 x (by omega) (by omega)
        rw [gj_del (by omega)] at this
        exact this
    | succ j ih =>
      intro k h1 hk hgk ho f48 f50 f51 g1 g2 g3
      refine fTI_removeJob_4 ?_
      have jk := g3 k (Nat.le_refl _) (by omega)
      have hnext := ih (k + 1)
      rw [show ((k + 1 : Nat) : Int) = (k : Int) + 1 by omega] at hnext
      rw [show h1 48 8 = zI ((pre.length + 1 + post.length : Nat) : Int) from by rw [f48]; exact e8, zI_le (by omega) (by omega) (by omega) (by omega), zl_1]
      simp only [zI_sub, zI_add]
      have ek : (k : Int) - 1 = ((k - 1 : Nat) : Int) := by omega
      rw [ek]
      refine ⟨fun z => by omega, fun _ => sTI_moveJob (by omega) (by omega) ?_⟩
      rw [show h1 52 k = _ from jk.1, show h1 53 k = _ from jk.2.1, show h1 54 k = _ from jk.2.2]
      have o : ∀ q, q ≠ 52 ∧ q ≠ 53 ∧ q ≠ 54 → upd3 h1 52 (k - 1) (zI ((pre ++ b :: post).getD k jb0).1) (zI ((pre ++ b :: post).getD k jb0).2.1) (zI ((pre ++ b :: post).getD k jb0).2.2) q = h1 q := fun q hq => u3_f hq
      refine hnext _ (by omega) (by omega) ho.u3 ((o 48 (by omega)).trans f48) ((o 50 (by omega)).trans f50) ((o 51 (by omega)).trans f51) (fun x hx => u3_o (by omega) (g1 x hx)) (fun x hx1 hx2 => ?_) (fun x hx1 hx2 => u3_o (by omega) (g3 x (by omega) hx2))
      by_cases c : x = k - 1
      · rw [c, show k - 1 + 1 = k by omega]; exact u3_s
      · exact u3_o c (g2 x hx1 (by omega))
  rw [show zI (pre.length : Int) + 1 = zI ((pre.length + 1 : Nat) : Int) from by rw [zl_1, zI_add]; rfl]
  exact key post.length (pre.length + 1) h (by omega) (by omega) Off.rf rfl rfl rfl (fun x hx => hj x (by rw [L]; omega)) (fun x h1 h2 => by omega) (fun x h1 h2 => hj x (by rw [L]; omega))
theorem sTI_workOne {Q : Int32 → Mem → Prop} {pol : Int} {s : RSt} (hp : isP p) (hd : DW h p w) (hw : WF w) (hpol : 0 ≤ pol ∧ pol < 4) (ht : TQ h s) (hb : JB (w 72) s.1) (hl : s.1.length ≤ 360) (hq : ∀ h', Off tj h h' → TQ h' (afWk w pol s) → Q (zI (wkJ w pol s.2.1 s.1).2.2) h') : CALLI E mTI_workOne [.ref 48, .ref p, .int (zI pol)] h Q := by
  have hn := hw.1
  refine fTI_workOne hp ?_
  obtain ⟨L, dn, m, a, b⟩ := s
  obtain ⟨q1, q2, q3, q4, q5, q6⟩ := ht
  simp only at q1 q2 q3 q4 q5 q6 hb hl
  rw [q1, zl_0, zI_eq (by omega) (by omega) (by omega) (by omega)]
  cases L with
  | nil =>
    refine ⟨fun z => absurd rfl z, fun _ => ?_⟩
    exact hq h Off.rf ⟨q1, q2, q3, q4, q5, q6⟩
  | cons j0 l0 =>
    refine ⟨fun _ => ?_, fun z => by simp at z; omega⟩
    have hlen : (j0 :: l0).length = l0.length + 1 := rfl
    have key : ∀ (rest pre : List Job) (c : Job) (mid : List Job), pre ++ c :: (mid ++ rest) = j0 :: l0 → bsJ w pol pre c mid rest = bsJ w pol [] j0 [] l0 → WP E mTI_workOne 15 [some (.ref 48), some (.ref p), some (.int (zI pol)), some (.int (zI pre.length)), some (.int (zI ((pre.length + 1 + mid.length : Nat) : Int)))] [] h (qI Q) := by
      intro rest
      induction rest with
      | nil =>
        intro pre c mid e er
        rw [List.append_nil] at e
        have le : pre.length + 1 + mid.length = l0.length + 1 := by
          have := congrArg List.length e
          simp at this
          omega
        have ew : wkJ w pol dn (j0 :: l0) = wkE dn (pre, c, mid) := by
          show wkE dn (bsJ w pol [] j0 [] l0) = _
          rw [← er]; rfl
        have hq : ∀ h', Off tj h h' → TQ h' ((wkE dn (pre, c, mid)).1, (wkE dn (pre, c, mid)).2.1, m, a, b) → Q (zI c.1) h' := fun h' o t => by
          have := hq h' o (by unfold afWk; simp only [ew]; exact t)
          simp only [ew] at this
          exact this
        have bc := hb c (by rw [← e]; simp)
        rw [← e] at q2 q1
        have jc := q2 pre.length (by simp)
        rw [gj_m rfl] at jc
        have c54 : h 54 pre.length = zI c.2.2 := jc.2.2
        have c52 : h 52 pre.length = zI c.1 := jc.1
        refine fTI_workOne_15 hp ?_
        have q1' : h 48 8 = zI ((pre.length + 1 + mid.length : Nat) : Int) := by rw [q1]; congr 1; simp; omega
        rw [q1', zI_le (by omega) (by omega) (by omega) (by omega)]
        refine ⟨fun _ => ?_, fun z => absurd (Int.le_refl _) z⟩
        have hin : inb (zI (pre.length : Int)) 360 = true := inb_zI (by omega) (by omega) (by omega)
        have hix : ix (zI (pre.length : Int)) = pre.length := by rw [ix_zI (by omega) (by omega)]; rfl
        have hin6 : inb (zI c.1) 6 = true := inb_zI (by omega) (by omega) (by omega)
        have hix6 : ix (zI c.1) = c.1.toNat := ix_zI (by omega) (by omega)
        simp only [hin, hix, c_t, c54, c52, u_s, hin6, hix6]
        rw [zl_1, zI_sub, zl_0, zI_eq (by omega) (by omega) (by omega) (by omega)]
        have f : ∀ q, q ≠ 54 → upd2 h 54 pre.length (zI (c.2.2 - 1)) q = h q := fun q hq => upd2_ne q hq
        have jn : JH (upd2 h 54 pre.length (zI (c.2.2 - 1))) 52 (pre ++ (c.1, c.2.1, c.2.2 - 1) :: mid) := fun x hx => by
          by_cases ex : x = pre.length
          · rw [ex, gj_m rfl]
            exact ⟨(congrFun (f 52 (by omega)) _).trans c52, (congrFun (f 53 (by omega)) _).trans jc.2.1, u_s⟩
          · have hx' : x < (pre ++ c :: mid).length := by simp at hx ⊢; exact hx
            have := q2 x hx'
            have eg : (pre ++ (c.1, c.2.1, c.2.2 - 1) :: mid).getD x jb0 = (pre ++ c :: mid).getD x jb0 := by
              by_cases hx2 : x < pre.length
              · rw [gj_l hx2, gj_l hx2]
              · rw [gj_r (by omega), gj_r (by omega), show x - pre.length = (x - pre.length - 1) + 1 by omega]
                rfl
            rw [eg]
            exact ⟨(congrFun (f 52 (by omega)) _).trans this.1, (congrFun (f 53 (by omega)) _).trans this.2.1, (u_j ex).trans this.2.2⟩
        refine ⟨fun z => ?_, fun z => ?_⟩
        · refine hq _ (Off.rf.up (P := tj) (by unfold tj; omega)) ?_
          unfold wkE
          simp only
          rw [if_neg (by omega), if_neg (by omega), List.append_assoc, List.singleton_append]
          exact ⟨(congrFun (f 48 (by omega)) 8).trans (q1'.trans (congrArg zI (by simp; omega))), jn, fun x hx => by rw [f 50 (by omega)]; exact q3 x hx, fun x hx => by rw [f 51 (by omega)]; exact q4 x hx, (congrFun (f 48 (by omega)) 3).trans q5, (congrFun (f 48 (by omega)) 4).trans q6⟩
        · have f2 : ∀ x q, q ≠ 54 → q ≠ 50 → upd2 (upd2 h 54 pre.length (zI (c.2.2 - 1))) 50 c.1.toNat x q = h q := fun x q a b => (upd2_ne q b).trans (f q a)
          refine sTI_removeJob (b := (c.1, c.2.1, c.2.2 - 1)) ((congrFun (f2 _ 48 (by omega) (by omega)) 8).trans q1') (fun x hx => (jn x hx).fr (upd2_ne _ (by omega)) (upd2_ne _ (by omega)) (upd2_ne _ (by omega))) (by omega) fun h' o e8 jh g48 g50 g51 => ?_
          refine hq h' (((Off.rf.up (P := tj) (by unfold tj; omega)).up (by unfold tj; omega)).tr o) ?_
          unfold wkE
          simp only
          rw [if_pos (by omega), if_pos (by omega), List.append_nil]
          refine ⟨e8.trans (congrArg zI (by simp)), jh, fun x hx => ?_, fun x hx => by rw [g51, f2 _ 51 (by omega) (by omega)]; exact q4 x hx, (g48 3 (by omega)).trans ((congrFun (f2 _ 48 (by omega) (by omega)) 3).trans q5), (g48 4 (by omega)).trans ((congrFun (f2 _ 48 (by omega) (by omega)) 4).trans q6)⟩
          show h' 50 x = zI (fset dn c.1 (dn c.1 + 1) (x : Int))
          rw [g50]
          by_cases ex : x = c.1.toNat
          · subst ex
            rw [u_s, f 50 (by omega), q3 _ hx, show ((c.1.toNat : Nat) : Int) = c.1 by omega, fs_eq, zI_add]
          · rw [u_i ex, f 50 (by omega), q3 x hx, fs_ne (by omega)]
      | cons j rest ih =>
        intro pre c mid e er
        have le : pre.length + 1 + mid.length + 1 + rest.length = l0.length + 1 := by
          have := congrArg List.length e
          simp at this
          omega
        have jc := q2 pre.length (by rw [hlen]; omega)
        rw [← e, gj_m rfl] at jc
        have jj := q2 (pre.length + 1 + mid.length) (by rw [hlen]; omega)
        have e2 : pre ++ c :: (mid ++ j :: rest) = (pre ++ c :: mid) ++ j :: rest := by simp
        rw [← e, e2, gj_m (by simp; omega)] at jj
        have bj : JB (w 72) [j] := hb.sub fun x hx => by rw [← e]; simp at hx ⊢; simp [hx]
        have bc : JB (w 72) [c] := hb.sub fun x hx => by rw [← e]; simp at hx ⊢; simp [hx]
        refine fTI_workOne_15 hp ?_
        rw [q1, hlen, zI_le (by omega) (by omega) (by omega) (by omega)]
        refine ⟨fun z => by omega, fun _ => sTI_goesFirst hp hd hw (by omega) (by omega) jj jc bj bc hpol ?_⟩
        rw [bsJ_cons] at er
        have x1 : zI ((pre.length + 1 + mid.length : Nat) : Int) + 1 = zI ((pre.length + 1 + mid.length + 1 : Nat) : Int) := by rw [zl_1, zI_add]; rfl
        rw [x1]
        by_cases g : goesJ w pol j c = true
        · rw [if_pos g] at er ⊢
          refine ⟨fun z => absurd z (by decide), fun _ => ?_⟩
          have := ih (pre ++ c :: mid) j [] (by rw [← e]; simp) er
          have el : (pre ++ c :: mid).length = pre.length + 1 + mid.length := by simp; omega
          rw [el] at this
          exact this
        · rw [if_neg g] at er ⊢
          refine ⟨fun _ => ?_, fun z => absurd rfl z⟩
          have := ih pre c (mid ++ [j]) (by rw [← e]; simp) er
          have el : pre.length + 1 + (mid ++ [j]).length = pre.length + 1 + mid.length + 1 := by simp; omega
          rw [el] at this
          exact this
    exact key l0 [] j0 [] rfl rfl
end WO
