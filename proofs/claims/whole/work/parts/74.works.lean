/-! ===== the reference's run: one is worked at ===== -/
section MW
variable {E : XE} {h : Mem} {w : Int → Int}
theorem sM_goesAhead {Q : Int32 → Mem → Prop} {i k : Nat} {pol : Int} {a b : Job} (hm : RW (h 61) w) (hw : WF w) (hi : i < 360) (hk : k < 360) (ja : JXi h 71 i a) (jb : JXi h 71 k b) (ba : (0 ≤ a.1 ∧ a.1 < w 72) ∧ (0 ≤ a.2.1 ∧ a.2.1 ≤ 200)) (bb : (0 ≤ b.1 ∧ b.1 < w 72) ∧ (0 ≤ b.2.1 ∧ b.2.1 ≤ 200)) (hpol : 0 ≤ pol ∧ pol < 4) (hq : Q (if goesJ w pol a b = true then 1 else 0) h) : CALLI E mM_goesAhead [.ref 60, .int (zI i), .int (zI k), .int (zI pol)] h Q := by
  refine fM_goesAhead ?_
  have hn := hw.1
  have a71 : h 71 i = zI a.1 := ja.1
  have b71 : h 71 k = zI b.1 := jb.1
  have a72 : h 72 i = zI a.2.1 := ja.2.1
  have b72 : h 72 k = zI b.2.1 := jb.2.1
  unfold goesJ at hq
  simp (disch := omega) only [zI_add, zI_sub, zI_mul, zI_neg, zI_lt, zI_le, zI_eq, zI_div, zI_rem, ix_zI, inb_zI, nz_zI, imax_zI, imin_zI, c_t, nb01.1, nb01.2, zl_0, zl_1, zl_2, zl_3, zl_4, zl_5, zl_6, zl_7, zl_8, zl_9, zl_10, zl_11, zl_12, zl_13, zl_14, zl_15, zl_16, zl_17, zl_18, zl_19, zl_20, zl_24, zl_30, zl_31, zl_36, zl_42, zl_44, zl_48, zl_57, zl_58, zl_59, zl_60, zl_61, zl_62, zl_63, zl_64, zl_72, zl_73, zl_96, zl_99, zl_100, zl_104, zl_107, zl_111, zl_114, zl_116, zl_120, zl_200, zl_255, zl_256, zl_360, zl_600, zl_800, zl_1000, zl_2000, Int.toNat_natCast, a71, b71, a72, b72]
  refine ⟨fun z => ?_, fun z => ?_⟩
  · simp only [if_neg z] at hq
    refine ⟨fun y => ?_, fun y => sM_isAhead hm hw ba.1.1 ba.1.2 bb.1.1 bb.1.2 (by omega) ?_⟩
    · have : ¬ precB w pol a.1 b.1 = true := by
        rw [precB_iff, y]; exact prec_ir
      rw [if_neg this] at hq
      exact hq
    · split at hq
      · rename_i c
        rw [if_pos c]
        exact ⟨fun y => absurd y (by decide), fun _ => hq⟩
      · rename_i c
        rw [if_neg c]
        exact ⟨fun _ => hq, fun y => absurd rfl y⟩
  · simp only [if_pos z] at hq
    refine ⟨fun y => ?_, fun y => ⟨fun y2 => ?_, fun y2 => ⟨fun y3 => ?_, fun y3 => ?_⟩⟩⟩
    · rw [if_pos (by rw [decide_eq_true_iff]; omega)] at hq; exact hq
    · rw [if_neg (by rw [decide_eq_true_iff]; omega)] at hq; exact hq
    · rw [if_neg (by rw [decide_eq_true_iff]; omega)] at hq; exact hq
    · rw [if_pos (by rw [decide_eq_true_iff]; omega)] at hq; exact hq
theorem sM_works {Q : Int32 → Mem → Prop} {pol : Int} {R : List Job} {s : RSt} (hm : RW (h 61) w) (hw : WF w) (hpol : 0 ≤ pol ∧ pol < 4) (ht : TM h R s) (hb : JR (w 72) R) (hl : R.length ≤ 360) (hq : ∀ h' R', MJ h h' → TM h' R' (afWk w pol s) → JR (w 72) R' → R'.length = R.length → Q (zI (wkJ w pol s.2.1 s.1).2.2) h') : CALLI E mM_works [.ref 60, .int (zI pol)] h Q := by
  have hn := hw.1
  refine fM_works ?_
  obtain ⟨L, dn, m, a, b⟩ := s
  obtain ⟨q1, q2, qL, q3, q4, q5, q6⟩ := ht
  simp only at q1 q2 qL q3 q4 q5 q6
  have key : ∀ (rest A : List Job) (c : Job) (B : List Job), A ++ c :: (B ++ rest) = R → 0 < c.2.2 → wkJ w pol dn L = wkE dn (bsJ w pol (liv A) c (liv B) (liv rest)) → WP E mM_works 4 [some (.ref 60), some (.int (zI pol)), some (.int (zI A.length)), some (.int (zI ((A.length + 1 + B.length : Nat) : Int)))] [] h (qI Q) := by
    intro rest
    induction rest with
    | nil =>
      intro A c B e c0 ew
      rw [List.append_nil] at e
      have le : A.length + 1 + B.length = R.length := by rw [← e]; simp; omega
      have ew : wkJ w pol dn L = wkE dn (liv A, c, liv B) := ew
      have hq : ∀ h' R', MJ h h' → TM h' R' ((wkE dn (liv A, c, liv B)).1, (wkE dn (liv A, c, liv B)).2.1, m, a, b) → JR (w 72) R' → R'.length = R.length → Q (zI c.1) h' := fun h' R' o t jr rl => by
        have := hq h' R' o (by unfold afWk; simp only [ew]; exact t) jr rl
        simp only [ew] at this
        exact this
      have bc := hb c (by rw [← e]; simp)
      have jc := q2 A.length (by omega)
      rw [← e, gj_m rfl] at jc
      have c73 : h 73 A.length = zI c.2.2 := jc.2.2
      have c71 : h 71 A.length = zI c.1 := jc.1
      refine fM_works_4 ?_
      rw [q1, zI_le (by omega) (by omega) (by omega) (by omega), zl_0, zI_le (by omega) (by omega) (by omega) (by omega)]
      refine ⟨fun _ => ⟨fun _ => ?_, fun z => by omega⟩, fun z => by omega⟩
      have hin : inb (zI (A.length : Int)) 800 = true := inb_zI (by omega) (by omega) (by omega)
      have hix : ix (zI (A.length : Int)) = A.length := by rw [ix_zI (by omega) (by omega)]; rfl
      have hin6 : inb (zI c.1) 6 = true := inb_zI (by omega) (by omega) (by omega)
      have hix6 : ix (zI c.1) = c.1.toNat := ix_zI (by omega) (by omega)
      have f : ∀ q, q ≠ 73 → upd2 h 73 A.length (zI (c.2.2 - 1)) q = h q := fun q hq => upd2_ne q hq
      have r71 : ∀ x, upd2 h 73 A.length x 71 A.length = zI c.1 := fun x => (congrFun (upd2_ne 71 (by omega)) _).trans c71
      have r71' : ∀ x i y, upd2 (upd2 h 73 A.length x) 75 i y 71 A.length = zI c.1 := fun x i y => (congrFun (upd2_ne 71 (by omega)) _).trans (r71 x)
      simp only [hin, hix, c_t, c73, r71, r71', u_s, hin6, hix6]
      rw [zl_1, zI_sub, zI_eq (by omega) (by omega) (by omega) (by omega)]
      have f2 : ∀ x q, q ≠ 73 → q ≠ 75 → upd2 (upd2 h 73 A.length (zI (c.2.2 - 1))) 75 c.1.toNat x q = h q := fun x q a b => (upd2_ne q b).trans (f q a)
      have jn : ∀ x, JH (upd2 (upd2 h 73 A.length (zI (c.2.2 - 1))) 75 c.1.toNat x) 71 (A ++ (c.1, c.2.1, c.2.2 - 1) :: B) := fun v x hx => by
        have f73 : upd2 (upd2 h 73 A.length (zI (c.2.2 - 1))) 75 c.1.toNat v 73 = upd2 h 73 A.length (zI (c.2.2 - 1)) 73 := upd2_ne 73 (by omega)
        by_cases ex : x = A.length
        · rw [ex, gj_m rfl]
          exact ⟨(congrFun (f2 _ 71 (by omega) (by omega)) _).trans c71, (congrFun (f2 _ 72 (by omega) (by omega)) _).trans jc.2.1, (congrFun f73 _).trans u_s⟩
        · have hx' : x < R.length := by simp at hx; omega
          have := q2 x hx'
          have eg : (A ++ (c.1, c.2.1, c.2.2 - 1) :: B).getD x jb0 = R.getD x jb0 := by
            rw [← e]
            by_cases hx2 : x < A.length
            · rw [gj_l hx2, gj_l hx2]
            · rw [gj_r (by omega), gj_r (by omega), show x - A.length = (x - A.length - 1) + 1 by omega]
              rfl
          rw [eg]
          exact ⟨(congrFun (f2 _ 71 (by omega) (by omega)) _).trans this.1, (congrFun (f2 _ 72 (by omega) (by omega)) _).trans this.2.1, (congrFun f73 _).trans ((u_j ex).trans this.2.2)⟩
      have jrn : JR (w 72) (A ++ (c.1, c.2.1, c.2.2 - 1) :: B) := fun x hx => by
        rcases List.mem_append.mp hx with hx | hx
        · exact hb x (by rw [← e]; simp [hx])
        · rcases List.mem_cons.mp hx with rfl | hx
          · exact ⟨bc.1, bc.2.1, by show 0 ≤ c.2.2 - 1; omega, by show c.2.2 - 1 ≤ 200; omega⟩
          · exact hb x (by rw [← e]; simp [hx])
      have ln : (A ++ (c.1, c.2.1, c.2.2 - 1) :: B).length = R.length := by rw [← e]; simp
      have mj : ∀ x, MJ h (upd2 (upd2 h 73 A.length (zI (c.2.2 - 1))) 75 c.1.toNat x) := fun x => (MJ.rf.up (by omega)).up (by omega)
      have lv : liv (A ++ (c.1, c.2.1, c.2.2 - 1) :: B) = (wkE dn (liv A, c, liv B)).1 := by
        unfold wkE
        simp only
        rw [liv_app]
        by_cases c1 : c.2.2 = 1
        · rw [if_pos c1, List.append_nil, liv_neg (by show ¬ 0 < c.2.2 - 1; omega)]
        · rw [if_neg c1, liv_pos (by show 0 < c.2.2 - 1; omega)]; simp
      have r75 : upd2 h 73 A.length (zI (c.2.2 - 1)) 75 c.1.toNat = zI (dn c.1) := (congrFun (f 75 (by omega)) _).trans ((q3 c.1.toNat (by omega)).trans (by rw [show ((c.1.toNat : Nat) : Int) = c.1 by omega]))
      simp only [r75]
      refine ⟨fun z => ?_, fun z => ?_⟩
      · refine hq _ _ (mj _) ⟨(congrFun (f2 _ 60 (by omega) (by omega)) _).trans (q1.trans (by rw [ln])), jn _, lv, fun x hx => ?_, fun x hx => by rw [f2 _ 76 (by omega) (by omega)]; exact q4 x hx, (congrFun (f2 _ 60 (by omega) (by omega)) _).trans q5, (congrFun (f2 _ 60 (by omega) (by omega)) _).trans q6⟩ jrn ln
        show _ = zI ((if c.2.2 = 1 then _ else dn) (x : Int))
        rw [if_neg (by omega)]
        by_cases ex : x = c.1.toNat
        · rw [ex, u_s, zI_add, Int.add_zero, show ((c.1.toNat : Nat) : Int) = c.1 by omega]
        · rw [u_i ex, f 75 (by omega)]; exact q3 x hx
      · refine hq _ _ (mj _) ⟨(congrFun (f2 _ 60 (by omega) (by omega)) _).trans (q1.trans (by rw [ln])), jn _, lv, fun x hx => ?_, fun x hx => by rw [f2 _ 76 (by omega) (by omega)]; exact q4 x hx, (congrFun (f2 _ 60 (by omega) (by omega)) _).trans q5, (congrFun (f2 _ 60 (by omega) (by omega)) _).trans q6⟩ jrn ln
        show _ = zI ((if c.2.2 = 1 then fset dn c.1 (dn c.1 + 1) else dn) (x : Int))
        rw [if_pos (by omega)]
        by_cases ex : x = c.1.toNat
        · rw [ex, u_s, zI_add, show ((c.1.toNat : Nat) : Int) = c.1 by omega, fs_eq]
        · rw [u_i ex, f 75 (by omega), fs_ne (by omega)]; exact q3 x hx
    | cons j rest ih =>
      intro A c B e c0 ew
      have le : A.length + 1 + B.length + 1 + rest.length = R.length := by
        rw [← e]; simp; omega
      have jc := q2 A.length (by omega)
      rw [← e, gj_m rfl] at jc
      have jj := q2 (A.length + 1 + B.length) (by omega)
      have e2 : A ++ c :: (B ++ j :: rest) = (A ++ c :: B) ++ j :: rest := by simp
      rw [← e, e2, gj_m (by simp; omega)] at jj
      have bj := hb j (by rw [← e]; simp)
      have bc := hb c (by rw [← e]; simp)
      have j73 : h 73 (A.length + 1 + B.length) = zI j.2.2 := jj.2.2
      have hin : inb (zI ((A.length + 1 + B.length : Nat) : Int)) 800 = true := inb_zI (by omega) (by omega) (by omega)
      have hix : ix (zI ((A.length + 1 + B.length : Nat) : Int)) = A.length + 1 + B.length := by rw [ix_zI (by omega) (by omega)]; rfl
      have x1 : zI ((A.length + 1 + B.length : Nat) : Int) + 1 = zI ((A.length + 1 + B.length + 1 : Nat) : Int) := by rw [zl_1, zI_add]; rfl
      have skip : (¬ 0 < j.2.2 ∨ (0 < j.2.2 ∧ ¬ goesJ w pol j c = true)) → WP E mM_works 4 [some (.ref 60), some (.int (zI pol)), some (.int (zI A.length)), some (.int (zI ((A.length + 1 + B.length + 1 : Nat) : Int)))] [] h (qI Q) := fun y => by
        have := ih A c (B ++ [j]) (by rw [← e]; simp) c0 (by
          rw [ew]
          rcases y with y | y
          · rw [liv_neg y, liv_app, liv_neg y]
            show _ = wkE dn (bsJ w pol (liv A) c (liv B ++ []) (liv rest))
            rw [List.append_nil]
          · rw [liv_pos y.1, liv_app, liv_pos y.1, bsJ_cons, if_neg y.2]
            rfl)
        have el : A.length + 1 + (B ++ [j]).length = A.length + 1 + B.length + 1 := by simp; omega
        rw [el] at this
        exact this
      refine fM_works_4 ?_
      rw [q1, hin, hix, c_t, j73, x1, zl_0, zI_le (by omega) (by omega) (by omega) (by omega), zI_le (by omega) (by omega) (by omega) (by omega), zI_le (by omega) (by omega) (by omega) (by omega), zI_lt (by omega) (by omega) (by omega) (by omega)]
      refine ⟨fun z => by omega, fun _ => ⟨fun z => skip (Or.inl (by omega)), fun z => ⟨fun z2 => by omega, fun _ => sM_goesAhead hm hw (by omega) (by omega) jj jc ⟨bj.1, bj.2.1⟩ ⟨bc.1, bc.2.1⟩ hpol ?_⟩⟩⟩
      by_cases g : goesJ w pol j c = true
      · rw [if_pos g]
        refine ⟨fun z => absurd z (by decide), fun _ => ?_⟩
        have := ih (A ++ c :: B) j [] (by rw [← e]; simp) (by omega) (by
          rw [ew, liv_pos (by omega), bsJ_cons, if_pos g, liv_app, liv_pos c0]
          rfl)
        have el : (A ++ c :: B).length = A.length + 1 + B.length := by simp; omega
        rw [el] at this
        exact this
      · rw [if_neg g]
        exact ⟨fun _ => skip (Or.inr ⟨by omega, g⟩), fun z => absurd rfl z⟩
  have key0 : ∀ (rest P : List Job), P ++ rest = R → liv P = [] → WP E mM_works 4 [some (.ref 60), some (.int (zI pol)), some (.int (-1)), some (.int (zI P.length))] [] h (qI Q) := by
    intro rest
    induction rest with
    | nil =>
      intro P e lp
      rw [List.append_nil] at e
      subst e
      refine fM_works_4 ?_
      rw [q1, zI_le (by omega) (by omega) (by omega) (by omega)]
      refine ⟨fun _ => ⟨fun z => absurd z (by decide), fun _ => ?_⟩, fun z => by omega⟩
      have eL : L = [] := by rw [← qL, lp]
      subst eL
      exact hq h P MJ.rf ⟨q1, q2, qL, q3, q4, q5, q6⟩ hb rfl
    | cons j rest ih =>
      intro P e lp
      have le : P.length + 1 + rest.length = R.length := by
        rw [← e]; simp; omega
      have jj := q2 P.length (by omega)
      rw [← e, gj_m rfl] at jj
      have bj := hb j (by rw [← e]; simp)
      have j73 : h 73 P.length = zI j.2.2 := jj.2.2
      have hin : inb (zI (P.length : Int)) 800 = true := inb_zI (by omega) (by omega) (by omega)
      have hix : ix (zI (P.length : Int)) = P.length := by rw [ix_zI (by omega) (by omega)]; rfl
      have x1 : zI (P.length : Int) + 1 = zI ((P.length + 1 : Nat) : Int) := by rw [zl_1, zI_add]; rfl
      refine fM_works_4 ?_
      rw [q1, hin, hix, c_t, j73, x1, zl_0, zI_le (by omega) (by omega) (by omega) (by omega), zI_le (by omega) (by omega) (by omega) (by omega)]
      refine ⟨fun z => by omega, fun _ => ⟨fun z => ?_, fun z => ⟨fun z2 => ?_, fun z2 => absurd (by decide) z2⟩⟩⟩
      · have := ih (P ++ [j]) (by rw [← e]; simp) (by rw [liv_app, lp, liv_neg (by omega)]; rfl)
        have el : (P ++ [j]).length = P.length + 1 := by simp
        rw [el] at this
        exact this
      · have := key rest P j [] (by rw [← e]; simp) (by omega) (by
          rw [← qL, ← e, liv_app, lp, liv_pos (by omega)]
          rfl)
        exact this
  exact key0 R [] rfl rfl
end MW
