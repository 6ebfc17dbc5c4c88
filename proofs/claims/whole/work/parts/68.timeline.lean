/-! ===== the class's timeline ===== -/
def JXi (h : Mem) (a i : Nat) (j : Job) : Prop := h a i = zI j.1 ∧ h (a + 1) i = zI j.2.1 ∧ h (a + 2) i = zI j.2.2
def JH (h : Mem) (a : Nat) (L : List Job) : Prop := ∀ i, i < L.length → JXi h a i (L.getD i jb0)
def upd3 (h : Mem) (a k : Nat) (x y z : Int32) : Mem := upd2 (upd2 (upd2 h a k x) (a + 1) k y) (a + 2) k z
theorem u3_s {h : Mem} {a k : Nat} {j : Job} : JXi (upd3 h a k (zI j.1) (zI j.2.1) (zI j.2.2)) a k j := by
  unfold upd3 JXi
  refine ⟨?_, ?_, u_s⟩
  · rw [upd2_ne _ (by omega), upd2_ne _ (by omega), u_s]
  · rw [upd2_ne _ (by omega), u_s]
theorem u3_o {h : Mem} {a k i : Nat} {x y z : Int32} {j : Job} (hi : i ≠ k) (hj : JXi h a i j) : JXi (upd3 h a k x y z) a i j := by
  unfold upd3 JXi
  rw [u_j hi, u_j hi, u_j hi, u_j hi, u_j hi, u_j hi, u_j hi, u_j hi, u_j hi]
  exact hj
theorem u3_f {h : Mem} {a k q : Nat} {x y z : Int32} (hq : q ≠ a ∧ q ≠ a + 1 ∧ q ≠ a + 2) : upd3 h a k x y z q = h q := by
  unfold upd3
  rw [upd2_ne _ hq.2.2, upd2_ne _ hq.2.1, upd2_ne _ hq.1]
theorem JXi.fr {h h' : Mem} {a i : Nat} {j : Job} (hj : JXi h a i j) (h0 : h' a = h a) (h1 : h' (a + 1) = h (a + 1)) (h2 : h' (a + 2) = h (a + 2)) : JXi h' a i j := by
  unfold JXi
  rw [h0, h1, h2]
  exact hj
theorem gj_l {A B : List Job} {i : Nat} (h : i < A.length) : (A ++ B).getD i jb0 = A.getD i jb0 := by
  simp only [List.getD_eq_getElem?_getD]
  rw [List.getElem?_append_left h]
theorem gj_r {A B : List Job} {i : Nat} (h : A.length ≤ i) : (A ++ B).getD i jb0 = B.getD (i - A.length) jb0 := by
  simp only [List.getD_eq_getElem?_getD]
  rw [List.getElem?_append_right h]
theorem gj_m {A B : List Job} {b : Job} {i : Nat} (h : i = A.length) : (A ++ b :: B).getD i jb0 = b := by
  rw [gj_r (by omega), h, Nat.sub_self]
  rfl
theorem gj_in {A : List Job} {i : Nat} (h : i < A.length) : A.getD i jb0 ∈ A := by
  simp only [List.getD_eq_getElem?_getD, List.getElem?_eq_getElem h, Option.getD_some]
  exact List.getElem_mem h
theorem gj_drop {A l : List Job} {i : Nat} {j : Job} (h : A.drop i = j :: l) : i < A.length ∧ A.getD i jb0 = j ∧ A.drop (i + 1) = l := by
  have hl : i < A.length := by
    rcases Nat.lt_or_ge i A.length with q | q
    · exact q
    · rw [List.drop_eq_nil_of_le q] at h; cases h
  refine ⟨hl, ?_, by rw [← List.tail_drop, h]; rfl⟩
  have := congrArg (fun l => l[0]?) h
  simp only [List.getElem?_drop, Nat.add_zero] at this
  simp only [List.getD_eq_getElem?_getD, this]
  rfl
def TQ (h : Mem) (s : RSt) : Prop := h 48 8 = zI s.1.length ∧ JH h 52 s.1 ∧ (∀ i : Nat, i < 6 → h 50 i = zI (s.2.1 i)) ∧ (∀ i : Nat, i < 6 → h 51 i = zI (s.2.2.1 i)) ∧ h 48 3 = zI s.2.2.2.1 ∧ h 48 4 = zI s.2.2.2.2
def tj (q : Nat) : Prop := q = 48 ∨ (50 ≤ q ∧ q ≤ 54)
theorem tj_cs {q : Nat} (h : tj q) : cs q := by unfold tj at h; unfold cs; omega
theorem Off.u3 {h h' : Mem} {k : Nat} {x y z : Int32} (o : Off tj h h') : Off tj h (upd3 h' 52 k x y z) := ((o.up (P := tj) (by unfold tj; omega)).up (by unfold tj; omega)).up (by unfold tj; omega)
theorem DW.tjk {h h' : Mem} {p : Nat} {w : Int → Int} (hp : isP p) (hd : DW h p w) (o : Off tj h h') : DW h' p w := hd.off o (fun k hk z => by have := hp.b; unfold tj at z; omega)
theorem msJ_nil {u a b : Int} {m : Int → Int} : msJ u [] m a b = ([], m, a, b) := rfl
theorem msJ_cons {u a b : Int} {m : Int → Int} {j : Job} {l : List Job} : msJ u (j :: l) m a b = if u < j.2.1 then (j :: (msJ u l m a b).1, (msJ u l m a b).2) else
    msJ u l (fset m j.1 (m j.1 + 1)) (if a < 0 ∨ (a = u ∧ j.1 < b) then u else a) (if a < 0 ∨ (a = u ∧ j.1 < b) then j.1 else b) := rfl
section TL
variable {E : XE} {h : Mem} {w : Int → Int} {p : Nat}
theorem sTI_moveJob {Q : Mem → Prop} {i k : Nat} (hi : i < 360) (hk : k < 360) (hq : Q (upd3 h 52 k (h 52 i) (h 53 i) (h 54 i))) : CALLV E mTI_moveJob [.ref 48, .int (zI i), .int (zI k)] h Q := by
  refine fTI_moveJob ?_
  have e53 : ∀ x, upd2 h 52 k x 53 i = h 53 i := fun x => congrFun (upd2_ne 53 (by omega)) i
  have e54 : ∀ x y, upd2 (upd2 h 52 k x) 53 k y 54 i = h 54 i := fun x y => (congrFun (upd2_ne 54 (by omega)) i).trans (congrFun (upd2_ne 54 (by omega)) i)
  simp (disch := omega) only [zI_add, zI_sub, zI_mul, zI_neg, zI_lt, zI_le, zI_eq, zI_div, zI_rem, ix_zI, inb_zI, nz_zI, imax_zI, imin_zI, c_t, nb01.1, nb01.2, zl_0, zl_1, zl_2, zl_3, zl_4, zl_5, zl_6, zl_7, zl_8, zl_9, zl_10, zl_11, zl_12, zl_13, zl_14, zl_15, zl_16, zl_17, zl_18, zl_19, zl_20, zl_24, zl_30, zl_31, zl_36, zl_42, zl_44, zl_48, zl_57, zl_58, zl_59, zl_60, zl_61, zl_62, zl_63, zl_64, zl_72, zl_73, zl_96, zl_99, zl_100, zl_104, zl_107, zl_111, zl_114, zl_116, zl_120, zl_200, zl_255, zl_256, zl_360, zl_600, zl_800, zl_1000, zl_2000, Int.toNat_natCast, e53, e54]
  exact hq
theorem sTI_noteMiss {Q : Mem → Prop} {t u a b : Int} (t0 : 0 ≤ t) (t1 : t < 6) (hu : 0 ≤ u ∧ u ≤ 60) (e3 : h 48 3 = zI a) (e4 : h 48 4 = zI b) (hw : whB a b) (hq : Q (if a < 0 ∨ (a = u ∧ t < b) then upd2 (upd2 (upd2 h 51 t.toNat (h 51 t.toNat + zI 1)) 48 3 (zI u)) 48 4 (zI t) else upd2 h 51 t.toNat (h 51 t.toNat + zI 1))) : CALLV E mTI_noteMiss [.ref 48, .int (zI t), .int (zI u)] h Q := by
  refine fTI_noteMiss ?_
  unfold whB at hw
  have g3 : ∀ x, upd2 h 51 t.toNat x 48 3 = zI a := fun x => (congrFun (upd2_ne 48 (by omega)) 3).trans e3
  have g4 : ∀ x, upd2 h 51 t.toNat x 48 4 = zI b := fun x => (congrFun (upd2_ne 48 (by omega)) 4).trans e4
  simp (disch := omega) only [zI_add, zI_sub, zI_mul, zI_neg, zI_lt, zI_le, zI_eq, zI_div, zI_rem, ix_zI, inb_zI, nz_zI, imax_zI, imin_zI, c_t, nb01.1, nb01.2, zl_0, zl_1, zl_2, zl_3, zl_4, zl_5, zl_6, zl_7, zl_8, zl_9, zl_10, zl_11, zl_12, zl_13, zl_14, zl_15, zl_16, zl_17, zl_18, zl_19, zl_20, zl_24, zl_30, zl_31, zl_36, zl_42, zl_44, zl_48, zl_57, zl_58, zl_59, zl_60, zl_61, zl_62, zl_63, zl_64, zl_72, zl_73, zl_96, zl_99, zl_100, zl_104, zl_107, zl_111, zl_114, zl_116, zl_120, zl_200, zl_255, zl_256, zl_360, zl_600, zl_800, zl_1000, zl_2000, g3, g4]
  refine ⟨fun z => ?_, fun z => ⟨fun z2 => ?_, fun z2 => ⟨fun z3 => ?_, fun z3 => ?_⟩⟩⟩
  · rw [if_pos (by omega)] at hq; exact hq
  · rw [if_neg (by omega)] at hq; exact hq
  · rw [if_neg (by omega)] at hq; exact hq
  · rw [if_pos (by omega)] at hq; exact hq
theorem sTI_dropMissed {Q : Mem → Prop} {u n : Int} {s : RSt} (hn : n ≤ 6) (ht : TQ h s) (hb : JB n s.1) (hl : s.1.length ≤ 360) (hwh : whB s.2.2.2.1 s.2.2.2.2) (hu : 0 ≤ u ∧ u ≤ 60) (hq : ∀ h', Off tj h h' → TQ h' (afMs u s) → Q h') : CALLV E mTI_dropMissed [.ref 48, .int (zI u)] h Q := by
  refine fTI_dropMissed ?_
  obtain ⟨L, dn, m0, a0, b0⟩ := s
  obtain ⟨q1, q2, q3, q4, q5, q6⟩ := ht
  simp only at q1 q2 q3 q4 q5 q6 hb hl hwh
  have key : ∀ (rest : List Job) (i : Nat) (K : List Job) (m : Int → Int) (a b : Int) (h1 : Mem), L.drop i = rest → i ≤ L.length → K.length ≤ i → Off tj h h1 → h1 48 8 = zI L.length → (∀ x, x < K.length → JXi h1 52 x (K.getD x jb0)) → (∀ x, i ≤ x → x < L.length → JXi h1 52 x (L.getD x jb0)) →
      (∀ x : Nat, x < 6 → h1 50 x = zI (dn x)) → (∀ x : Nat, x < 6 → h1 51 x = zI (m x)) → h1 48 3 = zI a → h1 48 4 = zI b → whB a b → (K ++ (msJ u rest m a b).1, (msJ u rest m a b).2) = msJ u L m0 a0 b0 → WP E mTI_dropMissed 4 [some (.ref 48), some (.int (zI u)), some (.int (zI K.length)), some (.int (zI i))] [] h1 (qV Q) := by
    intro rest
    induction rest with
    | nil =>
      intro i K m a b h1 hd hi hK ho g8 gK gL gd gm g3 g4 wh e
      have hli : L.length ≤ i := by simpa using hd
      refine fTI_dropMissed_4 ?_
      rw [g8, zI_le (by omega) (by omega) (by omega) (by omega)]
      refine ⟨fun _ => hq _ (ho.up (P := tj) (by unfold tj; omega)) ?_, fun z => by omega⟩
      have e' : msJ u L m0 a0 b0 = (K, m, a, b) := by rw [← e, msJ_nil, List.append_nil]
      have ea : afMs u (L, dn, m0, a0, b0) = (K, dn, m, a, b) := by unfold afMs; simp only [e']
      rw [ea]
      have o : ∀ q, q ≠ 48 → upd2 h1 48 8 (zI K.length) q = h1 q := fun q hq => upd2_ne q hq
      exact ⟨u_s, fun x hx => (gK x hx).fr (o _ (by omega)) (o _ (by omega)) (o _ (by omega)), fun x hx => by rw [o 50 (by omega)]; exact gd x hx, fun x hx => by rw [o 51 (by omega)]; exact gm x hx, (u_i (by omega)).trans g3, (u_i (by omega)).trans g4⟩
    | cons j rest ih =>
      intro i K m a b h1 hd hi hK ho g8 gK gL gd gm g3 g4 wh e
      obtain ⟨hil, ej, hd'⟩ := gj_drop hd
      have bj := hb j (by rw [← ej]; exact gj_in hil)
      have jx := gL i (Nat.le_refl _) hil
      rw [ej] at jx
      refine fTI_dropMissed_4 ?_
      have j53 : h1 53 i = zI j.2.1 := jx.2.1
      have j52 : h1 52 i = zI j.1 := jx.1
      have j54 : h1 54 i = zI j.2.2 := jx.2.2
      rw [msJ_cons] at e
      have i1 : ((i + 1 : Nat) : Int) = (i : Int) + 1 := by omega
      have hnext := fun K' m' a' b' h' => ih (i + 1) K' m' a' b' h' hd' (by omega)
      rw [i1] at hnext
      rw [g8]
      simp (disch := omega) only [zI_add, zI_sub, zI_mul, zI_neg, zI_lt, zI_le, zI_eq, zI_div, zI_rem, ix_zI, inb_zI, nz_zI, imax_zI, imin_zI, c_t, nb01.1, nb01.2, zl_0, zl_1, zl_2, zl_3, zl_4, zl_5, zl_6, zl_7, zl_8, zl_9, zl_10, zl_11, zl_12, zl_13, zl_14, zl_15, zl_16, zl_17, zl_18, zl_19, zl_20, zl_24, zl_30, zl_31, zl_36, zl_42, zl_44, zl_48, zl_57, zl_58, zl_59, zl_60, zl_61, zl_62, zl_63, zl_64, zl_72, zl_73, zl_96, zl_99, zl_100, zl_104, zl_107, zl_111, zl_114, zl_116, zl_120, zl_200, zl_255, zl_256, zl_360, zl_600, zl_800, zl_1000, zl_2000, Int.toNat_natCast, j53, j52]
      refine ⟨fun z => by omega, fun _ => ?_⟩
      refine ⟨fun z => sTI_moveJob (by omega) (by omega) ?_, fun z => ?_⟩
      · rw [if_pos z] at e
        rw [j52, j53, j54]
        have kl : ((K ++ [j]).length : Int) = (K.length : Int) + 1 := by simp
        have o : ∀ q, q ≠ 52 ∧ q ≠ 53 ∧ q ≠ 54 → upd3 h1 52 K.length (zI j.1) (zI j.2.1) (zI j.2.2) q = h1 q := fun q hq => u3_f hq
        have := hnext (K ++ [j]) m a b (upd3 h1 52 K.length (zI j.1) (zI j.2.1) (zI j.2.2)) (by simp; omega) ho.u3 (by rw [o 48 (by omega)]; exact g8) (fun x hx => by
          by_cases ex : x = K.length
          · rw [ex, gj_m rfl]; exact u3_s
          · have hx : x < K.length := by simp at hx; omega
            rw [gj_l hx]
            exact u3_o ex (gK x hx)) (fun x h1x h2x => u3_o (by omega) (gL x (by omega) h2x)) (fun x hx => by rw [o 50 (by omega)]; exact gd x hx) (fun x hx => by rw [o 51 (by omega)]; exact gm x hx) (by rw [o 48 (by omega)]; exact g3) (by rw [o 48 (by omega)]; exact g4) wh (by rw [← e]; simp)
        rw [kl] at this
        exact this
      · rw [if_neg z] at e
        refine sTI_noteMiss bj.1.1 (by omega) hu g3 g4 wh ?_
        have wh' : whB (if a < 0 ∨ (a = u ∧ j.1 < b) then u else a) (if a < 0 ∨ (a = u ∧ j.1 < b) then j.1 else b) := by
          unfold whB at wh ⊢
          split <;> omega
        have gm51 : ∀ x : Nat, x < 6 → upd2 h1 51 j.1.toNat (h1 51 j.1.toNat + zI 1) 51 x = zI (fset m j.1 (m j.1 + 1) x) := fun x hx => by
          by_cases ex : x = j.1.toNat
          · subst ex
            rw [u_s, gm _ hx, show ((j.1.toNat : Nat) : Int) = j.1 by omega, fs_eq, zI_add]
          · rw [u_i ex, gm x hx, fs_ne (by omega)]
        by_cases c : a < 0 ∨ (a = u ∧ j.1 < b)
        · rw [if_pos c] at e wh' ⊢
          rw [if_pos c] at e wh'
          have o : ∀ q, q ≠ 51 → q ≠ 48 → upd2 (upd2 (upd2 h1 51 j.1.toNat (h1 51 j.1.toNat + zI 1)) 48 3 (zI u)) 48 4 (zI j.1) q = h1 q := fun q a b => by rw [upd2_ne q b, upd2_ne q b, upd2_ne q a]
          exact hnext K (fset m j.1 (m j.1 + 1)) u j.1 _ (by omega) (((ho.up (P := tj) (by unfold tj; omega)).up (by unfold tj; omega)).up (by unfold tj; omega)) ((u_i (by omega)).trans ((u_i (by omega)).trans ((congrFun (upd2_ne 48 (by omega)) 8).trans g8)))
            (fun x hx => (gK x hx).fr (o _ (by omega) (by omega)) (o _ (by omega) (by omega)) (o _ (by omega) (by omega))) (fun x h1x h2x => (gL x (by omega) h2x).fr (o _ (by omega) (by omega)) (o _ (by omega) (by omega)) (o _ (by omega) (by omega)))
            (fun x hx => by rw [o 50 (by omega) (by omega)]; exact gd x hx) (fun x hx => by rw [upd2_ne 51 (by omega), upd2_ne 51 (by omega)]; exact gm51 x hx) ((u_i (by omega)).trans u_s) u_s wh' e
        · rw [if_neg c] at e wh' ⊢
          rw [if_neg c] at e wh'
          have o : ∀ q, q ≠ 51 → upd2 h1 51 j.1.toNat (h1 51 j.1.toNat + zI 1) q = h1 q := fun q a => upd2_ne q a
          exact hnext K (fset m j.1 (m j.1 + 1)) a b _ (by omega) (ho.up (P := tj) (by unfold tj; omega)) (by rw [o 48 (by omega)]; exact g8)
            (fun x hx => (gK x hx).fr (o _ (by omega)) (o _ (by omega)) (o _ (by omega))) (fun x h1x h2x => (gL x (by omega) h2x).fr (o _ (by omega)) (o _ (by omega)) (o _ (by omega)))
            (fun x hx => by rw [o 50 (by omega)]; exact gd x hx) gm51 (by rw [o 48 (by omega)]; exact g3) (by rw [o 48 (by omega)]; exact g4) wh' e
  exact key L 0 [] m0 a0 b0 h rfl (Nat.zero_le _) (Nat.le_refl _) Off.rf q1 (fun x hx => absurd hx (Nat.not_lt_zero x)) (fun x _ hx => q2 x hx) q3 q4 q5 q6 hwh (by simp)
theorem sTI_addJob {Q : Mem → Prop} {j : Job} {s : RSt} (ht : TQ h s) (hl : s.1.length < 360) (hq : ∀ h', Off tj h h' → TQ h' (s.1 ++ [j], s.2) → Q h') : CALLV E mTI_addJob [.ref 48, .int (zI j.1), .int (zI j.2.1), .int (zI j.2.2)] h Q := by
  refine fTI_addJob ?_
  obtain ⟨q1, q2, q3, q4, q5, q6⟩ := ht
  have e1 : ∀ i x, upd2 h 52 i x 48 8 = zI s.1.length := fun i x => (congrFun (upd2_ne 48 (by omega)) 8).trans q1
  have e2 : ∀ i x i2 y, upd2 (upd2 h 52 i x) 53 i2 y 48 8 = zI s.1.length := fun i x i2 y => (congrFun (upd2_ne 48 (by omega)) 8).trans (e1 i x)
  have e3 : ∀ i x i2 y i3 z, upd2 (upd2 (upd2 h 52 i x) 53 i2 y) 54 i3 z 48 8 = zI s.1.length := fun i x i2 y i3 z => (congrFun (upd2_ne 48 (by omega)) 8).trans (e2 i x i2 y)
  rw [q1]
  simp (disch := omega) only [zI_add, zI_sub, zI_mul, zI_neg, zI_lt, zI_le, zI_eq, zI_div, zI_rem, ix_zI, inb_zI, nz_zI, imax_zI, imin_zI, c_t, nb01.1, nb01.2, zl_0, zl_1, zl_2, zl_3, zl_4, zl_5, zl_6, zl_7, zl_8, zl_9, zl_10, zl_11, zl_12, zl_13, zl_14, zl_15, zl_16, zl_17, zl_18, zl_19, zl_20, zl_24, zl_30, zl_31, zl_36, zl_42, zl_44, zl_48, zl_57, zl_58, zl_59, zl_60, zl_61, zl_62, zl_63, zl_64, zl_72, zl_73, zl_96, zl_99, zl_100, zl_104, zl_107, zl_111, zl_114, zl_116, zl_120, zl_200, zl_255, zl_256, zl_360, zl_600, zl_800, zl_1000, zl_2000, Int.toNat_natCast, e1, e2, e3]
  refine ⟨fun z => by omega, fun _ => ?_⟩
  have o : ∀ q, q ≠ 48 → q ≠ 52 ∧ q ≠ 53 ∧ q ≠ 54 → upd2 (upd3 h 52 s.1.length (zI j.1) (zI j.2.1) (zI j.2.2)) 48 8 (zI ((s.1.length : Int) + 1)) q = h q := fun q a b => (upd2_ne q a).trans (u3_f b)
  have o48 : ∀ i, i ≠ 8 → upd2 (upd3 h 52 s.1.length (zI j.1) (zI j.2.1) (zI j.2.2)) 48 8 (zI ((s.1.length : Int) + 1)) 48 i = h 48 i := fun i hi => (u_i hi).trans (congrFun (u3_f (by omega)) i)
  refine hq (upd2 (upd3 h 52 s.1.length (zI j.1) (zI j.2.1) (zI j.2.2)) 48 8 (zI ((s.1.length : Int) + 1))) ((Off.rf.u3).up (P := tj) (by unfold tj; omega)) ⟨u_s.trans (by simp), fun x hx => ?_, fun x hx => by rw [o 50 (by omega) (by omega)]; exact q3 x hx, fun x hx => by rw [o 51 (by omega) (by omega)]; exact q4 x hx, (o48 3 (by omega)).trans q5, (o48 4 (by omega)).trans q6⟩
  have f : ∀ q, q ≠ 48 → upd2 (upd3 h 52 s.1.length (zI j.1) (zI j.2.1) (zI j.2.2)) 48 8 (zI ((s.1.length : Int) + 1)) q = upd3 h 52 s.1.length (zI j.1) (zI j.2.1) (zI j.2.2) q := fun q a => upd2_ne q a
  refine JXi.fr ?_ (f _ (by omega)) (f _ (by omega)) (f _ (by omega))
  by_cases ex : x = s.1.length
  · rw [ex, gj_m rfl]; exact u3_s
  · have hx : x < s.1.length := by simp at hx; omega
    rw [gj_l hx]
    exact u3_o ex (q2 x hx)
end TL
