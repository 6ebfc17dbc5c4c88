/-! ===== the class reads its letters ===== -/
def LB (ln : Nat) (lt : Nat → Int) : Prop := ln ≤ 96 ∧ ∀ k, k < ln → 0 ≤ lt k ∧ lt k ≤ 255
def TS (h : Mem) (ln : Nat) (lt : Nat → Int) (i : Nat) : Prop := h 55 1 = zI ln ∧ (∀ k, k < ln → h 56 k = zI (lt k)) ∧ h 55 4 = zI i
def TF (h h' : Mem) : Prop := (∀ q, q ≠ 55 → q ≠ 57 → h' q = h q) ∧ ∀ j, j ≠ 3 → j ≠ 4 → h' 55 j = h 55 j
theorem TF.rf {h : Mem} : TF h h := ⟨fun _ _ _ => rfl, fun _ _ _ => rfl⟩
theorem TF.tr {a b c : Mem} (h1 : TF a b) (h2 : TF b c) : TF a c := ⟨fun q x y => (h2.1 q x y).trans (h1.1 q x y), fun j x y => (h2.2 j x y).trans (h1.2 j x y)⟩
theorem TF.p3 {h h' : Mem} {x : Int32} (h1 : TF h h') : TF h (upd2 h' 55 3 x) := ⟨fun q a b => (upd2_ne q a).trans (h1.1 q a b), fun j a b => (u_i a).trans (h1.2 j a b)⟩
theorem TF.p4 {h h' : Mem} {x : Int32} (h1 : TF h h') : TF h (upd2 h' 55 4 x) := ⟨fun q a b => (upd2_ne q a).trans (h1.1 q a b), fun j a b => (u_i b).trans (h1.2 j a b)⟩
theorem TF.p57 {h h' : Mem} {i : Nat} {x : Int32} (h1 : TF h h') : TF h (upd2 h' 57 i x) := ⟨fun q a b => (upd2_ne q b).trans (h1.1 q a b), fun j a b => (congrFun (upd2_ne 55 (by omega)) j).trans (h1.2 j a b)⟩
theorem TS.tf {h h' : Mem} {ln : Nat} {lt : Nat → Int} {i j : Nat} (hs : TS h ln lt i) (hf : TF h h') (e : h' 55 4 = zI j) : TS h' ln lt j :=
  ⟨(hf.2 1 (by omega) (by omega)).trans hs.1, fun k hk => by rw [hf.1 56 (by omega) (by omega)]; exact hs.2.1 k hk, e⟩
theorem hr_b {ln : Nat} {lt : Nat → Int} (hl : LB ln lt) (i : Nat) : -1 ≤ hr ln lt i ∧ hr ln lt i ≤ 255 := by
  unfold hr
  split
  · have := hl.2 i (by assumption); omega
  · omega
def mkI (c : Int) : Nat := if c = 116 then 0 else if c = 111 ∨ c = 114 then 1 else if c = 107 then 2 else if c = 104 then 3 else if c = 120 then 4 else 5
theorem mkI_6 (c : Int) : mkI c < 6 := by
  unfold mkI
  repeat' split
  all_goals omega
theorem mkI_l (c : Int) : bytS.getD (mkI c) [] = (mkL c).map zI ∧ lenS.getD (mkI c) 0 = (mkL c).length := by
  unfold mkI mkL
  repeat' split
  all_goals exact ⟨rfl, rfl⟩
theorem sJ_charAt' {E : XE} {h : Mem} {Q : Int32 → Mem → Prop} {i k : Nat} (hi : i < 6) (hk : k < lenS.getD i 0) (hq : Q ((bytS.getD i []).getD k 0) h) :
    CALLI E mJ_charAt [.ref (1001 + i), .int (zI k)] h Q := by
  rw [← nI_zI]
  exact sJ_charAt hi hk hq
theorem rdM_cons {ln : Nat} {lt : Nat → Int} {m : Int} {ms : List Int} {i : Nat} : rdM ln lt (m :: ms) i = match numP ln lt i with
    | none => (i, none)
    | some (v, j) => if hr ln lt j = m then (match rdM ln lt ms (j + 1) with
      | (q, some l) => (q, some (v :: l))
      | (q, none) => (q, none)) else (j, none) := rfl
section TR3
variable {E : XE} {h : Mem} {ln : Nat} {lt : Nat → Int} {i : Nat}
theorem sTE_here {Q : Int32 → Mem → Prop} (hl : LB ln lt) (hs : TS h ln lt i) (hi : i ≤ 100) (hq : Q (zI (hr ln lt i)) h) : CALLI E mTE_here [.ref 55] h Q := by
  refine fTE_here ?_
  have h96 := hl.1
  rw [hs.1, hs.2.2]
  unfold hr at hq
  simp (disch := omega) only [zI_add, zI_sub, zI_mul, zI_neg, zI_lt, zI_le, zI_eq, zI_div, zI_rem, ix_zI, inb_zI, nz_zI, imax_zI, imin_zI, c_t, nb01.1, nb01.2, zl_0, zl_1, zl_2, zl_3, zl_4, zl_5, zl_6, zl_7, zl_8, zl_9, zl_10, zl_11, zl_12, zl_13, zl_14, zl_15, zl_16, zl_17, zl_18, zl_19, zl_20, zl_24, zl_30, zl_31, zl_36, zl_42, zl_44, zl_48, zl_57, zl_58, zl_59, zl_60, zl_61, zl_62, zl_63, zl_64, zl_72, zl_73, zl_96, zl_99, zl_100, zl_104, zl_107, zl_111, zl_114, zl_116, zl_120, zl_200, zl_255, zl_256, zl_360, zl_600, zl_800, zl_1000, zl_2000, Int.toNat_natCast]
  refine ⟨fun z => by omega, fun _ => ⟨fun z => ?_, fun z => ?_⟩⟩
  · rw [if_neg (by omega)] at hq; exact hq
  · have hlt : i < ln := by omega
    rw [if_pos hlt] at hq
    simp (disch := omega) only [zI_add, zI_sub, zI_mul, zI_neg, zI_lt, zI_le, zI_eq, zI_div, zI_rem, ix_zI, inb_zI, nz_zI, imax_zI, imin_zI, c_t, nb01.1, nb01.2, zl_0, zl_1, zl_2, zl_3, zl_4, zl_5, zl_6, zl_7, zl_8, zl_9, zl_10, zl_11, zl_12, zl_13, zl_14, zl_15, zl_16, zl_17, zl_18, zl_19, zl_20, zl_24, zl_30, zl_31, zl_36, zl_42, zl_44, zl_48, zl_57, zl_58, zl_59, zl_60, zl_61, zl_62, zl_63, zl_64, zl_72, zl_73, zl_96, zl_99, zl_100, zl_104, zl_107, zl_111, zl_114, zl_116, zl_120, zl_200, zl_255, zl_256, zl_360, zl_600, zl_800, zl_1000, zl_2000, Int.toNat_natCast]
    rw [hs.2.1 i hlt]
    exact hq
theorem sTE_isDigit {Q : Int32 → Mem → Prop} {c : Int} (hc : -1 ≤ c ∧ c ≤ 255) (hq : Q (if isDg c = true then 1 else 0) h) : CALLI E mTE_isDigit [.int (zI c)] h Q := by
  refine fTE_isDigit ?_
  unfold isDg at hq
  simp (disch := omega) only [zI_add, zI_sub, zI_mul, zI_neg, zI_lt, zI_le, zI_eq, zI_div, zI_rem, ix_zI, inb_zI, nz_zI, imax_zI, imin_zI, c_t, nb01.1, nb01.2, zl_0, zl_1, zl_2, zl_3, zl_4, zl_5, zl_6, zl_7, zl_8, zl_9, zl_10, zl_11, zl_12, zl_13, zl_14, zl_15, zl_16, zl_17, zl_18, zl_19, zl_20, zl_24, zl_30, zl_31, zl_36, zl_42, zl_44, zl_48, zl_57, zl_58, zl_59, zl_60, zl_61, zl_62, zl_63, zl_64, zl_72, zl_73, zl_96, zl_99, zl_100, zl_104, zl_107, zl_111, zl_114, zl_116, zl_120, zl_200, zl_255, zl_256, zl_360, zl_600, zl_800, zl_1000, zl_2000]
  refine ⟨fun z => ?_, fun z => ⟨fun z2 => ?_, fun z2 => ?_⟩⟩
  · rw [if_neg (by simp; omega)] at hq; exact hq
  · rw [if_neg (by simp; omega)] at hq; exact hq
  · rw [if_pos (by simp; omega)] at hq; exact hq
theorem sTE_readNumber {Q : Int32 → Mem → Prop} {k : Nat} (hl : LB ln lt) (hs : TS h ln lt i) (hi : i ≤ 97) (hk : k < 3) (h0 : numP ln lt i = none → Q 0 h)
    (h1 : ∀ v j, numP ln lt i = some (v, j) → ∀ h', TF h h' → h' 55 4 = zI j → h' 55 3 = h 55 3 → h' 57 k = zI v → (∀ m, m ≠ k → h' 57 m = h 57 m) → Q 1 h') : CALLI E mTE_readNumber [.ref 55, .int (zI k)] h Q := by
  have b1 := hr_b hl i
  have b2 := hr_b hl (i + 1)
  refine fTE_readNumber (sTE_here hl hs (by omega) (sTE_isDigit b1 ?_))
  unfold numP at h0 h1
  by_cases c1 : isDg (hr ln lt i) = true
  · rw [if_pos c1]
    rw [if_pos c1] at h0 h1
    have k3 : zI (k : Int) < nI 3 := by rw [nI_zI, zI_lt (by omega) (by omega) (by omega) (by omega)]; omega
    have k0 : ¬ zI (k : Int) < 0 := by rw [zl_0, zI_lt (by omega) (by omega) (by omega) (by omega)]; omega
    refine ⟨fun z => absurd z (by decide), fun _ => ⟨fun z => absurd z k0, fun _ => ⟨fun _ => sTE_here hl hs (by omega) ?_, fun z => absurd k3 z⟩⟩⟩
    have s2 : TS (upd2 h 55 4 (h 55 4 + 1)) ln lt (i + 1) := hs.tf TF.rf.p4 (by rw [u_s, hs.2.2, zl_1, zI_add]; rfl)
    refine sTE_here hl s2 (by omega) (sTE_isDigit b2 ?_)
    have hin : inb (zI (k : Int)) 3 = true := inb_zI (by omega) (by omega) (by omega)
    have hix : ix (zI (k : Int)) = k := by rw [ix_zI (by omega) (by omega)]; rfl
    unfold isDg at c1
    simp only [decide_eq_true_eq] at c1
    by_cases c2 : isDg (hr ln lt (i + 1)) = true
    · rw [if_pos c2]
      rw [if_pos c2] at h0 h1
      refine ⟨fun z => absurd z (by decide), fun _ => sTE_here hl s2 (by omega) ?_⟩
      have e : upd2 (upd2 h 55 4 (h 55 4 + 1)) 55 4 (upd2 h 55 4 (h 55 4 + 1) 55 4 + 1) 55 4 = zI ((i + 2 : Nat) : Int) := by rw [u_s, u_s, hs.2.2, zl_1, zI_add, zI_add]; rfl
      have := h1 _ _ rfl (upd2 (upd2 (upd2 h 55 4 (h 55 4 + 1)) 55 4 (upd2 h 55 4 (h 55 4 + 1) 55 4 + 1)) 57 k (zI ((hr ln lt i - 48) * 10 + hr ln lt (i + 1) - 48))) (TF.rf.p4.p4.p57) ((congrFun (upd2_ne 55 (by omega)) 4).trans e) ((congrFun (upd2_ne 55 (by omega)) 3).trans ((u_i (by omega)).trans (u_i (by omega)))) u_s (fun m hm => (u_i hm).trans (congrFun ((upd2_ne 57 (by omega)).trans (upd2_ne 57 (by omega))) m))
      rw [hin, hix, c_t]
      rw [show (48 : Int32) = zI 48 from rfl, show (10 : Int32) = zI 10 from rfl, zI_sub, zI_mul, zI_add, zI_sub]
      exact this
    · rw [if_neg c2]
      rw [if_neg c2] at h0 h1
      refine ⟨fun _ => ?_, fun z => absurd rfl z⟩
      have := h1 _ _ rfl (upd2 (upd2 h 55 4 (h 55 4 + 1)) 57 k (zI (hr ln lt i - 48))) (TF.rf.p4.p57) ((congrFun (upd2_ne 55 (by omega)) 4).trans s2.2.2) ((congrFun (upd2_ne 55 (by omega)) 3).trans (u_i (by omega))) u_s (fun m hm => (u_i hm).trans (congrFun (upd2_ne 57 (by omega)) m))
      rw [hin, hix, c_t, show (48 : Int32) = zI 48 from rfl, zI_sub]
      exact this
  · rw [if_neg c1]
    rw [if_neg c1] at h0
    exact ⟨fun _ => h0 rfl, fun z => absurd rfl z⟩
theorem sTE_marksOf {Q : Nat → Mem → Prop} {c : Int} (hc : -1 ≤ c ∧ c ≤ 255) (hq : Q (1001 + mkI c) h) : CALLR E mTE_marksOf [.int (zI c)] h Q := by
  refine fTE_marksOf ?_
  have H : ∀ n, mkI c = n → Q (1001 + n) h := fun n e => e ▸ hq
  simp (disch := omega) only [of_zI, zI_eq]
  refine ⟨fun z => H 3 ?_, fun _ => ⟨fun z => H 5 ?_, fun _ => ⟨fun z => H 5 ?_, fun _ => ⟨fun z => H 2 ?_, fun _ => ⟨fun z => H 5 ?_, fun _ => ⟨fun z => H 5 ?_, fun _ => ⟨fun z => H 5 ?_, fun _ => ⟨fun z => H 1 ?_, fun _ => ⟨fun z => H 5 ?_, fun _ => ⟨fun z => H 5 ?_, fun _ => ⟨fun z => H 1 ?_, fun _ => ⟨fun z => H 5 ?_, fun _ => ⟨fun z => H 0 ?_, fun _ => ⟨fun z => H 5 ?_, fun _ => ⟨fun z => H 5 ?_, fun _ => ⟨fun z => H 5 ?_, fun _ => ⟨fun z => H 4 ?_, fun z => H 5 ?_⟩⟩⟩⟩⟩⟩⟩⟩⟩⟩⟩⟩⟩⟩⟩⟩⟩
  all_goals
    unfold mkI
    repeat' split
  all_goals omega
theorem sTE_readStatement {Q : Int32 → Mem → Prop} (hl : LB ln lt) (hs : TS h ln lt i) (hi : i ≤ ln)
    (h0 : ∀ q h', stm ln lt i = (q, none) → TF h h' → h' 55 4 = zI (q : Nat) → Q 0 h')
    (h1 : ∀ q l h', stm ln lt i = (q, some l) → TF h h' → h' 55 4 = zI (q : Nat) → h' 55 3 = zI (hr ln lt i) → (∀ m, m < l.length → h' 57 m = zI (l.getD m 0)) → Q 1 h') : CALLI E mTE_readStatement [.ref 55] h Q := by
  have h96 := hl.1
  refine fTE_readStatement (sTE_here hl hs (by omega) ?_)
  have b1 := hr_b hl i
  have e3 : upd2 h 55 3 (zI (hr ln lt i)) 55 3 = zI (hr ln lt i) := u_s
  rw [e3]
  refine sTE_marksOf b1 ?_
  have m6 := mkI_6 (hr ln lt i)
  obtain ⟨mb, ml⟩ := mkI_l (hr ln lt i)
  have mlen := mkL_len (hr ln lt i)
  have hcnd : ((Nat.ble 1001 (1001 + mkI (hr ln lt i)) && Nat.ble (1001 + mkI (hr ln lt i)) 1006) && true) = true := by
    rw [Nat.ble_eq_true_of_le (by omega), Nat.ble_eq_true_of_le (by omega)]; rfl
  rw [hcnd, c_t]
  refine sJ_isEmpty m6 ?_
  rw [ml]
  have f3 : TF h (upd2 h 55 3 (zI (hr ln lt i))) := TF.rf.p3
  have g4 : upd2 h 55 3 (zI (hr ln lt i)) 55 4 = zI i := (u_i (by omega)).trans hs.2.2
  unfold stm at h0 h1
  by_cases ce : mkL (hr ln lt i) = []
  · rw [if_pos ce] at h0
    rw [ce]
    exact ⟨fun z => absurd z (by decide), fun _ => h0 i _ rfl f3 g4⟩
  · rw [if_neg ce] at h0 h1
    have hil : i < ln := by
      apply Decidable.byContradiction
      intro z
      have hc := mkL_ne ce
      have : hr ln lt i = -1 := if_neg z
      omega
    rw [if_neg (fun z => ce (List.length_eq_zero_iff.mp z))]
    refine ⟨fun _ => ?_, fun z => absurd rfl z⟩
    have key : ∀ (ms : List Int) (k j : Nat) (pre : List Int) (h2 : Mem), (mkL (hr ln lt i)).drop k = ms → k ≤ (mkL (hr ln lt i)).length → pre.length = k → TF h h2 → h2 55 4 = zI j → h2 55 3 = zI (hr ln lt i) → j ≤ ln → (∀ m, m < k → h2 57 m = zI (pre.getD m 0)) →
        (∀ q, rdM ln lt ms j = (q, none) → rdM ln lt (mkL (hr ln lt i)) (i + 1) = (q, none)) → (∀ q l, rdM ln lt ms j = (q, some l) → rdM ln lt (mkL (hr ln lt i)) (i + 1) = (q, some (pre ++ l))) →
        WP E mTE_readStatement 37 [some (.ref 55), some (.ref (1001 + mkI (hr ln lt i))), some (.int (zI k))] [] h2 (qI Q) := by
      intro ms
      induction ms with
      | nil =>
        intro k j pre h2 hd hk hp hf e4 e3' hj hv r0 r1
        have hkl : (mkL (hr ln lt i)).length ≤ k := by simpa using hd
        refine fTE_readStatement_37 ?_
        rw [hcnd, c_t]
        refine sJ_length m6 ?_
        rw [ml, nI_zI]
        simp (disch := omega) only [zI_add, zI_sub, zI_mul, zI_neg, zI_lt, zI_le, zI_eq, zI_div, zI_rem, ix_zI, inb_zI, nz_zI, imax_zI, imin_zI, c_t, nb01.1, nb01.2, zl_0, zl_1, zl_2, zl_3, zl_4, zl_5, zl_6, zl_7, zl_8, zl_9, zl_10, zl_11, zl_12, zl_13, zl_14, zl_15, zl_16, zl_17, zl_18, zl_19, zl_20, zl_24, zl_30, zl_31, zl_36, zl_42, zl_44, zl_48, zl_57, zl_58, zl_59, zl_60, zl_61, zl_62, zl_63, zl_64, zl_72, zl_73, zl_96, zl_99, zl_100, zl_104, zl_107, zl_111, zl_114, zl_116, zl_120, zl_200, zl_255, zl_256, zl_360, zl_600, zl_800, zl_1000, zl_2000]
        refine ⟨fun _ => h1 j (pre ++ []) h2 (r1 j [] rfl) hf e4 e3' ?_, fun z => by omega⟩
        intro m hm
        rw [List.append_nil] at hm ⊢
        exact hv m (by omega)
      | cons a ms ih =>
        intro k j pre h2 hd hk hp hf e4 e3' hj hv r0 r1
        have hkl : k < (mkL (hr ln lt i)).length := by
          rcases Nat.lt_or_ge k (mkL (hr ln lt i)).length with y | y
          · exact y
          · rw [List.drop_eq_nil_of_le y] at hd; cases hd
        have ea : (mkL (hr ln lt i))[k]? = some a := by
          have := congrArg (fun l => l[0]?) hd
          simpa using this
        have ha := mkL_pos (hr ln lt i) a (List.mem_of_getElem? ea)
        refine fTE_readStatement_37 ?_
        rw [hcnd, c_t]
        refine sJ_length m6 ?_
        rw [ml, nI_zI]
        simp (disch := omega) only [zI_add, zI_sub, zI_mul, zI_neg, zI_lt, zI_le, zI_eq, zI_div, zI_rem, ix_zI, inb_zI, nz_zI, imax_zI, imin_zI, c_t, nb01.1, nb01.2, zl_0, zl_1, zl_2, zl_3, zl_4, zl_5, zl_6, zl_7, zl_8, zl_9, zl_10, zl_11, zl_12, zl_13, zl_14, zl_15, zl_16, zl_17, zl_18, zl_19, zl_20, zl_24, zl_30, zl_31, zl_36, zl_42, zl_44, zl_48, zl_57, zl_58, zl_59, zl_60, zl_61, zl_62, zl_63, zl_64, zl_72, zl_73, zl_96, zl_99, zl_100, zl_104, zl_107, zl_111, zl_114, zl_116, zl_120, zl_200, zl_255, zl_256, zl_360, zl_600, zl_800, zl_1000, zl_2000]
        refine ⟨fun z => by omega, fun _ => ?_⟩
        rw [rdM_cons] at r0 r1
        refine sTE_readNumber (k := k) hl (hs.tf hf e4) (by omega) (by omega) (fun en => ?_) (fun v j2 en h3 f3' e43 e33 v3 o3 => ?_)
        · rw [en] at r0
          exact ⟨fun _ => h0 j h2 (r0 j rfl) hf e4, fun z => absurd rfl z⟩
        · rw [en] at r0 r1
          simp only at r0 r1
          have nb2 := numP_b en
          have s3 := (hs.tf hf e4).tf f3' e43
          refine ⟨fun z => absurd z (by decide), fun _ => sTE_here hl s3 (by omega) ?_⟩
          refine sJ_charAt' m6 (by rw [ml]; exact hkl) ?_
          rw [mb]
          have ech : ((mkL (hr ln lt i)).map zI).getD k 0 = zI a := by simp [List.getD, ea]
          rw [ech]
          have bj := hr_b hl j2
          simp (disch := omega) only [zI_add, zI_sub, zI_mul, zI_neg, zI_lt, zI_le, zI_eq, zI_div, zI_rem, ix_zI, inb_zI, nz_zI, imax_zI, imin_zI, c_t, nb01.1, nb01.2, zl_0, zl_1, zl_2, zl_3, zl_4, zl_5, zl_6, zl_7, zl_8, zl_9, zl_10, zl_11, zl_12, zl_13, zl_14, zl_15, zl_16, zl_17, zl_18, zl_19, zl_20, zl_24, zl_30, zl_31, zl_36, zl_42, zl_44, zl_48, zl_57, zl_58, zl_59, zl_60, zl_61, zl_62, zl_63, zl_64, zl_72, zl_73, zl_96, zl_99, zl_100, zl_104, zl_107, zl_111, zl_114, zl_116, zl_120, zl_200, zl_255, zl_256, zl_360, zl_600, zl_800, zl_1000, zl_2000]
          refine ⟨fun z => ?_, fun z => ?_⟩
          · rw [if_pos z] at r0 r1
            have hj2 : j2 < ln := by
              apply Decidable.byContradiction
              intro y
              have : hr ln lt j2 = -1 := if_neg y
              omega
            have e5 : upd2 h3 55 4 (h3 55 4 + zI 1) 55 4 = zI ((j2 + 1 : Nat) : Int) := by rw [u_s, e43, zI_add]; rfl
            have := ih (k + 1) (j2 + 1) (pre ++ [v]) (upd2 h3 55 4 (h3 55 4 + zI 1)) (by rw [← List.tail_drop, hd]; rfl) (by omega) (by simp [hp]) ((hf.tr f3').p4) e5 ((u_i (by omega)).trans (e33.trans e3')) (by omega) (fun m hm => by
              rw [upd2_ne 57 (by omega)]
              by_cases em : m = k
              · rw [em, v3, ← hp]; simp
              · rw [o3 m em, hv m (by omega)]
                congr 1
                simp only [List.getD_eq_getElem?_getD]
                rw [List.getElem?_append_left (by omega)]) (fun q hq => r0 q (by rw [hq])) (fun q l hq => by rw [r1 q (v :: l) (by rw [hq])]; simp)
            rw [show ((k + 1 : Nat) : Int) = (k : Int) + 1 by omega] at this
            exact this
          · rw [if_neg z] at r0
            exact h0 j2 h3 (r0 j2 rfl) (hf.tr f3') e43
    have e5 : upd2 (upd2 h 55 3 (zI (hr ln lt i))) 55 4 (upd2 h 55 3 (zI (hr ln lt i)) 55 4 + 1) 55 4 = zI ((i + 1 : Nat) : Int) := by rw [u_s, g4, zl_1, zI_add]; rfl
    exact key (mkL (hr ln lt i)) 0 (i + 1) [] _ rfl (Nat.zero_le _) rfl f3.p4 e5 ((u_i (by omega)).trans u_s) (by omega) (fun m hm => absurd hm (Nat.not_lt_zero m)) (fun q hq => hq) (fun q l hq => hq)
end TR3
