/-! ===== the reference goes through its letters ===== -/
def MS (h : Mem) (ln : Nat) (lt : Nat → Int) : Prop := h 60 8 = zI ln ∧ ∀ k, k < ln → h 66 k = zI (lt k)
def MF (h h' : Mem) : Prop := (∀ q, q ≠ 60 → q ≠ 70 → h' q = h q) ∧ ∀ j, j ≠ 17 → j ≠ 18 → j ≠ 20 → h' 60 j = h 60 j
def MP (h : Mem) (x : GS) : Prop := h 60 17 = zI x.2.1 ∧ h 60 18 = zI (if x.1 = true then 1 else 0) ∧ h 60 20 = zI x.2.2.length ∧ ∀ m, m < x.2.2.length → h 70 m = zI (x.2.2.getD m 0)
theorem MF.rf {h : Mem} : MF h h := ⟨fun _ _ _ => rfl, fun _ _ _ _ => rfl⟩
theorem MF.tr {a b c : Mem} (h1 : MF a b) (h2 : MF b c) : MF a c := ⟨fun q x y => (h2.1 q x y).trans (h1.1 q x y), fun j x y z => (h2.2 j x y z).trans (h1.2 j x y z)⟩
theorem MF.p {h h' : Mem} {i : Nat} {x : Int32} (hi : i = 17 ∨ i = 18 ∨ i = 20) (h1 : MF h h') : MF h (upd2 h' 60 i x) := ⟨fun q a b => (upd2_ne q a).trans (h1.1 q a b), fun j a b c => (u_i (by omega)).trans (h1.2 j a b c)⟩
theorem MF.p70 {h h' : Mem} {i : Nat} {x : Int32} (h1 : MF h h') : MF h (upd2 h' 70 i x) := ⟨fun q a b => (upd2_ne q b).trans (h1.1 q a b), fun j a b c => (congrFun (upd2_ne 60 (by omega)) j).trans (h1.2 j a b c)⟩
theorem MS.mf {h h' : Mem} {ln : Nat} {lt : Nat → Int} (hs : MS h ln lt) (hf : MF h h') : MS h' ln lt := ⟨(hf.2 8 (by omega) (by omega) (by omega)).trans hs.1, fun k hk => by rw [hf.1 66 (by omega) (by omega)]; exact hs.2 k hk⟩
section GP
variable {ln : Nat} {lt : Nat → Int}
theorem nmP_len (x : GS) : (nmP ln lt x).2.2.length = x.2.2.length + 1 := by
  unfold nmP
  split
  · split <;> simp
  · simp
theorem nmP_le {x : GS} (h : x.2.1 ≤ ln) : (nmP ln lt x).2.1 ≤ ln := by
  unfold nmP
  split
  · split
    · rename_i e
      exact (numP_b e).2.2.2.2
    · exact h
  · exact h
theorem tkP_len (c : Bool) (x : GS) : (tkP c x).2.2 = x.2.2 := by
  unfold tkP
  split <;> rfl
theorem hr_lt {i : Nat} (h : 0 ≤ hr ln lt i) : i < ln := by
  apply Decidable.byContradiction
  intro z
  have : hr ln lt i = -1 := if_neg z
  omega
theorem tkP_le {c : Bool} {x : GS} (h : x.2.1 ≤ ln) (hc : c = true → x.2.1 < ln) : (tkP c x).2.1 ≤ ln := by
  unfold tkP
  split
  · rename_i z
    have := hc z.2
    show x.2.1 + 1 ≤ ln
    omega
  · exact h
theorem sgP_le {m : Int} {x : GS} (hm : 0 ≤ m) (h : x.2.1 ≤ ln) : (sgP ln lt m x).2.1 ≤ ln := by
  unfold sgP
  exact nmP_le (tkP_le h fun z => hr_lt (lt := lt) (by rw [decide_eq_true_iff] at z; omega))
theorem sgP_len (m : Int) (x : GS) : (sgP ln lt m x).2.2.length = x.2.2.length + 1 := by
  unfold sgP
  rw [nmP_len, tkP_len]
end GP
section MR
variable {E : XE} {h : Mem} {ln : Nat} {lt : Nat → Int} {i : Nat} {x : GS}
theorem sM_letterAt {Q : Int32 → Mem → Prop} (hl : LB ln lt) (hs : MS h ln lt) (hi : i ≤ 100) (hq : Q (zI (hr ln lt i)) h) : CALLI E mM_letterAt [.ref 60, .int (zI i)] h Q := by
  refine fM_letterAt ?_
  have h96 := hl.1
  rw [hs.1]
  unfold hr at hq
  simp (disch := omega) only [zI_add, zI_sub, zI_mul, zI_neg, zI_lt, zI_le, zI_eq, zI_div, zI_rem, ix_zI, inb_zI, nz_zI, imax_zI, imin_zI, c_t, nb01.1, nb01.2, zl_0, zl_1, zl_2, zl_3, zl_4, zl_5, zl_6, zl_7, zl_8, zl_9, zl_10, zl_11, zl_12, zl_13, zl_14, zl_15, zl_16, zl_17, zl_18, zl_19, zl_20, zl_24, zl_30, zl_31, zl_36, zl_42, zl_44, zl_48, zl_57, zl_58, zl_59, zl_60, zl_61, zl_62, zl_63, zl_64, zl_72, zl_73, zl_96, zl_99, zl_100, zl_104, zl_107, zl_111, zl_114, zl_116, zl_120, zl_200, zl_255, zl_256, zl_360, zl_600, zl_800, zl_1000, zl_2000, Int.toNat_natCast]
  refine ⟨fun z => ?_, fun z => ?_⟩
  · rw [if_neg (by omega)] at hq; exact hq
  · have hlt : i < ln := by omega
    rw [if_pos hlt] at hq
    simp (disch := omega) only [zI_add, zI_sub, zI_mul, zI_neg, zI_lt, zI_le, zI_eq, zI_div, zI_rem, ix_zI, inb_zI, nz_zI, imax_zI, imin_zI, c_t, nb01.1, nb01.2, zl_0, zl_1, zl_2, zl_3, zl_4, zl_5, zl_6, zl_7, zl_8, zl_9, zl_10, zl_11, zl_12, zl_13, zl_14, zl_15, zl_16, zl_17, zl_18, zl_19, zl_20, zl_24, zl_30, zl_31, zl_36, zl_42, zl_44, zl_48, zl_57, zl_58, zl_59, zl_60, zl_61, zl_62, zl_63, zl_64, zl_72, zl_73, zl_96, zl_99, zl_100, zl_104, zl_107, zl_111, zl_114, zl_116, zl_120, zl_200, zl_255, zl_256, zl_360, zl_600, zl_800, zl_1000, zl_2000, Int.toNat_natCast]
    rw [hs.2 i hlt]
    exact hq
theorem sM_isHead {Q : Int32 → Mem → Prop} {c : Int} (hc : -1 ≤ c ∧ c ≤ 255) (hq : Q (zI (if decide (mkL c ≠ []) = true then 1 else 0)) h) : CALLI E mM_isHead [.int (zI c)] h Q := by
  refine fM_isHead ?_
  have h1 : (c = 116 ∨ c = 111 ∨ c = 114 ∨ c = 107 ∨ c = 104 ∨ c = 120) → Q (zI 1) h := fun z => by
    have : mkL c ≠ [] := by rcases z with rfl | rfl | rfl | rfl | rfl | rfl <;> decide
    rw [if_pos (by simpa using this)] at hq
    exact hq
  have h0 : ¬ (c = 116 ∨ c = 111 ∨ c = 114 ∨ c = 107 ∨ c = 104 ∨ c = 120) → Q (zI 0) h := fun z => by
    have : mkL c = [] := by
      apply Decidable.byContradiction
      intro y
      exact z (mkL_ne y)
    rw [if_neg (by simpa using this)] at hq
    exact hq
  simp (disch := omega) only [zI_add, zI_sub, zI_mul, zI_neg, zI_lt, zI_le, zI_eq, zI_div, zI_rem, ix_zI, inb_zI, nz_zI, imax_zI, imin_zI, c_t, nb01.1, nb01.2, zl_0, zl_1, zl_2, zl_3, zl_4, zl_5, zl_6, zl_7, zl_8, zl_9, zl_10, zl_11, zl_12, zl_13, zl_14, zl_15, zl_16, zl_17, zl_18, zl_19, zl_20, zl_24, zl_30, zl_31, zl_36, zl_42, zl_44, zl_48, zl_57, zl_58, zl_59, zl_60, zl_61, zl_62, zl_63, zl_64, zl_72, zl_73, zl_96, zl_99, zl_100, zl_104, zl_107, zl_111, zl_114, zl_116, zl_120, zl_200, zl_255, zl_256, zl_360, zl_600, zl_800, zl_1000, zl_2000]
  exact ⟨fun z => h1 (by omega), fun z => ⟨fun z => h1 (by omega), fun z => ⟨fun z => h1 (by omega), fun z => ⟨fun z => h1 (by omega), fun z => ⟨fun z => h1 (by omega), fun z => ⟨fun z => h0 (by omega), fun z => h1 (by omega)⟩⟩⟩⟩⟩⟩
theorem sM_takes {Q : Mem → Prop} {c : Bool} (hp : MP h x) (hi : x.2.1 ≤ 100) (hq : ∀ h', MF h h' → MP h' (tkP c x) → Q h') : CALLV E mM_takes [.ref 60, .int (zI (if c = true then 1 else 0))] h Q := by
  refine fM_takes ?_
  obtain ⟨b, i, tl⟩ := x
  obtain ⟨p1, p2, p3, p4⟩ := hp
  have fin : ∀ (y d : Int), upd2 (upd2 h 60 18 (zI y)) 60 17 (zI i + zI d) = upd2 (upd2 h 60 18 (zI y)) 60 17 (zI (i + d)) := fun y d => by rw [zI_add]
  have r17 : ∀ y, upd2 h 60 18 y 60 17 = zI i := fun y => (u_i (by omega)).trans p1
  have mk : ∀ (y : Int) (d : Nat) (b' : Bool), y = (if b' = true then 1 else 0) → MP (upd2 (upd2 h 60 18 (zI y)) 60 17 (zI ((i + d : Nat) : Int))) (b', i + d, tl) := fun y d b' e =>
    ⟨u_s, (u_i (by omega)).trans (u_s.trans (congrArg zI e)), (u_i (by omega)).trans ((u_i (by omega)).trans p3), fun m hm => (congrFun ((upd2_ne 70 (by omega)).trans (upd2_ne 70 (by omega))) m).trans (p4 m hm)⟩
  have off : tkP c (b, i, tl) = (false, i, tl) → Q (upd2 (upd2 h 60 18 (zI 0)) 60 17 (zI i + zI 0)) := fun e => by
    have := hq (upd2 (upd2 h 60 18 (zI 0)) 60 17 (zI ((i + 0 : Nat) : Int))) ((MF.rf.p (by omega)).p (by omega)) (by rw [e]; exact mk 0 0 false rfl)
    rw [fin]
    exact this
  have on : tkP c (b, i, tl) = (true, i + 1, tl) → Q (upd2 (upd2 h 60 18 (zI 1)) 60 17 (zI i + zI 1)) := fun e => by
    have := hq (upd2 (upd2 h 60 18 (zI 1)) 60 17 (zI ((i + 1 : Nat) : Int))) ((MF.rf.p (by omega)).p (by omega)) (by rw [e]; exact mk 1 1 true rfl)
    rw [fin]
    exact this
  rw [p2]
  have s0 : upd2 h 60 18 0 60 18 = zI 0 := u_s
  have s1 : upd2 h 60 18 1 60 18 = zI 1 := u_s
  rw [s0, s1, r17, r17]
  cases b with
  | false => exact ⟨fun _ => ⟨fun _ => off rfl, fun z => absurd rfl z⟩, fun z => absurd rfl z⟩
  | true =>
    refine ⟨fun z => absurd z (show ¬ zI 1 = 0 by decide), fun _ => ?_⟩
    cases c with
    | false => exact ⟨fun _ => ⟨fun _ => off rfl, fun z => absurd rfl z⟩, fun z => absurd rfl z⟩
    | true => exact ⟨fun z => absurd z (by decide), fun _ => ⟨fun z => absurd z (by decide), fun _ => on rfl⟩⟩
theorem in_if {P : Prop} [Decidable P] : (if P then (1 : Int) else 0) = if decide P = true then 1 else 0 := by
  by_cases h : P <;> simp [h]
theorem sM_takesNumber {Q : Mem → Prop} (hl : LB ln lt) (hs : MS h ln lt) (hp : MP h x) (hi : x.2.1 ≤ ln) (hk : x.2.2.length < 3) (hq : ∀ h', MF h h' → MP h' (nmP ln lt x) → Q h') : CALLV E mM_takesNumber [.ref 60] h Q := by
  have h96 := hl.1
  refine fM_takesNumber ?_
  obtain ⟨b, i, tl⟩ := x
  have hp0 := hp
  obtain ⟨p1, p2, p3, p4⟩ := hp
  simp only at hi hk p1 p2 p3 p4
  rw [p1]
  have bi := hr_b hl i
  have bi1 := hr_b hl (i + 1)
  refine sM_letterAt hl hs (by omega) ?_
  simp (disch := omega) only [zI_add, zI_sub, zI_mul, zI_neg, zI_lt, zI_le, zI_eq, zI_div, zI_rem, ix_zI, inb_zI, nz_zI, imax_zI, imin_zI, c_t, nb01.1, nb01.2, zl_0, zl_1, zl_2, zl_3, zl_4, zl_5, zl_6, zl_7, zl_8, zl_9, zl_10, zl_11, zl_12, zl_13, zl_14, zl_15, zl_16, zl_17, zl_18, zl_19, zl_20, zl_24, zl_30, zl_31, zl_36, zl_42, zl_44, zl_48, zl_57, zl_58, zl_59, zl_60, zl_61, zl_62, zl_63, zl_64, zl_72, zl_73, zl_96, zl_99, zl_100, zl_104, zl_107, zl_111, zl_114, zl_116, zl_120, zl_200, zl_255, zl_256, zl_360, zl_600, zl_800, zl_1000, zl_2000, zI_L, lg_ltz, lg_gtz, zL_add, zL_sub, zL_mul, zL_div, zL_rem, nzL_zL, zm_0, zm_1, zm_2, zm_5, zm_8, zm_9, zm_15, zm_16, zm_11, zm_20, zm_59, zm_60, zm_96, zm_99, zm_255, zm_600, zm_2147483647, zm_4000000000000000000, zm_3, zm_48, zm_57]
  refine sM_in (by omega) (by omega) (by omega) ?_
  rw [in_if]
  have fin : ∀ (v : Int) (j : Nat) (h1 : Mem) (b' : Bool), MF h h1 → h1 60 17 = zI (j : Nat) → h1 60 18 = zI (if b' = true then 1 else 0) → h1 60 20 = zI tl.length → (∀ m, m < tl.length → h1 70 m = zI (tl.getD m 0)) → nmP ln lt (b, i, tl) = (b', j, tl ++ [v]) →
      cnd (inb (h1 60 20) 3) (Q (upd2 (upd2 h1 70 (ix (h1 60 20)) (zI v)) 60 20 (((upd2 h1 70 (ix (h1 60 20)) (zI v)) 60 20) + 1))) := by
    intro v j h1 b' f1 g17 g18 g20 g70 e
    have e20 : ∀ a, upd2 h1 70 a (zI v) 60 20 = zI tl.length := fun a => (congrFun (upd2_ne 60 (by omega)) 20).trans g20
    rw [g20]
    have hin : inb (zI (tl.length : Int)) 3 = true := inb_zI (by omega) (by omega) (by omega)
    have hix : ix (zI (tl.length : Int)) = tl.length := by rw [ix_zI (by omega) (by omega)]; rfl
    rw [hin, hix, c_t, e20, zl_1, zI_add]
    refine hq _ (f1.p70.p (by omega)) ?_
    rw [e]
    refine ⟨(u_i (by omega)).trans ((congrFun (upd2_ne 60 (by omega)) 17).trans g17), (u_i (by omega)).trans ((congrFun (upd2_ne 60 (by omega)) 18).trans g18), u_s.trans (by simp), fun m hm => ?_⟩
    rw [upd2_ne 70 (by omega)]
    simp only [List.length_append, List.length_singleton] at hm
    by_cases em : m = tl.length
    · rw [em, u_s]; simp
    · rw [u_i em, g70 m (by omega)]
      congr 1
      simp only [List.getD_eq_getElem?_getD]
      rw [List.getElem?_append_left (by omega)]
  refine sM_takes hp0 (by show i ≤ 100; omega) fun h3 f3 m3 => ?_
  have hs3 := hs.mf f3
  have nm0 : nmP ln lt (b, i, tl) = if b = true then (match numP ln lt i with
      | some (v, j) => (true, j, tl ++ [v])
      | none => (false, i, tl ++ [0])) else (false, i, tl ++ [0]) := rfl
  have off : tkP (decide (48 ≤ hr ln lt i ∧ hr ln lt i ≤ 57)) (b, i, tl) = (false, i, tl) → nmP ln lt (b, i, tl) = (false, i, tl ++ [0]) → WP E mM_takesNumber 69 [some (.ref 60), none, some (.int (zI 0)), some (.int (zI i))] [] h3 (qV Q) := by
    intro et en
    rw [et] at m3
    refine fM_takesNumber_69 ?_
    rw [show h3 60 17 = zI i from m3.1]
    exact ⟨fun _ => fin 0 i h3 false f3 m3.1 m3.2.1 m3.2.2.1 m3.2.2.2 en, fun z => absurd ((zI_le (by omega) (by omega) (by omega) (by omega)).mpr (Int.le_refl _)) z⟩
  cases b with
  | false =>
    have et : tkP (decide (48 ≤ hr ln lt i ∧ hr ln lt i ≤ 57)) (false, i, tl) = (false, i, tl) := rfl
    have m3' := m3
    rw [et] at m3'
    rw [show h3 60 18 = zI 0 from m3'.2.1]
    exact ⟨fun _ => off et rfl, fun z => absurd rfl z⟩
  | true =>
    unfold numP isDg at nm0
    by_cases c1 : 48 ≤ hr ln lt i ∧ hr ln lt i ≤ 57
    · have et : tkP (decide (48 ≤ hr ln lt i ∧ hr ln lt i ≤ 57)) (true, i, tl) = (true, i + 1, tl) := if_pos ⟨rfl, by simpa using c1⟩
      have hil : i < ln := hr_lt (lt := lt) (by omega)
      have elt : hr ln lt i = lt i := if_pos hil
      rw [et] at m3
      rw [if_pos rfl, if_pos (by simpa using c1)] at nm0
      rw [show h3 60 18 = zI 1 from m3.2.1, show h3 60 17 = zI ((i + 1 : Nat) : Int) from m3.1]
      have l66 : ∀ (h4 : Mem), MF h h4 → ∀ m, m < ln → h4 66 m = zI (lt m) := fun h4 f4 m hm => (hs.mf f4).2 m hm
      refine ⟨fun z => absurd z (by decide), fun _ => sM_letterAt hl hs3 (by omega) ?_⟩
      simp (disch := omega) only [zI_add, zI_sub, zI_mul, zI_neg, zI_lt, zI_le, zI_eq, zI_div, zI_rem, ix_zI, inb_zI, nz_zI, imax_zI, imin_zI, c_t, nb01.1, nb01.2, zl_0, zl_1, zl_2, zl_3, zl_4, zl_5, zl_6, zl_7, zl_8, zl_9, zl_10, zl_11, zl_12, zl_13, zl_14, zl_15, zl_16, zl_17, zl_18, zl_19, zl_20, zl_24, zl_30, zl_31, zl_36, zl_42, zl_44, zl_48, zl_57, zl_58, zl_59, zl_60, zl_61, zl_62, zl_63, zl_64, zl_72, zl_73, zl_96, zl_99, zl_100, zl_104, zl_107, zl_111, zl_114, zl_116, zl_120, zl_200, zl_255, zl_256, zl_360, zl_600, zl_800, zl_1000, zl_2000, zI_L, lg_ltz, lg_gtz, zL_add, zL_sub, zL_mul, zL_div, zL_rem, nzL_zL, zm_0, zm_1, zm_2, zm_5, zm_8, zm_9, zm_15, zm_16, zm_11, zm_20, zm_59, zm_60, zm_96, zm_99, zm_255, zm_600, zm_2147483647, zm_4000000000000000000, zm_3, zm_48, zm_57]
      refine sM_in (by omega) (by omega) (by omega) ?_
      by_cases c2 : 48 ≤ hr ln lt (i + 1) ∧ hr ln lt (i + 1) ≤ 57
      · have hil1 : i + 1 < ln := hr_lt (lt := lt) (by omega)
        have elt1 : hr ln lt (i + 1) = lt (i + 1) := if_pos hil1
        rw [if_pos (by simpa using c2)] at nm0
        rw [if_pos c2]
        rw [show h3 60 17 = zI ((i + 1 : Nat) : Int) from m3.1]
        refine ⟨fun z => absurd z (by decide), fun _ => ?_⟩
        have f4 : MF h (upd2 h3 60 17 (zI ((i + 1 : Nat) : Int) + zI 1)) := f3.p (by omega)
        have g17 : upd2 h3 60 17 (zI ((i + 1 : Nat) : Int) + zI 1) 60 17 = zI ((i + 2 : Nat) : Int) := u_s.trans (by rw [zI_add]; rfl)
        have g18 : upd2 h3 60 17 (zI ((i + 1 : Nat) : Int) + zI 1) 60 18 = zI 1 := (u_i (by omega)).trans m3.2.1
        have g20 : upd2 h3 60 17 (zI ((i + 1 : Nat) : Int) + zI 1) 60 20 = zI tl.length := (u_i (by omega)).trans m3.2.2.1
        have g70 : ∀ m, m < tl.length → upd2 h3 60 17 (zI ((i + 1 : Nat) : Int) + zI 1) 70 m = zI (tl.getD m 0) := fun m hm => (congrFun (upd2_ne 70 (by omega)) m).trans (m3.2.2.2 m hm)
        generalize upd2 h3 60 17 (zI ((i + 1 : Nat) : Int) + zI 1) = h4 at f4 g17 g18 g20 g70 ⊢
        refine fM_takesNumber_69 ?_
        rw [g17]
        have r1 := l66 _ f4 i hil
        have r2 := l66 _ f4 (i + 1) hil1
        simp (disch := omega) only [zI_add, zI_sub, zI_mul, zI_neg, zI_lt, zI_le, zI_eq, zI_div, zI_rem, ix_zI, inb_zI, nz_zI, imax_zI, imin_zI, c_t, nb01.1, nb01.2, zl_0, zl_1, zl_2, zl_3, zl_4, zl_5, zl_6, zl_7, zl_8, zl_9, zl_10, zl_11, zl_12, zl_13, zl_14, zl_15, zl_16, zl_17, zl_18, zl_19, zl_20, zl_24, zl_30, zl_31, zl_36, zl_42, zl_44, zl_48, zl_57, zl_58, zl_59, zl_60, zl_61, zl_62, zl_63, zl_64, zl_72, zl_73, zl_96, zl_99, zl_100, zl_104, zl_107, zl_111, zl_114, zl_116, zl_120, zl_200, zl_255, zl_256, zl_360, zl_600, zl_800, zl_1000, zl_2000, Int.toNat_natCast, r1]
        refine ⟨fun z => by omega, fun _ => fM_takesNumber_69 ?_⟩
        rw [g17]
        have t1 : ((i : Int) + 1).toNat = i + 1 := by omega
        simp (disch := omega) only [zI_add, zI_sub, zI_mul, zI_neg, zI_lt, zI_le, zI_eq, zI_div, zI_rem, ix_zI, inb_zI, nz_zI, imax_zI, imin_zI, c_t, nb01.1, nb01.2, zl_0, zl_1, zl_2, zl_3, zl_4, zl_5, zl_6, zl_7, zl_8, zl_9, zl_10, zl_11, zl_12, zl_13, zl_14, zl_15, zl_16, zl_17, zl_18, zl_19, zl_20, zl_24, zl_30, zl_31, zl_36, zl_42, zl_44, zl_48, zl_57, zl_58, zl_59, zl_60, zl_61, zl_62, zl_63, zl_64, zl_72, zl_73, zl_96, zl_99, zl_100, zl_104, zl_107, zl_111, zl_114, zl_116, zl_120, zl_200, zl_255, zl_256, zl_360, zl_600, zl_800, zl_1000, zl_2000, t1, r2]
        refine ⟨fun z => by omega, fun _ => fM_takesNumber_69 ?_⟩
        rw [g17, zI_le (by omega) (by omega) (by omega) (by omega)]
        refine ⟨fun _ => fin _ (i + 2) _ true f4 g17 g18 g20 g70 ?_, fun z => by omega⟩
        rw [nm0, elt, elt1]
        simp only [Prod.mk.injEq, true_and, List.append_cancel_left_eq, List.cons.injEq, and_true]
        omega
      · rw [if_neg (by simpa using c2)] at nm0
        rw [if_neg c2]
        refine ⟨fun _ => ?_, fun z => absurd rfl z⟩
        refine fM_takesNumber_69 ?_
        rw [show h3 60 17 = zI ((i + 1 : Nat) : Int) from m3.1]
        have r1 := l66 _ f3 i hil
        simp (disch := omega) only [zI_add, zI_sub, zI_mul, zI_neg, zI_lt, zI_le, zI_eq, zI_div, zI_rem, ix_zI, inb_zI, nz_zI, imax_zI, imin_zI, c_t, nb01.1, nb01.2, zl_0, zl_1, zl_2, zl_3, zl_4, zl_5, zl_6, zl_7, zl_8, zl_9, zl_10, zl_11, zl_12, zl_13, zl_14, zl_15, zl_16, zl_17, zl_18, zl_19, zl_20, zl_24, zl_30, zl_31, zl_36, zl_42, zl_44, zl_48, zl_57, zl_58, zl_59, zl_60, zl_61, zl_62, zl_63, zl_64, zl_72, zl_73, zl_96, zl_99, zl_100, zl_104, zl_107, zl_111, zl_114, zl_116, zl_120, zl_200, zl_255, zl_256, zl_360, zl_600, zl_800, zl_1000, zl_2000, Int.toNat_natCast, r1]
        refine ⟨fun z => by omega, fun _ => fM_takesNumber_69 ?_⟩
        rw [show h3 60 17 = zI ((i + 1 : Nat) : Int) from m3.1, zI_le (by omega) (by omega) (by omega) (by omega)]
        refine ⟨fun _ => fin _ (i + 1) h3 true f3 m3.1 m3.2.1 m3.2.2.1 m3.2.2.2 ?_, fun z => by omega⟩
        rw [nm0, elt]
        simp only [Prod.mk.injEq, true_and, List.append_cancel_left_eq, List.cons.injEq, and_true]
        omega
    · have et : tkP (decide (48 ≤ hr ln lt i ∧ hr ln lt i ≤ 57)) (true, i, tl) = (false, i, tl) := if_neg (by rintro ⟨-, z⟩; exact c1 (by simpa using z))
      rw [if_pos rfl, if_neg (by simpa using c1)] at nm0
      have m3' := m3
      rw [et] at m3'
      rw [show h3 60 18 = zI 0 from m3'.2.1]
      exact ⟨fun _ => off et nm0, fun z => absurd rfl z⟩
theorem sM_sign {Q : Mem → Prop} {m : Int} (hm : 0 ≤ m ∧ m ≤ 255) (hl : LB ln lt) (hs : MS h ln lt) (hp : MP h x) (hi : x.2.1 ≤ ln) (hk : x.2.2.length < 3) (hq : ∀ h', MF h h' → MP h' (sgP ln lt m x) → Q h') : CALLV E mM_takesSignAndNumber [.ref 60, .int (zI m)] h Q := by
  have h96 := hl.1
  refine fM_takesSignAndNumber ?_
  rw [hp.1]
  refine sM_letterAt hl hs (by omega) ?_
  have bi := hr_b hl x.2.1
  rw [zI_eq (by omega) (by omega) (by omega) (by omega)]
  have T := sM_takes (E := E) (c := decide (hr ln lt x.2.1 = m)) (Q := fun h1 => CALLV E mM_takesNumber [.ref 60] h1 fun h3 => Q h3) hp (by omega) fun h1 f1 m1 =>
    sM_takesNumber hl (hs.mf f1) m1 (tkP_le hi fun z => hr_lt (lt := lt) (by rw [decide_eq_true_iff] at z; omega)) (by rw [tkP_len]; exact hk) fun h2 f2 m2 => hq h2 (f1.tr f2) m2
  refine ⟨fun z => ?_, fun z => ?_⟩
  · rw [if_neg (by simpa using z)] at T
    exact T
  · rw [if_pos (by simpa using z)] at T
    exact T
def g1P (ln : Nat) (lt : Nat → Int) (i : Nat) : GS := nmP ln lt (tkP (decide (mkL (hr ln lt i) ≠ [])) (true, i, []))
def g2P (ln : Nat) (lt : Nat → Int) (i : Nat) : GS := if hr ln lt i = 116 ∨ hr ln lt i = 104 then sgP ln lt 44 (g1P ln lt i) else g1P ln lt i
def g3P (ln : Nat) (lt : Nat → Int) (i : Nat) : GS := if hr ln lt i = 111 ∨ hr ln lt i = 114 ∨ hr ln lt i = 107 ∨ hr ln lt i = 104 then sgP ln lt 61 (g2P ln lt i) else g2P ln lt i
def g4P (ln : Nat) (lt : Nat → Int) (i : Nat) : GS := if hr ln lt i = 116 ∨ hr ln lt i = 107 then sgP ln lt 44 (g3P ln lt i) else g3P ln lt i
theorem goP_eq : goP ln lt i = tkP (decide (hr ln lt (g4P ln lt i).2.1 = 59)) (g4P ln lt i) := rfl
theorem g1P_f (hi : i ≤ ln) : (g1P ln lt i).2.1 ≤ ln ∧ (g1P ln lt i).2.2.length = 1 := by
  refine ⟨nmP_le (tkP_le hi fun z => hr_lt (lt := lt) ?_), by unfold g1P; rw [nmP_len, tkP_len]; rfl⟩
  rw [decide_eq_true_iff] at z
  have := mkL_ne z
  show 0 ≤ hr ln lt i
  omega
theorem g2P_f (hi : i ≤ ln) : (g2P ln lt i).2.1 ≤ ln ∧ (g2P ln lt i).2.2.length = if hr ln lt i = 116 ∨ hr ln lt i = 104 then 2 else 1 := by
  have b := g1P_f (lt := lt) hi
  unfold g2P
  split
  · exact ⟨sgP_le (by omega) b.1, by rw [sgP_len, b.2]⟩
  · exact b
theorem g3P_f (hi : i ≤ ln) : (g3P ln lt i).2.1 ≤ ln ∧ (g3P ln lt i).2.2.length < if hr ln lt i = 116 ∨ hr ln lt i = 107 then 3 else 4 := by
  have b := g2P_f (lt := lt) hi
  unfold g3P
  split
  · refine ⟨sgP_le (by omega) b.1, ?_⟩
    rw [sgP_len, b.2]
    split <;> split <;> omega
  · refine ⟨b.1, ?_⟩
    rw [b.2]
    split <;> split <;> omega
theorem g4P_f (hi : i ≤ ln) : (g4P ln lt i).2.1 ≤ ln := by
  have b := g3P_f (lt := lt) hi
  unfold g4P
  split
  · exact sgP_le (by omega) b.1
  · exact b.1
theorem sM_goesThrough {Q : Mem → Prop} (hl : LB ln lt) (hs : MS h ln lt) (hp : h 60 17 = zI i ∧ h 60 18 = zI 1) (hi : i ≤ ln) (hq : ∀ h', MF h h' → MP h' (goP ln lt i) → Q h') : CALLV E mM_goesThrough [.ref 60] h Q := by
  have h96 := hl.1
  refine fM_goesThrough ?_
  rw [show h 60 17 = zI i from hp.1]
  have bi := hr_b hl i
  refine sM_letterAt hl hs (by omega) (sM_isHead bi ?_)
  have p0 : MP (upd2 h 60 20 0) (true, i, []) := ⟨(u_i (by omega)).trans hp.1, (u_i (by omega)).trans hp.2, u_s, fun m hm => absurd hm (Nat.not_lt_zero m)⟩
  have f0 : MF h (upd2 h 60 20 0) := MF.rf.p (by omega)
  refine sM_takes p0 (by show i ≤ 100; omega) fun h1 f1 m1 => ?_
  have f1 := f0.tr f1
  have b1 := g1P_f (lt := lt) hi
  have b2 := g2P_f (lt := lt) hi
  have b3 := g3P_f (lt := lt) hi
  have b4 := g4P_f (lt := lt) hi
  refine sM_takesNumber hl (hs.mf f1) m1 (tkP_le hi fun z => hr_lt (lt := lt) (by
    rw [decide_eq_true_iff] at z
    have := mkL_ne z
    show 0 ≤ hr ln lt i
    omega)) (by rw [tkP_len]; exact Nat.zero_lt_succ _) fun h2 f2 m2 => ?_
  have f2 := f1.tr f2
  have m2 : MP h2 (g1P ln lt i) := m2
  have end4 : ∀ h4, MF h h4 → MP h4 (g4P ln lt i) → CALLI E mM_letterAt [.ref 60, .int (h4 60 17)] h4 fun v2 h2 => (¬ v2 = 59 → CALLV E mM_takes [.ref 60, .int 0] h2 fun h3 => Q h3) ∧ (v2 = 59 → CALLV E mM_takes [.ref 60, .int 1] h2 fun h4 => Q h4) := by
    intro h4 f4 m4
    rw [m4.1]
    refine sM_letterAt hl (hs.mf f4) (by omega) ?_
    have b5 := hr_b hl (g4P ln lt i).2.1
    have T := sM_takes (E := E) (c := decide (hr ln lt (g4P ln lt i).2.1 = 59)) (Q := fun h3 => Q h3) m4 (by omega) fun h1 f1 m1 => hq h1 (f4.tr f1) m1
    rw [show (59 : Int32) = zI 59 from rfl, zI_eq (by omega) (by omega) (by omega) (by omega)]
    refine ⟨fun z => ?_, fun z => ?_⟩
    · rw [if_neg (by simpa using z)] at T
      exact T
    · rw [if_pos (by simpa using z)] at T
      exact T
  have s74 : ∀ h3, MF h h3 → MP h3 (g3P ln lt i) → WP E mM_goesThrough 74 [some (.ref 60), some (.int (zI (hr ln lt i)))] [] h3 (qV Q) := by
    intro h3 f3 m3
    refine fM_goesThrough_74 ?_
    have on : (hr ln lt i = 116 ∨ hr ln lt i = 107) → CALLV E mM_takesSignAndNumber [.ref 60, .int 44] h3 fun h8 => CALLI E mM_letterAt [.ref 60, .int (h8 60 17)] h8 fun v9 h9 => (¬ v9 = 59 → CALLV E mM_takes [.ref 60, .int 0] h9 fun h10 => Q h10) ∧ (v9 = 59 → CALLV E mM_takes [.ref 60, .int 1] h9 fun h11 => Q h11) := fun z => by
      have b3' := b3.2
      rw [if_pos z] at b3'
      refine sM_sign (m := 44) (by omega) hl (hs.mf f3) m3 b3.1 b3' fun h4 f4 m4 => end4 h4 (f3.tr f4) ?_
      unfold g4P
      rw [if_pos z]
      exact m4
    rw [show (116 : Int32) = zI 116 from rfl, show (107 : Int32) = zI 107 from rfl, zI_eq (by omega) (by omega) (by omega) (by omega), zI_eq (by omega) (by omega) (by omega) (by omega)]
    refine ⟨fun z => on (Or.inl z), fun z => ⟨fun z2 => end4 h3 f3 ?_, fun z2 => on (Or.inr z2)⟩⟩
    unfold g4P
    rw [if_neg (by omega)]
    exact m3
  have s44 : ∀ h3, MF h h3 → MP h3 (g2P ln lt i) → WP E mM_goesThrough 44 [some (.ref 60), some (.int (zI (hr ln lt i)))] [] h3 (qV Q) := by
    intro h3 f3 m3
    refine fM_goesThrough_44 ?_
    have on : (hr ln lt i = 111 ∨ hr ln lt i = 114 ∨ hr ln lt i = 107 ∨ hr ln lt i = 104) → CALLV E mM_takesSignAndNumber [.ref 60, .int 61] h3 fun h1 => WP E mM_goesThrough 74 [some (.ref 60), some (.int (zI (hr ln lt i)))] [] h1 (qV Q) := fun z => by
      have b2' := b2.2
      refine sM_sign (m := 61) (by omega) hl (hs.mf f3) m3 b2.1 (by rw [b2']; split <;> omega) fun h4 f4 m4 => s74 h4 (f3.tr f4) ?_
      unfold g3P
      rw [if_pos z]
      exact m4
    simp (disch := omega) only [zI_add, zI_sub, zI_mul, zI_neg, zI_lt, zI_le, zI_eq, zI_div, zI_rem, ix_zI, inb_zI, nz_zI, imax_zI, imin_zI, c_t, nb01.1, nb01.2, zl_0, zl_1, zl_2, zl_3, zl_4, zl_5, zl_6, zl_7, zl_8, zl_9, zl_10, zl_11, zl_12, zl_13, zl_14, zl_15, zl_16, zl_17, zl_18, zl_19, zl_20, zl_24, zl_30, zl_31, zl_36, zl_42, zl_44, zl_48, zl_57, zl_58, zl_59, zl_60, zl_61, zl_62, zl_63, zl_64, zl_72, zl_73, zl_96, zl_99, zl_100, zl_104, zl_107, zl_111, zl_114, zl_116, zl_120, zl_200, zl_255, zl_256, zl_360, zl_600, zl_800, zl_1000, zl_2000]
    refine ⟨fun z => on (by omega), fun z => ⟨fun z2 => on (by omega), fun z2 => ⟨fun z3 => on (by omega), fun z3 => ⟨fun z4 => s74 h3 f3 ?_, fun z4 => on (by omega)⟩⟩⟩⟩
    unfold g3P
    rw [if_neg (by omega)]
    exact m3
  have on : (hr ln lt i = 116 ∨ hr ln lt i = 104) → CALLV E mM_takesSignAndNumber [.ref 60, .int 44] h2 fun h5 => WP E mM_goesThrough 44 [some (.ref 60), some (.int (zI (hr ln lt i)))] [] h5 (qV Q) := fun z => by
    refine sM_sign (m := 44) (by omega) hl (hs.mf f2) m2 b1.1 (by rw [b1.2]; omega) fun h4 f4 m4 => s44 h4 (f2.tr f4) ?_
    unfold g2P
    rw [if_pos z]
    exact m4
  simp (disch := omega) only [zI_add, zI_sub, zI_mul, zI_neg, zI_lt, zI_le, zI_eq, zI_div, zI_rem, ix_zI, inb_zI, nz_zI, imax_zI, imin_zI, c_t, nb01.1, nb01.2, zl_0, zl_1, zl_2, zl_3, zl_4, zl_5, zl_6, zl_7, zl_8, zl_9, zl_10, zl_11, zl_12, zl_13, zl_14, zl_15, zl_16, zl_17, zl_18, zl_19, zl_20, zl_24, zl_30, zl_31, zl_36, zl_42, zl_44, zl_48, zl_57, zl_58, zl_59, zl_60, zl_61, zl_62, zl_63, zl_64, zl_72, zl_73, zl_96, zl_99, zl_100, zl_104, zl_107, zl_111, zl_114, zl_116, zl_120, zl_200, zl_255, zl_256, zl_360, zl_600, zl_800, zl_1000, zl_2000]
  refine ⟨fun z => on (Or.inl z), fun z => ⟨fun z2 => s44 h2 f2 ?_, fun z2 => on (Or.inr z2)⟩⟩
  unfold g2P
  rw [if_neg (by omega)]
  exact m2
end MR
