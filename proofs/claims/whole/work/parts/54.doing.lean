/-! ===== a statement done ===== -/
def doS (w : Int → Int) (c : Int) (l : List Int) : Option (Int → Int) :=
  if c = 116 then (if ((1 ≤ l.getD 0 0 ∧ l.getD 0 0 ≤ 20) ∧ (2 ≤ l.getD 1 0 ∧ l.getD 1 0 ≤ 60) ∧ 1 ≤ l.getD 2 0 ∧ l.getD 2 0 ≤ 60) ∧ w 72 < 6 then some (addW w (l.getD 0 0) (l.getD 1 0) (l.getD 2 0)) else none)
  else if ¬ (0 ≤ l.getD 0 0 ∧ l.getD 0 0 < w 72) then none
  else if c = 104 then (if l.getD 1 0 < 4 ∧ l.getD 2 0 ≤ 9 then some (fset w (48 + 4 * l.getD 0 0 + l.getD 1 0) (l.getD 2 0)) else none)
  else if c = 107 then (if l.getD 1 0 ≤ 5 ∧ l.getD 2 0 ≤ 9 then some (kset w (l.getD 0 0) (l.getD 1 0) (l.getD 2 0)) else none)
  else if c = 111 then (if l.getD 1 0 ≤ 59 then some (fset w (18 + l.getD 0 0) (l.getD 1 0)) else none)
  else if c = 114 then (if l.getD 1 0 ≤ 9 then some (fset w (24 + l.getD 0 0) (l.getD 1 0)) else none)
  else some (sw w (l.getD 0 0))
def okL (c : Int) (l : List Int) : Prop := mkL c ≠ [] ∧ l.length = (mkL c).length ∧ ∀ v ∈ l, 0 ≤ v ∧ v ≤ 99
theorem okL.v {c : Int} {l : List Int} (h : okL c l) (m : Nat) : 0 ≤ l.getD m 0 ∧ l.getD m 0 ≤ 99 := by
  simp only [List.getD_eq_getElem?_getD]
  cases e : l[m]? with
  | none => simp
  | some v => exact h.2.2 v (List.mem_of_getElem? e)
theorem okL.n {c : Int} {l : List Int} (h : okL c l) : (c = 116 ∧ l.length = 3) ∨ ((c = 111 ∨ c = 114) ∧ l.length = 2) ∨ (c = 107 ∧ l.length = 3) ∨ (c = 104 ∧ l.length = 3) ∨ (c = 120 ∧ l.length = 1) := by
  have hc := mkL_ne h.1
  have hl := h.2.1
  rcases hc with rfl | rfl | rfl | rfl | rfl | rfl
  all_goals
    have : l.length = _ := hl
    simp [mkL] at this
    omega
theorem C20.fs {w : Int → Int} (hc : C20 w) {j v : Int} (h : 6 ≤ j ∧ j ≠ 72) (hn : w 72 ≤ 6) : C20 (fset w j v) := fun i i0 i1 => by
  rw [fs_ne (by omega)] at i1
  rw [fs_ne (by omega)]
  exact hc i i0 i1
theorem doS_wf {w w' : Int → Int} {c : Int} {l : List Int} (hw : WF w) (hc : C20 w) (hl : okL c l) (e : doS w c l = some w') : WF w' ∧ C20 w' := by
  have hn := hw.1
  have v0 := hl.v 0
  have v1 := hl.v 1
  have v2 := hl.v 2
  unfold doS at e
  split at e
  · split at e
    · rename_i x
      simp only [Option.some.injEq] at e
      subst e
      refine ⟨hw.adw x.2 (by omega) (by omega) (by omega), fun i i0 i1 => ?_⟩
      rw [aw_n ⟨hn.1, x.2⟩] at i1
      by_cases ei : i = w 72
      · rw [ei, aw_c]; omega
      · rw [aw_o ei (by omega) (by omega) (by omega) (by omega) (by omega) (by omega) (by omega) (by omega) (by omega)]
        exact hc i i0 (by omega)
    · cases e
  · split at e
    · cases e
    · rename_i x
      have x : 0 ≤ l.getD 0 0 ∧ l.getD 0 0 < w 72 := Decidable.of_not_not x
      split at e
      · split at e
        · simp only [Option.some.injEq] at e
          subst e
          exact ⟨hw.put x.1 x.2 (by omega), hc.fs (by omega) hn.2⟩
        · cases e
      · split at e
        · split at e
          · simp only [Option.some.injEq] at e
            subst e
            exact ⟨hw.kst x.1 x.2 (by omega) (by omega), (hc.fs (by omega) hn.2).fs (by omega) (by rw [fs_ne (by omega)]; exact hn.2)⟩
          · cases e
        · split at e
          · split at e
            · simp only [Option.some.injEq] at e
              subst e
              exact ⟨hw.put x.1 x.2 (by omega), hc.fs (by omega) hn.2⟩
            · cases e
          · split at e
            · split at e
              · simp only [Option.some.injEq] at e
                subst e
                exact ⟨hw.put x.1 x.2 (by omega), hc.fs (by omega) hn.2⟩
              · cases e
            · simp only [Option.some.injEq] at e
              subst e
              exact ⟨hw.swt x.1 x.2, hc.fs (by omega) hn.2⟩
section DO
variable {E : XE} {h : Mem} {w : Int → Int} {c : Int} {l : List Int} {Q : Int32 → Mem → Prop}
theorem sTE_put {a n : Nat} {i v most : Int} (hn : (a = 19 ∨ a = 20) ∧ n = 6 ∨ a = 23 ∧ n = 24) (i0 : 0 ≤ i) (i1 : i < n) (hv : 0 ≤ v ∧ v ≤ 99) (hm : 0 ≤ most ∧ most ≤ 99) (h1 : v ≤ most → Q 1 (upd2 h a i.toNat (zI v))) (h0 : most < v → Q 0 h) : CALLI E mTE_put [.ref a, .int (zI i), .int (zI v), .int (zI most)] h Q := by
  have ha : a = 19 ∨ a = 20 ∨ a = 23 := by omega
  have hs : ∀ P : Nat → Prop, P n → shN a 0 P := by
    intro P hP
    rcases hn with ⟨rfl | rfl, rfl⟩ | ⟨rfl, rfl⟩ <;> exact hP
  refine fTE_put ha ?_
  have z0 : ∀ x : Int, 0 ≤ x → x < 1000 → ¬ zI x < 0 := fun x a b => by rw [zl_0, zI_lt (by omega) (by omega) (by omega) (by omega)]; omega
  have hnl : ¬ nI n ≤ zI i := by rw [nI_zI, zI_le (by omega) (by omega) (by omega) (by omega)]; omega
  have hin : inb (zI i) n = true := inb_zI (by omega) (by omega) (by omega)
  have hix : ix (zI i) = i.toNat := ix_zI (by omega) (by omega)
  have hle : zI v ≤ zI most ↔ v ≤ most := zI_le (by omega) (by omega) (by omega) (by omega)
  refine ⟨fun z => absurd z (z0 i (by omega) (by omega)), fun _ => hs _ ⟨fun z => absurd z hnl, fun _ => ⟨fun z => absurd z (z0 v (by omega) (by omega)), fun _ => ⟨fun z => hs _ ?_, fun z => h0 (by rw [hle] at z; omega)⟩⟩⟩⟩
  show cnd (inb (zI i) n) _
  rw [hin, hix, c_t]
  exact h1 (hle.mp z)
theorem sTE_putKind {t k f : Int} {p : Nat} (hp : isP p) (hd : DW h p w) (hw : WF w) (t0 : 0 ≤ t) (t1 : t < w 72) (hk : 0 ≤ k ∧ k ≤ 99) (hf : 0 ≤ f ∧ f ≤ 99) (h1 : k ≤ 5 → f ≤ 9 → ∀ h', DW h' p (kset w t k f) → AF h h' p → Q 1 h') (h0 : ¬ (k ≤ 5 ∧ f ≤ 9) → Q 0 h) : CALLI E mTE_putKind [.ref p, .int (zI t), .int (zI k), .int (zI f)] h Q := by
  refine fTE_putKind hp ?_
  have b := hw.at t0 t1
  simp (disch := omega) only [zI_add, zI_sub, zI_mul, zI_neg, zI_lt, zI_le, zI_eq, zI_div, zI_rem, ix_zI, inb_zI, nz_zI, imax_zI, imin_zI, c_t, nb01.1, nb01.2, zl_0, zl_1, zl_2, zl_3, zl_4, zl_5, zl_6, zl_7, zl_8, zl_9, zl_10, zl_11, zl_12, zl_13, zl_14, zl_15, zl_16, zl_17, zl_18, zl_19, zl_20, zl_24, zl_30, zl_31, zl_36, zl_42, zl_44, zl_48, zl_57, zl_58, zl_59, zl_60, zl_61, zl_62, zl_63, zl_64, zl_72, zl_73, zl_96, zl_99, zl_100, zl_104, zl_107, zl_111, zl_114, zl_116, zl_120, zl_200, zl_255, zl_256, zl_360, zl_600, zl_800, zl_1000, zl_2000]
  refine ⟨fun z => h0 (by omega), fun z => ⟨fun z2 => sD_setKind (per := w (6 + t)) (ddl := w (12 + t)) hp t0 b.1 (by omega) (by omega) (hd.r2 t0 t1) (hd.r3 t0 t1) (by omega) (by omega) fun h' kf => h1 (by omega) z2 h' (kf.dw hd hw t0 t1) fun q hq => kf.1 q (by omega), fun z2 => h0 (by omega)⟩⟩
theorem sTE_carryOut (hd : DW h 15 w) (hw : WF w) (hl : okL c l) (e3 : h 55 3 = zI c) (ev : ∀ m, m < l.length → h 57 m = zI (l.getD m 0)) (h0 : doS w c l = none → Q 0 h) (h1 : ∀ w', doS w c l = some w' → ∀ h', DW h' 15 w' → AF h h' 15 → Q 1 h') : CALLI E mTE_carryOut [.ref 55, .ref 15] h Q := by
  have hn := hw.1
  have v0 := hl.v 0
  have v1 := hl.v 1
  have v2 := hl.v 2
  have hc := hl.n
  refine fTE_carryOut (Or.inr (Or.inl rfl)) ?_
  have x0 : h 57 (ix 0) = zI (l.getD 0 0) := ev 0 (by omega)
  have r58 : Q 0 h → WP E mTE_carryOut 58 [none, none, none, none, none] [] h (qI Q) := fun q => fTE_carryOut_58 (fTE_carryOut_59 q)
  have r177 : Q 0 h → WP E mTE_carryOut 177 [none, none, none, none, none] [] h (qI Q) := fun q => fTE_carryOut_177 (fTE_carryOut_178 q)
  unfold doS at h0 h1
  rw [e3, x0]
  by_cases c116 : c = 116
  · rw [if_pos c116] at h0 h1
    refine ⟨fun z => absurd (by rw [c116]; rfl) z, fun _ => ?_⟩
    have x1 : h 57 (ix 1) = zI (l.getD 1 0) := ev 1 (by omega)
    have x2 : h 57 (ix 2) = zI (l.getD 2 0) := ev 2 (by omega)
    rw [x1, x2]
    refine sD_canBe (by unfold I32; omega) (by unfold I32; omega) (by unfold I32; omega) (fun y => ?_) (fun y => ?_)
    · unfold canI at y
      refine ⟨fun z => absurd z (by decide), fun _ => ?_⟩
      by_cases c6 : w 72 < 6
      · rw [if_pos ⟨y, c6⟩] at h1
        refine sD_add (Or.inr (Or.inl rfl)) hd hw c6 y.1 y.2.1 y.2.2 fun h' d f => ⟨fun z => ?_, fun _ => fTE_carryOut_59 (h1 _ rfl h' d f)⟩
        rw [show (-9 : Int32) = zI (-9) from rfl, zI_eq (by omega) (by omega) (by omega) (by omega)] at z
        omega
      · rw [if_neg (fun y2 => c6 y2.2)] at h0
        refine fD_add (Or.inr (Or.inl rfl)) (sD_isFull (Or.inr (Or.inl rfl)) hd hw ?_)
        rw [if_neg c6]
        exact ⟨fun z => absurd z (by decide), fun _ => ⟨fun _ => r58 (h0 rfl), fun z => absurd rfl z⟩⟩
    · unfold canI at y
      rw [if_neg (fun y2 => y y2.1)] at h0
      exact ⟨fun _ => r58 (h0 rfl), fun z => absurd rfl z⟩
  · rw [if_neg c116] at h0 h1
    refine ⟨fun _ => ?_, fun z => absurd ((zI_eq (by omega) (by omega) (by omega) (by omega)).mp z) c116⟩
    refine sD_has (Or.inr (Or.inl rfl)) hd hw (by omega) ?_
    by_cases ct : 0 ≤ l.getD 0 0 ∧ l.getD 0 0 < w 72
    · rw [if_pos ct]
      rw [if_neg (fun z => z ct)] at h0 h1
      refine ⟨fun _ => ?_, fun z => absurd z (by decide)⟩
      rw [e3, of_zI, of_zI, of_zI, of_zI]
      refine ⟨fun z => ?_, fun z104 => ⟨fun z => ?_, fun z107 => ⟨fun z => ?_, fun z111 => ⟨fun z => ?_, fun z114 => ?_⟩⟩⟩⟩
      · have ec : c = 104 := (zI_eq (by omega) (by omega) (by omega) (by omega)).mp z
        rw [if_pos ec] at h0 h1
        have x1 : h 57 (ix 1) = zI (l.getD 1 0) := ev 1 (by omega)
        have x2 : h 57 (ix 2) = zI (l.getD 2 0) := ev 2 (by omega)
        rw [x1, x2]
        rw [show (4 : Int32) = zI 4 from rfl, zI_le (by omega) (by omega) (by omega) (by omega)]
        refine ⟨fun z4 => ?_, fun z4 => ?_⟩
        · rw [if_neg (by omega)] at h0
          exact r177 (h0 rfl)
        · rw [zI_mul, zI_add]
          refine sTE_put (a := 23) (n := 24) (most := 9) (by omega) (by omega) (by omega) v2 (by omega) (fun y => ?_) (fun y => ?_)
          · rw [if_pos (by omega)] at h1
            refine ⟨fun z => absurd z (by decide), fun _ => fTE_carryOut_178 (h1 _ rfl _ ?_ fun q hq => upd2_ne q (by omega))⟩
            exact hd.hold hw ct.1 ct.2 v1.1 (by omega)
          · rw [if_neg (by omega)] at h0
            exact ⟨fun _ => r177 (h0 rfl), fun z => absurd rfl z⟩
      · have ec : c = 107 := (zI_eq (by omega) (by omega) (by omega) (by omega)).mp z
        rw [if_neg (by omega), if_pos ec] at h0 h1
        have x1 : h 57 (ix 1) = zI (l.getD 1 0) := ev 1 (by omega)
        have x2 : h 57 (ix 2) = zI (l.getD 2 0) := ev 2 (by omega)
        rw [x1, x2]
        refine sTE_putKind (Or.inr (Or.inl rfl)) hd hw ct.1 ct.2 v1 v2 (fun y1 y2 h' d f => ?_) (fun y => ?_)
        · rw [if_pos ⟨y1, y2⟩] at h1
          exact h1 _ rfl h' d f
        · rw [if_neg y] at h0
          exact h0 rfl
      · have ec : c = 111 := (zI_eq (by omega) (by omega) (by omega) (by omega)).mp z
        rw [if_neg (by omega), if_neg (by omega), if_pos ec] at h0 h1
        have x1 : h 57 (ix 1) = zI (l.getD 1 0) := ev 1 (by omega)
        rw [x1]
        refine sTE_put (a := 19) (n := 6) (most := 59) (by omega) (by omega) (by omega) v1 (by omega) (fun y => ?_) (fun y => ?_)
        · rw [if_pos y] at h1
          exact h1 _ rfl _ (hd.put (r := 4) hw (by omega) ct.1 ct.2) fun q hq => upd2_ne q (by omega)
        · rw [if_neg (by omega)] at h0
          exact h0 rfl
      · have ec : c = 114 := (zI_eq (by omega) (by omega) (by omega) (by omega)).mp z
        rw [if_neg (by omega), if_neg (by omega), if_neg (by omega), if_pos ec] at h0 h1
        have x1 : h 57 (ix 1) = zI (l.getD 1 0) := ev 1 (by omega)
        rw [x1]
        refine sTE_put (a := 20) (n := 6) (most := 9) (by omega) (by omega) (by omega) v1 (by omega) (fun y => ?_) (fun y => ?_)
        · rw [if_pos y] at h1
          exact h1 _ rfl _ (hd.put (r := 5) hw (by omega) ct.1 ct.2) fun q hq => upd2_ne q (by omega)
        · rw [if_neg (by omega)] at h0
          exact h0 rfl
      · rw [zI_eq (by omega) (by omega) (by omega) (by omega)] at z104 z107 z111 z114
        rw [if_neg z104, if_neg z107, if_neg z111, if_neg z114] at h1
        exact sD_toggle (Or.inr (Or.inl rfl)) hd hw ct.1 ct.2 fun h' d f => h1 _ rfl h' d fun q hq => f q (by omega)
    · rw [if_neg ct]
      rw [if_pos ct] at h0
      exact ⟨fun z => absurd rfl z, fun _ => h0 rfl⟩
theorem sM_becomes {j v most : Int} (hm : RW (h 61) w) (j0 : 0 ≤ j) (j1 : j < 73) (hv : 0 ≤ v ∧ v ≤ 99) (hmo : 0 ≤ most ∧ most ≤ 99) (h1 : v ≤ most → ∀ h', RW (h' 61) (fset w j v) → (∀ q, q ≠ 61 → h' q = h q) → Q 1 h') (h0 : ¬ v ≤ most → Q 0 h) : CALLI E mM_becomes [.ref 60, .int (zI j), .int (zI v), .int (zI most)] h Q := by
  refine fM_becomes ?_
  simp (disch := omega) only [zI_add, zI_sub, zI_mul, zI_neg, zI_lt, zI_le, zI_eq, zI_div, zI_rem, ix_zI, inb_zI, nz_zI, imax_zI, imin_zI, c_t, nb01.1, nb01.2, zl_0, zl_1, zl_2, zl_3, zl_4, zl_5, zl_6, zl_7, zl_8, zl_9, zl_10, zl_11, zl_12, zl_13, zl_14, zl_15, zl_16, zl_17, zl_18, zl_19, zl_20, zl_24, zl_30, zl_31, zl_36, zl_42, zl_44, zl_48, zl_57, zl_58, zl_59, zl_60, zl_61, zl_62, zl_63, zl_64, zl_72, zl_73, zl_96, zl_99, zl_100, zl_104, zl_107, zl_111, zl_114, zl_116, zl_120, zl_200, zl_255, zl_256, zl_360, zl_600, zl_800, zl_1000, zl_2000]
  exact ⟨fun z => h1 z _ (hm.up j0 j1) fun q hq => upd2_ne q hq, fun z => h0 z⟩
theorem sM_does (hm : RW (h 61) w) (hw : WF w) (hl : okL c l) (ev : ∀ m, m < l.length → h 70 m = zI (l.getD m 0)) (h0 : doS w c l = none → ∀ h', (∀ q, q ≠ 61 → h' q = h q) → Q 0 h') (h1 : ∀ w', doS w c l = some w' → ∀ h', RW (h' 61) w' → (∀ q, q ≠ 61 → h' q = h q) → Q 1 h') : CALLI E mM_does [.ref 60, .int (zI c)] h Q := by
  have hn := hw.1
  have v0 := hl.v 0
  have v1 := hl.v 1
  have v2 := hl.v 2
  have hc := hl.n
  refine fM_does ?_
  have x0 : h 70 (ix 0) = zI (l.getD 0 0) := ev 0 (by omega)
  have r56 : ∀ h', Q 0 h' → WP E mM_does 56 [none, none, none] [] h' (qI Q) := fun h' q => fM_does_56 (fM_does_57 q)
  have r198 : ∀ h', Q 0 h' → WP E mM_does 198 [none, none, none] [] h' (qI Q) := fun h' q => fM_does_198 (fM_does_199 q)
  have r242 : ∀ h', Q 0 h' → WP E mM_does 242 [none, none, none] [] h' (qI Q) := fun h' q => fM_does_242 (fM_does_243 q)
  unfold doS at h0 h1
  rw [x0]
  by_cases c116 : c = 116
  · rw [if_pos c116] at h0 h1
    refine ⟨fun z => absurd (by rw [c116]; rfl) z, fun _ => ?_⟩
    have x1 : h 70 (ix 1) = zI (l.getD 1 0) := ev 1 (by omega)
    have x2 : h 70 (ix 2) = zI (l.getD 2 0) := ev 2 (by omega)
    rw [x1, x2]
    refine sM_isTaskTold (by unfold I32; omega) (by unfold I32; omega) (by unfold I32; omega) (fun y => ?_) (fun y => ?_)
    · unfold canI at y
      rw [x1, x2]
      refine ⟨fun z => absurd z (by decide), fun _ => sM_comes hm hw (fun c6 => ?_) (fun c6 h' r f => ?_)⟩
      · rw [if_neg (by omega)] at h0
        exact ⟨fun _ => r56 h (h0 rfl h fun _ _ => rfl), fun z => absurd rfl z⟩
      · rw [if_pos ⟨y, c6⟩] at h1
        exact ⟨fun z => absurd z (by decide), fun _ => fM_does_57 (h1 _ rfl h' r f)⟩
    · unfold canI at y
      rw [if_neg (fun y2 => y y2.1)] at h0
      exact ⟨fun _ => r56 h (h0 rfl h fun _ _ => rfl), fun z => absurd rfl z⟩
  · rw [if_neg c116] at h0 h1
    refine ⟨fun _ => ?_, fun z => absurd ((zI_eq (by omega) (by omega) (by omega) (by omega)).mp z) c116⟩
    refine sM_isTask hm hw (by omega) ?_
    by_cases ct : 0 ≤ l.getD 0 0 ∧ l.getD 0 0 < w 72
    · rw [if_pos ct]
      rw [if_neg (fun z => z ct)] at h0 h1
      refine ⟨fun _ => ?_, fun z => absurd z (by decide)⟩
      rw [of_zI, of_zI, of_zI, of_zI]
      refine ⟨fun z => ?_, fun z104 => ⟨fun z => ?_, fun z107 => ⟨fun z => ?_, fun z111 => ⟨fun z => ?_, fun z114 => ?_⟩⟩⟩⟩
      · have ec : c = 104 := (zI_eq (by omega) (by omega) (by omega) (by omega)).mp z
        rw [if_pos ec] at h0 h1
        have x1 : h 70 (ix 1) = zI (l.getD 1 0) := ev 1 (by omega)
        have x2 : h 70 (ix 2) = zI (l.getD 2 0) := ev 2 (by omega)
        rw [x1, x2]
        rw [show (4 : Int32) = zI 4 from rfl, zI_le (by omega) (by omega) (by omega) (by omega)]
        refine ⟨fun z4 => ?_, fun z4 => ?_⟩
        · rw [if_neg (by omega)] at h0
          exact r242 h (h0 rfl h fun _ _ => rfl)
        · rw [show (48 : Int32) = zI 48 from rfl, zI_mul, zI_add, zI_add]
          refine sM_becomes (most := 9) hm (by omega) (by omega) v2 (by omega) (fun y h' r f => ?_) (fun y => ?_)
          · rw [if_pos (by omega)] at h1
            exact ⟨fun z => absurd z (by decide), fun _ => fM_does_243 (h1 _ rfl h' r f)⟩
          · rw [if_neg (by omega)] at h0
            exact ⟨fun _ => r242 h (h0 rfl h fun _ _ => rfl), fun z => absurd rfl z⟩
      · have ec : c = 107 := (zI_eq (by omega) (by omega) (by omega) (by omega)).mp z
        rw [if_neg (by omega), if_pos ec] at h0 h1
        have x1 : h 70 (ix 1) = zI (l.getD 1 0) := ev 1 (by omega)
        have x2 : h 70 (ix 2) = zI (l.getD 2 0) := ev 2 (by omega)
        rw [x1, x2]
        rw [show (10 : Int32) = zI 10 from rfl, zI_le (by omega) (by omega) (by omega) (by omega), show (30 : Int32) = zI 30 from rfl, zI_add]
        refine ⟨fun z10 => ?_, fun z10 => ?_⟩
        · rw [if_neg (by omega)] at h0
          exact r198 h (h0 rfl h fun _ _ => rfl)
        · refine sM_becomes (most := 5) hm (by omega) (by omega) v1 (by omega) (fun y h' r f => ?_) (fun y => ?_)
          · rw [if_pos (by omega)] at h1
            refine ⟨fun z => absurd z (by decide), fun _ => ?_⟩
            rw [f 70 (by omega), x2, show (36 : Int32) = zI 36 from rfl, zI_add]
            refine sM_becomes (most := 9) r (by omega) (by omega) v2 (by omega) (fun y h2 r2 f2 => ?_) (fun y => absurd (by omega) y)
            exact ⟨fun z => absurd z (by decide), fun _ => fM_does_199 (h1 _ rfl h2 r2 fun q hq => (f2 q hq).trans (f q hq))⟩
          · rw [if_neg (by omega)] at h0
            exact ⟨fun _ => r198 h (h0 rfl h fun _ _ => rfl), fun z => absurd rfl z⟩
      · have ec : c = 111 := (zI_eq (by omega) (by omega) (by omega) (by omega)).mp z
        rw [if_neg (by omega), if_neg (by omega), if_pos ec] at h0 h1
        have x1 : h 70 (ix 1) = zI (l.getD 1 0) := ev 1 (by omega)
        rw [x1, show (18 : Int32) = zI 18 from rfl, zI_add]
        refine sM_becomes (most := 59) hm (by omega) (by omega) v1 (by omega) (fun y h' r f => ?_) (fun y => ?_)
        · rw [if_pos y] at h1
          exact h1 _ rfl h' r f
        · rw [if_neg (by omega)] at h0
          exact h0 rfl h fun _ _ => rfl
      · have ec : c = 114 := (zI_eq (by omega) (by omega) (by omega) (by omega)).mp z
        rw [if_neg (by omega), if_neg (by omega), if_neg (by omega), if_pos ec] at h0 h1
        have x1 : h 70 (ix 1) = zI (l.getD 1 0) := ev 1 (by omega)
        rw [x1, show (24 : Int32) = zI 24 from rfl, zI_add]
        refine sM_becomes (most := 9) hm (by omega) (by omega) v1 (by omega) (fun y h' r f => ?_) (fun y => ?_)
        · rw [if_pos y] at h1
          exact h1 _ rfl h' r f
        · rw [if_neg (by omega)] at h0
          exact h0 rfl h fun _ _ => rfl
      · rw [zI_eq (by omega) (by omega) (by omega) (by omega)] at z104 z107 z111 z114
        rw [if_neg z104, if_neg z107, if_neg z111, if_neg z114] at h1
        have b2 := hw.2.1 (42 + l.getD 0 0) (by omega) (by omega)
        have := h1 _ rfl (upd2 h 61 (42 + l.getD 0 0).toNat (zI (1 - w (42 + l.getD 0 0)))) (hm.up (by omega) (by omega)) fun q hq => upd2_ne q hq
        simp (disch := omega) only [zI_add, zI_sub, zI_mul, zI_neg, zI_lt, zI_le, zI_eq, zI_div, zI_rem, ix_zI, inb_zI, nz_zI, imax_zI, imin_zI, c_t, nb01.1, nb01.2, zl_0, zl_1, zl_2, zl_3, zl_4, zl_5, zl_6, zl_7, zl_8, zl_9, zl_10, zl_11, zl_12, zl_13, zl_14, zl_15, zl_16, zl_17, zl_18, zl_19, zl_20, zl_24, zl_30, zl_31, zl_36, zl_42, zl_44, zl_48, zl_57, zl_58, zl_59, zl_60, zl_61, zl_62, zl_63, zl_64, zl_72, zl_73, zl_96, zl_99, zl_100, zl_104, zl_107, zl_111, zl_114, zl_116, zl_120, zl_200, zl_255, zl_256, zl_360, zl_600, zl_800, zl_1000, zl_2000, hm _]
        exact this
    · rw [if_neg ct]
      rw [if_pos ct] at h0
      exact ⟨fun z => absurd rfl z, fun _ => h0 rfl h fun _ _ => rfl⟩
end DO
