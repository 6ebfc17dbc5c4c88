/-! ===== tells ===== -/
def rdA (ln : Nat) (lt : Nat → Int) : Nat → Nat → Nat → Int
  | 0, _, _ => 0
  | f + 1, i, m => if ln ≤ i then (if m = 0 then -1000 else (m : Int)) else match stm ln lt i with
    | (q, none) => -1000 - (q : Int)
    | (q, some _) => rdA ln lt f q (m + 1)
def rdB (ln : Nat) (lt : Nat → Int) (m : Int) : Nat → Nat → (Int → Int) → Int × Option (Int → Int)
  | 0, _, _ => (0, none)
  | f + 1, i, w => if ln ≤ i then (m, some w) else match stm ln lt i with
    | (_, none) => (0, none)
    | (q, some l) => match doS w (hr ln lt i) l with
      | none => (-2000 - (i : Int), none)
      | some w' => rdB ln lt m f q w'
def rdT (ln : Nat) (lt : Nat → Int) : Int := rdA ln lt 100 0 0
def rdU (ln : Nat) (lt : Nat → Int) (w : Int → Int) : Int × Option (Int → Int) := rdB ln lt (rdT ln lt) 100 0 w
def tellR (s : St) : Int × Option (Int → Int) := if rdT s.ln s.lt ≤ 0 then (rdT s.ln s.lt, none) else rdU s.ln s.lt s.w
def tellW (s : St) : Int → Int := (tellR s).2.getD s.w
def tellSt (s : St) : St := mkSt (tellW s) s.has s.k s.rf s.rn s.row 0 s.lt
section TB
variable {ln : Nat} {lt : Nat → Int}
theorem stm_okL {i q : Nat} {l : List Int} (e : stm ln lt i = (q, some l)) : okL (hr ln lt i) l := by
  obtain ⟨a, b, -⟩ := stm_ok e
  have c := rdM_vals _ _ _ _ b
  exact ⟨a, c.1, c.2.1⟩
theorem rdA_ge (hl : LB ln lt) : ∀ (f i m : Nat), 0 < rdA ln lt f i m → (m : Int) ≤ rdA ln lt f i m ∧ (¬ ln ≤ i → (m : Int) < rdA ln lt f i m)
  | 0, i, m, h => absurd h (by unfold rdA; omega)
  | f + 1, i, m, h => by
    unfold rdA at h ⊢
    by_cases c : ln ≤ i
    · rw [if_pos c] at h ⊢
      by_cases c2 : m = 0
      · rw [if_pos c2] at h; omega
      · rw [if_neg c2]
        exact ⟨Int.le_refl _, fun z => absurd c z⟩
    · rw [if_neg c] at h ⊢
      cases e : stm ln lt i with
      | mk q o =>
        rw [e] at h
        cases o with
        | none => simp only at h; omega
        | some l =>
          simp only at h ⊢
          have ih := rdA_ge hl f q (m + 1) h
          omega
theorem rdA_b (hl : LB ln lt) : ∀ (f i m : Nat), i ≤ ln → m ≤ i → -2000 ≤ rdA ln lt f i m ∧ rdA ln lt f i m ≤ 96
  | 0, i, m, _, _ => by unfold rdA; omega
  | f + 1, i, m, hi, hm => by
    have h96 := hl.1
    unfold rdA
    by_cases c : ln ≤ i
    · rw [if_pos c]
      split <;> omega
    · rw [if_neg c]
      have le := stm_le (ln := ln) (lt := lt) hi
      cases e : stm ln lt i with
      | mk q o =>
        rw [e] at le
        cases o with
        | none => simp only at le ⊢; omega
        | some l =>
          have := stm_ok e
          simp only at le ⊢
          exact rdA_b hl f q (m + 1) le.2 (by omega)
theorem rdB_f (hl : LB ln lt) {m : Int} (hm : 0 < m ∧ m ≤ 96) : ∀ (f i : Nat) (w : Int → Int), i ≤ ln → WF w → C20 w → (-3000 ≤ (rdB ln lt m f i w).1 ∧ (rdB ln lt m f i w).1 ≤ 96) ∧ ((rdB ln lt m f i w).2 = none → (rdB ln lt m f i w).1 ≤ 0) ∧ ∀ w', (rdB ln lt m f i w).2 = some w' → (rdB ln lt m f i w).1 = m ∧ WF w' ∧ C20 w'
  | 0, i, w, _, _, _ => ⟨by unfold rdB; simp, fun _ => Int.le_refl _, fun w' z => by simp [rdB] at z⟩
  | f + 1, i, w, hi, hw, hc => by
    have h96 := hl.1
    unfold rdB
    by_cases c : ln ≤ i
    · rw [if_pos c]
      exact ⟨⟨by simp only; omega, hm.2⟩, fun z => by simp at z, fun w' z => by simp at z; subst z; exact ⟨rfl, hw, hc⟩⟩
    · rw [if_neg c]
      have le := stm_le (ln := ln) (lt := lt) hi
      cases e : stm ln lt i with
      | mk q o =>
        rw [e] at le
        cases o with
        | none => exact ⟨by simp, fun _ => Int.le_refl _, fun w' z => by simp at z⟩
        | some l =>
          simp only at le ⊢
          cases e2 : doS w (hr ln lt i) l with
          | none => exact ⟨by simp only; omega, fun _ => by simp only; omega, fun w' z => by simp at z⟩
          | some w' =>
            have := doS_wf hw hc (stm_okL e) e2
            exact rdB_f hl hm f q w' le.2 this.1 this.2
end TB
theorem rdT_b {ln : Nat} {lt : Nat → Int} (hl : LB ln lt) : -2000 ≤ rdT ln lt ∧ rdT ln lt ≤ 96 := rdA_b hl 100 0 0 (Nat.zero_le _) (Nat.le_refl _)
theorem SV.lb {s : St} (hv : SV s) : LB s.ln s.lt := ⟨hv.ln, hv.lt⟩
theorem tellR_f {s : St} (hv : SV s) : (-3000 ≤ (tellR s).1 ∧ (tellR s).1 ≤ 96) ∧ ((tellR s).2 = none → (tellR s).1 ≤ 0) ∧ ∀ w', (tellR s).2 = some w' → 0 < (tellR s).1 ∧ WF w' ∧ C20 w' := by
  have b := rdT_b hv.lb
  unfold tellR
  by_cases c : rdT s.ln s.lt ≤ 0
  · rw [if_pos c]
    exact ⟨by simp only; omega, fun _ => c, fun w' z => by simp at z⟩
  · rw [if_neg c]
    have := rdB_f hv.lb (m := rdT s.ln s.lt) (by omega) 100 0 s.w (Nat.zero_le _) hv.w hv.c
    exact ⟨this.1, this.2.1, fun w' z => ⟨by have e : (rdU s.ln s.lt s.w).1 = rdT s.ln s.lt := (this.2.2 w' z).1; omega, (this.2.2 w' z).2⟩⟩
theorem tellW_f {s : St} (hv : SV s) : WF (tellW s) ∧ C20 (tellW s) := by
  have b := tellR_f hv
  unfold tellW
  cases e : (tellR s).2 with
  | none => exact ⟨hv.w, hv.c⟩
  | some w' => exact (b.2.2 w' e).2
section TQ2
variable {E : XE} {h : Mem} {s : St} {ln : Nat} {lt : Nat → Int}
theorem sTE_readAll {Q : Int32 → Mem → Prop} (hl : LB ln lt) (a1 : h 55 1 = zI ln) (a2 : ∀ k, k < ln → h 56 k = zI (lt k)) (hq : ∀ h', TF h h' → Q (zI (rdT ln lt)) h') : CALLI E mTE_readAll [.ref 55] h Q := by
  have h96 := hl.1
  refine fTE_readAll ?_
  have key : ∀ (f i m : Nat) (h1 : Mem), TF h h1 → h1 55 4 = zI (i : Nat) → i ≤ ln → m ≤ i → ln - i < f → rdA ln lt f i m = rdT ln lt → WP E mTE_readAll 7 [some (.ref 55), some (.int (zI m))] [] h1 (qI Q) := by
    intro f
    induction f with
    | zero => intro i m h1 _ _ _ _ hf _; omega
    | succ f ih =>
      intro i m h1 hf e4 hi hm hff hr'
      refine fTE_readAll_7 ?_
      have s1 : TS h1 ln lt i := ⟨(hf.2 1 (by omega) (by omega)).trans a1, fun k hk => by rw [hf.1 56 (by omega) (by omega)]; exact a2 k hk, e4⟩
      rw [s1.1, s1.2.2]
      unfold rdA at hr'
      simp (disch := omega) only [zI_add, zI_sub, zI_mul, zI_neg, zI_lt, zI_le, zI_eq, zI_div, zI_rem, ix_zI, inb_zI, nz_zI, imax_zI, imin_zI, c_t, nb01.1, nb01.2, zl_0, zl_1, zl_2, zl_3, zl_4, zl_5, zl_6, zl_7, zl_8, zl_9, zl_10, zl_11, zl_12, zl_13, zl_14, zl_15, zl_16, zl_17, zl_18, zl_19, zl_20, zl_24, zl_30, zl_31, zl_36, zl_42, zl_44, zl_48, zl_57, zl_58, zl_59, zl_60, zl_61, zl_62, zl_63, zl_64, zl_72, zl_73, zl_96, zl_99, zl_100, zl_104, zl_107, zl_111, zl_114, zl_116, zl_120, zl_200, zl_255, zl_256, zl_360, zl_600, zl_800, zl_1000, zl_2000]
      refine ⟨fun z => ?_, fun z => ⟨fun z => by omega, fun _ => ?_⟩⟩
      · rw [if_pos (by omega)] at hr'
        refine ⟨fun z2 => ?_, fun z2 => ?_⟩
        · rw [if_pos (by omega)] at hr'
          have := hq h1 hf
          rw [← hr'] at this
          exact this
        · rw [if_neg (by omega)] at hr'
          have := hq h1 hf
          rw [← hr'] at this
          exact this
      · rw [if_neg (by omega)] at hr'
        refine sTE_readStatement hl s1 hi (fun q h2 e f2 e42 => ?_) (fun q l h2 e f2 e42 _ _ => ?_)
        · rw [e] at hr'
          simp only at hr'
          have := hq h2 (hf.tr f2)
          rw [← hr'] at this
          refine ⟨fun z => absurd rfl z, fun _ => ?_⟩
          rw [e42, zI_sub]
          exact this
        · have ok := stm_ok e
          rw [e] at hr'
          simp only at hr'
          refine ⟨fun _ => ?_, fun z => absurd z (by decide)⟩
          exact ih q (m + 1) h2 (hf.tr f2) e42 ok.2.2.2.2 (by omega) (by omega) hr'
  exact key 100 0 0 _ TF.rf.p4 u_s (Nat.zero_le _) (Nat.le_refl _) (by omega) rfl
/-- the class's telling and its trial alone change -/
def CF (h h' : Mem) : Prop := (∀ q, q ≠ 55 → q ≠ 57 → ¬ (15 ≤ q ∧ q ≤ 28) → h' q = h q) ∧ ∀ j, j ≠ 3 → j ≠ 4 → h' 55 j = h 55 j
theorem TF.cf {h h' : Mem} (t : TF h h') : CF h h' := ⟨fun q a b _ => t.1 q a b, t.2⟩
theorem CF.tr {a b c : Mem} (h1 : CF a b) (h2 : CF b c) : CF a c := ⟨fun q x y z => (h2.1 q x y z).trans (h1.1 q x y z), fun j x y => (h2.2 j x y).trans (h1.2 j x y)⟩
theorem AF.cf {h h' : Mem} (t : AF h h' 15) : CF h h' := ⟨fun q _ _ c => t q (by omega), fun j _ _ => congrFun (t 55 (by omega)) j⟩
theorem TS.cf {h h' : Mem} {i j : Nat} (hs : TS h ln lt i) (hf : CF h h') (e : h' 55 4 = zI j) : TS h' ln lt j :=
  ⟨(hf.2 1 (by omega) (by omega)).trans hs.1, fun k hk => by rw [hf.1 56 (by omega) (by omega) (by omega)]; exact hs.2.1 k hk, e⟩
theorem sTE_carryOutAll {Q : Int32 → Mem → Prop} {w : Int → Int} (hl : LB ln lt) (a1 : h 55 1 = zI ln) (a2 : ∀ k, k < ln → h 56 k = zI (lt k)) (hd : DW h 15 w) (hw : WF w) (hc : C20 w) (hm : 0 < rdT ln lt)
    (hq : ∀ h', CF h h' → (∀ w', (rdU ln lt w).2 = some w' → DW h' 15 w') → Q (zI (rdU ln lt w).1) h') : CALLI E mTE_carryOutAll [.ref 55, .ref 15, .int (zI (rdT ln lt))] h Q := by
  have h96 := hl.1
  have mb := rdT_b hl
  refine fTE_carryOutAll (Or.inr (Or.inl rfl)) ?_
  have key : ∀ (f i m : Nat) (h1 : Mem) (w1 : Int → Int), CF h h1 → h1 55 4 = zI (i : Nat) → i ≤ ln → m ≤ i → ln - i < f → rdA ln lt f i m = rdT ln lt → DW h1 15 w1 → WF w1 → C20 w1 → rdB ln lt (rdT ln lt) f i w1 = rdU ln lt w →
      WP E mTE_carryOutAll 7 [some (.ref 55), some (.ref 15), some (.int (zI (rdT ln lt))), some (.int (zI m)), none] [] h1 (qI Q) := by
    intro f
    induction f with
    | zero => intro i m h1 w1 _ _ _ _ hf _; omega
    | succ f ih =>
      intro i m h1 w1 hf e4 hi him hff hr' hd1 hw1 hc1 hb
      have ge := rdA_ge hl (f + 1) i m (by rw [hr']; exact hm)
      rw [hr'] at ge
      refine fTE_carryOutAll_7 (Or.inr (Or.inl rfl)) ?_
      rw [e4]
      unfold rdA at hr'
      unfold rdB at hb
      simp (disch := omega) only [zI_add, zI_sub, zI_mul, zI_neg, zI_lt, zI_le, zI_eq, zI_div, zI_rem, ix_zI, inb_zI, nz_zI, imax_zI, imin_zI, c_t, nb01.1, nb01.2, zl_0, zl_1, zl_2, zl_3, zl_4, zl_5, zl_6, zl_7, zl_8, zl_9, zl_10, zl_11, zl_12, zl_13, zl_14, zl_15, zl_16, zl_17, zl_18, zl_19, zl_20, zl_24, zl_30, zl_31, zl_36, zl_42, zl_44, zl_48, zl_57, zl_58, zl_59, zl_60, zl_61, zl_62, zl_63, zl_64, zl_72, zl_73, zl_96, zl_99, zl_100, zl_104, zl_107, zl_111, zl_114, zl_116, zl_120, zl_200, zl_255, zl_256, zl_360, zl_600, zl_800, zl_1000, zl_2000]
      refine ⟨fun z => ?_, fun z => ?_⟩
      · have c : ln ≤ i := by
          apply Decidable.byContradiction
          intro y
          have := ge.2 y
          omega
        rw [if_pos c] at hb
        have := hq h1 hf (fun w' e => by rw [← hb] at e; simp at e; subst e; exact hd1)
        rw [← hb] at this
        exact this
      · have c : ¬ ln ≤ i := by
          intro y
          rw [if_pos y] at hr'
          split at hr' <;> omega
        rw [if_neg c] at hr' hb
        have s1 : TS h1 ln lt i := ⟨(hf.2 1 (by omega) (by omega)).trans a1, fun k hk => by rw [hf.1 56 (by omega) (by omega) (by omega)]; exact a2 k hk, e4⟩
        refine sTE_readStatement hl s1 hi (fun q h2 e f2 e42 => ?_) (fun q l h2 e f2 e42 e32 v2 => ?_)
        · rw [e] at hr'
          simp only at hr'
          omega
        · have ok := stm_ok e
          rw [e] at hr' hb
          simp only at hr' hb
          refine ⟨fun z => absurd z (by decide), fun _ => ?_⟩
          have d2 : DW h2 15 w1 := hd1.kp fun q a b => f2.1 q (by omega) (by omega)
          refine sTE_carryOut d2 hw1 (stm_okL e) e32 v2 (fun en => ?_) (fun w' es h3 d3 a3 => ?_)
          · rw [en] at hb
            simp only at hb
            have := hq h2 (hf.tr f2.cf) (fun w' e => by rw [← hb] at e; simp at e)
            rw [← hb] at this
            refine ⟨fun z => absurd rfl z, fun _ => ?_⟩
            exact this
          · rw [es] at hb
            simp only at hb
            have wf := doS_wf hw1 hc1 (stm_okL e) es
            refine ⟨fun _ => ?_, fun z => absurd z (by decide)⟩
            exact ih q (m + 1) h3 w' (hf.tr (f2.cf.tr a3.cf)) ((congrFun (a3 55 (by omega)) 4).trans e42) ok.2.2.2.2 (by omega) (by omega) hr' d3 wf.1 wf.2 hb
  exact key 100 0 0 _ w TF.rf.p4.cf u_s (Nat.zero_le _) (Nat.le_refl _) (by omega) rfl (hd.kp fun q a b => upd2_ne q (by omega)) hw hc rfl
theorem qC_tells {Q : Int32 → Mem → Prop} (hv : SV s) (ha : SA h s) (hq : ∀ h', SA h' (tellSt s) → FA h h' → Q (zI (tellR s).1) h') : CALLI E mC_tells [.ref 0] h Q := by
  refine fC_tells (sD_copyFrom (Or.inr (Or.inl rfl)) (Or.inl rfl) (by omega) fun h1 c1 => ?_)
  have o1 : ∀ q, ¬ (15 ≤ q ∧ q ≤ 28) → h1 q = h q := c1.1
  have d1 : DW h1 15 s.w := c1.dw hv.w ha.w
  have hl := hv.lb
  have tf := tellR_f hv
  have rb := rdT_b hl
  have frame : ∀ h2, CF h1 h2 → ∀ q, q ≠ 55 → q ≠ 57 → ¬ (15 ≤ q ∧ q ≤ 28) → upd2 h2 55 1 0 q = h q := fun h2 f2 q a b c => (upd2_ne q a).trans ((f2.1 q a b c).trans (o1 q c))
  have keep : ∀ h2, CF h1 h2 → ∀ h3, (∀ q, ¬ (1 ≤ q ∧ q ≤ 14) → h3 q = upd2 h2 55 1 0 q) → DW h3 1 (tellW s) → SA h3 (tellSt s) ∧ FA h h3 := by
    intro h2 f2 h3 o3 d3
    have g : ∀ q, q ≠ 55 → q ≠ 57 → ¬ (1 ≤ q ∧ q ≤ 14) → ¬ (15 ≤ q ∧ q ≤ 28) → h3 q = h q := fun q a b c d => (o3 q c).trans (frame h2 f2 q a b d)
    refine ⟨⟨d3, by rw [g 0 (by omega) (by omega) (by omega) (by omega)]; exact ha.has, fun z => (ha.k z).kp fun q a b => g q (by omega) (by omega) (by omega) (by omega), fun i hi => by rw [g 59 (by omega) (by omega) (by omega) (by omega)]; exact ha.rf i hi, by rw [g 0 (by omega) (by omega) (by omega) (by omega)]; exact ha.rn, fun i hi => by rw [g 58 (by omega) (by omega) (by omega) (by omega)]; exact ha.row i hi, ?_, fun i hi => absurd hi (Nat.not_lt_zero i)⟩, fun q hq => g q (by omega) (by omega) (by omega) (by omega)⟩
    rw [o3 55 (by omega)]
    exact u_s
  have d1s : ∀ h2, CF h1 h2 → DW (upd2 h2 55 1 0) 1 s.w := fun h2 f2 => ha.w.kp fun q a b => frame h2 f2 q (by omega) (by omega) (by omega)
  refine fTE_tellTo (Or.inr (Or.inl rfl)) ?_
  have s155 : h1 55 1 = zI s.ln := by rw [o1 55 (by omega)]; exact ha.ln
  have s156 : ∀ k, k < s.ln → h1 56 k = zI (s.lt k) := fun k hk => by rw [o1 56 (by omega)]; exact ha.lt k hk
  refine sTE_readAll hl s155 s156 fun h2 f2 => ?_
  have r : tellR s = if rdT s.ln s.lt ≤ 0 then (rdT s.ln s.lt, none) else rdU s.ln s.lt s.w := rfl
  rw [zl_0, zI_le (by omega) (by omega) (by omega) (by omega)]
  refine ⟨fun z => ?_, fun z => ?_⟩
  · rw [if_pos z] at r
    have e1 : (tellR s).1 = rdT s.ln s.lt := by rw [r]
    have ew : tellW s = s.w := by unfold tellW; rw [r]; rfl
    rw [← e1]
    rw [← e1] at z
    have k := keep h2 f2.cf (upd2 h2 55 1 0) (fun _ _ => rfl) (by rw [ew]; exact d1s h2 f2.cf)
    exact ⟨fun _ => hq _ k.1 k.2, fun y => absurd z y⟩
  · rw [if_neg z] at r
    have d2 : DW h2 15 s.w := d1.kp fun q a b => f2.1 q (by omega) (by omega)
    refine sTE_carryOutAll hl ((f2.2 1 (by omega) (by omega)).trans s155) (fun k hk => by rw [f2.1 56 (by omega) (by omega)]; exact s156 k hk) d2 hv.w hv.c (by omega) fun h3 f3 d3 => ?_
    have f13 := f2.cf.tr f3
    rw [← r] at d3 ⊢
    rw [zI_le (by omega) (by omega) (by omega) (by omega)]
    refine ⟨fun y => ?_, fun y => ?_⟩
    · have ew : tellW s = s.w := by
        unfold tellW
        cases e : (tellR s).2 with
        | none => rfl
        | some w' => have := (tf.2.2 w' e).1; omega
      have k := keep h3 f13 (upd2 h3 55 1 0) (fun _ _ => rfl) (by rw [ew]; exact d1s h3 f13)
      exact hq _ k.1 k.2
    · cases e : (tellR s).2 with
      | none => exact absurd (tf.2.1 e) y
      | some w' =>
        have ew : tellW s = w' := by unfold tellW; rw [e]; rfl
        have d4 : DW (upd2 h3 55 1 0) 15 w' := (d3 w' e).kp fun q a b => upd2_ne q (by omega)
        refine sD_copyFrom (Or.inl rfl) (Or.inr (Or.inl rfl)) (by omega) fun h4 c4 => ?_
        have k := keep h3 f13 h4 (fun q hq => c4.1 q (by omega)) (by rw [ew]; exact c4.dw (tf.2.2 w' e).2.1 d4)
        exact hq h4 k.1 k.2
end TQ2
