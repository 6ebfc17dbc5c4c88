/-! ===== the class's walk over points ===== -/
theorem isP.b {p : Nat} (hp : isP p) : 1 ≤ p ∧ p ≤ 29 := by unfold isP at hp; omega
theorem isP.b3 {p : Nat} (hp : isP p) : p = 1 ∨ p = 15 ∨ p = 29 := hp
/-- all but one place stays -/
def Off (P : Nat → Prop) (h h' : Mem) : Prop := ∀ q, ¬ P q → h' q = h q
theorem Off.rf {P : Nat → Prop} {h : Mem} : Off P h h := fun _ _ => rfl
theorem Off.tr {P : Nat → Prop} {a b c : Mem} (h1 : Off P a b) (h2 : Off P b c) : Off P a c := fun q hq => (h2 q hq).trans (h1 q hq)
theorem Off.up {P : Nat → Prop} {h h' : Mem} {p i : Nat} {x : Int32} (hp : P p) (h1 : Off P h h') : Off P h (upd2 h' p i x) := fun q hq => (upd2_ne q (fun z => hq (z ▸ hp))).trans (h1 q hq)
theorem Off.mono {P P' : Nat → Prop} {h h' : Mem} (hp : ∀ q, P q → P' q) (h1 : Off P h h') : Off P' h h' := fun q hq => h1 q (fun z => hq (hp q z))
def pw (q : Nat) : Prop := q = 43
theorem Off.p43 {h h' : Mem} {i : Nat} {x : Int32} (h1 : Off pw h h') : Off pw h (upd2 h' 43 i x) := Off.up (P := pw) rfl h1
theorem DW.off {P : Nat → Prop} {h h' : Mem} {p : Nat} {w : Int → Int} (hd : DW h p w) (ho : Off P h h') (hP : ∀ k, k ≤ 13 → ¬ P (p + k)) : DW h' p w := hd.of (fun k hk => ho _ (hP k hk))
theorem DW.pw {h h' : Mem} {p : Nat} {w : Int → Int} (hp : isP p) (hd : DW h p w) (ho : Off pw h h') : DW h' p w := hd.off ho (fun k hk z => by have := hp.b; have z : p + k = 43 := z; omega)
/-- where the walk stands -/
def PS (h : Mem) (w : Int → Int) (a : Int) : Prop := h 43 1 = zI (hor w) ∧ h 43 2 = zI a ∧ h 43 3 = zI (dem w a) ∧ 0 ≤ a ∧ a ≤ hor w
theorem ptsR_succ (w : Int → Int) (a : Int) (n : Nat) : ptsR w a (n + 1) = if dem w a < dem w (a + 1) then (a + 1) :: ptsR w (a + 1) n else ptsR w (a + 1) n := rfl
section PW
variable {E : XE} {h : Mem} {w : Int → Int} {p : Nat}
theorem sPW_begin {Q : Mem → Prop} (hp : isP p) (hd : DW h p w) (hw : WF w) (hq : ∀ h', Off pw h h' → h' 43 0 = zI (busy w) → PS h' w 0 → Q h') : CALLV E mPW_begin [.ref 43, .ref p] h Q := by
  refine fPW_begin hp ?_
  have hpb := hp.b
  have lt := onM_lt hw
  have bb := busy_b hw
  have fin : ∀ h1, Off pw h h1 → h1 43 0 = zI (busy w) → (¬ (h1 43 0) = (-9) → Q (upd2 (upd2 (upd2 h1 43 1 (h1 43 0)) 43 2 0) 43 3 0)) ∧ ((h1 43 0) = (-9) → Q (upd2 (upd2 (upd2 h1 43 1 600) 43 2 0) 43 3 0)) := by
    intro h1 ho hb
    have hbz := hor_b hw
    rw [hb]
    simp (disch := omega) only [zI_add, zI_sub, zI_mul, zI_neg, zI_lt, zI_le, zI_eq, zI_div, zI_rem, ix_zI, inb_zI, nz_zI, imax_zI, imin_zI, c_t, nb01.1, nb01.2, zl_0, zl_1, zl_2, zl_3, zl_4, zl_5, zl_6, zl_7, zl_8, zl_9, zl_10, zl_11, zl_12, zl_13, zl_14, zl_15, zl_16, zl_17, zl_18, zl_19, zl_20, zl_24, zl_30, zl_31, zl_36, zl_42, zl_44, zl_48, zl_57, zl_58, zl_59, zl_60, zl_61, zl_62, zl_63, zl_64, zl_72, zl_73, zl_96, zl_99, zl_100, zl_104, zl_107, zl_111, zl_114, zl_116, zl_120, zl_200, zl_255, zl_256, zl_360, zl_600, zl_800, zl_1000, zl_2000]
    refine ⟨fun z => hq _ (((ho.p43).p43).p43) (by rw [u_i (by omega), u_i (by omega), u_i (by omega), hb]) ⟨by rw [u_i (by omega), u_i (by omega), u_s]; unfold hor; rw [if_neg z], by rw [u_i (by omega), u_s], by rw [u_s, dem0], by omega, by omega⟩,
      fun z => hq _ (((ho.p43).p43).p43) (by rw [u_i (by omega), u_i (by omega), u_i (by omega), hb]) ⟨by rw [u_i (by omega), u_i (by omega), u_s]; unfold hor; rw [if_pos z], by rw [u_i (by omega), u_s], by rw [u_s, dem0], by omega, by omega⟩⟩
  have fin' : ∀ h1, Off pw h h1 → h1 43 0 = zI (busy w) → (¬ (h1 43 0) = zI (-9) → Q (upd2 (upd2 (upd2 h1 43 1 (h1 43 0)) 43 2 (zI 0)) 43 3 (zI 0))) ∧ ((h1 43 0) = zI (-9) → Q (upd2 (upd2 (upd2 h1 43 1 (zI 600)) 43 2 (zI 0)) 43 3 (zI 0))) := fin
  have key : ∀ (f : Nat) (t s : Int) (h1 : Mem), Off pw h h1 → h1 43 0 = zI (-9) → 0 ≤ s → s ≤ t → t < 100000000 → t ≤ asksM w (onM w) t → 601 - t ≤ f → settle (asksM w (onM w)) f t = busy w →
      WP E mPW_begin 18 [some (.ref 43), some (.ref p), some (.int (zI t)), some (.int (zI s)), none] [] h1 (qV Q) := by
    intro f
    induction f with
    | zero =>
      intro t s h1 ho h9 s0 st t1 ta tf hs
      refine fPW_begin_18 hp ?_
      have hbu : h1 43 0 = zI (busy w) := by rw [h9, ← hs]; rfl
      have fi := fin' h1 ho hbu
      simp (disch := omega) only [zI_add, zI_sub, zI_mul, zI_neg, zI_lt, zI_le, zI_eq, zI_div, zI_rem, ix_zI, inb_zI, nz_zI, imax_zI, imin_zI, c_t, nb01.1, nb01.2, zl_0, zl_1, zl_2, zl_3, zl_4, zl_5, zl_6, zl_7, zl_8, zl_9, zl_10, zl_11, zl_12, zl_13, zl_14, zl_15, zl_16, zl_17, zl_18, zl_19, zl_20, zl_24, zl_30, zl_31, zl_36, zl_42, zl_44, zl_48, zl_57, zl_58, zl_59, zl_60, zl_61, zl_62, zl_63, zl_64, zl_72, zl_73, zl_96, zl_99, zl_100, zl_104, zl_107, zl_111, zl_114, zl_116, zl_120, zl_200, zl_255, zl_256, zl_360, zl_600, zl_800, zl_1000, zl_2000]
      exact ⟨fun _ => fi, fun _ => ⟨fun _ => fi, fun z => by omega⟩⟩
    | succ f ih =>
      intro t s h1 ho h9 s0 st t1 ta tf hs
      refine fPW_begin_18 hp ?_
      unfold settle at hs
      by_cases hb : 600 < t
      · rw [if_pos hb] at hs
        have hbu : h1 43 0 = zI (busy w) := by rw [h9, ← hs]
        have fi := fin' h1 ho hbu
        simp (disch := omega) only [zI_add, zI_sub, zI_mul, zI_neg, zI_lt, zI_le, zI_eq, zI_div, zI_rem, ix_zI, inb_zI, nz_zI, imax_zI, imin_zI, c_t, nb01.1, nb01.2, zl_0, zl_1, zl_2, zl_3, zl_4, zl_5, zl_6, zl_7, zl_8, zl_9, zl_10, zl_11, zl_12, zl_13, zl_14, zl_15, zl_16, zl_17, zl_18, zl_19, zl_20, zl_24, zl_30, zl_31, zl_36, zl_42, zl_44, zl_48, zl_57, zl_58, zl_59, zl_60, zl_61, zl_62, zl_63, zl_64, zl_72, zl_73, zl_96, zl_99, zl_100, zl_104, zl_107, zl_111, zl_114, zl_116, zl_120, zl_200, zl_255, zl_256, zl_360, zl_600, zl_800, zl_1000, zl_2000]
        exact ⟨fun _ => fi, fun _ => ⟨fun _ => fi, fun z => absurd hb z⟩⟩
      · rw [if_neg hb] at hs
        have hd1 : DW h1 p w := hd.pw hp ho
        have b2 := asksM_b hw (onM w) (t := t) (by omega)
        simp (disch := omega) only [zI_add, zI_sub, zI_mul, zI_neg, zI_lt, zI_le, zI_eq, zI_div, zI_rem, ix_zI, inb_zI, nz_zI, imax_zI, imin_zI, c_t, nb01.1, nb01.2, zl_0, zl_1, zl_2, zl_3, zl_4, zl_5, zl_6, zl_7, zl_8, zl_9, zl_10, zl_11, zl_12, zl_13, zl_14, zl_15, zl_16, zl_17, zl_18, zl_19, zl_20, zl_24, zl_30, zl_31, zl_36, zl_42, zl_44, zl_48, zl_57, zl_58, zl_59, zl_60, zl_61, zl_62, zl_63, zl_64, zl_72, zl_73, zl_96, zl_99, zl_100, zl_104, zl_107, zl_111, zl_114, zl_116, zl_120, zl_200, zl_255, zl_256, zl_360, zl_600, zl_800, zl_1000, zl_2000, h9, hd1.on]
        refine ⟨fun z => by omega, fun _ => ⟨fun z => absurd z hb, fun _ => ⟨fun z => absurd trivial z, fun _ => sD_work hp hd1 hw lt (by omega) ?_⟩⟩⟩
        simp (disch := omega) only [zI_add, zI_sub, zI_mul, zI_neg, zI_lt, zI_le, zI_eq, zI_div, zI_rem, ix_zI, inb_zI, nz_zI, imax_zI, imin_zI, c_t, nb01.1, nb01.2, zl_0, zl_1, zl_2, zl_3, zl_4, zl_5, zl_6, zl_7, zl_8, zl_9, zl_10, zl_11, zl_12, zl_13, zl_14, zl_15, zl_16, zl_17, zl_18, zl_19, zl_20, zl_24, zl_30, zl_31, zl_36, zl_42, zl_44, zl_48, zl_57, zl_58, zl_59, zl_60, zl_61, zl_62, zl_63, zl_64, zl_72, zl_73, zl_96, zl_99, zl_100, zl_104, zl_107, zl_111, zl_114, zl_116, zl_120, zl_200, zl_255, zl_256, zl_360, zl_600, zl_800, zl_1000, zl_2000]
        refine ⟨fun z => ?_, fun z => ?_⟩
        · rw [if_neg z] at hs
          exact ih _ (s + 1) h1 ho h9 (by omega) (by omega) (by omega) (asksM_mono hw _ (by omega) ta) (by omega) hs
        · rw [if_pos z] at hs
          rw [z]
          refine fPW_begin_18 hp ?_
          have fi := fin' (upd2 h1 43 0 (zI t)) (ho.p43) (by rw [u_s, hs])
          have h43 : (upd2 h1 43 0 (zI t)) 43 0 = zI t := u_s
          simp (disch := omega) only [zI_add, zI_sub, zI_mul, zI_neg, zI_lt, zI_le, zI_eq, zI_div, zI_rem, ix_zI, inb_zI, nz_zI, imax_zI, imin_zI, c_t, nb01.1, nb01.2, zl_0, zl_1, zl_2, zl_3, zl_4, zl_5, zl_6, zl_7, zl_8, zl_9, zl_10, zl_11, zl_12, zl_13, zl_14, zl_15, zl_16, zl_17, zl_18, zl_19, zl_20, zl_24, zl_30, zl_31, zl_36, zl_42, zl_44, zl_48, zl_57, zl_58, zl_59, zl_60, zl_61, zl_62, zl_63, zl_64, zl_72, zl_73, zl_96, zl_99, zl_100, zl_104, zl_107, zl_111, zl_114, zl_116, zl_120, zl_200, zl_255, zl_256, zl_360, zl_600, zl_800, zl_1000, zl_2000]
          refine ⟨fun _ => fi, fun _ => ⟨fun _ => fi, fun _ => ⟨fun _ => fi, fun z => ?_⟩⟩⟩
          rw [h43] at z
          have := (zI_eq (by omega) (by omega) (by omega) (by omega)).mp z
          omega
  have b1 := asksM_b hw (onM w) (t := 1) (by omega)
  have hd0 : DW (upd2 h 43 0 (zI (-9))) p w := hd.pw hp (Off.rf.p43)
  simp (disch := omega) only [zI_add, zI_sub, zI_mul, zI_neg, zI_lt, zI_le, zI_eq, zI_div, zI_rem, ix_zI, inb_zI, nz_zI, imax_zI, imin_zI, c_t, nb01.1, nb01.2, zl_0, zl_1, zl_2, zl_3, zl_4, zl_5, zl_6, zl_7, zl_8, zl_9, zl_10, zl_11, zl_12, zl_13, zl_14, zl_15, zl_16, zl_17, zl_18, zl_19, zl_20, zl_24, zl_30, zl_31, zl_36, zl_42, zl_44, zl_48, zl_57, zl_58, zl_59, zl_60, zl_61, zl_62, zl_63, zl_64, zl_72, zl_73, zl_96, zl_99, zl_100, zl_104, zl_107, zl_111, zl_114, zl_116, zl_120, zl_200, zl_255, zl_256, zl_360, zl_600, zl_800, zl_1000, zl_2000, hd0.on]
  refine sD_work hp hd0 hw lt (by omega) ?_
  exact key 700 _ 0 _ (Off.rf.p43) u_s (by omega) b1.1 (by omega) (asks1_le hw) (by omega) rfl
theorem sPW_busy {Q : Int32 → Mem → Prop} (hp : isP p) (hd : DW h p w) (hw : WF w) (hq : ∀ h', Off pw h h' → Q (zI (busy w)) h') : CALLI E mPW_busyTime [.ref 43, .ref p] h Q := by
  refine fPW_busyTime hp (sPW_begin hp hd hw fun h' ho hb _ => ?_)
  rw [hb]
  exact hq h' ho
theorem sPW_goOn {Q : Int32 → Mem → Prop} {a : Int} (hp : isP p) (hd : DW h p w) (hw : WF w) (hs : PS h w a)
    (h0 : ptsR w a (hor w - a).toNat = [] → ∀ h', Off pw h h' → Q (zI 0) h')
    (h1 : ∀ t, ptsR w a (hor w - a).toNat = t :: ptsR w t (hor w - t).toNat → 1 ≤ t → ∀ h', Off pw h h' → PS h' w t → Q (zI 1) h') : CALLI E mPW_goOn [.ref 43, .ref p] h Q := by
  refine fPW_goOn hp ?_
  obtain ⟨g1, g2, g3, g4, g5⟩ := hs
  have hb := hor_b hw
  rw [g2]
  simp (disch := omega) only [zI_add, zI_sub, zI_mul, zI_neg, zI_lt, zI_le, zI_eq, zI_div, zI_rem, ix_zI, inb_zI, nz_zI, imax_zI, imin_zI, c_t, nb01.1, nb01.2, zl_0, zl_1, zl_2, zl_3, zl_4, zl_5, zl_6, zl_7, zl_8, zl_9, zl_10, zl_11, zl_12, zl_13, zl_14, zl_15, zl_16, zl_17, zl_18, zl_19, zl_20, zl_24, zl_30, zl_31, zl_36, zl_42, zl_44, zl_48, zl_57, zl_58, zl_59, zl_60, zl_61, zl_62, zl_63, zl_64, zl_72, zl_73, zl_96, zl_99, zl_100, zl_104, zl_107, zl_111, zl_114, zl_116, zl_120, zl_200, zl_255, zl_256, zl_360, zl_600, zl_800, zl_1000, zl_2000]
  have key : ∀ (n : Nat) (b : Int), a ≤ b → b + n = hor w → dem w b = dem w a → ptsR w a (hor w - a).toNat = ptsR w b n → WP E mPW_goOn 7 [some (.ref 43), some (.ref p), some (.int (zI (b + 1))), none] [] h (qI Q) := by
    intro n
    induction n with
    | zero =>
      intro b h2 h3 h4 h5
      refine fPW_goOn_7 hp ?_
      rw [g1]
      simp (disch := omega) only [zI_add, zI_sub, zI_mul, zI_neg, zI_lt, zI_le, zI_eq, zI_div, zI_rem, ix_zI, inb_zI, nz_zI, imax_zI, imin_zI, c_t, nb01.1, nb01.2, zl_0, zl_1, zl_2, zl_3, zl_4, zl_5, zl_6, zl_7, zl_8, zl_9, zl_10, zl_11, zl_12, zl_13, zl_14, zl_15, zl_16, zl_17, zl_18, zl_19, zl_20, zl_24, zl_30, zl_31, zl_36, zl_42, zl_44, zl_48, zl_57, zl_58, zl_59, zl_60, zl_61, zl_62, zl_63, zl_64, zl_72, zl_73, zl_96, zl_99, zl_100, zl_104, zl_107, zl_111, zl_114, zl_116, zl_120, zl_200, zl_255, zl_256, zl_360, zl_600, zl_800, zl_1000, zl_2000]
      exact ⟨fun _ => h0 (by rw [h5]; rfl) _ (Off.rf.p43), fun z => by omega⟩
    | succ n ih =>
      intro b h2 h3 h4 h5
      refine fPW_goOn_7 hp ?_
      have d0 := dem_b hw (t := a) (by omega)
      have d1 := dem_b hw (t := b + 1) (by omega)
      have dm := dem_mono hw (a := b) (b := b + 1) (by omega) (by omega)
      rw [g1]
      simp (disch := omega) only [zI_add, zI_sub, zI_mul, zI_neg, zI_lt, zI_le, zI_eq, zI_div, zI_rem, ix_zI, inb_zI, nz_zI, imax_zI, imin_zI, c_t, nb01.1, nb01.2, zl_0, zl_1, zl_2, zl_3, zl_4, zl_5, zl_6, zl_7, zl_8, zl_9, zl_10, zl_11, zl_12, zl_13, zl_14, zl_15, zl_16, zl_17, zl_18, zl_19, zl_20, zl_24, zl_30, zl_31, zl_36, zl_42, zl_44, zl_48, zl_57, zl_58, zl_59, zl_60, zl_61, zl_62, zl_63, zl_64, zl_72, zl_73, zl_96, zl_99, zl_100, zl_104, zl_107, zl_111, zl_114, zl_116, zl_120, zl_200, zl_255, zl_256, zl_360, zl_600, zl_800, zl_1000, zl_2000]
      refine ⟨fun z => by omega, fun _ => sD_demand hp hd hw (by omega) ?_⟩
      rw [g3]
      rw [ptsR_succ w b n] at h5
      simp (disch := omega) only [zI_add, zI_sub, zI_mul, zI_neg, zI_lt, zI_le, zI_eq, zI_div, zI_rem, ix_zI, inb_zI, nz_zI, imax_zI, imin_zI, c_t, nb01.1, nb01.2, zl_0, zl_1, zl_2, zl_3, zl_4, zl_5, zl_6, zl_7, zl_8, zl_9, zl_10, zl_11, zl_12, zl_13, zl_14, zl_15, zl_16, zl_17, zl_18, zl_19, zl_20, zl_24, zl_30, zl_31, zl_36, zl_42, zl_44, zl_48, zl_57, zl_58, zl_59, zl_60, zl_61, zl_62, zl_63, zl_64, zl_72, zl_73, zl_96, zl_99, zl_100, zl_104, zl_107, zl_111, zl_114, zl_116, zl_120, zl_200, zl_255, zl_256, zl_360, zl_600, zl_800, zl_1000, zl_2000]
      refine ⟨fun z => ?_, fun z => ?_⟩
      · rw [if_neg (show ¬ dem w b < dem w (b + 1) by omega)] at h5
        exact ih (b + 1) (by omega) (by omega) (by omega) h5
      · rw [if_pos (show dem w b < dem w (b + 1) by omega)] at h5
        have e : (hor w - (b + 1)).toNat = n := by omega
        refine h1 (b + 1) (by rw [e]; exact h5) (by omega) _ ((Off.rf.p43).p43) ⟨?_, ?_, ?_, by omega, by omega⟩
        · rw [u_i (by omega), u_i (by omega), g1]
        · rw [u_i (by omega), u_s]
        · rw [u_s]
  exact key (hor w - a).toNat a (by omega) (by omega) rfl rfl
theorem sPW_count {Q : Int32 → Mem → Prop} (hp : isP p) (hd : DW h p w) (hw : WF w) (hq : ∀ h', Off pw h h' → Q (zI (ptsL w).length) h') : CALLI E mPW_countPoints [.ref 43, .ref p] h Q := by
  refine fPW_countPoints hp (sPW_begin hp hd hw fun h1 ho hb hs => ?_)
  have hlen := ptsL_len hw
  have key : ∀ (l : List Int) (a : Int) (c : Nat) (h1 : Mem), Off pw h h1 → PS h1 w a → ptsR w a (hor w - a).toNat = l → c + l.length = (ptsL w).length → WP E mPW_countPoints 7 [some (.ref 43), some (.ref p), some (.int (zI c))] [] h1 (qI Q) := by
    intro l
    induction l with
    | nil =>
      intro a c h1 ho hs hl hc
      simp only [List.length_nil, Nat.add_zero] at hc
      refine fPW_countPoints_7 hp ?_
      simp (disch := omega) only [zI_add, zI_sub, zI_mul, zI_neg, zI_lt, zI_le, zI_eq, zI_div, zI_rem, ix_zI, inb_zI, nz_zI, imax_zI, imin_zI, c_t, nb01.1, nb01.2, zl_0, zl_1, zl_2, zl_3, zl_4, zl_5, zl_6, zl_7, zl_8, zl_9, zl_10, zl_11, zl_12, zl_13, zl_14, zl_15, zl_16, zl_17, zl_18, zl_19, zl_20, zl_24, zl_30, zl_31, zl_36, zl_42, zl_44, zl_48, zl_57, zl_58, zl_59, zl_60, zl_61, zl_62, zl_63, zl_64, zl_72, zl_73, zl_96, zl_99, zl_100, zl_104, zl_107, zl_111, zl_114, zl_116, zl_120, zl_200, zl_255, zl_256, zl_360, zl_600, zl_800, zl_1000, zl_2000]
      refine ⟨fun _ => by rw [hc]; exact hq _ ho, fun _ => sPW_goOn hp (hd.pw hp ho) hw hs (fun _ h' ho' => ?_) (fun t ht => by rw [hl] at ht; cases ht)⟩
      simp (disch := omega) only [zI_add, zI_sub, zI_mul, zI_neg, zI_lt, zI_le, zI_eq, zI_div, zI_rem, ix_zI, inb_zI, nz_zI, imax_zI, imin_zI, c_t, nb01.1, nb01.2, zl_0, zl_1, zl_2, zl_3, zl_4, zl_5, zl_6, zl_7, zl_8, zl_9, zl_10, zl_11, zl_12, zl_13, zl_14, zl_15, zl_16, zl_17, zl_18, zl_19, zl_20, zl_24, zl_30, zl_31, zl_36, zl_42, zl_44, zl_48, zl_57, zl_58, zl_59, zl_60, zl_61, zl_62, zl_63, zl_64, zl_72, zl_73, zl_96, zl_99, zl_100, zl_104, zl_107, zl_111, zl_114, zl_116, zl_120, zl_200, zl_255, zl_256, zl_360, zl_600, zl_800, zl_1000, zl_2000]
      exact ⟨fun _ => by rw [hc]; exact hq _ (ho.tr ho'), fun z => absurd trivial z⟩
    | cons t l ih =>
      intro a c h1 ho hs hl hc
      simp only [List.length_cons] at hc
      refine fPW_countPoints_7 hp ?_
      simp (disch := omega) only [zI_add, zI_sub, zI_mul, zI_neg, zI_lt, zI_le, zI_eq, zI_div, zI_rem, ix_zI, inb_zI, nz_zI, imax_zI, imin_zI, c_t, nb01.1, nb01.2, zl_0, zl_1, zl_2, zl_3, zl_4, zl_5, zl_6, zl_7, zl_8, zl_9, zl_10, zl_11, zl_12, zl_13, zl_14, zl_15, zl_16, zl_17, zl_18, zl_19, zl_20, zl_24, zl_30, zl_31, zl_36, zl_42, zl_44, zl_48, zl_57, zl_58, zl_59, zl_60, zl_61, zl_62, zl_63, zl_64, zl_72, zl_73, zl_96, zl_99, zl_100, zl_104, zl_107, zl_111, zl_114, zl_116, zl_120, zl_200, zl_255, zl_256, zl_360, zl_600, zl_800, zl_1000, zl_2000]
      refine ⟨fun z => by omega, fun _ => sPW_goOn hp (hd.pw hp ho) hw hs (fun h0 => by rw [hl] at h0; cases h0) (fun t' ht h1t h' ho' hs' => ?_)⟩
      rw [hl] at ht
      injection ht with ht1 ht2
      simp (disch := omega) only [zI_add, zI_sub, zI_mul, zI_neg, zI_lt, zI_le, zI_eq, zI_div, zI_rem, ix_zI, inb_zI, nz_zI, imax_zI, imin_zI, c_t, nb01.1, nb01.2, zl_0, zl_1, zl_2, zl_3, zl_4, zl_5, zl_6, zl_7, zl_8, zl_9, zl_10, zl_11, zl_12, zl_13, zl_14, zl_15, zl_16, zl_17, zl_18, zl_19, zl_20, zl_24, zl_30, zl_31, zl_36, zl_42, zl_44, zl_48, zl_57, zl_58, zl_59, zl_60, zl_61, zl_62, zl_63, zl_64, zl_72, zl_73, zl_96, zl_99, zl_100, zl_104, zl_107, zl_111, zl_114, zl_116, zl_120, zl_200, zl_255, zl_256, zl_360, zl_600, zl_800, zl_1000, zl_2000]
      exact ⟨fun z => by omega, fun _ => ih t' (c + 1) h' (ho.tr ho') hs' ht2.symm (by omega)⟩
  exact key (ptsL w) 0 0 h1 ho hs (by rw [Int.sub_zero]; rfl) (by omega)
theorem sPW_point {Q : Int32 → Mem → Prop} {i : Int} (hp : isP p) (hd : DW h p w) (hw : WF w) (hi : 0 ≤ i ∧ i < 2147483648) (hq : ∀ h', Off pw h h' → Q (zI (if i < (ptsL w).length then (ptsL w).getD i.toNat 0 else -9)) h') : CALLI E mPW_pointAt [.ref 43, .ref p, .int (zI i)] h Q := by
  refine fPW_pointAt hp (sPW_begin hp hd hw fun h1 ho hb hs => ?_)
  have hlen := ptsL_len hw
  have key : ∀ (l : List Int) (a : Int) (c : Nat) (h1 : Mem), Off pw h h1 → PS h1 w a → ptsR w a (hor w - a).toNat = l → (ptsL w).drop c = l → c ≤ (ptsL w).length → (c : Int) ≤ i → WP E mPW_pointAt 7 [some (.ref 43), some (.ref p), some (.int (zI i)), some (.int (zI c))] [] h1 (qI Q) := by
    intro l
    induction l with
    | nil =>
      intro a c h1 ho hs hl hd' hc1 hc
      have hcl : (ptsL w).length ≤ c := by simpa using hd'
      rw [if_neg (by omega)] at hq
      refine fPW_pointAt_7 hp ?_
      simp (disch := omega) only [zI_add, zI_sub, zI_mul, zI_neg, zI_lt, zI_le, zI_eq, zI_div, zI_rem, ix_zI, inb_zI, nz_zI, imax_zI, imin_zI, c_t, nb01.1, nb01.2, zl_0, zl_1, zl_2, zl_3, zl_4, zl_5, zl_6, zl_7, zl_8, zl_9, zl_10, zl_11, zl_12, zl_13, zl_14, zl_15, zl_16, zl_17, zl_18, zl_19, zl_20, zl_24, zl_30, zl_31, zl_36, zl_42, zl_44, zl_48, zl_57, zl_58, zl_59, zl_60, zl_61, zl_62, zl_63, zl_64, zl_72, zl_73, zl_96, zl_99, zl_100, zl_104, zl_107, zl_111, zl_114, zl_116, zl_120, zl_200, zl_255, zl_256, zl_360, zl_600, zl_800, zl_1000, zl_2000]
      refine ⟨fun _ => hq _ ho, fun _ => sPW_goOn hp (hd.pw hp ho) hw hs (fun _ h' ho' => ?_) (fun t ht => by rw [hl] at ht; cases ht)⟩
      simp (disch := omega) only [zI_add, zI_sub, zI_mul, zI_neg, zI_lt, zI_le, zI_eq, zI_div, zI_rem, ix_zI, inb_zI, nz_zI, imax_zI, imin_zI, c_t, nb01.1, nb01.2, zl_0, zl_1, zl_2, zl_3, zl_4, zl_5, zl_6, zl_7, zl_8, zl_9, zl_10, zl_11, zl_12, zl_13, zl_14, zl_15, zl_16, zl_17, zl_18, zl_19, zl_20, zl_24, zl_30, zl_31, zl_36, zl_42, zl_44, zl_48, zl_57, zl_58, zl_59, zl_60, zl_61, zl_62, zl_63, zl_64, zl_72, zl_73, zl_96, zl_99, zl_100, zl_104, zl_107, zl_111, zl_114, zl_116, zl_120, zl_200, zl_255, zl_256, zl_360, zl_600, zl_800, zl_1000, zl_2000]
      exact ⟨fun _ => hq _ (ho.tr ho'), fun z => absurd trivial z⟩
    | cons t l ih =>
      intro a c h1 ho hs hl hd' hc1 hc
      have hcl : c < (ptsL w).length := by
        rcases Nat.lt_or_ge c (ptsL w).length with q | q
        · exact q
        · rw [List.drop_eq_nil_of_le q] at hd'; cases hd'
      refine fPW_pointAt_7 hp ?_
      simp (disch := omega) only [zI_add, zI_sub, zI_mul, zI_neg, zI_lt, zI_le, zI_eq, zI_div, zI_rem, ix_zI, inb_zI, nz_zI, imax_zI, imin_zI, c_t, nb01.1, nb01.2, zl_0, zl_1, zl_2, zl_3, zl_4, zl_5, zl_6, zl_7, zl_8, zl_9, zl_10, zl_11, zl_12, zl_13, zl_14, zl_15, zl_16, zl_17, zl_18, zl_19, zl_20, zl_24, zl_30, zl_31, zl_36, zl_42, zl_44, zl_48, zl_57, zl_58, zl_59, zl_60, zl_61, zl_62, zl_63, zl_64, zl_72, zl_73, zl_96, zl_99, zl_100, zl_104, zl_107, zl_111, zl_114, zl_116, zl_120, zl_200, zl_255, zl_256, zl_360, zl_600, zl_800, zl_1000, zl_2000]
      refine ⟨fun z => by omega, fun _ => sPW_goOn hp (hd.pw hp ho) hw hs (fun h0 => by rw [hl] at h0; cases h0) (fun t' ht h1t h' ho' hs' => ?_)⟩
      rw [hl] at ht
      injection ht with ht1 ht2
      have hg : (ptsL w).getD c 0 = t := by
        have e : (ptsL w)[c]? = some t := by
          have := congrArg (fun l => l[0]?) hd'
          simpa using this
        simp [List.getD, e]
      simp (disch := omega) only [zI_add, zI_sub, zI_mul, zI_neg, zI_lt, zI_le, zI_eq, zI_div, zI_rem, ix_zI, inb_zI, nz_zI, imax_zI, imin_zI, c_t, nb01.1, nb01.2, zl_0, zl_1, zl_2, zl_3, zl_4, zl_5, zl_6, zl_7, zl_8, zl_9, zl_10, zl_11, zl_12, zl_13, zl_14, zl_15, zl_16, zl_17, zl_18, zl_19, zl_20, zl_24, zl_30, zl_31, zl_36, zl_42, zl_44, zl_48, zl_57, zl_58, zl_59, zl_60, zl_61, zl_62, zl_63, zl_64, zl_72, zl_73, zl_96, zl_99, zl_100, zl_104, zl_107, zl_111, zl_114, zl_116, zl_120, zl_200, zl_255, zl_256, zl_360, zl_600, zl_800, zl_1000, zl_2000]
      refine ⟨fun z => by omega, fun _ => ⟨fun z => ih t' (c + 1) h' (ho.tr ho') hs' ht2.symm ?_ (by omega) (by omega), fun z => ?_⟩⟩
      · rw [← List.tail_drop, hd']; rfl
      · rw [hs'.2.1]
        have := hq h' (ho.tr ho')
        rw [if_pos (by omega), show i.toNat = c by omega, hg, ht1] at this
        exact this
  exact key (ptsL w) 0 0 h1 ho hs (by rw [Int.sub_zero]; rfl) rfl (by omega) (by omega)
theorem sPW_miss {Q : Int32 → Mem → Prop} (hp : isP p) (hd : DW h p w) (hw : WF w) (hq : ∀ h', Off pw h h' → Q (zI (missT w)) h') : CALLI E mPW_missTime [.ref 43, .ref p] h Q := by
  refine fPW_missTime hp (sPW_begin hp hd hw fun h1 ho hb hs => ?_)
  have hlen := ptsL_len hw
  have hbz := hor_b hw
  have key : ∀ (l : List Int) (a : Int) (c : Nat) (h1 : Mem), Off pw h h1 → PS h1 w a → ptsR w a (hor w - a).toNat = l → c + l.length ≤ 600 → missR w l = missT w → WP E mPW_missTime 7 [some (.ref 43), some (.ref p), some (.int (zI c))] [] h1 (qI Q) := by
    intro l
    induction l with
    | nil =>
      intro a c h1 ho hs hl hc hm
      have hq9 : ∀ h', Off pw h h' → Q (zI (-9)) h' := fun h' ho' => by
        have := hq h' ho'
        rw [← hm] at this
        exact this
      simp only [List.length_nil, Nat.add_zero] at hc
      refine fPW_missTime_7 hp ?_
      simp (disch := omega) only [zI_add, zI_sub, zI_mul, zI_neg, zI_lt, zI_le, zI_eq, zI_div, zI_rem, ix_zI, inb_zI, nz_zI, imax_zI, imin_zI, c_t, nb01.1, nb01.2, zl_0, zl_1, zl_2, zl_3, zl_4, zl_5, zl_6, zl_7, zl_8, zl_9, zl_10, zl_11, zl_12, zl_13, zl_14, zl_15, zl_16, zl_17, zl_18, zl_19, zl_20, zl_24, zl_30, zl_31, zl_36, zl_42, zl_44, zl_48, zl_57, zl_58, zl_59, zl_60, zl_61, zl_62, zl_63, zl_64, zl_72, zl_73, zl_96, zl_99, zl_100, zl_104, zl_107, zl_111, zl_114, zl_116, zl_120, zl_200, zl_255, zl_256, zl_360, zl_600, zl_800, zl_1000, zl_2000]
      refine ⟨fun _ => hq9 _ ho, fun _ => sPW_goOn hp (hd.pw hp ho) hw hs (fun _ h' ho' => ?_) (fun t ht => by rw [hl] at ht; cases ht)⟩
      simp (disch := omega) only [zI_add, zI_sub, zI_mul, zI_neg, zI_lt, zI_le, zI_eq, zI_div, zI_rem, ix_zI, inb_zI, nz_zI, imax_zI, imin_zI, c_t, nb01.1, nb01.2, zl_0, zl_1, zl_2, zl_3, zl_4, zl_5, zl_6, zl_7, zl_8, zl_9, zl_10, zl_11, zl_12, zl_13, zl_14, zl_15, zl_16, zl_17, zl_18, zl_19, zl_20, zl_24, zl_30, zl_31, zl_36, zl_42, zl_44, zl_48, zl_57, zl_58, zl_59, zl_60, zl_61, zl_62, zl_63, zl_64, zl_72, zl_73, zl_96, zl_99, zl_100, zl_104, zl_107, zl_111, zl_114, zl_116, zl_120, zl_200, zl_255, zl_256, zl_360, zl_600, zl_800, zl_1000, zl_2000]
      exact ⟨fun _ => hq9 _ (ho.tr ho'), fun z => absurd trivial z⟩
    | cons t l ih =>
      intro a c h1 ho hs hl hc hm
      simp only [List.length_cons] at hc
      refine fPW_missTime_7 hp ?_
      simp (disch := omega) only [zI_add, zI_sub, zI_mul, zI_neg, zI_lt, zI_le, zI_eq, zI_div, zI_rem, ix_zI, inb_zI, nz_zI, imax_zI, imin_zI, c_t, nb01.1, nb01.2, zl_0, zl_1, zl_2, zl_3, zl_4, zl_5, zl_6, zl_7, zl_8, zl_9, zl_10, zl_11, zl_12, zl_13, zl_14, zl_15, zl_16, zl_17, zl_18, zl_19, zl_20, zl_24, zl_30, zl_31, zl_36, zl_42, zl_44, zl_48, zl_57, zl_58, zl_59, zl_60, zl_61, zl_62, zl_63, zl_64, zl_72, zl_73, zl_96, zl_99, zl_100, zl_104, zl_107, zl_111, zl_114, zl_116, zl_120, zl_200, zl_255, zl_256, zl_360, zl_600, zl_800, zl_1000, zl_2000]
      refine ⟨fun z => by omega, fun _ => sPW_goOn hp (hd.pw hp ho) hw hs (fun h0 => by rw [hl] at h0; cases h0) (fun t' ht h1t h' ho' hs' => ?_)⟩
      rw [hl] at ht
      injection ht with ht1 ht2
      obtain ⟨s1, s2, s3, s4, s5⟩ := hs'
      have db := dem_b hw (t := t') (by omega)
      unfold missR at hm
      rw [s2, s3]
      simp (disch := omega) only [zI_add, zI_sub, zI_mul, zI_neg, zI_lt, zI_le, zI_eq, zI_div, zI_rem, ix_zI, inb_zI, nz_zI, imax_zI, imin_zI, c_t, nb01.1, nb01.2, zl_0, zl_1, zl_2, zl_3, zl_4, zl_5, zl_6, zl_7, zl_8, zl_9, zl_10, zl_11, zl_12, zl_13, zl_14, zl_15, zl_16, zl_17, zl_18, zl_19, zl_20, zl_24, zl_30, zl_31, zl_36, zl_42, zl_44, zl_48, zl_57, zl_58, zl_59, zl_60, zl_61, zl_62, zl_63, zl_64, zl_72, zl_73, zl_96, zl_99, zl_100, zl_104, zl_107, zl_111, zl_114, zl_116, zl_120, zl_200, zl_255, zl_256, zl_360, zl_600, zl_800, zl_1000, zl_2000]
      refine ⟨fun z => by omega, fun _ => ⟨fun z => ih t' (c + 1) h' (ho.tr ho') ⟨s1, s2, s3, s4, s5⟩ ht2.symm (by omega) ?_, fun z => ?_⟩⟩
      · rw [if_neg (by rw [ht1]; omega)] at hm; exact hm
      · rw [if_pos (by rw [ht1]; omega)] at hm
        rw [← ht1, hm]
        exact hq _ (ho.tr ho')
  exact key (ptsL w) 0 0 h1 ho hs (by rw [Int.sub_zero]; rfl) (by omega) rfl
theorem sPW_spare {Q : Int32 → Mem → Prop} (hp : isP p) (hd : DW h p w) (hw : WF w) (hq : ∀ h', Off pw h h' → Q (zI (spR w (ptsL w) 1000)) h') : CALLI E mPW_leastSpare [.ref 43, .ref p] h Q := by
  refine fPW_leastSpare hp (sPW_begin hp hd hw fun h1 ho hb hs => ?_)
  have hlen := ptsL_len hw
  have hbz := hor_b hw
  have key : ∀ (l : List Int) (a s : Int) (c : Nat) (h1 : Mem), Off pw h h1 → PS h1 w a → ptsR w a (hor w - a).toNat = l → c + l.length ≤ 600 → -1000000 ≤ s → s ≤ 1000 → spR w l s = spR w (ptsL w) 1000 → WP E mPW_leastSpare 11 [some (.ref 43), some (.ref p), some (.int (zI s)), some (.int (zI c))] [] h1 (qI Q) := by
    intro l
    induction l with
    | nil =>
      intro a s c h1 ho hs hl hc hb1 hb2 hm
      have hq9 : ∀ h', Off pw h h' → Q (zI s) h' := fun h' ho' => by
        have := hq h' ho'
        rw [← hm] at this
        exact this
      simp only [List.length_nil, Nat.add_zero] at hc
      refine fPW_leastSpare_11 hp ?_
      simp (disch := omega) only [zI_add, zI_sub, zI_mul, zI_neg, zI_lt, zI_le, zI_eq, zI_div, zI_rem, ix_zI, inb_zI, nz_zI, imax_zI, imin_zI, c_t, nb01.1, nb01.2, zl_0, zl_1, zl_2, zl_3, zl_4, zl_5, zl_6, zl_7, zl_8, zl_9, zl_10, zl_11, zl_12, zl_13, zl_14, zl_15, zl_16, zl_17, zl_18, zl_19, zl_20, zl_24, zl_30, zl_31, zl_36, zl_42, zl_44, zl_48, zl_57, zl_58, zl_59, zl_60, zl_61, zl_62, zl_63, zl_64, zl_72, zl_73, zl_96, zl_99, zl_100, zl_104, zl_107, zl_111, zl_114, zl_116, zl_120, zl_200, zl_255, zl_256, zl_360, zl_600, zl_800, zl_1000, zl_2000]
      refine ⟨fun _ => hq9 _ ho, fun _ => sPW_goOn hp (hd.pw hp ho) hw hs (fun _ h' ho' => ?_) (fun t ht => by rw [hl] at ht; cases ht)⟩
      simp (disch := omega) only [zI_add, zI_sub, zI_mul, zI_neg, zI_lt, zI_le, zI_eq, zI_div, zI_rem, ix_zI, inb_zI, nz_zI, imax_zI, imin_zI, c_t, nb01.1, nb01.2, zl_0, zl_1, zl_2, zl_3, zl_4, zl_5, zl_6, zl_7, zl_8, zl_9, zl_10, zl_11, zl_12, zl_13, zl_14, zl_15, zl_16, zl_17, zl_18, zl_19, zl_20, zl_24, zl_30, zl_31, zl_36, zl_42, zl_44, zl_48, zl_57, zl_58, zl_59, zl_60, zl_61, zl_62, zl_63, zl_64, zl_72, zl_73, zl_96, zl_99, zl_100, zl_104, zl_107, zl_111, zl_114, zl_116, zl_120, zl_200, zl_255, zl_256, zl_360, zl_600, zl_800, zl_1000, zl_2000]
      exact ⟨fun _ => hq9 _ (ho.tr ho'), fun z => absurd trivial z⟩
    | cons t l ih =>
      intro a s c h1 ho hs hl hc hb1 hb2 hm
      simp only [List.length_cons] at hc
      refine fPW_leastSpare_11 hp ?_
      simp (disch := omega) only [zI_add, zI_sub, zI_mul, zI_neg, zI_lt, zI_le, zI_eq, zI_div, zI_rem, ix_zI, inb_zI, nz_zI, imax_zI, imin_zI, c_t, nb01.1, nb01.2, zl_0, zl_1, zl_2, zl_3, zl_4, zl_5, zl_6, zl_7, zl_8, zl_9, zl_10, zl_11, zl_12, zl_13, zl_14, zl_15, zl_16, zl_17, zl_18, zl_19, zl_20, zl_24, zl_30, zl_31, zl_36, zl_42, zl_44, zl_48, zl_57, zl_58, zl_59, zl_60, zl_61, zl_62, zl_63, zl_64, zl_72, zl_73, zl_96, zl_99, zl_100, zl_104, zl_107, zl_111, zl_114, zl_116, zl_120, zl_200, zl_255, zl_256, zl_360, zl_600, zl_800, zl_1000, zl_2000]
      refine ⟨fun z => by omega, fun _ => sPW_goOn hp (hd.pw hp ho) hw hs (fun h0 => by rw [hl] at h0; cases h0) (fun t' ht h1t h' ho' hs' => ?_)⟩
      rw [hl] at ht
      injection ht with ht1 ht2
      obtain ⟨s1, s2, s3, s4, s5⟩ := hs'
      have db := dem_b hw (t := t') (by omega)
      rw [s2, s3]
      simp (disch := omega) only [zI_add, zI_sub, zI_mul, zI_neg, zI_lt, zI_le, zI_eq, zI_div, zI_rem, ix_zI, inb_zI, nz_zI, imax_zI, imin_zI, c_t, nb01.1, nb01.2, zl_0, zl_1, zl_2, zl_3, zl_4, zl_5, zl_6, zl_7, zl_8, zl_9, zl_10, zl_11, zl_12, zl_13, zl_14, zl_15, zl_16, zl_17, zl_18, zl_19, zl_20, zl_24, zl_30, zl_31, zl_36, zl_42, zl_44, zl_48, zl_57, zl_58, zl_59, zl_60, zl_61, zl_62, zl_63, zl_64, zl_72, zl_73, zl_96, zl_99, zl_100, zl_104, zl_107, zl_111, zl_114, zl_116, zl_120, zl_200, zl_255, zl_256, zl_360, zl_600, zl_800, zl_1000, zl_2000]
      refine ⟨fun z => by omega, fun _ => ih t' _ (c + 1) h' (ho.tr ho') ⟨s1, s2, s3, s4, s5⟩ ht2.symm (by omega) (by omega) (by omega) ?_⟩
      rw [← hm, ht1]
      rfl
  exact key (ptsL w) 0 1000 0 h1 ho hs (by rw [Int.sub_zero]; rfl) (by omega) (by omega) (by omega) rfl
end PW
