/-! ===== whatIs, the reference's; judge ===== -/
/-- the reference's scratch, its numbers' row too -/
def K1 (h h' : Mem) : Prop := (∀ q, ¬ (q = 60 ∨ q = 61 ∨ q = 63 ∨ (67 ≤ q ∧ q ≤ 76)) → h' q = h q) ∧ h' 60 3 = h 60 3 ∧ h' 60 6 = h 60 6 ∧ h' 60 8 = h 60 8
theorem K1.rf {h : Mem} : K1 h h := ⟨fun _ _ => rfl, rfl, rfl, rfl⟩
theorem K1.tr {a b c : Mem} (h1 : K1 a b) (h2 : K1 b c) : K1 a c := ⟨fun q hq => (h2.1 q hq).trans (h1.1 q hq), h2.2.1.trans h1.2.1, h2.2.2.1.trans h1.2.2.1, h2.2.2.2.trans h1.2.2.2⟩
theorem KM.k1 {h h' : Mem} (k : KM h h') : K1 h h' := ⟨fun q hq => k.1 q (by omega), k.2.1, k.2.2.1, k.2.2.2.1⟩
theorem K1.up {h h' : Mem} {p i : Nat} {x : Int32} (hp : p = 61 ∨ p = 63) (k : K1 h h') : K1 h (upd2 h' p i x) := by
  have e : ∀ q, q ≠ p → upd2 h' p i x q = h' q := upd2_ne
  exact ⟨fun q hq => (e q (by omega)).trans (k.1 q hq), by rw [e 60 (by omega)]; exact k.2.1, by rw [e 60 (by omega)]; exact k.2.2.1, by rw [e 60 (by omega)]; exact k.2.2.2⟩
theorem K1.of {h h' : Mem} {p : Nat} (hp : p = 61 ∨ p = 63) (f : ∀ q, q ≠ p → h' q = h q) : K1 h h' := ⟨fun q hq => f q (by omega), by rw [f 60 (by omega)], by rw [f 60 (by omega)], by rw [f 60 (by omega)]⟩
theorem K1.sb {h h' : Mem} {s : St} {w' : Int → Int} (k : K1 h h') (hb : SB h s) (hm : RW (h' 61) w') : SB h' (newW s w') :=
  ⟨hm, by rw [k.2.1]; exact hb.has, fun z => by rw [k.1 62 (by omega)]; exact hb.k z, fun i hi => by rw [k.1 64 (by omega)]; exact hb.rf i hi, by rw [k.2.2.1]; exact hb.rn, fun i hi => by rw [k.1 65 (by omega)]; exact hb.row i hi, by rw [k.2.2.2]; exact hb.ln, fun i hi => by rw [k.1 66 (by omega)]; exact hb.lt i hi⟩
theorem newW_self (s : St) : newW s s.w = s := rfl
theorem K1.sb0 {h h' : Mem} {s : St} (k : K1 h h') (hb : SB h s) (hm : RW (h' 61) s.w) : SB h' s := by
  have := k.sb hb hm
  rwa [newW_self] at this
theorem K1.fb {h h' : Mem} (k : K1 h h') : FB h h' := fun q hq => k.1 q (by omega)
theorem ks_30 {w : Int → Int} {t v : Int} : fset w (30 + t) v = kset w t v (w (36 + t)) := by
  funext x
  unfold kset
  by_cases e : x = 36 + t
  · rw [e, fs_eq, fs_ne (by omega)]
  · rw [fs_ne (x := x) (j := 36 + t) e]
theorem ks_36 {w : Int → Int} {t v : Int} : fset w (36 + t) v = kset w t (w (30 + t)) v := by
  funext x
  unfold kset
  by_cases e : x = 30 + t
  · rw [e, fs_ne (by omega), fs_ne (by omega), fs_eq]
  · unfold fset
    split
    · rfl
    · first
        | rfl
        | rw [if_neg e]
theorem fs_fs {w : Int → Int} {j a b : Int} : fset (fset w j a) j b = fset w j b := by
  funext x
  unfold fset
  split <;> rfl
theorem fs_self {w : Int → Int} {j : Int} : fset w j (w j) = w := by
  funext x
  unfold fset
  split
  · rename_i e; rw [e]
  · rfl
section WM
variable {E : XE} {h : Mem} {s : St} {Q : Int32 → Mem → Prop}
theorem qM_whatIs {t a : Int} (hv : SV s) (hb : SB h s) (ht : I32 t) (hi : I32 a) (hq : ∀ h', SB h' (s.rfd (cWhat s.w t a)) → FB h h' → Q (zI (cAns (cWhat s.w t a) (whatS s t a))) h') : CALLI E mM_whatIs [.ref 60, .int (zI t), .int (zI a)] h Q := by
  refine fM_whatIs (sM_isTask hb.w hv.w ht ?_)
  have hneg : ∀ c, cWhat s.w t a = c → c ≠ 0 → c ≤ 6 → CALLI E mM_refused [.ref 60, .int (zI (-(c : Nat)))] h Q := fun c e n l => sM_refused hb n l fun h' a b => by
    have hq := hq h' (by rw [e]; exact a) b
    rw [e, cAns_lt n] at hq
    exact hq
  unfold cWhat at hneg
  unfold I32 at hi
  by_cases c : 0 ≤ t ∧ t < s.w 72
  · rw [if_pos c]
    rw [cTask_0.mpr c] at hneg
    have bt := hv.w.at c.1 c.2
    refine ⟨fun _ => ?_, fun z => absurd z (by decide)⟩
    simp (disch := omega) only [zI_add, zI_sub, zI_mul, zI_neg, zI_lt, zI_le, zI_eq, zI_div, zI_rem, ix_zI, inb_zI, nz_zI, imax_zI, imin_zI, c_t, nb01.1, nb01.2, zl_0, zl_1, zl_2, zl_3, zl_4, zl_5, zl_6, zl_7, zl_8, zl_9, zl_10, zl_11, zl_12, zl_13, zl_14, zl_15, zl_16, zl_17, zl_18, zl_19, zl_20, zl_24, zl_30, zl_31, zl_36, zl_42, zl_44, zl_48, zl_57, zl_58, zl_59, zl_60, zl_61, zl_62, zl_63, zl_64, zl_72, zl_73, zl_96, zl_99, zl_100, zl_104, zl_107, zl_111, zl_114, zl_116, zl_120, zl_200, zl_255, zl_256, zl_360, zl_600, zl_800, zl_1000, zl_2000, zI_L, lg_ltz, lg_gtz, zL_add, zL_sub, zL_mul, zL_div, zL_rem, nzL_zL, zm_0, zm_1, zm_2, zm_5, zm_8, zm_9, zm_15, zm_16, zm_11, zm_20, zm_59, zm_60, zm_96, zm_99, zm_255, zm_600, zm_2147483647, zm_4000000000000000000, zm_3, zm_48, zm_57]
    refine sM_in (by omega) (by omega) (by omega) ?_
    by_cases c2 : 0 ≤ a ∧ a ≤ 1
    · rw [if_pos c2]
      have hc : cWhat s.w t a = 0 := by unfold cWhat; rw [cTask_0.mpr c, cOth_0.mpr (show 0 ≤ a ∧ a < 2 by omega)]; rfl
      rw [hc] at hq
      have hq : ∀ h', SB h' s → FB h h' → Q (zI (whatS s t a)) h' := hq
      have K : ∀ (at_ : Int) (n : Nat) (f : Int → Int → Int), (a = 0 ∧ at_ = 30 + t ∧ n = 6 ∨ a = 1 ∧ at_ = 36 + t ∧ n = 10) →
          ∀ (j k : Nat) (h1 : Mem) (w1 : Int → Int), k + j = n → K1 h h1 → RW (h1 61) w1 → (∀ v, fset w1 at_ v = fset s.w at_ v) → WP E mM_whatIs 59 [some (.ref 60), none, some (.int (zI a)), some (.int (zI at_)), some (.int (zI (s.w at_))), some (.int (zI (maskK (fun v => begS (fset s.w at_ v) s.rn s.row) k : Nat))), some (.int (zI k))] [] h1 (qI Q) := by
        intro at_ n f hat j
        induction j with
        | zero =>
          intro k h1 w1 hk k1 r1 ew
          refine fM_whatIs_59 ?_
          have r2 := r1.up (j := at_) (v := s.w at_) (by omega) (by omega)
          rw [ew, fs_self] at r2
          have fin := hq _ ((k1.up (p := 61) (i := at_.toNat) (x := zI (s.w at_)) (Or.inl rfl)).sb0 hb r2) (k1.up (Or.inl rfl)).fb
          have wa : whatS s t a = (maskK (fun v => begS (fset s.w at_ v) s.rn s.row) k : Nat) := by
            unfold whatS
            rcases hat with ⟨e1, e2, e3⟩ | ⟨e1, e2, e3⟩
            · rw [if_pos e1, e2, show k = 6 by omega]
              simp only [ks_30]
            · rw [if_neg (by omega), e2, show k = 10 by omega]
              simp only [ks_36]
          rw [wa] at fin
          simp (disch := omega) only [zI_add, zI_sub, zI_mul, zI_neg, zI_lt, zI_le, zI_eq, zI_div, zI_rem, ix_zI, inb_zI, nz_zI, imax_zI, imin_zI, c_t, nb01.1, nb01.2, zl_0, zl_1, zl_2, zl_3, zl_4, zl_5, zl_6, zl_7, zl_8, zl_9, zl_10, zl_11, zl_12, zl_13, zl_14, zl_15, zl_16, zl_17, zl_18, zl_19, zl_20, zl_24, zl_30, zl_31, zl_36, zl_42, zl_44, zl_48, zl_57, zl_58, zl_59, zl_60, zl_61, zl_62, zl_63, zl_64, zl_72, zl_73, zl_96, zl_99, zl_100, zl_104, zl_107, zl_111, zl_114, zl_116, zl_120, zl_200, zl_255, zl_256, zl_360, zl_600, zl_800, zl_1000, zl_2000]
          refine ⟨fun z => ⟨fun _ => fin, fun z2 => by omega⟩, fun z => ⟨fun _ => fin, fun z2 => by omega⟩⟩
        | succ j ih =>
          intro k h1 w1 hk k1 r1 ew
          refine fM_whatIs_59 ?_
          have r2 := r1.up (j := at_) (v := (k : Int)) (by omega) (by omega)
          rw [ew] at r2
          have k2 := k1.up (p := 61) (i := at_.toNat) (x := zI (k : Int)) (Or.inl rfl)
          have hwn : WF (fset s.w at_ k) := by
            rcases hat with ⟨e1, e2, e3⟩ | ⟨e1, e2, e3⟩
            · rw [e2, ks_30]; exact hv.w.kst c.1 c.2 (by omega) (by omega)
            · rw [e2, ks_36]; exact hv.w.kst c.1 c.2 (by omega) (by omega)
          have ml := maskK_lt (fun v => begS (fset s.w at_ v) s.rn s.row) k
          have m6 : (2 : Nat) ^ k ≤ 2 ^ 10 := Nat.pow_le_pow_right (by omega) (by omega)
          have hnext := fun h' d o => ih (k + 1) h' (fset s.w at_ k) (by omega) o d (fun v => fs_fs)
          have e1 : ((k + 1 : Nat) : Int) = (k : Int) + 1 := by omega
          have em : maskK (fun v => begS (fset s.w at_ v) s.rn s.row) (k + 1) = if begS (fset s.w at_ k) s.rn s.row = true then maskK (fun v => begS (fset s.w at_ v) s.rn s.row) k ||| 2 ^ k else maskK (fun v => begS (fset s.w at_ v) s.rn s.row) k := rfl
          rw [e1, em] at hnext
          have n6 : upd2 h1 61 at_.toNat (zI (k : Int)) 60 6 = zI s.rn := k2.2.2.1.trans hb.rn
          have body : CALLI E mM_beginsSo [.ref 60] (upd2 h1 61 at_.toNat (zI (k : Int))) fun v1 h1 => (v1 = zI 0 → WP E mM_whatIs 59 [some (.ref 60), none, some (.int (zI a)), some (.int (zI at_)), some (.int (zI (s.w at_))), some (.int (zI (maskK (fun v => begS (fset s.w at_ v) s.rn s.row) k : Nat) ||| zI 0)), some (.int (zI (k + 1)))] [] h1 (qI Q)) ∧ (¬ v1 = zI 0 → WP E mM_whatIs 59 [some (.ref 60), none, some (.int (zI a)), some (.int (zI at_)), some (.int (zI (s.w at_))), some (.int (zI (maskK (fun v => begS (fset s.w at_ v) s.rn s.row) k : Nat) ||| shl (zI 1) (zI k))), some (.int (zI (k + 1)))] [] h1 (qI Q)) := by
            refine sM_beginsSo r2 hwn n6 (fun i hi => by rw [k2.1 65 (by omega)]; exact hb.row i hi) hv.rb fun h3 k3 => ?_
            have hnext := hnext h3 (k3.w r2) (k2.tr k3.k1)
            by_cases cb : begS (fset s.w at_ k) s.rn s.row = true
            · rw [if_pos cb] at hnext ⊢
              rw [or_k10z (by omega) ml]
              exact ⟨fun z => absurd z (by decide), fun _ => hnext⟩
            · rw [if_neg cb] at hnext ⊢
              rw [show ∀ x : Int32, x ||| zI 0 = x from fun x => Int32.or_zero]
              exact ⟨fun _ => hnext, fun z => absurd rfl z⟩
          simp (disch := omega) only [zI_add, zI_sub, zI_mul, zI_neg, zI_lt, zI_le, zI_eq, zI_div, zI_rem, ix_zI, inb_zI, nz_zI, imax_zI, imin_zI, c_t, nb01.1, nb01.2, zl_0, zl_1, zl_2, zl_3, zl_4, zl_5, zl_6, zl_7, zl_8, zl_9, zl_10, zl_11, zl_12, zl_13, zl_14, zl_15, zl_16, zl_17, zl_18, zl_19, zl_20, zl_24, zl_30, zl_31, zl_36, zl_42, zl_44, zl_48, zl_57, zl_58, zl_59, zl_60, zl_61, zl_62, zl_63, zl_64, zl_72, zl_73, zl_96, zl_99, zl_100, zl_104, zl_107, zl_111, zl_114, zl_116, zl_120, zl_200, zl_255, zl_256, zl_360, zl_600, zl_800, zl_1000, zl_2000]
          exact ⟨fun z => ⟨fun z2 => by omega, fun _ => body⟩, fun z => ⟨fun z2 => by omega, fun _ => body⟩⟩
      simp (disch := omega) only [zI_add, zI_sub, zI_mul, zI_neg, zI_lt, zI_le, zI_eq, zI_div, zI_rem, ix_zI, inb_zI, nz_zI, imax_zI, imin_zI, c_t, nb01.1, nb01.2, zl_0, zl_1, zl_2, zl_3, zl_4, zl_5, zl_6, zl_7, zl_8, zl_9, zl_10, zl_11, zl_12, zl_13, zl_14, zl_15, zl_16, zl_17, zl_18, zl_19, zl_20, zl_24, zl_30, zl_31, zl_36, zl_42, zl_44, zl_48, zl_57, zl_58, zl_59, zl_60, zl_61, zl_62, zl_63, zl_64, zl_72, zl_73, zl_96, zl_99, zl_100, zl_104, zl_107, zl_111, zl_114, zl_116, zl_120, zl_200, zl_255, zl_256, zl_360, zl_600, zl_800, zl_1000, zl_2000, hb.w _]
      refine ⟨fun _ => ⟨fun z => ?_, fun z => ?_⟩, fun z => absurd z (by omega)⟩
      · exact K (36 + t) 10 (fun x _ => x) (Or.inr ⟨by omega, rfl, rfl⟩) 10 0 h s.w rfl K1.rf hb.w (fun _ => rfl)
      · exact K (30 + t) 6 (fun x _ => x) (Or.inl ⟨z, rfl, rfl⟩) 6 0 h s.w rfl K1.rf hb.w (fun _ => rfl)
    · rw [if_neg c2]
      simp (disch := omega) only [zI_add, zI_sub, zI_mul, zI_neg, zI_lt, zI_le, zI_eq, zI_div, zI_rem, ix_zI, inb_zI, nz_zI, imax_zI, imin_zI, c_t, nb01.1, nb01.2, zl_0, zl_1, zl_2, zl_3, zl_4, zl_5, zl_6, zl_7, zl_8, zl_9, zl_10, zl_11, zl_12, zl_13, zl_14, zl_15, zl_16, zl_17, zl_18, zl_19, zl_20, zl_24, zl_30, zl_31, zl_36, zl_42, zl_44, zl_48, zl_57, zl_58, zl_59, zl_60, zl_61, zl_62, zl_63, zl_64, zl_72, zl_73, zl_96, zl_99, zl_100, zl_104, zl_107, zl_111, zl_114, zl_116, zl_120, zl_200, zl_255, zl_256, zl_360, zl_600, zl_800, zl_1000, zl_2000]
      exact ⟨fun z => absurd trivial z, fun _ => hneg 2 (by rw [cOth_2 (by omega)]; rfl) (by omega) (by omega)⟩
  · rw [if_neg c]
    exact ⟨fun z => absurd rfl z, fun _ => hneg 1 (by rw [cTask_1 c]; rfl) (by omega) (by omega)⟩
end WM
def dueS (w : Int → Int) (pol k : Int) : Int := if w (42 + k) = 1 then (if respS w pol k = -9 then 0 else respS w pol k) else 0
def judR (s : St) (pol : Int) : Nat → Nat → Int
  | 0, _ => -9
  | f + 1, k => if s.rn ≤ k ∧ s.w 72 ≤ (k : Int) then -9 else if s.rn ≤ k ∨ s.w 72 ≤ (k : Int) then (k : Int) else if s.row k = dueS s.w pol k then judR s pol f (k + 1) else (k : Int)
def judS (s : St) (pol : Int) : Int := judR s pol 9 0
def judSt (s : St) (pol : Int) : St := if cOth pol 3 = 0 then clSt s else s.rfd (cOth pol 3)
section JU
variable {E : XE} {h : Mem} {s : St} {Q : Int32 → Mem → Prop}
theorem sC_dueInRow {pol k : Int} (hv : SV s) (ha : SA h s) (hp : 0 ≤ pol ∧ pol < 3) (k0 : 0 ≤ k) (k1 : k < s.w 72) (hq : ∀ h', Off cs h h' → Q (zI (dueS s.w pol k)) h') : CALLI E mC_dueInRow [.ref 0, .int (zI pol), .int (zI k)] h Q := by
  have hn := hv.w.1
  refine fC_dueInRow (sD_isOn (Or.inl rfl) ha.w hv.w (by omega) ?_)
  unfold dueS at hq
  by_cases c : s.w (42 + k) = 1
  · rw [if_pos ⟨k0, k1, c⟩]
    simp only [if_pos c] at hq
    refine ⟨fun _ => sRS_settleBy (Or.inl rfl) (Or.inl rfl) ha.w hv.w k0 k1 hp fun h' ho hr => ?_, fun z => absurd z (by decide)⟩
    have rb := resp_b hv.w k0 k1 (aheadM s.w pol k) (behM s.w (aheadM s.w pol k) k)
    have hq := hq h' (ho.mono fun _ => rs_cs)
    unfold respS at hq
    simp (disch := omega) only [zI_add, zI_sub, zI_mul, zI_neg, zI_lt, zI_le, zI_eq, zI_div, zI_rem, ix_zI, inb_zI, nz_zI, imax_zI, imin_zI, c_t, nb01.1, nb01.2, zl_0, zl_1, zl_2, zl_3, zl_4, zl_5, zl_6, zl_7, zl_8, zl_9, zl_10, zl_11, zl_12, zl_13, zl_14, zl_15, zl_16, zl_17, zl_18, zl_19, zl_20, zl_24, zl_30, zl_31, zl_36, zl_42, zl_44, zl_48, zl_57, zl_58, zl_59, zl_60, zl_61, zl_62, zl_63, zl_64, zl_72, zl_73, zl_96, zl_99, zl_100, zl_104, zl_107, zl_111, zl_114, zl_116, zl_120, zl_200, zl_255, zl_256, zl_360, zl_600, zl_800, zl_1000, zl_2000]
    refine ⟨fun z => ?_, fun z => ?_⟩
    · rw [if_neg z] at hq; exact hq
    · rw [if_pos z] at hq; exact hq
  · rw [if_neg (fun z => c z.2.2)]
    simp only [if_neg c] at hq
    exact ⟨fun z => absurd rfl z, fun _ => hq h Off.rf⟩
theorem dueS_b {w : Int → Int} (hw : WF w) {pol k : Int} (k0 : 0 ≤ k) (k1 : k < w 72) : 0 ≤ dueS w pol k ∧ dueS w pol k ≤ 100000000 := by
  have rb := resp_b hw k0 k1 (aheadM w pol k) (behM w (aheadM w pol k) k)
  unfold dueS respS
  split
  · split <;> omega
  · omega
theorem qC_judge {pol : Int} (hv : SV s) (ha : SA h s) (hp : I32 pol) (hq : ∀ h', SA h' (judSt s pol) → FA h h' → Q (zI (cAns (cOth pol 3) (judS s pol))) h') : CALLI E mC_judge [.ref 0, .int (zI pol)] h Q := by
  have hn := hv.w.1
  have h8 := hv.rn
  refine fC_judge (sC_otherThan (n := 3) hp (by unfold I32; omega) (sC_fin2 ha (cOth_b _ _) hq fun z K => ?_))
  rw [cOth_0] at z
  have K : ∀ h1, Off cs h h1 → Q (zI (judS s pol)) (upd2 h1 0 10 0) := fun h1 o => by
    have a1 := o.sa ha
    have e : ∀ q, q ≠ 0 → upd2 h1 0 10 0 q = h1 q := fun q hq => upd2_ne q hq
    exact K _ ⟨a1.w.kp fun q a b => e q (by omega), (u_i (by omega)).trans a1.has, fun z => (a1.k z).kp fun q a b => e q (by omega), fun i hi => by rw [e 59 (by omega)]; exact a1.rf i hi, u_s, fun i hi => absurd hi (Nat.not_lt_zero i), by rw [e 55 (by omega)]; exact a1.ln, fun i hi => by rw [e 56 (by omega)]; exact a1.lt i hi⟩ (fun q hq => (e q (by omega)).trans (o.fa q hq))
  refine fC_firstWrongInRow ?_
  rw [ha.rn, show h 1 0 = zI (s.w 72) from ha.w.n, imax_zI (by omega) (by omega) (by omega) (by omega)]
  have key : ∀ (f k : Nat) (h1 : Mem), k + f = 9 → Off cs h h1 → judR s pol f k = judS s pol → WP E mC_firstWrongInRow 17 [some (.ref 0), some (.int (zI pol)), some (.int (zI (max s.rn (s.w 72)))), some (.int (zI k))] [] h1 (qI fun v2 h2 => Q v2 (upd2 h2 0 10 0)) := by
    intro f
    induction f with
    | zero =>
      intro k h1 hk o e
      refine fC_firstWrongInRow_17 ?_
      have K := K h1 o
      rw [← e] at K
      simp (disch := omega) only [zI_add, zI_sub, zI_mul, zI_neg, zI_lt, zI_le, zI_eq, zI_div, zI_rem, ix_zI, inb_zI, nz_zI, imax_zI, imin_zI, c_t, nb01.1, nb01.2, zl_0, zl_1, zl_2, zl_3, zl_4, zl_5, zl_6, zl_7, zl_8, zl_9, zl_10, zl_11, zl_12, zl_13, zl_14, zl_15, zl_16, zl_17, zl_18, zl_19, zl_20, zl_24, zl_30, zl_31, zl_36, zl_42, zl_44, zl_48, zl_57, zl_58, zl_59, zl_60, zl_61, zl_62, zl_63, zl_64, zl_72, zl_73, zl_96, zl_99, zl_100, zl_104, zl_107, zl_111, zl_114, zl_116, zl_120, zl_200, zl_255, zl_256, zl_360, zl_600, zl_800, zl_1000, zl_2000]
      exact ⟨fun _ => K, fun z => by omega⟩
    | succ f ih =>
      intro k h1 hk o e
      refine fC_firstWrongInRow_17 ?_
      have a1 := o.sa ha
      unfold judR at e
      rw [a1.rn, show h1 1 0 = zI (s.w 72) from a1.w.n]
      simp (disch := omega) only [zI_add, zI_sub, zI_mul, zI_neg, zI_lt, zI_le, zI_eq, zI_div, zI_rem, ix_zI, inb_zI, nz_zI, imax_zI, imin_zI, c_t, nb01.1, nb01.2, zl_0, zl_1, zl_2, zl_3, zl_4, zl_5, zl_6, zl_7, zl_8, zl_9, zl_10, zl_11, zl_12, zl_13, zl_14, zl_15, zl_16, zl_17, zl_18, zl_19, zl_20, zl_24, zl_30, zl_31, zl_36, zl_42, zl_44, zl_48, zl_57, zl_58, zl_59, zl_60, zl_61, zl_62, zl_63, zl_64, zl_72, zl_73, zl_96, zl_99, zl_100, zl_104, zl_107, zl_111, zl_114, zl_116, zl_120, zl_200, zl_255, zl_256, zl_360, zl_600, zl_800, zl_1000, zl_2000]
      refine ⟨fun y => ?_, fun y => ⟨fun y2 => ?_, fun y2 => ⟨fun y3 => ?_, fun y3 => ?_⟩⟩⟩
      · rw [if_pos (by omega)] at e
        have K := K h1 o
        rw [← e] at K
        exact K
      · rw [if_neg (by omega), if_pos (by omega)] at e
        have K := K h1 o
        rw [← e] at K
        exact K
      · rw [if_neg (by omega), if_pos (by omega)] at e
        have K := K h1 o
        rw [← e] at K
        exact K
      · rw [if_neg (by omega), if_neg (by omega)] at e
        rw [show inb (zI (k : Int)) 8 = true from inb_zI (by omega) (by omega) (by omega), c_t]
        refine sC_dueInRow hv a1 z (by omega) (by omega) fun h2 o2 => ?_
        have a2 := (o.tr o2).sa ha
        have e58 : h1 58 k = zI (s.row k) := a1.row k (by omega)
        have rb := hv.row k (by omega)
        have db := dueS_b hv.w (pol := pol) (k := k) (by omega) (by omega)
        simp (disch := omega) only [zI_add, zI_sub, zI_mul, zI_neg, zI_lt, zI_le, zI_eq, zI_div, zI_rem, ix_zI, inb_zI, nz_zI, imax_zI, imin_zI, c_t, nb01.1, nb01.2, zl_0, zl_1, zl_2, zl_3, zl_4, zl_5, zl_6, zl_7, zl_8, zl_9, zl_10, zl_11, zl_12, zl_13, zl_14, zl_15, zl_16, zl_17, zl_18, zl_19, zl_20, zl_24, zl_30, zl_31, zl_36, zl_42, zl_44, zl_48, zl_57, zl_58, zl_59, zl_60, zl_61, zl_62, zl_63, zl_64, zl_72, zl_73, zl_96, zl_99, zl_100, zl_104, zl_107, zl_111, zl_114, zl_116, zl_120, zl_200, zl_255, zl_256, zl_360, zl_600, zl_800, zl_1000, zl_2000, Int.toNat_natCast, e58]
        refine ⟨fun y4 => ?_, fun y4 => ?_⟩
        · rw [if_pos y4] at e
          have := ih (k + 1) h2 (by omega) (o.tr o2) e
          rw [show ((k + 1 : Nat) : Int) = (k : Int) + 1 by omega] at this
          exact this
        · rw [if_neg y4] at e
          have K := K h2 (o.tr o2)
          rw [← e] at K
          exact K
  exact key 9 0 h rfl Off.rf rfl
theorem qM_judge {pol : Int} (hv : SV s) (hb : SB h s) (hp : I32 pol) (hq : ∀ h', SB h' (judSt s pol) → FB h h' → Q (zI (cAns (cOth pol 3) (judS s pol))) h') : CALLI E mM_judge [.ref 60, .int (zI pol)] h Q := by
  have hn := hv.w.1
  have h8 := hv.rn
  refine fM_judge (sM_isOrder hp ?_)
  by_cases c : 0 ≤ pol ∧ pol < 3
  · rw [if_pos c]
    unfold judSt at hq
    rw [cOth_0.mpr c, if_pos rfl] at hq
    refine ⟨fun _ => fM_judged ?_, fun z => absurd z (by decide)⟩
    have K : ∀ h1, KM h h1 → Q (zI (judS s pol)) (upd2 h1 60 6 0) := fun h1 k1 => by
      have b1 := k1.sb hb
      have e : ∀ q, q ≠ 60 → upd2 h1 60 6 0 q = h1 q := fun q hq => upd2_ne q hq
      exact hq _ ⟨by rw [e 61 (by omega)]; exact b1.w, (u_i (by omega)).trans b1.has, fun z => by rw [e 62 (by omega)]; exact b1.k z, fun i hi => by rw [e 64 (by omega)]; exact b1.rf i hi, u_s, fun i hi => absurd hi (Nat.not_lt_zero i), (u_i (by omega)).trans b1.ln, fun i hi => by rw [e 66 (by omega)]; exact b1.lt i hi⟩ (fun q hq => (e q (by omega)).trans (k1.fb q hq))
    have key : ∀ (f k : Nat) (h1 : Mem), k + f = 9 → KM h h1 → judR s pol f k = judS s pol → WP E mM_judged 2 [some (.ref 60), some (.int (zI pol)), some (.int (zI k)), none] [] h1 (qI fun v2 h2 => Q v2 (upd2 h2 60 6 0)) := by
      intro f
      induction f with
      | zero =>
        intro k h1 hk k1 e
        refine fM_judged_2 ?_
        have b1 := k1.sb hb
        have K := K h1 k1
        rw [← e] at K
        rw [b1.rn]
        simp (disch := omega) only [zI_add, zI_sub, zI_mul, zI_neg, zI_lt, zI_le, zI_eq, zI_div, zI_rem, ix_zI, inb_zI, nz_zI, imax_zI, imin_zI, c_t, nb01.1, nb01.2, zl_0, zl_1, zl_2, zl_3, zl_4, zl_5, zl_6, zl_7, zl_8, zl_9, zl_10, zl_11, zl_12, zl_13, zl_14, zl_15, zl_16, zl_17, zl_18, zl_19, zl_20, zl_24, zl_30, zl_31, zl_36, zl_42, zl_44, zl_48, zl_57, zl_58, zl_59, zl_60, zl_61, zl_62, zl_63, zl_64, zl_72, zl_73, zl_96, zl_99, zl_100, zl_104, zl_107, zl_111, zl_114, zl_116, zl_120, zl_200, zl_255, zl_256, zl_360, zl_600, zl_800, zl_1000, zl_2000, b1.w _]
        exact ⟨fun z => by omega, fun z => ⟨fun _ => K, fun z => by omega⟩⟩
      | succ f ih =>
        intro k h1 hk k1 e
        have b1 := k1.sb hb
        unfold judR at e
        have s21 : ¬ (s.rn ≤ k ∧ s.w 72 ≤ (k : Int)) → WP E mM_judged 21 [some (.ref 60), some (.int (zI pol)), some (.int (zI k)), none] [] h1 (qI fun v2 h2 => Q v2 (upd2 h2 60 6 0)) := by
          intro hne
          rw [if_neg hne] at e
          refine fM_judged_21 ?_
          rw [b1.rn]
          simp (disch := omega) only [zI_add, zI_sub, zI_mul, zI_neg, zI_lt, zI_le, zI_eq, zI_div, zI_rem, ix_zI, inb_zI, nz_zI, imax_zI, imin_zI, c_t, nb01.1, nb01.2, zl_0, zl_1, zl_2, zl_3, zl_4, zl_5, zl_6, zl_7, zl_8, zl_9, zl_10, zl_11, zl_12, zl_13, zl_14, zl_15, zl_16, zl_17, zl_18, zl_19, zl_20, zl_24, zl_30, zl_31, zl_36, zl_42, zl_44, zl_48, zl_57, zl_58, zl_59, zl_60, zl_61, zl_62, zl_63, zl_64, zl_72, zl_73, zl_96, zl_99, zl_100, zl_104, zl_107, zl_111, zl_114, zl_116, zl_120, zl_200, zl_255, zl_256, zl_360, zl_600, zl_800, zl_1000, zl_2000, b1.w _]
          refine ⟨fun y => ?_, fun y => ⟨fun y2 => ?_, fun y2 => ?_⟩⟩
          · rw [if_pos (by omega)] at e
            have K := K h1 k1
            rw [← e] at K
            exact K
          · rw [if_neg (by omega)] at e
            have rb := hv.row k (by omega)
            have rsb := resp_b hv.w (t := (k : Int)) (by omega) (by omega) (aheadM s.w pol k) (behM s.w (aheadM s.w pol k) k)
            have cmp : ∀ h2, KM h h2 → (zI (s.row k) = zI (dueS s.w pol k) → WP E mM_judged 2 [some (.ref 60), some (.int (zI pol)), some (.int (zI (k + 1))), none] [] h2 (qI fun v2 h2 => Q v2 (upd2 h2 60 6 0))) ∧ (¬ zI (s.row k) = zI (dueS s.w pol k) → Q (zI k) (upd2 h2 60 6 0)) := fun h2 k2 => by
              have db := dueS_b hv.w (pol := pol) (k := k) (by omega) (by omega)
              rw [zI_eq (by omega) (by omega) (by omega) (by omega)]
              refine ⟨fun y4 => ?_, fun y4 => ?_⟩
              · rw [if_pos y4] at e
                have := ih (k + 1) h2 (by omega) k2 e
                rw [show ((k + 1 : Nat) : Int) = (k : Int) + 1 by omega] at this
                exact this
              · rw [if_neg y4] at e
                have K := K h2 k2
                rw [← e] at K
                exact K
            unfold dueS at cmp
            refine sM_isOn b1.w hv.w (by omega) (by omega) ?_
            by_cases co : s.w (42 + (k : Int)) = 1
            · rw [if_pos co]
              simp only [if_pos co] at cmp
              refine ⟨fun z => absurd z (by decide), fun _ => sM_responseOf b1.w hv.w (by omega) (by omega) co (by omega) fun h2 k2 _ => ?_⟩
              have b2 := k2.sb b1
              have e65 : h2 65 k = zI (s.row k) := b2.row k (by omega)
              have cmp := cmp h2 (k1.tr k2)
              unfold respS at cmp
              have em : max 0 (resp s.w (k : Int) (aheadM s.w pol k) (behM s.w (aheadM s.w pol k) k)) = if resp s.w (k : Int) (aheadM s.w pol k) (behM s.w (aheadM s.w pol k) k) = -9 then 0 else resp s.w (k : Int) (aheadM s.w pol k) (behM s.w (aheadM s.w pol k) k) := by split <;> omega
              rw [← em] at cmp
              have hin : inb (zI (k : Int)) 8 = true := inb_zI (by omega) (by omega) (by omega)
              have hix : ix (zI (k : Int)) = k := by rw [ix_zI (by omega) (by omega)]; rfl
              rw [Int.toNat_natCast, e65, imax_zI (by omega) (by omega) (by omega) (by omega)]
              exact cmp
            · rw [if_neg co]
              simp only [if_neg co] at cmp
              have e65 : h1 65 k = zI (s.row k) := b1.row k (by omega)
              have hin : inb (zI (k : Int)) 8 = true := inb_zI (by omega) (by omega) (by omega)
              have hix : ix (zI (k : Int)) = k := by rw [ix_zI (by omega) (by omega)]; rfl
              rw [Int.toNat_natCast, e65]
              exact ⟨fun _ => cmp h1 k1, fun z => absurd rfl z⟩
          · rw [if_pos (by omega)] at e
            have K := K h1 k1
            rw [← e] at K
            exact K
        refine fM_judged_2 ?_
        rw [b1.rn]
        simp (disch := omega) only [zI_add, zI_sub, zI_mul, zI_neg, zI_lt, zI_le, zI_eq, zI_div, zI_rem, ix_zI, inb_zI, nz_zI, imax_zI, imin_zI, c_t, nb01.1, nb01.2, zl_0, zl_1, zl_2, zl_3, zl_4, zl_5, zl_6, zl_7, zl_8, zl_9, zl_10, zl_11, zl_12, zl_13, zl_14, zl_15, zl_16, zl_17, zl_18, zl_19, zl_20, zl_24, zl_30, zl_31, zl_36, zl_42, zl_44, zl_48, zl_57, zl_58, zl_59, zl_60, zl_61, zl_62, zl_63, zl_64, zl_72, zl_73, zl_96, zl_99, zl_100, zl_104, zl_107, zl_111, zl_114, zl_116, zl_120, zl_200, zl_255, zl_256, zl_360, zl_600, zl_800, zl_1000, zl_2000, b1.w _]
        refine ⟨fun y => s21 (by omega), fun y => ⟨fun y2 => ?_, fun y2 => s21 (by omega)⟩⟩
        rw [if_pos (by omega)] at e
        have K := K h1 k1
        rw [← e] at K
        exact K
    exact key 9 0 h rfl KM.rf rfl
  · rw [if_neg c]
    unfold judSt at hq
    rw [cOth_2 c] at hq
    exact ⟨fun z => absurd rfl z, fun _ => sM_refused (c := 2) hb (by omega) (by omega) hq⟩
end JU
