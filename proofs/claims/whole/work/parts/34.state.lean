/-! ===== the whole state, as both sides hold it ===== -/
abbrev St : Type := (Int → Int) × Bool × (Int → Int) × (Nat → Int32) × Nat × (Nat → Int) × Nat × (Nat → Int)
def St.w (s : St) : Int → Int := s.1
def St.has (s : St) : Bool := s.2.1
def St.k (s : St) : Int → Int := s.2.2.1
def St.rf (s : St) : Nat → Int32 := s.2.2.2.1
def St.rn (s : St) : Nat := s.2.2.2.2.1
def St.row (s : St) : Nat → Int := s.2.2.2.2.2.1
def St.ln (s : St) : Nat := s.2.2.2.2.2.2.1
def St.lt (s : St) : Nat → Int := s.2.2.2.2.2.2.2
def mkSt (w : Int → Int) (has : Bool) (k : Int → Int) (rf : Nat → Int32) (rn : Nat) (row : Nat → Int) (ln : Nat) (lt : Nat → Int) : St := (w, has, k, rf, rn, row, ln, lt)
def St.rfd (s : St) (c : Nat) : St := if c = 0 then s else mkSt s.w s.has s.k (fun i => if i = c then s.rf i + 1 else s.rf i) s.rn s.row s.ln s.lt
def C20 (w : Int → Int) : Prop := ∀ i : Int, 0 ≤ i → i < w 72 → w i ≤ 20
def SV (s : St) : Prop := (WF s.w ∧ C20 s.w) ∧ (s.has = true → WF s.k ∧ C20 s.k) ∧ (s.rn ≤ 8) ∧ (∀ i, i < s.rn → 0 ≤ s.row i ∧ s.row i ≤ 99) ∧ (s.ln ≤ 96) ∧ (∀ i, i < s.ln → 0 ≤ s.lt i ∧ s.lt i ≤ 255)
theorem SV.w {s : St} (x : SV s) : WF s.w := x.1.1
theorem SV.c {s : St} (x : SV s) : C20 s.w := x.1.2
theorem SV.k {s : St} (x : SV s) (z : s.has = true) : WF s.k := (x.2.1 z).1
theorem SV.kc {s : St} (x : SV s) (z : s.has = true) : C20 s.k := (x.2.1 z).2
theorem SV.rn {s : St} (x : SV s) : s.rn ≤ 8 := x.2.2.1
theorem SV.row {s : St} (x : SV s) : ∀ i, i < s.rn → 0 ≤ s.row i ∧ s.row i ≤ 99 := x.2.2.2.1
theorem SV.ln {s : St} (x : SV s) : s.ln ≤ 96 := x.2.2.2.2.1
theorem SV.lt {s : St} (x : SV s) : ∀ i, i < s.ln → 0 ≤ s.lt i ∧ s.lt i ≤ 255 := x.2.2.2.2.2
def SA (h : Mem) (s : St) : Prop := (DW h 1 s.w) ∧ (h 0 3 = zI (if s.has = true then 1 else 0)) ∧ (s.has = true → DW h 29 s.k) ∧ (∀ i, i < 7 → h 59 i = s.rf i) ∧ (h 0 10 = zI s.rn) ∧ (∀ i, i < s.rn → h 58 i = zI (s.row i)) ∧ (h 55 1 = zI s.ln) ∧ (∀ i, i < s.ln → h 56 i = zI (s.lt i))
theorem SA.w {h : Mem} {s : St} (x : SA h s) : DW h 1 s.w := x.1
theorem SA.has {h : Mem} {s : St} (x : SA h s) : h 0 3 = zI (if s.has = true then 1 else 0) := x.2.1
theorem SA.k {h : Mem} {s : St} (x : SA h s) : s.has = true → DW h 29 s.k := x.2.2.1
theorem SA.rf {h : Mem} {s : St} (x : SA h s) : ∀ i, i < 7 → h 59 i = s.rf i := x.2.2.2.1
theorem SA.rn {h : Mem} {s : St} (x : SA h s) : h 0 10 = zI s.rn := x.2.2.2.2.1
theorem SA.row {h : Mem} {s : St} (x : SA h s) : ∀ i, i < s.rn → h 58 i = zI (s.row i) := x.2.2.2.2.2.1
theorem SA.ln {h : Mem} {s : St} (x : SA h s) : h 55 1 = zI s.ln := x.2.2.2.2.2.2.1
theorem SA.lt {h : Mem} {s : St} (x : SA h s) : ∀ i, i < s.ln → h 56 i = zI (s.lt i) := x.2.2.2.2.2.2.2
def SB (h : Mem) (s : St) : Prop := (RW (h 61) s.w) ∧ (h 60 3 = zI (if s.has = true then 1 else 0)) ∧ (s.has = true → RW (h 62) s.k) ∧ (∀ i, i < 7 → h 64 i = s.rf i) ∧ (h 60 6 = zI s.rn) ∧ (∀ i, i < s.rn → h 65 i = zI (s.row i)) ∧ (h 60 8 = zI s.ln) ∧ (∀ i, i < s.ln → h 66 i = zI (s.lt i))
theorem SB.w {h : Mem} {s : St} (x : SB h s) : RW (h 61) s.w := x.1
theorem SB.has {h : Mem} {s : St} (x : SB h s) : h 60 3 = zI (if s.has = true then 1 else 0) := x.2.1
theorem SB.k {h : Mem} {s : St} (x : SB h s) : s.has = true → RW (h 62) s.k := x.2.2.1
theorem SB.rf {h : Mem} {s : St} (x : SB h s) : ∀ i, i < 7 → h 64 i = s.rf i := x.2.2.2.1
theorem SB.rn {h : Mem} {s : St} (x : SB h s) : h 60 6 = zI s.rn := x.2.2.2.2.1
theorem SB.row {h : Mem} {s : St} (x : SB h s) : ∀ i, i < s.rn → h 65 i = zI (s.row i) := x.2.2.2.2.2.1
theorem SB.ln {h : Mem} {s : St} (x : SB h s) : h 60 8 = zI s.ln := x.2.2.2.2.2.2.1
theorem SB.lt {h : Mem} {s : St} (x : SB h s) : ∀ i, i < s.ln → h 66 i = zI (s.lt i) := x.2.2.2.2.2.2.2
def FA (h h' : Mem) : Prop := ∀ q, 60 ≤ q → h' q = h q
def FB (h h' : Mem) : Prop := ∀ q, q < 60 → h' q = h q
theorem FA.rf {h : Mem} : FA h h := fun _ _ => rfl
theorem FB.rf {h : Mem} : FB h h := fun _ _ => rfl
theorem FA.tr {a b c : Mem} (h1 : FA a b) (h2 : FA b c) : FA a c := fun q hq => (h2 q hq).trans (h1 q hq)
theorem FB.tr {a b c : Mem} (h1 : FB a b) (h2 : FB b c) : FB a c := fun q hq => (h2 q hq).trans (h1 q hq)
theorem FA.up {h h' : Mem} {p i : Nat} {x : Int32} (hp : p < 60) (h1 : FA h h') : FA h (upd2 h' p i x) := fun q hq => (upd2_ne q (by omega)).trans (h1 q hq)
theorem FB.up {h h' : Mem} {p i : Nat} {x : Int32} (hp : 60 ≤ p) (h1 : FB h h') : FB h (upd2 h' p i x) := fun q hq => (upd2_ne q (by omega)).trans (h1 q hq)
theorem KM.fb {h h' : Mem} (hk : KM h h') : FB h h' := fun q hq => hk.1 q (by omega)
theorem DW.kp {h h' : Mem} {p : Nat} {w : Int → Int} (hd : DW h p w) (hq : ∀ q, p ≤ q → q ≤ p + 13 → h' q = h q) : DW h' p w := hd.of (fun k hk => hq _ (by omega) (by omega))
theorem SA.fb {h h' : Mem} {s : St} (ha : SA h s) (hf : FB h h') : SA h' s :=
  ⟨ha.w.kp fun q h1 h2 => hf q (by omega), by rw [hf 0 (by omega)]; exact ha.has, fun z => (ha.k z).kp fun q h1 h2 => hf q (by omega), fun i hi => by rw [hf 59 (by omega)]; exact ha.rf i hi, by rw [hf 0 (by omega)]; exact ha.rn, fun i hi => by rw [hf 58 (by omega)]; exact ha.row i hi, by rw [hf 55 (by omega)]; exact ha.ln, fun i hi => by rw [hf 56 (by omega)]; exact ha.lt i hi⟩
theorem SB.fa {h h' : Mem} {s : St} (hb : SB h s) (hf : FA h h') : SB h' s := by
  have e := fun q hq => hf q hq
  exact ⟨by rw [e 61 (by omega)]; exact hb.w, by rw [e 60 (by omega)]; exact hb.has, fun z => by rw [e 62 (by omega)]; exact hb.k z, fun i hi => by rw [e 64 (by omega)]; exact hb.rf i hi, by rw [e 60 (by omega)]; exact hb.rn, fun i hi => by rw [e 65 (by omega)]; exact hb.row i hi, by rw [e 60 (by omega)]; exact hb.ln, fun i hi => by rw [e 66 (by omega)]; exact hb.lt i hi⟩
/-- the class's scratch -/
def cs (q : Nat) : Prop := q = 43 ∨ q = 44 ∨ q = 46 ∨ (47 ≤ q ∧ q ≤ 54) ∨ (15 ≤ q ∧ q ≤ 28)
theorem Off.fa {h h' : Mem} (ho : Off cs h h') : FA h h' := fun q hq => ho q (by unfold cs; omega)
theorem Off.sa {h h' : Mem} {s : St} (ho : Off cs h h') (ha : SA h s) : SA h' s := by
  have e : ∀ q, q < 43 → ¬ (15 ≤ q ∧ q ≤ 28) → h' q = h q := fun q h1 h2 => ho q (by unfold cs; omega)
  have e2 : ∀ q, 55 ≤ q → h' q = h q := fun q h1 => ho q (by unfold cs; omega)
  exact ⟨ha.w.kp fun q h1 h2 => e q (by omega) (by omega), by rw [e 0 (by omega) (by omega)]; exact ha.has, fun z => (ha.k z).kp fun q h1 h2 => e q (by omega) (by omega), fun i hi => by rw [e2 59 (by omega)]; exact ha.rf i hi, by rw [e 0 (by omega) (by omega)]; exact ha.rn, fun i hi => by rw [e2 58 (by omega)]; exact ha.row i hi, by rw [e2 55 (by omega)]; exact ha.ln, fun i hi => by rw [e2 56 (by omega)]; exact ha.lt i hi⟩
theorem pw_cs {q : Nat} (h : pw q) : cs q := Or.inl h
theorem rs_cs {q : Nat} (h : rs q) : cs q := by
  have h : q = 44 ∨ q = 46 := h
  unfold cs; omega
theorem lo_cs {q : Nat} (h : lo q) : cs q := by
  have h : q = 44 ∨ q = 46 ∨ q = 47 := h
  unfold cs; omega
theorem KM.sb {h h' : Mem} {s : St} (hk : KM h h') (hb : SB h s) : SB h' s :=
  ⟨hk.w hb.w, by rw [hk.2.1]; exact hb.has, fun z => by rw [hk.1 62 (by omega)]; exact hb.k z, fun i hi => by rw [hk.1 64 (by omega)]; exact hb.rf i hi, by rw [hk.2.2.1]; exact hb.rn, fun i hi => by rw [hk.1 65 (by omega)]; exact hb.row i hi, by rw [hk.2.2.2.1]; exact hb.ln, fun i hi => by rw [hk.1 66 (by omega)]; exact hb.lt i hi⟩
/-- refusals by their number, 0: none -/
def I32 (a : Int) : Prop := -2147483648 ≤ a ∧ a < 2147483648
def cOut (a lo hi : Int) : Nat := if a < lo then 4 else if hi < a then 6 else 0
def cOth (a n : Int) : Nat := if a < 0 ∨ n ≤ a then 2 else 0
def cLock (a : Int) : Nat := if a < 0 ∨ 4 ≤ a then 1 else 0
def cTask (w : Int → Int) (t : Int) : Nat := if 0 ≤ t ∧ t < w 72 then 0 else 1
def cOff (w : Int → Int) (t : Int) : Nat := if 0 ≤ t ∧ t < w 72 ∧ w (42 + t) = 1 then 0 else 3
def cFst (a b : Nat) : Nat := if a = 0 then b else a
def cIn (w : Int → Int) (pol t : Int) : Nat := cFst (cFst (cOth pol 3) (cTask w t)) (cOff w t)
def cAns (c : Nat) (x : Int) : Int := if c = 0 then x else -(c : Int)
theorem cOut_b (a lo hi : Int) : cOut a lo hi ≤ 6 := by unfold cOut; split <;> (try split) <;> omega
theorem cOth_b (a n : Int) : cOth a n ≤ 6 := by unfold cOth; split <;> omega
theorem cLock_b (a : Int) : cLock a ≤ 6 := by unfold cLock; split <;> omega
theorem cTask_b (w : Int → Int) (t : Int) : cTask w t ≤ 6 := by unfold cTask; split <;> omega
theorem cOff_b (w : Int → Int) (t : Int) : cOff w t ≤ 6 := by unfold cOff; split <;> omega
theorem cFst_b {a b : Nat} (ha : a ≤ 6) (hb : b ≤ 6) : cFst a b ≤ 6 := by unfold cFst; split <;> omega
theorem cIn_b (w : Int → Int) (pol t : Int) : cIn w pol t ≤ 6 := cFst_b (cFst_b (cOth_b _ _) (cTask_b _ _)) (cOff_b _ _)
section CH
variable {E : XE} {h : Mem} {s : St}
theorem sC_outside {Q : Int32 → Mem → Prop} {a lo hi : Int} (ha : I32 a) (hl : I32 lo) (hh : I32 hi) (hq : Q (zI (-(cOut a lo hi : Nat))) h) : CALLI E mC_outside [.int (zI a), .int (zI lo), .int (zI hi)] h Q := by
  refine fC_outside ?_
  unfold I32 at ha hl hh
  unfold cOut at hq
  simp (disch := omega) only [zI_add, zI_sub, zI_mul, zI_neg, zI_lt, zI_le, zI_eq, zI_div, zI_rem, ix_zI, inb_zI, nz_zI, imax_zI, imin_zI, c_t, nb01.1, nb01.2, zl_0, zl_1, zl_2, zl_3, zl_4, zl_5, zl_6, zl_7, zl_8, zl_9, zl_10, zl_11, zl_12, zl_13, zl_14, zl_15, zl_16, zl_17, zl_18, zl_19, zl_20, zl_24, zl_30, zl_31, zl_36, zl_42, zl_44, zl_48, zl_57, zl_58, zl_59, zl_60, zl_61, zl_62, zl_63, zl_64, zl_72, zl_73, zl_96, zl_99, zl_100, zl_104, zl_107, zl_111, zl_114, zl_116, zl_120, zl_200, zl_255, zl_256, zl_360, zl_600, zl_800, zl_1000, zl_2000]
  refine ⟨fun z => ⟨fun z2 => ?_, fun z2 => ?_⟩, fun z => ?_⟩
  · rw [if_neg (by omega), if_neg (by omega)] at hq; exact hq
  · rw [if_neg (by omega), if_pos (by omega)] at hq; exact hq
  · rw [if_pos (by omega)] at hq; exact hq
theorem sC_otherThan {Q : Int32 → Mem → Prop} {a n : Int} (ha : I32 a) (hn : I32 n) (hq : Q (zI (-(cOth a n : Nat))) h) : CALLI E mC_otherThan [.int (zI a), .int (zI n)] h Q := by
  refine fC_otherThan ?_
  unfold I32 at ha hn
  unfold cOth at hq
  simp (disch := omega) only [zI_add, zI_sub, zI_mul, zI_neg, zI_lt, zI_le, zI_eq, zI_div, zI_rem, ix_zI, inb_zI, nz_zI, imax_zI, imin_zI, c_t, nb01.1, nb01.2, zl_0, zl_1, zl_2, zl_3, zl_4, zl_5, zl_6, zl_7, zl_8, zl_9, zl_10, zl_11, zl_12, zl_13, zl_14, zl_15, zl_16, zl_17, zl_18, zl_19, zl_20, zl_24, zl_30, zl_31, zl_36, zl_42, zl_44, zl_48, zl_57, zl_58, zl_59, zl_60, zl_61, zl_62, zl_63, zl_64, zl_72, zl_73, zl_96, zl_99, zl_100, zl_104, zl_107, zl_111, zl_114, zl_116, zl_120, zl_200, zl_255, zl_256, zl_360, zl_600, zl_800, zl_1000, zl_2000]
  refine ⟨fun z => ?_, fun z => ⟨fun z2 => ?_, fun z2 => ?_⟩⟩
  · rw [if_pos (by omega)] at hq; exact hq
  · rw [if_pos (by omega)] at hq; exact hq
  · rw [if_neg (by omega)] at hq; exact hq
theorem sC_missingLock {Q : Int32 → Mem → Prop} {a : Int} (ha : I32 a) (hq : Q (zI (-(cLock a : Nat))) h) : CALLI E mC_missingLock [.int (zI a)] h Q := by
  refine fC_missingLock ?_
  unfold I32 at ha
  unfold cLock at hq
  simp (disch := omega) only [zI_add, zI_sub, zI_mul, zI_neg, zI_lt, zI_le, zI_eq, zI_div, zI_rem, ix_zI, inb_zI, nz_zI, imax_zI, imin_zI, c_t, nb01.1, nb01.2, zl_0, zl_1, zl_2, zl_3, zl_4, zl_5, zl_6, zl_7, zl_8, zl_9, zl_10, zl_11, zl_12, zl_13, zl_14, zl_15, zl_16, zl_17, zl_18, zl_19, zl_20, zl_24, zl_30, zl_31, zl_36, zl_42, zl_44, zl_48, zl_57, zl_58, zl_59, zl_60, zl_61, zl_62, zl_63, zl_64, zl_72, zl_73, zl_96, zl_99, zl_100, zl_104, zl_107, zl_111, zl_114, zl_116, zl_120, zl_200, zl_255, zl_256, zl_360, zl_600, zl_800, zl_1000, zl_2000]
  refine ⟨fun z => ?_, fun z => ⟨fun z2 => ?_, fun z2 => ?_⟩⟩
  · rw [if_pos (by omega)] at hq; exact hq
  · rw [if_pos (by omega)] at hq; exact hq
  · rw [if_neg (by omega)] at hq; exact hq
theorem sC_missingTask {Q : Int32 → Mem → Prop} {t : Int} (hv : SV s) (ha : SA h s) (ht : I32 t) (hq : Q (zI (-(cTask s.w t : Nat))) h) : CALLI E mC_missingTask [.ref 0, .int (zI t)] h Q := by
  refine fC_missingTask (sD_has (Or.inl rfl) ha.w hv.w ht ?_)
  unfold cTask at hq
  by_cases c : 0 ≤ t ∧ t < s.w 72
  · rw [if_pos c] at hq ⊢
    exact ⟨fun z => absurd z (by decide), fun _ => hq⟩
  · rw [if_neg c] at hq ⊢
    exact ⟨fun _ => hq, fun z => absurd rfl z⟩
theorem sC_turnedOff {Q : Int32 → Mem → Prop} {t : Int} (hv : SV s) (ha : SA h s) (ht : I32 t) (hq : Q (zI (-(cOff s.w t : Nat))) h) : CALLI E mC_turnedOff [.ref 0, .int (zI t)] h Q := by
  refine fC_turnedOff (sD_isOn (Or.inl rfl) ha.w hv.w ht ?_)
  unfold cOff at hq
  by_cases c : 0 ≤ t ∧ t < s.w 72 ∧ s.w (42 + t) = 1
  · rw [if_pos c] at hq ⊢
    exact ⟨fun z => absurd z (by decide), fun _ => hq⟩
  · rw [if_neg c] at hq ⊢
    exact ⟨fun _ => hq, fun z => absurd rfl z⟩
theorem sC_firstOf {Q : Int32 → Mem → Prop} {c d : Nat} (hc : c ≤ 6) (hq : Q (zI (-(cFst c d : Nat))) h) : CALLI E mC_firstOf [.int (zI (-(c : Nat))), .int (zI (-(d : Nat)))] h Q := by
  refine fC_firstOf ?_
  unfold cFst at hq
  simp (disch := omega) only [zI_add, zI_sub, zI_mul, zI_neg, zI_lt, zI_le, zI_eq, zI_div, zI_rem, ix_zI, inb_zI, nz_zI, imax_zI, imin_zI, c_t, nb01.1, nb01.2, zl_0, zl_1, zl_2, zl_3, zl_4, zl_5, zl_6, zl_7, zl_8, zl_9, zl_10, zl_11, zl_12, zl_13, zl_14, zl_15, zl_16, zl_17, zl_18, zl_19, zl_20, zl_24, zl_30, zl_31, zl_36, zl_42, zl_44, zl_48, zl_57, zl_58, zl_59, zl_60, zl_61, zl_62, zl_63, zl_64, zl_72, zl_73, zl_96, zl_99, zl_100, zl_104, zl_107, zl_111, zl_114, zl_116, zl_120, zl_200, zl_255, zl_256, zl_360, zl_600, zl_800, zl_1000, zl_2000]
  refine ⟨fun z => ?_, fun z => ?_⟩
  · rw [if_pos (by omega)] at hq; exact hq
  · rw [if_neg (by omega)] at hq; exact hq
theorem sC_notInOrder {Q : Int32 → Mem → Prop} {pol t : Int} (hv : SV s) (ha : SA h s) (hp : I32 pol) (ht : I32 t) (hq : Q (zI (-(cIn s.w pol t : Nat))) h) : CALLI E mC_notInOrder [.ref 0, .int (zI pol), .int (zI t)] h Q :=
  fC_notInOrder (sC_otherThan (n := 3) hp (by unfold I32; omega) (sC_missingTask hv ha ht (sC_firstOf (cOth_b _ _) (sC_turnedOff hv ha ht (sC_firstOf (cFst_b (cOth_b _ _) (cTask_b _ _)) hq)))))
theorem SA.rfd (ha : SA h s) {c : Nat} (h1 : 1 ≤ c) (h6 : c ≤ 6) : SA (upd2 h 59 c (h 59 c + 1)) (s.rfd c) := by
  have e : ∀ q, q ≠ 59 → upd2 h 59 c (h 59 c + 1) q = h q := fun q hq => upd2_ne q hq
  unfold St.rfd
  rw [if_neg (by omega)]
  refine ⟨ha.w.kp fun q h1 h2 => e q (by omega), by rw [e 0 (by omega)]; exact ha.has, fun z => (ha.k z).kp fun q h1 h2 => e q (by omega), fun i hi => ?_, by rw [e 0 (by omega)]; exact ha.rn, fun i hi => by rw [e 58 (by omega)]; exact ha.row i hi, by rw [e 55 (by omega)]; exact ha.ln, fun i hi => by rw [e 56 (by omega)]; exact ha.lt i hi⟩
  by_cases ei : i = c
  · subst ei
    show _ = (if i = i then s.rf i + 1 else s.rf i)
    rw [u_s, if_pos rfl, ha.rf i (by omega)]
  · show _ = (if i = c then s.rf i + 1 else s.rf i)
    rw [u_i ei, if_neg ei, ha.rf i hi]
theorem SB.rfd (ha : SB h s) {c : Nat} (h1 : 1 ≤ c) (h6 : c ≤ 6) : SB (upd2 h 64 c (h 64 c + 1)) (s.rfd c) := by
  have e : ∀ q, q ≠ 64 → upd2 h 64 c (h 64 c + 1) q = h q := fun q hq => upd2_ne q hq
  unfold St.rfd
  rw [if_neg (by omega)]
  refine ⟨by rw [e 61 (by omega)]; exact ha.w, by rw [e 60 (by omega)]; exact ha.has, fun z => by rw [e 62 (by omega)]; exact ha.k z, fun i hi => ?_, by rw [e 60 (by omega)]; exact ha.rn, fun i hi => by rw [e 65 (by omega)]; exact ha.row i hi, by rw [e 60 (by omega)]; exact ha.ln, fun i hi => by rw [e 66 (by omega)]; exact ha.lt i hi⟩
  by_cases ei : i = c
  · subst ei
    show _ = (if i = i then s.rf i + 1 else s.rf i)
    rw [u_s, if_pos rfl, ha.rf i (by omega)]
  · show _ = (if i = c then s.rf i + 1 else s.rf i)
    rw [u_i ei, if_neg ei, ha.rf i hi]
theorem sC_refuse {Q : Int32 → Mem → Prop} {c : Nat} (ha : SA h s) (h1 : c ≠ 0) (h6 : c ≤ 6) (hq : ∀ h', SA h' (s.rfd c) → FA h h' → Q (zI (-(c : Nat))) h') : CALLI E mC_refuse [.ref 0, .int (zI (-(c : Nat)))] h Q := by
  refine fC_refuse ?_
  have := hq _ (ha.rfd (by omega) h6) (FA.rf.up (by omega))
  have e : (- -(c : Int)).toNat = c := by omega
  rw [show nI 7 = zI 7 from nI_zI 7, show (1 : Int32) = zI 1 from rfl]
  simp (disch := omega) only [zI_add, zI_sub, zI_mul, zI_neg, zI_lt, zI_le, zI_eq, zI_div, zI_rem, ix_zI, inb_zI, nz_zI, imax_zI, imin_zI, c_t, nb01.1, nb01.2, zl_0, zl_1, zl_2, zl_3, zl_4, zl_5, zl_6, zl_7, zl_8, zl_9, zl_10, zl_11, zl_12, zl_13, zl_14, zl_15, zl_16, zl_17, zl_18, zl_19, zl_20, zl_24, zl_30, zl_31, zl_36, zl_42, zl_44, zl_48, zl_57, zl_58, zl_59, zl_60, zl_61, zl_62, zl_63, zl_64, zl_72, zl_73, zl_96, zl_99, zl_100, zl_104, zl_107, zl_111, zl_114, zl_116, zl_120, zl_200, zl_255, zl_256, zl_360, zl_600, zl_800, zl_1000, zl_2000, e]
  exact ⟨fun z => by omega, fun _ => ⟨fun z => by omega, fun _ => this⟩⟩
theorem sM_refused {Q : Int32 → Mem → Prop} {c : Nat} (ha : SB h s) (h1 : c ≠ 0) (h6 : c ≤ 6) (hq : ∀ h', SB h' (s.rfd c) → FB h h' → Q (zI (-(c : Nat))) h') : CALLI E mM_refused [.ref 60, .int (zI (-(c : Nat)))] h Q := by
  refine fM_refused ?_
  have := hq _ (ha.rfd (by omega) h6) (FB.rf.up (by omega))
  have e : (- -(c : Int)).toNat = c := by omega
  rw [show (1 : Int32) = zI 1 from rfl]
  simp (disch := omega) only [zI_add, zI_sub, zI_mul, zI_neg, zI_lt, zI_le, zI_eq, zI_div, zI_rem, ix_zI, inb_zI, nz_zI, imax_zI, imin_zI, c_t, nb01.1, nb01.2, zl_0, zl_1, zl_2, zl_3, zl_4, zl_5, zl_6, zl_7, zl_8, zl_9, zl_10, zl_11, zl_12, zl_13, zl_14, zl_15, zl_16, zl_17, zl_18, zl_19, zl_20, zl_24, zl_30, zl_31, zl_36, zl_42, zl_44, zl_48, zl_57, zl_58, zl_59, zl_60, zl_61, zl_62, zl_63, zl_64, zl_72, zl_73, zl_96, zl_99, zl_100, zl_104, zl_107, zl_111, zl_114, zl_116, zl_120, zl_200, zl_255, zl_256, zl_360, zl_600, zl_800, zl_1000, zl_2000, e]
  exact this
/-- what both sides' answers are to be: an answer, and the state behind it -/
theorem sC_ends {Q : Int32 → Mem → Prop} {c : Nat} {x : Int} (ha : SA h s) (h6 : c ≤ 6) (hq : ∀ h', SA h' (s.rfd c) → FA h h' → Q (zI (cAns c x)) h') :
    (c = 0 → Q (zI x) h) ∧ (c ≠ 0 → CALLI E mC_refuse [.ref 0, .int (zI (-(c : Nat)))] h Q) := by
  refine ⟨fun z => ?_, fun z => sC_refuse ha z h6 fun h' a b => ?_⟩
  · have := hq h (by unfold St.rfd; rw [if_pos z]; exact ha) FA.rf
    unfold cAns at this
    rw [if_pos z] at this
    exact this
  · have := hq h' a b
    unfold cAns at this
    rw [if_neg z] at this
    exact this
end CH
