/-! ===== copies, the image, the row, letters ===== -/
def CP (h h' : Mem) (p p2 k : Nat) : Prop := (∀ q, ¬ (p ≤ q ∧ q ≤ p + 13) → h' q = h q) ∧ h' p 0 = h p2 0 ∧ h' p 1 = h p2 1 ∧ ∀ j, 1 ≤ j → j ≤ k → ∀ i, i < (if j = 8 then 24 else 6) → h' (p + j) i = h (p2 + j) i
theorem CP.up {h h' : Mem} {p p2 k n : Nat} (c : CP h h' p p2 k) (hk : k < 13) (hd : p + 13 < p2 ∨ p2 + 13 < p) (hn : n = if k + 1 = 8 then 24 else 6) :
    CP h (updR h' (p + (k + 1)) (va_cpy (h' (p2 + (k + 1))) (h' (p + (k + 1))) 0 0 n)) p p2 (k + 1) := by
  refine ⟨fun q hq => (updR_ne q (by omega)).trans (c.1 q hq), by rw [updR_ne p (by omega)]; exact c.2.1, by rw [updR_ne p (by omega)]; exact c.2.2.1, fun j h1 h2 i hi => ?_⟩
  by_cases e : j = k + 1
  · subst e
    rw [updR_eq, ← c.1 (p2 + (k + 1)) (by omega)]
    show (if 0 ≤ i ∧ i < 0 + n then h' (p2 + (k + 1)) (0 + (i - 0)) else _) = _
    rw [if_pos (by omega), Nat.zero_add, Nat.sub_zero]
  · rw [updR_ne (p + j) (by omega)]
    exact c.2.2.2 j h1 (by omega) i hi
theorem CP.dw {h h' : Mem} {p p2 : Nat} {w : Int → Int} (c : CP h h' p p2 13) (hw : WF w) (hd : DW h p2 w) : DW h' p w := by
  have hn := hw.1
  have g : ∀ j i : Nat, 1 ≤ j → j ≤ 13 → i < 6 → h' (p + j) i = h (p2 + j) i := fun j i h1 h2 h3 => c.2.2.2 j h1 h2 i (by split <;> omega)
  have g8 : ∀ i : Nat, i < 24 → h' (p + 8) i = h (p2 + 8) i := fun i h3 => c.2.2.2 8 (by omega) (by omega) i (by rw [if_pos rfl]; exact h3)
  refine ⟨c.2.1.trans hd.1, c.2.2.1.trans hd.2.1, fun i h0 h1 => ?_, fun i h0 h1 => ?_⟩
  · have d := hd.2.2.1 i h0 h1
    have t := fun j a b => g j i.toNat a b (by omega)
    refine ⟨⟨(t 1 (by omega) (by omega)).trans d.1.1, (t 2 (by omega) (by omega)).trans d.1.2.1, (t 3 (by omega) (by omega)).trans d.1.2.2.1, (t 4 (by omega) (by omega)).trans d.1.2.2.2.1, (t 5 (by omega) (by omega)).trans d.1.2.2.2.2.1, (t 6 (by omega) (by omega)).trans d.1.2.2.2.2.2.1, (t 7 (by omega) (by omega)).trans d.1.2.2.2.2.2.2⟩, fun l l0 l1 => (g8 _ (by omega)).trans (d.2.1 l l0 l1), (t 9 (by omega) (by omega)).trans d.2.2.1, (t 10 (by omega) (by omega)).trans d.2.2.2.1, (t 11 (by omega) (by omega)).trans d.2.2.2.2.1, (t 12 (by omega) (by omega)).trans d.2.2.2.2.2.1, (t 13 (by omega) (by omega)).trans d.2.2.2.2.2.2⟩
  · have d := hd.2.2.2 i h0 h1
    have t := fun j a b => g j i.toNat a b (by omega)
    refine ⟨⟨(t 4 (by omega) (by omega)).trans d.1.1, (t 5 (by omega) (by omega)).trans d.1.2.1, (t 6 (by omega) (by omega)).trans d.1.2.2.1, (t 7 (by omega) (by omega)).trans d.1.2.2.2⟩, fun l l0 l1 => (g8 _ (by omega)).trans (d.2 l l0 l1)⟩
section CC
variable {E : XE} {h : Mem} {s : St}
theorem sD_copyFrom {Q : Mem → Prop} {p p2 : Nat} (hp : isP p) (hp2 : isP p2) (hne : p ≠ p2) (hq : ∀ h', CP h h' p p2 13 → Q h') : CALLV E mD_copyFrom [.ref p, .ref p2] h Q := by
  have hd : p + 13 < p2 ∨ p2 + 13 < p := by
    rcases hp with rfl | rfl | rfl <;> rcases hp2 with rfl | rfl | rfl <;> omega
  refine fD_copyFrom hp hp2 ?_
  have e0 : ix 0 = 0 := rfl
  have e6 : ix 6 = 6 := rfl
  have e24 : ix 24 = 24 := rfl
  rw [e0, e6]
  have c0 : CP h (upd2 (upd2 h p 0 (h p2 0)) p 1 ((upd2 h p 0 (h p2 0)) p2 1)) p p2 0 := by
    refine ⟨fun q hq => by rw [upd2_ne q (by omega), upd2_ne q (by omega)], ?_, ?_, fun j h1 h2 => by omega⟩
    · rw [u_i (by omega), u_s]
    · rw [u_s, upd2_ne p2 (by omega)]
  have s196 : ∀ h', CP h h' p p2 12 → WP E mD_copyFrom 196 [some (.ref p), some (.ref p2)] [] h' (qV Q) := fun h' c => by
    refine fD_copyFrom_196 hp hp2 ?_
    rw [e0, e6]
    exact fD_copyFrom_211 (hq _ (c.up (by omega) hd rfl))
  have s181 : ∀ h', CP h h' p p2 11 → WP E mD_copyFrom 181 [some (.ref p), some (.ref p2)] [] h' (qV Q) := fun h' c => by
    refine fD_copyFrom_181 hp hp2 ?_
    rw [e0, e6]
    exact s196 _ (c.up (by omega) hd rfl)
  have s166 : ∀ h', CP h h' p p2 10 → WP E mD_copyFrom 166 [some (.ref p), some (.ref p2)] [] h' (qV Q) := fun h' c => by
    refine fD_copyFrom_166 hp hp2 ?_
    rw [e0, e6]
    exact s181 _ (c.up (by omega) hd rfl)
  have s151 : ∀ h', CP h h' p p2 9 → WP E mD_copyFrom 151 [some (.ref p), some (.ref p2)] [] h' (qV Q) := fun h' c => by
    refine fD_copyFrom_151 hp hp2 ?_
    rw [e0, e6]
    exact s166 _ (c.up (by omega) hd rfl)
  have s136 : ∀ h', CP h h' p p2 8 → WP E mD_copyFrom 136 [some (.ref p), some (.ref p2)] [] h' (qV Q) := fun h' c => by
    refine fD_copyFrom_136 hp hp2 ?_
    rw [e0, e6]
    exact s151 _ (c.up (by omega) hd rfl)
  have s121 : ∀ h', CP h h' p p2 7 → WP E mD_copyFrom 121 [some (.ref p), some (.ref p2)] [] h' (qV Q) := fun h' c => by
    refine fD_copyFrom_121 hp hp2 ?_
    rw [e0, e24]
    exact s136 _ (c.up (by omega) hd rfl)
  have s106 : ∀ h', CP h h' p p2 6 → WP E mD_copyFrom 106 [some (.ref p), some (.ref p2)] [] h' (qV Q) := fun h' c => by
    refine fD_copyFrom_106 hp hp2 ?_
    rw [e0, e6]
    exact s121 _ (c.up (by omega) hd rfl)
  have s91 : ∀ h', CP h h' p p2 5 → WP E mD_copyFrom 91 [some (.ref p), some (.ref p2)] [] h' (qV Q) := fun h' c => by
    refine fD_copyFrom_91 hp hp2 ?_
    rw [e0, e6]
    exact s106 _ (c.up (by omega) hd rfl)
  have s76 : ∀ h', CP h h' p p2 4 → WP E mD_copyFrom 76 [some (.ref p), some (.ref p2)] [] h' (qV Q) := fun h' c => by
    refine fD_copyFrom_76 hp hp2 ?_
    rw [e0, e6]
    exact s91 _ (c.up (by omega) hd rfl)
  have s61 : ∀ h', CP h h' p p2 3 → WP E mD_copyFrom 61 [some (.ref p), some (.ref p2)] [] h' (qV Q) := fun h' c => by
    refine fD_copyFrom_61 hp hp2 ?_
    rw [e0, e6]
    exact s76 _ (c.up (by omega) hd rfl)
  have s46 : ∀ h', CP h h' p p2 2 → WP E mD_copyFrom 46 [some (.ref p), some (.ref p2)] [] h' (qV Q) := fun h' c => by
    refine fD_copyFrom_46 hp hp2 ?_
    rw [e0, e6]
    exact s61 _ (c.up (by omega) hd rfl)
  have s31 : ∀ h', CP h h' p p2 1 → WP E mD_copyFrom 31 [some (.ref p), some (.ref p2)] [] h' (qV Q) := fun h' c => by
    refine fD_copyFrom_31 hp hp2 ?_
    rw [e0, e6]
    exact s46 _ (c.up (by omega) hd rfl)
  exact s31 _ (c0.up (by omega) hd rfl)
theorem sM_copies {Q : Mem → Prop} {a b : Nat} {w : Int → Int} (ha : a = 61 ∨ a = 62 ∨ a = 63) (hb : b = 61 ∨ b = 62 ∨ b = 63) (hne : a ≠ b) (hr : RW (h a) w) (hq : ∀ h', (∀ q, q ≠ b → h' q = h q) → RW (h' b) w → Q h') : CALLV E mM_copies [.ref a, .ref b] h Q := by
  refine fM_copies ha hb ?_
  have key : ∀ (j k : Nat) (h1 : Mem), k + j = 73 → (∀ q, q ≠ b → h1 q = h q) → (∀ i, i < k → h1 b i = h a i) → WP E mM_copies 2 [some (.ref a), some (.ref b), some (.int (zI k))] [] h1 (qV Q) := by
    intro j
    induction j with
    | zero =>
      intro k h1 hk hf hv
      refine fM_copies_2 ha hb ?_
      simp (disch := omega) only [zI_add, zI_sub, zI_mul, zI_neg, zI_lt, zI_le, zI_eq, zI_div, zI_rem, ix_zI, inb_zI, nz_zI, imax_zI, imin_zI, c_t, nb01.1, nb01.2, zl_0, zl_1, zl_2, zl_3, zl_4, zl_5, zl_6, zl_7, zl_8, zl_9, zl_10, zl_11, zl_12, zl_13, zl_14, zl_15, zl_16, zl_17, zl_18, zl_19, zl_20, zl_24, zl_30, zl_31, zl_36, zl_42, zl_44, zl_48, zl_57, zl_58, zl_59, zl_60, zl_61, zl_62, zl_63, zl_64, zl_72, zl_73, zl_96, zl_99, zl_100, zl_104, zl_107, zl_111, zl_114, zl_116, zl_120, zl_200, zl_255, zl_256, zl_360, zl_600, zl_800, zl_1000, zl_2000]
      refine ⟨fun _ => hq h1 hf (fun i h0 h2 => by rw [hv i.toNat (by omega)]; exact hr i h0 h2), fun z => absurd (by omega) z⟩
    | succ j ih =>
      intro k h1 hk hf hv
      refine fM_copies_2 ha hb ?_
      have e1 : ((k + 1 : Nat) : Int) = (k : Int) + 1 := by omega
      have hnext := ih (k + 1)
      rw [e1] at hnext
      have s73 : ∀ P : Nat → Prop, P 73 → shN a 0 P := by
        intro P hP
        rcases ha with rfl | rfl | rfl <;> exact hP
      have s73b : ∀ P : Nat → Prop, P 73 → shN b 0 P := by
        intro P hP
        rcases hb with rfl | rfl | rfl <;> exact hP
      refine ⟨fun z => ?_, fun _ => s73 _ ?_⟩
      · rw [show (73 : Int32) = zI 73 from rfl, zI_le (by omega) (by omega) (by omega) (by omega)] at z
        omega
      · simp (disch := omega) only [zI_add, zI_sub, zI_mul, zI_neg, zI_lt, zI_le, zI_eq, zI_div, zI_rem, ix_zI, inb_zI, nz_zI, imax_zI, imin_zI, c_t, nb01.1, nb01.2, zl_0, zl_1, zl_2, zl_3, zl_4, zl_5, zl_6, zl_7, zl_8, zl_9, zl_10, zl_11, zl_12, zl_13, zl_14, zl_15, zl_16, zl_17, zl_18, zl_19, zl_20, zl_24, zl_30, zl_31, zl_36, zl_42, zl_44, zl_48, zl_57, zl_58, zl_59, zl_60, zl_61, zl_62, zl_63, zl_64, zl_72, zl_73, zl_96, zl_99, zl_100, zl_104, zl_107, zl_111, zl_114, zl_116, zl_120, zl_200, zl_255, zl_256, zl_360, zl_600, zl_800, zl_1000, zl_2000, Int.toNat_natCast]
        refine s73b _ ?_
        simp (disch := omega) only [zI_add, zI_sub, zI_mul, zI_neg, zI_lt, zI_le, zI_eq, zI_div, zI_rem, ix_zI, inb_zI, nz_zI, imax_zI, imin_zI, c_t, nb01.1, nb01.2, zl_0, zl_1, zl_2, zl_3, zl_4, zl_5, zl_6, zl_7, zl_8, zl_9, zl_10, zl_11, zl_12, zl_13, zl_14, zl_15, zl_16, zl_17, zl_18, zl_19, zl_20, zl_24, zl_30, zl_31, zl_36, zl_42, zl_44, zl_48, zl_57, zl_58, zl_59, zl_60, zl_61, zl_62, zl_63, zl_64, zl_72, zl_73, zl_96, zl_99, zl_100, zl_104, zl_107, zl_111, zl_114, zl_116, zl_120, zl_200, zl_255, zl_256, zl_360, zl_600, zl_800, zl_1000, zl_2000, Int.toNat_natCast]
        refine hnext _ (by omega) (fun q hq => (upd2_ne q hq).trans (hf q hq)) (fun i hi => ?_)
        by_cases e : i = k
        · subst e
          rw [u_s, hf a hne]
        · rw [u_i e]
          exact hv i (by omega)
  exact key 73 0 h (by omega) (fun _ _ => rfl) (fun i hi => by omega)
theorem qC_image {Q : Int32 → Mem → Prop} (hv : SV s) (ha : SA h s) (hq : ∀ h', SA h' (mkSt s.w true s.w s.rf s.rn s.row s.ln s.lt) → FA h h' → Q (zI (s.w 72)) h') : CALLI E mC_image [.ref 0] h Q := by
  refine fC_image (sD_copyFrom (Or.inr (Or.inr rfl)) (Or.inl rfl) (by omega) fun h1 c => ?_)
  have d : DW h1 29 s.w := c.dw hv.w ha.w
  have o : ∀ q, ¬ (29 ≤ q ∧ q ≤ 42) → h1 q = h q := c.1
  have e : ∀ q, q ≠ 0 → upd2 h1 0 3 1 q = h1 q := fun q hq => upd2_ne q hq
  rw [e 29 (by omega), d.n]
  refine hq _ ⟨ha.w.kp fun q a b => (e q (by omega)).trans (o q (by omega)), by rw [u_s]; rfl, fun _ => d.kp fun q a b => e q (by omega), fun i hi => by rw [e 59 (by omega), o 59 (by omega)]; exact ha.rf i hi, ?_, fun i hi => by rw [e 58 (by omega), o 58 (by omega)]; exact ha.row i hi, by rw [e 55 (by omega), o 55 (by omega)]; exact ha.ln, fun i hi => by rw [e 56 (by omega), o 56 (by omega)]; exact ha.lt i hi⟩ (fun q hq => (e q (by omega)).trans (o q (by omega)))
  rw [u_i (by omega), o 0 (by omega)]
  exact ha.rn
theorem qM_image {Q : Int32 → Mem → Prop} (hv : SV s) (hb : SB h s) (hq : ∀ h', SB h' (mkSt s.w true s.w s.rf s.rn s.row s.ln s.lt) → FB h h' → Q (zI (s.w 72)) h') : CALLI E mM_image [.ref 60] h Q := by
  have e : ∀ q, q ≠ 60 → upd2 h 60 3 1 q = h q := fun q hq => upd2_ne q hq
  refine fM_image (sM_copies (w := s.w) (Or.inl rfl) (Or.inr (Or.inl rfl)) (by omega) (by rw [e 61 (by omega)]; exact hb.w) fun h1 f1 r1 => ?_)
  have r61 : RW (h1 61) s.w := by rw [f1 61 (by omega), e 61 (by omega)]; exact hb.w
  have h72 := r61 72 (by omega) (by omega)
  rw [show h1 61 (ix 72) = zI (s.w 72) from h72]
  have o : ∀ q, q ≠ 62 → q ≠ 60 → h1 q = h q := fun q a b => (f1 q a).trans (e q b)
  have o60 : ∀ i, i ≠ 3 → h1 60 i = h 60 i := fun i hi => (congrFun (f1 60 (by omega)) i).trans (u_i hi)
  refine hq h1 ⟨r61, (congrFun (f1 60 (by omega)) 3).trans (u_s.trans rfl), fun _ => r1, fun i hi => by rw [o 64 (by omega) (by omega)]; exact hb.rf i hi, (o60 6 (by omega)).trans hb.rn, fun i hi => by rw [o 65 (by omega) (by omega)]; exact hb.row i hi, (o60 8 (by omega)).trans hb.ln, fun i hi => by rw [o 66 (by omega) (by omega)]; exact hb.lt i hi⟩ (fun q hq => o q (by omega) (by omega))
def onSt (s : St) : St := if s.has = true then mkSt s.k true s.k s.rf s.rn s.row s.ln s.lt else s.rfd 3
def onAns (s : St) : Int := if s.has = true then s.k 72 else -3
theorem qC_on {Q : Int32 → Mem → Prop} (hv : SV s) (ha : SA h s) (hq : ∀ h', SA h' (onSt s) → FA h h' → Q (zI (onAns s)) h') : CALLI E mC_on [.ref 0] h Q := by
  refine fC_on ?_
  unfold onSt onAns at hq
  rw [ha.has]
  by_cases c : s.has = true
  · simp only [if_pos c] at hq ⊢
    refine ⟨fun _ => sD_copyFrom (Or.inl rfl) (Or.inr (Or.inr rfl)) (by omega) fun h1 cp => ?_, fun z => absurd z (by decide)⟩
    have d : DW h1 1 s.k := cp.dw (hv.k c) (ha.k c)
    have o : ∀ q, ¬ (1 ≤ q ∧ q ≤ 14) → h1 q = h q := cp.1
    rw [d.n]
    exact hq h1 ⟨d, by rw [o 0 (by omega), ha.has, if_pos c]; rfl, fun _ => (ha.k c).kp fun q a b => o q (by omega), fun i hi => by rw [o 59 (by omega)]; exact ha.rf i hi, by rw [o 0 (by omega)]; exact ha.rn, fun i hi => by rw [o 58 (by omega)]; exact ha.row i hi, by rw [o 55 (by omega)]; exact ha.ln, fun i hi => by rw [o 56 (by omega)]; exact ha.lt i hi⟩ (fun q hq => o q (by omega))
  · simp only [if_neg c] at hq ⊢
    exact ⟨fun z => absurd rfl z, fun _ => sC_refuse (c := 3) ha (by omega) (by omega) hq⟩
theorem qM_on {Q : Int32 → Mem → Prop} (hv : SV s) (hb : SB h s) (hq : ∀ h', SB h' (onSt s) → FB h h' → Q (zI (onAns s)) h') : CALLI E mM_on [.ref 60] h Q := by
  refine fM_on ?_
  unfold onSt onAns at hq
  rw [hb.has]
  by_cases c : s.has = true
  · simp only [if_pos c] at hq ⊢
    refine ⟨fun _ => sM_copies (w := s.k) (Or.inr (Or.inl rfl)) (Or.inl rfl) (by omega) (hb.k c) fun h1 o r1 => ?_, fun z => absurd z (by decide)⟩
    have h72 := r1 72 (by omega) (by omega)
    rw [show h1 61 (ix 72) = zI (s.k 72) from h72]
    exact hq h1 ⟨r1, by rw [o 60 (by omega), hb.has, if_pos c]; rfl, fun _ => by rw [o 62 (by omega)]; exact hb.k c, fun i hi => by rw [o 64 (by omega)]; exact hb.rf i hi, by rw [o 60 (by omega)]; exact hb.rn, fun i hi => by rw [o 65 (by omega)]; exact hb.row i hi, by rw [o 60 (by omega)]; exact hb.ln, fun i hi => by rw [o 66 (by omega)]; exact hb.lt i hi⟩ (fun q hq => o q (by omega))
  · simp only [if_neg c] at hq ⊢
    exact ⟨fun z => absurd rfl z, fun _ => sM_refused (c := 3) hb (by omega) (by omega) hq⟩
end CC
