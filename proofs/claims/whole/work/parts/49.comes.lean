/-! ===== a task more ===== -/
def addW (w : Int → Int) (c pd dl : Int) : Int → Int := fun x => if x = w 72 then c else if x = 6 + w 72 then pd else if x = 12 + w 72 then dl else if x = 72 then w 72 + 1 else if x = 42 + w 72 then 1 else
  if x = 18 + w 72 ∨ x = 24 + w 72 ∨ x = 30 + w 72 ∨ x = 36 + w 72 ∨ (48 + 4 * w 72 ≤ x ∧ x < 52 + 4 * w 72) then 0 else w x
section AW
variable {w : Int → Int} {c pd dl : Int}
theorem aw_o {x : Int} (h1 : x ≠ w 72) (h2 : x ≠ 6 + w 72) (h3 : x ≠ 12 + w 72) (h4 : x ≠ 72) (h5 : x ≠ 42 + w 72) (h6 : x ≠ 18 + w 72) (h7 : x ≠ 24 + w 72) (h8 : x ≠ 30 + w 72) (h9 : x ≠ 36 + w 72) (h10 : x < 48 + 4 * w 72 ∨ 52 + 4 * w 72 ≤ x) : addW w c pd dl x = w x := by
  unfold addW
  rw [if_neg h1, if_neg h2, if_neg h3, if_neg h4, if_neg h5, if_neg (by omega)]
theorem aw_0 {x : Int} (h0 : 0 ≤ w 72 ∧ w 72 < 6) (h : x = 18 + w 72 ∨ x = 24 + w 72 ∨ x = 30 + w 72 ∨ x = 36 + w 72 ∨ (48 + 4 * w 72 ≤ x ∧ x < 52 + 4 * w 72)) : addW w c pd dl x = 0 := by
  unfold addW
  rw [if_neg (by omega), if_neg (by omega), if_neg (by omega), if_neg (by omega), if_neg (by omega), if_pos h]
theorem aw_c : addW w c pd dl (w 72) = c := if_pos rfl
theorem aw_p : addW w c pd dl (6 + w 72) = pd := by unfold addW; rw [if_neg (by omega), if_pos rfl]
theorem aw_d : addW w c pd dl (12 + w 72) = dl := by unfold addW; rw [if_neg (by omega), if_neg (by omega), if_pos rfl]
theorem aw_n (h0 : 0 ≤ w 72 ∧ w 72 < 6) : addW w c pd dl 72 = w 72 + 1 := by unfold addW; rw [if_neg (by omega), if_neg (by omega), if_neg (by omega), if_pos rfl]
theorem aw_on (h0 : 0 ≤ w 72 ∧ w 72 < 6) : addW w c pd dl (42 + w 72) = 1 := by unfold addW; rw [if_neg (by omega), if_neg (by omega), if_neg (by omega), if_neg (by omega), if_pos rfl]
theorem WF.adw (hw : WF w) (hn : w 72 < 6) (hc : 1 ≤ c ∧ c ≤ 20) (hp : 2 ≤ pd ∧ pd ≤ 60) (hd : 1 ≤ dl ∧ dl ≤ 60) : WF (addW w c pd dl) := by
  have h72 := hw.1
  have n := aw_n (w := w) (c := c) (pd := pd) (dl := dl) ⟨h72.1, hn⟩
  refine ⟨by rw [n]; omega, fun i i0 i1 => ?_, fun i i0 i1 => ?_⟩
  · have a := hw.2.1 i i0 i1
    unfold addW
    split
    · omega
    · split
      · omega
      · split
        · omega
        · split
          · omega
          · split
            · omega
            · split <;> omega
  · rw [n] at i1
    by_cases e : i = w 72
    · rw [e, aw_c, aw_p, aw_d, aw_0 ⟨h72.1, hn⟩ (Or.inl rfl), aw_0 ⟨h72.1, hn⟩ (Or.inr (Or.inl rfl)), aw_0 ⟨h72.1, hn⟩ (Or.inr (Or.inr (Or.inl rfl))), aw_0 ⟨h72.1, hn⟩ (Or.inr (Or.inr (Or.inr (Or.inl rfl)))), aw_on ⟨h72.1, hn⟩]
      exact ⟨by omega, fun l l0 l1 => by rw [aw_0 ⟨h72.1, hn⟩ (by omega)]; omega⟩
    · have a := hw.2.2 i i0 (by omega)
      have o : ∀ b : Int, (b = 0 ∨ b = 6 ∨ b = 12 ∨ b = 18 ∨ b = 24 ∨ b = 30 ∨ b = 36 ∨ b = 42) → addW w c pd dl (b + i) = w (b + i) := fun b hb => aw_o (by omega) (by omega) (by omega) (by omega) (by omega) (by omega) (by omega) (by omega) (by omega) (by omega)
      have o0 : addW w c pd dl i = w i := by have := o 0 (by omega); rwa [Int.zero_add] at this
      rw [o0, o 6 (by omega), o 12 (by omega), o 18 (by omega), o 24 (by omega), o 30 (by omega), o 36 (by omega), o 42 (by omega)]
      exact ⟨a.1, fun l l0 l1 => by rw [aw_o (by omega) (by omega) (by omega) (by omega) (by omega) (by omega) (by omega) (by omega) (by omega) (by omega)]; exact a.2 l l0 l1⟩
theorem onM_add (hw : WF w) (hn : w 72 < 6) : onM (addW w c pd dl) = onM w ||| 2 ^ (w 72).toNat := by
  have h72 := hw.1
  unfold onM
  rw [aw_n ⟨h72.1, hn⟩, show (w 72 + 1).toNat = (w 72).toNat + 1 by omega]
  show (if addW w c pd dl (42 + ((w 72).toNat : Int)) = 1 then onK (addW w c pd dl) (w 72).toNat ||| 2 ^ (w 72).toNat else _) = _
  rw [show (((w 72).toNat : Nat) : Int) = w 72 by omega, if_pos (aw_on ⟨h72.1, hn⟩)]
  rw [onK_cg (w := w) (w' := addW w c pd dl) (w 72).toNat fun i i0 i1 => aw_o (by omega) (by omega) (by omega) (by omega) (by omega) (by omega) (by omega) (by omega) (by omega) (by omega)]
end AW
def AF (h h' : Mem) (p : Nat) : Prop := ∀ q, ¬ (p ≤ q ∧ q ≤ p + 13) → h' q = h q
section AD
variable {E : XE} {h : Mem} {w : Int → Int} {p : Nat} {c pd dl : Int}
theorem KF.add {h1 h2 h3 : Mem} (hd : DW h p w) (hw : WF w) (hn : w 72 < 6) (r1 : h1 (p + 1) (w 72).toNat = zI c) (r2 : h1 (p + 2) (w 72).toNat = zI pd) (r3 : h1 (p + 3) (w 72).toNat = zI dl) (f1 : ∀ q, ¬ (q = p + 1 ∨ q = p + 2 ∨ q = p + 3) → h1 q = h q) (f2 : ∀ q i, i ≠ (w 72).toNat → h1 q i = h q i)
    (k : KF h1 h2 p (w 72).toNat 0 0 pd dl) (g : ∀ q, q ≠ p → h3 q = h2 q) (g0 : h3 p 0 = zI (w 72 + 1)) (g1 : h3 p 1 = zI (onM w ||| 2 ^ (w 72).toNat : Nat)) : DW h3 p (addW w c pd dl) := by
  have h72 := hw.1
  have n := aw_n (w := w) (c := c) (pd := pd) (dl := dl) ⟨h72.1, hn⟩
  obtain ⟨c1, c2, c3, c4, c5, c6, c7, c8, c9⟩ := k
  refine ⟨?_, ?_, fun i i0 i1 => ?_, fun i i0 i1 => ?_⟩
  · show h3 (p + 0) 0 = _
    rw [n]; exact g0
  · show h3 (p + 0) 1 = _
    rw [onM_add hw hn]; exact g1
  · rw [n] at i1
    show ((h3 (p + 1) _ = _ ∧ h3 (p + 2) _ = _ ∧ h3 (p + 3) _ = _ ∧ h3 (p + 4) _ = _ ∧ h3 (p + 5) _ = _ ∧ h3 (p + 6) _ = _ ∧ h3 (p + 7) _ = _) ∧ (∀ l : Int, 0 ≤ l → l < 4 → h3 (p + 8) _ = _) ∧ h3 (p + 9) _ = _ ∧ h3 (p + 10) _ = _ ∧ h3 (p + 11) _ = _ ∧ h3 (p + 12) _ = _ ∧ h3 (p + 13) _ = _)
    rw [g (p + 1) (by omega), g (p + 2) (by omega), g (p + 3) (by omega), g (p + 4) (by omega), g (p + 5) (by omega), g (p + 6) (by omega), g (p + 7) (by omega), g (p + 8) (by omega), g (p + 9) (by omega), g (p + 10) (by omega), g (p + 11) (by omega), g (p + 12) (by omega), g (p + 13) (by omega)]
    have k8 : h2 (p + 8) = h (p + 8) := (c1 _ (by omega)).trans (f1 _ (by omega))
    rw [k8]
    by_cases e : i = w 72
    · subst e
      have d := hd.2.2.2 (w 72) (by omega) hn
      rw [c1 (p + 1) (by omega), c1 (p + 2) (by omega), c1 (p + 3) (by omega), c1 (p + 4) (by omega), c1 (p + 5) (by omega), f1 (p + 4) (by omega), f1 (p + 5) (by omega)]
      have z30 : addW w c pd dl (30 + w 72) = 0 := aw_0 ⟨h72.1, hn⟩ (by omega)
      have z36 : addW w c pd dl (36 + w 72) = 0 := aw_0 ⟨h72.1, hn⟩ (by omega)
      rw [aw_c, aw_p, aw_d, aw_0 ⟨h72.1, hn⟩ (Or.inl rfl), aw_0 ⟨h72.1, hn⟩ (Or.inr (Or.inl rfl)), z30, z36]
      refine ⟨⟨r1, r2, r3, d.1.1, d.1.2.1, c3, c4⟩, fun l l0 l1 => by rw [aw_0 ⟨h72.1, hn⟩ (by omega)]; exact d.2 l l0 l1, ?_, ?_, ?_, ?_, ?_⟩
      · unfold dist; rw [aw_p, z30, z36]; exact c5
      · unfold lat; rw [z30, z36]; exact c6
      · unfold lim; rw [aw_d, z30, z36]; exact c7
      · unfold mostJ; rw [z30, z36]; exact c8
      · unfold moreJ; rw [z30]; exact c9
    · have d := hd.2.2.1 i i0 (by omega)
      have r : ∀ q, h2 q i.toNat = h q i.toNat := fun q => (c2 q _ (by omega)).trans (f2 q _ (by omega))
      have o : ∀ b : Int, (b = 0 ∨ b = 6 ∨ b = 12 ∨ b = 18 ∨ b = 24 ∨ b = 30 ∨ b = 36 ∨ b = 42) → addW w c pd dl (b + i) = w (b + i) := fun b hb => aw_o (by omega) (by omega) (by omega) (by omega) (by omega) (by omega) (by omega) (by omega) (by omega) (by omega)
      have o0 : addW w c pd dl i = w i := by have := o 0 (by omega); rwa [Int.zero_add] at this
      have a9 : dist (addW w c pd dl) i = dist w i := by unfold dist; rw [o 6 (by omega), o 30 (by omega), o 36 (by omega)]
      have a10 : lat (addW w c pd dl) i = lat w i := by unfold lat; rw [o 30 (by omega), o 36 (by omega)]
      have a11 : lim (addW w c pd dl) i = lim w i := by unfold lim; rw [o 12 (by omega), o 30 (by omega), o 36 (by omega)]
      have a12 : mostJ (addW w c pd dl) i = mostJ w i := by unfold mostJ; rw [o 30 (by omega), o 36 (by omega)]
      have a13 : moreJ (addW w c pd dl) i = moreJ w i := by unfold moreJ; rw [o 30 (by omega)]
      rw [o0, o 6 (by omega), o 12 (by omega), o 18 (by omega), o 24 (by omega), o 30 (by omega), o 36 (by omega), a9, a10, a11, a12, a13]
      exact ⟨⟨(r _).trans d.1.1, (r _).trans d.1.2.1, (r _).trans d.1.2.2.1, (r _).trans d.1.2.2.2.1, (r _).trans d.1.2.2.2.2.1, (r _).trans d.1.2.2.2.2.2.1, (r _).trans d.1.2.2.2.2.2.2⟩,
        fun l l0 l1 => by rw [aw_o (by omega) (by omega) (by omega) (by omega) (by omega) (by omega) (by omega) (by omega) (by omega) (by omega)]; exact d.2.1 l l0 l1,
        (r _).trans d.2.2.1, (r _).trans d.2.2.2.1, (r _).trans d.2.2.2.2.1, (r _).trans d.2.2.2.2.2.1, (r _).trans d.2.2.2.2.2.2⟩
  · rw [n] at i0
    have d := hd.2.2.2 i (by omega) i1
    have r : ∀ q, h2 q i.toNat = h q i.toNat := fun q => (c2 q _ (by omega)).trans (f2 q _ (by omega))
    have k8 : h2 (p + 8) = h (p + 8) := (c1 _ (by omega)).trans (f1 _ (by omega))
    show ((h3 (p + 4) _ = _ ∧ h3 (p + 5) _ = _ ∧ h3 (p + 6) _ = _ ∧ h3 (p + 7) _ = _) ∧ ∀ l : Int, 0 ≤ l → l < 4 → h3 (p + 8) _ = _)
    rw [g (p + 4) (by omega), g (p + 5) (by omega), g (p + 6) (by omega), g (p + 7) (by omega), g (p + 8) (by omega), k8]
    exact ⟨⟨(r _).trans d.1.1, (r _).trans d.1.2.1, (r _).trans d.1.2.2.1, (r _).trans d.1.2.2.2⟩, d.2⟩
theorem sD_isFull {Q : Int32 → Mem → Prop} (hp : isP p) (hd : DW h p w) (hw : WF w) (hq : Q (zI (if w 72 < 6 then 0 else 1)) h) : CALLI E mD_isFull [.ref p] h Q := by
  refine fD_isFull hp ?_
  have h72 := hw.1
  simp (disch := omega) only [zI_add, zI_sub, zI_mul, zI_neg, zI_lt, zI_le, zI_eq, zI_div, zI_rem, ix_zI, inb_zI, nz_zI, imax_zI, imin_zI, c_t, nb01.1, nb01.2, zl_0, zl_1, zl_2, zl_3, zl_4, zl_5, zl_6, zl_7, zl_8, zl_9, zl_10, zl_11, zl_12, zl_13, zl_14, zl_15, zl_16, zl_17, zl_18, zl_19, zl_20, zl_24, zl_30, zl_31, zl_36, zl_42, zl_44, zl_48, zl_57, zl_58, zl_59, zl_60, zl_61, zl_62, zl_63, zl_64, zl_72, zl_73, zl_96, zl_99, zl_100, zl_104, zl_107, zl_111, zl_114, zl_116, zl_120, zl_200, zl_255, zl_256, zl_360, zl_600, zl_800, zl_1000, zl_2000, hd.n]
  refine ⟨fun z => ?_, fun z => ?_⟩
  · rw [if_pos z] at hq; exact hq
  · rw [if_neg z] at hq; exact hq
theorem sD_add {Q : Int32 → Mem → Prop} (hp : isP p) (hd : DW h p w) (hw : WF w) (hn : w 72 < 6) (hc : 1 ≤ c ∧ c ≤ 20) (hpd : 2 ≤ pd ∧ pd ≤ 60) (hdl : 1 ≤ dl ∧ dl ≤ 60) (hq : ∀ h', DW h' p (addW w c pd dl) → AF h h' p → Q (zI (w 72)) h') : CALLI E mD_add [.ref p, .int (zI c), .int (zI pd), .int (zI dl)] h Q := by
  have h72 := hw.1
  have lt := onM_lt hw
  refine fD_add hp (sD_isFull hp hd hw ?_)
  rw [if_pos hn]
  have d := hd.2.2.2 (w 72) (by omega) hn
  have e0 : h p 0 = zI (w 72) := hd.n
  have e1 : h p 1 = zI (onM w : Nat) := hd.on
  have e6 : h (p + 6) (w 72).toNat = zI 0 := d.1.2.2.1
  have e7 : h (p + 7) (w 72).toNat = zI 0 := d.1.2.2.2
  have u6 : ∀ a b c', upd2 (upd2 (upd2 h (p + 1) (w 72).toNat a) (p + 2) (w 72).toNat b) (p + 3) (w 72).toNat c' (p + 6) (w 72).toNat = zI 0 := fun a b c' => by rw [upd2_ne _ (by omega), upd2_ne _ (by omega), upd2_ne _ (by omega)]; exact e6
  have u7 : ∀ a b c', upd2 (upd2 (upd2 h (p + 1) (w 72).toNat a) (p + 2) (w 72).toNat b) (p + 3) (w 72).toNat c' (p + 7) (w 72).toNat = zI 0 := fun a b c' => by rw [upd2_ne _ (by omega), upd2_ne _ (by omega), upd2_ne _ (by omega)]; exact e7
  simp (disch := omega) only [zI_add, zI_sub, zI_mul, zI_neg, zI_lt, zI_le, zI_eq, zI_div, zI_rem, ix_zI, inb_zI, nz_zI, imax_zI, imin_zI, c_t, nb01.1, nb01.2, zl_0, zl_1, zl_2, zl_3, zl_4, zl_5, zl_6, zl_7, zl_8, zl_9, zl_10, zl_11, zl_12, zl_13, zl_14, zl_15, zl_16, zl_17, zl_18, zl_19, zl_20, zl_24, zl_30, zl_31, zl_36, zl_42, zl_44, zl_48, zl_57, zl_58, zl_59, zl_60, zl_61, zl_62, zl_63, zl_64, zl_72, zl_73, zl_96, zl_99, zl_100, zl_104, zl_107, zl_111, zl_114, zl_116, zl_120, zl_200, zl_255, zl_256, zl_360, zl_600, zl_800, zl_1000, zl_2000, e0, u6, u7]
  refine ⟨fun _ => sD_setKind (per := pd) (ddl := dl) hp (by omega) hn (by omega) (by omega) ?_ ?_ (by omega) (by omega) fun h2 k => ?_, fun z => absurd trivial z⟩
  · rw [upd2_ne _ (by omega), u_s]
  · rw [u_s]
  have k0 : h2 p = h p := (k.1 p (by omega)).trans ((upd2_ne _ (by omega)).trans ((upd2_ne _ (by omega)).trans (upd2_ne _ (by omega))))
  have f1 : h2 p 1 = zI (onM w : Nat) := by rw [k0]; exact e1
  have f0 : h2 p 0 = zI (w 72) := by rw [k0]; exact e0
  rw [f1, or_z lt h72.1 hn, u_i (by omega), f0, zI_add]
  refine hq _ ?_ (fun q hq => ?_)
  · refine KF.add hd hw hn ?_ ?_ u_s (fun q hq => ?_) (fun q i hi => ?_) k (fun q hq => (upd2_ne q hq).trans (upd2_ne q hq)) u_s (by rw [u_i (by omega), u_s])
    · rw [upd2_ne _ (by omega), upd2_ne _ (by omega), u_s]
    · rw [upd2_ne _ (by omega), u_s]
    · rw [upd2_ne _ (by omega), upd2_ne _ (by omega), upd2_ne _ (by omega)]
    · rw [u_j hi, u_j hi, u_j hi]
  · rw [upd2_ne q (by omega), upd2_ne q (by omega), k.1 q (by omega), upd2_ne q (by omega), upd2_ne q (by omega), upd2_ne q (by omega)]
theorem RW.cg {f : Nat → Int32} {w w' : Int → Int} (hr : RW f w) (e : ∀ i : Int, 0 ≤ i → i < 73 → w' i = w i) : RW f w' := fun i i0 i1 => by rw [e i i0 i1]; exact hr i i0 i1
theorem RW.up {h : Mem} {w : Int → Int} {j v : Int} (hr : RW (h 61) w) (h0 : 0 ≤ j) (h1 : j < 73) : RW (upd2 h 61 j.toNat (zI v) 61) (fset w j v) := by
  have := hr.put (v := v) h0 h1
  intro i i0 i1
  exact this i i0 i1
theorem sM_comes {Q : Int32 → Mem → Prop} (hm : RW (h 61) w) (hw : WF w) (h0 : w 72 = 6 → Q 0 h) (hq : w 72 < 6 → ∀ h', RW (h' 61) (addW w c pd dl) → (∀ q, q ≠ 61 → h' q = h q) → Q 1 h') : CALLI E mM_comes [.ref 60, .int (zI c), .int (zI pd), .int (zI dl)] h Q := by
  refine fM_comes ?_
  have h72 := hw.1
  simp (disch := omega) only [zI_add, zI_sub, zI_mul, zI_neg, zI_lt, zI_le, zI_eq, zI_div, zI_rem, ix_zI, inb_zI, nz_zI, imax_zI, imin_zI, c_t, nb01.1, nb01.2, zl_0, zl_1, zl_2, zl_3, zl_4, zl_5, zl_6, zl_7, zl_8, zl_9, zl_10, zl_11, zl_12, zl_13, zl_14, zl_15, zl_16, zl_17, zl_18, zl_19, zl_20, zl_24, zl_30, zl_31, zl_36, zl_42, zl_44, zl_48, zl_57, zl_58, zl_59, zl_60, zl_61, zl_62, zl_63, zl_64, zl_72, zl_73, zl_96, zl_99, zl_100, zl_104, zl_107, zl_111, zl_114, zl_116, zl_120, zl_200, zl_255, zl_256, zl_360, zl_600, zl_800, zl_1000, zl_2000, hm _]
  refine ⟨fun z => ?_, fun z => h0 z⟩
  have hn : w 72 < 6 := by omega
  have hq := hq hn
  have key : ∀ (j k : Nat) (h1 : Mem) (w1 : Int → Int), k + j = 4 → RW (h1 61) w1 → w1 72 = w 72 → (∀ q, q ≠ 61 → h1 q = h q) → (∀ x : Int, 0 ≤ x → x < 73 → (if x = 72 then w 72 + 1 else if 48 + 4 * w 72 + k ≤ x ∧ x < 52 + 4 * w 72 then 0 else w1 x) = addW w c pd dl x) → WP E mM_comes 108 [some (.ref 60), none, none, none, some (.int (zI (w 72))), some (.int (zI k))] [] h1 (qI Q) := by
    intro j
    induction j with
    | zero =>
      intro k h1 w1 hk hr h7 hf hx
      refine fM_comes_108 ?_
      have e72 : h1 61 72 = zI (w 72) := by rw [← h7]; exact hr 72 (by omega) (by omega)
      simp (disch := omega) only [zI_add, zI_sub, zI_mul, zI_neg, zI_lt, zI_le, zI_eq, zI_div, zI_rem, ix_zI, inb_zI, nz_zI, imax_zI, imin_zI, c_t, nb01.1, nb01.2, zl_0, zl_1, zl_2, zl_3, zl_4, zl_5, zl_6, zl_7, zl_8, zl_9, zl_10, zl_11, zl_12, zl_13, zl_14, zl_15, zl_16, zl_17, zl_18, zl_19, zl_20, zl_24, zl_30, zl_31, zl_36, zl_42, zl_44, zl_48, zl_57, zl_58, zl_59, zl_60, zl_61, zl_62, zl_63, zl_64, zl_72, zl_73, zl_96, zl_99, zl_100, zl_104, zl_107, zl_111, zl_114, zl_116, zl_120, zl_200, zl_255, zl_256, zl_360, zl_600, zl_800, zl_1000, zl_2000, Int.toNat_natCast]
      refine ⟨fun _ => ?_, fun z => absurd (by omega) z⟩
      rw [show (72 : Int).toNat = 72 from rfl, e72, zI_add]
      refine hq _ ((hr.up (j := 72) (by omega) (by omega)).cg fun i i0 i1 => ?_) (fun q hq => (upd2_ne q hq).trans (hf q hq))
      rw [← hx i i0 i1]
      unfold fset
      split
      · rfl
      · rw [if_neg (by omega)]
    | succ j ih =>
      intro k h1 w1 hk hr h7 hf hx
      refine fM_comes_108 ?_
      have hnext := ih (k + 1) (upd2 h1 61 (48 + 4 * w 72 + k).toNat (zI 0)) (fset w1 (48 + 4 * w 72 + k) 0) (by omega) (hr.up (by omega) (by omega)) ((fs_ne (by omega)).trans h7) (fun q hq => (upd2_ne q hq).trans (hf q hq)) (fun x x0 x1 => by
        rw [← hx x x0 x1]
        by_cases e : x = 72
        · rw [if_pos e, if_pos e]
        · rw [if_neg e, if_neg e]
          by_cases e2 : 48 + 4 * w 72 + k ≤ x ∧ x < 52 + 4 * w 72
          · rw [if_pos e2]
            unfold fset
            split
            · rfl
            · split
              · rfl
              · omega
          · rw [if_neg e2, if_neg (by omega), fs_ne (by omega)])
      rw [show ((k + 1 : Nat) : Int) = (k : Int) + 1 by omega] at hnext
      simp (disch := omega) only [zI_add, zI_sub, zI_mul, zI_neg, zI_lt, zI_le, zI_eq, zI_div, zI_rem, ix_zI, inb_zI, nz_zI, imax_zI, imin_zI, c_t, nb01.1, nb01.2, zl_0, zl_1, zl_2, zl_3, zl_4, zl_5, zl_6, zl_7, zl_8, zl_9, zl_10, zl_11, zl_12, zl_13, zl_14, zl_15, zl_16, zl_17, zl_18, zl_19, zl_20, zl_24, zl_30, zl_31, zl_36, zl_42, zl_44, zl_48, zl_57, zl_58, zl_59, zl_60, zl_61, zl_62, zl_63, zl_64, zl_72, zl_73, zl_96, zl_99, zl_100, zl_104, zl_107, zl_111, zl_114, zl_116, zl_120, zl_200, zl_255, zl_256, zl_360, zl_600, zl_800, zl_1000, zl_2000]
      exact ⟨fun z => absurd z (by omega), fun _ => hnext⟩
  refine key 4 0 _ (fset (fset (fset (fset (fset (fset (fset (fset w (0 + w 72) c) (6 + w 72) pd) (12 + w 72) dl) (18 + w 72) 0) (24 + w 72) 0) (30 + w 72) 0) (36 + w 72) 0) (42 + w 72) 1) rfl ?_ ?_ (fun q hq => by rw [upd2_ne q hq, upd2_ne q hq, upd2_ne q hq, upd2_ne q hq, upd2_ne q hq, upd2_ne q hq, upd2_ne q hq, upd2_ne q hq]) (fun x x0 x1 => ?_)
  · exact (((((((hm.up (by omega) (by omega)).up (by omega) (by omega)).up (by omega) (by omega)).up (by omega) (by omega)).up (by omega) (by omega)).up (by omega) (by omega)).up (by omega) (by omega)).up (by omega) (by omega)
  · rw [fs_ne (by omega), fs_ne (by omega), fs_ne (by omega), fs_ne (by omega), fs_ne (by omega), fs_ne (by omega), fs_ne (by omega), fs_ne (by omega)]
  · unfold addW
    by_cases e : x = 72
    · rw [if_pos e, if_neg (by omega), if_neg (by omega), if_neg (by omega), if_pos e]
    · rw [if_neg e]
      by_cases e2 : 48 + 4 * w 72 + ((0 : Nat) : Int) ≤ x ∧ x < 52 + 4 * w 72
      · rw [if_pos e2, if_neg (by omega), if_neg (by omega), if_neg (by omega), if_neg e, if_neg (by omega), if_pos (by omega)]
      · rw [if_neg e2]
        unfold fset
        by_cases c42 : x = 42 + w 72
        · rw [if_pos c42, if_neg (by omega), if_neg (by omega), if_neg (by omega), if_neg e, if_pos c42]
        rw [if_neg c42]
        by_cases c36 : x = 36 + w 72
        · rw [if_pos c36, if_neg (by omega), if_neg (by omega), if_neg (by omega), if_neg e, if_neg c42, if_pos (by omega)]
        rw [if_neg c36]
        by_cases c30 : x = 30 + w 72
        · rw [if_pos c30, if_neg (by omega), if_neg (by omega), if_neg (by omega), if_neg e, if_neg c42, if_pos (by omega)]
        rw [if_neg c30]
        by_cases c24 : x = 24 + w 72
        · rw [if_pos c24, if_neg (by omega), if_neg (by omega), if_neg (by omega), if_neg e, if_neg c42, if_pos (by omega)]
        rw [if_neg c24]
        by_cases c18 : x = 18 + w 72
        · rw [if_pos c18, if_neg (by omega), if_neg (by omega), if_neg (by omega), if_neg e, if_neg c42, if_pos (by omega)]
        rw [if_neg c18]
        by_cases c12 : x = 12 + w 72
        · rw [if_pos c12, if_neg (by omega), if_neg (by omega), if_pos c12]
        rw [if_neg c12]
        by_cases c6 : x = 6 + w 72
        · rw [if_pos c6, if_neg (by omega), if_pos c6]
        rw [if_neg c6]
        by_cases c0 : x = w 72
        · rw [if_pos (by omega), if_pos c0]
        rw [if_neg (by omega), if_neg c0, if_neg c6, if_neg c12, if_neg e, if_neg c42, if_neg (by omega)]
end AD
