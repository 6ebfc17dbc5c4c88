/-! ===== a task's traits, asked ===== -/
def cTrait (w : Int → Int) (t a : Int) : Nat := cFst (cTask w t) (cOth a 11)
theorem cTrait_b (w : Int → Int) (t a : Int) : cTrait w t a ≤ 6 := cFst_b (cTask_b _ _) (cOth_b _ _)
section TR
variable {E : XE} {h : Mem} {s : St} {Q : Int32 → Mem → Prop}
theorem qC_task {t a : Int} (hv : SV s) (ha : SA h s) (ht : I32 t) (hi : I32 a) (hq : ∀ h', SA h' (s.rfd (cTrait s.w t a)) → FA h h' → Q (zI (cAns (cTrait s.w t a) (traitS s.w t a))) h') : CALLI E mC_task [.ref 0, .int (zI t), .int (zI a)] h Q := by
  refine fC_task (sC_missingTask hv ha ht (sC_otherThan (n := 11) hi (by unfold I32; omega) (sC_firstOf (cTask_b _ _) (sC_fin ha (cTrait_b _ _ _) hq fun z K => ?_))))
  unfold cTrait at z
  rw [cFst_0, cTask_0, cOth_0] at z
  have K := K h Off.rf
  have hn := hv.w.1
  have d := ha.w.2.2.1 t z.1.1 z.1.2
  unfold traitS at K
  have hin : inb (zI t) 6 = true := inb_zI (by omega) (by omega) (by omega)
  have hix : ix (zI t) = t.toNat := ix_zI (by omega) (by omega)
  refine fD_trait (Or.inl rfl) ?_
  simp (disch := omega) only [of_zI, zI_eq, hin, hix, c_t]
  refine ⟨fun e => ?_, fun e0 => ⟨fun e => ?_, fun e1 => ⟨fun e => ?_, fun e2 => ⟨fun e => ?_, fun e3 => ⟨fun e => ?_, fun e4 => ⟨fun e => ?_, fun e5 => ⟨fun e => ?_, fun e6 => ⟨fun e => ?_, fun e7 => ⟨fun e => ?_, fun e8 => ⟨fun e => ?_, fun e9 => ?_⟩⟩⟩⟩⟩⟩⟩⟩⟩⟩
  · rw [if_pos (by omega), show 6 * a + t = t by omega] at K
    rw [show h (1 + 1) t.toNat = _ from d.1.1]; exact K
  · rw [if_pos (by omega), show 6 * a + t = 6 + t by omega] at K
    rw [show h (1 + 2) t.toNat = _ from d.1.2.1]; exact K
  · rw [if_pos (by omega), show 6 * a + t = 12 + t by omega] at K
    rw [show h (1 + 3) t.toNat = _ from d.1.2.2.1]; exact K
  · rw [if_pos (by omega), show 6 * a + t = 18 + t by omega] at K
    rw [show h (1 + 4) t.toNat = _ from d.1.2.2.2.1]; exact K
  · rw [if_pos (by omega), show 6 * a + t = 24 + t by omega] at K
    rw [show h (1 + 5) t.toNat = _ from d.1.2.2.2.2.1]; exact K
  · rw [if_pos (by omega), show 6 * a + t = 30 + t by omega] at K
    rw [show h (1 + 6) t.toNat = _ from d.1.2.2.2.2.2.1]; exact K
  · rw [if_pos (by omega), show 6 * a + t = 36 + t by omega] at K
    rw [show h (1 + 7) t.toNat = _ from d.1.2.2.2.2.2.2]; exact K
  · rw [if_pos (by omega), show 6 * a + t = 42 + t by omega] at K
    refine sD_isOn (Or.inl rfl) ha.w hv.w ht ?_
    have b1 := hv.w.2.2 t z.1.1 z.1.2
    have b2 := hv.w.2.1 (42 + t) (by omega) (by omega)
    by_cases c : s.w (42 + t) = 1
    · rw [if_pos ⟨z.1.1, z.1.2, c⟩]
      rw [c] at K
      exact ⟨fun z => absurd z (by decide), fun _ => fD_trait_118 K⟩
    · rw [if_neg (fun z => c z.2.2)]
      rw [show s.w (42 + t) = 0 by omega] at K
      exact ⟨fun _ => fD_trait_118 K, fun z => absurd rfl z⟩
  · rw [if_neg (by omega), if_pos e] at K
    rw [show h (1 + 9) t.toNat = _ from d.2.2.1]; exact K
  · rw [if_neg (by omega), if_neg (by omega), if_pos e] at K
    rw [show h (1 + 10) t.toNat = _ from d.2.2.2.1]; exact K
  · rw [if_neg (by omega), if_neg (by omega), if_neg (by omega)] at K
    rw [show h (1 + 11) t.toNat = _ from d.2.2.2.2.1]; exact K
end TR
