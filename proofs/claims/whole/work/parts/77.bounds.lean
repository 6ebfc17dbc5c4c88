/-! ===== the state behind each call keeps its bounds ===== -/
section VS
variable {s : St}
theorem SV.rfd (hv : SV s) (c : Nat) : SV (s.rfd c) := by
  unfold St.rfd
  split
  · exact hv
  · exact hv
theorem SV.neww (hv : SV s) {w' : Int → Int} (h1 : WF w') (h2 : C20 w') : SV (newW s w') := ⟨⟨h1, h2⟩, hv.2⟩
theorem C20.put {w : Int → Int} (hw : WF w) (hc : C20 w) {j v : Int} (h : (0 ≤ j ∧ j < 72) ∧ (j < w 72 → v ≤ 20)) : C20 (fset w j v) := fun i i0 i1 => by
  have e : fset w j v 72 = w 72 := fs_ne (by omega)
  rw [e] at i1
  by_cases c : i = j
  · subst c; rw [fs_eq]; exact h.2 i1
  · rw [fs_ne c]; exact hc i i0 i1
theorem cLay_0 {w : Int → Int} {t v lo hi : Int} (h : cLay w t v lo hi = 0) : (0 ≤ t ∧ t < w 72) ∧ lo ≤ v ∧ v ≤ hi := by
  unfold cLay at h
  rw [cFst_0, cTask_0, cOut_0] at h
  exact h
theorem sv_lay (hv : SV s) {b t v lo hi : Int} (hb : (b = 0 ∧ 1 ≤ lo ∧ hi ≤ 20) ∨ (b = 18 ∧ 0 ≤ lo ∧ hi ≤ 59) ∨ (b = 24 ∧ 0 ≤ lo ∧ hi ≤ 9)) : SV (laySt s (cLay s.w t v lo hi) (b + t) v) := by
  have hn := hv.w.1
  unfold laySt
  split
  · rename_i z
    have z := cLay_0 z
    refine hv.neww (hv.w.put (t := t) z.1.1 z.1.2 ?_) (hv.c.put hv.w ?_)
    · rcases hb with h | h | h
      · exact Or.inl (by omega)
      · exact Or.inr (Or.inl (by omega))
      · exact Or.inr (Or.inr (Or.inl (by omega)))
    · rcases hb with h | h | h <;> omega
  · exact hv.rfd _
theorem sv_hold (hv : SV s) {t l v : Int} : SV (holdSt s t l v) := by
  have hn := hv.w.1
  unfold holdSt laySt
  split
  · rename_i z
    unfold cHold at z
    rw [cFst_0, cFst_0, cTask_0, cLock_0, cOut_0] at z
    exact hv.neww (hv.w.put (t := t) z.1.1.1 z.1.1.2 (Or.inr (Or.inr (Or.inr (by omega))))) (hv.c.put hv.w (by omega))
  · exact hv.rfd _
theorem sv_turn (hv : SV s) {t : Int} : SV (turnSt s t) := by
  have hn := hv.w.1
  unfold turnSt
  split
  · rename_i z
    rw [cTask_0] at z
    refine hv.neww (hv.w.swt z.1 z.2) ?_
    show C20 (fset s.w (42 + t) (1 - s.w (42 + t)))
    exact hv.c.put hv.w (by omega)
  · exact hv.rfd _
theorem sv_kind (hv : SV s) {t k f : Int} : SV (kindSt s t k f) := by
  have hn := hv.w.1
  unfold kindSt
  split
  · rename_i z
    unfold cKind at z
    rw [cFst_0, cFst_0, cTask_0, cOth_0, cOut_0] at z
    refine hv.neww (hv.w.kst z.1.1.1 z.1.1.2 (by omega) z.2) ?_
    have e : ∀ x : Int, 0 ≤ x → x < s.w 72 ∨ x = 72 → kset s.w t k f x = s.w x := fun x h0 h1 => ks_ne (by omega) (by omega)
    intro i i0 i1
    rw [e 72 (by omega) (Or.inr rfl)] at i1
    rw [e i i0 (Or.inl i1)]
    exact hv.c i i0 i1
  · exact hv.rfd _
theorem sv_add (hv : SV s) {c pd dl : Int} : SV (addSt s c pd dl) := by
  have hn := hv.w.1
  unfold addSt
  split
  · rename_i z
    have zz : ¬ (c < 1 ∨ pd < 2 ∨ dl < 1) ∧ ¬ (20 < c ∨ 60 < pd ∨ 60 < dl ∨ 6 ≤ s.w 72) := by
      unfold cAdd at z
      split at z
      · omega
      · split at z
        · omega
        · exact ⟨by assumption, by assumption⟩
    refine hv.neww (hv.w.adw (by omega) (by omega) (by omega) (by omega)) ?_
    intro i i0 i1
    have e72 : addW s.w c pd dl 72 = s.w 72 + 1 := by
      unfold addW
      rw [if_neg (by omega), if_neg (by omega), if_neg (by omega), if_pos rfl]
    rw [e72] at i1
    by_cases ei : i = s.w 72
    · unfold addW; rw [if_pos ei]; omega
    · rw [aw_o (by omega) (by omega) (by omega) (by omega) (by omega) (by omega) (by omega) (by omega) (by omega) (by omega)]
      exact hv.c i i0 (by omega)
  · exact hv.rfd _
theorem sv_tell (hv : SV s) : SV (tellSt s) := ⟨tellW_f hv, hv.2.1, hv.2.2.1, hv.2.2.2.1, Nat.zero_le _, fun i hi => absurd hi (Nat.not_lt_zero i)⟩
theorem sv_cl (hv : SV s) : SV (clSt s) := ⟨hv.1, hv.2.1, Nat.zero_le _, fun i hi => absurd hi (Nat.not_lt_zero i), hv.2.2.2.2⟩
theorem sv_jud (hv : SV s) {pol : Int} : SV (judSt s pol) := by
  unfold judSt
  split
  · exact sv_cl hv
  · exact hv.rfd _
theorem sv_image (hv : SV s) : SV (mkSt s.w true s.w s.rf s.rn s.row s.ln s.lt) := ⟨hv.1, fun _ => hv.1, hv.2.2⟩
theorem sv_on (hv : SV s) : SV (onSt s) := by
  unfold onSt
  split
  · rename_i z
    exact ⟨hv.2.1 z, fun _ => hv.2.1 z, hv.2.2⟩
  · exact hv.rfd _
theorem sv_row (hv : SV s) {v : Int} : SV (rowSt s v) := by
  unfold rowSt
  split
  · rename_i z
    unfold cRow at z
    rw [cFst_0, cOut_0] at z
    have z2 : s.rn < 8 := by
      have := z.2
      split at this
      · assumption
      · omega
    refine ⟨hv.1, hv.2.1, z2, fun i hi => ?_, hv.2.2.2.2⟩
    show 0 ≤ seta s.row s.rn v i ∧ seta s.row s.rn v i ≤ 99
    have hi : i < s.rn + 1 := hi
    unfold seta
    split
    · exact z.1
    · exact hv.row i (by omega)
  · exact hv.rfd _
theorem sv_let (hv : SV s) {v : Int} : SV (letSt s v) := by
  unfold letSt
  split
  · rename_i z
    unfold cLet at z
    rw [cFst_0, cOut_0] at z
    have z2 : s.ln < 96 := by
      have := z.2
      split at this
      · assumption
      · omega
    refine ⟨hv.1, hv.2.1, hv.2.2.1, hv.2.2.2.1, z2, fun i hi => ?_⟩
    show 0 ≤ seta s.lt s.ln v i ∧ seta s.lt s.ln v i ≤ 255
    have hi : i < s.ln + 1 := hi
    unfold seta
    split
    · exact z.1
    · exact hv.lt i (by omega)
  · exact hv.rfd _
end VS
