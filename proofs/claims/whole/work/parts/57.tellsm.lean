/-! ===== tells, the reference's ===== -/
def RF (h h' : Mem) : Prop := (∀ q, q ≠ 60 → q ≠ 61 → q ≠ 63 → q ≠ 70 → h' q = h q) ∧ ∀ j, j ≠ 17 → j ≠ 18 → j ≠ 20 → h' 60 j = h 60 j
theorem MF.r {h h' : Mem} (f : MF h h') : RF h h' := ⟨fun q a _ _ d => f.1 q a d, f.2⟩
theorem RF.tr {a b c : Mem} (h1 : RF a b) (h2 : RF b c) : RF a c := ⟨fun q w x y z => (h2.1 q w x y z).trans (h1.1 q w x y z), fun j x y z => (h2.2 j x y z).trans (h1.2 j x y z)⟩
theorem RF.of61 {h h' : Mem} (f : ∀ q, q ≠ 61 → h' q = h q) : RF h h' := ⟨fun q _ b _ _ => f q b, fun j _ _ _ => congrFun (f 60 (by omega)) j⟩
theorem RF.of63 {h h' : Mem} (f : ∀ q, q ≠ 63 → h' q = h q) : RF h h' := ⟨fun q _ _ c _ => f q c, fun j _ _ _ => congrFun (f 60 (by omega)) j⟩
theorem MS.rf {h h' : Mem} {ln : Nat} {lt : Nat → Int} (hs : MS h ln lt) (hf : RF h h') : MS h' ln lt := ⟨(hf.2 8 (by omega) (by omega) (by omega)).trans hs.1, fun k hk => by rw [hf.1 66 (by omega) (by omega) (by omega) (by omega)]; exact hs.2 k hk⟩
section TM
variable {E : XE} {h : Mem} {s : St} {ln : Nat} {lt : Nat → Int} {w : Int → Int}
theorem sM_minds {Q : Mem → Prop} (hm : RW (h 61) w) (hq : ∀ h', (∀ q, q ≠ 63 → h' q = h q) → RW (h' 63) w → Q h') : CALLV E mM_minds [.ref 60] h Q := fM_minds (sM_copies (Or.inl rfl) (Or.inr (Or.inr rfl)) (by omega) hm hq)
theorem sM_forgets {Q : Mem → Prop} (hm : RW (h 63) w) (hq : ∀ h', (∀ q, q ≠ 61 → h' q = h q) → RW (h' 61) w → Q h') : CALLV E mM_forgets [.ref 60] h Q := fM_forgets (sM_copies (Or.inr (Or.inr rfl)) (Or.inl rfl) (by omega) hm hq)
theorem sM_readsAll {Q : Int32 → Mem → Prop} (hl : LB ln lt) (hs : MS h ln lt) (hm : RW (h 61) w) (hw : WF w) (hc : C20 w)
    (hq0 : rdT ln lt ≤ 0 → ∀ h', RF h h' → RW (h' 61) w → Q (zI (rdT ln lt)) h')
    (hq1 : 0 < rdT ln lt → ∀ h', RF h h' → RW (h' 61) ((rdU ln lt w).2.getD w) → Q (zI (rdU ln lt w).1) h') : CALLI E mM_readsAll [.ref 60] h Q := by
  have h96 := hl.1
  have mb := rdT_b hl
  refine fM_readsAll ?_
  have key2 : 0 < rdT ln lt → ∀ (f i m : Nat) (h1 : Mem) (w1 : Int → Int), RF h h1 → (h1 60 17 = zI (i : Nat) ∧ h1 60 18 = zI 1) → i ≤ ln → m ≤ i → ln - i < f → rdA ln lt f i m = rdT ln lt → RW (h1 61) w1 → RW (h1 63) w → WF w1 → C20 w1 → rdB ln lt (rdT ln lt) f i w1 = rdU ln lt w →
      WP E mM_readsAll 69 [some (.ref 60), some (.int (zI (rdT ln lt))), none] [] h1 (qI Q) := by
    intro hpos f
    induction f with
    | zero => intro i m h1 w1 _ _ _ _ hf _; omega
    | succ f ih =>
      intro i m h1 w1 hf mp hi him hff hr' hm1 hm3 hw1 hc1 hb
      have ge := rdA_ge hl (f + 1) i m (by rw [hr']; exact hpos)
      rw [hr'] at ge
      have s1 := hs.rf hf
      refine fM_readsAll_69 ?_
      rw [s1.1, show h1 60 17 = zI i from mp.1]
      unfold rdA at hr'
      unfold rdB at hb
      rw [zI_le (by omega) (by omega) (by omega) (by omega)]
      refine ⟨fun z => ?_, fun z => ?_⟩
      · rw [if_pos (by omega)] at hb
        have := hq1 hpos h1 hf (by rw [← hb]; exact hm1)
        rw [← hb] at this
        exact this
      · have c : ¬ ln ≤ i := by omega
        rw [if_neg c] at hr' hb
        refine sM_goesThrough hl s1 mp hi fun h2 f2 m2 => ?_
        have gs := go_stm (ln := ln) (lt := lt) i
        cases e : stm ln lt i with
        | mk q o =>
          rw [e] at gs hr' hb
          cases o with
          | none => simp only at hr'; omega
          | some l =>
            simp only at gs hr' hb
            obtain ⟨g1, g2, g3⟩ := gs
            have g3 := g3 l rfl
            have ok := stm_ok e
            have gx : goP ln lt i = (true, q, l) := by
              have : (goP ln lt i).1 = true := g1
              calc goP ln lt i = ((goP ln lt i).1, (goP ln lt i).2.1, (goP ln lt i).2.2) := rfl
                _ = (true, q, l) := by rw [this, g2, g3]
            rw [gx] at m2
            have hin : inb (zI (i : Int)) 96 = true := inb_zI (by omega) (by omega) (by omega)
            have hix : ix (zI (i : Int)) = i := by rw [ix_zI (by omega) (by omega)]; rfl
            have e66 : h2 66 i = zI (hr ln lt i) := by rw [f2.1 66 (by omega) (by omega), s1.2 i (by omega)]; congr 1; exact (if_pos (by omega)).symm
            rw [hin, hix, c_t, e66]
            have r2 : RW (h2 61) w1 := by rw [f2.1 61 (by omega) (by omega)]; exact hm1
            have r23 : RW (h2 63) w := by rw [f2.1 63 (by omega) (by omega)]; exact hm3
            refine sM_does r2 hw1 (stm_okL e) m2.2.2.2 (fun en h3 f3 => ?_) (fun w' es h3 r3 f3 => ?_)
            · rw [en] at hb
              simp only at hb
              refine ⟨fun z => absurd rfl z, fun _ => sM_forgets (w := w) (by rw [f3 63 (by omega)]; exact r23) fun h4 f4 r4 => ?_⟩
              have := hq1 hpos h4 (hf.tr (f2.r.tr ((RF.of61 f3).tr (RF.of61 f4)))) (by rw [← hb]; exact r4)
              rw [← hb] at this
              rw [show (-2000 : Int32) = zI (-2000) from rfl, zI_sub]
              exact this
            · rw [es] at hb
              simp only at hb
              have wf := doS_wf hw1 hc1 (stm_okL e) es
              refine ⟨fun _ => ?_, fun z => absurd z (by decide)⟩
              have m3 : h3 60 17 = zI (q : Nat) ∧ h3 60 18 = zI 1 := ⟨(congrFun (f3 60 (by omega)) 17).trans m2.1, (congrFun (f3 60 (by omega)) 18).trans m2.2.1⟩
              exact ih q (m + 1) h3 w' (hf.tr (f2.r.tr (RF.of61 f3))) m3 ok.2.2.2.2 (by omega) (by omega) hr' r3 (by rw [f3 63 (by omega)]; exact r23) wf.1 wf.2 hb
  have key : ∀ (f i m : Nat) (h1 : Mem), MF h h1 → (h1 60 17 = zI (i : Nat) ∧ h1 60 18 = zI 1) → i ≤ ln → m ≤ i → (m = 0 → i = 0) → ln - i < f → rdA ln lt f i m = rdT ln lt → WP E mM_readsAll 12 [some (.ref 60), some (.int (zI m)), none] [] h1 (qI Q) := by
    intro f
    induction f with
    | zero => intro i m h1 _ _ _ _ _ hf _; omega
    | succ f ih =>
      intro i m h1 hf mp hi him h0i hff hr'
      have s1 := hs.mf hf
      have hr0 := hr'
      unfold rdA at hr'
      have go : (ln ≤ i → m = 0) → CALLV E mM_goesThrough [.ref 60] h1 fun h2 => WP E mM_readsAll 12 [some (.ref 60), some (.int (zI m + 1)), none] [] h2 (qI Q) := by
        intro hz
        refine sM_goesThrough hl s1 mp hi fun h2 f2 m2 => ?_
        have gs := go_stm (ln := ln) (lt := lt) i
        cases e : stm ln lt i with
        | mk q o =>
          rw [e] at gs hr'
          simp only at gs
          obtain ⟨g1, g2, g3⟩ := gs
          cases o with
          | none =>
            have gx : (goP ln lt i).1 = false := g1
            have hv : rdT ln lt = -1000 - (q : Int) := by
              by_cases c : ln ≤ i
              · rw [if_pos c, if_pos (hz c)] at hr'
                have i0 := h0i (hz c)
                have : q = 0 := by
                  have e1 : hr ln lt i = -1 := if_neg (by omega)
                  unfold stm at e
                  rw [if_pos (by rw [e1]; decide)] at e
                  simp at e
                  omega
                rw [← hr', this]; rfl
              · rw [if_neg c] at hr'
                exact hr'.symm
            refine fM_readsAll_12 ?_
            have q96 : q ≤ 96 := by
              have := stm_le (ln := ln) (lt := lt) hi
              rw [e] at this
              simp only at this
              omega
            rw [m2.1, m2.2.1, g2, gx]
            refine ⟨fun _ => ⟨fun z => absurd rfl z, fun _ => ?_⟩, fun z => absurd rfl z⟩
            have := hq0 (by omega) h2 (hf.r.tr f2.r) (by rw [f2.1 61 (by omega) (by omega), hf.1 61 (by omega) (by omega)]; exact hm)
            rw [hv] at this
            rw [show (-1000 : Int32) = zI (-1000) from rfl, zI_sub]
            exact this
          | some l =>
            have ok := stm_ok e
            have gx : goP ln lt i = (true, q, l) := by
              have : (goP ln lt i).1 = true := g1
              calc goP ln lt i = ((goP ln lt i).1, (goP ln lt i).2.1, (goP ln lt i).2.2) := rfl
                _ = (true, q, l) := by rw [this, g2, g3 l rfl]
            rw [gx] at m2
            rw [if_neg (by omega)] at hr'
            have := ih q (m + 1) h2 (hf.tr f2) ⟨m2.1, m2.2.1⟩ ok.2.2.2.2 (by omega) (by omega) (by omega) hr'
            rw [zl_1, zI_add]
            exact this
      refine fM_readsAll_12 ?_
      rw [s1.1, show h1 60 17 = zI i from mp.1, show h1 60 18 = zI 1 from mp.2]
      refine ⟨fun z => absurd z (by decide), fun _ => ?_⟩
      rw [zl_0, zI_eq (by omega) (by omega) (by omega) (by omega), zI_le (by omega) (by omega) (by omega) (by omega)]
      refine ⟨fun z => go fun _ => by omega, fun z => ⟨fun z2 => ⟨fun _ => ?_, fun z => absurd z (by decide)⟩, fun z2 => go fun y => by omega⟩⟩
      rw [if_pos (by omega), if_neg (by omega)] at hr'
      have hm1 : RW (h1 61) w := by rw [hf.1 61 (by omega) (by omega)]; exact hm
      refine sM_minds hm1 fun h2 f2 r2 => ?_
      rw [hr']
      have mp2 : upd2 h2 60 17 (zI 0) 60 17 = zI ((0 : Nat) : Int) ∧ upd2 h2 60 17 (zI 0) 60 18 = zI 1 := ⟨u_s, (u_i (by omega)).trans ((congrFun (f2 60 (by omega)) 18).trans mp.2)⟩
      refine key2 (by omega) 100 0 0 _ w ((hf.r.tr (RF.of63 f2)).tr (MF.rf.p (by omega)).r) mp2 (Nat.zero_le _) (Nat.le_refl _) (by omega) rfl ?_ ?_ hw hc rfl
      · rw [upd2_ne 61 (by omega), f2 61 (by omega)]; exact hm1
      · rw [upd2_ne 63 (by omega)]; exact r2
  exact key 100 0 0 _ ((MF.rf.p (by omega)).p (by omega)) ⟨(u_i (by omega)).trans u_s, u_s⟩ (Nat.zero_le _) (Nat.le_refl _) (fun _ => rfl) (by omega) rfl
theorem qM_tells {Q : Int32 → Mem → Prop} (hv : SV s) (hb : SB h s) (hq : ∀ h', SB h' (tellSt s) → FB h h' → Q (zI (tellR s).1) h') : CALLI E mM_tells [.ref 60] h Q := by
  refine fM_tells ?_
  have r : tellR s = if rdT s.ln s.lt ≤ 0 then (rdT s.ln s.lt, none) else rdU s.ln s.lt s.w := rfl
  have fin : ∀ h1, RF h h1 → RW (h1 61) (tellW s) → Q (zI (tellR s).1) (upd2 h1 60 8 0) := fun h1 f1 r1 => by
    have g : ∀ q, q ≠ 60 → q ≠ 61 → q ≠ 63 → q ≠ 70 → upd2 h1 60 8 0 q = h q := fun q a b c d => (upd2_ne q a).trans (f1.1 q a b c d)
    have g60 : ∀ j, j ≠ 8 → j ≠ 17 → j ≠ 18 → j ≠ 20 → upd2 h1 60 8 0 60 j = h 60 j := fun j a b c d => (u_i a).trans (f1.2 j b c d)
    exact hq _ ⟨by rw [upd2_ne 61 (by omega)]; exact r1, by rw [g60 3 (by omega) (by omega) (by omega) (by omega)]; exact hb.has, fun z => by rw [g 62 (by omega) (by omega) (by omega) (by omega)]; exact hb.k z, fun i hi => by rw [g 64 (by omega) (by omega) (by omega) (by omega)]; exact hb.rf i hi, by rw [g60 6 (by omega) (by omega) (by omega) (by omega)]; exact hb.rn, fun i hi => by rw [g 65 (by omega) (by omega) (by omega) (by omega)]; exact hb.row i hi, u_s, fun i hi => absurd hi (Nat.not_lt_zero i)⟩ (fun q hq => g q (by omega) (by omega) (by omega) (by omega))
  refine sM_readsAll (w := s.w) hv.lb ⟨hb.ln, hb.lt⟩ hb.w hv.w hv.c (fun z h1 f1 r1 => ?_) (fun z h1 f1 r1 => ?_)
  · rw [if_pos z] at r
    have e1 : (tellR s).1 = rdT s.ln s.lt := by rw [r]
    have ew : tellW s = s.w := by unfold tellW; rw [r]; rfl
    rw [← e1]
    exact fin h1 f1 (by rw [ew]; exact r1)
  · rw [if_neg (by omega)] at r
    have ew : tellW s = (rdU s.ln s.lt s.w).2.getD s.w := by unfold tellW; rw [r]
    rw [← r]
    exact fin h1 f1 (by rw [ew]; exact r1)
end TM
