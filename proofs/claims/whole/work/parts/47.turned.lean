/-! ===== turns ===== -/
theorem xor_z {m : Nat} {k : Int} (hm : m < 64) (h0 : 0 ≤ k) (h1 : k < 6) : zI (m : Nat) ^^^ shl (zI 1) (zI k) = zI ((m ^^^ 2 ^ k.toNat : Nat) : Int) := by
  have := xor_k m hm k.toNat (by omega)
  rw [show ((k.toNat : Nat) : Int) = k by omega] at this
  exact this
def sw (w : Int → Int) (t : Int) : Int → Int := fset w (42 + t) (1 - w (42 + t))
theorem DW.ons {h h' : Mem} {p : Nat} {w w' : Int → Int} (hd : DW h p w) (hw : WF w) (e : ∀ i : Int, 0 ≤ i → i < 73 → ¬ (42 ≤ i ∧ i < 48) → w' i = w i) (hp : ∀ q, q ≠ p → h' q = h q) (h0 : h' p 0 = h p 0) (h1 : h' p 1 = zI (onM w' : Nat)) : DW h' p w' := by
  have hn := hw.1
  have n : w' 72 = w 72 := e 72 (by omega) (by omega) (by omega)
  unfold DW DR at hd ⊢
  simp only [hp (p + 1) (by omega), hp (p + 2) (by omega), hp (p + 3) (by omega), hp (p + 4) (by omega), hp (p + 5) (by omega), hp (p + 6) (by omega), hp (p + 7) (by omega), hp (p + 8) (by omega), hp (p + 9) (by omega), hp (p + 10) (by omega), hp (p + 11) (by omega), hp (p + 12) (by omega), hp (p + 13) (by omega), Nat.add_zero, n] at hd ⊢
  refine ⟨h0.trans hd.1, h1, fun i i0 i1 => ?_, hd.2.2.2⟩
  have d := hd.2.2.1 i i0 i1
  have e6 := e (6 + i) (by omega) (by omega) (by omega)
  have e12 := e (12 + i) (by omega) (by omega) (by omega)
  have e30 := e (30 + i) (by omega) (by omega) (by omega)
  have e36 := e (36 + i) (by omega) (by omega) (by omega)
  have a9 : dist w' i = dist w i := by unfold dist; rw [e6, e30, e36]
  have a10 : lat w' i = lat w i := by unfold lat; rw [e30, e36]
  have a11 : lim w' i = lim w i := by unfold lim; rw [e12, e30, e36]
  have a12 : mostJ w' i = mostJ w i := by unfold mostJ; rw [e30, e36]
  have a13 : moreJ w' i = moreJ w i := by unfold moreJ; rw [e30]
  rw [e i (by omega) (by omega) (by omega), e6, e12, e (18 + i) (by omega) (by omega) (by omega), e (24 + i) (by omega) (by omega) (by omega), e30, e36, a9, a10, a11, a12, a13]
  exact ⟨d.1, fun l l0 l1 => by rw [e (48 + 4 * i + l) (by omega) (by omega) (by omega)]; exact d.2.1 l l0 l1, d.2.2⟩
theorem WF.swt {w : Int → Int} (hw : WF w) {t : Int} (h0 : 0 ≤ t) (h1 : t < w 72) : WF (sw w t) := by
  have hn := hw.1
  have b1 := hw.2.2 t h0 h1
  have b2 := hw.2.1 (42 + t) (by omega) (by omega)
  have e72 : sw w t 72 = w 72 := fs_ne (by omega)
  refine ⟨by rw [e72]; exact hn, fun i i0 i1 => ?_, fun i i0 i1 => ?_⟩
  · unfold sw fset
    split
    · omega
    · exact hw.2.1 i i0 i1
  · rw [e72] at i1
    have a := hw.2.2 i i0 i1
    unfold sw fset
    refine ⟨⟨?_, ?_, ?_, ?_, ?_, ?_, ?_, ?_, ?_, ?_⟩, fun l l0 l1 => ?_⟩
    all_goals split
    all_goals first
      | omega
      | exact a.2 l l0 l1
def turnSt (s : St) (t : Int) : St := if cTask s.w t = 0 then newW s (sw s.w t) else s.rfd (cTask s.w t)
section TU
variable {E : XE} {h : Mem} {w : Int → Int} {s : St} {p : Nat}
theorem sD_toggle {Q : Mem → Prop} {t : Int} (hp : isP p) (hd : DW h p w) (hw : WF w) (h0 : 0 ≤ t) (h1 : t < w 72) (hq : ∀ h', DW h' p (sw w t) → (∀ q, q ≠ p → h' q = h q) → Q h') : CALLV E mD_toggle [.ref p, .int (zI t)] h Q := by
  have hn := hw.1
  refine fD_toggle hp (sD_has hp hd hw (by omega) ?_)
  rw [if_pos ⟨h0, h1⟩]
  refine ⟨fun z => absurd z (by decide), fun _ => ?_⟩
  rw [hd.on]
  have lt := onM_lt hw
  rw [zl_1, xor_z lt h0 (by omega)]
  refine hq _ (hd.ons hw (fun i i0 i1 i2 => fs_ne (by omega)) (fun q hq => upd2_ne q hq) (u_i (by omega)) ?_) (fun q hq => upd2_ne q hq)
  rw [u_s]
  exact congrArg (fun x : Nat => zI (x : Int)) (onM_sw hw h0 h1).symm
variable {Q : Int32 → Mem → Prop}
theorem qC_turns {t : Int} (hv : SV s) (ha : SA h s) (ht : I32 t) (hq : ∀ h', SA h' (turnSt s t) → FA h h' → Q (zI (cAns (cTask s.w t) (1 - s.w (42 + t)))) h') : CALLI E mC_turns [.ref 0, .int (zI t)] h Q := by
  refine fC_turns (sC_missingTask hv ha ht (sC_fin2 ha (cTask_b _ _) hq fun z K => ?_))
  rw [cTask_0] at z
  have hn := hv.w.1
  have ws := hv.w.swt z.1 z.2
  have e72 : sw s.w t 72 = s.w 72 := fs_ne (by omega)
  have b1 := hv.w.2.2 t z.1 z.2
  have b2 := hv.w.2.1 (42 + t) (by omega) (by omega)
  refine sD_toggle (Or.inl rfl) ha.w hv.w z.1 z.2 fun h1 d f => sD_isOn (Or.inl rfl) d ws ht ?_
  have K := K h1 (ha.neww d fun q hq => f q (by omega)) (fun q hq => f q (by omega))
  have e : sw s.w t (42 + t) = 1 - s.w (42 + t) := fs_eq
  by_cases c : s.w (42 + t) = 1
  · rw [if_neg (by rw [e]; omega)]
    rw [c] at K
    exact ⟨fun _ => K, fun z => absurd rfl z⟩
  · rw [if_pos (by rw [e, e72]; omega)]
    rw [show s.w (42 + t) = 0 by omega] at K
    exact ⟨fun z => absurd z (by decide), fun _ => K⟩
theorem qM_turns {t : Int} (hv : SV s) (hb : SB h s) (ht : I32 t) (hq : ∀ h', SB h' (turnSt s t) → FB h h' → Q (zI (cAns (cTask s.w t) (1 - s.w (42 + t)))) h') : CALLI E mM_turns [.ref 60, .int (zI t)] h Q := by
  refine fM_turns (sM_isTask hb.w hv.w ht ?_)
  by_cases c : 0 ≤ t ∧ t < s.w 72
  · rw [if_pos c]
    unfold turnSt at hq
    rw [cTask_0.mpr c, if_pos rfl] at hq
    have hn := hv.w.1
    have b2 := hv.w.2.1 (42 + t) (by omega) (by omega)
    refine ⟨fun _ => ?_, fun z => absurd z (by decide)⟩
    have hq := hq (upd2 h 61 (42 + t).toNat (zI (1 - s.w (42 + t)))) (hb.neww (by
      have := hb.w.put (v := 1 - s.w (42 + t)) (j := 42 + t) (by omega) (by omega)
      intro i i0 i1
      exact this i i0 i1) fun q hq => upd2_ne q hq) (FB.rf.up (by omega))
    simp (disch := omega) only [zI_add, zI_sub, zI_mul, zI_neg, zI_lt, zI_le, zI_eq, zI_div, zI_rem, ix_zI, inb_zI, nz_zI, imax_zI, imin_zI, c_t, nb01.1, nb01.2, zl_0, zl_1, zl_2, zl_3, zl_4, zl_5, zl_6, zl_7, zl_8, zl_9, zl_10, zl_11, zl_12, zl_13, zl_14, zl_15, zl_16, zl_17, zl_18, zl_19, zl_20, zl_24, zl_30, zl_31, zl_36, zl_42, zl_44, zl_48, zl_57, zl_58, zl_59, zl_60, zl_61, zl_62, zl_63, zl_64, zl_72, zl_73, zl_96, zl_99, zl_100, zl_104, zl_107, zl_111, zl_114, zl_116, zl_120, zl_200, zl_255, zl_256, zl_360, zl_600, zl_800, zl_1000, zl_2000, hb.w _, u_s]
    exact hq
  · rw [if_neg c]
    unfold turnSt at hq
    rw [cTask_1 c] at hq
    exact ⟨fun z => absurd rfl z, fun _ => sM_refused (c := 1) hb (by omega) (by omega) hq⟩
end TU
/-! ===== a kind laid anew ===== -/
def KF (h h' : Mem) (p T : Nat) (k f per ddl : Int) : Prop := (∀ q, ¬ (q = p + 6 ∨ q = p + 7 ∨ (p + 9 ≤ q ∧ q ≤ p + 13)) → h' q = h q) ∧ (∀ q i, i ≠ T → h' q i = h q i) ∧ h' (p + 6) T = zI k ∧ h' (p + 7) T = zI f ∧
  h' (p + 9) T = zI (per + if k = 2 ∨ k = 3 then f else 0) ∧ h' (p + 10) T = zI (if k = 1 ∨ k = 4 then f else 0) ∧ h' (p + 11) T = zI (if k = 5 then max 1 (ddl - f) else ddl) ∧ h' (p + 12) T = zI (if k = 4 then f + 1 else 2147483647) ∧ h' (p + 13) T = zI (if k = 3 then 1 else 0)
def kFin (h : Mem) (p T : Nat) (k f : Int) (m : Int32) : Mem := upd2 (upd2 (upd2 h (p + 11) T m) (p + 12) T (zI (if k = 4 then f + 1 else 2147483647))) (p + 13) T (zI (if k = 3 then 1 else 0))
theorem u_j {h : Mem} {p i q j : Nat} {x : Int32} (hj : j ≠ i) : upd2 h p i x q j = h q j := by
  unfold upd2 upd
  split
  · rename_i e
    show (if j = i then x else h p j) = _
    rw [if_neg hj, e]
  · rfl
theorem KF.mk (h : Mem) (p T : Nat) (k f per ddl : Int) : KF h (kFin (upd2 (upd2 (upd2 (upd2 h (p + 6) T (zI k)) (p + 7) T (zI f)) (p + 9) T (zI (per + if k = 2 ∨ k = 3 then f else 0))) (p + 10) T (zI (if k = 1 ∨ k = 4 then f else 0))) p T k f (zI (if k = 5 then max 1 (ddl - f) else ddl))) p T k f per ddl := by
  unfold kFin
  refine ⟨fun q hq => ?_, fun q i hi => ?_, ?_, ?_, ?_, ?_, ?_, ?_, ?_⟩
  · rw [upd2_ne q (by omega), upd2_ne q (by omega), upd2_ne q (by omega), upd2_ne q (by omega), upd2_ne q (by omega), upd2_ne q (by omega), upd2_ne q (by omega)]
  · rw [u_j hi, u_j hi, u_j hi, u_j hi, u_j hi, u_j hi, u_j hi]
  · rw [upd2_ne _ (by omega), upd2_ne _ (by omega), upd2_ne _ (by omega), upd2_ne _ (by omega), upd2_ne _ (by omega), upd2_ne _ (by omega), u_s]
  · rw [upd2_ne _ (by omega), upd2_ne _ (by omega), upd2_ne _ (by omega), upd2_ne _ (by omega), upd2_ne _ (by omega), u_s]
  · rw [upd2_ne _ (by omega), upd2_ne _ (by omega), upd2_ne _ (by omega), upd2_ne _ (by omega), u_s]
  · rw [upd2_ne _ (by omega), upd2_ne _ (by omega), upd2_ne _ (by omega), u_s]
  · rw [upd2_ne _ (by omega), upd2_ne _ (by omega), u_s]
  · rw [upd2_ne _ (by omega), u_s]
  · rw [u_s]
def kset (w : Int → Int) (t k f : Int) : Int → Int := fset (fset w (30 + t) k) (36 + t) f
theorem ks_ne {w : Int → Int} {t k f x : Int} (h : x ≠ 30 + t) (h2 : x ≠ 36 + t) : kset w t k f x = w x := (fs_ne h2).trans (fs_ne h)
theorem ks_k {w : Int → Int} {t k f : Int} : kset w t k f (30 + t) = k := (fs_ne (by omega)).trans fs_eq
theorem ks_f {w : Int → Int} {t k f : Int} : kset w t k f (36 + t) = f := fs_eq
theorem WF.kst {w : Int → Int} (hw : WF w) {t k f : Int} (h0 : 0 ≤ t) (h1 : t < w 72) (hk : 0 ≤ k ∧ k ≤ 5) (hf : 0 ≤ f ∧ f ≤ 9) : WF (kset w t k f) := by
  have hn := hw.1
  have e72 : kset w t k f 72 = w 72 := ks_ne (by omega) (by omega)
  refine ⟨by rw [e72]; exact hn, fun i i0 i1 => ?_, fun i i0 i1 => ?_⟩
  · unfold kset fset
    split
    · omega
    · split
      · omega
      · exact hw.2.1 i i0 i1
  · rw [e72] at i1
    have a := hw.2.2 i i0 i1
    rw [ks_ne (by omega) (by omega), ks_ne (by omega) (by omega), ks_ne (by omega) (by omega), ks_ne (by omega) (by omega), ks_ne (by omega) (by omega), ks_ne (x := 42 + i) (by omega) (by omega)]
    refine ⟨⟨a.1.1, a.1.2.1, a.1.2.2.1, a.1.2.2.2.1, a.1.2.2.2.2.1, a.1.2.2.2.2.2.1, a.1.2.2.2.2.2.2.1, ?_, ?_, a.1.2.2.2.2.2.2.2.2.2⟩, fun l l0 l1 => by rw [ks_ne (by omega) (by omega)]; exact a.2 l l0 l1⟩
    · unfold kset fset
      rw [if_neg (by omega)]
      split <;> omega
    · unfold kset fset
      split
      · omega
      · rw [if_neg (by omega)]
        omega
theorem KF.dw {h h' : Mem} {p : Nat} {w : Int → Int} {t k f : Int} (hd : DW h p w) (hw : WF w) (h0 : 0 ≤ t) (h1 : t < w 72) (c : KF h h' p t.toNat k f (w (6 + t)) (w (12 + t))) : DW h' p (kset w t k f) := by
  have hn := hw.1
  obtain ⟨c1, c2, c3, c4, c5, c6, c7, c8, c9⟩ := c
  have n : kset w t k f 72 = w 72 := ks_ne (by omega) (by omega)
  have g : ∀ j, j ≤ 5 → h' (p + j) = h (p + j) := fun j hj => c1 _ (by omega)
  have g8 : h' (p + 8) = h (p + 8) := c1 _ (by omega)
  have eon : onM (kset w t k f) = onM w := by
    unfold onM
    rw [n]
    exact onK_cg _ fun i a b => ks_ne (by omega) (by omega)
  refine ⟨?_, ?_, fun i i0 i1 => ?_, fun i i0 i1 => ?_⟩
  · show h' (p + 0) 0 = _
    rw [g 0 (by omega), n]; exact hd.1
  · show h' (p + 0) 1 = _
    rw [g 0 (by omega), eon]; exact hd.2.1
  · rw [n] at i1
    have d := hd.2.2.1 i i0 i1
    have e0 : kset w t k f i = w i := ks_ne (by omega) (by omega)
    have e6 : kset w t k f (6 + i) = w (6 + i) := ks_ne (by omega) (by omega)
    have e12 : kset w t k f (12 + i) = w (12 + i) := ks_ne (by omega) (by omega)
    have e18 : kset w t k f (18 + i) = w (18 + i) := ks_ne (by omega) (by omega)
    have e24 : kset w t k f (24 + i) = w (24 + i) := ks_ne (by omega) (by omega)
    have e48 : ∀ l : Int, 0 ≤ l → l < 4 → kset w t k f (48 + 4 * i + l) = w (48 + 4 * i + l) := fun l l0 l1 => ks_ne (by omega) (by omega)
    rw [e0, e6, e12, e18, e24]
    by_cases e : i = t
    · subst e
      refine ⟨⟨(congrFun (g 1 (by omega)) _).trans d.1.1, (congrFun (g 2 (by omega)) _).trans d.1.2.1, (congrFun (g 3 (by omega)) _).trans d.1.2.2.1, (congrFun (g 4 (by omega)) _).trans d.1.2.2.2.1, (congrFun (g 5 (by omega)) _).trans d.1.2.2.2.2.1, by rw [ks_k]; exact c3, by rw [ks_f]; exact c4⟩, fun l l0 l1 => by rw [e48 l l0 l1]; exact (congrFun g8 _).trans (d.2.1 l l0 l1), ?_, ?_, ?_, ?_, ?_⟩
      · unfold dist; rw [e6, ks_k, ks_f]; exact c5
      · unfold lat; rw [ks_k, ks_f]; exact c6
      · unfold lim; rw [e12, ks_k, ks_f]; exact c7
      · unfold mostJ; rw [ks_k, ks_f]; exact c8
      · unfold moreJ; rw [ks_k]; exact c9
    · have e30 : kset w t k f (30 + i) = w (30 + i) := ks_ne (by omega) (by omega)
      have e36 : kset w t k f (36 + i) = w (36 + i) := ks_ne (by omega) (by omega)
      have r : ∀ q, h' q i.toNat = h q i.toNat := fun q => c2 q _ (by omega)
      have a9 : dist (kset w t k f) i = dist w i := by unfold dist; rw [e6, e30, e36]
      have a10 : lat (kset w t k f) i = lat w i := by unfold lat; rw [e30, e36]
      have a11 : lim (kset w t k f) i = lim w i := by unfold lim; rw [e12, e30, e36]
      have a12 : mostJ (kset w t k f) i = mostJ w i := by unfold mostJ; rw [e30, e36]
      have a13 : moreJ (kset w t k f) i = moreJ w i := by unfold moreJ; rw [e30]
      rw [e30, e36, a9, a10, a11, a12, a13]
      exact ⟨⟨(r _).trans d.1.1, (r _).trans d.1.2.1, (r _).trans d.1.2.2.1, (r _).trans d.1.2.2.2.1, (r _).trans d.1.2.2.2.2.1, (r _).trans d.1.2.2.2.2.2.1, (r _).trans d.1.2.2.2.2.2.2⟩, fun l l0 l1 => by rw [e48 l l0 l1]; exact (congrFun g8 _).trans (d.2.1 l l0 l1), (r _).trans d.2.2.1, (r _).trans d.2.2.2.1, (r _).trans d.2.2.2.2.1, (r _).trans d.2.2.2.2.2.1, (r _).trans d.2.2.2.2.2.2⟩
  · rw [n] at i0
    have d := hd.2.2.2 i i0 i1
    have r : ∀ q, h' q i.toNat = h q i.toNat := fun q => c2 q _ (by omega)
    exact ⟨⟨(r _).trans d.1.1, (r _).trans d.1.2.1, (r _).trans d.1.2.2.1, (r _).trans d.1.2.2.2⟩, fun l l0 l1 => (congrFun g8 _).trans (d.2 l l0 l1)⟩
section KD
variable {E : XE} {h : Mem} {w : Int → Int} {s : St} {p : Nat}
theorem sD_setKind {Q : Mem → Prop} {t k f per ddl : Int} (hp : isP p) (h0 : 0 ≤ t) (h6 : t < 6) (hk : 0 ≤ k ∧ k ≤ 5) (hf : 0 ≤ f ∧ f ≤ 9) (hper : h (p + 2) t.toNat = zI per) (hddl : h (p + 3) t.toNat = zI ddl) (bp : 0 ≤ per ∧ per ≤ 60) (bd : 0 ≤ ddl ∧ ddl ≤ 60)
    (hq : ∀ h', KF h h' p t.toNat k f per ddl → Q h') : CALLV E mD_setKind [.ref p, .int (zI t), .int (zI k), .int (zI f)] h Q := by
  have hq := hq _ (KF.mk h p t.toNat k f per ddl)
  have s123 : ∀ (h1 : Mem) (m : Int32), Q (kFin h1 p t.toNat k f m) → WP E mD_setKind 123 [some (.ref p), some (.int (zI t)), some (.int (zI k)), some (.int (zI f)), none, none] [.int m, .int (zI t), .ref (p + 11)] h1 (qV Q) := by
    intro h1 m hq
    unfold kFin at hq
    refine fD_setKind_123 hp ?_
    simp (disch := omega) only [zI_add, zI_sub, zI_mul, zI_neg, zI_lt, zI_le, zI_eq, zI_div, zI_rem, ix_zI, inb_zI, nz_zI, imax_zI, imin_zI, c_t, nb01.1, nb01.2, zl_0, zl_1, zl_2, zl_3, zl_4, zl_5, zl_6, zl_7, zl_8, zl_9, zl_10, zl_11, zl_12, zl_13, zl_14, zl_15, zl_16, zl_17, zl_18, zl_19, zl_20, zl_24, zl_30, zl_31, zl_36, zl_42, zl_44, zl_48, zl_57, zl_58, zl_59, zl_60, zl_61, zl_62, zl_63, zl_64, zl_72, zl_73, zl_96, zl_99, zl_100, zl_104, zl_107, zl_111, zl_114, zl_116, zl_120, zl_200, zl_255, zl_256, zl_360, zl_600, zl_800, zl_1000, zl_2000, zl_2147483647]
    refine ⟨fun z => ⟨fun z2 => ?_, fun z2 => ?_⟩, fun z => ⟨fun z2 => ?_, fun z2 => ?_⟩⟩
    · rw [if_neg z, if_neg z2] at hq; exact hq
    · rw [if_neg z, if_pos z2] at hq; exact hq
    · rw [if_pos z, if_neg z2] at hq; exact hq
    · rw [if_pos z, if_pos z2] at hq; exact hq
  have s75 : ∀ (h1 : Mem) (j : Int) (d : Int32), (j = if k = 1 ∨ k = 4 then 1 else 0) → h1 (p + 3) t.toNat = zI ddl → Q (kFin (upd2 (upd2 h1 (p + 9) t.toNat d) (p + 10) t.toNat (zI (if k = 1 ∨ k = 4 then f else 0))) p t.toNat k f (zI (if k = 5 then max 1 (ddl - f) else ddl))) →
      WP E mD_setKind 75 [some (.ref p), some (.int (zI t)), some (.int (zI k)), some (.int (zI f)), none, some (.int (zI j))] [.int d, .int (zI t), .ref (p + 9)] h1 (qV Q) := by
    intro h1 j d hj h3 hq
    refine fD_setKind_75 hp ?_
    have e3 : ∀ x, upd2 (upd2 h1 (p + 9) t.toNat d) (p + 10) t.toNat x (p + 3) t.toNat = zI ddl := fun x => by rw [upd2_ne _ (by omega), upd2_ne _ (by omega)]; exact h3
    have hj2 : 0 ≤ j ∧ j ≤ 1 := by rw [hj]; split <;> omega
    simp (disch := omega) only [zI_add, zI_sub, zI_mul, zI_neg, zI_lt, zI_le, zI_eq, zI_div, zI_rem, ix_zI, inb_zI, nz_zI, imax_zI, imin_zI, c_t, nb01.1, nb01.2, zl_0, zl_1, zl_2, zl_3, zl_4, zl_5, zl_6, zl_7, zl_8, zl_9, zl_10, zl_11, zl_12, zl_13, zl_14, zl_15, zl_16, zl_17, zl_18, zl_19, zl_20, zl_24, zl_30, zl_31, zl_36, zl_42, zl_44, zl_48, zl_57, zl_58, zl_59, zl_60, zl_61, zl_62, zl_63, zl_64, zl_72, zl_73, zl_96, zl_99, zl_100, zl_104, zl_107, zl_111, zl_114, zl_116, zl_120, zl_200, zl_255, zl_256, zl_360, zl_600, zl_800, zl_1000, zl_2000, e3]
    refine ⟨fun z => ⟨fun z2 => s123 _ _ ?_, fun z2 => s123 _ _ ?_⟩, fun z => ⟨fun z2 => s123 _ _ ?_, fun z2 => s123 _ _ ?_⟩⟩
    · rw [if_neg (by intro c; rw [if_pos c] at hj; omega), if_neg z2] at hq; exact hq
    · rw [if_neg (by intro c; rw [if_pos c] at hj; omega), if_pos z2] at hq; exact hq
    · rw [if_pos (by
        apply Decidable.byContradiction
        intro c
        rw [if_neg c] at hj
        exact z hj), if_neg z2] at hq; exact hq
    · rw [if_pos (by
        apply Decidable.byContradiction
        intro c
        rw [if_neg c] at hj
        exact z hj), if_pos z2] at hq; exact hq
  have s29 : ∀ (h1 : Mem) (j : Int), (j = if k = 2 ∨ k = 3 then 1 else 0) → h1 (p + 3) t.toNat = zI ddl → h1 (p + 2) t.toNat = zI per → Q (kFin (upd2 (upd2 h1 (p + 9) t.toNat (zI (per + if k = 2 ∨ k = 3 then f else 0))) (p + 10) t.toNat (zI (if k = 1 ∨ k = 4 then f else 0))) p t.toNat k f (zI (if k = 5 then max 1 (ddl - f) else ddl))) →
      WP E mD_setKind 29 [some (.ref p), some (.int (zI t)), some (.int (zI k)), some (.int (zI f)), none, none] [.int (zI j)] h1 (qV Q) := by
    intro h1 j hj h3 h2 hq
    refine fD_setKind_29 hp ?_
    have hj2 : 0 ≤ j ∧ j ≤ 1 := by rw [hj]; split <;> omega
    have A : j = 0 → Q (kFin (upd2 (upd2 h1 (p + 9) t.toNat (zI per)) (p + 10) t.toNat (zI (if k = 1 ∨ k = 4 then f else 0))) p t.toNat k f (zI (if k = 5 then max 1 (ddl - f) else ddl))) := fun z => by
      rw [if_neg (by intro c; rw [if_pos c] at hj; omega), Int.add_zero] at hq; exact hq
    have B : ¬ j = 0 → Q (kFin (upd2 (upd2 h1 (p + 9) t.toNat (zI (per + f))) (p + 10) t.toNat (zI (if k = 1 ∨ k = 4 then f else 0))) p t.toNat k f (zI (if k = 5 then max 1 (ddl - f) else ddl))) := fun z => by
      rw [if_pos (by
        apply Decidable.byContradiction
        intro c
        rw [if_neg c] at hj
        exact z hj)] at hq; exact hq
    simp (disch := omega) only [zI_add, zI_sub, zI_mul, zI_neg, zI_lt, zI_le, zI_eq, zI_div, zI_rem, ix_zI, inb_zI, nz_zI, imax_zI, imin_zI, c_t, nb01.1, nb01.2, zl_0, zl_1, zl_2, zl_3, zl_4, zl_5, zl_6, zl_7, zl_8, zl_9, zl_10, zl_11, zl_12, zl_13, zl_14, zl_15, zl_16, zl_17, zl_18, zl_19, zl_20, zl_24, zl_30, zl_31, zl_36, zl_42, zl_44, zl_48, zl_57, zl_58, zl_59, zl_60, zl_61, zl_62, zl_63, zl_64, zl_72, zl_73, zl_96, zl_99, zl_100, zl_104, zl_107, zl_111, zl_114, zl_116, zl_120, zl_200, zl_255, zl_256, zl_360, zl_600, zl_800, zl_1000, zl_2000, h2]
    refine ⟨fun z => ⟨fun z2 => s75 _ _ _ ?_ h3 (A z2), fun z2 => s75 _ _ _ ?_ h3 (B z2)⟩, fun z => ⟨fun zz => ⟨fun z2 => s75 _ _ _ ?_ h3 (A z2), fun z2 => s75 _ _ _ ?_ h3 (B z2)⟩, fun zz => ⟨fun z2 => s75 _ _ _ ?_ h3 (A z2), fun z2 => s75 _ _ _ ?_ h3 (B z2)⟩⟩⟩
    · rw [if_pos (Or.inl z)]
    · rw [if_pos (Or.inl z)]
    · rw [if_neg (by omega)]
    · rw [if_neg (by omega)]
    · rw [if_pos (Or.inr zz)]
    · rw [if_pos (Or.inr zz)]
  refine fD_setKind hp ?_
  have f3 : upd2 (upd2 h (p + 6) t.toNat (zI k)) (p + 7) t.toNat (zI f) (p + 3) t.toNat = zI ddl := by rw [upd2_ne _ (by omega), upd2_ne _ (by omega)]; exact hddl
  have f2 : upd2 (upd2 h (p + 6) t.toNat (zI k)) (p + 7) t.toNat (zI f) (p + 2) t.toNat = zI per := by rw [upd2_ne _ (by omega), upd2_ne _ (by omega)]; exact hper
  simp (disch := omega) only [zI_add, zI_sub, zI_mul, zI_neg, zI_lt, zI_le, zI_eq, zI_div, zI_rem, ix_zI, inb_zI, nz_zI, imax_zI, imin_zI, c_t, nb01.1, nb01.2, zl_0, zl_1, zl_2, zl_3, zl_4, zl_5, zl_6, zl_7, zl_8, zl_9, zl_10, zl_11, zl_12, zl_13, zl_14, zl_15, zl_16, zl_17, zl_18, zl_19, zl_20, zl_24, zl_30, zl_31, zl_36, zl_42, zl_44, zl_48, zl_57, zl_58, zl_59, zl_60, zl_61, zl_62, zl_63, zl_64, zl_72, zl_73, zl_96, zl_99, zl_100, zl_104, zl_107, zl_111, zl_114, zl_116, zl_120, zl_200, zl_255, zl_256, zl_360, zl_600, zl_800, zl_1000, zl_2000]
  refine ⟨fun z => s29 _ _ ?_ f3 f2 hq, fun z => ⟨fun zz => s29 _ _ ?_ f3 f2 hq, fun zz => s29 _ _ ?_ f3 f2 hq⟩⟩
  · rw [if_pos (Or.inl z)]
  · rw [if_neg (by omega)]
  · rw [if_pos (Or.inr zz)]
end KD
