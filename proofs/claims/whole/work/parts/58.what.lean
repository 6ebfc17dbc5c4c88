/-! ===== by which kinds, by which figures the points begin as the row ===== -/
def begS (w : Int → Int) (rn : Nat) (row : Nat → Int) : Bool := decide (rn ≤ (ptsL w).length ∧ ∀ k, k < rn → (ptsL w).getD k 0 = row k)
def RWS (h : Mem) (p : Nat) (rn : Nat) (row : Nat → Int) : Prop := ∀ i, i < rn → h p i = zI (row i)
def RB (rn : Nat) (row : Nat → Int) : Prop := rn ≤ 8 ∧ ∀ i, i < rn → 0 ≤ row i ∧ row i ≤ 99
set_option maxRecDepth 1000000 in
theorem or_k10 : ∀ k, k < 10 → ∀ m, m < 2 ^ k → zI (m : Nat) ||| shl (zI 1) (zI (k : Nat)) = zI ((m ||| 2 ^ k : Nat) : Int) := by decide +kernel
section WB
variable {E : XE} {h : Mem} {w : Int → Int} {p rn : Nat} {row : Nat → Int}
theorem sPW_beginsWith {Q : Int32 → Mem → Prop} (hp : isP p) (hd : DW h p w) (hw : WF w) (hr : RWS h 58 rn row) (hb : RB rn row) (hq : ∀ h', Off pw h h' → Q (if begS w rn row = true then 1 else 0) h') : CALLI E mPW_beginsWith [.ref 43, .ref p, .ref 58, .int (zI rn)] h Q := by
  refine fPW_beginsWith hp (sPW_begin hp hd hw fun h1 ho hbz hs => ?_)
  have hlen := ptsL_len hw
  have yes : (rn ≤ (ptsL w).length ∧ ∀ k, k < rn → (ptsL w).getD k 0 = row k) → ∀ h', Off pw h h' → Q 1 h' := fun z h' ho' => by
    have := hq h' ho'
    unfold begS at this
    rw [if_pos (by simpa using z)] at this
    exact this
  have no : ¬ (rn ≤ (ptsL w).length ∧ ∀ k, k < rn → (ptsL w).getD k 0 = row k) → ∀ h', Off pw h h' → Q 0 h' := fun z h' ho' => by
    have := hq h' ho'
    unfold begS at this
    rw [if_neg (by simpa using z)] at this
    exact this
  have key : ∀ (l : List Int) (a : Int) (c : Nat) (h1 : Mem), Off pw h h1 → PS h1 w a → ptsR w a (hor w - a).toNat = l → (ptsL w).drop c = l → c ≤ (ptsL w).length → c ≤ rn → (∀ k, k < c → (ptsL w).getD k 0 = row k) → WP E mPW_beginsWith 8 [some (.ref 43), some (.ref p), some (.ref 58), some (.int (zI rn)), some (.int (zI c))] [] h1 (qI Q) := by
    intro l
    induction l with
    | nil =>
      intro a c h1 ho hs hl hd' hc1 hcr hv
      have hcl : (ptsL w).length ≤ c := by simpa using hd'
      have h8 := hb.1
      refine fPW_beginsWith_8 hp ?_
      rw [nI_zI]
      simp (disch := omega) only [zI_add, zI_sub, zI_mul, zI_neg, zI_lt, zI_le, zI_eq, zI_div, zI_rem, ix_zI, inb_zI, nz_zI, imax_zI, imin_zI, c_t, nb01.1, nb01.2, zl_0, zl_1, zl_2, zl_3, zl_4, zl_5, zl_6, zl_7, zl_8, zl_9, zl_10, zl_11, zl_12, zl_13, zl_14, zl_15, zl_16, zl_17, zl_18, zl_19, zl_20, zl_24, zl_30, zl_31, zl_36, zl_42, zl_44, zl_48, zl_57, zl_58, zl_59, zl_60, zl_61, zl_62, zl_63, zl_64, zl_72, zl_73, zl_96, zl_99, zl_100, zl_104, zl_107, zl_111, zl_114, zl_116, zl_120, zl_200, zl_255, zl_256, zl_360, zl_600, zl_800, zl_1000, zl_2000]
      refine ⟨fun z => yes ⟨by omega, fun k hk => hv k (by omega)⟩ _ ho, fun z => ⟨fun z2 => by omega, fun z2 => sPW_goOn hp (hd.pw hp ho) hw hs (fun _ h' ho' => ?_) (fun t ht => by rw [hl] at ht; cases ht)⟩⟩
      exact ⟨fun _ => no (fun y => by omega) _ (ho.tr ho'), fun z => absurd rfl z⟩
    | cons t l ih =>
      intro a c h1 ho hs hl hd' hc1 hcr hv
      have hcl : c < (ptsL w).length := by
        rcases Nat.lt_or_ge c (ptsL w).length with q | q
        · exact q
        · rw [List.drop_eq_nil_of_le q] at hd'; cases hd'
      have h8 := hb.1
      refine fPW_beginsWith_8 hp ?_
      rw [nI_zI]
      simp (disch := omega) only [zI_add, zI_sub, zI_mul, zI_neg, zI_lt, zI_le, zI_eq, zI_div, zI_rem, ix_zI, inb_zI, nz_zI, imax_zI, imin_zI, c_t, nb01.1, nb01.2, zl_0, zl_1, zl_2, zl_3, zl_4, zl_5, zl_6, zl_7, zl_8, zl_9, zl_10, zl_11, zl_12, zl_13, zl_14, zl_15, zl_16, zl_17, zl_18, zl_19, zl_20, zl_24, zl_30, zl_31, zl_36, zl_42, zl_44, zl_48, zl_57, zl_58, zl_59, zl_60, zl_61, zl_62, zl_63, zl_64, zl_72, zl_73, zl_96, zl_99, zl_100, zl_104, zl_107, zl_111, zl_114, zl_116, zl_120, zl_200, zl_255, zl_256, zl_360, zl_600, zl_800, zl_1000, zl_2000]
      refine ⟨fun z => yes ⟨by omega, fun k hk => hv k (by omega)⟩ _ ho, fun z => ⟨fun z2 => by omega, fun z2 => sPW_goOn hp (hd.pw hp ho) hw hs (fun h0 => by rw [hl] at h0; cases h0) (fun t' ht h1t h' ho' hs' => ?_)⟩⟩
      rw [hl] at ht
      injection ht with ht1 ht2
      have hg : (ptsL w).getD c 0 = t := by
        have e : (ptsL w)[c]? = some t := by
          have := congrArg (fun l => l[0]?) hd'
          simpa using this
        simp [List.getD, e]
      have hcrn : c < rn := by omega
      have tb := ptsL_b hw t (by
        have e : (ptsL w)[c]? = some t := by
          have := congrArg (fun l => l[0]?) hd'
          simpa using this
        exact List.mem_of_getElem? e)
      have rb := hb.2 c hcrn
      have e58 : h' 58 c = zI (row c) := by rw [(ho.tr ho') 58 (fun z => by have z : 58 = 43 := z; omega)]; exact hr c hcrn
      rw [hs'.2.1]
      simp (disch := omega) only [zI_add, zI_sub, zI_mul, zI_neg, zI_lt, zI_le, zI_eq, zI_div, zI_rem, ix_zI, inb_zI, nz_zI, imax_zI, imin_zI, c_t, nb01.1, nb01.2, zl_0, zl_1, zl_2, zl_3, zl_4, zl_5, zl_6, zl_7, zl_8, zl_9, zl_10, zl_11, zl_12, zl_13, zl_14, zl_15, zl_16, zl_17, zl_18, zl_19, zl_20, zl_24, zl_30, zl_31, zl_36, zl_42, zl_44, zl_48, zl_57, zl_58, zl_59, zl_60, zl_61, zl_62, zl_63, zl_64, zl_72, zl_73, zl_96, zl_99, zl_100, zl_104, zl_107, zl_111, zl_114, zl_116, zl_120, zl_200, zl_255, zl_256, zl_360, zl_600, zl_800, zl_1000, zl_2000, Int.toNat_natCast, e58]
      refine ⟨fun z => absurd z (by omega), fun _ => ⟨fun z => ?_, fun z => no (fun y => z ?_) _ (ho.tr ho')⟩⟩
      · have hnext := ih t' (c + 1) h' (ho.tr ho') hs' ht2.symm (by rw [← List.tail_drop, hd']; rfl) (by omega) (by omega) (fun k hk => by
          by_cases e : k = c
          · rw [e, hg, ht1]; exact z
          · exact hv k (by omega))
        rw [show ((c + 1 : Nat) : Int) = (c : Int) + 1 by omega] at hnext
        exact hnext
      · rw [← ht1, ← hg]
        exact y.2 c hcrn
  exact key (ptsL w) 0 0 h1 ho hs (by rw [Int.sub_zero]; rfl) rfl (by omega) (by omega) (fun k hk => absurd hk (Nat.not_lt_zero k))
theorem sM_beginsSo {Q : Int32 → Mem → Prop} (hm : RW (h 61) w) (hw : WF w) (hn : h 60 6 = zI rn) (hr : RWS h 65 rn row) (hb : RB rn row) (hq : ∀ h', KM h h' → Q (zI (if begS w rn row = true then 1 else 0)) h') : CALLI E mM_beginsSo [.ref 60] h Q := by
  refine fM_beginsSo (sM_findsPoints hm hw fun h1 hf => ?_)
  have hlen := ptsL_len hw
  have h8 := hb.1
  have k1 : KM h h1 := hf.KM
  have n6 : h1 60 6 = zI rn := k1.2.2.1.trans hn
  have yes : (rn ≤ (ptsL w).length ∧ ∀ k, k < rn → (ptsL w).getD k 0 = row k) → Q (zI 1) h1 := fun z => by
    have := hq h1 k1
    unfold begS at this
    rw [if_pos (by simpa using z)] at this
    exact this
  have no : ¬ (rn ≤ (ptsL w).length ∧ ∀ k, k < rn → (ptsL w).getD k 0 = row k) → Q (zI 0) h1 := fun z => by
    have := hq h1 k1
    unfold begS at this
    rw [if_neg (by simpa using z)] at this
    exact this
  have off : ¬ (rn ≤ (ptsL w).length ∧ ∀ k, k < rn → (ptsL w).getD k 0 = row k) → ∀ c : Nat, c ≤ 8 → WP E mM_beginsSo 23 [some (.ref 60), some (.int (zI 0)), some (.int (zI c))] [] h1 (qI Q) := fun z c hc => by
    refine fM_beginsSo_23 ?_
    rw [n6, nb01.1, c_t]
    exact ⟨fun _ => no z, fun _ => ⟨fun _ => no z, fun y => absurd rfl y⟩⟩
  have key : ∀ (j c : Nat), c + j = rn → rn ≤ (ptsL w).length → (∀ k, k < c → (ptsL w).getD k 0 = row k) → WP E mM_beginsSo 23 [some (.ref 60), some (.int (zI 1)), some (.int (zI c))] [] h1 (qI Q) := by
    intro j
    induction j with
    | zero =>
      intro c hc hl hv
      refine fM_beginsSo_23 ?_
      rw [n6, nb01.2, c_t, zI_le (by omega) (by omega) (by omega) (by omega)]
      exact ⟨fun _ => yes ⟨hl, fun k hk => hv k (by omega)⟩, fun z => by omega⟩
    | succ j ih =>
      intro c hc hl hv
      refine fM_beginsSo_23 ?_
      have e67 : h1 67 c = zI ((ptsL w).getD c 0) := hf.2.2.2.2.2 c (by omega)
      have e65 : h1 65 c = zI (row c) := by rw [k1.1 65 (by omega)]; exact hr c (by omega)
      have rb := hb.2 c (by omega)
      have tb : 0 ≤ (ptsL w).getD c 0 ∧ (ptsL w).getD c 0 ≤ 600 := by
        have hcl : c < (ptsL w).length := by omega
        have := ptsL_b hw ((ptsL w).getD c 0) (by simp [List.getD, hcl])
        omega
      rw [n6, nb01.2, c_t]
      simp (disch := omega) only [zI_add, zI_sub, zI_mul, zI_neg, zI_lt, zI_le, zI_eq, zI_div, zI_rem, ix_zI, inb_zI, nz_zI, imax_zI, imin_zI, c_t, nb01.1, nb01.2, zl_0, zl_1, zl_2, zl_3, zl_4, zl_5, zl_6, zl_7, zl_8, zl_9, zl_10, zl_11, zl_12, zl_13, zl_14, zl_15, zl_16, zl_17, zl_18, zl_19, zl_20, zl_24, zl_30, zl_31, zl_36, zl_42, zl_44, zl_48, zl_57, zl_58, zl_59, zl_60, zl_61, zl_62, zl_63, zl_64, zl_72, zl_73, zl_96, zl_99, zl_100, zl_104, zl_107, zl_111, zl_114, zl_116, zl_120, zl_200, zl_255, zl_256, zl_360, zl_600, zl_800, zl_1000, zl_2000, Int.toNat_natCast, e67, e65]
      refine ⟨fun z => by omega, fun _ => ⟨fun z => absurd z (by decide), fun _ => ⟨fun z => ?_, fun z => ?_⟩⟩⟩
      · have := off (fun y => z (y.2 c (by omega))) (c + 1) (by omega)
        rw [show ((c + 1 : Nat) : Int) = (c : Int) + 1 by omega] at this
        exact this
      · have := ih (c + 1) (by omega) hl (fun k hk => by
          by_cases e : k = c
          · rw [e]; exact z
          · exact hv k (by omega))
        rw [show ((c + 1 : Nat) : Int) = (c : Int) + 1 by omega] at this
        exact this
  rw [hf.2.2.1, n6, zI_lt (by omega) (by omega) (by omega) (by omega)]
  refine ⟨fun z => off (fun y => by omega) 0 (by omega), fun z => key rn 0 (by omega) (by omega) (fun k hk => absurd hk (Nat.not_lt_zero k))⟩
end WB
def whatS (s : St) (t a : Int) : Int := if a = 0 then (maskK (fun v => begS (kset s.w t v (s.w (36 + t))) s.rn s.row) 6 : Nat) else (maskK (fun v => begS (kset s.w t (s.w (30 + t)) v) s.rn s.row) 10 : Nat)
def cWhat (w : Int → Int) (t a : Int) : Nat := cFst (cTask w t) (cOth a 2)
theorem cWhat_b (w : Int → Int) (t a : Int) : cWhat w t a ≤ 6 := cFst_b (cTask_b _ _) (cOth_b _ _)
theorem ks_ks {w : Int → Int} {t a b c d : Int} : kset (kset w t a b) t c d = kset w t c d := by
  funext x
  unfold kset fset
  split
  · rfl
  · split
    · rfl
    · rfl
theorem ks_self {w : Int → Int} {t : Int} : kset w t (w (30 + t)) (w (36 + t)) = w := by
  funext x
  unfold kset fset
  split
  · rename_i e; rw [e]
  · split
    · rename_i e; rw [e]
    · rfl
theorem SV.rb {s : St} (hv : SV s) : RB s.rn s.row := ⟨hv.rn, hv.row⟩
theorem or_k10z {m : Nat} {k : Nat} (hk : k < 10) (hm : m < 2 ^ k) : zI (m : Nat) ||| shl (zI 1) (zI (k : Nat)) = zI ((m ||| 2 ^ k : Nat) : Int) := or_k10 k hk m hm
section WC3
variable {E : XE} {h : Mem} {s : St} {Q : Int32 → Mem → Prop}
/-- the class's trial with one kind, one figure laid: does it begin so -/
theorem sC_try {t k f : Int} {h1 : Mem} {a b : Int} (hv : SV s) (ha : SA h s) (t0 : 0 ≤ t) (t1 : t < s.w 72) (ho : Off cs h h1) (hd : DW h1 15 (kset s.w t a b)) (hab : (0 ≤ a ∧ a ≤ 5) ∧ 0 ≤ b ∧ b ≤ 9) (hk : 0 ≤ k ∧ k ≤ 5) (hf : 0 ≤ f ∧ f ≤ 9)
    (hq : ∀ h', Off cs h h' → DW h' 15 (kset s.w t k f) → Q (if begS (kset s.w t k f) s.rn s.row = true then 1 else 0) h') : CALLV E mD_setKind [.ref 15, .int (zI t), .int (zI k), .int (zI f)] h1 fun h2 => CALLI E mPW_beginsWith [.ref 43, .ref 15, .ref 58, .int (h2 0 10)] h2 Q := by
  have hwk := hv.w.kst t0 t1 hab.1 hab.2
  have hwn := hv.w.kst t0 t1 hk hf
  have bt := hv.w.at t0 t1
  have n : kset s.w t a b 72 = s.w 72 := ks_ne (by omega) (by omega)
  have e6 : kset s.w t a b (6 + t) = s.w (6 + t) := ks_ne (by omega) (by omega)
  have e12 : kset s.w t a b (12 + t) = s.w (12 + t) := ks_ne (by omega) (by omega)
  refine sD_setKind (per := kset s.w t a b (6 + t)) (ddl := kset s.w t a b (12 + t)) (Or.inr (Or.inl rfl)) t0 bt.1 hk hf (hd.r2 t0 (by omega)) (hd.r3 t0 (by omega)) (by omega) (by omega) fun h2 kf => ?_
  have d2 := kf.dw hd hwk t0 (by omega)
  rw [ks_ks] at d2
  have o2 : Off cs h h2 := ho.tr fun q hq => kf.1 q (by unfold cs at hq; omega)
  have a2 := o2.sa ha
  rw [a2.rn]
  exact sPW_beginsWith (Or.inr (Or.inl rfl)) d2 hwn (fun i hi => a2.row i hi) hv.rb fun h3 o3 => hq h3 (o2.tr (o3.mono fun _ => pw_cs)) (d2.pw (Or.inr (Or.inl rfl)) o3)
theorem sC_kindsByRow {t : Int} (hv : SV s) (ha : SA h s) (t0 : 0 ≤ t) (t1 : t < s.w 72) (hq : ∀ h', Off cs h h' → Q (zI (whatS s t 0)) h') : CALLI E mC_kindsByRow [.ref 0, .int (zI t)] h Q := by
  have bt := hv.w.at t0 t1
  refine fC_kindsByRow (sD_copyFrom (Or.inr (Or.inl rfl)) (Or.inl rfl) (by omega) fun h1 c1 => ?_)
  have o1 : Off cs h h1 := fun q hq => c1.1 q (by unfold cs at hq; omega)
  have key : ∀ (j k : Nat) (a b : Int) (h1 : Mem), k + j = 6 → Off cs h h1 → DW h1 15 (kset s.w t a b) → ((0 ≤ a ∧ a ≤ 5) ∧ 0 ≤ b ∧ b ≤ 9) → WP E mC_kindsByRow 15 [some (.ref 0), some (.int (zI t)), some (.int (zI (maskK (fun v => begS (kset s.w t v (s.w (36 + t))) s.rn s.row) k : Nat))), some (.int (zI k))] [] h1 (qI Q) := by
    intro j
    induction j with
    | zero =>
      intro k a b h1 hk ho hd hab
      refine fC_kindsByRow_15 ?_
      have hq := hq h1 ho
      unfold whatS at hq
      rw [if_pos rfl] at hq
      have e6 : k = 6 := by omega
      subst e6
      exact ⟨fun _ => hq, fun z => absurd (by decide) z⟩
    | succ j ih =>
      intro k a b h1 hk ho hd hab
      refine fC_kindsByRow_15 ?_
      have e8 : h1 8 t.toNat = zI (s.w (36 + t)) := by rw [ho 8 (by unfold cs; omega)]; exact ha.w.r7 t0 t1
      have ml := maskK_lt (fun v => begS (kset s.w t v (s.w (36 + t))) s.rn s.row) k
      have m6 : (2 : Nat) ^ k ≤ 2 ^ 6 := Nat.pow_le_pow_right (by omega) (by omega)
      have hnext := fun h' d o => ih (k + 1) k (s.w (36 + t)) h' (by omega) o d (by omega)
      have e1 : ((k + 1 : Nat) : Int) = (k : Int) + 1 := by omega
      have em : maskK (fun v => begS (kset s.w t v (s.w (36 + t))) s.rn s.row) (k + 1) = if begS (kset s.w t k (s.w (36 + t))) s.rn s.row = true then maskK (fun v => begS (kset s.w t v (s.w (36 + t))) s.rn s.row) k ||| 2 ^ k else maskK (fun v => begS (kset s.w t v (s.w (36 + t))) s.rn s.row) k := rfl
      rw [e1, em] at hnext
      simp (disch := omega) only [zI_add, zI_sub, zI_mul, zI_neg, zI_lt, zI_le, zI_eq, zI_div, zI_rem, ix_zI, inb_zI, nz_zI, imax_zI, imin_zI, c_t, nb01.1, nb01.2, zl_0, zl_1, zl_2, zl_3, zl_4, zl_5, zl_6, zl_7, zl_8, zl_9, zl_10, zl_11, zl_12, zl_13, zl_14, zl_15, zl_16, zl_17, zl_18, zl_19, zl_20, zl_24, zl_30, zl_31, zl_36, zl_42, zl_44, zl_48, zl_57, zl_58, zl_59, zl_60, zl_61, zl_62, zl_63, zl_64, zl_72, zl_73, zl_96, zl_99, zl_100, zl_104, zl_107, zl_111, zl_114, zl_116, zl_120, zl_200, zl_255, zl_256, zl_360, zl_600, zl_800, zl_1000, zl_2000, e8]
      refine ⟨fun z => by omega, fun _ => sC_try hv ha t0 t1 ho hd hab (by omega) (by omega) fun h' o' d' => ?_⟩
      have hnext := hnext h' d' o'
      by_cases c : begS (kset s.w t k (s.w (36 + t))) s.rn s.row = true
      · rw [if_pos c] at hnext ⊢
        rw [or_k10z (by omega) ml]
        exact ⟨fun z => absurd z (by decide), fun _ => hnext⟩
      · rw [if_neg c] at hnext ⊢
        exact ⟨fun _ => hnext, fun z => absurd rfl z⟩
  exact key 6 0 (s.w (30 + t)) (s.w (36 + t)) h1 rfl o1 (by rw [ks_self]; exact c1.dw hv.w ha.w) (by omega)
theorem sC_figuresByRow {t : Int} (hv : SV s) (ha : SA h s) (t0 : 0 ≤ t) (t1 : t < s.w 72) (hq : ∀ h', Off cs h h' → Q (zI (whatS s t 1)) h') : CALLI E mC_figuresByRow [.ref 0, .int (zI t)] h Q := by
  have bt := hv.w.at t0 t1
  refine fC_figuresByRow (sD_copyFrom (Or.inr (Or.inl rfl)) (Or.inl rfl) (by omega) fun h1 c1 => ?_)
  have o1 : Off cs h h1 := fun q hq => c1.1 q (by unfold cs at hq; omega)
  have key : ∀ (j k : Nat) (a b : Int) (h1 : Mem), k + j = 10 → Off cs h h1 → DW h1 15 (kset s.w t a b) → ((0 ≤ a ∧ a ≤ 5) ∧ 0 ≤ b ∧ b ≤ 9) → WP E mC_figuresByRow 15 [some (.ref 0), some (.int (zI t)), some (.int (zI (maskK (fun v => begS (kset s.w t (s.w (30 + t)) v) s.rn s.row) k : Nat))), some (.int (zI k))] [] h1 (qI Q) := by
    intro j
    induction j with
    | zero =>
      intro k a b h1 hk ho hd hab
      refine fC_figuresByRow_15 ?_
      have hq := hq h1 ho
      unfold whatS at hq
      rw [if_neg (by omega)] at hq
      have e6 : k = 10 := by omega
      subst e6
      exact ⟨fun _ => hq, fun z => absurd (by decide) z⟩
    | succ j ih =>
      intro k a b h1 hk ho hd hab
      refine fC_figuresByRow_15 ?_
      have e7 : h1 7 t.toNat = zI (s.w (30 + t)) := by rw [ho 7 (by unfold cs; omega)]; exact ha.w.r6 t0 t1
      have ml := maskK_lt (fun v => begS (kset s.w t (s.w (30 + t)) v) s.rn s.row) k
      have m6 : (2 : Nat) ^ k ≤ 2 ^ 10 := Nat.pow_le_pow_right (by omega) (by omega)
      have hnext := fun h' d o => ih (k + 1) (s.w (30 + t)) k h' (by omega) o d (by omega)
      have e1 : ((k + 1 : Nat) : Int) = (k : Int) + 1 := by omega
      have em : maskK (fun v => begS (kset s.w t (s.w (30 + t)) v) s.rn s.row) (k + 1) = if begS (kset s.w t (s.w (30 + t)) k) s.rn s.row = true then maskK (fun v => begS (kset s.w t (s.w (30 + t)) v) s.rn s.row) k ||| 2 ^ k else maskK (fun v => begS (kset s.w t (s.w (30 + t)) v) s.rn s.row) k := rfl
      rw [e1, em] at hnext
      simp (disch := omega) only [zI_add, zI_sub, zI_mul, zI_neg, zI_lt, zI_le, zI_eq, zI_div, zI_rem, ix_zI, inb_zI, nz_zI, imax_zI, imin_zI, c_t, nb01.1, nb01.2, zl_0, zl_1, zl_2, zl_3, zl_4, zl_5, zl_6, zl_7, zl_8, zl_9, zl_10, zl_11, zl_12, zl_13, zl_14, zl_15, zl_16, zl_17, zl_18, zl_19, zl_20, zl_24, zl_30, zl_31, zl_36, zl_42, zl_44, zl_48, zl_57, zl_58, zl_59, zl_60, zl_61, zl_62, zl_63, zl_64, zl_72, zl_73, zl_96, zl_99, zl_100, zl_104, zl_107, zl_111, zl_114, zl_116, zl_120, zl_200, zl_255, zl_256, zl_360, zl_600, zl_800, zl_1000, zl_2000, e7]
      refine ⟨fun z => by omega, fun _ => sC_try hv ha t0 t1 ho hd hab (by omega) (by omega) fun h' o' d' => ?_⟩
      have hnext := hnext h' d' o'
      by_cases c : begS (kset s.w t (s.w (30 + t)) k) s.rn s.row = true
      · rw [if_pos c] at hnext ⊢
        rw [or_k10z (by omega) ml]
        exact ⟨fun z => absurd z (by decide), fun _ => hnext⟩
      · rw [if_neg c] at hnext ⊢
        exact ⟨fun _ => hnext, fun z => absurd rfl z⟩
  exact key 10 0 (s.w (30 + t)) (s.w (36 + t)) h1 rfl o1 (by rw [ks_self]; exact c1.dw hv.w ha.w) (by omega)
theorem qC_whatIs {t a : Int} (hv : SV s) (ha : SA h s) (ht : I32 t) (hi : I32 a) (hq : ∀ h', SA h' (s.rfd (cWhat s.w t a)) → FA h h' → Q (zI (cAns (cWhat s.w t a) (whatS s t a))) h') : CALLI E mC_whatIs [.ref 0, .int (zI t), .int (zI a)] h Q := by
  refine fC_whatIs (sC_missingTask hv ha ht (sC_otherThan (n := 2) hi (by unfold I32; omega) (sC_firstOf (cTask_b _ _) (sC_fin ha (cWhat_b _ _ _) hq fun z K => ?_))))
  unfold cWhat at z
  rw [cFst_0, cTask_0, cOth_0] at z
  rw [zl_0, zI_eq (by omega) (by omega) (by omega) (by omega)]
  refine ⟨fun y => ?_, fun y => ?_⟩
  · have e : a = 1 := by omega
    subst e
    exact sC_figuresByRow hv ha z.1.1 z.1.2 K
  · subst y
    exact sC_kindsByRow hv ha z.1.1 z.1.2 K
end WC3
