/-! ===== points ===== -/
theorem u_s {h : Mem} {p i : Nat} {x : Int32} : upd2 h p i x p i = x := by simp [upd2, upd]
theorem u_i {h : Mem} {p i j : Nat} {x : Int32} (hj : j ≠ i) : upd2 h p i x p j = h p j := by simp [upd2, upd, hj]
theorem u_p {h : Mem} {p i q : Nat} {x : Int32} (hq : q ≠ p) : upd2 h p i x q = h q := by simp [upd2, hq]
def hor (w : Int → Int) : Int := if busy w = -9 then 600 else busy w
theorem hor_b {w : Int → Int} (hw : WF w) : 0 ≤ hor w ∧ hor w ≤ 600 := by
  have := busy_b hw
  unfold hor
  split <;> omega
/-- the points among a + 1 .. a + n -/
def ptsR (w : Int → Int) : Int → Nat → List Int
  | _, 0 => []
  | a, n + 1 => if dem w a < dem w (a + 1) then (a + 1) :: ptsR w (a + 1) n else ptsR w (a + 1) n
def ptsL (w : Int → Int) : List Int := ptsR w 0 (hor w).toNat
theorem ptsR_len (w : Int → Int) : ∀ (n : Nat) (a : Int), (ptsR w a n).length ≤ n
  | 0, a => by simp [ptsR]
  | n + 1, a => by
    unfold ptsR
    have := ptsR_len w n (a + 1)
    split
    · simp; omega
    · omega
theorem ptsR_b (w : Int → Int) : ∀ (n : Nat) (a : Int), ∀ t ∈ ptsR w a n, a < t ∧ t ≤ a + n
  | 0, a, t, h => by simp [ptsR] at h
  | n + 1, a, t, h => by
    unfold ptsR at h
    split at h
    · rcases List.mem_cons.mp h with rfl | h
      · omega
      · have := ptsR_b w n (a + 1) t h
        omega
    · have := ptsR_b w n (a + 1) t h
      omega
def missR (w : Int → Int) : List Int → Int
  | [] => -9
  | t :: l => if t < dem w t then t else missR w l
def missT (w : Int → Int) : Int := missR w (ptsL w)
def spR (w : Int → Int) : List Int → Int → Int
  | [], s => s
  | t :: l, s => spR w l (min s (t - dem w t))
theorem spR_app (w : Int → Int) : ∀ (l : List Int) (t s : Int), spR w (l ++ [t]) s = min (spR w l s) (t - dem w t)
  | [], t, s => rfl
  | x :: l, t, s => by
    show spR w (l ++ [t]) _ = min (spR w l _) _
    rw [spR_app w l t]
theorem missR_app (w : Int → Int) : ∀ (l : List Int) (t : Int), (∀ x ∈ l, 0 ≤ x) → missR w (l ++ [t]) = if 0 ≤ missR w l then missR w l else if t < dem w t then t else -9
  | [], t, _ => by simp [missR]
  | x :: l, t, h => by
    have hx := h x List.mem_cons_self
    have ih := missR_app w l t (fun y hy => h y (List.mem_cons_of_mem _ hy))
    show (if x < dem w x then x else missR w (l ++ [t])) = if 0 ≤ (if x < dem w x then x else missR w l) then (if x < dem w x then x else missR w l) else if t < dem w t then t else -9
    by_cases c : x < dem w x
    · rw [if_pos c, if_pos c, if_pos hx]
    · rw [if_neg c, if_neg c]; exact ih
theorem missR_b (w : Int → Int) : ∀ (l : List Int), (∀ x ∈ l, 0 ≤ x ∧ x ≤ 600) → missR w l = -9 ∨ (0 ≤ missR w l ∧ missR w l ≤ 600)
  | [], _ => Or.inl rfl
  | x :: l, h => by
    have hx := h x List.mem_cons_self
    unfold missR
    split
    · exact Or.inr hx
    · exact missR_b w l (fun y hy => h y (List.mem_cons_of_mem _ hy))
theorem spR_b {w : Int → Int} (hw : WF w) : ∀ (l : List Int) (s : Int), (∀ x ∈ l, 0 ≤ x ∧ x ≤ 600) → -1000000 ≤ s → s ≤ 1000 → -1000000 ≤ spR w l s ∧ spR w l s ≤ 1000
  | [], s, _, h1, h2 => ⟨h1, h2⟩
  | x :: l, s, h, h1, h2 => by
    have hx := h x List.mem_cons_self
    have db := dem_b hw (t := x) (by omega)
    exact spR_b hw l _ (fun y hy => h y (List.mem_cons_of_mem _ hy)) (by omega) (by omega)
theorem ptsL_b {w : Int → Int} (hw : WF w) : ∀ t ∈ ptsL w, 1 ≤ t ∧ t ≤ 600 := by
  intro t ht
  have := ptsR_b w _ _ t ht
  have hb := hor_b hw
  omega
theorem ptsL_len {w : Int → Int} (hw : WF w) : (ptsL w).length ≤ 600 := by
  have := ptsR_len w (hor w).toNat 0
  have hb := hor_b hw
  unfold ptsL
  omega
theorem sumT_0 {f : Int → Int} : ∀ (k : Nat), (∀ i : Int, 0 ≤ i → i < k → f i = 0) → sumT f k = 0
  | 0, _ => rfl
  | k + 1, h => by
    unfold sumT
    rw [sumT_0 k (fun i a b => h i a (by omega)), h k (by omega) (by omega)]
    rfl
theorem dem0 {w : Int → Int} : dem w 0 = 0 := by
  unfold dem
  refine sumT_0 _ (fun i _ _ => ?_)
  split
  · unfold owed
    rw [if_pos (Or.inl rfl)]
    simp
  · rfl
def FP (h0 h : Mem) (w : Int → Int) (l : List Int) : Prop := (∀ q, q ≠ 60 → q ≠ 67 → h q = h0 q) ∧ (∀ j, j ≠ 10 → j ≠ 11 → j ≠ 12 → h 60 j = h0 60 j) ∧ h 60 10 = zI l.length ∧ h 60 11 = zI (missR w l) ∧ h 60 12 = zI (spR w l 1000) ∧ ∀ i : Nat, i < l.length → h 67 i = zI (l.getD i 0)
theorem FP.snoc {h0 h h' : Mem} {w : Int → Int} {l : List Int} {t : Int} (hf : FP h0 h w l) (h1 : ∀ q, q ≠ 60 → q ≠ 67 → h' q = h q) (h2 : ∀ j, j ≠ 10 → j ≠ 11 → j ≠ 12 → h' 60 j = h 60 j) (h3 : h' 60 10 = zI (l.length + 1)) (h4 : h' 60 11 = zI (missR w (l ++ [t]))) (h5 : h' 60 12 = zI (min (spR w l 1000) (t - dem w t)))
    (h6 : ∀ i : Nat, h' 67 i = if i = l.length then zI t else h 67 i) : FP h0 h' w (l ++ [t]) := by
  refine ⟨fun q a b => (h1 q a b).trans (hf.1 q a b), fun j a b c => (h2 j a b c).trans (hf.2.1 j a b c), by rw [h3]; simp, h4, by rw [h5, spR_app], fun i hi => ?_⟩
  rw [h6]
  by_cases e : i = l.length
  · subst e; simp
  · rw [if_neg e]
    have : i < l.length := by simp at hi; omega
    rw [hf.2.2.2.2.2 i this]
    simp [List.getElem?_append_left this]
section PM
variable {E : XE} {h : Mem} {w : Int → Int}
theorem sM_findsPoints {Q : Mem → Prop} (hm : RW (h 61) w) (hw : WF w) (hq : ∀ h', FP h h' w (ptsL w) → Q h') : CALLV E mM_findsPoints [.ref 60] h Q := by
  refine fM_findsPoints ?_
  refine sM_busyOf hm hw ?_
  have bb := busy_b hw
  have hb := hor_b hw
  have key : ∀ (n k : Nat) (h1 : Mem) (l : List Int), (k : Int) + n = hor w → l ++ ptsR w k n = ptsL w → FP h h1 w l → (∀ x ∈ l, 1 ≤ x ∧ x ≤ 600) → l.length ≤ k →
      WP E mM_findsPoints 27 [some (.ref 60), some (.int (zI (busy w))), some (.int (zI (dem w k))), some (.int (zI (k + 1))), none] [] h1 (qV Q) := by
    intro n
    induction n with
    | zero =>
      intro k h1 l hk hl hf hx hlen
      have hl' : l = ptsL w := by rw [← hl]; simp [ptsR]
      refine fM_findsPoints_27 ?_
      simp (disch := omega) only [zI_add, zI_sub, zI_mul, zI_neg, zI_lt, zI_le, zI_eq, zI_div, zI_rem, ix_zI, inb_zI, nz_zI, imax_zI, imin_zI, c_t, nb01.1, nb01.2, zl_0, zl_1, zl_2, zl_3, zl_4, zl_5, zl_6, zl_7, zl_8, zl_9, zl_10, zl_11, zl_12, zl_13, zl_14, zl_15, zl_16, zl_17, zl_18, zl_19, zl_20, zl_24, zl_30, zl_31, zl_36, zl_42, zl_44, zl_48, zl_57, zl_58, zl_59, zl_60, zl_61, zl_62, zl_63, zl_64, zl_72, zl_73, zl_96, zl_99, zl_100, zl_104, zl_107, zl_111, zl_114, zl_116, zl_120, zl_200, zl_255, zl_256, zl_360, zl_600, zl_800, zl_1000, zl_2000]
      refine ⟨fun z => fM_findsPoints_39 ?_, fun z => fM_findsPoints_39 ?_⟩
      · simp (disch := omega) only [zI_add, zI_sub, zI_mul, zI_neg, zI_lt, zI_le, zI_eq, zI_div, zI_rem, ix_zI, inb_zI, nz_zI, imax_zI, imin_zI, c_t, nb01.1, nb01.2, zl_0, zl_1, zl_2, zl_3, zl_4, zl_5, zl_6, zl_7, zl_8, zl_9, zl_10, zl_11, zl_12, zl_13, zl_14, zl_15, zl_16, zl_17, zl_18, zl_19, zl_20, zl_24, zl_30, zl_31, zl_36, zl_42, zl_44, zl_48, zl_57, zl_58, zl_59, zl_60, zl_61, zl_62, zl_63, zl_64, zl_72, zl_73, zl_96, zl_99, zl_100, zl_104, zl_107, zl_111, zl_114, zl_116, zl_120, zl_200, zl_255, zl_256, zl_360, zl_600, zl_800, zl_1000, zl_2000]
        have : hor w = busy w := by unfold hor; rw [if_neg (by omega)]
        exact ⟨fun _ => hq h1 (hl' ▸ hf), fun z2 => by omega⟩
      · simp (disch := omega) only [zI_add, zI_sub, zI_mul, zI_neg, zI_lt, zI_le, zI_eq, zI_div, zI_rem, ix_zI, inb_zI, nz_zI, imax_zI, imin_zI, c_t, nb01.1, nb01.2, zl_0, zl_1, zl_2, zl_3, zl_4, zl_5, zl_6, zl_7, zl_8, zl_9, zl_10, zl_11, zl_12, zl_13, zl_14, zl_15, zl_16, zl_17, zl_18, zl_19, zl_20, zl_24, zl_30, zl_31, zl_36, zl_42, zl_44, zl_48, zl_57, zl_58, zl_59, zl_60, zl_61, zl_62, zl_63, zl_64, zl_72, zl_73, zl_96, zl_99, zl_100, zl_104, zl_107, zl_111, zl_114, zl_116, zl_120, zl_200, zl_255, zl_256, zl_360, zl_600, zl_800, zl_1000, zl_2000]
        have : hor w = 600 := by unfold hor; rw [if_pos (by omega)]
        exact ⟨fun _ => hq h1 (hl' ▸ hf), fun z2 => by omega⟩
    | succ n ih =>
      intro k h1 l hk hl hf hx hlen
      have hm1 : RW (h1 61) w := by rw [hf.1 61 (by omega) (by omega)]; exact hm
      have body : ∀ s0 : Int, s0 = hor w → WP E mM_findsPoints 39 [some (.ref 60), some (.int (zI (busy w))), some (.int (zI (dem w k))), some (.int (zI (k + 1))), none] [.int (zI s0), .int (zI (k + 1))] h1 (qV Q) := by
        intro s0 hs0
        refine fM_findsPoints_39 ?_
        have d0 := dem_b hw (t := k) (by omega)
        have d1 := dem_b hw (t := k + 1) (by omega)
        simp (disch := omega) only [zI_add, zI_sub, zI_mul, zI_neg, zI_lt, zI_le, zI_eq, zI_div, zI_rem, ix_zI, inb_zI, nz_zI, imax_zI, imin_zI, c_t, nb01.1, nb01.2, zl_0, zl_1, zl_2, zl_3, zl_4, zl_5, zl_6, zl_7, zl_8, zl_9, zl_10, zl_11, zl_12, zl_13, zl_14, zl_15, zl_16, zl_17, zl_18, zl_19, zl_20, zl_24, zl_30, zl_31, zl_36, zl_42, zl_44, zl_48, zl_57, zl_58, zl_59, zl_60, zl_61, zl_62, zl_63, zl_64, zl_72, zl_73, zl_96, zl_99, zl_100, zl_104, zl_107, zl_111, zl_114, zl_116, zl_120, zl_200, zl_255, zl_256, zl_360, zl_600, zl_800, zl_1000, zl_2000]
        refine ⟨fun z => by omega, fun z => sM_demandOf hm1 hw (by omega) ?_⟩
        have dm := dem_mono hw (a := (k : Int)) (b := k + 1) (by omega) (by omega)
        obtain ⟨f1, f2, f3, f4, f5, f6⟩ := hf
        have ihx := ih (k + 1)
        have e1 : ((k + 1 : Nat) : Int) = (k : Int) + 1 := by omega
        rw [e1] at ihx
        unfold ptsR at hl
        simp (disch := omega) only [zI_add, zI_sub, zI_mul, zI_neg, zI_lt, zI_le, zI_eq, zI_div, zI_rem, ix_zI, inb_zI, nz_zI, imax_zI, imin_zI, c_t, nb01.1, nb01.2, zl_0, zl_1, zl_2, zl_3, zl_4, zl_5, zl_6, zl_7, zl_8, zl_9, zl_10, zl_11, zl_12, zl_13, zl_14, zl_15, zl_16, zl_17, zl_18, zl_19, zl_20, zl_24, zl_30, zl_31, zl_36, zl_42, zl_44, zl_48, zl_57, zl_58, zl_59, zl_60, zl_61, zl_62, zl_63, zl_64, zl_72, zl_73, zl_96, zl_99, zl_100, zl_104, zl_107, zl_111, zl_114, zl_116, zl_120, zl_200, zl_255, zl_256, zl_360, zl_600, zl_800, zl_1000, zl_2000]
        refine ⟨fun z2 => ?_, fun z2 => ?_⟩
        · rw [if_neg (by omega)] at hl
          exact ihx h1 l (by omega) hl ⟨f1, f2, f3, f4, f5, f6⟩ hx (by omega)
        · rw [if_pos (by omega)] at hl
          have hl2 : (l ++ [(k : Int) + 1]) ++ ptsR w (k + 1) n = ptsL w := by rw [List.append_assoc]; exact hl
          have hx2 : ∀ x ∈ l ++ [(k : Int) + 1], 1 ≤ x ∧ x ≤ 600 := by
            intro x hx'
            rcases List.mem_append.mp hx' with h' | h'
            · exact hx x h'
            · simp at h'; omega
          have mb := missR_b w l (fun x h' => by have := hx x h'; omega)
          have sb := spR_b hw l 1000 (fun x h' => by have := hx x h'; omega) (by omega) (by omega)
          have ma := missR_app w l ((k : Int) + 1) (fun x h' => by have := hx x h'; omega)
          have hlen2 : (l ++ [(k : Int) + 1]).length ≤ k + 1 := by simp; omega
          have g11 : ∀ v, (upd2 (upd2 h1 67 l.length (zI (k + 1))) 60 10 v) 60 11 = zI (missR w l) := fun v => by rw [u_i (by omega), u_p (by omega), f4]
          rw [f3]
          simp (disch := omega) only [zI_add, zI_sub, zI_mul, zI_neg, zI_lt, zI_le, zI_eq, zI_div, zI_rem, ix_zI, inb_zI, nz_zI, imax_zI, imin_zI, c_t, nb01.1, nb01.2, zl_0, zl_1, zl_2, zl_3, zl_4, zl_5, zl_6, zl_7, zl_8, zl_9, zl_10, zl_11, zl_12, zl_13, zl_14, zl_15, zl_16, zl_17, zl_18, zl_19, zl_20, zl_24, zl_30, zl_31, zl_36, zl_42, zl_44, zl_48, zl_57, zl_58, zl_59, zl_60, zl_61, zl_62, zl_63, zl_64, zl_72, zl_73, zl_96, zl_99, zl_100, zl_104, zl_107, zl_111, zl_114, zl_116, zl_120, zl_200, zl_255, zl_256, zl_360, zl_600, zl_800, zl_1000, zl_2000, Int.toNat_natCast, u_s]
          have g10 : (upd2 h1 67 l.length (zI (k + 1))) 60 10 = zI l.length := by rw [u_p (by omega), f3]
          simp only [g10, zI_add, g11]
          have g12 : ∀ a b, (upd2 (upd2 (upd2 h1 67 l.length (zI (k + 1))) 60 10 a) 60 11 b) 60 12 = zI (spR w l 1000) := fun a b => by rw [u_i (by omega), u_i (by omega), u_p (by omega), f5]
          simp only [g12]
          simp (disch := omega) only [zI_add, zI_sub, zI_mul, zI_neg, zI_lt, zI_le, zI_eq, zI_div, zI_rem, ix_zI, inb_zI, nz_zI, imax_zI, imin_zI, c_t, nb01.1, nb01.2, zl_0, zl_1, zl_2, zl_3, zl_4, zl_5, zl_6, zl_7, zl_8, zl_9, zl_10, zl_11, zl_12, zl_13, zl_14, zl_15, zl_16, zl_17, zl_18, zl_19, zl_20, zl_24, zl_30, zl_31, zl_36, zl_42, zl_44, zl_48, zl_57, zl_58, zl_59, zl_60, zl_61, zl_62, zl_63, zl_64, zl_72, zl_73, zl_96, zl_99, zl_100, zl_104, zl_107, zl_111, zl_114, zl_116, zl_120, zl_200, zl_255, zl_256, zl_360, zl_600, zl_800, zl_1000, zl_2000]
          refine ⟨fun z3 => ihx _ _ (by omega) hl2 ?_ hx2 hlen2, fun z3 => ⟨fun z4 => ihx _ _ (by omega) hl2 ?_ hx2 hlen2, fun z4 => ihx _ _ (by omega) hl2 ?_ hx2 hlen2⟩⟩
          all_goals
            refine FP.snoc ⟨f1, f2, f3, f4, f5, f6⟩ (fun q a b => by simp [upd2, a, b]) (fun j a b c => by simp [upd2, upd, a, b, c]) (by simp [upd2, upd]) ?_ (by simp [upd2, upd]) (fun i => by simp [upd2, upd])
            simp only [upd2, upd, if_true]
            rw [ma]
          · rw [if_pos z3]; simp
          · rw [if_neg z3, if_neg (show ¬ ((k : Int) + 1 < dem w ((k : Int) + 1)) by omega)]
            have : missR w l = -9 := by omega
            simp [this]
          · rw [if_neg z3, if_pos (show (k : Int) + 1 < dem w ((k : Int) + 1) by omega)]; simp
      refine fM_findsPoints_27 ?_
      simp (disch := omega) only [zI_add, zI_sub, zI_mul, zI_neg, zI_lt, zI_le, zI_eq, zI_div, zI_rem, ix_zI, inb_zI, nz_zI, imax_zI, imin_zI, c_t, nb01.1, nb01.2, zl_0, zl_1, zl_2, zl_3, zl_4, zl_5, zl_6, zl_7, zl_8, zl_9, zl_10, zl_11, zl_12, zl_13, zl_14, zl_15, zl_16, zl_17, zl_18, zl_19, zl_20, zl_24, zl_30, zl_31, zl_36, zl_42, zl_44, zl_48, zl_57, zl_58, zl_59, zl_60, zl_61, zl_62, zl_63, zl_64, zl_72, zl_73, zl_96, zl_99, zl_100, zl_104, zl_107, zl_111, zl_114, zl_116, zl_120, zl_200, zl_255, zl_256, zl_360, zl_600, zl_800, zl_1000, zl_2000]
      refine ⟨fun z => body _ (by unfold hor; rw [if_neg (by omega)]), fun z => body _ (by unfold hor; rw [if_pos (by omega)])⟩
  have k0 := fun h1 hf => key (hor w).toNat 0 h1 [] (by omega) rfl hf (fun x hx => by simp at hx) (by simp)
  rw [show ((0 : Nat) : Int) = 0 from rfl, dem0] at k0
  refine k0 _ ?_
  refine ⟨fun q a b => by simp [upd2, a], fun j a b c => by simp [upd2, upd, a, b, c], by simp [upd2, upd]; rfl, by simp [upd2, upd, missR]; rfl, by simp [upd2, upd, spR]; rfl, fun i hi => by simp at hi⟩
theorem sM_isMissed {Q : Int32 → Mem → Prop} (hm : RW (h 61) w) (hw : WF w) (hq : ∀ h', FP h h' w (ptsL w) → Q (zI (if 0 ≤ missT w then 1 else 0)) h') : CALLI E mM_isMissed [.ref 60] h Q := by
  refine fM_isMissed (sM_findsPoints hm hw fun h' hf => ?_)
  have mb := missR_b w (ptsL w) (fun x h' => by have := ptsL_b hw x h'; omega)
  have hq' := hq h' hf
  unfold missT at hq'
  rw [hf.2.2.2.1]
  simp (disch := omega) only [zI_add, zI_sub, zI_mul, zI_neg, zI_lt, zI_le, zI_eq, zI_div, zI_rem, ix_zI, inb_zI, nz_zI, imax_zI, imin_zI, c_t, nb01.1, nb01.2, zl_0, zl_1, zl_2, zl_3, zl_4, zl_5, zl_6, zl_7, zl_8, zl_9, zl_10, zl_11, zl_12, zl_13, zl_14, zl_15, zl_16, zl_17, zl_18, zl_19, zl_20, zl_24, zl_30, zl_31, zl_36, zl_42, zl_44, zl_48, zl_57, zl_58, zl_59, zl_60, zl_61, zl_62, zl_63, zl_64, zl_72, zl_73, zl_96, zl_99, zl_100, zl_104, zl_107, zl_111, zl_114, zl_116, zl_120, zl_200, zl_255, zl_256, zl_360, zl_600, zl_800, zl_1000, zl_2000]
  refine ⟨fun z => ?_, fun z => ?_⟩
  · rw [if_neg (by omega)] at hq'; exact hq'
  · rw [if_pos (by omega)] at hq'; exact hq'
end PM
