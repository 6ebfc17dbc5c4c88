/-! ===== jobs that come ===== -/
def jlS (w : Int → Int) (t : Int) (k : Nat) : List Job := if w (30 + t) = 3 then [jbS w t k, jbS w t k] else [jbS w t k]
/-- those whose distance from the offset (and from how late) is x, of one parity -/
def ciS (w : Int → Int) (t x : Int) (p : Nat) : List Job := if 0 ≤ x ∧ x % dist w t = 0 ∧ (x / dist w t).toNat % 2 = p ∧ (w (30 + t) ≠ 4 ∨ x / dist w t ≤ w (36 + t)) then jlS w t (x / dist w t).toNat else []
theorem mul_iff {x d : Int} (hd : 0 < d) (k : Nat) : (k : Int) * d = x ↔ 0 ≤ x ∧ x % d = 0 ∧ k = (x / d).toNat := by
  constructor
  · intro e
    subst e
    refine ⟨Int.mul_nonneg (by omega) (by omega), Int.mul_emod_left _ _, ?_⟩
    rw [Int.mul_ediv_cancel _ (by omega)]
    omega
  · rintro ⟨h1, h2, h3⟩
    have h4 := Int.emod_add_mul_ediv x d
    have h5 : 0 ≤ x / d := Int.ediv_nonneg h1 (by omega)
    rw [h2, Int.zero_add] at h4
    rw [h3, show ((x / d).toNat : Int) = x / d by omega, Int.mul_comm]
    exact h4
section CI
variable {w : Int → Int}
theorem it_eq {t u : Int} {k : Nat} : itS w t u k = if arrS w t k = u ∧ (w (30 + t) ≠ 4 ∨ (k : Int) ≤ w (36 + t)) then jlS w t k else [] := rfl
theorem arr_odd {t : Int} {k : Nat} (hk : k % 2 = 1) : arrS w t k = w (18 + t) + (k : Int) * dist w t + lat w t := by unfold arrS; rw [if_pos hk]
theorem arr_even {t : Int} {k : Nat} (hk : k % 2 = 0) : arrS w t k = w (18 + t) + (k : Int) * dist w t := by unfold arrS; rw [if_neg (by omega), Int.add_zero]
theorem it_odd (hw : WF w) {t u : Int} (h0 : 0 ≤ t) (h1 : t < w 72) {k : Nat} (hk : k % 2 = 1) : itS w t u k = if k = ((u - w (18 + t) - lat w t) / dist w t).toNat then ciS w t (u - w (18 + t) - lat w t) 1 else [] := by
  have db := dist_b hw h0 h1
  have mi := mul_iff (x := u - w (18 + t) - lat w t) (d := dist w t) (by omega) k
  rw [it_eq, arr_odd hk]
  unfold ciS
  by_cases c : k = ((u - w (18 + t) - lat w t) / dist w t).toNat
  · rw [if_pos c]
    by_cases c2 : 0 ≤ u - w (18 + t) - lat w t ∧ (u - w (18 + t) - lat w t) % dist w t = 0
    · have e := mi.mpr ⟨c2.1, c2.2, c⟩
      have q0 : 0 ≤ (u - w (18 + t) - lat w t) / dist w t := Int.ediv_nonneg c2.1 (by omega)
      have ek : (k : Int) = (u - w (18 + t) - lat w t) / dist w t := by omega
      have e1 : w (18 + t) + (k : Int) * dist w t + lat w t = u := by omega
      rw [← c]
      by_cases c3 : w (30 + t) ≠ 4 ∨ (k : Int) ≤ w (36 + t)
      · rw [if_pos ⟨e1, c3⟩, if_pos ⟨c2.1, c2.2, hk, by rw [← ek]; exact c3⟩]
      · rw [if_neg (fun z => c3 z.2), if_neg (fun z => c3 (by rw [ek]; exact z.2.2.2))]
    · rw [if_neg, if_neg (fun z => c2 ⟨z.1, z.2.1⟩)]
      intro z
      have := mi.mp (by omega)
      exact c2 ⟨this.1, this.2.1⟩
  · rw [if_neg c, if_neg]
    intro z
    exact c (mi.mp (by omega)).2.2
theorem it_even (hw : WF w) {t u : Int} (h0 : 0 ≤ t) (h1 : t < w 72) {k : Nat} (hk : k % 2 = 0) : itS w t u k = if k = ((u - w (18 + t)) / dist w t).toNat then ciS w t (u - w (18 + t)) 0 else [] := by
  have db := dist_b hw h0 h1
  have mi := mul_iff (x := u - w (18 + t)) (d := dist w t) (by omega) k
  rw [it_eq, arr_even hk]
  unfold ciS
  by_cases c : k = ((u - w (18 + t)) / dist w t).toNat
  · rw [if_pos c]
    by_cases c2 : 0 ≤ u - w (18 + t) ∧ (u - w (18 + t)) % dist w t = 0
    · have e := mi.mpr ⟨c2.1, c2.2, c⟩
      have q0 : 0 ≤ (u - w (18 + t)) / dist w t := Int.ediv_nonneg c2.1 (by omega)
      have ek : (k : Int) = (u - w (18 + t)) / dist w t := by omega
      have e1 : w (18 + t) + (k : Int) * dist w t = u := by omega
      rw [← c]
      by_cases c3 : w (30 + t) ≠ 4 ∨ (k : Int) ≤ w (36 + t)
      · rw [if_pos ⟨e1, c3⟩, if_pos ⟨c2.1, c2.2, hk, by rw [← ek]; exact c3⟩]
      · rw [if_neg (fun z => c3 z.2), if_neg (fun z => c3 (by rw [ek]; exact z.2.2.2))]
    · rw [if_neg, if_neg (fun z => c2 ⟨z.1, z.2.1⟩)]
      intro z
      have := mi.mp (by omega)
      exact c2 ⟨this.1, this.2.1⟩
  · rw [if_neg c, if_neg]
    intro z
    exact c (mi.mp (by omega)).2.2
theorem ci_nil {t x : Int} {p : Nat} (h : ¬ (x / dist w t).toNat % 2 = p) : ciS w t x p = [] := by
  unfold ciS
  rw [if_neg (fun z => h z.2.2.1)]
theorem cm_ci (hw : WF w) {t u : Int} (h0 : 0 ≤ t) (h1 : t < w 72) : ∀ K : Nat, cmK w t u K = (if ((u - w (18 + t) - lat w t) / dist w t).toNat < K then ciS w t (u - w (18 + t) - lat w t) 1 else []) ++ (if ((u - w (18 + t)) / dist w t).toNat < K then ciS w t (u - w (18 + t)) 0 else [])
  | 0 => by simp [cmK]
  | K + 1 => by
    have ih := cm_ci hw (t := t) (u := u) h0 h1 K
    have db := dist_b hw h0 h1
    have lb := lat_b hw h0 h1
    have le : ((u - w (18 + t) - lat w t) / dist w t).toNat ≤ ((u - w (18 + t)) / dist w t).toNat := by
      have := Int.ediv_le_ediv (c := dist w t) (by omega) (show u - w (18 + t) - lat w t ≤ u - w (18 + t) by omega)
      omega
    show cmK w t u K ++ itS w t u K = _
    rw [ih]
    generalize h1k : ((u - w (18 + t) - lat w t) / dist w t).toNat = k1 at le ⊢
    generalize h2k : ((u - w (18 + t)) / dist w t).toNat = k2 at le ⊢
    rcases Nat.mod_two_eq_zero_or_one K with hK | hK
    · rw [it_even hw h0 h1 hK, h2k]
      have o1 : k1 = K → ciS w t (u - w (18 + t) - lat w t) 1 = [] := fun z => ci_nil (by rw [h1k, z]; omega)
      by_cases c2 : K = k2
      · rw [if_pos c2, if_neg (show ¬ k2 < K by omega), if_pos (show k2 < K + 1 by omega)]
        by_cases c1 : k1 < K
        · rw [if_pos c1, if_pos (by omega)]; simp
        · rw [if_neg c1, if_pos (by omega), o1 (by omega)]; simp
      · rw [if_neg c2]
        by_cases c1 : k1 = K
        · rw [if_neg (show ¬ k1 < K by omega), if_pos (show k1 < K + 1 by omega), o1 c1, if_neg (show ¬ k2 < K by omega), if_neg (show ¬ k2 < K + 1 by omega)]; rfl
        · have e1 : k1 < K + 1 ↔ k1 < K := by omega
          have e2 : k2 < K + 1 ↔ k2 < K := by omega
          simp only [e1, e2, List.append_nil]
    · rw [it_odd hw h0 h1 hK, h1k]
      have o2 : k2 = K → ciS w t (u - w (18 + t)) 0 = [] := fun z => ci_nil (by rw [h2k, z]; omega)
      by_cases c1 : K = k1
      · rw [if_pos c1, if_neg (show ¬ k1 < K by omega), if_pos (show k1 < K + 1 by omega), if_neg (show ¬ k2 < K by omega)]
        by_cases c2 : k2 = K
        · rw [if_pos (by omega), o2 c2]; simp
        · rw [if_neg (by omega)]; simp
      · rw [if_neg c1]
        by_cases c2 : k2 = K
        · have e1 : k1 < K + 1 ↔ k1 < K := by omega
          simp only [e1]
          rw [if_neg (show ¬ k2 < K by omega), if_pos (show k2 < K + 1 by omega), o2 c2, List.append_nil]
        · have e1 : k1 < K + 1 ↔ k1 < K := by omega
          have e2 : k2 < K + 1 ↔ k2 < K := by omega
          simp only [e1, e2, List.append_nil]
theorem cm_30 (hw : WF w) {t u : Int} (h0 : 0 ≤ t) (h1 : t < w 72) (hu : 0 ≤ u ∧ u < 60) : cmK w t u 30 = ciS w t (u - w (18 + t) - lat w t) 1 ++ ciS w t (u - w (18 + t)) 0 := by
  have bt := hw.at h0 h1
  have db := dist_b hw h0 h1
  have lb := lat_b hw h0 h1
  have le : ∀ x : Int, x < 60 → (x / dist w t).toNat < 30 := fun x hx => by
    by_cases z : x < 0
    · have := Int.ediv_neg_of_neg_of_pos z (show 0 < dist w t by omega)
      omega
    · have a := Int.emod_add_mul_ediv x (dist w t)
      have b := Int.emod_nonneg x (show dist w t ≠ 0 by omega)
      have c : 2 * (x / dist w t) ≤ dist w t * (x / dist w t) := Int.mul_le_mul_of_nonneg_right (by omega) (Int.ediv_nonneg (by omega) (by omega))
      omega
  rw [cm_ci hw h0 h1, if_pos (le _ (by omega)), if_pos (le _ (by omega))]
end CI
section CJ
variable {E : XE} {h : Mem} {w : Int → Int} {p : Nat}
theorem sTI_comeIfSo {Q : Mem → Prop} {t x : Int} {par : Nat} {s : RSt} (hp : isP p) (hd : DW h p w) (hw : WF w) (h0 : 0 ≤ t) (h1 : t < w 72) (hx : -1000 ≤ x ∧ x < 60) (hpar : par < 2) (ht : TQ h s) (hl : (s.1.length : Int) + (ciS w t x par).length ≤ 360) (hq : ∀ h', Off tj h h' → TQ h' (s.1 ++ ciS w t x par, s.2) → Q h') : CALLV E mTI_comeIfSo [.ref 48, .ref p, .int (zI t), .int (zI x), .int (zI par)] h Q := by
  refine fTI_comeIfSo hp ?_
  have bt := hw.at h0 h1
  have db := dist_b hw h0 h1
  have lb := lim_b hw h0 h1
  have no : ciS w t x par = [] → Q h := fun e => by
    have := hq h Off.rf
    rw [e, List.append_nil] at this
    exact this ht
  have s63 : (0 ≤ x ∧ x % dist w t = 0 ∧ (x / dist w t).toNat % 2 = par ∧ (w (30 + t) ≠ 4 ∨ x / dist w t ≤ w (36 + t))) → WP E mTI_comeIfSo 63 [some (.ref 48), some (.ref p), some (.int (zI t)), some (.int (zI x)), none, none, none, none] [] h (qV Q) := by
    intro c
    have ec : ciS w t x par = jlS w t (x / dist w t).toNat := if_pos c
    rw [ec] at hl hq
    have km : ((x / dist w t).toNat : Int) * dist w t = x := (mul_iff (by omega) _).mpr ⟨c.1, c.2.1, rfl⟩
    have ej : jbS w t (x / dist w t).toNat = (t, w (18 + t) + x + lim w t, w t) := by unfold jbS; rw [km]
    unfold jlS at hl hq
    rw [ej] at hl hq
    refine fTI_comeIfSo_63 hp ?_
    have g1 : h (p + 1) t.toNat = zI (w t) := hd.r1 h0 h1
    have g4 : h (p + 4) t.toNat = zI (w (18 + t)) := hd.r4 h0 h1
    have g11 : h (p + 11) t.toNat = zI (lim w t) := hd.r11 h0 h1
    simp (disch := omega) only [zI_add, zI_sub, zI_mul, zI_neg, zI_lt, zI_le, zI_eq, zI_div, zI_rem, ix_zI, inb_zI, nz_zI, imax_zI, imin_zI, c_t, nb01.1, nb01.2, zl_0, zl_1, zl_2, zl_3, zl_4, zl_5, zl_6, zl_7, zl_8, zl_9, zl_10, zl_11, zl_12, zl_13, zl_14, zl_15, zl_16, zl_17, zl_18, zl_19, zl_20, zl_24, zl_30, zl_31, zl_36, zl_42, zl_44, zl_48, zl_57, zl_58, zl_59, zl_60, zl_61, zl_62, zl_63, zl_64, zl_72, zl_73, zl_96, zl_99, zl_100, zl_104, zl_107, zl_111, zl_114, zl_116, zl_120, zl_200, zl_255, zl_256, zl_360, zl_600, zl_800, zl_1000, zl_2000, g1, g4, g11]
    by_cases k3 : w (30 + t) = 3
    · rw [if_pos k3] at hl hq
      simp only [List.length_cons, List.length_nil] at hl
      refine sTI_addJob (j := (t, w (18 + t) + x + lim w t, w t)) ht (by omega) fun h2 o2 t2 => ?_
      have d2 := hd.tjk hp o2
      have g6 : h2 (p + 6) t.toNat = zI (w (30 + t)) := d2.r6 h0 h1
      have g1' : h2 (p + 1) t.toNat = zI (w t) := d2.r1 h0 h1
      simp (disch := omega) only [zI_add, zI_sub, zI_mul, zI_neg, zI_lt, zI_le, zI_eq, zI_div, zI_rem, ix_zI, inb_zI, nz_zI, imax_zI, imin_zI, c_t, nb01.1, nb01.2, zl_0, zl_1, zl_2, zl_3, zl_4, zl_5, zl_6, zl_7, zl_8, zl_9, zl_10, zl_11, zl_12, zl_13, zl_14, zl_15, zl_16, zl_17, zl_18, zl_19, zl_20, zl_24, zl_30, zl_31, zl_36, zl_42, zl_44, zl_48, zl_57, zl_58, zl_59, zl_60, zl_61, zl_62, zl_63, zl_64, zl_72, zl_73, zl_96, zl_99, zl_100, zl_104, zl_107, zl_111, zl_114, zl_116, zl_120, zl_200, zl_255, zl_256, zl_360, zl_600, zl_800, zl_1000, zl_2000, g6, g1']
      refine ⟨fun z => absurd k3 z, fun _ => sTI_addJob (j := (t, w (18 + t) + x + lim w t, w t)) t2 (by simp; omega) fun h3 o3 t3 => hq h3 (o2.tr o3) ?_⟩
      simpa using t3
    · rw [if_neg k3] at hl hq
      simp only [List.length_cons, List.length_nil] at hl
      refine sTI_addJob (j := (t, w (18 + t) + x + lim w t, w t)) ht (by omega) fun h2 o2 t2 => ?_
      have d2 := hd.tjk hp o2
      have g6 : h2 (p + 6) t.toNat = zI (w (30 + t)) := d2.r6 h0 h1
      simp (disch := omega) only [zI_add, zI_sub, zI_mul, zI_neg, zI_lt, zI_le, zI_eq, zI_div, zI_rem, ix_zI, inb_zI, nz_zI, imax_zI, imin_zI, c_t, nb01.1, nb01.2, zl_0, zl_1, zl_2, zl_3, zl_4, zl_5, zl_6, zl_7, zl_8, zl_9, zl_10, zl_11, zl_12, zl_13, zl_14, zl_15, zl_16, zl_17, zl_18, zl_19, zl_20, zl_24, zl_30, zl_31, zl_36, zl_42, zl_44, zl_48, zl_57, zl_58, zl_59, zl_60, zl_61, zl_62, zl_63, zl_64, zl_72, zl_73, zl_96, zl_99, zl_100, zl_104, zl_107, zl_111, zl_114, zl_116, zl_120, zl_200, zl_255, zl_256, zl_360, zl_600, zl_800, zl_1000, zl_2000, g6]
      exact ⟨fun _ => hq h2 o2 t2, fun z => absurd z k3⟩
  have g9 : h (p + 9) t.toNat = zI (dist w t) := hd.r9 h0 h1
  have g6 : h (p + 6) t.toNat = zI (w (30 + t)) := hd.r6 h0 h1
  have g7 : h (p + 7) t.toNat = zI (w (36 + t)) := hd.r7 h0 h1
  by_cases hx0 : x < 0
  · have : ciS w t x par = [] := if_neg (fun z => by omega)
    simp (disch := omega) only [zI_add, zI_sub, zI_mul, zI_neg, zI_lt, zI_le, zI_eq, zI_div, zI_rem, ix_zI, inb_zI, nz_zI, imax_zI, imin_zI, c_t, nb01.1, nb01.2, zl_0, zl_1, zl_2, zl_3, zl_4, zl_5, zl_6, zl_7, zl_8, zl_9, zl_10, zl_11, zl_12, zl_13, zl_14, zl_15, zl_16, zl_17, zl_18, zl_19, zl_20, zl_24, zl_30, zl_31, zl_36, zl_42, zl_44, zl_48, zl_57, zl_58, zl_59, zl_60, zl_61, zl_62, zl_63, zl_64, zl_72, zl_73, zl_96, zl_99, zl_100, zl_104, zl_107, zl_111, zl_114, zl_116, zl_120, zl_200, zl_255, zl_256, zl_360, zl_600, zl_800, zl_1000, zl_2000]
    exact ⟨fun _ => no this, fun z => absurd hx0 z⟩
  · have hx0 : 0 ≤ x := by omega
    have q1 : 0 ≤ x / dist w t := Int.ediv_nonneg hx0 (by omega)
    have q2 : x / dist w t ≤ x := Int.ediv_le_self _ hx0
    have r1 := Int.emod_lt_of_pos x (show 0 < dist w t by omega)
    have r2 := Int.emod_nonneg x (show dist w t ≠ 0 by omega)
    have m1 := Int.emod_lt_of_pos (x / dist w t) (show (0 : Int) < 2 by omega)
    have m2 := Int.emod_nonneg (x / dist w t) (show (2 : Int) ≠ 0 by omega)
    have mm : ((x / dist w t).toNat % 2 = par) ↔ x / dist w t % 2 = (par : Int) := by omega
    have nn : ∀ {P : Prop}, (0 ≤ x ∧ x % dist w t = 0 ∧ (x / dist w t).toNat % 2 = par ∧ (w (30 + t) ≠ 4 ∨ x / dist w t ≤ w (36 + t)) → P) → (¬ P → ciS w t x par = []) := fun f z => if_neg (fun y => z (f y))
    simp (disch := omega) only [zI_add, zI_sub, zI_mul, zI_neg, zI_lt, zI_le, zI_eq, zI_div, zI_rem, ix_zI, inb_zI, nz_zI, imax_zI, imin_zI, c_t, nb01.1, nb01.2, zl_0, zl_1, zl_2, zl_3, zl_4, zl_5, zl_6, zl_7, zl_8, zl_9, zl_10, zl_11, zl_12, zl_13, zl_14, zl_15, zl_16, zl_17, zl_18, zl_19, zl_20, zl_24, zl_30, zl_31, zl_36, zl_42, zl_44, zl_48, zl_57, zl_58, zl_59, zl_60, zl_61, zl_62, zl_63, zl_64, zl_72, zl_73, zl_96, zl_99, zl_100, zl_104, zl_107, zl_111, zl_114, zl_116, zl_120, zl_200, zl_255, zl_256, zl_360, zl_600, zl_800, zl_1000, zl_2000, g9, g6, g7]
    refine ⟨fun z => by omega, fun _ => ⟨fun z => by omega, fun _ => ⟨fun z1 => ⟨fun z2 => ⟨fun z3 => s63 ⟨hx0, z1, mm.mpr z2, Or.inl z3⟩, fun z3 => ⟨fun z4 => s63 ⟨hx0, z1, mm.mpr z2, Or.inr z4⟩, fun z4 => no (nn (fun y => y.2.2.2) ?_)⟩⟩, fun z2 => no (nn (fun y => y.2.2.1) (fun y => z2 (mm.mp y)))⟩, fun z1 => no (nn (fun y => y.2.1) z1)⟩⟩⟩
    intro y
    rcases y with y | y
    · exact y z3
    · exact z4 y
theorem sTI_letCome {Q : Mem → Prop} {t u : Int} {s : RSt} (hp : isP p) (hd : DW h p w) (hw : WF w) (h0 : 0 ≤ t) (h1 : t < w 72) (hu : 0 ≤ u ∧ u < 60) (ht : TQ h s) (hl : (s.1.length : Int) + (cmK w t u 30).length ≤ 360) (hq : ∀ h', Off tj h h' → TQ h' (s.1 ++ cmK w t u 30, s.2) → Q h') : CALLV E mTI_letCome [.ref 48, .ref p, .int (zI t), .int (zI u)] h Q := by
  refine fTI_letCome hp ?_
  have bt := hw.at h0 h1
  have lb := lat_b hw h0 h1
  rw [cm_30 hw h0 h1 hu] at hl hq
  rw [List.length_append] at hl
  have g4 : h (p + 4) t.toNat = zI (w (18 + t)) := hd.r4 h0 h1
  have g10 : h (p + 10) t.toNat = zI (lat w t) := hd.r10 h0 h1
  simp (disch := omega) only [zI_add, zI_sub, zI_mul, zI_neg, zI_lt, zI_le, zI_eq, zI_div, zI_rem, ix_zI, inb_zI, nz_zI, imax_zI, imin_zI, c_t, nb01.1, nb01.2, zl_0, zl_1, zl_2, zl_3, zl_4, zl_5, zl_6, zl_7, zl_8, zl_9, zl_10, zl_11, zl_12, zl_13, zl_14, zl_15, zl_16, zl_17, zl_18, zl_19, zl_20, zl_24, zl_30, zl_31, zl_36, zl_42, zl_44, zl_48, zl_57, zl_58, zl_59, zl_60, zl_61, zl_62, zl_63, zl_64, zl_72, zl_73, zl_96, zl_99, zl_100, zl_104, zl_107, zl_111, zl_114, zl_116, zl_120, zl_200, zl_255, zl_256, zl_360, zl_600, zl_800, zl_1000, zl_2000, g4, g10]
  refine sTI_comeIfSo (par := 1) hp hd hw h0 h1 (by omega) (by omega) ht (by omega) fun h2 o2 t2 => ?_
  refine sTI_comeIfSo (par := 0) hp (hd.tjk hp o2) hw h0 h1 (by omega) (by omega) t2 (by simp only [List.length_append]; omega) fun h3 o3 t3 => hq h3 (o2.tr o3) ?_
  simpa using t3
end CJ
