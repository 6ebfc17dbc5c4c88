/-! ===== the law: each case, the loop ===== -/
def IV (h : Mem) (s : St) : Prop := SV s ∧ SA h s ∧ SB h s
theorem lg_same (x : Int64) : lg_cmp x x = 0 := by
  unfold lg_cmp
  rw [if_neg (Int64.lt_irrefl), if_pos rfl]
theorem gI_ex (x : Int32) : ∃ a : Int, x = zI a ∧ I32 a := by
  obtain ⟨a, h1, h2, h3⟩ := zI_of x
  exact ⟨a, h1, h2, h3⟩
section LC
variable {E : XE} {h : Mem} {s : St} {i : Int}
theorem lc_0 (iv : IV h s) (hL : (eXs E).length ≤ 2048) (i0 : 0 ≤ i) (i4 : i + 4 ≤ (eXs E).length) (next : ∀ h2 s2, IV h2 s2 → WP E mL_law 1310 [some (.ref 1000), some (.ref 0), some (.ref 60), some (.int (zI i))] [] h2 (qI fun v _ => v = 1)) : WP E mL_law 208 [some (.ref 1000), some (.ref 0), some (.ref 60), some (.int (zI i))] [] h (qI fun v _ => v = 1) := by
  obtain ⟨hv, ha, hb⟩ := iv
  refine fL_c0 ?_
  have n1 : inb (zI i + 1) (eXs E).length = true := by rw [zl_1, zI_add]; exact inb_zI (by omega) (by omega) (by omega)
  obtain ⟨a1, e1, b1⟩ := gI_ex ((eXs E).getD (ix (zI i + 1)) 0)
  simp only [n1, e1, c_t]
  exact qC_letter hv ha b1 fun h1 ha1 f1 => qM_letter hv (hb.fa f1) b1 fun h2 hb2 f2 => ⟨fun _ => next h2 _ ⟨sv_let hv, ha1.fb f2, hb2⟩, fun z => absurd rfl z⟩
theorem lc_1 (iv : IV h s) (hL : (eXs E).length ≤ 2048) (i0 : 0 ≤ i) (i4 : i + 4 ≤ (eXs E).length) (next : ∀ h2 s2, IV h2 s2 → WP E mL_law 1310 [some (.ref 1000), some (.ref 0), some (.ref 60), some (.int (zI i))] [] h2 (qI fun v _ => v = 1)) : WP E mL_law 231 [some (.ref 1000), some (.ref 0), some (.ref 60), some (.int (zI i))] [] h (qI fun v _ => v = 1) := by
  obtain ⟨hv, ha, hb⟩ := iv
  refine fL_c1 ?_
  exact qC_tells hv ha  fun h1 ha1 f1 => qM_tells hv (hb.fa f1)  fun h2 hb2 f2 => ⟨fun _ => next h2 _ ⟨sv_tell hv, ha1.fb f2, hb2⟩, fun z => absurd rfl z⟩
theorem lc_2 (iv : IV h s) (hL : (eXs E).length ≤ 2048) (i0 : 0 ≤ i) (i4 : i + 4 ≤ (eXs E).length) (next : ∀ h2 s2, IV h2 s2 → WP E mL_law 1310 [some (.ref 1000), some (.ref 0), some (.ref 60), some (.int (zI i))] [] h2 (qI fun v _ => v = 1)) : WP E mL_law 244 [some (.ref 1000), some (.ref 0), some (.ref 60), some (.int (zI i))] [] h (qI fun v _ => v = 1) := by
  obtain ⟨hv, ha, hb⟩ := iv
  refine fL_c2 ?_
  have n1 : inb (zI i + 1) (eXs E).length = true := by rw [zl_1, zI_add]; exact inb_zI (by omega) (by omega) (by omega)
  obtain ⟨a1, e1, b1⟩ := gI_ex ((eXs E).getD (ix (zI i + 1)) 0)
  have n2 : inb (zI i + 2) (eXs E).length = true := by rw [zl_2, zI_add]; exact inb_zI (by omega) (by omega) (by omega)
  obtain ⟨a2, e2, b2⟩ := gI_ex ((eXs E).getD (ix (zI i + 2)) 0)
  have n3 : inb (zI i + 3) (eXs E).length = true := by rw [zl_3, zI_add]; exact inb_zI (by omega) (by omega) (by omega)
  obtain ⟨a3, e3, b3⟩ := gI_ex ((eXs E).getD (ix (zI i + 3)) 0)
  simp only [n1, e1, n2, e2, n3, e3, c_t]
  exact qC_tasks hv ha b1 b2 b3 fun h1 ha1 f1 => qM_tasks hv (hb.fa f1) b1 b2 b3 fun h2 hb2 f2 => ⟨fun _ => next h2 _ ⟨sv_add hv, ha1.fb f2, hb2⟩, fun z => absurd rfl z⟩
theorem lc_3 (iv : IV h s) (hL : (eXs E).length ≤ 2048) (i0 : 0 ≤ i) (i4 : i + 4 ≤ (eXs E).length) (next : ∀ h2 s2, IV h2 s2 → WP E mL_law 1310 [some (.ref 1000), some (.ref 0), some (.ref 60), some (.int (zI i))] [] h2 (qI fun v _ => v = 1)) : WP E mL_law 287 [some (.ref 1000), some (.ref 0), some (.ref 60), some (.int (zI i))] [] h (qI fun v _ => v = 1) := by
  obtain ⟨hv, ha, hb⟩ := iv
  refine fL_c3 ?_
  have n1 : inb (zI i + 1) (eXs E).length = true := by rw [zl_1, zI_add]; exact inb_zI (by omega) (by omega) (by omega)
  obtain ⟨a1, e1, b1⟩ := gI_ex ((eXs E).getD (ix (zI i + 1)) 0)
  simp only [n1, e1, c_t]
  exact qC_turns hv ha b1 fun h1 ha1 f1 => qM_turns hv (hb.fa f1) b1 fun h2 hb2 f2 => ⟨fun _ => next h2 _ ⟨sv_turn hv, ha1.fb f2, hb2⟩, fun z => absurd rfl z⟩
theorem lc_4 (iv : IV h s) (hL : (eXs E).length ≤ 2048) (i0 : 0 ≤ i) (i4 : i + 4 ≤ (eXs E).length) (next : ∀ h2 s2, IV h2 s2 → WP E mL_law 1310 [some (.ref 1000), some (.ref 0), some (.ref 60), some (.int (zI i))] [] h2 (qI fun v _ => v = 1)) : WP E mL_law 310 [some (.ref 1000), some (.ref 0), some (.ref 60), some (.int (zI i))] [] h (qI fun v _ => v = 1) := by
  obtain ⟨hv, ha, hb⟩ := iv
  refine fL_c4 ?_
  have n1 : inb (zI i + 1) (eXs E).length = true := by rw [zl_1, zI_add]; exact inb_zI (by omega) (by omega) (by omega)
  obtain ⟨a1, e1, b1⟩ := gI_ex ((eXs E).getD (ix (zI i + 1)) 0)
  have n2 : inb (zI i + 2) (eXs E).length = true := by rw [zl_2, zI_add]; exact inb_zI (by omega) (by omega) (by omega)
  obtain ⟨a2, e2, b2⟩ := gI_ex ((eXs E).getD (ix (zI i + 2)) 0)
  simp only [n1, e1, n2, e2, c_t]
  exact qC_offset hv ha b1 b2 fun h1 ha1 f1 => qM_offset hv (hb.fa f1) b1 b2 fun h2 hb2 f2 => ⟨fun _ => next h2 _ ⟨sv_lay hv (Or.inr (Or.inl (by omega))), ha1.fb f2, hb2⟩, fun z => absurd rfl z⟩
theorem lc_5 (iv : IV h s) (hL : (eXs E).length ≤ 2048) (i0 : 0 ≤ i) (i4 : i + 4 ≤ (eXs E).length) (next : ∀ h2 s2, IV h2 s2 → WP E mL_law 1310 [some (.ref 1000), some (.ref 0), some (.ref 60), some (.int (zI i))] [] h2 (qI fun v _ => v = 1)) : WP E mL_law 343 [some (.ref 1000), some (.ref 0), some (.ref 60), some (.int (zI i))] [] h (qI fun v _ => v = 1) := by
  obtain ⟨hv, ha, hb⟩ := iv
  refine fL_c5 ?_
  have n1 : inb (zI i + 1) (eXs E).length = true := by rw [zl_1, zI_add]; exact inb_zI (by omega) (by omega) (by omega)
  obtain ⟨a1, e1, b1⟩ := gI_ex ((eXs E).getD (ix (zI i + 1)) 0)
  have n2 : inb (zI i + 2) (eXs E).length = true := by rw [zl_2, zI_add]; exact inb_zI (by omega) (by omega) (by omega)
  obtain ⟨a2, e2, b2⟩ := gI_ex ((eXs E).getD (ix (zI i + 2)) 0)
  simp only [n1, e1, n2, e2, c_t]
  exact qC_rank hv ha b1 b2 fun h1 ha1 f1 => qM_rank hv (hb.fa f1) b1 b2 fun h2 hb2 f2 => ⟨fun _ => next h2 _ ⟨sv_lay hv (Or.inr (Or.inr (by omega))), ha1.fb f2, hb2⟩, fun z => absurd rfl z⟩
theorem lc_6 (iv : IV h s) (hL : (eXs E).length ≤ 2048) (i0 : 0 ≤ i) (i4 : i + 4 ≤ (eXs E).length) (next : ∀ h2 s2, IV h2 s2 → WP E mL_law 1310 [some (.ref 1000), some (.ref 0), some (.ref 60), some (.int (zI i))] [] h2 (qI fun v _ => v = 1)) : WP E mL_law 376 [some (.ref 1000), some (.ref 0), some (.ref 60), some (.int (zI i))] [] h (qI fun v _ => v = 1) := by
  obtain ⟨hv, ha, hb⟩ := iv
  refine fL_c6 ?_
  have n1 : inb (zI i + 1) (eXs E).length = true := by rw [zl_1, zI_add]; exact inb_zI (by omega) (by omega) (by omega)
  obtain ⟨a1, e1, b1⟩ := gI_ex ((eXs E).getD (ix (zI i + 1)) 0)
  have n2 : inb (zI i + 2) (eXs E).length = true := by rw [zl_2, zI_add]; exact inb_zI (by omega) (by omega) (by omega)
  obtain ⟨a2, e2, b2⟩ := gI_ex ((eXs E).getD (ix (zI i + 2)) 0)
  simp only [n1, e1, n2, e2, c_t]
  exact qC_cost hv ha b1 b2 fun h1 ha1 f1 => qM_cost hv (hb.fa f1) b1 b2 fun h2 hb2 f2 => ⟨fun _ => next h2 _ ⟨sv_lay hv (Or.inl (by omega)), ha1.fb f2, hb2⟩, fun z => absurd rfl z⟩
theorem lc_7 (iv : IV h s) (hL : (eXs E).length ≤ 2048) (i0 : 0 ≤ i) (i4 : i + 4 ≤ (eXs E).length) (next : ∀ h2 s2, IV h2 s2 → WP E mL_law 1310 [some (.ref 1000), some (.ref 0), some (.ref 60), some (.int (zI i))] [] h2 (qI fun v _ => v = 1)) : WP E mL_law 409 [some (.ref 1000), some (.ref 0), some (.ref 60), some (.int (zI i))] [] h (qI fun v _ => v = 1) := by
  obtain ⟨hv, ha, hb⟩ := iv
  refine fL_c7 ?_
  have n1 : inb (zI i + 1) (eXs E).length = true := by rw [zl_1, zI_add]; exact inb_zI (by omega) (by omega) (by omega)
  obtain ⟨a1, e1, b1⟩ := gI_ex ((eXs E).getD (ix (zI i + 1)) 0)
  have n2 : inb (zI i + 2) (eXs E).length = true := by rw [zl_2, zI_add]; exact inb_zI (by omega) (by omega) (by omega)
  obtain ⟨a2, e2, b2⟩ := gI_ex ((eXs E).getD (ix (zI i + 2)) 0)
  have n3 : inb (zI i + 3) (eXs E).length = true := by rw [zl_3, zI_add]; exact inb_zI (by omega) (by omega) (by omega)
  obtain ⟨a3, e3, b3⟩ := gI_ex ((eXs E).getD (ix (zI i + 3)) 0)
  simp only [n1, e1, n2, e2, n3, e3, c_t]
  exact qC_kind hv ha b1 b2 b3 fun h1 ha1 f1 => qM_kind hv (hb.fa f1) b1 b2 b3 fun h2 hb2 f2 => ⟨fun _ => next h2 _ ⟨sv_kind hv, ha1.fb f2, hb2⟩, fun z => absurd rfl z⟩
theorem lc_8 (iv : IV h s) (hL : (eXs E).length ≤ 2048) (i0 : 0 ≤ i) (i4 : i + 4 ≤ (eXs E).length) (next : ∀ h2 s2, IV h2 s2 → WP E mL_law 1310 [some (.ref 1000), some (.ref 0), some (.ref 60), some (.int (zI i))] [] h2 (qI fun v _ => v = 1)) : WP E mL_law 452 [some (.ref 1000), some (.ref 0), some (.ref 60), some (.int (zI i))] [] h (qI fun v _ => v = 1) := by
  obtain ⟨hv, ha, hb⟩ := iv
  refine fL_c8 ?_
  have n1 : inb (zI i + 1) (eXs E).length = true := by rw [zl_1, zI_add]; exact inb_zI (by omega) (by omega) (by omega)
  obtain ⟨a1, e1, b1⟩ := gI_ex ((eXs E).getD (ix (zI i + 1)) 0)
  have n2 : inb (zI i + 2) (eXs E).length = true := by rw [zl_2, zI_add]; exact inb_zI (by omega) (by omega) (by omega)
  obtain ⟨a2, e2, b2⟩ := gI_ex ((eXs E).getD (ix (zI i + 2)) 0)
  have n3 : inb (zI i + 3) (eXs E).length = true := by rw [zl_3, zI_add]; exact inb_zI (by omega) (by omega) (by omega)
  obtain ⟨a3, e3, b3⟩ := gI_ex ((eXs E).getD (ix (zI i + 3)) 0)
  simp only [n1, e1, n2, e2, n3, e3, c_t]
  exact qC_holds hv ha b1 b2 b3 fun h1 ha1 f1 => qM_holds hv (hb.fa f1) b1 b2 b3 fun h2 hb2 f2 => ⟨fun _ => next h2 _ ⟨sv_hold hv, ha1.fb f2, hb2⟩, fun z => absurd rfl z⟩
theorem lc_9 (iv : IV h s) (hL : (eXs E).length ≤ 2048) (i0 : 0 ≤ i) (i4 : i + 4 ≤ (eXs E).length) (next : ∀ h2 s2, IV h2 s2 → WP E mL_law 1310 [some (.ref 1000), some (.ref 0), some (.ref 60), some (.int (zI i))] [] h2 (qI fun v _ => v = 1)) : WP E mL_law 495 [some (.ref 1000), some (.ref 0), some (.ref 60), some (.int (zI i))] [] h (qI fun v _ => v = 1) := by
  obtain ⟨hv, ha, hb⟩ := iv
  refine fL_c9 ?_
  have n1 : inb (zI i + 1) (eXs E).length = true := by rw [zl_1, zI_add]; exact inb_zI (by omega) (by omega) (by omega)
  obtain ⟨a1, e1, b1⟩ := gI_ex ((eXs E).getD (ix (zI i + 1)) 0)
  have n2 : inb (zI i + 2) (eXs E).length = true := by rw [zl_2, zI_add]; exact inb_zI (by omega) (by omega) (by omega)
  obtain ⟨a2, e2, b2⟩ := gI_ex ((eXs E).getD (ix (zI i + 2)) 0)
  simp only [n1, e1, n2, e2, c_t]
  exact qC_task hv ha b1 b2 fun h1 ha1 f1 => qM_task hv (hb.fa f1) b1 b2 fun h2 hb2 f2 => ⟨fun _ => next h2 _ ⟨hv.rfd _, ha1.fb f2, hb2⟩, fun z => absurd rfl z⟩
theorem lc_10 (iv : IV h s) (hL : (eXs E).length ≤ 2048) (i0 : 0 ≤ i) (i4 : i + 4 ≤ (eXs E).length) (next : ∀ h2 s2, IV h2 s2 → WP E mL_law 1310 [some (.ref 1000), some (.ref 0), some (.ref 60), some (.int (zI i))] [] h2 (qI fun v _ => v = 1)) : WP E mL_law 528 [some (.ref 1000), some (.ref 0), some (.ref 60), some (.int (zI i))] [] h (qI fun v _ => v = 1) := by
  obtain ⟨hv, ha, hb⟩ := iv
  refine fL_c10 ?_
  have n1 : inb (zI i + 1) (eXs E).length = true := by rw [zl_1, zI_add]; exact inb_zI (by omega) (by omega) (by omega)
  obtain ⟨a1, e1, b1⟩ := gI_ex ((eXs E).getD (ix (zI i + 1)) 0)
  have n2 : inb (zI i + 2) (eXs E).length = true := by rw [zl_2, zI_add]; exact inb_zI (by omega) (by omega) (by omega)
  obtain ⟨a2, e2, b2⟩ := gI_ex ((eXs E).getD (ix (zI i + 2)) 0)
  simp only [n1, e1, n2, e2, c_t]
  exact qC_asked hv ha b1 b2 fun h1 ha1 f1 => qM_asked hv (hb.fa f1) b1 b2 fun h2 hb2 f2 => ⟨fun _ => next h2 _ ⟨hv.rfd _, ha1.fb f2, hb2⟩, fun z => absurd rfl z⟩
theorem lc_11 (iv : IV h s) (hL : (eXs E).length ≤ 2048) (i0 : 0 ≤ i) (i4 : i + 4 ≤ (eXs E).length) (next : ∀ h2 s2, IV h2 s2 → WP E mL_law 1310 [some (.ref 1000), some (.ref 0), some (.ref 60), some (.int (zI i))] [] h2 (qI fun v _ => v = 1)) : WP E mL_law 561 [some (.ref 1000), some (.ref 0), some (.ref 60), some (.int (zI i))] [] h (qI fun v _ => v = 1) := by
  obtain ⟨hv, ha, hb⟩ := iv
  refine fL_c11 ?_
  have n1 : inb (zI i + 1) (eXs E).length = true := by rw [zl_1, zI_add]; exact inb_zI (by omega) (by omega) (by omega)
  obtain ⟨a1, e1, b1⟩ := gI_ex ((eXs E).getD (ix (zI i + 1)) 0)
  have n2 : inb (zI i + 2) (eXs E).length = true := by rw [zl_2, zI_add]; exact inb_zI (by omega) (by omega) (by omega)
  obtain ⟨a2, e2, b2⟩ := gI_ex ((eXs E).getD (ix (zI i + 2)) 0)
  simp only [n1, e1, n2, e2, c_t]
  exact qC_owed hv ha b1 b2 fun h1 ha1 f1 => qM_owed hv (hb.fa f1) b1 b2 fun h2 hb2 f2 => ⟨fun _ => next h2 _ ⟨hv.rfd _, ha1.fb f2, hb2⟩, fun z => absurd rfl z⟩
theorem lc_12 (iv : IV h s) (hL : (eXs E).length ≤ 2048) (i0 : 0 ≤ i) (i4 : i + 4 ≤ (eXs E).length) (next : ∀ h2 s2, IV h2 s2 → WP E mL_law 1310 [some (.ref 1000), some (.ref 0), some (.ref 60), some (.int (zI i))] [] h2 (qI fun v _ => v = 1)) : WP E mL_law 594 [some (.ref 1000), some (.ref 0), some (.ref 60), some (.int (zI i))] [] h (qI fun v _ => v = 1) := by
  obtain ⟨hv, ha, hb⟩ := iv
  refine fL_c12 ?_
  have n1 : inb (zI i + 1) (eXs E).length = true := by rw [zl_1, zI_add]; exact inb_zI (by omega) (by omega) (by omega)
  obtain ⟨a1, e1, b1⟩ := gI_ex ((eXs E).getD (ix (zI i + 1)) 0)
  simp only [n1, e1, c_t]
  exact qC_demand hv ha b1 fun h1 ha1 f1 => qM_demand hv (hb.fa f1) b1 fun h2 hb2 f2 => ⟨fun _ => next h2 _ ⟨hv.rfd _, ha1.fb f2, hb2⟩, fun z => absurd rfl z⟩
theorem lc_13 (iv : IV h s) (hL : (eXs E).length ≤ 2048) (i0 : 0 ≤ i) (i4 : i + 4 ≤ (eXs E).length) (next : ∀ h2 s2, IV h2 s2 → WP E mL_law 1310 [some (.ref 1000), some (.ref 0), some (.ref 60), some (.int (zI i))] [] h2 (qI fun v _ => v = 1)) : WP E mL_law 617 [some (.ref 1000), some (.ref 0), some (.ref 60), some (.int (zI i))] [] h (qI fun v _ => v = 1) := by
  obtain ⟨hv, ha, hb⟩ := iv
  refine fL_c13 ?_
  exact qC_busy hv ha  fun h1 ha1 f1 => qM_busy hv (hb.fa f1)  fun h2 hb2 f2 => ⟨fun _ => next h2 _ ⟨hv, ha1.fb f2, hb2⟩, fun z => absurd rfl z⟩
theorem lc_14 (iv : IV h s) (hL : (eXs E).length ≤ 2048) (i0 : 0 ≤ i) (i4 : i + 4 ≤ (eXs E).length) (next : ∀ h2 s2, IV h2 s2 → WP E mL_law 1310 [some (.ref 1000), some (.ref 0), some (.ref 60), some (.int (zI i))] [] h2 (qI fun v _ => v = 1)) : WP E mL_law 630 [some (.ref 1000), some (.ref 0), some (.ref 60), some (.int (zI i))] [] h (qI fun v _ => v = 1) := by
  obtain ⟨hv, ha, hb⟩ := iv
  refine fL_c14 ?_
  have n1 : inb (zI i + 1) (eXs E).length = true := by rw [zl_1, zI_add]; exact inb_zI (by omega) (by omega) (by omega)
  obtain ⟨a1, e1, b1⟩ := gI_ex ((eXs E).getD (ix (zI i + 1)) 0)
  simp only [n1, e1, c_t]
  exact qC_point hv ha b1 fun h1 ha1 f1 => qM_point hv (hb.fa f1) b1 fun h2 hb2 f2 => ⟨fun _ => next h2 _ ⟨hv.rfd _, ha1.fb f2, hb2⟩, fun z => absurd rfl z⟩
theorem lc_15 (iv : IV h s) (hL : (eXs E).length ≤ 2048) (i0 : 0 ≤ i) (i4 : i + 4 ≤ (eXs E).length) (next : ∀ h2 s2, IV h2 s2 → WP E mL_law 1310 [some (.ref 1000), some (.ref 0), some (.ref 60), some (.int (zI i))] [] h2 (qI fun v _ => v = 1)) : WP E mL_law 653 [some (.ref 1000), some (.ref 0), some (.ref 60), some (.int (zI i))] [] h (qI fun v _ => v = 1) := by
  obtain ⟨hv, ha, hb⟩ := iv
  refine fL_c15 ?_
  exact qC_miss hv ha  fun h1 ha1 f1 => qM_miss hv (hb.fa f1)  fun h2 hb2 f2 => ⟨fun _ => next h2 _ ⟨hv, ha1.fb f2, hb2⟩, fun z => absurd rfl z⟩
theorem lc_16 (iv : IV h s) (hL : (eXs E).length ≤ 2048) (i0 : 0 ≤ i) (i4 : i + 4 ≤ (eXs E).length) (next : ∀ h2 s2, IV h2 s2 → WP E mL_law 1310 [some (.ref 1000), some (.ref 0), some (.ref 60), some (.int (zI i))] [] h2 (qI fun v _ => v = 1)) : WP E mL_law 666 [some (.ref 1000), some (.ref 0), some (.ref 60), some (.int (zI i))] [] h (qI fun v _ => v = 1) := by
  obtain ⟨hv, ha, hb⟩ := iv
  refine fL_c16 ?_
  exact qC_spare hv ha  fun h1 ha1 f1 => qM_spare hv (hb.fa f1)  fun h2 hb2 f2 => ⟨fun _ => next h2 _ ⟨hv, ha1.fb f2, hb2⟩, fun z => absurd rfl z⟩
theorem lc_17 (iv : IV h s) (hL : (eXs E).length ≤ 2048) (i0 : 0 ≤ i) (i4 : i + 4 ≤ (eXs E).length) (next : ∀ h2 s2, IV h2 s2 → WP E mL_law 1310 [some (.ref 1000), some (.ref 0), some (.ref 60), some (.int (zI i))] [] h2 (qI fun v _ => v = 1)) : WP E mL_law 679 [some (.ref 1000), some (.ref 0), some (.ref 60), some (.int (zI i))] [] h (qI fun v _ => v = 1) := by
  obtain ⟨hv, ha, hb⟩ := iv
  refine fL_c17 ?_
  have n1 : inb (zI i + 1) (eXs E).length = true := by rw [zl_1, zI_add]; exact inb_zI (by omega) (by omega) (by omega)
  obtain ⟨a1, e1, b1⟩ := gI_ex ((eXs E).getD (ix (zI i + 1)) 0)
  have n2 : inb (zI i + 2) (eXs E).length = true := by rw [zl_2, zI_add]; exact inb_zI (by omega) (by omega) (by omega)
  obtain ⟨a2, e2, b2⟩ := gI_ex ((eXs E).getD (ix (zI i + 2)) 0)
  simp only [n1, e1, n2, e2, c_t]
  exact qC_order hv ha b1 b2 fun h1 ha1 f1 => qM_order hv (hb.fa f1) b1 b2 fun h2 hb2 f2 => ⟨fun _ => next h2 _ ⟨hv.rfd _, ha1.fb f2, hb2⟩, fun z => absurd rfl z⟩
theorem lc_18 (iv : IV h s) (hL : (eXs E).length ≤ 2048) (i0 : 0 ≤ i) (i4 : i + 4 ≤ (eXs E).length) (next : ∀ h2 s2, IV h2 s2 → WP E mL_law 1310 [some (.ref 1000), some (.ref 0), some (.ref 60), some (.int (zI i))] [] h2 (qI fun v _ => v = 1)) : WP E mL_law 712 [some (.ref 1000), some (.ref 0), some (.ref 60), some (.int (zI i))] [] h (qI fun v _ => v = 1) := by
  obtain ⟨hv, ha, hb⟩ := iv
  refine fL_c18 ?_
  have n1 : inb (zI i + 1) (eXs E).length = true := by rw [zl_1, zI_add]; exact inb_zI (by omega) (by omega) (by omega)
  obtain ⟨a1, e1, b1⟩ := gI_ex ((eXs E).getD (ix (zI i + 1)) 0)
  have n2 : inb (zI i + 2) (eXs E).length = true := by rw [zl_2, zI_add]; exact inb_zI (by omega) (by omega) (by omega)
  obtain ⟨a2, e2, b2⟩ := gI_ex ((eXs E).getD (ix (zI i + 2)) 0)
  simp only [n1, e1, n2, e2, c_t]
  exact qC_ceiling hv ha b1 b2 fun h1 ha1 f1 => qM_ceiling hv (hb.fa f1) b1 b2 fun h2 hb2 f2 => ⟨fun _ => next h2 _ ⟨hv.rfd _, ha1.fb f2, hb2⟩, fun z => absurd rfl z⟩
theorem lc_19 (iv : IV h s) (hL : (eXs E).length ≤ 2048) (i0 : 0 ≤ i) (i4 : i + 4 ≤ (eXs E).length) (next : ∀ h2 s2, IV h2 s2 → WP E mL_law 1310 [some (.ref 1000), some (.ref 0), some (.ref 60), some (.int (zI i))] [] h2 (qI fun v _ => v = 1)) : WP E mL_law 745 [some (.ref 1000), some (.ref 0), some (.ref 60), some (.int (zI i))] [] h (qI fun v _ => v = 1) := by
  obtain ⟨hv, ha, hb⟩ := iv
  refine fL_c19 ?_
  have n1 : inb (zI i + 1) (eXs E).length = true := by rw [zl_1, zI_add]; exact inb_zI (by omega) (by omega) (by omega)
  obtain ⟨a1, e1, b1⟩ := gI_ex ((eXs E).getD (ix (zI i + 1)) 0)
  have n2 : inb (zI i + 2) (eXs E).length = true := by rw [zl_2, zI_add]; exact inb_zI (by omega) (by omega) (by omega)
  obtain ⟨a2, e2, b2⟩ := gI_ex ((eXs E).getD (ix (zI i + 2)) 0)
  simp only [n1, e1, n2, e2, c_t]
  exact qC_blocking hv ha b1 b2 fun h1 ha1 f1 => qM_blocking hv (hb.fa f1) b1 b2 fun h2 hb2 f2 => ⟨fun _ => next h2 _ ⟨hv.rfd _, ha1.fb f2, hb2⟩, fun z => absurd rfl z⟩
theorem lc_20 (iv : IV h s) (hL : (eXs E).length ≤ 2048) (i0 : 0 ≤ i) (i4 : i + 4 ≤ (eXs E).length) (next : ∀ h2 s2, IV h2 s2 → WP E mL_law 1310 [some (.ref 1000), some (.ref 0), some (.ref 60), some (.int (zI i))] [] h2 (qI fun v _ => v = 1)) : WP E mL_law 778 [some (.ref 1000), some (.ref 0), some (.ref 60), some (.int (zI i))] [] h (qI fun v _ => v = 1) := by
  obtain ⟨hv, ha, hb⟩ := iv
  refine fL_c20 ?_
  have n1 : inb (zI i + 1) (eXs E).length = true := by rw [zl_1, zI_add]; exact inb_zI (by omega) (by omega) (by omega)
  obtain ⟨a1, e1, b1⟩ := gI_ex ((eXs E).getD (ix (zI i + 1)) 0)
  have n2 : inb (zI i + 2) (eXs E).length = true := by rw [zl_2, zI_add]; exact inb_zI (by omega) (by omega) (by omega)
  obtain ⟨a2, e2, b2⟩ := gI_ex ((eXs E).getD (ix (zI i + 2)) 0)
  simp only [n1, e1, n2, e2, c_t]
  exact qC_response hv ha b1 b2 fun h1 ha1 f1 => qM_response hv (hb.fa f1) b1 b2 fun h2 hb2 f2 => ⟨fun _ => next h2 _ ⟨hv.rfd _, ha1.fb f2, hb2⟩, fun z => absurd rfl z⟩
theorem lc_21 (iv : IV h s) (hL : (eXs E).length ≤ 2048) (i0 : 0 ≤ i) (i4 : i + 4 ≤ (eXs E).length) (next : ∀ h2 s2, IV h2 s2 → WP E mL_law 1310 [some (.ref 1000), some (.ref 0), some (.ref 60), some (.int (zI i))] [] h2 (qI fun v _ => v = 1)) : WP E mL_law 811 [some (.ref 1000), some (.ref 0), some (.ref 60), some (.int (zI i))] [] h (qI fun v _ => v = 1) := by
  obtain ⟨hv, ha, hb⟩ := iv
  refine fL_c21 ?_
  have n1 : inb (zI i + 1) (eXs E).length = true := by rw [zl_1, zI_add]; exact inb_zI (by omega) (by omega) (by omega)
  obtain ⟨a1, e1, b1⟩ := gI_ex ((eXs E).getD (ix (zI i + 1)) 0)
  have n2 : inb (zI i + 2) (eXs E).length = true := by rw [zl_2, zI_add]; exact inb_zI (by omega) (by omega) (by omega)
  obtain ⟨a2, e2, b2⟩ := gI_ex ((eXs E).getD (ix (zI i + 2)) 0)
  simp only [n1, e1, n2, e2, c_t]
  exact qC_rounds hv ha b1 b2 fun h1 ha1 f1 => qM_rounds hv (hb.fa f1) b1 b2 fun h2 hb2 f2 => ⟨fun _ => next h2 _ ⟨hv.rfd _, ha1.fb f2, hb2⟩, fun z => absurd rfl z⟩
theorem lc_22 (iv : IV h s) (hL : (eXs E).length ≤ 2048) (i0 : 0 ≤ i) (i4 : i + 4 ≤ (eXs E).length) (next : ∀ h2 s2, IV h2 s2 → WP E mL_law 1310 [some (.ref 1000), some (.ref 0), some (.ref 60), some (.int (zI i))] [] h2 (qI fun v _ => v = 1)) : WP E mL_law 844 [some (.ref 1000), some (.ref 0), some (.ref 60), some (.int (zI i))] [] h (qI fun v _ => v = 1) := by
  obtain ⟨hv, ha, hb⟩ := iv
  refine fL_c22 ?_
  have n1 : inb (zI i + 1) (eXs E).length = true := by rw [zl_1, zI_add]; exact inb_zI (by omega) (by omega) (by omega)
  obtain ⟨a1, e1, b1⟩ := gI_ex ((eXs E).getD (ix (zI i + 1)) 0)
  simp only [n1, e1, c_t]
  exact qC_fits hv ha b1 fun h1 ha1 f1 => qM_fits hv (hb.fa f1) b1 fun h2 hb2 f2 => ⟨fun _ => next h2 _ ⟨hv.rfd _, ha1.fb f2, hb2⟩, fun z => absurd rfl z⟩
theorem lc_23 (iv : IV h s) (hL : (eXs E).length ≤ 2048) (i0 : 0 ≤ i) (i4 : i + 4 ≤ (eXs E).length) (next : ∀ h2 s2, IV h2 s2 → WP E mL_law 1310 [some (.ref 1000), some (.ref 0), some (.ref 60), some (.int (zI i))] [] h2 (qI fun v _ => v = 1)) : WP E mL_law 867 [some (.ref 1000), some (.ref 0), some (.ref 60), some (.int (zI i))] [] h (qI fun v _ => v = 1) := by
  obtain ⟨hv, ha, hb⟩ := iv
  refine fL_c23 ?_
  have n1 : inb (zI i + 1) (eXs E).length = true := by rw [zl_1, zI_add]; exact inb_zI (by omega) (by omega) (by omega)
  obtain ⟨a1, e1, b1⟩ := gI_ex ((eXs E).getD (ix (zI i + 1)) 0)
  simp only [n1, e1, c_t]
  exact qC_lawful hv ha b1 fun h1 ha1 f1 => qM_lawful hv (hb.fa f1) b1 fun h2 hb2 f2 => ⟨fun _ => next h2 _ ⟨hv.rfd _, ha1.fb f2, hb2⟩, fun z => absurd rfl z⟩
theorem lc_24 (iv : IV h s) (hL : (eXs E).length ≤ 2048) (i0 : 0 ≤ i) (i4 : i + 4 ≤ (eXs E).length) (next : ∀ h2 s2, IV h2 s2 → WP E mL_law 1310 [some (.ref 1000), some (.ref 0), some (.ref 60), some (.int (zI i))] [] h2 (qI fun v _ => v = 1)) : WP E mL_law 890 [some (.ref 1000), some (.ref 0), some (.ref 60), some (.int (zI i))] [] h (qI fun v _ => v = 1) := by
  obtain ⟨hv, ha, hb⟩ := iv
  refine fL_c24 ?_
  have n1 : inb (zI i + 1) (eXs E).length = true := by rw [zl_1, zI_add]; exact inb_zI (by omega) (by omega) (by omega)
  obtain ⟨a1, e1, b1⟩ := gI_ex ((eXs E).getD (ix (zI i + 1)) 0)
  have n2 : inb (zI i + 2) (eXs E).length = true := by rw [zl_2, zI_add]; exact inb_zI (by omega) (by omega) (by omega)
  obtain ⟨a2, e2, b2⟩ := gI_ex ((eXs E).getD (ix (zI i + 2)) 0)
  simp only [n1, e1, n2, e2, c_t]
  exact qC_run hv ha b1 b2 fun h1 ha1 f1 => qM_run hv (hb.fa f1) b1 b2 fun h2 hb2 f2 => ⟨fun _ => next h2 _ ⟨hv.rfd _, ha1.fb f2, hb2⟩, fun z => absurd rfl z⟩
theorem lc_25 (iv : IV h s) (hL : (eXs E).length ≤ 2048) (i0 : 0 ≤ i) (i4 : i + 4 ≤ (eXs E).length) (next : ∀ h2 s2, IV h2 s2 → WP E mL_law 1310 [some (.ref 1000), some (.ref 0), some (.ref 60), some (.int (zI i))] [] h2 (qI fun v _ => v = 1)) : WP E mL_law 923 [some (.ref 1000), some (.ref 0), some (.ref 60), some (.int (zI i))] [] h (qI fun v _ => v = 1) := by
  obtain ⟨hv, ha, hb⟩ := iv
  refine fL_c25 ?_
  have n1 : inb (zI i + 1) (eXs E).length = true := by rw [zl_1, zI_add]; exact inb_zI (by omega) (by omega) (by omega)
  obtain ⟨a1, e1, b1⟩ := gI_ex ((eXs E).getD (ix (zI i + 1)) 0)
  have n2 : inb (zI i + 2) (eXs E).length = true := by rw [zl_2, zI_add]; exact inb_zI (by omega) (by omega) (by omega)
  obtain ⟨a2, e2, b2⟩ := gI_ex ((eXs E).getD (ix (zI i + 2)) 0)
  have n3 : inb (zI i + 3) (eXs E).length = true := by rw [zl_3, zI_add]; exact inb_zI (by omega) (by omega) (by omega)
  obtain ⟨a3, e3, b3⟩ := gI_ex ((eXs E).getD (ix (zI i + 3)) 0)
  simp only [n1, e1, n2, e2, n3, e3, c_t]
  exact qC_jobs hv ha b1 b2 b3 fun h1 ha1 f1 => qM_jobs hv (hb.fa f1) b1 b2 b3 fun h2 hb2 f2 => ⟨fun _ => next h2 _ ⟨hv.rfd _, ha1.fb f2, hb2⟩, fun z => absurd rfl z⟩
theorem lc_26 (iv : IV h s) (hL : (eXs E).length ≤ 2048) (i0 : 0 ≤ i) (i4 : i + 4 ≤ (eXs E).length) (next : ∀ h2 s2, IV h2 s2 → WP E mL_law 1310 [some (.ref 1000), some (.ref 0), some (.ref 60), some (.int (zI i))] [] h2 (qI fun v _ => v = 1)) : WP E mL_law 966 [some (.ref 1000), some (.ref 0), some (.ref 60), some (.int (zI i))] [] h (qI fun v _ => v = 1) := by
  obtain ⟨hv, ha, hb⟩ := iv
  refine fL_c26 ?_
  have n1 : inb (zI i + 1) (eXs E).length = true := by rw [zl_1, zI_add]; exact inb_zI (by omega) (by omega) (by omega)
  obtain ⟨a1, e1, b1⟩ := gI_ex ((eXs E).getD (ix (zI i + 1)) 0)
  have n2 : inb (zI i + 2) (eXs E).length = true := by rw [zl_2, zI_add]; exact inb_zI (by omega) (by omega) (by omega)
  obtain ⟨a2, e2, b2⟩ := gI_ex ((eXs E).getD (ix (zI i + 2)) 0)
  simp only [n1, e1, n2, e2, c_t]
  exact qC_first hv ha b1 b2 fun h1 ha1 f1 => qM_first hv (hb.fa f1) b1 b2 fun h2 hb2 f2 => ⟨fun _ => next h2 _ ⟨hv.rfd _, ha1.fb f2, hb2⟩, fun z => absurd rfl z⟩
theorem lc_27 (iv : IV h s) (hL : (eXs E).length ≤ 2048) (i0 : 0 ≤ i) (i4 : i + 4 ≤ (eXs E).length) (next : ∀ h2 s2, IV h2 s2 → WP E mL_law 1310 [some (.ref 1000), some (.ref 0), some (.ref 60), some (.int (zI i))] [] h2 (qI fun v _ => v = 1)) : WP E mL_law 999 [some (.ref 1000), some (.ref 0), some (.ref 60), some (.int (zI i))] [] h (qI fun v _ => v = 1) := by
  obtain ⟨hv, ha, hb⟩ := iv
  refine fL_c27 ?_
  have n1 : inb (zI i + 1) (eXs E).length = true := by rw [zl_1, zI_add]; exact inb_zI (by omega) (by omega) (by omega)
  obtain ⟨a1, e1, b1⟩ := gI_ex ((eXs E).getD (ix (zI i + 1)) 0)
  simp only [n1, e1, c_t]
  exact qC_slack hv ha b1 fun h1 ha1 f1 => qM_slack hv (hb.fa f1) b1 fun h2 hb2 f2 => ⟨fun _ => next h2 _ ⟨hv.rfd _, ha1.fb f2, hb2⟩, fun z => absurd rfl z⟩
theorem lc_28 (iv : IV h s) (hL : (eXs E).length ≤ 2048) (i0 : 0 ≤ i) (i4 : i + 4 ≤ (eXs E).length) (next : ∀ h2 s2, IV h2 s2 → WP E mL_law 1310 [some (.ref 1000), some (.ref 0), some (.ref 60), some (.int (zI i))] [] h2 (qI fun v _ => v = 1)) : WP E mL_law 1022 [some (.ref 1000), some (.ref 0), some (.ref 60), some (.int (zI i))] [] h (qI fun v _ => v = 1) := by
  obtain ⟨hv, ha, hb⟩ := iv
  refine fL_c28 ?_
  have n1 : inb (zI i + 1) (eXs E).length = true := by rw [zl_1, zI_add]; exact inb_zI (by omega) (by omega) (by omega)
  obtain ⟨a1, e1, b1⟩ := gI_ex ((eXs E).getD (ix (zI i + 1)) 0)
  have n2 : inb (zI i + 2) (eXs E).length = true := by rw [zl_2, zI_add]; exact inb_zI (by omega) (by omega) (by omega)
  obtain ⟨a2, e2, b2⟩ := gI_ex ((eXs E).getD (ix (zI i + 2)) 0)
  simp only [n1, e1, n2, e2, c_t]
  exact qC_slackBy hv ha b1 b2 fun h1 ha1 f1 => qM_slackBy hv (hb.fa f1) b1 b2 fun h2 hb2 f2 => ⟨fun _ => next h2 _ ⟨hv.rfd _, ha1.fb f2, hb2⟩, fun z => absurd rfl z⟩
theorem lc_29 (iv : IV h s) (hL : (eXs E).length ≤ 2048) (i0 : 0 ≤ i) (i4 : i + 4 ≤ (eXs E).length) (next : ∀ h2 s2, IV h2 s2 → WP E mL_law 1310 [some (.ref 1000), some (.ref 0), some (.ref 60), some (.int (zI i))] [] h2 (qI fun v _ => v = 1)) : WP E mL_law 1055 [some (.ref 1000), some (.ref 0), some (.ref 60), some (.int (zI i))] [] h (qI fun v _ => v = 1) := by
  obtain ⟨hv, ha, hb⟩ := iv
  refine fL_c29 ?_
  have n1 : inb (zI i + 1) (eXs E).length = true := by rw [zl_1, zI_add]; exact inb_zI (by omega) (by omega) (by omega)
  obtain ⟨a1, e1, b1⟩ := gI_ex ((eXs E).getD (ix (zI i + 1)) 0)
  simp only [n1, e1, c_t]
  exact qC_load hv ha b1 fun h1 ha1 f1 => qM_load hv (hb.fa f1) b1 fun h2 hb2 f2 => ⟨fun _ => next h2 _ ⟨hv.rfd _, ha1.fb f2, hb2⟩, fun z => absurd (lg_same _) z⟩
theorem lc_30 (iv : IV h s) (hL : (eXs E).length ≤ 2048) (i0 : 0 ≤ i) (i4 : i + 4 ≤ (eXs E).length) (next : ∀ h2 s2, IV h2 s2 → WP E mL_law 1310 [some (.ref 1000), some (.ref 0), some (.ref 60), some (.int (zI i))] [] h2 (qI fun v _ => v = 1)) : WP E mL_law 1079 [some (.ref 1000), some (.ref 0), some (.ref 60), some (.int (zI i))] [] h (qI fun v _ => v = 1) := by
  obtain ⟨hv, ha, hb⟩ := iv
  refine fL_c30 ?_
  exact qC_anew hv ha  fun h1 ha1 f1 => qM_anew hv (hb.fa f1)  fun h2 hb2 f2 => ⟨fun _ => next h2 _ ⟨hv, ha1.fb f2, hb2⟩, fun z => absurd rfl z⟩
theorem lc_31 (iv : IV h s) (hL : (eXs E).length ≤ 2048) (i0 : 0 ≤ i) (i4 : i + 4 ≤ (eXs E).length) (next : ∀ h2 s2, IV h2 s2 → WP E mL_law 1310 [some (.ref 1000), some (.ref 0), some (.ref 60), some (.int (zI i))] [] h2 (qI fun v _ => v = 1)) : WP E mL_law 1092 [some (.ref 1000), some (.ref 0), some (.ref 60), some (.int (zI i))] [] h (qI fun v _ => v = 1) := by
  obtain ⟨hv, ha, hb⟩ := iv
  refine fL_c31 ?_
  have n1 : inb (zI i + 1) (eXs E).length = true := by rw [zl_1, zI_add]; exact inb_zI (by omega) (by omega) (by omega)
  obtain ⟨a1, e1, b1⟩ := gI_ex ((eXs E).getD (ix (zI i + 1)) 0)
  have n2 : inb (zI i + 2) (eXs E).length = true := by rw [zl_2, zI_add]; exact inb_zI (by omega) (by omega) (by omega)
  obtain ⟨a2, e2, b2⟩ := gI_ex ((eXs E).getD (ix (zI i + 2)) 0)
  simp only [n1, e1, n2, e2, c_t]
  exact qC_missing hv ha b1 b2 fun h1 ha1 f1 => qM_missing hv (hb.fa f1) b1 b2 fun h2 hb2 f2 => ⟨fun _ => next h2 _ ⟨hv.rfd _, ha1.fb f2, hb2⟩, fun z => absurd (lg_same _) z⟩
theorem lc_32 (iv : IV h s) (hL : (eXs E).length ≤ 2048) (i0 : 0 ≤ i) (i4 : i + 4 ≤ (eXs E).length) (next : ∀ h2 s2, IV h2 s2 → WP E mL_law 1310 [some (.ref 1000), some (.ref 0), some (.ref 60), some (.int (zI i))] [] h2 (qI fun v _ => v = 1)) : WP E mL_law 1126 [some (.ref 1000), some (.ref 0), some (.ref 60), some (.int (zI i))] [] h (qI fun v _ => v = 1) := by
  obtain ⟨hv, ha, hb⟩ := iv
  refine fL_c32 ?_
  have n1 : inb (zI i + 1) (eXs E).length = true := by rw [zl_1, zI_add]; exact inb_zI (by omega) (by omega) (by omega)
  obtain ⟨a1, e1, b1⟩ := gI_ex ((eXs E).getD (ix (zI i + 1)) 0)
  have n2 : inb (zI i + 2) (eXs E).length = true := by rw [zl_2, zI_add]; exact inb_zI (by omega) (by omega) (by omega)
  obtain ⟨a2, e2, b2⟩ := gI_ex ((eXs E).getD (ix (zI i + 2)) 0)
  simp only [n1, e1, n2, e2, c_t]
  exact qC_whatIs hv ha b1 b2 fun h1 ha1 f1 => qM_whatIs hv (hb.fa f1) b1 b2 fun h2 hb2 f2 => ⟨fun _ => next h2 _ ⟨hv.rfd _, ha1.fb f2, hb2⟩, fun z => absurd rfl z⟩
theorem lc_33 (iv : IV h s) (hL : (eXs E).length ≤ 2048) (i0 : 0 ≤ i) (i4 : i + 4 ≤ (eXs E).length) (next : ∀ h2 s2, IV h2 s2 → WP E mL_law 1310 [some (.ref 1000), some (.ref 0), some (.ref 60), some (.int (zI i))] [] h2 (qI fun v _ => v = 1)) : WP E mL_law 1159 [some (.ref 1000), some (.ref 0), some (.ref 60), some (.int (zI i))] [] h (qI fun v _ => v = 1) := by
  obtain ⟨hv, ha, hb⟩ := iv
  refine fL_c33 ?_
  have n1 : inb (zI i + 1) (eXs E).length = true := by rw [zl_1, zI_add]; exact inb_zI (by omega) (by omega) (by omega)
  obtain ⟨a1, e1, b1⟩ := gI_ex ((eXs E).getD (ix (zI i + 1)) 0)
  simp only [n1, e1, c_t]
  exact qC_row hv ha b1 fun h1 ha1 f1 => qM_row hv (hb.fa f1) b1 fun h2 hb2 f2 => ⟨fun _ => next h2 _ ⟨sv_row hv, ha1.fb f2, hb2⟩, fun z => absurd rfl z⟩
theorem lc_34 (iv : IV h s) (hL : (eXs E).length ≤ 2048) (i0 : 0 ≤ i) (i4 : i + 4 ≤ (eXs E).length) (next : ∀ h2 s2, IV h2 s2 → WP E mL_law 1310 [some (.ref 1000), some (.ref 0), some (.ref 60), some (.int (zI i))] [] h2 (qI fun v _ => v = 1)) : WP E mL_law 1182 [some (.ref 1000), some (.ref 0), some (.ref 60), some (.int (zI i))] [] h (qI fun v _ => v = 1) := by
  obtain ⟨hv, ha, hb⟩ := iv
  refine fL_c34 ?_
  have n1 : inb (zI i + 1) (eXs E).length = true := by rw [zl_1, zI_add]; exact inb_zI (by omega) (by omega) (by omega)
  obtain ⟨a1, e1, b1⟩ := gI_ex ((eXs E).getD (ix (zI i + 1)) 0)
  simp only [n1, e1, c_t]
  exact qC_judge hv ha b1 fun h1 ha1 f1 => qM_judge hv (hb.fa f1) b1 fun h2 hb2 f2 => ⟨fun _ => next h2 _ ⟨sv_jud hv, ha1.fb f2, hb2⟩, fun z => absurd rfl z⟩
theorem lc_35 (iv : IV h s) (hL : (eXs E).length ≤ 2048) (i0 : 0 ≤ i) (i4 : i + 4 ≤ (eXs E).length) (next : ∀ h2 s2, IV h2 s2 → WP E mL_law 1310 [some (.ref 1000), some (.ref 0), some (.ref 60), some (.int (zI i))] [] h2 (qI fun v _ => v = 1)) : WP E mL_law 1205 [some (.ref 1000), some (.ref 0), some (.ref 60), some (.int (zI i))] [] h (qI fun v _ => v = 1) := by
  obtain ⟨hv, ha, hb⟩ := iv
  refine fL_c35 ?_
  exact qC_clear hv ha  fun h1 ha1 f1 => qM_clear hv (hb.fa f1)  fun h2 hb2 f2 => ⟨fun _ => next h2 _ ⟨sv_cl hv, ha1.fb f2, hb2⟩, fun z => absurd rfl z⟩
theorem lc_36 (iv : IV h s) (hL : (eXs E).length ≤ 2048) (i0 : 0 ≤ i) (i4 : i + 4 ≤ (eXs E).length) (next : ∀ h2 s2, IV h2 s2 → WP E mL_law 1310 [some (.ref 1000), some (.ref 0), some (.ref 60), some (.int (zI i))] [] h2 (qI fun v _ => v = 1)) : WP E mL_law 1218 [some (.ref 1000), some (.ref 0), some (.ref 60), some (.int (zI i))] [] h (qI fun v _ => v = 1) := by
  obtain ⟨hv, ha, hb⟩ := iv
  refine fL_c36 ?_
  have n1 : inb (zI i + 1) (eXs E).length = true := by rw [zl_1, zI_add]; exact inb_zI (by omega) (by omega) (by omega)
  obtain ⟨a1, e1, b1⟩ := gI_ex ((eXs E).getD (ix (zI i + 1)) 0)
  have n2 : inb (zI i + 2) (eXs E).length = true := by rw [zl_2, zI_add]; exact inb_zI (by omega) (by omega) (by omega)
  obtain ⟨a2, e2, b2⟩ := gI_ex ((eXs E).getD (ix (zI i + 2)) 0)
  have n3 : inb (zI i + 3) (eXs E).length = true := by rw [zl_3, zI_add]; exact inb_zI (by omega) (by omega) (by omega)
  obtain ⟨a3, e3, b3⟩ := gI_ex ((eXs E).getD (ix (zI i + 3)) 0)
  simp only [n1, e1, n2, e2, n3, e3, c_t]
  exact qC_lots hv ha b1 b2 b3 fun h1 ha1 f1 => qM_lots hv (hb.fa f1) b1 b2 b3 fun h2 hb2 f2 => ⟨fun _ => next h2 _ ⟨hv.rfd _, ha1.fb f2, hb2⟩, fun z => absurd rfl z⟩
theorem lc_37 (iv : IV h s) (hL : (eXs E).length ≤ 2048) (i0 : 0 ≤ i) (i4 : i + 4 ≤ (eXs E).length) (next : ∀ h2 s2, IV h2 s2 → WP E mL_law 1310 [some (.ref 1000), some (.ref 0), some (.ref 60), some (.int (zI i))] [] h2 (qI fun v _ => v = 1)) : WP E mL_law 1261 [some (.ref 1000), some (.ref 0), some (.ref 60), some (.int (zI i))] [] h (qI fun v _ => v = 1) := by
  obtain ⟨hv, ha, hb⟩ := iv
  refine fL_c37 ?_
  exact qC_image hv ha  fun h1 ha1 f1 => qM_image hv (hb.fa f1)  fun h2 hb2 f2 => ⟨fun _ => next h2 _ ⟨sv_image hv, ha1.fb f2, hb2⟩, fun z => absurd rfl z⟩
theorem lc_38 (iv : IV h s) (hL : (eXs E).length ≤ 2048) (i0 : 0 ≤ i) (i4 : i + 4 ≤ (eXs E).length) (next : ∀ h2 s2, IV h2 s2 → WP E mL_law 1310 [some (.ref 1000), some (.ref 0), some (.ref 60), some (.int (zI i))] [] h2 (qI fun v _ => v = 1)) : WP E mL_law 1274 [some (.ref 1000), some (.ref 0), some (.ref 60), some (.int (zI i))] [] h (qI fun v _ => v = 1) := by
  obtain ⟨hv, ha, hb⟩ := iv
  refine fL_c38 ?_
  exact qC_on hv ha  fun h1 ha1 f1 => qM_on hv (hb.fa f1)  fun h2 hb2 f2 => ⟨fun _ => next h2 _ ⟨sv_on hv, ha1.fb f2, hb2⟩, fun z => absurd rfl z⟩
theorem lc_39 (iv : IV h s) (hL : (eXs E).length ≤ 2048) (i0 : 0 ≤ i) (i4 : i + 4 ≤ (eXs E).length) (next : ∀ h2 s2, IV h2 s2 → WP E mL_law 1310 [some (.ref 1000), some (.ref 0), some (.ref 60), some (.int (zI i))] [] h2 (qI fun v _ => v = 1)) : WP E mL_law 1287 [some (.ref 1000), some (.ref 0), some (.ref 60), some (.int (zI i))] [] h (qI fun v _ => v = 1) := by
  obtain ⟨hv, ha, hb⟩ := iv
  refine fL_c39 ?_
  have n1 : inb (zI i + 1) (eXs E).length = true := by rw [zl_1, zI_add]; exact inb_zI (by omega) (by omega) (by omega)
  obtain ⟨a1, e1, b1⟩ := gI_ex ((eXs E).getD (ix (zI i + 1)) 0)
  simp only [n1, e1, c_t]
  exact qC_count hv ha b1 fun h1 ha1 f1 => qM_count hv (hb.fa f1) b1 fun h2 hb2 f2 => ⟨fun _ => next h2 _ ⟨hv, ha1.fb f2, hb2⟩, fun z => absurd rfl z⟩
theorem law_loop : ∀ (n : Nat) (i : Int) (h : Mem) (s : St), IV h s → (eXs E).length ≤ 2048 → 0 ≤ i → i ≤ (eXs E).length → ((eXs E).length : Int) - i ≤ n → WP E mL_law 18 [some (.ref 1000), some (.ref 0), some (.ref 60), some (.int (zI i))] [] h (qI fun v _ => v = 1)
  | n, i, h, s, iv, hL, i0, i1, hn => by
    refine fL_18 ?_
    have e : nI (eXs E).length = zI (eXs E).length := nI_zI _
    rw [e, zl_4, zI_sub, zI_lt (by omega) (by omega) (by omega) (by omega)]
    refine ⟨fun _ => rfl, fun z => ?_⟩
    have hin : inb (zI i) (eXs E).length = true := inb_zI (by omega) (by omega) (by omega)
    rw [hin, c_t]
    have i4 : i + 4 ≤ (eXs E).length := by omega
    have next : ∀ h2 s2, IV h2 s2 → WP E mL_law 1310 [some (.ref 1000), some (.ref 0), some (.ref 60), some (.int (zI i))] [] h2 (qI fun v _ => v = 1) := fun h2 s2 iv2 => by
      refine fL_brk ?_
      rw [zl_4, zI_add]
      match n, hn with
      | 0, hn => omega
      | n + 1, hn => exact law_loop n (i + 4) h2 s2 iv2 hL (by omega) (by omega) (by omega)
    exact ⟨fun _ => lc_0 iv hL i0 i4 next, fun _ => ⟨fun _ => lc_1 iv hL i0 i4 next, fun _ => ⟨fun _ => lc_2 iv hL i0 i4 next, fun _ => ⟨fun _ => lc_3 iv hL i0 i4 next, fun _ => ⟨fun _ => lc_4 iv hL i0 i4 next, fun _ => ⟨fun _ => lc_5 iv hL i0 i4 next, fun _ => ⟨fun _ => lc_6 iv hL i0 i4 next, fun _ => ⟨fun _ => lc_7 iv hL i0 i4 next, fun _ => ⟨fun _ => lc_8 iv hL i0 i4 next, fun _ => ⟨fun _ => lc_9 iv hL i0 i4 next, fun _ => ⟨fun _ => lc_10 iv hL i0 i4 next, fun _ => ⟨fun _ => lc_11 iv hL i0 i4 next, fun _ => ⟨fun _ => lc_12 iv hL i0 i4 next, fun _ => ⟨fun _ => lc_13 iv hL i0 i4 next, fun _ => ⟨fun _ => lc_14 iv hL i0 i4 next, fun _ => ⟨fun _ => lc_15 iv hL i0 i4 next, fun _ => ⟨fun _ => lc_16 iv hL i0 i4 next, fun _ => ⟨fun _ => lc_17 iv hL i0 i4 next, fun _ => ⟨fun _ => lc_18 iv hL i0 i4 next, fun _ => ⟨fun _ => lc_19 iv hL i0 i4 next, fun _ => ⟨fun _ => lc_20 iv hL i0 i4 next, fun _ => ⟨fun _ => lc_21 iv hL i0 i4 next, fun _ => ⟨fun _ => lc_22 iv hL i0 i4 next, fun _ => ⟨fun _ => lc_23 iv hL i0 i4 next, fun _ => ⟨fun _ => lc_24 iv hL i0 i4 next, fun _ => ⟨fun _ => lc_25 iv hL i0 i4 next, fun _ => ⟨fun _ => lc_26 iv hL i0 i4 next, fun _ => ⟨fun _ => lc_27 iv hL i0 i4 next, fun _ => ⟨fun _ => lc_28 iv hL i0 i4 next, fun _ => ⟨fun _ => lc_29 iv hL i0 i4 next, fun _ => ⟨fun _ => lc_30 iv hL i0 i4 next, fun _ => ⟨fun _ => lc_31 iv hL i0 i4 next, fun _ => ⟨fun _ => lc_32 iv hL i0 i4 next, fun _ => ⟨fun _ => lc_33 iv hL i0 i4 next, fun _ => ⟨fun _ => lc_34 iv hL i0 i4 next, fun _ => ⟨fun _ => lc_35 iv hL i0 i4 next, fun _ => ⟨fun _ => lc_36 iv hL i0 i4 next, fun _ => ⟨fun _ => lc_37 iv hL i0 i4 next, fun _ => ⟨fun _ => lc_38 iv hL i0 i4 next, fun _ => ⟨fun _ => lc_39 iv hL i0 i4 next, fun _ => next h s iv⟩⟩⟩⟩⟩⟩⟩⟩⟩⟩⟩⟩⟩⟩⟩⟩⟩⟩⟩⟩⟩⟩⟩⟩⟩⟩⟩⟩⟩⟩⟩⟩⟩⟩⟩⟩⟩⟩⟩⟩
theorem law_16 {h : Mem} {s : St} (iv : IV h s) (hL : (eXs E).length ≤ 2048) : WP E mL_law 16 [some (.ref 1000), some (.ref 0), some (.ref 60), none] [] h (qI fun v _ => v = 1) :=
  fL_16 (law_loop (eXs E).length 0 h s iv hL (by omega) (by omega) (by omega))
end LC
