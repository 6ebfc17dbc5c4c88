/-! ===== soundness of one step ===== -/
theorem entOK_of {oc : Nat} {b : ByteArray} {pc len x y : Nat} {ins : Instr} {c : Int32} {d : Int64} (h : entOK oc b (pc, ins, len, x, y, c, d) = true) : decode b pc = .ok (ins, len) ∧ (isSw ins = true ∨ len = lenOf ins) ∧ opOK oc (pc, ins, len, x, y, c, d) = true := by
  unfold entOK at h
  simp only [Bool.and_eq_true, Bool.or_eq_true, decide_eq_true_eq] at h
  obtain ⟨⟨h1, h2⟩, h3⟩ := h
  refine ⟨h1, ?_, h3⟩
  rcases h2 with h2 | h2
  · exact Or.inl h2
  · exact Or.inr (Nat.eq_of_beq_eq_true h2)
theorem shN_of {p code : Nat} {f : Nat → Prop} (h : shN p code f) : ∃ n rs, nth sG p = some (code, n, rs) ∧ f n := by
  unfold shN at h
  cases hn : nth sG p with
  | none => rw [hn] at h; exact h.elim
  | some s =>
    rw [hn] at h
    obtain ⟨h1, h2⟩ := cnd_iff.mp h
    have e := Nat.eq_of_beq_eq_true h1
    obtain ⟨s1, s2, s3⟩ := s
    simp only at e h2
    subst e
    exact ⟨_, _, rfl, h2⟩
theorem shF_of {p ci k : Nat} {f : Option Nat → Prop} (h : shF p ci k f) : ∃ n rs o, nth sG p = some (ci + 2, n, rs) ∧ nth rs k = some o ∧ f o := by
  unfold shF at h
  cases hn : nth sG p with
  | none => rw [hn] at h; exact h.elim
  | some s =>
    rw [hn] at h
    obtain ⟨h1, h2⟩ := cnd_iff.mp h
    have e := Nat.eq_of_beq_eq_true h1
    obtain ⟨s1, s2, s3⟩ := s
    simp only at e h2
    subst e
    cases hk : nth s3 k with
    | none => rw [hk] at h2; exact h2.elim
    | some o =>
      rw [hk] at h2
      exact ⟨_, _, _, rfl, hk, h2⟩
theorem sG_n : ∀ x ∈ sG, x.2.1 < 1000 := by decide +kernel
theorem sG_nn {p : Nat} {x : Shp} (h : nth sG p = some x) : x.2.1 < 2 ^ 31 := by
  rw [nth_get] at h
  have := sG_n x (List.mem_of_getElem? h)
  omega
theorem toT_of {pc t : Nat} {off : Int} (h : (pc : Int) + off = (t : Int)) : (pc : Int) + off = (t : Int) := h
theorem ix_clamp {i : Int32} {n : Nat} (hn : n < 2 ^ 31) (h : ix i ≤ n) : ¬ i < 0 ∧ i.toNatClampNeg = ix i := by
  have hb : inb i (n + 1) = true := Nat.ble_eq_true_of_le (by show ix i + 1 ≤ n + 1; omega)
  by_cases hh : n + 1 < 2 ^ 31
  · obtain ⟨h1, h2⟩ := inb_in hh hb
    exact ⟨fun z => h1 (Or.inl z), h2⟩
  · have h2 : i.toInt = (ix i : Int) := by
      unfold ix at h ⊢
      show i.toBitVec.toInt = _
      rw [BitVec.toInt_eq_toNat_cond]
      rw [if_pos (by omega)]
    refine ⟨fun z => ?_, ?_⟩
    · have := Int32.lt_iff_toInt_lt.mp z
      rw [h2] at this
      have h0 : (0 : Int32).toInt = 0 := by decide
      omega
    · show i.toInt.toNat = _
      rw [h2]
      rfl
theorem vp_nar_int' (x : Int32) : narrow .int (.int x) = .int x := rfl
set_option maxHeartbeats 4000000 in
theorem step_ok {E : XE} {a pc len x y : Nat} {ins : Instr} {c0 : Int32} {d0 : Int64} (hq : entOK (mCi a) (mB a) (pc, ins, len, x, y, c0, d0) = true)
    {K : Nat → List (Option Value) → List Value → Mem → Prop} {Q : Option Value → Mem → Prop} (hK : ∀ pc' ls' st' h', K pc' ls' st' h' → WP E a pc' ls' st' h' Q)
    {ls : List (Option Value)} {st : List Value} {h : Mem} (hs : stepP E a K Q pc ins x y c0 d0 ls st h) : WP E a pc ls st h Q := by
  intro p e s m args below meth c R Z k n C hend H locs lsm hL hW hS
  obtain ⟨hdec, hlen, hop⟩ := entOK_of hq
  have go : ∀ {pc' : Nat} {ls' : List (Option Value)} {st' : List Value} {h' : Mem} {H' : Heap} {locs' : List Loc} {lsm' : Array Slot}, K pc' ls' st' h' → LOK E (mL a) lsm' ls' → WD E h' s H' → va_S (AA E s.heap.size) s.heap H' locs' → W p E.1 e R s m args below meth c H' locs' k n Z (F0 m pc' lsm' (st'.map (cv E))) :=
    fun hk h1 h2 h3 => hK _ _ _ _ hk p e s m args below meth c R Z k n C hend _ _ _ h1 h2 h3
  have C0 := C
  obtain ⟨hx, hb, hml, hown, hts, hlk, hfr, hlo, hk1, hn1, hEV, hSK, hsc⟩ := C
  have hDD : ∀ u : Mem, va_D (AA E s.heap.size) (cWf E u 0 sG) := fun u => hEV.D u _
  cases ins
  case aload_n i =>
    obtain rfl : len = 1 := hlen.resolve_left (fun z => by cases z)
    obtain ⟨v, h1, h2⟩ := ldR_of hs
    exact lv_aload_n hx hb hdec rfl (LOK_at hL h1) (go h2 hL hW hS)
  case aload i =>
    obtain rfl : len = 2 := hlen.resolve_left (fun z => by cases z)
    obtain ⟨v, h1, h2⟩ := ldR_of hs
    exact lv_aload hx hb hdec (LOK_at hL h1) (go h2 hL hW hS)
  case iload_n i =>
    obtain rfl : len = 1 := hlen.resolve_left (fun z => by cases z)
    obtain ⟨v, h1, h2⟩ := ldI_of hs
    exact lv_iload_n hx hb hdec rfl (LOK_at hL h1) (go h2 hL hW hS)
  case iload i =>
    obtain rfl : len = 2 := hlen.resolve_left (fun z => by cases z)
    obtain ⟨v, h1, h2⟩ := ldI_of hs
    exact lv_iload hx hb hdec (LOK_at hL h1) (go h2 hL hW hS)
  case lload_n i =>
    obtain rfl : len = 1 := hlen.resolve_left (fun z => by cases z)
    obtain ⟨v, h1, h2⟩ := ldL_of hs
    exact lv_lload_n hx hb hdec rfl (LOK_at hL h1) (go h2 hL hW hS)
  case lload i =>
    obtain rfl : len = 2 := hlen.resolve_left (fun z => by cases z)
    obtain ⟨v, h1, h2⟩ := ldL_of hs
    exact lv_lload hx hb hdec (LOK_at hL h1) (go h2 hL hW hS)
  case astore_n i =>
    obtain rfl : len = 1 := hlen.resolve_left (fun z => by cases z)
    obtain ⟨v, t, rfl, h1⟩ := pR_of hs
    obtain ⟨g1, g2⟩ := cnd_iff.mp h1
    exact lv_astore_n hx hb hdec rfl hL (Nat.le_of_ble_eq_true g1) rfl (fun ls' hl' => go g2 (LOK_set1 hl') hW hS)
  case astore i =>
    obtain rfl : len = 2 := hlen.resolve_left (fun z => by cases z)
    obtain ⟨v, t, rfl, h1⟩ := pR_of hs
    obtain ⟨g1, g2⟩ := cnd_iff.mp h1
    exact lv_astore hx hb hdec hL (Nat.le_of_ble_eq_true g1) rfl (fun ls' hl' => go g2 (LOK_set1 hl') hW hS)
  case istore_n i =>
    obtain rfl : len = 1 := hlen.resolve_left (fun z => by cases z)
    obtain ⟨v, t, rfl, h1⟩ := pI_of hs
    obtain ⟨g1, g2⟩ := cnd_iff.mp h1
    exact lv_istore_n hx hb hdec rfl hL (Nat.le_of_ble_eq_true g1) rfl (fun ls' hl' => go g2 (LOK_set1 hl') hW hS)
  case istore i =>
    obtain rfl : len = 2 := hlen.resolve_left (fun z => by cases z)
    obtain ⟨v, t, rfl, h1⟩ := pI_of hs
    obtain ⟨g1, g2⟩ := cnd_iff.mp h1
    exact lv_istore hx hb hdec hL (Nat.le_of_ble_eq_true g1) rfl (fun ls' hl' => go g2 (LOK_set1 hl') hW hS)
  case lstore_n i =>
    obtain rfl : len = 1 := hlen.resolve_left (fun z => by cases z)
    obtain ⟨v, t, rfl, h1⟩ := pL_of hs
    obtain ⟨g1, g2⟩ := cnd_iff.mp h1
    exact lv_lstore_n hx hb hdec rfl hL (Nat.le_of_ble_eq_true g1) rfl (fun ls' hl' => go g2 (LOK_set2 hl') hW hS)
  case lstore i =>
    obtain rfl : len = 2 := hlen.resolve_left (fun z => by cases z)
    obtain ⟨v, t, rfl, h1⟩ := pL_of hs
    obtain ⟨g1, g2⟩ := cnd_iff.mp h1
    exact lv_lstore hx hb hdec hL (Nat.le_of_ble_eq_true g1) rfl (fun ls' hl' => go g2 (LOK_set2 hl') hW hS)
  case iconst i =>
    obtain rfl : len = 1 := hlen.resolve_left (fun z => by cases z)
    exact lv_iconst hx hb hdec (of_decide_eq_true hop) (go hs hL hW hS)
  case bipush i =>
    obtain rfl : len = 2 := hlen.resolve_left (fun z => by cases z)
    exact lv_bipush hx hb hdec (of_decide_eq_true hop) (go hs hL hW hS)
  case sipush i =>
    obtain rfl : len = 3 := hlen.resolve_left (fun z => by cases z)
    exact lv_sipush hx hb hdec (of_decide_eq_true hop) (go hs hL hW hS)
  case lconst i =>
    obtain rfl : len = 1 := hlen.resolve_left (fun z => by cases z)
    exact lv_lconst hx hb hdec (of_decide_eq_true hop) (go hs hL hW hS)
  case ldc i =>
    obtain rfl : len = 2 := hlen.resolve_left (fun z => by cases z)
    unfold opOK at hop
    simp only at hop
    have hs' : (bif Nat.beq y 1 then K (pc + 2) ls (.ref (1001 + x) :: st) h else K (pc + 2) ls (.int c0 :: st) h) := hs
    cases hy : Nat.beq y 1 with
    | true =>
      rw [hy] at hs' hop
      simp only [cond_true, Bool.and_eq_true] at hs' hop
      obtain ⟨⟨o1, o2⟩, o3⟩ := hop
      have e1 := Nat.eq_of_beq_eq_true o1
      have e2 := Nat.eq_of_beq_eq_true o2
      have e3 := Nat.le_of_ble_eq_true o3
      subst e2
      exact va_ldcS hx hb (own := RX5) (by rw [e1] at hown; exact hown) (hSK.2.1 x e3) hdec (go hs' hL hW hS)
    | false =>
      rw [hy] at hs' hop
      simp only [cond_false] at hs' hop
      obtain ⟨pos, hpos⟩ := inK_of hop
      exact lv_ldc hx hb hown (hts _ (wsG_of hpos rfl)) hdec (go hs' hL hW hS)
  case ldc_w i =>
    obtain rfl : len = 3 := hlen.resolve_left (fun z => by cases z)
    obtain ⟨pos, hpos⟩ := inK_of hop
    exact lv_ldcw hx hb hown (hts _ (wsG_of hpos rfl)) hdec (go hs hL hW hS)
  case ldc2_w i =>
    obtain rfl : len = 3 := hlen.resolve_left (fun z => by cases z)
    obtain ⟨pos, hpos⟩ := inL_of hop
    exact lv_ldc2 hx hb hown (hts _ (wsG_of hpos rfl)) hdec (go hs hL hW hS)
  case iadd =>
    obtain rfl : len = 1 := hlen.resolve_left (fun z => by cases z)
    obtain ⟨v1, t1, rfl, h1⟩ := pI_of hs
    obtain ⟨v2, t, rfl, h2⟩ := pI_of h1
    exact lv_iadd hx hb hdec (go h2 hL hW hS)
  case isub =>
    obtain rfl : len = 1 := hlen.resolve_left (fun z => by cases z)
    obtain ⟨v1, t1, rfl, h1⟩ := pI_of hs
    obtain ⟨v2, t, rfl, h2⟩ := pI_of h1
    exact lv_isub hx hb hdec (go h2 hL hW hS)
  case imul =>
    obtain rfl : len = 1 := hlen.resolve_left (fun z => by cases z)
    obtain ⟨v1, t1, rfl, h1⟩ := pI_of hs
    obtain ⟨v2, t, rfl, h2⟩ := pI_of h1
    exact lv_imul hx hb hdec (go h2 hL hW hS)
  case ishl =>
    obtain rfl : len = 1 := hlen.resolve_left (fun z => by cases z)
    obtain ⟨v1, t1, rfl, h1⟩ := pI_of hs
    obtain ⟨v2, t, rfl, h2⟩ := pI_of h1
    exact lv_ishl hx hb hdec (go h2 hL hW hS)
  case ishr =>
    obtain rfl : len = 1 := hlen.resolve_left (fun z => by cases z)
    obtain ⟨v1, t1, rfl, h1⟩ := pI_of hs
    obtain ⟨v2, t, rfl, h2⟩ := pI_of h1
    exact lv_ishr hx hb hdec (go h2 hL hW hS)
  case iand =>
    obtain rfl : len = 1 := hlen.resolve_left (fun z => by cases z)
    obtain ⟨v1, t1, rfl, h1⟩ := pI_of hs
    obtain ⟨v2, t, rfl, h2⟩ := pI_of h1
    exact lv_iand hx hb hdec (go h2 hL hW hS)
  case ior =>
    obtain rfl : len = 1 := hlen.resolve_left (fun z => by cases z)
    obtain ⟨v1, t1, rfl, h1⟩ := pI_of hs
    obtain ⟨v2, t, rfl, h2⟩ := pI_of h1
    exact lv_ior hx hb hdec (go h2 hL hW hS)
  case ixor =>
    obtain rfl : len = 1 := hlen.resolve_left (fun z => by cases z)
    obtain ⟨v1, t1, rfl, h1⟩ := pI_of hs
    obtain ⟨v2, t, rfl, h2⟩ := pI_of h1
    exact lv_ixor hx hb hdec (go h2 hL hW hS)
  case iushr =>
    obtain rfl : len = 1 := hlen.resolve_left (fun z => by cases z)
    obtain ⟨v1, t1, rfl, h1⟩ := pI_of hs
    obtain ⟨v2, t, rfl, h2⟩ := pI_of h1
    exact lv_iushr hx hb hdec rfl (go h2 hL hW hS)
  case idiv =>
    obtain rfl : len = 1 := hlen.resolve_left (fun z => by cases z)
    obtain ⟨v1, t1, rfl, h1⟩ := pI_of hs
    obtain ⟨v2, t, rfl, h2⟩ := pI_of h1
    obtain ⟨g1, g2⟩ := cnd_iff.mp h2
    exact lv_idiv hx hb hdec (nz_ne g1) (go g2 hL hW hS)
  case irem =>
    obtain rfl : len = 1 := hlen.resolve_left (fun z => by cases z)
    obtain ⟨v1, t1, rfl, h1⟩ := pI_of hs
    obtain ⟨v2, t, rfl, h2⟩ := pI_of h1
    obtain ⟨g1, g2⟩ := cnd_iff.mp h2
    exact lv_irem hx hb hdec (nz_ne g1) (go g2 hL hW hS)
  case ineg =>
    obtain rfl : len = 1 := hlen.resolve_left (fun z => by cases z)
    obtain ⟨v1, t1, rfl, h1⟩ := pI_of hs
    exact lv_ineg hx hb hdec (go h1 hL hW hS)
  case ladd =>
    obtain rfl : len = 1 := hlen.resolve_left (fun z => by cases z)
    obtain ⟨v1, t1, rfl, h1⟩ := pL_of hs
    obtain ⟨v2, t, rfl, h2⟩ := pL_of h1
    exact lv_ladd hx hb hdec (go h2 hL hW hS)
  case lsub =>
    obtain rfl : len = 1 := hlen.resolve_left (fun z => by cases z)
    obtain ⟨v1, t1, rfl, h1⟩ := pL_of hs
    obtain ⟨v2, t, rfl, h2⟩ := pL_of h1
    exact lv_lsub hx hb hdec (go h2 hL hW hS)
  case lmul =>
    obtain rfl : len = 1 := hlen.resolve_left (fun z => by cases z)
    obtain ⟨v1, t1, rfl, h1⟩ := pL_of hs
    obtain ⟨v2, t, rfl, h2⟩ := pL_of h1
    exact lv_lmul hx hb hdec (go h2 hL hW hS)
  case ldiv =>
    obtain rfl : len = 1 := hlen.resolve_left (fun z => by cases z)
    obtain ⟨v1, t1, rfl, h1⟩ := pL_of hs
    obtain ⟨v2, t, rfl, h2⟩ := pL_of h1
    obtain ⟨g1, g2⟩ := cnd_iff.mp h2
    exact lv_ldiv hx hb hdec (nzL_ne g1) (go g2 hL hW hS)
  case lrem =>
    obtain rfl : len = 1 := hlen.resolve_left (fun z => by cases z)
    obtain ⟨v1, t1, rfl, h1⟩ := pL_of hs
    obtain ⟨v2, t, rfl, h2⟩ := pL_of h1
    obtain ⟨g1, g2⟩ := cnd_iff.mp h2
    exact lv_lrem hx hb hdec (nzL_ne g1) (go g2 hL hW hS)
  case lcmp =>
    obtain rfl : len = 1 := hlen.resolve_left (fun z => by cases z)
    obtain ⟨v1, t1, rfl, h1⟩ := pL_of hs
    obtain ⟨v2, t, rfl, h2⟩ := pL_of h1
    exact W.lcmp hx hb hdec (go h2 hL hW hS)
  case i2l =>
    obtain rfl : len = 1 := hlen.resolve_left (fun z => by cases z)
    obtain ⟨v1, t1, rfl, h1⟩ := pI_of hs
    exact lv_i2l hx hb hdec rfl (go h1 hL hW hS)
  case l2i =>
    obtain rfl : len = 1 := hlen.resolve_left (fun z => by cases z)
    obtain ⟨v1, t1, rfl, h1⟩ := pL_of hs
    exact lv_l2i hx hb hdec rfl (go h1 hL hW hS)
  case iinc i z =>
    obtain rfl : len = 3 := hlen.resolve_left (fun z => by cases z)
    obtain ⟨v, h1, h2⟩ := ldI_of hs
    obtain ⟨g1, g2⟩ := cnd_iff.mp h2
    have hm : (i, Value.int v) ∈ lvO E 0 ls := (lvO_mem E ls 0 _).mpr ⟨i, .int v, h1, by rw [Nat.zero_add]; rfl⟩
    obtain ⟨kk, hkk⟩ := List.getElem?_of_mem hm
    exact lv_iinc hx hb hdec hL hkk (by rw [of_decide_eq_true hop]) (Nat.le_of_ble_eq_true g1) rfl (fun ls' hl' => go g2 (LOK_set1 hl') hW hS)
  case goto off =>
    obtain rfl : len = 3 := hlen.resolve_left (fun z => by cases z)
    exact lv_goto hx hb hdec (of_decide_eq_true hop) (go hs hL hW hS)
  case ifCond q off =>
    obtain rfl : len = 3 := hlen.resolve_left (fun z => by cases z)
    obtain ⟨v, t, rfl, h1⟩ := pI_of hs
    have ht := of_decide_eq_true hop
    cases q with
    | eq => exact lv_if_eq hx hb hdec ht (fun z => go (h1.1 z) hL hW hS) (fun z => go (h1.2 z) hL hW hS)
    | ne => exact lv_if_ne hx hb hdec ht (fun z => go (h1.1 z) hL hW hS) (fun z => go (h1.2 z) hL hW hS)
    | lt => exact lv_if_lt hx hb hdec ht (fun z => go (h1.1 z) hL hW hS) (fun z => go (h1.2 z) hL hW hS)
    | ge => exact lv_if_ge hx hb hdec ht (fun z => go (h1.1 z) hL hW hS) (fun z => go (h1.2 z) hL hW hS)
    | gt => exact lv_if_gt hx hb hdec ht (fun z => go (h1.1 z) hL hW hS) (fun z => go (h1.2 z) hL hW hS)
    | le => exact lv_if_le hx hb hdec ht (fun z => go (h1.1 z) hL hW hS) (fun z => go (h1.2 z) hL hW hS)
  case if_icmp q off =>
    obtain rfl : len = 3 := hlen.resolve_left (fun z => by cases z)
    obtain ⟨v1, t1, rfl, h1⟩ := pI_of hs
    obtain ⟨v2, t, rfl, h2⟩ := pI_of h1
    have ht := of_decide_eq_true hop
    cases q with
    | eq => exact lv_icmp_eq hx hb hdec ht (fun z => go (h2.1 z) hL hW hS) (fun z => go (h2.2 z) hL hW hS)
    | ne => exact lv_icmp_ne hx hb hdec ht (fun z => go (h2.1 z) hL hW hS) (fun z => go (h2.2 z) hL hW hS)
    | lt => exact lv_icmp_lt hx hb hdec ht (fun z => go (h2.1 z) hL hW hS) (fun z => go (h2.2 z) hL hW hS)
    | ge => exact lv_icmp_ge hx hb hdec ht (fun z => go (h2.1 z) hL hW hS) (fun z => go (h2.2 z) hL hW hS)
    | gt => exact lv_icmp_gt hx hb hdec ht (fun z => go (h2.1 z) hL hW hS) (fun z => go (h2.2 z) hL hW hS)
    | le => exact lv_icmp_le hx hb hdec ht (fun z => go (h2.1 z) hL hW hS) (fun z => go (h2.2 z) hL hW hS)
  case getfield i =>
    obtain rfl : len = 3 := hlen.resolve_left (fun z => by cases z)
    obtain ⟨q, t, rfl, h1⟩ := pR_of hs
    obtain ⟨nn, rs, oo, s1, s2, s3⟩ := shF_of h1
    obtain ⟨C1, T, N, pos, f1, f2, f3⟩ := inF_of hop
    obtain ⟨c1, c2, c3⟩ := clF _ (List.mem_of_getElem? f1)
    have hv : (cF E (h q) 0 rs)[y]? = some (cFv E (h q) y oo) := by rw [cF_get, s2, Nat.zero_add]; rfl
    refine va_get (a := adr E q) (T := T) (C := C1) (N := N) (ref := (T y).1) (own := own_ (mCi a)) hx hb hts c1 hown hW.2 hW.1 q (WD_get s1) f1 y f2 (hts _ (wsG_of f3 rfl)) (fun _ z => z) hv hdec ?_
    cases oo with
    | none => exact go s3 hL hW hS
    | some r => exact go s3 hL hW hS
  case putfield i =>
    obtain rfl : len = 3 := hlen.resolve_left (fun z => by cases z)
    obtain ⟨v, t1, rfl, h1⟩ := pI_of hs
    obtain ⟨q, t, rfl, h2⟩ := pR_of h1
    obtain ⟨nn, rs, oo, s1, s2, s3⟩ := shF_of h2
    unfold opOK at hop
    simp only [Bool.and_eq_true, Bool.not_eq_true', decide_eq_true_eq] at hop
    obtain ⟨⟨hop1, hop2⟩, hop3⟩ := hop
    obtain ⟨C1, T, N, pos, f1, f2, f3⟩ := inF_of hop1
    obtain ⟨c1, ⟨ty0, c2⟩, c3⟩ := clF _ (List.mem_of_getElem? f1)
    have hfT : fT x y = T y := by unfold fT; rw [f1]
    rw [hfT] at hop2 hop3
    cases oo with
    | some r => exact s3.elim
    | none =>
      obtain ⟨g1, g2⟩ := cnd_iff.mp s3
      have hyl : y < (cF E (h q) 0 rs).length := by
        rw [cF_len]
        rw [nth_get] at s2
        exact (List.getElem?_eq_some_iff.mp s2).1
      have hset : (cWf E h 0 sG).set q (adr E q, .inr (x, (cF E (h q) 0 rs).set y (.int v))) = cWf E (upd2 h q y v) 0 sG := by
        rw [cF_set E (h q) rs y v s2, ← cWf_set E h (upd2 h q y v) sG q _ s1 upd2_ne, upd2_eq]
        rfl
      have hnf : ∃ ty, parseFieldDescriptor (T y).2.2.1 = some ty ∧ narrow ty (.int v) = .int v ∧ fits ty (.int v) = true := by
        by_cases hc0 : c0 = 0
        · rw [if_pos hc0] at hop3
          exact ⟨_, hop3, rfl, rfl⟩
        · rw [if_neg hc0] at hop3
          simp only [hc0, decide_false, Bool.false_or] at g1
          obtain ⟨-, z2, z3⟩ := nb_nar g1
          exact ⟨_, hop3, z2, z3⟩
      obtain ⟨ty, n1, n2, n3⟩ := hnf
      refine va_put (a := adr E q) (T := T) (C := C1) (N := N) (ref := (T y).1) (own := own_ (mCi a)) hx hb hts c1 ty0 c2 c3 hown hW.2 hW.1 (hDD h) hS q (WD_get s1) f1 y f2 (hts _ (wsG_of f3 rfl)) (fun _ z => z) hop2 n1 n2 n3 hyl hdec (fun H1 locs1 hP1 hD1 hS1 => ?_)
      have hP2 : va_P (eD E) vwCl ((cWf E h 0 sG).set q (adr E q, .inr (x, (cF E (h q) 0 rs).set y (.int v)))) H1 := hP1
      rw [hset] at hP2
      exact go g2 hL ⟨hP2, hW.2⟩ hS1
  case iaload =>
    obtain rfl : len = 1 := hlen.resolve_left (fun z => by cases z)
    obtain ⟨i, t1, rfl, h1⟩ := pI_of hs
    obtain ⟨q, t, rfl, h2⟩ := pR_of h1
    cases hq1 : Nat.beq q 1000 with
    | true =>
      rw [hq1] at h2
      simp only [cond_true] at h2
      have e := Nat.eq_of_beq_eq_true hq1
      subst e
      obtain ⟨g1, g2⟩ := cnd_iff.mp h2
      rw [Bool.and_eq_true] at g1
      obtain ⟨x1, x2, x3⟩ := hsc (Nat.eq_of_beq_eq_true g1.1)
      obtain ⟨z1, z2⟩ := inb_in x3 g1.2
      refine va_sld (b := adr E 1000) (A := AA E s.heap.size) hx hb x1 (Nat.lt_of_lt_of_le x2 hEV.2.2) (fun z => absurd x2 (Nat.not_lt.mpr (AA_lo hEV z))) hS z1 hdec ?_
      rw [z2]
      exact go g2 hL hW hS
    | false =>
      rw [hq1] at h2
      simp only [cond_false] at h2
      obtain ⟨nn, rs, s1, s2⟩ := shN_of h2
      obtain ⟨g1, g2⟩ := cnd_iff.mp s2
      obtain ⟨z1, z2⟩ := inb_in (sG_nn s1) g1
      refine va_iald (a := adr E q) (cA := eI E) (f := h q) hx hb hW.2 hW.1 q 0 (WD_get s1) rfl z1 hdec ?_
      rw [z2]
      exact go g2 hL hW hS
  case iastore =>
    obtain rfl : len = 1 := hlen.resolve_left (fun z => by cases z)
    obtain ⟨v, t2, rfl, h1⟩ := pI_of hs
    obtain ⟨i, t1, rfl, h1⟩ := pI_of h1
    obtain ⟨q, t, rfl, h2⟩ := pR_of h1
    obtain ⟨nn, rs, s1, s2⟩ := shN_of h2
    obtain ⟨g1, g2⟩ := cnd_iff.mp s2
    obtain ⟨z1, z2⟩ := inb_in (sG_nn s1) g1
    have hset : (cWf E h 0 sG).set q (adr E q, .inl (eI E, nn, .inl (upd (h q) (ix i) v))) = cWf E (upd2 h q (ix i) v) 0 sG := by
      rw [← cWf_set E h (upd2 h q (ix i) v) sG q _ s1 upd2_ne, upd2_eq]
      rfl
    refine va_iast (a := adr E q) (cA := eI E) (f := h q) hx hb hW.2 hW.1 (hDD h) hS q 0 (WD_get s1) rfl z1 hdec (fun H1 locs1 hP1 hD1 hS1 => ?_)
    have hP2 : va_P (eD E) vwCl ((cWf E h 0 sG).set q (adr E q, .inl (eI E, nn, .inl (upd (h q) (ix i) v)))) H1 := by
      rw [← z2]
      exact hP1
    rw [hset] at hP2
    exact go g2 hL ⟨hP2, hW.2⟩ hS1
  case bastore =>
    obtain rfl : len = 1 := hlen.resolve_left (fun z => by cases z)
    obtain ⟨v, t2, rfl, h1⟩ := pI_of hs
    obtain ⟨i, t1, rfl, h1⟩ := pI_of h1
    obtain ⟨q, t, rfl, h2⟩ := pR_of h1
    obtain ⟨nn, rs, s1, s2⟩ := shN_of h2
    obtain ⟨g1, g2⟩ := cnd_iff.mp s2
    rw [Bool.and_eq_true] at g1
    obtain ⟨z1, z2⟩ := inb_in (sG_nn s1) g1.1
    have hset : (cWf E h 0 sG).set q (adr E q, .inl (eB E, nn, .inl (upd (h q) (ix i) v))) = cWf E (upd2 h q (ix i) v) 0 sG := by
      rw [← cWf_set E h (upd2 h q (ix i) v) sG q _ s1 upd2_ne, upd2_eq]
      rfl
    refine va_zast (a := adr E q) (cA := eB E) (f := h q) hx hb hW.2 hW.1 (hDD h) hS q 1 (WD_get s1) rfl z1 hdec (fun H1 locs1 hP1 hD1 hS1 => ?_)
    have hP2 : va_P (eD E) vwCl ((cWf E h 0 sG).set q (adr E q, .inl (eB E, nn, .inl (upd (h q) (ix i) v)))) H1 := by
      rw [← z2]
      rw [(nb_nar g1.2).1] at hP1
      exact hP1
    rw [hset] at hP2
    exact go g2 hL ⟨hP2, hW.2⟩ hS1
  case baload =>
    obtain rfl : len = 1 := hlen.resolve_left (fun z => by cases z)
    obtain ⟨i, t1, rfl, h1⟩ := pI_of hs
    obtain ⟨q, t, rfl, h2⟩ := pR_of h1
    obtain ⟨nn, rs, s1, s2⟩ := shN_of h2
    obtain ⟨g1, g2⟩ := cnd_iff.mp s2
    obtain ⟨z1, z2⟩ := inb_in (sG_nn s1) g1
    refine va_zald (a := adr E q) (cA := eB E) (f := h q) hx hb hW.2 hW.1 q 1 (WD_get s1) rfl z1 hdec ?_
    rw [z2]
    exact go g2 hL hW hS
  case arraylength =>
    obtain rfl : len = 1 := hlen.resolve_left (fun z => by cases z)
    obtain ⟨q, t, rfl, h2⟩ := pR_of hs
    cases hq1 : Nat.beq q 1000 with
    | true =>
      rw [hq1] at h2
      simp only [cond_true] at h2
      have e := Nat.eq_of_beq_eq_true hq1
      subst e
      obtain ⟨g1, g2⟩ := cnd_iff.mp h2
      obtain ⟨x1, x2, x3⟩ := hsc (Nat.eq_of_beq_eq_true g1)
      exact va_slen (b := adr E 1000) (A := AA E s.heap.size) hx hb x1 (Nat.lt_of_lt_of_le x2 hEV.2.2) (fun z => absurd x2 (Nat.not_lt.mpr (AA_lo hEV z))) hS hdec (go g2 hL hW hS)
    | false =>
      rw [hq1] at h2
      simp only [cond_false] at h2
      obtain ⟨nn, rs, s1, s2⟩ := shN_of h2
      exact va_alen (a := adr E q) (cA := eI E) (x := (nn, .inl (h q))) hx hb hW.2 hW.1 q 0 (WD_get s1) rfl rfl hdec (go s2 hL hW hS)
  case dup =>
    obtain rfl : len = 1 := hlen.resolve_left (fun z => by cases z)
    have hs2 : pV st (fun v t => K (pc + 1) ls (v :: v :: t) h) := hs
    obtain ⟨v, t, rfl, hc, h1⟩ := pV_of hs2
    exact lv_dup hx hb hdec (by rw [cv_cat]; exact hc) (go h1 hL hW hS)
  case dup2 =>
    obtain rfl : len = 1 := hlen.resolve_left (fun z => by cases z)
    obtain ⟨i, t1, rfl, h1⟩ := pI_of hs
    obtain ⟨q, t, rfl, h2⟩ := pR_of h1
    exact lv_dup2_11 hx hb hdec rfl rfl (go h2 hL hW hS)
  case invokevirtual i =>
    obtain rfl : len = 3 := hlen.resolve_left (fun z => by cases z)
    have hs2 : (match popN (mNa x) st [] with
        | some (av, rest) => cnd (recvOK x av && callOK a x rest) (callK E x av h (fun r u => K (pc + 3) ls (r ++ rest) u) y)
        | none => False) := hs
    unfold opOK at hop
    simp only [Bool.and_eq_true] at hop
    obtain ⟨⟨⟨⟨o1, o2⟩, o3⟩, o4⟩, o5⟩ := hop
    have o2 := Nat.le_of_ble_eq_true o2
    have o3 := Nat.le_of_ble_eq_true o3
    have o4 := Nat.eq_of_beq_eq_true o4
    have o5 := Nat.le_of_ble_eq_true o5
    obtain ⟨pos, hpos⟩ := inC_of o1
    have hcy : cY x = mYy x := by
      unfold cY mYy
      have t1 : Nat.beq x 998 = false := by
        cases hb2 : Nat.beq x 998 with
        | false => rfl
        | true => have := Nat.eq_of_beq_eq_true hb2; omega
      have t2 : Nat.beq x 997 = false := by
        cases hb2 : Nat.beq x 997 with
        | false => rfl
        | true => have := Nat.eq_of_beq_eq_true hb2; omega
      rw [t1, t2]
      rfl
    rw [hcy] at hpos
    cases hpp : popN (mNa x) st [] with
    | none => rw [hpp] at hs2; exact hs2.elim
    | some w =>
      obtain ⟨av, rest⟩ := w
      rw [hpp] at hs2
      obtain ⟨xs, e1, e2, e3⟩ := popN_of _ _ _ _ _ hpp
      rw [List.append_nil] at e1
      subst e1
      subst e2
      obtain ⟨g1, g2⟩ := cnd_iff.mp hs2
      rw [Bool.and_eq_true] at g1
      match y, g2 with
      | 0, g2 => exact my_virt C0 hL.1 hW hS o3 o5 o4 hpos hdec e3 g1.1 g1.2 g2 (fun r u H1 locs1 q1 q2 q3 => by obtain ⟨rfl, q1⟩ := qV_of q1; exact go q1 hL q2 q3)
      | 1, g2 => exact my_virt C0 hL.1 hW hS o3 o5 o4 hpos hdec e3 g1.1 g1.2 g2 (fun r u H1 locs1 q1 q2 q3 => by obtain ⟨v, rfl, q1⟩ := qI_of q1; exact go q1 hL q2 q3)
      | 2, g2 => exact my_virt C0 hL.1 hW hS o3 o5 o4 hpos hdec e3 g1.1 g1.2 g2 (fun r u H1 locs1 q1 q2 q3 => by obtain ⟨v, rfl, q1⟩ := qL_of q1; exact go q1 hL q2 q3)
      | _ + 3, g2 => exact my_virt C0 hL.1 hW hS o3 o5 o4 hpos hdec e3 g1.1 g1.2 g2 (fun r u H1 locs1 q1 q2 q3 => by obtain ⟨v, rfl, q1⟩ := qR_of q1; exact go q1 hL q2 q3)
  case invokestatic i =>
    obtain rfl : len = 3 := hlen.resolve_left (fun z => by cases z)
    have hs2 : (bif Nat.beq x 999 then pI st fun n t => pI t fun dp t => pR t fun q1 t => pI t fun sp t => pR t fun q0 t => shN q0 0 fun n0 => shN q1 0 fun n1 => cnd (Nat.ble (ix sp + ix n) n0 && Nat.ble (ix dp + ix n) n1 && Nat.ble (csum t) 8 && Nat.ble 2 (mHt a)) (K (pc + 3) ls t (updR h q1 (va_cpy (h q0) (h q1) (ix sp) (ix dp) (ix n))))
        else bif Nat.beq x 998 then pI st fun v1 t => pI t fun v2 t => cnd (Nat.ble (csum t) 8 && Nat.ble 2 (mHt a)) (K (pc + 3) ls (.int (imax v2 v1) :: t) h)
        else bif Nat.beq x 997 then pI st fun v1 t => pI t fun v2 t => cnd (Nat.ble (csum t) 8 && Nat.ble 2 (mHt a)) (K (pc + 3) ls (.int (imin v2 v1) :: t) h)
        else match popN (mNa x) st [] with
        | some (av, rest) => cnd (callOK a x rest) (callK E x av h (fun r u => K (pc + 3) ls (r ++ rest) u) y)
        | none => False) := hs
    unfold opOK at hop
    simp only at hop
    cases hx9 : Nat.beq x 999 with
    | true =>
      rw [hx9] at hs2 hop
      simp only [cond_true, Bool.and_eq_true] at hs2 hop
      obtain ⟨nn, t1, rfl, j1⟩ := pI_of hs2
      obtain ⟨dp, t2, rfl, j2⟩ := pI_of j1
      obtain ⟨q1, t3, rfl, j3⟩ := pR_of j2
      obtain ⟨sp, t4, rfl, j4⟩ := pI_of j3
      obtain ⟨q0, t, rfl, j5⟩ := pR_of j4
      obtain ⟨n0, rs0, s1, j6⟩ := shN_of j5
      obtain ⟨n1, rs1, s2, j7⟩ := shN_of j6
      obtain ⟨g1, g2⟩ := cnd_iff.mp j7
      simp only [Bool.and_eq_true] at g1
      obtain ⟨⟨⟨g3, g4⟩, g5⟩, g6⟩ := g1
      have g3 := Nat.le_of_ble_eq_true g3
      have g4 := Nat.le_of_ble_eq_true g4
      have g5 := Nat.le_of_ble_eq_true g5
      have g6 := Nat.le_of_ble_eq_true g6
      have b0 := sG_nn s1
      have b1 := sG_nn s2
      simp only at b0 b1
      obtain ⟨u1, u2⟩ := ix_clamp b0 (show ix sp ≤ n0 by omega)
      obtain ⟨u3, u4⟩ := ix_clamp b1 (show ix dp ≤ n1 by omega)
      obtain ⟨u5, u6⟩ := ix_clamp b0 (show ix nn ≤ n0 by omega)
      have e1 := Nat.eq_of_beq_eq_true hop.1
      have e2 := Nat.eq_of_beq_eq_true hop.2
      subst e2
      obtain ⟨k1, k2, k3, k4⟩ := cpy_ok
      have hset : (cWf E h 0 sG).set q1 (adr E q1, .inl (eI E, n1, .inl (va_cpy (h q0) (h q1) (ix sp) (ix dp) (ix nn)))) = cWf E (updR h q1 (va_cpy (h q0) (h q1) (ix sp) (ix dp) (ix nn))) 0 sG := by
        rw [← cWf_set E h (updR h q1 (va_cpy (h q0) (h q1) (ix sp) (ix dp) (ix nn))) sG q1 _ s2 updR_ne, updR_eq]
        rfl
      refine va_copyi (a0 := adr E q0) (a := adr E q1) (c0 := eI E) (c1 := eI E) (ty := .int) (f := h q0) (g := h q1) (own := RX0) hx hb (hml.trans hL.1.symm) (by rw [e1] at hown; exact hown) (hts _ (wsG_of k1 rfl)) (hts _ (wsG_of k2 rfl)) (hts _ (wsG_of k3 rfl)) (hts _ (wsG_of k4 rfl))
        hW.2 hW.1 (hDD h) hS q0 q1 0 0 (WD_get s1) (WD_get s2) rfl rfl rfl u1 u3 u5 (by rw [u2, u6]; exact g3) (by rw [u4, u6]; exact g4) (fun i _ => rfl) (by omega) ?_ hdec (fun H1 locs1 hP1 hD1 hS1 => ?_)
      · rw [csum_cv]
        have : nativeFrameWords "java/lang/System" "arraycopy" 5 + 11 ≤ 60 := by decide +kernel
        omega
      · rw [u2, u4, u6] at hP1
        rw [hset] at hP1
        exact go g2 hL ⟨hP1, hW.2⟩ hS1
    | false =>
      rw [hx9] at hs2 hop
      simp only [cond_false, Bool.and_eq_true] at hs2 hop
      obtain ⟨o1, o2⟩ := hop
      obtain ⟨pos, hpos⟩ := inC_of o1
      cases hx8 : Nat.beq x 998 with
      | true =>
        rw [hx8] at hs2
        simp only [cond_true] at hs2
        obtain ⟨v1, t1, rfl, h1⟩ := pI_of hs2
        obtain ⟨v2, t, rfl, h2⟩ := pI_of h1
        obtain ⟨g1, g2⟩ := cnd_iff.mp h2
        rw [Bool.and_eq_true] at g1
        have g5 := Nat.le_of_ble_eq_true g1.1
        have g6 := Nat.le_of_ble_eq_true g1.2
        obtain ⟨k1, k2, k3⟩ := max_ok
        have hcy : cY x = Lib.Math.max.name := by unfold cY; rw [hx8]; rfl
        rw [hcy] at hpos
        exact va_mmax hx hb (hml.trans hL.1.symm) hown (hts _ (wsG_of hpos rfl)) (hts _ (wsG_of k1 rfl)) (hts _ (wsG_of k2 rfl)) (hts _ (wsG_of k3 rfl)) (by omega) (by rw [csum_cv]; omega) hk1 hn1 hdec (go g2 hL hW hS)
      | false =>
        rw [hx8] at hs2
        simp only [cond_false] at hs2
        cases hx7 : Nat.beq x 997 with
        | true =>
          rw [hx7] at hs2
          simp only [cond_true] at hs2
          obtain ⟨v1, t1, rfl, h1⟩ := pI_of hs2
          obtain ⟨v2, t, rfl, h2⟩ := pI_of h1
          obtain ⟨g1, g2⟩ := cnd_iff.mp h2
          rw [Bool.and_eq_true] at g1
          have g5 := Nat.le_of_ble_eq_true g1.1
          have g6 := Nat.le_of_ble_eq_true g1.2
          obtain ⟨k1, k2, k3⟩ := min_ok
          have hcy : cY x = Lib.Math.min.name := by unfold cY; rw [hx8, hx7]; rfl
          rw [hcy] at hpos
          exact va_mmin hx hb (hml.trans hL.1.symm) hown (hts _ (wsG_of hpos rfl)) (hts _ (wsG_of k1 rfl)) (hts _ (wsG_of k2 rfl)) (hts _ (wsG_of k3 rfl)) (by omega) (by rw [csum_cv]; omega) hk1 hn1 hdec (go g2 hL hW hS)
        | false =>
          rw [hx7] at hs2
          simp only [cond_false] at hs2
          rw [hx8, hx7] at o2
          simp only [Bool.false_or, Bool.and_eq_true] at o2
          obtain ⟨⟨o3, o4⟩, o5⟩ := o2
          have o3 := Nat.le_of_ble_eq_true o3
          have o4 := Nat.eq_of_beq_eq_true o4
          have o5 := Nat.le_of_ble_eq_true o5
          have hcy : cY x = mYy x := by unfold cY mYy; rw [hx8, hx7]; rfl
          rw [hcy] at hpos
          cases hpp : popN (mNa x) st [] with
          | none => rw [hpp] at hs2; exact hs2.elim
          | some w =>
            obtain ⟨av, rest⟩ := w
            rw [hpp] at hs2
            obtain ⟨xs, e1, e2, e3⟩ := popN_of _ _ _ _ _ hpp
            rw [List.append_nil] at e1
            subst e1
            subst e2
            obtain ⟨g1, g2⟩ := cnd_iff.mp hs2
            match y, g2 with
            | 0, g2 => exact my_stat C0 hL.1 hW hS o3 o5 o4 hpos hdec e3 g1 g2 (fun r u H1 locs1 q1 q2 q3 => by obtain ⟨rfl, q1⟩ := qV_of q1; exact go q1 hL q2 q3)
            | 1, g2 => exact my_stat C0 hL.1 hW hS o3 o5 o4 hpos hdec e3 g1 g2 (fun r u H1 locs1 q1 q2 q3 => by obtain ⟨v, rfl, q1⟩ := qI_of q1; exact go q1 hL q2 q3)
            | 2, g2 => exact my_stat C0 hL.1 hW hS o3 o5 o4 hpos hdec e3 g1 g2 (fun r u H1 locs1 q1 q2 q3 => by obtain ⟨v, rfl, q1⟩ := qL_of q1; exact go q1 hL q2 q3)
            | _ + 3, g2 => exact my_stat C0 hL.1 hW hS o3 o5 o4 hpos hdec e3 g1 g2 (fun r u H1 locs1 q1 q2 q3 => by obtain ⟨v, rfl, q1⟩ := qR_of q1; exact go q1 hL q2 q3)
  case tableswitch df lo hi offs =>
    obtain ⟨v, t, rfl, h1⟩ := pI_of hs
    unfold opOK at hop
    simp only [Bool.and_eq_true, decide_eq_true_eq, List.all_eq_true] at hop
    obtain ⟨⟨⟨⟨o1, o2⟩, o3⟩, o4⟩, o5⟩ := hop
    have o6 : toT pc df = ((pc : Int) + df).toNat := rfl
    rcases swT_of offs.toList lo o3 o4 h1 with ⟨j, o, g1, g2, g3⟩ | ⟨g1, g2⟩
    · have hj := (List.getElem?_eq_some_iff.mp g1).1
      refine lv_tableIn hx hb hdec (off := o) (tgt := toT pc o) (by omega) (by omega) ?_ (by
        have := o2 o (List.mem_of_getElem? g1)
        unfold toT; omega) (go g3 hL hW hS)
      rw [show (v.toInt - lo).toNat = j by omega, ← Array.getElem?_toList]
      exact g1
    · exact lv_tableOut hx hb hdec (tgt := toT pc df) (by omega) (by unfold toT; omega) (go g2 hL hW hS)
  case lookupswitch df ps =>
    obtain ⟨v, t, rfl, h1⟩ := pI_of hs
    unfold opOK at hop
    simp only [Bool.and_eq_true, decide_eq_true_eq, List.all_eq_true (l := ps.toList)] at hop
    obtain ⟨⟨⟨o1, o2⟩, o3⟩, o4⟩ := hop
    rcases swL_of (df := df) ps.toList o4 h1 with ⟨o, g1, ⟨kk, g2⟩, g3⟩ | ⟨g1, g2⟩
    · exact lv_lookup hx hb hdec o3 (off := o) (tgt := toT pc o) g1 (by
        have := o2 _ g2
        simp only at this
        unfold toT; omega) (go g3 hL hW hS)
    · exact lv_lookup hx hb hdec o3 (off := df) (tgt := toT pc df) g1 (by unfold toT; omega) (go g2 hL hW hS)
  case ireturn =>
    obtain rfl : len = 1 := hlen.resolve_left (fun z => by cases z)
    obtain ⟨v, t, rfl, h1⟩ := pI_of hs
    obtain ⟨rfl, h2⟩ := pNil_of h1
    unfold retI at h2
    cases hr : mRet a with
    | none => rw [hr] at h2; exact h2.elim
    | some ty =>
      rw [hr] at h2
      cases ty with
      | int => exact hend (some (.int v)) h H locs lsm pc .ireturn h2 hW hS hdec ⟨_, hr, rfl⟩
      | boolean =>
        obtain ⟨g1, g2⟩ := cnd_iff.mp h2
        exact hend (some (.int v)) h H locs lsm pc .ireturn g2 hW hS hdec ⟨_, hr, (nb_nar g1).2.1⟩
      | _ => exact h2.elim
  case lreturn =>
    obtain rfl : len = 1 := hlen.resolve_left (fun z => by cases z)
    obtain ⟨v, t, rfl, h1⟩ := pL_of hs
    obtain ⟨h0, h2⟩ := cnd_iff.mp h1
    obtain ⟨rfl, h2⟩ := pNil_of h2
    exact hend (some (.long v)) h H locs lsm pc .lreturn h2 hW hS hdec (show mRet a = some .long from of_decide_eq_true h0)
  case areturn =>
    obtain rfl : len = 1 := hlen.resolve_left (fun z => by cases z)
    obtain ⟨v, t, rfl, h1⟩ := pR_of hs
    obtain ⟨h0, h2⟩ := cnd_iff.mp h1
    obtain ⟨rfl, h2⟩ := pNil_of h2
    exact hend (some (.ref v)) h H locs lsm pc .areturn h2 hW hS hdec ⟨_, of_decide_eq_true h0⟩
  case return_ =>
    obtain rfl : len = 1 := hlen.resolve_left (fun z => by cases z)
    obtain ⟨h0, h2⟩ := cnd_iff.mp hs
    obtain ⟨rfl, h2⟩ := pNil_of h2
    exact hend none h H locs lsm pc .return_ h2 hW hS hdec (show mRet a = none from of_decide_eq_true h0)
  all_goals exact hs.elim
