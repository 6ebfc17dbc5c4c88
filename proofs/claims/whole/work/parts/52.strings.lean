/-! ===== String constants: what the JDK's methods answer of them ===== -/
abbrev JQ : Type := MethodName × ByteArray × Nat × Option FieldType × Nat
def jWs (q : JQ) : List Cond := .code q.1 q.2.1 q.2.2.1 q.2.2.2.1 :: wsG
def jRm (q : JQ) : Room := { frames := q.2.2.2.2, cells := 0, slots := 0, locals := 64 * q.2.2.2.2 }
def JX (E : XE) (q : JQ) (p : Program) (s : State) (m : MethodId) (args : Array Value) (c : Code) (R : Room) (k n : Nat) : Prop :=
  p.tables.exec = Jvm.exec ∧ c.code = q.2.1 ∧ c.maxLocals = q.2.2.1 ∧ s.vm.findClass q.1.cls = some m.cls ∧ (∀ w ∈ wsG, w.before args s = true) ∧ q.2.2.2.2 ≤ R.frames ∧ 64 * q.2.2.2.2 ≤ R.locals ∧ k ≤ R.cells ∧ n ≤ R.slots ∧ EV E s.heap.size ∧ SK E s s.heap
def JC (E : XE) (q : JQ) (av : List Value) (h : Mem) (Q : Option Value → Mem → Prop) : Prop :=
  ∀ sz : Nat, Met E.1 q.1 (jWs q) (jRm q) (va_Pc av (fun U => U.heap.size = sz ∧ WD E h U U.heap ∧ SK E U U.heap ∧ EV E sz))
    (fun _ st o t => (∃ (r : Option Value) (u : Mem), o = .returned (r.map (cv E)) ∧ Q r u ∧ va_P (eD E) vwCl (cWf E u 0 sG) t.heap) ∧ va_F (AA E sz) st t) 0 0 (AA E sz)
theorem JC.of {E : XE} {q : JQ} {av : List Value} {h : Mem} {Q : Option Value → Mem → Prop} (hm : plainName q.1.cls = true) (hlen : (lg_sl av).length ≤ q.2.2.1)
    (hw : ∀ (p : Program) (e : Env) (s : State) (m : MethodId) (args : Array Value) (below : List Frame) (meth : Method) (c : Code) (R : Room) (Z : State → Prop) (k n : Nat), JX E q p s m args c R k n →
      (∀ (r : Option Value) (u : Mem) (H : Heap) (locs : List Loc) (lsm : Array Slot) (pc' : Nat) (ins : Instr), Q r u → WD E u s H → va_S (AA E s.heap.size) s.heap H locs → decode q.2.1 pc' = .ok (ins, 1) → rOK q.2.2.2.1 ins r →
        W p E.1 e R s m args below meth c H locs k n Z (F0 m pc' lsm (r.toList.map (cv E)))) →
      ∀ (H : Heap) (locs : List Loc) (lsm : Array Slot), lv_has lsm q.2.2.1 (lv_args 0 av) → WD E h s H → va_S (AA E s.heap.size) s.heap H locs → W p E.1 e R s m args below meth c H locs k n Z (F0 m 0 lsm [])) : JC E q av h Q := by
  intro sz
  refine Met.ofW (cc := q.2.1) (maxL := q.2.2.1) (ret := q.2.2.2.1) hm rfl ?_
  intro p e s m args below meth c s₁ B hml hv
  obtain ⟨rfl, hsz, hWD, hSK, hEV⟩ := hv
  subst hsz
  have hx := B.exec
  have hb := B.bytes
  have hr := B.returns
  have hts := atoms_spec (ws := jWs q) B.pre
  have hown : s.vm.findClass q.1.cls = some m.cls := findClass_of_methodNamed B.named
  have hlocks := B.notSynchronized
  have hlv := lv_entry av (n := q.2.2.1) hlen
  rw [lg_entry_eq]
  refine hw p e s m av.toArray below meth c (jRm q) (MQ below _ _ s 0 0 _) 0 0 ⟨hx, hb, hml, hown, fun w hw => hts w (List.mem_cons_of_mem _ hw), Nat.le_refl _, Nat.le_refl _, Nat.zero_le _, Nat.zero_le _, hEV, hSK⟩ ?_ s.heap [] _ hlv hWD va_S.rf
  intro r u H locs lsm pc' ins hq hWu hS hdec hrok
  match ins, r, hrok with
  | .ireturn, some (.int v), ⟨ty, e1, e2⟩ => exact W.zret hx hb (hr.trans e1) e2 (fun t ht hW => ⟨⟨_, u, rfl, hq, by rw [ht]; exact hWu.1⟩, hS.F ht⟩) hS.2.2 hdec
  | .lreturn, some (.long v), e1 => exact W.lret hx hb (hr.trans e1) (fun t ht hW => ⟨⟨_, u, rfl, hq, by rw [ht]; exact hWu.1⟩, hS.F ht⟩) hS.2.2 hdec
  | .areturn, some (.ref v), ⟨nn, e1⟩ => exact W.aret hx hb (hr.trans e1) (Or.inl ⟨_, rfl⟩) (Or.inr ⟨_, rfl⟩) (fun t ht hW => ⟨⟨_, u, rfl, hq, by rw [ht]; exact hWu.1⟩, hS.F ht⟩) hS.2.2 hdec
  | .return_, none, e1 => exact W.vret hx hb (hr.trans e1) (fun t ht hW => ⟨⟨_, u, rfl, hq, by rw [ht]; exact hWu.1⟩, hS.F ht⟩) hS.2.2 hdec
theorem j_good {q : JQ} (h : Cond.code q.1 q.2.1 q.2.2.1 q.2.2.2.1 ∈ wsG) : GoodIn wsG (jWs q) := by
  intro w hw
  rcases List.mem_cons.mp hw with rfl | hw
  · exact ⟨h, Or.inl rfl⟩
  · exact ⟨hw, good_of_word (wsG_good w hw)⟩
section WJ
variable {E : XE} {p : Program} {e : Env} {s : State} {m : MethodId} {args : Array Value} {below : List Frame} {meth : Method} {c : Code} {R : Room} {Z : State → Prop} {k n : Nat} {H : Heap} {locs : List Loc} {lsm : Array Slot} {pc i : Nat} {h : Mem} {q q0 : JQ} {Q : Option Value → Mem → Prop}
theorem j_blind {av : List Value} {sz : Nat} : FrameBlind (va_Pc av (fun U => U.heap.size = sz ∧ WD E h U U.heap ∧ SK E U U.heap ∧ EV E sz)) := by
  intro a U g mk q
  obtain ⟨q0, q1, ⟨qP, qK⟩, qS, qE⟩ := q
  have al : U.vm.Alike (U.calling g mk a).vm := Vm.Alike.refl U.vm
  exact ⟨q0, q1, ⟨qP, va_K.moved (u := U) (U := U.calling g mk a) al qK⟩, ⟨qS.1.moved (u := U) (U := U.calling g mk a) al, fun i hi => vk_R.same (u := U) (U := U.calling g mk a) rfl (qS.2.1 i hi), qS.2.2.1.moved (u := U) (U := U.calling g mk a) al, qS.2.2.2.moved (u := U) (U := U.calling g mk a) al⟩, qE⟩
theorem j_pre (C : JX E q0 p s m args c R k n) (hW : WD E h s H) (hS : va_S (AA E s.heap.size) s.heap H locs) {av : List Value} (U : State) (hU : U.heap = H) (hw : s.WarmedH U.vm) :
    va_Pc av (fun U => U.heap.size = H.size ∧ WD E h U U.heap ∧ SK E U U.heap ∧ EV E H.size) av.toArray U := by
  obtain ⟨hx, hb, hml, hown, hts, hfr, hlo, hk1, hn1, hEV, hSK⟩ := C
  refine ⟨rfl, by rw [hU], ⟨by rw [hU]; exact hW.1, va_K.moved hw.alike hW.2⟩, ?_, hEV.mono hS.1⟩
  rw [hU]
  exact hSK.go hEV hS hw.alike (fun _ _ _ _ hr => vk_R.warm hw hr)
theorem jy_stat (C : JX E q0 p s m args c R k n) (hL : lsm.size = q0.2.2.1) (hW : WD E h s H) (hS : va_S (AA E s.heap.size) s.heap H locs)
    (w1 : Cond.code q.1 q.2.1 q.2.2.1 q.2.2.2.1 ∈ wsG) (w2 : Cond.initialized q.1.cls ∈ wsG) (w3 : Cond.methodLink q0.1.cls i q.1 ∈ wsG) (w4 : Cond.static q.1 ∈ wsG) (b1 : q.1.cls ≠ "java/lang/invoke/MethodHandle") (b2 : q.1.cls ≠ "java/lang/invoke/VarHandle")
    {av rest : List Value} (b4 : (parseMethodDescriptor q.1.desc).map (fun d => d.parameters.length) = some av.length) (hht : q.2.2.2.2 + 1 ≤ q0.2.2.2.2) (hmL : q.2.2.1 ≤ 20) (hdec : decode q0.2.1 pc = .ok (.invokestatic i, 3))
    (hco : ((rest.map fun v => v.category).sum) ≤ 8) (hc : JC E q av h Q)
    (kk : ∀ (r : Option Value) (u : Mem) (H1 : Heap) (locs1 : List Loc), Q r u → WD E u s H1 → va_S (AA E s.heap.size) s.heap H1 locs1 → W p E.1 e R s m args below meth c H1 locs1 k n Z (F0 m (pc + 3) lsm ((r.map (cv E)).toList ++ rest))) :
    W p E.1 e R s m args below meth c H locs k n Z (F0 m pc lsm (av.reverse ++ rest)) := by
  have C0 := C
  obtain ⟨hx, hb, hml, hown, hts, hfr, hlo, hk1, hn1, hEV, hSK⟩ := C
  have hrun := va_runS (e := e) (below := below) (meth := meth) (As := av) (rest := rest) (Ts := wsG) (own := q0.1.cls) (index := i) (n := av.length) (bytes := q.2.1) (maxL := q.2.2.1) (ret := q.2.2.2.1) (cells := k) (slots := n) (locs := locs) (g := F0 m pc lsm (av.reverse ++ rest))
    ⟨hx, hb, hml, hown, hts⟩ (hc H.size)
    ⟨callB_of (ws' := wsG) _ hts (j_good w1) rfl rfl rfl (hts _ w2) (hts _ w3) ⟨b1, b2, b4⟩ ⟨by show q.2.2.2.2 + 1 ≤ R.frames; omega, by show 8 + (q.2.2.1 + 11) + 64 * q.2.2.2.2 ≤ R.locals; omega⟩, hts _ w4⟩
    ⟨j_blind, fun U hU hw => j_pre C0 hW hS U hU hw⟩ rfl rfl hL (by simp) (lv_room hco) hdec ⟨hk1, hn1⟩
  exact my_ret (a := #[]) hEV hrun hS (fun r u H1 locs1 hq hP1 hS1 => kk r u H1 locs1 hq ⟨hP1, hW.2⟩ hS1)
theorem jy_virt (C : JX E q0 p s m args c R k n) (hL : lsm.size = q0.2.2.1) (hW : WD E h s H) (hS : va_S (AA E s.heap.size) s.heap H locs) {j : Nat} (hj : j < 6) (hcl : q.1.cls = "java/lang/String")
    (w1 : Cond.code q.1 q.2.1 q.2.2.1 q.2.2.2.1 ∈ wsG) (w2 : Cond.initialized q.1.cls ∈ wsG) (w3 : Cond.methodLink q0.1.cls i q.1 ∈ wsG) (w4 : Cond.instanceMethod q.1 ∈ wsG) (w5 : Cond.selects q.1.cls q.1 q.1 ∈ wsG)
    {As rest : List Value} (b4 : (parseMethodDescriptor q.1.desc).map (fun d => d.parameters.length) = some As.length) (hht : q.2.2.2.2 + 1 ≤ q0.2.2.2.2) (hmL : q.2.2.1 ≤ 20) (hdec : decode q0.2.1 pc = .ok (.invokevirtual i, 3))
    (hco : ((rest.map fun v => v.category).sum) ≤ 8) (hc : JC E q (.ref (adr E (1001 + j)) :: As) h Q)
    (kk : ∀ (r : Option Value) (u : Mem) (H1 : Heap) (locs1 : List Loc), Q r u → WD E u s H1 → va_S (AA E s.heap.size) s.heap H1 locs1 → W p E.1 e R s m args below meth c H1 locs1 k n Z (F0 m (pc + 3) lsm ((r.map (cv E)).toList ++ rest))) :
    W p E.1 e R s m args below meth c H locs k n Z (F0 m pc lsm (((.ref (adr E (1001 + j)) :: As).reverse) ++ rest)) := by
  have C0 := C
  obtain ⟨hx, hb, hml, hown, hts, hfr, hlo, hk1, hn1, hEV, hSK⟩ := C
  have hrecv : ∃ cellB : Cell, H[adr E (1001 + j)]? = some cellB ∧ cellB.vm.isStatics = false ∧ s.vm.findClass q.1.cls = some cellB.cls := by
    rw [hcl]
    exact vk_recv (i := j) hSK.1 hj (va_S_lo hEV rfl hS)
  have hrun := va_runV (e := e) (below := below) (meth := meth) (As := As) (rest := rest) (b := adr E (1001 + j)) (Ts := wsG) (own := q0.1.cls) (C := q.1.cls) (index := i) (n := As.length) (bytes := q.2.1) (maxL := q.2.2.1) (ret := q.2.2.2.1) (cells := k) (slots := n) (locs := locs) (g := F0 m pc lsm (((.ref (adr E (1001 + j)) :: As).reverse) ++ rest))
    ⟨hx, hb, hml, hown, hts⟩ (hc H.size)
    ⟨callB_of (ws' := wsG) _ hts (j_good w1) rfl rfl rfl (hts _ w2) (hts _ w3) ⟨by rw [hcl]; decide, by rw [hcl]; decide, b4⟩ ⟨by show q.2.2.2.2 + 1 ≤ R.frames; omega, by show 8 + (q.2.2.1 + 11) + 64 * q.2.2.2.2 ≤ R.locals; omega⟩, hts _ w4, hts _ w5⟩
    ⟨j_blind, hrecv, fun U hU hw => j_pre C0 hW hS U hU hw⟩ rfl rfl hL (by simp) (lv_room hco) hdec ⟨hk1, hn1⟩
  exact my_ret (a := #[]) hEV hrun hS (fun r u H1 locs1 hq hP1 hS1 => kk r u H1 locs1 hq ⟨hP1, hW.2⟩ hS1)
end WJ

def jqCoder : JQ := (yJ0_coder_7d493, cJ0_coder_7d493, 1, some .byte, 1)
def jqLat : JQ := (yJ0_isLatin1_aae02, cJ0_isLatin1_aae02, 1, some .boolean, 1)
def jqPci : JQ := (yJ3_checkIndex_8e157, cJ3_checkIndex_8e157, 3, some .int, 1)
def jqSci : JQ := (yJ0_checkIndex_df160, cJ0_checkIndex_df160, 2, none, 2)
def jqLch : JQ := (yJ1_charAt_3b067, cJ1_charAt_3b067, 2, some .char, 3)
def jqOf (a : Nat) : JQ := (mYy a, mB a, mL a, mRet a, mHt a)
theorem jd_coder : decode cJ0_coder_7d493 0 = .ok (.getstatic 38, 3) ∧ decode cJ0_coder_7d493 3 = .ok (.ifCond .eq 10, 3) ∧ decode cJ0_coder_7d493 6 = .ok (.aload_n 0, 1) ∧ decode cJ0_coder_7d493 7 = .ok (.getfield 15, 3) ∧ decode cJ0_coder_7d493 10 = .ok (.goto 4, 3) ∧ decode cJ0_coder_7d493 14 = .ok (.ireturn, 1) := by decide +kernel
theorem jd_lat : decode cJ0_isLatin1_aae02 0 = .ok (.getstatic 38, 3) ∧ decode cJ0_isLatin1_aae02 3 = .ok (.ifCond .eq 14, 3) ∧ decode cJ0_isLatin1_aae02 6 = .ok (.aload_n 0, 1) ∧ decode cJ0_isLatin1_aae02 7 = .ok (.getfield 15, 3) ∧ decode cJ0_isLatin1_aae02 10 = .ok (.ifCond .ne 7, 3) ∧ decode cJ0_isLatin1_aae02 13 = .ok (.iconst 1, 1) ∧ decode cJ0_isLatin1_aae02 14 = .ok (.goto 4, 3) ∧ decode cJ0_isLatin1_aae02 18 = .ok (.ireturn, 1) := by decide +kernel
theorem jd_pci : decode cJ3_checkIndex_8e157 0 = .ok (.iload_n 0, 1) ∧ decode cJ3_checkIndex_8e157 1 = .ok (.ifCond .lt 8, 3) ∧ decode cJ3_checkIndex_8e157 4 = .ok (.iload_n 0, 1) ∧ decode cJ3_checkIndex_8e157 5 = .ok (.iload_n 1, 1) ∧ decode cJ3_checkIndex_8e157 6 = .ok (.if_icmp .lt 10, 3) ∧ decode cJ3_checkIndex_8e157 16 = .ok (.iload_n 0, 1) ∧ decode cJ3_checkIndex_8e157 17 = .ok (.ireturn, 1) := by decide +kernel
theorem jd_sci : decode cJ0_checkIndex_df160 0 = .ok (.iload_n 0, 1) ∧ decode cJ0_checkIndex_df160 1 = .ok (.iload_n 1, 1) ∧ decode cJ0_checkIndex_df160 2 = .ok (.getstatic 1053, 3) ∧ decode cJ0_checkIndex_df160 5 = .ok (.invokestatic 1059, 3) ∧ decode cJ0_checkIndex_df160 8 = .ok (.pop, 1) ∧ decode cJ0_checkIndex_df160 9 = .ok (.return_, 1) := by decide +kernel
theorem jd_lch : decode cJ1_charAt_3b067 0 = .ok (.iload_n 1, 1) ∧ decode cJ1_charAt_3b067 1 = .ok (.aload_n 0, 1) ∧ decode cJ1_charAt_3b067 2 = .ok (.arraylength, 1) ∧ decode cJ1_charAt_3b067 3 = .ok (.invokestatic 9, 3) ∧ decode cJ1_charAt_3b067 6 = .ok (.aload_n 0, 1) ∧ decode cJ1_charAt_3b067 7 = .ok (.iload_n 1, 1) ∧ decode cJ1_charAt_3b067 8 = .ok (.baload, 1) ∧ decode cJ1_charAt_3b067 9 = .ok (.sipush 255, 3) ∧ decode cJ1_charAt_3b067 12 = .ok (.iand, 1) ∧ decode cJ1_charAt_3b067 13 = .ok (.i2c, 1) ∧ decode cJ1_charAt_3b067 14 = .ok (.ireturn, 1) := by decide +kernel
theorem jd_len : decode cJ0_length_8abf5 0 = .ok (.aload_n 0, 1) ∧ decode cJ0_length_8abf5 1 = .ok (.getfield 9, 3) ∧ decode cJ0_length_8abf5 4 = .ok (.arraylength, 1) ∧ decode cJ0_length_8abf5 5 = .ok (.aload_n 0, 1) ∧ decode cJ0_length_8abf5 6 = .ok (.invokevirtual 335, 3) ∧ decode cJ0_length_8abf5 9 = .ok (.ishr, 1) ∧ decode cJ0_length_8abf5 10 = .ok (.ireturn, 1) := by decide +kernel
theorem jd_emp : decode cJ0_isEmpty_aae02 0 = .ok (.aload_n 0, 1) ∧ decode cJ0_isEmpty_aae02 1 = .ok (.getfield 9, 3) ∧ decode cJ0_isEmpty_aae02 4 = .ok (.arraylength, 1) ∧ decode cJ0_isEmpty_aae02 5 = .ok (.ifCond .ne 7, 3) ∧ decode cJ0_isEmpty_aae02 8 = .ok (.iconst 1, 1) ∧ decode cJ0_isEmpty_aae02 9 = .ok (.goto 4, 3) ∧ decode cJ0_isEmpty_aae02 12 = .ok (.iconst 0, 1) ∧ decode cJ0_isEmpty_aae02 13 = .ok (.ireturn, 1) := by decide +kernel
theorem jd_chr : decode cJ0_charAt_5068e 0 = .ok (.aload_n 0, 1) ∧ decode cJ0_charAt_5068e 1 = .ok (.invokevirtual 492, 3) ∧ decode cJ0_charAt_5068e 4 = .ok (.ifCond .eq 12, 3) ∧ decode cJ0_charAt_5068e 7 = .ok (.aload_n 0, 1) ∧ decode cJ0_charAt_5068e 8 = .ok (.getfield 9, 3) ∧ decode cJ0_charAt_5068e 11 = .ok (.iload_n 1, 1) ∧ decode cJ0_charAt_5068e 12 = .ok (.invokestatic 495, 3) ∧ decode cJ0_charAt_5068e 15 = .ok (.ireturn, 1) := by decide +kernel
theorem fl_9 : Cond.fieldLink "java/lang/String" 9 "java/lang/String" "value" "[B" ∈ wsG := wsG_of (i := 6193) rfl rfl
theorem fl_15 : Cond.fieldLink "java/lang/String" 15 "java/lang/String" "coder" "B" ∈ wsG := wsG_of (i := 6194) rfl rfl
theorem fl_38 : Cond.fieldLink "java/lang/String" 38 "java/lang/String" "COMPACT_STRINGS" "Z" ∈ wsG := wsG_of (i := 2077) rfl rfl
theorem fl_1053 : Cond.fieldLink "java/lang/String" 1053 "jdk/internal/util/Preconditions" "SIOOBE_FORMATTER" "Ljava/util/function/BiFunction;" ∈ wsG := wsG_of (i := 2100) rfl rfl
section JB
variable {E : XE} {h : Mem} {Q : Option Value → Mem → Prop} {i : Nat}
theorem J_coder (hi : i < 6) (hq : Q (some (.int 0)) h) : JC E jqCoder [.ref (adr E (1001 + i))] h Q := by
  refine JC.of (by decide) (Nat.le_refl _) ?_
  intro p e s m args below meth c R Z k n C hend H locs lsm hl hW hS
  obtain ⟨hx, hb, hml, hown, hts, hfr, hlo, hk1, hn1, hEV, hSK⟩ := C
  have hS2 := va_S_lo hEV rfl hS
  obtain ⟨d0, d3, d6, d7, d10, d14⟩ := jd_coder
  refine va_gets (own := "java/lang/String") (ref := "java/lang/String") hx hb hSK.2.2.1 hS2 hown (hts _ fl_38) (fun _ z => z) d0 ?_
  refine lv_if_eq hx hb d3 (tgt := 13) rfl (fun z => absurd z (by decide)) (fun _ => ?_)
  refine lv_aload_n hx hb d6 rfl (lv_at hl 0 rfl) ?_
  refine vk_getf (own := "java/lang/String") (ref := "java/lang/String") hx hb (hSK.1.1 i hi).2.1 hS2 hown (hts _ fl_15) (fun _ z => z) d7 ?_
  refine lv_goto hx hb d10 (tgt := 14) rfl ?_
  exact hend (some (.int 0)) h H locs lsm 14 .ireturn hq hW hS d14 ⟨_, rfl, rfl⟩
theorem J_lat (hi : i < 6) (hq : Q (some (.int 1)) h) : JC E jqLat [.ref (adr E (1001 + i))] h Q := by
  refine JC.of (by decide) (Nat.le_refl _) ?_
  intro p e s m args below meth c R Z k n C hend H locs lsm hl hW hS
  obtain ⟨hx, hb, hml, hown, hts, hfr, hlo, hk1, hn1, hEV, hSK⟩ := C
  have hS2 := va_S_lo hEV rfl hS
  obtain ⟨d0, d3, d6, d7, d10, d13, d14, d18⟩ := jd_lat
  refine va_gets (own := "java/lang/String") (ref := "java/lang/String") hx hb hSK.2.2.1 hS2 hown (hts _ fl_38) (fun _ z => z) d0 ?_
  refine lv_if_eq hx hb d3 (tgt := 17) rfl (fun z => absurd z (by decide)) (fun _ => ?_)
  refine lv_aload_n hx hb d6 rfl (lv_at hl 0 rfl) ?_
  refine vk_getf (own := "java/lang/String") (ref := "java/lang/String") hx hb (hSK.1.1 i hi).2.1 hS2 hown (hts _ fl_15) (fun _ z => z) d7 ?_
  refine lv_if_ne hx hb d10 (tgt := 17) rfl (fun z => absurd rfl z) (fun _ => ?_)
  refine lv_iconst hx hb d13 (v := 1) rfl ?_
  refine lv_goto hx hb d14 (tgt := 18) rfl ?_
  exact hend (some (.int 1)) h H locs lsm 18 .ireturn hq hW hS d18 ⟨_, rfl, rfl⟩
theorem J_pci {a b : Int32} {f : Value} (hf : f = .null ∨ ∃ t, f = .ref t) (h0 : ¬ a < 0) (h1 : a < b) (hq : Q (some (.int a)) h) : JC E jqPci [.int a, .int b, f] h Q := by
  refine JC.of (by decide) (by rcases hf with rfl | ⟨t, rfl⟩ <;> exact Nat.le_refl _) ?_
  intro p e s m args below meth c R Z k n C hend H locs lsm hl hW hS
  obtain ⟨hx, hb, hml, hown, hts, hfr, hlo, hk1, hn1, hEV, hSK⟩ := C
  obtain ⟨d0, d1, d4, d5, d6, d16, d17⟩ := jd_pci
  refine lv_iload_n hx hb d0 rfl (lv_at hl 0 rfl) ?_
  refine lv_if_lt hx hb d1 (tgt := 9) rfl (fun z => absurd z h0) (fun _ => ?_)
  refine lv_iload_n hx hb d4 rfl (lv_at hl 0 rfl) ?_
  refine lv_iload_n hx hb d5 rfl (lv_at hl 1 rfl) ?_
  refine lv_icmp_lt hx hb d6 (tgt := 16) rfl (fun _ => ?_) (fun z => absurd h1 z)
  refine lv_iload_n hx hb d16 rfl (lv_at hl 0 rfl) ?_
  exact hend (some (.int a)) h H locs lsm 17 .ireturn hq hW hS d17 ⟨_, rfl, rfl⟩
theorem J_sci {a b : Int32} (h0 : ¬ a < 0) (h1 : a < b) (hq : Q none h) : JC E jqSci [.int a, .int b] h Q := by
  refine JC.of (by decide) (Nat.le_refl _) ?_
  intro p e s m args below meth c R Z k n C hend H locs lsm hl hW hS
  have C0 := C
  obtain ⟨hx, hb, hml, hown, hts, hfr, hlo, hk1, hn1, hEV, hSK⟩ := C
  have hS2 := va_S_lo hEV rfl hS
  obtain ⟨d0, d1, d2, d5, d8, d9⟩ := jd_sci
  refine lv_iload_n hx hb d0 rfl (lv_at hl 0 rfl) ?_
  refine lv_iload_n hx hb d1 rfl (lv_at hl 1 rfl) ?_
  have go : ∀ f : Value, (f = .null ∨ ∃ t, f = .ref t) → va_Z "jdk/internal/util/Preconditions" "SIOOBE_FORMATTER" "Ljava/util/function/BiFunction;" f (fun q => eLo E ≤ q) s s.heap → W p E.1 e R s m args below meth c H locs k n Z (F0 m 2 lsm [.int b, .int a]) := by
    intro f hf hz
    refine va_gets (own := "java/lang/String") (ref := "jdk/internal/util/Preconditions") hx hb hz hS2 hown (hts _ fl_1053) (fun _ z => z) d2 ?_
    refine jy_stat (q := jqPci) (q0 := jqSci) (av := [.int a, .int b, f]) (rest := []) (Q := fun r u => r = some (.int a) ∧ u = h) C0 hl.1 hW hS (wsG_of (i := 2104) rfl rfl) (wsG_of (i := 1012) rfl rfl) (wsG_of (i := 2102) rfl rfl) (wsG_of (i := 2103) rfl rfl) (by decide) (by decide) (show (parseMethodDescriptor jqPci.1.desc).map (fun d => d.parameters.length) = some 3 by decide) (by decide) (by decide) d5 (by decide) (J_pci hf h0 h1 ⟨rfl, rfl⟩) ?_
    intro r u H1 locs1 hr hW1 hS1
    obtain ⟨rfl, rfl⟩ := hr
    refine lv_pop hx hb d8 rfl ?_
    exact hend none u H1 locs1 lsm 9 .return_ hq hW1 hS1 d9 rfl
  rcases hSK.2.2.2 with hz | ⟨t, hz⟩
  · exact go _ (Or.inl rfl) hz
  · exact go _ (Or.inr ⟨t, rfl⟩) hz
theorem byt_ok : ∀ i, i < 6 → ∀ k, k < lenS.getD i 0 → (((bytS.getD i []).getD k 0 &&& 255).toUInt32 % 65536).toInt32 = (bytS.getD i []).getD k 0 ∧ narrow .char (.int ((bytS.getD i []).getD k 0)) = .int ((bytS.getD i []).getD k 0) := by decide +kernel
theorem len_ok : ∀ i, i < 6 → lenS.getD i 0 < 4 := by decide +kernel
theorem J_lch {k0 : Nat} (hi : i < 6) (hk0 : k0 < lenS.getD i 0) (hq : Q (some (.int ((bytS.getD i []).getD k0 0))) h) : JC E jqLch [.ref (adr E (1011 + i)), .int (nI k0)] h Q := by
  refine JC.of (by decide) (Nat.le_refl _) ?_
  intro p e s m args below meth c R Z k n C hend H locs lsm hl hW hS
  have C0 := C
  obtain ⟨hx, hb, hml, hown, hts, hfr, hlo, hk1, hn1, hEV, hSK⟩ := C
  have hS2 := va_S_lo hEV rfl hS
  have hl4 := len_ok i hi
  obtain ⟨d0, d1, d2, d3, d6, d7, d8, d9, d12, d13, d14⟩ := jd_lch
  have hlt : nI k0 < Int32.ofNat (lenS.getD i 0) := nI_lt hk0 (by omega)
  refine lv_iload_n hx hb d0 rfl (lv_at hl 1 rfl) ?_
  refine lv_aload_n hx hb d1 rfl (lv_at hl 0 rfl) ?_
  refine va_tlen hx hb (hSK.1.1 i hi).2.2.2 hS2 rfl d2 ?_
  refine jy_stat (q := jqSci) (q0 := jqLch) (av := [.int (nI k0), .int (Int32.ofNat (lenS.getD i 0))]) (rest := []) (Q := fun r u => r = none ∧ u = h) C0 hl.1 hW hS (wsG_of (i := 2099) rfl rfl) (wsG_of (i := 1010) rfl rfl) (wsG_of (i := 2097) rfl rfl) (wsG_of (i := 2098) rfl rfl) (by decide) (by decide) (show (parseMethodDescriptor jqSci.1.desc).map (fun d => d.parameters.length) = some 2 by decide) (by decide) (by decide) d3 (by decide) (J_sci (nI_pos (by omega)) hlt ⟨rfl, rfl⟩) ?_
  intro r u H1 locs1 hr hW1 hS1
  obtain ⟨rfl, rfl⟩ := hr
  have hS3 := va_S_lo hEV rfl hS1
  obtain ⟨by1, by2⟩ := byt_ok i hi k0 hk0
  refine lv_aload_n hx hb d6 rfl (lv_at hl 0 rfl) ?_
  refine lv_iload_n hx hb d7 rfl (lv_at hl 1 rfl) ?_
  refine va_tb hx hb (hSK.1.1 i hi).2.2.2 hS3 (vp_in_nI hk0 (by omega)) (v := .int ((bytS.getD i []).getD k0 0)) (by rw [nI_clamp (by omega)]) d8 ?_
  refine lv_sipush hx hb d9 (v := 255) rfl ?_
  refine lv_iand hx hb d12 ?_
  refine lv_i2c hx hb d13 by1 ?_
  exact hend (some (.int _)) u H1 locs1 lsm 14 .ireturn hq hW1 hS1 d14 ⟨_, rfl, by2⟩
theorem J_emp (hi : i < 6) (hq : Q (some (.int (if lenS.getD i 0 = 0 then 1 else 0))) h) : JC E (jqOf mJ_isEmpty) [.ref (adr E (1001 + i))] h Q := by
  refine JC.of (by decide) (Nat.le_refl _) ?_
  intro p e s m args below meth c R Z k n C hend H locs lsm hl hW hS
  obtain ⟨hx, hb, hml, hown, hts, hfr, hlo, hk1, hn1, hEV, hSK⟩ := C
  have hS2 := va_S_lo hEV rfl hS
  have hl4 := len_ok i hi
  obtain ⟨d0, d1, d4, d5, d8, d9, d12, d13⟩ := jd_emp
  refine lv_aload_n hx hb d0 rfl (lv_at hl 0 rfl) ?_
  refine vk_getf (own := "java/lang/String") (ref := "java/lang/String") hx hb (hSK.1.1 i hi).2.2.1 hS2 hown (hts _ fl_9) (fun _ z => z) d1 ?_
  refine va_tlen hx hb (hSK.1.1 i hi).2.2.2 hS2 rfl d4 ?_
  have e0 : Int32.ofNat (lenS.getD i 0) = 0 ↔ lenS.getD i 0 = 0 := by
    generalize lenS.getD i 0 = x at hl4
    rcases x with _ | _ | _ | _ | x
    · decide
    · decide
    · decide
    · decide
    · omega
  refine lv_if_ne hx hb d5 (tgt := 12) rfl (fun z => ?_) (fun z => ?_)
  · rw [if_neg (fun y => z (e0.mpr y))] at hq
    refine lv_iconst hx hb d12 (v := 0) rfl ?_
    exact hend (some (.int 0)) h H locs lsm 13 .ireturn hq hW hS d13 ⟨_, rfl, rfl⟩
  · rw [if_pos (e0.mp z)] at hq
    refine lv_iconst hx hb d8 (v := 1) rfl ?_
    refine lv_goto hx hb d9 (tgt := 13) rfl ?_
    exact hend (some (.int 1)) h H locs lsm 13 .ireturn hq hW hS d13 ⟨_, rfl, rfl⟩
theorem J_len (hi : i < 6) (hq : Q (some (.int (nI (lenS.getD i 0)))) h) : JC E (jqOf mJ_length) [.ref (adr E (1001 + i))] h Q := by
  refine JC.of (by decide) (Nat.le_refl _) ?_
  intro p e s m args below meth c R Z k n C hend H locs lsm hl hW hS
  have C0 := C
  obtain ⟨hx, hb, hml, hown, hts, hfr, hlo, hk1, hn1, hEV, hSK⟩ := C
  have hS2 := va_S_lo hEV rfl hS
  have hl4 := len_ok i hi
  obtain ⟨d0, d1, d4, d5, d6, d9, d10⟩ := jd_len
  refine lv_aload_n hx hb d0 rfl (lv_at hl 0 rfl) ?_
  refine vk_getf (own := "java/lang/String") (ref := "java/lang/String") hx hb (hSK.1.1 i hi).2.2.1 hS2 hown (hts _ fl_9) (fun _ z => z) d1 ?_
  refine va_tlen hx hb (hSK.1.1 i hi).2.2.2 hS2 rfl d4 ?_
  refine lv_aload_n hx hb d5 rfl (lv_at hl 0 rfl) ?_
  refine jy_virt (q := jqCoder) (q0 := jqOf mJ_length) (As := []) (rest := [.int (Int32.ofNat (lenS.getD i 0))]) (Q := fun r u => r = some (.int 0) ∧ u = h) C0 hl.1 hW hS hi rfl (wsG_of (i := 2076) rfl rfl) (wsG_of (i := 1010) rfl rfl) (wsG_of (i := 2073) rfl rfl) (wsG_of (i := 2074) rfl rfl) (wsG_of (i := 2075) rfl rfl) (by decide) (by decide) (by decide) d6 (show (1 : Nat) ≤ 8 by decide) (J_coder hi ⟨rfl, rfl⟩) ?_
  intro r u H1 locs1 hr hW1 hS1
  obtain ⟨rfl, rfl⟩ := hr
  refine lv_ishr hx hb d9 ?_
  have e0 : Int32.ofNat (lenS.getD i 0) >>> ((0 : Int32) &&& 31) = nI (lenS.getD i 0) := by
    generalize lenS.getD i 0 = x at hl4
    rcases x with _ | _ | _ | _ | x
    · decide
    · decide
    · decide
    · decide
    · omega
  rw [e0]
  exact hend (some (.int _)) u H1 locs1 lsm 10 .ireturn hq hW1 hS1 d10 ⟨_, rfl, rfl⟩
theorem J_chr {k0 : Nat} (hi : i < 6) (hk0 : k0 < lenS.getD i 0) (hq : Q (some (.int ((bytS.getD i []).getD k0 0))) h) : JC E (jqOf mJ_charAt) [.ref (adr E (1001 + i)), .int (nI k0)] h Q := by
  refine JC.of (by decide) (Nat.le_refl _) ?_
  intro p e s m args below meth c R Z k n C hend H locs lsm hl hW hS
  have C0 := C
  obtain ⟨hx, hb, hml, hown, hts, hfr, hlo, hk1, hn1, hEV, hSK⟩ := C
  have hl4 := len_ok i hi
  obtain ⟨d0, d1, d4, d7, d8, d11, d12, d15⟩ := jd_chr
  refine lv_aload_n hx hb d0 rfl (lv_at hl 0 rfl) ?_
  refine jy_virt (q := jqLat) (q0 := jqOf mJ_charAt) (As := []) (rest := []) (Q := fun r u => r = some (.int 1) ∧ u = h) C0 hl.1 hW hS hi rfl (wsG_of (i := 2093) rfl rfl) (wsG_of (i := 1010) rfl rfl) (wsG_of (i := 2090) rfl rfl) (wsG_of (i := 2091) rfl rfl) (wsG_of (i := 2092) rfl rfl) (by decide) (by decide) (by decide) d1 (by decide) (J_lat hi ⟨rfl, rfl⟩) ?_
  intro r u H1 locs1 hr hW1 hS1
  obtain ⟨rfl, rfl⟩ := hr
  have hS3 := va_S_lo hEV rfl hS1
  refine lv_if_eq hx hb d4 (tgt := 16) rfl (fun z => absurd z (by decide)) (fun _ => ?_)
  refine lv_aload_n hx hb d7 rfl (lv_at hl 0 rfl) ?_
  refine vk_getf (own := "java/lang/String") (ref := "java/lang/String") hx hb (hSK.1.1 i hi).2.2.1 hS3 hown (hts _ fl_9) (fun _ z => z) d8 ?_
  refine lv_iload_n hx hb d11 rfl (lv_at hl 1 rfl) ?_
  refine jy_stat (q := jqLch) (q0 := jqOf mJ_charAt) (av := [.ref (adr E (1011 + i)), .int (nI k0)]) (rest := []) (Q := fun r v => r = some (.int ((bytS.getD i []).getD k0 0)) ∧ v = u) C0 hl.1 hW1 hS1 (wsG_of (i := 2096) rfl rfl) (wsG_of (i := 1011) rfl rfl) (wsG_of (i := 2094) rfl rfl) (wsG_of (i := 2095) rfl rfl) (by decide) (by decide) (show (parseMethodDescriptor jqLch.1.desc).map (fun d => d.parameters.length) = some 2 by decide) (by decide) (by decide) d12 (by decide) (J_lch hi hk0 ⟨rfl, rfl⟩) ?_
  intro r v H2 locs2 hr hW2 hS2
  obtain ⟨rfl, rfl⟩ := hr
  exact hend (some (.int _)) v H2 locs2 lsm 15 .ireturn hq hW2 hS2 d15 ⟨_, rfl, (byt_ok i hi k0 hk0).2⟩
variable {Q : Int32 → Mem → Prop}
theorem sJ_isEmpty (hi : i < 6) (hq : Q (if lenS.getD i 0 = 0 then 1 else 0) h) : CALLI E mJ_isEmpty [.ref (1001 + i)] h Q := J_emp (E := E) (Q := qI Q) hi hq
theorem sJ_length (hi : i < 6) (hq : Q (nI (lenS.getD i 0)) h) : CALLI E mJ_length [.ref (1001 + i)] h Q := J_len (E := E) (Q := qI Q) hi hq
theorem sJ_charAt {k0 : Nat} (hi : i < 6) (hk0 : k0 < lenS.getD i 0) (hq : Q ((bytS.getD i []).getD k0 0) h) : CALLI E mJ_charAt [.ref (1001 + i), .int (nI k0)] h Q := J_chr (E := E) (Q := qI Q) hi hk0 hq
end JB
