/-! ===== calls ===== -/
theorem own_cl : ∀ (ci : Nat) (q : vw_C), vwCl[ci]? = some q → own_ ci = q.1
  | 0, q, h => by cases h; rfl
  | 1, q, h => by cases h; rfl
  | 2, q, h => by cases h; rfl
  | 3, q, h => by cases h; rfl
  | 4, q, h => by cases h; rfl
  | 5, q, h => by cases h; rfl
  | 6, q, h => by cases h; rfl
  | 7, q, h => by cases h; rfl
  | k + 8, q, h => by simp [vwCl] at h
theorem sG_ci : ∀ x ∈ sG, x.1 < 10 := by decide +kernel
theorem vwCl_of {ci : Nat} (h : ci < 8) : ∃ q, vwCl[ci]? = some q := by
  have : ci < vwCl.length := h
  exact ⟨vwCl[ci], by simp [this]⟩
theorem mokB_of {a : Nat} (h : mokB (mE a) = true) : (mYy a).cls ≠ "java/lang/invoke/MethodHandle" ∧ (mYy a).cls ≠ "java/lang/invoke/VarHandle" ∧ plainName (mYy a).cls = true ∧
    (parseMethodDescriptor (mYy a).desc).map (fun d => d.parameters.length) = some (mNa a - (1 - mSt a)) ∧ mL a ≤ 20 ∧ 1 ≤ mHt a ∧ mSt a ≤ 1 ∧ 1 ≤ mNa a + mSt a := by
  unfold mYy mNa mSt mL mHt
  generalize mE a = q at h ⊢
  unfold mokB at h
  split at h
  · simp only [Bool.and_eq_true, decide_eq_true_eq] at h
    obtain ⟨⟨⟨⟨⟨⟨⟨⟨h1, h2⟩, h3⟩, h4⟩, h5⟩, h6⟩, h7⟩, h8⟩, h9⟩ := h
    exact ⟨h1, h2, h3, h4, Nat.le_of_ble_eq_true h5, Nat.le_of_ble_eq_true h6, Nat.le_of_ble_eq_true h8, Nat.le_of_ble_eq_true h9⟩
  · cases h
theorem code_in {a : Nat} (h : mokW (mE a)) : Cond.code (mYy a) (mB a) (mL a) (mRet a) ∈ wsG := wsG_of h.1 rfl
theorem good_ws {a : Nat} (h : mokW (mE a)) : GoodIn wsG (mWs a) := by
  intro w hw
  rcases List.mem_cons.mp hw with rfl | hw
  · exact ⟨code_in h, Or.inl rfl⟩
  · exact ⟨hw, good_of_word (wsG_good w hw)⟩
theorem va_S_lo {E : XE} {sz : Nat} {H0 H : Heap} {locs : List Loc} (hE : EV E sz) (hz : sz = H0.size) (h : va_S (AA E sz) H0 H locs) : va_S (fun q => eLo E ≤ q) H0 H locs :=
  ⟨h.1, fun q h1 h2 => h.2.1 q h1 (fun z => h2 (AA_lo hE z)), fun l hl => AA_lo hE (h.2.2 l hl)⟩
section WC2
variable {E : XE} {p : Program} {e : Env} {s : State} {m : MethodId} {args : Array Value} {below : List Frame} {meth : Method} {c : Code} {R : Room} {Z : State → Prop} {k n : Nat} {H : Heap} {locs : List Loc} {lsm : Array Slot} {a x pc i : Nat} {h : Mem} {Q : Option Value → Mem → Prop}
theorem pre_U (C : CX E a p s m args meth c R k n) (hW : WD E h s H) (hS : va_S (AA E s.heap.size) s.heap H locs) {av : List Value} (U : State) (hU : U.heap = H) (hw : s.WarmedH U.vm) :
    va_Pc (av.map (cv E)) (fun U => U.heap.size = H.size ∧ WD E h U U.heap ∧ SK E U U.heap ∧ EV E H.size) (av.map (cv E)).toArray U := by
  obtain ⟨hx, hb, hml, hown, hts, hlk, hfr, hlo, hk1, hn1, hEV, hSK, hsc⟩ := C
  refine ⟨rfl, by rw [hU], ⟨by rw [hU]; exact hW.1, va_K.moved hw.alike hW.2⟩, ?_, hEV.mono hS.1⟩
  rw [hU]
  exact hSK.go hEV hS hw.alike (fun _ _ _ _ hr => vk_R.warm hw hr)
theorem blind {av : List Value} {sz : Nat} : FrameBlind (va_Pc (av.map (cv E)) (fun U => U.heap.size = sz ∧ WD E h U U.heap ∧ SK E U U.heap ∧ EV E sz)) := by
  intro a U g mk q
  obtain ⟨q0, q1, ⟨qP, qK⟩, qS, qE⟩ := q
  have al : U.vm.Alike (U.calling g mk a).vm := Vm.Alike.refl U.vm
  exact ⟨q0, q1, ⟨qP, va_K.moved (u := U) (U := U.calling g mk a) al qK⟩, ⟨qS.1.moved (u := U) (U := U.calling g mk a) al, fun i hi => vk_R.same (u := U) (U := U.calling g mk a) rfl (qS.2.1 i hi), qS.2.2.1.moved (u := U) (U := U.calling g mk a) al, qS.2.2.2.moved (u := U) (U := U.calling g mk a) al⟩, qE⟩
theorem my_virt (C : CX E a p s m args meth c R k n) (hL : lsm.size = mL a) (hW : WD E h s H) (hS : va_S (AA E s.heap.size) s.heap H locs)
    (hx0 : 0 < x) (hxl : x < mtab.length) (hst : mSt x = 0) {pos : Nat} (hlink : wdp pos = some (.methodLink (own_ (mCi a)) i (mYy x))) (hdec : decode (mB a) pc = .ok (.invokevirtual i, 3))
    {av rest : List Value} (hav : av.length = mNa x) (hrc : recvOK x av = true) (hco : callOK a x rest = true) (hc : CALL E x av h Q)
    (kk : ∀ (r : Option Value) (u : Mem) (H1 : Heap) (locs1 : List Loc), Q r u → WD E u s H1 → va_S (AA E s.heap.size) s.heap H1 locs1 → W p E.1 e R s m args below meth c H1 locs1 k n Z (F0 m (pc + 3) lsm ((r.toList ++ rest).map (cv E)))) :
    W p E.1 e R s m args below meth c H locs k n Z (F0 m pc lsm ((av.reverse ++ rest).map (cv E))) := by
  have C0 := C
  obtain ⟨hx, hb, hml, hown, hts, hlk, hfr, hlo, hk1, hn1, hEV, hSK, hsc⟩ := C
  obtain ⟨gW, gB⟩ := mtab_fact hx0 hxl
  obtain ⟨b1, b2, b3, b4, b5, b6, b7, b8⟩ := mokB_of gB
  obtain ⟨w1, w2, w3, w4⟩ := gW
  have w4' : mokS (mE x) 0 := by
    have : nthD (mE x).2.2.2.2 2 0 = 0 := hst
    rw [this] at w4
    exact w4
  unfold callOK at hco
  rw [Bool.and_eq_true] at hco
  have hc1 := Nat.le_of_ble_eq_true hco.1
  have hc2 := Nat.le_of_ble_eq_true hco.2
  match av, hrc with
  | .ref q :: As, hrc =>
    have hcls : (mYy x).cls = own_ (mCi x) := w3
    have hrecv : ∃ cellB : Cell, H[adr E q]? = some cellB ∧ cellB.vm.isStatics = false ∧ s.vm.findClass (mYy x).cls = some cellB.cls := by
      unfold recvOK at hrc
      by_cases h11 : mCi x = 11
      · rw [h11] at hrc
        simp only [Nat.beq_refl, cond_true, Bool.and_eq_true] at hrc
        have g1 := Nat.le_of_ble_eq_true hrc.1
        have g2 := Nat.le_of_ble_eq_true hrc.2
        have := vk_recv (i := q - 1001) hSK.1 (by omega) (va_S_lo hEV rfl hS)
        rw [Nat.add_sub_cancel' g1] at this
        rw [hcls, h11]
        exact this
      · have : Nat.beq (mCi x) 11 = false := by
          cases hb2 : Nat.beq (mCi x) 11 with
          | false => rfl
          | true => exact absurd (Nat.eq_of_beq_eq_true hb2) h11
        rw [this] at hrc
        simp only [cond_false] at hrc
        cases hn : nth sG q with
        | none => rw [hn] at hrc; cases hrc
        | some sh =>
          rw [hn] at hrc
          have g1 : sh.1 = mCi x + 2 := Nat.eq_of_beq_eq_true hrc
          have g2 : sh.1 < 10 := sG_ci sh (by rw [nth_get] at hn; exact List.mem_of_getElem? hn)
          obtain ⟨cl, hcl⟩ := vwCl_of (ci := mCi x) (by omega)
          have hcE : cE E (h q) sh = .inr (mCi x, cF E (h q) 0 sh.2.2) := by
            obtain ⟨s1, s2, s3⟩ := sh
            simp only at g1
            subst g1
            rfl
          have := va_recv hW.2 hW.1 (ci := mCi x) (q0 := q) (a := adr E q) (fs := cF E (h q) 0 sh.2.2) hcl (by rw [WD_get hn, hcE])
          rw [hcls, own_cl _ _ hcl]
          exact this
    have hlen : As.length = mNa x - (1 - mSt x) := by
      simp only [List.length_cons] at hav
      omega
    have hrun := va_runV (e := e) (below := below) (meth := meth) (As := As.map (cv E)) (rest := rest.map (cv E)) (b := adr E q) (Ts := wsG) (own := own_ (mCi a)) (C := (mYy x).cls) (index := i) (n := mNa x - (1 - mSt x)) (bytes := mB x) (maxL := mL x) (ret := mRet x) (cells := k) (slots := n) (locs := locs) (g := F0 m pc lsm (((.ref q :: As).reverse ++ rest).map (cv E)))
      ⟨hx, hb, hml, hown, hts⟩ (hc H.size)
      ⟨callB_of (ws' := wsG) _ hts (good_ws ⟨w1, w2, w3, w4⟩) rfl rfl rfl (hts _ (wsG_of w2 rfl)) (hts _ (wsG_of hlink rfl)) ⟨b1, b2, b4⟩ ⟨by show mHt x + 1 ≤ R.frames; omega, by show 8 + (mL x + 11) + 64 * mHt x ≤ R.locals; omega⟩, hts _ (wsG_of w4'.1 rfl), hts _ (wsG_of w4'.2 rfl)⟩
      ⟨blind, hrecv, fun U hU hw => pre_U C0 hW hS U hU hw⟩ rfl (by rw [List.length_map]; exact hlen) hL (by simp [cv]) (lv_room (by rw [csum_cv]; exact hc2)) hdec ⟨hk1, hn1⟩
    refine my_ret (a := #[]) hEV hrun hS (fun r u H1 locs1 hq hP1 hS1 => ?_)
    have := kk r u H1 locs1 hq ⟨hP1, hW.2⟩ hS1
    rw [List.map_append] at this
    cases r with
    | none => exact this
    | some v => exact this
theorem my_stat (C : CX E a p s m args meth c R k n) (hL : lsm.size = mL a) (hW : WD E h s H) (hS : va_S (AA E s.heap.size) s.heap H locs)
    (hx0 : 0 < x) (hxl : x < mtab.length) (hst : mSt x = 1) {pos : Nat} (hlink : wdp pos = some (.methodLink (own_ (mCi a)) i (mYy x))) (hdec : decode (mB a) pc = .ok (.invokestatic i, 3))
    {av rest : List Value} (hav : av.length = mNa x) (hco : callOK a x rest = true) (hc : CALL E x av h Q)
    (kk : ∀ (r : Option Value) (u : Mem) (H1 : Heap) (locs1 : List Loc), Q r u → WD E u s H1 → va_S (AA E s.heap.size) s.heap H1 locs1 → W p E.1 e R s m args below meth c H1 locs1 k n Z (F0 m (pc + 3) lsm ((r.toList ++ rest).map (cv E)))) :
    W p E.1 e R s m args below meth c H locs k n Z (F0 m pc lsm ((av.reverse ++ rest).map (cv E))) := by
  have C0 := C
  obtain ⟨hx, hb, hml, hown, hts, hlk, hfr, hlo, hk1, hn1, hEV, hSK, hsc⟩ := C
  obtain ⟨gW, gB⟩ := mtab_fact hx0 hxl
  obtain ⟨b1, b2, b3, b4, b5, b6, b7, b8⟩ := mokB_of gB
  obtain ⟨w1, w2, w3, w4⟩ := gW
  have w4' : mokS (mE x) 1 := by
    have : nthD (mE x).2.2.2.2 2 0 = 1 := hst
    rw [this] at w4
    exact w4
  unfold callOK at hco
  rw [Bool.and_eq_true] at hco
  have hc1 := Nat.le_of_ble_eq_true hco.1
  have hc2 := Nat.le_of_ble_eq_true hco.2
  have hlen : av.length = mNa x - (1 - mSt x) := by omega
  have hrun := va_runS (e := e) (below := below) (meth := meth) (As := av.map (cv E)) (rest := rest.map (cv E)) (Ts := wsG) (own := own_ (mCi a)) (index := i) (n := mNa x - (1 - mSt x)) (bytes := mB x) (maxL := mL x) (ret := mRet x) (cells := k) (slots := n) (locs := locs) (g := F0 m pc lsm ((av.reverse ++ rest).map (cv E)))
    ⟨hx, hb, hml, hown, hts⟩ (hc H.size)
    ⟨callB_of (ws' := wsG) _ hts (good_ws ⟨w1, w2, w3, w4⟩) rfl rfl rfl (hts _ (wsG_of w2 rfl)) (hts _ (wsG_of hlink rfl)) ⟨b1, b2, b4⟩ ⟨by show mHt x + 1 ≤ R.frames; omega, by show 8 + (mL x + 11) + 64 * mHt x ≤ R.locals; omega⟩, hts _ (wsG_of w4' rfl)⟩
    ⟨blind, fun U hU hw => pre_U C0 hW hS U hU hw⟩ rfl (by rw [List.length_map]; exact hlen) hL (by simp) (lv_room (by rw [csum_cv]; exact hc2)) hdec ⟨hk1, hn1⟩
  refine my_ret (a := #[]) hEV hrun hS (fun r u H1 locs1 hq hP1 hS1 => ?_)
  have := kk r u H1 locs1 hq ⟨hP1, hW.2⟩ hS1
  rw [List.map_append] at this
  cases r with
  | none => exact this
  | some v => exact this
end WC2
