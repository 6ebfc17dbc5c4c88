/-! ===== constructors: the rows that they are made of ===== -/
abbrev tyA (cI cB : ClassId) : List (ClassId × FieldType) := [(cI, .int), (cB, .boolean)]
def nwL : List (String × Nat × MethodName × String) := [(RX7, 9, yX0_init, RX7), (RX7, 28, yX3_init, RX7), (RX7, 35, yX4_init, RX7), (RX7, 42, yX1_init, RX7), (RX7, 49, yX6_init, RX7), (RX7, 56, yX5_init, RX7), (RX1, 11, yX4_init, RX7)]
def NWs (U : State) : Prop := ∀ w ∈ nwL, va_Nw (.methodLinkNest w.1 w.2.1 w.2.2.1 w.2.2.2) U
theorem NWs.warm {s U : State} (hW : s.WarmedH U.vm) (h : NWs s) : NWs U := fun w hw => va_Nw.warmM hW (h w hw)
theorem NWs.same {u U : State} (e : u.vm = U.vm) (h : NWs u) : NWs U := fun w hw => va_Nw.same rfl e (h w hw)
def KTF (p : Program) (s : State) (m : MethodId) (args : Array Value) (c : Code) (cc : ByteArray) (nL : Nat) (own : String) (D : va_G) (cI cB : ClassId) : Prop :=
  p.tables.exec = Jvm.exec ∧ c.code = cc ∧ c.maxLocals = nL ∧ s.vm.findClass own = some m.cls ∧ (∀ w ∈ wsG, w.before args s = true) ∧ va_K D vwCl (tyA cI cB) s ∧ NWs s
def PD (D : va_G) (A : Nat → Prop) (H0 : Heap) (ws : va_W) (H : Heap) (locs : List Loc) : Prop := va_P D vwCl ws H ∧ va_D A ws ∧ va_S A H0 H locs
def pushD (cc : ByteArray) (pc : Nat) (x : Int32) (len : Nat) : Prop :=
  (∃ n, decode cc pc = .ok (.iconst n, 1) ∧ Int32.ofInt n = x ∧ len = 1) ∨ (∃ n, decode cc pc = .ok (.bipush n, 2) ∧ (Int8.ofInt n).toInt32 = x ∧ len = 2) ∨ (∃ n, decode cc pc = .ok (.sipush n, 3) ∧ (Int16.ofInt n).toInt32 = x ∧ len = 3)
def CTp (l : Launch) (D : va_G) (cI cB : ClassId) (y : MethodName) (b : ByteArray) (rm : Room) (ci : Nat) (fs0 : List Value) (mc ms : Nat) (P : Nat → va_W → Prop) : Prop := ∀ h0 sz : Nat, Met l y (.code y b 1 none :: wsG) rm
  (va_Pc [.ref h0] (fun U => U.heap.size = sz ∧ va_P D vwCl [(h0, .inr (ci, fs0))] U.heap ∧ va_K D vwCl (tyA cI cB) U ∧ va_D (fun _ => True) [(h0, .inr (ci, fs0))] ∧ NWs U))
  (va_Qv (P h0) (fun u t => va_P D vwCl u t.heap ∧ va_K D vwCl (tyA cI cB) t ∧ va_D (va_A [(h0, .inr (ci, fs0))] sz) u) (va_A [(h0, .inr (ci, fs0))] sz)) mc ms (va_A [(h0, .inr (ci, fs0))] sz)
theorem rg_map (ws : va_W) (x : Nat × va_E) : (List.range ws.length).map (fun i => (ws ++ [x])[i]?) = ws.map some := by
  apply List.ext_getElem?
  intro i
  rw [List.getElem?_map, List.getElem?_map]
  by_cases h : i < ws.length
  · rw [List.getElem?_range h, Option.map_some, List.getElem?_append_left h, List.getElem?_eq_getElem h, Option.map_some]
  · rw [List.getElem?_eq_none (by simpa using h), List.getElem?_eq_none (by omega)]; rfl
theorem nd_of : ∀ l : List Nat, l.Nodup → va_nd l = true
  | [], _ => rfl
  | a :: l, h => by
    rw [List.nodup_cons] at h
    unfold va_nd
    rw [nd_of l h.2, decide_eq_true h.1]
    rfl
section CTOR
variable {p : Program} {l : Launch} {e : Env} {s : State} {m : MethodId} {args : Array Value} {below : List Frame} {meth : Method} {c : Code} {R : Room} {Q : State → Prop} {H : Heap} {locs : List Loc} {cells slots : Nat} {ls : Array Slot} {pc : Nat} {cc : ByteArray} {D : va_G} {cI cB : ClassId} {A : Nat → Prop} {H0 : Heap} {ws : va_W} {h0 ci oc nL : Nat} {fs : List Value} {r : va_W} {rest : List Value} {own : String}
theorem ct_push (F : KTF p s m args c cc nL own D cI cB) {x : Int32} {len : Nat} (hd : pushD cc pc x len) (kk : W p l e R s m args below meth c H locs cells slots Q (F0 m (pc + len) ls (.int x :: rest))) : W p l e R s m args below meth c H locs cells slots Q (F0 m pc ls rest) := by
  rcases hd with ⟨n, h1, h2, rfl⟩ | ⟨n, h1, h2, rfl⟩ | ⟨n, h1, h2, rfl⟩
  · exact lv_iconst F.1 F.2.1 h1 h2 kk
  · exact lv_bipush F.1 F.2.1 h1 h2 kk
  · exact lv_sipush F.1 F.2.1 h1 h2 kk
theorem ct_put (F : KTF p s m args c cc nL (own_ oc) D cI cB) (hin : meth.name = "<init>") (hX : PD D A H0 ((h0, .inr (ci, fs)) :: r) H locs) {idx k : Nat} {C : String} {T : u_T} {N : Nat} (hc : vwCl[ci]? = some (C, T, N)) (hi : inF oc idx ci k = true) (hdecl : (T k).1 = own_ oc) {ty : FieldType} {v : Value}
    (hd : parseFieldDescriptor (T k).2.2.1 = some ty) (hn : narrow ty v = v) (hfit : fits ty v = true) (hl : k < fs.length) (hdg : decode cc pc = .ok (.putfield idx, 3))
    (kk : ∀ (H1 : Heap) (locs1 : List Loc), PD D A H0 ((h0, .inr (ci, fs.set k v)) :: r) H1 locs1 → W p l e R s m args below meth c H1 locs1 cells slots Q (F0 m (pc + 3) ls rest)) : W p l e R s m args below meth c H locs cells slots Q (F0 m pc ls (v :: .ref h0 :: rest)) := by
  obtain ⟨hx, hb, hml, hown, hts, hK, hNW⟩ := F
  obtain ⟨hP, hD, hS⟩ := hX
  obtain ⟨C1, T1, N1, pos, f1, f2, f3⟩ := inF_of hi
  rw [hc] at f1
  cases f1
  obtain ⟨c1, ⟨ty0, c2⟩, c3⟩ := clF _ (List.mem_of_getElem? hc)
  cases hfl : (T k).2.2.2 with
  | false => exact va_put (a := h0) (T := T) (C := C) (N := N) (ref := (T k).1) (own := own_ oc) hx hb hts c1 ty0 c2 c3 hown hK hP hD hS 0 rfl hc k f2 (hts _ (wsG_of f3 rfl)) (fun _ z => z) hfl hd hn hfit hl hdg (fun H1 locs1 hP1 hD1 hS1 => kk H1 locs1 ⟨hP1, hD1, hS1⟩)
  | true => exact va_putF (a := h0) (T := T) (C := C) (N := N) (ref := (T k).1) (own := own_ oc) hx hb hts c1 ty0 c2 c3 hown hK hP hD hS 0 rfl hc k f2 (hts _ (wsG_of f3 rfl)) (fun _ z => z) hfl hin hdecl hd hn hfit hl hdg (fun H1 locs1 hP1 hD1 hS1 => kk H1 locs1 ⟨hP1, hD1, hS1⟩)
theorem ct_int (F : KTF p s m args c cc 1 (own_ oc) D cI cB) (hin : meth.name = "<init>") (hv : lv_has ls 1 [(0, .ref h0)]) (hX : PD D A H0 ((h0, .inr (ci, fs)) :: r) H locs) {idx k : Nat} {C : String} {T : u_T} {N : Nat} (hc : vwCl[ci]? = some (C, T, N)) (hi : inF oc idx ci k = true) (hdecl : (T k).1 = own_ oc) {ty : FieldType} {x : Int32} {len : Nat}
    (hd : parseFieldDescriptor (T k).2.2.1 = some ty) (hn : narrow ty (.int x) = .int x) (hfit : fits ty (.int x) = true) (hl : k < fs.length) (d0 : decode cc pc = .ok (.aload_n 0, 1)) (d1 : pushD cc (pc + 1) x len) (d2 : decode cc (pc + 1 + len) = .ok (.putfield idx, 3))
    (kk : ∀ (H1 : Heap) (locs1 : List Loc), PD D A H0 ((h0, .inr (ci, fs.set k (.int x))) :: r) H1 locs1 → W p l e R s m args below meth c H1 locs1 cells slots Q (F0 m (pc + 1 + len + 3) ls [])) : W p l e R s m args below meth c H locs cells slots Q (F0 m pc ls []) :=
  lv_aload_n F.1 F.2.1 d0 rfl (lv_at hv 0 rfl) (ct_push F d1 (ct_put F hin hX hc hi hdecl hd hn hfit hl d2 kk))
theorem ct_arr (F : KTF p s m args c cc 1 (own_ oc) D cI cB) (hin : meth.name = "<init>") (hv : lv_has ls 1 [(0, .ref h0)]) (hA : ∀ q, H0.size ≤ q → A q) (hX : PD D A H0 ((h0, .inr (ci, fs)) :: r) H locs) {idx k : Nat} {C : String} {T : u_T} {N : Nat} (hc : vwCl[ci]? = some (C, T, N)) (hi : inF oc idx ci k = true) (hdecl : (T k).1 = own_ oc)
    {atype : ArrayType} {ty : FieldType} {cA0 : ClassId} (hty : newarray.typeOf atype = ty) (hw : Cond.arrayClass (newarray.typeOf atype) ∈ wsG) (hu : ∀ cA, va_RA s cA ty → cA = cA0) {x : Int32} {len N' : Nat}
    (ha : ∀ cA : ClassId, vp_cell cA (N', .inl fun _ => 0) = arrV cA N' (fun _ => defaultValue ty)) (hx0 : ¬ x < 0) (hxN : x.toNatClampNeg = N') (hby : N' * componentBytes ty ≤ 536870912)
    {ty2 : FieldType} (hd : parseFieldDescriptor (T k).2.2.1 = some ty2) (hn : ∀ q, narrow ty2 (.ref q) = .ref q) (hfit : ∀ q, fits ty2 (.ref q) = true) (hl : k < fs.length) (hcells : cells + 1 ≤ R.cells) (hslots : slots + N' ≤ R.slots)
    (d0 : decode cc pc = .ok (.aload_n 0, 1)) (d1 : pushD cc (pc + 1) x len) (d2 : decode cc (pc + 1 + len) = .ok (.newarray atype, 2)) (d3 : decode cc (pc + 1 + len + 2) = .ok (.putfield idx, 3))
    (kk : ∀ (q : Nat) (H1 : Heap) (locs1 : List Loc), PD D A H0 ((h0, .inr (ci, fs.set k (.ref q))) :: (r ++ [(q, .inl (cA0, N', .inl fun _ => 0))])) H1 locs1 → W p l e R s m args below meth c H1 locs1 (cells + 1) (slots + N') Q (F0 m (pc + 1 + len + 2 + 3) ls [])) : W p l e R s m args below meth c H locs cells slots Q (F0 m pc ls []) := by
  refine lv_aload_n F.1 F.2.1 d0 rfl (lv_at hv 0 rfl) (ct_push F d1 ?_)
  obtain ⟨hP, hD, hS⟩ := id hX
  refine va_newa (atype := atype) (a0 := (N', .inl fun _ => 0)) F.1 F.2.1 (F.2.2.2.2.1 _ hw) hty F.2.2.2.2.2.1 hP hD hS hA ha hx0 hxN hby hcells hslots d2 (fun q cA H1 hK1 hP1 hD1 hS1 => ?_)
  have ec : cA = cA0 := hu cA (hK1.2 2 (cA, ty) rfl).2
  subst ec
  exact ct_put F hin ⟨hP1, hD1, hS1⟩ hc hi hdecl hd (hn q) (hfit q) hl d3 (fun H2 locs2 hX2 => kk q H2 locs2 hX2)
theorem ct_new (F : KTF p s m args c cc nL own D cI cB) (hsz : ls.size = nL) (hA : ∀ q, H0.size ≤ q → A q) (hX : PD D A H0 ws H locs) {idx i2 cj : Nat} {C : String} {T : u_T} {N : Nat} (hc : vwCl[cj]? = some (C, T, N)) (ty : Nat → FieldType) (hty : ∀ k, k < N → parseFieldDescriptor (T k).2.2.1 = some (ty k))
    {fs0 : List Value} (hfs : ∀ j, j < N → defaultValue (ty j) = vp_V fs0 j) {y : MethodName} {b : ByteArray} {rm : Room} {mc ms : Nat} {P : Nat → va_W → Prop} (hM : CTp l D cI cB y b rm cj fs0 mc ms P) (hyC : y.cls = C)
    (w1 : Cond.classLink own idx C ∈ wsG) (w2 : Cond.instantiable C N ∈ wsG) (w3 : Cond.initialized C ∈ wsG) (w4 : Cond.methodLink own i2 y ∈ wsG ∨ ∃ host, (own, i2, y, host) ∈ nwL) (w5 : Cond.instanceMethod y ∈ wsG) (w6 : Cond.code y b 1 none ∈ wsG)
    (hy : y.name = "<init>") (hpd : y.cls ≠ "java/lang/invoke/MethodHandle" ∧ y.cls ≠ "java/lang/invoke/VarHandle" ∧ (parseMethodDescriptor y.desc).map (fun d => d.parameters.length) = some 0) (hrc : rm.cells = mc) (hrs : rm.slots = ms) (hR : rm.frames + 1 ≤ R.frames ∧ 8 + (1 + 11) + rm.locals ≤ R.locals)
    (hst : ((Value.null :: rest).map fun v => v.category).sum ≤ 8) (hcells : cells + 1 + mc ≤ R.cells) (hslots : slots + N + ms ≤ R.slots) (d0 : decode cc pc = .ok (.new idx, 3)) (d1 : decode cc (pc + 3) = .ok (.dup, 1)) (d2 : decode cc (pc + 3 + 1) = .ok (.invokespecial i2, 3))
    (kk : ∀ (q : Nat) (u : va_W) (H1 : Heap) (locs1 : List Loc), P q u → PD D A H0 (ws ++ u) H1 locs1 → W p l e R s m args below meth c H1 locs1 (cells + 1 + mc) (slots + N + ms) Q (F0 m (pc + 3 + 1 + 3) ls (.ref q :: rest))) : W p l e R s m args below meth c H locs cells slots Q (F0 m pc ls rest) := by
  obtain ⟨hx, hb, hml, hown, hts, hK, hNW⟩ := F
  obtain ⟨hP, hD, hS⟩ := hX
  obtain ⟨c1, -, c3⟩ := clF _ (List.mem_of_getElem? hc)
  refine va_new (ci := cj) (fs := fs0) (C := C) (T := T) (N := N) hx hb hts c1 ty hty hown (hts _ w1) (hts _ w2) (hts _ w3) hK hP hD hS hA hc hfs (by omega) (by omega) d0 (fun q H2 hP2 hD2 hS2 => ?_)
  refine lv_dup hx hb d1 rfl ?_
  have eC : [ws.length].map (fun i => (ws ++ [(q, (.inr (cj, fs0) : va_E))])[i]?) = [(q, (.inr (cj, fs0) : va_E))].map some := by simp
  have hPc : va_P D vwCl [(q, .inr (cj, fs0))] H2 := fun k x hk => hP2 (ws.length + k) x (by
    rw [List.getElem?_append_right (by omega), show ws.length + k - ws.length = k by omega]; exact hk)
  have hFc := va_free (wc := [(q, .inr (cj, fs0))]) hD2 hS2 hA [ws.length] eC
  have hDc : va_D (fun _ => True) [(q, (.inr (cj, fs0) : va_E))] := ⟨fun i j a b ha hb _ => by
    have h1 : i < 1 := (List.getElem?_eq_some_iff.mp ha).1
    have h2 : j < 1 := (List.getElem?_eq_some_iff.mp hb).1
    omega, fun _ _ _ => trivial⟩
  have hG : GoodIn wsG (.code y b 1 none :: wsG) := by
    intro w hw
    rcases List.mem_cons.mp hw with rfl | hw
    · exact ⟨w6, Or.inl rfl⟩
    · exact ⟨hw, good_of_word (wsG_good w hw)⟩
  have hPS : PreS s H2 (va_Pc [.ref q] (fun U => U.heap.size = H2.size ∧ va_P D vwCl [(q, .inr (cj, fs0))] U.heap ∧ va_K D vwCl (tyA cI cB) U ∧ va_D (fun _ => True) [(q, .inr (cj, fs0))] ∧ NWs U)) [.ref q] :=
    ⟨fun a U g mk z => by obtain ⟨q0, q1, qP, qK, qD, qN⟩ := z; exact ⟨q0, q1, qP, va_K.moved (u := U) (U := U.calling g mk a) (Vm.Alike.refl U.vm) qK, qD, qN.same (u := U) (U := U.calling g mk a) rfl⟩, fun U hU hW => ⟨rfl, by rw [hU], by rw [hU]; exact hPc, va_K.moved hW.alike hK, hDc, hNW.warm hW⟩⟩
  have hrun : va_Run p l e R s m args below meth c H2 locs (cells + 1) (slots + N) mc ms (F0 m (pc + 3 + 1) ls (.ref q :: .ref q :: rest)) (.ref q :: rest) (va_Qv (P q) (fun u t => va_P D vwCl u t.heap ∧ va_K D vwCl (tyA cI cB) t ∧ va_D (va_A [(q, .inr (cj, fs0))] H2.size) u) (va_A [(q, .inr (cj, fs0))] H2.size) #[.ref q]) (va_A [(q, .inr (cj, fs0))] H2.size) := by
    rcases w4 with h4 | ⟨host, h4⟩
    · exact va_runI (As := []) (rest := .ref q :: rest) ⟨hx, hb, hml, hown, hts⟩ (hM q H2.size) (cwI 0 hts hG rfl hrc hrs (by rw [hyC]; exact hts _ w3) (hts _ h4) (hts _ w5) hy hpd hR) hPS rfl rfl hsz rfl (lv_room hst) d2 ⟨hcells, hslots⟩
    · exact va_runIN (As := []) (rest := .ref q :: rest) ⟨hx, hb, hml, hown, hts⟩ (hM q H2.size) ⟨va_cnB 0 hts hG rfl hrc hrs (hNW _ h4) (by rw [hyC]; exact hts _ w3) hpd hR, hy, hts _ w5⟩ hPS rfl rfl hsz rfl (lv_room hst) d2 ⟨hcells, hslots⟩
  refine va_callv hrun hS2 (fun q _ h => hFc q h) hFc (fun u t H3 locs3 ht hvm hw hB hz1 hk1 hS3 => ?_)
  obtain ⟨hP3, -, hD3⟩ := hB
  rw [ht] at hP3
  obtain ⟨hP4, hD4⟩ := va_join (wr := ws) (w1 := u) hP2 hD2 [ws.length] (List.range ws.length) eC (rg_map ws _) (nd_of _ List.nodup_range) (fun i hi z => by
    rw [List.mem_range] at hi
    rw [List.mem_singleton] at z
    omega) hk1 hFc hP3 hD3
  exact kk q u H3 locs3 hw ⟨hP4, hD4, hS3⟩
theorem ct_obj (F : KTF p s m args c cc 1 (own_ oc) D cI cB) (hin : meth.name = "<init>") (hv : lv_has ls 1 [(0, .ref h0)]) (hA : ∀ q, H0.size ≤ q → A q) (hX : PD D A H0 ((h0, .inr (ci, fs)) :: r) H locs) {idx i2 i3 cj k : Nat} {C0 : String} {T0 : u_T} {N0 : Nat} (hc0 : vwCl[ci]? = some (C0, T0, N0)) (hi : inF oc i3 ci k = true) (hdecl : (T0 k).1 = own_ oc)
    {C : String} {T : u_T} {N : Nat} (hc : vwCl[cj]? = some (C, T, N)) (ty : Nat → FieldType) (hty : ∀ k, k < N → parseFieldDescriptor (T k).2.2.1 = some (ty k))
    {fs0 : List Value} (hfs : ∀ j, j < N → defaultValue (ty j) = vp_V fs0 j) {y : MethodName} {b : ByteArray} {rm : Room} {mc ms : Nat} {P : Nat → va_W → Prop} (hM : CTp l D cI cB y b rm cj fs0 mc ms P) (hyC : y.cls = C)
    (w1 : Cond.classLink (own_ oc) idx C ∈ wsG) (w2 : Cond.instantiable C N ∈ wsG) (w3 : Cond.initialized C ∈ wsG) (w4 : Cond.methodLink (own_ oc) i2 y ∈ wsG ∨ ∃ host, (own_ oc, i2, y, host) ∈ nwL) (w5 : Cond.instanceMethod y ∈ wsG) (w6 : Cond.code y b 1 none ∈ wsG)
    (hy : y.name = "<init>") (hpd : y.cls ≠ "java/lang/invoke/MethodHandle" ∧ y.cls ≠ "java/lang/invoke/VarHandle" ∧ (parseMethodDescriptor y.desc).map (fun d => d.parameters.length) = some 0) (hrc : rm.cells = mc) (hrs : rm.slots = ms) (hR : rm.frames + 1 ≤ R.frames ∧ 8 + (1 + 11) + rm.locals ≤ R.locals)
    {ty2 : FieldType} (hd : parseFieldDescriptor (T0 k).2.2.1 = some ty2) (hn : ∀ q, narrow ty2 (.ref q) = .ref q) (hfit : ∀ q, fits ty2 (.ref q) = true) (hl : k < fs.length) (hcells : cells + 1 + mc ≤ R.cells) (hslots : slots + N + ms ≤ R.slots)
    (da : decode cc pc = .ok (.aload_n 0, 1)) (d0 : decode cc (pc + 1) = .ok (.new idx, 3)) (d1 : decode cc (pc + 1 + 3) = .ok (.dup, 1)) (d2 : decode cc (pc + 1 + 3 + 1) = .ok (.invokespecial i2, 3)) (d3 : decode cc (pc + 1 + 3 + 1 + 3) = .ok (.putfield i3, 3))
    (kk : ∀ (q : Nat) (u : va_W) (H1 : Heap) (locs1 : List Loc), P q u → PD D A H0 ((h0, .inr (ci, fs.set k (.ref q))) :: (r ++ u)) H1 locs1 → W p l e R s m args below meth c H1 locs1 (cells + 1 + mc) (slots + N + ms) Q (F0 m (pc + 1 + 3 + 1 + 3 + 3) ls [])) : W p l e R s m args below meth c H locs cells slots Q (F0 m pc ls []) := by
  refine lv_aload_n F.1 F.2.1 da rfl (lv_at hv 0 rfl) ?_
  refine ct_new (nL := 1) F hv.1 hA hX hc ty hty hfs hM hyC w1 w2 w3 w4 w5 w6 hy hpd hrc hrs hR (Nat.le_of_ble_eq_true rfl) hcells hslots d0 d1 d2 (fun q u H1 locs1 hu hX1 => ?_)
  exact ct_put F hin hX1 hc0 hi hdecl hd (hn q) (hfit q) hl d3 (fun H2 locs2 hX2 => kk q u H2 locs2 hu hX2)
end CTOR
theorem ct_of {l : Launch} {D : va_G} {cI cB : ClassId} {y : MethodName} {b : ByteArray} {rm : Room} {ci oc : Nat} {fs0 : List Value} {mc ms i0 : Nat} {P : Nat → va_W → Prop} (hy : plainName y.cls = true) (hyo : y.cls = own_ oc) (hyn : y.name = "<init>") (hfr : 1 ≤ rm.frames) (hlo : 12 ≤ rm.locals)
    (d0 : decode b 0 = .ok (.aload_n 0, 1)) (d1 : decode b 1 = .ok (.invokespecial i0, 3)) (w1 : Cond.methodLink (own_ oc) i0 objectInit ∈ wsG) (w2 : Cond.instanceMethod objectInit ∈ wsG) (w3 : Cond.code objectInit ⟨#[0xb1]⟩ 1 none ∈ wsG)
    (body : ∀ (h0 : Nat) (p : Program) (e : Env) (s : State) (m : MethodId) (args : Array Value) (below : List Frame) (meth : Method) (c : Code) (A : Nat → Prop) (ls : Array Slot) (Q : State → Prop), KTF p s m args c b 1 (own_ oc) D cI cB → meth.name = "<init>" → lv_has ls 1 [(0, .ref h0)] → (∀ q, s.heap.size ≤ q → A q) → PD D A s.heap [(h0, .inr (ci, fs0))] s.heap [] →
      (∀ (u : va_W) (H : Heap) (locs : List Loc) (pc : Nat), P h0 u → PD D A s.heap u H locs → decode b pc = .ok (.return_, 1) → W p l e { rm with cells := rm.cells, slots := rm.slots } s m args below meth c H locs mc ms Q (F0 m pc ls [])) →
      W p l e rm s m args below meth c s.heap [] 0 0 Q (F0 m 4 ls [])) : CTp l D cI cB y b rm ci fs0 mc ms P := by
  intro h0 sz
  refine Met.ofW (cc := b) (maxL := 1) (ret := none) hy rfl ?_
  intro p e s m args below meth c s₁ B hml hv
  obtain ⟨rfl, hsz, hP, hK, hD0, hNW⟩ := hv
  have hx := B.exec
  have hb := B.bytes
  have hr := B.returns
  have hts := atoms_spec (ws := .code y b 1 none :: wsG) B.pre
  have hts2 : ∀ w ∈ wsG, w.before #[Value.ref h0] s = true := fun w hw => hts w (List.mem_cons_of_mem _ hw)
  have hown : s.vm.findClass (own_ oc) = some m.cls := by rw [← hyo]; exact findClass_of_methodNamed B.named
  have hlocks := B.notSynchronized
  have hin : meth.name = "<init>" := ((name_of_methodNamed B.named B.method).1).trans hyn
  subst hsz
  have hD := hD0.self (sz := s.heap.size)
  have hA : ∀ q : Nat, s.heap.size ≤ q → va_A [(h0, (.inr (ci, fs0) : va_E))] s.heap.size q := fun q h => Or.inr h
  have hl := lv_entry ([.ref h0]) (n := 1) (Nat.le_of_ble_eq_true rfl)
  rw [lg_entry_eq]
  generalize (lg_sl ([.ref h0]) ++ List.replicate (1 - (lg_sl ([.ref h0])).length) Slot.unset).toArray = ls at hl ⊢
  have hl : lv_has ls 1 [(0, .ref h0)] := hl
  refine lv_aload_n hx hb d0 rfl (lv_at hl 0 rfl) ?_
  refine W.objInit hx hb hown (hts2 _ w1) (hts2 _ w2) (hts2 _ w3) rfl (by rw [hml]; exact hl.1) rfl d1 hfr (by show 2 * 0 + 0 + 12 ≤ rm.locals; omega) ?_
  refine W.eq (g2 := F0 m 4 ls []) rfl ?_
  refine body h0 p e s m _ below meth c _ ls _ ⟨hx, hb, hml, hown, hts2, hK, hNW⟩ hin hl hA ⟨hP, hD, va_S.rf⟩ ?_
  intro u H locs pc hu hX hdec
  exact W.vret hx hb hr (fun t ht hW => ⟨⟨u, rfl, hu, by rw [ht]; exact hX.1, va_K.moved hW.alike hK, hX.2.1⟩, hX.2.2.F ht⟩) hX.2.2.2.2 hdec
