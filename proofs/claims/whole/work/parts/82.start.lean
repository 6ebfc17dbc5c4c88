/-! ===== the start: what stands there ahead of all ===== -/
def tmS (i : Nat) : Term := .string RX5 (69 + 2 * i)
theorem six {P : Nat → Prop} (h0 : P 0) (h1 : P 1) (h2 : P 2) (h3 : P 3) (h4 : P 4) (h5 : P 5) : ∀ i, i < 6 → P i := fun i hi => by
  rcases (show i = 0 ∨ i = 1 ∨ i = 2 ∨ i = 3 ∨ i = 4 ∨ i = 5 by omega) with rfl | rfl | rfl | rfl | rfl | rfl <;> assumption
set_option maxRecDepth 100000 in
set_option maxHeartbeats 4000000 in
theorem fl_ex : ∀ i, i < 6 → Cond.exactly (tmS i) "java/lang/String" ∈ flatC (Jvm.Cond.and given_1 narrow_1) := by decide +kernel
set_option maxRecDepth 100000 in
set_option maxHeartbeats 4000000 in
theorem fl_co : ∀ i, i < 6 → Cond.eq (.field (tmS i) "java/lang/String" "coder" "B") (.int 0) ∈ flatC (Jvm.Cond.and given_1 narrow_1) := by decide +kernel
set_option maxRecDepth 100000 in
set_option maxHeartbeats 4000000 in
theorem fl_ar : ∀ i, i < 6 → Cond.arrayOf (.field (tmS i) "java/lang/String" "value" "[B") .byte ∈ flatC (Jvm.Cond.and given_1 narrow_1) := by decide +kernel
set_option maxRecDepth 100000 in
set_option maxHeartbeats 4000000 in
theorem fl_le : ∀ i, i < 6 → Cond.eq (.length (.field (tmS i) "java/lang/String" "value" "[B")) (.int (Int32.ofNat (lenS.getD i 0))) ∈ flatC (Jvm.Cond.and given_1 narrow_1) := by decide +kernel
set_option maxRecDepth 100000 in
set_option maxHeartbeats 4000000 in
theorem fl_el : ∀ i, i < 6 → ∀ j, j < lenS.getD i 0 → Cond.eq (.elem (.field (tmS i) "java/lang/String" "value" "[B") (.int (Int32.ofNat j))) (.int ((bytS.getD i []).getD j 0)) ∈ flatC (Jvm.Cond.and given_1 narrow_1) := by decide +kernel
set_option maxRecDepth 100000 in
set_option maxHeartbeats 4000000 in
theorem fl_ne : ∀ i, i < 6 → ∀ j, j < 6 → i ≠ j → Cond.not (Cond.eq (tmS i) (tmS j)) ∈ flatC (Jvm.Cond.and given_1 narrow_1) ∨ Cond.not (Cond.eq (tmS j) (tmS i)) ∈ flatC (Jvm.Cond.and given_1 narrow_1) := by decide +kernel
set_option maxRecDepth 100000 in
set_option maxHeartbeats 4000000 in
theorem fl_cs : Cond.eq (.static "java/lang/String" "COMPACT_STRINGS" "Z") (.int 1) ∈ flatC (Jvm.Cond.and given_1 narrow_1) ∧ Cond.isRef (.static "jdk/internal/util/Preconditions" "SIOOBE_FORMATTER" "Ljava/util/function/BiFunction;") ∈ flatC (Jvm.Cond.and given_1 narrow_1) := by decide +kernel
set_option maxRecDepth 100000 in
set_option maxHeartbeats 4000000 in
theorem sr_in : ∀ i, i < 6 → Cond.stringRef RX5 (69 + 2 * i) (nthD txS i "") ∈ lw_tbl :=
  six (P := fun i => Cond.stringRef RX5 (69 + 2 * i) (nthD txS i "") ∈ lw_tbl) (wdp_mem (p := 2059) rfl) (wdp_mem (p := 2060) rfl) (wdp_mem (p := 2061) rfl) (wdp_mem (p := 2062) rfl) (wdp_mem (p := 2063) rfl) (wdp_mem (p := 2064) rfl)
theorem sk_of {s : State} {args : Array Value} (hgv : (Jvm.Cond.and given_1 narrow_1).before args s = true) (hts : ∀ w ∈ lw_tbl, w.before args s = true) : ∃ adK adV : Nat → Nat, vk_S 6 lenS bytS adK adV (fun q => s.heap.size ≤ q) s s.heap ∧ (∀ i : Nat, i < 6 → vk_R RX5 (69 + 2 * i) (nthD txS i "") (adK i) s) ∧
    va_Z "java/lang/String" "COMPACT_STRINGS" "Z" (.int 1) (fun q => s.heap.size ≤ q) s s.heap ∧ va_Zq "jdk/internal/util/Preconditions" "SIOOBE_FORMATTER" "Ljava/util/function/BiFunction;" (fun q => s.heap.size ≤ q) s s.heap := by
  have hs := flat_of_before _ hgv
  have hA : ∀ a : Nat, a < s.heap.size → ¬ (fun q => s.heap.size ≤ q) a := fun a h z => absurd h (Nat.not_lt.mpr z)
  obtain ⟨adK, adV, h1, h2⟩ := vk_Sof (tm := tmS) (N := 6) (len := lenS) (byt := bytS) (by decide) (fun i hi => hs _ (fl_ex i hi)) (fun i hi => hs _ (fl_co i hi)) (fun i hi => hs _ (fl_ar i hi)) (fun i hi => hs _ (fl_le i hi)) (fun i hi j hj => hs _ (fl_el i hi j hj))
    (fun i j hi hj h => (fl_ne i hi j hj h).imp (hs _) (hs _)) hA
  refine ⟨adK, adV, h1, fun i hi => vk_R.of (hts _ (sr_in i hi)) (h2 i hi), va_Zof (hts _ (wdp_mem (p := 2078) rfl)) (hts _ (wdp_mem (p := 1010) rfl)) (va_eqt (hs _ fl_cs.1)) hA, va_Zqof (hts _ (wdp_mem (p := 2101) rfl)) (hts _ (wdp_mem (p := 1012) rfl)) (hs _ fl_cs.2) hA⟩
theorem vk_cg {N : Nat} {len : List Nat} {byt : List (List Int32)} {k v k' v' : Nat → Nat} {A : Nat → Prop} {U : State} {H : Heap} (ek : ∀ i, i < N → k' i = k i) (ev : ∀ i, i < N → v' i = v i) (h : vk_S N len byt k v A U H) : vk_S N len byt k' v' A U H :=
  ⟨fun i hi => by rw [ek i hi, ev i hi]; exact h.1 i hi, fun i j hi hj e => h.2 i j hi hj (by rw [← ek i hi, ← ek j hj]; exact e)⟩
theorem knw {s : State} {args : Array Value} (hts : ∀ w ∈ lw_tbl, w.before args s = true) : ∃ (dC : Nat → ClassId) (dI : Nat → Nat → Nat), ∀ (k : Nat) (q : vw_C), vwCl[k]? = some q → u_Kn s q.1 q.2.1 q.2.2 (dC k) (dI k) := by
  have one : ∀ q ∈ vwCl, Cond.instantiable q.1 q.2.2 ∈ lw_tbl := List.forall_mem_cons.mpr ⟨wdp_mem (p := 1026) rfl, List.forall_mem_cons.mpr ⟨wdp_mem (p := 1138) rfl, List.forall_mem_cons.mpr ⟨wdp_mem (p := 1109) rfl, List.forall_mem_cons.mpr ⟨wdp_mem (p := 1128) rfl, List.forall_mem_cons.mpr ⟨wdp_mem (p := 1188) rfl, List.forall_mem_cons.mpr ⟨wdp_mem (p := 1154) rfl, List.forall_mem_cons.mpr ⟨wdp_mem (p := 1018) rfl, List.forall_mem_cons.mpr ⟨wdp_mem (p := 4148) rfl, fun _ h => absurd h List.not_mem_nil⟩⟩⟩⟩⟩⟩⟩⟩
  have h0 : ∀ k : Nat, ∃ d : ClassId × (Nat → Nat), ∀ q : vw_C, vwCl[k]? = some q → u_Kn s q.1 q.2.1 q.2.2 d.1 d.2 := by
    intro k
    cases hk : vwCl[k]? with
    | none => exact ⟨(0, fun _ => 0), fun q h => by cases h⟩
    | some q =>
      have hq := List.mem_of_getElem? hk
      obtain ⟨cC, iS, h⟩ := u_known (C := q.1) (T := q.2.1) (N := q.2.2) (n := q.2.2) hts (fun w hw => wsG_in w ((clF q hq).1 w hw)) (hts _ (one q hq))
      exact ⟨(cC, iS), fun q' e => by cases e; exact h⟩
  obtain ⟨d, hd⟩ := Classical.axiomOfChoice h0
  exact ⟨fun k => (d k).1, fun k => (d k).2, fun k q h => hd k q h⟩
theorem arr_of {s : State} {args : Array Value} {ty : FieldType} (h : (Cond.arrayClass ty).before args s = true) : ∃ cA : ClassId, ArrOfT s cA ty ∧ s.vm.findClass ("[" ++ ty.toString) = some cA := by
  obtain ⟨cA, kA, comp, h1, h2, h3⟩ := Cond.arrayClass_spec h
  exact ⟨cA, fun n z => ⟨fun k h => (by cases h), kA, h2, comp, h3⟩, h1⟩
set_option maxRecDepth 100000 in
theorem nws_of {s : State} {args : Array Value} (hts : ∀ w ∈ lw_tbl, w.before args s = true) : NWs s := by
  have one : ∀ w ∈ nwL, Cond.methodLinkNest w.1 w.2.1 w.2.2.1 w.2.2.2 ∈ lw_tbl := List.forall_mem_cons.mpr ⟨wdp_mem (p := 1027) rfl, List.forall_mem_cons.mpr ⟨wdp_mem (p := 1110) rfl, List.forall_mem_cons.mpr ⟨wdp_mem (p := 1129) rfl, List.forall_mem_cons.mpr ⟨wdp_mem (p := 1139) rfl, List.forall_mem_cons.mpr ⟨wdp_mem (p := 1155) rfl, List.forall_mem_cons.mpr ⟨wdp_mem (p := 1189) rfl, List.forall_mem_cons.mpr ⟨wdp_mem (p := 1144) rfl, fun _ h => absurd h List.not_mem_nil⟩⟩⟩⟩⟩⟩⟩
  exact fun w hw => va_Nw.of rfl (hts _ (one w hw))
/-! the memory at the start -/
def hz : Mem := fun p i => bif Nat.beq p 48 then (bif Nat.beq i 3 then -9 else bif Nat.beq i 4 then -9 else 0) else bif Nat.beq p 55 then (bif Nat.beq i 3 then -1 else 0) else 0
def sz0 : St := mkSt (fun _ => 0) false (fun _ => 0) (fun _ => 0) 0 (fun _ => 0) 0 (fun _ => 0)
theorem hz_0 {p i : Nat} (h1 : p ≠ 48) (h2 : p ≠ 55) : hz p i = 0 := by
  unfold hz
  have e1 : Nat.beq p 48 = false := by
    cases h : Nat.beq p 48 with
    | false => rfl
    | true => exact absurd (Nat.eq_of_beq_eq_true h) h1
  have e2 : Nat.beq p 55 = false := by
    cases h : Nat.beq p 55 with
    | false => rfl
    | true => exact absurd (Nat.eq_of_beq_eq_true h) h2
  rw [e1, e2]; rfl
theorem wf0 : WF (fun _ => 0) := ⟨⟨Int.le_refl _, by decide⟩, fun i _ _ => ⟨Int.le_refl _, by show (0 : Int) ≤ 200; omega⟩, fun i h0 h1 => absurd h1 (by show ¬ i < 0; omega)⟩
theorem iv0 : IV hz sz0 := by
  refine ⟨⟨⟨wf0, fun i h0 h1 => absurd h1 (by show ¬ i < 0; omega)⟩, fun z => (by cases z), Nat.zero_le _, fun i hi => absurd hi (Nat.not_lt_zero i), Nat.zero_le _, fun i hi => absurd hi (Nat.not_lt_zero i)⟩, ⟨?_, rfl, fun z => (by cases z), fun i hi => hz_0 (by omega) (by omega), rfl, fun i hi => absurd hi (Nat.not_lt_zero i), rfl, fun i hi => absurd hi (Nat.not_lt_zero i)⟩, ⟨?_, rfl, fun z => (by cases z), fun i hi => hz_0 (by omega) (by omega), rfl, fun i hi => absurd hi (Nat.not_lt_zero i), rfl, fun i hi => absurd hi (Nat.not_lt_zero i)⟩⟩
  · refine ⟨hz_0 (by omega) (by omega), hz_0 (by omega) (by omega), fun i h0 h1 => absurd h1 (by show ¬ i < 0; omega), fun i h0 h1 => ⟨⟨hz_0 (by omega) (by omega), hz_0 (by omega) (by omega), hz_0 (by omega) (by omega), hz_0 (by omega) (by omega)⟩, fun l l0 l1 => hz_0 (by omega) (by omega)⟩⟩
  · intro i h0 h1
    exact hz_0 (by omega) (by omega)

/-! the law from pc 16 on, as the machine has it -/
def mkAd (L : List Nat) (b : Nat) (adK adV : Nat → Nat) : Nat → Nat := fun k => bif Nat.blt k 77 then nthD L k 0 else bif Nat.beq k 1000 then b else bif Nat.blt k 1011 then adK (k - 1001) else adV (k - 1011)
def mkE (l : Launch) (L : List Nat) (b : Nat) (adK adV : Nat → Nat) (dC : Nat → ClassId) (dI : Nat → Nat → Nat) (cI cB : ClassId) (lo : Nat) (xs : List Int32) : XE := (l, mkAd L b adK adV, dC, dI, cI, cB, lo, xs)
theorem xs_of (L : Nat) (xs : Nat → Int32) : ∃ l : List Int32, l.length = L ∧ ∀ j, j < L → l.getD j 0 = xs j := by
  refine ⟨(List.range L).map xs, by simp, fun j hj => ?_⟩
  rw [List.getD_eq_getElem?_getD, List.getElem?_map, List.getElem?_range hj]
  rfl
theorem law_fin {p : Program} {e : Env} {s : State} {m : MethodId} {below : List Frame} {meth : Method} {c : Code} {l : Launch} {b L : Nat} {xs : Nat → Int32} (hL : L ≤ 2048) (C0 : lw_At p s m meth c b L xs) {ad : List Nat} {adK adV : Nat → Nat} {dC : Nat → ClassId} {dI : Nat → Nat → Nat} {cI cB : ClassId} {xl : List Int32} (x1 : xl.length = L) (x2 : ∀ j, j < L → xl.getD j 0 = xs j)
    (kS : vk_S 6 lenS bytS adK adV (fun q => s.heap.size ≤ q) s s.heap) (kR : ∀ i : Nat, i < 6 → vk_R RX5 (69 + 2 * i) (nthD txS i "") (adK i) s) (kZ : va_Z "java/lang/String" "COMPACT_STRINGS" "Z" (.int 1) (fun q => s.heap.size ≤ q) s s.heap) (kQ : va_Zq "jdk/internal/util/Preconditions" "SIOOBE_FORMATTER" "Ljava/util/function/BiFunction;" (fun q => s.heap.size ≤ q) s s.heap)
    (hK : va_K (dC, dI) vwCl (tyA cI cB) s) {H : Heap} {locs : List Loc} {cells slots : Nat} {ls : Array Slot} (hcells : cells ≤ 600000) (hslots : slots ≤ 7302250) (hl : lv_has ls 4 [(2, .ref (nthD ad 60 0)), (1, .ref (nthD ad 0 0)), (0, .ref b)])
    (hP : va_P (dC, dI) vwCl (cWf (mkE l ad b adK adV dC dI cI cB s.heap.size xl) hz 0 sG) H) (hD : va_D (fun q => s.heap.size ≤ q) (cWf (mkE l ad b adK adV dC dI cI cB s.heap.size xl) hz 0 sG)) (hS : va_S (fun q => s.heap.size ≤ q) s.heap H locs) : W p l e room_1 s m #[Value.ref b] below meth c H locs cells slots (lw_Z below #[Value.ref b] s) (F0 m 16 ls []) := by
  obtain ⟨hx, hb, hr, hml, hown, hts, hX, hbl, hlocks, hgv⟩ := id C0
  generalize hE : mkE l ad b adK adV dC dI cI cB s.heap.size xl = E at hP hD
  have e1 : E.1 = l := by rw [← hE]; rfl
  have e2 : eLo E = s.heap.size := by rw [← hE]; rfl
  have e3 : eXs E = xl := by rw [← hE]; rfl
  have e4 : eD E = (dC, dI) := by rw [← hE]; rfl
  have e5 : eTy E = tyA cI cB := by rw [← hE]; rfl
  have e6 : adr E 1000 = b := by rw [← hE]; rfl
  have e7 : adr E 0 = nthD ad 0 0 := by rw [← hE]; rfl
  have e8 : adr E 60 = nthD ad 60 0 := by rw [← hE]; rfl
  have ek : ∀ i, i < 6 → adr E (1001 + i) = adK i := by rw [← hE]; exact six rfl rfl rfl rfl rfl rfl
  have ev : ∀ i, i < 6 → adr E (1011 + i) = adV i := by rw [← hE]; exact six rfl rfl rfl rfl rfl rfl
  have at' : ∀ i, i < sG.length → ∃ x, (cWf E hz 0 sG)[i]? = some (adr E i, x) := fun i hi => by
    have : nth sG i = some sG[i] := by rw [nth_get, List.getElem?_eq_getElem hi]
    exact ⟨_, WD_get this⟩
  have hEV : EV E s.heap.size := ⟨fun i j hi hj z => by
    obtain ⟨x, hx⟩ := at' i hi
    obtain ⟨y, hy⟩ := at' j hj
    exact hD.1 i j _ _ hx hy z, fun i hi => by
    obtain ⟨x, hx⟩ := at' i hi
    rw [e2]
    exact hD.2 i _ hx, by rw [e2]; exact Nat.le_refl _⟩
  have hSK : SK E s s.heap := by
    unfold SK
    rw [e2]
    exact ⟨vk_cg ek ev kS, fun i hi => by rw [ek i hi]; exact kR i hi, kZ, kQ⟩
  have wp := law_16 (E := E) iv0 (by rw [e3, x1]; exact hL)
  subst e1
  refine wp p e s m #[Value.ref b] below meth c room_1 (lw_Z below #[Value.ref b] s) cells slots ⟨hx, hb, hml, hown, fun w hw => hts w (wsG_in w hw), hlocks, Nat.le_of_ble_eq_true rfl, Nat.le_of_ble_eq_true rfl, hcells, hslots, hEV, hSK, fun _ => ⟨?_, ?_, ?_⟩⟩ ?_ H locs ls ?_ ⟨by rw [e4]; exact hP, by rw [e4, e5]; exact hK⟩ ⟨hS.1, fun q h1 h2 => hS.2.1 q h1 (fun z => h2 (Or.inr z)), fun l hl => Or.inr (hS.2.2 l hl)⟩
  · rw [e6, e3]
    obtain ⟨scr, h1, h2, h3, h4, h5⟩ := hX
    exact ⟨scr, h1, h2, h3, by rw [x1]; exact h4, fun j hj => by
      show scr.slots[j]? = some (Value.int (xl.getD j 0))
      rw [x2 j (by rw [← x1]; exact hj)]
      exact h5 j (by rw [← x1]; exact hj)⟩
  · rw [e6, e2]; exact hbl
  · rw [e3, x1]; omega
  · intro r u H1 locs1 lsm pc' ins hq hW hS1 hdec hrok
    have fg : ∀ q ∈ locs1, s.heap.size ≤ q.base := fun q hq => by
      have := AA_lo hEV (hS1.2.2 q hq)
      rw [e2] at this
      exact this
    match ins, r, hrok, hq with
    | .ireturn, some (.int v), _, hq =>
      have hv : v = 1 := hq
      subst hv
      exact va_forget fg (W.widen hcells hslots (lw_ret hx hb hr hlocks hdec))
    | .lreturn, some (.long v), _, hq => exact hq.elim
    | .areturn, some (.ref v), _, hq => exact hq.elim
    | .return_, none, _, hq => exact hq.elim
  · have := lv_sub hl (l' := [(0, .ref b), (1, .ref (nthD ad 0 0)), (2, .ref (nthD ad 60 0))]) [2, 1, 0] rfl
    unfold LOK
    rw [← e6, ← e7, ← e8] at this
    exact this
