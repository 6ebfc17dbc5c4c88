/-! ===== stretches of code; a method's contract ===== -/
def getI : List XI → Nat → Option (Instr × Nat × Nat × Int32 × Int64)
  | [], _ => none
  | (pc, ins, _, x, y, c, d) :: t, q => bif Nat.beq pc q then some (ins, x, y, c, d) else getI t q
theorem getI_mem : ∀ (cd : List XI) (q : Nat) (ins : Instr) (x y : Nat) (c : Int32) (d : Int64), getI cd q = some (ins, x, y, c, d) → ∃ len, (q, ins, len, x, y, c, d) ∈ cd
  | [], q, ins, x, y, c, d, h => by cases h
  | (pc, ins', len', x', y', c', d') :: t, q, ins, x, y, c, d, h => by
    unfold getI at h
    cases hb : Nat.beq pc q with
    | true =>
      rw [hb] at h
      simp only [cond_true, Option.some.injEq, Prod.mk.injEq] at h
      obtain ⟨rfl, rfl, rfl, rfl, rfl⟩ := h
      have := Nat.eq_of_beq_eq_true hb
      subst this
      exact ⟨len', List.mem_cons_self⟩
    | false =>
      rw [hb] at h
      simp only [cond_false] at h
      obtain ⟨len, hl⟩ := getI_mem t q ins x y c d h
      exact ⟨len, List.mem_cons_of_mem _ hl⟩
def entA : List Value → List (Option Value)
  | [] => []
  | v :: t => some v :: (bif Nat.beq v.category 2 then none :: entA t else entA t)
def padL : Nat → List (Option Value) → List (Option Value)
  | 0, _ => []
  | n + 1, [] => none :: padL n []
  | n + 1, v :: t => v :: padL n t
theorem padL_nth : ∀ (n : Nat) (l : List (Option Value)) (j : Nat) (v : Value), nth (padL n l) j = some (some v) → nth l j = some (some v)
  | 0, l, j, v, h => by simp [padL, nth] at h
  | n + 1, [], 0, v, h => by simp [padL, nth] at h
  | n + 1, [], j + 1, v, h => by
    have := padL_nth n [] j v (by simpa [padL, nth] using h)
    simp [nth] at this
  | n + 1, w :: t, 0, v, h => by simpa [padL, nth] using h
  | n + 1, w :: t, j + 1, v, h => padL_nth n t j v (by simpa [padL, nth] using h)
theorem entA_mem (E : XE) : ∀ (av : List Value) (i j : Nat) (v : Value), nth (entA av) j = some (some v) → (i + j, cv E v) ∈ lv_args i (av.map (cv E))
  | [], i, j, v, h => by simp [entA, nth] at h
  | w :: t, i, 0, v, h => by
    simp only [entA, nth, Option.some.injEq] at h
    subst h
    exact List.mem_cons_self
  | w :: t, i, j + 1, v, h => by
    simp only [entA, nth] at h
    refine List.mem_cons_of_mem _ ?_
    by_cases hw : w.category = 2
    · have hb : Nat.beq w.category 2 = true := by rw [hw]; rfl
      rw [hb] at h
      simp only [cond_true] at h
      rw [cv_cat, if_pos hw]
      cases j with
      | zero => simp [nth] at h
      | succ j =>
        have := entA_mem E t (i + 2) j v (by simpa [nth] using h)
        rw [show i + (j + 1 + 1) = i + 2 + j by omega]
        exact this
    · have hb : Nat.beq w.category 2 = false := by
        cases hb : Nat.beq w.category 2 with
        | false => rfl
        | true => exact absurd (Nat.eq_of_beq_eq_true hb) hw
      rw [hb] at h
      simp only [cond_false] at h
      rw [cv_cat, if_neg hw]
      have := entA_mem E t (i + 1) j v h
      rw [show i + (j + 1) = i + 1 + j by omega]
      exact this
/-- fewer locals known -/
def maskL : List Nat → List (Option Value) → List (Option Value)
  | 0 :: m, _ :: t => none :: maskL m t
  | _ :: m, v :: t => v :: maskL m t
  | [], _ => []
  | _, [] => []
theorem maskL_nth : ∀ (m : List Nat) (l : List (Option Value)) (j : Nat) (v : Value), nth (maskL m l) j = some (some v) → nth l j = some (some v)
  | [], l, j, v, h => by simp [maskL, nth] at h
  | 0 :: m, [], j, v, h => by simp [maskL, nth] at h
  | (k + 1) :: m, [], j, v, h => by simp [maskL, nth] at h
  | 0 :: m, w :: t, 0, v, h => by simp [maskL, nth] at h
  | 0 :: m, w :: t, j + 1, v, h => maskL_nth m t j v (by simpa [maskL, nth] using h)
  | (k + 1) :: m, w :: t, 0, v, h => by simpa [maskL, nth] using h
  | (k + 1) :: m, w :: t, j + 1, v, h => maskL_nth m t j v (by simpa [maskL, nth] using h)
theorem entA_len (E : XE) : ∀ av : List Value, (lg_sl (av.map (cv E))).length = (entA av).length
  | [] => rfl
  | w :: t => by
    have ih := entA_len E t
    unfold lg_sl at ih ⊢
    rw [List.map_cons, List.flatMap_cons, List.length_append, ih, entA, cv_cat]
    by_cases hw : w.category = 2
    · have hb : Nat.beq w.category 2 = true := by rw [hw]; rfl
      rw [if_pos hw, hb]
      simp
      omega
    · have hb : Nat.beq w.category 2 = false := by
        cases hb : Nat.beq w.category 2 with
        | false => rfl
        | true => exact absurd (Nat.eq_of_beq_eq_true hb) hw
      rw [if_neg hw, hb]
      simp
      omega
def fcut : List (Nat × List Nat) → Nat → Option (List Nat)
  | [], _ => none
  | (pc, m) :: t, q => bif Nat.beq pc q then some m else fcut t q
def wpF (E : XE) (a : Nat) (cut : List (Nat × List Nat)) (cd : List XI) (Q : Option Value → Mem → Prop) : Nat → Nat → List (Option Value) → List Value → Mem → Prop
  | 0, pc, ls, st, h => WP E a pc ls st h Q
  | n + 1, pc, ls, st, h => match getI cd pc with
    | some (ins, x, y, c, d) => stepP E a (fun pc' ls' st' h' => match fcut cut pc' with
      | some m => WP E a pc' (maskL m ls') st' h' Q
      | none => wpF E a cut cd Q n pc' ls' st' h') Q pc ins x y c d ls st h
    | none => False
theorem WP_mask {E : XE} {a pc : Nat} {m : List Nat} {ls : List (Option Value)} {st : List Value} {h : Mem} {Q : Option Value → Mem → Prop} (hw : WP E a pc (maskL m ls) st h Q) : WP E a pc ls st h Q := by
  intro p e s mm args below meth c R Z k n C hend H locs lsm hL hW hS
  refine hw p e s mm args below meth c R Z k n C hend H locs lsm ⟨hL.1, hL.2.1, fun q hq => hL.2.2 q ?_⟩ hW hS
  obtain ⟨j, v, h1, rfl⟩ := (lvO_mem E _ 0 q).mp hq
  exact (lvO_mem E _ 0 _).mpr ⟨j, v, maskL_nth _ _ _ _ h1, rfl⟩
theorem wp_sound {E : XE} {a : Nat} (cut : List (Nat × List Nat)) {cd : List XI} (hcd : cd.all (entOK (mCi a) (mB a)) = true) {Q : Option Value → Mem → Prop} : ∀ (n : Nat) {pc : Nat} {ls : List (Option Value)} {st : List Value} {h : Mem},
    wpF E a cut cd Q n pc ls st h → WP E a pc ls st h Q
  | 0, pc, ls, st, h, hw => hw
  | n + 1, pc, ls, st, h, hw => by
    unfold wpF at hw
    cases hg : getI cd pc with
    | none => rw [hg] at hw; exact hw.elim
    | some q =>
      obtain ⟨ins, x, y, c, d⟩ := q
      rw [hg] at hw
      obtain ⟨len, hl⟩ := getI_mem cd pc ins x y c d hg
      refine step_ok (List.all_eq_true.mp hcd _ hl) (fun pc' ls' st' h' hk => ?_) hw
      cases hc : fcut cut pc' with
      | some m => rw [hc] at hk; exact WP_mask hk
      | none => rw [hc] at hk; exact wp_sound cut hcd n hk
theorem mtab_len : mtab.length = 249 := by decide +kernel
theorem CALL_of {E : XE} {a : Nat} {av : List Value} {h : Mem} {Q : Option Value → Mem → Prop} (ha : (Nat.blt 0 a && Nat.blt a 249 && Nat.ble (entA av).length (mL a)) = true)
    (hw : WP E a 0 (padL (mL a) (entA av)) [] h Q) : CALL E a av h Q := by
  intro sz
  simp only [Bool.and_eq_true] at ha
  obtain ⟨⟨h0, hl⟩, hlen⟩ := ha
  have h0 := Nat.le_of_ble_eq_true h0
  have hl : a < mtab.length := by rw [mtab_len]; exact Nat.le_of_ble_eq_true hl
  have hlen := Nat.le_of_ble_eq_true hlen
  obtain ⟨gW, gB⟩ := mtab_fact h0 hl
  obtain ⟨b1, b2, b3, b4, b5, b6, b7, b8⟩ := mokB_of gB
  refine Met.ofW (cc := mB a) (maxL := mL a) (ret := mRet a) b3 rfl ?_
  intro p e s m args below meth c s₁ B hml hv
  obtain ⟨rfl, hsz, hWD, hSK, hEV⟩ := hv
  subst hsz
  have hx := B.exec
  have hb := B.bytes
  have hr := B.returns
  have hts := atoms_spec (ws := mWs a) B.pre
  have hcls : (mYy a).cls = own_ (mCi a) := gW.2.2.1
  have hown : s.vm.findClass (own_ (mCi a)) = some m.cls := by rw [← hcls]; exact findClass_of_methodNamed B.named
  have hlocks := B.notSynchronized
  have hlv := lv_entry (av.map (cv E)) (n := mL a) (by rw [entA_len]; exact hlen)
  rw [lg_entry_eq]
  have hLK : LOK E (mL a) ((lg_sl (av.map (cv E)) ++ List.replicate (mL a - (lg_sl (av.map (cv E))).length) Slot.unset).toArray) (padL (mL a) (entA av)) := by
    refine ⟨hlv.1, hlv.2.1, fun q hq => hlv.2.2 q ?_⟩
    obtain ⟨j, v, h1, rfl⟩ := (lvO_mem E _ 0 q).mp hq
    exact entA_mem E av 0 j v (padL_nth _ _ _ _ h1)
  have hne : a ≠ 0 := Nat.ne_of_gt h0
  refine hw p e s m ((av.map (cv E)).toArray) below meth c (mRm a) (MQ below _ _ s 0 0 _) 0 0 ⟨hx, hb, hml, hown, fun w hw => hts w (List.mem_cons_of_mem _ hw), hlocks, Nat.le_refl _, Nat.le_refl _, Nat.zero_le _, Nat.zero_le _, hEV, hSK, fun z => absurd z hne⟩ ?_ s.heap [] _ hLK hWD va_S.rf
  intro r u H locs lsm pc' ins hq hWu hS hdec hrok
  match ins, r, hrok with
  | .ireturn, some (.int v), ⟨ty, e1, e2⟩ => exact W.zret hx hb (hr.trans e1) e2 (fun t ht hW => ⟨⟨_, u, rfl, hq, by rw [ht]; exact hWu.1⟩, hS.F ht⟩) hS.2.2 hdec
  | .lreturn, some (.long v), e1 => exact W.lret hx hb (hr.trans e1) (fun t ht hW => ⟨⟨_, u, rfl, hq, by rw [ht]; exact hWu.1⟩, hS.F ht⟩) hS.2.2 hdec
  | .areturn, some (.ref v), ⟨nn, e1⟩ => exact W.aret hx hb (hr.trans e1) (Or.inl ⟨_, rfl⟩) (Or.inr ⟨_, rfl⟩) (fun t ht hW => ⟨⟨_, u, rfl, hq, by rw [ht]; exact hWu.1⟩, hS.F ht⟩) hS.2.2 hdec
  | .return_, none, e1 => exact W.vret hx hb (hr.trans e1) (fun t ht hW => ⟨⟨_, u, rfl, hq, by rw [ht]; exact hWu.1⟩, hS.F ht⟩) hS.2.2 hdec
theorem all_app {α : Type} {f : α → Bool} {a b : List α} (h1 : a.all f = true) (h2 : b.all f = true) : (a ++ b).all f = true := by rw [List.all_append, h1, h2]; rfl
