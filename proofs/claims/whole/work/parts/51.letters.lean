/-! ===== the telling: letters read ===== -/
def hr (ln : Nat) (lt : Nat → Int) (i : Nat) : Int := if i < ln then lt i else -1
def isDg (c : Int) : Bool := decide (48 ≤ c ∧ c ≤ 57)
def numP (ln : Nat) (lt : Nat → Int) (i : Nat) : Option (Int × Nat) :=
  if isDg (hr ln lt i) = true then (if isDg (hr ln lt (i + 1)) = true then some ((hr ln lt i - 48) * 10 + hr ln lt (i + 1) - 48, i + 2) else some (hr ln lt i - 48, i + 1)) else none
def mkL (c : Int) : List Int := if c = 116 then [44, 44, 59] else if c = 111 ∨ c = 114 then [61, 59] else if c = 107 then [61, 44, 59] else if c = 104 then [44, 61, 59] else if c = 120 then [59] else []
def rdM (ln : Nat) (lt : Nat → Int) : List Int → Nat → Nat × Option (List Int)
  | [], i => (i, some [])
  | m :: ms, i => match numP ln lt i with
    | none => (i, none)
    | some (v, j) => if hr ln lt j = m then (match rdM ln lt ms (j + 1) with
      | (q, some l) => (q, some (v :: l))
      | (q, none) => (q, none)) else (j, none)
def stm (ln : Nat) (lt : Nat → Int) (i : Nat) : Nat × Option (List Int) := if mkL (hr ln lt i) = [] then (i, none) else rdM ln lt (mkL (hr ln lt i)) (i + 1)
section TP
variable {ln : Nat} {lt : Nat → Int}
theorem numP_b {i j : Nat} {v : Int} (h : numP ln lt i = some (v, j)) : (0 ≤ v ∧ v ≤ 99) ∧ i < j ∧ j ≤ i + 2 ∧ i < ln ∧ j ≤ ln := by
  unfold numP isDg at h
  have e0 : ∀ k, ¬ k < ln → hr ln lt k = -1 := fun k hk => if_neg hk
  by_cases c1 : 48 ≤ hr ln lt i ∧ hr ln lt i ≤ 57
  · have l1 : i < ln := by
      apply Decidable.byContradiction
      intro z
      rw [e0 i z] at c1
      omega
    rw [if_pos (by simpa using c1)] at h
    by_cases c2 : 48 ≤ hr ln lt (i + 1) ∧ hr ln lt (i + 1) ≤ 57
    · have l2 : i + 1 < ln := by
        apply Decidable.byContradiction
        intro z
        rw [e0 (i + 1) z] at c2
        omega
      rw [if_pos (by simpa using c2)] at h
      simp only [Option.some.injEq, Prod.mk.injEq] at h
      omega
    · rw [if_neg (by simpa using c2)] at h
      simp only [Option.some.injEq, Prod.mk.injEq] at h
      omega
  · rw [if_neg (by simpa using c1)] at h
    cases h
theorem rdM_le : ∀ (ms : List Int) (i : Nat), i ≤ ln → (∀ m ∈ ms, 0 ≤ m) → i ≤ (rdM ln lt ms i).1 ∧ (rdM ln lt ms i).1 ≤ ln
  | [], i, hi, _ => ⟨Nat.le_refl _, hi⟩
  | m :: ms, i, hi, hm => by
    unfold rdM
    split
    · exact ⟨Nat.le_refl _, hi⟩
    · rename_i v j e
      have b := numP_b e
      by_cases c : hr ln lt j = m
      · rw [if_pos c]
        have hj : j < ln := by
          apply Decidable.byContradiction
          intro z
          have : hr ln lt j = -1 := if_neg z
          have := hm m List.mem_cons_self
          omega
        have ih := rdM_le ms (j + 1) (by omega) (fun x hx => hm x (List.mem_cons_of_mem _ hx))
        cases hq : rdM ln lt ms (j + 1) with
        | mk q o =>
          rw [hq] at ih
          simp only at ih
          cases o with
          | none => simp only; omega
          | some l => simp only; omega
      · rw [if_neg c]
        simp only
        omega
theorem rdM_vals : ∀ (ms : List Int) (i q : Nat) (l : List Int), rdM ln lt ms i = (q, some l) → l.length = ms.length ∧ (∀ v ∈ l, 0 ≤ v ∧ v ≤ 99) ∧ i + 2 * ms.length ≤ q
  | [], i, q, l, h => by
    simp only [rdM, Prod.mk.injEq, Option.some.injEq] at h
    rw [← h.2]
    exact ⟨rfl, fun v hv => absurd hv List.not_mem_nil, by simp; omega⟩
  | m :: ms, i, q, l, h => by
    unfold rdM at h
    cases e : numP ln lt i with
    | none => rw [e] at h; simp at h
    | some vj =>
      obtain ⟨v, j⟩ := vj
      rw [e] at h
      have b := numP_b e
      by_cases c : hr ln lt j = m
      · simp only [if_pos c] at h
        cases hq : rdM ln lt ms (j + 1) with
        | mk q' o =>
          rw [hq] at h
          cases o with
          | none => simp at h
          | some l' =>
            have ih := rdM_vals ms (j + 1) q' l' hq
            simp only [Prod.mk.injEq, Option.some.injEq] at h
            rw [← h.2, ← h.1]
            refine ⟨by simp [ih.1], fun x hx => ?_, by simp; omega⟩
            rcases List.mem_cons.mp hx with rfl | hx
            · exact b.1
            · exact ih.2.1 x hx
      · simp [if_neg c] at h
theorem mkL_pos (c : Int) : ∀ m ∈ mkL c, 0 ≤ m ∧ m ≤ 255 := by
  unfold mkL
  repeat' split
  all_goals
    intro m hm
    simp at hm
    try omega
theorem mkL_len (c : Int) : (mkL c).length ≤ 3 := by
  unfold mkL
  repeat' split
  all_goals simp
theorem mkL_ne {c : Int} (h : mkL c ≠ []) : c = 116 ∨ c = 111 ∨ c = 114 ∨ c = 107 ∨ c = 104 ∨ c = 120 := by
  unfold mkL at h
  repeat' split at h
  all_goals first
    | omega
    | exact absurd rfl h
theorem stm_le {i : Nat} (hi : i ≤ ln) : i ≤ (stm ln lt i).1 ∧ (stm ln lt i).1 ≤ ln := by
  unfold stm
  split
  · exact ⟨Nat.le_refl _, hi⟩
  · rename_i hne
    have hc := mkL_ne hne
    have hj : i < ln := by
      apply Decidable.byContradiction
      intro z
      have : hr ln lt i = -1 := if_neg z
      omega
    have := rdM_le (ln := ln) (lt := lt) (mkL (hr ln lt i)) (i + 1) (by omega) (fun m hm => (mkL_pos _ m hm).1)
    omega
theorem stm_ok {i q : Nat} {l : List Int} (h : stm ln lt i = (q, some l)) : mkL (hr ln lt i) ≠ [] ∧ rdM ln lt (mkL (hr ln lt i)) (i + 1) = (q, some l) ∧ i + 3 ≤ q ∧ i < ln ∧ q ≤ ln := by
  unfold stm at h
  split at h
  · simp at h
  · rename_i hne
    have hc := mkL_ne hne
    have hj : i < ln := by
      apply Decidable.byContradiction
      intro z
      have : hr ln lt i = -1 := if_neg z
      omega
    have a := rdM_vals _ _ _ _ h
    have b := rdM_le (ln := ln) (lt := lt) (mkL (hr ln lt i)) (i + 1) (by omega) (fun m hm => (mkL_pos _ m hm).1)
    rw [h] at b
    have l1 : 1 ≤ (mkL (hr ln lt i)).length := List.length_pos_iff.mpr hne
    simp only at b
    exact ⟨hne, h, by omega, hj, b.2⟩
/-- the reference's way through a statement -/
abbrev GS : Type := Bool × Nat × List Int
def tkP (c : Bool) (x : GS) : GS := if x.1 = true ∧ c = true then (true, x.2.1 + 1, x.2.2) else (false, x.2.1, x.2.2)
def nmP (ln : Nat) (lt : Nat → Int) (x : GS) : GS := if x.1 = true then (match numP ln lt x.2.1 with
  | some (v, j) => (true, j, x.2.2 ++ [v])
  | none => (false, x.2.1, x.2.2 ++ [0])) else (false, x.2.1, x.2.2 ++ [0])
def sgP (ln : Nat) (lt : Nat → Int) (m : Int) (x : GS) : GS := nmP ln lt (tkP (decide (hr ln lt x.2.1 = m)) x)
def runP (ln : Nat) (lt : Nat → Int) : List Int → GS → GS
  | [], x => x
  | [m], x => tkP (decide (hr ln lt x.2.1 = m)) x
  | m :: m2 :: ms, x => runP ln lt (m2 :: ms) (sgP ln lt m x)
def goP (ln : Nat) (lt : Nat → Int) (i : Nat) : GS :=
  let c := hr ln lt i
  let x1 := nmP ln lt (tkP (decide (mkL c ≠ [])) (true, i, []))
  let x2 := if c = 116 ∨ c = 104 then sgP ln lt 44 x1 else x1
  let x3 := if c = 111 ∨ c = 114 ∨ c = 107 ∨ c = 104 then sgP ln lt 61 x2 else x2
  let x4 := if c = 116 ∨ c = 107 then sgP ln lt 44 x3 else x3
  tkP (decide (hr ln lt x4.2.1 = 59)) x4
theorem nmP_off (i : Nat) (tl : List Int) : nmP ln lt (false, i, tl) = (false, i, tl ++ [0]) := rfl
theorem tkP_off (c : Bool) (i : Nat) (tl : List Int) : tkP c (false, i, tl) = (false, i, tl) := rfl
theorem run_off : ∀ (ms : List Int) (i : Nat) (tl : List Int), (runP ln lt ms (false, i, tl)).1 = false ∧ (runP ln lt ms (false, i, tl)).2.1 = i
  | [], i, tl => ⟨rfl, rfl⟩
  | [m], i, tl => ⟨rfl, rfl⟩
  | m :: m2 :: ms, i, tl => by
    unfold runP sgP
    rw [tkP_off, nmP_off]
    exact run_off (m2 :: ms) i _
theorem run_nm : ∀ (ms : List Int) (i : Nat) (tl : List Int), ms ≠ [] → (runP ln lt ms (nmP ln lt (true, i, tl))).1 = (rdM ln lt ms i).2.isSome ∧ (runP ln lt ms (nmP ln lt (true, i, tl))).2.1 = (rdM ln lt ms i).1 ∧ ∀ l, (rdM ln lt ms i).2 = some l → (runP ln lt ms (nmP ln lt (true, i, tl))).2.2 = tl ++ l
  | [], i, tl, h => absurd rfl h
  | [m], i, tl, _ => by
    unfold nmP runP rdM rdM
    rw [if_pos rfl]
    cases e : numP ln lt i with
    | none =>
      simp only [e]
      exact ⟨rfl, rfl, fun l h => by simp at h⟩
    | some vj =>
      obtain ⟨v, j⟩ := vj
      simp only [e]
      by_cases c : hr ln lt j = m
      · have e1 : tkP (decide (hr ln lt j = m)) (true, j, tl ++ [v]) = (true, j + 1, tl ++ [v]) := by unfold tkP; rw [if_pos ⟨rfl, by simpa using c⟩]
        rw [if_pos c, e1]
        exact ⟨rfl, rfl, fun l h => by simp at h; rw [← h]⟩
      · have e1 : tkP (decide (hr ln lt j = m)) (true, j, tl ++ [v]) = (false, j, tl ++ [v]) := by unfold tkP; rw [if_neg (by rintro ⟨-, z⟩; exact c (by simpa using z))]
        rw [if_neg c, e1]
        exact ⟨rfl, rfl, fun l h => by simp at h⟩
  | m :: m2 :: ms, i, tl, _ => by
    rw [show rdM ln lt (m :: m2 :: ms) i = (match numP ln lt i with
      | none => (i, none)
      | some (v, j) => if hr ln lt j = m then (match rdM ln lt (m2 :: ms) (j + 1) with
        | (q, some l) => (q, some (v :: l))
        | (q, none) => (q, none)) else (j, none)) from rfl]
    rw [show runP ln lt (m :: m2 :: ms) (nmP ln lt (true, i, tl)) = runP ln lt (m2 :: ms) (sgP ln lt m (nmP ln lt (true, i, tl))) from rfl]
    cases e : numP ln lt i with
    | none =>
      have : nmP ln lt (true, i, tl) = (false, i, tl ++ [0]) := by unfold nmP; rw [if_pos rfl]; simp only [e]
      rw [this]
      unfold sgP
      rw [tkP_off, nmP_off]
      have o := run_off (ln := ln) (lt := lt) (m2 :: ms) i (tl ++ [0] ++ [0])
      exact ⟨o.1, o.2, fun l h => by simp at h⟩
    | some vj =>
      obtain ⟨v, j⟩ := vj
      have : nmP ln lt (true, i, tl) = (true, j, tl ++ [v]) := by unfold nmP; rw [if_pos rfl]; simp only [e]
      rw [this]
      simp only
      by_cases c : hr ln lt j = m
      · rw [if_pos c]
        have e2 : sgP ln lt m (true, j, tl ++ [v]) = nmP ln lt (true, j + 1, tl ++ [v]) := by
          unfold sgP tkP
          rw [if_pos ⟨rfl, by simpa using c⟩]
        rw [e2]
        have ih := run_nm (m2 :: ms) (j + 1) (tl ++ [v]) (by simp)
        cases hq : rdM ln lt (m2 :: ms) (j + 1) with
        | mk q o =>
          rw [hq] at ih
          cases o with
          | none => exact ⟨ih.1, ih.2.1, fun l h => by simp at h⟩
          | some l' =>
            refine ⟨ih.1, ih.2.1, fun l h => ?_⟩
            simp only [Option.some.injEq] at h
            rw [ih.2.2 l' rfl, ← h, List.append_assoc]
            rfl
      · rw [if_neg c]
        have e2 : sgP ln lt m (true, j, tl ++ [v]) = (false, j, tl ++ [v] ++ [0]) := by
          unfold sgP tkP
          rw [if_neg (by rintro ⟨-, z⟩; exact c (by simpa using z))]
          rfl
        rw [e2]
        have o := run_off (ln := ln) (lt := lt) (m2 :: ms) j (tl ++ [v] ++ [0])
        exact ⟨o.1, o.2, fun l h => by simp at h⟩
theorem go_run (i : Nat) (h : mkL (hr ln lt i) ≠ []) : goP ln lt i = runP ln lt (mkL (hr ln lt i)) (nmP ln lt (true, i + 1, [])) := by
  have e : tkP (decide (mkL (hr ln lt i) ≠ [])) (true, i, []) = (true, i + 1, []) := by
    unfold tkP
    rw [if_pos ⟨rfl, by simpa using h⟩]
  unfold goP
  simp only [e]
  have hc := mkL_ne h
  rcases hc with c | c | c | c | c | c <;> rw [c] <;> rfl
theorem go_stm (i : Nat) : (goP ln lt i).1 = (stm ln lt i).2.isSome ∧ (goP ln lt i).2.1 = (stm ln lt i).1 ∧ ∀ l, (stm ln lt i).2 = some l → (goP ln lt i).2.2 = l := by
  by_cases h : mkL (hr ln lt i) = []
  · have e : tkP (decide (mkL (hr ln lt i) ≠ [])) (true, i, []) = (false, i, []) := by
      unfold tkP
      rw [if_neg (by rintro ⟨-, z⟩; rw [decide_eq_true_iff] at z; exact z h)]
    have f : ∀ (m : Int) (tl : List Int), sgP ln lt m (false, i, tl) = (false, i, tl ++ [0]) := fun m tl => rfl
    have o : (goP ln lt i).1 = false ∧ (goP ln lt i).2.1 = i := by
      unfold goP
      simp only [e, nmP_off]
      repeat' split
      all_goals exact ⟨rfl, rfl⟩
    unfold stm
    rw [if_pos h]
    exact ⟨o.1, o.2, fun l z => by simp at z⟩
  · rw [go_run i h]
    unfold stm
    rw [if_neg h]
    have r := run_nm (ln := ln) (lt := lt) (mkL (hr ln lt i)) (i + 1) [] h
    exact ⟨r.1, r.2.1, fun l z => by rw [r.2.2 l z]; rfl⟩
end TP
