/-! ===== the reference's run: jobs that stay in their row, done with or not ===== -/
def liv (R : List Job) : List Job := R.filter (fun j => decide (0 < j.2.2))
def JR (n : Int) (R : List Job) : Prop := ∀ j ∈ R, (0 ≤ j.1 ∧ j.1 < n) ∧ (0 ≤ j.2.1 ∧ j.2.1 ≤ 200) ∧ 0 ≤ j.2.2 ∧ j.2.2 ≤ 200
theorem JR.app {n : Int} {A B : List Job} (ha : JR n A) (hb : JR n B) : JR n (A ++ B) := fun j hj => by
  rcases List.mem_append.mp hj with h | h
  · exact ha j h
  · exact hb j h
theorem JB.jr {n : Int} {A : List Job} (h : JB n A) : JR n A := fun j hj => by have := h j hj; omega
theorem JR.jb {n : Int} {A : List Job} (h : JR n A) : JB n (liv A) := fun j hj => by
  unfold liv at hj
  rw [List.mem_filter] at hj
  have := h j hj.1
  have h2 : 0 < j.2.2 := by simpa using hj.2
  omega
theorem liv_app (A B : List Job) : liv (A ++ B) = liv A ++ liv B := List.filter_append ..
theorem liv_pos {j : Job} {l : List Job} (h : 0 < j.2.2) : liv (j :: l) = j :: liv l := List.filter_cons_of_pos (by simpa using h)
theorem liv_neg {j : Job} {l : List Job} (h : ¬ 0 < j.2.2) : liv (j :: l) = liv l := List.filter_cons_of_neg (by simpa using h)
theorem liv_id {n : Int} : ∀ {A : List Job}, JB n A → liv A = A
  | [], _ => rfl
  | j :: l, h => by
    rw [liv_pos (by have := h j List.mem_cons_self; omega), liv_id (fun x hx => h x (List.mem_cons_of_mem _ hx))]
def msR (u : Int) : List Job → (Int → Int) → Int → Int → List Job × (Int → Int) × Int × Int
  | [], m, a, b => ([], m, a, b)
  | j :: l, m, a, b => if j.2.2 ≤ 0 ∨ u < j.2.1 then (j :: (msR u l m a b).1, (msR u l m a b).2) else
    ((j.1, j.2.1, 0) :: (msR u l (fset m j.1 (m j.1 + 1)) (if a < 0 ∨ (a = u ∧ j.1 < b) then u else a) (if a < 0 ∨ (a = u ∧ j.1 < b) then j.1 else b)).1,
     (msR u l (fset m j.1 (m j.1 + 1)) (if a < 0 ∨ (a = u ∧ j.1 < b) then u else a) (if a < 0 ∨ (a = u ∧ j.1 < b) then j.1 else b)).2)
theorem msR_cons {u a b : Int} {m : Int → Int} {j : Job} {l : List Job} : msR u (j :: l) m a b = if j.2.2 ≤ 0 ∨ u < j.2.1 then (j :: (msR u l m a b).1, (msR u l m a b).2) else
    ((j.1, j.2.1, 0) :: (msR u l (fset m j.1 (m j.1 + 1)) (if a < 0 ∨ (a = u ∧ j.1 < b) then u else a) (if a < 0 ∨ (a = u ∧ j.1 < b) then j.1 else b)).1,
     (msR u l (fset m j.1 (m j.1 + 1)) (if a < 0 ∨ (a = u ∧ j.1 < b) then u else a) (if a < 0 ∨ (a = u ∧ j.1 < b) then j.1 else b)).2) := rfl
theorem msR_eq (u : Int) : ∀ (l : List Job) (m : Int → Int) (a b : Int), msJ u (liv l) m a b = (liv (msR u l m a b).1, (msR u l m a b).2)
  | [], m, a, b => rfl
  | j :: l, m, a, b => by
    rw [msR_cons]
    by_cases c0 : 0 < j.2.2
    · rw [liv_pos c0, msJ_cons]
      by_cases c : u < j.2.1
      · rw [if_pos c, if_pos (Or.inr c), msR_eq u l m a b]
        simp only [liv_pos c0]
      · have c2 : ¬ (j.2.2 ≤ 0 ∨ u < j.2.1) := by omega
        rw [if_neg c, if_neg c2, msR_eq u l _ _ _]
        have : ¬ 0 < ((j.1, j.2.1, 0) : Job).2.2 := by simp
        rw [liv_neg this]
    · rw [liv_neg c0, if_pos (Or.inl (by omega)), msR_eq u l m a b, liv_neg c0]
theorem msR_jr (u : Int) {n : Int} : ∀ (l : List Job) (m : Int → Int) (a b : Int), JR n l → JR n (msR u l m a b).1 ∧ (msR u l m a b).1.length = l.length
  | [], m, a, b, h => ⟨h, rfl⟩
  | j :: l, m, a, b, h => by
    have hl : JR n l := fun x hx => h x (List.mem_cons_of_mem _ hx)
    have hj := h j List.mem_cons_self
    rw [msR_cons]
    split
    · have ih := msR_jr u l m a b hl
      refine ⟨fun x hx => ?_, by simp [ih.2]⟩
      rcases List.mem_cons.mp hx with rfl | hx
      · exact hj
      · exact ih.1 x hx
    · have ih := msR_jr u l (fset m j.1 (m j.1 + 1)) (if a < 0 ∨ (a = u ∧ j.1 < b) then u else a) (if a < 0 ∨ (a = u ∧ j.1 < b) then j.1 else b) hl
      refine ⟨fun x hx => ?_, by simp [ih.2]⟩
      rcases List.mem_cons.mp hx with rfl | hx
      · exact ⟨hj.1, hj.2.1, by simp⟩
      · exact ih.1 x hx
def TM (h : Mem) (R : List Job) (s : RSt) : Prop := h 60 24 = zI R.length ∧ JH h 71 R ∧ liv R = s.1 ∧ (∀ i : Nat, i < 6 → h 75 i = zI (s.2.1 i)) ∧ (∀ i : Nat, i < 6 → h 76 i = zI (s.2.2.1 i)) ∧ h 60 28 = zI s.2.2.2.1 ∧ h 60 29 = zI s.2.2.2.2
def MJ (h h' : Mem) : Prop := KM h h' ∧ h' 74 = h 74
theorem MJ.rf {h : Mem} : MJ h h := ⟨KM.rf, rfl⟩
theorem MJ.tr {a b c : Mem} (h1 : MJ a b) (h2 : MJ b c) : MJ a c := ⟨h1.1.tr h2.1, h2.2.trans h1.2⟩
theorem MJ.up {h h' : Mem} {q i : Nat} {x : Int32} (m : MJ h h') (hq : (71 ≤ q ∧ q ≤ 76) ∧ q ≠ 74) : MJ h (upd2 h' q i x) := ⟨m.1.up (by omega), (upd2_ne 74 (by omega)).trans m.2⟩
theorem MJ.f {h h' : Mem} {i : Nat} {x : Int32} (m : MJ h h') (hi : i ≠ 3 ∧ i ≠ 6 ∧ i ≠ 8 ∧ i ≠ 30) : MJ h (upd2 h' 60 i x) := ⟨m.1.f hi, (upd2_ne 74 (by omega)).trans m.2⟩
theorem MJ.u3 {h h' : Mem} {k : Nat} {x y z : Int32} (m : MJ h h') : MJ h (upd3 h' 71 k x y z) := ((m.up (by omega)).up (by omega)).up (by omega)
section TMs
variable {E : XE} {h : Mem} {w : Int → Int}
theorem sM_misses {Q : Mem → Prop} {u n : Int} {R : List Job} {s : RSt} (hn : n ≤ 6) (ht : TM h R s) (hb : JR n R) (hl : R.length ≤ 360) (hwh : whB s.2.2.2.1 s.2.2.2.2) (hu : 0 ≤ u ∧ u ≤ 60) (hq : ∀ h' R', MJ h h' → TM h' R' (afMs u s) → JR n R' → R'.length = R.length → Q h') : CALLV E mM_misses [.ref 60, .int (zI u)] h Q := by
  refine fM_misses ?_
  obtain ⟨L, dn, m0, a0, b0⟩ := s
  obtain ⟨q1, q2, qL, q3, q4, q5, q6⟩ := ht
  simp only at q1 q2 qL q3 q4 q5 q6 hwh
  have me := msR_eq u R m0 a0 b0
  rw [qL] at me
  have mj := msR_jr u (n := n) R m0 a0 b0 hb
  have ea : afMs u (L, dn, m0, a0, b0) = (liv (msR u R m0 a0 b0).1, dn, (msR u R m0 a0 b0).2) := by
    unfold afMs
    simp only
    rw [me]
  rw [ea] at hq
  have key : ∀ (rest P : List Job) (m : Int → Int) (a b : Int) (h1 : Mem), P.length + rest.length = R.length → JR n rest → MJ h h1 → h1 60 24 = zI R.length → JH h1 71 (P ++ rest) → (∀ x : Nat, x < 6 → h1 75 x = zI (dn x)) → (∀ x : Nat, x < 6 → h1 76 x = zI (m x)) → h1 60 28 = zI a → h1 60 29 = zI b → whB a b →
      (P ++ (msR u rest m a b).1, (msR u rest m a b).2) = msR u R m0 a0 b0 → WP E mM_misses 2 [some (.ref 60), some (.int (zI u)), some (.int (zI P.length)), none, none] [] h1 (qV Q) := by
    intro rest
    induction rest with
    | nil =>
      intro P m a b h1 hlen jr mjj g24 gJ gd gm g28 g29 wh e
      refine fM_misses_2 ?_
      simp only [List.length_nil, Nat.add_zero] at hlen
      rw [g24, zI_le (by omega) (by omega) (by omega) (by omega)]
      refine ⟨fun _ => hq h1 P mjj ?_ ?_ hlen, fun z => by omega⟩
      · rw [← e]
        simp only [msR, List.append_nil]
        rw [List.append_nil] at gJ
        exact ⟨by rw [g24, hlen], gJ, rfl, gd, gm, g28, g29⟩
      · rw [← e] at mj
        simpa [msR] using mj.1
    | cons j rest ih =>
      intro P m a b h1 hlen jr mjj g24 gJ gd gm g28 g29 wh e
      simp only [List.length_cons] at hlen
      have bj := jr j List.mem_cons_self
      have jr' : JR n rest := fun x hx => jr x (List.mem_cons_of_mem _ hx)
      have jx := gJ P.length (by simp)
      rw [gj_m rfl] at jx
      have j71 : h1 71 P.length = zI j.1 := jx.1
      have j72 : h1 72 P.length = zI j.2.1 := jx.2.1
      have j73 : h1 73 P.length = zI j.2.2 := jx.2.2
      rw [msR_cons] at e
      have kl : ∀ x : Job, ((P ++ [x]).length : Int) = (P.length : Int) + 1 := fun x => by simp
      have keep : (j.2.2 ≤ 0 ∨ u < j.2.1) → WP E mM_misses 2 [some (.ref 60), some (.int (zI u)), some (.int (zI (P.length + 1))), none, none] [] h1 (qV Q) := fun c => by
        rw [if_pos c] at e
        have := ih (P ++ [j]) m a b h1 (by simp; omega) jr' mjj g24 (by simpa using gJ) gd gm g28 g29 wh (by rw [← e]; simp)
        rw [kl] at this
        exact this
      refine fM_misses_2 ?_
      have hin : inb (zI (P.length : Int)) 800 = true := inb_zI (by omega) (by omega) (by omega)
      have hix : ix (zI (P.length : Int)) = P.length := by rw [ix_zI (by omega) (by omega)]; rfl
      have hin6 : inb (zI j.1) 6 = true := inb_zI (by omega) (by omega) (by omega)
      have hix6 : ix (zI j.1) = j.1.toNat := ix_zI (by omega) (by omega)
      have s28 : ∀ x y, upd2 (upd2 h1 73 P.length x) 76 j.1.toNat y 60 28 = zI a := fun x y => (congrFun ((upd2_ne 60 (by omega)).trans (upd2_ne 60 (by omega))) 28).trans g28
      have s29 : ∀ x y, upd2 (upd2 h1 73 P.length x) 76 j.1.toNat y 60 29 = zI b := fun x y => (congrFun ((upd2_ne 60 (by omega)).trans (upd2_ne 60 (by omega))) 29).trans g29
      simp only [hin, hix, c_t, g24, j71, j72, j73, hin6, hix6, s28, s29]
      rw [zl_1]
      simp only [zI_add]
      unfold whB at wh
      have s81 : ¬ (j.2.2 ≤ 0 ∨ u < j.2.1) → ∀ s0 : Int, (s0 = if a < 0 ∨ (a = u ∧ j.1 < b) then 1 else 0) → WP E mM_misses 81 [some (.ref 60), some (.int (zI u)), some (.int (zI P.length)), some (.int (zI j.1)), none] [.int (zI s0)] (upd2 (upd2 h1 73 P.length 0) 76 j.1.toNat (upd2 h1 73 P.length 0 76 j.1.toNat + zI 1)) (qV Q) := by
        intro c s0 es0
        rw [if_neg c] at e
        have wh' : whB (if a < 0 ∨ (a = u ∧ j.1 < b) then u else a) (if a < 0 ∨ (a = u ∧ j.1 < b) then j.1 else b) := by
          unfold whB
          split <;> omega
        have m76 : ∀ x : Nat, x < 6 → upd2 (upd2 h1 73 P.length 0) 76 j.1.toNat (upd2 h1 73 P.length 0 76 j.1.toNat + zI 1) 76 x = zI (fset m j.1 (m j.1 + 1) x) := fun x hx => by
          by_cases ex : x = j.1.toNat
          · subst ex
            rw [u_s, upd2_ne 76 (by omega), gm _ hx, show ((j.1.toNat : Nat) : Int) = j.1 by omega, fs_eq, zI_add]
          · rw [u_i ex, upd2_ne 76 (by omega), gm x hx, fs_ne (by omega)]
        have J0 : ∀ h2 : Mem, (∀ q, 71 ≤ q → q ≤ 73 → h2 q = upd2 (upd2 h1 73 P.length 0) 76 j.1.toNat (upd2 h1 73 P.length 0 76 j.1.toNat + zI 1) q) → JH h2 71 ((P ++ [(j.1, j.2.1, 0)]) ++ rest) := fun h2 f x hx => by
          have f2 : ∀ q, 71 ≤ q → q ≤ 73 → h2 q = upd2 h1 73 P.length 0 q := fun q a b => (f q a b).trans (upd2_ne q (by omega))
          have e3 : (P ++ [(j.1, j.2.1, 0)]) ++ rest = P ++ (j.1, j.2.1, 0) :: rest := by simp
          rw [e3]
          by_cases ex : x = P.length
          · rw [ex, gj_m rfl]
            refine ⟨?_, ?_, ?_⟩
            · rw [f2 71 (by omega) (by omega), upd2_ne 71 (by omega)]; exact j71
            · show h2 72 P.length = _
              rw [f2 72 (by omega) (by omega), upd2_ne 72 (by omega)]; exact j72
            · show h2 73 P.length = _
              rw [f2 73 (by omega) (by omega)]; exact u_s
          · have hx' : x < (P ++ j :: rest).length := by simp at hx ⊢; omega
            have := gJ x hx'
            have eg : (P ++ (j.1, j.2.1, 0) :: rest).getD x jb0 = (P ++ j :: rest).getD x jb0 := by
              by_cases hx2 : x < P.length
              · rw [gj_l hx2, gj_l hx2]
              · rw [gj_r (by omega), gj_r (by omega), show x - P.length = (x - P.length - 1) + 1 by omega]
                rfl
            rw [eg]
            refine ⟨?_, ?_, ?_⟩
            · rw [f2 71 (by omega) (by omega), upd2_ne 71 (by omega)]; exact this.1
            · show h2 72 x = _
              rw [f2 72 (by omega) (by omega), upd2_ne 72 (by omega)]; exact this.2.1
            · show h2 73 x = _
              rw [f2 73 (by omega) (by omega), u_j ex]; exact this.2.2
        have fin : ∀ h2 : Mem, (∀ q, q ≠ 60 → h2 q = upd2 (upd2 h1 73 P.length 0) 76 j.1.toNat (upd2 h1 73 P.length 0 76 j.1.toNat + zI 1) q) → MJ h h2 → h2 60 24 = zI R.length → h2 60 28 = zI (if a < 0 ∨ (a = u ∧ j.1 < b) then u else a) → h2 60 29 = zI (if a < 0 ∨ (a = u ∧ j.1 < b) then j.1 else b) → WP E mM_misses 2 [some (.ref 60), some (.int (zI u)), some (.int (zI P.length + 1)), none, none] [] h2 (qV Q) := fun h2 f mj2 f24 f28 f29 => by
          have := ih (P ++ [(j.1, j.2.1, 0)]) (fset m j.1 (m j.1 + 1)) _ _ h2 (by simp; omega) jr' mj2 f24 (J0 h2 fun q a b => f q (by omega)) (fun x hx => by rw [f 75 (by omega), upd2_ne 75 (by omega), upd2_ne 75 (by omega)]; exact gd x hx) (fun x hx => by rw [f 76 (by omega)]; exact m76 x hx) f28 f29 wh' (by rw [← e]; simp)
          rw [kl] at this
          rw [zl_1, zI_add]
          exact this
        have mj1 : MJ h (upd2 (upd2 h1 73 P.length 0) 76 j.1.toNat (upd2 h1 73 P.length 0 76 j.1.toNat + zI 1)) := (mjj.up (by omega)).up (by omega)
        have g24' : upd2 (upd2 h1 73 P.length 0) 76 j.1.toNat (upd2 h1 73 P.length 0 76 j.1.toNat + zI 1) 60 24 = zI R.length := (congrFun ((upd2_ne 60 (by omega)).trans (upd2_ne 60 (by omega))) 24).trans g24
        refine fM_misses_81 ?_
        have zz : ∀ {A B : Prop}, s0 = 0 ∨ s0 = 1 := by
          intro _ _
          rw [es0]; split <;> omega
        by_cases cc : a < 0 ∨ (a = u ∧ j.1 < b)
        · rw [if_pos cc] at es0
          simp only [if_pos cc] at fin
          subst es0
          refine ⟨fun z => absurd z (by decide), fun _ => ⟨fun z => absurd z (by decide), fun _ => fin _ (fun q hq => (upd2_ne q hq).trans (upd2_ne q hq)) ((mj1.f (by omega)).f (by omega)) ((u_i (by omega)).trans ((u_i (by omega)).trans g24')) u_s ((u_i (by omega)).trans u_s)⟩⟩
        · rw [if_neg cc] at es0
          simp only [if_neg cc] at fin
          subst es0
          refine ⟨fun _ => ⟨fun _ => fin _ (fun q hq => (upd2_ne q hq).trans (upd2_ne q hq)) ((mj1.f (by omega)).f (by omega)) ((u_i (by omega)).trans ((u_i (by omega)).trans g24')) (u_s.trans ((u_i (by omega)).trans (s28 _ _))) ((u_i (by omega)).trans (u_s.trans (s29 _ _))), fun z => absurd rfl z⟩, fun z => absurd rfl z⟩
      rw [zI_le (by omega) (by omega) (by omega) (by omega), zl_0, zI_le (by omega) (by omega) (by omega) (by omega), zI_lt (by omega) (by omega) (by omega) (by omega), zI_lt (by omega) (by omega) (by omega) (by omega), zI_eq (by omega) (by omega) (by omega) (by omega), zI_le (by omega) (by omega) (by omega) (by omega)]
      refine ⟨fun z => by omega, fun _ => ⟨fun z => keep (Or.inl z), fun z => ⟨fun z2 => keep (Or.inr z2), fun z2 => ⟨fun z3 => s81 (by omega) 1 (by rw [if_pos (by omega)]), fun z3 => ⟨fun z4 => s81 (by omega) 0 (by rw [if_neg (by omega)]), fun z4 => ⟨fun z5 => s81 (by omega) 0 (by rw [if_neg (by omega)]), fun z5 => s81 (by omega) 1 (by rw [if_pos (by omega)])⟩⟩⟩⟩⟩⟩
  exact key R [] m0 a0 b0 h (by simp) hb MJ.rf q1 q2 q3 q4 q5 q6 hwh (by simp)
end TMs
