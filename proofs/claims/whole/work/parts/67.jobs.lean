/-! ===== the run, as lists of jobs ===== -/
abbrev Job : Type := Int × Int × Int
def jb0 : Job := (0, 0, 0)
/-- those due at u or ahead of it are missed -/
def msJ (u : Int) : List Job → (Int → Int) → Int → Int → List Job × (Int → Int) × Int × Int
  | [], m, a, b => ([], m, a, b)
  | j :: l, m, a, b => if u < j.2.1 then (j :: (msJ u l m a b).1, (msJ u l m a b).2) else
    msJ u l (fset m j.1 (m j.1 + 1)) (if a < 0 ∨ (a = u ∧ j.1 < b) then u else a) (if a < 0 ∨ (a = u ∧ j.1 < b) then j.1 else b)
def arrS (w : Int → Int) (t : Int) (k : Nat) : Int := w (18 + t) + (k : Int) * dist w t + if k % 2 = 1 then lat w t else 0
def jbS (w : Int → Int) (t : Int) (k : Nat) : Job := (t, w (18 + t) + (k : Int) * dist w t + lim w t, w t)
def itS (w : Int → Int) (t u : Int) (k : Nat) : List Job := if arrS w t k = u ∧ (w (30 + t) ≠ 4 ∨ (k : Int) ≤ w (36 + t)) then (if w (30 + t) = 3 then [jbS w t k, jbS w t k] else [jbS w t k]) else []
def cmK (w : Int → Int) (t u : Int) : Nat → List Job
  | 0 => []
  | k + 1 => cmK w t u k ++ itS w t u k
def cmT (w : Int → Int) (u : Int) : Nat → List Job
  | 0 => []
  | t + 1 => cmT w u t ++ if w (42 + (t : Int)) = 1 then cmK w (t : Int) u 30 else []
def goesJ (w : Int → Int) (pol : Int) (a b : Job) : Bool := if pol = 3 then decide (a.2.1 < b.2.1 ∨ (a.2.1 = b.2.1 ∧ a.1 < b.1)) else precB w pol a.1 b.1
def bsJ (w : Int → Int) (pol : Int) : List Job → Job → List Job → List Job → List Job × Job × List Job
  | pre, b, mid, [] => (pre, b, mid)
  | pre, b, mid, j :: l => if goesJ w pol j b = true then bsJ w pol (pre ++ b :: mid) j [] l else bsJ w pol pre b (mid ++ [j]) l
def wkE (dn : Int → Int) (r : List Job × Job × List Job) : List Job × (Int → Int) × Int :=
  (r.1 ++ (if r.2.1.2.2 = 1 then [] else [(r.2.1.1, r.2.1.2.1, r.2.1.2.2 - 1)]) ++ r.2.2, (if r.2.1.2.2 = 1 then fset dn r.2.1.1 (dn r.2.1.1 + 1) else dn), r.2.1.1)
def wkJ (w : Int → Int) (pol : Int) (dn : Int → Int) : List Job → List Job × (Int → Int) × Int
  | [] => ([], dn, -9)
  | j :: l => wkE dn (bsJ w pol [] j [] l)
/-- jobs, done, missed, the first miss: when, which task -/
abbrev RSt : Type := List Job × (Int → Int) × (Int → Int) × Int × Int
def afMs (u : Int) (s : RSt) : RSt := ((msJ u s.1 s.2.2.1 s.2.2.2.1 s.2.2.2.2).1, s.2.1, (msJ u s.1 s.2.2.1 s.2.2.2.1 s.2.2.2.2).2)
def afCm (w : Int → Int) (u : Int) (t : Nat) (s : RSt) : RSt := (s.1 ++ cmT w u t, s.2)
def afWk (w : Int → Int) (pol : Int) (s : RSt) : RSt := ((wkJ w pol s.2.1 s.1).1, (wkJ w pol s.2.1 s.1).2.1, s.2.2)
def plS (w : Int → Int) (pol : Int) : Nat → RSt × (Int → Int)
  | 0 => (([], fun _ => 0, fun _ => 0, -9, -9), fun _ => 0)
  | u + 1 => (afWk w pol (afCm w u (w 72).toNat (afMs u (plS w pol u).1)), fset (plS w pol u).2 (u : Int) (wkJ w pol (afCm w u (w 72).toNat (afMs u (plS w pol u).1)).2.1 (afCm w u (w 72).toNat (afMs u (plS w pol u).1)).1).2.2)
def endS (w : Int → Int) (pol : Int) : RSt := afMs 60 (plS w pol 60).1
def runS (w : Int → Int) (pol u : Int) : Int := (plS w pol 60).2 u
def jobsS (w : Int → Int) (pol t a : Int) : Int := if a = 0 then (endS w pol).2.1 t else (endS w pol).2.2.1 t
def firstS (w : Int → Int) (pol a : Int) : Int := if a = 0 then (endS w pol).2.2.2.1 else (endS w pol).2.2.2.2
/-! how many there are -/
def cntS (w : Int → Int) (t u : Int) : Nat → Int
  | 0 => 0
  | k + 1 => cntS w t u k + if arrS w t k ≤ u then 2 else 0
def cqS (w : Int → Int) (t u : Int) : Nat → Int
  | 0 => 0
  | k + 1 => cqS w t u k + if arrS w t k = u then 2 else 0
theorem cnt_q (w : Int → Int) (t u : Int) : ∀ k : Nat, cntS w t u k = cntS w t (u - 1) k + cqS w t u k
  | 0 => rfl
  | k + 1 => by
    have ih := cnt_q w t u k
    unfold cntS cqS
    split <;> split <;> split <;> omega
theorem cnt_b (w : Int → Int) (t u : Int) : ∀ k : Nat, 0 ≤ cntS w t u k ∧ cntS w t u k ≤ 2 * k
  | 0 => by unfold cntS; omega
  | k + 1 => by
    have ih := cnt_b w t u k
    unfold cntS
    split <;> omega
theorem cq_b (w : Int → Int) (t u : Int) : ∀ k : Nat, 0 ≤ cqS w t u k
  | 0 => Int.le_refl _
  | k + 1 => by
    have ih := cq_b w t u k
    unfold cqS
    split <;> omega
theorem cq_mono (w : Int → Int) (t u : Int) : ∀ (j k : Nat), cqS w t u k ≤ cqS w t u (k + j)
  | 0, k => Int.le_refl _
  | j + 1, k => by
    have ih := cq_mono w t u j k
    have e : cqS w t u (k + (j + 1)) = cqS w t u (k + j) + if arrS w t (k + j) = u then 2 else 0 := rfl
    rw [e]
    split <;> omega
theorem it_len (w : Int → Int) (t u : Int) (k : Nat) : ((itS w t u k).length : Int) ≤ if arrS w t k = u then 2 else 0 := by
  unfold itS
  by_cases c : arrS w t k = u
  · rw [if_pos c]
    split
    · split <;> simp
    · simp
  · rw [if_neg c, if_neg (fun z => c z.1)]
    simp
theorem cm_len (w : Int → Int) (t u : Int) : ∀ k : Nat, ((cmK w t u k).length : Int) ≤ cqS w t u k
  | 0 => by simp [cmK, cqS]
  | k + 1 => by
    have ih := cm_len w t u k
    have il := it_len w t u k
    unfold cmK cqS
    rw [List.length_append]
    omega
/-- the most jobs that can have come, at unit u, of the first t tasks at it, of the others ahead of it -/
def potS (w : Int → Int) (u t : Int) (n : Nat) : Int := sumT (fun i => if i < t then cntS w i u 30 else cntS w i (u - 1) 30) n
theorem pot_b (w : Int → Int) (u t : Int) : ∀ n : Nat, 0 ≤ potS w u t n ∧ potS w u t n ≤ 60 * n
  | 0 => by unfold potS sumT; omega
  | n + 1 => by
    have ih := pot_b w u t n
    have b1 := cnt_b w (n : Int) u 30
    have b2 := cnt_b w (n : Int) (u - 1) 30
    show 0 ≤ potS w u t n + (if (n : Int) < t then cntS w (n : Int) u 30 else cntS w (n : Int) (u - 1) 30) ∧ potS w u t n + (if (n : Int) < t then cntS w (n : Int) u 30 else cntS w (n : Int) (u - 1) 30) ≤ 60 * ((n + 1 : Nat) : Int)
    split <;> omega
theorem pot_up (w : Int → Int) (u : Int) (t : Nat) : ∀ n : Nat, potS w u ((t + 1 : Nat) : Int) n = potS w u t n + if t < n then cqS w t u 30 else 0
  | 0 => by unfold potS sumT; simp
  | n + 1 => by
    have ih := pot_up w u t n
    have q := cnt_q w (n : Int) u 30
    show potS w u ((t + 1 : Nat) : Int) n + (if (n : Int) < ((t + 1 : Nat) : Int) then cntS w (n : Int) u 30 else cntS w (n : Int) (u - 1) 30) = potS w u t n + (if (n : Int) < (t : Int) then cntS w (n : Int) u 30 else cntS w (n : Int) (u - 1) 30) + _
    rw [ih]
    by_cases e : n = t
    · subst e
      split <;> split <;> split <;> split <;> omega
    · split <;> split <;> split <;> split <;> omega
theorem pot_nx (w : Int → Int) (u : Int) (n : Nat) : potS w (u + 1) 0 n = potS w u n n := by
  unfold potS
  refine sumT_congr _ fun i i0 i1 => ?_
  rw [if_neg (by omega), if_pos (by omega), show u + 1 - 1 = u by omega]
/-! bounds of jobs -/
def JB (n : Int) (L : List Job) : Prop := ∀ j ∈ L, (0 ≤ j.1 ∧ j.1 < n) ∧ (0 ≤ j.2.1 ∧ j.2.1 ≤ 200) ∧ 1 ≤ j.2.2 ∧ j.2.2 ≤ 200
theorem JB.app {n : Int} {A B : List Job} (ha : JB n A) (hb : JB n B) : JB n (A ++ B) := fun j hj => by
  rcases List.mem_append.mp hj with h | h
  · exact ha j h
  · exact hb j h
theorem JB.nil {n : Int} : JB n [] := fun _ h => absurd h List.not_mem_nil
theorem JB.sub {n : Int} {A B : List Job} (hb : JB n B) (h : ∀ j ∈ A, j ∈ B) : JB n A := fun j hj => hb j (h j hj)
theorem it_jb {w : Int → Int} (hw : WF w) {t u : Int} (h0 : 0 ≤ t) (h1 : t < w 72) (hu : 0 ≤ u ∧ u < 60) (k : Nat) : JB (w 72) (itS w t u k) := by
  have bt := hw.at h0 h1
  have db := dist_b hw h0 h1
  have lb := lim_b hw h0 h1
  have tb := lat_b hw h0 h1
  have kd : 0 ≤ (k : Int) * dist w t := Int.mul_nonneg (by omega) (by omega)
  intro j hj
  unfold itS at hj
  split at hj
  · rename_i c
    have e : j = jbS w t k := by
      split at hj <;> simp at hj <;> exact hj
    have c1 := c.1
    unfold arrS at c1
    rw [e]
    unfold jbS
    refine ⟨⟨h0, h1⟩, ⟨by show 0 ≤ w (18 + t) + (k : Int) * dist w t + lim w t; omega, ?_⟩, bt.2.1.1, bt.2.1.2⟩
    show w (18 + t) + (k : Int) * dist w t + lim w t ≤ 200
    split at c1 <;> omega
  · exact absurd hj List.not_mem_nil
theorem cm_jb {w : Int → Int} (hw : WF w) {t u : Int} (h0 : 0 ≤ t) (h1 : t < w 72) (hu : 0 ≤ u ∧ u < 60) : ∀ k : Nat, JB (w 72) (cmK w t u k)
  | 0 => JB.nil
  | k + 1 => (cm_jb hw h0 h1 hu k).app (it_jb hw h0 h1 hu k)
theorem ms_sub (u : Int) : ∀ (l : List Job) (m : Int → Int) (a b : Int), (∀ j ∈ (msJ u l m a b).1, j ∈ l) ∧ (msJ u l m a b).1.length ≤ l.length
  | [], m, a, b => ⟨fun _ h => h, Nat.le_refl _⟩
  | j :: l, m, a, b => by
    unfold msJ
    split
    · have ih := ms_sub u l m a b
      refine ⟨fun x hx => ?_, by simp; exact ih.2⟩
      rcases List.mem_cons.mp hx with rfl | hx
      · exact List.mem_cons_self
      · exact List.mem_cons_of_mem _ (ih.1 x hx)
    · have ih := ms_sub u l (fset m j.1 (m j.1 + 1)) (if a < 0 ∨ (a = u ∧ j.1 < b) then u else a) (if a < 0 ∨ (a = u ∧ j.1 < b) then j.1 else b)
      exact ⟨fun x hx => List.mem_cons_of_mem _ (ih.1 x hx), Nat.le_trans ih.2 (Nat.le_succ _)⟩
def whB (a b : Int) : Prop := (a = -9 ∨ (0 ≤ a ∧ a ≤ 60)) ∧ -9 ≤ b ∧ b ≤ 6
theorem ms_wh {n : Int} (hn : n ≤ 6) {u : Int} (hu : 0 ≤ u ∧ u ≤ 60) : ∀ (l : List Job) (m : Int → Int) (a b : Int), JB n l → whB a b → whB (msJ u l m a b).2.2.1 (msJ u l m a b).2.2.2
  | [], m, a, b, _, h => h
  | j :: l, m, a, b, hj, h => by
    have hb := hj j List.mem_cons_self
    have hl : JB n l := fun x hx => hj x (List.mem_cons_of_mem _ hx)
    unfold msJ
    split
    · exact ms_wh hn hu l m a b hl h
    · refine ms_wh hn hu l _ _ _ hl ?_
      unfold whB at h ⊢
      split <;> omega
theorem bs_eq (w : Int → Int) (pol : Int) : ∀ (l pre : List Job) (b : Job) (mid : List Job), (bsJ w pol pre b mid l).1 ++ (bsJ w pol pre b mid l).2.1 :: (bsJ w pol pre b mid l).2.2 = pre ++ b :: (mid ++ l)
  | [], pre, b, mid => by simp [bsJ]
  | j :: l, pre, b, mid => by
    unfold bsJ
    split
    · rw [bs_eq w pol l _ _ _]; simp
    · rw [bs_eq w pol l _ _ _]; simp
theorem wkE_f {n : Int} {dn : Int → Int} {r : List Job × Job × List Job} {L : List Job} (e : r.1 ++ r.2.1 :: r.2.2 = L) (h : JB n L) : JB n (wkE dn r).1 ∧ (wkE dn r).1.length ≤ L.length := by
  have hb : JB n (r.1 ++ r.2.1 :: r.2.2) := by rw [e]; exact h
  have b1 := hb r.2.1 (by simp)
  have len : r.1.length + (r.2.2.length + 1) = L.length := by
    have := congrArg List.length e
    simpa using this
  unfold wkE
  refine ⟨?_, ?_⟩
  · refine JB.app (JB.app (hb.sub fun x hx => by simp [hx]) ?_) (hb.sub fun x hx => by simp [hx])
    split
    · exact JB.nil
    · rename_i c
      intro x hx
      simp at hx
      rw [hx]
      exact ⟨b1.1, b1.2.1, by show 1 ≤ r.2.1.2.2 - 1; omega, by show r.2.1.2.2 - 1 ≤ 200; omega⟩
  · simp only [List.length_append]
    split <;> simp <;> omega
theorem wk_f {w : Int → Int} {pol n : Int} {dn : Int → Int} : ∀ {L : List Job}, JB n L → JB n (wkJ w pol dn L).1 ∧ (wkJ w pol dn L).1.length ≤ L.length
  | [], _ => ⟨JB.nil, Nat.le_refl _⟩
  | j :: l, h => wkE_f (by have := bs_eq w pol l [] j []; simpa using this) h
