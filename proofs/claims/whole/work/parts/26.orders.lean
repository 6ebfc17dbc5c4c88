/-! ===== sets as bits; orders ===== -/
def maskK (P : Int → Bool) : Nat → Nat
  | 0 => 0
  | k + 1 => if P (k : Int) then maskK P k ||| 2 ^ k else maskK P k
theorem maskK_bit (P : Int → Bool) : ∀ (k i : Nat), (maskK P k).testBit i = (decide (i < k) && P (i : Int))
  | 0, i => by simp [maskK]
  | k + 1, i => by
    unfold maskK
    by_cases e : i = k
    · subst e
      split
      · rename_i h
        rw [Nat.testBit_or, Nat.testBit_two_pow_self]
        simp [h]
      · rename_i h
        rw [maskK_bit P i i]
        simp [h]
    · have hne : ¬ k = i := fun z => e z.symm
      have hlt : decide (i < k + 1) = decide (i < k) := by
        apply decide_eq_decide.mpr; omega
      split
      · rw [Nat.testBit_or, Nat.testBit_two_pow, maskK_bit P k i]
        simp [hne, hlt]
      · rw [maskK_bit P k i, hlt]
theorem maskK_lt (P : Int → Bool) : ∀ k : Nat, maskK P k < 2 ^ k
  | 0 => by simp [maskK]
  | k + 1 => by
    have ih := maskK_lt P k
    unfold maskK
    have h2 : (2 : Nat) ^ k < 2 ^ (k + 1) := Nat.pow_lt_pow_right (by omega) (by omega)
    split
    · exact Nat.or_lt_two_pow (by omega) h2
    · omega
theorem onK_mask (w : Int → Int) : ∀ k, onK w k = maskK (fun i => decide (w (42 + i) = 1)) k
  | 0 => rfl
  | k + 1 => by
    unfold onK maskK
    rw [onK_mask w k]
    by_cases c : w (42 + (k : Int)) = 1
    · rw [if_pos c, if_pos (by simpa using c)]
    · rw [if_neg c, if_neg (by simpa using c)]
theorem mask64 {P : Int → Bool} {k : Nat} (hk : k ≤ 6) : maskK P k < 64 := by
  have h := maskK_lt P k
  have : (2 : Nat) ^ k ≤ 2 ^ 6 := Nat.pow_le_pow_right (by omega) hk
  omega
set_option maxRecDepth 100000 in
theorem or_k : ∀ m, m < 64 → ∀ k, k < 6 → zI (m : Nat) ||| shl (zI 1) (zI (k : Nat)) = zI ((m ||| 2 ^ k : Nat) : Int) := by decide +kernel
theorem or_z {m : Nat} {k : Int} (hm : m < 64) (h0 : 0 ≤ k) (h1 : k < 6) : zI (m : Nat) ||| shl (zI 1) (zI k) = zI ((m ||| 2 ^ k.toNat : Nat) : Int) := by
  have := or_k m hm k.toNat (by omega)
  rw [show ((k.toNat : Nat) : Int) = k by omega] at this
  exact this
set_option maxRecDepth 100000 in
theorem or_0 : ∀ m, m < 64 → zI (m : Nat) ||| zI 0 = zI (m : Nat) := by decide +kernel
set_option maxRecDepth 100000 in
theorem has_k : ∀ m, m < 64 → ∀ k, k < 6 → (sshr (zI (m : Nat)) (zI (k : Nat)) &&& zI 1) = if m.testBit k then zI 1 else zI 0 := by decide +kernel
theorem has_z {m : Nat} {k : Int} (hm : m < 64) (h0 : 0 ≤ k) (h1 : k < 6) : (sshr (zI (m : Nat)) (zI k) &&& zI 1) = if m.testBit k.toNat then zI 1 else zI 0 := by
  have := has_k m hm k.toNat (by omega)
  rw [show ((k.toNat : Nat) : Int) = k by omega] at this
  exact this
set_option maxRecDepth 100000 in
set_option maxHeartbeats 4000000 in
theorem not_k : ∀ m, m < 64 → ∀ k, k < 64 → zI (m : Nat) &&& (zI (k : Nat) ^^^ zI (-1)) = zI ((m &&& (63 ^^^ k) : Nat) : Int) := by decide +kernel
set_option maxRecDepth 100000 in
theorem shl_k : ∀ k, k < 6 → shl (zI 1) (zI (k : Nat)) = zI ((2 ^ k : Nat) : Int) := by decide +kernel
theorem shl_z {k : Int} (h0 : 0 ≤ k) (h1 : k < 6) : shl (zI 1) (zI k) = zI ((2 ^ k.toNat : Nat) : Int) := by
  have := shl_k k.toNat (by omega)
  rw [show ((k.toNat : Nat) : Int) = k by omega] at this
  exact this
theorem pow6 {k : Nat} (hk : k < 6) : 2 ^ k < 64 := by
  have : (2 : Nat) ^ k < 2 ^ 6 := Nat.pow_lt_pow_right (by omega) hk
  omega
theorem or64 {a b : Nat} (ha : a < 64) (hb : b < 64) : a ||| b < 64 := Nat.or_lt_two_pow (n := 6) (by omega) (by omega)
theorem and64 {a b : Nat} (ha : a < 64) : a &&& b < 64 := Nat.lt_of_le_of_lt Nat.and_le_left ha
def keyP (w : Int → Int) (pol i : Int) : Int := if pol = 0 then w (6 + i) else if pol = 1 then lim w i else - w (24 + i)
def prec (w : Int → Int) (pol i j : Int) : Prop := keyP w pol i < keyP w pol j ∨ (keyP w pol i = keyP w pol j ∧ i < j)
def precB (w : Int → Int) (pol i j : Int) : Bool := decide (keyP w pol i < keyP w pol j) || (decide (keyP w pol i = keyP w pol j) && decide (i < j))
theorem precB_iff {w : Int → Int} {pol i j : Int} : precB w pol i j = true ↔ prec w pol i j := by
  unfold precB prec
  simp
theorem prec_tr {w : Int → Int} {pol a b c : Int} (h1 : prec w pol a b) (h2 : prec w pol b c) : prec w pol a c := by
  unfold prec at *; omega
theorem prec_to {w : Int → Int} {pol a b : Int} (h : a ≠ b) (h1 : ¬ prec w pol a b) : prec w pol b a := by
  unfold prec at *; omega
theorem prec_ir {w : Int → Int} {pol a : Int} : ¬ prec w pol a a := by
  unfold prec; omega
theorem prec_as {w : Int → Int} {pol a b : Int} (h1 : prec w pol a b) : ¬ prec w pol b a := by
  unfold prec at *; omega
theorem key_b {w : Int → Int} (hw : WF w) {pol i : Int} (h0 : 0 ≤ i) (h1 : i < w 72) : -9 ≤ keyP w pol i ∧ keyP w pol i ≤ 60 := by
  obtain ⟨c0, c1, c2, c3, c4, c5, c6, c7, c8, c9⟩ := hw.at h0 h1
  have l1 := lim_b hw h0 h1
  unfold keyP
  split
  · omega
  · split <;> omega
def insR (w : Int → Int) (pol t : Int) : List Int → List Int
  | [] => [t]
  | e :: l => if precB w pol t e then e :: insR w pol t l else t :: e :: l
/-- those that are on, of the first k, in order, the last first -/
def ordR (w : Int → Int) (pol : Int) : Nat → List Int
  | 0 => []
  | k + 1 => if w (42 + (k : Int)) = 1 then insR w pol k (ordR w pol k) else ordR w pol k
def ordL (w : Int → Int) (pol : Int) : List Int := (ordR w pol (w 72).toNat).reverse
theorem insR_mem {w : Int → Int} {pol t x : Int} : ∀ l : List Int, x ∈ insR w pol t l ↔ x = t ∨ x ∈ l
  | [] => by simp [insR]
  | e :: l => by
    unfold insR
    split
    · rw [List.mem_cons, insR_mem l, List.mem_cons]
      constructor
      · rintro (h | h | h)
        · exact Or.inr (Or.inl h)
        · exact Or.inl h
        · exact Or.inr (Or.inr h)
      · rintro (h | h | h)
        · exact Or.inr (Or.inl h)
        · exact Or.inl h
        · exact Or.inr (Or.inr h)
    · simp
theorem insR_len {w : Int → Int} {pol t : Int} : ∀ l : List Int, (insR w pol t l).length = l.length + 1
  | [] => rfl
  | e :: l => by
    unfold insR
    split
    · simp [insR_len l]
    · simp
theorem ordR_mem {w : Int → Int} {pol x : Int} : ∀ k : Nat, x ∈ ordR w pol k ↔ (0 ≤ x ∧ x < k ∧ w (42 + x) = 1)
  | 0 => by simp [ordR]; omega
  | k + 1 => by
    unfold ordR
    split
    · rename_i h
      rw [insR_mem, ordR_mem k]
      constructor
      · rintro (rfl | h2)
        · exact ⟨by omega, by omega, h⟩
        · exact ⟨by omega, by omega, h2.2.2⟩
      · intro h2
        by_cases e : x = k
        · exact Or.inl e
        · exact Or.inr ⟨by omega, by omega, h2.2.2⟩
    · rename_i h
      rw [ordR_mem k]
      constructor
      · intro h2; exact ⟨by omega, by omega, h2.2.2⟩
      · intro h2
        have : x ≠ k := fun e => h (e ▸ h2.2.2)
        exact ⟨by omega, by omega, h2.2.2⟩
theorem ordR_len {w : Int → Int} {pol : Int} : ∀ k : Nat, (ordR w pol k).length ≤ k
  | 0 => by simp [ordR]
  | k + 1 => by
    unfold ordR
    have := ordR_len (w := w) (pol := pol) k
    split
    · rw [insR_len]; omega
    · omega
theorem insR_sorted {w : Int → Int} {pol t : Int} : ∀ l : List Int, t ∉ l → l.Pairwise (fun a b => prec w pol b a) → (insR w pol t l).Pairwise (fun a b => prec w pol b a)
  | [], _, _ => by simp [insR]
  | e :: l, hn, hp => by
    obtain ⟨h1, h2⟩ := List.pairwise_cons.mp hp
    unfold insR
    split
    · rename_i h
      have h := precB_iff.mp h
      refine List.pairwise_cons.mpr ⟨fun x hx => ?_, insR_sorted l (fun z => hn (List.mem_cons_of_mem _ z)) h2⟩
      rcases (insR_mem l).mp hx with rfl | hx
      · exact h
      · exact h1 x hx
    · rename_i h
      have h : ¬ prec w pol t e := fun z => h (precB_iff.mpr z)
      have h3 : prec w pol e t := prec_to (fun z => hn (z ▸ List.mem_cons_self)) h
      refine List.pairwise_cons.mpr ⟨fun x hx => ?_, hp⟩
      rcases List.mem_cons.mp hx with rfl | hx
      · exact h3
      · exact prec_tr (h1 x hx) h3
theorem ordR_sorted {w : Int → Int} {pol : Int} : ∀ k : Nat, (ordR w pol k).Pairwise (fun a b => prec w pol b a)
  | 0 => by simp [ordR]
  | k + 1 => by
    unfold ordR
    split
    · refine insR_sorted _ (fun z => ?_) (ordR_sorted k)
      have := (ordR_mem k).mp z
      omega
    · exact ordR_sorted k
theorem ordL_mem {w : Int → Int} (hw : WF w) {pol x : Int} : x ∈ ordL w pol ↔ (0 ≤ x ∧ x < w 72 ∧ w (42 + x) = 1) := by
  unfold ordL
  rw [List.mem_reverse, ordR_mem]
  have := hw.n
  rw [this.1]
theorem ordL_len {w : Int → Int} (hw : WF w) {pol : Int} : (ordL w pol).length ≤ 6 := by
  unfold ordL
  rw [List.length_reverse]
  have := ordR_len (w := w) (pol := pol) (w 72).toNat
  have := hw.n
  omega
theorem ordL_sorted {w : Int → Int} {pol : Int} : (ordL w pol).Pairwise (fun a b => prec w pol a b) := by
  unfold ordL
  rw [List.pairwise_reverse]
  exact ordR_sorted _
def aheadM (w : Int → Int) (pol i : Int) : Nat := maskK (fun j => decide (w (42 + j) = 1) && precB w pol j i) (w 72).toNat
def behM (w : Int → Int) (a : Nat) (i : Int) : Nat := (onM w &&& (63 ^^^ a)) &&& (63 ^^^ 2 ^ i.toNat)
theorem aheadM_lt {w : Int → Int} (hw : WF w) {pol i : Int} : aheadM w pol i < 64 := mask64 hw.n.2
theorem behM_lt {w : Int → Int} (hw : WF w) {a : Nat} {i : Int} : behM w a i < 64 := and64 (and64 (onM_lt hw))
def orL : List Int → Nat → Nat
  | [], m => m
  | e :: l, m => orL l (m ||| 2 ^ e.toNat)
theorem orL_bit : ∀ (l : List Int) (m i : Nat), (orL l m).testBit i = (m.testBit i || l.any (fun e => decide (e.toNat = i)))
  | [], m, i => by simp [orL]
  | e :: l, m, i => by
    unfold orL
    rw [orL_bit l, Nat.testBit_or, Nat.testBit_two_pow, List.any_cons, Bool.or_assoc]
theorem orL_snoc : ∀ (l : List Int) (m : Nat) (e : Int), orL (l ++ [e]) m = orL l m ||| 2 ^ e.toNat
  | [], m, e => rfl
  | x :: l, m, e => orL_snoc l _ e
theorem orL_lt : ∀ (l : List Int) (m : Nat), m < 64 → (∀ e ∈ l, 0 ≤ e ∧ e < 6) → orL l m < 64
  | [], m, hm, _ => hm
  | e :: l, m, hm, h => orL_lt l _ (or64 hm (pow6 (by have := h e List.mem_cons_self; omega))) (fun x hx => h x (List.mem_cons_of_mem _ hx))
/-- those ahead of a task in the order are those that it says are ahead -/
theorem orL_ahead {w : Int → Int} (hw : WF w) {pol t : Int} {l1 l2 : List Int} (h : ordL w pol = l1 ++ t :: l2) : orL l1 0 = aheadM w pol t := by
  apply Nat.eq_of_testBit_eq
  intro i
  rw [orL_bit]
  unfold aheadM
  rw [maskK_bit]
  have hn := hw.n
  have hs := ordL_sorted (w := w) (pol := pol)
  rw [h] at hs
  have hs2 := List.pairwise_append.mp hs
  have hs3 := List.pairwise_cons.mp hs2.2.1
  simp only [Nat.zero_testBit, Bool.false_or]
  rw [Bool.eq_iff_iff]
  simp only [List.any_eq_true, decide_eq_true_eq, Bool.and_eq_true]
  constructor
  · rintro ⟨e, he, rfl⟩
    have hm := (ordL_mem hw (pol := pol) (x := e)).mp (by rw [h]; exact List.mem_append_left _ he)
    have e1 : ((e.toNat : Nat) : Int) = e := by omega
    rw [e1]
    exact ⟨by omega, hm.2.2, precB_iff.mpr (hs2.2.2 e he t List.mem_cons_self)⟩
  · rintro ⟨h1, h2, h3⟩
    have hm := (ordL_mem hw (pol := pol) (x := (i : Int))).mpr ⟨by omega, by omega, h2⟩
    have h3 := precB_iff.mp h3
    rw [h] at hm
    rcases List.mem_append.mp hm with hm | hm
    · exact ⟨i, hm, by omega⟩
    · rcases List.mem_cons.mp hm with hm | hm
      · rw [hm] at h3; exact absurd h3 prec_ir
      · exact absurd h3 (prec_as (hs3.1 _ hm))
