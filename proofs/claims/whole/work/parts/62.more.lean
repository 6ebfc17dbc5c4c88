/-! ===== costs that are more: what follows ===== -/
def CLe (w w' : Int → Int) : Prop := (∀ x, 6 ≤ x → w' x = w x) ∧ ∀ i, 0 ≤ i → i < 6 → w i ≤ w' i
section CL
variable {w w' : Int → Int}
theorem cl_ds (c : CLe w w') {i : Int} (h : 0 ≤ i) : dist w' i = dist w i := by
  unfold dist; rw [c.1 (6 + i) (by omega), c.1 (30 + i) (by omega), c.1 (36 + i) (by omega)]
theorem cl_la (c : CLe w w') {i : Int} (h : 0 ≤ i) : lat w' i = lat w i := by
  unfold lat; rw [c.1 (30 + i) (by omega), c.1 (36 + i) (by omega)]
theorem cl_li (c : CLe w w') {i : Int} (h : 0 ≤ i) : lim w' i = lim w i := by
  unfold lim; rw [c.1 (12 + i) (by omega), c.1 (30 + i) (by omega), c.1 (36 + i) (by omega)]
theorem cl_bk (c : CLe w w') {i n : Int} (h : 0 ≤ i) : byK w' i n = byK w i n := by
  unfold byK; rw [c.1 (30 + i) (by omega), c.1 (36 + i) (by omega)]
theorem cl_as (c : CLe w w') {i t : Int} (h : 0 ≤ i) : asked w' i t = asked w i t := by
  unfold asked; rw [cl_bk c h, cl_la c h, cl_ds c h]
theorem cl_ow (c : CLe w w') {i t : Int} (h : 0 ≤ i) : owed w' i t = owed w i t := by
  unfold owed; rw [cl_bk c h, cl_la c h, cl_ds c h, cl_li c h]
theorem cl_n (c : CLe w w') : w' 72 = w 72 := c.1 72 (by omega)
theorem cl_on (c : CLe w w') : onM w' = onM w := by
  unfold onM
  rw [cl_n c]
  exact onK_cg _ fun i a b => c.1 _ (by omega)
theorem cl_dem (c : CLe w w') (hw : WF w) {t : Int} (ht : 0 ≤ t) : dem w t ≤ dem w' t := by
  have hn := hw.n
  unfold dem
  rw [cl_n c]
  refine sumT_le _ fun i i0 i1 => ?_
  have ob := owed_b hw i0 (by omega) ht
  rw [c.1 (42 + i) (by omega), cl_ow c i0]
  split
  · exact Int.mul_le_mul_of_nonneg_right (c.2 i i0 (by omega)) ob.1
  · omega
theorem cl_asks (c : CLe w w') (hw : WF w) (m : Nat) {t : Int} (ht : 0 ≤ t) : asksM w m t ≤ asksM w' m t := by
  have hn := hw.n
  unfold asksM
  rw [cl_n c]
  refine sumT_le _ fun i i0 i1 => ?_
  have ob := asked_b hw i0 (by omega) ht
  rw [cl_as c i0]
  split
  · exact Int.mul_le_mul_of_nonneg_right (c.2 i i0 (by omega)) ob.1
  · omega
theorem cl_key (c : CLe w w') {pol i : Int} (h : 0 ≤ i) : keyP w' pol i = keyP w pol i := by
  unfold keyP; rw [c.1 (6 + i) (by omega), c.1 (24 + i) (by omega), cl_li c h]
theorem maskK_cg {P R : Int → Bool} : ∀ k : Nat, (∀ i : Int, 0 ≤ i → i < k → P i = R i) → maskK P k = maskK R k
  | 0, _ => rfl
  | k + 1, h => by
    unfold maskK
    rw [maskK_cg k (fun i a b => h i a (by omega)), h k (by omega) (by omega)]
theorem cl_ahead (c : CLe w w') {pol i : Int} (h : 0 ≤ i) : aheadM w' pol i = aheadM w pol i := by
  unfold aheadM
  rw [cl_n c]
  refine maskK_cg _ fun j a b => ?_
  unfold precB
  rw [c.1 (42 + j) (by omega), cl_key c a, cl_key c h]
theorem cl_beh (c : CLe w w') {a : Nat} {i : Int} : behM w' a i = behM w a i := by
  unfold behM; rw [cl_on c]
theorem cl_mx (c : CLe w w') {b l : Nat} {s : Int} : ∀ k : Nat, mxK w' b l s k = mxK w b l s k
  | 0 => rfl
  | k + 1 => by
    unfold mxK hld
    rw [cl_mx c k, c.1 (48 + 4 * (k : Int) + (l : Int)) (by omega)]
theorem cl_blkL (c : CLe w w') {u b : Nat} : ∀ l : Nat, blkL w' u b l = blkL w u b l
  | 0 => rfl
  | l + 1 => by
    unfold blkL
    rw [cl_n c, cl_mx c, cl_blkL c l, cl_mx c]
theorem cl_own (c : CLe w w') (hw : WF w) {t : Int} (h0 : 0 ≤ t) (h1 : t < w 72) (a b : Nat) : own1 w t a b ≤ own1 w' t a b := by
  have ab := asked_b hw h0 h1 (t := 1) (by omega)
  have hn := hw.1
  have p := Int.mul_le_mul_of_nonneg_right (c.2 t h0 (by omega)) ab.1
  unfold own1 blk
  rw [cl_as c h0, cl_blkL c]
  omega
theorem settle_fix {B : Int → Int} (hB : ∀ x y, 0 ≤ x → x ≤ y → B x ≤ B y) : ∀ (f : Nat) (s : Int), 0 ≤ s → s ≤ B s → settle B f s ≠ -9 → B (settle B f s) = settle B f s ∧ s ≤ settle B f s ∧ settle B f s ≤ 600
  | 0, s, _, _, h => absurd rfl h
  | f + 1, s, h0, h1, h => by
    unfold settle at h ⊢
    by_cases c1 : 600 < s
    · rw [if_pos c1] at h; exact absurd rfl h
    · rw [if_neg c1] at h ⊢
      by_cases c2 : B s = s
      · rw [if_pos c2] at h ⊢
        exact ⟨c2, Int.le_refl _, by omega⟩
      · rw [if_neg c2] at h ⊢
        have := settle_fix hB f (B s) (by omega) (hB _ _ h0 h1) h
        exact ⟨this.1, by omega, this.2.2⟩
theorem settle_to {A B : Int → Int} (hA : ∀ x y, 0 ≤ x → x ≤ y → A x ≤ A y) (hAB : ∀ x, 0 ≤ x → A x ≤ B x) {r : Int} (hB : ∀ x y, 0 ≤ x → x ≤ y → B x ≤ B y) (hr : B r = r) (r6 : r ≤ 600) : ∀ (f : Nat) (t : Int), 0 ≤ t → t ≤ r → t ≤ A t → 601 - t ≤ f → 0 ≤ settle A f t ∧ settle A f t ≤ r
  | 0, t, h0, h1, _, hf => by omega
  | f + 1, t, h0, h1, h2, hf => by
    unfold settle
    rw [if_neg (by omega)]
    by_cases c2 : A t = t
    · rw [if_pos c2]; omega
    · rw [if_neg c2]
      have a1 := hAB t h0
      have a2 := hB t r h0 h1
      exact settle_to hA hAB hB hr r6 f (A t) (by omega) (by omega) (hA _ _ h0 h2) (by omega)
theorem cl_hor (c : CLe w w') (hw : WF w) (hw' : WF w') : hor w ≤ hor w' := by
  have b1 := hor_b hw
  by_cases e : busy w' = -9
  · have : hor w' = 600 := by unfold hor; rw [if_pos e]
    omega
  · have h' : hor w' = busy w' := by unfold hor; rw [if_neg e]
    have bb := asksM_b hw' (onM w') (t := 1) (by omega)
    have fx := settle_fix (B := asksM w' (onM w')) (fun x y a b => asksM_mono hw' _ a b) 700 (asksM w' (onM w') 1) bb.1 (asks1_le hw') e
    have ba := asksM_b hw (onM w) (t := 1) (by omega)
    have le1 : asksM w (onM w) 1 ≤ asksM w' (onM w') 1 := by rw [cl_on c]; exact cl_asks c hw _ (by omega)
    have st := settle_to (A := asksM w (onM w)) (B := asksM w' (onM w')) (r := busy w') (fun x y a b => asksM_mono hw _ a b) (fun x a => by rw [cl_on c]; exact cl_asks c hw _ a) (fun x y a b => asksM_mono hw' _ a b) fx.1 fx.2.2 700 (asksM w (onM w) 1) ba.1 (Int.le_trans le1 fx.2.1) (asks1_le hw) (by omega)
    have e2 : hor w = busy w := by
      unfold hor
      rw [if_neg]
      intro z
      have : busy w = settle (asksM w (onM w)) 700 (asksM w (onM w) 1) := rfl
      omega
    have : busy w = settle (asksM w (onM w)) 700 (asksM w (onM w) 1) := rfl
    omega
theorem missR_ex : ∀ (l : List Int), (∀ x ∈ l, 0 ≤ x) → (missR w l ≠ -9 ↔ ∃ x ∈ l, x < dem w x)
  | [], _ => ⟨fun z => absurd rfl z, fun ⟨x, hx, _⟩ => absurd hx List.not_mem_nil⟩
  | t :: l, h => by
    have ih := missR_ex l (fun x hx => h x (List.mem_cons_of_mem _ hx))
    have ht := h t List.mem_cons_self
    unfold missR
    by_cases c : t < dem w t
    · rw [if_pos c]
      exact ⟨fun _ => ⟨t, List.mem_cons_self, c⟩, fun _ => by omega⟩
    · rw [if_neg c, ih]
      constructor
      · rintro ⟨x, hx, hc⟩; exact ⟨x, List.mem_cons_of_mem _ hx, hc⟩
      · rintro ⟨x, hx, hc⟩
        rcases List.mem_cons.mp hx with rfl | hx
        · exact absurd hc c
        · exact ⟨x, hx, hc⟩
theorem pts_ex (hw : WF w) : ∀ (n : Nat) (a t : Int), 0 ≤ a → dem w a ≤ a → a < t → t ≤ a + n → t < dem w t → ∃ p ∈ ptsR w a n, p < dem w p
  | 0, a, t, _, _, h2, h3, _ => by omega
  | n + 1, a, t, h0, h1, h2, h3, h4 => by
    unfold ptsR
    have dm := dem_mono hw (a := a) (b := a + 1) h0 (by omega)
    by_cases c : dem w a < dem w (a + 1)
    · rw [if_pos c]
      by_cases c2 : a + 1 < dem w (a + 1)
      · exact ⟨a + 1, List.mem_cons_self, c2⟩
      · by_cases e : t = a + 1
        · rw [e] at h4; exact absurd h4 c2
        · obtain ⟨p, hp, hc⟩ := pts_ex hw n (a + 1) t (by omega) (by omega) (by omega) (by omega) h4
          exact ⟨p, List.mem_cons_of_mem _ hp, hc⟩
    · rw [if_neg c]
      by_cases e : t = a + 1
      · rw [e] at h4; omega
      · exact pts_ex hw n (a + 1) t (by omega) (by omega) (by omega) (by omega) h4
theorem miss_ex (hw : WF w) : missT w ≠ -9 ↔ ∃ t, 1 ≤ t ∧ t ≤ hor w ∧ t < dem w t := by
  have hb := hor_b hw
  unfold missT
  rw [missR_ex _ (fun x hx => by have := ptsL_b hw x hx; omega)]
  constructor
  · rintro ⟨x, hx, hc⟩
    have := ptsR_b w _ _ x hx
    exact ⟨x, by omega, by omega, hc⟩
  · rintro ⟨t, h1, h2, h3⟩
    exact pts_ex hw (hor w).toNat 0 t (by omega) (by rw [dem0]; omega) (by omega) (by omega) h3
theorem cl_miss (c : CLe w w') (hw : WF w) (hw' : WF w') (h : missT w' = -9) : missT w = -9 := by
  apply Decidable.byContradiction
  intro z
  obtain ⟨t, h1, h2, h3⟩ := (miss_ex hw).mp z
  have := cl_hor c hw hw'
  have d := cl_dem c hw (t := t) (by omega)
  exact (miss_ex hw').mpr ⟨t, h1, by omega, by omega⟩ h
theorem cl_fit (c : CLe w w') (hw : WF w) (hw' : WF w') {t : Int} (h0 : 0 ≤ t) (h1 : t < w 72) (a b : Nat) (h : fitB w' t a b = true) : fitB w t a b = true := by
  unfold fitB at h ⊢
  simp only [Bool.and_eq_true, decide_eq_true_eq] at h ⊢
  have h1' : t < w' 72 := by rw [cl_n c]; exact h1
  have o' := own1_b hw' h0 h1' a b
  have o := own1_b hw h0 h1 a b
  have ol := cl_own c hw h0 h1 a b
  have m' : ∀ x y, 0 ≤ x → x ≤ y → own1 w' t a b + asksM w' a x ≤ own1 w' t a b + asksM w' a y := fun x y p q => by have := asksM_mono hw' a p q; omega
  have m : ∀ x y, 0 ≤ x → x ≤ y → own1 w t a b + asksM w a x ≤ own1 w t a b + asksM w a y := fun x y p q => by have := asksM_mono hw a p q; omega
  have fx := settle_fix (B := fun r => own1 w' t a b + asksM w' a r) m' 700 (own1 w' t a b) o'.1 (by have := asksM_b hw' a (t := own1 w' t a b) o'.1; show own1 w' t a b ≤ own1 w' t a b + _; omega) (show resp w' t a b ≠ -9 by omega)
  have st := settle_to (A := fun r => own1 w t a b + asksM w a r) (B := fun r => own1 w' t a b + asksM w' a r) (r := resp w' t a b) m (fun x p => by have := cl_asks c hw a p; show own1 w t a b + asksM w a x ≤ own1 w' t a b + asksM w' a x; omega) m' fx.1 fx.2.2 700 (own1 w t a b) o.1 (Int.le_trans ol fx.2.1) (by have := asksM_b hw a (t := own1 w t a b) o.1; show own1 w t a b ≤ own1 w t a b + _; omega) (by omega)
  rw [cl_la c h0, cl_li c h0] at h
  have st1 : 0 ≤ resp w t a b := st.1
  have st2 : resp w t a b ≤ resp w' t a b := st.2
  omega
theorem allFit_iff (hw : WF w) {pol : Int} : allFit w pol = true ↔ ∀ i : Nat, (i : Int) < w 72 → w (42 + (i : Int)) = 1 → fitB w i (aheadM w pol i) (behM w (aheadM w pol i) i) = true := by
  have hn := hw.n
  unfold allFit
  rw [decide_eq_true_iff]
  constructor
  · intro e i hi ho
    have t : (fitsM w pol).testBit i = (onM w).testBit i := by rw [e]
    unfold fitsM onM at t
    rw [maskK_bit, onK_bit] at t
    have hlt : i < (w 72).toNat := by omega
    simp only [hlt, ho, decide_true, Bool.true_and] at t
    exact t
  · intro h
    apply Nat.eq_of_testBit_eq
    intro i
    unfold fitsM onM
    rw [maskK_bit, onK_bit]
    by_cases hlt : i < (w 72).toNat
    · by_cases ho : w (42 + (i : Int)) = 1
      · simp only [hlt, ho, decide_true, Bool.true_and]
        exact h i (by omega) ho
      · simp [ho]
    · simp [hlt]
theorem cl_all (c : CLe w w') (hw : WF w) (hw' : WF w') {pol : Int} (h : allFit w' pol = true) : allFit w pol = true := by
  rw [allFit_iff hw]
  rw [allFit_iff hw'] at h
  intro i hi ho
  have := h i (by rw [cl_n c]; exact hi) (by rw [c.1 _ (by omega)]; exact ho)
  rw [cl_ahead c (by omega), cl_beh c] at this
  exact cl_fit c hw hw' (by omega) hi _ _ this
end CL
/-! ===== the most for which it holds ===== -/
def slR (F : Int → Bool) : Nat → Int → Int → Int
  | 0, _, m => m
  | f + 1, v, m => if F v = true then slR F f (v + 1) v else m
theorem slR_eq {F : Int → Bool} : ∀ (j f : Nat) (v m : Int), j ≤ f → (∀ i : Int, v ≤ i → i < v + j → F i = true) → (j = f ∨ F (v + j) = false) → slR F f v m = if j = 0 then m else v + j - 1
  | 0, 0, v, m, _, _, _ => rfl
  | 0, f + 1, v, m, _, _, h => by
    have h : F (v + ((0 : Nat) : Int)) = false := h.resolve_left (by omega)
    rw [show v + ((0 : Nat) : Int) = v by omega] at h
    unfold slR
    rw [if_neg (by rw [h]; exact Bool.false_ne_true)]
    rfl
  | j + 1, 0, v, m, h, _, _ => by omega
  | j + 1, f + 1, v, m, h, h1, h2 => by
    unfold slR
    rw [if_pos (h1 v (by omega) (by omega))]
    rw [slR_eq j f (v + 1) v (by omega) (fun i a b => h1 i (by omega) (by omega)) (by
      rcases h2 with h2 | h2
      · exact Or.inl (by omega)
      · right
        rw [show v + 1 + (j : Int) = v + ((j + 1 : Nat) : Int) by omega]
        exact h2)]
    rw [if_neg (show ¬ j + 1 = 0 by omega)]
    split <;> omega
