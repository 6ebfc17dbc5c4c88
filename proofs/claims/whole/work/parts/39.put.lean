/-! ===== one number of a task laid anew ===== -/
def fset (w : Int → Int) (j v : Int) : Int → Int := fun i => if i = j then v else w i
theorem fs_ne {w : Int → Int} {j v x : Int} (h : x ≠ j) : fset w j v x = w x := if_neg h
theorem fs_eq {w : Int → Int} {j v : Int} : fset w j v j = v := if_pos rfl
theorem WF.put {w : Int → Int} {j v t : Int} (hw : WF w) (h0 : 0 ≤ t) (h1 : t < w 72) (hv : (j = t ∧ 1 ≤ v ∧ v ≤ 200) ∨ (j = 18 + t ∧ 0 ≤ v ∧ v ≤ 59) ∨ (j = 24 + t ∧ 0 ≤ v ∧ v ≤ 9) ∨ (48 + 4 * t ≤ j ∧ j < 52 + 4 * t ∧ 0 ≤ v ∧ v ≤ 9)) : WF (fset w j v) := by
  have hn := hw.1
  have e72 : fset w j v 72 = w 72 := fs_ne (by omega)
  refine ⟨by rw [e72]; exact hn, fun i i0 i1 => ?_, fun i i0 i1 => ?_⟩
  · unfold fset
    split
    · omega
    · exact hw.2.1 i i0 i1
  · rw [e72] at i1
    have a := hw.2.2 i i0 i1
    unfold fset
    refine ⟨⟨?_, ?_, ?_, ?_, ?_, ?_, ?_, ?_, ?_, ?_⟩, fun l l0 l1 => ?_⟩
    all_goals split
    all_goals first
      | omega
      | exact a.2 l l0 l1
theorem onK_cg {w w' : Int → Int} : ∀ k : Nat, (∀ i : Int, 0 ≤ i → i < k → w' (42 + i) = w (42 + i)) → onK w' k = onK w k
  | 0, _ => rfl
  | k + 1, h => by
    unfold onK
    rw [onK_cg k (fun i a b => h i a (by omega)), h k (by omega) (by omega)]
theorem DW.chg {h h' : Mem} {p : Nat} {w w' : Int → Int} (hd : DW h p w) (hw : WF w) (n : w' 72 = w 72)
    (e : ∀ i, 0 ≤ i → i < 6 → w' (6 + i) = w (6 + i) ∧ w' (12 + i) = w (12 + i) ∧ w' (30 + i) = w (30 + i) ∧ w' (36 + i) = w (36 + i) ∧ w' (42 + i) = w (42 + i))
    (hp : h' p = h p) (hk : ∀ k, k ≠ 0 → k ≠ 1 → k ≠ 4 → k ≠ 5 → k ≠ 8 → h' (p + k) = h (p + k))
    (c : ∀ i : Int, 0 ≤ i → i < w 72 → (h' (p + 1) i.toNat = zI (w' i) ∧ h' (p + 4) i.toNat = zI (w' (18 + i)) ∧ h' (p + 5) i.toNat = zI (w' (24 + i))) ∧ ∀ l : Int, 0 ≤ l → l < 4 → h' (p + 8) (i * 4 + l).toNat = zI (w' (48 + 4 * i + l)))
    (c2 : ∀ i : Int, w 72 ≤ i → i < 6 → (h' (p + 4) i.toNat = h (p + 4) i.toNat ∧ h' (p + 5) i.toNat = h (p + 5) i.toNat) ∧ ∀ l : Int, 0 ≤ l → l < 4 → h' (p + 8) (i * 4 + l).toNat = h (p + 8) (i * 4 + l).toNat) : DW h' p w' := by
  have hn := hw.1
  have k2 := hk 2 (by omega) (by omega) (by omega) (by omega) (by omega)
  have k3 := hk 3 (by omega) (by omega) (by omega) (by omega) (by omega)
  have k6 := hk 6 (by omega) (by omega) (by omega) (by omega) (by omega)
  have k7 := hk 7 (by omega) (by omega) (by omega) (by omega) (by omega)
  have k9 := hk 9 (by omega) (by omega) (by omega) (by omega) (by omega)
  have k10 := hk 10 (by omega) (by omega) (by omega) (by omega) (by omega)
  have k11 := hk 11 (by omega) (by omega) (by omega) (by omega) (by omega)
  have k12 := hk 12 (by omega) (by omega) (by omega) (by omega) (by omega)
  have k13 := hk 13 (by omega) (by omega) (by omega) (by omega) (by omega)
  have eon : onM w' = onM w := by
    unfold onM
    rw [n]
    exact onK_cg _ fun i a b => (e i a (by omega)).2.2.2.2
  refine ⟨?_, ?_, fun i i0 i1 => ?_, fun i i0 i1 => ?_⟩
  · show h' p 0 = _
    rw [hp, n]; exact hd.1
  · show h' p 1 = _
    rw [hp, eon]; exact hd.2.1
  · rw [n] at i1
    have d := hd.2.2.1 i i0 i1
    have ei := e i i0 (by omega)
    have ci := c i i0 i1
    have a9 : dist w' i = dist w i := by unfold dist; rw [ei.1, ei.2.2.1, ei.2.2.2.1]
    have a10 : lat w' i = lat w i := by unfold lat; rw [ei.2.2.1, ei.2.2.2.1]
    have a11 : lim w' i = lim w i := by unfold lim; rw [ei.2.1, ei.2.2.1, ei.2.2.2.1]
    have a12 : mostJ w' i = mostJ w i := by unfold mostJ; rw [ei.2.2.1, ei.2.2.2.1]
    have a13 : moreJ w' i = moreJ w i := by unfold moreJ; rw [ei.2.2.1]
    rw [ei.1, ei.2.1, ei.2.2.1, ei.2.2.2.1, a9, a10, a11, a12, a13]
    exact ⟨⟨ci.1.1, (congrFun k2 _).trans d.1.2.1, (congrFun k3 _).trans d.1.2.2.1, ci.1.2.1, ci.1.2.2, (congrFun k6 _).trans d.1.2.2.2.2.2.1, (congrFun k7 _).trans d.1.2.2.2.2.2.2⟩, ci.2, (congrFun k9 _).trans d.2.2.1, (congrFun k10 _).trans d.2.2.2.1, (congrFun k11 _).trans d.2.2.2.2.1, (congrFun k12 _).trans d.2.2.2.2.2.1, (congrFun k13 _).trans d.2.2.2.2.2.2⟩
  · rw [n] at i0
    have d := hd.2.2.2 i i0 i1
    have ci := c2 i i0 i1
    exact ⟨⟨ci.1.1.trans d.1.1, ci.1.2.trans d.1.2.1, (congrFun k6 _).trans d.1.2.2.1, (congrFun k7 _).trans d.1.2.2.2⟩, fun l l0 l1 => (ci.2 l l0 l1).trans (d.2 l l0 l1)⟩
theorem DW.put {h : Mem} {p r : Nat} {b t v : Int} {w : Int → Int} (hd : DW h p w) (hw : WF w) (hrb : (r = 1 ∧ b = 0) ∨ (r = 4 ∧ b = 18) ∨ (r = 5 ∧ b = 24)) (h0 : 0 ≤ t) (h1 : t < w 72) : DW (upd2 h (p + r) t.toNat (zI v)) p (fset w (b + t) v) := by
  have hn := hw.1
  have o : ∀ q, q ≠ p + r → upd2 h (p + r) t.toNat (zI v) q = h q := fun q hq => upd2_ne q hq
  have f : ∀ x, x ≠ b + t → fset w (b + t) v x = w x := fun x hx => fs_ne hx
  refine hd.chg hw (f 72 (by omega)) (fun i i0 i1 => ⟨f _ (by omega), f _ (by omega), f _ (by omega), f _ (by omega), f _ (by omega)⟩) (o p (by omega)) (fun k a b c d e => o _ (by omega)) (fun i i0 i1 => ?_) (fun i i0 i1 => ?_)
  · have d := hd.2.2.1 i i0 i1
    have one : ∀ (r' : Nat) (b' : Int), ((r' = 1 ∧ b' = 0) ∨ (r' = 4 ∧ b' = 18) ∨ (r' = 5 ∧ b' = 24)) → h (p + r') i.toNat = zI (w (b' + i)) → upd2 h (p + r) t.toNat (zI v) (p + r') i.toNat = zI (fset w (b + t) v (b' + i)) := by
      intro r' b' hr' hh
      by_cases e : r' = r
      · subst e
        by_cases e2 : i = t
        · subst e2
          rw [u_s, show b' + i = b + i by omega, fs_eq]
        · rw [u_i (by omega), f _ (by omega)]
          exact hh
      · rw [o _ (by omega), f _ (by omega)]
        exact hh
    have := one 1 0 (by omega) (by rw [Int.zero_add]; exact d.1.1)
    rw [Int.zero_add] at this
    exact ⟨⟨this, one 4 18 (by omega) d.1.2.2.2.1, one 5 24 (by omega) d.1.2.2.2.2.1⟩, fun l l0 l1 => by rw [o _ (by omega), f _ (by omega)]; exact d.2.1 l l0 l1⟩
  · have u : ∀ r', upd2 h (p + r) t.toNat (zI v) (p + r') i.toNat = h (p + r') i.toNat := by
      intro r'
      by_cases e : r' = r
      · subst e
        exact u_i (by omega)
      · exact congrFun (o _ (by omega)) _
    exact ⟨⟨u 4, u 5⟩, fun l l0 l1 => congrFun (o _ (by omega)) _⟩
theorem DW.hold {h : Mem} {p : Nat} {t l v : Int} {w : Int → Int} (hd : DW h p w) (hw : WF w) (h0 : 0 ≤ t) (h1 : t < w 72) (l0 : 0 ≤ l) (l1 : l < 4) : DW (upd2 h (p + 8) (t * 4 + l).toNat (zI v)) p (fset w (48 + 4 * t + l) v) := by
  have hn := hw.1
  have o : ∀ q, q ≠ p + 8 → upd2 h (p + 8) (t * 4 + l).toNat (zI v) q = h q := fun q hq => upd2_ne q hq
  have f : ∀ x, x ≠ 48 + 4 * t + l → fset w (48 + 4 * t + l) v x = w x := fun x hx => fs_ne hx
  refine hd.chg hw (f 72 (by omega)) (fun i i0 i1 => ⟨f _ (by omega), f _ (by omega), f _ (by omega), f _ (by omega), f _ (by omega)⟩) (o p (by omega)) (fun k a b c d e => o _ (by omega)) (fun i i0 i1 => ?_) (fun i i0 i1 => ?_)
  · have d := hd.2.2.1 i i0 i1
    refine ⟨⟨by rw [o _ (by omega), f _ (by omega)]; exact d.1.1, by rw [o _ (by omega), f _ (by omega)]; exact d.1.2.2.2.1, by rw [o _ (by omega), f _ (by omega)]; exact d.1.2.2.2.2.1⟩, fun m m0 m1 => ?_⟩
    by_cases e : i = t ∧ m = l
    · rw [e.1, e.2, u_s, fs_eq]
    · rw [u_i (by omega), f _ (by omega)]
      exact d.2.1 m m0 m1
  · exact ⟨⟨congrFun (o _ (by omega)) _, congrFun (o _ (by omega)) _⟩, fun m m0 m1 => u_i (by omega)⟩
theorem RW.put {f : Nat → Int32} {w : Int → Int} {j v : Int} (hr : RW f w) (h0 : 0 ≤ j) (h1 : j < 73) : RW (fun i => if i = j.toNat then zI v else f i) (fset w j v) := fun i i0 i1 => by
  by_cases e : i = j
  · subst e
    rw [fs_eq]
    exact if_pos rfl
  · rw [fs_ne e]
    exact (if_neg (by omega)).trans (hr i i0 i1)
