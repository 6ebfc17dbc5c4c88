/-! ===== every instruction keeps what it promises ===== -/
theorem tg_of {pc tgt : Nat} {off : Int} (h : 0 ≤ (pc : Int) + off) (e : toT pc off = tgt) : (pc : Int) + off = (tgt : Int) := by
  unfold toT at e
  omega
theorem swT_of {x : Int32} {f : Int → Prop} {D : Prop} : ∀ (offs : List Int) (lo : Int), -2147483648 ≤ lo → lo + offs.length ≤ 2147483648 → swT f x lo offs D →
    (∃ (i : Nat) (o : Int), offs[i]? = some o ∧ x.toInt = lo + i ∧ f o) ∨ ((x.toInt < lo ∨ lo + offs.length ≤ x.toInt) ∧ D)
  | [], lo, h1, h2, h => Or.inr ⟨by simp only [List.length_nil] at h2 ⊢; omega, h⟩
  | o :: t, lo, h1, h2, h => by
    have hlen : (o :: t).length = t.length + 1 := rfl
    have hlo : (Int32.ofInt lo).toInt = lo := by
      rw [hlen] at h2
      exact Int32.toInt_ofInt_of_le (by omega) (by omega)
    by_cases e : x = Int32.ofInt lo
    · left
      refine ⟨0, o, rfl, ?_, h.1 e⟩
      rw [e, hlo]; simp
    · rcases swT_of t (lo + 1) (by omega) (by rw [hlen] at h2; omega) (h.2 e) with ⟨i, o', g1, g2, g3⟩ | ⟨g1, g2⟩
      · left
        exact ⟨i + 1, o', g1, by rw [g2]; push_cast; omega, g3⟩
      · right
        refine ⟨?_, g2⟩
        have hne : x.toInt ≠ lo := fun z => e (by apply Int32.toInt_inj.mp; rw [hlo]; exact z)
        rw [hlen]
        push_cast
        omega
theorem swL_of {x : Int32} {f : Int → Prop} {D : Prop} {df : Int} : ∀ (ps : List (Int × Int)), (∀ q ∈ ps, -2147483648 ≤ q.1 ∧ q.1 < 2147483648) → swL f x ps D →
    (∃ o, Op.lookupswitch.offset ps df x.toInt = o ∧ (∃ k, (k, o) ∈ ps) ∧ f o) ∨ (Op.lookupswitch.offset ps df x.toInt = df ∧ D)
  | [], _, h => Or.inr ⟨rfl, h⟩
  | q :: t, hb, h => by
    have hq := hb q List.mem_cons_self
    have hlo : (Int32.ofInt q.1).toInt = q.1 := by
      exact Int32.toInt_ofInt_of_le (by omega) (by omega)
    by_cases e : x = Int32.ofInt q.1
    · left
      refine ⟨q.2, ?_, ⟨q.1, List.mem_cons_self⟩, h.1 e⟩
      rw [e, hlo]
      simp [Op.lookupswitch.offset]
    · have hne : q.1 ≠ x.toInt := fun z => e (by apply Int32.toInt_inj.mp; rw [hlo]; exact z.symm)
      have hoff : Op.lookupswitch.offset (q :: t) df x.toInt = Op.lookupswitch.offset t df x.toInt := by
        simp [Op.lookupswitch.offset, hne]
      rcases swL_of t (fun r hr => hb r (List.mem_cons_of_mem _ hr)) (h.2 e) with ⟨o, g1, ⟨k, g2⟩, g3⟩ | ⟨g1, g2⟩
      · left
        exact ⟨o, by rw [hoff]; exact g1, ⟨k, List.mem_cons_of_mem _ g2⟩, g3⟩
      · right
        exact ⟨by rw [hoff]; exact g1, g2⟩
theorem popN_of : ∀ (n : Nat) (st acc av rest : List Value), popN n st acc = some (av, rest) → ∃ xs : List Value, av = xs ++ acc ∧ st = xs.reverse ++ rest ∧ xs.length = n
  | 0, st, acc, av, rest, h => by
    simp only [popN, Option.some.injEq, Prod.mk.injEq] at h
    obtain ⟨rfl, rfl⟩ := h
    exact ⟨[], rfl, rfl, rfl⟩
  | n + 1, [], acc, av, rest, h => by simp [popN] at h
  | n + 1, v :: st, acc, av, rest, h => by
    simp only [popN] at h
    obtain ⟨xs, h1, h2, h3⟩ := popN_of n st (v :: acc) av rest h
    refine ⟨xs ++ [v], by rw [h1]; simp, by rw [h2]; simp, by simp [h3]⟩
theorem csum_cv (E : XE) (st : List Value) : ((st.map (cv E)).map fun v => v.category).sum = csum st := by
  unfold csum
  rw [List.map_map]
  congr 1
  apply List.map_congr_left
  intro v _
  exact cv_cat E v
section WC
variable {E : XE} {p : Program} {e : Env} {s : State} {m : MethodId} {args : Array Value} {below : List Frame} {meth : Method} {c : Code} {R : Room} {Z : State → Prop} {k n : Nat} {H : Heap} {locs : List Loc}
/-- behind a call -/
theorem my_ret {pc : Nat} {ls : Array Slot} {rest st0 : List Value} {a : Array Value} {Q : Option Value → Mem → Prop} (hE : EV E s.heap.size)
    (hr : va_Run p E.1 e R s m args below meth c H locs k n 0 0 (F0 m pc ls st0) rest ((fun (_ : Array Value) (st : State) (o : Outcome) (t : State) => (∃ (r : Option Value) (u : Mem), o = .returned (r.map (cv E)) ∧ Q r u ∧ va_P (eD E) vwCl (cWf E u 0 sG) t.heap) ∧ va_F (AA E H.size) st t) a) (AA E H.size))
    (hS : va_S (AA E s.heap.size) s.heap H locs)
    (kk : ∀ (r : Option Value) (u : Mem) (H1 : Heap) (locs1 : List Loc), Q r u → va_P (eD E) vwCl (cWf E u 0 sG) H1 → va_S (AA E s.heap.size) s.heap H1 locs1 → W p E.1 e R s m args below meth c H1 locs1 k n Z (F0 m (pc + 3) ls ((r.map (cv E)).toList ++ rest))) :
    W p E.1 e R s m args below meth c H locs k n Z (F0 m pc ls st0) := by
  intro T hT X
  obtain ⟨v, st₀, t, T', L, h0, X', hL, e1, e2, ⟨⟨r, u, hv, hq, hP⟩, hz, hk⟩, st⟩ := hr T hT X
  cases hv
  rw [h0] at hz hk
  have hA : ∀ q, q < s.heap.size → AA E H.size q → AA E s.heap.size q := fun q h1 h2 => by
    rcases h2 with h2 | h2
    · exact Or.inl h2
    · exact absurd h1 (Nat.not_lt.mpr (Nat.le_trans hS.1 h2))
  have hf : ∀ q, AA E H.size q → AA E s.heap.size q := fun q h2 => by
    rcases h2 with h2 | h2
    · exact Or.inl h2
    · exact Or.inr (Nat.le_trans hS.1 h2)
  obtain ⟨t2, a1, b1⟩ := kk r u T'.heap (locs ++ L) hq (by rw [e1]; exact hP)
    ⟨Nat.le_trans hS.1 (by rw [e1]; exact hz), fun q h1 h2 => by rw [e1, hk q (Nat.lt_of_lt_of_le h1 hS.1) (fun z => h2 (hA q h1 z))]; exact hS.2.1 q h1 h2, fun q hq => by
      rcases List.mem_append.mp hq with h | h
      · exact hS.2.2 q h
      · exact hf _ (hL q h)⟩ T' rfl X'
  exact ⟨t2, st t2 a1, b1⟩
end WC
theorem mtab_rest : ∀ q ∈ (mch_0 ++ mch_1 ++ mch_2 ++ mch_3 ++ mch_4 ++ mch_5 ++ mch_6 ++ mch_7), mokW q ∧ mokB q = true := by
  intro q h
  simp only [List.mem_append] at h
  rcases h with ((((((h | h) | h) | h) | h) | h) | h) | h
  · exact ⟨mokW_0 q h, List.all_eq_true.mp mokB_0 q h⟩
  · exact ⟨mokW_1 q h, List.all_eq_true.mp mokB_1 q h⟩
  · exact ⟨mokW_2 q h, List.all_eq_true.mp mokB_2 q h⟩
  · exact ⟨mokW_3 q h, List.all_eq_true.mp mokB_3 q h⟩
  · exact ⟨mokW_4 q h, List.all_eq_true.mp mokB_4 q h⟩
  · exact ⟨mokW_5 q h, List.all_eq_true.mp mokB_5 q h⟩
  · exact ⟨mokW_6 q h, List.all_eq_true.mp mokB_6 q h⟩
  · exact ⟨mokW_7 q h, List.all_eq_true.mp mokB_7 q h⟩
theorem rest_fact {L : List MI} {P : MI → Prop} (h : ∀ q ∈ L, P q) {b : Nat} {x d : MI} (hl : b + 1 < (x :: L).length) : P (nthD (x :: L) (b + 1) d) := h _ (nthD_mem L b d (by simpa using hl))
theorem mtab_fact {a : Nat} (ha : 0 < a) (hl : a < mtab.length) : mokW (mE a) ∧ mokB (mE a) = true := by
  obtain ⟨b, rfl⟩ : ∃ b, a = b + 1 := ⟨a - 1, by omega⟩
  unfold mE
  rw [mtab_eq] at hl ⊢
  exact rest_fact (P := fun q => mokW q ∧ mokB q = true) mtab_rest hl
