/-! ===== the abstract machine: memory, shapes, values ===== -/
abbrev Mem : Type := Nat → Nat → Int32
def upd2 (h : Mem) (p i : Nat) (x : Int32) : Mem := fun q => if q = p then upd (h p) i x else h q
def updR (h : Mem) (p : Nat) (f : Nat → Int32) : Mem := fun q => if q = p then f else h q
def nth {α : Type} : List α → Nat → Option α
  | [], _ => none
  | a :: _, 0 => some a
  | _ :: t, n + 1 => nth t n
def nthD {α : Type} : List α → Nat → α → α
  | [], _, d => d
  | a :: _, 0, _ => a
  | _ :: t, n + 1, d => nthD t n d
theorem nth_get {α : Type} : ∀ (l : List α) (n : Nat), nth l n = l[n]?
  | [], n => by simp [nth]
  | a :: t, 0 => by simp [nth]
  | a :: t, n + 1 => by simp [nth, nth_get t n]
/-- a shape: 0 an int row, 1 a boolean row, c + 2 an object of class c; how many; of an object's fields: a reference (to which place), or a number -/
abbrev Shp : Type := Nat × Nat × List (Option Nat)
/-- the launch, the addresses of the places, classes, slots, the two row classes, where the law's cells begin, the script -/
abbrev XE : Type := Launch × (Nat → Nat) × (Nat → ClassId) × (Nat → Nat → Nat) × ClassId × ClassId × Nat × List Int32
abbrev adr (E : XE) (k : Nat) : Nat := E.2.1 k
abbrev eD (E : XE) : va_G := (E.2.2.1, E.2.2.2.1)
abbrev eI (E : XE) : ClassId := E.2.2.2.2.1
abbrev eB (E : XE) : ClassId := E.2.2.2.2.2.1
abbrev eLo (E : XE) : Nat := E.2.2.2.2.2.2.1
abbrev eXs (E : XE) : List Int32 := E.2.2.2.2.2.2.2
abbrev eTy (E : XE) : List (ClassId × FieldType) := [(eI E, .int), (eB E, .boolean)]
def cv (E : XE) : Value → Value
  | .ref k => .ref (adr E k)
  | .int x => .int x
  | .long x => .long x
  | .null => .null
  | .float x => .float x
  | .double x => .double x
  | .retAddr x => .retAddr x
theorem cv_cat (E : XE) (v : Value) : (cv E v).category = v.category := by cases v <;> rfl
def cF (E : XE) (f : Nat → Int32) : Nat → List (Option Nat) → List Value
  | _, [] => []
  | k, some q :: t => .ref (adr E q) :: cF E f (k + 1) t
  | k, none :: t => .int (f k) :: cF E f (k + 1) t
def cE (E : XE) (f : Nat → Int32) (x : Shp) : va_E := match x with
  | (0, n, _) => .inl (eI E, n, .inl f)
  | (1, n, _) => .inl (eB E, n, .inl f)
  | (c + 2, _, rs) => .inr (c, cF E f 0 rs)
def cWf (E : XE) (h : Mem) : Nat → List Shp → va_W
  | _, [] => []
  | k, x :: t => (adr E k, cE E (h k) x) :: cWf E h (k + 1) t
theorem cWf_get (E : XE) (h : Mem) : ∀ (L : List Shp) (k i : Nat), (cWf E h k L)[i]? = (nth L i).map (fun x => (adr E (k + i), cE E (h (k + i)) x))
  | [], k, i => by simp [cWf, nth]
  | x :: t, k, 0 => by simp [cWf, nth]
  | x :: t, k, i + 1 => by
    have := cWf_get E h t (k + 1) i
    simp only [cWf, nth, List.getElem?_cons_succ]
    rw [this, show k + 1 + i = k + (i + 1) by omega]
theorem cWf_len (E : XE) (h : Mem) : ∀ (L : List Shp) (k : Nat), (cWf E h k L).length = L.length
  | [], _ => rfl
  | x :: t, k => by simp [cWf, cWf_len E h t (k + 1)]
theorem cWf_set (E : XE) (h h' : Mem) (L : List Shp) (p : Nat) (x : Shp) (hx : nth L p = some x) (hq : ∀ q, q ≠ p → h' q = h q) :
    (cWf E h 0 L).set p (adr E p, cE E (h' p) x) = cWf E h' 0 L := by
  apply List.ext_getElem?
  intro i
  rw [List.getElem?_set, cWf_len, cWf_get, cWf_get, Nat.zero_add]
  by_cases e : p = i
  · subst e
    have hl : p < L.length := by
      rw [nth_get] at hx
      exact (List.getElem?_eq_some_iff.mp hx).1
    simp [hl, hx]
  · rw [if_neg e, hq i (fun z => e z.symm)]
theorem cF_len (E : XE) (f : Nat → Int32) : ∀ (rs : List (Option Nat)) (k : Nat), (cF E f k rs).length = rs.length
  | [], _ => rfl
  | some q :: t, k => by simp [cF, cF_len E f t (k + 1)]
  | none :: t, k => by simp [cF, cF_len E f t (k + 1)]
def cFv (E : XE) (f : Nat → Int32) (k : Nat) : Option Nat → Value
  | some q => .ref (adr E q)
  | none => .int (f k)
theorem cF_get (E : XE) (f : Nat → Int32) : ∀ (rs : List (Option Nat)) (k i : Nat), (cF E f k rs)[i]? = (nth rs i).map (cFv E f (k + i))
  | [], k, i => by simp [cF, nth]
  | some q :: t, k, 0 => by simp [cF, nth, cFv]
  | none :: t, k, 0 => by simp [cF, nth, cFv]
  | some q :: t, k, i + 1 => by
    have := cF_get E f t (k + 1) i
    simp only [cF, nth, List.getElem?_cons_succ]
    rw [this, show k + 1 + i = k + (i + 1) by omega]
  | none :: t, k, i + 1 => by
    have := cF_get E f t (k + 1) i
    simp only [cF, nth, List.getElem?_cons_succ]
    rw [this, show k + 1 + i = k + (i + 1) by omega]
theorem cF_set (E : XE) (f : Nat → Int32) (rs : List (Option Nat)) (i : Nat) (x : Int32) (hi : nth rs i = some none) : (cF E f 0 rs).set i (.int x) = cF E (upd f i x) 0 rs := by
  apply List.ext_getElem?
  intro j
  rw [List.getElem?_set, cF_len, cF_get, cF_get, Nat.zero_add]
  by_cases e : i = j
  · subst e
    have hl : i < rs.length := by
      rw [nth_get] at hi
      exact (List.getElem?_eq_some_iff.mp hi).1
    simp [hl, hi, cFv, upd]
  · rw [if_neg e]
    cases hn : nth rs j with
    | none => rfl
    | some o =>
      cases o with
      | some q => rfl
      | none =>
        simp only [Option.map_some, cFv, upd]
        rw [if_neg (fun z => e z.symm)]
theorem upd2_ne {h : Mem} {p i : Nat} {x : Int32} : ∀ q, q ≠ p → upd2 h p i x q = h q := fun q hq => by simp [upd2, hq]
theorem upd2_eq {h : Mem} {p i : Nat} {x : Int32} : upd2 h p i x p = upd (h p) i x := by simp [upd2]
theorem updR_ne {h : Mem} {p : Nat} {f : Nat → Int32} : ∀ q, q ≠ p → updR h p f q = h q := fun q hq => by simp [updR, hq]
theorem updR_eq {h : Mem} {p : Nat} {f : Nat → Int32} : updR h p f p = f := by simp [updR]
/-! locals -/
def lvO (E : XE) : Nat → List (Option Value) → List (Nat × Value)
  | _, [] => []
  | i, none :: t => lvO E (i + 1) t
  | i, some v :: t => (i, cv E v) :: lvO E (i + 1) t
theorem lvO_mem (E : XE) : ∀ (ls : List (Option Value)) (i : Nat) (q : Nat × Value), q ∈ lvO E i ls ↔ ∃ j v, nth ls j = some (some v) ∧ q = (i + j, cv E v)
  | [], i, q => by simp [lvO, nth]
  | none :: t, i, q => by
    rw [lvO, lvO_mem E t (i + 1) q]
    constructor
    · rintro ⟨j, v, h1, h2⟩
      exact ⟨j + 1, v, h1, by rw [h2, show i + 1 + j = i + (j + 1) by omega]⟩
    · rintro ⟨j, v, h1, h2⟩
      cases j with
      | zero => simp [nth] at h1
      | succ j => exact ⟨j, v, h1, by rw [h2, show i + 1 + j = i + (j + 1) by omega]⟩
  | some w :: t, i, q => by
    rw [lvO, List.mem_cons, lvO_mem E t (i + 1) q]
    constructor
    · rintro (h | ⟨j, v, h1, h2⟩)
      · exact ⟨0, w, rfl, h⟩
      · exact ⟨j + 1, v, h1, by rw [h2, show i + 1 + j = i + (j + 1) by omega]⟩
    · rintro ⟨j, v, h1, h2⟩
      cases j with
      | zero =>
        simp [nth] at h1
        subst h1
        exact Or.inl h2
      | succ j => exact Or.inr ⟨j, v, h1, by rw [h2, show i + 1 + j = i + (j + 1) by omega]⟩
def seti {α : Type} : List α → Nat → α → List α
  | [], _, _ => []
  | _ :: t, 0, v => v :: t
  | a :: t, n + 1, v => a :: seti t n v
theorem nth_seti {α : Type} : ∀ (l : List α) (i j : Nat) (v : α), nth (seti l i v) j = if i = j ∧ j < l.length then some v else nth l j
  | [], i, j, v => by simp [seti, nth]
  | a :: t, 0, 0, v => by simp [seti, nth]
  | a :: t, 0, j + 1, v => by simp [seti, nth]
  | a :: t, i + 1, 0, v => by simp [seti, nth]
  | a :: t, i + 1, j + 1, v => by
    simp only [seti, nth, nth_seti t i j v, List.length_cons]
    by_cases e : i = j
    · subst e; simp
    · simp [e]
def clr3 (ls : List (Option Value)) (j : Nat) : Option (Option Value) → List (Option Value)
  | some (some v) => bif Nat.beq v.category 2 then seti ls j none else ls
  | _ => ls
def clr2 (ls : List (Option Value)) : Nat → List (Option Value)
  | 0 => ls
  | j + 1 => clr3 ls j (nth ls j)
def set1 (ls : List (Option Value)) (i : Nat) (v : Value) : List (Option Value) := seti (clr2 ls i) i (some v)
def set2 (ls : List (Option Value)) (i : Nat) (v : Value) : List (Option Value) := seti (seti (clr2 ls i) i (some v)) (i + 1) none
theorem clr2_nth {ls : List (Option Value)} {i j : Nat} {v : Value} (h : nth (clr2 ls i) j = some (some v)) : nth ls j = some (some v) ∧ ¬ (j + 1 = i ∧ v.category = 2) := by
  cases i with
  | zero => exact ⟨h, fun z => by omega⟩
  | succ k =>
    replace h : nth (clr3 ls k (nth ls k)) j = some (some v) := h
    cases hn : nth ls k with
    | none =>
      rw [hn] at h
      refine ⟨h, fun z => ?_⟩
      have : j = k := by omega
      subst this
      have h' : nth ls j = some (some v) := h
      rw [hn] at h'
      cases h'
    | some o =>
      rw [hn] at h
      cases o with
      | none =>
        refine ⟨h, fun z => ?_⟩
        have : j = k := by omega
        subst this
        have h' : nth ls j = some (some v) := h
        rw [hn] at h'
        cases h'
      | some w =>
        by_cases hw : w.category = 2
        · have hb : Nat.beq w.category 2 = true := by rw [hw]; rfl
          simp only [clr3, hb, cond_true] at h
          rw [nth_seti] at h
          by_cases e : k = j ∧ j < ls.length
          · rw [if_pos e] at h; cases h
          · rw [if_neg e] at h
            refine ⟨h, fun z => ?_⟩
            have hj : j < ls.length := by
              rw [nth_get] at h
              exact (List.getElem?_eq_some_iff.mp h).1
            exact e ⟨by omega, hj⟩
        · have : Nat.beq w.category 2 = false := by
            cases hb : Nat.beq w.category 2 with
            | false => rfl
            | true => exact absurd (Nat.eq_of_beq_eq_true hb) hw
          simp only [clr3, this, cond_false] at h
          refine ⟨h, fun z => ?_⟩
          have e : j = k := by omega
          subst e
          rw [hn] at h
          cases h
          exact hw z.2
def LOK (E : XE) (nL : Nat) (lsm : Array Slot) (ls : List (Option Value)) : Prop := lv_has lsm nL (lvO E 0 ls)
theorem LOK_at {E : XE} {nL : Nat} {lsm : Array Slot} {ls : List (Option Value)} (h : LOK E nL lsm ls) {i : Nat} {v : Value} (hi : nth ls i = some (some v)) : lsm[i]? = some (.val (cv E v)) :=
  h.2.2 (i, cv E v) ((lvO_mem E ls 0 _).mpr ⟨i, v, hi, by rw [Nat.zero_add]⟩)
theorem LOK_set1 {E : XE} {nL : Nat} {lsm : Array Slot} {ls : List (Option Value)} {i : Nat} {v : Value}
    (h : lv_has lsm nL ((i, cv E v) :: (lvO E 0 ls).filter (fun q => !(q.1 == i) && !(q.1 + 1 == i && q.2.category == 2)))) : LOK E nL lsm (set1 ls i v) := by
  refine ⟨h.1, h.2.1, fun q hq => h.2.2 q ?_⟩
  obtain ⟨j, w, h1, rfl⟩ := (lvO_mem E _ 0 q).mp hq
  rw [Nat.zero_add]
  unfold set1 at h1
  rw [nth_seti] at h1
  by_cases e : i = j
  · subst e
    by_cases hl : i < (clr2 ls i).length
    · rw [if_pos ⟨rfl, hl⟩] at h1
      cases h1
      exact List.mem_cons_self
    · rw [if_neg (fun z => hl z.2)] at h1
      rw [nth_get] at h1
      exact absurd (List.getElem?_eq_some_iff.mp h1).1 hl
  · rw [if_neg (fun z => e z.1)] at h1
    obtain ⟨h2, h3⟩ := clr2_nth h1
    refine List.mem_cons_of_mem _ (List.mem_filter.mpr ⟨(lvO_mem E ls 0 _).mpr ⟨j, w, h2, by rw [Nat.zero_add]⟩, ?_⟩)
    simp only [cv_cat]
    have h4 : ¬ j = i := fun z => e z.symm
    by_cases h5 : j + 1 = i
    · have h6 : ¬ w.category = 2 := fun z => h3 ⟨h5, z⟩
      simp [h4, h6]
    · simp [h4, h5]
theorem LOK_set2 {E : XE} {nL : Nat} {lsm : Array Slot} {ls : List (Option Value)} {i : Nat} {v : Value}
    (h : lv_has lsm nL ((i, cv E v) :: (lvO E 0 ls).filter (fun q => !(q.1 == i) && (!(q.1 == i + 1) && !(q.1 + 1 == i && q.2.category == 2))))) : LOK E nL lsm (set2 ls i v) := by
  refine ⟨h.1, h.2.1, fun q hq => h.2.2 q ?_⟩
  obtain ⟨j, w, h1, rfl⟩ := (lvO_mem E _ 0 q).mp hq
  rw [Nat.zero_add]
  unfold set2 at h1
  rw [nth_seti] at h1
  by_cases e1 : i + 1 = j
  · subst e1
    by_cases hl : i + 1 < (seti (clr2 ls i) i (some v)).length
    · rw [if_pos ⟨rfl, hl⟩] at h1; cases h1
    · rw [if_neg (fun z => hl z.2)] at h1
      rw [nth_get] at h1
      exact absurd (List.getElem?_eq_some_iff.mp h1).1 hl
  · rw [if_neg (fun z => e1 z.1), nth_seti] at h1
    by_cases e : i = j
    · subst e
      by_cases hl : i < (clr2 ls i).length
      · rw [if_pos ⟨rfl, hl⟩] at h1
        cases h1
        exact List.mem_cons_self
      · rw [if_neg (fun z => hl z.2)] at h1
        rw [nth_get] at h1
        exact absurd (List.getElem?_eq_some_iff.mp h1).1 hl
    · rw [if_neg (fun z => e z.1)] at h1
      obtain ⟨h2, h3⟩ := clr2_nth h1
      refine List.mem_cons_of_mem _ (List.mem_filter.mpr ⟨(lvO_mem E ls 0 _).mpr ⟨j, w, h2, by rw [Nat.zero_add]⟩, ?_⟩)
      simp only [cv_cat]
      have h4 : ¬ j = i := fun z => e z.symm
      have h7 : ¬ j = i + 1 := fun z => e1 z.symm
      by_cases h5 : j + 1 = i
      · have h6 : ¬ w.category = 2 := fun z => h3 ⟨h5, z⟩
        simp [h4, h6, h7]
      · simp [h4, h5, h7]
/-! small words -/
def cnd : Bool → Prop → Prop
  | true, P => P
  | false, _ => False
theorem cnd_iff {b : Bool} {P : Prop} : cnd b P ↔ b = true ∧ P := by cases b <;> simp [cnd]
theorem cnd_of {b : Bool} {P : Prop} (h : b = true) (hP : P) : cnd b P := by rw [h]; exact hP
def ix (i : Int32) : Nat := i.toBitVec.toNat
def inb (i : Int32) (n : Nat) : Bool := Nat.blt (ix i) n
def nb (x : Int32) : Bool := Nat.blt (ix x) 2
def nz (x : Int32) : Bool := !(Nat.beq (ix x) 0)
def nzL (x : Int64) : Bool := !(Nat.beq x.toBitVec.toNat 0)
theorem inb_in {i : Int32} {n : Nat} (hn : n < 2 ^ 31) (h : inb i n = true) : vp_in i n ∧ i.toNatClampNeg = ix i := by
  have h1 : ix i < n := by
    have := Nat.le_of_ble_eq_true h
    omega
  have h2 : i.toInt = (ix i : Int) := by
    unfold ix at h1 ⊢
    show i.toBitVec.toInt = _
    rw [BitVec.toInt_eq_toNat_cond]
    rw [if_pos (by omega)]
  have h3 : i.toNatClampNeg = ix i := by
    show i.toInt.toNat = _
    rw [h2]
    rfl
  refine ⟨fun q => ?_, h3⟩
  rcases q with q | q
  · have : i.toInt < (0 : Int32).toInt := Int32.lt_iff_toInt_lt.mp q
    rw [h2] at this
    have h0 : (0 : Int32).toInt = 0 := by decide
    omega
  · omega
theorem nb_nar {x : Int32} (h : nb x = true) : vp_nar .boolean x = x ∧ narrow .boolean (.int x) = .int x ∧ fits .boolean (.int x) = true := by
  have h1 : ix x < 2 := by
    have := Nat.le_of_ble_eq_true h
    omega
  have h2 : x = 0 ∨ x = 1 := by
    rcases (show ix x = 0 ∨ ix x = 1 by omega) with z | z
    · left
      apply Int32.toBitVec_inj.mp
      apply BitVec.eq_of_toNat_eq
      exact z
    · right
      apply Int32.toBitVec_inj.mp
      apply BitVec.eq_of_toNat_eq
      exact z
  rcases h2 with rfl | rfl <;> decide +kernel
theorem nz_ne {x : Int32} (h : nz x = true) : ¬ x = 0 := by
  intro e
  subst e
  exact absurd h (by decide)
theorem nzL_ne {x : Int64} (h : nzL x = true) : ¬ x = 0 := by
  intro e
  subst e
  exact absurd h (by decide)
