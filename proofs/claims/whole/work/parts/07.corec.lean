/-! ===== one instruction, as a demand on what comes behind it ===== -/
def pI (st : List Value) (f : Int32 → List Value → Prop) : Prop := match st with
  | .int x :: t => f x t
  | _ => False
def pL (st : List Value) (f : Int64 → List Value → Prop) : Prop := match st with
  | .long x :: t => f x t
  | _ => False
def pR (st : List Value) (f : Nat → List Value → Prop) : Prop := match st with
  | .ref x :: t => f x t
  | _ => False
def pV (st : List Value) (f : Value → List Value → Prop) : Prop := match st with
  | .int x :: t => f (.int x) t
  | .ref x :: t => f (.ref x) t
  | _ => False
theorem pV_of {st : List Value} {f : Value → List Value → Prop} (h : pV st f) : ∃ v t, st = v :: t ∧ v.category = 1 ∧ f v t := by
  unfold pV at h
  split at h
  · exact ⟨_, _, rfl, rfl, h⟩
  · exact ⟨_, _, rfl, rfl, h⟩
  · exact h.elim
def pNil (st : List Value) (P : Prop) : Prop := match st with
  | [] => P
  | _ => False
def ldI (ls : List (Option Value)) (i : Nat) (f : Int32 → Prop) : Prop := match nth ls i with
  | some (some (.int x)) => f x
  | _ => False
def ldL (ls : List (Option Value)) (i : Nat) (f : Int64 → Prop) : Prop := match nth ls i with
  | some (some (.long x)) => f x
  | _ => False
def ldR (ls : List (Option Value)) (i : Nat) (f : Nat → Prop) : Prop := match nth ls i with
  | some (some (.ref x)) => f x
  | _ => False
theorem pI_of {st : List Value} {f : Int32 → List Value → Prop} (h : pI st f) : ∃ x t, st = .int x :: t ∧ f x t := by
  unfold pI at h
  split at h
  · exact ⟨_, _, rfl, h⟩
  · exact h.elim
theorem pL_of {st : List Value} {f : Int64 → List Value → Prop} (h : pL st f) : ∃ x t, st = .long x :: t ∧ f x t := by
  unfold pL at h
  split at h
  · exact ⟨_, _, rfl, h⟩
  · exact h.elim
theorem pR_of {st : List Value} {f : Nat → List Value → Prop} (h : pR st f) : ∃ x t, st = .ref x :: t ∧ f x t := by
  unfold pR at h
  split at h
  · exact ⟨_, _, rfl, h⟩
  · exact h.elim
theorem pNil_of {st : List Value} {P : Prop} (h : pNil st P) : st = [] ∧ P := by
  unfold pNil at h
  split at h
  · exact ⟨rfl, h⟩
  · exact h.elim
theorem ldI_of {ls : List (Option Value)} {i : Nat} {f : Int32 → Prop} (h : ldI ls i f) : ∃ x, nth ls i = some (some (.int x)) ∧ f x := by
  unfold ldI at h
  split at h
  · exact ⟨_, by assumption, h⟩
  · exact h.elim
theorem ldL_of {ls : List (Option Value)} {i : Nat} {f : Int64 → Prop} (h : ldL ls i f) : ∃ x, nth ls i = some (some (.long x)) ∧ f x := by
  unfold ldL at h
  split at h
  · exact ⟨_, by assumption, h⟩
  · exact h.elim
theorem ldR_of {ls : List (Option Value)} {i : Nat} {f : Nat → Prop} (h : ldR ls i f) : ∃ x, nth ls i = some (some (.ref x)) ∧ f x := by
  unfold ldR at h
  split at h
  · exact ⟨_, by assumption, h⟩
  · exact h.elim
def imax (x y : Int32) : Int32 := if x < y then y else x
def imin (x y : Int32) : Int32 := if y < x then y else x
def remI (x y : Int32) : Int32 := x - x / y * y
def remL (x y : Int64) : Int64 := x - x / y * y
def shl (x y : Int32) : Int32 := x <<< (y &&& 31)
def sshr (x y : Int32) : Int32 := x >>> (y &&& 31)
def ushr (x y : Int32) : Int32 := (x.toUInt32 >>> (y.toUInt32 &&& Int32.toUInt32 31)).toInt32
def ifP : ClassFile.Cond → Int32 → Prop → Prop → Prop
  | .eq, x, A, B => (x = 0 → A) ∧ (¬ x = 0 → B)
  | .ne, x, A, B => (¬ x = 0 → A) ∧ (x = 0 → B)
  | .lt, x, A, B => (x < 0 → A) ∧ (¬ x < 0 → B)
  | .ge, x, A, B => (0 ≤ x → A) ∧ (¬ 0 ≤ x → B)
  | .gt, x, A, B => (0 < x → A) ∧ (¬ 0 < x → B)
  | .le, x, A, B => (x ≤ 0 → A) ∧ (¬ x ≤ 0 → B)
def icP : ClassFile.Cond → Int32 → Int32 → Prop → Prop → Prop
  | .eq, x, y, A, B => (x = y → A) ∧ (¬ x = y → B)
  | .ne, x, y, A, B => (¬ x = y → A) ∧ (x = y → B)
  | .lt, x, y, A, B => (x < y → A) ∧ (¬ x < y → B)
  | .ge, x, y, A, B => (y ≤ x → A) ∧ (¬ y ≤ x → B)
  | .gt, x, y, A, B => (y < x → A) ∧ (¬ y < x → B)
  | .le, x, y, A, B => (x ≤ y → A) ∧ (¬ x ≤ y → B)
def swT (f : Int → Prop) (x : Int32) : Int → List Int → Prop → Prop
  | _, [], D => D
  | lo, o :: t, D => (x = Int32.ofInt lo → f o) ∧ (¬ x = Int32.ofInt lo → swT f x (lo + 1) t D)
def swL (f : Int → Prop) (x : Int32) : List (Int × Int) → Prop → Prop
  | [], D => D
  | o :: t, D => (x = Int32.ofInt o.1 → f o.2) ∧ (¬ x = Int32.ofInt o.1 → swL f x t D)
def popN : Nat → List Value → List Value → Option (List Value × List Value)
  | 0, st, acc => some (acc, st)
  | n + 1, v :: st, acc => popN n st (v :: acc)
  | _ + 1, [], _ => none
def csum (st : List Value) : Nat := (st.map fun v => v.category).sum
def callOK (a x : Nat) (rest : List Value) : Bool := Nat.ble (mHt x + 1) (mHt a) && Nat.ble (csum rest) 8
def recvOK (x : Nat) : List Value → Bool
  | .ref p :: _ => bif Nat.beq (mCi x) 11 then Nat.ble 1001 p && Nat.ble p 1006 else match nth sG p with
    | some s => Nat.beq s.1 (mCi x + 2)
    | none => false
  | _ => false
def callK (E : XE) (x : Nat) (av : List Value) (h : Mem) (k : List Value → Mem → Prop) : Nat → Prop
  | 0 => CALLV E x av h (fun u => k [] u)
  | 1 => CALLI E x av h (fun v u => k [.int v] u)
  | 2 => CALLL E x av h (fun v u => k [.long v] u)
  | _ => CALLR E x av h (fun v u => k [.ref v] u)
def retI (rt : Option FieldType) (v : Int32) (P : Prop) : Prop := match rt with
  | some .int => P
  | some .boolean => cnd (nb v) P
  | _ => False
def shN (p : Nat) (code : Nat) (f : Nat → Prop) : Prop := match nth sG p with
  | some s => cnd (Nat.beq s.1 code) (f s.2.1)
  | none => False
def shF (p : Nat) (ci k : Nat) (f : Option Nat → Prop) : Prop := match nth sG p with
  | some s => cnd (Nat.beq s.1 (ci + 2)) (match nth s.2.2 k with
    | some o => f o
    | none => False)
  | none => False
def toT (pc : Nat) (off : Int) : Nat := ((pc : Int) + off).toNat
def stepP (E : XE) (a : Nat) (K : Nat → List (Option Value) → List Value → Mem → Prop) (Q : Option Value → Mem → Prop) (pc : Nat) (ins : Instr) (x y : Nat) (c : Int32) (d : Int64) (ls : List (Option Value)) (st : List Value) (h : Mem) : Prop := match ins with
  | .aload_n i => ldR ls i (fun v => K (pc + 1) ls (.ref v :: st) h)
  | .aload i => ldR ls i (fun v => K (pc + 2) ls (.ref v :: st) h)
  | .iload_n i => ldI ls i (fun v => K (pc + 1) ls (.int v :: st) h)
  | .iload i => ldI ls i (fun v => K (pc + 2) ls (.int v :: st) h)
  | .lload_n i => ldL ls i (fun v => K (pc + 1) ls (.long v :: st) h)
  | .lload i => ldL ls i (fun v => K (pc + 2) ls (.long v :: st) h)
  | .astore_n i => pR st fun v t => cnd (Nat.blt i (mL a)) (K (pc + 1) (set1 ls i (.ref v)) t h)
  | .astore i => pR st fun v t => cnd (Nat.blt i (mL a)) (K (pc + 2) (set1 ls i (.ref v)) t h)
  | .istore_n i => pI st fun v t => cnd (Nat.blt i (mL a)) (K (pc + 1) (set1 ls i (.int v)) t h)
  | .istore i => pI st fun v t => cnd (Nat.blt i (mL a)) (K (pc + 2) (set1 ls i (.int v)) t h)
  | .lstore_n i => pL st fun v t => cnd (Nat.blt (i + 1) (mL a)) (K (pc + 1) (set2 ls i (.long v)) t h)
  | .lstore i => pL st fun v t => cnd (Nat.blt (i + 1) (mL a)) (K (pc + 2) (set2 ls i (.long v)) t h)
  | .iconst _ => K (pc + 1) ls (.int c :: st) h
  | .bipush _ => K (pc + 2) ls (.int c :: st) h
  | .sipush _ => K (pc + 3) ls (.int c :: st) h
  | .lconst _ => K (pc + 1) ls (.long d :: st) h
  | .ldc _ => bif Nat.beq y 1 then K (pc + 2) ls (.ref (1001 + x) :: st) h else K (pc + 2) ls (.int c :: st) h
  | .ldc_w _ => K (pc + 3) ls (.int c :: st) h
  | .ldc2_w _ => K (pc + 3) ls (.long d :: st) h
  | .iadd => pI st fun v1 t => pI t fun v2 t => K (pc + 1) ls (.int (v2 + v1) :: t) h
  | .isub => pI st fun v1 t => pI t fun v2 t => K (pc + 1) ls (.int (v2 - v1) :: t) h
  | .imul => pI st fun v1 t => pI t fun v2 t => K (pc + 1) ls (.int (v2 * v1) :: t) h
  | .idiv => pI st fun v1 t => pI t fun v2 t => cnd (nz v1) (K (pc + 1) ls (.int (v2 / v1) :: t) h)
  | .irem => pI st fun v1 t => pI t fun v2 t => cnd (nz v1) (K (pc + 1) ls (.int (remI v2 v1) :: t) h)
  | .ineg => pI st fun v1 t => K (pc + 1) ls (.int (-v1) :: t) h
  | .ishl => pI st fun v1 t => pI t fun v2 t => K (pc + 1) ls (.int (shl v2 v1) :: t) h
  | .ishr => pI st fun v1 t => pI t fun v2 t => K (pc + 1) ls (.int (sshr v2 v1) :: t) h
  | .iushr => pI st fun v1 t => pI t fun v2 t => K (pc + 1) ls (.int (ushr v2 v1) :: t) h
  | .iand => pI st fun v1 t => pI t fun v2 t => K (pc + 1) ls (.int (v2 &&& v1) :: t) h
  | .ior => pI st fun v1 t => pI t fun v2 t => K (pc + 1) ls (.int (v2 ||| v1) :: t) h
  | .ixor => pI st fun v1 t => pI t fun v2 t => K (pc + 1) ls (.int (v2 ^^^ v1) :: t) h
  | .ladd => pL st fun v1 t => pL t fun v2 t => K (pc + 1) ls (.long (v2 + v1) :: t) h
  | .lsub => pL st fun v1 t => pL t fun v2 t => K (pc + 1) ls (.long (v2 - v1) :: t) h
  | .lmul => pL st fun v1 t => pL t fun v2 t => K (pc + 1) ls (.long (v2 * v1) :: t) h
  | .ldiv => pL st fun v1 t => pL t fun v2 t => cnd (nzL v1) (K (pc + 1) ls (.long (v2 / v1) :: t) h)
  | .lrem => pL st fun v1 t => pL t fun v2 t => cnd (nzL v1) (K (pc + 1) ls (.long (remL v2 v1) :: t) h)
  | .lcmp => pL st fun v1 t => pL t fun v2 t => K (pc + 1) ls (.int (lg_cmp v2 v1) :: t) h
  | .i2l => pI st fun v1 t => K (pc + 1) ls (.long v1.toInt64 :: t) h
  | .l2i => pL st fun v1 t => K (pc + 1) ls (.int v1.toInt32 :: t) h
  | .iinc i _ => ldI ls i (fun v => cnd (Nat.blt i (mL a)) (K (pc + 3) (set1 ls i (.int (v + c))) st h))
  | .goto _ => K x ls st h
  | .ifCond q _ => pI st fun v t => ifP q v (K x ls t h) (K (pc + 3) ls t h)
  | .if_icmp q _ => pI st fun v1 t => pI t fun v2 t => icP q v2 v1 (K x ls t h) (K (pc + 3) ls t h)
  | .tableswitch df lo _ offs => pI st fun v t => swT (fun o => K (toT pc o) ls t h) v lo offs.toList (K (toT pc df) ls t h)
  | .lookupswitch df ps => pI st fun v t => swL (fun o => K (toT pc o) ls t h) v ps.toList (K (toT pc df) ls t h)
  | .getfield _ => pR st fun p t => shF p x y fun o => match o with
    | some q => K (pc + 3) ls (.ref q :: t) h
    | none => K (pc + 3) ls (.int (h p y) :: t) h
  | .putfield _ => pI st fun v t => pR t fun p t => shF p x y fun o => match o with
    | some _ => False
    | none => cnd (decide (c = 0) || nb v) (K (pc + 3) ls t (upd2 h p y v))
  | .iaload => pI st fun i t => pR t fun p t => bif Nat.beq p 1000 then cnd (Nat.beq a 0 && inb i (eXs E).length) (K (pc + 1) ls (.int ((eXs E).getD (ix i) 0) :: t) h) else shN p 0 fun n => cnd (inb i n) (K (pc + 1) ls (.int (h p (ix i)) :: t) h)
  | .iastore => pI st fun v t => pI t fun i t => pR t fun p t => shN p 0 fun n => cnd (inb i n) (K (pc + 1) ls t (upd2 h p (ix i) v))
  | .baload => pI st fun i t => pR t fun p t => shN p 1 fun n => cnd (inb i n) (K (pc + 1) ls (.int (h p (ix i)) :: t) h)
  | .bastore => pI st fun v t => pI t fun i t => pR t fun p t => shN p 1 fun n => cnd (inb i n && nb v) (K (pc + 1) ls t (upd2 h p (ix i) v))
  | .arraylength => pR st fun p t => bif Nat.beq p 1000 then cnd (Nat.beq a 0) (K (pc + 1) ls (.int (nI (eXs E).length) :: t) h) else shN p 0 fun n => K (pc + 1) ls (.int (nI n) :: t) h
  | .dup => pV st fun v t => K (pc + 1) ls (v :: v :: t) h
  | .dup2 => pI st fun i t => pR t fun p t => K (pc + 1) ls (.int i :: .ref p :: .int i :: .ref p :: t) h
  | .invokevirtual _ => match popN (mNa x) st [] with
    | some (av, rest) => cnd (recvOK x av && callOK a x rest) (callK E x av h (fun r u => K (pc + 3) ls (r ++ rest) u) y)
    | none => False
  | .invokestatic _ => bif Nat.beq x 999 then pI st fun n t => pI t fun dp t => pR t fun q1 t => pI t fun sp t => pR t fun q0 t => shN q0 0 fun n0 => shN q1 0 fun n1 => cnd (Nat.ble (ix sp + ix n) n0 && Nat.ble (ix dp + ix n) n1 && Nat.ble (csum t) 8 && Nat.ble 2 (mHt a)) (K (pc + 3) ls t (updR h q1 (va_cpy (h q0) (h q1) (ix sp) (ix dp) (ix n))))
    else bif Nat.beq x 998 then pI st fun v1 t => pI t fun v2 t => cnd (Nat.ble (csum t) 8 && Nat.ble 2 (mHt a)) (K (pc + 3) ls (.int (imax v2 v1) :: t) h)
    else bif Nat.beq x 997 then pI st fun v1 t => pI t fun v2 t => cnd (Nat.ble (csum t) 8 && Nat.ble 2 (mHt a)) (K (pc + 3) ls (.int (imin v2 v1) :: t) h)
    else match popN (mNa x) st [] with
    | some (av, rest) => cnd (callOK a x rest) (callK E x av h (fun r u => K (pc + 3) ls (r ++ rest) u) y)
    | none => False
  | .ireturn => pI st fun v t => pNil t (retI (mRet a) v (Q (some (.int v)) h))
  | .lreturn => pL st fun v t => cnd (decide (mRet a = some .long)) (pNil t (Q (some (.long v)) h))
  | .areturn => pR st fun v t => cnd (decide (mRet a = some (.object "java/lang/String"))) (pNil t (Q (some (.ref v)) h))
  | .return_ => cnd (decide (mRet a = none)) (pNil st (Q none h))
  | _ => False
