abbrev XI : Type := Nat × Instr × Nat × Nat × Nat × Int32 × Int64

def mCi (a : Nat) : Nat := nthD (mE a).2.2.2.2 0 0
def mNa (a : Nat) : Nat := nthD (mE a).2.2.2.2 1 0
def mSt (a : Nat) : Nat := nthD (mE a).2.2.2.2 2 0
def mHt (a : Nat) : Nat := nthD (mE a).2.2.2.2 3 0
def mL (a : Nat) : Nat := (mE a).2.2.1
def mRet (a : Nat) : Option FieldType := (mE a).2.2.2.1
def mB (a : Nat) : ByteArray := (mE a).2.1
def mYy (a : Nat) : MethodName := (mE a).1
def eqN3 (x y z x' y' z' : Nat) : Bool := Nat.beq x x' && Nat.beq y y' && Nat.beq z z'
def inF (oc i a b : Nat) : Bool := ftab.any (fun q => Nat.beq q.1 oc && Nat.beq q.2.1 i && Nat.beq q.2.2.1 a && Nat.beq q.2.2.2.1 b)
def inC (oc i a : Nat) : Bool := ctab.any (fun q => eqN3 q.1 q.2.1 q.2.2.1 oc i a)
def inK (oc i : Nat) (v : Int32) : Bool := ktab.any (fun q => Nat.beq q.1 oc && Nat.beq q.2.1 i && decide (q.2.2.1 = v))
def inL (oc i : Nat) (v : Int64) : Bool := ltab.any (fun q => Nat.beq q.1 oc && Nat.beq q.2.1 i && decide (q.2.2.1 = v))
def fT (ci k : Nat) : String × String × String × Bool := match vwCl[ci]? with
  | some q => q.2.1 k
  | none => ("", "", "", true)
def opOK (oc : Nat) (q : XI) : Bool := match q with
  | (pc, ins, len, a, b, c, d) => match ins with
    | .iconst n => decide (Int32.ofInt n = c)
    | .bipush n => decide ((Int8.ofInt n).toInt32 = c)
    | .sipush n => decide ((Int16.ofInt n).toInt32 = c)
    | .lconst n => decide (Int64.ofNat (n : Nat) = d)
    | .iinc _ n => decide (Int32.ofInt n = c)
    | .goto off => decide ((pc : Int) + off = (a : Int))
    | .ifCond _ off => decide ((pc : Int) + off = (a : Int))
    | .if_icmp _ off => decide ((pc : Int) + off = (a : Int))
    | .getfield i => inF oc i a b
    | .putfield i => inF oc i a b && !(fT a b).2.2.2 && decide (parseFieldDescriptor (fT a b).2.2.1 = some (if c = 0 then .int else .boolean))
    | .invokevirtual i => inC oc i a && Nat.blt a 900 && Nat.blt 0 a && Nat.beq (mSt a) 0 && Nat.blt a mtab.length
    | .invokestatic i => bif Nat.beq a 999 then Nat.beq oc 0 && Nat.beq i 58 else inC oc i a && (Nat.beq a 998 || Nat.beq a 997 || (Nat.blt 0 a && Nat.beq (mSt a) 1 && Nat.blt a mtab.length))
    | .ldc i => bif Nat.beq b 1 then Nat.beq oc 4 && Nat.beq i (69 + 2 * a) && Nat.blt a 6 else inK oc i c
    | .ldc_w i => inK oc i c
    | .ldc2_w i => inL oc i d
    | .tableswitch df lo hi offs => decide (0 ≤ (pc : Int) + df) && offs.toList.all (fun o => decide (0 ≤ (pc : Int) + o)) && decide (-2147483648 ≤ lo) && decide (lo + offs.toList.length ≤ 2147483648) && decide (hi + 1 = lo + offs.toList.length)
    | .lookupswitch df ps => decide (0 ≤ (pc : Int) + df) && ps.toList.all (fun o => decide (0 ≤ (pc : Int) + o.2)) && (ps.toList.zip (ps.toList.drop 1)).all (fun (a, next) => a.1 < next.1) && ps.toList.all (fun o => decide (-2147483648 ≤ o.1) && decide (o.1 < 2147483648))
    | _ => true
def lenOf : Instr → Nat
  | .aload _ | .astore _ | .iload _ | .istore _ | .lload _ | .lstore _ | .bipush _ | .ldc _ => 2
  | .sipush _ | .iinc _ _ | .goto _ | .ifCond _ _ | .if_icmp _ _ | .getfield _ | .putfield _ | .invokevirtual _ | .invokestatic _ | .ldc_w _ | .ldc2_w _ => 3
  | _ => 1
def isSw : Instr → Bool
  | .tableswitch .. => true
  | .lookupswitch .. => true
  | _ => false
def entOK (oc : Nat) (bytes : ByteArray) (q : XI) : Bool := decide (decode bytes q.1 = .ok (q.2.1, q.2.2.1)) && (isSw q.2.1 || Nat.beq q.2.2.1 (lenOf q.2.1)) && opOK oc q
