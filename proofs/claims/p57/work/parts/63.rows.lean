/-! what a row of code must say to stand for the machine's code: a check by computing -/
def isX (x : List Nat) (k : Nat) : Bool := match x with
  | k' :: _ => Nat.beq k' k
  | [] => false
def tgX (pc : Nat) (off : Int) (x : List Nat) : Bool := match x with
  | t :: _ => decide ((pc : Int) + off = (t : Int))
  | [] => false
def lnX (pc nx n : Nat) : Bool := Nat.beq nx (pc + n)
/-- a constant, a text or a static that is pushed -/
def skB (own : Nat) (i : Instr) (cst : Int32) (x : List Nat) : Bool := match i with
  | .iconst v => decide (Int32.ofInt v = cst)
  | .bipush v => decide ((Int8.ofInt v).toInt32 = cst)
  | .sipush v => decide ((Int16.ofInt v).toInt32 = cst)
  | .ldc ix => match x with
    | [] => (tKI own).any (fun r => Nat.beq r.1 ix && decide (r.2.1 = cst))
    | k :: _ => strT.any (fun q => decide (q.1 = cnm own) && Nat.beq q.2.1 ix && Nat.beq q.2.2.2 k)
  | .ldc_w ix => match x with
    | [] => (tKI own).any (fun r => Nat.beq r.1 ix && decide (r.2.1 = cst))
    | k :: _ => strT.any (fun q => decide (q.1 = cnm own) && Nat.beq q.2.1 ix && Nat.beq q.2.2.2 k)
  | .ldc2_w ix => match x with
    | [n] => (tKL own).any (fun r => Nat.beq r.1 ix && decide (Int64.ofInt r.2.1 = Int64.ofNat n))
    | _ => (tKL own).any (fun r => Nat.beq r.1 ix && decide (Int64.ofInt r.2.1 = Int64.ofInt cst.toInt))
  | .getstatic ix => match x with
    | [] => (tGS own).any (fun r => Nat.beq r.1 ix && Nat.beq r.2.1 0) && decide (cst = 1)
    | k :: _ => (Nat.beq k 18 && (tGS own).any (fun r => Nat.beq r.1 ix && Nat.beq r.2.1 1)) || (Nat.beq k 19 && (tGS own).any (fun r => Nat.beq r.1 ix && Nat.beq r.2.1 2))
  | _ => true
/-- a table switch's offsets -/
def swTab (pc : Nat) : Int → List Int → List Nat → Bool
  | a, o :: os, n :: t :: l => decide ((n : Int) = a) && Nat.blt n 2147483648 && decide ((pc : Int) + o = (t : Int)) && swTab pc (a + 1) os l
  | _, [], [] => true
  | _, _, _ => false
/-- a look-up switch's pairs -/
def swLk (pc : Nat) : List (Int × Int) → List Nat → Bool
  | q :: os, n :: t :: l => decide ((n : Int) = q.1) && Nat.blt n 2147483648 && decide ((pc : Int) + q.2 = (t : Int)) && swLk pc os l
  | [], [] => true
  | _, _ => false
def rtB (rt : Option FieldType) (t : Nat) : Bool := match rt with
  | some .int => Nat.beq t 0
  | some .char => Nat.beq t 3
  | some .byte => Nat.beq t 4
  | some .boolean => Nat.beq t 5
  | _ => false
def nwB (ty : ClassFile.ArrayType) (x : List Nat) : Bool := match ty with
  | .int => isX x 1
  | .char => isX x 3
  | .byte => isX x 4
  | _ => false
/-- the six classes that are thrown: the class's row in the pool of LintelBrothers, the constructor's, the exception's number -/
def tE : List (Nat × Nat × Nat) := [(148, 152, 0), (84, 88, 1), (296, 300, 2), (168, 172, 3), (261, 265, 5)]
def dcB (cc : ByteArray) (pc : Nat) (i : Instr) (n : Nat) : Bool := match decode cc pc with
  | .ok (j, k) => decide (j = i) && Nat.beq k n
  | .error _ => false
theorem dcB_ok {cc : ByteArray} {pc n : Nat} {i : Instr} (h : dcB cc pc i n = true) : decode cc pc = .ok (i, n) := by
  unfold dcB at h
  split at h
  · rename_i j k e
    simp only [Bool.and_eq_true, decide_eq_true_eq, Nat.beq_eq] at h
    rw [e, h.1, h.2]
  · cases h
/-- 'throw new E("text")' behind a 'new' -/
def thB (own : Nat) (cc : ByteArray) (pc ik E : Nat) : Bool := Nat.beq own 8 && dcB cc (pc + 3) .dup 1 && tE.any (fun r => Nat.beq r.1 ik && Nat.beq r.2.2 E &&
  msgT.any (fun q => decide (q.1 = cnm own) &&
    ((dcB cc (pc + 4) (.ldc q.2.1) 2 && dcB cc (pc + 6) (.invokespecial r.2.1) 3 && dcB cc (pc + 9) .athrow 1) ||
     (dcB cc (pc + 4) (.ldc_w q.2.1) 3 && dcB cc (pc + 7) (.invokespecial r.2.1) 3 && dcB cc (pc + 10) .athrow 1))))
def fiB (own : Nat) (ini : Bool) (ci k : Nat) : Bool := match wcl[ci]? with
  | some q => !(q.2.1 k).2.2.2 || (ini && decide ((q.2.1 k).1 = cnm own))
  | none => false
def ciB (ci : Nat) (z : List Nat) : Bool := match z with
  | [] => Nat.blt ci 11
  | _ => Nat.beq ci 11
def ftB (ci k t : Nat) : Bool := match t, ffty ci k with
  | 0, .int => true
  | 1, .long => true
  | 2, .object _ => true
  | 2, .array _ => true
  | 3, .char => true
  | 4, .byte => true
  | 5, .boolean => true
  | _, _ => false
/-- the call of a method that another one overrides -/
def vuB (own ix k np ci : Nat) : Bool := Nat.beq own tVU.1 && Nat.beq ix tVU.2.1 && Nat.beq k tVU.2.2.1 && Nat.beq np tVU.2.2.2.1 && Nat.beq ci tVU.2.2.2.2.1
def rI (own : Nat) (cc : ByteArray) (nL : Nat) (rt : Option FieldType) (rtn : Nat) (ini h0 : Bool) (pc : Nat) (i : Instr) (nx : Nat) (cst : Int32) (x : List Nat) : Bool := match i with
  | .iload k => lnX pc nx 2 && isX x k
  | .iload_n k => lnX pc nx 1 && isX x k.val
  | .getstatic ix => (match x with
    | [_, k, iv] => lnX pc nx 3 && (tGS own).any (fun r => Nat.beq r.1 ix && Nat.beq r.2.1 3) && dcB cc (pc + 3) (.invokestatic iv) 3 && (tS own).any (fun r => Nat.beq r.1 iv && Nat.beq r.2.1 k && Nat.beq r.2.2.1 3)
    | _ => lnX pc nx (lenI (.getstatic ix)) && skB own (.getstatic ix) cst x)
  | .aload k => lnX pc nx 2 && isX x k
  | .aload_n k => lnX pc nx 1 && isX x k.val
  | .lload k => lnX pc nx 2 && isX x k
  | .lload_n k => lnX pc nx 1 && isX x k.val
  | .dload k => lnX pc nx 2 && isX x k
  | .fload k => lnX pc nx 2 && isX x k
  | .istore k => lnX pc nx 2 && isX x k && Nat.blt k nL
  | .istore_n k => lnX pc nx 1 && isX x k.val && Nat.blt k.val nL
  | .astore k => lnX pc nx 2 && isX x k && Nat.blt k nL
  | .astore_n k => lnX pc nx 1 && isX x k.val && Nat.blt k.val nL
  | .lstore k => lnX pc nx 2 && isX x k && Nat.blt (k + 1) nL
  | .lstore_n k => lnX pc nx 1 && isX x k.val && Nat.blt (k.val + 1) nL
  | .dstore k => lnX pc nx 2 && isX x k && Nat.blt (k + 1) nL
  | .fstore k => lnX pc nx 2 && isX x k && Nat.blt k nL
  | .iinc k n => lnX pc nx 3 && isX x k && Nat.blt k nL && decide (Int32.ofInt n = cst)
  | .goto off => lnX pc nx 3 && tgX pc off x
  | .ifCond _ off => lnX pc nx 3 && tgX pc off x
  | .if_icmp _ off => lnX pc nx 3 && tgX pc off x
  | .ifnonnull off => lnX pc nx 3 && tgX pc off x
  | .tableswitch dflt lo hi offs => (match x with
    | t :: l => decide ((pc : Int) + dflt = (t : Int)) && decide (lo + (offs.toList.length : Int) = hi + 1) && swTab pc lo offs.toList l
    | [] => false)
  | .lookupswitch dflt ps => (match x with
    | t :: l => decide ((pc : Int) + dflt = (t : Int)) && (ps.toList.zip (ps.toList.drop 1)).all (fun (a, next) => a.1 < next.1) && swLk pc ps.toList l
    | [] => false)
  | .idiv | .irem | .ddiv | .fdiv | .f2d | .arraylength | .iaload | .caload | .baload | .aaload | .iastore | .castore | .bastore | .aastore => lnX pc nx 1
  | .laload | .daload | .lastore | .dastore => false
  | .getfield ix => lnX pc nx 3 && (match x with
    | ci :: k :: t :: _ => (tF own).any (fun r => Nat.beq r.1 ix && Nat.beq r.2.1 ci && Nat.beq r.2.2.1 k) && (Nat.blt ci 11 || (Nat.beq ci 11 && Nat.blt k 2)) && Nat.beq ((ftag ci).getD k 0) t
    | _ => false)
  | .putfield ix => lnX pc nx 3 && (match x with
    | ci :: k :: t :: z => (tF own).any (fun r => Nat.beq r.1 ix && Nat.beq r.2.1 ci && Nat.beq r.2.2.1 k) && ciB ci z && Nat.beq ((ftag ci).getD k 0) t &&
        fiB own ini ci k && ftB ci k t
    | _ => false)
  | .new ix => (match x with
    | [ci, w] => lnX pc nx 3 && Nat.blt ci 12 && (tW own).any (fun r => Nat.beq r.1 ix && Nat.beq r.2.1 ci && Nat.beq r.2.2.1 w)
    | [E] => lnX pc nx 3 && h0 && thB own cc pc ix E
    | _ => false)
  | .newarray ty => lnX pc nx 2 && nwB ty x
  | .anewarray ix => lnX pc nx 3 && (tA own).any (fun r => Nat.beq r.1 ix)
  | .multianewarray ix dm => lnX pc nx 4 && Nat.beq dm 2 && (tMA own).any (fun r => Nat.beq r.1 ix)
  | .ireturn => lnX pc nx 1 && rtB rt rtn
  | .lreturn => lnX pc nx 1 && decide (rt = some .long)
  | .dreturn => lnX pc nx 1 && decide (rt = some .double)
  | .freturn => lnX pc nx 1 && decide (rt = some .float)
  | .areturn => lnX pc nx 1 && (match rt with
    | some (.object _) => true
    | some (.array _) => true
    | _ => false)
  | .return_ => lnX pc nx 1 && decide (rt = none)
  | .invokevirtual ix => lnX pc nx 3 && (match x with
    | [6, k, np, ci] => (tV own).any (fun r => Nat.beq r.1 ix && Nat.beq r.2.1 k && Nat.beq r.2.2.1 np && Nat.beq r.2.2.2.1 ci) || vuB own ix k np ci
    | _ => false)
  | .invokestatic ix => lnX pc nx 3 && (match x with
    | [0, k, np] => (tS own).any (fun r => Nat.beq r.1 ix && Nat.beq r.2.1 k && Nat.beq r.2.2.1 np)
    | [2] => (tC own).any (fun r => Nat.beq r.1 ix)
    | [3] => (tM3 own).any (fun r => Nat.beq r.1 ix)
    | [4] => (tM4 own).any (fun r => Nat.beq r.1 ix)
    | [5] => (tM5 own).any (fun r => Nat.beq r.1 ix)
    | _ => false)
  | .invokespecial ix => lnX pc nx 3 && (match x with
    | [7, k, np] => (tI own).any (fun r => Nat.beq r.1 ix && Nat.beq r.2.1 k && Nat.beq r.2.2.1 np) || (tN own).any (fun r => Nat.beq r.1 ix && Nat.beq r.2.1 k && Nat.beq r.2.2.1 np)
    | [6, k, np, ci] => (tU own).any (fun r => Nat.beq r.1 ix && Nat.beq r.2.1 k && Nat.beq r.2.2.1 np && Nat.beq r.2.2.2.1 ci)
    | [1] => (tO own).any (fun r => Nat.beq r.1 ix)
    | _ => false)
  | .checkcast _ => true
  | i => lnX pc nx (lenI i) && skB own i cst x
def rB (own : Nat) (cc : ByteArray) (nL : Nat) (rt : Option FieldType) (rtn : Nat) (ini h0 : Bool) (r : Row) : Bool :=
  dcB cc r.1 r.2.1 (r.2.2.1 - r.1) && rI own cc nL rt rtn ini h0 r.1 r.2.1 r.2.2.1 r.2.2.2.1 r.2.2.2.2
/-- a method's rows by its number: the table of methods beside the table of code -/
def mB (k : Nat) (rs : List Row) : Bool := rs.all (rB (mo k) (mi k).2.1 (mi k).2.2.1 (mi k).2.2.2.1 (md k).2.2.1 (mi k).2.2.2.2.2 (match (mi k).2.2.2.2.1 with | [] => true | _ => false))
