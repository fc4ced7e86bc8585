/-! A SMALL MACHINE OVER RELATIVE ADDRESSES: its heap, its steps as a transformer of predicates, and 'Spec', what a method does -/
/-- kinds of cells: 0 none; 1 int[], 2 long[], 3 char[], 4 byte[], 5 double[], 6 int[][], 7 Data[], 8 byte[] of a constant, 9 int[] of a constant; 10 + ci an object of class ci -/
abbrev HP : Type := (Nat → Nat × Nat) × (Nat → Nat → Int32) × (Nat → Nat → Int64) × (Nat → Nat → Option Nat) × (Nat → Nat → UInt64) × Nat × Nat
def hK (A : HP) : Nat → Nat × Nat := A.1
def hI (A : HP) : Nat → Nat → Int32 := A.2.1
def hJ (A : HP) : Nat → Nat → Int64 := A.2.2.1
def hR (A : HP) : Nat → Nat → Option Nat := A.2.2.2.1
def hU (A : HP) : Nat → Nat → UInt64 := A.2.2.2.2.1
def hn (A : HP) : Nat := A.2.2.2.2.2.1
def hw (A : HP) : Nat := A.2.2.2.2.2.2
def up2 {α : Type} (f : Nat → Nat → α) (a i : Nat) (v : α) : Nat → Nat → α := fun b j => if b = a ∧ j = i then v else f b j
def sI (A : HP) (a i : Nat) (v : Int32) : HP := (A.1, up2 A.2.1 a i v, A.2.2)
def sJ (A : HP) (a i : Nat) (v : Int64) : HP := (A.1, A.2.1, up2 A.2.2.1 a i v, A.2.2.2)
def sR (A : HP) (a i : Nat) (v : Option Nat) : HP := (A.1, A.2.1, A.2.2.1, up2 A.2.2.2.1 a i v, A.2.2.2.2)
def sU (A : HP) (a i : Nat) (v : UInt64) : HP := (A.1, A.2.1, A.2.2.1, A.2.2.2.1, up2 A.2.2.2.2.1 a i v, A.2.2.2.2.2)
/-- n places of the row at src from sp on, to the row at dst from dp on -/
def cpI (A : HP) (src sp dst dp n : Nat) : HP := (A.1, (fun b j => if b = dst ∧ dp ≤ j ∧ j < dp + n then A.2.1 src (sp + (j - dp)) else A.2.1 b j), A.2.2)
/-- a new cell of a kind, all its places 0 or none, that takes w slots -/
def mk (A : HP) (k : Nat × Nat) (w : Nat) : HP := ((fun b => if b = hn A then k else A.1 b), (fun b j => if b = hn A then 0 else A.2.1 b j), (fun b j => if b = hn A then 0 else A.2.2.1 b j), (fun b j => if b = hn A then none else A.2.2.2.1 b j), (fun b j => if b = hn A then 0 else A.2.2.2.2.1 b j), hn A + 1, hw A + w)
/-- c rows of n places each, behind an outer row of c places -/
def mkG (A : HP) (k k2 : Nat) (c n : Nat) : HP := ((fun b => if b = hn A then (k, c) else if hn A < b ∧ b ≤ hn A + c then (k2, n) else A.1 b), (fun b j => if hn A ≤ b ∧ b ≤ hn A + c then 0 else A.2.1 b j), (fun b j => if hn A ≤ b ∧ b ≤ hn A + c then 0 else A.2.2.1 b j), (fun b j => if b = hn A then (if j < c then some (hn A + 1 + j) else none) else if hn A ≤ b ∧ b ≤ hn A + c then none else A.2.2.2.1 b j), (fun b j => if hn A ≤ b ∧ b ≤ hn A + c then 0 else A.2.2.2.2.1 b j), hn A + 1 + c, hw A + c + c * n)
/-- an exception's cell: nothing is said of it -/
def junk (A : HP) (w : Nat) : HP := (A.1, A.2.1, A.2.2.1, A.2.2.2.1, A.2.2.2.2.1, hn A + 1, hw A + w)
/-- where constants begin -/
def BIG : Nat := 1000000000
abbrev LV : Type := List (Option Value)
abbrev Out : Type := (Option Value) ⊕ Nat
/-- a row of code: the place, the instruction, the next place, a number, further numbers -/
abbrev Row : Type := Nat × Instr × Nat × Int32 × List Nat
def lk : Nat → List Row → Option (Instr × Nat × Int32 × List Nat)
  | _, [] => none
  | k, r :: l => cond (Nat.beq k r.1) (some r.2) (lk k l)
def nth {α : Type} : List α → Nat → Option α
  | [], _ => none
  | a :: _, 0 => some a
  | _ :: l, n + 1 => nth l n
/-- the place ahead holds no number of two slots -/
def okS (L : LV) : Nat → Bool
  | 0 => true
  | j + 1 => match nth L j with
    | some (some v) => match v.category with
      | 2 => false
      | _ => true
    | _ => true
/-- a frame's first locals -/
def argL : List Value → LV
  | [] => []
  | v :: l => match v.category with
    | 2 => some v :: none :: argL l
    | _ => some v :: argL l
def entL (n : Nat) (as : List Value) : LV := argL as ++ List.replicate (n - (argL as).length) none
/-- the arguments of a call, and what stays on the stack -/
def popN : Nat → List Value → List Value → Option (List Value × List Value)
  | 0, st, acc => some (acc, st)
  | n + 1, v :: st, acc => popN n st (v :: acc)
  | _ + 1, [], _ => none
/-- words on a stack -/
def catS : List Value → Nat
  | [] => 0
  | v :: l => v.category + catS l
/-- a handler that covers the place, for the exception's number -/
def findH : List (Nat × Nat × Nat × Nat) → Nat → Nat → Option Nat
  | [], _, _ => none
  | (a, b, h, e) :: l, pc, E => cond (Nat.ble a pc && Nat.blt pc b && Nat.beq e E) (some h) (findH l pc E)
def cmpP : ClassFile.Cond → Int32 → Int32 → Prop
  | .eq, x, y => x = y
  | .ne, x, y => ¬ x = y
  | .lt, x, y => x < y
  | .ge, x, y => y ≤ x
  | .gt, x, y => y < x
  | .le, x, y => x ≤ y
/-- a value of a field or an array of a type of few bits stays what it is -/
def fitT (t : Nat) (v : Int32) : Prop := match t with
  | 0 => True
  | 3 => vp_nar .char v = v
  | 4 => vp_nar .byte v = v
  | _ => vp_nar .boolean v = v
/-- where a switch goes: (number, target) .. -/
def swP (x : Int32) : List Nat → Nat → (Nat → Prop) → Prop
  | n :: t :: l, d, K => (x = Int32.ofNat n → K t) ∧ (¬ x = Int32.ofNat n → swP x l d K)
  | _, d, K => K d
def isBA (k : Nat × Nat) : Prop := k.1 = 4 ∨ k.1 = 8
abbrev SpecT : Type := Nat → List Value → HP → (Out → HP → Prop) → Prop
/-- instructions that move numbers about on the stack alone -/
def stkI (i : Instr) (cst : Int32) (x : List Nat) (st : List Value) : Option (List Value) :=
  match i with
  | .iconst _ | .bipush _ | .sipush _ => some (.int cst :: st)
  | .lconst l => match l with
    | 0 => some (.long 0 :: st)
    | _ => some (.long 1 :: st)
  | .ldc _ | .ldc_w _ => match x with
    | [] => some (.int cst :: st)
    | k :: _ => some (.ref (BIG + k) :: st)
  | .ldc2_w _ => match x with
    | [n] => some (.long (Int64.ofNat n) :: st)
    | _ => some (.long (Int64.ofInt cst.toInt) :: st)
  | .getstatic _ => match x with
    | [] => some (.int cst :: st)
    | k :: _ => some (.ref (BIG + k) :: st)
  | .aconst_null => some (.null :: st)
  | .dconst d => match d with
    | 0 => some (.double FP.dconst0 :: st)
    | _ => none
  | .fconst d => match d with
    | 0 => some (.float FP.fconst0 :: st)
    | _ => none
  | .dup => match st with
    | v :: r => match v.category with
      | 1 => some (v :: v :: r)
      | _ => none
    | _ => none
  | .dup_x1 => match st with
    | a :: b :: r => match a.category, b.category with
      | 1, 1 => some (a :: b :: a :: r)
      | _, _ => none
    | _ => none
  | .dup2 => match st with
    | a :: b :: r => match a.category, b.category with
      | 1, 1 => some (a :: b :: a :: b :: r)
      | _, _ => none
    | _ => none
  | .pop => match st with
    | v :: r => match v.category with
      | 1 => some r
      | _ => none
    | _ => none
  | .iadd => match st with
    | .int y :: .int x :: r => some (.int (x + y) :: r)
    | _ => none
  | .isub => match st with
    | .int y :: .int x :: r => some (.int (x - y) :: r)
    | _ => none
  | .imul => match st with
    | .int y :: .int x :: r => some (.int (x * y) :: r)
    | _ => none
  | .iand => match st with
    | .int y :: .int x :: r => some (.int (x &&& y) :: r)
    | _ => none
  | .ior => match st with
    | .int y :: .int x :: r => some (.int (x ||| y) :: r)
    | _ => none
  | .ineg => match st with
    | .int x :: r => some (.int (-x) :: r)
    | _ => none
  | .ishl => match st with
    | .int y :: .int x :: r => some (.int (x <<< (y &&& 31)) :: r)
    | _ => none
  | .ishr => match st with
    | .int y :: .int x :: r => some (.int (x >>> (y &&& 31)) :: r)
    | _ => none
  | .iushr => match st with
    | .int y :: .int x :: r => some (.int (x.toUInt32 >>> (y.toUInt32 &&& Int32.toUInt32 31)).toInt32 :: r)
    | _ => none
  | .lshl => match st with
    | .int y :: .long x :: r => some (.long (x <<< (y.toInt64 &&& 63)) :: r)
    | _ => none
  | .lshr => match st with
    | .int y :: .long x :: r => some (.long (x >>> (y.toInt64 &&& 63)) :: r)
    | _ => none
  | .land => match st with
    | .long y :: .long x :: r => some (.long (x &&& y) :: r)
    | _ => none
  | .lor => match st with
    | .long y :: .long x :: r => some (.long (x ||| y) :: r)
    | _ => none
  | .lsub => match st with
    | .long y :: .long x :: r => some (.long (x - y) :: r)
    | _ => none
  | .lcmp => match st with
    | .long y :: .long x :: r => some (.int (lg_cmp x y) :: r)
    | _ => none
  | .i2l => match st with
    | .int x :: r => some (.long x.toInt64 :: r)
    | _ => none
  | .i2c => match st with
    | .int x :: r => some (.int (x.toUInt32 % 65536).toInt32 :: r)
    | _ => none
  | .i2b => match st with
    | .int x :: r => some (.int x.toInt8.toInt32 :: r)
    | _ => none
  | .i2d => match st with
    | .int x :: r => some (.double (FP.i2d x) :: r)
    | _ => none
  | .i2f => match st with
    | .int x :: r => some (.float (FP.i2f x) :: r)
    | _ => none
  | .dcmp op => match st with
    | .double y :: .double x :: r => some (.int (Op.cmpValue (FP.dcmp x y) op) :: r)
    | _ => none
  | .fcmp op => match st with
    | .float y :: .float x :: r => some (.int (Op.cmpValue (FP.fcmp x y) op) :: r)
    | _ => none
  | _ => none
/-- no exception's marker -/
def noJ : List Value → Bool
  | [] => true
  | v :: l => match v with
    | .retAddr _ => false
    | _ => noJ l
/-- a call, and where it goes on -/
def callP (S : SpecT) (hh : List (Nat × Nat × Nat × Nat)) (Post : Out → HP → Prop) (pc nx : Nat) (L : LV) (G : Nat → LV → List Value → HP → Prop) (k : Nat) (as r : List Value) (A : HP) : Prop :=
  cond (Nat.ble (catS r) 8 && noJ as) (S k as A (fun o A' => match o with
    | .inl none => G nx L r A'
    | .inl (some v) => G nx L (v :: r) A'
    | .inr E => match findH hh pc E with
      | some h => G h L [.retAddr 0] A'
      | none => match hh with
        | [] => Post (.inr E) A'
        | _ => False)) False
/-- one step: what has to hold, and where it goes. S: what the methods that it calls do; rt: the type of the answer (0 int, 3 char, 4 byte, 5 boolean) -/
def stepI (S : SpecT) (hh : List (Nat × Nat × Nat × Nat)) (rt : Nat) (Post : Out → HP → Prop) (pc : Nat) (i : Instr) (nx : Nat) (cst : Int32) (x : List Nat) (L : LV) (st : List Value) (A : HP) (G : Nat → LV → List Value → HP → Prop) : Prop :=
  match i with
  | .iload _ | .iload_n _ => match x with
    | k :: _ => match nth L k with
      | some (some (.int v)) => G nx L (.int v :: st) A
      | _ => False
    | _ => False
  | .aload _ | .aload_n _ => match x with
    | k :: _ => match nth L k with
      | some (some (.ref v)) => G nx L (.ref v :: st) A
      | some (some .null) => G nx L (.null :: st) A
      | _ => False
    | _ => False
  | .lload _ | .lload_n _ => match x with
    | k :: _ => match nth L k with
      | some (some (.long v)) => G nx L (.long v :: st) A
      | _ => False
    | _ => False
  | .dload _ => match x with
    | k :: _ => match nth L k with
      | some (some (.double v)) => G nx L (.double v :: st) A
      | _ => False
    | _ => False
  | .fload _ => match x with
    | k :: _ => match nth L k with
      | some (some (.float v)) => G nx L (.float v :: st) A
      | _ => False
    | _ => False
  | .istore _ | .istore_n _ => match x, st with
    | k :: _, .int v :: r => cond (okS L k) (G nx (L.set k (some (.int v))) r A) False
    | _, _ => False
  | .astore _ | .astore_n _ => match x, st with
    | k :: _, .ref v :: r => cond (okS L k) (G nx (L.set k (some (.ref v))) r A) False
    | k :: _, .retAddr _ :: r => cond (okS L k) (G nx (L.set k none) r A) False
    | _, _ => False
  | .lstore _ | .lstore_n _ => match x, st with
    | k :: _, .long v :: r => cond (okS L k) (G nx ((L.set k (some (.long v))).set (k + 1) none) r A) False
    | _, _ => False
  | .dstore _ => match x, st with
    | k :: _, .double v :: r => cond (okS L k) (G nx ((L.set k (some (.double v))).set (k + 1) none) r A) False
    | _, _ => False
  | .fstore _ => match x, st with
    | k :: _, .float v :: r => cond (okS L k) (G nx (L.set k (some (.float v))) r A) False
    | _, _ => False
  | .iinc _ _ => match x with
    | k :: _ => match nth L k with
      | some (some (.int v)) => cond (okS L k) (G nx (L.set k (some (.int (v + cst)))) st A) False
      | _ => False
    | _ => False
  | .goto _ => match x with
    | t :: _ => G t L st A
    | _ => False
  | .ifCond c _ => match x, st with
    | t :: _, .int v :: r => (cmpP c v 0 → G t L r A) ∧ (¬ cmpP c v 0 → G nx L r A)
    | _, _ => False
  | .if_icmp c _ => match x, st with
    | t :: _, .int w :: .int v :: r => (cmpP c v w → G t L r A) ∧ (¬ cmpP c v w → G nx L r A)
    | _, _ => False
  | .ifnonnull _ => match x, st with
    | t :: _, .ref _ :: r => G t L r A
    | _, .null :: r => G nx L r A
    | _, _ => False
  | .tableswitch _ _ _ _ | .lookupswitch _ _ => match x, st with
    | d :: l, .int v :: r => swP v l d (fun t => G t L r A)
    | _, _ => False
  | .idiv => match st with
    | .int w :: .int v :: r => ¬ w = 0 ∧ G nx L (.int (v / w) :: r) A
    | _ => False
  | .irem => match st with
    | .int w :: .int v :: r => ¬ w = 0 ∧ G nx L (.int (v - v / w * w) :: r) A
    | _ => False
  | .ddiv => match st with
    | .double w :: .double v :: r => vf_n64 (FP.ddiv v w) ∧ G nx L (.double (FP.ddiv v w) :: r) A
    | _ => False
  | .fdiv => match st with
    | .float w :: .float v :: r => vf_n32 (FP.fdiv v w) ∧ G nx L (.float (FP.fdiv v w) :: r) A
    | _ => False
  | .f2d => match st with
    | .float v :: r => vf_n64 (FP.f2d v) ∧ G nx L (.double (FP.f2d v) :: r) A
    | _ => False
  | .getfield _ => match x, st with
    | ci :: k :: t :: _, .ref a :: r => hK A a = (10 + ci, 0) ∧ (match t with
      | 1 => G nx L (.long (hJ A a k) :: r) A
      | 2 => ∃ b, hR A a k = some b ∧ G nx L (.ref b :: r) A
      | _ => G nx L (.int (hI A a k) :: r) A)
    | _, _ => False
  | .putfield _ => match x, st with
    | ci :: k :: t :: z, v :: .ref a :: r => hK A a = (10 + ci, 0) ∧ (match z with
      | [] => True
      | _ => a < BIG) ∧ (match t, v with
      | 1, .long w => G nx L r (sJ A a k w)
      | 2, .ref w => G nx L r (sR A a k (some w))
      | 1, _ => False
      | 2, _ => False
      | t, .int w => fitT t w ∧ G nx L r (sI A a k w)
      | _, _ => False)
    | _, _ => False
  | .arraylength => match st with
    | .ref a :: r => ∃ t n, hK A a = (t, n) ∧ 0 < t ∧ t ≤ 9 ∧ G nx L (.int (Int32.ofNat n) :: r) A
    | _ => False
  | .iaload => match x with
    | [] => match st with
      | .int j :: .ref a :: r => ∃ n, hK A a = (1, n) ∧ vp_in j n ∧ G nx L (.int (hI A a j.toNatClampNeg) :: r) A
      | _ => False
    | _ => match st with
      | .int j :: .ref a :: r => ∃ n, hK A a = (9, n) ∧ vp_in j n ∧ G nx L (.int (hI A a j.toNatClampNeg) :: r) A
      | _ => False
  | .caload => match st with
    | .int j :: .ref a :: r => ∃ n, hK A a = (3, n) ∧ vp_in j n ∧ G nx L (.int (hI A a j.toNatClampNeg) :: r) A
    | _ => False
  | .baload => match st with
    | .int j :: .ref a :: r => ∃ n t, hK A a = (t, n) ∧ (t = 4 ∨ t = 8) ∧ vp_in j n ∧ G nx L (.int (hI A a j.toNatClampNeg) :: r) A
    | _ => False
  | .laload => match st with
    | .int j :: .ref a :: r => ∃ n, hK A a = (2, n) ∧ vp_in j n ∧ G nx L (.long (hJ A a j.toNatClampNeg) :: r) A
    | _ => False
  | .daload => match st with
    | .int j :: .ref a :: r => ∃ n, hK A a = (5, n) ∧ vp_in j n ∧ G nx L (.double (hU A a j.toNatClampNeg) :: r) A
    | _ => False
  | .aaload => match st with
    | .int j :: .ref a :: r => ∃ n t b, hK A a = (t, n) ∧ (t = 6 ∨ t = 7) ∧ vp_in j n ∧ hR A a j.toNatClampNeg = some b ∧ G nx L (.ref b :: r) A
    | _ => False
  | .iastore => match st with
    | .int w :: .int j :: .ref a :: r => ∃ n, hK A a = (1, n) ∧ vp_in j n ∧ G nx L r (sI A a j.toNatClampNeg w)
    | _ => False
  | .castore => match st with
    | .int w :: .int j :: .ref a :: r => ∃ n, hK A a = (3, n) ∧ vp_in j n ∧ G nx L r (sI A a j.toNatClampNeg (vp_nar .char w))
    | _ => False
  | .bastore => match st with
    | .int w :: .int j :: .ref a :: r => ∃ n, hK A a = (4, n) ∧ vp_in j n ∧ G nx L r (sI A a j.toNatClampNeg (vp_nar .byte w))
    | _ => False
  | .lastore => match st with
    | .long w :: .int j :: .ref a :: r => ∃ n, hK A a = (2, n) ∧ vp_in j n ∧ G nx L r (sJ A a j.toNatClampNeg w)
    | _ => False
  | .dastore => match st with
    | .double w :: .int j :: .ref a :: r => ∃ n, hK A a = (5, n) ∧ vp_in j n ∧ G nx L r (sU A a j.toNatClampNeg w)
    | _ => False
  | .aastore => match st with
    | .ref w :: .int j :: .ref a :: r => ∃ n, hK A a = (7, n) ∧ hK A w = (12, 0) ∧ vp_in j n ∧ G nx L r (sR A a j.toNatClampNeg (some w))
    | _ => False
  | .new _ => match x, st with
    | [ci, w], st => G nx L (.ref (hn A) :: st) (mk A (10 + ci, 0) w)
    | [E], [] => Post (.inr E) (junk A 6)
    | _, _ => False
  | .newarray _ => match x, st with
    | t :: _, .int m :: r => ¬ m < 0 ∧ m.toNatClampNeg ≤ 65536 ∧ G nx L (.ref (hn A) :: r) (mk A (t, m.toNatClampNeg) m.toNatClampNeg)
    | _, _ => False
  | .anewarray _ => match st with
    | .int m :: r => ¬ m < 0 ∧ m.toNatClampNeg ≤ 65536 ∧ G nx L (.ref (hn A) :: r) (mk A (7, m.toNatClampNeg) m.toNatClampNeg)
    | _ => False
  | .multianewarray _ _ => match st with
    | .int m :: .int n :: r => ¬ m < 0 ∧ ¬ n < 0 ∧ 0 < n.toNatClampNeg ∧ m.toNatClampNeg ≤ 1000 ∧ n.toNatClampNeg ≤ 1000 ∧ G nx L (.ref (hn A) :: r) (mkG A 6 1 n.toNatClampNeg m.toNatClampNeg)
    | _ => False
  | .ireturn => match st with
    | [.int v] => fitT rt v ∧ Post (.inl (some (.int v))) A
    | _ => False
  | .lreturn => match st with
    | [.long v] => Post (.inl (some (.long v))) A
    | _ => False
  | .dreturn => match st with
    | [.double v] => Post (.inl (some (.double v))) A
    | _ => False
  | .freturn => match st with
    | [.float v] => Post (.inl (some (.float v))) A
    | _ => False
  | .areturn => match st with
    | [.ref v] => Post (.inl (some (.ref v))) A
    | _ => False
  | .return_ => match st with
    | [] => Post (.inl none) A
    | _ => False
  | .invokevirtual _ | .invokestatic _ | .invokespecial _ => match x with
    | [0, k, np] => match popN np st [] with
      | some (as, r) => callP S hh Post pc nx L G k as r A
      | none => False
    | [7, k, np] => match popN np st [] with
      | some (.ref b :: as, r) => callP S hh Post pc nx L G k (.ref b :: as) r A
      | _ => False
    | [6, k, np, ci] => match popN np st [] with
      | some (as, r) => (match as with
        | .ref b :: _ => hK A b = (10 + ci, 0)
        | _ => False) ∧ callP S hh Post pc nx L G k as r A
      | none => False
    | [1] => match st with
      | .ref _ :: r => cond (Nat.ble (catS r) 8) (G nx L r A) False
      | _ => False
    | [2] => match st with
      | [.int n, .int dp, .ref d, .int sp, .ref s] => ∃ t n0 t1 n1, hK A s = (t, n0) ∧ hK A d = (t1, n1) ∧ ((t = 1 ∧ t1 = 1) ∨ (t = 3 ∧ t1 = 3) ∨ ((t = 4 ∨ t = 8) ∧ t1 = 4)) ∧ ¬ sp < 0 ∧ ¬ dp < 0 ∧ ¬ n < 0 ∧ sp.toNatClampNeg + n.toNatClampNeg ≤ n0 ∧ dp.toNatClampNeg + n.toNatClampNeg ≤ n1 ∧
          (∀ j, j < n.toNatClampNeg → fitT (if t = 8 then 4 else if t = 1 then 0 else t) (hI A s (sp.toNatClampNeg + j))) ∧ G nx L [] (cpI A s sp.toNatClampNeg d dp.toNatClampNeg n.toNatClampNeg)
      | _ => False
    | [3] => match st with
      | .int w :: .int v :: r => cond (Nat.ble (catS r) 8) (G nx L (.int (if v < w then w else v) :: r) A) False
      | _ => False
    | [4] => match st with
      | .int w :: .int v :: r => cond (Nat.ble (catS r) 8) (G nx L (.int (if w < v then w else v) :: r) A) False
      | _ => False
    | [5] => match st with
      | .int v :: r => cond (Nat.ble (catS r) 8) (G nx L (.int (if 0 ≤ v then v else 0 - v) :: r) A) False
      | _ => False
    | _ => False
  | .getstatic g => match x with
    | [_, k, _] => match st with
      | .int n :: .int j :: r => Nat.ble (catS r) 8 = true ∧ S k [.int j, .int n, .null] A (fun o A' => o = .inl (some (.int j)) ∧ A' = A) ∧ S k [.int j, .int n, .ref (BIG + 21)] A (fun o A' => o = .inl (some (.int j)) ∧ A' = A) ∧ G (nx + 3) L (.int j :: r) A
      | _ => False
    | _ => match stkI (.getstatic g) cst x st with
      | some st' => G nx L st' A
      | none => False
  | i => match stkI i cst x st with
    | some st' => G nx L st' A
    | none => False
/-- a method's code: rows, locals, the type of the answer, handlers -/
abbrev MDT : Type := List Row × Nat × Nat × List (Nat × Nat × Nat × Nat)
def stepP (S : SpecT) (M : MDT) (Post : Out → HP → Prop) (pc : Nat) (L : LV) (st : List Value) (A : HP) (G : Nat → LV → List Value → HP → Prop) : Prop :=
  match lk pc M.1 with
  | some (i, nx, cst, x) => stepI S M.2.2.2 M.2.2.1 Post pc i nx cst x L st A G
  | none => False
/-- what method k does at the depth d: all predicates that follow its code backwards hold at its start -/
def SpecF (md : Nat → MDT) : Nat → SpecT
  | 0 => fun _ _ _ _ => False
  | d + 1 => fun k as A Post => (Nat.ble (argL as).length (md k).2.1 && noJ as) = true ∧ ∀ G : Nat → LV → List Value → HP → Prop, (∀ pc L st A, stepP (SpecF md d) (md k) Post pc L st A G → G pc L st A) → G 0 (entL (md k).2.1 as) [] A
