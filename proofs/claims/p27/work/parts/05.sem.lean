/-! the heap: ints, references, longs by address and place; how many objects there are, how many exceptions were made -/
abbrev Mem : Type := (Nat → Nat → Int32) × (Nat → Nat → Option Nat) × (Nat → Nat → Int64) × Nat × Nat
def up2 {α : Type} (f : Nat → Nat → α) (a k : Nat) (v : α) : Nat → Nat → α := fun b j => if b = a ∧ j = k then v else f b j
def mI (μ : Mem) (a k : Nat) : Int32 := μ.1 a k
def mR (μ : Mem) (a k : Nat) : Option Nat := μ.2.1 a k
def mL (μ : Mem) (a k : Nat) : Int64 := μ.2.2.1 a k
def mN (μ : Mem) : Nat := μ.2.2.2.1
def mX (μ : Mem) : Nat := μ.2.2.2.2
def setI (μ : Mem) (a k : Nat) (v : Int32) : Mem := (up2 μ.1 a k v, μ.2)
def setR (μ : Mem) (a k : Nat) (v : Nat) : Mem := (μ.1, up2 μ.2.1 a k (some v), μ.2.2)
def setL (μ : Mem) (a k : Nat) (v : Int64) : Mem := (μ.1, μ.2.1, up2 μ.2.2.1 a k v, μ.2.2.2)
def newM (μ : Mem) : Mem := (fun b j => if b = mN μ then 0 else μ.1 b j, fun b j => if b = mN μ then none else μ.2.1 b j, fun b j => if b = mN μ then 0 else μ.2.2.1 b j, mN μ + 1, μ.2.2.2.2)
def excM (μ : Mem) : Mem := (μ.1, μ.2.1, μ.2.2.1, μ.2.2.2.1, μ.2.2.2.2 + 1)
def cpyM (μ : Mem) (a0 sp a dp n : Nat) : Mem := (fun b j => if b = a then va_cpy (μ.1 a0) (μ.1 a) sp dp n j else μ.1 b j, μ.2)
/-- how many objects there are in all -/
def NN : Nat := 387
/-- what lies at an address: its kind (0 to 4 objects, 5 char[], 6 int[], 7 Instruction[], 8 Machine[], 9 long[]), how many places -/
def shpM (r : Nat) : Nat × Nat := bif Nat.beq r 0 then (1, 14) else bif Nat.beq r 1 then (7, 24) else bif Nat.beq r 2 then (0, 14) else bif Nat.beq r 3 then (6, 8) else bif Nat.beq r 4 then (6, 16) else bif Nat.beq r 5 then (6, 3) else (0, 14)
/-- the law's arrays by their order: its machine, then for each turn the copies -/
def shpT (r : Nat) : Nat × Nat := bif Nat.beq r 0 then (6, 64) else bif Nat.beq r 1 then (6, 40) else bif Nat.beq r 2 then (6, 8) else bif Nat.beq r 3 then (6, 16) else bif Nat.beq r 4 then (6, 3) else (6, 9)
def shpU (r : Nat) : Nat × Nat := bif Nat.blt r 10 then (bif Nat.beq (r % 2) 0 then (6, 8) else (6, 16)) else shpT (r - 10)
def shpL (j : Nat) : Nat × Nat := bif Nat.blt j 6 then shpT j else bif Nat.beq j 6 then (6, 8) else bif Nat.beq j 7 then (6, 16) else bif Nat.blt j 14 then shpT (j - 8) else shpU ((j - 14) % 16)
def shp (a : Nat) : Nat × Nat :=
  bif Nat.blt a 242 then (bif Nat.beq a 0 then (3, 6) else bif Nat.beq a 61 then (8, 6) else bif Nat.blt a 61 then shpM ((a - 1) % 30) else shpM ((a - 62) % 30))
  else bif Nat.beq a 242 then (2, 2) else bif Nat.beq a 243 then (5, 120) else bif Nat.beq a 244 then (6, 3) else bif Nat.blt a 387 then shpL (a - 245) else (99, 0)
/-- the guards -/
def gO (μ : Mem) (a ci : Nat) : Bool := Nat.blt a (mN μ) && Nat.beq (shp a).1 ci
def gA (μ : Mem) (a kd : Nat) (i : Int32) : Bool := Nat.blt a (mN μ) && (Nat.beq (shp a).1 kd && decide (0 ≤ i.toInt ∧ i.toInt < ((shp a).2 : Int)))
def gR (r : Option Nat) : Bool := r.isSome
def vR (r : Option Nat) : Value := .ref (r.getD 0)
def gN32 (r : UInt32) : Bool := decide (r &&& 0x7fffffff ≤ 0x7f800000)
def gN64 (r : UInt64) : Bool := decide (r &&& 0x7fffffffffffffff ≤ 0x7ff0000000000000)
/-- what a method of a small type may answer -/
def gZ (t : Nat) (x : Int32) : Bool := match t with | 0 => true | 1 => decide (x = 0 ∨ x = 1) | _ => decide (0 ≤ x ∧ x ≤ 65535)
def SCR : Nat := 1000000
abbrev Go : Type := Nat × List Value × List Value × Mem
/-- go on; a test and where it goes; a switch; an end; a throw; a call (callee, its locals, where it goes on) -/
abbrev Res : Type := Option (Bool × (Go ⊕ (Bool × Nat × Go) ⊕ (Int32 × List Nat × Go) ⊕ Option Value ⊕ Nat ⊕ (Nat × List Value × Go)))
def go (n : Nat) (L st : List Value) (μ : Mem) : Res := some (true, .inl (n, L, st, μ))
def gg (g : Bool) (n : Nat) (L st : List Value) (μ : Mem) : Res := some (g, .inl (n, L, st, μ))
def br (b : Bool) (t n : Nat) (L st : List Value) (μ : Mem) : Res := some (true, .inr (.inl (b, t, n, L, st, μ)))
def nl2 (v : Value) : Value := match v with | .long _ => .null | .double _ => .null | w => w
def st1 (L : List Value) (i : Nat) (v : Value) : List Value := match i with | 0 => L.set 0 v | j + 1 => (L.modify j nl2).set (j + 1) v
def st2 (L : List Value) (i : Nat) (v : Value) : List Value := (st1 L i v).set (i + 1) .null
def vtag (v : Value) : Nat := match v with | .int _ => 0 | .long _ => 1 | .float _ => 2 | .double _ => 3 | .ref _ => 4 | _ => 9
def sLd (t i n : Nat) (L st : List Value) (μ : Mem) : Res := match L[i]? with | some v => bif Nat.beq (vtag v) t then go n L (v :: st) μ else none | none => none
def sS1 (t i n : Nat) (L st : List Value) (μ : Mem) : Res := match st with | v :: r => bif Nat.beq (vtag v) t then go n (st1 L i v) r μ else none | [] => none
def sS2 (t i n : Nat) (L st : List Value) (μ : Mem) : Res := match st with | v :: r => bif Nat.beq (vtag v) t then go n (st2 L i v) r μ else none | [] => none
def icB (c : Jvm.ClassFile.Cond) (x y : Int32) : Bool := match c with | .eq => decide (x = y) | .ne => decide (¬ x = y) | .lt => decide (x < y) | .ge => decide (y ≤ x) | .gt => decide (y < x) | .le => decide (x ≤ y)
def ii1 (f : Int32 → Int32) (n : Nat) (L st : List Value) (μ : Mem) : Res := match st with | .int x :: r => go n L (.int (f x) :: r) μ | _ => none
def ii2 (f : Int32 → Int32 → Int32) (n : Nat) (L st : List Value) (μ : Mem) : Res := match st with | .int y :: .int x :: r => go n L (.int (f x y) :: r) μ | _ => none
def ll2 (f : Int64 → Int64 → Int64) (n : Nat) (L st : List Value) (μ : Mem) : Res := match st with | .long y :: .long x :: r => go n L (.long (f x y) :: r) μ | _ => none
def ff2 (f : UInt32 → UInt32 → UInt32) (n : Nat) (L st : List Value) (μ : Mem) : Res := match st with | .float y :: .float x :: r => gg (gN32 (f x y)) n L (.float (f x y) :: r) μ | _ => none
def dd2 (f : UInt64 → UInt64 → UInt64) (n : Nat) (L st : List Value) (μ : Mem) : Res := match st with | .double y :: .double x :: r => gg (gN64 (f x y)) n L (.double (f x y) :: r) μ | _ => none
def idx (i : Int32) : Nat := i.toNatClampNeg
def catL : List Value → Nat | [] => 0 | v :: r => v.category + catL r
def pad (as : List Value) (n : Nat) : List Value := as ++ List.replicate (n - as.length) .null
/-- arguments as locals: a wide one takes two places -/
def argL : List Value → List Value | [] => [] | .long x :: r => .long x :: .null :: argL r | .double x :: r => .double x :: .null :: argL r | v :: r => v :: argL r
/-- what is plain of a call: enough operands, few others, the arguments fit -/
def gC (na : Nat) (st args : List Value) (ml : Nat) (r : List Value) : Bool := Nat.ble (catL r) 8 && (Nat.ble (argL args).length ml && Nat.ble na st.length)
def cl (g gd : Bool) (y : Nat) (args : List Value) (ml n : Nat) (L r : List Value) (μ : Mem) : Res := bif gd then some (g, .inr (.inr (.inr (.inr (.inr (y, pad (argL args) ml, n, L, r, μ)))))) else none
def g8 (r : List Value) (g : Bool) (n : Nat) (L st : List Value) (μ : Mem) : Res := bif Nat.ble (catL r) 8 then gg g n L st μ else none
def sCall (aux : List Nat) (n : Nat) (L st : List Value) (μ : Mem) : Res := match aux with
  | 0 :: y :: na :: _ :: ci :: ml :: _ => match st.drop na with
    | .ref a :: r => cl (gO μ a ci) (gC na st (.ref a :: (st.take na).reverse) ml r) y (.ref a :: (st.take na).reverse) ml n L r μ
    | _ => none
  | 1 :: y :: na :: _ :: _ :: ml :: _ => cl true (gC na st (st.take na).reverse ml (st.drop na)) y (st.take na).reverse ml n L (st.drop na) μ
  | 2 :: y :: na :: _ :: ci :: ml :: _ => match st.drop na with
    | .ref a :: r => cl (gO μ a ci) (gC na st (.ref a :: (st.take na).reverse) ml r) y (.ref a :: (st.take na).reverse) ml n L r μ
    | _ => none
  | 3 :: _ => match st with
    | .ref a :: r => g8 r (Nat.blt a (mN μ)) n L r μ
    | _ => none
  | 4 :: y :: na :: _ :: ci :: ml :: _ => match st.drop na with
    | .ref a :: r => cl (gO μ a ci) (gC na st (.ref a :: (st.take na).reverse) ml r) y (.ref a :: (st.take na).reverse) ml n L r μ
    | _ => none
  | 5 :: _ => match st with
    | .int k :: .int dp :: .ref a :: .int sp :: .ref a0 :: r => g8 r (Nat.ble 245 (mN μ) && (gO μ a 6 && (gO μ a0 6 && decide (0 ≤ sp.toInt ∧ 0 ≤ dp.toInt ∧ 0 ≤ k.toInt ∧ sp.toInt + k.toInt ≤ ((shp a0).2 : Int) ∧ dp.toInt + k.toInt ≤ ((shp a).2 : Int))))) n L r (cpyM μ a0 (idx sp) a (idx dp) (idx k))
    | _ => none
  | 6 :: _ => match st with | .int x :: r => g8 r (decide (vn_sni2f x = false)) n L (.float x.toUInt32 :: r) μ | _ => none
  | 7 :: _ => match st with | .float x :: r => g8 r true n L (.int x.toInt32 :: r) μ | _ => none
  | 8 :: _ => match st with | .double x :: r => g8 r true n L (.long x.toInt64 :: r) μ | _ => none
  | _ => none
def sGet (aux : List Nat) (n : Nat) (L st : List Value) (μ : Mem) : Res := match aux, st with
  | ci :: k :: 0 :: _, .ref a :: r => gg (gO μ a ci) n L (.int (mI μ a k) :: r) μ
  | ci :: k :: 1 :: _, .ref a :: r => gg (gO μ a ci && gR (mR μ a k)) n L (vR (mR μ a k) :: r) μ
  | ci :: k :: 2 :: _, .ref a :: r => gg (gO μ a ci) n L (.long (mL μ a k) :: r) μ
  | _, _ => none
def sPut (aux : List Nat) (n : Nat) (L st : List Value) (μ : Mem) : Res := match aux, st with
  | ci :: k :: 0 :: _, .int x :: .ref a :: r => gg (gO μ a ci) n L r (setI μ a k x)
  | ci :: k :: 1 :: _, .ref x :: .ref a :: r => gg (gO μ a ci) n L r (setR μ a k x)
  | ci :: k :: 2 :: _, .long x :: .ref a :: r => gg (gO μ a ci) n L r (setL μ a k x)
  | _, _ => none
/-- one instruction; n: where the next one lies; xs: the script, with its length -/
def stp (xs : Nat × (Nat → Int32)) (ins : Instr) (n : Nat) (aux : List Nat) (L st : List Value) (μ : Mem) : Res := match ins with
  | .iload_n k => sLd 0 k n L st μ
  | .iload k => sLd 0 k n L st μ
  | .lload_n k => sLd 1 k n L st μ
  | .fload_n k => sLd 2 k n L st μ
  | .fload k => sLd 2 k n L st μ
  | .dload_n k => sLd 3 k n L st μ
  | .dload k => sLd 3 k n L st μ
  | .aload_n k => sLd 4 k n L st μ
  | .aload k => sLd 4 k n L st μ
  | .istore_n k => sS1 0 k n L st μ
  | .istore k => sS1 0 k n L st μ
  | .fstore_n k => sS1 2 k n L st μ
  | .fstore k => sS1 2 k n L st μ
  | .astore_n k => sS1 4 k n L st μ
  | .astore k => sS1 4 k n L st μ
  | .lstore_n k => sS2 1 k n L st μ
  | .dstore_n k => sS2 3 k n L st μ
  | .dstore k => sS2 3 k n L st μ
  | .iinc k d => match L[k]? with | some (.int x) => go n (st1 L k (.int (x + Int32.ofInt d))) st μ | _ => none
  | .iconst k => go n L (.int (Int32.ofInt k) :: st) μ
  | .bipush k => go n L (.int (Int8.ofInt k).toInt32 :: st) μ
  | .sipush k => go n L (.int (Int16.ofInt k).toInt32 :: st) μ
  | .lconst k => go n L (.long (Int64.ofNat (k : Nat)) :: st) μ
  | .fconst k => go n L (.float (match k with | 0 => FP.fconst0 | 1 => FP.fconst1 | _ => FP.fconst2) :: st) μ
  | .dconst k => go n L (.double (match k with | 0 => FP.dconst0 | _ => FP.dconst1) :: st) μ
  | .ldc _ => match aux with | 0 :: v :: _ :: _ => go n L (.int (Int32.ofNat v) :: st) μ | 1 :: v :: _ :: _ => go n L (.float (UInt32.ofNat v) :: st) μ | _ => none
  | .ldc2_w _ => match aux with | 2 :: v :: _ => go n L (.long (Int64.ofNat v) :: st) μ | 3 :: v :: _ => go n L (.double (UInt64.ofNat v) :: st) μ | _ => none
  | .iadd => ii2 (fun x y => x + y) n L st μ
  | .isub => ii2 (fun x y => x - y) n L st μ
  | .imul => ii2 (fun x y => x * y) n L st μ
  | .iand => ii2 (fun x y => x &&& y) n L st μ
  | .ior => ii2 (fun x y => x ||| y) n L st μ
  | .ixor => ii2 (fun x y => x ^^^ y) n L st μ
  | .ishl => ii2 (fun x y => x <<< (y &&& 31)) n L st μ
  | .ishr => ii2 (fun x y => x >>> (y &&& 31)) n L st μ
  | .iushr => ii2 (fun x y => (x.toUInt32 >>> (y.toUInt32 &&& Int32.toUInt32 31)).toInt32) n L st μ
  | .ineg => ii1 (fun x => -x) n L st μ
  | .i2c => ii1 (fun x => (x.toUInt32 % 65536).toInt32) n L st μ
  | .idiv => match st with | .int y :: .int x :: r => gg (decide (¬ y = 0)) n L (.int (x / y) :: r) μ | _ => none
  | .irem => match st with | .int y :: .int x :: r => gg (decide (¬ y = 0)) n L (.int (x - x / y * y) :: r) μ | _ => none
  | .ladd => ll2 (fun x y => x + y) n L st μ
  | .lmul => ll2 (fun x y => x * y) n L st μ
  | .land => ll2 (fun x y => x &&& y) n L st μ
  | .lor => ll2 (fun x y => x ||| y) n L st μ
  | .lshl => match st with | .int y :: .long x :: r => go n L (.long (x <<< (y.toInt64 &&& 63)) :: r) μ | _ => none
  | .lcmp => match st with | .long y :: .long x :: r => go n L (.int (lg_cmp x y) :: r) μ | _ => none
  | .i2l => match st with | .int x :: r => go n L (.long x.toInt64 :: r) μ | _ => none
  | .l2i => match st with | .long x :: r => go n L (.int x.toInt32 :: r) μ | _ => none
  | .i2d => match st with | .int x :: r => go n L (.double (FP.i2d x) :: r) μ | _ => none
  | .i2f => match st with | .int x :: r => go n L (.float (FP.i2f x) :: r) μ | _ => none
  | .f2i => match st with | .float x :: r => go n L (.int (FP.f2i x) :: r) μ | _ => none
  | .d2i => match st with | .double x :: r => go n L (.int (FP.d2i x) :: r) μ | _ => none
  | .d2l => match st with | .double x :: r => go n L (.long (FP.d2l x) :: r) μ | _ => none
  | .f2d => match st with | .float x :: r => gg (gN64 (FP.f2d x)) n L (.double (FP.f2d x) :: r) μ | _ => none
  | .d2f => match st with | .double x :: r => gg (gN32 (FP.d2f x)) n L (.float (FP.d2f x) :: r) μ | _ => none
  | .fneg => match st with | .float x :: r => go n L (.float (FP.fneg x) :: r) μ | _ => none
  | .fadd => ff2 FP.fadd n L st μ
  | .fmul => ff2 FP.fmul n L st μ
  | .fdiv => ff2 FP.fdiv n L st μ
  | .dmul => dd2 FP.dmul n L st μ
  | .ddiv => dd2 FP.ddiv n L st μ
  | .fcmp op => match st with | .float y :: .float x :: r => go n L (.int (Op.cmpValue (FP.fcmp x y) op) :: r) μ | _ => none
  | .dcmp op => match st with | .double y :: .double x :: r => go n L (.int (Op.cmpValue (FP.dcmp x y) op) :: r) μ | _ => none
  | .dup => match st with | .int x :: r => go n L (.int x :: .int x :: r) μ | .ref x :: r => go n L (.ref x :: .ref x :: r) μ | _ => none
  | .dup2 => match st with | .int x :: .ref y :: r => go n L (.int x :: .ref y :: .int x :: .ref y :: r) μ | .long x :: r => go n L (.long x :: .long x :: r) μ | _ => none
  | .pop => match st with | .int _ :: r => go n L r μ | .ref _ :: r => go n L r μ | _ => none
  | .ifCond c _ => match st with | .int x :: r => br (icB c x 0) (aux.getD 0 0) n L r μ | _ => none
  | .if_icmp c _ => match st with | .int y :: .int x :: r => br (icB c x y) (aux.getD 0 0) n L r μ | _ => none
  | .goto _ => go (aux.getD 0 0) L st μ
  | .tableswitch _ _ _ _ => match st with | .int x :: r => some (true, .inr (.inr (.inl (x, aux.tail, aux.getD 0 0, L, r, μ)))) | _ => none
  | .lookupswitch _ _ => match st with | .int x :: r => some (true, .inr (.inr (.inl (x, aux.tail, aux.getD 0 0, L, r, μ)))) | _ => none
  | .getfield _ => sGet aux n L st μ
  | .putfield _ => sPut aux n L st μ
  | .arraylength => match aux, st with
    | 1 :: _, .ref a :: r => gg (Nat.beq a SCR) n L (.int (Int32.ofNat xs.1) :: r) μ
    | [], .ref a :: r => gg (Nat.blt a (mN μ) && (Nat.ble 5 (shp a).1 && Nat.ble (shp a).1 9)) n L (.int (Int32.ofNat (shp a).2) :: r) μ
    | _, _ => none
  | .iaload => match aux, st with
    | 1 :: _, .int i :: .ref a :: r => gg (Nat.beq a SCR && decide (0 ≤ i.toInt ∧ i.toInt < (xs.1 : Int))) n L (.int (xs.2 (idx i)) :: r) μ
    | [], .int i :: .ref a :: r => gg (gA μ a 6 i) n L (.int (mI μ a (idx i)) :: r) μ
    | _, _ => none
  | .caload => match st with | .int i :: .ref a :: r => gg (gA μ a 5 i) n L (.int (mI μ a (idx i)) :: r) μ | _ => none
  | .laload => match st with | .int i :: .ref a :: r => gg (gA μ a 9 i) n L (.long (mL μ a (idx i)) :: r) μ | _ => none
  | .aaload => match st with | .int i :: .ref a :: r => gg ((gA μ a 7 i || gA μ a 8 i) && gR (mR μ a (idx i))) n L (vR (mR μ a (idx i)) :: r) μ | _ => none
  | .iastore => match st with | .int x :: .int i :: .ref a :: r => gg (gA μ a 6 i) n L r (setI μ a (idx i) x) | _ => none
  | .castore => match st with | .int x :: .int i :: .ref a :: r => gg (gA μ a 5 i) n L r (setI μ a (idx i) (vp_nar .char x)) | _ => none
  | .lastore => match st with | .long x :: .int i :: .ref a :: r => gg (gA μ a 9 i) n L r (setL μ a (idx i) x) | _ => none
  | .aastore => match st with | .ref x :: .int i :: .ref a :: r => gg ((gA μ a 7 i && gO μ x 0) || (gA μ a 8 i && gO μ x 1)) n L r (setR μ a (idx i) x) | _ => none
  | .newarray _ => match st with | .int k :: r => gg (Nat.blt (mN μ) NN && (Nat.beq (mX μ) 0 && (Nat.beq (shp (mN μ)).1 (aux.getD 0 0) && decide (k = Int32.ofNat (shp (mN μ)).2)))) n L (.ref (mN μ) :: r) (newM μ) | _ => none
  | .anewarray _ => match st with | .int k :: r => gg (Nat.blt (mN μ) NN && (Nat.beq (mX μ) 0 && (Nat.beq (shp (mN μ)).1 (aux.getD 0 0) && decide (k = Int32.ofNat (shp (mN μ)).2)))) n L (.ref (mN μ) :: r) (newM μ) | _ => none
  | .new _ => match aux with
    | 9 :: E :: _ => bif Nat.ble (catL st) 8 then some (Nat.ble 245 (mN μ), .inr (.inr (.inr (.inr (.inl E))))) else none
    | ci :: _ => gg (Nat.blt (mN μ) NN && (Nat.beq (mX μ) 0 && Nat.beq (shp (mN μ)).1 ci)) n L (.ref (mN μ) :: st) (newM μ)
    | _ => none
  | .invokevirtual _ => sCall aux n L st μ
  | .invokestatic _ => sCall aux n L st μ
  | .invokespecial _ => sCall aux n L st μ
  | .ireturn => match aux, st with | t :: _, [.int x] => some (gZ t x, .inr (.inr (.inr (.inl (some (.int x)))))) | _, _ => none
  | .lreturn => match st with | [.long x] => some (true, .inr (.inr (.inr (.inl (some (.long x)))))) | _ => none
  | .freturn => match st with | [.float x] => some (true, .inr (.inr (.inr (.inl (some (.float x)))))) | _ => none
  | .dreturn => match st with | [.double x] => some (true, .inr (.inr (.inr (.inl (some (.double x)))))) | _ => none
  | .areturn => match st with | [.ref x] => some (true, .inr (.inr (.inr (.inl (some (.ref x)))))) | _ => none
  | .return_ => match st with | [] => some (true, .inr (.inr (.inr (.inl none)))) | _ => none
  | _ => none
def step (xs : Nat × (Nat → Int32)) (m pc : Nat) (L st : List Value) (μ : Mem) : Res := match I m pc with
  | none => none
  | some e => stp xs e.1 (pc + e.2.1) e.2.2 L st μ
/-- where a switch goes -/
def swt (x : Int32) (d : Nat) : List Nat → Nat
  | k :: t :: r => bif decide (x = Int32.ofNat k) then t else swt x d r
  | _ => d
