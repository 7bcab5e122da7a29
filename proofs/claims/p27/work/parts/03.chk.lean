/-- what a field of an object holds: 0 an int, 1 a reference, 2 a long -/
def fty (ci k : Nat) : Nat := bif Nat.beq ci 0 then 0 else bif Nat.beq ci 1 then (bif Nat.blt k 5 then 1 else 0) else bif Nat.beq ci 2 then (bif Nat.beq k 0 then 1 else 0) else bif Nat.beq ci 3 then (bif Nat.blt k 5 then 1 else 0) else (bif Nat.blt k 11 then 1 else bif Nat.beq k 19 then 2 else 0)
/-- all words that a method may use -/
def lw_all : List Jvm.Cond := lw_tbl.filter goodWord
theorem lw_all_tbl {w : Jvm.Cond} (h : w ∈ lw_all) : w ∈ lw_tbl := (List.mem_filter.mp h).1
def gw (i : Nat) (w : Jvm.Cond) : Bool := decide (lw_tbl[i]? = some w) && goodWord w
theorem gw_in {i : Nat} {w : Jvm.Cond} (h : gw i w = true) : w ∈ lw_all := by
  unfold gw at h
  rw [Bool.and_eq_true, decide_eq_true_eq] at h
  exact List.mem_filter.mpr ⟨List.mem_of_getElem? h.1, h.2⟩
/-- a class of ours by its number -/
def clsOf (ci : Nat) : vw_C := vwCl.getD ci ("", fun _ => ("", "", "", false), 0)
def kty (k : Nat) : FieldType := match k with | 5 => .char | 6 => .int | 7 => .object RX1 | 8 => .object RX2 | _ => .long
def excN (E : Nat) : String := match E with | 1 => "java/lang/IndexOutOfBoundsException" | 2 => "java/lang/IllegalArgumentException" | _ => "java/lang/IllegalStateException"
def excP : List String := ["java/lang/RuntimeException", "java/lang/Exception"]
def objI : MethodName := ⟨"java/lang/Object", "<init>", "()V"⟩
def natN (k : Nat) : MethodName := match k with | 5 => ⟨"java/lang/System", "arraycopy", "(Ljava/lang/Object;ILjava/lang/Object;II)V"⟩ | 6 => ⟨"java/lang/Float", "intBitsToFloat", "(I)F"⟩ | 7 => ⟨"java/lang/Float", "floatToRawIntBits", "(F)I"⟩ | _ => ⟨"java/lang/Double", "doubleToRawLongBits", "(D)J"⟩
def hasW (w : Jvm.Cond) : Bool := decide (w ∈ lw_tbl) && goodWord w
def ownM (m : Nat) : String := (yM m).cls
/-- words that a world carries by itself -/
def nestW : List Jvm.Cond := [.methodLinkNest RX2 17 yX1_init "AlibiWindow", .methodLinkNest RX4 25 yX3_init "AlibiWindow", .arrayOver (.object RX1), .arrayOver (.object RX2)]
def nw (w : Jvm.Cond) : Bool := decide (w ∈ nestW)
/-- what a call needs of the tables, by its kind -/
def chkCall (m pc idx : Nat) (aux : List Nat) : Bool := match aux with
  | kd :: y :: na :: wl :: rest => match kd with
    | 3 => gw wl (.methodLink (ownM m) idx objI) && Nat.ble 1 (fM m)
    | 5 => gw wl (.methodLink (ownM m) idx (natN 5)) && Nat.ble 1 (fM m)
    | 6 => gw wl (.methodLink (ownM m) idx (natN 6)) && Nat.ble 1 (fM m)
    | 7 => gw wl (.methodLink (ownM m) idx (natN 7)) && Nat.ble 1 (fM m)
    | 8 => gw wl (.methodLink (ownM m) idx (natN 8)) && Nat.ble 1 (fM m)
    | 4 => nw (.methodLinkNest (ownM m) idx (yM y) "AlibiWindow") && (decide (xM y = rest.getD 1 0) && (decide ((parseMethodDescriptor (yM y).desc).map (fun d => d.parameters.length) = some na) && (Nat.blt (fM y) (fM m) && (Nat.blt y 209 && (Nat.beq (wM y 4) 2 && (decide ((clsOf (rest.getD 0 0)).1 = (yM y).cls) && Nat.blt (rest.getD 0 9) 4))))))
    | 2 => gw wl (.methodLink (ownM m) idx (yM y)) && (decide (xM y = rest.getD 1 0) && (decide ((parseMethodDescriptor (yM y).desc).map (fun d => d.parameters.length) = some na) && (Nat.blt (fM y) (fM m) && (Nat.blt y 209 && (Nat.beq (wM y 4) 2 && (decide ((clsOf (rest.getD 0 0)).1 = (yM y).cls) && Nat.blt (rest.getD 0 9) 4))))))
    | 0 => gw wl (.methodLink (ownM m) idx (yM y)) && (decide (xM y = rest.getD 1 0) && (decide ((parseMethodDescriptor (yM y).desc).map (fun d => d.parameters.length) = some na) && (Nat.blt (fM y) (fM m) && (Nat.blt y 209 && (Nat.beq (wM y 4) 0 && (decide ((clsOf (rest.getD 0 0)).1 = (yM y).cls) && Nat.blt (rest.getD 0 9) 4))))))
    | 1 => gw wl (.methodLink (ownM m) idx (yM y)) && (decide (xM y = rest.getD 1 0) && (decide ((parseMethodDescriptor (yM y).desc).map (fun d => d.parameters.length) = some na) && (Nat.blt (fM y) (fM m) && (Nat.blt y 209 && Nat.beq (wM y 4) 1))))
    | _ => false
  | _ => false
def tabOk (pc : Nat) : Int → List Int → List Nat → Bool
  | _, [], [] => true
  | i, o :: os, k :: t :: r => decide ((k : Int) = i) && (decide ((pc : Int) + o = (t : Int)) && tabOk pc (i + 1) os r)
  | _, _, _ => false
def lookOk (pc : Nat) : List (Int × Int) → List Nat → Bool
  | [], [] => true
  | q :: os, k :: t :: r => decide ((k : Int) = q.1) && (decide ((pc : Int) + q.2 = (t : Int)) && lookOk pc os r)
  | _, _ => false
/-- what 'throw new E(text)' needs -/
def chkThrow (m pc idx E wl si ii ws : Nat) : Bool := gw wl (.classLink (ownM m) idx (excN E)) && Nat.ble 6 (fM m) && Nat.blt 0 E && Nat.blt E 4 && Nat.blt m 209 && (hM m).isEmpty && decide (decode (cM m) (pc + 3) = .ok (.dup, 1)) && decide (decode (cM m) (pc + 4) = .ok (.ldc si, 2)) && decide (decode (cM m) (pc + 6) = .ok (.invokespecial ii, 3)) && decide (decode (cM m) (pc + 9) = .ok (.athrow, 1)) && decide (ownM m = RX4) && Nat.beq ii (match E with | 1 => 186 | 2 => 46 | _ => 81) && (match lw_tbl[ws]? with | some (.stringRef o k _) => decide (o = ownM m) && decide (k = si) | _ => false)
def chk (m pc len : Nat) (ins : Instr) (aux : List Nat) : Bool := match ins with
  | .istore_n k => Nat.beq len 1 && Nat.blt k (xM m)
  | .fstore_n k => Nat.beq len 1 && Nat.blt k (xM m)
  | .astore_n k => Nat.beq len 1 && Nat.blt k (xM m)
  | .lstore_n k => Nat.beq len 1 && Nat.blt (k + 1) (xM m)
  | .dstore_n k => Nat.beq len 1 && Nat.blt (k + 1) (xM m)
  | .istore k => Nat.beq len 2 && Nat.blt k (xM m)
  | .fstore k => Nat.beq len 2 && Nat.blt k (xM m)
  | .astore k => Nat.beq len 2 && Nat.blt k (xM m)
  | .dstore k => Nat.beq len 2 && Nat.blt (k + 1) (xM m)
  | .iinc k _ => Nat.beq len 3 && Nat.blt k (xM m)
  | .iload _ => Nat.beq len 2
  | .fload _ => Nat.beq len 2
  | .dload _ => Nat.beq len 2
  | .aload _ => Nat.beq len 2
  | .bipush _ => Nat.beq len 2
  | .sipush _ => Nat.beq len 3
  | .ldc idx => Nat.beq len 2 && (match aux with | 0 :: v :: wl :: _ => gw wl (.constant (ownM m) idx (Int32.ofNat v)) | 1 :: v :: wl :: _ => gw wl (.constantFloat (ownM m) idx (UInt32.ofNat v)) | _ => true)
  | .ldc2_w idx => Nat.beq len 3 && (match aux with | 2 :: v :: wl :: _ => gw wl (.constantLong (ownM m) idx (Int64.ofNat v)) | 3 :: v :: wl :: _ => gw wl (.constantDouble (ownM m) idx (UInt64.ofNat v)) | _ => false)
  | .ifCond _ off => Nat.beq len 3 && decide ((pc : Int) + off = ((aux.getD 0 0 : Nat) : Int))
  | .if_icmp _ off => Nat.beq len 3 && decide ((pc : Int) + off = ((aux.getD 0 0 : Nat) : Int))
  | .goto off => Nat.beq len 3 && decide ((pc : Int) + off = ((aux.getD 0 0 : Nat) : Int))
  | .tableswitch d lo hi offs => decide ((pc : Int) + d = ((aux.getD 0 0 : Nat) : Int)) && (decide (0 ≤ lo) && (decide (hi < 2147483648) && (decide ((offs.toList.length : Int) = hi - lo + 1) && tabOk pc lo offs.toList aux.tail)))
  | .lookupswitch d ps => decide ((pc : Int) + d = ((aux.getD 0 0 : Nat) : Int)) && ((ps.toList.zip (ps.toList.drop 1)).all (fun (a, next) => a.1 < next.1) && (ps.toList.all (fun q => decide (0 ≤ q.1 ∧ q.1 < 2147483648)) && lookOk pc ps.toList aux.tail))
  | .getfield idx => Nat.beq len 3 && (match aux with
    | ci :: k :: tag :: wl :: _ => Nat.blt ci 4 && (Nat.blt k (clsOf ci).2.2 && (Nat.beq tag (fty ci k) && gw wl (.fieldLink (ownM m) idx ((clsOf ci).2.1 k).1 ((clsOf ci).2.1 k).2.1 ((clsOf ci).2.1 k).2.2.1)))
    | _ => false)
  | .putfield idx => Nat.beq len 3 && (match aux with
    | ci :: k :: tag :: wl :: _ => Nat.blt ci 4 && (Nat.blt k (clsOf ci).2.2 && (Nat.beq tag (fty ci k) && (gw wl (.fieldLink (ownM m) idx ((clsOf ci).2.1 k).1 ((clsOf ci).2.1 k).2.1 ((clsOf ci).2.1 k).2.2.1) && (match ((clsOf ci).2.1 k).2.2.2 with | true => decide ((yM m).name = "<init>") && decide (((clsOf ci).2.1 k).1 = ownM m) | false => true))))
    | _ => false)
  | .arraylength => Nat.beq len 1 && (match aux with | [] => true | 1 :: _ => Nat.beq m 101 | _ => false)
  | .iaload => Nat.beq len 1 && (match aux with | [] => true | 1 :: _ => Nat.beq m 101 | _ => false)
  | .newarray ty => Nat.beq len 2 && (match aux with | kd :: wl :: _ => gw wl (.arrayClass (newarray.typeOf ty)) && decide (newarray.typeOf ty = kty kd) && (Nat.beq kd 5 || Nat.beq kd 6 || Nat.beq kd 9) | _ => false)
  | .anewarray idx => Nat.beq len 3 && (match aux with | kd :: wl :: wo :: _ => (Nat.beq kd 7 || Nat.beq kd 8) && (gw wl (.classLink (ownM m) idx (match kd with | 7 => RX1 | _ => RX2)) && nw (.arrayOver (.object (match kd with | 7 => RX1 | _ => RX2)))) | _ => false)
  | .new idx => Nat.beq len 3 && (match aux with
    | 9 :: E :: wl :: si :: ii :: ws :: _ => chkThrow m pc idx E wl si ii ws
    | ci :: wl :: wi :: _ => Nat.blt ci 4 && (gw wl (.classLink (ownM m) idx (clsOf ci).1) && gw wi (.instantiable (clsOf ci).1 (clsOf ci).2.2))
    | _ => false)
  | .invokevirtual idx => Nat.beq len 3 && (Nat.beq (aux.getD 0 99) 0 && chkCall m pc idx aux)
  | .invokestatic idx => Nat.beq len 3 && ((Nat.beq (aux.getD 0 99) 1 || (Nat.ble 5 (aux.getD 0 99) && Nat.ble (aux.getD 0 99) 5)) && chkCall m pc idx aux)
  | .invokespecial idx => Nat.beq len 3 && (((match aux with | [] => true | _ => false) || (Nat.ble 2 (aux.getD 0 99) && Nat.ble (aux.getD 0 99) 4)) && (match aux with | [] => true | _ => chkCall m pc idx aux))
  | .ireturn => Nat.beq len 1 && (match aux with | 0 :: _ => decide (rM m = some .int) | 1 :: _ => decide (rM m = some .boolean) | 2 :: _ => decide (rM m = some .char) | _ => false)
  | .lreturn => Nat.beq len 1 && decide (rM m = some .long)
  | .freturn => Nat.beq len 1 && decide (rM m = some .float)
  | .dreturn => Nat.beq len 1 && decide (rM m = some .double)
  | .areturn => Nat.beq len 1 && decide (rM m = some (.object RX1))
  | .return_ => Nat.beq len 1 && decide (rM m = none)
  | _ => Nat.beq len 1
def okI (m pc : Nat) (e : IE) : Bool := decide (decode (cM m) pc = .ok (e.1, e.2.1)) && chk m pc e.2.1 e.1 e.2.2
def okP (m pc : Nat) : Bool := match I m pc with | some e => okI m pc e | none => true
def okM (m : Nat) : Bool := (List.range (J m).1).all (okP m)
/-- a method's own words -/
def okY (m : Nat) : Bool := plainFor (yM m) && ((match hM m with | [] => gw (wM m 0) (.code (yM m) (cM m) (xM m) (rM m)) | h :: r => gw (wM m 0) (.codeWith (yM m) (cM m) (xM m) (rM m) (h :: r))) && (gw (wM m 3) (.initialized (yM m).cls) && (match wM m 4 with
  | 0 => gw (wM m 1) (.instanceMethod (yM m)) && gw (wM m 2) (.selects (yM m).cls (yM m) (yM m))
  | 1 => gw (wM m 1) (.static (yM m))
  | _ => gw (wM m 1) (.instanceMethod (yM m)) && (decide ((yM m).name = "<init>") && decide (rM m = none))) && (decide ((yM m).cls ≠ "java/lang/invoke/MethodHandle") && (decide ((yM m).cls ≠ "java/lang/invoke/VarHandle") && Nat.ble (xM m) 21))))
