/-! the reference's machine, over its numbers -/
def mkP (z : Zt) (r : Int32) (k : Nat) : Bool := decide (¬ pt z k 0 = nI 4) && decide (pt z k 1 = r)
def mkr (z : Zt) (a i : Nat) (r : Int32) : Option Nat := lat (mkP z r) a i
def rdy (z : Zt) (a i : Nat) (r : Int32) : Bool := match mkr z a i r with | none => true | some k => decide (pt z k 7 = nI 2)
def vlO (z : Zt) (a i : Nat) (r : Int32) : Int32 := match mkr z a i r with | none => z (12 + idx r) | some k => pt z k 11
def hs1 (z : Zt) (i : Nat) : Bool := decide (¬ pt z i 0 = nI 0)
def hs2 (z : Zt) (i : Nat) : Bool := decide (¬ pt z i 0 = nI 0) && decide (¬ pt z i 0 = nI 3)
def opP (z : Zt) (k : Nat) : Bool := decide (pt z k 0 = nI 4) && decide (¬ pt z k 7 = nI 2)
def opn (z : Zt) (a i : Nat) : Bool := anyB (opP z) (i - a) a
def rsn (z : Zt) (a i : Nat) : Int32 :=
  if pt z i 7 = nI 0 then
    (if (hs1 z i && !rdy z a i (pt z i 2)) = true then nI 2
    else if (hs2 z i && !rdy z a i (pt z i 3)) = true then nI 3
    else if (decide (pt z i 0 = nI 3) && (!icB .le (pt z i 5) (nI 0) && opn z a i)) = true then nI 4 else nI 0)
  else nI 1
theorem mkr_lt {z : Zt} {a i k : Nat} {r : Int32} (h : mkr z a i r = some k) : k < i := (lat_some h).2.1
