/-! floats by their bits: what both sides compute -/
/-- a float from -1000000.0f to 1000000.0f -/
def InR (p : Int32) : Prop := icB .gt (p &&& nI 2147483647) (nI 1232348160) = false
def cellF (p : Int32) (o : Nat) : Nat := (((FP.f2i p.toUInt32).toInt + o) % 16).toNat
theorem cellF_lt (p : Int32) (o : Nat) : cellF p o < 16 := by unfold cellF; omega
def limF (v : UInt32) : UInt32 := if icB .gt (Op.cmpValue (FP.fcmp v (UInt32.ofNat 1232348160)) .l) (nI 0) = true then UInt32.ofNat 1232348160 else if icB .lt (Op.cmpValue (FP.fcmp v (UInt32.ofNat 3379831808)) .g) (nI 0) = true then UInt32.ofNat 3379831808 else v
def rawF (k p q : Int32) : UInt32 := if k = nI 1 then FP.fadd p.toUInt32 q.toUInt32 else FP.fmul p.toUInt32 q.toUInt32
def resF (k p q : Int32) : Int32 := (limF (rawF k p q)).toInt32
def setF (n : Int32) : Int32 := (FP.fdiv (FP.i2f n) (UInt32.ofNat 1082130432)).toInt32
def SetOk (n : Int32) : Prop := -99 ≤ n.toInt ∧ n.toInt ≤ 99
theorem resF_InR {k p q : Int32} (hp : InR p) (hq : InR q) : InR (resF k p q) := by sorry
theorem setF_InR {n : Int32} (hn : SetOk n) : InR (setF n) := by sorry
theorem InR_0 : InR (nI 0) := by unfold InR; decide
theorem e_cellOf {xs : Scr} {μ : Mem} {Q : Post} {p : Int32} {o : Nat} (hp : InR p) (ho : o < 10) : Ev xs 123 0 [.int p, .int (nI o), .null] [] μ Q ↔ Q (.inl (some (.int (nI (cellF p o))))) μ := by sorry
theorem e_result {xs : Scr} {μ : Mem} {Q : Post} {k p q : Int32} (hp : InR p) (hq : InR q) : Ev xs 124 0 [.int k, .int p, .int q, .null, .null, .null] [] μ Q ↔ Q (.inl (some (.int (resF k p q)))) μ := by sorry
theorem e_setTo {xs : Scr} {μ : Mem} {Q : Post} {n : Int32} (hn : SetOk n) : Ev xs 125 0 [.int n] [] μ Q ↔ Q (.inl (some (.int (setF n)))) μ := by sorry
theorem e_isValue {xs : Scr} {μ : Mem} {Q : Post} {p : Int32} : Ev xs 113 0 [.int p, .null] [] μ Q ↔ Q (.inl (some (.int (bI (!icB .gt (p &&& nI 2147483647) (nI 1232348160)))))) μ := by sorry
theorem e_isInRange {xs : Scr} {μ : Mem} {Q : Post} {p : Int32} : Ev xs 0 0 [.int p] [] μ Q ↔ Q (.inl (some (.int (bI (!icB .gt (p &&& nI 2147483647) (nI 1232348160)))))) μ := by
  apply Ev.dt; intro Q h; apply w_X0_isInRange_0
  cases hb : icB .gt (p &&& nI 2147483647) (nI 1232348160) <;> rw [hb] at h <;> exact h
theorem e_placeOf {xs : Scr} {μ : Mem} {Q : Post} {p : Int32} {o : Nat} (hp : InR p) (ho : o < 10) : Ev xs 42 0 [.int p, .int (nI o)] [] μ Q ↔ Q (.inl (some (.int (nI (cellF p o))))) μ := by sorry
theorem e_floatsResult {xs : Scr} {μ : Mem} {Q : Post} {k p q : Int32} (n : Int32) (hk : k = nI 1 ∨ k = nI 2) (hp : InR p) (hq : InR q) : Ev xs 3 0 [.int k, .int p, .int q, .int n] [] μ Q ↔ Q (.inl (some (.int (resF k p q)))) μ := by sorry
theorem e_floatsSet {xs : Scr} {μ : Mem} {Q : Post} {k p q n : Int32} (hk : k = nI 0) (hn : SetOk n) : Ev xs 3 0 [.int k, .int p, .int q, .int n] [] μ Q ↔ Q (.inl (some (.int (setF n)))) μ := by sorry
