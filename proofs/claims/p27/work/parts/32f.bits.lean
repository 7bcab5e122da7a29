/-! bits of ints and floats -/
theorem q_u32 {x y : Int32} (h : x.toUInt32.toNat = y.toUInt32.toNat) : x = y := by
  have e := UInt32.toNat.inj h
  rw [← Int32.toInt32_toUInt32 x, e, Int32.toInt32_toUInt32]
theorem q_nU {k : Nat} (h : k < 4294967296) : (nI k).toUInt32.toNat = k := by
  show (UInt32.ofNat k).toNat = k
  rw [UInt32.toNat_ofNat']; exact Nat.mod_eq_of_lt h
theorem q_mlt (a : UInt32) : magF a < 2147483648 := Nat.mod_lt _ (by decide)
theorem q_mag (p : Int32) : p &&& nI 2147483647 = nI (magF p.toUInt32) := by
  have hm := q_mlt p.toUInt32
  apply q_u32
  rw [Int32.toUInt32_and, UInt32.toNat_and, q_nU (by decide), q_nU (by omega), show (2147483647 : Nat) = 2 ^ 31 - 1 by decide, Nat.and_two_pow_sub_one_eq_mod]
  rfl
theorem q_frac (p : Int32) : p &&& nI 8388607 = nI (magF p.toUInt32 % 2 ^ 23) := by
  apply q_u32
  rw [Int32.toUInt32_and, UInt32.toNat_and, q_nU (by decide), q_nU (by omega), show (8388607 : Nat) = 2 ^ 23 - 1 by decide, Nat.and_two_pow_sub_one_eq_mod]
  unfold magF; omega
theorem q_exp {n : Nat} (h : n < 2147483648) : ((nI n).toUInt32 >>> ((nI 23).toUInt32 &&& Int32.toUInt32 31)).toInt32 = nI (n / 2 ^ 23) := by
  apply q_u32
  rw [UInt32.toUInt32_toInt32, UInt32.toNat_shiftRight, q_nU (by omega), q_nU (by omega), show ((nI 23).toUInt32 &&& Int32.toUInt32 31).toNat % 32 = 23 by decide, Nat.shiftRight_eq_div_pow]
theorem q_sg {p : Int32} : nI 0 ≤ p ↔ p.toUInt32.toNat < 2 ^ 31 := by
  rw [Int32.le_iff_toInt_le, show (nI 0).toInt = 0 by decide, ← Int32.toInt_toBitVec, BitVec.toInt_eq_toNat_cond]
  show _ ↔ p.toBitVec.toNat < 2 ^ 31
  have := p.toBitVec.isLt
  split <;> omega
/-! no NaNs -/
theorem q_nn64 {r : UInt64} (h : Jvm.FP.Core.val64 r ≠ .nan) : gN64 r = true := by
  unfold gN64
  refine decide_eq_true (UInt64.le_iff_toNat_le.mpr ?_)
  have e : (0x7ff0000000000000 : UInt64).toNat = 9218868437227405312 := by decide
  rw [Jvm.FP.Core.mask_toNat, e]
  exact (Jvm.FP.Core.ne_nan r).mp h
theorem q_nn32 {r : UInt32} (h : Jvm.FP.Core.val32 r ≠ .nan) : gN32 r = true := by
  unfold gN32
  refine decide_eq_true (UInt32.le_iff_toNat_le.mpr ?_)
  have e : (0x7f800000 : UInt32).toNat = 2139095040 := by decide
  rw [Jvm.FP.Core.mask_toNat32, e]
  exact (Jvm.FP.Core.ne_nan32 r).mp h
theorem q_f2d {a : UInt32} (h : Jvm.FP.Core.val32 a ≠ .nan) : FP.f2d a = Jvm.FP.Core.f2d a := by
  unfold Jvm.FP.f2d
  rw [(Jvm.FP.Core.notNaN_iff32 a).mpr h]; rfl
theorem q_d2f {a : UInt64} (h : Jvm.FP.Core.val64 a ≠ .nan) : FP.d2f a = Jvm.FP.Core.d2f a := by
  unfold Jvm.FP.d2f
  rw [(Jvm.FP.Core.notNaN_iff a).mpr h]; rfl
theorem nn_xD {c : Nat} {k : Int} : Jvm.FP.Core.val64 (xD c k) ≠ .nan := by
  rw [val_xD]; exact Jvm.FP.Core.roundRatio_ne_nan _ _ _ _ _
theorem q_xor31 {m : Nat} (h : m < 2 ^ 31) : m ^^^ 2147483648 = m + 2147483648 := by
  rw [show (2147483648 : Nat) = 2 ^ 31 by decide, ← Nat.or_two_pow_eq_add_of_lt h]
  apply Nat.eq_of_testBit_eq
  intro i
  rw [Nat.testBit_xor, Nat.testBit_or, Nat.testBit_two_pow]
  by_cases hi : 31 = i
  · subst hi; rw [Nat.testBit_lt_two_pow h]; rfl
  · rw [decide_eq_false hi]; cases m.testBit i <;> rfl
theorem q_fneg {m : UInt32} (h : m.toNat < 2 ^ 31) : FP.fneg m = m ||| 2147483648 := by
  apply UInt32.toNat.inj
  unfold Jvm.FP.fneg
  rw [UInt32.toNat_xor, UInt32.toNat_or]
  show m.toNat ^^^ 2147483648 = m.toNat ||| 2147483648
  rw [q_xor31 h, ← Nat.or_two_pow_eq_add_of_lt h]
theorem q_fneg2 (m : UInt32) : FP.fneg (FP.fneg m) = m := by
  unfold Jvm.FP.fneg
  rw [UInt32.xor_assoc, UInt32.xor_self, UInt32.xor_zero]
/-- what negation makes of a float below 0 -/
theorem q_negs {v : UInt32} (h : 2 ^ 31 ≤ v.toNat) : FP.fneg v = v &&& 2147483647 ∧ FP.fneg (v &&& 2147483647) = v := by
  obtain ⟨b1, -, b3⟩ := split_bits v
  have e : FP.fneg (v &&& 2147483647) = v := by rw [q_fneg (by rw [b3]; exact q_mlt v)]; exact (b1 h).symm
  refine ⟨?_, e⟩
  have e2 := q_fneg2 (v &&& 2147483647)
  rw [e] at e2; exact e2
/-! comparisons -/
theorem q_cv (x y : Int) (op : Jvm.ClassFile.CmpOp) : icB .ne (Op.cmpValue (some (compare x y)) op) (nI 0) = decide (¬ x = y) ∧ icB .ge (Op.cmpValue (some (compare x y)) op) (nI 0) = decide (y ≤ x) ∧ icB .le (Op.cmpValue (some (compare x y)) op) (nI 0) = decide (x ≤ y) ∧ icB .gt (Op.cmpValue (some (compare x y)) op) (nI 0) = decide (y < x) ∧ icB .lt (Op.cmpValue (some (compare x y)) op) (nI 0) = decide (x < y) ∧ icB .eq (Op.cmpValue (some (compare x y)) op) (nI 0) = decide (x = y) := by
  rcases Int.lt_trichotomy x y with e | e | e
  · rw [(Jvm.FP.Core.compare_lt_iff _ _).mpr e]
    refine ⟨?_, ?_, ?_, ?_, ?_, ?_⟩
    · rw [decide_eq_true (show ¬ x = y by omega)]; rfl
    · rw [decide_eq_false (show ¬ y ≤ x by omega)]; rfl
    · rw [decide_eq_true (show x ≤ y by omega)]; rfl
    · rw [decide_eq_false (show ¬ y < x by omega)]; rfl
    · rw [decide_eq_true e]; rfl
    · rw [decide_eq_false (show ¬ x = y by omega)]; rfl
  · rw [(Jvm.FP.Core.compare_eq_iff _ _).mpr e]
    refine ⟨?_, ?_, ?_, ?_, ?_, ?_⟩
    · rw [decide_eq_false (show ¬ ¬ x = y by omega)]; rfl
    · rw [decide_eq_true (show y ≤ x by omega)]; rfl
    · rw [decide_eq_true (show x ≤ y by omega)]; rfl
    · rw [decide_eq_false (show ¬ y < x by omega)]; rfl
    · rw [decide_eq_false (show ¬ x < y by omega)]; rfl
    · rw [decide_eq_true e]; rfl
  · rw [(Jvm.FP.Core.compare_gt_iff _ _).mpr e]
    refine ⟨?_, ?_, ?_, ?_, ?_, ?_⟩
    · rw [decide_eq_true (show ¬ x = y by omega)]; rfl
    · rw [decide_eq_true (show y ≤ x by omega)]; rfl
    · rw [decide_eq_false (show ¬ x ≤ y by omega)]; rfl
    · rw [decide_eq_true e]; rfl
    · rw [decide_eq_false (show ¬ x < y by omega)]; rfl
    · rw [decide_eq_false (show ¬ x = y by omega)]; rfl
theorem q_ne {x y : Int} {op : Jvm.ClassFile.CmpOp} {r : Option Ordering} (h : r = some (compare x y)) : icB .ne (Op.cmpValue r op) (nI 0) = decide (¬ x = y) := by subst h; exact (q_cv x y op).1
theorem q_ge {x y : Int} {op : Jvm.ClassFile.CmpOp} {r : Option Ordering} (h : r = some (compare x y)) : icB .ge (Op.cmpValue r op) (nI 0) = decide (y ≤ x) := by subst h; exact (q_cv x y op).2.1
theorem q_le {x y : Int} {op : Jvm.ClassFile.CmpOp} {r : Option Ordering} (h : r = some (compare x y)) : icB .le (Op.cmpValue r op) (nI 0) = decide (x ≤ y) := by subst h; exact (q_cv x y op).2.2.1
theorem q_gt {x y : Int} {op : Jvm.ClassFile.CmpOp} {r : Option Ordering} (h : r = some (compare x y)) : icB .gt (Op.cmpValue r op) (nI 0) = decide (y < x) := by subst h; exact (q_cv x y op).2.2.2.1
theorem q_lt {x y : Int} {op : Jvm.ClassFile.CmpOp} {r : Option Ordering} (h : r = some (compare x y)) : icB .lt (Op.cmpValue r op) (nI 0) = decide (x < y) := by subst h; exact (q_cv x y op).2.2.2.2.1
theorem q_eq {x y : Int} {op : Jvm.ClassFile.CmpOp} {r : Option Ordering} (h : r = some (compare x y)) : icB .eq (Op.cmpValue r op) (nI 0) = decide (x = y) := by subst h; exact (q_cv x y op).2.2.2.2.2
/-! the face -/
/-- a float from -1000000.0f to 1000000.0f -/
def InR (p : Int32) : Prop := icB .gt (p &&& nI 2147483647) (nI 1232348160) = false
def cellF (p : Int32) (o : Nat) : Nat := (((FP.f2i p.toUInt32).toInt + o) % 16).toNat
theorem cellF_lt (p : Int32) (o : Nat) : cellF p o < 16 := by unfold cellF; omega
def limF (v : UInt32) : UInt32 := if icB .gt (Op.cmpValue (FP.fcmp v (UInt32.ofNat 1232348160)) .l) (nI 0) = true then UInt32.ofNat 1232348160 else if icB .lt (Op.cmpValue (FP.fcmp v (UInt32.ofNat 3379831808)) .g) (nI 0) = true then UInt32.ofNat 3379831808 else v
def rawF (k p q : Int32) : UInt32 := if k = nI 1 then FP.fadd p.toUInt32 q.toUInt32 else FP.fmul p.toUInt32 q.toUInt32
def resF (k p q : Int32) : Int32 := (limF (rawF k p q)).toInt32
def setF (n : Int32) : Int32 := (FP.fdiv (FP.i2f n) (UInt32.ofNat 1082130432)).toInt32
def SetOk (n : Int32) : Prop := -99 ≤ n.toInt ∧ n.toInt ≤ 99
theorem InR_0 : InR (nI 0) := by unfold InR; decide
theorem InR_iff {p : Int32} : InR p ↔ magF p.toUInt32 ≤ 1232348160 := by
  unfold InR
  rw [q_mag, icB_gt (q_mlt _) (by decide), decide_eq_false_iff_not]; omega

