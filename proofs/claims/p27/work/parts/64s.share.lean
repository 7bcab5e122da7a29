/-! shares: doubles from 0.0 to 1.0 and their bits -/
theorem s_val {e l : Nat} (hl : 0 < l) (hl2 : l < 2 ^ 31) (he : 0 < e) (hel : e ≤ l) : Jvm.FP.Core.val64 (FP.ddiv (FP.i2d (nI e)) (FP.i2d (nI l))) = Jvm.FP.Core.roundRatio Jvm.FP.Core.b64 false e l 0 := by
  have x1 : FP.i2d (nI e) = xD e 0 := i2d_xD (nI_toInt (by omega))
  have x2 : FP.i2d (nI l) = xD l 0 := i2d_xD (nI_toInt (by omega))
  obtain ⟨n, -, -, e1⟩ := fit64 (c := e) (k := 0) he (by omega) (by decide) (by decide)
  obtain ⟨m, -, -, e2⟩ := fit64 (c := l) (k := 0) hl (by omega) (by decide) (by decide)
  have hp := Nat.two_pow_pos m
  have hm : 0 < l * 2 ^ m := Nat.mul_pos hl hp
  rw [x1, x2]
  show Jvm.FP.Core.val64 (Jvm.FP.Core.ddiv (xD e 0) (xD l 0)) = _
  rw [Jvm.FP.Core.val64_ddiv, val_xD, val_xD, e1, e2]
  show (if l * 2 ^ m = 0 then (if e * 2 ^ n = 0 then Jvm.FP.Core.Datum.nan else .inf (false != false)) else Jvm.FP.Core.roundRatio Jvm.FP.Core.b64 (false != false) (e * 2 ^ n) (l * 2 ^ m) (0 - (n : Int) - (0 - (m : Int)))) = _
  rw [if_neg (by omega)]
  refine Jvm.FP.Core.roundRatio_congr hm hl ?_
  rcases Nat.le_total n m with h | h
  · obtain ⟨d, rfl⟩ := Nat.exists_eq_add_of_le h
    rw [show (0 - (n : Int) - (0 - ((n + d : Nat) : Int)) - 0).toNat = d by omega, show (0 - (0 - (n : Int) - (0 - ((n + d : Nat) : Int)))).toNat = 0 by omega, Nat.pow_add]
    simp only [Nat.pow_zero, Nat.one_mul, Nat.mul_one, Nat.mul_assoc, Nat.mul_comm, Nat.mul_left_comm]
  · obtain ⟨d, rfl⟩ := Nat.exists_eq_add_of_le h
    rw [show (0 - ((m + d : Nat) : Int) - (0 - (m : Int)) - 0).toNat = 0 by omega, show (0 - (0 - ((m + d : Nat) : Int) - (0 - (m : Int)))).toNat = d by omega, Nat.pow_add]
    simp only [Nat.pow_zero, Nat.one_mul, Nat.mul_one, Nat.mul_assoc, Nat.mul_comm, Nat.mul_left_comm]
theorem s_mag {e l : Nat} {d : UInt64} (hv : Jvm.FP.Core.val64 d = Jvm.FP.Core.roundRatio Jvm.FP.Core.b64 false e l 0) (hl : 0 < l) (hl2 : l < 2 ^ 31) (he : 0 < e) (hel : e ≤ l) : 992 * 2 ^ 52 ≤ d.toNat ∧ d.toNat ≤ 1024 * 2 ^ 52 := by
  have nv : Jvm.FP.Core.val64 d ≠ .nan := by rw [hv]; exact Jvm.FP.Core.roundRatio_ne_nan _ _ _ _ _
  have hs := Jvm.FP.Core.sgn_bits nv
  rw [hv, Jvm.FP.Core.sgn_roundRatio] at hs
  have hs2 : ¬ 2 ^ 63 ≤ d.toNat := of_decide_eq_false hs.symm
  have hq : Jvm.FP.Core.b64.qmin ≤ 0 := by rw [b64_qmin]; decide
  have hz : (0 - Jvm.FP.Core.b64.qmin).toNat = 1074 := by rw [b64_qmin]; decide
  have u1 : Jvm.FP.Core.unitsOf Jvm.FP.Core.b64 (992 * 2 ^ 52) = 2 ^ 1043 := by
    have := Jvm.FP.Core.unitsOf_start (f := Jvm.FP.Core.b64) (K := 992) (by decide)
    rw [b64_tails] at this; rw [this, ← Nat.pow_add]
  have u2 : Jvm.FP.Core.unitsOf Jvm.FP.Core.b64 (1024 * 2 ^ 52) = 2 ^ 1075 := by
    have := Jvm.FP.Core.unitsOf_start (f := Jvm.FP.Core.b64) (K := 1024) (by decide)
    rw [b64_tails] at this; rw [this, ← Nat.pow_add]
  have g1 := Jvm.FP.Core.mag_ge Jvm.FP.Core.good_b64 (n := d.toNat) (m := 992 * 2 ^ 52) (e0 := Jvm.FP.Core.b64.qmin) hv hl (Int.le_refl _) hq (by rw [Jvm.FP.Core.infBits_b64]; decide) (by
    rw [u1, Int.sub_self]
    unfold Jvm.FP.Core.inUnits
    rw [hz]
    have h1 : l ≤ e * 2 ^ 31 := Nat.le_trans (Nat.le_of_lt hl2) (Nat.le_mul_of_pos_left _ he)
    calc 2 ^ 1043 * 2 ^ (Int.toNat 0) * l = 2 ^ 1043 * l := by rw [show Int.toNat 0 = 0 from rfl, Nat.pow_zero, Nat.mul_one]
      _ ≤ 2 ^ 1043 * (e * 2 ^ 31) := Nat.mul_le_mul_left _ h1
      _ = e * 2 ^ 1074 := by rw [Nat.mul_left_comm, ← Nat.pow_add])
  have g2 := Jvm.FP.Core.mag_le Jvm.FP.Core.good_b64 (n := d.toNat) (m := 1024 * 2 ^ 52) (e0 := Jvm.FP.Core.b64.qmin) hv hl (Int.le_refl _) hq (by
    rw [u2, Int.sub_self]
    unfold Jvm.FP.Core.inUnits
    rw [hz]
    calc e * 2 ^ 1074 ≤ l * 2 ^ 1075 := Nat.mul_le_mul hel (Nat.pow_le_pow_right (by decide) (by decide))
      _ = 2 ^ 1075 * 2 ^ (Int.toNat 0) * l := by rw [show Int.toNat 0 = 0 from rfl, Nat.pow_zero, Nat.mul_one, Nat.mul_comm])
  rw [Jvm.FP.Core.mag_toNat64] at g1 g2
  omega
/-- 0.0, or a share above it -/
def ShD (d : UInt64) : Prop := d = FP.dconst0 ∨ (992 * 2 ^ 52 ≤ d.toNat ∧ d.toNat ≤ 1024 * 2 ^ 52)
theorem ShD.nn {d : UInt64} (h : ShD d) : Jvm.FP.Core.val64 d ≠ .nan := by
  rw [Jvm.FP.Core.ne_nan]
  rcases h with h | ⟨h1, h2⟩
  · subst h; decide
  · omega
theorem ShD_div {e l : Nat} (hl : 0 < l) (hl2 : l < 2 ^ 31) (hel : e ≤ l) : ShD (FP.ddiv (FP.i2d (nI e)) (FP.i2d (nI l))) := by
  by_cases he : e = 0
  · left
    subst he
    have x1 : FP.i2d (nI 0) = xD 0 0 := i2d_xD (nI_toInt (by decide))
    have x2 : FP.i2d (nI l) = xD l 0 := i2d_xD (nI_toInt (by omega))
    obtain ⟨m, -, -, e2⟩ := fit64 (c := l) (k := 0) hl (by omega) (by decide) (by decide)
    have hp := Nat.two_pow_pos m
    have hm : 0 < l * 2 ^ m := Nat.mul_pos hl hp
    have hv : Jvm.FP.Core.val64 (FP.ddiv (FP.i2d (nI 0)) (FP.i2d (nI l))) = .fin false 0 Jvm.FP.Core.b64.qmin := by
      rw [x1, x2]
      show Jvm.FP.Core.val64 (Jvm.FP.Core.ddiv (xD 0 0) (xD l 0)) = _
      rw [Jvm.FP.Core.val64_ddiv, val_xD, val_xD, xD_zero, e2]
      show (if l * 2 ^ m = 0 then (if (0 : Nat) = 0 then Jvm.FP.Core.Datum.nan else .inf (false != false)) else Jvm.FP.Core.roundRatio Jvm.FP.Core.b64 (false != false) 0 (l * 2 ^ m) (Jvm.FP.Core.b64.qmin - (0 - (m : Int)))) = _
      rw [if_neg (by omega)]; unfold Jvm.FP.Core.roundRatio; rw [if_pos rfl]; rfl
    have h0 : Jvm.FP.Core.val64 FP.dconst0 = .fin false 0 Jvm.FP.Core.b64.qmin := by decide +kernel
    exact Jvm.FP.Core.val64_inj (by rw [hv]; exact fun h => by cases h) (hv.trans h0.symm)
  · right; exact s_mag (s_val hl hl2 (by omega) hel) hl hl2 (by omega) hel
