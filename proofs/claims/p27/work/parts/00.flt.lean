/-! floats, as the library has them -/
/-- the double c * 2^k -/
def xD (c : Nat) (k : Int) : UInt64 := Jvm.FP.Core.of64 (Jvm.FP.Core.round Jvm.FP.Core.b64 (.fin false c k))
theorem val_xD {c : Nat} {k : Int} : Jvm.FP.Core.val64 (xD c k) = Jvm.FP.Core.round Jvm.FP.Core.b64 (.fin false c k) := Jvm.FP.Core.val64_of64 (Jvm.FP.Core.round_fits Jvm.FP.Core.good_b64 _)
theorem b64_qmin : Jvm.FP.Core.b64.qmin = -1074 := by decide
theorem b64_qmax : Jvm.FP.Core.b64.qmax = 971 := by decide
theorem b64_tails : Jvm.FP.Core.b64.tails = 2 ^ 52 := by decide
theorem b64_p : Jvm.FP.Core.b64.p = 53 := rfl
/-- c * 2^k is a double -/
theorem fit64 {c : Nat} {k : Int} (h0 : 0 < c) (hc : c < 2 ^ 53) (h1 : -900 ≤ k) (h2 : k ≤ 900) : ∃ n : Nat, n ≤ 52 ∧ Jvm.FP.Core.fits Jvm.FP.Core.b64 (.fin false (c * 2 ^ n) (k - n)) ∧ Jvm.FP.Core.round Jvm.FP.Core.b64 (.fin false c k) = .fin false (c * 2 ^ n) (k - n) := by
  have l1 : 2 ^ c.log2 ≤ c := Nat.log2_self_le (by omega)
  have l2 : c < 2 ^ (c.log2 + 1) := Nat.lt_log2_self
  have l3 : c.log2 < 53 := (Nat.pow_lt_pow_iff_right (by decide : 1 < 2)).mp (Nat.lt_of_le_of_lt l1 hc)
  generalize c.log2 = L at l1 l2 l3
  have hf : Jvm.FP.Core.fits Jvm.FP.Core.b64 (.fin false (c * 2 ^ (52 - L)) (k - (52 - L : Nat))) := by
    refine ⟨?_, by rw [b64_qmin]; omega, by rw [b64_qmax]; omega, Or.inr ?_⟩
    · calc c * 2 ^ (52 - L) < 2 ^ (L + 1) * 2 ^ (52 - L) := Nat.mul_lt_mul_of_pos_right l2 (Nat.two_pow_pos _)
        _ = 2 ^ Jvm.FP.Core.b64.p := by rw [← Nat.pow_add]; congr 1; rw [b64_p]; omega
    · calc Jvm.FP.Core.b64.tails = 2 ^ L * 2 ^ (52 - L) := by rw [← Nat.pow_add, b64_tails]; congr 1; omega
        _ ≤ c * 2 ^ (52 - L) := Nat.mul_le_mul_right _ l1
  refine ⟨52 - L, by omega, hf, Jvm.FP.Core.roundRatio_exact Jvm.FP.Core.good_b64 (by decide) hf ?_⟩
  rw [show (k - (k - ((52 - L : Nat) : Int))).toNat = 52 - L by omega, show (k - ((52 - L : Nat) : Int) - k).toNat = 0 by omega]
  simp
theorem xD_zero {k : Int} : Jvm.FP.Core.round Jvm.FP.Core.b64 (.fin false 0 k) = .fin false 0 Jvm.FP.Core.b64.qmin := by
  show Jvm.FP.Core.roundRatio Jvm.FP.Core.b64 false 0 1 k = _
  unfold Jvm.FP.Core.roundRatio; rw [if_pos rfl]
theorem val_xD1 {j : Nat} (hj : j ≤ 30) : Jvm.FP.Core.val64 (xD 1 j) = .fin false (2 ^ 52) ((j : Int) - 52) := by
  have : ∀ j : Fin 31, Jvm.FP.Core.round Jvm.FP.Core.b64 (.fin false 1 ((j.1 : Nat) : Int)) = .fin false (2 ^ 52) ((j.1 : Int) - 52) := by decide +kernel
  rw [val_xD]; exact this ⟨j, by omega⟩
theorem mul_xD {c j : Nat} {k : Int} (hj : j ≤ 30) (hc : c < 2 ^ 53) (h1 : -900 ≤ k) (h2 : k ≤ 860) : Jvm.FP.Core.dmul (xD c k) (xD 1 j) = xD c (k + j) := by
  have hv : Jvm.FP.Core.val64 (Jvm.FP.Core.dmul (xD c k) (xD 1 j)) = Jvm.FP.Core.round Jvm.FP.Core.b64 (.fin false c (k + j)) := by
    rw [Jvm.FP.Core.val64_dmul, val_xD1 hj, val_xD]
    by_cases h0 : c = 0
    · subst h0
      rw [xD_zero, xD_zero]
      show Jvm.FP.Core.roundRatio Jvm.FP.Core.b64 _ (0 * 2 ^ 52) 1 _ = _
      rw [Nat.zero_mul]; unfold Jvm.FP.Core.roundRatio; rw [if_pos rfl]; rfl
    · obtain ⟨n, hn, -, e⟩ := fit64 (by omega) hc h1 (by omega)
      rw [e]
      show Jvm.FP.Core.roundRatio Jvm.FP.Core.b64 false (c * 2 ^ n * 2 ^ 52) 1 (k - n + (j - 52)) = Jvm.FP.Core.roundRatio Jvm.FP.Core.b64 false c 1 (k + j)
      refine Jvm.FP.Core.roundRatio_congr (by decide) (by decide) ?_
      rw [show (k - n + ((j : Int) - 52) - (k + j)).toNat = 0 by omega, show (k + j - (k - n + ((j : Int) - 52))).toNat = n + 52 by omega, Nat.pow_add]
      simp only [Nat.mul_one, Nat.pow_zero, Nat.mul_assoc]
  refine Jvm.FP.Core.val64_inj ?_ (hv.trans val_xD.symm)
  rw [hv]
  by_cases h0 : c = 0
  · subst h0; rw [xD_zero]; exact fun h => by cases h
  · obtain ⟨n, -, -, e⟩ := fit64 (k := k + j) (by omega) hc (by omega) (by omega)
    rw [e]; exact fun h => by cases h
theorem div_xD {c j : Nat} {k : Int} (hj : j ≤ 30) (hc : c < 2 ^ 53) (h1 : -800 ≤ k) (h2 : k ≤ 900) : Jvm.FP.Core.ddiv (xD c k) (xD 1 j) = xD c (k - j) := by
  have hp : (2 : Nat) ^ 52 ≠ 0 := by decide
  have hv : Jvm.FP.Core.val64 (Jvm.FP.Core.ddiv (xD c k) (xD 1 j)) = Jvm.FP.Core.round Jvm.FP.Core.b64 (.fin false c (k - j)) := by
    rw [Jvm.FP.Core.val64_ddiv, val_xD1 hj, val_xD]
    by_cases h0 : c = 0
    · subst h0
      rw [xD_zero, xD_zero]
      show (if (2 : Nat) ^ 52 = 0 then (if (0 : Nat) = 0 then Jvm.FP.Core.Datum.nan else .inf (false != false)) else Jvm.FP.Core.roundRatio Jvm.FP.Core.b64 (false != false) 0 (2 ^ 52) (Jvm.FP.Core.b64.qmin - ((j : Int) - 52))) = _
      rw [if_neg hp]; unfold Jvm.FP.Core.roundRatio; rw [if_pos rfl]; rfl
    · obtain ⟨n, hn, -, e⟩ := fit64 (by omega) hc (by omega) h2
      rw [e]
      show (if (2 : Nat) ^ 52 = 0 then (if c * 2 ^ n = 0 then Jvm.FP.Core.Datum.nan else .inf (false != false)) else Jvm.FP.Core.roundRatio Jvm.FP.Core.b64 (false != false) (c * 2 ^ n) (2 ^ 52) (k - n - ((j : Int) - 52))) = Jvm.FP.Core.roundRatio Jvm.FP.Core.b64 false c 1 (k - j)
      rw [if_neg hp]
      refine Jvm.FP.Core.roundRatio_congr (by decide) (by decide) ?_
      rw [show (k - n - ((j : Int) - 52) - (k - j)).toNat = 52 - n by omega, show (k - j - (k - n - ((j : Int) - 52))).toNat = 0 by omega]
      rw [Nat.mul_one, Nat.pow_zero, Nat.mul_one, Nat.mul_assoc, ← Nat.pow_add, show n + (52 - n) = 52 by omega]
  refine Jvm.FP.Core.val64_inj ?_ (hv.trans val_xD.symm)
  rw [hv]
  by_cases h0 : c = 0
  · subst h0; rw [xD_zero]; exact fun h => by cases h
  · obtain ⟨n, -, -, e⟩ := fit64 (k := k - j) (by omega) hc (by omega) (by omega)
    rw [e]; exact fun h => by cases h
theorem val_xDj {j : Nat} (hj : j ≤ 60) : Jvm.FP.Core.val64 (xD 1 j) = .fin false (2 ^ 52) ((j : Int) - 52) := by
  have : ∀ j : Fin 61, Jvm.FP.Core.round Jvm.FP.Core.b64 (.fin false 1 ((j.1 : Nat) : Int)) = .fin false (2 ^ 52) ((j.1 : Int) - 52) := by decide +kernel
  rw [val_xD]; exact this ⟨j, by omega⟩
/-- how c * 2^-h stands to 2^j -/
theorem cmp_xD {c h j : Nat} (h0 : 0 < c) (hc : c < 2 ^ 53) (hh : h ≤ 800) (hj : j ≤ 60) : Jvm.FP.Core.dcmp (xD c (-(h : Int))) (xD 1 j) = some (compare (c : Int) ((2 ^ (j + h) : Nat) : Int)) := by
  obtain ⟨n, hn, -, e⟩ := fit64 (k := -(h : Int)) h0 hc (by omega) (by omega)
  show Jvm.FP.Core.order (Jvm.FP.Core.val64 _) (Jvm.FP.Core.val64 _) = _
  rw [val_xDj hj, val_xD, e]
  show some (compare (Jvm.FP.Core.signed false (Jvm.FP.Core.inUnits (c * 2 ^ n) (-(h : Int) - n) (min (-(h : Int) - n) ((j : Int) - 52)))) (Jvm.FP.Core.signed false (Jvm.FP.Core.inUnits (2 ^ 52) ((j : Int) - 52) (min (-(h : Int) - n) ((j : Int) - 52))))) = _
  obtain ⟨m, hm⟩ : ∃ m : Nat, min (-(h : Int) - n) ((j : Int) - 52) = -(h : Int) - m := ⟨(-(h : Int) - min (-(h : Int) - n) ((j : Int) - 52)).toNat, by omega⟩
  rw [hm]
  unfold Jvm.FP.Core.inUnits Jvm.FP.Core.signed
  rw [if_neg (by decide), if_neg (by decide)]
  have ea : c * 2 ^ n * 2 ^ (-(h : Int) - n - (-(h : Int) - m)).toNat = c * 2 ^ m := by
    rw [Nat.mul_assoc, ← Nat.pow_add]; congr 2; omega
  have eb : 2 ^ 52 * 2 ^ ((j : Int) - 52 - (-(h : Int) - m)).toNat = 2 ^ (j + h) * 2 ^ m := by
    rw [← Nat.pow_add, ← Nat.pow_add]; congr 1; omega
  rw [ea, eb, Int.natCast_mul, Int.natCast_mul (2 ^ (j + h)), Jvm.FP.Core.compare_mul_pos _ _ _ (by have := Nat.two_pow_pos m; omega)]
theorem i2d_xD {a : Int32} {c : Nat} (h : a.toInt = (c : Int)) : Jvm.FP.Core.i2d a = xD c 0 := by
  show Jvm.FP.Core.of64 (Jvm.FP.Core.round Jvm.FP.Core.b64 (Jvm.FP.Core.ofInt a.toInt)) = _
  rw [h]; unfold Jvm.FP.Core.ofInt xD
  rw [show decide ((c : Int) < 0) = false from decide_eq_false (by omega), Int.natAbs_natCast]
theorem d2i_xD {a : Int32} {c : Nat} (h : a.toInt = (c : Int)) : Jvm.FP.Core.d2i (xD c 0) = a := by rw [← i2d_xD h, Jvm.FP.Core.d2i_i2d]
theorem f2d_xD {a : UInt32} {c : Nat} {k : Int} (h : Jvm.FP.Core.val32 a = .fin false c k) : Jvm.FP.Core.f2d a = xD c k := by
  show Jvm.FP.Core.of64 (Jvm.FP.Core.round Jvm.FP.Core.b64 (Jvm.FP.Core.val32 a)) = _
  rw [h]; rfl
theorem pow_i2d {j : Nat} (hj : j ≤ 30) : Jvm.FP.Core.i2d (Int32.ofNat (2 ^ j)) = xD 1 j := by
  have : ∀ j : Fin 31, Jvm.FP.Core.i2d (Int32.ofNat (2 ^ j.1)) = xD 1 ((j.1 : Nat) : Int) := by decide +kernel
  exact this ⟨j, by omega⟩
theorem k_2 : (UInt64.ofNat 4611686018427387904) = xD 1 1 := by decide +kernel
theorem k_65536 : (UInt64.ofNat 4679240012837945344) = xD 1 16 := by decide +kernel
theorem k_256 : (UInt64.ofNat 4643211215818981376) = xD 1 8 := by decide +kernel
theorem k_2p23 : (UInt64.ofNat 4710765210229538816) = xD 1 23 := by decide +kernel
theorem k_2p52 : (UInt64.ofNat 4841369599423283200) = xD 1 52 := by decide +kernel
/-- a float's significand and how often it is halved -/
def fC (n : Nat) : Nat := if n / 2 ^ 23 = 0 then n % 2 ^ 23 else 2 ^ 23 + n % 2 ^ 23
def fH (n : Nat) : Nat := if n / 2 ^ 23 = 0 then 149 else 150 - n / 2 ^ 23
theorem val32_bits {a : UInt32} (h : a.toNat ≤ 1232348160) : Jvm.FP.Core.val32 a = .fin false (fC a.toNat) (-(fH a.toNat : Int)) := by
  have t : Jvm.FP.Core.b32.tails = 2 ^ 23 := by decide
  have x : Jvm.FP.Core.b32.exps = 256 := by decide
  have q : Jvm.FP.Core.b32.qmin = -149 := by decide
  unfold Jvm.FP.Core.val32 Jvm.FP.Core.decode Jvm.FP.Core.fieldE Jvm.FP.Core.fieldT Jvm.FP.Core.fieldS fC fH
  rw [t, x, q]
  generalize a.toNat = n at *
  have e1 : n / 2 ^ 23 ≤ 146 := by omega
  have e2 : n / 2 ^ 23 % 256 = n / 2 ^ 23 := Nat.mod_eq_of_lt (by omega)
  have e3 : n / 2 ^ 23 / 256 = 0 := by omega
  rw [e2, if_neg (by omega), e3]
  by_cases e0 : n / 2 ^ 23 = 0
  · rw [if_pos e0, if_pos e0, if_pos e0]; rfl
  · rw [if_neg e0, if_neg e0, if_neg e0]
    congr 1
    omega
theorem fC_lt (n : Nat) : fC n < 2 ^ 24 := by unfold fC; split <;> omega
theorem fH_b {n : Nat} (h : n ≤ 1232348160) : 4 ≤ fH n ∧ fH n ≤ 149 := by unfold fH; split <;> omega
theorem fC_cases {n : Nat} (h : n ≤ 1232348160) : (2 ^ 23 ≤ fC n) ∨ fH n = 149 := by unfold fC fH; split <;> omega
/-- the bits out of the significand and the halvings -/
theorem f_bits {n : Nat} (h : n ≤ 1232348160) : n = if fC n < 2 ^ 23 then fC n else (150 - fH n) * 2 ^ 23 + (fC n - 2 ^ 23) := by
  unfold fC fH
  by_cases e0 : n / 2 ^ 23 = 0
  · rw [if_pos e0, if_pos e0, if_pos (by omega)]; omega
  · rw [if_neg e0, if_neg e0, if_neg (by omega)]; omega
theorem f2d_bits {a : UInt32} (h : a.toNat ≤ 1232348160) : Jvm.FP.Core.f2d a = xD (fC a.toNat) (-(fH a.toNat : Int)) := f2d_xD (val32_bits h)
theorem fl_nn {a : UInt32} (h : a.toNat ≤ 1232348160) : Jvm.FP.Core.val32 a ≠ .nan := by rw [val32_bits h]; exact fun h => by cases h
theorem d2f_bits {a : UInt32} (h : a.toNat ≤ 1232348160) : Jvm.FP.Core.d2f (xD (fC a.toNat) (-(fH a.toNat : Int))) = a := by rw [← f2d_bits h, Jvm.FP.Core.d2f_f2d (fl_nn h)]
/-- the sign -/
theorem fneg_bits {a : UInt32} (h : a.toNat ≤ 1232348160) : Jvm.FP.Core.fneg a = a ||| 2147483648 := by
  have hn := fl_nn h
  have h2 : (a ||| 2147483648).toNat = a.toNat + 2147483648 := by
    rw [UInt32.toNat_or]
    show a.toNat ||| 2147483648 = _
    have := Nat.two_pow_add_eq_or_of_lt (i := 31) (b := a.toNat) (by omega) 1
    rw [show (2 ^ 31 * 1 : Nat) = 2147483648 by decide] at this
    rw [Nat.or_comm]; omega
  have hv : Jvm.FP.Core.val32 (a ||| 2147483648) = Jvm.FP.Core.negate (Jvm.FP.Core.val32 a) := by
    rw [val32_bits h]
    have t : Jvm.FP.Core.b32.tails = 2 ^ 23 := by decide
    have x : Jvm.FP.Core.b32.exps = 256 := by decide
    have q : Jvm.FP.Core.b32.qmin = -149 := by decide
    unfold Jvm.FP.Core.val32 Jvm.FP.Core.decode Jvm.FP.Core.fieldE Jvm.FP.Core.fieldT Jvm.FP.Core.fieldS fC fH
    rw [t, x, q, h2]
    generalize a.toNat = n at *
    have e2 : (n + 2147483648) / 2 ^ 23 % 256 = n / 2 ^ 23 := by omega
    have e3 : (n + 2147483648) / 2 ^ 23 / 256 = 1 := by omega
    have e4 : (n + 2147483648) % 2 ^ 23 = n % 2 ^ 23 := by omega
    rw [e2, if_neg (by omega), e3, e4]
    by_cases e0 : n / 2 ^ 23 = 0
    · rw [if_pos e0, if_pos e0, if_pos e0]; rfl
    · rw [if_neg e0, if_neg e0, if_neg e0]
      have ng : ∀ s c q, Jvm.FP.Core.negate (.fin s c q) = .fin (!s) c q := fun _ _ _ => rfl
      rw [ng]
      have hq : (-149 : Int) + (((n / 2 ^ 23 : Nat) : Int) - 1) = -((150 - n / 2 ^ 23 : Nat) : Int) := by omega
      rw [hq]
      generalize -((150 - n / 2 ^ 23 : Nat) : Int) = Y
      generalize 2 ^ 23 + n % 2 ^ 23 = W
      rfl
  refine (Jvm.FP.Core.val32_inj (a := a ||| 2147483648) (b := Jvm.FP.Core.fneg a) ?_ ?_).symm
  · rw [hv, val32_bits h]; exact fun h => by cases h
  · rw [hv, Jvm.FP.Core.val32_fneg]
/-! limits -/
def magF (a : UInt32) : Nat := a.toNat % 2 ^ 31
theorem L_key : Jvm.FP.Core.fkey 1232348160 = 1232348160 := by decide +kernel
theorem M_key : Jvm.FP.Core.fkey 3379831808 = -1232348160 := by decide +kernel
theorem L_nn : Jvm.FP.Core.val32 1232348160 ≠ .nan := by decide +kernel
theorem M_nn : Jvm.FP.Core.val32 3379831808 ≠ .nan := by decide +kernel
theorem cmp_L {v : UInt32} (h : Jvm.FP.Core.val32 v ≠ .nan) (n : Int32) : (0 < Jvm.FP.Core.cmpInt n (Jvm.FP.Core.fcmp v 1232348160)) ↔ 1232348160 < Jvm.FP.Core.fkey v := by
  rw [Jvm.FP.Core.fcmp_key h L_nn, L_key]
  rcases Int.lt_trichotomy (Jvm.FP.Core.fkey v) 1232348160 with e | e | e
  · rw [(Jvm.FP.Core.compare_lt_iff _ _).mpr e]; exact ⟨fun h => absurd h (show ¬ (0 : Int32) < -1 by decide), fun h => by omega⟩
  · rw [(Jvm.FP.Core.compare_eq_iff _ _).mpr e]; exact ⟨fun h => absurd h (show ¬ (0 : Int32) < 0 by decide), fun h => by omega⟩
  · rw [(Jvm.FP.Core.compare_gt_iff _ _).mpr e]; exact ⟨fun _ => e, fun _ => (show (0 : Int32) < 1 by decide)⟩
theorem cmp_M {v : UInt32} (h : Jvm.FP.Core.val32 v ≠ .nan) (n : Int32) : (Jvm.FP.Core.cmpInt n (Jvm.FP.Core.fcmp v 3379831808) < 0) ↔ Jvm.FP.Core.fkey v < -1232348160 := by
  rw [Jvm.FP.Core.fcmp_key h M_nn, M_key]
  rcases Int.lt_trichotomy (Jvm.FP.Core.fkey v) (-1232348160) with e | e | e
  · rw [(Jvm.FP.Core.compare_lt_iff _ _).mpr e]; exact ⟨fun _ => e, fun _ => (show (-1 : Int32) < 0 by decide)⟩
  · rw [(Jvm.FP.Core.compare_eq_iff _ _).mpr e]; exact ⟨fun h => absurd h (show ¬ (0 : Int32) < 0 by decide), fun h => by omega⟩
  · rw [(Jvm.FP.Core.compare_gt_iff _ _).mpr e]; exact ⟨fun h => absurd h (show ¬ (1 : Int32) < 0 by decide), fun h => by omega⟩
theorem key_mag {v : UInt32} : (-1232348160 ≤ Jvm.FP.Core.fkey v ∧ Jvm.FP.Core.fkey v ≤ 1232348160) ↔ magF v ≤ 1232348160 := by
  have := v.toNat_lt
  unfold Jvm.FP.Core.fkey magF
  split <;> omega
theorem nn_of_mag {v : UInt32} (h : magF v ≤ 1232348160) : Jvm.FP.Core.val32 v ≠ .nan := by
  rw [Jvm.FP.Core.ne_nan32]; unfold magF at h; omega
/-! sums and products of finite floats -/
theorem fadd_nn {a b : UInt32} (ha : Jvm.FP.Core.FFin a) (hb : Jvm.FP.Core.FFin b) : Jvm.FP.Core.val32 (Jvm.FP.Core.fadd a b) ≠ .nan := by
  obtain ⟨s, c, q, ea⟩ := ha
  obtain ⟨t, d, r, eb⟩ := hb
  rw [Jvm.FP.Core.val32_fadd, ea, eb]
  exact Jvm.FP.Core.roundRatio_ne_nan _ _ _ _ _
theorem fmul_nn {a b : UInt32} (ha : Jvm.FP.Core.FFin a) (hb : Jvm.FP.Core.FFin b) : Jvm.FP.Core.val32 (Jvm.FP.Core.fmul a b) ≠ .nan := by
  obtain ⟨s, c, q, ea⟩ := ha
  obtain ⟨t, d, r, eb⟩ := hb
  rw [Jvm.FP.Core.val32_fmul, ea, eb]
  exact Jvm.FP.Core.roundRatio_ne_nan _ _ _ _ _
theorem fadd_zs {a b : UInt32} (ha : Jvm.FP.Core.FFin a) (hb : Jvm.FP.Core.FFin b) (hz : (Jvm.FP.Core.fadd a b).toNat % 2 ^ 31 = 0) : decide (2 ^ 31 ≤ (Jvm.FP.Core.fadd a b).toNat) = (decide (2 ^ 31 ≤ a.toNat) && decide (2 ^ 31 ≤ b.toNat)) := by
  have na := ha.ne_nan
  have nb := hb.ne_nan
  rw [← Jvm.FP.Core.sgn_bits32 (fadd_nn ha hb), ← Jvm.FP.Core.sgn_bits32 na, ← Jvm.FP.Core.sgn_bits32 nb]
  have fa := Jvm.FP.Core.val32_fits a
  have fb := Jvm.FP.Core.val32_fits b
  have hv := Jvm.FP.Core.val32_fadd a b
  obtain ⟨s, c, q, ea⟩ := ha
  obtain ⟨t, d, r, eb⟩ := hb
  rw [ea] at fa
  rw [eb] at fb
  rw [ea, eb] at hv ⊢
  have hq : Jvm.FP.Core.b32.qmin ≤ min q r := by have := fa.2.1; have := fb.2.1; omega
  change _ = Jvm.FP.Core.roundRatio Jvm.FP.Core.b32 (Jvm.FP.Core.sumSign s t (Jvm.FP.Core.sumUnits s c q t d r (min q r))) (Jvm.FP.Core.sumUnits s c q t d r (min q r)).natAbs 1 (min q r) at hv
  rw [hv, Jvm.FP.Core.sgn_roundRatio]
  by_cases h0 : Jvm.FP.Core.sumUnits s c q t d r (min q r) = 0
  · rw [h0]; unfold Jvm.FP.Core.sumSign; rw [if_pos rfl]; rfl
  · have := Jvm.FP.Core.mag_ge Jvm.FP.Core.good_b32 (n := (Jvm.FP.Core.fadd a b).toNat) (m := 1) (e0 := Jvm.FP.Core.b32.qmin) hv (by decide) (Int.le_refl _) hq (by decide) (by
      rw [show Jvm.FP.Core.unitsOf Jvm.FP.Core.b32 1 = 1 by decide, Int.sub_self]
      unfold Jvm.FP.Core.inUnits
      have h1 : 1 ≤ (Jvm.FP.Core.sumUnits s c q t d r (min q r)).natAbs := by omega
      have h2 := Nat.two_pow_pos (min q r - Jvm.FP.Core.b32.qmin).toNat
      have := Nat.mul_le_mul h1 h2
      simpa using this)
    rw [Jvm.FP.Core.mag_toNat32] at this
    omega
theorem fmul_s {a b : UInt32} (ha : Jvm.FP.Core.FFin a) (hb : Jvm.FP.Core.FFin b) : decide (2 ^ 31 ≤ (Jvm.FP.Core.fmul a b).toNat) = (decide (2 ^ 31 ≤ a.toNat) != decide (2 ^ 31 ≤ b.toNat)) := by
  have na := ha.ne_nan
  have nb := hb.ne_nan
  rw [← Jvm.FP.Core.sgn_bits32 (fmul_nn ha hb), ← Jvm.FP.Core.sgn_bits32 na, ← Jvm.FP.Core.sgn_bits32 nb]
  have hv := Jvm.FP.Core.val32_fmul a b
  obtain ⟨s, c, q, ea⟩ := ha
  obtain ⟨t, d, r, eb⟩ := hb
  rw [ea, eb] at hv ⊢
  change _ = Jvm.FP.Core.roundRatio Jvm.FP.Core.b32 (s != t) (c * d) 1 (q + r) at hv
  rw [hv, Jvm.FP.Core.sgn_roundRatio]; rfl
theorem split_bits (a : UInt32) : (2 ^ 31 ≤ a.toNat → a = (a &&& 2147483647) ||| 2147483648) ∧ (a.toNat < 2 ^ 31 → a = a &&& 2147483647) ∧ (a &&& 2147483647).toNat = magF a := by
  have hm : (a &&& 2147483647).toNat = magF a := Jvm.FP.Core.mask_toNat32 a
  have hl := a.toNat_lt
  refine ⟨fun h => ?_, fun h => ?_, hm⟩
  · apply UInt32.toNat.inj
    rw [UInt32.toNat_or, hm]
    show a.toNat = magF a ||| 2147483648
    have := Nat.two_pow_add_eq_or_of_lt (i := 31) (b := magF a) (by unfold magF; omega) 1
    rw [show (2 ^ 31 * 1 : Nat) = 2147483648 by decide] at this
    rw [Nat.or_comm, ← this]
    unfold magF; omega
  · apply UInt32.toNat.inj
    rw [hm]; unfold magF; omega
theorem val32_all {a : UInt32} (h : magF a ≤ 1232348160) : Jvm.FP.Core.val32 a = .fin (decide (2 ^ 31 ≤ a.toNat)) (fC (magF a)) (-(fH (magF a) : Int)) := by
  obtain ⟨h1, h2, h3⟩ := split_bits a
  have hb : (a &&& 2147483647).toNat ≤ 1232348160 := by rw [h3]; exact h
  by_cases e : 2 ^ 31 ≤ a.toNat
  · have e1 : a = Jvm.FP.Core.fneg (a &&& 2147483647) := by rw [fneg_bits hb]; exact h1 e
    rw [decide_eq_true e]
    calc Jvm.FP.Core.val32 a = Jvm.FP.Core.val32 (Jvm.FP.Core.fneg (a &&& 2147483647)) := by rw [← e1]
      _ = Jvm.FP.Core.negate (Jvm.FP.Core.val32 (a &&& 2147483647)) := Jvm.FP.Core.val32_fneg _
      _ = _ := by rw [val32_bits hb, h3]; rfl
  · rw [decide_eq_false e]
    have e1 := h2 (by omega)
    calc Jvm.FP.Core.val32 a = Jvm.FP.Core.val32 (a &&& 2147483647) := by rw [← e1]
      _ = _ := by rw [val32_bits hb, h3]
theorem FFin_mag {a : UInt32} (h : magF a ≤ 1232348160) : Jvm.FP.Core.FFin a := ⟨_, _, _, val32_all h⟩
theorem f2i_b {a : UInt32} (h : magF a ≤ 1232348160) : -1048576 < (Jvm.FP.Core.f2i a).toInt ∧ (Jvm.FP.Core.f2i a).toInt < 1048576 := by
  have hd : Jvm.FP.Core.f2i a = Int32.ofInt (max (-2 ^ 31) (min (2 ^ 31 - 1) (Jvm.FP.Core.truncate (decide (2 ^ 31 ≤ a.toNat)) (fC (magF a)) (-(fH (magF a) : Int))))) := by
    unfold Jvm.FP.Core.f2i Jvm.FP.Core.toI
    rw [show Jvm.FP.Core.decode Jvm.FP.Core.b32 a.toNat = Jvm.FP.Core.val32 a from rfl, val32_all h]; rfl
  have hc := fC_lt (magF a)
  have hh := fH_b h
  have ht : -1048576 < Jvm.FP.Core.truncate (decide (2 ^ 31 ≤ a.toNat)) (fC (magF a)) (-(fH (magF a) : Int)) ∧ Jvm.FP.Core.truncate (decide (2 ^ 31 ≤ a.toNat)) (fC (magF a)) (-(fH (magF a) : Int)) < 1048576 := by
    unfold Jvm.FP.Core.truncate
    rw [show (-(fH (magF a) : Int)).toNat = 0 by omega, show (- -(fH (magF a) : Int)).toNat = fH (magF a) by omega, Nat.pow_zero, Nat.mul_one]
    have hb : fC (magF a) / 2 ^ fH (magF a) < 1048576 := by
      have h4 : 2 ^ 4 ≤ 2 ^ fH (magF a) := Nat.pow_le_pow_right (by decide) hh.1
      have : fC (magF a) / 2 ^ fH (magF a) ≤ fC (magF a) / 2 ^ 4 := Nat.div_le_div_left h4 (by decide)
      omega
    generalize fC (magF a) / 2 ^ fH (magF a) = w at hb ⊢
    unfold Jvm.FP.Core.signed
    split <;> omega
  rw [hd]
  generalize Jvm.FP.Core.truncate (decide (2 ^ 31 ≤ a.toNat)) (fC (magF a)) (-(fH (magF a) : Int)) = y at ht
  rw [show max (-2 ^ 31) (min (2 ^ 31 - 1) y) = y by omega, Int32.toInt_ofInt_of_le (by omega) (by omega)]
  exact ht
