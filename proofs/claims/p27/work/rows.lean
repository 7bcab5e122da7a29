section
/-! floats, as the library has them -/
/-- the double c * 2^k -/
def xD (c : Nat) (k : Int) : UInt64 := Jvm.FP.Core.of64 (Jvm.FP.Core.round Jvm.FP.Core.b64 (.fin false c k))
theorem val_xD {c : Nat} {k : Int} : Jvm.FP.Core.val64 (xD c k) = Jvm.FP.Core.round Jvm.FP.Core.b64 (.fin false c k) := Jvm.FP.Core.val64_of64 (Jvm.FP.Core.round_fits Jvm.FP.Core.good_b64 _)
theorem b64_qmin : Jvm.FP.Core.b64.qmin = -1074 := by decide
theorem b64_qmax : Jvm.FP.Core.b64.qmax = 971 := by decide
theorem b64_tails : Jvm.FP.Core.b64.tails = 2 ^ 52 := by decide
theorem b64_p : Jvm.FP.Core.b64.p = 53 := rfl
/-- c * 2^k is a double -/
theorem fit64 {c : Nat} {k : Int} (h0 : 0 < c) (hc : c < 2 ^ 53) (h1 : -900 ≤ k) (h2 : k ≤ 900) : ∃ n : Nat, n ≤ 52 ∧ Jvm.FP.Core.fits Jvm.FP.Core.b64 (.fin false (c * 2 ^ n) (k - n)) ∧ Jvm.FP.Core.round Jvm.FP.Core.b64 (.fin false c k) = .fin false (c * 2 ^ n) (k - n) := by
  have l1 : 2 ^ c.log2 ≤ c := Nat.log2_self_le (by omega)
  have l2 : c < 2 ^ (c.log2 + 1) := Nat.lt_log2_self
  have l3 : c.log2 < 53 := (Nat.pow_lt_pow_iff_right (by decide : 1 < 2)).mp (Nat.lt_of_le_of_lt l1 hc)
  generalize c.log2 = L at l1 l2 l3
  have hf : Jvm.FP.Core.fits Jvm.FP.Core.b64 (.fin false (c * 2 ^ (52 - L)) (k - (52 - L : Nat))) := by
    refine ⟨?_, by rw [b64_qmin]; omega, by rw [b64_qmax]; omega, Or.inr ?_⟩
    · calc c * 2 ^ (52 - L) < 2 ^ (L + 1) * 2 ^ (52 - L) := Nat.mul_lt_mul_of_pos_right l2 (Nat.two_pow_pos _)
        _ = 2 ^ Jvm.FP.Core.b64.p := by rw [← Nat.pow_add]; congr 1; rw [b64_p]; omega
    · calc Jvm.FP.Core.b64.tails = 2 ^ L * 2 ^ (52 - L) := by rw [← Nat.pow_add, b64_tails]; congr 1; omega
        _ ≤ c * 2 ^ (52 - L) := Nat.mul_le_mul_right _ l1
  refine ⟨52 - L, by omega, hf, Jvm.FP.Core.roundRatio_exact Jvm.FP.Core.good_b64 (by decide) hf ?_⟩
  rw [show (k - (k - ((52 - L : Nat) : Int))).toNat = 52 - L by omega, show (k - ((52 - L : Nat) : Int) - k).toNat = 0 by omega]
  simp
theorem xD_zero {k : Int} : Jvm.FP.Core.round Jvm.FP.Core.b64 (.fin false 0 k) = .fin false 0 Jvm.FP.Core.b64.qmin := by
  show Jvm.FP.Core.roundRatio Jvm.FP.Core.b64 false 0 1 k = _
  unfold Jvm.FP.Core.roundRatio; rw [if_pos rfl]
theorem val_xD1 {j : Nat} (hj : j ≤ 30) : Jvm.FP.Core.val64 (xD 1 j) = .fin false (2 ^ 52) ((j : Int) - 52) := by
  have : ∀ j : Fin 31, Jvm.FP.Core.round Jvm.FP.Core.b64 (.fin false 1 ((j.1 : Nat) : Int)) = .fin false (2 ^ 52) ((j.1 : Int) - 52) := by decide +kernel
  rw [val_xD]; exact this ⟨j, by omega⟩
theorem mul_xD {c j : Nat} {k : Int} (hj : j ≤ 30) (hc : c < 2 ^ 53) (h1 : -900 ≤ k) (h2 : k ≤ 860) : Jvm.FP.Core.dmul (xD c k) (xD 1 j) = xD c (k + j) := by
  have hv : Jvm.FP.Core.val64 (Jvm.FP.Core.dmul (xD c k) (xD 1 j)) = Jvm.FP.Core.round Jvm.FP.Core.b64 (.fin false c (k + j)) := by
    rw [Jvm.FP.Core.val64_dmul, val_xD1 hj, val_xD]
    by_cases h0 : c = 0
    · subst h0
      rw [xD_zero, xD_zero]
      show Jvm.FP.Core.roundRatio Jvm.FP.Core.b64 _ (0 * 2 ^ 52) 1 _ = _
      rw [Nat.zero_mul]; unfold Jvm.FP.Core.roundRatio; rw [if_pos rfl]; rfl
    · obtain ⟨n, hn, -, e⟩ := fit64 (by omega) hc h1 (by omega)
      rw [e]
      show Jvm.FP.Core.roundRatio Jvm.FP.Core.b64 false (c * 2 ^ n * 2 ^ 52) 1 (k - n + (j - 52)) = Jvm.FP.Core.roundRatio Jvm.FP.Core.b64 false c 1 (k + j)
      refine Jvm.FP.Core.roundRatio_congr (by decide) (by decide) ?_
      rw [show (k - n + ((j : Int) - 52) - (k + j)).toNat = 0 by omega, show (k + j - (k - n + ((j : Int) - 52))).toNat = n + 52 by omega, Nat.pow_add]
      simp only [Nat.mul_one, Nat.pow_zero, Nat.mul_assoc]
  refine Jvm.FP.Core.val64_inj ?_ (hv.trans val_xD.symm)
  rw [hv]
  by_cases h0 : c = 0
  · subst h0; rw [xD_zero]; exact fun h => by cases h
  · obtain ⟨n, -, -, e⟩ := fit64 (k := k + j) (by omega) hc (by omega) (by omega)
    rw [e]; exact fun h => by cases h
theorem div_xD {c j : Nat} {k : Int} (hj : j ≤ 30) (hc : c < 2 ^ 53) (h1 : -800 ≤ k) (h2 : k ≤ 900) : Jvm.FP.Core.ddiv (xD c k) (xD 1 j) = xD c (k - j) := by
  have hp : (2 : Nat) ^ 52 ≠ 0 := by decide
  have hv : Jvm.FP.Core.val64 (Jvm.FP.Core.ddiv (xD c k) (xD 1 j)) = Jvm.FP.Core.round Jvm.FP.Core.b64 (.fin false c (k - j)) := by
    rw [Jvm.FP.Core.val64_ddiv, val_xD1 hj, val_xD]
    by_cases h0 : c = 0
    · subst h0
      rw [xD_zero, xD_zero]
      show (if (2 : Nat) ^ 52 = 0 then (if (0 : Nat) = 0 then Jvm.FP.Core.Datum.nan else .inf (false != false)) else Jvm.FP.Core.roundRatio Jvm.FP.Core.b64 (false != false) 0 (2 ^ 52) (Jvm.FP.Core.b64.qmin - ((j : Int) - 52))) = _
      rw [if_neg hp]; unfold Jvm.FP.Core.roundRatio; rw [if_pos rfl]; rfl
    · obtain ⟨n, hn, -, e⟩ := fit64 (by omega) hc (by omega) h2
      rw [e]
      show (if (2 : Nat) ^ 52 = 0 then (if c * 2 ^ n = 0 then Jvm.FP.Core.Datum.nan else .inf (false != false)) else Jvm.FP.Core.roundRatio Jvm.FP.Core.b64 (false != false) (c * 2 ^ n) (2 ^ 52) (k - n - ((j : Int) - 52))) = Jvm.FP.Core.roundRatio Jvm.FP.Core.b64 false c 1 (k - j)
      rw [if_neg hp]
      refine Jvm.FP.Core.roundRatio_congr (by decide) (by decide) ?_
      rw [show (k - n - ((j : Int) - 52) - (k - j)).toNat = 52 - n by omega, show (k - j - (k - n - ((j : Int) - 52))).toNat = 0 by omega]
      rw [Nat.mul_one, Nat.pow_zero, Nat.mul_one, Nat.mul_assoc, ← Nat.pow_add, show n + (52 - n) = 52 by omega]
  refine Jvm.FP.Core.val64_inj ?_ (hv.trans val_xD.symm)
  rw [hv]
  by_cases h0 : c = 0
  · subst h0; rw [xD_zero]; exact fun h => by cases h
  · obtain ⟨n, -, -, e⟩ := fit64 (k := k - j) (by omega) hc (by omega) (by omega)
    rw [e]; exact fun h => by cases h
theorem val_xDj {j : Nat} (hj : j ≤ 60) : Jvm.FP.Core.val64 (xD 1 j) = .fin false (2 ^ 52) ((j : Int) - 52) := by
  have : ∀ j : Fin 61, Jvm.FP.Core.round Jvm.FP.Core.b64 (.fin false 1 ((j.1 : Nat) : Int)) = .fin false (2 ^ 52) ((j.1 : Int) - 52) := by decide +kernel
  rw [val_xD]; exact this ⟨j, by omega⟩
/-- how c * 2^-h stands to 2^j -/
theorem cmp_xD {c h j : Nat} (h0 : 0 < c) (hc : c < 2 ^ 53) (hh : h ≤ 800) (hj : j ≤ 60) : Jvm.FP.Core.dcmp (xD c (-(h : Int))) (xD 1 j) = some (compare (c : Int) ((2 ^ (j + h) : Nat) : Int)) := by
  obtain ⟨n, hn, -, e⟩ := fit64 (k := -(h : Int)) h0 hc (by omega) (by omega)
  show Jvm.FP.Core.order (Jvm.FP.Core.val64 _) (Jvm.FP.Core.val64 _) = _
  rw [val_xDj hj, val_xD, e]
  show some (compare (Jvm.FP.Core.signed false (Jvm.FP.Core.inUnits (c * 2 ^ n) (-(h : Int) - n) (min (-(h : Int) - n) ((j : Int) - 52)))) (Jvm.FP.Core.signed false (Jvm.FP.Core.inUnits (2 ^ 52) ((j : Int) - 52) (min (-(h : Int) - n) ((j : Int) - 52))))) = _
  obtain ⟨m, hm⟩ : ∃ m : Nat, min (-(h : Int) - n) ((j : Int) - 52) = -(h : Int) - m := ⟨(-(h : Int) - min (-(h : Int) - n) ((j : Int) - 52)).toNat, by omega⟩
  rw [hm]
  unfold Jvm.FP.Core.inUnits Jvm.FP.Core.signed
  rw [if_neg (by decide), if_neg (by decide)]
  have ea : c * 2 ^ n * 2 ^ (-(h : Int) - n - (-(h : Int) - m)).toNat = c * 2 ^ m := by
    rw [Nat.mul_assoc, ← Nat.pow_add]; congr 2; omega
  have eb : 2 ^ 52 * 2 ^ ((j : Int) - 52 - (-(h : Int) - m)).toNat = 2 ^ (j + h) * 2 ^ m := by
    rw [← Nat.pow_add, ← Nat.pow_add]; congr 1; omega
  rw [ea, eb, Int.natCast_mul, Int.natCast_mul (2 ^ (j + h)), Jvm.FP.Core.compare_mul_pos _ _ _ (by have := Nat.two_pow_pos m; omega)]
theorem i2d_xD {a : Int32} {c : Nat} (h : a.toInt = (c : Int)) : Jvm.FP.Core.i2d a = xD c 0 := by
  show Jvm.FP.Core.of64 (Jvm.FP.Core.round Jvm.FP.Core.b64 (Jvm.FP.Core.ofInt a.toInt)) = _
  rw [h]; unfold Jvm.FP.Core.ofInt xD
  rw [show decide ((c : Int) < 0) = false from decide_eq_false (by omega), Int.natAbs_natCast]
theorem d2i_xD {a : Int32} {c : Nat} (h : a.toInt = (c : Int)) : Jvm.FP.Core.d2i (xD c 0) = a := by rw [← i2d_xD h, Jvm.FP.Core.d2i_i2d]
theorem f2d_xD {a : UInt32} {c : Nat} {k : Int} (h : Jvm.FP.Core.val32 a = .fin false c k) : Jvm.FP.Core.f2d a = xD c k := by
  show Jvm.FP.Core.of64 (Jvm.FP.Core.round Jvm.FP.Core.b64 (Jvm.FP.Core.val32 a)) = _
  rw [h]; rfl
theorem pow_i2d {j : Nat} (hj : j ≤ 30) : Jvm.FP.Core.i2d (Int32.ofNat (2 ^ j)) = xD 1 j := by
  have : ∀ j : Fin 31, Jvm.FP.Core.i2d (Int32.ofNat (2 ^ j.1)) = xD 1 ((j.1 : Nat) : Int) := by decide +kernel
  exact this ⟨j, by omega⟩
theorem k_2 : (UInt64.ofNat 4611686018427387904) = xD 1 1 := by decide +kernel
theorem k_65536 : (UInt64.ofNat 4679240012837945344) = xD 1 16 := by decide +kernel
theorem k_256 : (UInt64.ofNat 4643211215818981376) = xD 1 8 := by decide +kernel
theorem k_2p23 : (UInt64.ofNat 4710765210229538816) = xD 1 23 := by decide +kernel
theorem k_2p52 : (UInt64.ofNat 4841369599423283200) = xD 1 52 := by decide +kernel
/-- a float's significand and how often it is halved -/
def fC (n : Nat) : Nat := if n / 2 ^ 23 = 0 then n % 2 ^ 23 else 2 ^ 23 + n % 2 ^ 23
def fH (n : Nat) : Nat := if n / 2 ^ 23 = 0 then 149 else 150 - n / 2 ^ 23
theorem val32_bits {a : UInt32} (h : a.toNat ≤ 1232348160) : Jvm.FP.Core.val32 a = .fin false (fC a.toNat) (-(fH a.toNat : Int)) := by
  have t : Jvm.FP.Core.b32.tails = 2 ^ 23 := by decide
  have x : Jvm.FP.Core.b32.exps = 256 := by decide
  have q : Jvm.FP.Core.b32.qmin = -149 := by decide
  unfold Jvm.FP.Core.val32 Jvm.FP.Core.decode Jvm.FP.Core.fieldE Jvm.FP.Core.fieldT Jvm.FP.Core.fieldS fC fH
  rw [t, x, q]
  generalize a.toNat = n at *
  have e1 : n / 2 ^ 23 ≤ 146 := by omega
  have e2 : n / 2 ^ 23 % 256 = n / 2 ^ 23 := Nat.mod_eq_of_lt (by omega)
  have e3 : n / 2 ^ 23 / 256 = 0 := by omega
  rw [e2, if_neg (by omega), e3]
  by_cases e0 : n / 2 ^ 23 = 0
  · rw [if_pos e0, if_pos e0, if_pos e0]; rfl
  · rw [if_neg e0, if_neg e0, if_neg e0]
    congr 1
    omega
theorem fC_lt (n : Nat) : fC n < 2 ^ 24 := by unfold fC; split <;> omega
theorem fH_b {n : Nat} (h : n ≤ 1232348160) : 4 ≤ fH n ∧ fH n ≤ 149 := by unfold fH; split <;> omega
theorem fC_cases {n : Nat} (h : n ≤ 1232348160) : (2 ^ 23 ≤ fC n) ∨ fH n = 149 := by unfold fC fH; split <;> omega
/-- the bits out of the significand and the halvings -/
theorem f_bits {n : Nat} (h : n ≤ 1232348160) : n = if fC n < 2 ^ 23 then fC n else (150 - fH n) * 2 ^ 23 + (fC n - 2 ^ 23) := by
  unfold fC fH
  by_cases e0 : n / 2 ^ 23 = 0
  · rw [if_pos e0, if_pos e0, if_pos (by omega)]; omega
  · rw [if_neg e0, if_neg e0, if_neg (by omega)]; omega
theorem f2d_bits {a : UInt32} (h : a.toNat ≤ 1232348160) : Jvm.FP.Core.f2d a = xD (fC a.toNat) (-(fH a.toNat : Int)) := f2d_xD (val32_bits h)
theorem fl_nn {a : UInt32} (h : a.toNat ≤ 1232348160) : Jvm.FP.Core.val32 a ≠ .nan := by rw [val32_bits h]; exact fun h => by cases h
theorem d2f_bits {a : UInt32} (h : a.toNat ≤ 1232348160) : Jvm.FP.Core.d2f (xD (fC a.toNat) (-(fH a.toNat : Int))) = a := by rw [← f2d_bits h, Jvm.FP.Core.d2f_f2d (fl_nn h)]
/-- the sign -/
theorem fneg_bits {a : UInt32} (h : a.toNat ≤ 1232348160) : Jvm.FP.Core.fneg a = a ||| 2147483648 := by
  have hn := fl_nn h
  have h2 : (a ||| 2147483648).toNat = a.toNat + 2147483648 := by
    rw [UInt32.toNat_or]
    show a.toNat ||| 2147483648 = _
    have := Nat.two_pow_add_eq_or_of_lt (i := 31) (b := a.toNat) (by omega) 1
    rw [show (2 ^ 31 * 1 : Nat) = 2147483648 by decide] at this
    rw [Nat.or_comm]; omega
  have hv : Jvm.FP.Core.val32 (a ||| 2147483648) = Jvm.FP.Core.negate (Jvm.FP.Core.val32 a) := by
    rw [val32_bits h]
    have t : Jvm.FP.Core.b32.tails = 2 ^ 23 := by decide
    have x : Jvm.FP.Core.b32.exps = 256 := by decide
    have q : Jvm.FP.Core.b32.qmin = -149 := by decide
    unfold Jvm.FP.Core.val32 Jvm.FP.Core.decode Jvm.FP.Core.fieldE Jvm.FP.Core.fieldT Jvm.FP.Core.fieldS fC fH
    rw [t, x, q, h2]
    generalize a.toNat = n at *
    have e2 : (n + 2147483648) / 2 ^ 23 % 256 = n / 2 ^ 23 := by omega
    have e3 : (n + 2147483648) / 2 ^ 23 / 256 = 1 := by omega
    have e4 : (n + 2147483648) % 2 ^ 23 = n % 2 ^ 23 := by omega
    rw [e2, if_neg (by omega), e3, e4]
    by_cases e0 : n / 2 ^ 23 = 0
    · rw [if_pos e0, if_pos e0, if_pos e0]; rfl
    · rw [if_neg e0, if_neg e0, if_neg e0]
      have ng : ∀ s c q, Jvm.FP.Core.negate (.fin s c q) = .fin (!s) c q := fun _ _ _ => rfl
      rw [ng]
      have hq : (-149 : Int) + (((n / 2 ^ 23 : Nat) : Int) - 1) = -((150 - n / 2 ^ 23 : Nat) : Int) := by omega
      rw [hq]
      generalize -((150 - n / 2 ^ 23 : Nat) : Int) = Y
      generalize 2 ^ 23 + n % 2 ^ 23 = W
      rfl
  refine (Jvm.FP.Core.val32_inj (a := a ||| 2147483648) (b := Jvm.FP.Core.fneg a) ?_ ?_).symm
  · rw [hv, val32_bits h]; exact fun h => by cases h
  · rw [hv, Jvm.FP.Core.val32_fneg]
/-! limits -/
def magF (a : UInt32) : Nat := a.toNat % 2 ^ 31
theorem L_key : Jvm.FP.Core.fkey 1232348160 = 1232348160 := by decide +kernel
theorem M_key : Jvm.FP.Core.fkey 3379831808 = -1232348160 := by decide +kernel
theorem L_nn : Jvm.FP.Core.val32 1232348160 ≠ .nan := by decide +kernel
theorem M_nn : Jvm.FP.Core.val32 3379831808 ≠ .nan := by decide +kernel
theorem cmp_L {v : UInt32} (h : Jvm.FP.Core.val32 v ≠ .nan) (n : Int32) : (0 < Jvm.FP.Core.cmpInt n (Jvm.FP.Core.fcmp v 1232348160)) ↔ 1232348160 < Jvm.FP.Core.fkey v := by
  rw [Jvm.FP.Core.fcmp_key h L_nn, L_key]
  rcases Int.lt_trichotomy (Jvm.FP.Core.fkey v) 1232348160 with e | e | e
  · rw [(Jvm.FP.Core.compare_lt_iff _ _).mpr e]; exact ⟨fun h => absurd h (show ¬ (0 : Int32) < -1 by decide), fun h => by omega⟩
  · rw [(Jvm.FP.Core.compare_eq_iff _ _).mpr e]; exact ⟨fun h => absurd h (show ¬ (0 : Int32) < 0 by decide), fun h => by omega⟩
  · rw [(Jvm.FP.Core.compare_gt_iff _ _).mpr e]; exact ⟨fun _ => e, fun _ => (show (0 : Int32) < 1 by decide)⟩
theorem cmp_M {v : UInt32} (h : Jvm.FP.Core.val32 v ≠ .nan) (n : Int32) : (Jvm.FP.Core.cmpInt n (Jvm.FP.Core.fcmp v 3379831808) < 0) ↔ Jvm.FP.Core.fkey v < -1232348160 := by
  rw [Jvm.FP.Core.fcmp_key h M_nn, M_key]
  rcases Int.lt_trichotomy (Jvm.FP.Core.fkey v) (-1232348160) with e | e | e
  · rw [(Jvm.FP.Core.compare_lt_iff _ _).mpr e]; exact ⟨fun _ => e, fun _ => (show (-1 : Int32) < 0 by decide)⟩
  · rw [(Jvm.FP.Core.compare_eq_iff _ _).mpr e]; exact ⟨fun h => absurd h (show ¬ (0 : Int32) < 0 by decide), fun h => by omega⟩
  · rw [(Jvm.FP.Core.compare_gt_iff _ _).mpr e]; exact ⟨fun h => absurd h (show ¬ (1 : Int32) < 0 by decide), fun h => by omega⟩
theorem key_mag {v : UInt32} : (-1232348160 ≤ Jvm.FP.Core.fkey v ∧ Jvm.FP.Core.fkey v ≤ 1232348160) ↔ magF v ≤ 1232348160 := by
  have := v.toNat_lt
  unfold Jvm.FP.Core.fkey magF
  split <;> omega
theorem nn_of_mag {v : UInt32} (h : magF v ≤ 1232348160) : Jvm.FP.Core.val32 v ≠ .nan := by
  rw [Jvm.FP.Core.ne_nan32]; unfold magF at h; omega
/-! sums and products of finite floats -/
theorem fadd_nn {a b : UInt32} (ha : Jvm.FP.Core.FFin a) (hb : Jvm.FP.Core.FFin b) : Jvm.FP.Core.val32 (Jvm.FP.Core.fadd a b) ≠ .nan := by
  obtain ⟨s, c, q, ea⟩ := ha
  obtain ⟨t, d, r, eb⟩ := hb
  rw [Jvm.FP.Core.val32_fadd, ea, eb]
  exact Jvm.FP.Core.roundRatio_ne_nan _ _ _ _ _
theorem fmul_nn {a b : UInt32} (ha : Jvm.FP.Core.FFin a) (hb : Jvm.FP.Core.FFin b) : Jvm.FP.Core.val32 (Jvm.FP.Core.fmul a b) ≠ .nan := by
  obtain ⟨s, c, q, ea⟩ := ha
  obtain ⟨t, d, r, eb⟩ := hb
  rw [Jvm.FP.Core.val32_fmul, ea, eb]
  exact Jvm.FP.Core.roundRatio_ne_nan _ _ _ _ _
theorem fadd_zs {a b : UInt32} (ha : Jvm.FP.Core.FFin a) (hb : Jvm.FP.Core.FFin b) (hz : (Jvm.FP.Core.fadd a b).toNat % 2 ^ 31 = 0) : decide (2 ^ 31 ≤ (Jvm.FP.Core.fadd a b).toNat) = (decide (2 ^ 31 ≤ a.toNat) && decide (2 ^ 31 ≤ b.toNat)) := by
  have na := ha.ne_nan
  have nb := hb.ne_nan
  rw [← Jvm.FP.Core.sgn_bits32 (fadd_nn ha hb), ← Jvm.FP.Core.sgn_bits32 na, ← Jvm.FP.Core.sgn_bits32 nb]
  have fa := Jvm.FP.Core.val32_fits a
  have fb := Jvm.FP.Core.val32_fits b
  have hv := Jvm.FP.Core.val32_fadd a b
  obtain ⟨s, c, q, ea⟩ := ha
  obtain ⟨t, d, r, eb⟩ := hb
  rw [ea] at fa
  rw [eb] at fb
  rw [ea, eb] at hv ⊢
  have hq : Jvm.FP.Core.b32.qmin ≤ min q r := by have := fa.2.1; have := fb.2.1; omega
  change _ = Jvm.FP.Core.roundRatio Jvm.FP.Core.b32 (Jvm.FP.Core.sumSign s t (Jvm.FP.Core.sumUnits s c q t d r (min q r))) (Jvm.FP.Core.sumUnits s c q t d r (min q r)).natAbs 1 (min q r) at hv
  rw [hv, Jvm.FP.Core.sgn_roundRatio]
  by_cases h0 : Jvm.FP.Core.sumUnits s c q t d r (min q r) = 0
  · rw [h0]; unfold Jvm.FP.Core.sumSign; rw [if_pos rfl]; rfl
  · have := Jvm.FP.Core.mag_ge Jvm.FP.Core.good_b32 (n := (Jvm.FP.Core.fadd a b).toNat) (m := 1) (e0 := Jvm.FP.Core.b32.qmin) hv (by decide) (Int.le_refl _) hq (by decide) (by
      rw [show Jvm.FP.Core.unitsOf Jvm.FP.Core.b32 1 = 1 by decide, Int.sub_self]
      unfold Jvm.FP.Core.inUnits
      have h1 : 1 ≤ (Jvm.FP.Core.sumUnits s c q t d r (min q r)).natAbs := by omega
      have h2 := Nat.two_pow_pos (min q r - Jvm.FP.Core.b32.qmin).toNat
      have := Nat.mul_le_mul h1 h2
      simpa using this)
    rw [Jvm.FP.Core.mag_toNat32] at this
    omega
theorem fmul_s {a b : UInt32} (ha : Jvm.FP.Core.FFin a) (hb : Jvm.FP.Core.FFin b) : decide (2 ^ 31 ≤ (Jvm.FP.Core.fmul a b).toNat) = (decide (2 ^ 31 ≤ a.toNat) != decide (2 ^ 31 ≤ b.toNat)) := by
  have na := ha.ne_nan
  have nb := hb.ne_nan
  rw [← Jvm.FP.Core.sgn_bits32 (fmul_nn ha hb), ← Jvm.FP.Core.sgn_bits32 na, ← Jvm.FP.Core.sgn_bits32 nb]
  have hv := Jvm.FP.Core.val32_fmul a b
  obtain ⟨s, c, q, ea⟩ := ha
  obtain ⟨t, d, r, eb⟩ := hb
  rw [ea, eb] at hv ⊢
  change _ = Jvm.FP.Core.roundRatio Jvm.FP.Core.b32 (s != t) (c * d) 1 (q + r) at hv
  rw [hv, Jvm.FP.Core.sgn_roundRatio]; rfl
theorem split_bits (a : UInt32) : (2 ^ 31 ≤ a.toNat → a = (a &&& 2147483647) ||| 2147483648) ∧ (a.toNat < 2 ^ 31 → a = a &&& 2147483647) ∧ (a &&& 2147483647).toNat = magF a := by
  have hm : (a &&& 2147483647).toNat = magF a := Jvm.FP.Core.mask_toNat32 a
  have hl := a.toNat_lt
  refine ⟨fun h => ?_, fun h => ?_, hm⟩
  · apply UInt32.toNat.inj
    rw [UInt32.toNat_or, hm]
    show a.toNat = magF a ||| 2147483648
    have := Nat.two_pow_add_eq_or_of_lt (i := 31) (b := magF a) (by unfold magF; omega) 1
    rw [show (2 ^ 31 * 1 : Nat) = 2147483648 by decide] at this
    rw [Nat.or_comm, ← this]
    unfold magF; omega
  · apply UInt32.toNat.inj
    rw [hm]; unfold magF; omega
theorem val32_all {a : UInt32} (h : magF a ≤ 1232348160) : Jvm.FP.Core.val32 a = .fin (decide (2 ^ 31 ≤ a.toNat)) (fC (magF a)) (-(fH (magF a) : Int)) := by
  obtain ⟨h1, h2, h3⟩ := split_bits a
  have hb : (a &&& 2147483647).toNat ≤ 1232348160 := by rw [h3]; exact h
  by_cases e : 2 ^ 31 ≤ a.toNat
  · have e1 : a = Jvm.FP.Core.fneg (a &&& 2147483647) := by rw [fneg_bits hb]; exact h1 e
    rw [decide_eq_true e]
    calc Jvm.FP.Core.val32 a = Jvm.FP.Core.val32 (Jvm.FP.Core.fneg (a &&& 2147483647)) := by rw [← e1]
      _ = Jvm.FP.Core.negate (Jvm.FP.Core.val32 (a &&& 2147483647)) := Jvm.FP.Core.val32_fneg _
      _ = _ := by rw [val32_bits hb, h3]; rfl
  · rw [decide_eq_false e]
    have e1 := h2 (by omega)
    calc Jvm.FP.Core.val32 a = Jvm.FP.Core.val32 (a &&& 2147483647) := by rw [← e1]
      _ = _ := by rw [val32_bits hb, h3]
theorem FFin_mag {a : UInt32} (h : magF a ≤ 1232348160) : Jvm.FP.Core.FFin a := ⟨_, _, _, val32_all h⟩
theorem f2i_b {a : UInt32} (h : magF a ≤ 1232348160) : -1048576 < (Jvm.FP.Core.f2i a).toInt ∧ (Jvm.FP.Core.f2i a).toInt < 1048576 := by
  have hd : Jvm.FP.Core.f2i a = Int32.ofInt (max (-2 ^ 31) (min (2 ^ 31 - 1) (Jvm.FP.Core.truncate (decide (2 ^ 31 ≤ a.toNat)) (fC (magF a)) (-(fH (magF a) : Int))))) := by
    unfold Jvm.FP.Core.f2i Jvm.FP.Core.toI
    rw [show Jvm.FP.Core.decode Jvm.FP.Core.b32 a.toNat = Jvm.FP.Core.val32 a from rfl, val32_all h]; rfl
  have hc := fC_lt (magF a)
  have hh := fH_b h
  have ht : -1048576 < Jvm.FP.Core.truncate (decide (2 ^ 31 ≤ a.toNat)) (fC (magF a)) (-(fH (magF a) : Int)) ∧ Jvm.FP.Core.truncate (decide (2 ^ 31 ≤ a.toNat)) (fC (magF a)) (-(fH (magF a) : Int)) < 1048576 := by
    unfold Jvm.FP.Core.truncate
    rw [show (-(fH (magF a) : Int)).toNat = 0 by omega, show (- -(fH (magF a) : Int)).toNat = fH (magF a) by omega, Nat.pow_zero, Nat.mul_one]
    have hb : fC (magF a) / 2 ^ fH (magF a) < 1048576 := by
      have h4 : 2 ^ 4 ≤ 2 ^ fH (magF a) := Nat.pow_le_pow_right (by decide) hh.1
      have : fC (magF a) / 2 ^ fH (magF a) ≤ fC (magF a) / 2 ^ 4 := Nat.div_le_div_left h4 (by decide)
      omega
    generalize fC (magF a) / 2 ^ fH (magF a) = w at hb ⊢
    unfold Jvm.FP.Core.signed
    split <;> omega
  rw [hd]
  generalize Jvm.FP.Core.truncate (decide (2 ^ 31 ≤ a.toNat)) (fC (magF a)) (-(fH (magF a) : Int)) = y at ht
  rw [show max (-2 ^ 31) (min (2 ^ 31 - 1) y) = y by omega, Int32.toInt_ofInt_of_le (by omega) (by omega)]
  exact ht
end
section
/-! ===== BEGIN words of one list among another's, by their places ===== -/
theorem goodIn_r {big : List Cond} (ws : List Cond) (ps : List Nat) (hp : ws = ps.filterMap (fun i => big[i]?)) (h : ws.all goodWord = true) : GoodIn big ws := by
  intro w hw
  have h1 := List.all_eq_true.mp h w hw
  rw [hp] at hw
  obtain ⟨i, -, hi⟩ := List.mem_filterMap.mp hw
  have hm : w ∈ big := by first | exact List.mem_of_getElem? hi | exact List.getElem?_mem hi
  exact ⟨hm, good_of_word h1⟩
theorem goodIn_app {big a b : List Cond} (ha : GoodIn big a) (hb : GoodIn big b) : GoodIn big (a ++ b) := fun w h => (List.mem_append.mp h).elim (ha w) (hb w)
theorem goodIn_ca {big a b : List Cond} {c : Cond} (ha : GoodIn big (c :: a)) (hb : GoodIn big b) : GoodIn big (c :: (a ++ b)) := fun w h => (List.mem_cons.mp h).elim (fun e => ha w (List.mem_cons.mpr (Or.inl e))) (fun h => (List.mem_append.mp h).elim (fun h => ha w (List.mem_cons.mpr (Or.inr h))) (hb w))
theorem goodIn_sub {big ws : List Cond} (hm : ∀ w ∈ ws, w ∈ big) (h : ws.all goodWord = true) : GoodIn big ws := fun w hw => ⟨hm w hw, good_of_word (List.all_eq_true.mp h w hw)⟩
/-! ===== END ===== -/

/-! ===== BEGIN exceptions that leave a method, and their catching by the caller (launches without stack traces) ===== -/
section VXA
/-! The laws vx_back, vx_callV, vx_callS, vx_callSW, vx_throw0, vx_throwS follow proofs of the library, with one case more: JvmDerived/Free/Laws.lean (Back.of_free), Shelf42/LK1.lean (callV, callS), Shelf/KitTraced.lean (throwNew0V, throwNewS). -/
/-- where a method has thrown q: the class by its name, the cell, what was written, the world -/
def vx_T (XC : String → State → State → Prop) (st : State) (q : Addr) (t : State) (mc ms : Nat) (free : Addr → Prop) : Prop :=
  ∃ (E : String) (ce : Cell) (L : List Loc), XC E st t ∧ t.heap[q]? = some ce ∧ ce.vm = .none ∧ st.vm.findClass E = some ce.cls ∧ st.WarmedH t.vm ∧ st.sameButNew ({ t with vm := st.vm } : State) L mc ms ∧ ∀ z ∈ L, free z.base
def vx_Q (Qc : Array Value → State → Outcome → State → Prop) (XC : String → State → State → Prop) (mc ms : Nat) (free : Addr → Prop) : Array Value → State → Outcome → State → Prop := fun a st o t =>
  (Qc a st o t ∧ ∃ L, FrameEnd st o t L mc ms ∧ ∀ q ∈ L, free q.base) ∨ ∃ q, o = .threw q ∧ vx_T XC st q t mc ms free
/-- a callee that returns or throws -/
def vx_Met (l : Launch) (y : MethodName) (ws : List Cond) (rm : Room) (Pc : Array Value → State → Prop) (Qc : Array Value → State → Outcome → State → Prop) (XC : String → State → State → Prop) (mc ms : Nat) (free : Addr → Prop) : Prop :=
  MetFree l y (headSpec ws rm) Pc (fun _ _ _ _ _ => True) (vx_Q Qc XC mc ms free)
def vx_Post (XC : String → State → State → Prop) (mc ms : Nat) (free : Addr → Prop) : Pt → Array Value → Addr → Pt → Prop := fun A a q B =>
  ∃ (g : JFrame) (mk : MethodId) (t : State) (L : List Loc) (E : String) (ce : Cell), B.U.heap = t.heap ∧ B.U.vm = t.vm ∧ XC E (A.U.calling g mk a) t ∧ t.heap[q]? = some ce ∧ ce.vm = .none ∧ A.U.vm.findClass E = some ce.cls ∧ B.locs = A.locs ++ L ∧ (∀ z ∈ L, free z.base) ∧ B.cells = A.cells + mc ∧ B.slots = A.slots + ms
def vx_Back (l : Launch) (R : Room) (p : Program) (e : Env) (below : List Frame) (s : State) (sargs : Array Value) (y : MethodName) (len W9 : Nat)
    (Pre : Pt → Array Value → Prop) (Post : Pt → Array Value → Option Value → Pt → Prop) (PostX : Pt → Array Value → Addr → Pt → Prop) : Prop :=
  ∀ (m : MethodId) (meth : Method) (c : Code) (A : Pt) (g : JFrame) (ig : Instr) (mk : MethodId) (a : Array Value),
    Stand p l e R s m sargs below meth c A.U A.locs A.cells A.slots → g.method = m → g.locals.size = c.maxLocals → decode c.code g.pc = .ok (ig, len) →
    2 * g.monitorRoom + (g.stack.map fun v => v.category).sum ≤ W9 → A.U.methodNamed? y = some mk → Pre A a →
    (∃ (v : Option Value) (B : Pt), Stand p l e R s m sargs below meth c B.U B.locs B.cells B.slots ∧ Post A a v B ∧
      Steps p.tables e below (doInvoke e (A.U.setTop g) [] mk a).1 (B.U.setTop { g with pc := g.pc + len, stack := v.toList ++ g.stack })) ∨
    (∃ (q : Addr) (B : Pt), Stand p l e R s m sargs below meth c B.U B.locs B.cells B.slots ∧ PostX A a q B ∧
      Steps p.tables e below (doInvoke e (A.U.setTop g) [] mk a).1 ((B.U.setTop g).pushFrame (.throwing q)))
section Payer
variable {l : Launch} {R : Room} {p : Program} {e : Env} {below : List Frame} {s : State} {sargs : Array Value} {y : MethodName} {len W9 : Nat}
theorem vx_back {ws : List Cond} {rm : Room} {Pc : Array Value → State → Prop} {Qc : Array Value → State → Outcome → State → Prop} {XC : String → State → State → Prop} {mc ms : Nat} {free : Addr → Prop} {bytes : ByteArray} {maxL : Nat} {ret : Option FieldType}
    (hM : vx_Met l y ws rm Pc Qc XC mc ms free) (hblind : FrameBlind Pc) (hrc : rm.cells = mc) (hrs : rm.slots = ms)
    (hframes : rm.frames + 1 ≤ R.frames) (hlocals : W9 + (maxL + 11) + rm.locals ≤ R.locals)
    (hws : ∀ w ∈ ws, ∀ a' U, s.WarmedH U.vm → w.before a' U = true) (hcode : Cond.code y bytes maxL ret ∈ ws) (hinit : ∀ a' U, s.WarmedH U.vm → (Cond.initialized y.cls).before a' U = true) :
    vx_Back l R p e below s sargs y len W9 (PreOf R mc ms Pc) (PostOf Qc mc ms free) (vx_Post XC mc ms free) := by
  intro m meth c A g ig mk a X hg hsize hdg hW hn hp
  have h1 : (headSpec ws rm).pre.before a A.U = true := atoms_intro fun w hw => hws w hw _ _ X.warmed
  have h2 : (Cond.code y bytes maxL ret).before a A.U = true := hws _ hcode _ _ X.warmed
  have h3 : (Cond.initialized y.cls).before a A.U = true := hinit _ _ X.warmed
  have h4 : A.cells + (headSpec ws rm).room.cells ≤ R.cells := by rw [show (headSpec ws rm).room.cells = mc from hrc]; exact hp.1
  have h5 : A.slots + (headSpec ws rm).room.slots ≤ R.slots := by rw [show (headSpec ws rm).room.slots = ms from hrs]; exact hp.2.1
  have hPc : Pc a (A.U.calling g mk a) := hblind _ _ _ _ hp.2.2
  obtain ⟨U, Ls, c0, s0⟩ := A
  dsimp only [Pt.U, Pt.locs, Pt.cells, Pt.slots] at h1 h2 h3 h4 h5 X hn hPc ⊢
  obtain ⟨methY, cY, hmY, hcY, -, hlY, -, -, -, -⟩ := Cond.code_spec hn h2
  obtain ⟨kY, hkY, -⟩ := className_of_methodNamed hn
  have hinitY : kY.init = .initialized := Cond.initialized_spec (findClass_of_methodNamed hn) hkY h3
  have h : At U g.method c below := by rw [hg]; exact X.here
  have hlocals9 : W9 + (maxL + 11) + (headSpec ws rm).room.locals ≤ R.locals := hlocals
  have happ : (headSpec ws rm).appliesLoose y e.platform (U.calling g mk a) = true :=
    Spec.appliesLoose_calling (g := g) h hdg hn hkY hinitY
      (X.room_calling (g := g) (R' := (headSpec ws rm).room) hsize hmY hcY hframes (by rw [hlY]; omega) h4 h5) h1
  obtain ⟨mid, hmid⟩ := h.above
  have hfr : (U.setTop g).frames = (.java g :: mid) ++ below := by rw [State.frames_setTop' g h.top, hmid]; rfl
  obtain ⟨o, s₂, hsteps, -, hend, hq⟩ := Steps.callFree hM p X.admits X.cas X.clock (acts := []) hfr happ hPc trivial
  have hq' : vx_Q Qc XC mc ms free a (U.calling g mk a) o s₂ := hq
  rw [State.frames_setTop' g h.top] at hend
  obtain ⟨g₀, hg0⟩ := Option.isSome_iff_exists.mp h.top
  obtain ⟨r, hr⟩ := State.topJava?_eq_some.mp hg0
  have hr' : (({ U with heap := s₂.heap, slotsUsed := s₂.slotsUsed } : State).setVm s₂.vm).frames = .java g₀ :: r := hr
  rcases hq' with ⟨hqc, L, hfe, hL⟩ | ⟨q, rfl, E, ce, L, hx, hce, hcv, hcl, hW₂, hsm, hL⟩
  · obtain ⟨⟨v, rfl⟩, hW₂, e2, q2, q3, q4, q5, q6⟩ := id hfe
    have e3 : s₂ = ({ (U.calling g mk a).setFrames s₂.frames with heap := s₂.heap, slotsUsed := s₂.slotsUsed } : State).setVm s₂.vm := by
      have : s₂ = ({ s₂ with vm := (U.calling g mk a).vm } : State).setVm s₂.vm := rfl
      rw [e2] at this
      exact this
    obtain ⟨c₂, i₂, len₂, hc₂, hd₂, hf₂⟩ := hend
    have hW' : U.WarmedH s₂.vm := hW₂
    have hcc : c₂ = c := by
      have h1 : s₂.code? g.method = U.code? g.method := by
        rw [State.code?_eq, State.code?_eq, hW'.alike.method?]
      exact Option.some.inj (hc₂.symm.trans (h1.trans h.code))
    subst hcc
    have hlen : len₂ = len := by rw [hdg] at hd₂; cases hd₂; rfl
    subst hlen
    have hs₂ : s₂ = (({ U with heap := s₂.heap, slotsUsed := s₂.slotsUsed } : State).setVm s₂.vm).setTop { g with pc := g.pc + len₂, stack := v.toList ++ g.stack } := by
      refine e3.trans ?_
      rw [hf₂, State.calling_eq h.top, State.setFrames_setFrames, State.setTop_of_frames _ hr', hr]
      rfl
    have hsame : U.sameButNew ({ U with heap := s₂.heap, slotsUsed := s₂.slotsUsed } : State) L mc ms := by
      refine ⟨?_, q2, q3, q4, q5, q6⟩
      obtain ⟨t, ht, -⟩ := State.frames_cons hr
      show ({ U with heap := s₂.heap, slotsUsed := s₂.slotsUsed } : State) = { U.setFrames U.frames with heap := s₂.heap, slotsUsed := s₂.slotsUsed }
      rw [State.setFrames_self ht]
    subst hg
    refine Or.inl ⟨v, ⟨(({ U with heap := s₂.heap, slotsUsed := s₂.slotsUsed } : State).setVm s₂.vm), Ls ++ L, c0 + mc, s0 + ms⟩,
      ⟨X.admits, X.cas, X.clock, X.frames, X.room, X.hears, X.method, X.code, (X.here.setHeapUsed s₂.heap s₂.slotsUsed).setVm hW'.alike, X.tail, State.WarmedH.trans X.warmed hW', X.limits, X.bytes, X.same.trans (hsame.setVm s.vm)⟩,
      ⟨g, mk, s₂, L, rfl, rfl, hqc, rfl, hL, rfl, rfl⟩, ?_⟩
    show Steps p.tables e below _ ((({ U with heap := s₂.heap, slotsUsed := s₂.slotsUsed } : State).setVm s₂.vm).setTop { g with pc := g.pc + len₂, stack := v.toList ++ g.stack })
    rw [← hs₂]
    exact hsteps
  · obtain ⟨e2, q2, q3, q4, q5, q6⟩ := id hsm
    have e3 : s₂ = ({ (U.calling g mk a).setFrames s₂.frames with heap := s₂.heap, slotsUsed := s₂.slotsUsed } : State).setVm s₂.vm := by
      have : s₂ = ({ s₂ with vm := (U.calling g mk a).vm } : State).setVm s₂.vm := rfl
      rw [e2] at this
      exact this
    have hf₂ : s₂.frames = .throwing q :: .java g :: U.frames.tail := hend
    have hW' : U.WarmedH s₂.vm := hW₂
    have hs₂ : s₂ = ((({ U with heap := s₂.heap, slotsUsed := s₂.slotsUsed } : State).setVm s₂.vm).setTop g).pushFrame (.throwing q) := by
      refine e3.trans ?_
      rw [hf₂, State.calling_eq h.top, State.setFrames_setFrames, State.pushFrame, State.frames_setTop _ hr', State.setTop_of_frames _ hr', State.setFrames_setFrames, hr]
      rfl
    have hsame : U.sameButNew ({ U with heap := s₂.heap, slotsUsed := s₂.slotsUsed } : State) L mc ms := by
      refine ⟨?_, q2, q3, q4, q5, q6⟩
      obtain ⟨t, ht, -⟩ := State.frames_cons hr
      show ({ U with heap := s₂.heap, slotsUsed := s₂.slotsUsed } : State) = { U.setFrames U.frames with heap := s₂.heap, slotsUsed := s₂.slotsUsed }
      rw [State.setFrames_self ht]
    subst hg
    refine Or.inr ⟨q, ⟨(({ U with heap := s₂.heap, slotsUsed := s₂.slotsUsed } : State).setVm s₂.vm), Ls ++ L, c0 + mc, s0 + ms⟩,
      ⟨X.admits, X.cas, X.clock, X.frames, X.room, X.hears, X.method, X.code, (X.here.setHeapUsed s₂.heap s₂.slotsUsed).setVm hW'.alike, X.tail, State.WarmedH.trans X.warmed hW', X.limits, X.bytes, X.same.trans (hsame.setVm s.vm)⟩,
      ⟨g, mk, s₂, L, E, ce, rfl, rfl, hx, hce, hcv, hcl, rfl, hL, rfl, rfl⟩, ?_⟩
    show Steps p.tables e below _ (((({ U with heap := s₂.heap, slotsUsed := s₂.slotsUsed } : State).setVm s₂.vm).setTop g).pushFrame (.throwing q))
    rw [← hs₂]
    exact hsteps
end Payer
section Calls
variable {p : Program} {l : Launch} {e : Env} {R : Room} {s : State} {m : MethodId} {args : Array Value} {below : List Frame} {meth : Method} {c : Code} {T : State} {locs : List Loc} {cells slots : Nat}
theorem vx_callV (X : Stand p l e R s m args below meth c T locs cells slots) (hexec : p.tables.exec = Jvm.exec) {own C : String} {index : Nat} {y : MethodName} {bytes : ByteArray} {maxL : Nat} {ret : Option FieldType}
    (hown : s.vm.findClass own = some m.cls) (hlink : (Cond.methodLink own index y).before args s = true) (hinst : (Cond.instanceMethod y).before args s = true) (hsel : (Cond.selects C y y).before args s = true)
    (hcode : (Cond.code y bytes maxL ret).before args s = true) (hy : y.cls ≠ "java/lang/invoke/MethodHandle" ∧ y.cls ≠ "java/lang/invoke/VarHandle")
    {W9 : Nat} {Pre : Pt → Array Value → Prop} {Post : Pt → Array Value → Option Value → Pt → Prop} {PostX : Pt → Array Value → Addr → Pt → Prop} (hK : vx_Back l R p e below s args y 3 W9 Pre Post PostX)
    {b : Addr} {cellB : Cell} (hcell : T.heap[b]? = some cellB) (hobj : cellB.vm.isStatics = false) (hcls : s.vm.findClass C = some cellB.cls)
    {g : JFrame} (hg : g.method = m) (hsize : g.locals.size = c.maxLocals) {argsL rest : List Value} (hlen : ∀ sig, parseMethodDescriptor y.desc = some sig → argsL.length = sig.parameters.length)
    (hstack : g.stack = argsL.reverse ++ .ref b :: rest) (hW : 2 * g.monitorRoom + (rest.map fun v => v.category).sum ≤ W9) (hdg : decode c.code g.pc = .ok (.invokevirtual index, 3))
    (hpre : ∀ vm₁, s.WarmedH vm₁ → Pre ⟨T.setVm vm₁, locs, cells, slots⟩ (Value.ref b :: argsL).toArray) :
    (∃ (v : Option Value) (vm₁ : Vm) (B : Pt), s.WarmedH vm₁ ∧ Stand p l e R s m args below meth c B.U B.locs B.cells B.slots ∧ Post ⟨T.setVm vm₁, locs, cells, slots⟩ (Value.ref b :: argsL).toArray v B ∧
      ∀ target, Steps p.tables e below (B.U.setTop { g with pc := g.pc + 3, stack := v.toList ++ rest }) target → Steps p.tables e below (T.setTop g) target) ∨
    (∃ (q : Addr) (vm₁ : Vm) (B : Pt), s.WarmedH vm₁ ∧ Stand p l e R s m args below meth c B.U B.locs B.cells B.slots ∧ PostX ⟨T.setVm vm₁, locs, cells, slots⟩ (Value.ref b :: argsL).toArray q B ∧
      Steps p.tables e below (T.setTop g) ((B.U.setTop { g with stack := rest }).pushFrame (.throwing q))) := by
  obtain ⟨mk, methM, hnamed, hmethM, hstM, habM⟩ := Cond.instanceMethod_spec hinst
  obtain ⟨methM', cM, hmethM', -, -, -, -, -, -, hsigM⟩ := Cond.code_spec hnamed hcode
  cases hmethM.symm.trans hmethM'
  obtain ⟨c2, r2, m2, q1, q2, q3, q4, kP, hkP, hkPi⟩ := Cond.selects_spec hsel
  cases hcls.symm.trans q1
  cases (State.methodFound?_of_named hnamed hy).symm.trans q2
  cases hnamed.symm.trans q3
  have hselP : selectMethod e.platform s.vm cellB.cls mk = .method mk := by rw [Launch.admits_selectMethod X.admits]; exact q4
  obtain ⟨vm₁, X₁, hstep₁⟩ := X.invokevirtual hexec hown hlink hnamed hmethM hstM hkP hkPi hy (a := b) (cell := cellB) hcell
    (fun z h => by rw [h] at hobj; cases hobj) hselP hmethM habM hkP hkPi (g := g) hg (argsL := argsL) (rest := rest) (hlen _ hsigM) hstack hdg
  rcases hK m meth c ⟨T.setVm vm₁, locs, cells, slots⟩ { g with stack := rest } (.invokevirtual index) mk (Value.ref b :: argsL).toArray X₁ hg hsize hdg hW (X₁.named hnamed) (hpre vm₁ X₁.warmed) with ⟨v, B, X', hpost, hsteps⟩ | ⟨q, B, X', hpost, hsteps⟩
  · exact Or.inl ⟨v, vm₁, B, X₁.warmed, X', hpost, fun target h => hstep₁ _ fun acts => by rw [doInvoke_state]; exact hsteps.trans h⟩
  · exact Or.inr ⟨q, vm₁, B, X₁.warmed, X', hpost, hstep₁ _ fun acts => by rw [doInvoke_state]; exact hsteps⟩
theorem vx_callS (X : Stand p l e R s m args below meth c T locs cells slots) (hexec : p.tables.exec = Jvm.exec) {own : String} {index : Nat} {y : MethodName} {bytes : ByteArray} {maxL : Nat} {ret : Option FieldType}
    (hown : s.vm.findClass own = some m.cls) (hlink : (Cond.methodLink own index y).before args s = true) (hstat : (Cond.static y).before args s = true) (hinit : (Cond.initialized y.cls).before args s = true)
    (hcode : (Cond.code y bytes maxL ret).before args s = true) (hy : y.cls ≠ "java/lang/invoke/MethodHandle" ∧ y.cls ≠ "java/lang/invoke/VarHandle")
    {W9 : Nat} {Pre : Pt → Array Value → Prop} {Post : Pt → Array Value → Option Value → Pt → Prop} {PostX : Pt → Array Value → Addr → Pt → Prop} (hK : vx_Back l R p e below s args y 3 W9 Pre Post PostX)
    {g : JFrame} (hg : g.method = m) (hsize : g.locals.size = c.maxLocals) {argsL rest : List Value} (hlen : ∀ sig, parseMethodDescriptor y.desc = some sig → argsL.length = sig.parameters.length)
    (hstack : g.stack = argsL.reverse ++ rest) (hW : 2 * g.monitorRoom + (rest.map fun v => v.category).sum ≤ W9) (hdg : decode c.code g.pc = .ok (.invokestatic index, 3))
    (hpre : ∀ vm₁, s.WarmedH vm₁ → Pre ⟨T.setVm vm₁, locs, cells, slots⟩ argsL.toArray) :
    (∃ (v : Option Value) (vm₁ : Vm) (B : Pt), s.WarmedH vm₁ ∧ Stand p l e R s m args below meth c B.U B.locs B.cells B.slots ∧ Post ⟨T.setVm vm₁, locs, cells, slots⟩ argsL.toArray v B ∧
      ∀ target, Steps p.tables e below (B.U.setTop { g with pc := g.pc + 3, stack := v.toList ++ rest }) target → Steps p.tables e below (T.setTop g) target) ∨
    (∃ (q : Addr) (vm₁ : Vm) (B : Pt), s.WarmedH vm₁ ∧ Stand p l e R s m args below meth c B.U B.locs B.cells B.slots ∧ PostX ⟨T.setVm vm₁, locs, cells, slots⟩ argsL.toArray q B ∧
      Steps p.tables e below (T.setTop g) ((B.U.setTop { g with stack := rest }).pushFrame (.throwing q))) := by
  obtain ⟨mk, hnamed⟩ := Cond.code_named hcode
  obtain ⟨methM, cM, hmethM, -, -, -, -, -, -, hsigM⟩ := Cond.code_spec hnamed hcode
  have hstatic : methM.isStatic = true := Cond.static_spec hnamed hmethM hstat
  obtain ⟨kP, hkP, -⟩ := className_of_methodNamed hnamed
  have hinitP : kP.init = .initialized := Cond.initialized_spec (findClass_of_methodNamed hnamed) hkP hinit
  obtain ⟨vm₁, X₁, hstep₁⟩ := X.invokestatic hexec hown hlink hnamed hmethM hstatic hkP hinitP hy (g := g) hg (argsL := argsL) (rest := rest) (hlen _ hsigM) hstack hdg
  rcases hK m meth c ⟨T.setVm vm₁, locs, cells, slots⟩ { g with stack := rest } (.invokestatic index) mk argsL.toArray X₁ hg hsize hdg hW (X₁.named hnamed) (hpre vm₁ X₁.warmed) with ⟨v, B, X', hpost, hsteps⟩ | ⟨q, B, X', hpost, hsteps⟩
  · exact Or.inl ⟨v, vm₁, B, X₁.warmed, X', hpost, fun target h => hstep₁ _ fun acts => by rw [doInvoke_state]; exact hsteps.trans h⟩
  · exact Or.inr ⟨q, vm₁, B, X₁.warmed, X', hpost, hstep₁ _ fun acts => by rw [doInvoke_state]; exact hsteps⟩
end Calls
theorem vx_cls {s : State} {T : State} {vm₁ : Vm} {E : String} {k : ClassId} (hW : s.WarmedH vm₁) (h : (T.setVm vm₁).vm.findClass E = some k) : s.vm.findClass E = some k := by
  have h1 : vm₁.findClass E = some k := h
  rw [hW.alike.findClass] at h1
  exact h1
/-- the method's frame g, with q thrown over it -/
def vx_W (p : Program) (l : Launch) (e : Env) (R : Room) (s : State) (m : MethodId) (args : Array Value) (below : List Frame) (meth : Method) (c : Code) (H : Heap) (locs : List Loc) (cells slots : Nat) (Q : State → Prop) (g : JFrame) (q : Addr) : Prop :=
  ∀ T : State, T.heap = H → Stand p l e R s m args below meth c T locs cells slots → ∃ t, Steps p.tables e below ((T.setTop g).pushFrame (.throwing q)) t ∧ Q t
def vx_Run (p : Program) (l : Launch) (e : Env) (R : Room) (s : State) (m : MethodId) (args : Array Value) (below : List Frame) (meth : Method) (c : Code) (H : Heap) (locs : List Loc) (cells slots mc ms : Nat) (g : JFrame) (rest : List Value) (Qa : State → Outcome → State → Prop) (XC : String → State → State → Prop) (free : Addr → Prop) : Prop :=
  ∀ T : State, T.heap = H → Stand p l e R s m args below meth c T locs cells slots →
    (∃ (v : Option Value) (st₀ t T' : State) (L : List Loc), st₀.heap = H ∧ Stand p l e R s m args below meth c T' (locs ++ L) (cells + mc) (slots + ms) ∧ (∀ q ∈ L, free q.base) ∧ T'.heap = t.heap ∧ T'.vm = t.vm ∧ Qa st₀ (.returned v) t ∧
      Goes p e below T g T' { g with pc := g.pc + 3, stack := v.toList ++ rest }) ∨
    (∃ (q : Addr) (st₀ t T' : State) (L : List Loc) (E : String) (ce : Cell), st₀.heap = H ∧ Stand p l e R s m args below meth c T' (locs ++ L) (cells + mc) (slots + ms) ∧ (∀ z ∈ L, free z.base) ∧ T'.heap = t.heap ∧ T'.vm = t.vm ∧ XC E st₀ t ∧ t.heap[q]? = some ce ∧ ce.vm = .none ∧ s.vm.findClass E = some ce.cls ∧
      Steps p.tables e below (T.setTop g) ((T'.setTop { g with stack := rest }).pushFrame (.throwing q)))
def vx_X {S : Type} (px : S → Prop) (B : String → S → State → Prop) (A : Nat → Prop) : String → State → State → Prop := fun E st t => ∃ u : S, px u ∧ B E u t ∧ va_F A st t
section Runs
variable {p : Program} {l : Launch} {e : Env} {R : Room} {s : State} {m : MethodId} {args : Array Value} {below : List Frame} {meth : Method} {c : Code} {H : Heap} {locs : List Loc} {cells slots : Nat}
variable {y : MethodName} {bytes cc : ByteArray} {maxL nL mc ms n index : Nat} {ret : Option FieldType} {ws : List Cond} {rm : Room} {Pc : Array Value → State → Prop} {Qc : Array Value → State → Outcome → State → Prop} {XC : String → State → State → Prop} {free : Addr → Prop} {Ts : List Cond} {own C : String} {b : Addr} {As rest : List Value} {g : JFrame}
theorem vx_callBack (cb : CallB R s args own index y bytes maxL ret ws rm mc ms n) (hM : vx_Met l y ws rm Pc Qc XC mc ms free) (hbl : FrameBlind Pc) : vx_Back l R p e below s args y 3 8 (PreOf R mc ms Pc) (PostOf Qc mc ms free) (vx_Post XC mc ms free) := by
  obtain ⟨hrc, hrs, hfr, hlo, hws, hcw, -, hini, -⟩ := cb
  exact vx_back (bytes := bytes) (maxL := maxL) (ret := ret) hM hbl hrc hrs hfr hlo hws hcw (fun a' U hW => word_at hW (Or.inl (by first | rfl | simp [Cond.onTables, Cond.keeps, Cond.steady])) hini)
theorem vx_runV (S : CallFix p m c cc nL s args Ts own) (hM : vx_Met l y ws rm Pc Qc XC mc ms free) (cw : CallW R s args own C index y bytes maxL ret ws rm mc ms n) (hp : PreV s H C b Pc As)
    (hg : g.method = m) (hn : As.length = n) (hsize : g.locals.size = nL) (hstack : g.stack = As.reverse ++ .ref b :: rest) (hW : 2 * g.monitorRoom + (rest.map fun v => v.category).sum ≤ 8) (hdg : decode cc g.pc = .ok (.invokevirtual index, 3)) (hf : cells + mc ≤ R.cells ∧ slots + ms ≤ R.slots) :
    vx_Run p l e R s m args below meth c H locs cells slots mc ms g rest (Qc (Value.ref b :: As).toArray) XC free := by
  have hK : vx_Back l R p e below s args y 3 8 (PreOf R mc ms Pc) (PostOf Qc mc ms free) (vx_Post XC mc ms free) := vx_callBack cw.1 hM hp.1
  obtain ⟨⟨-, -, -, -, -, -, hcode, -, hy, hlen, hl⟩, hin, hse⟩ := cw
  obtain ⟨hx, hb, hml, ho, -⟩ := S
  obtain ⟨-, ⟨cellB, hcB, hoB, hclB⟩, hPc⟩ := hp
  intro T hT X
  rcases vx_callV X hx (C := C) (bytes := bytes) (maxL := maxL) (ret := ret) ho hl hin hse hcode hy hK (by rw [hT]; exact hcB) hoB hclB hg (hsize.trans hml.symm) (argsL := As) (rest := rest) (fun sig h => hn.trans (hlen sig h)) hstack hW (by rw [hb]; exact hdg)
    (fun vm₁ hW₁ => ⟨hf.1, hf.2, hPc (T.setVm vm₁) hT hW₁⟩) with ⟨v, vm₁, ⟨U', l2, c2, s2⟩, hW₁, X', ⟨g', mk, t, L, e1, e2, hq, h1, hL, h2, h3⟩, st⟩ | ⟨q, vm₁, ⟨U', l2, c2, s2⟩, hW₁, X', ⟨g', mk, t, L, E, ce, e1, e2, hq, hce, hcv, hcl, h1, hL, h2, h3⟩, st⟩
  · dsimp only [Pt.U, Pt.locs, Pt.cells, Pt.slots] at X' e1 e2 h1 h2 h3 st
    subst h1; subst h2; subst h3
    exact Or.inl ⟨v, (T.setVm vm₁).calling g' mk (Value.ref b :: As).toArray, t, U', L, hT, X', hL, e1, e2, hq, st⟩
  · dsimp only [Pt.U, Pt.locs, Pt.cells, Pt.slots] at X' e1 e2 h1 h2 h3 st hcl
    subst h1; subst h2; subst h3
    exact Or.inr ⟨q, (T.setVm vm₁).calling g' mk (Value.ref b :: As).toArray, t, U', L, E, ce, hT, X', hL, e1, e2, hq, hce, hcv, vx_cls hW₁ hcl, st⟩
theorem vx_runS (S : CallFix p m c cc nL s args Ts own) (hM : vx_Met l y ws rm Pc Qc XC mc ms free) (cw : CallB R s args own index y bytes maxL ret ws rm mc ms n ∧ (Cond.static y).before args s = true) (hp : PreS s H Pc As)
    (hg : g.method = m) (hn : As.length = n) (hsize : g.locals.size = nL) (hstack : g.stack = As.reverse ++ rest) (hW : 2 * g.monitorRoom + (rest.map fun v => v.category).sum ≤ 8) (hdg : decode cc g.pc = .ok (.invokestatic index, 3)) (hf : cells + mc ≤ R.cells ∧ slots + ms ≤ R.slots) :
    vx_Run p l e R s m args below meth c H locs cells slots mc ms g rest (Qc As.toArray) XC free := by
  have hK : vx_Back l R p e below s args y 3 8 (PreOf R mc ms Pc) (PostOf Qc mc ms free) (vx_Post XC mc ms free) := vx_callBack cw.1 hM hp.1
  obtain ⟨⟨-, -, -, -, -, -, hcode, hini, hy, hlen, hl⟩, hstt⟩ := cw
  obtain ⟨hx, hb, hml, ho, -⟩ := S
  intro T hT X
  rcases vx_callS X hx (bytes := bytes) (maxL := maxL) (ret := ret) ho hl hstt hini hcode hy hK hg (hsize.trans hml.symm) (argsL := As) (rest := rest) (fun sig h => hn.trans (hlen sig h)) hstack hW (by rw [hb]; exact hdg)
    (fun vm₁ hW₁ => ⟨hf.1, hf.2, hp.2 (T.setVm vm₁) hT hW₁⟩) with ⟨v, vm₁, ⟨U', l2, c2, s2⟩, hW₁, X', ⟨g', mk, t, L, e1, e2, hq, h1, hL, h2, h3⟩, st⟩ | ⟨q, vm₁, ⟨U', l2, c2, s2⟩, hW₁, X', ⟨g', mk, t, L, E, ce, e1, e2, hq, hce, hcv, hcl, h1, hL, h2, h3⟩, st⟩
  · dsimp only [Pt.U, Pt.locs, Pt.cells, Pt.slots] at X' e1 e2 h1 h2 h3 st
    subst h1; subst h2; subst h3
    exact Or.inl ⟨v, (T.setVm vm₁).calling g' mk As.toArray, t, U', L, hT, X', hL, e1, e2, hq, st⟩
  · dsimp only [Pt.U, Pt.locs, Pt.cells, Pt.slots] at X' e1 e2 h1 h2 h3 st hcl
    subst h1; subst h2; subst h3
    exact Or.inr ⟨q, (T.setVm vm₁).calling g' mk As.toArray, t, U', L, E, ce, hT, X', hL, e1, e2, hq, hce, hcv, vx_cls hW₁ hcl, st⟩
end Runs
section Rows
variable {p : Program} {l : Launch} {e : Env} {R : Room} {s : State} {m : MethodId} {args : Array Value} {below : List Frame} {meth : Method} {c : Code} {H : Heap} {locs : List Loc} {cells slots : Nat} {Q : State → Prop}
variable {mc ms : Nat} {free : Addr → Prop} {A0 A1 : Nat → Prop} {H0 : Heap} {a : Array Value} {pc : Nat} {ls : Array Slot} {st0 rest : List Value}
theorem vx_keep {st₀ t T' : State} {L : List Loc} (h0 : st₀.heap = H) (e1 : T'.heap = t.heap) (hS : va_S A0 H0 H locs) (hA : ∀ q, q < H.size → A1 q → A0 q) (hf : ∀ q, free q → A0 q) (hL : ∀ q ∈ L, free q.base) (hF : va_F A1 st₀ t) :
    H.size ≤ T'.heap.size ∧ (∀ q : Nat, q < H.size → ¬ A1 q → T'.heap[q]? = H[q]?) ∧ va_S A0 H0 T'.heap (locs ++ L) := by
  obtain ⟨hz, hk⟩ := hF
  rw [h0] at hz hk
  exact ⟨by rw [e1]; exact hz, fun q h1 h2 => by rw [e1]; exact hk q h1 h2,
    ⟨Nat.le_trans hS.1 (by rw [e1]; exact hz), fun q h1 h2 => by rw [e1, hk q (Nat.lt_of_lt_of_le h1 hS.1) (fun z => h2 (hA q (Nat.lt_of_lt_of_le h1 hS.1) z))]; exact hS.2.1 q h1 h2, fun q hq => by
      rcases List.mem_append.mp hq with h | h
      · exact hS.2.2 q h
      · exact hf _ (hL q h)⟩⟩
theorem vx_calli {S SX : Type} {post : Int32 → S → Prop} {px : SX → Prop} {B : S → State → Prop} {BX : String → SX → State → Prop} {AX : Nat → Prop} (hr : vx_Run p l e R s m args below meth c H locs cells slots mc ms (F0 m pc ls st0) rest (va_Qi post B A1 a) (vx_X px BX AX) free) (hS : va_S A0 H0 H locs) (hA : ∀ q, q < H.size → A1 q → A0 q) (hf : ∀ q, free q → A0 q) (hAX : ∀ q, q < H.size → AX q → A0 q)
    (kx : ∀ (E : String) (ce : Cell) (q9 : Addr) (u : SX) (t : State) (H1 : Heap) (locs1 : List Loc), t.heap = H1 → s.vm.Alike t.vm → px u → BX E u t → H.size ≤ H1.size → (∀ q : Nat, q < H.size → ¬ AX q → H1[q]? = H[q]?) → va_S A0 H0 H1 locs1 → H1[q9]? = some ce → ce.vm = .none → s.vm.findClass E = some ce.cls → vx_W p l e R s m args below meth c H1 locs1 (cells + mc) (slots + ms) Q (F0 m pc ls rest) q9)
    (kk : ∀ (r : Int32) (u : S) (t : State) (H1 : Heap) (locs1 : List Loc), t.heap = H1 → s.vm.Alike t.vm → post r u → B u t → H.size ≤ H1.size → (∀ q : Nat, q < H.size → ¬ A1 q → H1[q]? = H[q]?) → va_S A0 H0 H1 locs1 → W p l e R s m args below meth c H1 locs1 (cells + mc) (slots + ms) Q (F0 m (pc + 3) ls (.int r :: rest))) : W p l e R s m args below meth c H locs cells slots Q (F0 m pc ls st0) := by
  intro T hT X
  rcases hr T hT X with ⟨v, st₀, t, T', L, h0, X', hL, e1, e2, ⟨⟨r, u, hv, hp, hb⟩, hF⟩, st⟩ | ⟨q, st₀, t, T', L, E, ce, h0, X', hL, e1, e2, ⟨u, hp, hb, hF⟩, hce, hcv, hcl, st⟩
  · cases hv
    obtain ⟨k1, k2, k3⟩ := vx_keep h0 e1 hS hA hf hL hF
    obtain ⟨t2, a1, b1⟩ := kk r u t T'.heap (locs ++ L) e1.symm (by rw [← e2]; exact X'.warmed.alike) hp hb k1 k2 k3 T' rfl X'
    exact ⟨t2, st t2 a1, b1⟩
  · obtain ⟨k1, k2, k3⟩ := vx_keep h0 e1 hS hAX hf hL hF
    obtain ⟨t2, a1, b1⟩ := kx E ce q u t T'.heap (locs ++ L) e1.symm (by rw [← e2]; exact X'.warmed.alike) hp hb k1 k2 k3 (by rw [e1]; exact hce) hcv hcl T' rfl X'
    exact ⟨t2, st.trans a1, b1⟩
theorem vx_calll {S SX : Type} {post : Int64 → S → Prop} {px : SX → Prop} {B : S → State → Prop} {BX : String → SX → State → Prop} {AX : Nat → Prop} (hr : vx_Run p l e R s m args below meth c H locs cells slots mc ms (F0 m pc ls st0) rest (va_Ql post B A1 a) (vx_X px BX AX) free) (hS : va_S A0 H0 H locs) (hA : ∀ q, q < H.size → A1 q → A0 q) (hf : ∀ q, free q → A0 q) (hAX : ∀ q, q < H.size → AX q → A0 q)
    (kx : ∀ (E : String) (ce : Cell) (q9 : Addr) (u : SX) (t : State) (H1 : Heap) (locs1 : List Loc), t.heap = H1 → s.vm.Alike t.vm → px u → BX E u t → H.size ≤ H1.size → (∀ q : Nat, q < H.size → ¬ AX q → H1[q]? = H[q]?) → va_S A0 H0 H1 locs1 → H1[q9]? = some ce → ce.vm = .none → s.vm.findClass E = some ce.cls → vx_W p l e R s m args below meth c H1 locs1 (cells + mc) (slots + ms) Q (F0 m pc ls rest) q9)
    (kk : ∀ (r : Int64) (u : S) (t : State) (H1 : Heap) (locs1 : List Loc), t.heap = H1 → s.vm.Alike t.vm → post r u → B u t → H.size ≤ H1.size → (∀ q : Nat, q < H.size → ¬ A1 q → H1[q]? = H[q]?) → va_S A0 H0 H1 locs1 → W p l e R s m args below meth c H1 locs1 (cells + mc) (slots + ms) Q (F0 m (pc + 3) ls (.long r :: rest))) : W p l e R s m args below meth c H locs cells slots Q (F0 m pc ls st0) := by
  intro T hT X
  rcases hr T hT X with ⟨v, st₀, t, T', L, h0, X', hL, e1, e2, ⟨⟨r, u, hv, hp, hb⟩, hF⟩, st⟩ | ⟨q, st₀, t, T', L, E, ce, h0, X', hL, e1, e2, ⟨u, hp, hb, hF⟩, hce, hcv, hcl, st⟩
  · cases hv
    obtain ⟨k1, k2, k3⟩ := vx_keep h0 e1 hS hA hf hL hF
    obtain ⟨t2, a1, b1⟩ := kk r u t T'.heap (locs ++ L) e1.symm (by rw [← e2]; exact X'.warmed.alike) hp hb k1 k2 k3 T' rfl X'
    exact ⟨t2, st t2 a1, b1⟩
  · obtain ⟨k1, k2, k3⟩ := vx_keep h0 e1 hS hAX hf hL hF
    obtain ⟨t2, a1, b1⟩ := kx E ce q u t T'.heap (locs ++ L) e1.symm (by rw [← e2]; exact X'.warmed.alike) hp hb k1 k2 k3 (by rw [e1]; exact hce) hcv hcl T' rfl X'
    exact ⟨t2, st.trans a1, b1⟩
theorem vx_callf {S SX : Type} {post : UInt32 → S → Prop} {px : SX → Prop} {B : S → State → Prop} {BX : String → SX → State → Prop} {AX : Nat → Prop} (hr : vx_Run p l e R s m args below meth c H locs cells slots mc ms (F0 m pc ls st0) rest (va_Qf post B A1 a) (vx_X px BX AX) free) (hS : va_S A0 H0 H locs) (hA : ∀ q, q < H.size → A1 q → A0 q) (hf : ∀ q, free q → A0 q) (hAX : ∀ q, q < H.size → AX q → A0 q)
    (kx : ∀ (E : String) (ce : Cell) (q9 : Addr) (u : SX) (t : State) (H1 : Heap) (locs1 : List Loc), t.heap = H1 → s.vm.Alike t.vm → px u → BX E u t → H.size ≤ H1.size → (∀ q : Nat, q < H.size → ¬ AX q → H1[q]? = H[q]?) → va_S A0 H0 H1 locs1 → H1[q9]? = some ce → ce.vm = .none → s.vm.findClass E = some ce.cls → vx_W p l e R s m args below meth c H1 locs1 (cells + mc) (slots + ms) Q (F0 m pc ls rest) q9)
    (kk : ∀ (r : UInt32) (u : S) (t : State) (H1 : Heap) (locs1 : List Loc), t.heap = H1 → s.vm.Alike t.vm → post r u → B u t → H.size ≤ H1.size → (∀ q : Nat, q < H.size → ¬ A1 q → H1[q]? = H[q]?) → va_S A0 H0 H1 locs1 → W p l e R s m args below meth c H1 locs1 (cells + mc) (slots + ms) Q (F0 m (pc + 3) ls (.float r :: rest))) : W p l e R s m args below meth c H locs cells slots Q (F0 m pc ls st0) := by
  intro T hT X
  rcases hr T hT X with ⟨v, st₀, t, T', L, h0, X', hL, e1, e2, ⟨⟨r, u, hv, hp, hb⟩, hF⟩, st⟩ | ⟨q, st₀, t, T', L, E, ce, h0, X', hL, e1, e2, ⟨u, hp, hb, hF⟩, hce, hcv, hcl, st⟩
  · cases hv
    obtain ⟨k1, k2, k3⟩ := vx_keep h0 e1 hS hA hf hL hF
    obtain ⟨t2, a1, b1⟩ := kk r u t T'.heap (locs ++ L) e1.symm (by rw [← e2]; exact X'.warmed.alike) hp hb k1 k2 k3 T' rfl X'
    exact ⟨t2, st t2 a1, b1⟩
  · obtain ⟨k1, k2, k3⟩ := vx_keep h0 e1 hS hAX hf hL hF
    obtain ⟨t2, a1, b1⟩ := kx E ce q u t T'.heap (locs ++ L) e1.symm (by rw [← e2]; exact X'.warmed.alike) hp hb k1 k2 k3 (by rw [e1]; exact hce) hcv hcl T' rfl X'
    exact ⟨t2, st.trans a1, b1⟩
theorem vx_calld {S SX : Type} {post : UInt64 → S → Prop} {px : SX → Prop} {B : S → State → Prop} {BX : String → SX → State → Prop} {AX : Nat → Prop} (hr : vx_Run p l e R s m args below meth c H locs cells slots mc ms (F0 m pc ls st0) rest (va_Qd post B A1 a) (vx_X px BX AX) free) (hS : va_S A0 H0 H locs) (hA : ∀ q, q < H.size → A1 q → A0 q) (hf : ∀ q, free q → A0 q) (hAX : ∀ q, q < H.size → AX q → A0 q)
    (kx : ∀ (E : String) (ce : Cell) (q9 : Addr) (u : SX) (t : State) (H1 : Heap) (locs1 : List Loc), t.heap = H1 → s.vm.Alike t.vm → px u → BX E u t → H.size ≤ H1.size → (∀ q : Nat, q < H.size → ¬ AX q → H1[q]? = H[q]?) → va_S A0 H0 H1 locs1 → H1[q9]? = some ce → ce.vm = .none → s.vm.findClass E = some ce.cls → vx_W p l e R s m args below meth c H1 locs1 (cells + mc) (slots + ms) Q (F0 m pc ls rest) q9)
    (kk : ∀ (r : UInt64) (u : S) (t : State) (H1 : Heap) (locs1 : List Loc), t.heap = H1 → s.vm.Alike t.vm → post r u → B u t → H.size ≤ H1.size → (∀ q : Nat, q < H.size → ¬ A1 q → H1[q]? = H[q]?) → va_S A0 H0 H1 locs1 → W p l e R s m args below meth c H1 locs1 (cells + mc) (slots + ms) Q (F0 m (pc + 3) ls (.double r :: rest))) : W p l e R s m args below meth c H locs cells slots Q (F0 m pc ls st0) := by
  intro T hT X
  rcases hr T hT X with ⟨v, st₀, t, T', L, h0, X', hL, e1, e2, ⟨⟨r, u, hv, hp, hb⟩, hF⟩, st⟩ | ⟨q, st₀, t, T', L, E, ce, h0, X', hL, e1, e2, ⟨u, hp, hb, hF⟩, hce, hcv, hcl, st⟩
  · cases hv
    obtain ⟨k1, k2, k3⟩ := vx_keep h0 e1 hS hA hf hL hF
    obtain ⟨t2, a1, b1⟩ := kk r u t T'.heap (locs ++ L) e1.symm (by rw [← e2]; exact X'.warmed.alike) hp hb k1 k2 k3 T' rfl X'
    exact ⟨t2, st t2 a1, b1⟩
  · obtain ⟨k1, k2, k3⟩ := vx_keep h0 e1 hS hAX hf hL hF
    obtain ⟨t2, a1, b1⟩ := kx E ce q u t T'.heap (locs ++ L) e1.symm (by rw [← e2]; exact X'.warmed.alike) hp hb k1 k2 k3 (by rw [e1]; exact hce) hcv hcl T' rfl X'
    exact ⟨t2, st.trans a1, b1⟩
theorem vx_callv {S SX : Type} {post : S → Prop} {px : SX → Prop} {B : S → State → Prop} {BX : String → SX → State → Prop} {AX : Nat → Prop} (hr : vx_Run p l e R s m args below meth c H locs cells slots mc ms (F0 m pc ls st0) rest (va_Qv post B A1 a) (vx_X px BX AX) free) (hS : va_S A0 H0 H locs) (hA : ∀ q, q < H.size → A1 q → A0 q) (hf : ∀ q, free q → A0 q) (hAX : ∀ q, q < H.size → AX q → A0 q)
    (kx : ∀ (E : String) (ce : Cell) (q9 : Addr) (u : SX) (t : State) (H1 : Heap) (locs1 : List Loc), t.heap = H1 → s.vm.Alike t.vm → px u → BX E u t → H.size ≤ H1.size → (∀ q : Nat, q < H.size → ¬ AX q → H1[q]? = H[q]?) → va_S A0 H0 H1 locs1 → H1[q9]? = some ce → ce.vm = .none → s.vm.findClass E = some ce.cls → vx_W p l e R s m args below meth c H1 locs1 (cells + mc) (slots + ms) Q (F0 m pc ls rest) q9)
    (kk : ∀ (u : S) (t : State) (H1 : Heap) (locs1 : List Loc), t.heap = H1 → s.vm.Alike t.vm → post u → B u t → H.size ≤ H1.size → (∀ q : Nat, q < H.size → ¬ A1 q → H1[q]? = H[q]?) → va_S A0 H0 H1 locs1 → W p l e R s m args below meth c H1 locs1 (cells + mc) (slots + ms) Q (F0 m (pc + 3) ls (rest))) : W p l e R s m args below meth c H locs cells slots Q (F0 m pc ls st0) := by
  intro T hT X
  rcases hr T hT X with ⟨v, st₀, t, T', L, h0, X', hL, e1, e2, ⟨⟨u, hv, hp, hb⟩, hF⟩, st⟩ | ⟨q, st₀, t, T', L, E, ce, h0, X', hL, e1, e2, ⟨u, hp, hb, hF⟩, hce, hcv, hcl, st⟩
  · cases hv
    obtain ⟨k1, k2, k3⟩ := vx_keep h0 e1 hS hA hf hL hF
    obtain ⟨t2, a1, b1⟩ := kk u t T'.heap (locs ++ L) e1.symm (by rw [← e2]; exact X'.warmed.alike) hp hb k1 k2 k3 T' rfl X'
    exact ⟨t2, st t2 a1, b1⟩
  · obtain ⟨k1, k2, k3⟩ := vx_keep h0 e1 hS hAX hf hL hF
    obtain ⟨t2, a1, b1⟩ := kx E ce q u t T'.heap (locs ++ L) e1.symm (by rw [← e2]; exact X'.warmed.alike) hp hb k1 k2 k3 (by rw [e1]; exact hce) hcv hcl T' rfl X'
    exact ⟨t2, st.trans a1, b1⟩
/-- caught by the row x of this method's table; the rows ahead don't take it -/
theorem vx_catch {own name : String} {E : String} {ce : Cell} {q : Addr} (hown : s.vm.findClass own = some m.cls) (pre : List ExceptionTableEntry) (x : ExceptionTableEntry) (suf : List ExceptionTableEntry) (hsplit : c.exceptionTable.toList = pre ++ x :: suf)
    (hpass : ∀ z ∈ pre, covers z pc = false ∨ (z.catchType ≠ 0 ∧ ∃ nm : String, (Cond.classLink own z.catchType nm).before args s = true ∧ va_Nc E nm s)) (hx : covers x pc = true) (h0 : x.catchType ≠ 0)
    (hlink : (Cond.classLink own x.catchType name).before args s = true) (hcast : (Cond.castable E name).before args s = true) (hcell : H[q]? = some ce) (hv : ce.vm = .none) (hcl : s.vm.findClass E = some ce.cls)
    (kk : W p l e R s m args below meth c H locs cells slots Q (F0 m x.handlerPc ls [.ref q])) : vx_W p l e R s m args below meth c H locs cells slots Q (F0 m pc ls rest) q := by
  intro T hT X
  have hpl : e.platform.magicAccessors = ({} : Platform).magicAccessors := by rw [X.admits.platform]
  obtain ⟨c3, c4, hc3, hc4, hasg⟩ := Cond.castable_spec hcast
  cases Option.some.inj (hc3.symm.trans hcl)
  obtain ⟨c5, hc5, hcl5⟩ := Cond.classLink_spec hown hlink e.platform hpl
  cases Option.some.inj (hc4.symm.trans hc5)
  obtain ⟨vm', X', st⟩ := X.thenCaughtThrough q (g := F0 m pc ls rest) rfl (Steps.refl _) (by rw [hT]; exact hcell) (by rw [hv]; rfl) (by obtain ⟨k9, h9, -⟩ := Vm.findClass_spec hcl; exact ⟨k9, h9⟩) pre x suf hsplit
    (fun z hz => by
      rcases hpass z hz with h | ⟨hz0, nm, hl1, hn1⟩
      · exact Or.inl h
      · obtain ⟨c6, hc6, hcl6⟩ := Cond.classLink_spec hown hl1 e.platform hpl
        obtain ⟨a8, b8, h1, h2, h3⟩ := hn1
        cases Option.some.inj (h1.symm.trans hcl)
        cases Option.some.inj (h2.symm.trans hc6)
        exact Or.inr ⟨hz0, _, hcl6, h3⟩) hx (Or.inr ⟨h0, c4, hcl5, hasg⟩)
  obtain ⟨t, a1, b1⟩ := kk (T.setVm vm') hT X'
  exact ⟨t, st.trans a1, b1⟩
end Rows
section Ends
variable {p : Program} {l : Launch} {e : Env} {R : Room} {s : State} {m : MethodId} {args : Array Value} {below : List Frame} {meth : Method} {c : Code} {H : Heap} {locs : List Loc} {cells slots : Nat} {Q : State → Prop}
variable {mc ms : Nat} {free : Addr → Prop} {A0 A1 : Nat → Prop} {H0 : Heap} {a : Array Value} {ls : Array Slot} {st0 rest : List Value}
variable {Qc : Array Value → State → Outcome → State → Prop} {XC : String → State → State → Prop}
/-- what a body that may throw owes at its end -/
def vx_MQ (below : List Frame) (Qc : Array Value → State → Outcome → State → Prop) (XC : String → State → State → Prop) (a : Array Value) (s : State) (mc ms : Nat) (free : Addr → Prop) : State → Prop := fun t =>
  ∃ o, t.status = .running ∧ Ended t below o ∧ vx_Q Qc XC mc ms free a s o t
theorem vx_ret {g : JFrame} {mc ms : Nat} (k : W p l e R s m args below meth c H locs cells slots (MQ below Qc args s mc ms free) g) : W p l e R s m args below meth c H locs cells slots (vx_MQ below Qc XC args s mc ms free) g := by
  intro T hT X
  obtain ⟨t, a1, o, b1, b2, b3, b4⟩ := k T hT X
  exact ⟨t, a1, o, b1, b2, Or.inl ⟨b3, b4⟩⟩
/-- not caught here: it goes on to the caller -/
theorem vx_widen {g : JFrame} {q : Addr} {k n : Nat} (h1 : cells ≤ k) (h2 : slots ≤ n) (kk : vx_W p l e R s m args below meth c H locs k n Q g q) : vx_W p l e R s m args below meth c H locs cells slots Q g q := fun T hT X => kk T hT (stand_widen X h1 h2)
theorem vx_out {pc : Nat} {E : String} {ce : Cell} {q : Addr} {mc ms : Nat} (hout : ∀ x ∈ c.exceptionTable.toList, covers x pc = false) (hlocks : meth.locks = false) (hcell : H[q]? = some ce) (hv : ce.vm = .none) (hcl : s.vm.findClass E = some ce.cls)
    (hx : ∀ t : State, t.heap = H → s.vm.Alike t.vm → XC E s t) (hf : ∀ z ∈ locs, free z.base) (hc : cells ≤ mc) (hs : slots ≤ ms) :
    vx_W p l e R s m args below meth c H locs cells slots (vx_MQ below Qc XC args s mc ms free) (F0 m pc ls rest) q := by
  intro T hT X
  obtain ⟨st1, hrun, hend, hW, hsm⟩ := X.leaveThrown q (g := F0 m pc ls rest) rfl rfl rfl hout hlocks
  have hcell9 : (T.setFrames (.throwing q :: below)).heap[q]? = some ce := by
    show T.heap[q]? = some ce
    rw [hT]; exact hcell
  exact ⟨_, st1, .threw q, hrun, hend, Or.inr ⟨q, rfl, E, ce, locs, hx _ hT hW.alike, hcell9, hv, hcl, hW, hsm.mono hc hs, hf⟩⟩
theorem vx_frame {U : State} {k n : Nat} (h : s.sameButNew ({ U with vm := s.vm } : State) locs k n) : s.heap.size ≤ U.heap.size ∧ ∀ q : Nat, q < s.heap.size → (∀ z ∈ locs, z.base ≠ q) → U.heap[q]? = s.heap[q]? := by
  obtain ⟨-, h2, -, -, -, h6⟩ := h
  refine ⟨h2, fun q hq hz => ?_⟩
  obtain ⟨c9, e1, e2, e3, e4⟩ := h6 q _ (Array.getElem?_eq_getElem hq)
  have hs : c9.slots = (s.heap[q]).slots := Array.ext_getElem? fun i => e4 i fun hm => hz _ hm rfl
  have h9 : c9 = s.heap[q] := by
    rw [hs] at e2
    exact e2
  have e5 : U.heap[q]? = some c9 := e1
  rw [e5, h9, Array.getElem?_eq_getElem hq]
/-- the words of a throw but the four that speak of the heap -/
def vx_no (w : Cond) : Bool := decide (w ≠ .isRef (.static Bundle.tN "UNASSIGNED_STACK" Bundle.steD)) && decide (w ≠ .isRef (.static Bundle.tN "SUPPRESSED_SENTINEL" Bundle.listD)) && decide (w ≠ .laysStatic Bundle.tN "UNASSIGNED_STACK" Bundle.steD) && decide (w ≠ .laysStatic Bundle.tN "SUPPRESSED_SENTINEL" Bundle.listD)
def vx_at0 (own : String) (ic : Nat) (X : String) (names : List String) : List Cond := (Bundle.ownAtoms0 own ic X names).filter vx_no
def vx_atS (own : String) (ic : Nat) (X : String) (names : List String) : List Cond := (Bundle.ownAtoms own ic X names).filter vx_no
/-- a word that the tables alone decide, or a good one -/
def vx_ot (w : Cond) : Bool := w.onTables || goodWord w
theorem vx_ot_at {args a' : Array Value} {s U : State} {w : Cond} (hW : s.WarmedH U.vm) (hvm : s.vm = U.vm) (hg : vx_ot w = true) (h : w.before args s = true) : w.before a' U = true := by
  simp only [vx_ot, Bool.or_eq_true] at hg
  rcases hg with hg | hg
  · exact va_tabs hg hvm h
  · exact word_at hW (good_of_word hg) h
/-- a list's words: the good ones out of the method's own list, the others by premises of their own -/
theorem vx_hat {args : Array Value} {s : State} {L B : List Cond} (h1 : ∀ w ∈ L.filter goodWord, w.before args s = true) (h2 : ∀ w ∈ L.filter (fun w => !goodWord w), w ∈ B) (h3 : ∀ w ∈ B, w.before args s = true) : ∀ w ∈ L, w.before args s = true := by
  intro w hw
  by_cases g : goodWord w = true
  · exact h1 w (List.mem_filter.mpr ⟨hw, g⟩)
  · refine h3 w (h2 w (List.mem_filter.mpr ⟨hw, ?_⟩))
    show (!goodWord w) = true
    cases hgw : goodWord w
    · rfl
    · exact absurd hgw g
theorem vx_c {args : Array Value} {s : State} {w : Cond} {B : List Cond} (h : w.before args s = true) (t : ∀ w ∈ B, w.before args s = true) : ∀ w' ∈ w :: B, w'.before args s = true := fun w' h' => (List.mem_cons.mp h').elim (fun e => by rw [e]; exact h) (t w')
theorem vx_n {args : Array Value} {s : State} : ∀ w ∈ ([] : List Cond), w.before args s = true := fun _ h => nomatch h
theorem vx_own {args : Array Value} {s : State} {L : List Cond} (h1 : ∀ w ∈ L.filter vx_no, w.before args s = true)
    (hU : (Cond.isRef (.static Bundle.tN "UNASSIGNED_STACK" Bundle.steD)).before args s = true) (hN : (Cond.isRef (.static Bundle.tN "SUPPRESSED_SENTINEL" Bundle.listD)).before args s = true)
    (lU : (Cond.laysStatic Bundle.tN "UNASSIGNED_STACK" Bundle.steD).before args s = true) (lN : (Cond.laysStatic Bundle.tN "SUPPRESSED_SENTINEL" Bundle.listD).before args s = true) : ∀ w ∈ L, w.before args s = true := by
  intro w hw
  by_cases e1 : w = .isRef (.static Bundle.tN "UNASSIGNED_STACK" Bundle.steD)
  · rw [e1]; exact hU
  · by_cases e2 : w = .isRef (.static Bundle.tN "SUPPRESSED_SENTINEL" Bundle.listD)
    · rw [e2]; exact hN
    · by_cases e3 : w = .laysStatic Bundle.tN "UNASSIGNED_STACK" Bundle.steD
      · rw [e3]; exact lU
      · by_cases e4 : w = .laysStatic Bundle.tN "SUPPRESSED_SENTINEL" Bundle.listD
        · rw [e4]; exact lN
        · exact h1 w (List.mem_filter.mpr ⟨hw, by unfold vx_no; rw [decide_eq_true e1, decide_eq_true e2, decide_eq_true e3, decide_eq_true e4]; rfl⟩)
/-- where a static field lies, its class's statics cell in H -/
def vx_L (C n d : String) (A : Nat → Prop) (U : State) (H : Heap) : Prop := ∃ (c : ClassId) (k : Class) (i : Nat) (f : Field) (a : Nat) (cell : Cell), U.vm.findClass C = some c ∧ U.fieldFound? C n d = some (c, k, i, f) ∧ f.isStatic = true ∧ k.statics = some a ∧ H[a]? = some cell ∧ cell.vm.isStatics = true ∧ cell.cls = c ∧ f.slot < cell.slots.size ∧ k.staticTypes[f.slot]? = some f.type ∧ ¬ A a
theorem vx_L.moved {C n d : String} {A : Nat → Prop} {u U : State} {H : Heap} (hvm : u.vm.Alike U.vm) (h : vx_L C n d A u H) : vx_L C n d A U H := by
  obtain ⟨c, k, i, f, a, cell, h1, h2, h3, h4, h5, h6, h7, h8, h9, h10⟩ := h
  obtain ⟨k', hi', he⟩ := State.fieldFound?_setVm hvm h2
  exact ⟨c, k', i, f, a, cell, by rw [hvm.findClass]; exact h1, hi', h3, by rw [he]; exact h4, h5, h6, h7, h8, by rw [he]; exact h9, h10⟩
theorem vx_L.kept {C n d : String} {A : Nat → Prop} {U : State} {H H1 : Heap} (h : vx_L C n d A U H) (hq : ∀ a : Nat, a < H.size → ¬ A a → H1[a]? = H[a]?) : vx_L C n d A U H1 := by
  obtain ⟨c, k, i, f, a, cell, h1, h2, h3, h4, h5, h6, h7, h8, h9, h10⟩ := h
  exact ⟨c, k, i, f, a, cell, h1, h2, h3, h4, by rw [hq a (Array.getElem?_eq_some_iff.mp h5).1 h10]; exact h5, h6, h7, h8, h9, h10⟩
theorem vx_L.narrow {C n d : String} {A B : Nat → Prop} {U : State} {H : Heap} (h : vx_L C n d A U H) (hAB : ∀ q, B q → A q) : vx_L C n d B U H := by
  obtain ⟨c, k, i, f, a, cell, h1, h2, h3, h4, h5, h6, h7, h8, h9, h10⟩ := h
  exact ⟨c, k, i, f, a, cell, h1, h2, h3, h4, h5, h6, h7, h8, h9, fun z => h10 (hAB _ z)⟩
theorem vx_L.word {C n d : String} {A : Nat → Prop} {s : State} {args : Array Value} (h : vx_L C n d A s s.heap) : (Cond.laysStatic C n d).before args s = true := by
  obtain ⟨c, k, i, f, a, cell, h1, h2, h3, h4, h5, h6, h7, h8, h9, -⟩ := h
  show (Cond.laysStatic C n d).holds args s none s [] = true
  exact Cond.laysStatic_of h1 h2 h3 h4 h5 h6 h7 h8 h9
/-- .. and what it holds: null or some reference -/
def vx_Zq (C n d : String) (A : Nat → Prop) (U : State) (H : Heap) : Prop := va_Zq C n d A U H ∧ vx_L C n d A U H
theorem vx_Zq.moved {C n d : String} {A : Nat → Prop} {u U : State} {H : Heap} (hvm : u.vm.Alike U.vm) (h : vx_Zq C n d A u H) : vx_Zq C n d A U H := ⟨va_Zq.moved hvm h.1, vx_L.moved hvm h.2⟩
theorem vx_Zq.kept {C n d : String} {A : Nat → Prop} {U : State} {H H1 : Heap} (h : vx_Zq C n d A U H) (hq : ∀ a : Nat, a < H.size → ¬ A a → H1[a]? = H[a]?) : vx_Zq C n d A U H1 := ⟨va_Zq.kept h.1 hq, vx_L.kept h.2 hq⟩
theorem vx_Zq.narrow {C n d : String} {A B : Nat → Prop} {U : State} {H : Heap} (h : vx_Zq C n d A U H) (hAB : ∀ q, B q → A q) : vx_Zq C n d B U H := ⟨va_Zq.narrow h.1 hAB, vx_L.narrow h.2 hAB⟩
theorem vx_Zqof {args : Array Value} {s : State} {C n d : String} {A : Nat → Prop} (hl : (Cond.laysStatic C n d).before args s = true) (hini : (Cond.initialized C).before args s = true) (h : (Cond.isRef (.static C n d)).before args s = true) (hA : ∀ a : Nat, a < s.heap.size → ¬ A a) : vx_Zq C n d A s s.heap := by
  refine ⟨va_Zqof hl hini h hA, ?_⟩
  obtain ⟨c, k, i, f, a, cell, h1, h2, h3, h4, h5, h6, h7, h8, h9⟩ := Cond.laysStatic_spec hl
  exact ⟨c, k, i, f, a, cell, h1, h2, h3, h4, h5, h6, h7, h8, h9, hA a (Array.getElem?_eq_some_iff.mp h5).1⟩
theorem vx_isRef {C n d : String} {v : Value} {A : Nat → Prop} {s : State} {args : Array Value} (h : va_Z C n d v A s s.heap) (hv : v.isRef = true) : (Cond.isRef (.static C n d)).before args s = true := by
  obtain ⟨cf, kf, fi, f, a, cell, h1, h2, h3, h4, h5, h6, h7, -⟩ := h
  have he : (Term.static C n d).eval args s none [] s = some v := by
    simp [Term.eval, State.fieldNamed?, h1, h2, h4, h5, h6, h7]
  simp only [Cond.before, Cond.holds, Cond.value, he]
  cases v <;> simp_all [Value.isRef]
theorem vx_isRefq {C n d : String} {A : Nat → Prop} {s : State} {args : Array Value} (h : va_Zq C n d A s s.heap) : (Cond.isRef (.static C n d)).before args s = true := by
  rcases h with h | ⟨t, h⟩
  · exact vx_isRef h rfl
  · exact vx_isRef h rfl
/-- the same frame, seen from here: as if the method were called anew in this heap -/
theorem vx_rebase {T : State} (X : Stand p l e R s m args below meth c T locs cells slots) {R' : Room} (hf : R'.frames ≤ R.frames) (hl : R'.locals ≤ R.locals) (hc : cells + R'.cells ≤ R.cells) (hs : slots + R'.slots ≤ R.slots) :
    Stand p l e R' ((T.setVm s.vm).setFrames (.invoking m args :: below)) m args below meth c T [] 0 0 := by
  have htop : (T.setVm s.vm).topJava?.isSome := X.here.top
  have hF : ((T.setVm s.vm).setFrames (.invoking m args :: below)).frames = .invoking m args :: below := State.frames_setFrames _ (State.cur_lt_of_top htop)
  obtain ⟨g₀, hg0⟩ := Option.isSome_iff_exists.mp htop
  obtain ⟨r, hr⟩ := State.topJava?_eq_some.mp hg0
  have hl9 : e.platform.stackLimits (T.setVm s.vm).me = e.platform.stackLimits s.me := X.limits
  have hb9 : (T.setVm s.vm).me.stackBytes = s.me.stackBytes := X.bytes
  refine ⟨X.admits, X.cas, X.clock, hF, ?_, X.hears, X.method, X.code, X.here, X.tail, X.warmed, ?_, ?_, ?_⟩
  · have h := X.room
    have hU : ((T.setVm s.vm).setFrames (.invoking m args :: below)).localsInUse = s.localsInUse := by
      rw [State.localsInUse_invoking hF (meth := meth) (c := c) X.method X.code, State.localsInUse_invoking X.frames X.method X.code]
    simp only [State.hasRoom, Bool.and_eq_true, decide_eq_true_eq] at h ⊢
    obtain ⟨⟨⟨⟨h1, h2, h3, h4, h5, h6⟩, h7⟩, h8⟩, h9⟩ := h
    rw [X.frames, List.length_cons] at h2 h3
    have q1 := X.heapSize
    have q2 := X.used
    simp only [hF, hU, List.length_cons, State.stackLimits_setFrames, State.stackBytes_setFrames, hl9, hb9]
    refine ⟨⟨⟨⟨by omega, by omega, by omega, by omega, by omega, h6⟩, ?_⟩, ?_⟩, X.book⟩
    · show T.heap.size + R'.cells ≤ e.platform.maxCells
      omega
    · show T.slotsUsed + R'.slots ≤ e.platform.maxSlots
      omega
  · rw [State.stackLimits_setFrames]; rfl
  · rw [State.stackBytes_setFrames]; rfl
  · refine ⟨?_, Nat.le_refl _, Nat.le_refl _, ?_, ?_, fun a c9 h9 => ⟨c9, h9, rfl, rfl, fun _ _ => rfl⟩⟩
    · obtain ⟨t, ht, -⟩ := State.frames_cons hr
      show T.setVm s.vm = { ((T.setVm s.vm).setFrames (.invoking m args :: below)).setFrames (T.setVm s.vm).frames with heap := T.heap, slotsUsed := T.slotsUsed }
      rw [State.setFrames_setFrames, State.setFrames_self ht]
      rfl
    · show T.slotsUsed = T.slotsUsed + ((T.heap.toList.drop T.heap.size).map (·.slots.size)).sum
      rw [List.drop_eq_nil_of_le (Nat.le_of_eq Array.length_toList)]
      rfl
    · show ((T.heap.toList.drop T.heap.size).map (·.slots.size)).sum ≤ 0
      rw [List.drop_eq_nil_of_le (Nat.le_of_eq Array.length_toList)]
      exact Nat.le_refl _
/-- 'throw new E()': new; dup; invokespecial; athrow -/
theorem vx_throw0 {cc : ByteArray} {pc : Nat} (hexec : p.tables.exec = Jvm.exec) (hb : c.code = cc) (hl : l.stackTraces = false) {own cls : String} {names : List String} {ik ic mc ms : Nat} {A : Nat → Prop}
    (hown : s.vm.findClass own = some m.cls) (hcls : Bundle.fit cls = true) (hnames : ∀ n ∈ names, Bundle.fit n = true)
    (hk : (Cond.classLink own ik cls).before args s = true) (hini : (Cond.initialized cls).before args s = true) (hat : ∀ w ∈ vx_at0 own ic cls names, w.before args s = true)
    (hgood : ∀ w ∈ Cond.classLink own ik cls :: Cond.initialized cls :: vx_at0 own ic cls names, vx_ot w = true)
    (hU : vx_Zq Bundle.tN "UNASSIGNED_STACK" Bundle.steD A s s.heap) (hN : vx_Zq Bundle.tN "SUPPRESSED_SENTINEL" Bundle.listD A s s.heap) (hS : va_S A s.heap H locs) (hsize : ls.size = c.maxLocals)
    (d0 : decode cc pc = .ok (.new ik, 3)) (d3 : decode cc (pc + 3) = .ok (.dup, 1)) (d4 : decode cc (pc + 4) = .ok (.invokespecial ic, 3)) (d7 : decode cc (pc + 7) = .ok (.athrow, 1))
    (hout : ∀ x ∈ c.exceptionTable.toList, covers x (pc + 7) = false)
    (hRframes : names.length + 3 < R.frames) (hRlocals : (rest.map fun v => v.category).sum + (13 * (names.length + 1) + 42) ≤ R.locals) (hRcells : cells + 1 ≤ R.cells) (hRslots : slots + 6 ≤ R.slots) (hlocks : meth.locks = false)
    (hx : ∀ t : State, s.vm.Alike t.vm → H.size ≤ t.heap.size → (∀ q : Nat, q < H.size → t.heap[q]? = H[q]?) → XC cls s t)
    (hf : ∀ z ∈ locs, free z.base) (hc : cells + 1 ≤ mc) (hs : slots + 6 ≤ ms) :
    W p l e R s m args below meth c H locs cells slots (vx_MQ below Qc XC args s mc ms free) (F0 m pc ls rest) := by
  intro T hT X
  have htr : e.platform.stackTraces = false := (show e.platform.stackTraces = l.stackTraces by rw [X.admits.platform]).trans hl
  have Y := vx_rebase X (R' := { frames := R.frames, locals := R.locals, cells := 1, slots := 6 }) (Nat.le_refl _) (Nat.le_refl _) hRcells hRslots
  obtain ⟨s', hA⟩ : ∃ z, z = (T.setVm s.vm).setFrames (.invoking m args :: below) := ⟨_, rfl⟩
  rw [← hA] at Y
  have hvm : s'.vm = s.vm := by rw [hA]; rfl
  have hhp : s'.heap = H := by rw [hA]; exact hT
  have hW0 : s.WarmedH s'.vm := by rw [hvm]; exact State.WarmedH.refl s
  have hat' : ∀ w ∈ vx_at0 own ic cls names, w.before args s' = true := fun w hw => vx_ot_at hW0 hvm.symm (hgood w (List.mem_cons_of_mem _ (List.mem_cons_of_mem _ hw))) (hat w hw)
  have hk' : (Cond.classLink own ik cls).before args s' = true := vx_ot_at hW0 hvm.symm (hgood _ List.mem_cons_self) hk
  have hini' : (Cond.initialized cls).before args s' = true := vx_ot_at hW0 hvm.symm (hgood _ (List.mem_cons_of_mem _ List.mem_cons_self)) hini
  have hU' : vx_Zq Bundle.tN "UNASSIGNED_STACK" Bundle.steD A s' s'.heap := by rw [hhp]; exact vx_Zq.moved hW0.alike (hU.kept hS.2.1)
  have hN' : vx_Zq Bundle.tN "SUPPRESSED_SENTINEL" Bundle.listD A s' s'.heap := by rw [hhp]; exact vx_Zq.moved hW0.alike (hN.kept hS.2.1)
  have h : ∀ w ∈ Bundle.ownAtoms0 own ic cls names, w.before args s' = true := vx_own hat' (vx_isRefq hU'.1) (vx_isRefq hN'.1) hU'.2.word hN'.2.word
  have hown' : s'.vm.findClass own = some m.cls := by rw [hvm]; exact hown
  have hins : (Cond.instantiable cls 6).before args s' = true := h _ (by simp [Bundle.ownAtoms0])
  obtain ⟨vm₁, cX, kX, hfX, hkX, -, -, X₁, st1⟩ := Y.newCold hexec (own := own) (C := cls) (index := ik) (n := 6) hown' hk' hins hini'
    (g := F0 m pc ls rest) rfl (by rw [hb]; exact d0) (Nat.le_refl _) (Nat.le_refl _)
  generalize hT1 : (T.setVm vm₁).pushCell { cls := cX, slots := kX.instanceTypes.map defaultValue, vm := .none } = T1 at X₁ st1
  have hcat : (Value.ref T.heap.size).category = 1 := rfl
  have hcellA : T1.heap[T.heap.size]? = some (freshCell cX kX) := by rw [← hT1]; exact State.heap_pushCell_size _ _
  have d3' : decode c.code (pc + 3) = .ok (.dup, 1) := by rw [hb]; exact d3
  obtain ⟨U, hsteps, hrun, hend, hW, hsame, ce, hce, hO⟩ := X₁.ctorThrow0 hexec htr (own := own) (cls := cls) (names := names) (ic := ic) hown' hcls hnames h (fun x hx => nomatch hx) hfX hkX hcellA (by rw [hhp, hT]; exact Nat.le_refl _)
    (g := { method := m, pc := pc + 4, locals := ls, stack := .ref T.heap.size :: .ref T.heap.size :: rest, locked := none }) rfl hsize rfl rfl (rest := rest) rfl
    (by rw [hb]; exact d4) (by rw [hb]; exact d7) hout hRframes (by simp only [List.map_cons, List.sum_cons, hcat]; omega) hlocks
  obtain ⟨f1, f2⟩ := vx_frame hsame
  rw [hhp] at f1 f2
  have hWs : s.WarmedH U.vm := State.WarmedH.trans hW0 hW
  have hcl : s.vm.findClass cls = some ce.cls := by
    have h9 := hO.cls
    rw [hvm] at h9
    exact h9
  have hall : s.sameButNew ({ U with vm := s.vm } : State) locs mc ms := by
    subst hA
    obtain ⟨e1, e2⟩ := hsame
    rw [State.setFrames_setFrames] at e1
    have h2 : (T.setVm s.vm).sameButNew ({ U with vm := s.vm } : State) [] (0 + 1) (0 + 6) := ⟨e1, e2⟩
    have h3 := X.same.trans h2
    rw [List.append_nil] at h3
    exact h3.mono hc hs
  refine ⟨U, ?_, .threw T.heap.size, hrun, hend, Or.inr ⟨T.heap.size, rfl, cls, ce, locs, hx U hWs.alike f1 (fun q hq => f2 q hq (fun z hz => nomatch hz)), hce, hO.vm, hcl, hWs, hall, hf⟩⟩
  refine st1 _ ?_
  show Steps p.tables e below (T1.setTop { method := m, pc := pc + 3, locals := ls, stack := .ref T.heap.size :: rest, locked := none }) _
  jvm_step X₁.here [X₁.here.top, hexec, d3', Value.category]
  exact hsteps
/-- 'throw new E("text")': new; dup; ldc; invokespecial; athrow -/
theorem vx_throwS {cc : ByteArray} {pc : Nat} (hexec : p.tables.exec = Jvm.exec) (hb : c.code = cc) (hl : l.stackTraces = false) {own cls text : String} {names : List String} {ik is ic mc ms sa : Nat} {A : Nat → Prop}
    (hown : s.vm.findClass own = some m.cls) (hcls : Bundle.fit cls = true) (hnames : ∀ n ∈ names, Bundle.fit n = true)
    (hk : (Cond.classLink own ik cls).before args s = true) (hini : (Cond.initialized cls).before args s = true) (hstr : vk_R own is text sa s) (hat : ∀ w ∈ vx_atS own ic cls names, w.before args s = true)
    (hgood : ∀ w ∈ Cond.classLink own ik cls :: Cond.initialized cls :: vx_atS own ic cls names, vx_ot w = true)
    (hU : vx_Zq Bundle.tN "UNASSIGNED_STACK" Bundle.steD A s s.heap) (hN : vx_Zq Bundle.tN "SUPPRESSED_SENTINEL" Bundle.listD A s s.heap) (hS : va_S A s.heap H locs) (hsize : ls.size = c.maxLocals)
    (d0 : decode cc pc = .ok (.new ik, 3)) (d3 : decode cc (pc + 3) = .ok (.dup, 1)) (d4 : decode cc (pc + 4) = .ok (.ldc is, 2)) (d6 : decode cc (pc + 6) = .ok (.invokespecial ic, 3)) (d9 : decode cc (pc + 9) = .ok (.athrow, 1))
    (hout : ∀ x ∈ c.exceptionTable.toList, covers x (pc + 9) = false)
    (hRframes : names.length + 3 < R.frames) (hRlocals : (rest.map fun v => v.category).sum + (13 * (names.length + 1) + 43) ≤ R.locals) (hRcells : cells + 1 ≤ R.cells) (hRslots : slots + 6 ≤ R.slots) (hlocks : meth.locks = false)
    (hx : ∀ t : State, s.vm.Alike t.vm → H.size ≤ t.heap.size → (∀ q : Nat, q < H.size → t.heap[q]? = H[q]?) → XC cls s t)
    (hf : ∀ z ∈ locs, free z.base) (hc : cells + 1 ≤ mc) (hs : slots + 6 ≤ ms) :
    W p l e R s m args below meth c H locs cells slots (vx_MQ below Qc XC args s mc ms free) (F0 m pc ls rest) := by
  intro T hT X
  have htr : e.platform.stackTraces = false := (show e.platform.stackTraces = l.stackTraces by rw [X.admits.platform]).trans hl
  have Y := vx_rebase X (R' := { frames := R.frames, locals := R.locals, cells := 1, slots := 6 }) (Nat.le_refl _) (Nat.le_refl _) hRcells hRslots
  obtain ⟨s', hA⟩ : ∃ z, z = (T.setVm s.vm).setFrames (.invoking m args :: below) := ⟨_, rfl⟩
  rw [← hA] at Y
  have hvm : s'.vm = s.vm := by rw [hA]; rfl
  have hhp : s'.heap = H := by rw [hA]; exact hT
  have hW0 : s.WarmedH s'.vm := by rw [hvm]; exact State.WarmedH.refl s
  have hat' : ∀ w ∈ vx_atS own ic cls names, w.before args s' = true := fun w hw => vx_ot_at hW0 hvm.symm (hgood w (List.mem_cons_of_mem _ (List.mem_cons_of_mem _ hw))) (hat w hw)
  have hk' : (Cond.classLink own ik cls).before args s' = true := vx_ot_at hW0 hvm.symm (hgood _ List.mem_cons_self) hk
  have hini' : (Cond.initialized cls).before args s' = true := vx_ot_at hW0 hvm.symm (hgood _ (List.mem_cons_of_mem _ List.mem_cons_self)) hini
  have hU' : vx_Zq Bundle.tN "UNASSIGNED_STACK" Bundle.steD A s' s'.heap := by rw [hhp]; exact vx_Zq.moved hW0.alike (hU.kept hS.2.1)
  have hN' : vx_Zq Bundle.tN "SUPPRESSED_SENTINEL" Bundle.listD A s' s'.heap := by rw [hhp]; exact vx_Zq.moved hW0.alike (hN.kept hS.2.1)
  have h : ∀ w ∈ Bundle.ownAtoms own ic cls names, w.before args s' = true := vx_own hat' (vx_isRefq hU'.1) (vx_isRefq hN'.1) hU'.2.word hN'.2.word
  have hown' : s'.vm.findClass own = some m.cls := by rw [hvm]; exact hown
  have hins : (Cond.instantiable cls 6).before args s' = true := h _ (by simp [Bundle.ownAtoms])
  obtain ⟨vm₁, cX, kX, hfX, hkX, -, -, X₁, st1⟩ := Y.newCold hexec (own := own) (C := cls) (index := ik) (n := 6) hown' hk' hins hini'
    (g := F0 m pc ls rest) rfl (by rw [hb]; exact d0) (Nat.le_refl _) (Nat.le_refl _)
  generalize hT1 : (T.setVm vm₁).pushCell { cls := cX, slots := kX.instanceTypes.map defaultValue, vm := .none } = T1 at X₁ st1
  have hcat : (Value.ref T.heap.size).category = 1 := rfl
  have hcellA : T1.heap[T.heap.size]? = some (freshCell cX kX) := by rw [← hT1]; exact State.heap_pushCell_size _ _
  have d3' : decode c.code (pc + 3) = .ok (.dup, 1) := by rw [hb]; exact d3
  have d4' : decode c.code (pc + 4) = .ok (.ldc is, 2) := by rw [hb]; exact d4
  have hstr' : vk_R own is text sa s' := vk_R.warm hW0 hstr
  obtain ⟨U, hsteps, hrun, hend, hW, hsame, ce, hce, hO⟩ := X₁.ctorThrowS hexec htr (own := own) (cls := cls) (names := names) (ic := ic) hown' hcls hnames h (fun x hx => nomatch hx) hfX hkX hcellA (by rw [hhp, hT]; exact Nat.le_refl _) (msg := .ref sa) rfl
    (g := { method := m, pc := pc + 6, locals := ls, stack := .ref sa :: .ref T.heap.size :: .ref T.heap.size :: rest, locked := none }) rfl hsize rfl rfl (rest := rest) rfl
    (by rw [hb]; exact d6) (by rw [hb]; exact d9) hout hRframes (by simp only [List.map_cons, List.sum_cons, hcat]; omega) hlocks
  obtain ⟨f1, f2⟩ := vx_frame hsame
  rw [hhp] at f1 f2
  have hWs : s.WarmedH U.vm := State.WarmedH.trans hW0 hW
  have hcl : s.vm.findClass cls = some ce.cls := by
    have h9 := hO.cls
    rw [hvm] at h9
    exact h9
  have hall : s.sameButNew ({ U with vm := s.vm } : State) locs mc ms := by
    subst hA
    obtain ⟨e1, e2⟩ := hsame
    rw [State.setFrames_setFrames] at e1
    have h2 : (T.setVm s.vm).sameButNew ({ U with vm := s.vm } : State) [] (0 + 1) (0 + 6) := ⟨e1, e2⟩
    have h3 := X.same.trans h2
    rw [List.append_nil] at h3
    exact h3.mono hc hs
  refine ⟨U, ?_, .threw T.heap.size, hrun, hend, Or.inr ⟨T.heap.size, rfl, cls, ce, locs, hx U hWs.alike f1 (fun q hq => f2 q hq (fun z hz => nomatch hz)), hce, hO.vm, hcl, hWs, hall, hf⟩⟩
  refine st1 _ ?_
  show Steps p.tables e below (T1.setTop { method := m, pc := pc + 3, locals := ls, stack := .ref T.heap.size :: rest, locked := none }) _
  jvm_step X₁.here [X₁.here.top, hexec, d3', Value.category]
  exact X₁.ldcString hexec (own := own) (text := text) (index := is) (a := sa) hown' hstr'.1 hstr'.2
    (g := { method := m, pc := pc + 4, locals := ls, stack := .ref T.heap.size :: .ref T.heap.size :: rest, locked := none }) rfl d4' _ hsteps
/-- 'throw new E("text")', the text by a wide index -/
theorem vx_throwSW {cc : ByteArray} {pc : Nat} (hexec : p.tables.exec = Jvm.exec) (hb : c.code = cc) (hl : l.stackTraces = false) {own cls text : String} {names : List String} {ik is ic mc ms sa : Nat} {A : Nat → Prop}
    (hown : s.vm.findClass own = some m.cls) (hcls : Bundle.fit cls = true) (hnames : ∀ n ∈ names, Bundle.fit n = true)
    (hk : (Cond.classLink own ik cls).before args s = true) (hini : (Cond.initialized cls).before args s = true) (hstr : vk_R own is text sa s) (hat : ∀ w ∈ vx_atS own ic cls names, w.before args s = true)
    (hgood : ∀ w ∈ Cond.classLink own ik cls :: Cond.initialized cls :: vx_atS own ic cls names, vx_ot w = true)
    (hU : vx_Zq Bundle.tN "UNASSIGNED_STACK" Bundle.steD A s s.heap) (hN : vx_Zq Bundle.tN "SUPPRESSED_SENTINEL" Bundle.listD A s s.heap) (hS : va_S A s.heap H locs) (hsize : ls.size = c.maxLocals)
    (d0 : decode cc pc = .ok (.new ik, 3)) (d3 : decode cc (pc + 3) = .ok (.dup, 1)) (d4 : decode cc (pc + 4) = .ok (.ldc_w is, 3)) (d7 : decode cc (pc + 7) = .ok (.invokespecial ic, 3)) (d10 : decode cc (pc + 10) = .ok (.athrow, 1))
    (hout : ∀ x ∈ c.exceptionTable.toList, covers x (pc + 10) = false)
    (hRframes : names.length + 3 < R.frames) (hRlocals : (rest.map fun v => v.category).sum + (13 * (names.length + 1) + 43) ≤ R.locals) (hRcells : cells + 1 ≤ R.cells) (hRslots : slots + 6 ≤ R.slots) (hlocks : meth.locks = false)
    (hx : ∀ t : State, s.vm.Alike t.vm → H.size ≤ t.heap.size → (∀ q : Nat, q < H.size → t.heap[q]? = H[q]?) → XC cls s t)
    (hf : ∀ z ∈ locs, free z.base) (hc : cells + 1 ≤ mc) (hs : slots + 6 ≤ ms) :
    W p l e R s m args below meth c H locs cells slots (vx_MQ below Qc XC args s mc ms free) (F0 m pc ls rest) := by
  intro T hT X
  have htr : e.platform.stackTraces = false := (show e.platform.stackTraces = l.stackTraces by rw [X.admits.platform]).trans hl
  have Y := vx_rebase X (R' := { frames := R.frames, locals := R.locals, cells := 1, slots := 6 }) (Nat.le_refl _) (Nat.le_refl _) hRcells hRslots
  obtain ⟨s', hA⟩ : ∃ z, z = (T.setVm s.vm).setFrames (.invoking m args :: below) := ⟨_, rfl⟩
  rw [← hA] at Y
  have hvm : s'.vm = s.vm := by rw [hA]; rfl
  have hhp : s'.heap = H := by rw [hA]; exact hT
  have hW0 : s.WarmedH s'.vm := by rw [hvm]; exact State.WarmedH.refl s
  have hat' : ∀ w ∈ vx_atS own ic cls names, w.before args s' = true := fun w hw => vx_ot_at hW0 hvm.symm (hgood w (List.mem_cons_of_mem _ (List.mem_cons_of_mem _ hw))) (hat w hw)
  have hk' : (Cond.classLink own ik cls).before args s' = true := vx_ot_at hW0 hvm.symm (hgood _ List.mem_cons_self) hk
  have hini' : (Cond.initialized cls).before args s' = true := vx_ot_at hW0 hvm.symm (hgood _ (List.mem_cons_of_mem _ List.mem_cons_self)) hini
  have hU' : vx_Zq Bundle.tN "UNASSIGNED_STACK" Bundle.steD A s' s'.heap := by rw [hhp]; exact vx_Zq.moved hW0.alike (hU.kept hS.2.1)
  have hN' : vx_Zq Bundle.tN "SUPPRESSED_SENTINEL" Bundle.listD A s' s'.heap := by rw [hhp]; exact vx_Zq.moved hW0.alike (hN.kept hS.2.1)
  have h : ∀ w ∈ Bundle.ownAtoms own ic cls names, w.before args s' = true := vx_own hat' (vx_isRefq hU'.1) (vx_isRefq hN'.1) hU'.2.word hN'.2.word
  have hown' : s'.vm.findClass own = some m.cls := by rw [hvm]; exact hown
  have hins : (Cond.instantiable cls 6).before args s' = true := h _ (by simp [Bundle.ownAtoms])
  obtain ⟨vm₁, cX, kX, hfX, hkX, -, -, X₁, st1⟩ := Y.newCold hexec (own := own) (C := cls) (index := ik) (n := 6) hown' hk' hins hini'
    (g := F0 m pc ls rest) rfl (by rw [hb]; exact d0) (Nat.le_refl _) (Nat.le_refl _)
  generalize hT1 : (T.setVm vm₁).pushCell { cls := cX, slots := kX.instanceTypes.map defaultValue, vm := .none } = T1 at X₁ st1
  have hcat : (Value.ref T.heap.size).category = 1 := rfl
  have hcellA : T1.heap[T.heap.size]? = some (freshCell cX kX) := by rw [← hT1]; exact State.heap_pushCell_size _ _
  have d3' : decode c.code (pc + 3) = .ok (.dup, 1) := by rw [hb]; exact d3
  have d4' : decode c.code (pc + 4) = .ok (.ldc_w is, 3) := by rw [hb]; exact d4
  have hstr' : vk_R own is text sa s' := vk_R.warm hW0 hstr
  obtain ⟨U, hsteps, hrun, hend, hW, hsame, ce, hce, hO⟩ := X₁.ctorThrowS hexec htr (own := own) (cls := cls) (names := names) (ic := ic) hown' hcls hnames h (fun x hx => nomatch hx) hfX hkX hcellA (by rw [hhp, hT]; exact Nat.le_refl _) (msg := .ref sa) rfl
    (g := { method := m, pc := pc + 7, locals := ls, stack := .ref sa :: .ref T.heap.size :: .ref T.heap.size :: rest, locked := none }) rfl hsize rfl rfl (rest := rest) rfl
    (by rw [hb]; exact d7) (by rw [hb]; exact d10) hout hRframes (by simp only [List.map_cons, List.sum_cons, hcat]; omega) hlocks
  obtain ⟨f1, f2⟩ := vx_frame hsame
  rw [hhp] at f1 f2
  have hWs : s.WarmedH U.vm := State.WarmedH.trans hW0 hW
  have hcl : s.vm.findClass cls = some ce.cls := by
    have h9 := hO.cls
    rw [hvm] at h9
    exact h9
  have hall : s.sameButNew ({ U with vm := s.vm } : State) locs mc ms := by
    subst hA
    obtain ⟨e1, e2⟩ := hsame
    rw [State.setFrames_setFrames] at e1
    have h2 : (T.setVm s.vm).sameButNew ({ U with vm := s.vm } : State) [] (0 + 1) (0 + 6) := ⟨e1, e2⟩
    have h3 := X.same.trans h2
    rw [List.append_nil] at h3
    exact h3.mono hc hs
  refine ⟨U, ?_, .threw T.heap.size, hrun, hend, Or.inr ⟨T.heap.size, rfl, cls, ce, locs, hx U hWs.alike f1 (fun q hq => f2 q hq (fun z hz => nomatch hz)), hce, hO.vm, hcl, hWs, hall, hf⟩⟩
  refine st1 _ ?_
  show Steps p.tables e below (T1.setTop { method := m, pc := pc + 3, locals := ls, stack := .ref T.heap.size :: rest, locked := none }) _
  jvm_step X₁.here [X₁.here.top, hexec, d3', Value.category]
  exact X₁.ldcStringW hexec (own := own) (text := text) (index := is) (a := sa) hown' hstr'.1 hstr'.2
    (g := { method := m, pc := pc + 4, locals := ls, stack := .ref T.heap.size :: .ref T.heap.size :: rest, locked := none }) rfl d4' _ hsteps
end Ends
section Bodies
variable {l : Launch}
theorem vx_ofW {y : MethodName} {ws ws' : List Cond} {rm : Room} {Pc : Array Value → State → Prop} {Qc : Array Value → State → Outcome → State → Prop} {XC : String → State → State → Prop} {mc ms : Nat} {free : Addr → Prop} {cc : ByteArray} {maxL : Nat} {ret : Option FieldType}
    (hy : plainName y.cls = true) (hw : ws = Cond.code y cc maxL ret :: ws')
    (body : ∀ p e s m args below meth c s₁, BodyLoose p l y (headSpec ws rm) cc maxL ret e s m args below meth c s₁ → c.maxLocals = maxL → (∀ x ∈ c.exceptionTable.toList, False) → Pc args s →
      W p l e (headSpec ws rm).room s m args below meth c s.heap [] 0 0 (vx_MQ below Qc XC args s mc ms free) (entryFrame m args maxL)) : vx_Met l y ws rm Pc Qc XC mc ms free := by
  refine MetFree.of_bodyS (code := cc) (maxLocals := maxL) (ret := ret) hy ?_ ?_
  · intro args s m h hn
    obtain ⟨meth, c, h1, h2, h3, h4, h5, h6, -, -⟩ := Cond.code_spec hn (atoms_spec (ws := ws) h _ (by rw [hw]; exact List.mem_cons_self))
    exact ⟨meth, c, h1, h2, h3, h4, h5, h6⟩
  · intro p e s m args below meth c s₁ B hml hP _
    have hh0 : s₁.heap = s.heap := by rw [B.state]; rfl
    have ht : ∀ x ∈ c.exceptionTable.toList, False := by
      obtain ⟨meth9, c9, h1, h2, -, -, -, -, h7, -⟩ := Cond.code_spec B.named (atoms_spec (ws := ws) B.pre _ (by rw [hw]; exact List.mem_cons_self))
      cases Option.some.inj (h1.symm.trans B.method)
      cases Option.some.inj (h2.symm.trans (Stand.of_body B).code)
      intro x hx
      rw [Array.isEmpty_iff.mp h7] at hx
      cases hx
    obtain ⟨t, a1, o, b1, b2, b3⟩ := body p e s m args below meth c s₁ B hml ht hP s₁ hh0 (Stand.of_body B)
    exact ⟨t, o, a1, b1, b2, b3⟩
/-- the table of a body with handlers -/
theorem vx_table {p : Program} {x y : MethodName} {S : Spec} {cc bytes : ByteArray} {maxL maxL' : Nat} {ret ret' : Option FieldType} {e : Env} {s s₁ : State} {m : MethodId} {args : Array Value} {below : List Frame} {meth : Method} {c : Code} {hh : List (Nat × Nat × Nat × Nat)}
    (B : BodyLoose p l y S cc maxL ret e s m args below meth c s₁) (h : (Cond.codeWith y bytes maxL' ret' hh).before args s = true) : c.exceptionTable.toList = tableOf hh := by
  obtain ⟨m9, meth9, c9, hn9, h1, h2, -, -, h6, -⟩ := Cond.codeWith_spec h
  cases Option.some.inj (hn9.symm.trans B.named)
  cases Option.some.inj (h1.symm.trans B.method)
  cases Option.some.inj (h2.symm.trans (Stand.of_body B).code)
  rw [← h6, table_eq]
end Bodies
end VXA
/-! ===== END ===== -/
/-! ===== BEGIN a static call of a method with an exception table ===== -/
section VXS
variable {p : Program} {l : Launch} {e : Env} {R : Room} {s : State} {m : MethodId} {args : Array Value} {below : List Frame} {meth : Method} {c : Code} {T : State} {H : Heap} {locs : List Loc} {cells slots : Nat}
abbrev vx_CSW (R : Room) (s : State) (args : Array Value) (own : String) (index : Nat) (y : MethodName) (bytes : ByteArray) (maxL : Nat) (ret : Option FieldType) (hh : List (Nat × Nat × Nat × Nat)) (ws : List Cond) (rm : Room) (mc ms n : Nat) : Prop :=
  (rm.cells = mc ∧ rm.slots = ms ∧ rm.frames + 1 ≤ R.frames ∧ 8 + (maxL + 11) + rm.locals ≤ R.locals ∧ (∀ w ∈ ws, ∀ (a' : Array Value) (U : State), s.WarmedH U.vm → w.before a' U = true) ∧ Cond.codeWith y bytes maxL ret hh ∈ ws) ∧
  (Cond.codeWith y bytes maxL ret hh).before args s = true ∧ (Cond.initialized y.cls).before args s = true ∧ (y.cls ≠ "java/lang/invoke/MethodHandle" ∧ y.cls ≠ "java/lang/invoke/VarHandle") ∧
  (∀ sig, parseMethodDescriptor y.desc = some sig → n = sig.parameters.length) ∧ (Cond.methodLink own index y).before args s = true ∧ (Cond.static y).before args s = true
theorem vx_cwSW {own : String} {index maxL mc ms : Nat} {y : MethodName} {bytes : ByteArray} {ret : Option FieldType} {hh : List (Nat × Nat × Nat × Nat)} {Ts ws ws' : List Cond} {rm : Room} (n : Nat) (ht : ∀ w ∈ Ts, w.before args s = true) (hT : GoodIn Ts (va_wsS own index y ws)) (hw : ws = Cond.codeWith y bytes maxL ret hh :: ws') (hrc : rm.cells = mc) (hrs : rm.slots = ms)
    (hd : y.cls ≠ "java/lang/invoke/MethodHandle" ∧ y.cls ≠ "java/lang/invoke/VarHandle" ∧ (parseMethodDescriptor y.desc).map (fun d => d.parameters.length) = some n) (hR : rm.frames + 1 ≤ R.frames ∧ 8 + (maxL + 11) + rm.locals ≤ R.locals) :
    vx_CSW R s args own index y bytes maxL ret hh ws rm mc ms n := by
  have ok : ∀ w ∈ va_wsS own index y ws, w.before args s = true := fun w h => ht w (hT w h).1
  have hG : GoodIn Ts ws := fun w h => hT w (by unfold va_wsS; exact List.mem_append_right _ h)
  have hc : Cond.codeWith y bytes maxL ret hh ∈ ws := by rw [hw]; exact List.mem_cons_self
  refine ⟨⟨hrc, hrs, hR.1, hR.2, pay_in ht hG, hc⟩, ht _ (hG _ hc).1, ok _ (by simp [va_wsS]), ⟨hd.1, hd.2.1⟩, fun sig h => ?_, ok _ (by simp [va_wsS]), ok _ (by simp [va_wsS])⟩
  have h2 := hd.2.2
  rw [h] at h2
  exact (Option.some.inj h2).symm
theorem vx_callSW (X : Stand p l e R s m args below meth c T locs cells slots) (hexec : p.tables.exec = Jvm.exec) {own : String} {index : Nat} {y : MethodName} {bytes : ByteArray} {maxL : Nat} {ret : Option FieldType} {hh : List (Nat × Nat × Nat × Nat)}
    (hown : s.vm.findClass own = some m.cls) (hlink : (Cond.methodLink own index y).before args s = true) (hstat : (Cond.static y).before args s = true) (hinit : (Cond.initialized y.cls).before args s = true)
    (hcode : (Cond.codeWith y bytes maxL ret hh).before args s = true) (hy : y.cls ≠ "java/lang/invoke/MethodHandle" ∧ y.cls ≠ "java/lang/invoke/VarHandle")
    {W9 : Nat} {Pre : Pt → Array Value → Prop} {Post : Pt → Array Value → Option Value → Pt → Prop} (hK : Back l R p e below s args y 3 W9 Pre Post)
    {g : JFrame} (hg : g.method = m) (hsize : g.locals.size = c.maxLocals) {argsL rest : List Value} (hlen : ∀ sig, parseMethodDescriptor y.desc = some sig → argsL.length = sig.parameters.length)
    (hstack : g.stack = argsL.reverse ++ rest) (hW : 2 * g.monitorRoom + (rest.map fun v => v.category).sum ≤ W9) (hdg : decode c.code g.pc = .ok (.invokestatic index, 3))
    (hpre : ∀ vm₁, s.WarmedH vm₁ → Pre ⟨T.setVm vm₁, locs, cells, slots⟩ argsL.toArray) :
    ∃ (v : Option Value) (vm₁ : Vm) (B : Pt), s.WarmedH vm₁ ∧ Stand p l e R s m args below meth c B.U B.locs B.cells B.slots ∧ Post ⟨T.setVm vm₁, locs, cells, slots⟩ argsL.toArray v B ∧
      ∀ target, Steps p.tables e below (B.U.setTop { g with pc := g.pc + 3, stack := v.toList ++ rest }) target → Steps p.tables e below (T.setTop g) target := by
  obtain ⟨mk, methM, cM, hnamed, hmethM, -, -, -, -, -, -, hsigM⟩ := Cond.codeWith_spec hcode
  have hstatic : methM.isStatic = true := Cond.static_spec hnamed hmethM hstat
  obtain ⟨kP, hkP, -⟩ := className_of_methodNamed hnamed
  have hinitP : kP.init = .initialized := Cond.initialized_spec (findClass_of_methodNamed hnamed) hkP hinit
  obtain ⟨vm₁, X₁, hstep₁⟩ := X.invokestatic hexec hown hlink hnamed hmethM hstatic hkP hinitP hy (g := g) hg (argsL := argsL) (rest := rest) (hlen _ hsigM) hstack hdg
  obtain ⟨v, B, X', hpost, hsteps⟩ := hK m meth c ⟨T.setVm vm₁, locs, cells, slots⟩ { g with stack := rest } (.invokestatic index) mk argsL.toArray X₁ hg hsize hdg hW (X₁.named hnamed) (hpre vm₁ X₁.warmed)
  exact ⟨v, vm₁, B, X₁.warmed, X', hpost, fun target h => hstep₁ _ fun acts => by rw [doInvoke_state]; exact hsteps.trans h⟩
theorem vx_runSW {y : MethodName} {bytes cc : ByteArray} {maxL nL mc ms n index : Nat} {ret : Option FieldType} {hh : List (Nat × Nat × Nat × Nat)} {ws : List Cond} {rm : Room} {Pc : Array Value → State → Prop} {Qc : Array Value → State → Outcome → State → Prop} {free : Addr → Prop} {Ts : List Cond} {own : String} {As rest : List Value} {g : JFrame}
    (S : CallFix p m c cc nL s args Ts own) (hM : Met l y ws rm Pc Qc mc ms free) (cw : vx_CSW R s args own index y bytes maxL ret hh ws rm mc ms n) (hp : PreS s H Pc As)
    (hg : g.method = m) (hn : As.length = n) (hsize : g.locals.size = nL) (hstack : g.stack = As.reverse ++ rest) (hW : 2 * g.monitorRoom + (rest.map fun v => v.category).sum ≤ 8) (hdg : decode cc g.pc = .ok (.invokestatic index, 3)) (hf : cells + mc ≤ R.cells ∧ slots + ms ≤ R.slots) :
    va_Run p l e R s m args below meth c H locs cells slots mc ms g rest (Qc As.toArray) (free) := by
  obtain ⟨⟨hrc, hrs, hfr, hlo, hws, hcw⟩, hcode, hini, hy, hlen, hl, hstt⟩ := cw
  have hK : Back l R p e below s args y 3 8 (PreOf R mc ms Pc) (PostOf Qc mc ms free) := va_backW (hh := hh) (bytes := bytes) (maxL := maxL) (ret := ret) hM hp.1 hrc hrs hfr hlo hws hcw (fun a' U hW => word_at hW (Or.inl (by first | rfl | simp [Cond.onTables, Cond.keeps, Cond.steady])) hini)
  obtain ⟨hx, hb, hml, ho, -⟩ := S
  intro T hT X
  obtain ⟨v, vm₁, ⟨U', l2, c2, s2⟩, hW₁, X', ⟨g', mk, t, L, e1, e2, hq, h1, hL, h2, h3⟩, st⟩ := vx_callSW X hx (hh := hh) (bytes := bytes) (maxL := maxL) (ret := ret) ho hl hstt hini hcode hy hK hg (hsize.trans hml.symm) (argsL := As) (rest := rest) (fun sig h => hn.trans (hlen sig h)) hstack hW (by rw [hb]; exact hdg)
    (fun vm₁ hW₁ => ⟨hf.1, hf.2, hp.2 (T.setVm vm₁) hT hW₁⟩)
  dsimp only [Pt.U, Pt.locs, Pt.cells, Pt.slots] at X' e1 e2 h1 h2 h3 st
  subst h1; subst h2; subst h3
  exact ⟨v, (T.setVm vm₁).calling g' mk As.toArray, t, U', L, hT, X', hL, e1, e2, hq, st⟩
/-- not caught here, past rows that name other classes: it goes on to the caller -/
theorem vx_outP {p : Program} {l : Launch} {e : Env} {R : Room} {s : State} {m : MethodId} {args : Array Value} {below : List Frame} {meth : Method} {c : Code} {H : Heap} {locs : List Loc} {cells slots : Nat} {free : Addr → Prop} {ls : Array Slot} {rest : List Value} {Qc : Array Value → State → Outcome → State → Prop} {XC : String → State → State → Prop}
    {pc : Nat} {own E : String} {ce : Cell} {q : Addr} {mc ms : Nat} (hown : s.vm.findClass own = some m.cls) (hlocks : meth.locks = false)
    (hpass : ∀ z ∈ c.exceptionTable.toList, covers z pc = false ∨ (z.catchType ≠ 0 ∧ ∃ nm : String, (Cond.classLink own z.catchType nm).before args s = true ∧ va_Nc E nm s)) (hcell : H[q]? = some ce) (hv : ce.vm = .none) (hcl : s.vm.findClass E = some ce.cls)
    (hx : ∀ t : State, t.heap = H → s.vm.Alike t.vm → XC E s t) (hf : ∀ z ∈ locs, free z.base) (hc : cells ≤ mc) (hs : slots ≤ ms) :
    vx_W p l e R s m args below meth c H locs cells slots (vx_MQ below Qc XC args s mc ms free) (F0 m pc ls rest) q := by
  intro T hT X
  have hpl : e.platform.magicAccessors = ({} : Platform).magicAccessors := by rw [X.admits.platform]
  obtain ⟨vm', hW', X', st⟩ := X.outThrough hlocks q (g := F0 m pc ls rest) rfl rfl rfl (cell := ce) (by rw [hT]; exact hcell) (by rw [hv]; rfl)
    (by obtain ⟨k9, h9, -⟩ := Vm.findClass_spec hcl; exact ⟨k9, h9⟩) (fun z hz => by
      rcases hpass z hz with h | ⟨hz0, nm, hl1, hn1⟩
      · exact Or.inl h
      · obtain ⟨c6, hc6, hcl6⟩ := Cond.classLink_spec hown hl1 e.platform hpl
        obtain ⟨a8, b8, h1, h2, h3⟩ := hn1
        cases Option.some.inj (h1.symm.trans hcl)
        cases Option.some.inj (h2.symm.trans hc6)
        exact Or.inr ⟨hz0, _, hcl6, h3⟩)
  obtain ⟨g₀, hfr⟩ := X'.frames_eq
  have hcell9 : ((T.setVm vm').setFrames (.throwing q :: below)).heap[q]? = some ce := by
    show T.heap[q]? = some ce
    rw [hT]; exact hcell
  have hend : Ended ((T.setVm vm').setFrames (.throwing q :: below)) below (.threw q) := State.frames_setFrames _ (State.cur_lt_of_frames hfr)
  refine ⟨(T.setVm vm').setFrames (.throwing q :: below), ?_, .threw q, X'.here.running, hend, Or.inr ⟨q, rfl, E, ce, locs, hx _ hT (X'.ends _).1.alike, hcell9, hv, hcl, (X'.ends _).1, (X'.ends _).2.mono hc hs, hf⟩⟩
  rw [X.pushThrowing_eq]
  exact st
/-- a thing of a world lies in the heap -/
theorem vx_lt {D : va_G} {cl : List vw_C} {ws : va_W} {H1 : Heap} (h : va_P D cl ws H1) {k : Nat} {q : Nat × va_E} (hk : ws[k]? = some q) : q.1 < H1.size := (h k q hk).lt
end VXS
/-! ===== END ===== -/
/-! ===== BEGIN methods with a table of their own: called by a name, returning or throwing ===== -/
section VXH
/-! vx_backW, vx_callVX, vx_callSX, vx_callVW, vx_runVW, vx_runVX, vx_runSX, vx_ofWH follow the same proofs as their sisters above (Free/Laws.lean, Shelf42/LK1.lean); vx_outP calls Shelf42/NT130.lean (outThrough). -/
section
variable {l : Launch} {R : Room} {p : Program} {e : Env} {below : List Frame} {s : State} {sargs : Array Value} {y : MethodName} {len W9 : Nat}
theorem vx_backW {ws : List Cond} {rm : Room} {Pc : Array Value → State → Prop} {Qc : Array Value → State → Outcome → State → Prop} {XC : String → State → State → Prop} {mc ms : Nat} {free : Addr → Prop} {bytes : ByteArray} {maxL : Nat} {ret : Option FieldType} {hh : List (Nat × Nat × Nat × Nat)}
    (hM : vx_Met l y ws rm Pc Qc XC mc ms free) (hblind : FrameBlind Pc) (hrc : rm.cells = mc) (hrs : rm.slots = ms)
    (hframes : rm.frames + 1 ≤ R.frames) (hlocals : W9 + (maxL + 11) + rm.locals ≤ R.locals)
    (hws : ∀ w ∈ ws, ∀ a' U, s.WarmedH U.vm → w.before a' U = true) (hcode : Cond.codeWith y bytes maxL ret hh ∈ ws) (hinit : ∀ a' U, s.WarmedH U.vm → (Cond.initialized y.cls).before a' U = true) :
    vx_Back l R p e below s sargs y len W9 (PreOf R mc ms Pc) (PostOf Qc mc ms free) (vx_Post XC mc ms free) := by
  intro m meth c A g ig mk a X hg hsize hdg hW hn hp
  have h1 : (headSpec ws rm).pre.before a A.U = true := atoms_intro fun w hw => hws w hw _ _ X.warmed
  have h2 : (Cond.codeWith y bytes maxL ret hh).before a A.U = true := hws _ hcode _ _ X.warmed
  have h3 : (Cond.initialized y.cls).before a A.U = true := hinit _ _ X.warmed
  have h4 : A.cells + (headSpec ws rm).room.cells ≤ R.cells := by rw [show (headSpec ws rm).room.cells = mc from hrc]; exact hp.1
  have h5 : A.slots + (headSpec ws rm).room.slots ≤ R.slots := by rw [show (headSpec ws rm).room.slots = ms from hrs]; exact hp.2.1
  have hPc : Pc a (A.U.calling g mk a) := hblind _ _ _ _ hp.2.2
  obtain ⟨U, Ls, c0, s0⟩ := A
  dsimp only [Pt.U, Pt.locs, Pt.cells, Pt.slots] at h1 h2 h3 h4 h5 X hn hPc ⊢
  obtain ⟨m9, methY, cY, hn9, hmY, hcY, -, hlY, -⟩ := Cond.codeWith_spec h2
  cases Option.some.inj (hn9.symm.trans hn)
  obtain ⟨kY, hkY, -⟩ := className_of_methodNamed hn
  have hinitY : kY.init = .initialized := Cond.initialized_spec (findClass_of_methodNamed hn) hkY h3
  have h : At U g.method c below := by rw [hg]; exact X.here
  have hlocals9 : W9 + (maxL + 11) + (headSpec ws rm).room.locals ≤ R.locals := hlocals
  have happ : (headSpec ws rm).appliesLoose y e.platform (U.calling g mk a) = true :=
    Spec.appliesLoose_calling (g := g) h hdg hn hkY hinitY
      (X.room_calling (g := g) (R' := (headSpec ws rm).room) hsize hmY hcY hframes (by rw [hlY]; omega) h4 h5) h1
  obtain ⟨mid, hmid⟩ := h.above
  have hfr : (U.setTop g).frames = (.java g :: mid) ++ below := by rw [State.frames_setTop' g h.top, hmid]; rfl
  obtain ⟨o, s₂, hsteps, -, hend, hq⟩ := Steps.callFree hM p X.admits X.cas X.clock (acts := []) hfr happ hPc trivial
  have hq' : vx_Q Qc XC mc ms free a (U.calling g mk a) o s₂ := hq
  rw [State.frames_setTop' g h.top] at hend
  obtain ⟨g₀, hg0⟩ := Option.isSome_iff_exists.mp h.top
  obtain ⟨r, hr⟩ := State.topJava?_eq_some.mp hg0
  have hr' : (({ U with heap := s₂.heap, slotsUsed := s₂.slotsUsed } : State).setVm s₂.vm).frames = .java g₀ :: r := hr
  rcases hq' with ⟨hqc, L, hfe, hL⟩ | ⟨q, rfl, E, ce, L, hx, hce, hcv, hcl, hW₂, hsm, hL⟩
  · obtain ⟨⟨v, rfl⟩, hW₂, e2, q2, q3, q4, q5, q6⟩ := id hfe
    have e3 : s₂ = ({ (U.calling g mk a).setFrames s₂.frames with heap := s₂.heap, slotsUsed := s₂.slotsUsed } : State).setVm s₂.vm := by
      have : s₂ = ({ s₂ with vm := (U.calling g mk a).vm } : State).setVm s₂.vm := rfl
      rw [e2] at this
      exact this
    obtain ⟨c₂, i₂, len₂, hc₂, hd₂, hf₂⟩ := hend
    have hW' : U.WarmedH s₂.vm := hW₂
    have hcc : c₂ = c := by
      have h1 : s₂.code? g.method = U.code? g.method := by
        rw [State.code?_eq, State.code?_eq, hW'.alike.method?]
      exact Option.some.inj (hc₂.symm.trans (h1.trans h.code))
    subst hcc
    have hlen : len₂ = len := by rw [hdg] at hd₂; cases hd₂; rfl
    subst hlen
    have hs₂ : s₂ = (({ U with heap := s₂.heap, slotsUsed := s₂.slotsUsed } : State).setVm s₂.vm).setTop { g with pc := g.pc + len₂, stack := v.toList ++ g.stack } := by
      refine e3.trans ?_
      rw [hf₂, State.calling_eq h.top, State.setFrames_setFrames, State.setTop_of_frames _ hr', hr]
      rfl
    have hsame : U.sameButNew ({ U with heap := s₂.heap, slotsUsed := s₂.slotsUsed } : State) L mc ms := by
      refine ⟨?_, q2, q3, q4, q5, q6⟩
      obtain ⟨t, ht, -⟩ := State.frames_cons hr
      show ({ U with heap := s₂.heap, slotsUsed := s₂.slotsUsed } : State) = { U.setFrames U.frames with heap := s₂.heap, slotsUsed := s₂.slotsUsed }
      rw [State.setFrames_self ht]
    subst hg
    refine Or.inl ⟨v, ⟨(({ U with heap := s₂.heap, slotsUsed := s₂.slotsUsed } : State).setVm s₂.vm), Ls ++ L, c0 + mc, s0 + ms⟩,
      ⟨X.admits, X.cas, X.clock, X.frames, X.room, X.hears, X.method, X.code, (X.here.setHeapUsed s₂.heap s₂.slotsUsed).setVm hW'.alike, X.tail, State.WarmedH.trans X.warmed hW', X.limits, X.bytes, X.same.trans (hsame.setVm s.vm)⟩,
      ⟨g, mk, s₂, L, rfl, rfl, hqc, rfl, hL, rfl, rfl⟩, ?_⟩
    show Steps p.tables e below _ ((({ U with heap := s₂.heap, slotsUsed := s₂.slotsUsed } : State).setVm s₂.vm).setTop { g with pc := g.pc + len₂, stack := v.toList ++ g.stack })
    rw [← hs₂]
    exact hsteps
  · obtain ⟨e2, q2, q3, q4, q5, q6⟩ := id hsm
    have e3 : s₂ = ({ (U.calling g mk a).setFrames s₂.frames with heap := s₂.heap, slotsUsed := s₂.slotsUsed } : State).setVm s₂.vm := by
      have : s₂ = ({ s₂ with vm := (U.calling g mk a).vm } : State).setVm s₂.vm := rfl
      rw [e2] at this
      exact this
    have hf₂ : s₂.frames = .throwing q :: .java g :: U.frames.tail := hend
    have hW' : U.WarmedH s₂.vm := hW₂
    have hs₂ : s₂ = ((({ U with heap := s₂.heap, slotsUsed := s₂.slotsUsed } : State).setVm s₂.vm).setTop g).pushFrame (.throwing q) := by
      refine e3.trans ?_
      rw [hf₂, State.calling_eq h.top, State.setFrames_setFrames, State.pushFrame, State.frames_setTop _ hr', State.setTop_of_frames _ hr', State.setFrames_setFrames, hr]
      rfl
    have hsame : U.sameButNew ({ U with heap := s₂.heap, slotsUsed := s₂.slotsUsed } : State) L mc ms := by
      refine ⟨?_, q2, q3, q4, q5, q6⟩
      obtain ⟨t, ht, -⟩ := State.frames_cons hr
      show ({ U with heap := s₂.heap, slotsUsed := s₂.slotsUsed } : State) = { U.setFrames U.frames with heap := s₂.heap, slotsUsed := s₂.slotsUsed }
      rw [State.setFrames_self ht]
    subst hg
    refine Or.inr ⟨q, ⟨(({ U with heap := s₂.heap, slotsUsed := s₂.slotsUsed } : State).setVm s₂.vm), Ls ++ L, c0 + mc, s0 + ms⟩,
      ⟨X.admits, X.cas, X.clock, X.frames, X.room, X.hears, X.method, X.code, (X.here.setHeapUsed s₂.heap s₂.slotsUsed).setVm hW'.alike, X.tail, State.WarmedH.trans X.warmed hW', X.limits, X.bytes, X.same.trans (hsame.setVm s.vm)⟩,
      ⟨g, mk, s₂, L, E, ce, rfl, rfl, hx, hce, hcv, hcl, rfl, hL, rfl, rfl⟩, ?_⟩
    show Steps p.tables e below _ (((({ U with heap := s₂.heap, slotsUsed := s₂.slotsUsed } : State).setVm s₂.vm).setTop g).pushFrame (.throwing q))
    rw [← hs₂]
    exact hsteps
end
variable {p : Program} {l : Launch} {e : Env} {R : Room} {s : State} {m : MethodId} {args : Array Value} {below : List Frame} {meth : Method} {c : Code} {T : State} {H : Heap} {locs : List Loc} {cells slots : Nat}
theorem vx_callVX (X : Stand p l e R s m args below meth c T locs cells slots) (hexec : p.tables.exec = Jvm.exec) {own C : String} {index : Nat} {y : MethodName} {bytes : ByteArray} {maxL : Nat} {ret : Option FieldType} {hh : List (Nat × Nat × Nat × Nat)}
    (hown : s.vm.findClass own = some m.cls) (hlink : (Cond.methodLink own index y).before args s = true) (hinst : (Cond.instanceMethod y).before args s = true) (hsel : (Cond.selects C y y).before args s = true)
    (hcode : (Cond.codeWith y bytes maxL ret hh).before args s = true) (hy : y.cls ≠ "java/lang/invoke/MethodHandle" ∧ y.cls ≠ "java/lang/invoke/VarHandle")
    {W9 : Nat} {Pre : Pt → Array Value → Prop} {Post : Pt → Array Value → Option Value → Pt → Prop} {PostX : Pt → Array Value → Addr → Pt → Prop} (hK : vx_Back l R p e below s args y 3 W9 Pre Post PostX)
    {b : Addr} {cellB : Cell} (hcell : T.heap[b]? = some cellB) (hobj : cellB.vm.isStatics = false) (hcls : s.vm.findClass C = some cellB.cls)
    {g : JFrame} (hg : g.method = m) (hsize : g.locals.size = c.maxLocals) {argsL rest : List Value} (hlen : ∀ sig, parseMethodDescriptor y.desc = some sig → argsL.length = sig.parameters.length)
    (hstack : g.stack = argsL.reverse ++ .ref b :: rest) (hW : 2 * g.monitorRoom + (rest.map fun v => v.category).sum ≤ W9) (hdg : decode c.code g.pc = .ok (.invokevirtual index, 3))
    (hpre : ∀ vm₁, s.WarmedH vm₁ → Pre ⟨T.setVm vm₁, locs, cells, slots⟩ (Value.ref b :: argsL).toArray) :
    (∃ (v : Option Value) (vm₁ : Vm) (B : Pt), s.WarmedH vm₁ ∧ Stand p l e R s m args below meth c B.U B.locs B.cells B.slots ∧ Post ⟨T.setVm vm₁, locs, cells, slots⟩ (Value.ref b :: argsL).toArray v B ∧
      ∀ target, Steps p.tables e below (B.U.setTop { g with pc := g.pc + 3, stack := v.toList ++ rest }) target → Steps p.tables e below (T.setTop g) target) ∨
    (∃ (q : Addr) (vm₁ : Vm) (B : Pt), s.WarmedH vm₁ ∧ Stand p l e R s m args below meth c B.U B.locs B.cells B.slots ∧ PostX ⟨T.setVm vm₁, locs, cells, slots⟩ (Value.ref b :: argsL).toArray q B ∧
      Steps p.tables e below (T.setTop g) ((B.U.setTop { g with stack := rest }).pushFrame (.throwing q))) := by
  obtain ⟨mk, methM, hnamed, hmethM, hstM, habM⟩ := Cond.instanceMethod_spec hinst
  obtain ⟨m8, methM', cM, hn8, hmethM', -, -, -, -, -, -, hsigM⟩ := Cond.codeWith_spec hcode
  cases Option.some.inj (hn8.symm.trans hnamed)
  cases hmethM.symm.trans hmethM'
  obtain ⟨c2, r2, m2, q1, q2, q3, q4, kP, hkP, hkPi⟩ := Cond.selects_spec hsel
  cases hcls.symm.trans q1
  cases (State.methodFound?_of_named hnamed hy).symm.trans q2
  cases hnamed.symm.trans q3
  have hselP : selectMethod e.platform s.vm cellB.cls mk = .method mk := by rw [Launch.admits_selectMethod X.admits]; exact q4
  obtain ⟨vm₁, X₁, hstep₁⟩ := X.invokevirtual hexec hown hlink hnamed hmethM hstM hkP hkPi hy (a := b) (cell := cellB) hcell
    (fun z h => by rw [h] at hobj; cases hobj) hselP hmethM habM hkP hkPi (g := g) hg (argsL := argsL) (rest := rest) (hlen _ hsigM) hstack hdg
  rcases hK m meth c ⟨T.setVm vm₁, locs, cells, slots⟩ { g with stack := rest } (.invokevirtual index) mk (Value.ref b :: argsL).toArray X₁ hg hsize hdg hW (X₁.named hnamed) (hpre vm₁ X₁.warmed) with ⟨v, B, X', hpost, hsteps⟩ | ⟨q, B, X', hpost, hsteps⟩
  · exact Or.inl ⟨v, vm₁, B, X₁.warmed, X', hpost, fun target h => hstep₁ _ fun acts => by rw [doInvoke_state]; exact hsteps.trans h⟩
  · exact Or.inr ⟨q, vm₁, B, X₁.warmed, X', hpost, hstep₁ _ fun acts => by rw [doInvoke_state]; exact hsteps⟩
theorem vx_callSX (X : Stand p l e R s m args below meth c T locs cells slots) (hexec : p.tables.exec = Jvm.exec) {own : String} {index : Nat} {y : MethodName} {bytes : ByteArray} {maxL : Nat} {ret : Option FieldType} {hh : List (Nat × Nat × Nat × Nat)}
    (hown : s.vm.findClass own = some m.cls) (hlink : (Cond.methodLink own index y).before args s = true) (hstat : (Cond.static y).before args s = true) (hinit : (Cond.initialized y.cls).before args s = true)
    (hcode : (Cond.codeWith y bytes maxL ret hh).before args s = true) (hy : y.cls ≠ "java/lang/invoke/MethodHandle" ∧ y.cls ≠ "java/lang/invoke/VarHandle")
    {W9 : Nat} {Pre : Pt → Array Value → Prop} {Post : Pt → Array Value → Option Value → Pt → Prop} {PostX : Pt → Array Value → Addr → Pt → Prop} (hK : vx_Back l R p e below s args y 3 W9 Pre Post PostX)
    {g : JFrame} (hg : g.method = m) (hsize : g.locals.size = c.maxLocals) {argsL rest : List Value} (hlen : ∀ sig, parseMethodDescriptor y.desc = some sig → argsL.length = sig.parameters.length)
    (hstack : g.stack = argsL.reverse ++ rest) (hW : 2 * g.monitorRoom + (rest.map fun v => v.category).sum ≤ W9) (hdg : decode c.code g.pc = .ok (.invokestatic index, 3))
    (hpre : ∀ vm₁, s.WarmedH vm₁ → Pre ⟨T.setVm vm₁, locs, cells, slots⟩ argsL.toArray) :
    (∃ (v : Option Value) (vm₁ : Vm) (B : Pt), s.WarmedH vm₁ ∧ Stand p l e R s m args below meth c B.U B.locs B.cells B.slots ∧ Post ⟨T.setVm vm₁, locs, cells, slots⟩ argsL.toArray v B ∧
      ∀ target, Steps p.tables e below (B.U.setTop { g with pc := g.pc + 3, stack := v.toList ++ rest }) target → Steps p.tables e below (T.setTop g) target) ∨
    (∃ (q : Addr) (vm₁ : Vm) (B : Pt), s.WarmedH vm₁ ∧ Stand p l e R s m args below meth c B.U B.locs B.cells B.slots ∧ PostX ⟨T.setVm vm₁, locs, cells, slots⟩ argsL.toArray q B ∧
      Steps p.tables e below (T.setTop g) ((B.U.setTop { g with stack := rest }).pushFrame (.throwing q))) := by
  obtain ⟨mk, methM, cM, hnamed, hmethM, -, -, -, -, -, -, hsigM⟩ := Cond.codeWith_spec hcode
  have hstatic : methM.isStatic = true := Cond.static_spec hnamed hmethM hstat
  obtain ⟨kP, hkP, -⟩ := className_of_methodNamed hnamed
  have hinitP : kP.init = .initialized := Cond.initialized_spec (findClass_of_methodNamed hnamed) hkP hinit
  obtain ⟨vm₁, X₁, hstep₁⟩ := X.invokestatic hexec hown hlink hnamed hmethM hstatic hkP hinitP hy (g := g) hg (argsL := argsL) (rest := rest) (hlen _ hsigM) hstack hdg
  rcases hK m meth c ⟨T.setVm vm₁, locs, cells, slots⟩ { g with stack := rest } (.invokestatic index) mk argsL.toArray X₁ hg hsize hdg hW (X₁.named hnamed) (hpre vm₁ X₁.warmed) with ⟨v, B, X', hpost, hsteps⟩ | ⟨q, B, X', hpost, hsteps⟩
  · exact Or.inl ⟨v, vm₁, B, X₁.warmed, X', hpost, fun target h => hstep₁ _ fun acts => by rw [doInvoke_state]; exact hsteps.trans h⟩
  · exact Or.inr ⟨q, vm₁, B, X₁.warmed, X', hpost, hstep₁ _ fun acts => by rw [doInvoke_state]; exact hsteps⟩
theorem vx_callVW (X : Stand p l e R s m args below meth c T locs cells slots) (hexec : p.tables.exec = Jvm.exec) {own C : String} {index : Nat} {y : MethodName} {bytes : ByteArray} {maxL : Nat} {ret : Option FieldType} {hh : List (Nat × Nat × Nat × Nat)}
    (hown : s.vm.findClass own = some m.cls) (hlink : (Cond.methodLink own index y).before args s = true) (hinst : (Cond.instanceMethod y).before args s = true) (hsel : (Cond.selects C y y).before args s = true)
    (hcode : (Cond.codeWith y bytes maxL ret hh).before args s = true) (hy : y.cls ≠ "java/lang/invoke/MethodHandle" ∧ y.cls ≠ "java/lang/invoke/VarHandle")
    {W9 : Nat} {Pre : Pt → Array Value → Prop} {Post : Pt → Array Value → Option Value → Pt → Prop} (hK : Back l R p e below s args y 3 W9 Pre Post)
    {b : Addr} {cellB : Cell} (hcell : T.heap[b]? = some cellB) (hobj : cellB.vm.isStatics = false) (hcls : s.vm.findClass C = some cellB.cls)
    {g : JFrame} (hg : g.method = m) (hsize : g.locals.size = c.maxLocals) {argsL rest : List Value} (hlen : ∀ sig, parseMethodDescriptor y.desc = some sig → argsL.length = sig.parameters.length)
    (hstack : g.stack = argsL.reverse ++ .ref b :: rest) (hW : 2 * g.monitorRoom + (rest.map fun v => v.category).sum ≤ W9) (hdg : decode c.code g.pc = .ok (.invokevirtual index, 3))
    (hpre : ∀ vm₁, s.WarmedH vm₁ → Pre ⟨T.setVm vm₁, locs, cells, slots⟩ (Value.ref b :: argsL).toArray) :
    ∃ (v : Option Value) (vm₁ : Vm) (B : Pt), s.WarmedH vm₁ ∧ Stand p l e R s m args below meth c B.U B.locs B.cells B.slots ∧ Post ⟨T.setVm vm₁, locs, cells, slots⟩ (Value.ref b :: argsL).toArray v B ∧
      ∀ target, Steps p.tables e below (B.U.setTop { g with pc := g.pc + 3, stack := v.toList ++ rest }) target → Steps p.tables e below (T.setTop g) target := by
  obtain ⟨mk, methM, hnamed, hmethM, hstM, habM⟩ := Cond.instanceMethod_spec hinst
  obtain ⟨m8, methM', cM, hn8, hmethM', -, -, -, -, -, -, hsigM⟩ := Cond.codeWith_spec hcode
  cases Option.some.inj (hn8.symm.trans hnamed)
  cases hmethM.symm.trans hmethM'
  obtain ⟨c2, r2, m2, q1, q2, q3, q4, kP, hkP, hkPi⟩ := Cond.selects_spec hsel
  cases hcls.symm.trans q1
  cases (State.methodFound?_of_named hnamed hy).symm.trans q2
  cases hnamed.symm.trans q3
  have hselP : selectMethod e.platform s.vm cellB.cls mk = .method mk := by rw [Launch.admits_selectMethod X.admits]; exact q4
  obtain ⟨vm₁, X₁, hstep₁⟩ := X.invokevirtual hexec hown hlink hnamed hmethM hstM hkP hkPi hy (a := b) (cell := cellB) hcell
    (fun z h => by rw [h] at hobj; cases hobj) hselP hmethM habM hkP hkPi (g := g) hg (argsL := argsL) (rest := rest) (hlen _ hsigM) hstack hdg
  obtain ⟨v, B, X', hpost, hsteps⟩ := hK m meth c ⟨T.setVm vm₁, locs, cells, slots⟩ { g with stack := rest } (.invokevirtual index) mk (Value.ref b :: argsL).toArray X₁ hg hsize hdg hW (X₁.named hnamed) (hpre vm₁ X₁.warmed)
  exact ⟨v, vm₁, B, X₁.warmed, X', hpost, fun target h => hstep₁ _ fun acts => by rw [doInvoke_state]; exact hsteps.trans h⟩
abbrev vx_CVW (R : Room) (s : State) (args : Array Value) (own C : String) (index : Nat) (y : MethodName) (bytes : ByteArray) (maxL : Nat) (ret : Option FieldType) (hh : List (Nat × Nat × Nat × Nat)) (ws : List Cond) (rm : Room) (mc ms n : Nat) : Prop :=
  (rm.cells = mc ∧ rm.slots = ms ∧ rm.frames + 1 ≤ R.frames ∧ 8 + (maxL + 11) + rm.locals ≤ R.locals ∧ (∀ w ∈ ws, ∀ (a' : Array Value) (U : State), s.WarmedH U.vm → w.before a' U = true) ∧ Cond.codeWith y bytes maxL ret hh ∈ ws) ∧
  (Cond.codeWith y bytes maxL ret hh).before args s = true ∧ (Cond.initialized y.cls).before args s = true ∧ (y.cls ≠ "java/lang/invoke/MethodHandle" ∧ y.cls ≠ "java/lang/invoke/VarHandle") ∧
  (∀ sig, parseMethodDescriptor y.desc = some sig → n = sig.parameters.length) ∧ (Cond.methodLink own index y).before args s = true ∧ (Cond.instanceMethod y).before args s = true ∧ (Cond.selects C y y).before args s = true
theorem vx_cwVW {own C : String} {index maxL mc ms : Nat} {y : MethodName} {bytes : ByteArray} {ret : Option FieldType} {hh : List (Nat × Nat × Nat × Nat)} {Ts ws ws' : List Cond} {rm : Room} (n : Nat) (ht : ∀ w ∈ Ts, w.before args s = true) (hT : GoodIn Ts (wsV own index C y ws)) (hw : ws = Cond.codeWith y bytes maxL ret hh :: ws') (hrc : rm.cells = mc) (hrs : rm.slots = ms)
    (hd : y.cls = C ∧ y.cls ≠ "java/lang/invoke/MethodHandle" ∧ y.cls ≠ "java/lang/invoke/VarHandle" ∧ (parseMethodDescriptor y.desc).map (fun d => d.parameters.length) = some n) (hR : rm.frames + 1 ≤ R.frames ∧ 8 + (maxL + 11) + rm.locals ≤ R.locals) :
    vx_CVW R s args own C index y bytes maxL ret hh ws rm mc ms n := by
  obtain ⟨hC, hd⟩ := hd
  subst hC
  have ok : ∀ w ∈ wsV own index y.cls y ws, w.before args s = true := fun w h => ht w (hT w h).1
  have hG : GoodIn Ts ws := fun w h => hT w (by unfold wsV; exact List.mem_append_right _ h)
  have hc : Cond.codeWith y bytes maxL ret hh ∈ ws := by rw [hw]; exact List.mem_cons_self
  refine ⟨⟨hrc, hrs, hR.1, hR.2, pay_in ht hG, hc⟩, ht _ (hG _ hc).1, ok _ (by simp [wsV]), ⟨hd.1, hd.2.1⟩, fun sig h => ?_, ok _ (by simp [wsV]), ok _ (by simp [wsV]), ok _ (by simp [wsV])⟩
  have h2 := hd.2.2
  rw [h] at h2
  exact (Option.some.inj h2).symm
theorem vx_runVW {y : MethodName} {bytes cc : ByteArray} {maxL nL mc ms n index : Nat} {ret : Option FieldType} {hh : List (Nat × Nat × Nat × Nat)} {ws : List Cond} {rm : Room} {Pc : Array Value → State → Prop} {Qc : Array Value → State → Outcome → State → Prop} {free : Addr → Prop} {Ts : List Cond} {own C : String} {b : Addr} {As rest : List Value} {g : JFrame}
    (S : CallFix p m c cc nL s args Ts own) (hM : Met l y ws rm Pc Qc mc ms free) (cw : vx_CVW R s args own C index y bytes maxL ret hh ws rm mc ms n) (hp : PreV s H C b Pc As)
    (hg : g.method = m) (hn : As.length = n) (hsize : g.locals.size = nL) (hstack : g.stack = As.reverse ++ .ref b :: rest) (hW : 2 * g.monitorRoom + (rest.map fun v => v.category).sum ≤ 8) (hdg : decode cc g.pc = .ok (.invokevirtual index, 3)) (hf : cells + mc ≤ R.cells ∧ slots + ms ≤ R.slots) :
    va_Run p l e R s m args below meth c H locs cells slots mc ms g rest (Qc (Value.ref b :: As).toArray) free := by
  obtain ⟨⟨hrc, hrs, hfr, hlo, hws, hcw⟩, hcode, hini, hy, hlen, hl, hin, hse⟩ := cw
  have hK : Back l R p e below s args y 3 8 (PreOf R mc ms Pc) (PostOf Qc mc ms free) := va_backW (hh := hh) (bytes := bytes) (maxL := maxL) (ret := ret) hM hp.1 hrc hrs hfr hlo hws hcw (fun a' U hW => word_at hW (Or.inl (by first | rfl | simp [Cond.onTables, Cond.keeps, Cond.steady])) hini)
  obtain ⟨hx, hb, hml, ho, -⟩ := S
  obtain ⟨-, ⟨cellB, hcB, hoB, hclB⟩, hPc⟩ := hp
  intro T hT X
  obtain ⟨v, vm₁, ⟨U', l2, c2, s2⟩, hW₁, X', ⟨g', mk, t, L, e1, e2, hq, h1, hL, h2, h3⟩, st⟩ := vx_callVW X hx (C := C) (hh := hh) (bytes := bytes) (maxL := maxL) (ret := ret) ho hl hin hse hcode hy hK (by rw [hT]; exact hcB) hoB hclB hg (hsize.trans hml.symm) (argsL := As) (rest := rest) (fun sig h => hn.trans (hlen sig h)) hstack hW (by rw [hb]; exact hdg)
    (fun vm₁ hW₁ => ⟨hf.1, hf.2, hPc (T.setVm vm₁) hT hW₁⟩)
  dsimp only [Pt.U, Pt.locs, Pt.cells, Pt.slots] at X' e1 e2 h1 h2 h3 st
  subst h1; subst h2; subst h3
  exact ⟨v, (T.setVm vm₁).calling g' mk (Value.ref b :: As).toArray, t, U', L, hT, X', hL, e1, e2, hq, st⟩
section
variable {y : MethodName} {bytes cc : ByteArray} {maxL nL mc ms n index : Nat} {ret : Option FieldType} {ws : List Cond} {rm : Room} {Pc : Array Value → State → Prop} {Qc : Array Value → State → Outcome → State → Prop} {XC : String → State → State → Prop} {free : Addr → Prop} {Ts : List Cond} {own C : String} {b : Addr} {As rest : List Value} {g : JFrame}
theorem vx_runVX {hh : List (Nat × Nat × Nat × Nat)} (S : CallFix p m c cc nL s args Ts own) (hM : vx_Met l y ws rm Pc Qc XC mc ms free) (cw : vx_CVW R s args own C index y bytes maxL ret hh ws rm mc ms n) (hp : PreV s H C b Pc As)
    (hg : g.method = m) (hn : As.length = n) (hsize : g.locals.size = nL) (hstack : g.stack = As.reverse ++ .ref b :: rest) (hW : 2 * g.monitorRoom + (rest.map fun v => v.category).sum ≤ 8) (hdg : decode cc g.pc = .ok (.invokevirtual index, 3)) (hf : cells + mc ≤ R.cells ∧ slots + ms ≤ R.slots) :
    vx_Run p l e R s m args below meth c H locs cells slots mc ms g rest (Qc (Value.ref b :: As).toArray) XC free := by
  obtain ⟨⟨hrc, hrs, hfr, hlo, hws, hcw⟩, hcode, hini, hy, hlen, hl, hin, hse⟩ := cw
  have hK : vx_Back l R p e below s args y 3 8 (PreOf R mc ms Pc) (PostOf Qc mc ms free) (vx_Post XC mc ms free) := vx_backW (hh := hh) (bytes := bytes) (maxL := maxL) (ret := ret) hM hp.1 hrc hrs hfr hlo hws hcw (fun a' U hW => word_at hW (Or.inl (by first | rfl | simp [Cond.onTables, Cond.keeps, Cond.steady])) hini)
  obtain ⟨hx, hb, hml, ho, -⟩ := S
  obtain ⟨-, ⟨cellB, hcB, hoB, hclB⟩, hPc⟩ := hp
  intro T hT X
  rcases vx_callVX X hx (C := C) (hh := hh) (bytes := bytes) (maxL := maxL) (ret := ret) ho hl hin hse hcode hy hK (by rw [hT]; exact hcB) hoB hclB hg (hsize.trans hml.symm) (argsL := As) (rest := rest) (fun sig h => hn.trans (hlen sig h)) hstack hW (by rw [hb]; exact hdg)
    (fun vm₁ hW₁ => ⟨hf.1, hf.2, hPc (T.setVm vm₁) hT hW₁⟩) with ⟨v, vm₁, ⟨U', l2, c2, s2⟩, hW₁, X', ⟨g', mk, t, L, e1, e2, hq, h1, hL, h2, h3⟩, st⟩ | ⟨q, vm₁, ⟨U', l2, c2, s2⟩, hW₁, X', ⟨g', mk, t, L, E, ce, e1, e2, hq, hce, hcv, hcl, h1, hL, h2, h3⟩, st⟩
  · dsimp only [Pt.U, Pt.locs, Pt.cells, Pt.slots] at X' e1 e2 h1 h2 h3 st
    subst h1; subst h2; subst h3
    exact Or.inl ⟨v, (T.setVm vm₁).calling g' mk (Value.ref b :: As).toArray, t, U', L, hT, X', hL, e1, e2, hq, st⟩
  · dsimp only [Pt.U, Pt.locs, Pt.cells, Pt.slots] at X' e1 e2 h1 h2 h3 st hcl
    subst h1; subst h2; subst h3
    exact Or.inr ⟨q, (T.setVm vm₁).calling g' mk (Value.ref b :: As).toArray, t, U', L, E, ce, hT, X', hL, e1, e2, hq, hce, hcv, vx_cls hW₁ hcl, st⟩
theorem vx_runSX {hh : List (Nat × Nat × Nat × Nat)} (S : CallFix p m c cc nL s args Ts own) (hM : vx_Met l y ws rm Pc Qc XC mc ms free) (cw : vx_CSW R s args own index y bytes maxL ret hh ws rm mc ms n) (hp : PreS s H Pc As)
    (hg : g.method = m) (hn : As.length = n) (hsize : g.locals.size = nL) (hstack : g.stack = As.reverse ++ rest) (hW : 2 * g.monitorRoom + (rest.map fun v => v.category).sum ≤ 8) (hdg : decode cc g.pc = .ok (.invokestatic index, 3)) (hf : cells + mc ≤ R.cells ∧ slots + ms ≤ R.slots) :
    vx_Run p l e R s m args below meth c H locs cells slots mc ms g rest (Qc As.toArray) XC free := by
  obtain ⟨⟨hrc, hrs, hfr, hlo, hws, hcw⟩, hcode, hini, hy, hlen, hl, hstt⟩ := cw
  have hK : vx_Back l R p e below s args y 3 8 (PreOf R mc ms Pc) (PostOf Qc mc ms free) (vx_Post XC mc ms free) := vx_backW (hh := hh) (bytes := bytes) (maxL := maxL) (ret := ret) hM hp.1 hrc hrs hfr hlo hws hcw (fun a' U hW => word_at hW (Or.inl (by first | rfl | simp [Cond.onTables, Cond.keeps, Cond.steady])) hini)
  obtain ⟨hx, hb, hml, ho, -⟩ := S
  intro T hT X
  rcases vx_callSX X hx (hh := hh) (bytes := bytes) (maxL := maxL) (ret := ret) ho hl hstt hini hcode hy hK hg (hsize.trans hml.symm) (argsL := As) (rest := rest) (fun sig h => hn.trans (hlen sig h)) hstack hW (by rw [hb]; exact hdg)
    (fun vm₁ hW₁ => ⟨hf.1, hf.2, hp.2 (T.setVm vm₁) hT hW₁⟩) with ⟨v, vm₁, ⟨U', l2, c2, s2⟩, hW₁, X', ⟨g', mk, t, L, e1, e2, hq, h1, hL, h2, h3⟩, st⟩ | ⟨q, vm₁, ⟨U', l2, c2, s2⟩, hW₁, X', ⟨g', mk, t, L, E, ce, e1, e2, hq, hce, hcv, hcl, h1, hL, h2, h3⟩, st⟩
  · dsimp only [Pt.U, Pt.locs, Pt.cells, Pt.slots] at X' e1 e2 h1 h2 h3 st
    subst h1; subst h2; subst h3
    exact Or.inl ⟨v, (T.setVm vm₁).calling g' mk As.toArray, t, U', L, hT, X', hL, e1, e2, hq, st⟩
  · dsimp only [Pt.U, Pt.locs, Pt.cells, Pt.slots] at X' e1 e2 h1 h2 h3 st hcl
    subst h1; subst h2; subst h3
    exact Or.inr ⟨q, (T.setVm vm₁).calling g' mk As.toArray, t, U', L, E, ce, hT, X', hL, e1, e2, hq, hce, hcv, vx_cls hW₁ hcl, st⟩
end
end VXH
theorem vx_ofWH {l : Launch} {y : MethodName} {ws ws' : List Cond} {rm : Room} {Pc : Array Value → State → Prop} {Qc : Array Value → State → Outcome → State → Prop} {XC : String → State → State → Prop} {mc ms : Nat} {free : Addr → Prop} {cc : ByteArray} {maxL : Nat} {ret : Option FieldType} {hh : List (Nat × Nat × Nat × Nat)}
    (hy : plainName y.cls = true) (hw : ws = Cond.codeWith y cc maxL ret hh :: ws')
    (body : ∀ p e s m args below meth c s₁, BodyLoose p l y (headSpec ws rm) cc maxL ret e s m args below meth c s₁ → c.maxLocals = maxL → Pc args s →
      W p l e (headSpec ws rm).room s m args below meth c s.heap [] 0 0 (vx_MQ below Qc XC args s mc ms free) (entryFrame m args maxL)) : vx_Met l y ws rm Pc Qc XC mc ms free := by
  refine MetFree.of_bodyS (code := cc) (maxLocals := maxL) (ret := ret) hy ?_ ?_
  · intro args s m h hn
    obtain ⟨m9, meth, c, hn9, h1, h2, h3, h4, -, h5, h6, -⟩ := Cond.codeWith_spec (atoms_spec (ws := ws) h _ (by rw [hw]; exact List.mem_cons_self))
    cases hn.symm.trans hn9
    exact ⟨meth, c, h1, h2, h3, h4, h5, h6⟩
  · intro p e s m args below meth c s₁ B hml hP _
    have hh0 : s₁.heap = s.heap := by rw [B.state]; rfl
    obtain ⟨t, a1, o, b1, b2, b3⟩ := body p e s m args below meth c s₁ B hml hP s₁ hh0 (Stand.of_body B)
    exact ⟨t, o, a1, b1, b2, b3⟩
/-! ===== END ===== -/
end
section
-- ===== PART A: goes FIRST, ahead of the names: the tables' words, and 'selects' of the private methods out of them =====
/-- a private method of a class that the tables say can be made, by its rows of tables_1 -/
def lw_okq (q : MethodName × Nat) : Prop := (q.1.cls ≠ "java/lang/invoke/MethodHandle" ∧ q.1.cls ≠ "java/lang/invoke/VarHandle") ∧ Cond.instantiable q.1.cls q.2 ∈ tables_1 ∧ Cond.privateMethod q.1 ∈ tables_1 ∧ Cond.instanceMethod q.1 ∈ tables_1
theorem lw_p0 : lw_okq (⟨"AlibiWindow", "checkWhat", "(II)V"⟩, 6) := ⟨⟨by decide +kernel, by decide +kernel⟩, List.mem_of_getElem? (i := 15) (by decide +kernel), List.mem_of_getElem? (i := 188) (by decide +kernel), List.mem_of_getElem? (i := 189) (by decide +kernel)⟩
theorem lw_p1 : lw_okq (⟨"java/lang/Throwable", "fillInStackTrace", "(I)Ljava/lang/Throwable;"⟩, 6) := ⟨⟨by decide +kernel, by decide +kernel⟩, List.mem_of_getElem? (i := 230) (by decide +kernel), List.mem_of_getElem? (i := 228) (by decide +kernel), List.mem_of_getElem? (i := 229) (by decide +kernel)⟩
theorem lw_p2 : lw_okq (⟨"AlibiWindow", "checkPlace", "(II)V"⟩, 6) := ⟨⟨by decide +kernel, by decide +kernel⟩, List.mem_of_getElem? (i := 15) (by decide +kernel), List.mem_of_getElem? (i := 312) (by decide +kernel), List.mem_of_getElem? (i := 313) (by decide +kernel)⟩
theorem lw_p3 : lw_okq (⟨"AlibiWindow", "rehearsePlainOrder", "()V"⟩, 6) := ⟨⟨by decide +kernel, by decide +kernel⟩, List.mem_of_getElem? (i := 15) (by decide +kernel), List.mem_of_getElem? (i := 389) (by decide +kernel), List.mem_of_getElem? (i := 390) (by decide +kernel)⟩
theorem lw_p4 : lw_okq (⟨"AlibiWindow", "registerFact", "(II)I"⟩, 6) := ⟨⟨by decide +kernel, by decide +kernel⟩, List.mem_of_getElem? (i := 15) (by decide +kernel), List.mem_of_getElem? (i := 454) (by decide +kernel), List.mem_of_getElem? (i := 455) (by decide +kernel)⟩
theorem lw_p5 : lw_okq (⟨"AlibiWindow", "cellFact", "(II)I"⟩, 6) := ⟨⟨by decide +kernel, by decide +kernel⟩, List.mem_of_getElem? (i := 15) (by decide +kernel), List.mem_of_getElem? (i := 467) (by decide +kernel), List.mem_of_getElem? (i := 468) (by decide +kernel)⟩
theorem lw_p6 : lw_okq (⟨"AlibiWindow", "checkCycles", "(I)V"⟩, 6) := ⟨⟨by decide +kernel, by decide +kernel⟩, List.mem_of_getElem? (i := 15) (by decide +kernel), List.mem_of_getElem? (i := 503) (by decide +kernel), List.mem_of_getElem? (i := 504) (by decide +kernel)⟩
theorem lw_p7 : lw_okq (⟨"AlibiWindow", "rehearseCycles", "(I)V"⟩, 6) := ⟨⟨by decide +kernel, by decide +kernel⟩, List.mem_of_getElem? (i := 15) (by decide +kernel), List.mem_of_getElem? (i := 508) (by decide +kernel), List.mem_of_getElem? (i := 509) (by decide +kernel)⟩
theorem lw_p8 : lw_okq (⟨"AlibiWindow", "rehearsed", "(I)I"⟩, 6) := ⟨⟨by decide +kernel, by decide +kernel⟩, List.mem_of_getElem? (i := 15) (by decide +kernel), List.mem_of_getElem? (i := 565) (by decide +kernel), List.mem_of_getElem? (i := 566) (by decide +kernel)⟩
theorem lw_p9 : lw_okq (⟨"AlibiWindow", "rehearseWindows", "()V"⟩, 6) := ⟨⟨by decide +kernel, by decide +kernel⟩, List.mem_of_getElem? (i := 15) (by decide +kernel), List.mem_of_getElem? (i := 583) (by decide +kernel), List.mem_of_getElem? (i := 584) (by decide +kernel)⟩
theorem lw_p10 : lw_okq (⟨"AlibiWindow", "saveState", "()V"⟩, 6) := ⟨⟨by decide +kernel, by decide +kernel⟩, List.mem_of_getElem? (i := 15) (by decide +kernel), List.mem_of_getElem? (i := 668) (by decide +kernel), List.mem_of_getElem? (i := 669) (by decide +kernel)⟩
theorem lw_p11 : lw_okq (⟨"AlibiWindow", "putValue", "([III)I"⟩, 6) := ⟨⟨by decide +kernel, by decide +kernel⟩, List.mem_of_getElem? (i := 15) (by decide +kernel), List.mem_of_getElem? (i := 718) (by decide +kernel), List.mem_of_getElem? (i := 719) (by decide +kernel)⟩
def lw_privs_1 : List (MethodName × Nat) := [(⟨"AlibiWindow", "checkWhat", "(II)V"⟩, 6), (⟨"java/lang/Throwable", "fillInStackTrace", "(I)Ljava/lang/Throwable;"⟩, 6), (⟨"AlibiWindow", "checkPlace", "(II)V"⟩, 6), (⟨"AlibiWindow", "rehearsePlainOrder", "()V"⟩, 6), (⟨"AlibiWindow", "registerFact", "(II)I"⟩, 6), (⟨"AlibiWindow", "cellFact", "(II)I"⟩, 6), (⟨"AlibiWindow", "checkCycles", "(I)V"⟩, 6), (⟨"AlibiWindow", "rehearseCycles", "(I)V"⟩, 6), (⟨"AlibiWindow", "rehearsed", "(I)I"⟩, 6), (⟨"AlibiWindow", "rehearseWindows", "()V"⟩, 6), (⟨"AlibiWindow", "saveState", "()V"⟩, 6), (⟨"AlibiWindow", "putValue", "([III)I"⟩, 6)]
theorem lw_r1 : ∀ q ∈ lw_privs_1, lw_okq q := List.forall_mem_cons.mpr ⟨lw_p0, List.forall_mem_cons.mpr ⟨lw_p1, List.forall_mem_cons.mpr ⟨lw_p2, List.forall_mem_cons.mpr ⟨lw_p3, List.forall_mem_cons.mpr ⟨lw_p4, List.forall_mem_cons.mpr ⟨lw_p5, List.forall_mem_cons.mpr ⟨lw_p6, List.forall_mem_cons.mpr ⟨lw_p7, List.forall_mem_cons.mpr ⟨lw_p8, List.forall_mem_cons.mpr ⟨lw_p9, List.forall_mem_cons.mpr ⟨lw_p10, List.forall_mem_cons.mpr ⟨lw_p11, fun _ h => absurd h List.not_mem_nil⟩⟩⟩⟩⟩⟩⟩⟩⟩⟩⟩⟩
def lw_privs : List (MethodName × Nat) := lw_privs_1
def lw_tbl : List Cond := k2_sels lw_privs ++ tables_1
theorem lw_privs_ok : ∀ q ∈ lw_privs, lw_okq q := lw_r1
/-- the streams that the claim lets the run draw from -/
abbrev lw_cs : List Choice := [Jvm.Choice.named "NaN.bits"]
theorem lw_bits : nanBits ∈ lw_cs := by first | decide | exact List.mem_cons_self | simp [lw_cs, nanBits]
def RX0 : String := "AlibiWindow$Floats"
def TX0 : u_T := fun k => match k with
  | _ => ("", "", "", false)
def tyX0 : Nat → FieldType := fun k => match k with
  | _ => .int
abbrev wsX00 : List Cond := u_ws RX0 TX0 0
theorem nmX0 : ∀ a, a < 0 → ∀ b, b < 0 → a ≠ b → (TX0 a).2.1 ≠ (TX0 b).2.1 := by decide +kernel
theorem tyX0_ok : ∀ k, k < 0 → parseFieldDescriptor (TX0 k).2.2.1 = some (tyX0 k) := by decide +kernel
abbrev cX0_isInRange : ByteArray := prog_2_method_2_code
def yX0_isInRange : MethodName := ⟨RX0, "isInRange", "(I)Z"⟩
abbrev cX0_valueOf : ByteArray := prog_2_method_3_code
def yX0_valueOf : MethodName := ⟨RX0, "valueOf", "(I)F"⟩
abbrev cX0_bitsOf : ByteArray := prog_2_method_4_code
def yX0_bitsOf : MethodName := ⟨RX0, "bitsOf", "(FI)I"⟩
abbrev cX0_result : ByteArray := prog_2_method_5_code
def yX0_result : MethodName := ⟨RX0, "result", "(IIII)I"⟩
abbrev cX0_limited : ByteArray := prog_2_method_6_code
def yX0_limited : MethodName := ⟨RX0, "limited", "(F)F"⟩
def RX1 : String := "AlibiWindow$Instruction"
def TX1 : u_T := fun k => match k with
  | 0 => ("AlibiWindow$Instruction", "kind", "I", false)
  | 1 => ("AlibiWindow$Instruction", "r", "I", false)
  | 2 => ("AlibiWindow$Instruction", "p", "I", false)
  | 3 => ("AlibiWindow$Instruction", "q", "I", false)
  | 4 => ("AlibiWindow$Instruction", "number", "I", false)
  | 5 => ("AlibiWindow$Instruction", "distrust", "I", false)
  | 6 => ("AlibiWindow$Instruction", "replays", "I", false)
  | 7 => ("AlibiWindow$Instruction", "stage", "I", false)
  | 8 => ("AlibiWindow$Instruction", "workLeft", "I", false)
  | 9 => ("AlibiWindow$Instruction", "nameOfP", "I", false)
  | 10 => ("AlibiWindow$Instruction", "nameOfQ", "I", false)
  | 11 => ("AlibiWindow$Instruction", "place", "I", false)
  | 12 => ("AlibiWindow$Instruction", "alibi", "I", false)
  | _ => ("AlibiWindow$Instruction", "made", "I", false)
def tyX1 : Nat → FieldType := fun k => match k with
  | 0 => .int
  | 1 => .int
  | 2 => .int
  | 3 => .int
  | 4 => .int
  | 5 => .int
  | 6 => .int
  | 7 => .int
  | 8 => .int
  | 9 => .int
  | 10 => .int
  | 11 => .int
  | 12 => .int
  | _ => .int
abbrev wsX10 : List Cond := u_ws RX1 TX1 14
theorem nmX1 : ∀ a, a < 14 → ∀ b, b < 14 → a ≠ b → (TX1 a).2.1 ≠ (TX1 b).2.1 := by decide +kernel
theorem tyX1_ok : ∀ k, k < 14 → parseFieldDescriptor (TX1 k).2.2.1 = some (tyX1 k) := by decide +kernel
abbrev cX1_init : ByteArray := prog_3_method_1_code
def yX1_init : MethodName := ⟨RX1, "<init>", "()V"⟩
abbrev cX1_become : ByteArray := prog_3_method_2_code
def yX1_become : MethodName := ⟨RX1, "become", "(IIIII)V"⟩
abbrev cX1_becomeLike : ByteArray := prog_3_method_3_code
def yX1_becomeLike : MethodName := ⟨RX1, "becomeLike", "(LAlibiWindow$Instruction;)V"⟩
abbrev cX1_isDone : ByteArray := prog_3_method_4_code
def yX1_isDone : MethodName := ⟨RX1, "isDone", "(I)Z"⟩
abbrev cX1_endsItsWork : ByteArray := prog_3_method_5_code
def yX1_endsItsWork : MethodName := ⟨RX1, "endsItsWork", "()Z"⟩
abbrev cX1_cyclesNeeded : ByteArray := prog_3_method_6_code
def yX1_cyclesNeeded : MethodName := ⟨RX1, "cyclesNeeded", "()I"⟩
abbrev cX1_part : ByteArray := prog_3_method_7_code
def yX1_part : MethodName := ⟨RX1, "part", "(I)I"⟩
def RX2 : String := "AlibiWindow$Machine"
def TX2 : u_T := fun k => match k with
  | 0 => ("AlibiWindow$Machine", "rows", "[LAlibiWindow$Instruction;", true)
  | 1 => ("AlibiWindow$Machine", "nothing", "LAlibiWindow$Instruction;", true)
  | 2 => ("AlibiWindow$Machine", "registers", "[I", true)
  | 3 => ("AlibiWindow$Machine", "memory", "[I", true)
  | 4 => ("AlibiWindow$Machine", "settings", "[I", true)
  | 5 => ("AlibiWindow$Machine", "cycle", "I", false)
  | 6 => ("AlibiWindow$Machine", "length", "I", false)
  | 7 => ("AlibiWindow$Machine", "issued", "I", false)
  | 8 => ("AlibiWindow$Machine", "retired", "I", false)
  | 9 => ("AlibiWindow$Machine", "replays", "I", false)
  | 10 => ("AlibiWindow$Machine", "madeWaiting", "I", false)
  | 11 => ("AlibiWindow$Machine", "retiredEver", "I", false)
  | 12 => ("AlibiWindow$Machine", "loadsMade", "I", false)
  | _ => ("AlibiWindow$Machine", "earlyLoads", "I", false)
def tyX2 : Nat → FieldType := fun k => match k with
  | 0 => .array (.object "AlibiWindow$Instruction")
  | 1 => .object "AlibiWindow$Instruction"
  | 2 => .array .int
  | 3 => .array .int
  | 4 => .array .int
  | 5 => .int
  | 6 => .int
  | 7 => .int
  | 8 => .int
  | 9 => .int
  | 10 => .int
  | 11 => .int
  | 12 => .int
  | _ => .int
abbrev wsX20 : List Cond := u_ws RX2 TX2 14
theorem nmX2 : ∀ a, a < 14 → ∀ b, b < 14 → a ≠ b → (TX2 a).2.1 ≠ (TX2 b).2.1 := by decide +kernel
theorem tyX2_ok : ∀ k, k < 14 → parseFieldDescriptor (TX2 k).2.2.1 = some (tyX2 k) := by decide +kernel
abbrev cX2_init : ByteArray := prog_4_method_1_code
def yX2_init : MethodName := ⟨RX2, "<init>", "()V"⟩
abbrev cX2_greatest : ByteArray := prog_4_method_2_code
def yX2_greatest : MethodName := ⟨RX2, "greatest", "(I)I"⟩
abbrev cX2_becomeLike : ByteArray := prog_4_method_3_code
def yX2_becomeLike : MethodName := ⟨RX2, "becomeLike", "(LAlibiWindow$Machine;)V"⟩
abbrev cX2_beginAnew : ByteArray := prog_4_method_4_code
def yX2_beginAnew : MethodName := ⟨RX2, "beginAnew", "()V"⟩
abbrev cX2_at : ByteArray := prog_4_method_5_code
def yX2_at : MethodName := ⟨RX2, "at", "(I)LAlibiWindow$Instruction;"⟩
abbrev cX2_registerBits : ByteArray := prog_4_method_6_code
def yX2_registerBits : MethodName := ⟨RX2, "registerBits", "(I)I"⟩
abbrev cX2_cellBits : ByteArray := prog_4_method_7_code
def yX2_cellBits : MethodName := ⟨RX2, "cellBits", "(I)I"⟩
abbrev cX2_put : ByteArray := prog_4_method_8_code
def yX2_put : MethodName := ⟨RX2, "put", "(LAlibiWindow$Instruction;)V"⟩
abbrev cX2_entries : ByteArray := prog_4_method_9_code
def yX2_entries : MethodName := ⟨RX2, "entries", "()I"⟩
abbrev cX2_isFinished : ByteArray := prog_4_method_10_code
def yX2_isFinished : MethodName := ⟨RX2, "isFinished", "()Z"⟩
abbrev cX2_number : ByteArray := prog_4_method_11_code
def yX2_number : MethodName := ⟨RX2, "number", "(I)I"⟩
abbrev cX2_property : ByteArray := prog_4_method_12_code
def yX2_property : MethodName := ⟨RX2, "property", "(II)I"⟩
abbrev cX2_hindrance : ByteArray := prog_4_method_13_code
def yX2_hindrance : MethodName := ⟨RX2, "hindrance", "(I)I"⟩
abbrev cX2_isReady : ByteArray := prog_4_method_14_code
def yX2_isReady : MethodName := ⟨RX2, "isReady", "(I)Z"⟩
abbrev cX2_hasOpenStoreAhead : ByteArray := prog_4_method_15_code
def yX2_hasOpenStoreAhead : MethodName := ⟨RX2, "hasOpenStoreAhead", "(I)Z"⟩
abbrev cX2_latestMaker : ByteArray := prog_4_method_16_code
def yX2_latestMaker : MethodName := ⟨RX2, "latestMaker", "(II)I"⟩
abbrev cX2_latestStore : ByteArray := prog_4_method_17_code
def yX2_latestStore : MethodName := ⟨RX2, "latestStore", "(II)I"⟩
abbrev cX2_passCycles : ByteArray := prog_4_method_18_code
def yX2_passCycles : MethodName := ⟨RX2, "passCycles", "(I)V"⟩
abbrev cX2_cyclesToEnd : ByteArray := prog_4_method_19_code
def yX2_cyclesToEnd : MethodName := ⟨RX2, "cyclesToEnd", "(I)I"⟩
abbrev cX2_passCycle : ByteArray := prog_4_method_20_code
def yX2_passCycle : MethodName := ⟨RX2, "passCycle", "()V"⟩
abbrev cX2_retireEntries : ByteArray := prog_4_method_21_code
def yX2_retireEntries : MethodName := ⟨RX2, "retireEntries", "()V"⟩
abbrev cX2_finish : ByteArray := prog_4_method_22_code
def yX2_finish : MethodName := ⟨RX2, "finish", "(ILAlibiWindow$Instruction;)V"⟩
abbrev cX2_operand : ByteArray := prog_4_method_23_code
def yX2_operand : MethodName := ⟨RX2, "operand", "(II)I"⟩
abbrev cX2_finishLoad : ByteArray := prog_4_method_24_code
def yX2_finishLoad : MethodName := ⟨RX2, "finishLoad", "(ILAlibiWindow$Instruction;I)V"⟩
abbrev cX2_breakAlibis : ByteArray := prog_4_method_25_code
def yX2_breakAlibis : MethodName := ⟨RX2, "breakAlibis", "(II)V"⟩
abbrev cX2_replay : ByteArray := prog_4_method_26_code
def yX2_replay : MethodName := ⟨RX2, "replay", "(ILAlibiWindow$Instruction;)V"⟩
abbrev cX2_startEntries : ByteArray := prog_4_method_27_code
def yX2_startEntries : MethodName := ⟨RX2, "startEntries", "()V"⟩
abbrev cX2_issueInstructions : ByteArray := prog_4_method_28_code
def yX2_issueInstructions : MethodName := ⟨RX2, "issueInstructions", "()V"⟩
abbrev cX2_carryOutPlainly : ByteArray := prog_4_method_29_code
def yX2_carryOutPlainly : MethodName := ⟨RX2, "carryOutPlainly", "()V"⟩
abbrev cX2_placeOf : ByteArray := prog_4_method_30_code
def yX2_placeOf : MethodName := ⟨RX2, "placeOf", "(II)I"⟩
def RX3 : String := "AlibiWindow$Text"
def TX3 : u_T := fun k => match k with
  | 0 => ("AlibiWindow$Text", "signs", "[C", true)
  | _ => ("AlibiWindow$Text", "length", "I", false)
def tyX3 : Nat → FieldType := fun k => match k with
  | 0 => .array .char
  | _ => .int
abbrev wsX30 : List Cond := u_ws RX3 TX3 2
theorem nmX3 : ∀ a, a < 2 → ∀ b, b < 2 → a ≠ b → (TX3 a).2.1 ≠ (TX3 b).2.1 := by decide +kernel
theorem tyX3_ok : ∀ k, k < 2 → parseFieldDescriptor (TX3 k).2.2.1 = some (tyX3 k) := by decide +kernel
abbrev cX3_init : ByteArray := prog_5_method_1_code
def yX3_init : MethodName := ⟨RX3, "<init>", "()V"⟩
abbrev cX3_add : ByteArray := prog_5_method_2_code
def yX3_add : MethodName := ⟨RX3, "add", "(C)V"⟩
abbrev cX3_signAt : ByteArray := prog_5_method_3_code
def yX3_signAt : MethodName := ⟨RX3, "signAt", "(I)C"⟩
abbrev cX3_isComplete : ByteArray := prog_5_method_5_code
def yX3_isComplete : MethodName := ⟨RX3, "isComplete", "()Z"⟩
abbrev cX3_instructions : ByteArray := prog_5_method_6_code
def yX3_instructions : MethodName := ⟨RX3, "instructions", "()I"⟩
abbrev cX3_nextInstruction : ByteArray := prog_5_method_7_code
def yX3_nextInstruction : MethodName := ⟨RX3, "nextInstruction", "(I)I"⟩
abbrev cX3_readInstruction : ByteArray := prog_5_method_8_code
def yX3_readInstruction : MethodName := ⟨RX3, "readInstruction", "(ILAlibiWindow$Instruction;)V"⟩
abbrev cX3_registerAt : ByteArray := prog_5_method_9_code
def yX3_registerAt : MethodName := ⟨RX3, "registerAt", "(I)I"⟩
abbrev cX3_digitAt : ByteArray := prog_5_method_10_code
def yX3_digitAt : MethodName := ⟨RX3, "digitAt", "(I)I"⟩
abbrev cX3_numberAt : ByteArray := prog_5_method_11_code
def yX3_numberAt : MethodName := ⟨RX3, "numberAt", "(I)I"⟩
abbrev cX3_isRegister : ByteArray := prog_5_method_13_code
def yX3_isRegister : MethodName := ⟨RX3, "isRegister", "(C)Z"⟩
abbrev cX3_isDigit : ByteArray := prog_5_method_14_code
def yX3_isDigit : MethodName := ⟨RX3, "isDigit", "(C)Z"⟩
abbrev cX3_next : ByteArray := prog_5_method_15_code
def yX3_next : MethodName := ⟨RX3, "next", "(IC)I"⟩
abbrev cX3_ifRegister : ByteArray := prog_5_method_16_code
def yX3_ifRegister : MethodName := ⟨RX3, "ifRegister", "(CI)I"⟩
abbrev cX3_nextOfRightSide : ByteArray := prog_5_method_17_code
def yX3_nextOfRightSide : MethodName := ⟨RX3, "nextOfRightSide", "(C)I"⟩
abbrev cX3_nextOfNumber : ByteArray := prog_5_method_18_code
def yX3_nextOfNumber : MethodName := ⟨RX3, "nextOfNumber", "(C)I"⟩
abbrev cX3_nextOfEnd : ByteArray := prog_5_method_19_code
def yX3_nextOfEnd : MethodName := ⟨RX3, "nextOfEnd", "(C)I"⟩
def RX4 : String := "AlibiWindow"
def TX4 : u_T := fun k => match k with
  | 0 => ("AlibiWindow", "now", "LAlibiWindow$Machine;", true)
  | 1 => ("AlibiWindow", "rehearsal", "LAlibiWindow$Machine;", true)
  | 2 => ("AlibiWindow", "saved", "[LAlibiWindow$Machine;", true)
  | 3 => ("AlibiWindow", "buffer", "LAlibiWindow$Text;", true)
  | 4 => ("AlibiWindow", "best", "[I", true)
  | _ => ("AlibiWindow", "savedStates", "I", false)
def tyX4 : Nat → FieldType := fun k => match k with
  | 0 => .object "AlibiWindow$Machine"
  | 1 => .object "AlibiWindow$Machine"
  | 2 => .array (.object "AlibiWindow$Machine")
  | 3 => .object "AlibiWindow$Text"
  | 4 => .array .int
  | _ => .int
abbrev wsX40 : List Cond := u_ws RX4 TX4 6
theorem nmX4 : ∀ a, a < 6 → ∀ b, b < 6 → a ≠ b → (TX4 a).2.1 ≠ (TX4 b).2.1 := by decide +kernel
theorem tyX4_ok : ∀ k, k < 6 → parseFieldDescriptor (TX4 k).2.2.1 = some (tyX4 k) := by decide +kernel
abbrev cX4_init : ByteArray := prog_1_method_1_code
def yX4_init : MethodName := ⟨RX4, "<init>", "()V"⟩
abbrev cX4_set : ByteArray := prog_1_method_2_code
def yX4_set : MethodName := ⟨RX4, "set", "(II)I"⟩
abbrev cX4_putRegister : ByteArray := prog_1_method_3_code
def yX4_putRegister : MethodName := ⟨RX4, "putRegister", "(II)I"⟩
abbrev cX4_putCell : ByteArray := prog_1_method_4_code
def yX4_putCell : MethodName := ⟨RX4, "putCell", "(II)I"⟩
abbrev cX4_putValue : ByteArray := prog_1_method_5_code
def yX4_putValue : MethodName := ⟨RX4, "putValue", "([III)I"⟩
abbrev cX4_run : ByteArray := prog_1_method_6_code
def yX4_run : MethodName := ⟨RX4, "run", "(I)I"⟩
abbrev cX4_checkCycles : ByteArray := prog_1_method_7_code
def yX4_checkCycles : MethodName := ⟨RX4, "checkCycles", "(I)V"⟩
abbrev cX4_flush : ByteArray := prog_1_method_8_code
def yX4_flush : MethodName := ⟨RX4, "flush", "()I"⟩
abbrev cX4_again : ByteArray := prog_1_method_9_code
def yX4_again : MethodName := ⟨RX4, "again", "()I"⟩
abbrev cX4_append : ByteArray := prog_1_method_10_code
def yX4_append : MethodName := ⟨RX4, "append", "(I)I"⟩
abbrev cX4_clearBuffer : ByteArray := prog_1_method_11_code
def yX4_clearBuffer : MethodName := ⟨RX4, "clearBuffer", "()I"⟩
abbrev cX4_load : ByteArray := prog_1_method_13_code
def yX4_load : MethodName := ⟨RX4, "load", "()I"⟩
abbrev cX4_saveState : ByteArray := prog_1_method_15_code
def yX4_saveState : MethodName := ⟨RX4, "saveState", "()V"⟩
abbrev cX4_instruction : ByteArray := prog_1_method_16_code
def yX4_instruction : MethodName := ⟨RX4, "instruction", "(II)I"⟩
abbrev cX4_entry : ByteArray := prog_1_method_17_code
def yX4_entry : MethodName := ⟨RX4, "entry", "(II)I"⟩
abbrev cX4_whyNot : ByteArray := prog_1_method_18_code
def yX4_whyNot : MethodName := ⟨RX4, "whyNot", "(I)I"⟩
abbrev cX4_register : ByteArray := prog_1_method_19_code
def yX4_register : MethodName := ⟨RX4, "register", "(II)I"⟩
abbrev cX4_cell : ByteArray := prog_1_method_20_code
def yX4_cell : MethodName := ⟨RX4, "cell", "(II)I"⟩
abbrev cX4_count : ByteArray := prog_1_method_21_code
def yX4_count : MethodName := ⟨RX4, "count", "(I)I"⟩
abbrev cX4_setting : ByteArray := prog_1_method_22_code
def yX4_setting : MethodName := ⟨RX4, "setting", "(I)I"⟩
abbrev cX4_checkPlace : ByteArray := prog_1_method_23_code
def yX4_checkPlace : MethodName := ⟨RX4, "checkPlace", "(II)V"⟩
abbrev cX4_checkWhat : ByteArray := prog_1_method_24_code
def yX4_checkWhat : MethodName := ⟨RX4, "checkWhat", "(II)V"⟩
abbrev cX4_registerFact : ByteArray := prog_1_method_25_code
def yX4_registerFact : MethodName := ⟨RX4, "registerFact", "(II)I"⟩
abbrev cX4_cellFact : ByteArray := prog_1_method_26_code
def yX4_cellFact : MethodName := ⟨RX4, "cellFact", "(II)I"⟩
abbrev cX4_ifRun : ByteArray := prog_1_method_27_code
def yX4_ifRun : MethodName := ⟨RX4, "ifRun", "(II)I"⟩
abbrev cX4_cyclesLeft : ByteArray := prog_1_method_28_code
def yX4_cyclesLeft : MethodName := ⟨RX4, "cyclesLeft", "()I"⟩
abbrev cX4_bestWindow : ByteArray := prog_1_method_29_code
def yX4_bestWindow : MethodName := ⟨RX4, "bestWindow", "(I)I"⟩
abbrev cX4_worstLoad : ByteArray := prog_1_method_30_code
def yX4_worstLoad : MethodName := ⟨RX4, "worstLoad", "()I"⟩
abbrev cX4_earlyShare : ByteArray := prog_1_method_31_code
def yX4_earlyShare : MethodName := ⟨RX4, "earlyShare", "()D"⟩
abbrev cX4_rehearsePlainOrder : ByteArray := prog_1_method_36_code
def yX4_rehearsePlainOrder : MethodName := ⟨RX4, "rehearsePlainOrder", "()V"⟩
abbrev cX4_rehearseCycles : ByteArray := prog_1_method_37_code
def yX4_rehearseCycles : MethodName := ⟨RX4, "rehearseCycles", "(I)V"⟩
abbrev cX4_rehearsed : ByteArray := prog_1_method_38_code
def yX4_rehearsed : MethodName := ⟨RX4, "rehearsed", "(I)I"⟩
abbrev cX4_rehearseWindows : ByteArray := prog_1_method_39_code
def yX4_rehearseWindows : MethodName := ⟨RX4, "rehearseWindows", "()V"⟩
def RX5 : String := "AlibiWindowModel"
def TX5 : u_T := fun k => match k with
  | _ => ("", "", "", false)
def tyX5 : Nat → FieldType := fun k => match k with
  | _ => .int
abbrev wsX50 : List Cond := u_ws RX5 TX5 0
theorem nmX5 : ∀ a, a < 0 → ∀ b, b < 0 → a ≠ b → (TX5 a).2.1 ≠ (TX5 b).2.1 := by decide +kernel
theorem tyX5_ok : ∀ k, k < 0 → parseFieldDescriptor (TX5 k).2.2.1 = some (tyX5 k) := by decide +kernel
def RJ9 : String := "java/lang/Math"
def TJ9 : u_T := fun k => match k with
  | _ => ("", "", "", false)
def tyJ9 : Nat → FieldType := fun k => match k with
  | _ => .int
abbrev wsJ90 : List Cond := u_ws RJ9 TJ9 0
theorem nmJ9 : ∀ a, a < 0 → ∀ b, b < 0 → a ≠ b → (TJ9 a).2.1 ≠ (TJ9 b).2.1 := by decide +kernel
theorem tyJ9_ok : ∀ k, k < 0 → parseFieldDescriptor (TJ9 k).2.2.1 = some (tyJ9 k) := by decide +kernel
abbrev cJ9_floorMod_7cf53 : ByteArray := prog_12_method_50_code
def yJ9_floorMod_7cf53 : MethodName := ⟨RJ9, "floorMod", "(II)I"⟩
def RJ0 : String := "java/lang/String"
def TJ0 : u_T := fun k => match k with
  | _ => ("", "", "", false)
def tyJ0 : Nat → FieldType := fun k => match k with
  | _ => .int
abbrev wsJ00 : List Cond := u_ws RJ0 TJ0 0
theorem nmJ0 : ∀ a, a < 0 → ∀ b, b < 0 → a ≠ b → (TJ0 a).2.1 ≠ (TJ0 b).2.1 := by decide +kernel
theorem tyJ0_ok : ∀ k, k < 0 → parseFieldDescriptor (TJ0 k).2.2.1 = some (tyJ0 k) := by decide +kernel
def RJ10 : String := "java/lang/System"
def TJ10 : u_T := fun k => match k with
  | _ => ("", "", "", false)
def tyJ10 : Nat → FieldType := fun k => match k with
  | _ => .int
abbrev wsJ100 : List Cond := u_ws RJ10 TJ10 0
theorem nmJ10 : ∀ a, a < 0 → ∀ b, b < 0 → a ≠ b → (TJ10 a).2.1 ≠ (TJ10 b).2.1 := by decide +kernel
theorem tyJ10_ok : ∀ k, k < 0 → parseFieldDescriptor (TJ10 k).2.2.1 = some (tyJ10 k) := by decide +kernel
def RL : String := "AlibiWindowLaw"
abbrev cL_cell : ByteArray := method_2_code
def yL_cell : MethodName := ⟨RL, "cell", "([II)I"⟩
abbrev cL_at : ByteArray := method_3_code
def yL_at : MethodName := ⟨RL, "at", "(II)I"⟩
abbrev cL_bits : ByteArray := method_4_code
def yL_bits : MethodName := ⟨RL, "bits", "(I)I"⟩
abbrev cL_plain : ByteArray := method_5_code
def yL_plain : MethodName := ⟨RL, "plain", "(I)I"⟩
abbrev cL_held : ByteArray := method_6_code
def yL_held : MethodName := ⟨RL, "held", "(J)I"⟩
abbrev cL_add : ByteArray := method_7_code
def yL_add : MethodName := ⟨RL, "add", "(II)I"⟩
abbrev cL_mul : ByteArray := method_8_code
def yL_mul : MethodName := ⟨RL, "mul", "(II)I"⟩
abbrev cL_place : ByteArray := method_9_code
def yL_place : MethodName := ⟨RL, "place", "(II)I"⟩
abbrev cL_name : ByteArray := method_10_code
def yL_name : MethodName := ⟨RL, "name", "(II[I[I)I"⟩
abbrev cL_ready : ByteArray := method_11_code
def yL_ready : MethodName := ⟨RL, "ready", "(II[I[I[I)Z"⟩
abbrev cL_value : ByteArray := method_12_code
def yL_value : MethodName := ⟨RL, "value", "(II[I[I[I[I)I"⟩
abbrev cL_why : ByteArray := method_13_code
def yL_why : MethodName := ⟨RL, "why", "(I[I[I[I)I"⟩
abbrev cL_done : ByteArray := method_14_code
def yL_done : MethodName := ⟨RL, "done", "(I[I[I[I[I[I)V"⟩
abbrev cL_cycle : ByteArray := method_15_code
def yL_cycle : MethodName := ⟨RL, "cycle", "([I[I[I[I[I[I)I"⟩
abbrev cL_begin : ByteArray := method_16_code
def yL_begin : MethodName := ⟨RL, "begin", "([I[I)V"⟩
abbrev cL_same : ByteArray := method_17_code
def yL_same : MethodName := ⟨RL, "same", "([I[I)V"⟩
abbrev cL_order : ByteArray := method_18_code
def yL_order : MethodName := ⟨RL, "order", "([I[I[I[I)V"⟩
abbrev cL_told : ByteArray := method_19_code
def yL_told : MethodName := ⟨RL, "told", "(LAlibiWindow;[I[I[I[I[I[I)Z"⟩
abbrev cL_ahead : ByteArray := method_20_code
def yL_ahead : MethodName := ⟨RL, "ahead", "(LAlibiWindow;I[I[I[I[I[I[I)Z"⟩
abbrev cL_line : ByteArray := method_21_code
def yL_line : MethodName := ⟨RL, "line", "(LAlibiWindow;I[I)Z"⟩
abbrev cL_load : ByteArray := method_22_code
def yL_load : MethodName := ⟨RL, "load", "(LAlibiWindow;II[I[I)Z"⟩
abbrev cL_act : ByteArray := method_23_code
def yL_act : MethodName := ⟨RL, "act", "(LAlibiWindow;III[I[I[I[I[I[I)Z"⟩
abbrev cL_law : ByteArray := code
def yL_law : MethodName := ⟨RL, "law", "([I)Z"⟩
abbrev vwCl : List vw_C := [(RX1, TX1, 14), (RX2, TX2, 14), (RX3, TX3, 2), (RX4, TX4, 6)]
end
section
abbrev IE : Type := Instr × Nat × List Nat
/-- X0_isInRange -/
def I_X0_isInRange (pc : Nat) : Option IE := bif Nat.blt pc 6 then (bif Nat.blt pc 3 then (bif Nat.blt pc 1 then (bif Nat.beq pc 0 then some (.iload_n 0, 1, []) else none) else (bif Nat.beq pc 1 then some (.ldc 11, 2, [0, 2147483647, 433]) else none)) else (bif Nat.blt pc 4 then (bif Nat.beq pc 3 then some (.iand, 1, []) else none) else (bif Nat.beq pc 4 then some (.ldc 12, 2, [0, 1232348160, 736]) else none))) else (bif Nat.blt pc 10 then (bif Nat.blt pc 9 then (bif Nat.beq pc 6 then some (.if_icmp .gt 7, 3, [13]) else none) else (bif Nat.beq pc 9 then some (.iconst 1, 1, []) else none)) else (bif Nat.blt pc 13 then (bif Nat.beq pc 10 then some (.goto 4, 3, [14]) else none) else (bif Nat.blt pc 14 then (bif Nat.beq pc 13 then some (.iconst 0, 1, []) else none) else (bif Nat.beq pc 14 then some (.ireturn, 1, [1]) else none))))
/-- X0_valueOf -/
def I_X0_valueOf (pc : Nat) : Option IE := bif Nat.blt pc 43 then (bif Nat.blt pc 19 then (bif Nat.blt pc 9 then (bif Nat.blt pc 4 then (bif Nat.blt pc 1 then (bif Nat.beq pc 0 then some (.iload_n 0, 1, []) else none) else (bif Nat.blt pc 3 then (bif Nat.beq pc 1 then some (.ldc 11, 2, [0, 2147483647, 433]) else none) else (bif Nat.beq pc 3 then some (.iand, 1, []) else none))) else (bif Nat.blt pc 7 then (bif Nat.blt pc 6 then (bif Nat.beq pc 4 then some (.bipush 23, 2, []) else none) else (bif Nat.beq pc 6 then some (.iushr, 1, []) else none)) else (bif Nat.blt pc 8 then (bif Nat.beq pc 7 then some (.istore_n 1, 1, []) else none) else (bif Nat.beq pc 8 then some (.iload_n 0, 1, []) else none)))) else (bif Nat.blt pc 13 then (bif Nat.blt pc 11 then (bif Nat.beq pc 9 then some (.ldc 13, 2, [0, 8388607, 434]) else none) else (bif Nat.blt pc 12 then (bif Nat.beq pc 11 then some (.iand, 1, []) else none) else (bif Nat.beq pc 12 then some (.istore_n 2, 1, []) else none))) else (bif Nat.blt pc 17 then (bif Nat.blt pc 14 then (bif Nat.beq pc 13 then some (.iload_n 1, 1, []) else none) else (bif Nat.beq pc 14 then some (.ifCond .ne 8, 3, [22]) else none)) else (bif Nat.blt pc 18 then (bif Nat.beq pc 17 then some (.iload_n 2, 1, []) else none) else (bif Nat.beq pc 18 then some (.i2d, 1, []) else none))))) else (bif Nat.blt pc 31 then (bif Nat.blt pc 25 then (bif Nat.blt pc 22 then (bif Nat.beq pc 19 then some (.goto 8, 3, [27]) else none) else (bif Nat.blt pc 23 then (bif Nat.beq pc 22 then some (.iload_n 2, 1, []) else none) else (bif Nat.beq pc 23 then some (.ldc 14, 2, [0, 8388608, 435]) else none))) else (bif Nat.blt pc 27 then (bif Nat.blt pc 26 then (bif Nat.beq pc 25 then some (.iadd, 1, []) else none) else (bif Nat.beq pc 26 then some (.i2d, 1, []) else none)) else (bif Nat.blt pc 28 then (bif Nat.beq pc 27 then some (.dstore_n 3, 1, []) else none) else (bif Nat.beq pc 28 then some (.sipush 150, 3, []) else none)))) else (bif Nat.blt pc 36 then (bif Nat.blt pc 32 then (bif Nat.beq pc 31 then some (.iload_n 1, 1, []) else none) else (bif Nat.blt pc 35 then (bif Nat.beq pc 32 then some (.ifCond .ne 7, 3, [39]) else none) else (bif Nat.beq pc 35 then some (.iconst 1, 1, []) else none))) else (bif Nat.blt pc 40 then (bif Nat.blt pc 39 then (bif Nat.beq pc 36 then some (.goto 4, 3, [40]) else none) else (bif Nat.beq pc 39 then some (.iload_n 1, 1, []) else none)) else (bif Nat.blt pc 41 then (bif Nat.beq pc 40 then some (.isub, 1, []) else none) else (bif Nat.beq pc 41 then some (.istore 5, 2, []) else none)))))) else (bif Nat.blt pc 70 then (bif Nat.blt pc 56 then (bif Nat.blt pc 49 then (bif Nat.blt pc 45 then (bif Nat.beq pc 43 then some (.iload 5, 2, []) else none) else (bif Nat.blt pc 47 then (bif Nat.beq pc 45 then some (.istore 6, 2, []) else none) else (bif Nat.beq pc 47 then some (.iload 6, 2, []) else none))) else (bif Nat.blt pc 53 then (bif Nat.blt pc 52 then (bif Nat.beq pc 49 then some (.ifCond .le 29, 3, [78]) else none) else (bif Nat.beq pc 52 then some (.dload_n 3, 1, []) else none)) else (bif Nat.blt pc 54 then (bif Nat.beq pc 53 then some (.iconst 1, 1, []) else none) else (bif Nat.beq pc 54 then some (.iload 6, 2, []) else none)))) else (bif Nat.blt pc 63 then (bif Nat.blt pc 58 then (bif Nat.beq pc 56 then some (.bipush 30, 2, []) else none) else (bif Nat.blt pc 61 then (bif Nat.beq pc 58 then some (.if_icmp .ge 8, 3, [66]) else none) else (bif Nat.beq pc 61 then some (.iload 6, 2, []) else none))) else (bif Nat.blt pc 68 then (bif Nat.blt pc 66 then (bif Nat.beq pc 63 then some (.goto 5, 3, [68]) else none) else (bif Nat.beq pc 66 then some (.bipush 30, 2, []) else none)) else (bif Nat.blt pc 69 then (bif Nat.beq pc 68 then some (.ishl, 1, []) else none) else (bif Nat.beq pc 69 then some (.i2d, 1, []) else none))))) else (bif Nat.blt pc 82 then (bif Nat.blt pc 75 then (bif Nat.blt pc 71 then (bif Nat.beq pc 70 then some (.ddiv, 1, []) else none) else (bif Nat.blt pc 72 then (bif Nat.beq pc 71 then some (.dstore_n 3, 1, []) else none) else (bif Nat.beq pc 72 then some (.iinc 6 (-30), 3, []) else none))) else (bif Nat.blt pc 79 then (bif Nat.blt pc 78 then (bif Nat.beq pc 75 then some (.goto (-28), 3, [47]) else none) else (bif Nat.beq pc 78 then some (.dload_n 3, 1, []) else none)) else (bif Nat.blt pc 80 then (bif Nat.beq pc 79 then some (.d2f, 1, []) else none) else (bif Nat.beq pc 80 then some (.fstore 6, 2, []) else none)))) else (bif Nat.blt pc 88 then (bif Nat.blt pc 83 then (bif Nat.beq pc 82 then some (.iload_n 0, 1, []) else none) else (bif Nat.blt pc 86 then (bif Nat.beq pc 83 then some (.ifCond .ge 9, 3, [92]) else none) else (bif Nat.beq pc 86 then some (.fload 6, 2, []) else none))) else (bif Nat.blt pc 92 then (bif Nat.blt pc 89 then (bif Nat.beq pc 88 then some (.fneg, 1, []) else none) else (bif Nat.beq pc 89 then some (.goto 5, 3, [94]) else none)) else (bif Nat.blt pc 94 then (bif Nat.beq pc 92 then some (.fload 6, 2, []) else none) else (bif Nat.beq pc 94 then some (.freturn, 1, []) else none))))))
/-- X0_bitsOf -/
def I_X0_bitsOf (pc : Nat) : Option IE := bif Nat.blt pc 60 then (bif Nat.blt pc 27 then (bif Nat.blt pc 11 then (bif Nat.blt pc 6 then (bif Nat.blt pc 2 then (bif Nat.blt pc 1 then (bif Nat.beq pc 0 then some (.fload_n 0, 1, []) else none) else (bif Nat.beq pc 1 then some (.fconst 0, 1, []) else none)) else (bif Nat.blt pc 3 then (bif Nat.beq pc 2 then some (.fcmp .l, 1, []) else none) else (bif Nat.beq pc 3 then some (.ifCond .ne 5, 3, [8]) else none))) else (bif Nat.blt pc 8 then (bif Nat.blt pc 7 then (bif Nat.beq pc 6 then some (.iload_n 1, 1, []) else none) else (bif Nat.beq pc 7 then some (.ireturn, 1, [0]) else none)) else (bif Nat.blt pc 9 then (bif Nat.beq pc 8 then some (.fload_n 0, 1, []) else none) else (bif Nat.blt pc 10 then (bif Nat.beq pc 9 then some (.fconst 0, 1, []) else none) else (bif Nat.beq pc 10 then some (.fcmp .g, 1, []) else none))))) else (bif Nat.blt pc 20 then (bif Nat.blt pc 16 then (bif Nat.blt pc 14 then (bif Nat.beq pc 11 then some (.ifCond .ge 8, 3, [19]) else none) else (bif Nat.beq pc 14 then some (.ldc 15, 2, [0, 2147483648, 452]) else none)) else (bif Nat.blt pc 19 then (bif Nat.beq pc 16 then some (.goto 4, 3, [20]) else none) else (bif Nat.beq pc 19 then some (.iconst 0, 1, []) else none))) else (bif Nat.blt pc 22 then (bif Nat.blt pc 21 then (bif Nat.beq pc 20 then some (.istore_n 2, 1, []) else none) else (bif Nat.beq pc 21 then some (.fload_n 0, 1, []) else none)) else (bif Nat.blt pc 23 then (bif Nat.beq pc 22 then some (.fconst 0, 1, []) else none) else (bif Nat.blt pc 24 then (bif Nat.beq pc 23 then some (.fcmp .g, 1, []) else none) else (bif Nat.beq pc 24 then some (.ifCond .ge 9, 3, [33]) else none)))))) else (bif Nat.blt pc 39 then (bif Nat.blt pc 33 then (bif Nat.blt pc 29 then (bif Nat.blt pc 28 then (bif Nat.beq pc 27 then some (.fload_n 0, 1, []) else none) else (bif Nat.beq pc 28 then some (.fneg, 1, []) else none)) else (bif Nat.blt pc 30 then (bif Nat.beq pc 29 then some (.f2d, 1, []) else none) else (bif Nat.beq pc 30 then some (.goto 5, 3, [35]) else none))) else (bif Nat.blt pc 35 then (bif Nat.blt pc 34 then (bif Nat.beq pc 33 then some (.fload_n 0, 1, []) else none) else (bif Nat.beq pc 34 then some (.f2d, 1, []) else none)) else (bif Nat.blt pc 36 then (bif Nat.beq pc 35 then some (.dstore_n 3, 1, []) else none) else (bif Nat.blt pc 37 then (bif Nat.beq pc 36 then some (.iconst 0, 1, []) else none) else (bif Nat.beq pc 37 then some (.istore 5, 2, []) else none))))) else (bif Nat.blt pc 51 then (bif Nat.blt pc 44 then (bif Nat.blt pc 41 then (bif Nat.beq pc 39 then some (.iload 5, 2, []) else none) else (bif Nat.beq pc 41 then some (.sipush 133, 3, []) else none)) else (bif Nat.blt pc 47 then (bif Nat.beq pc 44 then some (.if_icmp .ge 23, 3, [67]) else none) else (bif Nat.blt pc 48 then (bif Nat.beq pc 47 then some (.dload_n 3, 1, []) else none) else (bif Nat.beq pc 48 then some (.ldc2_w 16, 3, [3, 4643211215818981376, 456]) else none)))) else (bif Nat.blt pc 55 then (bif Nat.blt pc 52 then (bif Nat.beq pc 51 then some (.dcmp .g, 1, []) else none) else (bif Nat.beq pc 52 then some (.ifCond .ge 15, 3, [67]) else none)) else (bif Nat.blt pc 56 then (bif Nat.beq pc 55 then some (.dload_n 3, 1, []) else none) else (bif Nat.blt pc 59 then (bif Nat.beq pc 56 then some (.ldc2_w 18, 3, [3, 4679240012837945344, 457]) else none) else (bif Nat.beq pc 59 then some (.dmul, 1, []) else none))))))) else (bif Nat.blt pc 99 then (bif Nat.blt pc 80 then (bif Nat.blt pc 69 then (bif Nat.blt pc 64 then (bif Nat.blt pc 61 then (bif Nat.beq pc 60 then some (.dstore_n 3, 1, []) else none) else (bif Nat.beq pc 61 then some (.iinc 5 16, 3, []) else none)) else (bif Nat.blt pc 67 then (bif Nat.beq pc 64 then some (.goto (-25), 3, [39]) else none) else (bif Nat.beq pc 67 then some (.iload 5, 2, []) else none))) else (bif Nat.blt pc 75 then (bif Nat.blt pc 72 then (bif Nat.beq pc 69 then some (.sipush 149, 3, []) else none) else (bif Nat.beq pc 72 then some (.if_icmp .ge 23, 3, [95]) else none)) else (bif Nat.blt pc 76 then (bif Nat.beq pc 75 then some (.dload_n 3, 1, []) else none) else (bif Nat.blt pc 79 then (bif Nat.beq pc 76 then some (.ldc2_w 20, 3, [3, 4710765210229538816, 458]) else none) else (bif Nat.beq pc 79 then some (.dcmp .g, 1, []) else none))))) else (bif Nat.blt pc 89 then (bif Nat.blt pc 84 then (bif Nat.blt pc 83 then (bif Nat.beq pc 80 then some (.ifCond .ge 15, 3, [95]) else none) else (bif Nat.beq pc 83 then some (.dload_n 3, 1, []) else none)) else (bif Nat.blt pc 87 then (bif Nat.beq pc 84 then some (.ldc2_w 22, 3, [3, 4611686018427387904, 459]) else none) else (bif Nat.blt pc 88 then (bif Nat.beq pc 87 then some (.dmul, 1, []) else none) else (bif Nat.beq pc 88 then some (.dstore_n 3, 1, []) else none)))) else (bif Nat.blt pc 95 then (bif Nat.blt pc 92 then (bif Nat.beq pc 89 then some (.iinc 5 1, 3, []) else none) else (bif Nat.beq pc 92 then some (.goto (-25), 3, [67]) else none)) else (bif Nat.blt pc 96 then (bif Nat.beq pc 95 then some (.dload_n 3, 1, []) else none) else (bif Nat.blt pc 97 then (bif Nat.beq pc 96 then some (.d2i, 1, []) else none) else (bif Nat.beq pc 97 then some (.istore 6, 2, []) else none)))))) else (bif Nat.blt pc 115 then (bif Nat.blt pc 107 then (bif Nat.blt pc 103 then (bif Nat.blt pc 101 then (bif Nat.beq pc 99 then some (.iload 6, 2, []) else none) else (bif Nat.beq pc 101 then some (.ldc 14, 2, [0, 8388608, 435]) else none)) else (bif Nat.blt pc 106 then (bif Nat.beq pc 103 then some (.if_icmp .ge 8, 3, [111]) else none) else (bif Nat.beq pc 106 then some (.iload_n 2, 1, []) else none))) else (bif Nat.blt pc 110 then (bif Nat.blt pc 109 then (bif Nat.beq pc 107 then some (.iload 6, 2, []) else none) else (bif Nat.beq pc 109 then some (.ior, 1, []) else none)) else (bif Nat.blt pc 111 then (bif Nat.beq pc 110 then some (.ireturn, 1, [0]) else none) else (bif Nat.blt pc 112 then (bif Nat.beq pc 111 then some (.iload_n 2, 1, []) else none) else (bif Nat.beq pc 112 then some (.sipush 150, 3, []) else none))))) else (bif Nat.blt pc 122 then (bif Nat.blt pc 118 then (bif Nat.blt pc 117 then (bif Nat.beq pc 115 then some (.iload 5, 2, []) else none) else (bif Nat.beq pc 117 then some (.isub, 1, []) else none)) else (bif Nat.blt pc 120 then (bif Nat.beq pc 118 then some (.bipush 23, 2, []) else none) else (bif Nat.blt pc 121 then (bif Nat.beq pc 120 then some (.ishl, 1, []) else none) else (bif Nat.beq pc 121 then some (.ior, 1, []) else none)))) else (bif Nat.blt pc 126 then (bif Nat.blt pc 124 then (bif Nat.beq pc 122 then some (.iload 6, 2, []) else none) else (bif Nat.beq pc 124 then some (.ldc 13, 2, [0, 8388607, 434]) else none)) else (bif Nat.blt pc 127 then (bif Nat.beq pc 126 then some (.iand, 1, []) else none) else (bif Nat.blt pc 128 then (bif Nat.beq pc 127 then some (.ior, 1, []) else none) else (bif Nat.beq pc 128 then some (.ireturn, 1, [0]) else none)))))))
/-- X0_result -/
def I_X0_result (pc : Nat) : Option IE := bif Nat.blt pc 54 then (bif Nat.blt pc 40 then (bif Nat.blt pc 32 then (bif Nat.blt pc 28 then (bif Nat.blt pc 1 then (bif Nat.beq pc 0 then some (.iload_n 0, 1, []) else none) else (bif Nat.beq pc 1 then some (.lookupswitch 71 #[(1, 27), (2, 49)], 27, [72, 1, 28, 2, 50]) else none)) else (bif Nat.blt pc 29 then (bif Nat.beq pc 28 then some (.iload_n 1, 1, []) else none) else (bif Nat.beq pc 29 then some (.invokestatic 24, 3, [1, 1, 1, 446, 9, 7, 3]) else none))) else (bif Nat.blt pc 36 then (bif Nat.blt pc 33 then (bif Nat.beq pc 32 then some (.iload_n 2, 1, []) else none) else (bif Nat.beq pc 33 then some (.invokestatic 24, 3, [1, 1, 1, 446, 9, 7, 3]) else none)) else (bif Nat.blt pc 37 then (bif Nat.beq pc 36 then some (.fadd, 1, []) else none) else (bif Nat.beq pc 37 then some (.invokestatic 28, 3, [1, 4, 1, 447, 9, 1, 3]) else none)))) else (bif Nat.blt pc 45 then (bif Nat.blt pc 42 then (bif Nat.blt pc 41 then (bif Nat.beq pc 40 then some (.iload_n 1, 1, []) else none) else (bif Nat.beq pc 41 then some (.iload_n 2, 1, []) else none)) else (bif Nat.blt pc 43 then (bif Nat.beq pc 42 then some (.iand, 1, []) else none) else (bif Nat.beq pc 43 then some (.ldc 15, 2, [0, 2147483648, 452]) else none))) else (bif Nat.blt pc 49 then (bif Nat.blt pc 46 then (bif Nat.beq pc 45 then some (.iand, 1, []) else none) else (bif Nat.beq pc 46 then some (.invokestatic 32, 3, [1, 2, 2, 453, 9, 7, 1]) else none)) else (bif Nat.blt pc 50 then (bif Nat.beq pc 49 then some (.ireturn, 1, [0]) else none) else (bif Nat.blt pc 51 then (bif Nat.beq pc 50 then some (.iload_n 1, 1, []) else none) else (bif Nat.beq pc 51 then some (.invokestatic 24, 3, [1, 1, 1, 446, 9, 7, 3]) else none)))))) else (bif Nat.blt pc 68 then (bif Nat.blt pc 62 then (bif Nat.blt pc 58 then (bif Nat.blt pc 55 then (bif Nat.beq pc 54 then some (.iload_n 2, 1, []) else none) else (bif Nat.beq pc 55 then some (.invokestatic 24, 3, [1, 1, 1, 446, 9, 7, 3]) else none)) else (bif Nat.blt pc 59 then (bif Nat.beq pc 58 then some (.fmul, 1, []) else none) else (bif Nat.beq pc 59 then some (.invokestatic 28, 3, [1, 4, 1, 447, 9, 1, 3]) else none))) else (bif Nat.blt pc 64 then (bif Nat.blt pc 63 then (bif Nat.beq pc 62 then some (.iload_n 1, 1, []) else none) else (bif Nat.beq pc 63 then some (.iload_n 2, 1, []) else none)) else (bif Nat.blt pc 65 then (bif Nat.beq pc 64 then some (.ixor, 1, []) else none) else (bif Nat.blt pc 67 then (bif Nat.beq pc 65 then some (.ldc 15, 2, [0, 2147483648, 452]) else none) else (bif Nat.beq pc 67 then some (.iand, 1, []) else none))))) else (bif Nat.blt pc 74 then (bif Nat.blt pc 72 then (bif Nat.blt pc 71 then (bif Nat.beq pc 68 then some (.invokestatic 32, 3, [1, 2, 2, 453, 9, 7, 1]) else none) else (bif Nat.beq pc 71 then some (.ireturn, 1, [0]) else none)) else (bif Nat.blt pc 73 then (bif Nat.beq pc 72 then some (.iload_n 3, 1, []) else none) else (bif Nat.beq pc 73 then some (.i2f, 1, []) else none))) else (bif Nat.blt pc 77 then (bif Nat.blt pc 76 then (bif Nat.beq pc 74 then some (.ldc 36, 2, [1, 1082130432, 460]) else none) else (bif Nat.beq pc 76 then some (.fdiv, 1, []) else none)) else (bif Nat.blt pc 78 then (bif Nat.beq pc 77 then some (.iconst 0, 1, []) else none) else (bif Nat.blt pc 81 then (bif Nat.beq pc 78 then some (.invokestatic 32, 3, [1, 2, 2, 453, 9, 7, 1]) else none) else (bif Nat.beq pc 81 then some (.ireturn, 1, [0]) else none))))))
/-- X0_limited -/
def I_X0_limited (pc : Nat) : Option IE := bif Nat.blt pc 11 then (bif Nat.blt pc 4 then (bif Nat.blt pc 1 then (bif Nat.beq pc 0 then some (.fload_n 0, 1, []) else none) else (bif Nat.blt pc 3 then (bif Nat.beq pc 1 then some (.ldc 37, 2, [1, 1232348160, 450]) else none) else (bif Nat.beq pc 3 then some (.fcmp .l, 1, []) else none))) else (bif Nat.blt pc 9 then (bif Nat.blt pc 7 then (bif Nat.beq pc 4 then some (.ifCond .le 6, 3, [10]) else none) else (bif Nat.beq pc 7 then some (.ldc 37, 2, [1, 1232348160, 450]) else none)) else (bif Nat.blt pc 10 then (bif Nat.beq pc 9 then some (.freturn, 1, []) else none) else (bif Nat.beq pc 10 then some (.fload_n 0, 1, []) else none)))) else (bif Nat.blt pc 17 then (bif Nat.blt pc 13 then (bif Nat.beq pc 11 then some (.ldc 38, 2, [1, 3379831808, 451]) else none) else (bif Nat.blt pc 14 then (bif Nat.beq pc 13 then some (.fcmp .g, 1, []) else none) else (bif Nat.beq pc 14 then some (.ifCond .ge 8, 3, [22]) else none))) else (bif Nat.blt pc 22 then (bif Nat.blt pc 19 then (bif Nat.beq pc 17 then some (.ldc 38, 2, [1, 3379831808, 451]) else none) else (bif Nat.beq pc 19 then some (.goto 4, 3, [23]) else none)) else (bif Nat.blt pc 23 then (bif Nat.beq pc 22 then some (.fload_n 0, 1, []) else none) else (bif Nat.beq pc 23 then some (.freturn, 1, []) else none))))
/-- X1_init -/
def I_X1_init (pc : Nat) : Option IE := bif Nat.blt pc 16 then (bif Nat.blt pc 9 then (bif Nat.blt pc 4 then (bif Nat.blt pc 1 then (bif Nat.beq pc 0 then some (.aload_n 0, 1, []) else none) else (bif Nat.beq pc 1 then some (.invokespecial 3, 3, [3, 0, 0, 46]) else none)) else (bif Nat.blt pc 5 then (bif Nat.beq pc 4 then some (.aload_n 0, 1, []) else none) else (bif Nat.blt pc 6 then (bif Nat.beq pc 5 then some (.iconst (-1), 1, []) else none) else (bif Nat.beq pc 6 then some (.putfield 9, 3, [0, 1, 0, 49]) else none)))) else (bif Nat.blt pc 11 then (bif Nat.blt pc 10 then (bif Nat.beq pc 9 then some (.aload_n 0, 1, []) else none) else (bif Nat.beq pc 10 then some (.iconst (-1), 1, []) else none)) else (bif Nat.blt pc 14 then (bif Nat.beq pc 11 then some (.putfield 15, 3, [0, 2, 0, 51]) else none) else (bif Nat.blt pc 15 then (bif Nat.beq pc 14 then some (.aload_n 0, 1, []) else none) else (bif Nat.beq pc 15 then some (.iconst (-1), 1, []) else none))))) else (bif Nat.blt pc 25 then (bif Nat.blt pc 20 then (bif Nat.blt pc 19 then (bif Nat.beq pc 16 then some (.putfield 18, 3, [0, 3, 0, 53]) else none) else (bif Nat.beq pc 19 then some (.aload_n 0, 1, []) else none)) else (bif Nat.blt pc 21 then (bif Nat.beq pc 20 then some (.iconst (-1), 1, []) else none) else (bif Nat.blt pc 24 then (bif Nat.beq pc 21 then some (.putfield 21, 3, [0, 9, 0, 66]) else none) else (bif Nat.beq pc 24 then some (.aload_n 0, 1, []) else none)))) else (bif Nat.blt pc 30 then (bif Nat.blt pc 26 then (bif Nat.beq pc 25 then some (.iconst (-1), 1, []) else none) else (bif Nat.blt pc 29 then (bif Nat.beq pc 26 then some (.putfield 24, 3, [0, 10, 0, 68]) else none) else (bif Nat.beq pc 29 then some (.aload_n 0, 1, []) else none))) else (bif Nat.blt pc 31 then (bif Nat.beq pc 30 then some (.iconst (-1), 1, []) else none) else (bif Nat.blt pc 34 then (bif Nat.beq pc 31 then some (.putfield 27, 3, [0, 12, 0, 72]) else none) else (bif Nat.beq pc 34 then some (.return_, 1, []) else none)))))
/-- X1_become -/
def I_X1_become (pc : Nat) : Option IE := bif Nat.blt pc 12 then (bif Nat.blt pc 6 then (bif Nat.blt pc 2 then (bif Nat.blt pc 1 then (bif Nat.beq pc 0 then some (.aload_n 0, 1, []) else none) else (bif Nat.beq pc 1 then some (.iload_n 1, 1, []) else none)) else (bif Nat.blt pc 5 then (bif Nat.beq pc 2 then some (.putfield 30, 3, [0, 0, 0, 47]) else none) else (bif Nat.beq pc 5 then some (.aload_n 0, 1, []) else none))) else (bif Nat.blt pc 10 then (bif Nat.blt pc 7 then (bif Nat.beq pc 6 then some (.iload_n 2, 1, []) else none) else (bif Nat.beq pc 7 then some (.putfield 9, 3, [0, 1, 0, 49]) else none)) else (bif Nat.blt pc 11 then (bif Nat.beq pc 10 then some (.aload_n 0, 1, []) else none) else (bif Nat.beq pc 11 then some (.iload_n 3, 1, []) else none)))) else (bif Nat.blt pc 21 then (bif Nat.blt pc 16 then (bif Nat.blt pc 15 then (bif Nat.beq pc 12 then some (.putfield 15, 3, [0, 2, 0, 51]) else none) else (bif Nat.beq pc 15 then some (.aload_n 0, 1, []) else none)) else (bif Nat.blt pc 18 then (bif Nat.beq pc 16 then some (.iload 4, 2, []) else none) else (bif Nat.beq pc 18 then some (.putfield 18, 3, [0, 3, 0, 53]) else none))) else (bif Nat.blt pc 24 then (bif Nat.blt pc 22 then (bif Nat.beq pc 21 then some (.aload_n 0, 1, []) else none) else (bif Nat.beq pc 22 then some (.iload 5, 2, []) else none)) else (bif Nat.blt pc 27 then (bif Nat.beq pc 24 then some (.putfield 33, 3, [0, 4, 0, 55]) else none) else (bif Nat.beq pc 27 then some (.return_, 1, []) else none))))
/-- X1_becomeLike -/
def I_X1_becomeLike (pc : Nat) : Option IE := bif Nat.blt pc 48 then (bif Nat.blt pc 24 then (bif Nat.blt pc 10 then (bif Nat.blt pc 5 then (bif Nat.blt pc 1 then (bif Nat.beq pc 0 then some (.aload_n 0, 1, []) else none) else (bif Nat.blt pc 2 then (bif Nat.beq pc 1 then some (.aload_n 1, 1, []) else none) else (bif Nat.beq pc 2 then some (.getfield 30, 3, [0, 0, 0, 47]) else none))) else (bif Nat.blt pc 6 then (bif Nat.beq pc 5 then some (.aload_n 1, 1, []) else none) else (bif Nat.blt pc 9 then (bif Nat.beq pc 6 then some (.getfield 9, 3, [0, 1, 0, 49]) else none) else (bif Nat.beq pc 9 then some (.aload_n 1, 1, []) else none)))) else (bif Nat.blt pc 17 then (bif Nat.blt pc 13 then (bif Nat.beq pc 10 then some (.getfield 15, 3, [0, 2, 0, 51]) else none) else (bif Nat.blt pc 14 then (bif Nat.beq pc 13 then some (.aload_n 1, 1, []) else none) else (bif Nat.beq pc 14 then some (.getfield 18, 3, [0, 3, 0, 53]) else none))) else (bif Nat.blt pc 18 then (bif Nat.beq pc 17 then some (.aload_n 1, 1, []) else none) else (bif Nat.blt pc 21 then (bif Nat.beq pc 18 then some (.getfield 33, 3, [0, 4, 0, 55]) else none) else (bif Nat.beq pc 21 then some (.invokevirtual 36, 3, [0, 7, 5, 412, 0, 6, 0]) else none))))) else (bif Nat.blt pc 34 then (bif Nat.blt pc 29 then (bif Nat.blt pc 25 then (bif Nat.beq pc 24 then some (.aload_n 0, 1, []) else none) else (bif Nat.blt pc 26 then (bif Nat.beq pc 25 then some (.aload_n 1, 1, []) else none) else (bif Nat.beq pc 26 then some (.getfield 40, 3, [0, 5, 0, 57]) else none))) else (bif Nat.blt pc 32 then (bif Nat.beq pc 29 then some (.putfield 40, 3, [0, 5, 0, 57]) else none) else (bif Nat.blt pc 33 then (bif Nat.beq pc 32 then some (.aload_n 0, 1, []) else none) else (bif Nat.beq pc 33 then some (.aload_n 1, 1, []) else none)))) else (bif Nat.blt pc 41 then (bif Nat.blt pc 37 then (bif Nat.beq pc 34 then some (.getfield 43, 3, [0, 6, 0, 59]) else none) else (bif Nat.blt pc 40 then (bif Nat.beq pc 37 then some (.putfield 43, 3, [0, 6, 0, 59]) else none) else (bif Nat.beq pc 40 then some (.aload_n 0, 1, []) else none))) else (bif Nat.blt pc 42 then (bif Nat.beq pc 41 then some (.aload_n 1, 1, []) else none) else (bif Nat.blt pc 45 then (bif Nat.beq pc 42 then some (.getfield 46, 3, [0, 7, 0, 62]) else none) else (bif Nat.beq pc 45 then some (.putfield 46, 3, [0, 7, 0, 62]) else none)))))) else (bif Nat.blt pc 72 then (bif Nat.blt pc 58 then (bif Nat.blt pc 53 then (bif Nat.blt pc 49 then (bif Nat.beq pc 48 then some (.aload_n 0, 1, []) else none) else (bif Nat.blt pc 50 then (bif Nat.beq pc 49 then some (.aload_n 1, 1, []) else none) else (bif Nat.beq pc 50 then some (.getfield 49, 3, [0, 8, 0, 64]) else none))) else (bif Nat.blt pc 56 then (bif Nat.beq pc 53 then some (.putfield 49, 3, [0, 8, 0, 64]) else none) else (bif Nat.blt pc 57 then (bif Nat.beq pc 56 then some (.aload_n 0, 1, []) else none) else (bif Nat.beq pc 57 then some (.aload_n 1, 1, []) else none)))) else (bif Nat.blt pc 65 then (bif Nat.blt pc 61 then (bif Nat.beq pc 58 then some (.getfield 21, 3, [0, 9, 0, 66]) else none) else (bif Nat.blt pc 64 then (bif Nat.beq pc 61 then some (.putfield 21, 3, [0, 9, 0, 66]) else none) else (bif Nat.beq pc 64 then some (.aload_n 0, 1, []) else none))) else (bif Nat.blt pc 66 then (bif Nat.beq pc 65 then some (.aload_n 1, 1, []) else none) else (bif Nat.blt pc 69 then (bif Nat.beq pc 66 then some (.getfield 24, 3, [0, 10, 0, 68]) else none) else (bif Nat.beq pc 69 then some (.putfield 24, 3, [0, 10, 0, 68]) else none))))) else (bif Nat.blt pc 82 then (bif Nat.blt pc 77 then (bif Nat.blt pc 73 then (bif Nat.beq pc 72 then some (.aload_n 0, 1, []) else none) else (bif Nat.blt pc 74 then (bif Nat.beq pc 73 then some (.aload_n 1, 1, []) else none) else (bif Nat.beq pc 74 then some (.getfield 52, 3, [0, 11, 0, 70]) else none))) else (bif Nat.blt pc 80 then (bif Nat.beq pc 77 then some (.putfield 52, 3, [0, 11, 0, 70]) else none) else (bif Nat.blt pc 81 then (bif Nat.beq pc 80 then some (.aload_n 0, 1, []) else none) else (bif Nat.beq pc 81 then some (.aload_n 1, 1, []) else none)))) else (bif Nat.blt pc 89 then (bif Nat.blt pc 85 then (bif Nat.beq pc 82 then some (.getfield 27, 3, [0, 12, 0, 72]) else none) else (bif Nat.blt pc 88 then (bif Nat.beq pc 85 then some (.putfield 27, 3, [0, 12, 0, 72]) else none) else (bif Nat.beq pc 88 then some (.aload_n 0, 1, []) else none))) else (bif Nat.blt pc 93 then (bif Nat.blt pc 90 then (bif Nat.beq pc 89 then some (.aload_n 1, 1, []) else none) else (bif Nat.beq pc 90 then some (.getfield 55, 3, [0, 13, 0, 74]) else none)) else (bif Nat.blt pc 96 then (bif Nat.beq pc 93 then some (.putfield 55, 3, [0, 13, 0, 74]) else none) else (bif Nat.beq pc 96 then some (.return_, 1, []) else none))))))
/-- X1_isDone -/
def I_X1_isDone (pc : Nat) : Option IE := bif Nat.blt pc 12 then (bif Nat.blt pc 5 then (bif Nat.blt pc 1 then (bif Nat.beq pc 0 then some (.aload_n 0, 1, []) else none) else (bif Nat.blt pc 4 then (bif Nat.beq pc 1 then some (.getfield 30, 3, [0, 0, 0, 47]) else none) else (bif Nat.beq pc 4 then some (.iload_n 1, 1, []) else none))) else (bif Nat.blt pc 8 then (bif Nat.beq pc 5 then some (.if_icmp .ne 15, 3, [20]) else none) else (bif Nat.blt pc 9 then (bif Nat.beq pc 8 then some (.aload_n 0, 1, []) else none) else (bif Nat.beq pc 9 then some (.getfield 46, 3, [0, 7, 0, 62]) else none)))) else (bif Nat.blt pc 17 then (bif Nat.blt pc 13 then (bif Nat.beq pc 12 then some (.iconst 2, 1, []) else none) else (bif Nat.blt pc 16 then (bif Nat.beq pc 13 then some (.if_icmp .ne 7, 3, [20]) else none) else (bif Nat.beq pc 16 then some (.iconst 1, 1, []) else none))) else (bif Nat.blt pc 20 then (bif Nat.beq pc 17 then some (.goto 4, 3, [21]) else none) else (bif Nat.blt pc 21 then (bif Nat.beq pc 20 then some (.iconst 0, 1, []) else none) else (bif Nat.beq pc 21 then some (.ireturn, 1, [1]) else none))))
/-- X1_endsItsWork -/
def I_X1_endsItsWork (pc : Nat) : Option IE := bif Nat.blt pc 15 then (bif Nat.blt pc 8 then (bif Nat.blt pc 4 then (bif Nat.blt pc 1 then (bif Nat.beq pc 0 then some (.aload_n 0, 1, []) else none) else (bif Nat.beq pc 1 then some (.getfield 46, 3, [0, 7, 0, 62]) else none)) else (bif Nat.blt pc 5 then (bif Nat.beq pc 4 then some (.iconst 1, 1, []) else none) else (bif Nat.beq pc 5 then some (.if_icmp .eq 5, 3, [10]) else none))) else (bif Nat.blt pc 10 then (bif Nat.blt pc 9 then (bif Nat.beq pc 8 then some (.iconst 0, 1, []) else none) else (bif Nat.beq pc 9 then some (.ireturn, 1, [1]) else none)) else (bif Nat.blt pc 11 then (bif Nat.beq pc 10 then some (.aload_n 0, 1, []) else none) else (bif Nat.blt pc 12 then (bif Nat.beq pc 11 then some (.dup, 1, []) else none) else (bif Nat.beq pc 12 then some (.getfield 49, 3, [0, 8, 0, 64]) else none))))) else (bif Nat.blt pc 24 then (bif Nat.blt pc 17 then (bif Nat.blt pc 16 then (bif Nat.beq pc 15 then some (.iconst 1, 1, []) else none) else (bif Nat.beq pc 16 then some (.isub, 1, []) else none)) else (bif Nat.blt pc 20 then (bif Nat.beq pc 17 then some (.putfield 49, 3, [0, 8, 0, 64]) else none) else (bif Nat.blt pc 21 then (bif Nat.beq pc 20 then some (.aload_n 0, 1, []) else none) else (bif Nat.beq pc 21 then some (.getfield 49, 3, [0, 8, 0, 64]) else none)))) else (bif Nat.blt pc 28 then (bif Nat.blt pc 27 then (bif Nat.beq pc 24 then some (.ifCond .gt 7, 3, [31]) else none) else (bif Nat.beq pc 27 then some (.iconst 1, 1, []) else none)) else (bif Nat.blt pc 31 then (bif Nat.beq pc 28 then some (.goto 4, 3, [32]) else none) else (bif Nat.blt pc 32 then (bif Nat.beq pc 31 then some (.iconst 0, 1, []) else none) else (bif Nat.beq pc 32 then some (.ireturn, 1, [1]) else none)))))
/-- X1_cyclesNeeded -/
def I_X1_cyclesNeeded (pc : Nat) : Option IE := bif Nat.blt pc 33 then (bif Nat.blt pc 4 then (bif Nat.blt pc 1 then (bif Nat.beq pc 0 then some (.aload_n 0, 1, []) else none) else (bif Nat.beq pc 1 then some (.getfield 30, 3, [0, 0, 0, 47]) else none)) else (bif Nat.blt pc 32 then (bif Nat.beq pc 4 then some (.lookupswitch 32 #[(2, 28), (3, 30)], 28, [36, 2, 32, 3, 34]) else none) else (bif Nat.beq pc 32 then some (.iconst 3, 1, []) else none))) else (bif Nat.blt pc 35 then (bif Nat.blt pc 34 then (bif Nat.beq pc 33 then some (.ireturn, 1, [0]) else none) else (bif Nat.beq pc 34 then some (.iconst 2, 1, []) else none)) else (bif Nat.blt pc 36 then (bif Nat.beq pc 35 then some (.ireturn, 1, [0]) else none) else (bif Nat.blt pc 37 then (bif Nat.beq pc 36 then some (.iconst 1, 1, []) else none) else (bif Nat.beq pc 37 then some (.ireturn, 1, [0]) else none))))
/-- X1_part -/
def I_X1_part (pc : Nat) : Option IE := bif Nat.blt pc 55 then (bif Nat.blt pc 45 then (bif Nat.blt pc 40 then (bif Nat.blt pc 1 then (bif Nat.beq pc 0 then some (.iload_n 1, 1, []) else none) else (bif Nat.beq pc 1 then some (.tableswitch 69 0 5 #[39, 44, 49, 54, 59, 64], 39, [70, 0, 40, 1, 45, 2, 50, 3, 55, 4, 60, 5, 65]) else none)) else (bif Nat.blt pc 41 then (bif Nat.beq pc 40 then some (.aload_n 0, 1, []) else none) else (bif Nat.blt pc 44 then (bif Nat.beq pc 41 then some (.getfield 30, 3, [0, 0, 0, 47]) else none) else (bif Nat.beq pc 44 then some (.ireturn, 1, [0]) else none)))) else (bif Nat.blt pc 50 then (bif Nat.blt pc 46 then (bif Nat.beq pc 45 then some (.aload_n 0, 1, []) else none) else (bif Nat.blt pc 49 then (bif Nat.beq pc 46 then some (.getfield 9, 3, [0, 1, 0, 49]) else none) else (bif Nat.beq pc 49 then some (.ireturn, 1, [0]) else none))) else (bif Nat.blt pc 51 then (bif Nat.beq pc 50 then some (.aload_n 0, 1, []) else none) else (bif Nat.blt pc 54 then (bif Nat.beq pc 51 then some (.getfield 15, 3, [0, 2, 0, 51]) else none) else (bif Nat.beq pc 54 then some (.ireturn, 1, [0]) else none))))) else (bif Nat.blt pc 65 then (bif Nat.blt pc 60 then (bif Nat.blt pc 56 then (bif Nat.beq pc 55 then some (.aload_n 0, 1, []) else none) else (bif Nat.blt pc 59 then (bif Nat.beq pc 56 then some (.getfield 18, 3, [0, 3, 0, 53]) else none) else (bif Nat.beq pc 59 then some (.ireturn, 1, [0]) else none))) else (bif Nat.blt pc 61 then (bif Nat.beq pc 60 then some (.aload_n 0, 1, []) else none) else (bif Nat.blt pc 64 then (bif Nat.beq pc 61 then some (.getfield 33, 3, [0, 4, 0, 55]) else none) else (bif Nat.beq pc 64 then some (.ireturn, 1, [0]) else none)))) else (bif Nat.blt pc 70 then (bif Nat.blt pc 66 then (bif Nat.beq pc 65 then some (.aload_n 0, 1, []) else none) else (bif Nat.blt pc 69 then (bif Nat.beq pc 66 then some (.getfield 40, 3, [0, 5, 0, 57]) else none) else (bif Nat.beq pc 69 then some (.ireturn, 1, [0]) else none))) else (bif Nat.blt pc 71 then (bif Nat.beq pc 70 then some (.aload_n 0, 1, []) else none) else (bif Nat.blt pc 74 then (bif Nat.beq pc 71 then some (.getfield 43, 3, [0, 6, 0, 59]) else none) else (bif Nat.beq pc 74 then some (.ireturn, 1, [0]) else none)))))
/-- X2_init -/
def I_X2_init (pc : Nat) : Option IE := bif Nat.blt pc 51 then (bif Nat.blt pc 27 then (bif Nat.blt pc 13 then (bif Nat.blt pc 5 then (bif Nat.blt pc 1 then (bif Nat.beq pc 0 then some (.aload_n 0, 1, []) else none) else (bif Nat.blt pc 4 then (bif Nat.beq pc 1 then some (.invokespecial 3, 3, [3, 0, 0, 39]) else none) else (bif Nat.beq pc 4 then some (.aload_n 0, 1, []) else none))) else (bif Nat.blt pc 7 then (bif Nat.beq pc 5 then some (.bipush 24, 2, []) else none) else (bif Nat.blt pc 10 then (bif Nat.beq pc 7 then some (.anewarray 9, 3, [7, 40, 41]) else none) else (bif Nat.beq pc 10 then some (.putfield 11, 3, [1, 0, 1, 105]) else none)))) else (bif Nat.blt pc 18 then (bif Nat.blt pc 14 then (bif Nat.beq pc 13 then some (.aload_n 0, 1, []) else none) else (bif Nat.blt pc 17 then (bif Nat.beq pc 14 then some (.new 9, 3, [0, 40, 42]) else none) else (bif Nat.beq pc 17 then some (.dup, 1, []) else none))) else (bif Nat.blt pc 24 then (bif Nat.blt pc 21 then (bif Nat.beq pc 18 then some (.invokespecial 17, 3, [4, 6, 0, 43, 0, 1, 0]) else none) else (bif Nat.beq pc 21 then some (.putfield 18, 3, [1, 1, 1, 106]) else none)) else (bif Nat.blt pc 25 then (bif Nat.beq pc 24 then some (.aload_n 0, 1, []) else none) else (bif Nat.beq pc 25 then some (.bipush 8, 2, []) else none))))) else (bif Nat.blt pc 41 then (bif Nat.blt pc 33 then (bif Nat.blt pc 29 then (bif Nat.beq pc 27 then some (.newarray .int, 2, [6, 159]) else none) else (bif Nat.blt pc 32 then (bif Nat.beq pc 29 then some (.putfield 22, 3, [1, 2, 1, 107]) else none) else (bif Nat.beq pc 32 then some (.aload_n 0, 1, []) else none))) else (bif Nat.blt pc 37 then (bif Nat.blt pc 35 then (bif Nat.beq pc 33 then some (.bipush 16, 2, []) else none) else (bif Nat.beq pc 35 then some (.newarray .int, 2, [6, 159]) else none)) else (bif Nat.blt pc 40 then (bif Nat.beq pc 37 then some (.putfield 26, 3, [1, 3, 1, 109]) else none) else (bif Nat.beq pc 40 then some (.aload_n 0, 1, []) else none)))) else (bif Nat.blt pc 47 then (bif Nat.blt pc 42 then (bif Nat.beq pc 41 then some (.iconst 3, 1, []) else none) else (bif Nat.blt pc 44 then (bif Nat.beq pc 42 then some (.newarray .int, 2, [6, 159]) else none) else (bif Nat.beq pc 44 then some (.putfield 29, 3, [1, 4, 1, 111]) else none))) else (bif Nat.blt pc 49 then (bif Nat.blt pc 48 then (bif Nat.beq pc 47 then some (.iconst 0, 1, []) else none) else (bif Nat.beq pc 48 then some (.istore_n 1, 1, []) else none)) else (bif Nat.blt pc 50 then (bif Nat.beq pc 49 then some (.iload_n 1, 1, []) else none) else (bif Nat.beq pc 50 then some (.aload_n 0, 1, []) else none)))))) else (bif Nat.blt pc 81 then (bif Nat.blt pc 66 then (bif Nat.blt pc 58 then (bif Nat.blt pc 54 then (bif Nat.beq pc 51 then some (.getfield 11, 3, [1, 0, 1, 105]) else none) else (bif Nat.blt pc 55 then (bif Nat.beq pc 54 then some (.arraylength, 1, []) else none) else (bif Nat.beq pc 55 then some (.if_icmp .ge 22, 3, [77]) else none))) else (bif Nat.blt pc 62 then (bif Nat.blt pc 59 then (bif Nat.beq pc 58 then some (.aload_n 0, 1, []) else none) else (bif Nat.beq pc 59 then some (.getfield 11, 3, [1, 0, 1, 105]) else none)) else (bif Nat.blt pc 63 then (bif Nat.beq pc 62 then some (.iload_n 1, 1, []) else none) else (bif Nat.beq pc 63 then some (.new 9, 3, [0, 40, 42]) else none)))) else (bif Nat.blt pc 71 then (bif Nat.blt pc 67 then (bif Nat.beq pc 66 then some (.dup, 1, []) else none) else (bif Nat.blt pc 70 then (bif Nat.beq pc 67 then some (.invokespecial 17, 3, [4, 6, 0, 43, 0, 1, 0]) else none) else (bif Nat.beq pc 70 then some (.aastore, 1, []) else none))) else (bif Nat.blt pc 77 then (bif Nat.blt pc 74 then (bif Nat.beq pc 71 then some (.iinc 1 1, 3, []) else none) else (bif Nat.beq pc 74 then some (.goto (-25), 3, [49]) else none)) else (bif Nat.blt pc 78 then (bif Nat.beq pc 77 then some (.aload_n 0, 1, []) else none) else (bif Nat.beq pc 78 then some (.getfield 29, 3, [1, 4, 1, 111]) else none))))) else (bif Nat.blt pc 90 then (bif Nat.blt pc 84 then (bif Nat.blt pc 82 then (bif Nat.beq pc 81 then some (.iconst 0, 1, []) else none) else (bif Nat.blt pc 83 then (bif Nat.beq pc 82 then some (.iconst 4, 1, []) else none) else (bif Nat.beq pc 83 then some (.iastore, 1, []) else none))) else (bif Nat.blt pc 88 then (bif Nat.blt pc 85 then (bif Nat.beq pc 84 then some (.aload_n 0, 1, []) else none) else (bif Nat.beq pc 85 then some (.getfield 29, 3, [1, 4, 1, 111]) else none)) else (bif Nat.blt pc 89 then (bif Nat.beq pc 88 then some (.iconst 1, 1, []) else none) else (bif Nat.beq pc 89 then some (.iconst 2, 1, []) else none)))) else (bif Nat.blt pc 95 then (bif Nat.blt pc 91 then (bif Nat.beq pc 90 then some (.iastore, 1, []) else none) else (bif Nat.blt pc 92 then (bif Nat.beq pc 91 then some (.aload_n 0, 1, []) else none) else (bif Nat.beq pc 92 then some (.getfield 29, 3, [1, 4, 1, 111]) else none))) else (bif Nat.blt pc 97 then (bif Nat.blt pc 96 then (bif Nat.beq pc 95 then some (.iconst 2, 1, []) else none) else (bif Nat.beq pc 96 then some (.iconst 2, 1, []) else none)) else (bif Nat.blt pc 98 then (bif Nat.beq pc 97 then some (.iastore, 1, []) else none) else (bif Nat.beq pc 98 then some (.return_, 1, []) else none))))))
/-- X2_greatest -/
def I_X2_greatest (pc : Nat) : Option IE := bif Nat.blt pc 6 then (bif Nat.blt pc 1 then (bif Nat.beq pc 0 then some (.iload_n 0, 1, []) else none) else (bif Nat.blt pc 4 then (bif Nat.beq pc 1 then some (.ifCond .ne 8, 3, [9]) else none) else (bif Nat.beq pc 4 then some (.bipush 8, 2, []) else none))) else (bif Nat.blt pc 9 then (bif Nat.beq pc 6 then some (.goto 4, 3, [10]) else none) else (bif Nat.blt pc 10 then (bif Nat.beq pc 9 then some (.iconst 4, 1, []) else none) else (bif Nat.beq pc 10 then some (.ireturn, 1, [0]) else none)))
/-- X2_becomeLike -/
def I_X2_becomeLike (pc : Nat) : Option IE := bif Nat.blt pc 70 then (bif Nat.blt pc 35 then (bif Nat.blt pc 15 then (bif Nat.blt pc 4 then (bif Nat.blt pc 2 then (bif Nat.blt pc 1 then (bif Nat.beq pc 0 then some (.iconst 0, 1, []) else none) else (bif Nat.beq pc 1 then some (.istore_n 2, 1, []) else none)) else (bif Nat.blt pc 3 then (bif Nat.beq pc 2 then some (.iload_n 2, 1, []) else none) else (bif Nat.beq pc 3 then some (.aload_n 1, 1, []) else none))) else (bif Nat.blt pc 10 then (bif Nat.blt pc 7 then (bif Nat.beq pc 4 then some (.getfield 32, 3, [1, 6, 0, 115]) else none) else (bif Nat.beq pc 7 then some (.if_icmp .ge 22, 3, [29]) else none)) else (bif Nat.blt pc 11 then (bif Nat.beq pc 10 then some (.aload_n 0, 1, []) else none) else (bif Nat.blt pc 12 then (bif Nat.beq pc 11 then some (.iload_n 2, 1, []) else none) else (bif Nat.beq pc 12 then some (.invokevirtual 36, 3, [0, 17, 1, 360, 1, 2, 5]) else none))))) else (bif Nat.blt pc 26 then (bif Nat.blt pc 17 then (bif Nat.blt pc 16 then (bif Nat.beq pc 15 then some (.aload_n 1, 1, []) else none) else (bif Nat.beq pc 16 then some (.iload_n 2, 1, []) else none)) else (bif Nat.blt pc 20 then (bif Nat.beq pc 17 then some (.invokevirtual 36, 3, [0, 17, 1, 360, 1, 2, 5]) else none) else (bif Nat.blt pc 23 then (bif Nat.beq pc 20 then some (.invokevirtual 40, 3, [0, 8, 1, 408, 0, 2, 0]) else none) else (bif Nat.beq pc 23 then some (.iinc 2 1, 3, []) else none)))) else (bif Nat.blt pc 30 then (bif Nat.blt pc 29 then (bif Nat.beq pc 26 then some (.goto (-24), 3, [2]) else none) else (bif Nat.beq pc 29 then some (.aload_n 1, 1, []) else none)) else (bif Nat.blt pc 33 then (bif Nat.beq pc 30 then some (.getfield 22, 3, [1, 2, 1, 107]) else none) else (bif Nat.blt pc 34 then (bif Nat.beq pc 33 then some (.iconst 0, 1, []) else none) else (bif Nat.beq pc 34 then some (.aload_n 0, 1, []) else none)))))) else (bif Nat.blt pc 53 then (bif Nat.blt pc 44 then (bif Nat.blt pc 39 then (bif Nat.blt pc 38 then (bif Nat.beq pc 35 then some (.getfield 22, 3, [1, 2, 1, 107]) else none) else (bif Nat.beq pc 38 then some (.iconst 0, 1, []) else none)) else (bif Nat.blt pc 41 then (bif Nat.beq pc 39 then some (.bipush 8, 2, []) else none) else (bif Nat.beq pc 41 then some (.invokestatic 44, 3, [5, 0, 5, 416]) else none))) else (bif Nat.blt pc 48 then (bif Nat.blt pc 45 then (bif Nat.beq pc 44 then some (.aload_n 1, 1, []) else none) else (bif Nat.beq pc 45 then some (.getfield 26, 3, [1, 3, 1, 109]) else none)) else (bif Nat.blt pc 49 then (bif Nat.beq pc 48 then some (.iconst 0, 1, []) else none) else (bif Nat.blt pc 50 then (bif Nat.beq pc 49 then some (.aload_n 0, 1, []) else none) else (bif Nat.beq pc 50 then some (.getfield 26, 3, [1, 3, 1, 109]) else none))))) else (bif Nat.blt pc 63 then (bif Nat.blt pc 56 then (bif Nat.blt pc 54 then (bif Nat.beq pc 53 then some (.iconst 0, 1, []) else none) else (bif Nat.beq pc 54 then some (.bipush 16, 2, []) else none)) else (bif Nat.blt pc 59 then (bif Nat.beq pc 56 then some (.invokestatic 44, 3, [5, 0, 5, 416]) else none) else (bif Nat.blt pc 60 then (bif Nat.beq pc 59 then some (.aload_n 1, 1, []) else none) else (bif Nat.beq pc 60 then some (.getfield 29, 3, [1, 4, 1, 111]) else none)))) else (bif Nat.blt pc 65 then (bif Nat.blt pc 64 then (bif Nat.beq pc 63 then some (.iconst 0, 1, []) else none) else (bif Nat.beq pc 64 then some (.aload_n 0, 1, []) else none)) else (bif Nat.blt pc 68 then (bif Nat.beq pc 65 then some (.getfield 29, 3, [1, 4, 1, 111]) else none) else (bif Nat.blt pc 69 then (bif Nat.beq pc 68 then some (.iconst 0, 1, []) else none) else (bif Nat.beq pc 69 then some (.iconst 3, 1, []) else none))))))) else (bif Nat.blt pc 107 then (bif Nat.blt pc 89 then (bif Nat.blt pc 78 then (bif Nat.blt pc 74 then (bif Nat.blt pc 73 then (bif Nat.beq pc 70 then some (.invokestatic 44, 3, [5, 0, 5, 416]) else none) else (bif Nat.beq pc 73 then some (.aload_n 0, 1, []) else none)) else (bif Nat.blt pc 75 then (bif Nat.beq pc 74 then some (.aload_n 1, 1, []) else none) else (bif Nat.beq pc 75 then some (.getfield 50, 3, [1, 5, 0, 113]) else none))) else (bif Nat.blt pc 82 then (bif Nat.blt pc 81 then (bif Nat.beq pc 78 then some (.putfield 50, 3, [1, 5, 0, 113]) else none) else (bif Nat.beq pc 81 then some (.aload_n 0, 1, []) else none)) else (bif Nat.blt pc 83 then (bif Nat.beq pc 82 then some (.aload_n 1, 1, []) else none) else (bif Nat.blt pc 86 then (bif Nat.beq pc 83 then some (.getfield 32, 3, [1, 6, 0, 115]) else none) else (bif Nat.beq pc 86 then some (.putfield 32, 3, [1, 6, 0, 115]) else none))))) else (bif Nat.blt pc 98 then (bif Nat.blt pc 91 then (bif Nat.blt pc 90 then (bif Nat.beq pc 89 then some (.aload_n 0, 1, []) else none) else (bif Nat.beq pc 90 then some (.aload_n 1, 1, []) else none)) else (bif Nat.blt pc 94 then (bif Nat.beq pc 91 then some (.getfield 53, 3, [1, 7, 0, 117]) else none) else (bif Nat.blt pc 97 then (bif Nat.beq pc 94 then some (.putfield 53, 3, [1, 7, 0, 117]) else none) else (bif Nat.beq pc 97 then some (.aload_n 0, 1, []) else none)))) else (bif Nat.blt pc 102 then (bif Nat.blt pc 99 then (bif Nat.beq pc 98 then some (.aload_n 1, 1, []) else none) else (bif Nat.beq pc 99 then some (.getfield 56, 3, [1, 8, 0, 119]) else none)) else (bif Nat.blt pc 105 then (bif Nat.beq pc 102 then some (.putfield 56, 3, [1, 8, 0, 119]) else none) else (bif Nat.blt pc 106 then (bif Nat.beq pc 105 then some (.aload_n 0, 1, []) else none) else (bif Nat.beq pc 106 then some (.aload_n 1, 1, []) else none)))))) else (bif Nat.blt pc 126 then (bif Nat.blt pc 115 then (bif Nat.blt pc 113 then (bif Nat.blt pc 110 then (bif Nat.beq pc 107 then some (.getfield 59, 3, [1, 9, 0, 121]) else none) else (bif Nat.beq pc 110 then some (.putfield 59, 3, [1, 9, 0, 121]) else none)) else (bif Nat.blt pc 114 then (bif Nat.beq pc 113 then some (.aload_n 0, 1, []) else none) else (bif Nat.beq pc 114 then some (.aload_n 1, 1, []) else none))) else (bif Nat.blt pc 121 then (bif Nat.blt pc 118 then (bif Nat.beq pc 115 then some (.getfield 62, 3, [1, 10, 0, 123]) else none) else (bif Nat.beq pc 118 then some (.putfield 62, 3, [1, 10, 0, 123]) else none)) else (bif Nat.blt pc 122 then (bif Nat.beq pc 121 then some (.aload_n 0, 1, []) else none) else (bif Nat.blt pc 123 then (bif Nat.beq pc 122 then some (.aload_n 1, 1, []) else none) else (bif Nat.beq pc 123 then some (.getfield 65, 3, [1, 11, 0, 124]) else none))))) else (bif Nat.blt pc 137 then (bif Nat.blt pc 130 then (bif Nat.blt pc 129 then (bif Nat.beq pc 126 then some (.putfield 65, 3, [1, 11, 0, 124]) else none) else (bif Nat.beq pc 129 then some (.aload_n 0, 1, []) else none)) else (bif Nat.blt pc 131 then (bif Nat.beq pc 130 then some (.aload_n 1, 1, []) else none) else (bif Nat.blt pc 134 then (bif Nat.beq pc 131 then some (.getfield 68, 3, [1, 12, 0, 126]) else none) else (bif Nat.beq pc 134 then some (.putfield 68, 3, [1, 12, 0, 126]) else none)))) else (bif Nat.blt pc 139 then (bif Nat.blt pc 138 then (bif Nat.beq pc 137 then some (.aload_n 0, 1, []) else none) else (bif Nat.beq pc 138 then some (.aload_n 1, 1, []) else none)) else (bif Nat.blt pc 142 then (bif Nat.beq pc 139 then some (.getfield 71, 3, [1, 13, 0, 128]) else none) else (bif Nat.blt pc 145 then (bif Nat.beq pc 142 then some (.putfield 71, 3, [1, 13, 0, 128]) else none) else (bif Nat.beq pc 145 then some (.return_, 1, []) else none)))))))
/-- X2_beginAnew -/
def I_X2_beginAnew (pc : Nat) : Option IE := bif Nat.blt pc 20 then (bif Nat.blt pc 10 then (bif Nat.blt pc 5 then (bif Nat.blt pc 1 then (bif Nat.beq pc 0 then some (.aload_n 0, 1, []) else none) else (bif Nat.blt pc 2 then (bif Nat.beq pc 1 then some (.iconst 0, 1, []) else none) else (bif Nat.beq pc 2 then some (.putfield 53, 3, [1, 7, 0, 117]) else none))) else (bif Nat.blt pc 6 then (bif Nat.beq pc 5 then some (.aload_n 0, 1, []) else none) else (bif Nat.blt pc 7 then (bif Nat.beq pc 6 then some (.iconst 0, 1, []) else none) else (bif Nat.beq pc 7 then some (.putfield 56, 3, [1, 8, 0, 119]) else none)))) else (bif Nat.blt pc 13 then (bif Nat.blt pc 11 then (bif Nat.beq pc 10 then some (.iconst 0, 1, []) else none) else (bif Nat.blt pc 12 then (bif Nat.beq pc 11 then some (.istore_n 1, 1, []) else none) else (bif Nat.beq pc 12 then some (.iload_n 1, 1, []) else none))) else (bif Nat.blt pc 14 then (bif Nat.beq pc 13 then some (.aload_n 0, 1, []) else none) else (bif Nat.blt pc 17 then (bif Nat.beq pc 14 then some (.getfield 32, 3, [1, 6, 0, 115]) else none) else (bif Nat.beq pc 17 then some (.if_icmp .ge 25, 3, [42]) else none))))) else (bif Nat.blt pc 28 then (bif Nat.blt pc 25 then (bif Nat.blt pc 21 then (bif Nat.beq pc 20 then some (.aload_n 0, 1, []) else none) else (bif Nat.blt pc 22 then (bif Nat.beq pc 21 then some (.iload_n 1, 1, []) else none) else (bif Nat.beq pc 22 then some (.invokevirtual 36, 3, [0, 17, 1, 360, 1, 2, 5]) else none))) else (bif Nat.blt pc 26 then (bif Nat.beq pc 25 then some (.astore_n 2, 1, []) else none) else (bif Nat.blt pc 27 then (bif Nat.beq pc 26 then some (.aload_n 2, 1, []) else none) else (bif Nat.beq pc 27 then some (.iconst 0, 1, []) else none)))) else (bif Nat.blt pc 33 then (bif Nat.blt pc 31 then (bif Nat.beq pc 28 then some (.putfield 74, 3, [0, 5, 0, 58]) else none) else (bif Nat.blt pc 32 then (bif Nat.beq pc 31 then some (.aload_n 2, 1, []) else none) else (bif Nat.beq pc 32 then some (.iconst 0, 1, []) else none))) else (bif Nat.blt pc 39 then (bif Nat.blt pc 36 then (bif Nat.beq pc 33 then some (.putfield 77, 3, [0, 6, 0, 60]) else none) else (bif Nat.beq pc 36 then some (.iinc 1 1, 3, []) else none)) else (bif Nat.blt pc 42 then (bif Nat.beq pc 39 then some (.goto (-27), 3, [12]) else none) else (bif Nat.beq pc 42 then some (.return_, 1, []) else none)))))
/-- X2_at -/
def I_X2_at (pc : Nat) : Option IE := bif Nat.blt pc 13 then (bif Nat.blt pc 5 then (bif Nat.blt pc 1 then (bif Nat.beq pc 0 then some (.iload_n 1, 1, []) else none) else (bif Nat.blt pc 4 then (bif Nat.beq pc 1 then some (.ifCond .lt 21, 3, [22]) else none) else (bif Nat.beq pc 4 then some (.iload_n 1, 1, []) else none))) else (bif Nat.blt pc 9 then (bif Nat.blt pc 6 then (bif Nat.beq pc 5 then some (.aload_n 0, 1, []) else none) else (bif Nat.beq pc 6 then some (.getfield 11, 3, [1, 0, 1, 105]) else none)) else (bif Nat.blt pc 10 then (bif Nat.beq pc 9 then some (.arraylength, 1, []) else none) else (bif Nat.beq pc 10 then some (.if_icmp .ge 12, 3, [22]) else none)))) else (bif Nat.blt pc 19 then (bif Nat.blt pc 17 then (bif Nat.blt pc 14 then (bif Nat.beq pc 13 then some (.aload_n 0, 1, []) else none) else (bif Nat.beq pc 14 then some (.getfield 11, 3, [1, 0, 1, 105]) else none)) else (bif Nat.blt pc 18 then (bif Nat.beq pc 17 then some (.iload_n 1, 1, []) else none) else (bif Nat.beq pc 18 then some (.aaload, 1, []) else none))) else (bif Nat.blt pc 23 then (bif Nat.blt pc 22 then (bif Nat.beq pc 19 then some (.goto 7, 3, [26]) else none) else (bif Nat.beq pc 22 then some (.aload_n 0, 1, []) else none)) else (bif Nat.blt pc 26 then (bif Nat.beq pc 23 then some (.getfield 18, 3, [1, 1, 1, 106]) else none) else (bif Nat.beq pc 26 then some (.areturn, 1, []) else none))))
/-- X2_registerBits -/
def I_X2_registerBits (pc : Nat) : Option IE := bif Nat.blt pc 13 then (bif Nat.blt pc 5 then (bif Nat.blt pc 1 then (bif Nat.beq pc 0 then some (.iload_n 1, 1, []) else none) else (bif Nat.blt pc 4 then (bif Nat.beq pc 1 then some (.ifCond .lt 21, 3, [22]) else none) else (bif Nat.beq pc 4 then some (.iload_n 1, 1, []) else none))) else (bif Nat.blt pc 9 then (bif Nat.blt pc 6 then (bif Nat.beq pc 5 then some (.aload_n 0, 1, []) else none) else (bif Nat.beq pc 6 then some (.getfield 22, 3, [1, 2, 1, 107]) else none)) else (bif Nat.blt pc 10 then (bif Nat.beq pc 9 then some (.arraylength, 1, []) else none) else (bif Nat.beq pc 10 then some (.if_icmp .ge 12, 3, [22]) else none)))) else (bif Nat.blt pc 18 then (bif Nat.blt pc 14 then (bif Nat.beq pc 13 then some (.aload_n 0, 1, []) else none) else (bif Nat.blt pc 17 then (bif Nat.beq pc 14 then some (.getfield 22, 3, [1, 2, 1, 107]) else none) else (bif Nat.beq pc 17 then some (.iload_n 1, 1, []) else none))) else (bif Nat.blt pc 22 then (bif Nat.blt pc 19 then (bif Nat.beq pc 18 then some (.iaload, 1, []) else none) else (bif Nat.beq pc 19 then some (.goto 4, 3, [23]) else none)) else (bif Nat.blt pc 23 then (bif Nat.beq pc 22 then some (.iconst 0, 1, []) else none) else (bif Nat.beq pc 23 then some (.ireturn, 1, [0]) else none))))
/-- X2_cellBits -/
def I_X2_cellBits (pc : Nat) : Option IE := bif Nat.blt pc 13 then (bif Nat.blt pc 5 then (bif Nat.blt pc 1 then (bif Nat.beq pc 0 then some (.iload_n 1, 1, []) else none) else (bif Nat.blt pc 4 then (bif Nat.beq pc 1 then some (.ifCond .lt 21, 3, [22]) else none) else (bif Nat.beq pc 4 then some (.iload_n 1, 1, []) else none))) else (bif Nat.blt pc 9 then (bif Nat.blt pc 6 then (bif Nat.beq pc 5 then some (.aload_n 0, 1, []) else none) else (bif Nat.beq pc 6 then some (.getfield 26, 3, [1, 3, 1, 109]) else none)) else (bif Nat.blt pc 10 then (bif Nat.beq pc 9 then some (.arraylength, 1, []) else none) else (bif Nat.beq pc 10 then some (.if_icmp .ge 12, 3, [22]) else none)))) else (bif Nat.blt pc 18 then (bif Nat.blt pc 14 then (bif Nat.beq pc 13 then some (.aload_n 0, 1, []) else none) else (bif Nat.blt pc 17 then (bif Nat.beq pc 14 then some (.getfield 26, 3, [1, 3, 1, 109]) else none) else (bif Nat.beq pc 17 then some (.iload_n 1, 1, []) else none))) else (bif Nat.blt pc 22 then (bif Nat.blt pc 19 then (bif Nat.beq pc 18 then some (.iaload, 1, []) else none) else (bif Nat.beq pc 19 then some (.goto 4, 3, [23]) else none)) else (bif Nat.blt pc 23 then (bif Nat.beq pc 22 then some (.iconst 0, 1, []) else none) else (bif Nat.beq pc 23 then some (.ireturn, 1, [0]) else none))))
/-- X2_put -/
def I_X2_put (pc : Nat) : Option IE := bif Nat.blt pc 39 then (bif Nat.blt pc 19 then (bif Nat.blt pc 8 then (bif Nat.blt pc 4 then (bif Nat.blt pc 1 then (bif Nat.beq pc 0 then some (.aload_n 1, 1, []) else none) else (bif Nat.beq pc 1 then some (.getfield 78, 3, [0, 0, 0, 48]) else none)) else (bif Nat.blt pc 5 then (bif Nat.beq pc 4 then some (.iconst 4, 1, []) else none) else (bif Nat.beq pc 5 then some (.if_icmp .ne 38, 3, [43]) else none))) else (bif Nat.blt pc 12 then (bif Nat.blt pc 9 then (bif Nat.beq pc 8 then some (.aload_n 1, 1, []) else none) else (bif Nat.beq pc 9 then some (.getfield 81, 3, [0, 11, 0, 71]) else none)) else (bif Nat.blt pc 15 then (bif Nat.beq pc 12 then some (.ifCond .lt 63, 3, [75]) else none) else (bif Nat.blt pc 16 then (bif Nat.beq pc 15 then some (.aload_n 1, 1, []) else none) else (bif Nat.beq pc 16 then some (.getfield 81, 3, [0, 11, 0, 71]) else none))))) else (bif Nat.blt pc 28 then (bif Nat.blt pc 23 then (bif Nat.blt pc 20 then (bif Nat.beq pc 19 then some (.aload_n 0, 1, []) else none) else (bif Nat.beq pc 20 then some (.getfield 26, 3, [1, 3, 1, 109]) else none)) else (bif Nat.blt pc 24 then (bif Nat.beq pc 23 then some (.arraylength, 1, []) else none) else (bif Nat.blt pc 27 then (bif Nat.beq pc 24 then some (.if_icmp .ge 51, 3, [75]) else none) else (bif Nat.beq pc 27 then some (.aload_n 0, 1, []) else none)))) else (bif Nat.blt pc 32 then (bif Nat.blt pc 31 then (bif Nat.beq pc 28 then some (.getfield 26, 3, [1, 3, 1, 109]) else none) else (bif Nat.beq pc 31 then some (.aload_n 1, 1, []) else none)) else (bif Nat.blt pc 35 then (bif Nat.beq pc 32 then some (.getfield 81, 3, [0, 11, 0, 71]) else none) else (bif Nat.blt pc 36 then (bif Nat.beq pc 35 then some (.aload_n 1, 1, []) else none) else (bif Nat.beq pc 36 then some (.getfield 84, 3, [0, 13, 0, 75]) else none)))))) else (bif Nat.blt pc 58 then (bif Nat.blt pc 47 then (bif Nat.blt pc 43 then (bif Nat.blt pc 40 then (bif Nat.beq pc 39 then some (.iastore, 1, []) else none) else (bif Nat.beq pc 40 then some (.goto 35, 3, [75]) else none)) else (bif Nat.blt pc 44 then (bif Nat.beq pc 43 then some (.aload_n 1, 1, []) else none) else (bif Nat.beq pc 44 then some (.getfield 87, 3, [0, 1, 0, 50]) else none))) else (bif Nat.blt pc 51 then (bif Nat.blt pc 50 then (bif Nat.beq pc 47 then some (.ifCond .lt 28, 3, [75]) else none) else (bif Nat.beq pc 50 then some (.aload_n 1, 1, []) else none)) else (bif Nat.blt pc 54 then (bif Nat.beq pc 51 then some (.getfield 87, 3, [0, 1, 0, 50]) else none) else (bif Nat.blt pc 55 then (bif Nat.beq pc 54 then some (.aload_n 0, 1, []) else none) else (bif Nat.beq pc 55 then some (.getfield 22, 3, [1, 2, 1, 107]) else none))))) else (bif Nat.blt pc 67 then (bif Nat.blt pc 62 then (bif Nat.blt pc 59 then (bif Nat.beq pc 58 then some (.arraylength, 1, []) else none) else (bif Nat.beq pc 59 then some (.if_icmp .ge 16, 3, [75]) else none)) else (bif Nat.blt pc 63 then (bif Nat.beq pc 62 then some (.aload_n 0, 1, []) else none) else (bif Nat.blt pc 66 then (bif Nat.beq pc 63 then some (.getfield 22, 3, [1, 2, 1, 107]) else none) else (bif Nat.beq pc 66 then some (.aload_n 1, 1, []) else none)))) else (bif Nat.blt pc 71 then (bif Nat.blt pc 70 then (bif Nat.beq pc 67 then some (.getfield 87, 3, [0, 1, 0, 50]) else none) else (bif Nat.beq pc 70 then some (.aload_n 1, 1, []) else none)) else (bif Nat.blt pc 74 then (bif Nat.beq pc 71 then some (.getfield 84, 3, [0, 13, 0, 75]) else none) else (bif Nat.blt pc 75 then (bif Nat.beq pc 74 then some (.iastore, 1, []) else none) else (bif Nat.beq pc 75 then some (.return_, 1, []) else none))))))
/-- X2_entries -/
def I_X2_entries (pc : Nat) : Option IE := bif Nat.blt pc 5 then (bif Nat.blt pc 1 then (bif Nat.beq pc 0 then some (.aload_n 0, 1, []) else none) else (bif Nat.blt pc 4 then (bif Nat.beq pc 1 then some (.getfield 53, 3, [1, 7, 0, 117]) else none) else (bif Nat.beq pc 4 then some (.aload_n 0, 1, []) else none))) else (bif Nat.blt pc 8 then (bif Nat.beq pc 5 then some (.getfield 56, 3, [1, 8, 0, 119]) else none) else (bif Nat.blt pc 9 then (bif Nat.beq pc 8 then some (.isub, 1, []) else none) else (bif Nat.beq pc 9 then some (.ireturn, 1, [0]) else none)))
/-- X2_isFinished -/
def I_X2_isFinished (pc : Nat) : Option IE := bif Nat.blt pc 8 then (bif Nat.blt pc 4 then (bif Nat.blt pc 1 then (bif Nat.beq pc 0 then some (.aload_n 0, 1, []) else none) else (bif Nat.beq pc 1 then some (.getfield 56, 3, [1, 8, 0, 119]) else none)) else (bif Nat.blt pc 5 then (bif Nat.beq pc 4 then some (.aload_n 0, 1, []) else none) else (bif Nat.beq pc 5 then some (.getfield 32, 3, [1, 6, 0, 115]) else none))) else (bif Nat.blt pc 12 then (bif Nat.blt pc 11 then (bif Nat.beq pc 8 then some (.if_icmp .lt 7, 3, [15]) else none) else (bif Nat.beq pc 11 then some (.iconst 1, 1, []) else none)) else (bif Nat.blt pc 15 then (bif Nat.beq pc 12 then some (.goto 4, 3, [16]) else none) else (bif Nat.blt pc 16 then (bif Nat.beq pc 15 then some (.iconst 0, 1, []) else none) else (bif Nat.beq pc 16 then some (.ireturn, 1, [1]) else none))))
/-- X2_number -/
def I_X2_number (pc : Nat) : Option IE := bif Nat.blt pc 85 then (bif Nat.blt pc 67 then (bif Nat.blt pc 60 then (bif Nat.blt pc 56 then (bif Nat.blt pc 1 then (bif Nat.beq pc 0 then some (.iload_n 1, 1, []) else none) else (bif Nat.beq pc 1 then some (.tableswitch 105 0 9 #[55, 60, 65, 70, 75, 80, 85, 90, 95, 100], 55, [106, 0, 56, 1, 61, 2, 66, 3, 71, 4, 76, 5, 81, 6, 86, 7, 91, 8, 96, 9, 101]) else none)) else (bif Nat.blt pc 57 then (bif Nat.beq pc 56 then some (.aload_n 0, 1, []) else none) else (bif Nat.beq pc 57 then some (.getfield 50, 3, [1, 5, 0, 113]) else none))) else (bif Nat.blt pc 62 then (bif Nat.blt pc 61 then (bif Nat.beq pc 60 then some (.ireturn, 1, [0]) else none) else (bif Nat.beq pc 61 then some (.aload_n 0, 1, []) else none)) else (bif Nat.blt pc 65 then (bif Nat.beq pc 62 then some (.getfield 32, 3, [1, 6, 0, 115]) else none) else (bif Nat.blt pc 66 then (bif Nat.beq pc 65 then some (.ireturn, 1, [0]) else none) else (bif Nat.beq pc 66 then some (.aload_n 0, 1, []) else none))))) else (bif Nat.blt pc 76 then (bif Nat.blt pc 71 then (bif Nat.blt pc 70 then (bif Nat.beq pc 67 then some (.invokevirtual 90, 3, [0, 21, 0, 275, 1, 1, 1]) else none) else (bif Nat.beq pc 70 then some (.ireturn, 1, [0]) else none)) else (bif Nat.blt pc 72 then (bif Nat.beq pc 71 then some (.aload_n 0, 1, []) else none) else (bif Nat.blt pc 75 then (bif Nat.beq pc 72 then some (.getfield 53, 3, [1, 7, 0, 117]) else none) else (bif Nat.beq pc 75 then some (.ireturn, 1, [0]) else none)))) else (bif Nat.blt pc 80 then (bif Nat.blt pc 77 then (bif Nat.beq pc 76 then some (.aload_n 0, 1, []) else none) else (bif Nat.beq pc 77 then some (.getfield 56, 3, [1, 8, 0, 119]) else none)) else (bif Nat.blt pc 81 then (bif Nat.beq pc 80 then some (.ireturn, 1, [0]) else none) else (bif Nat.blt pc 82 then (bif Nat.beq pc 81 then some (.aload_n 0, 1, []) else none) else (bif Nat.beq pc 82 then some (.getfield 59, 3, [1, 9, 0, 121]) else none)))))) else (bif Nat.blt pc 101 then (bif Nat.blt pc 92 then (bif Nat.blt pc 87 then (bif Nat.blt pc 86 then (bif Nat.beq pc 85 then some (.ireturn, 1, [0]) else none) else (bif Nat.beq pc 86 then some (.aload_n 0, 1, []) else none)) else (bif Nat.blt pc 90 then (bif Nat.beq pc 87 then some (.getfield 62, 3, [1, 10, 0, 123]) else none) else (bif Nat.blt pc 91 then (bif Nat.beq pc 90 then some (.ireturn, 1, [0]) else none) else (bif Nat.beq pc 91 then some (.aload_n 0, 1, []) else none)))) else (bif Nat.blt pc 96 then (bif Nat.blt pc 95 then (bif Nat.beq pc 92 then some (.getfield 65, 3, [1, 11, 0, 124]) else none) else (bif Nat.beq pc 95 then some (.ireturn, 1, [0]) else none)) else (bif Nat.blt pc 97 then (bif Nat.beq pc 96 then some (.aload_n 0, 1, []) else none) else (bif Nat.blt pc 100 then (bif Nat.beq pc 97 then some (.getfield 68, 3, [1, 12, 0, 126]) else none) else (bif Nat.beq pc 100 then some (.ireturn, 1, [0]) else none))))) else (bif Nat.blt pc 110 then (bif Nat.blt pc 105 then (bif Nat.blt pc 102 then (bif Nat.beq pc 101 then some (.aload_n 0, 1, []) else none) else (bif Nat.beq pc 102 then some (.getfield 71, 3, [1, 13, 0, 128]) else none)) else (bif Nat.blt pc 106 then (bif Nat.beq pc 105 then some (.ireturn, 1, [0]) else none) else (bif Nat.blt pc 107 then (bif Nat.beq pc 106 then some (.aload_n 0, 1, []) else none) else (bif Nat.beq pc 107 then some (.invokevirtual 94, 3, [0, 22, 0, 279, 1, 1, 1]) else none)))) else (bif Nat.blt pc 114 then (bif Nat.blt pc 113 then (bif Nat.beq pc 110 then some (.ifCond .eq 7, 3, [117]) else none) else (bif Nat.beq pc 113 then some (.iconst 1, 1, []) else none)) else (bif Nat.blt pc 117 then (bif Nat.beq pc 114 then some (.goto 4, 3, [118]) else none) else (bif Nat.blt pc 118 then (bif Nat.beq pc 117 then some (.iconst 0, 1, []) else none) else (bif Nat.beq pc 118 then some (.ireturn, 1, [0]) else none))))))
/-- X2_property -/
def I_X2_property (pc : Nat) : Option IE := bif Nat.blt pc 116 then (bif Nat.blt pc 76 then (bif Nat.blt pc 18 then (bif Nat.blt pc 7 then (bif Nat.blt pc 2 then (bif Nat.blt pc 1 then (bif Nat.beq pc 0 then some (.aload_n 0, 1, []) else none) else (bif Nat.beq pc 1 then some (.iload_n 1, 1, []) else none)) else (bif Nat.blt pc 5 then (bif Nat.beq pc 2 then some (.invokevirtual 36, 3, [0, 17, 1, 360, 1, 2, 5]) else none) else (bif Nat.blt pc 6 then (bif Nat.beq pc 5 then some (.astore_n 3, 1, []) else none) else (bif Nat.beq pc 6 then some (.aload_n 3, 1, []) else none)))) else (bif Nat.blt pc 11 then (bif Nat.blt pc 10 then (bif Nat.beq pc 7 then some (.getfield 98, 3, [0, 7, 0, 63]) else none) else (bif Nat.beq pc 10 then some (.iconst 2, 1, []) else none)) else (bif Nat.blt pc 14 then (bif Nat.beq pc 11 then some (.if_icmp .ne 7, 3, [18]) else none) else (bif Nat.blt pc 15 then (bif Nat.beq pc 14 then some (.iconst 1, 1, []) else none) else (bif Nat.beq pc 15 then some (.goto 4, 3, [19]) else none))))) else (bif Nat.blt pc 69 then (bif Nat.blt pc 21 then (bif Nat.blt pc 19 then (bif Nat.beq pc 18 then some (.iconst 0, 1, []) else none) else (bif Nat.beq pc 19 then some (.istore 4, 2, []) else none)) else (bif Nat.blt pc 22 then (bif Nat.beq pc 21 then some (.iload_n 2, 1, []) else none) else (bif Nat.blt pc 68 then (bif Nat.beq pc 22 then some (.tableswitch 166 0 7 #[46, 48, 53, 70, 90, 110, 135, 152], 46, [188, 0, 68, 1, 70, 2, 75, 3, 92, 4, 112, 5, 132, 6, 157, 7, 174]) else none) else (bif Nat.beq pc 68 then some (.iload_n 1, 1, []) else none)))) else (bif Nat.blt pc 71 then (bif Nat.blt pc 70 then (bif Nat.beq pc 69 then some (.ireturn, 1, [0]) else none) else (bif Nat.beq pc 70 then some (.aload_n 3, 1, []) else none)) else (bif Nat.blt pc 74 then (bif Nat.beq pc 71 then some (.getfield 98, 3, [0, 7, 0, 63]) else none) else (bif Nat.blt pc 75 then (bif Nat.beq pc 74 then some (.ireturn, 1, [0]) else none) else (bif Nat.beq pc 75 then some (.aload_n 3, 1, []) else none)))))) else (bif Nat.blt pc 96 then (bif Nat.blt pc 87 then (bif Nat.blt pc 80 then (bif Nat.blt pc 79 then (bif Nat.beq pc 76 then some (.getfield 98, 3, [0, 7, 0, 63]) else none) else (bif Nat.beq pc 79 then some (.iconst 1, 1, []) else none)) else (bif Nat.blt pc 83 then (bif Nat.beq pc 80 then some (.if_icmp .ne 10, 3, [90]) else none) else (bif Nat.blt pc 84 then (bif Nat.beq pc 83 then some (.aload_n 3, 1, []) else none) else (bif Nat.beq pc 84 then some (.getfield 101, 3, [0, 8, 0, 65]) else none)))) else (bif Nat.blt pc 91 then (bif Nat.blt pc 90 then (bif Nat.beq pc 87 then some (.goto 4, 3, [91]) else none) else (bif Nat.beq pc 90 then some (.iconst 0, 1, []) else none)) else (bif Nat.blt pc 92 then (bif Nat.beq pc 91 then some (.ireturn, 1, [0]) else none) else (bif Nat.blt pc 93 then (bif Nat.beq pc 92 then some (.aload_n 3, 1, []) else none) else (bif Nat.beq pc 93 then some (.getfield 104, 3, [0, 9, 0, 67]) else none))))) else (bif Nat.blt pc 107 then (bif Nat.blt pc 100 then (bif Nat.blt pc 97 then (bif Nat.beq pc 96 then some (.aload_n 0, 1, []) else none) else (bif Nat.beq pc 97 then some (.getfield 56, 3, [1, 8, 0, 119]) else none)) else (bif Nat.blt pc 103 then (bif Nat.beq pc 100 then some (.if_icmp .ge 7, 3, [107]) else none) else (bif Nat.blt pc 104 then (bif Nat.beq pc 103 then some (.iconst (-1), 1, []) else none) else (bif Nat.beq pc 104 then some (.goto 7, 3, [111]) else none)))) else (bif Nat.blt pc 111 then (bif Nat.blt pc 108 then (bif Nat.beq pc 107 then some (.aload_n 3, 1, []) else none) else (bif Nat.beq pc 108 then some (.getfield 104, 3, [0, 9, 0, 67]) else none)) else (bif Nat.blt pc 112 then (bif Nat.beq pc 111 then some (.ireturn, 1, [0]) else none) else (bif Nat.blt pc 113 then (bif Nat.beq pc 112 then some (.aload_n 3, 1, []) else none) else (bif Nat.beq pc 113 then some (.getfield 107, 3, [0, 10, 0, 69]) else none))))))) else (bif Nat.blt pc 156 then (bif Nat.blt pc 134 then (bif Nat.blt pc 127 then (bif Nat.blt pc 120 then (bif Nat.blt pc 117 then (bif Nat.beq pc 116 then some (.aload_n 0, 1, []) else none) else (bif Nat.beq pc 117 then some (.getfield 56, 3, [1, 8, 0, 119]) else none)) else (bif Nat.blt pc 123 then (bif Nat.beq pc 120 then some (.if_icmp .ge 7, 3, [127]) else none) else (bif Nat.blt pc 124 then (bif Nat.beq pc 123 then some (.iconst (-1), 1, []) else none) else (bif Nat.beq pc 124 then some (.goto 7, 3, [131]) else none)))) else (bif Nat.blt pc 131 then (bif Nat.blt pc 128 then (bif Nat.beq pc 127 then some (.aload_n 3, 1, []) else none) else (bif Nat.beq pc 128 then some (.getfield 107, 3, [0, 10, 0, 69]) else none)) else (bif Nat.blt pc 132 then (bif Nat.beq pc 131 then some (.ireturn, 1, [0]) else none) else (bif Nat.blt pc 133 then (bif Nat.beq pc 132 then some (.aload_n 3, 1, []) else none) else (bif Nat.beq pc 133 then some (.iconst 3, 1, []) else none))))) else (bif Nat.blt pc 145 then (bif Nat.blt pc 140 then (bif Nat.blt pc 137 then (bif Nat.beq pc 134 then some (.invokevirtual 110, 3, [0, 9, 1, 361, 0, 2, 1]) else none) else (bif Nat.beq pc 137 then some (.ifCond .ne 11, 3, [148]) else none)) else (bif Nat.blt pc 141 then (bif Nat.beq pc 140 then some (.aload_n 3, 1, []) else none) else (bif Nat.blt pc 142 then (bif Nat.beq pc 141 then some (.iconst 4, 1, []) else none) else (bif Nat.beq pc 142 then some (.invokevirtual 110, 3, [0, 9, 1, 361, 0, 2, 1]) else none)))) else (bif Nat.blt pc 149 then (bif Nat.blt pc 148 then (bif Nat.beq pc 145 then some (.ifCond .eq 10, 3, [155]) else none) else (bif Nat.beq pc 148 then some (.aload_n 3, 1, []) else none)) else (bif Nat.blt pc 152 then (bif Nat.beq pc 149 then some (.getfield 81, 3, [0, 11, 0, 71]) else none) else (bif Nat.blt pc 155 then (bif Nat.beq pc 152 then some (.goto 4, 3, [156]) else none) else (bif Nat.beq pc 155 then some (.iconst (-1), 1, []) else none)))))) else (bif Nat.blt pc 174 then (bif Nat.blt pc 165 then (bif Nat.blt pc 158 then (bif Nat.blt pc 157 then (bif Nat.beq pc 156 then some (.ireturn, 1, [0]) else none) else (bif Nat.beq pc 157 then some (.aload_n 3, 1, []) else none)) else (bif Nat.blt pc 159 then (bif Nat.beq pc 158 then some (.iconst 3, 1, []) else none) else (bif Nat.blt pc 162 then (bif Nat.beq pc 159 then some (.invokevirtual 110, 3, [0, 9, 1, 361, 0, 2, 1]) else none) else (bif Nat.beq pc 162 then some (.ifCond .eq 10, 3, [172]) else none)))) else (bif Nat.blt pc 169 then (bif Nat.blt pc 166 then (bif Nat.beq pc 165 then some (.aload_n 3, 1, []) else none) else (bif Nat.beq pc 166 then some (.getfield 114, 3, [0, 12, 0, 73]) else none)) else (bif Nat.blt pc 172 then (bif Nat.beq pc 169 then some (.goto 4, 3, [173]) else none) else (bif Nat.blt pc 173 then (bif Nat.beq pc 172 then some (.iconst (-1), 1, []) else none) else (bif Nat.beq pc 173 then some (.ireturn, 1, [0]) else none))))) else (bif Nat.blt pc 186 then (bif Nat.blt pc 179 then (bif Nat.blt pc 176 then (bif Nat.beq pc 174 then some (.iload 4, 2, []) else none) else (bif Nat.beq pc 176 then some (.ifCond .eq 10, 3, [186]) else none)) else (bif Nat.blt pc 180 then (bif Nat.beq pc 179 then some (.aload_n 3, 1, []) else none) else (bif Nat.blt pc 183 then (bif Nat.beq pc 180 then some (.getfield 84, 3, [0, 13, 0, 75]) else none) else (bif Nat.beq pc 183 then some (.goto 4, 3, [187]) else none)))) else (bif Nat.blt pc 189 then (bif Nat.blt pc 187 then (bif Nat.beq pc 186 then some (.iconst 0, 1, []) else none) else (bif Nat.blt pc 188 then (bif Nat.beq pc 187 then some (.ireturn, 1, [0]) else none) else (bif Nat.beq pc 188 then some (.aload_n 0, 1, []) else none))) else (bif Nat.blt pc 190 then (bif Nat.beq pc 189 then some (.iload_n 1, 1, []) else none) else (bif Nat.blt pc 193 then (bif Nat.beq pc 190 then some (.invokevirtual 117, 3, [0, 25, 1, 365, 1, 3, 1]) else none) else (bif Nat.beq pc 193 then some (.ireturn, 1, [0]) else none)))))))
/-- X2_hindrance -/
def I_X2_hindrance (pc : Nat) : Option IE := bif Nat.blt pc 33 then (bif Nat.blt pc 15 then (bif Nat.blt pc 6 then (bif Nat.blt pc 2 then (bif Nat.blt pc 1 then (bif Nat.beq pc 0 then some (.aload_n 0, 1, []) else none) else (bif Nat.beq pc 1 then some (.iload_n 1, 1, []) else none)) else (bif Nat.blt pc 5 then (bif Nat.beq pc 2 then some (.invokevirtual 36, 3, [0, 17, 1, 360, 1, 2, 5]) else none) else (bif Nat.beq pc 5 then some (.astore_n 2, 1, []) else none))) else (bif Nat.blt pc 10 then (bif Nat.blt pc 7 then (bif Nat.beq pc 6 then some (.aload_n 2, 1, []) else none) else (bif Nat.beq pc 7 then some (.getfield 98, 3, [0, 7, 0, 63]) else none)) else (bif Nat.blt pc 13 then (bif Nat.beq pc 10 then some (.ifCond .eq 5, 3, [15]) else none) else (bif Nat.blt pc 14 then (bif Nat.beq pc 13 then some (.iconst 1, 1, []) else none) else (bif Nat.beq pc 14 then some (.ireturn, 1, [0]) else none))))) else (bif Nat.blt pc 26 then (bif Nat.blt pc 17 then (bif Nat.blt pc 16 then (bif Nat.beq pc 15 then some (.aload_n 0, 1, []) else none) else (bif Nat.beq pc 16 then some (.aload_n 2, 1, []) else none)) else (bif Nat.blt pc 20 then (bif Nat.beq pc 17 then some (.getfield 104, 3, [0, 9, 0, 67]) else none) else (bif Nat.blt pc 23 then (bif Nat.beq pc 20 then some (.invokevirtual 121, 3, [0, 26, 1, 369, 1, 2, 1]) else none) else (bif Nat.beq pc 23 then some (.ifCond .ne 5, 3, [28]) else none)))) else (bif Nat.blt pc 28 then (bif Nat.blt pc 27 then (bif Nat.beq pc 26 then some (.iconst 2, 1, []) else none) else (bif Nat.beq pc 27 then some (.ireturn, 1, [0]) else none)) else (bif Nat.blt pc 29 then (bif Nat.beq pc 28 then some (.aload_n 0, 1, []) else none) else (bif Nat.blt pc 30 then (bif Nat.beq pc 29 then some (.aload_n 2, 1, []) else none) else (bif Nat.beq pc 30 then some (.getfield 107, 3, [0, 10, 0, 69]) else none)))))) else (bif Nat.blt pc 50 then (bif Nat.blt pc 41 then (bif Nat.blt pc 39 then (bif Nat.blt pc 36 then (bif Nat.beq pc 33 then some (.invokevirtual 121, 3, [0, 26, 1, 369, 1, 2, 1]) else none) else (bif Nat.beq pc 36 then some (.ifCond .ne 5, 3, [41]) else none)) else (bif Nat.blt pc 40 then (bif Nat.beq pc 39 then some (.iconst 3, 1, []) else none) else (bif Nat.beq pc 40 then some (.ireturn, 1, [0]) else none))) else (bif Nat.blt pc 45 then (bif Nat.blt pc 42 then (bif Nat.beq pc 41 then some (.aload_n 2, 1, []) else none) else (bif Nat.beq pc 42 then some (.getfield 78, 3, [0, 0, 0, 48]) else none)) else (bif Nat.blt pc 46 then (bif Nat.beq pc 45 then some (.iconst 3, 1, []) else none) else (bif Nat.blt pc 49 then (bif Nat.beq pc 46 then some (.if_icmp .ne 22, 3, [68]) else none) else (bif Nat.beq pc 49 then some (.aload_n 2, 1, []) else none))))) else (bif Nat.blt pc 61 then (bif Nat.blt pc 56 then (bif Nat.blt pc 53 then (bif Nat.beq pc 50 then some (.getfield 74, 3, [0, 5, 0, 58]) else none) else (bif Nat.beq pc 53 then some (.ifCond .le 15, 3, [68]) else none)) else (bif Nat.blt pc 57 then (bif Nat.beq pc 56 then some (.aload_n 0, 1, []) else none) else (bif Nat.blt pc 58 then (bif Nat.beq pc 57 then some (.iload_n 1, 1, []) else none) else (bif Nat.beq pc 58 then some (.invokevirtual 124, 3, [0, 27, 1, 373, 1, 4, 1]) else none)))) else (bif Nat.blt pc 65 then (bif Nat.blt pc 64 then (bif Nat.beq pc 61 then some (.ifCond .eq 7, 3, [68]) else none) else (bif Nat.beq pc 64 then some (.iconst 4, 1, []) else none)) else (bif Nat.blt pc 68 then (bif Nat.beq pc 65 then some (.goto 4, 3, [69]) else none) else (bif Nat.blt pc 69 then (bif Nat.beq pc 68 then some (.iconst 0, 1, []) else none) else (bif Nat.beq pc 69 then some (.ireturn, 1, [0]) else none))))))
/-- X2_isReady -/
def I_X2_isReady (pc : Nat) : Option IE := bif Nat.blt pc 13 then (bif Nat.blt pc 5 then (bif Nat.blt pc 1 then (bif Nat.beq pc 0 then some (.iload_n 1, 1, []) else none) else (bif Nat.blt pc 2 then (bif Nat.beq pc 1 then some (.aload_n 0, 1, []) else none) else (bif Nat.beq pc 2 then some (.getfield 56, 3, [1, 8, 0, 119]) else none))) else (bif Nat.blt pc 9 then (bif Nat.blt pc 8 then (bif Nat.beq pc 5 then some (.if_icmp .lt 15, 3, [20]) else none) else (bif Nat.beq pc 8 then some (.aload_n 0, 1, []) else none)) else (bif Nat.blt pc 10 then (bif Nat.beq pc 9 then some (.iload_n 1, 1, []) else none) else (bif Nat.beq pc 10 then some (.invokevirtual 36, 3, [0, 17, 1, 360, 1, 2, 5]) else none)))) else (bif Nat.blt pc 20 then (bif Nat.blt pc 16 then (bif Nat.beq pc 13 then some (.getfield 98, 3, [0, 7, 0, 63]) else none) else (bif Nat.blt pc 17 then (bif Nat.beq pc 16 then some (.iconst 2, 1, []) else none) else (bif Nat.beq pc 17 then some (.if_icmp .ne 7, 3, [24]) else none))) else (bif Nat.blt pc 24 then (bif Nat.blt pc 21 then (bif Nat.beq pc 20 then some (.iconst 1, 1, []) else none) else (bif Nat.beq pc 21 then some (.goto 4, 3, [25]) else none)) else (bif Nat.blt pc 25 then (bif Nat.beq pc 24 then some (.iconst 0, 1, []) else none) else (bif Nat.beq pc 25 then some (.ireturn, 1, [1]) else none))))
/-- X2_hasOpenStoreAhead -/
def I_X2_hasOpenStoreAhead (pc : Nat) : Option IE := bif Nat.blt pc 20 then (bif Nat.blt pc 10 then (bif Nat.blt pc 5 then (bif Nat.blt pc 1 then (bif Nat.beq pc 0 then some (.aload_n 0, 1, []) else none) else (bif Nat.blt pc 4 then (bif Nat.beq pc 1 then some (.getfield 56, 3, [1, 8, 0, 119]) else none) else (bif Nat.beq pc 4 then some (.istore_n 2, 1, []) else none))) else (bif Nat.blt pc 6 then (bif Nat.beq pc 5 then some (.iload_n 2, 1, []) else none) else (bif Nat.blt pc 7 then (bif Nat.beq pc 6 then some (.iload_n 1, 1, []) else none) else (bif Nat.beq pc 7 then some (.if_icmp .ge 33, 3, [40]) else none)))) else (bif Nat.blt pc 15 then (bif Nat.blt pc 11 then (bif Nat.beq pc 10 then some (.aload_n 0, 1, []) else none) else (bif Nat.blt pc 12 then (bif Nat.beq pc 11 then some (.iload_n 2, 1, []) else none) else (bif Nat.beq pc 12 then some (.invokevirtual 36, 3, [0, 17, 1, 360, 1, 2, 5]) else none))) else (bif Nat.blt pc 16 then (bif Nat.beq pc 15 then some (.astore_n 3, 1, []) else none) else (bif Nat.blt pc 17 then (bif Nat.beq pc 16 then some (.aload_n 3, 1, []) else none) else (bif Nat.beq pc 17 then some (.getfield 78, 3, [0, 0, 0, 48]) else none))))) else (bif Nat.blt pc 32 then (bif Nat.blt pc 25 then (bif Nat.blt pc 21 then (bif Nat.beq pc 20 then some (.iconst 4, 1, []) else none) else (bif Nat.blt pc 24 then (bif Nat.beq pc 21 then some (.if_icmp .ne 13, 3, [34]) else none) else (bif Nat.beq pc 24 then some (.aload_n 3, 1, []) else none))) else (bif Nat.blt pc 28 then (bif Nat.beq pc 25 then some (.getfield 98, 3, [0, 7, 0, 63]) else none) else (bif Nat.blt pc 29 then (bif Nat.beq pc 28 then some (.iconst 2, 1, []) else none) else (bif Nat.beq pc 29 then some (.if_icmp .eq 5, 3, [34]) else none)))) else (bif Nat.blt pc 37 then (bif Nat.blt pc 33 then (bif Nat.beq pc 32 then some (.iconst 1, 1, []) else none) else (bif Nat.blt pc 34 then (bif Nat.beq pc 33 then some (.ireturn, 1, [1]) else none) else (bif Nat.beq pc 34 then some (.iinc 2 1, 3, []) else none))) else (bif Nat.blt pc 40 then (bif Nat.beq pc 37 then some (.goto (-32), 3, [5]) else none) else (bif Nat.blt pc 41 then (bif Nat.beq pc 40 then some (.iconst 0, 1, []) else none) else (bif Nat.beq pc 41 then some (.ireturn, 1, [1]) else none)))))
/-- X2_latestMaker -/
def I_X2_latestMaker (pc : Nat) : Option IE := bif Nat.blt pc 17 then (bif Nat.blt pc 5 then (bif Nat.blt pc 2 then (bif Nat.blt pc 1 then (bif Nat.beq pc 0 then some (.iload_n 2, 1, []) else none) else (bif Nat.beq pc 1 then some (.iconst 1, 1, []) else none)) else (bif Nat.blt pc 3 then (bif Nat.beq pc 2 then some (.isub, 1, []) else none) else (bif Nat.blt pc 4 then (bif Nat.beq pc 3 then some (.istore_n 3, 1, []) else none) else (bif Nat.beq pc 4 then some (.iload_n 3, 1, []) else none)))) else (bif Nat.blt pc 12 then (bif Nat.blt pc 6 then (bif Nat.beq pc 5 then some (.aload_n 0, 1, []) else none) else (bif Nat.blt pc 9 then (bif Nat.beq pc 6 then some (.getfield 56, 3, [1, 8, 0, 119]) else none) else (bif Nat.beq pc 9 then some (.if_icmp .lt 28, 3, [37]) else none))) else (bif Nat.blt pc 13 then (bif Nat.beq pc 12 then some (.iload_n 1, 1, []) else none) else (bif Nat.blt pc 14 then (bif Nat.beq pc 13 then some (.iconst (-1), 1, []) else none) else (bif Nat.beq pc 14 then some (.if_icmp .eq 23, 3, [37]) else none))))) else (bif Nat.blt pc 29 then (bif Nat.blt pc 22 then (bif Nat.blt pc 18 then (bif Nat.beq pc 17 then some (.aload_n 0, 1, []) else none) else (bif Nat.blt pc 19 then (bif Nat.beq pc 18 then some (.iload_n 3, 1, []) else none) else (bif Nat.beq pc 19 then some (.invokevirtual 36, 3, [0, 17, 1, 360, 1, 2, 5]) else none))) else (bif Nat.blt pc 25 then (bif Nat.beq pc 22 then some (.getfield 87, 3, [0, 1, 0, 50]) else none) else (bif Nat.blt pc 26 then (bif Nat.beq pc 25 then some (.iload_n 1, 1, []) else none) else (bif Nat.beq pc 26 then some (.if_icmp .ne 5, 3, [31]) else none)))) else (bif Nat.blt pc 34 then (bif Nat.blt pc 30 then (bif Nat.beq pc 29 then some (.iload_n 3, 1, []) else none) else (bif Nat.blt pc 31 then (bif Nat.beq pc 30 then some (.ireturn, 1, [0]) else none) else (bif Nat.beq pc 31 then some (.iinc 3 (-1), 3, []) else none))) else (bif Nat.blt pc 37 then (bif Nat.beq pc 34 then some (.goto (-30), 3, [4]) else none) else (bif Nat.blt pc 38 then (bif Nat.beq pc 37 then some (.iconst (-1), 1, []) else none) else (bif Nat.beq pc 38 then some (.ireturn, 1, [0]) else none)))))
/-- X2_latestStore -/
def I_X2_latestStore (pc : Nat) : Option IE := bif Nat.blt pc 21 then (bif Nat.blt pc 6 then (bif Nat.blt pc 3 then (bif Nat.blt pc 1 then (bif Nat.beq pc 0 then some (.iload_n 2, 1, []) else none) else (bif Nat.blt pc 2 then (bif Nat.beq pc 1 then some (.iconst 1, 1, []) else none) else (bif Nat.beq pc 2 then some (.isub, 1, []) else none))) else (bif Nat.blt pc 4 then (bif Nat.beq pc 3 then some (.istore_n 3, 1, []) else none) else (bif Nat.blt pc 5 then (bif Nat.beq pc 4 then some (.iload_n 3, 1, []) else none) else (bif Nat.beq pc 5 then some (.aload_n 0, 1, []) else none)))) else (bif Nat.blt pc 13 then (bif Nat.blt pc 9 then (bif Nat.beq pc 6 then some (.getfield 56, 3, [1, 8, 0, 119]) else none) else (bif Nat.blt pc 12 then (bif Nat.beq pc 9 then some (.if_icmp .lt 36, 3, [45]) else none) else (bif Nat.beq pc 12 then some (.aload_n 0, 1, []) else none))) else (bif Nat.blt pc 17 then (bif Nat.blt pc 14 then (bif Nat.beq pc 13 then some (.iload_n 3, 1, []) else none) else (bif Nat.beq pc 14 then some (.invokevirtual 36, 3, [0, 17, 1, 360, 1, 2, 5]) else none)) else (bif Nat.blt pc 19 then (bif Nat.beq pc 17 then some (.astore 4, 2, []) else none) else (bif Nat.beq pc 19 then some (.aload 4, 2, []) else none))))) else (bif Nat.blt pc 34 then (bif Nat.blt pc 28 then (bif Nat.blt pc 22 then (bif Nat.beq pc 21 then some (.iconst 4, 1, []) else none) else (bif Nat.blt pc 25 then (bif Nat.beq pc 22 then some (.invokevirtual 110, 3, [0, 9, 1, 361, 0, 2, 1]) else none) else (bif Nat.beq pc 25 then some (.ifCond .eq 14, 3, [39]) else none))) else (bif Nat.blt pc 30 then (bif Nat.beq pc 28 then some (.aload 4, 2, []) else none) else (bif Nat.blt pc 33 then (bif Nat.beq pc 30 then some (.getfield 81, 3, [0, 11, 0, 71]) else none) else (bif Nat.beq pc 33 then some (.iload_n 1, 1, []) else none)))) else (bif Nat.blt pc 39 then (bif Nat.blt pc 37 then (bif Nat.beq pc 34 then some (.if_icmp .ne 5, 3, [39]) else none) else (bif Nat.blt pc 38 then (bif Nat.beq pc 37 then some (.iload_n 3, 1, []) else none) else (bif Nat.beq pc 38 then some (.ireturn, 1, [0]) else none))) else (bif Nat.blt pc 45 then (bif Nat.blt pc 42 then (bif Nat.beq pc 39 then some (.iinc 3 (-1), 3, []) else none) else (bif Nat.beq pc 42 then some (.goto (-38), 3, [4]) else none)) else (bif Nat.blt pc 46 then (bif Nat.beq pc 45 then some (.iconst (-1), 1, []) else none) else (bif Nat.beq pc 46 then some (.ireturn, 1, [0]) else none)))))
/-- X2_passCycles -/
def I_X2_passCycles (pc : Nat) : Option IE := bif Nat.blt pc 7 then (bif Nat.blt pc 2 then (bif Nat.blt pc 1 then (bif Nat.beq pc 0 then some (.iconst 0, 1, []) else none) else (bif Nat.beq pc 1 then some (.istore_n 2, 1, []) else none)) else (bif Nat.blt pc 3 then (bif Nat.beq pc 2 then some (.iload_n 2, 1, []) else none) else (bif Nat.blt pc 4 then (bif Nat.beq pc 3 then some (.iload_n 1, 1, []) else none) else (bif Nat.beq pc 4 then some (.if_icmp .ge 13, 3, [17]) else none)))) else (bif Nat.blt pc 11 then (bif Nat.blt pc 8 then (bif Nat.beq pc 7 then some (.aload_n 0, 1, []) else none) else (bif Nat.beq pc 8 then some (.invokevirtual 127, 3, [0, 32, 0, 527, 1, 2, 0]) else none)) else (bif Nat.blt pc 14 then (bif Nat.beq pc 11 then some (.iinc 2 1, 3, []) else none) else (bif Nat.blt pc 17 then (bif Nat.beq pc 14 then some (.goto (-12), 3, [2]) else none) else (bif Nat.beq pc 17 then some (.return_, 1, []) else none))))
/-- X2_cyclesToEnd -/
def I_X2_cyclesToEnd (pc : Nat) : Option IE := bif Nat.blt pc 11 then (bif Nat.blt pc 3 then (bif Nat.blt pc 1 then (bif Nat.beq pc 0 then some (.iconst 0, 1, []) else none) else (bif Nat.blt pc 2 then (bif Nat.beq pc 1 then some (.istore_n 2, 1, []) else none) else (bif Nat.beq pc 2 then some (.iload_n 2, 1, []) else none))) else (bif Nat.blt pc 7 then (bif Nat.blt pc 4 then (bif Nat.beq pc 3 then some (.iload_n 1, 1, []) else none) else (bif Nat.beq pc 4 then some (.if_icmp .ge 20, 3, [24]) else none)) else (bif Nat.blt pc 8 then (bif Nat.beq pc 7 then some (.aload_n 0, 1, []) else none) else (bif Nat.beq pc 8 then some (.invokevirtual 94, 3, [0, 22, 0, 279, 1, 1, 1]) else none)))) else (bif Nat.blt pc 18 then (bif Nat.blt pc 14 then (bif Nat.beq pc 11 then some (.ifCond .ne 13, 3, [24]) else none) else (bif Nat.blt pc 15 then (bif Nat.beq pc 14 then some (.aload_n 0, 1, []) else none) else (bif Nat.beq pc 15 then some (.invokevirtual 127, 3, [0, 32, 0, 527, 1, 2, 0]) else none))) else (bif Nat.blt pc 24 then (bif Nat.blt pc 21 then (bif Nat.beq pc 18 then some (.iinc 2 1, 3, []) else none) else (bif Nat.beq pc 21 then some (.goto (-19), 3, [2]) else none)) else (bif Nat.blt pc 25 then (bif Nat.beq pc 24 then some (.iload_n 2, 1, []) else none) else (bif Nat.beq pc 25 then some (.ireturn, 1, [0]) else none))))
/-- X2_passCycle -/
def I_X2_passCycle (pc : Nat) : Option IE := bif Nat.blt pc 30 then (bif Nat.blt pc 14 then (bif Nat.blt pc 8 then (bif Nat.blt pc 4 then (bif Nat.blt pc 1 then (bif Nat.beq pc 0 then some (.aload_n 0, 1, []) else none) else (bif Nat.beq pc 1 then some (.invokevirtual 130, 3, [0, 33, 0, 531, 1, 3, 0]) else none)) else (bif Nat.blt pc 5 then (bif Nat.beq pc 4 then some (.aload_n 0, 1, []) else none) else (bif Nat.beq pc 5 then some (.getfield 56, 3, [1, 8, 0, 119]) else none))) else (bif Nat.blt pc 10 then (bif Nat.blt pc 9 then (bif Nat.beq pc 8 then some (.istore_n 1, 1, []) else none) else (bif Nat.beq pc 9 then some (.iload_n 1, 1, []) else none)) else (bif Nat.blt pc 11 then (bif Nat.beq pc 10 then some (.aload_n 0, 1, []) else none) else (bif Nat.beq pc 11 then some (.getfield 53, 3, [1, 7, 0, 117]) else none)))) else (bif Nat.blt pc 22 then (bif Nat.blt pc 18 then (bif Nat.blt pc 17 then (bif Nat.beq pc 14 then some (.if_icmp .ge 30, 3, [44]) else none) else (bif Nat.beq pc 17 then some (.aload_n 0, 1, []) else none)) else (bif Nat.blt pc 19 then (bif Nat.beq pc 18 then some (.iload_n 1, 1, []) else none) else (bif Nat.beq pc 19 then some (.invokevirtual 36, 3, [0, 17, 1, 360, 1, 2, 5]) else none))) else (bif Nat.blt pc 28 then (bif Nat.blt pc 25 then (bif Nat.beq pc 22 then some (.invokevirtual 133, 3, [0, 10, 0, 535, 0, 1, 1]) else none) else (bif Nat.beq pc 25 then some (.ifCond .eq 13, 3, [38]) else none)) else (bif Nat.blt pc 29 then (bif Nat.beq pc 28 then some (.aload_n 0, 1, []) else none) else (bif Nat.beq pc 29 then some (.iload_n 1, 1, []) else none))))) else (bif Nat.blt pc 48 then (bif Nat.blt pc 38 then (bif Nat.blt pc 32 then (bif Nat.blt pc 31 then (bif Nat.beq pc 30 then some (.aload_n 0, 1, []) else none) else (bif Nat.beq pc 31 then some (.iload_n 1, 1, []) else none)) else (bif Nat.blt pc 35 then (bif Nat.beq pc 32 then some (.invokevirtual 36, 3, [0, 17, 1, 360, 1, 2, 5]) else none) else (bif Nat.beq pc 35 then some (.invokevirtual 136, 3, [0, 34, 2, 539, 1, 5, 0]) else none))) else (bif Nat.blt pc 44 then (bif Nat.blt pc 41 then (bif Nat.beq pc 38 then some (.iinc 1 1, 3, []) else none) else (bif Nat.beq pc 41 then some (.goto (-32), 3, [9]) else none)) else (bif Nat.blt pc 45 then (bif Nat.beq pc 44 then some (.aload_n 0, 1, []) else none) else (bif Nat.beq pc 45 then some (.invokevirtual 140, 3, [0, 39, 0, 563, 1, 4, 0]) else none)))) else (bif Nat.blt pc 54 then (bif Nat.blt pc 52 then (bif Nat.blt pc 49 then (bif Nat.beq pc 48 then some (.aload_n 0, 1, []) else none) else (bif Nat.beq pc 49 then some (.invokevirtual 143, 3, [0, 40, 0, 571, 1, 3, 0]) else none)) else (bif Nat.blt pc 53 then (bif Nat.beq pc 52 then some (.aload_n 0, 1, []) else none) else (bif Nat.beq pc 53 then some (.dup, 1, []) else none))) else (bif Nat.blt pc 58 then (bif Nat.blt pc 57 then (bif Nat.beq pc 54 then some (.getfield 50, 3, [1, 5, 0, 113]) else none) else (bif Nat.beq pc 57 then some (.iconst 1, 1, []) else none)) else (bif Nat.blt pc 59 then (bif Nat.beq pc 58 then some (.iadd, 1, []) else none) else (bif Nat.blt pc 62 then (bif Nat.beq pc 59 then some (.putfield 50, 3, [1, 5, 0, 113]) else none) else (bif Nat.beq pc 62 then some (.return_, 1, []) else none))))))
/-- X2_retireEntries -/
def I_X2_retireEntries (pc : Nat) : Option IE := bif Nat.blt pc 46 then (bif Nat.blt pc 23 then (bif Nat.blt pc 8 then (bif Nat.blt pc 5 then (bif Nat.blt pc 1 then (bif Nat.beq pc 0 then some (.aload_n 0, 1, []) else none) else (bif Nat.blt pc 4 then (bif Nat.beq pc 1 then some (.getfield 29, 3, [1, 4, 1, 111]) else none) else (bif Nat.beq pc 4 then some (.iconst 2, 1, []) else none))) else (bif Nat.blt pc 6 then (bif Nat.beq pc 5 then some (.iaload, 1, []) else none) else (bif Nat.blt pc 7 then (bif Nat.beq pc 6 then some (.istore_n 1, 1, []) else none) else (bif Nat.beq pc 7 then some (.iload_n 1, 1, []) else none)))) else (bif Nat.blt pc 15 then (bif Nat.blt pc 11 then (bif Nat.beq pc 8 then some (.ifCond .le 88, 3, [96]) else none) else (bif Nat.blt pc 12 then (bif Nat.beq pc 11 then some (.aload_n 0, 1, []) else none) else (bif Nat.beq pc 12 then some (.getfield 56, 3, [1, 8, 0, 119]) else none))) else (bif Nat.blt pc 19 then (bif Nat.blt pc 16 then (bif Nat.beq pc 15 then some (.aload_n 0, 1, []) else none) else (bif Nat.beq pc 16 then some (.getfield 53, 3, [1, 7, 0, 117]) else none)) else (bif Nat.blt pc 22 then (bif Nat.beq pc 19 then some (.if_icmp .ge 77, 3, [96]) else none) else (bif Nat.beq pc 22 then some (.aload_n 0, 1, []) else none))))) else (bif Nat.blt pc 35 then (bif Nat.blt pc 30 then (bif Nat.blt pc 24 then (bif Nat.beq pc 23 then some (.aload_n 0, 1, []) else none) else (bif Nat.blt pc 27 then (bif Nat.beq pc 24 then some (.getfield 56, 3, [1, 8, 0, 119]) else none) else (bif Nat.beq pc 27 then some (.invokevirtual 36, 3, [0, 17, 1, 360, 1, 2, 5]) else none))) else (bif Nat.blt pc 31 then (bif Nat.beq pc 30 then some (.astore_n 2, 1, []) else none) else (bif Nat.blt pc 32 then (bif Nat.beq pc 31 then some (.aload_n 2, 1, []) else none) else (bif Nat.beq pc 32 then some (.getfield 98, 3, [0, 7, 0, 63]) else none)))) else (bif Nat.blt pc 40 then (bif Nat.blt pc 36 then (bif Nat.beq pc 35 then some (.iconst 2, 1, []) else none) else (bif Nat.blt pc 39 then (bif Nat.beq pc 36 then some (.if_icmp .eq 4, 3, [40]) else none) else (bif Nat.beq pc 39 then some (.return_, 1, []) else none))) else (bif Nat.blt pc 42 then (bif Nat.blt pc 41 then (bif Nat.beq pc 40 then some (.aload_n 0, 1, []) else none) else (bif Nat.beq pc 41 then some (.aload_n 2, 1, []) else none)) else (bif Nat.blt pc 45 then (bif Nat.beq pc 42 then some (.invokevirtual 146, 3, [0, 20, 1, 461, 1, 2, 0]) else none) else (bif Nat.beq pc 45 then some (.aload_n 2, 1, []) else none)))))) else (bif Nat.blt pc 71 then (bif Nat.blt pc 60 then (bif Nat.blt pc 53 then (bif Nat.blt pc 49 then (bif Nat.beq pc 46 then some (.getfield 78, 3, [0, 0, 0, 48]) else none) else (bif Nat.blt pc 50 then (bif Nat.beq pc 49 then some (.iconst 3, 1, []) else none) else (bif Nat.beq pc 50 then some (.if_icmp .ne 20, 3, [70]) else none))) else (bif Nat.blt pc 54 then (bif Nat.beq pc 53 then some (.aload_n 2, 1, []) else none) else (bif Nat.blt pc 57 then (bif Nat.beq pc 54 then some (.getfield 74, 3, [0, 5, 0, 58]) else none) else (bif Nat.beq pc 57 then some (.ifCond .le 13, 3, [70]) else none)))) else (bif Nat.blt pc 65 then (bif Nat.blt pc 61 then (bif Nat.beq pc 60 then some (.aload_n 2, 1, []) else none) else (bif Nat.blt pc 62 then (bif Nat.beq pc 61 then some (.dup, 1, []) else none) else (bif Nat.beq pc 62 then some (.getfield 74, 3, [0, 5, 0, 58]) else none))) else (bif Nat.blt pc 67 then (bif Nat.blt pc 66 then (bif Nat.beq pc 65 then some (.iconst 1, 1, []) else none) else (bif Nat.beq pc 66 then some (.isub, 1, []) else none)) else (bif Nat.blt pc 70 then (bif Nat.beq pc 67 then some (.putfield 74, 3, [0, 5, 0, 58]) else none) else (bif Nat.beq pc 70 then some (.aload_n 0, 1, []) else none))))) else (bif Nat.blt pc 82 then (bif Nat.blt pc 76 then (bif Nat.blt pc 72 then (bif Nat.beq pc 71 then some (.dup, 1, []) else none) else (bif Nat.blt pc 75 then (bif Nat.beq pc 72 then some (.getfield 56, 3, [1, 8, 0, 119]) else none) else (bif Nat.beq pc 75 then some (.iconst 1, 1, []) else none))) else (bif Nat.blt pc 80 then (bif Nat.blt pc 77 then (bif Nat.beq pc 76 then some (.iadd, 1, []) else none) else (bif Nat.beq pc 77 then some (.putfield 56, 3, [1, 8, 0, 119]) else none)) else (bif Nat.blt pc 81 then (bif Nat.beq pc 80 then some (.aload_n 0, 1, []) else none) else (bif Nat.beq pc 81 then some (.dup, 1, []) else none)))) else (bif Nat.blt pc 87 then (bif Nat.blt pc 85 then (bif Nat.beq pc 82 then some (.getfield 65, 3, [1, 11, 0, 124]) else none) else (bif Nat.blt pc 86 then (bif Nat.beq pc 85 then some (.iconst 1, 1, []) else none) else (bif Nat.beq pc 86 then some (.iadd, 1, []) else none))) else (bif Nat.blt pc 93 then (bif Nat.blt pc 90 then (bif Nat.beq pc 87 then some (.putfield 65, 3, [1, 11, 0, 124]) else none) else (bif Nat.beq pc 90 then some (.iinc 1 (-1), 3, []) else none)) else (bif Nat.blt pc 96 then (bif Nat.beq pc 93 then some (.goto (-86), 3, [7]) else none) else (bif Nat.beq pc 96 then some (.return_, 1, []) else none))))))
/-- X2_finish -/
def I_X2_finish (pc : Nat) : Option IE := bif Nat.blt pc 51 then (bif Nat.blt pc 27 then (bif Nat.blt pc 13 then (bif Nat.blt pc 5 then (bif Nat.blt pc 1 then (bif Nat.beq pc 0 then some (.aload_n 0, 1, []) else none) else (bif Nat.blt pc 2 then (bif Nat.beq pc 1 then some (.aload_n 2, 1, []) else none) else (bif Nat.beq pc 2 then some (.getfield 149, 3, [0, 2, 0, 52]) else none))) else (bif Nat.blt pc 9 then (bif Nat.blt pc 6 then (bif Nat.beq pc 5 then some (.aload_n 2, 1, []) else none) else (bif Nat.beq pc 6 then some (.getfield 104, 3, [0, 9, 0, 67]) else none)) else (bif Nat.blt pc 12 then (bif Nat.beq pc 9 then some (.invokevirtual 152, 3, [0, 35, 2, 543, 1, 3, 1]) else none) else (bif Nat.beq pc 12 then some (.istore_n 3, 1, []) else none)))) else (bif Nat.blt pc 18 then (bif Nat.blt pc 14 then (bif Nat.beq pc 13 then some (.aload_n 0, 1, []) else none) else (bif Nat.blt pc 15 then (bif Nat.beq pc 14 then some (.aload_n 2, 1, []) else none) else (bif Nat.beq pc 15 then some (.getfield 156, 3, [0, 3, 0, 54]) else none))) else (bif Nat.blt pc 22 then (bif Nat.blt pc 19 then (bif Nat.beq pc 18 then some (.aload_n 2, 1, []) else none) else (bif Nat.beq pc 19 then some (.getfield 107, 3, [0, 10, 0, 69]) else none)) else (bif Nat.blt pc 25 then (bif Nat.beq pc 22 then some (.invokevirtual 152, 3, [0, 35, 2, 543, 1, 3, 1]) else none) else (bif Nat.beq pc 25 then some (.istore 4, 2, []) else none))))) else (bif Nat.blt pc 40 then (bif Nat.blt pc 32 then (bif Nat.blt pc 28 then (bif Nat.beq pc 27 then some (.aload_n 2, 1, []) else none) else (bif Nat.blt pc 29 then (bif Nat.beq pc 28 then some (.iconst 2, 1, []) else none) else (bif Nat.beq pc 29 then some (.putfield 98, 3, [0, 7, 0, 63]) else none))) else (bif Nat.blt pc 36 then (bif Nat.blt pc 33 then (bif Nat.beq pc 32 then some (.aload_n 2, 1, []) else none) else (bif Nat.beq pc 33 then some (.getfield 78, 3, [0, 0, 0, 48]) else none)) else (bif Nat.blt pc 37 then (bif Nat.beq pc 36 then some (.iconst 3, 1, []) else none) else (bif Nat.beq pc 37 then some (.if_icmp .ne 13, 3, [50]) else none)))) else (bif Nat.blt pc 43 then (bif Nat.blt pc 41 then (bif Nat.beq pc 40 then some (.aload_n 0, 1, []) else none) else (bif Nat.blt pc 42 then (bif Nat.beq pc 41 then some (.iload_n 1, 1, []) else none) else (bif Nat.beq pc 42 then some (.aload_n 2, 1, []) else none))) else (bif Nat.blt pc 47 then (bif Nat.blt pc 44 then (bif Nat.beq pc 43 then some (.iload_n 3, 1, []) else none) else (bif Nat.beq pc 44 then some (.invokevirtual 159, 3, [0, 36, 3, 547, 1, 4, 0]) else none)) else (bif Nat.blt pc 50 then (bif Nat.beq pc 47 then some (.goto 59, 3, [106]) else none) else (bif Nat.beq pc 50 then some (.aload_n 2, 1, []) else none)))))) else (bif Nat.blt pc 78 then (bif Nat.blt pc 64 then (bif Nat.blt pc 58 then (bif Nat.blt pc 54 then (bif Nat.beq pc 51 then some (.getfield 78, 3, [0, 0, 0, 48]) else none) else (bif Nat.blt pc 55 then (bif Nat.beq pc 54 then some (.iconst 4, 1, []) else none) else (bif Nat.beq pc 55 then some (.if_icmp .ne 33, 3, [88]) else none))) else (bif Nat.blt pc 60 then (bif Nat.blt pc 59 then (bif Nat.beq pc 58 then some (.aload_n 2, 1, []) else none) else (bif Nat.beq pc 59 then some (.iload_n 3, 1, []) else none)) else (bif Nat.blt pc 61 then (bif Nat.beq pc 60 then some (.aload_n 2, 1, []) else none) else (bif Nat.beq pc 61 then some (.getfield 163, 3, [0, 4, 0, 56]) else none)))) else (bif Nat.blt pc 71 then (bif Nat.blt pc 67 then (bif Nat.beq pc 64 then some (.invokestatic 166, 3, [1, 42, 2, 427, 1, 2, 1]) else none) else (bif Nat.blt pc 70 then (bif Nat.beq pc 67 then some (.putfield 81, 3, [0, 11, 0, 71]) else none) else (bif Nat.beq pc 70 then some (.aload_n 2, 1, []) else none))) else (bif Nat.blt pc 76 then (bif Nat.blt pc 73 then (bif Nat.beq pc 71 then some (.iload 4, 2, []) else none) else (bif Nat.beq pc 73 then some (.putfield 84, 3, [0, 13, 0, 75]) else none)) else (bif Nat.blt pc 77 then (bif Nat.beq pc 76 then some (.aload_n 0, 1, []) else none) else (bif Nat.beq pc 77 then some (.iload_n 1, 1, []) else none))))) else (bif Nat.blt pc 93 then (bif Nat.blt pc 85 then (bif Nat.blt pc 79 then (bif Nat.beq pc 78 then some (.aload_n 2, 1, []) else none) else (bif Nat.blt pc 82 then (bif Nat.beq pc 79 then some (.getfield 81, 3, [0, 11, 0, 71]) else none) else (bif Nat.beq pc 82 then some (.invokevirtual 169, 3, [0, 37, 2, 555, 1, 5, 0]) else none))) else (bif Nat.blt pc 89 then (bif Nat.blt pc 88 then (bif Nat.beq pc 85 then some (.goto 21, 3, [106]) else none) else (bif Nat.beq pc 88 then some (.aload_n 2, 1, []) else none)) else (bif Nat.blt pc 90 then (bif Nat.beq pc 89 then some (.aload_n 2, 1, []) else none) else (bif Nat.beq pc 90 then some (.getfield 78, 3, [0, 0, 0, 48]) else none)))) else (bif Nat.blt pc 97 then (bif Nat.blt pc 94 then (bif Nat.beq pc 93 then some (.iload_n 3, 1, []) else none) else (bif Nat.blt pc 96 then (bif Nat.beq pc 94 then some (.iload 4, 2, []) else none) else (bif Nat.beq pc 96 then some (.aload_n 2, 1, []) else none))) else (bif Nat.blt pc 103 then (bif Nat.blt pc 100 then (bif Nat.beq pc 97 then some (.getfield 163, 3, [0, 4, 0, 56]) else none) else (bif Nat.beq pc 100 then some (.invokestatic 173, 3, [1, 3, 4, 443, 9, 4, 1]) else none)) else (bif Nat.blt pc 106 then (bif Nat.beq pc 103 then some (.putfield 84, 3, [0, 13, 0, 75]) else none) else (bif Nat.beq pc 106 then some (.return_, 1, []) else none))))))
/-- X2_operand -/
def I_X2_operand (pc : Nat) : Option IE := bif Nat.blt pc 10 then (bif Nat.blt pc 5 then (bif Nat.blt pc 1 then (bif Nat.beq pc 0 then some (.iload_n 2, 1, []) else none) else (bif Nat.blt pc 2 then (bif Nat.beq pc 1 then some (.iconst (-1), 1, []) else none) else (bif Nat.beq pc 2 then some (.if_icmp .ne 11, 3, [13]) else none))) else (bif Nat.blt pc 6 then (bif Nat.beq pc 5 then some (.aload_n 0, 1, []) else none) else (bif Nat.blt pc 7 then (bif Nat.beq pc 6 then some (.iload_n 1, 1, []) else none) else (bif Nat.beq pc 7 then some (.invokevirtual 179, 3, [0, 18, 1, 423, 1, 2, 1]) else none)))) else (bif Nat.blt pc 15 then (bif Nat.blt pc 13 then (bif Nat.beq pc 10 then some (.goto 11, 3, [21]) else none) else (bif Nat.blt pc 14 then (bif Nat.beq pc 13 then some (.aload_n 0, 1, []) else none) else (bif Nat.beq pc 14 then some (.iload_n 2, 1, []) else none))) else (bif Nat.blt pc 18 then (bif Nat.beq pc 15 then some (.invokevirtual 36, 3, [0, 17, 1, 360, 1, 2, 5]) else none) else (bif Nat.blt pc 21 then (bif Nat.beq pc 18 then some (.getfield 84, 3, [0, 13, 0, 75]) else none) else (bif Nat.beq pc 21 then some (.ireturn, 1, [0]) else none))))
/-- X2_finishLoad -/
def I_X2_finishLoad (pc : Nat) : Option IE := bif Nat.blt pc 45 then (bif Nat.blt pc 19 then (bif Nat.blt pc 9 then (bif Nat.blt pc 2 then (bif Nat.blt pc 1 then (bif Nat.beq pc 0 then some (.aload_n 2, 1, []) else none) else (bif Nat.beq pc 1 then some (.iload_n 3, 1, []) else none)) else (bif Nat.blt pc 3 then (bif Nat.beq pc 2 then some (.aload_n 2, 1, []) else none) else (bif Nat.blt pc 6 then (bif Nat.beq pc 3 then some (.getfield 163, 3, [0, 4, 0, 56]) else none) else (bif Nat.beq pc 6 then some (.invokestatic 166, 3, [1, 42, 2, 427, 1, 2, 1]) else none)))) else (bif Nat.blt pc 14 then (bif Nat.blt pc 12 then (bif Nat.beq pc 9 then some (.putfield 81, 3, [0, 11, 0, 71]) else none) else (bif Nat.blt pc 13 then (bif Nat.beq pc 12 then some (.aload_n 2, 1, []) else none) else (bif Nat.beq pc 13 then some (.aload_n 0, 1, []) else none))) else (bif Nat.blt pc 15 then (bif Nat.beq pc 14 then some (.aload_n 2, 1, []) else none) else (bif Nat.blt pc 18 then (bif Nat.beq pc 15 then some (.getfield 81, 3, [0, 11, 0, 71]) else none) else (bif Nat.beq pc 18 then some (.iload_n 1, 1, []) else none))))) else (bif Nat.blt pc 31 then (bif Nat.blt pc 26 then (bif Nat.blt pc 22 then (bif Nat.beq pc 19 then some (.invokevirtual 182, 3, [0, 29, 2, 551, 1, 5, 1]) else none) else (bif Nat.blt pc 25 then (bif Nat.beq pc 22 then some (.putfield 114, 3, [0, 12, 0, 73]) else none) else (bif Nat.beq pc 25 then some (.aload_n 2, 1, []) else none))) else (bif Nat.blt pc 27 then (bif Nat.beq pc 26 then some (.aload_n 2, 1, []) else none) else (bif Nat.blt pc 30 then (bif Nat.beq pc 27 then some (.getfield 114, 3, [0, 12, 0, 73]) else none) else (bif Nat.beq pc 30 then some (.iconst (-1), 1, []) else none)))) else (bif Nat.blt pc 36 then (bif Nat.blt pc 34 then (bif Nat.beq pc 31 then some (.if_icmp .ne 14, 3, [45]) else none) else (bif Nat.blt pc 35 then (bif Nat.beq pc 34 then some (.aload_n 0, 1, []) else none) else (bif Nat.beq pc 35 then some (.aload_n 2, 1, []) else none))) else (bif Nat.blt pc 39 then (bif Nat.beq pc 36 then some (.getfield 81, 3, [0, 11, 0, 71]) else none) else (bif Nat.blt pc 42 then (bif Nat.beq pc 39 then some (.invokevirtual 185, 3, [0, 19, 1, 439, 1, 2, 1]) else none) else (bif Nat.beq pc 42 then some (.goto 14, 3, [56]) else none)))))) else (bif Nat.blt pc 66 then (bif Nat.blt pc 56 then (bif Nat.blt pc 47 then (bif Nat.blt pc 46 then (bif Nat.beq pc 45 then some (.aload_n 0, 1, []) else none) else (bif Nat.beq pc 46 then some (.aload_n 2, 1, []) else none)) else (bif Nat.blt pc 50 then (bif Nat.beq pc 47 then some (.getfield 114, 3, [0, 12, 0, 73]) else none) else (bif Nat.blt pc 53 then (bif Nat.beq pc 50 then some (.invokevirtual 36, 3, [0, 17, 1, 360, 1, 2, 5]) else none) else (bif Nat.beq pc 53 then some (.getfield 84, 3, [0, 13, 0, 75]) else none)))) else (bif Nat.blt pc 61 then (bif Nat.blt pc 59 then (bif Nat.beq pc 56 then some (.putfield 84, 3, [0, 13, 0, 75]) else none) else (bif Nat.blt pc 60 then (bif Nat.beq pc 59 then some (.aload_n 0, 1, []) else none) else (bif Nat.beq pc 60 then some (.dup, 1, []) else none))) else (bif Nat.blt pc 64 then (bif Nat.beq pc 61 then some (.getfield 68, 3, [1, 12, 0, 126]) else none) else (bif Nat.blt pc 65 then (bif Nat.beq pc 64 then some (.iconst 1, 1, []) else none) else (bif Nat.beq pc 65 then some (.iadd, 1, []) else none))))) else (bif Nat.blt pc 78 then (bif Nat.blt pc 71 then (bif Nat.blt pc 69 then (bif Nat.beq pc 66 then some (.putfield 68, 3, [1, 12, 0, 126]) else none) else (bif Nat.blt pc 70 then (bif Nat.beq pc 69 then some (.aload_n 0, 1, []) else none) else (bif Nat.beq pc 70 then some (.iload_n 1, 1, []) else none))) else (bif Nat.blt pc 74 then (bif Nat.beq pc 71 then some (.invokevirtual 124, 3, [0, 27, 1, 373, 1, 4, 1]) else none) else (bif Nat.blt pc 77 then (bif Nat.beq pc 74 then some (.ifCond .eq 13, 3, [87]) else none) else (bif Nat.beq pc 77 then some (.aload_n 0, 1, []) else none)))) else (bif Nat.blt pc 83 then (bif Nat.blt pc 79 then (bif Nat.beq pc 78 then some (.dup, 1, []) else none) else (bif Nat.blt pc 82 then (bif Nat.beq pc 79 then some (.getfield 71, 3, [1, 13, 0, 128]) else none) else (bif Nat.beq pc 82 then some (.iconst 1, 1, []) else none))) else (bif Nat.blt pc 84 then (bif Nat.beq pc 83 then some (.iadd, 1, []) else none) else (bif Nat.blt pc 87 then (bif Nat.beq pc 84 then some (.putfield 71, 3, [1, 13, 0, 128]) else none) else (bif Nat.beq pc 87 then some (.return_, 1, []) else none))))))
/-- X2_breakAlibis -/
def I_X2_breakAlibis (pc : Nat) : Option IE := bif Nat.blt pc 28 then (bif Nat.blt pc 12 then (bif Nat.blt pc 4 then (bif Nat.blt pc 2 then (bif Nat.blt pc 1 then (bif Nat.beq pc 0 then some (.iload_n 1, 1, []) else none) else (bif Nat.beq pc 1 then some (.iconst 1, 1, []) else none)) else (bif Nat.blt pc 3 then (bif Nat.beq pc 2 then some (.iadd, 1, []) else none) else (bif Nat.beq pc 3 then some (.istore_n 3, 1, []) else none))) else (bif Nat.blt pc 6 then (bif Nat.blt pc 5 then (bif Nat.beq pc 4 then some (.iload_n 3, 1, []) else none) else (bif Nat.beq pc 5 then some (.aload_n 0, 1, []) else none)) else (bif Nat.blt pc 9 then (bif Nat.beq pc 6 then some (.getfield 53, 3, [1, 7, 0, 117]) else none) else (bif Nat.beq pc 9 then some (.if_icmp .ge 51, 3, [60]) else none)))) else (bif Nat.blt pc 19 then (bif Nat.blt pc 14 then (bif Nat.blt pc 13 then (bif Nat.beq pc 12 then some (.aload_n 0, 1, []) else none) else (bif Nat.beq pc 13 then some (.iload_n 3, 1, []) else none)) else (bif Nat.blt pc 17 then (bif Nat.beq pc 14 then some (.invokevirtual 36, 3, [0, 17, 1, 360, 1, 2, 5]) else none) else (bif Nat.beq pc 17 then some (.astore 4, 2, []) else none))) else (bif Nat.blt pc 22 then (bif Nat.blt pc 21 then (bif Nat.beq pc 19 then some (.aload 4, 2, []) else none) else (bif Nat.beq pc 21 then some (.iconst 3, 1, []) else none)) else (bif Nat.blt pc 25 then (bif Nat.beq pc 22 then some (.invokevirtual 110, 3, [0, 9, 1, 361, 0, 2, 1]) else none) else (bif Nat.beq pc 25 then some (.ifCond .eq 29, 3, [54]) else none))))) else (bif Nat.blt pc 46 then (bif Nat.blt pc 37 then (bif Nat.blt pc 33 then (bif Nat.blt pc 30 then (bif Nat.beq pc 28 then some (.aload 4, 2, []) else none) else (bif Nat.beq pc 30 then some (.getfield 81, 3, [0, 11, 0, 71]) else none)) else (bif Nat.blt pc 34 then (bif Nat.beq pc 33 then some (.iload_n 2, 1, []) else none) else (bif Nat.beq pc 34 then some (.if_icmp .ne 20, 3, [54]) else none))) else (bif Nat.blt pc 42 then (bif Nat.blt pc 39 then (bif Nat.beq pc 37 then some (.aload 4, 2, []) else none) else (bif Nat.beq pc 39 then some (.getfield 114, 3, [0, 12, 0, 73]) else none)) else (bif Nat.blt pc 43 then (bif Nat.beq pc 42 then some (.iload_n 1, 1, []) else none) else (bif Nat.beq pc 43 then some (.if_icmp .ge 11, 3, [54]) else none)))) else (bif Nat.blt pc 53 then (bif Nat.blt pc 48 then (bif Nat.blt pc 47 then (bif Nat.beq pc 46 then some (.aload_n 0, 1, []) else none) else (bif Nat.beq pc 47 then some (.iload_n 3, 1, []) else none)) else (bif Nat.blt pc 50 then (bif Nat.beq pc 48 then some (.aload 4, 2, []) else none) else (bif Nat.beq pc 50 then some (.invokevirtual 188, 3, [0, 38, 2, 559, 1, 4, 0]) else none))) else (bif Nat.blt pc 57 then (bif Nat.blt pc 54 then (bif Nat.beq pc 53 then some (.return_, 1, []) else none) else (bif Nat.beq pc 54 then some (.iinc 3 1, 3, []) else none)) else (bif Nat.blt pc 60 then (bif Nat.beq pc 57 then some (.goto (-53), 3, [4]) else none) else (bif Nat.beq pc 60 then some (.return_, 1, []) else none)))))
/-- X2_replay -/
def I_X2_replay (pc : Nat) : Option IE := bif Nat.blt pc 31 then (bif Nat.blt pc 15 then (bif Nat.blt pc 6 then (bif Nat.blt pc 2 then (bif Nat.blt pc 1 then (bif Nat.beq pc 0 then some (.aload_n 2, 1, []) else none) else (bif Nat.beq pc 1 then some (.iconst 3, 1, []) else none)) else (bif Nat.blt pc 5 then (bif Nat.beq pc 2 then some (.putfield 74, 3, [0, 5, 0, 58]) else none) else (bif Nat.beq pc 5 then some (.aload_n 2, 1, []) else none))) else (bif Nat.blt pc 10 then (bif Nat.blt pc 7 then (bif Nat.beq pc 6 then some (.dup, 1, []) else none) else (bif Nat.beq pc 7 then some (.getfield 77, 3, [0, 6, 0, 60]) else none)) else (bif Nat.blt pc 11 then (bif Nat.beq pc 10 then some (.iconst 1, 1, []) else none) else (bif Nat.blt pc 12 then (bif Nat.beq pc 11 then some (.iadd, 1, []) else none) else (bif Nat.beq pc 12 then some (.putfield 77, 3, [0, 6, 0, 60]) else none))))) else (bif Nat.blt pc 22 then (bif Nat.blt pc 17 then (bif Nat.blt pc 16 then (bif Nat.beq pc 15 then some (.aload_n 0, 1, []) else none) else (bif Nat.beq pc 16 then some (.dup, 1, []) else none)) else (bif Nat.blt pc 20 then (bif Nat.beq pc 17 then some (.getfield 59, 3, [1, 9, 0, 121]) else none) else (bif Nat.blt pc 21 then (bif Nat.beq pc 20 then some (.iconst 1, 1, []) else none) else (bif Nat.beq pc 21 then some (.iadd, 1, []) else none)))) else (bif Nat.blt pc 26 then (bif Nat.blt pc 25 then (bif Nat.beq pc 22 then some (.putfield 59, 3, [1, 9, 0, 121]) else none) else (bif Nat.beq pc 25 then some (.aload_n 0, 1, []) else none)) else (bif Nat.blt pc 27 then (bif Nat.beq pc 26 then some (.dup, 1, []) else none) else (bif Nat.blt pc 30 then (bif Nat.beq pc 27 then some (.getfield 62, 3, [1, 10, 0, 123]) else none) else (bif Nat.beq pc 30 then some (.aload_n 0, 1, []) else none)))))) else (bif Nat.blt pc 44 then (bif Nat.blt pc 37 then (bif Nat.blt pc 35 then (bif Nat.blt pc 34 then (bif Nat.beq pc 31 then some (.getfield 53, 3, [1, 7, 0, 117]) else none) else (bif Nat.beq pc 34 then some (.iload_n 1, 1, []) else none)) else (bif Nat.blt pc 36 then (bif Nat.beq pc 35 then some (.isub, 1, []) else none) else (bif Nat.beq pc 36 then some (.iadd, 1, []) else none))) else (bif Nat.blt pc 41 then (bif Nat.blt pc 40 then (bif Nat.beq pc 37 then some (.putfield 62, 3, [1, 10, 0, 123]) else none) else (bif Nat.beq pc 40 then some (.iload_n 1, 1, []) else none)) else (bif Nat.blt pc 42 then (bif Nat.beq pc 41 then some (.istore_n 3, 1, []) else none) else (bif Nat.blt pc 43 then (bif Nat.beq pc 42 then some (.iload_n 3, 1, []) else none) else (bif Nat.beq pc 43 then some (.aload_n 0, 1, []) else none))))) else (bif Nat.blt pc 55 then (bif Nat.blt pc 50 then (bif Nat.blt pc 47 then (bif Nat.beq pc 44 then some (.getfield 53, 3, [1, 7, 0, 117]) else none) else (bif Nat.beq pc 47 then some (.if_icmp .ge 18, 3, [65]) else none)) else (bif Nat.blt pc 51 then (bif Nat.beq pc 50 then some (.aload_n 0, 1, []) else none) else (bif Nat.blt pc 52 then (bif Nat.beq pc 51 then some (.iload_n 3, 1, []) else none) else (bif Nat.beq pc 52 then some (.invokevirtual 36, 3, [0, 17, 1, 360, 1, 2, 5]) else none)))) else (bif Nat.blt pc 59 then (bif Nat.blt pc 56 then (bif Nat.beq pc 55 then some (.iconst 0, 1, []) else none) else (bif Nat.beq pc 56 then some (.putfield 98, 3, [0, 7, 0, 63]) else none)) else (bif Nat.blt pc 62 then (bif Nat.beq pc 59 then some (.iinc 3 1, 3, []) else none) else (bif Nat.blt pc 65 then (bif Nat.beq pc 62 then some (.goto (-20), 3, [42]) else none) else (bif Nat.beq pc 65 then some (.return_, 1, []) else none))))))
/-- X2_startEntries -/
def I_X2_startEntries (pc : Nat) : Option IE := bif Nat.blt pc 26 then (bif Nat.blt pc 12 then (bif Nat.blt pc 6 then (bif Nat.blt pc 4 then (bif Nat.blt pc 1 then (bif Nat.beq pc 0 then some (.aload_n 0, 1, []) else none) else (bif Nat.beq pc 1 then some (.getfield 29, 3, [1, 4, 1, 111]) else none)) else (bif Nat.blt pc 5 then (bif Nat.beq pc 4 then some (.iconst 1, 1, []) else none) else (bif Nat.beq pc 5 then some (.iaload, 1, []) else none))) else (bif Nat.blt pc 8 then (bif Nat.blt pc 7 then (bif Nat.beq pc 6 then some (.istore_n 1, 1, []) else none) else (bif Nat.beq pc 7 then some (.aload_n 0, 1, []) else none)) else (bif Nat.blt pc 11 then (bif Nat.beq pc 8 then some (.getfield 56, 3, [1, 8, 0, 119]) else none) else (bif Nat.beq pc 11 then some (.istore_n 2, 1, []) else none)))) else (bif Nat.blt pc 20 then (bif Nat.blt pc 14 then (bif Nat.blt pc 13 then (bif Nat.beq pc 12 then some (.iload_n 2, 1, []) else none) else (bif Nat.beq pc 13 then some (.aload_n 0, 1, []) else none)) else (bif Nat.blt pc 17 then (bif Nat.beq pc 14 then some (.getfield 53, 3, [1, 7, 0, 117]) else none) else (bif Nat.beq pc 17 then some (.if_icmp .ge 43, 3, [60]) else none))) else (bif Nat.blt pc 24 then (bif Nat.blt pc 21 then (bif Nat.beq pc 20 then some (.iload_n 1, 1, []) else none) else (bif Nat.beq pc 21 then some (.ifCond .le 39, 3, [60]) else none)) else (bif Nat.blt pc 25 then (bif Nat.beq pc 24 then some (.aload_n 0, 1, []) else none) else (bif Nat.beq pc 25 then some (.iload_n 2, 1, []) else none))))) else (bif Nat.blt pc 40 then (bif Nat.blt pc 34 then (bif Nat.blt pc 32 then (bif Nat.blt pc 29 then (bif Nat.beq pc 26 then some (.invokevirtual 117, 3, [0, 25, 1, 365, 1, 3, 1]) else none) else (bif Nat.beq pc 29 then some (.ifCond .ne 25, 3, [54]) else none)) else (bif Nat.blt pc 33 then (bif Nat.beq pc 32 then some (.aload_n 0, 1, []) else none) else (bif Nat.beq pc 33 then some (.iload_n 2, 1, []) else none))) else (bif Nat.blt pc 38 then (bif Nat.blt pc 37 then (bif Nat.beq pc 34 then some (.invokevirtual 36, 3, [0, 17, 1, 360, 1, 2, 5]) else none) else (bif Nat.beq pc 37 then some (.astore_n 3, 1, []) else none)) else (bif Nat.blt pc 39 then (bif Nat.beq pc 38 then some (.aload_n 3, 1, []) else none) else (bif Nat.beq pc 39 then some (.iconst 1, 1, []) else none)))) else (bif Nat.blt pc 48 then (bif Nat.blt pc 44 then (bif Nat.blt pc 43 then (bif Nat.beq pc 40 then some (.putfield 98, 3, [0, 7, 0, 63]) else none) else (bif Nat.beq pc 43 then some (.aload_n 3, 1, []) else none)) else (bif Nat.blt pc 45 then (bif Nat.beq pc 44 then some (.aload_n 3, 1, []) else none) else (bif Nat.beq pc 45 then some (.invokevirtual 191, 3, [0, 11, 0, 567, 0, 1, 1]) else none))) else (bif Nat.blt pc 54 then (bif Nat.blt pc 51 then (bif Nat.beq pc 48 then some (.putfield 101, 3, [0, 8, 0, 65]) else none) else (bif Nat.beq pc 51 then some (.iinc 1 (-1), 3, []) else none)) else (bif Nat.blt pc 57 then (bif Nat.beq pc 54 then some (.iinc 2 1, 3, []) else none) else (bif Nat.blt pc 60 then (bif Nat.beq pc 57 then some (.goto (-45), 3, [12]) else none) else (bif Nat.beq pc 60 then some (.return_, 1, []) else none))))))
/-- X2_issueInstructions -/
def I_X2_issueInstructions (pc : Nat) : Option IE := bif Nat.blt pc 46 then (bif Nat.blt pc 21 then (bif Nat.blt pc 8 then (bif Nat.blt pc 5 then (bif Nat.blt pc 1 then (bif Nat.beq pc 0 then some (.aload_n 0, 1, []) else none) else (bif Nat.blt pc 4 then (bif Nat.beq pc 1 then some (.getfield 29, 3, [1, 4, 1, 111]) else none) else (bif Nat.beq pc 4 then some (.iconst 1, 1, []) else none))) else (bif Nat.blt pc 6 then (bif Nat.beq pc 5 then some (.iaload, 1, []) else none) else (bif Nat.blt pc 7 then (bif Nat.beq pc 6 then some (.istore_n 1, 1, []) else none) else (bif Nat.beq pc 7 then some (.iload_n 1, 1, []) else none)))) else (bif Nat.blt pc 15 then (bif Nat.blt pc 11 then (bif Nat.beq pc 8 then some (.ifCond .le 89, 3, [97]) else none) else (bif Nat.blt pc 12 then (bif Nat.beq pc 11 then some (.aload_n 0, 1, []) else none) else (bif Nat.beq pc 12 then some (.invokevirtual 90, 3, [0, 21, 0, 275, 1, 1, 1]) else none))) else (bif Nat.blt pc 19 then (bif Nat.blt pc 16 then (bif Nat.beq pc 15 then some (.aload_n 0, 1, []) else none) else (bif Nat.beq pc 16 then some (.getfield 29, 3, [1, 4, 1, 111]) else none)) else (bif Nat.blt pc 20 then (bif Nat.beq pc 19 then some (.iconst 0, 1, []) else none) else (bif Nat.beq pc 20 then some (.iaload, 1, []) else none))))) else (bif Nat.blt pc 35 then (bif Nat.blt pc 28 then (bif Nat.blt pc 24 then (bif Nat.beq pc 21 then some (.if_icmp .ge 76, 3, [97]) else none) else (bif Nat.blt pc 25 then (bif Nat.beq pc 24 then some (.aload_n 0, 1, []) else none) else (bif Nat.beq pc 25 then some (.getfield 53, 3, [1, 7, 0, 117]) else none))) else (bif Nat.blt pc 29 then (bif Nat.beq pc 28 then some (.aload_n 0, 1, []) else none) else (bif Nat.blt pc 32 then (bif Nat.beq pc 29 then some (.getfield 32, 3, [1, 6, 0, 115]) else none) else (bif Nat.beq pc 32 then some (.if_icmp .ge 65, 3, [97]) else none)))) else (bif Nat.blt pc 40 then (bif Nat.blt pc 36 then (bif Nat.beq pc 35 then some (.aload_n 0, 1, []) else none) else (bif Nat.blt pc 37 then (bif Nat.beq pc 36 then some (.aload_n 0, 1, []) else none) else (bif Nat.beq pc 37 then some (.getfield 53, 3, [1, 7, 0, 117]) else none))) else (bif Nat.blt pc 44 then (bif Nat.blt pc 43 then (bif Nat.beq pc 40 then some (.invokevirtual 36, 3, [0, 17, 1, 360, 1, 2, 5]) else none) else (bif Nat.beq pc 43 then some (.astore_n 2, 1, []) else none)) else (bif Nat.blt pc 45 then (bif Nat.beq pc 44 then some (.aload_n 2, 1, []) else none) else (bif Nat.beq pc 45 then some (.iconst 0, 1, []) else none)))))) else (bif Nat.blt pc 71 then (bif Nat.blt pc 56 then (bif Nat.blt pc 51 then (bif Nat.blt pc 49 then (bif Nat.beq pc 46 then some (.putfield 98, 3, [0, 7, 0, 63]) else none) else (bif Nat.blt pc 50 then (bif Nat.beq pc 49 then some (.aload_n 2, 1, []) else none) else (bif Nat.beq pc 50 then some (.aload_n 0, 1, []) else none))) else (bif Nat.blt pc 52 then (bif Nat.beq pc 51 then some (.aload_n 2, 1, []) else none) else (bif Nat.blt pc 55 then (bif Nat.beq pc 52 then some (.getfield 149, 3, [0, 2, 0, 52]) else none) else (bif Nat.beq pc 55 then some (.aload_n 0, 1, []) else none)))) else (bif Nat.blt pc 65 then (bif Nat.blt pc 59 then (bif Nat.beq pc 56 then some (.getfield 53, 3, [1, 7, 0, 117]) else none) else (bif Nat.blt pc 62 then (bif Nat.beq pc 59 then some (.invokevirtual 194, 3, [0, 28, 2, 575, 1, 4, 1]) else none) else (bif Nat.beq pc 62 then some (.putfield 104, 3, [0, 9, 0, 67]) else none))) else (bif Nat.blt pc 67 then (bif Nat.blt pc 66 then (bif Nat.beq pc 65 then some (.aload_n 2, 1, []) else none) else (bif Nat.beq pc 66 then some (.aload_n 0, 1, []) else none)) else (bif Nat.blt pc 68 then (bif Nat.beq pc 67 then some (.aload_n 2, 1, []) else none) else (bif Nat.beq pc 68 then some (.getfield 156, 3, [0, 3, 0, 54]) else none))))) else (bif Nat.blt pc 83 then (bif Nat.blt pc 78 then (bif Nat.blt pc 72 then (bif Nat.beq pc 71 then some (.aload_n 0, 1, []) else none) else (bif Nat.blt pc 75 then (bif Nat.beq pc 72 then some (.getfield 53, 3, [1, 7, 0, 117]) else none) else (bif Nat.beq pc 75 then some (.invokevirtual 194, 3, [0, 28, 2, 575, 1, 4, 1]) else none))) else (bif Nat.blt pc 81 then (bif Nat.beq pc 78 then some (.putfield 107, 3, [0, 10, 0, 69]) else none) else (bif Nat.blt pc 82 then (bif Nat.beq pc 81 then some (.aload_n 0, 1, []) else none) else (bif Nat.beq pc 82 then some (.dup, 1, []) else none)))) else (bif Nat.blt pc 88 then (bif Nat.blt pc 86 then (bif Nat.beq pc 83 then some (.getfield 53, 3, [1, 7, 0, 117]) else none) else (bif Nat.blt pc 87 then (bif Nat.beq pc 86 then some (.iconst 1, 1, []) else none) else (bif Nat.beq pc 87 then some (.iadd, 1, []) else none))) else (bif Nat.blt pc 94 then (bif Nat.blt pc 91 then (bif Nat.beq pc 88 then some (.putfield 53, 3, [1, 7, 0, 117]) else none) else (bif Nat.beq pc 91 then some (.iinc 1 (-1), 3, []) else none)) else (bif Nat.blt pc 97 then (bif Nat.beq pc 94 then some (.goto (-87), 3, [7]) else none) else (bif Nat.beq pc 97 then some (.return_, 1, []) else none))))))
/-- X2_carryOutPlainly -/
def I_X2_carryOutPlainly (pc : Nat) : Option IE := bif Nat.blt pc 58 then (bif Nat.blt pc 27 then (bif Nat.blt pc 13 then (bif Nat.blt pc 5 then (bif Nat.blt pc 1 then (bif Nat.beq pc 0 then some (.aload_n 0, 1, []) else none) else (bif Nat.blt pc 4 then (bif Nat.beq pc 1 then some (.getfield 56, 3, [1, 8, 0, 119]) else none) else (bif Nat.beq pc 4 then some (.istore_n 1, 1, []) else none))) else (bif Nat.blt pc 7 then (bif Nat.blt pc 6 then (bif Nat.beq pc 5 then some (.iload_n 1, 1, []) else none) else (bif Nat.beq pc 6 then some (.aload_n 0, 1, []) else none)) else (bif Nat.blt pc 10 then (bif Nat.beq pc 7 then some (.getfield 32, 3, [1, 6, 0, 115]) else none) else (bif Nat.beq pc 10 then some (.if_icmp .ge 113, 3, [123]) else none)))) else (bif Nat.blt pc 19 then (bif Nat.blt pc 15 then (bif Nat.blt pc 14 then (bif Nat.beq pc 13 then some (.aload_n 0, 1, []) else none) else (bif Nat.beq pc 14 then some (.iload_n 1, 1, []) else none)) else (bif Nat.blt pc 18 then (bif Nat.beq pc 15 then some (.invokevirtual 36, 3, [0, 17, 1, 360, 1, 2, 5]) else none) else (bif Nat.beq pc 18 then some (.astore_n 2, 1, []) else none))) else (bif Nat.blt pc 21 then (bif Nat.blt pc 20 then (bif Nat.beq pc 19 then some (.aload_n 0, 1, []) else none) else (bif Nat.beq pc 20 then some (.aload_n 2, 1, []) else none)) else (bif Nat.blt pc 24 then (bif Nat.beq pc 21 then some (.getfield 149, 3, [0, 2, 0, 52]) else none) else (bif Nat.beq pc 24 then some (.invokevirtual 179, 3, [0, 18, 1, 423, 1, 2, 1]) else none))))) else (bif Nat.blt pc 42 then (bif Nat.blt pc 33 then (bif Nat.blt pc 29 then (bif Nat.blt pc 28 then (bif Nat.beq pc 27 then some (.istore_n 3, 1, []) else none) else (bif Nat.beq pc 28 then some (.aload_n 0, 1, []) else none)) else (bif Nat.blt pc 30 then (bif Nat.beq pc 29 then some (.aload_n 2, 1, []) else none) else (bif Nat.beq pc 30 then some (.getfield 156, 3, [0, 3, 0, 54]) else none))) else (bif Nat.blt pc 38 then (bif Nat.blt pc 36 then (bif Nat.beq pc 33 then some (.invokevirtual 179, 3, [0, 18, 1, 423, 1, 2, 1]) else none) else (bif Nat.beq pc 36 then some (.istore 4, 2, []) else none)) else (bif Nat.blt pc 39 then (bif Nat.beq pc 38 then some (.aload_n 2, 1, []) else none) else (bif Nat.beq pc 39 then some (.getfield 78, 3, [0, 0, 0, 48]) else none)))) else (bif Nat.blt pc 48 then (bif Nat.blt pc 46 then (bif Nat.blt pc 43 then (bif Nat.beq pc 42 then some (.iconst 4, 1, []) else none) else (bif Nat.beq pc 43 then some (.if_icmp .ne 24, 3, [67]) else none)) else (bif Nat.blt pc 47 then (bif Nat.beq pc 46 then some (.aload_n 2, 1, []) else none) else (bif Nat.beq pc 47 then some (.iload_n 3, 1, []) else none))) else (bif Nat.blt pc 52 then (bif Nat.blt pc 49 then (bif Nat.beq pc 48 then some (.aload_n 2, 1, []) else none) else (bif Nat.beq pc 49 then some (.getfield 163, 3, [0, 4, 0, 56]) else none)) else (bif Nat.blt pc 55 then (bif Nat.beq pc 52 then some (.invokestatic 166, 3, [1, 42, 2, 427, 1, 2, 1]) else none) else (bif Nat.beq pc 55 then some (.putfield 81, 3, [0, 11, 0, 71]) else none)))))) else (bif Nat.blt pc 91 then (bif Nat.blt pc 75 then (bif Nat.blt pc 67 then (bif Nat.blt pc 61 then (bif Nat.blt pc 59 then (bif Nat.beq pc 58 then some (.aload_n 2, 1, []) else none) else (bif Nat.beq pc 59 then some (.iload 4, 2, []) else none)) else (bif Nat.blt pc 64 then (bif Nat.beq pc 61 then some (.putfield 84, 3, [0, 13, 0, 75]) else none) else (bif Nat.beq pc 64 then some (.goto 48, 3, [112]) else none))) else (bif Nat.blt pc 71 then (bif Nat.blt pc 68 then (bif Nat.beq pc 67 then some (.aload_n 2, 1, []) else none) else (bif Nat.beq pc 68 then some (.getfield 78, 3, [0, 0, 0, 48]) else none)) else (bif Nat.blt pc 72 then (bif Nat.beq pc 71 then some (.iconst 3, 1, []) else none) else (bif Nat.beq pc 72 then some (.if_icmp .ne 22, 3, [94]) else none)))) else (bif Nat.blt pc 79 then (bif Nat.blt pc 77 then (bif Nat.blt pc 76 then (bif Nat.beq pc 75 then some (.aload_n 2, 1, []) else none) else (bif Nat.beq pc 76 then some (.aload_n 0, 1, []) else none)) else (bif Nat.blt pc 78 then (bif Nat.beq pc 77 then some (.iload_n 3, 1, []) else none) else (bif Nat.beq pc 78 then some (.aload_n 2, 1, []) else none))) else (bif Nat.blt pc 85 then (bif Nat.blt pc 82 then (bif Nat.beq pc 79 then some (.getfield 163, 3, [0, 4, 0, 56]) else none) else (bif Nat.beq pc 82 then some (.invokestatic 166, 3, [1, 42, 2, 427, 1, 2, 1]) else none)) else (bif Nat.blt pc 88 then (bif Nat.beq pc 85 then some (.invokevirtual 185, 3, [0, 19, 1, 439, 1, 2, 1]) else none) else (bif Nat.beq pc 88 then some (.putfield 84, 3, [0, 13, 0, 75]) else none))))) else (bif Nat.blt pc 106 then (bif Nat.blt pc 99 then (bif Nat.blt pc 95 then (bif Nat.blt pc 94 then (bif Nat.beq pc 91 then some (.goto 21, 3, [112]) else none) else (bif Nat.beq pc 94 then some (.aload_n 2, 1, []) else none)) else (bif Nat.blt pc 96 then (bif Nat.beq pc 95 then some (.aload_n 2, 1, []) else none) else (bif Nat.beq pc 96 then some (.getfield 78, 3, [0, 0, 0, 48]) else none))) else (bif Nat.blt pc 102 then (bif Nat.blt pc 100 then (bif Nat.beq pc 99 then some (.iload_n 3, 1, []) else none) else (bif Nat.beq pc 100 then some (.iload 4, 2, []) else none)) else (bif Nat.blt pc 103 then (bif Nat.beq pc 102 then some (.aload_n 2, 1, []) else none) else (bif Nat.beq pc 103 then some (.getfield 163, 3, [0, 4, 0, 56]) else none)))) else (bif Nat.blt pc 114 then (bif Nat.blt pc 112 then (bif Nat.blt pc 109 then (bif Nat.beq pc 106 then some (.invokestatic 173, 3, [1, 3, 4, 443, 9, 4, 1]) else none) else (bif Nat.beq pc 109 then some (.putfield 84, 3, [0, 13, 0, 75]) else none)) else (bif Nat.blt pc 113 then (bif Nat.beq pc 112 then some (.aload_n 0, 1, []) else none) else (bif Nat.beq pc 113 then some (.aload_n 2, 1, []) else none))) else (bif Nat.blt pc 120 then (bif Nat.blt pc 117 then (bif Nat.beq pc 114 then some (.invokevirtual 146, 3, [0, 20, 1, 461, 1, 2, 0]) else none) else (bif Nat.beq pc 117 then some (.iinc 1 1, 3, []) else none)) else (bif Nat.blt pc 123 then (bif Nat.beq pc 120 then some (.goto (-115), 3, [5]) else none) else (bif Nat.beq pc 123 then some (.return_, 1, []) else none))))))
/-- X2_placeOf -/
def I_X2_placeOf (pc : Nat) : Option IE := bif Nat.blt pc 6 then (bif Nat.blt pc 4 then (bif Nat.blt pc 1 then (bif Nat.beq pc 0 then some (.iload_n 0, 1, []) else none) else (bif Nat.beq pc 1 then some (.invokestatic 197, 3, [1, 1, 1, 430, 9, 7, 3]) else none)) else (bif Nat.blt pc 5 then (bif Nat.beq pc 4 then some (.f2i, 1, []) else none) else (bif Nat.beq pc 5 then some (.iload_n 1, 1, []) else none))) else (bif Nat.blt pc 9 then (bif Nat.blt pc 7 then (bif Nat.beq pc 6 then some (.iadd, 1, []) else none) else (bif Nat.beq pc 7 then some (.bipush 16, 2, []) else none)) else (bif Nat.blt pc 12 then (bif Nat.beq pc 9 then some (.invokestatic 201, 3, [1, 192, 2, 436, 9, 3, 1]) else none) else (bif Nat.beq pc 12 then some (.ireturn, 1, [0]) else none)))
/-- X3_init -/
def I_X3_init (pc : Nat) : Option IE := bif Nat.blt pc 5 then (bif Nat.blt pc 1 then (bif Nat.beq pc 0 then some (.aload_n 0, 1, []) else none) else (bif Nat.blt pc 4 then (bif Nat.beq pc 1 then some (.invokespecial 3, 3, [3, 0, 0, 166]) else none) else (bif Nat.beq pc 4 then some (.aload_n 0, 1, []) else none))) else (bif Nat.blt pc 9 then (bif Nat.blt pc 7 then (bif Nat.beq pc 5 then some (.bipush 120, 2, []) else none) else (bif Nat.beq pc 7 then some (.newarray .char, 2, [5, 175]) else none)) else (bif Nat.blt pc 12 then (bif Nat.beq pc 9 then some (.putfield 9, 3, [2, 0, 1, 167]) else none) else (bif Nat.beq pc 12 then some (.return_, 1, []) else none)))
/-- X3_add -/
def I_X3_add (pc : Nat) : Option IE := bif Nat.blt pc 23 then (bif Nat.blt pc 11 then (bif Nat.blt pc 4 then (bif Nat.blt pc 1 then (bif Nat.beq pc 0 then some (.aload_n 0, 1, []) else none) else (bif Nat.beq pc 1 then some (.getfield 15, 3, [2, 1, 0, 168]) else none)) else (bif Nat.blt pc 7 then (bif Nat.beq pc 4 then some (.ifCond .lt 35, 3, [39]) else none) else (bif Nat.blt pc 8 then (bif Nat.beq pc 7 then some (.aload_n 0, 1, []) else none) else (bif Nat.beq pc 8 then some (.getfield 15, 3, [2, 1, 0, 168]) else none)))) else (bif Nat.blt pc 16 then (bif Nat.blt pc 12 then (bif Nat.beq pc 11 then some (.aload_n 0, 1, []) else none) else (bif Nat.blt pc 15 then (bif Nat.beq pc 12 then some (.getfield 9, 3, [2, 0, 1, 167]) else none) else (bif Nat.beq pc 15 then some (.arraylength, 1, []) else none))) else (bif Nat.blt pc 19 then (bif Nat.beq pc 16 then some (.if_icmp .ge 23, 3, [39]) else none) else (bif Nat.blt pc 20 then (bif Nat.beq pc 19 then some (.aload_n 0, 1, []) else none) else (bif Nat.beq pc 20 then some (.getfield 9, 3, [2, 0, 1, 167]) else none))))) else (bif Nat.blt pc 30 then (bif Nat.blt pc 27 then (bif Nat.blt pc 24 then (bif Nat.beq pc 23 then some (.aload_n 0, 1, []) else none) else (bif Nat.beq pc 24 then some (.getfield 15, 3, [2, 1, 0, 168]) else none)) else (bif Nat.blt pc 28 then (bif Nat.beq pc 27 then some (.iload_n 1, 1, []) else none) else (bif Nat.blt pc 29 then (bif Nat.beq pc 28 then some (.castore, 1, []) else none) else (bif Nat.beq pc 29 then some (.aload_n 0, 1, []) else none)))) else (bif Nat.blt pc 35 then (bif Nat.blt pc 31 then (bif Nat.beq pc 30 then some (.dup, 1, []) else none) else (bif Nat.blt pc 34 then (bif Nat.beq pc 31 then some (.getfield 15, 3, [2, 1, 0, 168]) else none) else (bif Nat.beq pc 34 then some (.iconst 1, 1, []) else none))) else (bif Nat.blt pc 36 then (bif Nat.beq pc 35 then some (.iadd, 1, []) else none) else (bif Nat.blt pc 39 then (bif Nat.beq pc 36 then some (.putfield 15, 3, [2, 1, 0, 168]) else none) else (bif Nat.beq pc 39 then some (.return_, 1, []) else none)))))
/-- X3_signAt -/
def I_X3_signAt (pc : Nat) : Option IE := bif Nat.blt pc 17 then (bif Nat.blt pc 6 then (bif Nat.blt pc 4 then (bif Nat.blt pc 1 then (bif Nat.beq pc 0 then some (.iload_n 1, 1, []) else none) else (bif Nat.beq pc 1 then some (.ifCond .lt 29, 3, [30]) else none)) else (bif Nat.blt pc 5 then (bif Nat.beq pc 4 then some (.iload_n 1, 1, []) else none) else (bif Nat.beq pc 5 then some (.aload_n 0, 1, []) else none))) else (bif Nat.blt pc 12 then (bif Nat.blt pc 9 then (bif Nat.beq pc 6 then some (.getfield 15, 3, [2, 1, 0, 168]) else none) else (bif Nat.beq pc 9 then some (.if_icmp .ge 21, 3, [30]) else none)) else (bif Nat.blt pc 13 then (bif Nat.beq pc 12 then some (.iload_n 1, 1, []) else none) else (bif Nat.blt pc 14 then (bif Nat.beq pc 13 then some (.aload_n 0, 1, []) else none) else (bif Nat.beq pc 14 then some (.getfield 9, 3, [2, 0, 1, 167]) else none))))) else (bif Nat.blt pc 25 then (bif Nat.blt pc 21 then (bif Nat.blt pc 18 then (bif Nat.beq pc 17 then some (.arraylength, 1, []) else none) else (bif Nat.beq pc 18 then some (.if_icmp .ge 12, 3, [30]) else none)) else (bif Nat.blt pc 22 then (bif Nat.beq pc 21 then some (.aload_n 0, 1, []) else none) else (bif Nat.beq pc 22 then some (.getfield 9, 3, [2, 0, 1, 167]) else none))) else (bif Nat.blt pc 27 then (bif Nat.blt pc 26 then (bif Nat.beq pc 25 then some (.iload_n 1, 1, []) else none) else (bif Nat.beq pc 26 then some (.caload, 1, []) else none)) else (bif Nat.blt pc 30 then (bif Nat.beq pc 27 then some (.goto 4, 3, [31]) else none) else (bif Nat.blt pc 31 then (bif Nat.beq pc 30 then some (.iconst 0, 1, []) else none) else (bif Nat.beq pc 31 then some (.ireturn, 1, [2]) else none)))))
/-- X3_isComplete -/
def I_X3_isComplete (pc : Nat) : Option IE := bif Nat.blt pc 21 then (bif Nat.blt pc 6 then (bif Nat.blt pc 3 then (bif Nat.blt pc 1 then (bif Nat.beq pc 0 then some (.iconst 1, 1, []) else none) else (bif Nat.blt pc 2 then (bif Nat.beq pc 1 then some (.istore_n 1, 1, []) else none) else (bif Nat.beq pc 2 then some (.iconst 0, 1, []) else none))) else (bif Nat.blt pc 4 then (bif Nat.beq pc 3 then some (.istore_n 2, 1, []) else none) else (bif Nat.blt pc 5 then (bif Nat.beq pc 4 then some (.iload_n 2, 1, []) else none) else (bif Nat.beq pc 5 then some (.aload_n 0, 1, []) else none)))) else (bif Nat.blt pc 13 then (bif Nat.blt pc 9 then (bif Nat.beq pc 6 then some (.getfield 15, 3, [2, 1, 0, 168]) else none) else (bif Nat.blt pc 12 then (bif Nat.beq pc 9 then some (.if_icmp .ge 19, 3, [28]) else none) else (bif Nat.beq pc 12 then some (.iload_n 1, 1, []) else none))) else (bif Nat.blt pc 15 then (bif Nat.blt pc 14 then (bif Nat.beq pc 13 then some (.aload_n 0, 1, []) else none) else (bif Nat.beq pc 14 then some (.iload_n 2, 1, []) else none)) else (bif Nat.blt pc 18 then (bif Nat.beq pc 15 then some (.invokevirtual 19, 3, [0, 45, 1, 648, 2, 2, 1]) else none) else (bif Nat.beq pc 18 then some (.invokestatic 23, 3, [1, 57, 2, 652, 2, 2, 1]) else none))))) else (bif Nat.blt pc 33 then (bif Nat.blt pc 28 then (bif Nat.blt pc 22 then (bif Nat.beq pc 21 then some (.istore_n 1, 1, []) else none) else (bif Nat.blt pc 25 then (bif Nat.beq pc 22 then some (.iinc 2 1, 3, []) else none) else (bif Nat.beq pc 25 then some (.goto (-21), 3, [4]) else none))) else (bif Nat.blt pc 29 then (bif Nat.beq pc 28 then some (.iload_n 1, 1, []) else none) else (bif Nat.blt pc 30 then (bif Nat.beq pc 29 then some (.iconst 5, 1, []) else none) else (bif Nat.beq pc 30 then some (.if_icmp .eq 9, 3, [39]) else none)))) else (bif Nat.blt pc 39 then (bif Nat.blt pc 34 then (bif Nat.beq pc 33 then some (.iload_n 1, 1, []) else none) else (bif Nat.blt pc 36 then (bif Nat.beq pc 34 then some (.bipush 6, 2, []) else none) else (bif Nat.beq pc 36 then some (.if_icmp .ne 7, 3, [43]) else none))) else (bif Nat.blt pc 43 then (bif Nat.blt pc 40 then (bif Nat.beq pc 39 then some (.iconst 1, 1, []) else none) else (bif Nat.beq pc 40 then some (.goto 4, 3, [44]) else none)) else (bif Nat.blt pc 44 then (bif Nat.beq pc 43 then some (.iconst 0, 1, []) else none) else (bif Nat.beq pc 44 then some (.ireturn, 1, [1]) else none)))))
/-- X3_instructions -/
def I_X3_instructions (pc : Nat) : Option IE := bif Nat.blt pc 14 then (bif Nat.blt pc 5 then (bif Nat.blt pc 2 then (bif Nat.blt pc 1 then (bif Nat.beq pc 0 then some (.iconst 0, 1, []) else none) else (bif Nat.beq pc 1 then some (.istore_n 1, 1, []) else none)) else (bif Nat.blt pc 3 then (bif Nat.beq pc 2 then some (.iconst 0, 1, []) else none) else (bif Nat.blt pc 4 then (bif Nat.beq pc 3 then some (.istore_n 2, 1, []) else none) else (bif Nat.beq pc 4 then some (.iload_n 2, 1, []) else none)))) else (bif Nat.blt pc 9 then (bif Nat.blt pc 6 then (bif Nat.beq pc 5 then some (.aload_n 0, 1, []) else none) else (bif Nat.beq pc 6 then some (.getfield 15, 3, [2, 1, 0, 168]) else none)) else (bif Nat.blt pc 12 then (bif Nat.beq pc 9 then some (.if_icmp .ge 22, 3, [31]) else none) else (bif Nat.blt pc 13 then (bif Nat.beq pc 12 then some (.aload_n 0, 1, []) else none) else (bif Nat.beq pc 13 then some (.iload_n 2, 1, []) else none))))) else (bif Nat.blt pc 28 then (bif Nat.blt pc 19 then (bif Nat.blt pc 17 then (bif Nat.beq pc 14 then some (.invokevirtual 19, 3, [0, 45, 1, 648, 2, 2, 1]) else none) else (bif Nat.beq pc 17 then some (.bipush 59, 2, []) else none)) else (bif Nat.blt pc 22 then (bif Nat.beq pc 19 then some (.if_icmp .ne 6, 3, [25]) else none) else (bif Nat.blt pc 25 then (bif Nat.beq pc 22 then some (.iinc 1 1, 3, []) else none) else (bif Nat.beq pc 25 then some (.iinc 2 1, 3, []) else none)))) else (bif Nat.blt pc 32 then (bif Nat.blt pc 31 then (bif Nat.beq pc 28 then some (.goto (-24), 3, [4]) else none) else (bif Nat.beq pc 31 then some (.iload_n 1, 1, []) else none)) else (bif Nat.blt pc 33 then (bif Nat.beq pc 32 then some (.iconst 1, 1, []) else none) else (bif Nat.blt pc 34 then (bif Nat.beq pc 33 then some (.iadd, 1, []) else none) else (bif Nat.beq pc 34 then some (.ireturn, 1, [0]) else none)))))
/-- X3_nextInstruction -/
def I_X3_nextInstruction (pc : Nat) : Option IE := bif Nat.blt pc 17 then (bif Nat.blt pc 7 then (bif Nat.blt pc 2 then (bif Nat.blt pc 1 then (bif Nat.beq pc 0 then some (.iload_n 1, 1, []) else none) else (bif Nat.beq pc 1 then some (.istore_n 2, 1, []) else none)) else (bif Nat.blt pc 3 then (bif Nat.beq pc 2 then some (.iload_n 2, 1, []) else none) else (bif Nat.blt pc 4 then (bif Nat.beq pc 3 then some (.aload_n 0, 1, []) else none) else (bif Nat.beq pc 4 then some (.getfield 15, 3, [2, 1, 0, 168]) else none)))) else (bif Nat.blt pc 11 then (bif Nat.blt pc 10 then (bif Nat.beq pc 7 then some (.if_icmp .ge 23, 3, [30]) else none) else (bif Nat.beq pc 10 then some (.aload_n 0, 1, []) else none)) else (bif Nat.blt pc 12 then (bif Nat.beq pc 11 then some (.iload_n 2, 1, []) else none) else (bif Nat.blt pc 15 then (bif Nat.beq pc 12 then some (.invokevirtual 19, 3, [0, 45, 1, 648, 2, 2, 1]) else none) else (bif Nat.beq pc 15 then some (.bipush 59, 2, []) else none))))) else (bif Nat.blt pc 24 then (bif Nat.blt pc 21 then (bif Nat.blt pc 20 then (bif Nat.beq pc 17 then some (.if_icmp .ne 7, 3, [24]) else none) else (bif Nat.beq pc 20 then some (.iload_n 2, 1, []) else none)) else (bif Nat.blt pc 22 then (bif Nat.beq pc 21 then some (.iconst 1, 1, []) else none) else (bif Nat.blt pc 23 then (bif Nat.beq pc 22 then some (.iadd, 1, []) else none) else (bif Nat.beq pc 23 then some (.ireturn, 1, [0]) else none)))) else (bif Nat.blt pc 30 then (bif Nat.blt pc 27 then (bif Nat.beq pc 24 then some (.iinc 2 1, 3, []) else none) else (bif Nat.beq pc 27 then some (.goto (-25), 3, [2]) else none)) else (bif Nat.blt pc 31 then (bif Nat.beq pc 30 then some (.aload_n 0, 1, []) else none) else (bif Nat.blt pc 34 then (bif Nat.beq pc 31 then some (.getfield 15, 3, [2, 1, 0, 168]) else none) else (bif Nat.beq pc 34 then some (.ireturn, 1, [0]) else none)))))
/-- X3_readInstruction -/
def I_X3_readInstruction (pc : Nat) : Option IE := bif Nat.blt pc 80 then (bif Nat.blt pc 40 then (bif Nat.blt pc 17 then (bif Nat.blt pc 11 then (bif Nat.blt pc 5 then (bif Nat.blt pc 1 then (bif Nat.beq pc 0 then some (.aload_n 0, 1, []) else none) else (bif Nat.blt pc 2 then (bif Nat.beq pc 1 then some (.iload_n 1, 1, []) else none) else (bif Nat.beq pc 2 then some (.invokevirtual 19, 3, [0, 45, 1, 648, 2, 2, 1]) else none))) else (bif Nat.blt pc 7 then (bif Nat.beq pc 5 then some (.bipush 91, 2, []) else none) else (bif Nat.blt pc 10 then (bif Nat.beq pc 7 then some (.if_icmp .ne 33, 3, [40]) else none) else (bif Nat.beq pc 10 then some (.aload_n 2, 1, []) else none)))) else (bif Nat.blt pc 14 then (bif Nat.blt pc 12 then (bif Nat.beq pc 11 then some (.iconst 4, 1, []) else none) else (bif Nat.blt pc 13 then (bif Nat.beq pc 12 then some (.iconst (-1), 1, []) else none) else (bif Nat.beq pc 13 then some (.aload_n 0, 1, []) else none))) else (bif Nat.blt pc 15 then (bif Nat.beq pc 14 then some (.iload_n 1, 1, []) else none) else (bif Nat.blt pc 16 then (bif Nat.beq pc 15 then some (.iconst 1, 1, []) else none) else (bif Nat.beq pc 16 then some (.iadd, 1, []) else none))))) else (bif Nat.blt pc 27 then (bif Nat.blt pc 22 then (bif Nat.blt pc 20 then (bif Nat.beq pc 17 then some (.invokevirtual 27, 3, [0, 51, 1, 687, 2, 2, 1]) else none) else (bif Nat.blt pc 21 then (bif Nat.beq pc 20 then some (.aload_n 0, 1, []) else none) else (bif Nat.beq pc 21 then some (.iload_n 1, 1, []) else none))) else (bif Nat.blt pc 23 then (bif Nat.beq pc 22 then some (.iconst 5, 1, []) else none) else (bif Nat.blt pc 24 then (bif Nat.beq pc 23 then some (.iadd, 1, []) else none) else (bif Nat.beq pc 24 then some (.invokevirtual 27, 3, [0, 51, 1, 687, 2, 2, 1]) else none)))) else (bif Nat.blt pc 30 then (bif Nat.blt pc 28 then (bif Nat.beq pc 27 then some (.aload_n 0, 1, []) else none) else (bif Nat.blt pc 29 then (bif Nat.beq pc 28 then some (.iload_n 1, 1, []) else none) else (bif Nat.beq pc 29 then some (.iconst 2, 1, []) else none))) else (bif Nat.blt pc 34 then (bif Nat.blt pc 31 then (bif Nat.beq pc 30 then some (.iadd, 1, []) else none) else (bif Nat.beq pc 31 then some (.invokevirtual 31, 3, [0, 52, 1, 691, 2, 2, 1]) else none)) else (bif Nat.blt pc 37 then (bif Nat.beq pc 34 then some (.invokevirtual 34, 3, [0, 7, 5, 695, 0, 6, 0]) else none) else (bif Nat.beq pc 37 then some (.goto 121, 3, [158]) else none)))))) else (bif Nat.blt pc 59 then (bif Nat.blt pc 49 then (bif Nat.blt pc 43 then (bif Nat.blt pc 41 then (bif Nat.beq pc 40 then some (.aload_n 0, 1, []) else none) else (bif Nat.blt pc 42 then (bif Nat.beq pc 41 then some (.iload_n 1, 1, []) else none) else (bif Nat.beq pc 42 then some (.iconst 2, 1, []) else none))) else (bif Nat.blt pc 44 then (bif Nat.beq pc 43 then some (.iadd, 1, []) else none) else (bif Nat.blt pc 47 then (bif Nat.beq pc 44 then some (.invokevirtual 19, 3, [0, 45, 1, 648, 2, 2, 1]) else none) else (bif Nat.beq pc 47 then some (.bipush 91, 2, []) else none)))) else (bif Nat.blt pc 54 then (bif Nat.blt pc 52 then (bif Nat.beq pc 49 then some (.if_icmp .ne 31, 3, [80]) else none) else (bif Nat.blt pc 53 then (bif Nat.beq pc 52 then some (.aload_n 2, 1, []) else none) else (bif Nat.beq pc 53 then some (.iconst 3, 1, []) else none))) else (bif Nat.blt pc 55 then (bif Nat.beq pc 54 then some (.aload_n 0, 1, []) else none) else (bif Nat.blt pc 56 then (bif Nat.beq pc 55 then some (.iload_n 1, 1, []) else none) else (bif Nat.beq pc 56 then some (.invokevirtual 27, 3, [0, 51, 1, 687, 2, 2, 1]) else none))))) else (bif Nat.blt pc 67 then (bif Nat.blt pc 62 then (bif Nat.blt pc 60 then (bif Nat.beq pc 59 then some (.aload_n 0, 1, []) else none) else (bif Nat.blt pc 61 then (bif Nat.beq pc 60 then some (.iload_n 1, 1, []) else none) else (bif Nat.beq pc 61 then some (.iconst 3, 1, []) else none))) else (bif Nat.blt pc 63 then (bif Nat.beq pc 62 then some (.iadd, 1, []) else none) else (bif Nat.blt pc 66 then (bif Nat.beq pc 63 then some (.invokevirtual 27, 3, [0, 51, 1, 687, 2, 2, 1]) else none) else (bif Nat.beq pc 66 then some (.iconst (-1), 1, []) else none)))) else (bif Nat.blt pc 70 then (bif Nat.blt pc 68 then (bif Nat.beq pc 67 then some (.aload_n 0, 1, []) else none) else (bif Nat.blt pc 69 then (bif Nat.beq pc 68 then some (.iload_n 1, 1, []) else none) else (bif Nat.beq pc 69 then some (.iconst 4, 1, []) else none))) else (bif Nat.blt pc 74 then (bif Nat.blt pc 71 then (bif Nat.beq pc 70 then some (.iadd, 1, []) else none) else (bif Nat.beq pc 71 then some (.invokevirtual 31, 3, [0, 52, 1, 691, 2, 2, 1]) else none)) else (bif Nat.blt pc 77 then (bif Nat.beq pc 74 then some (.invokevirtual 34, 3, [0, 7, 5, 695, 0, 6, 0]) else none) else (bif Nat.beq pc 77 then some (.goto 81, 3, [158]) else none))))))) else (bif Nat.blt pc 120 then (bif Nat.blt pc 100 then (bif Nat.blt pc 90 then (bif Nat.blt pc 83 then (bif Nat.blt pc 81 then (bif Nat.beq pc 80 then some (.aload_n 0, 1, []) else none) else (bif Nat.blt pc 82 then (bif Nat.beq pc 81 then some (.iload_n 1, 1, []) else none) else (bif Nat.beq pc 82 then some (.iconst 2, 1, []) else none))) else (bif Nat.blt pc 84 then (bif Nat.beq pc 83 then some (.iadd, 1, []) else none) else (bif Nat.blt pc 87 then (bif Nat.beq pc 84 then some (.invokevirtual 19, 3, [0, 45, 1, 648, 2, 2, 1]) else none) else (bif Nat.beq pc 87 then some (.invokestatic 40, 3, [1, 55, 1, 658, 2, 1, 1]) else none)))) else (bif Nat.blt pc 95 then (bif Nat.blt pc 93 then (bif Nat.beq pc 90 then some (.ifCond .eq 49, 3, [139]) else none) else (bif Nat.blt pc 94 then (bif Nat.beq pc 93 then some (.aload_n 0, 1, []) else none) else (bif Nat.beq pc 94 then some (.iload_n 1, 1, []) else none))) else (bif Nat.blt pc 96 then (bif Nat.beq pc 95 then some (.iconst 3, 1, []) else none) else (bif Nat.blt pc 97 then (bif Nat.beq pc 96 then some (.iadd, 1, []) else none) else (bif Nat.beq pc 97 then some (.invokevirtual 19, 3, [0, 45, 1, 648, 2, 2, 1]) else none))))) else (bif Nat.blt pc 111 then (bif Nat.blt pc 106 then (bif Nat.blt pc 102 then (bif Nat.beq pc 100 then some (.bipush 43, 2, []) else none) else (bif Nat.blt pc 105 then (bif Nat.beq pc 102 then some (.if_icmp .ne 7, 3, [109]) else none) else (bif Nat.beq pc 105 then some (.iconst 1, 1, []) else none))) else (bif Nat.blt pc 109 then (bif Nat.beq pc 106 then some (.goto 4, 3, [110]) else none) else (bif Nat.blt pc 110 then (bif Nat.beq pc 109 then some (.iconst 2, 1, []) else none) else (bif Nat.beq pc 110 then some (.istore_n 3, 1, []) else none)))) else (bif Nat.blt pc 114 then (bif Nat.blt pc 112 then (bif Nat.beq pc 111 then some (.aload_n 2, 1, []) else none) else (bif Nat.blt pc 113 then (bif Nat.beq pc 112 then some (.iload_n 3, 1, []) else none) else (bif Nat.beq pc 113 then some (.aload_n 0, 1, []) else none))) else (bif Nat.blt pc 118 then (bif Nat.blt pc 115 then (bif Nat.beq pc 114 then some (.iload_n 1, 1, []) else none) else (bif Nat.beq pc 115 then some (.invokevirtual 27, 3, [0, 51, 1, 687, 2, 2, 1]) else none)) else (bif Nat.blt pc 119 then (bif Nat.beq pc 118 then some (.aload_n 0, 1, []) else none) else (bif Nat.beq pc 119 then some (.iload_n 1, 1, []) else none)))))) else (bif Nat.blt pc 140 then (bif Nat.blt pc 128 then (bif Nat.blt pc 125 then (bif Nat.blt pc 121 then (bif Nat.beq pc 120 then some (.iconst 2, 1, []) else none) else (bif Nat.blt pc 122 then (bif Nat.beq pc 121 then some (.iadd, 1, []) else none) else (bif Nat.beq pc 122 then some (.invokevirtual 27, 3, [0, 51, 1, 687, 2, 2, 1]) else none))) else (bif Nat.blt pc 126 then (bif Nat.beq pc 125 then some (.aload_n 0, 1, []) else none) else (bif Nat.blt pc 127 then (bif Nat.beq pc 126 then some (.iload_n 1, 1, []) else none) else (bif Nat.beq pc 127 then some (.iconst 4, 1, []) else none)))) else (bif Nat.blt pc 133 then (bif Nat.blt pc 129 then (bif Nat.beq pc 128 then some (.iadd, 1, []) else none) else (bif Nat.blt pc 132 then (bif Nat.beq pc 129 then some (.invokevirtual 27, 3, [0, 51, 1, 687, 2, 2, 1]) else none) else (bif Nat.beq pc 132 then some (.iconst 0, 1, []) else none))) else (bif Nat.blt pc 136 then (bif Nat.beq pc 133 then some (.invokevirtual 34, 3, [0, 7, 5, 695, 0, 6, 0]) else none) else (bif Nat.blt pc 139 then (bif Nat.beq pc 136 then some (.goto 22, 3, [158]) else none) else (bif Nat.beq pc 139 then some (.aload_n 2, 1, []) else none))))) else (bif Nat.blt pc 148 then (bif Nat.blt pc 143 then (bif Nat.blt pc 141 then (bif Nat.beq pc 140 then some (.iconst 0, 1, []) else none) else (bif Nat.blt pc 142 then (bif Nat.beq pc 141 then some (.aload_n 0, 1, []) else none) else (bif Nat.beq pc 142 then some (.iload_n 1, 1, []) else none))) else (bif Nat.blt pc 146 then (bif Nat.beq pc 143 then some (.invokevirtual 27, 3, [0, 51, 1, 687, 2, 2, 1]) else none) else (bif Nat.blt pc 147 then (bif Nat.beq pc 146 then some (.iconst (-1), 1, []) else none) else (bif Nat.beq pc 147 then some (.iconst (-1), 1, []) else none)))) else (bif Nat.blt pc 151 then (bif Nat.blt pc 149 then (bif Nat.beq pc 148 then some (.aload_n 0, 1, []) else none) else (bif Nat.blt pc 150 then (bif Nat.beq pc 149 then some (.iload_n 1, 1, []) else none) else (bif Nat.beq pc 150 then some (.iconst 2, 1, []) else none))) else (bif Nat.blt pc 155 then (bif Nat.blt pc 152 then (bif Nat.beq pc 151 then some (.iadd, 1, []) else none) else (bif Nat.beq pc 152 then some (.invokevirtual 44, 3, [0, 53, 1, 696, 2, 4, 1]) else none)) else (bif Nat.blt pc 158 then (bif Nat.beq pc 155 then some (.invokevirtual 34, 3, [0, 7, 5, 695, 0, 6, 0]) else none) else (bif Nat.beq pc 158 then some (.return_, 1, []) else none)))))))
/-- X3_registerAt -/
def I_X3_registerAt (pc : Nat) : Option IE := bif Nat.blt pc 5 then (bif Nat.blt pc 1 then (bif Nat.beq pc 0 then some (.aload_n 0, 1, []) else none) else (bif Nat.blt pc 2 then (bif Nat.beq pc 1 then some (.iload_n 1, 1, []) else none) else (bif Nat.beq pc 2 then some (.invokevirtual 19, 3, [0, 45, 1, 648, 2, 2, 1]) else none))) else (bif Nat.blt pc 7 then (bif Nat.beq pc 5 then some (.bipush 97, 2, []) else none) else (bif Nat.blt pc 8 then (bif Nat.beq pc 7 then some (.isub, 1, []) else none) else (bif Nat.beq pc 8 then some (.ireturn, 1, [0]) else none)))
/-- X3_digitAt -/
def I_X3_digitAt (pc : Nat) : Option IE := bif Nat.blt pc 5 then (bif Nat.blt pc 1 then (bif Nat.beq pc 0 then some (.aload_n 0, 1, []) else none) else (bif Nat.blt pc 2 then (bif Nat.beq pc 1 then some (.iload_n 1, 1, []) else none) else (bif Nat.beq pc 2 then some (.invokevirtual 19, 3, [0, 45, 1, 648, 2, 2, 1]) else none))) else (bif Nat.blt pc 7 then (bif Nat.beq pc 5 then some (.bipush 48, 2, []) else none) else (bif Nat.blt pc 8 then (bif Nat.beq pc 7 then some (.isub, 1, []) else none) else (bif Nat.beq pc 8 then some (.ireturn, 1, [0]) else none)))
/-- X3_numberAt -/
def I_X3_numberAt (pc : Nat) : Option IE := bif Nat.blt pc 31 then (bif Nat.blt pc 17 then (bif Nat.blt pc 10 then (bif Nat.blt pc 2 then (bif Nat.blt pc 1 then (bif Nat.beq pc 0 then some (.aload_n 0, 1, []) else none) else (bif Nat.beq pc 1 then some (.iload_n 1, 1, []) else none)) else (bif Nat.blt pc 5 then (bif Nat.beq pc 2 then some (.invokevirtual 19, 3, [0, 45, 1, 648, 2, 2, 1]) else none) else (bif Nat.blt pc 7 then (bif Nat.beq pc 5 then some (.bipush 45, 2, []) else none) else (bif Nat.beq pc 7 then some (.if_icmp .ne 9, 3, [16]) else none)))) else (bif Nat.blt pc 12 then (bif Nat.blt pc 11 then (bif Nat.beq pc 10 then some (.iload_n 1, 1, []) else none) else (bif Nat.beq pc 11 then some (.iconst 1, 1, []) else none)) else (bif Nat.blt pc 13 then (bif Nat.beq pc 12 then some (.iadd, 1, []) else none) else (bif Nat.blt pc 16 then (bif Nat.beq pc 13 then some (.goto 4, 3, [17]) else none) else (bif Nat.beq pc 16 then some (.iload_n 1, 1, []) else none))))) else (bif Nat.blt pc 24 then (bif Nat.blt pc 19 then (bif Nat.blt pc 18 then (bif Nat.beq pc 17 then some (.istore_n 2, 1, []) else none) else (bif Nat.beq pc 18 then some (.aload_n 0, 1, []) else none)) else (bif Nat.blt pc 20 then (bif Nat.beq pc 19 then some (.iload_n 2, 1, []) else none) else (bif Nat.blt pc 23 then (bif Nat.beq pc 20 then some (.invokevirtual 31, 3, [0, 52, 1, 691, 2, 2, 1]) else none) else (bif Nat.beq pc 23 then some (.istore_n 3, 1, []) else none)))) else (bif Nat.blt pc 26 then (bif Nat.blt pc 25 then (bif Nat.beq pc 24 then some (.aload_n 0, 1, []) else none) else (bif Nat.beq pc 25 then some (.iload_n 2, 1, []) else none)) else (bif Nat.blt pc 27 then (bif Nat.beq pc 26 then some (.iconst 1, 1, []) else none) else (bif Nat.blt pc 28 then (bif Nat.beq pc 27 then some (.iadd, 1, []) else none) else (bif Nat.beq pc 28 then some (.invokevirtual 19, 3, [0, 45, 1, 648, 2, 2, 1]) else none)))))) else (bif Nat.blt pc 48 then (bif Nat.blt pc 41 then (bif Nat.blt pc 37 then (bif Nat.blt pc 34 then (bif Nat.beq pc 31 then some (.invokestatic 47, 3, [1, 56, 1, 667, 2, 1, 1]) else none) else (bif Nat.beq pc 34 then some (.ifCond .eq 16, 3, [50]) else none)) else (bif Nat.blt pc 39 then (bif Nat.beq pc 37 then some (.bipush 10, 2, []) else none) else (bif Nat.blt pc 40 then (bif Nat.beq pc 39 then some (.iload_n 3, 1, []) else none) else (bif Nat.beq pc 40 then some (.imul, 1, []) else none)))) else (bif Nat.blt pc 43 then (bif Nat.blt pc 42 then (bif Nat.beq pc 41 then some (.aload_n 0, 1, []) else none) else (bif Nat.beq pc 42 then some (.iload_n 2, 1, []) else none)) else (bif Nat.blt pc 44 then (bif Nat.beq pc 43 then some (.iconst 1, 1, []) else none) else (bif Nat.blt pc 45 then (bif Nat.beq pc 44 then some (.iadd, 1, []) else none) else (bif Nat.beq pc 45 then some (.invokevirtual 31, 3, [0, 52, 1, 691, 2, 2, 1]) else none))))) else (bif Nat.blt pc 55 then (bif Nat.blt pc 50 then (bif Nat.blt pc 49 then (bif Nat.beq pc 48 then some (.iadd, 1, []) else none) else (bif Nat.beq pc 49 then some (.istore_n 3, 1, []) else none)) else (bif Nat.blt pc 51 then (bif Nat.beq pc 50 then some (.iload_n 2, 1, []) else none) else (bif Nat.blt pc 52 then (bif Nat.beq pc 51 then some (.iload_n 1, 1, []) else none) else (bif Nat.beq pc 52 then some (.if_icmp .le 8, 3, [60]) else none)))) else (bif Nat.blt pc 57 then (bif Nat.blt pc 56 then (bif Nat.beq pc 55 then some (.iload_n 3, 1, []) else none) else (bif Nat.beq pc 56 then some (.ineg, 1, []) else none)) else (bif Nat.blt pc 60 then (bif Nat.beq pc 57 then some (.goto 4, 3, [61]) else none) else (bif Nat.blt pc 61 then (bif Nat.beq pc 60 then some (.iload_n 3, 1, []) else none) else (bif Nat.beq pc 61 then some (.ireturn, 1, [0]) else none))))))
/-- X3_isRegister -/
def I_X3_isRegister (pc : Nat) : Option IE := bif Nat.blt pc 9 then (bif Nat.blt pc 3 then (bif Nat.blt pc 1 then (bif Nat.beq pc 0 then some (.iload_n 0, 1, []) else none) else (bif Nat.beq pc 1 then some (.bipush 97, 2, []) else none)) else (bif Nat.blt pc 6 then (bif Nat.beq pc 3 then some (.if_icmp .lt 13, 3, [16]) else none) else (bif Nat.blt pc 7 then (bif Nat.beq pc 6 then some (.iload_n 0, 1, []) else none) else (bif Nat.beq pc 7 then some (.bipush 104, 2, []) else none)))) else (bif Nat.blt pc 13 then (bif Nat.blt pc 12 then (bif Nat.beq pc 9 then some (.if_icmp .gt 7, 3, [16]) else none) else (bif Nat.beq pc 12 then some (.iconst 1, 1, []) else none)) else (bif Nat.blt pc 16 then (bif Nat.beq pc 13 then some (.goto 4, 3, [17]) else none) else (bif Nat.blt pc 17 then (bif Nat.beq pc 16 then some (.iconst 0, 1, []) else none) else (bif Nat.beq pc 17 then some (.ireturn, 1, [1]) else none))))
/-- X3_isDigit -/
def I_X3_isDigit (pc : Nat) : Option IE := bif Nat.blt pc 9 then (bif Nat.blt pc 3 then (bif Nat.blt pc 1 then (bif Nat.beq pc 0 then some (.iload_n 0, 1, []) else none) else (bif Nat.beq pc 1 then some (.bipush 48, 2, []) else none)) else (bif Nat.blt pc 6 then (bif Nat.beq pc 3 then some (.if_icmp .lt 13, 3, [16]) else none) else (bif Nat.blt pc 7 then (bif Nat.beq pc 6 then some (.iload_n 0, 1, []) else none) else (bif Nat.beq pc 7 then some (.bipush 57, 2, []) else none)))) else (bif Nat.blt pc 13 then (bif Nat.blt pc 12 then (bif Nat.beq pc 9 then some (.if_icmp .gt 7, 3, [16]) else none) else (bif Nat.beq pc 12 then some (.iconst 1, 1, []) else none)) else (bif Nat.blt pc 16 then (bif Nat.beq pc 13 then some (.goto 4, 3, [17]) else none) else (bif Nat.blt pc 17 then (bif Nat.beq pc 16 then some (.iconst 0, 1, []) else none) else (bif Nat.beq pc 17 then some (.ireturn, 1, [1]) else none))))
/-- X3_next -/
def I_X3_next (pc : Nat) : Option IE := bif Nat.blt pc 159 then (bif Nat.blt pc 114 then (bif Nat.blt pc 93 then (bif Nat.blt pc 82 then (bif Nat.blt pc 76 then (bif Nat.blt pc 1 then (bif Nat.beq pc 0 then some (.iload_n 0, 1, []) else none) else (bif Nat.beq pc 1 then some (.tableswitch 243 1 15 #[75, 92, 104, 109, 114, 131, 136, 155, 162, 169, 183, 196, 203, 217, 230], 75, [244, 1, 76, 2, 93, 3, 105, 4, 110, 5, 115, 6, 132, 7, 137, 8, 156, 9, 163, 10, 170, 11, 184, 12, 197, 13, 204, 14, 218, 15, 231]) else none)) else (bif Nat.blt pc 77 then (bif Nat.beq pc 76 then some (.iload_n 1, 1, []) else none) else (bif Nat.blt pc 79 then (bif Nat.beq pc 77 then some (.bipush 91, 2, []) else none) else (bif Nat.beq pc 79 then some (.if_icmp .ne 8, 3, [87]) else none)))) else (bif Nat.blt pc 88 then (bif Nat.blt pc 84 then (bif Nat.beq pc 82 then some (.bipush 12, 2, []) else none) else (bif Nat.blt pc 87 then (bif Nat.beq pc 84 then some (.goto 8, 3, [92]) else none) else (bif Nat.beq pc 87 then some (.iload_n 1, 1, []) else none))) else (bif Nat.blt pc 89 then (bif Nat.beq pc 88 then some (.iconst 2, 1, []) else none) else (bif Nat.blt pc 92 then (bif Nat.beq pc 89 then some (.invokestatic 52, 3, [1, 58, 2, 655, 2, 2, 1]) else none) else (bif Nat.beq pc 92 then some (.ireturn, 1, [0]) else none))))) else (bif Nat.blt pc 104 then (bif Nat.blt pc 99 then (bif Nat.blt pc 94 then (bif Nat.beq pc 93 then some (.iload_n 1, 1, []) else none) else (bif Nat.blt pc 96 then (bif Nat.beq pc 94 then some (.bipush 61, 2, []) else none) else (bif Nat.beq pc 96 then some (.if_icmp .ne 7, 3, [103]) else none))) else (bif Nat.blt pc 100 then (bif Nat.beq pc 99 then some (.iconst 3, 1, []) else none) else (bif Nat.blt pc 103 then (bif Nat.beq pc 100 then some (.goto 4, 3, [104]) else none) else (bif Nat.beq pc 103 then some (.iconst 0, 1, []) else none)))) else (bif Nat.blt pc 109 then (bif Nat.blt pc 105 then (bif Nat.beq pc 104 then some (.ireturn, 1, [0]) else none) else (bif Nat.blt pc 106 then (bif Nat.beq pc 105 then some (.iload_n 1, 1, []) else none) else (bif Nat.beq pc 106 then some (.invokestatic 56, 3, [1, 59, 1, 661, 2, 1, 1]) else none))) else (bif Nat.blt pc 110 then (bif Nat.beq pc 109 then some (.ireturn, 1, [0]) else none) else (bif Nat.blt pc 111 then (bif Nat.beq pc 110 then some (.iload_n 1, 1, []) else none) else (bif Nat.beq pc 111 then some (.invokestatic 60, 3, [1, 60, 1, 664, 2, 1, 1]) else none)))))) else (bif Nat.blt pc 137 then (bif Nat.blt pc 127 then (bif Nat.blt pc 119 then (bif Nat.blt pc 115 then (bif Nat.beq pc 114 then some (.ireturn, 1, [0]) else none) else (bif Nat.blt pc 116 then (bif Nat.beq pc 115 then some (.iload_n 1, 1, []) else none) else (bif Nat.beq pc 116 then some (.invokestatic 47, 3, [1, 56, 1, 667, 2, 1, 1]) else none))) else (bif Nat.blt pc 122 then (bif Nat.beq pc 119 then some (.ifCond .eq 8, 3, [127]) else none) else (bif Nat.blt pc 124 then (bif Nat.beq pc 122 then some (.bipush 6, 2, []) else none) else (bif Nat.beq pc 124 then some (.goto 7, 3, [131]) else none)))) else (bif Nat.blt pc 132 then (bif Nat.blt pc 128 then (bif Nat.beq pc 127 then some (.iload_n 1, 1, []) else none) else (bif Nat.blt pc 131 then (bif Nat.beq pc 128 then some (.invokestatic 63, 3, [1, 61, 1, 670, 2, 1, 1]) else none) else (bif Nat.beq pc 131 then some (.ireturn, 1, [0]) else none))) else (bif Nat.blt pc 133 then (bif Nat.beq pc 132 then some (.iload_n 1, 1, []) else none) else (bif Nat.blt pc 136 then (bif Nat.beq pc 133 then some (.invokestatic 63, 3, [1, 61, 1, 670, 2, 1, 1]) else none) else (bif Nat.beq pc 136 then some (.ireturn, 1, [0]) else none))))) else (bif Nat.blt pc 149 then (bif Nat.blt pc 143 then (bif Nat.blt pc 138 then (bif Nat.beq pc 137 then some (.iload_n 1, 1, []) else none) else (bif Nat.blt pc 140 then (bif Nat.beq pc 138 then some (.bipush 43, 2, []) else none) else (bif Nat.beq pc 140 then some (.if_icmp .eq 9, 3, [149]) else none))) else (bif Nat.blt pc 144 then (bif Nat.beq pc 143 then some (.iload_n 1, 1, []) else none) else (bif Nat.blt pc 146 then (bif Nat.beq pc 144 then some (.bipush 42, 2, []) else none) else (bif Nat.beq pc 146 then some (.if_icmp .ne 8, 3, [154]) else none)))) else (bif Nat.blt pc 155 then (bif Nat.blt pc 151 then (bif Nat.beq pc 149 then some (.bipush 8, 2, []) else none) else (bif Nat.blt pc 154 then (bif Nat.beq pc 151 then some (.goto 4, 3, [155]) else none) else (bif Nat.beq pc 154 then some (.iconst 0, 1, []) else none))) else (bif Nat.blt pc 156 then (bif Nat.beq pc 155 then some (.ireturn, 1, [0]) else none) else (bif Nat.blt pc 157 then (bif Nat.beq pc 156 then some (.iload_n 1, 1, []) else none) else (bif Nat.beq pc 157 then some (.bipush 6, 2, []) else none))))))) else (bif Nat.blt pc 203 then (bif Nat.blt pc 182 then (bif Nat.blt pc 169 then (bif Nat.blt pc 163 then (bif Nat.blt pc 162 then (bif Nat.beq pc 159 then some (.invokestatic 52, 3, [1, 58, 2, 655, 2, 2, 1]) else none) else (bif Nat.beq pc 162 then some (.ireturn, 1, [0]) else none)) else (bif Nat.blt pc 164 then (bif Nat.beq pc 163 then some (.iload_n 1, 1, []) else none) else (bif Nat.blt pc 166 then (bif Nat.beq pc 164 then some (.bipush 10, 2, []) else none) else (bif Nat.beq pc 166 then some (.invokestatic 52, 3, [1, 58, 2, 655, 2, 2, 1]) else none)))) else (bif Nat.blt pc 174 then (bif Nat.blt pc 170 then (bif Nat.beq pc 169 then some (.ireturn, 1, [0]) else none) else (bif Nat.blt pc 171 then (bif Nat.beq pc 170 then some (.iload_n 1, 1, []) else none) else (bif Nat.beq pc 171 then some (.invokestatic 47, 3, [1, 56, 1, 667, 2, 1, 1]) else none))) else (bif Nat.blt pc 177 then (bif Nat.beq pc 174 then some (.ifCond .eq 8, 3, [182]) else none) else (bif Nat.blt pc 179 then (bif Nat.beq pc 177 then some (.bipush 11, 2, []) else none) else (bif Nat.beq pc 179 then some (.goto 4, 3, [183]) else none))))) else (bif Nat.blt pc 192 then (bif Nat.blt pc 185 then (bif Nat.blt pc 183 then (bif Nat.beq pc 182 then some (.iconst 0, 1, []) else none) else (bif Nat.blt pc 184 then (bif Nat.beq pc 183 then some (.ireturn, 1, [0]) else none) else (bif Nat.beq pc 184 then some (.iload_n 1, 1, []) else none))) else (bif Nat.blt pc 187 then (bif Nat.beq pc 185 then some (.bipush 93, 2, []) else none) else (bif Nat.blt pc 190 then (bif Nat.beq pc 187 then some (.if_icmp .ne 8, 3, [195]) else none) else (bif Nat.beq pc 190 then some (.bipush 6, 2, []) else none)))) else (bif Nat.blt pc 197 then (bif Nat.blt pc 195 then (bif Nat.beq pc 192 then some (.goto 4, 3, [196]) else none) else (bif Nat.blt pc 196 then (bif Nat.beq pc 195 then some (.iconst 0, 1, []) else none) else (bif Nat.beq pc 196 then some (.ireturn, 1, [0]) else none))) else (bif Nat.blt pc 198 then (bif Nat.beq pc 197 then some (.iload_n 1, 1, []) else none) else (bif Nat.blt pc 200 then (bif Nat.beq pc 198 then some (.bipush 13, 2, []) else none) else (bif Nat.beq pc 200 then some (.invokestatic 52, 3, [1, 58, 2, 655, 2, 2, 1]) else none)))))) else (bif Nat.blt pc 226 then (bif Nat.blt pc 216 then (bif Nat.blt pc 208 then (bif Nat.blt pc 204 then (bif Nat.beq pc 203 then some (.ireturn, 1, [0]) else none) else (bif Nat.blt pc 205 then (bif Nat.beq pc 204 then some (.iload_n 1, 1, []) else none) else (bif Nat.beq pc 205 then some (.invokestatic 47, 3, [1, 56, 1, 667, 2, 1, 1]) else none))) else (bif Nat.blt pc 211 then (bif Nat.beq pc 208 then some (.ifCond .eq 8, 3, [216]) else none) else (bif Nat.blt pc 213 then (bif Nat.beq pc 211 then some (.bipush 14, 2, []) else none) else (bif Nat.beq pc 213 then some (.goto 4, 3, [217]) else none)))) else (bif Nat.blt pc 219 then (bif Nat.blt pc 217 then (bif Nat.beq pc 216 then some (.iconst 0, 1, []) else none) else (bif Nat.blt pc 218 then (bif Nat.beq pc 217 then some (.ireturn, 1, [0]) else none) else (bif Nat.beq pc 218 then some (.iload_n 1, 1, []) else none))) else (bif Nat.blt pc 221 then (bif Nat.beq pc 219 then some (.bipush 93, 2, []) else none) else (bif Nat.blt pc 224 then (bif Nat.beq pc 221 then some (.if_icmp .ne 8, 3, [229]) else none) else (bif Nat.beq pc 224 then some (.bipush 15, 2, []) else none))))) else (bif Nat.blt pc 237 then (bif Nat.blt pc 231 then (bif Nat.blt pc 229 then (bif Nat.beq pc 226 then some (.goto 4, 3, [230]) else none) else (bif Nat.blt pc 230 then (bif Nat.beq pc 229 then some (.iconst 0, 1, []) else none) else (bif Nat.beq pc 230 then some (.ireturn, 1, [0]) else none))) else (bif Nat.blt pc 232 then (bif Nat.beq pc 231 then some (.iload_n 1, 1, []) else none) else (bif Nat.blt pc 234 then (bif Nat.beq pc 232 then some (.bipush 61, 2, []) else none) else (bif Nat.beq pc 234 then some (.if_icmp .ne 8, 3, [242]) else none)))) else (bif Nat.blt pc 243 then (bif Nat.blt pc 239 then (bif Nat.beq pc 237 then some (.bipush 8, 2, []) else none) else (bif Nat.blt pc 242 then (bif Nat.beq pc 239 then some (.goto 4, 3, [243]) else none) else (bif Nat.beq pc 242 then some (.iconst 0, 1, []) else none))) else (bif Nat.blt pc 244 then (bif Nat.beq pc 243 then some (.ireturn, 1, [0]) else none) else (bif Nat.blt pc 245 then (bif Nat.beq pc 244 then some (.iconst 0, 1, []) else none) else (bif Nat.beq pc 245 then some (.ireturn, 1, [0]) else none)))))))
/-- X3_ifRegister -/
def I_X3_ifRegister (pc : Nat) : Option IE := bif Nat.blt pc 7 then (bif Nat.blt pc 1 then (bif Nat.beq pc 0 then some (.iload_n 0, 1, []) else none) else (bif Nat.blt pc 4 then (bif Nat.beq pc 1 then some (.invokestatic 40, 3, [1, 55, 1, 658, 2, 1, 1]) else none) else (bif Nat.beq pc 4 then some (.ifCond .eq 7, 3, [11]) else none))) else (bif Nat.blt pc 11 then (bif Nat.blt pc 8 then (bif Nat.beq pc 7 then some (.iload_n 1, 1, []) else none) else (bif Nat.beq pc 8 then some (.goto 4, 3, [12]) else none)) else (bif Nat.blt pc 12 then (bif Nat.beq pc 11 then some (.iconst 0, 1, []) else none) else (bif Nat.beq pc 12 then some (.ireturn, 1, [0]) else none)))
/-- X3_nextOfRightSide -/
def I_X3_nextOfRightSide (pc : Nat) : Option IE := bif Nat.blt pc 16 then (bif Nat.blt pc 7 then (bif Nat.blt pc 3 then (bif Nat.blt pc 1 then (bif Nat.beq pc 0 then some (.iload_n 0, 1, []) else none) else (bif Nat.beq pc 1 then some (.bipush 45, 2, []) else none)) else (bif Nat.blt pc 6 then (bif Nat.beq pc 3 then some (.if_icmp .ne 5, 3, [8]) else none) else (bif Nat.beq pc 6 then some (.iconst 4, 1, []) else none))) else (bif Nat.blt pc 9 then (bif Nat.blt pc 8 then (bif Nat.beq pc 7 then some (.ireturn, 1, [0]) else none) else (bif Nat.beq pc 8 then some (.iload_n 0, 1, []) else none)) else (bif Nat.blt pc 11 then (bif Nat.beq pc 9 then some (.bipush 91, 2, []) else none) else (bif Nat.blt pc 14 then (bif Nat.beq pc 11 then some (.if_icmp .ne 6, 3, [17]) else none) else (bif Nat.beq pc 14 then some (.bipush 9, 2, []) else none))))) else (bif Nat.blt pc 24 then (bif Nat.blt pc 18 then (bif Nat.blt pc 17 then (bif Nat.beq pc 16 then some (.ireturn, 1, [0]) else none) else (bif Nat.beq pc 17 then some (.iload_n 0, 1, []) else none)) else (bif Nat.blt pc 21 then (bif Nat.beq pc 18 then some (.invokestatic 40, 3, [1, 55, 1, 658, 2, 1, 1]) else none) else (bif Nat.beq pc 21 then some (.ifCond .eq 8, 3, [29]) else none))) else (bif Nat.blt pc 29 then (bif Nat.blt pc 26 then (bif Nat.beq pc 24 then some (.bipush 7, 2, []) else none) else (bif Nat.beq pc 26 then some (.goto 7, 3, [33]) else none)) else (bif Nat.blt pc 30 then (bif Nat.beq pc 29 then some (.iload_n 0, 1, []) else none) else (bif Nat.blt pc 33 then (bif Nat.beq pc 30 then some (.invokestatic 60, 3, [1, 60, 1, 664, 2, 1, 1]) else none) else (bif Nat.beq pc 33 then some (.ireturn, 1, [0]) else none)))))
/-- X3_nextOfNumber -/
def I_X3_nextOfNumber (pc : Nat) : Option IE := bif Nat.blt pc 10 then (bif Nat.blt pc 6 then (bif Nat.blt pc 1 then (bif Nat.beq pc 0 then some (.iload_n 0, 1, []) else none) else (bif Nat.blt pc 3 then (bif Nat.beq pc 1 then some (.bipush 48, 2, []) else none) else (bif Nat.beq pc 3 then some (.if_icmp .ne 6, 3, [9]) else none))) else (bif Nat.blt pc 8 then (bif Nat.beq pc 6 then some (.bipush 6, 2, []) else none) else (bif Nat.blt pc 9 then (bif Nat.beq pc 8 then some (.ireturn, 1, [0]) else none) else (bif Nat.beq pc 9 then some (.iload_n 0, 1, []) else none)))) else (bif Nat.blt pc 17 then (bif Nat.blt pc 13 then (bif Nat.beq pc 10 then some (.invokestatic 47, 3, [1, 56, 1, 667, 2, 1, 1]) else none) else (bif Nat.blt pc 16 then (bif Nat.beq pc 13 then some (.ifCond .eq 7, 3, [20]) else none) else (bif Nat.beq pc 16 then some (.iconst 5, 1, []) else none))) else (bif Nat.blt pc 20 then (bif Nat.beq pc 17 then some (.goto 4, 3, [21]) else none) else (bif Nat.blt pc 21 then (bif Nat.beq pc 20 then some (.iconst 0, 1, []) else none) else (bif Nat.beq pc 21 then some (.ireturn, 1, [0]) else none))))
/-- X3_nextOfEnd -/
def I_X3_nextOfEnd (pc : Nat) : Option IE := bif Nat.blt pc 6 then (bif Nat.blt pc 1 then (bif Nat.beq pc 0 then some (.iload_n 0, 1, []) else none) else (bif Nat.blt pc 3 then (bif Nat.beq pc 1 then some (.bipush 59, 2, []) else none) else (bif Nat.beq pc 3 then some (.if_icmp .ne 7, 3, [10]) else none))) else (bif Nat.blt pc 10 then (bif Nat.blt pc 7 then (bif Nat.beq pc 6 then some (.iconst 1, 1, []) else none) else (bif Nat.beq pc 7 then some (.goto 4, 3, [11]) else none)) else (bif Nat.blt pc 11 then (bif Nat.beq pc 10 then some (.iconst 0, 1, []) else none) else (bif Nat.beq pc 11 then some (.ireturn, 1, [0]) else none)))
/-- X4_init -/
def I_X4_init (pc : Nat) : Option IE := bif Nat.blt pc 42 then (bif Nat.blt pc 20 then (bif Nat.blt pc 9 then (bif Nat.blt pc 4 then (bif Nat.blt pc 1 then (bif Nat.beq pc 0 then some (.aload_n 0, 1, []) else none) else (bif Nat.beq pc 1 then some (.invokespecial 1, 3, [3, 0, 0, 31]) else none)) else (bif Nat.blt pc 5 then (bif Nat.beq pc 4 then some (.aload_n 0, 1, []) else none) else (bif Nat.blt pc 8 then (bif Nat.beq pc 5 then some (.new 7, 3, [1, 34, 35]) else none) else (bif Nat.beq pc 8 then some (.dup, 1, []) else none)))) else (bif Nat.blt pc 15 then (bif Nat.blt pc 12 then (bif Nat.beq pc 9 then some (.invokespecial 9, 3, [2, 13, 0, 36, 1, 2, 0]) else none) else (bif Nat.beq pc 12 then some (.putfield 10, 3, [3, 0, 1, 176]) else none)) else (bif Nat.blt pc 16 then (bif Nat.beq pc 15 then some (.aload_n 0, 1, []) else none) else (bif Nat.blt pc 19 then (bif Nat.beq pc 16 then some (.new 7, 3, [1, 34, 35]) else none) else (bif Nat.beq pc 19 then some (.dup, 1, []) else none))))) else (bif Nat.blt pc 32 then (bif Nat.blt pc 26 then (bif Nat.blt pc 23 then (bif Nat.beq pc 20 then some (.invokespecial 9, 3, [2, 13, 0, 36, 1, 2, 0]) else none) else (bif Nat.beq pc 23 then some (.putfield 16, 3, [3, 1, 1, 177]) else none)) else (bif Nat.blt pc 27 then (bif Nat.beq pc 26 then some (.aload_n 0, 1, []) else none) else (bif Nat.blt pc 29 then (bif Nat.beq pc 27 then some (.bipush 6, 2, []) else none) else (bif Nat.beq pc 29 then some (.anewarray 7, 3, [8, 34, 160]) else none)))) else (bif Nat.blt pc 37 then (bif Nat.blt pc 35 then (bif Nat.beq pc 32 then some (.putfield 19, 3, [3, 2, 1, 178]) else none) else (bif Nat.blt pc 36 then (bif Nat.beq pc 35 then some (.iconst 0, 1, []) else none) else (bif Nat.beq pc 36 then some (.istore_n 1, 1, []) else none))) else (bif Nat.blt pc 38 then (bif Nat.beq pc 37 then some (.iload_n 1, 1, []) else none) else (bif Nat.blt pc 39 then (bif Nat.beq pc 38 then some (.aload_n 0, 1, []) else none) else (bif Nat.beq pc 39 then some (.getfield 19, 3, [3, 2, 1, 178]) else none)))))) else (bif Nat.blt pc 62 then (bif Nat.blt pc 51 then (bif Nat.blt pc 46 then (bif Nat.blt pc 43 then (bif Nat.beq pc 42 then some (.arraylength, 1, []) else none) else (bif Nat.beq pc 43 then some (.if_icmp .ge 22, 3, [65]) else none)) else (bif Nat.blt pc 47 then (bif Nat.beq pc 46 then some (.aload_n 0, 1, []) else none) else (bif Nat.blt pc 50 then (bif Nat.beq pc 47 then some (.getfield 19, 3, [3, 2, 1, 178]) else none) else (bif Nat.beq pc 50 then some (.iload_n 1, 1, []) else none)))) else (bif Nat.blt pc 55 then (bif Nat.blt pc 54 then (bif Nat.beq pc 51 then some (.new 7, 3, [1, 34, 35]) else none) else (bif Nat.beq pc 54 then some (.dup, 1, []) else none)) else (bif Nat.blt pc 58 then (bif Nat.beq pc 55 then some (.invokespecial 9, 3, [2, 13, 0, 36, 1, 2, 0]) else none) else (bif Nat.blt pc 59 then (bif Nat.beq pc 58 then some (.aastore, 1, []) else none) else (bif Nat.beq pc 59 then some (.iinc 1 1, 3, []) else none))))) else (bif Nat.blt pc 73 then (bif Nat.blt pc 66 then (bif Nat.blt pc 65 then (bif Nat.beq pc 62 then some (.goto (-25), 3, [37]) else none) else (bif Nat.beq pc 65 then some (.aload_n 0, 1, []) else none)) else (bif Nat.blt pc 69 then (bif Nat.beq pc 66 then some (.new 23, 3, [2, 161, 162]) else none) else (bif Nat.blt pc 70 then (bif Nat.beq pc 69 then some (.dup, 1, []) else none) else (bif Nat.beq pc 70 then some (.invokespecial 25, 3, [4, 43, 0, 163, 2, 1, 0]) else none)))) else (bif Nat.blt pc 78 then (bif Nat.blt pc 76 then (bif Nat.beq pc 73 then some (.putfield 26, 3, [3, 3, 1, 179]) else none) else (bif Nat.blt pc 77 then (bif Nat.beq pc 76 then some (.aload_n 0, 1, []) else none) else (bif Nat.beq pc 77 then some (.iconst 3, 1, []) else none))) else (bif Nat.blt pc 80 then (bif Nat.beq pc 78 then some (.newarray .int, 2, [6, 159]) else none) else (bif Nat.blt pc 83 then (bif Nat.beq pc 80 then some (.putfield 30, 3, [3, 4, 1, 180]) else none) else (bif Nat.beq pc 83 then some (.return_, 1, []) else none))))))
/-- X4_set -/
def I_X4_set (pc : Nat) : Option IE := bif Nat.blt pc 29 then (bif Nat.blt pc 12 then (bif Nat.blt pc 6 then (bif Nat.blt pc 2 then (bif Nat.blt pc 1 then (bif Nat.beq pc 0 then some (.aload_n 0, 1, []) else none) else (bif Nat.beq pc 1 then some (.iload_n 1, 1, []) else none)) else (bif Nat.blt pc 3 then (bif Nat.beq pc 2 then some (.iconst 3, 1, []) else none) else (bif Nat.beq pc 3 then some (.invokevirtual 34, 3, [0, 84, 2, 323, 3, 3, 0]) else none))) else (bif Nat.blt pc 8 then (bif Nat.blt pc 7 then (bif Nat.beq pc 6 then some (.iload_n 2, 1, []) else none) else (bif Nat.beq pc 7 then some (.iconst 1, 1, []) else none)) else (bif Nat.blt pc 11 then (bif Nat.beq pc 8 then some (.if_icmp .lt 11, 3, [19]) else none) else (bif Nat.beq pc 11 then some (.iload_n 2, 1, []) else none)))) else (bif Nat.blt pc 22 then (bif Nat.blt pc 16 then (bif Nat.blt pc 13 then (bif Nat.beq pc 12 then some (.iload_n 1, 1, []) else none) else (bif Nat.beq pc 13 then some (.invokestatic 38, 3, [1, 14, 1, 721, 1, 1, 1]) else none)) else (bif Nat.blt pc 19 then (bif Nat.beq pc 16 then some (.if_icmp .le 13, 3, [29]) else none) else (bif Nat.beq pc 19 then some (.new 42, 3, [9, 2, 203, 44, 46, 724]) else none))) else (bif Nat.blt pc 25 then (bif Nat.blt pc 23 then (bif Nat.beq pc 22 then some (.dup, 1, []) else none) else (bif Nat.beq pc 23 then some (.ldc 44, 2, []) else none)) else (bif Nat.blt pc 28 then (bif Nat.beq pc 25 then some (.invokespecial 46, 3, []) else none) else (bif Nat.beq pc 28 then some (.athrow, 1, []) else none))))) else (bif Nat.blt pc 43 then (bif Nat.blt pc 37 then (bif Nat.blt pc 33 then (bif Nat.blt pc 30 then (bif Nat.beq pc 29 then some (.aload_n 0, 1, []) else none) else (bif Nat.beq pc 30 then some (.invokevirtual 49, 3, [0, 76, 0, 679, 3, 3, 0]) else none)) else (bif Nat.blt pc 34 then (bif Nat.beq pc 33 then some (.aload_n 0, 1, []) else none) else (bif Nat.beq pc 34 then some (.getfield 10, 3, [3, 0, 1, 176]) else none))) else (bif Nat.blt pc 41 then (bif Nat.blt pc 40 then (bif Nat.beq pc 37 then some (.getfield 52, 3, [1, 4, 1, 112]) else none) else (bif Nat.beq pc 40 then some (.iload_n 1, 1, []) else none)) else (bif Nat.blt pc 42 then (bif Nat.beq pc 41 then some (.iaload, 1, []) else none) else (bif Nat.beq pc 42 then some (.istore_n 3, 1, []) else none)))) else (bif Nat.blt pc 51 then (bif Nat.blt pc 47 then (bif Nat.blt pc 44 then (bif Nat.beq pc 43 then some (.aload_n 0, 1, []) else none) else (bif Nat.beq pc 44 then some (.getfield 10, 3, [3, 0, 1, 176]) else none)) else (bif Nat.blt pc 50 then (bif Nat.beq pc 47 then some (.getfield 52, 3, [1, 4, 1, 112]) else none) else (bif Nat.beq pc 50 then some (.iload_n 1, 1, []) else none))) else (bif Nat.blt pc 53 then (bif Nat.blt pc 52 then (bif Nat.beq pc 51 then some (.iload_n 2, 1, []) else none) else (bif Nat.beq pc 52 then some (.iastore, 1, []) else none)) else (bif Nat.blt pc 54 then (bif Nat.beq pc 53 then some (.iload_n 3, 1, []) else none) else (bif Nat.beq pc 54 then some (.ireturn, 1, [0]) else none)))))
/-- X4_putRegister -/
def I_X4_putRegister (pc : Nat) : Option IE := bif Nat.blt pc 8 then (bif Nat.blt pc 2 then (bif Nat.blt pc 1 then (bif Nat.beq pc 0 then some (.aload_n 0, 1, []) else none) else (bif Nat.beq pc 1 then some (.aload_n 0, 1, []) else none)) else (bif Nat.blt pc 5 then (bif Nat.beq pc 2 then some (.getfield 10, 3, [3, 0, 1, 176]) else none) else (bif Nat.beq pc 5 then some (.getfield 55, 3, [1, 2, 1, 108]) else none))) else (bif Nat.blt pc 10 then (bif Nat.blt pc 9 then (bif Nat.beq pc 8 then some (.iload_n 1, 1, []) else none) else (bif Nat.beq pc 9 then some (.iload_n 2, 1, []) else none)) else (bif Nat.blt pc 13 then (bif Nat.beq pc 10 then some (.invokevirtual 58, 3, [0, 66, 3, 729, 3, 5, 1]) else none) else (bif Nat.beq pc 13 then some (.ireturn, 1, [0]) else none)))
/-- X4_putCell -/
def I_X4_putCell (pc : Nat) : Option IE := bif Nat.blt pc 8 then (bif Nat.blt pc 2 then (bif Nat.blt pc 1 then (bif Nat.beq pc 0 then some (.aload_n 0, 1, []) else none) else (bif Nat.beq pc 1 then some (.aload_n 0, 1, []) else none)) else (bif Nat.blt pc 5 then (bif Nat.beq pc 2 then some (.getfield 10, 3, [3, 0, 1, 176]) else none) else (bif Nat.beq pc 5 then some (.getfield 62, 3, [1, 3, 1, 110]) else none))) else (bif Nat.blt pc 10 then (bif Nat.blt pc 9 then (bif Nat.beq pc 8 then some (.iload_n 1, 1, []) else none) else (bif Nat.beq pc 9 then some (.iload_n 2, 1, []) else none)) else (bif Nat.blt pc 13 then (bif Nat.beq pc 10 then some (.invokevirtual 58, 3, [0, 66, 3, 729, 3, 5, 1]) else none) else (bif Nat.beq pc 13 then some (.ireturn, 1, [0]) else none)))
/-- X4_putValue -/
def I_X4_putValue (pc : Nat) : Option IE := bif Nat.blt pc 34 then (bif Nat.blt pc 14 then (bif Nat.blt pc 4 then (bif Nat.blt pc 2 then (bif Nat.blt pc 1 then (bif Nat.beq pc 0 then some (.aload_n 0, 1, []) else none) else (bif Nat.beq pc 1 then some (.iload_n 2, 1, []) else none)) else (bif Nat.blt pc 3 then (bif Nat.beq pc 2 then some (.aload_n 1, 1, []) else none) else (bif Nat.beq pc 3 then some (.arraylength, 1, []) else none))) else (bif Nat.blt pc 8 then (bif Nat.blt pc 7 then (bif Nat.beq pc 4 then some (.invokevirtual 34, 3, [0, 84, 2, 323, 3, 3, 0]) else none) else (bif Nat.beq pc 7 then some (.iload_n 3, 1, []) else none)) else (bif Nat.blt pc 11 then (bif Nat.beq pc 8 then some (.invokestatic 65, 3, [1, 0, 1, 733, 9, 1, 1]) else none) else (bif Nat.beq pc 11 then some (.ifCond .ne 13, 3, [24]) else none)))) else (bif Nat.blt pc 23 then (bif Nat.blt pc 18 then (bif Nat.blt pc 17 then (bif Nat.beq pc 14 then some (.new 42, 3, [9, 2, 203, 71, 46, 737]) else none) else (bif Nat.beq pc 17 then some (.dup, 1, []) else none)) else (bif Nat.blt pc 20 then (bif Nat.beq pc 18 then some (.ldc 71, 2, []) else none) else (bif Nat.beq pc 20 then some (.invokespecial 46, 3, []) else none))) else (bif Nat.blt pc 25 then (bif Nat.blt pc 24 then (bif Nat.beq pc 23 then some (.athrow, 1, []) else none) else (bif Nat.beq pc 24 then some (.aload_n 0, 1, []) else none)) else (bif Nat.blt pc 28 then (bif Nat.beq pc 25 then some (.getfield 10, 3, [3, 0, 1, 176]) else none) else (bif Nat.blt pc 31 then (bif Nat.beq pc 28 then some (.invokevirtual 73, 3, [0, 21, 0, 355, 1, 1, 1]) else none) else (bif Nat.beq pc 31 then some (.ifCond .le 13, 3, [44]) else none)))))) else (bif Nat.blt pc 49 then (bif Nat.blt pc 43 then (bif Nat.blt pc 38 then (bif Nat.blt pc 37 then (bif Nat.beq pc 34 then some (.new 77, 3, [9, 3, 620, 79, 81, 738]) else none) else (bif Nat.beq pc 37 then some (.dup, 1, []) else none)) else (bif Nat.blt pc 40 then (bif Nat.beq pc 38 then some (.ldc 79, 2, []) else none) else (bif Nat.beq pc 40 then some (.invokespecial 81, 3, []) else none))) else (bif Nat.blt pc 45 then (bif Nat.blt pc 44 then (bif Nat.beq pc 43 then some (.athrow, 1, []) else none) else (bif Nat.beq pc 44 then some (.aload_n 0, 1, []) else none)) else (bif Nat.blt pc 48 then (bif Nat.beq pc 45 then some (.invokevirtual 49, 3, [0, 76, 0, 679, 3, 3, 0]) else none) else (bif Nat.beq pc 48 then some (.aload_n 1, 1, []) else none)))) else (bif Nat.blt pc 54 then (bif Nat.blt pc 51 then (bif Nat.blt pc 50 then (bif Nat.beq pc 49 then some (.iload_n 2, 1, []) else none) else (bif Nat.beq pc 50 then some (.iaload, 1, []) else none)) else (bif Nat.blt pc 53 then (bif Nat.beq pc 51 then some (.istore 4, 2, []) else none) else (bif Nat.beq pc 53 then some (.aload_n 1, 1, []) else none))) else (bif Nat.blt pc 56 then (bif Nat.blt pc 55 then (bif Nat.beq pc 54 then some (.iload_n 2, 1, []) else none) else (bif Nat.beq pc 55 then some (.iload_n 3, 1, []) else none)) else (bif Nat.blt pc 57 then (bif Nat.beq pc 56 then some (.iastore, 1, []) else none) else (bif Nat.blt pc 59 then (bif Nat.beq pc 57 then some (.iload 4, 2, []) else none) else (bif Nat.beq pc 59 then some (.ireturn, 1, [0]) else none))))))
/-- X4_run -/
def I_X4_run (pc : Nat) : Option IE := bif Nat.blt pc 30 then (bif Nat.blt pc 13 then (bif Nat.blt pc 5 then (bif Nat.blt pc 1 then (bif Nat.beq pc 0 then some (.aload_n 0, 1, []) else none) else (bif Nat.blt pc 2 then (bif Nat.beq pc 1 then some (.iload_n 1, 1, []) else none) else (bif Nat.beq pc 2 then some (.invokevirtual 82, 3, [0, 68, 1, 514, 3, 2, 0]) else none))) else (bif Nat.blt pc 9 then (bif Nat.blt pc 6 then (bif Nat.beq pc 5 then some (.aload_n 0, 1, []) else none) else (bif Nat.beq pc 6 then some (.getfield 10, 3, [3, 0, 1, 176]) else none)) else (bif Nat.blt pc 12 then (bif Nat.beq pc 9 then some (.getfield 86, 3, [1, 5, 0, 114]) else none) else (bif Nat.beq pc 12 then some (.iload_n 1, 1, []) else none)))) else (bif Nat.blt pc 23 then (bif Nat.blt pc 17 then (bif Nat.blt pc 14 then (bif Nat.beq pc 13 then some (.iadd, 1, []) else none) else (bif Nat.beq pc 14 then some (.sipush 10000, 3, []) else none)) else (bif Nat.blt pc 20 then (bif Nat.beq pc 17 then some (.if_icmp .le 13, 3, [30]) else none) else (bif Nat.beq pc 20 then some (.new 77, 3, [9, 3, 620, 90, 81, 708]) else none))) else (bif Nat.blt pc 26 then (bif Nat.blt pc 24 then (bif Nat.beq pc 23 then some (.dup, 1, []) else none) else (bif Nat.beq pc 24 then some (.ldc 90, 2, []) else none)) else (bif Nat.blt pc 29 then (bif Nat.beq pc 26 then some (.invokespecial 81, 3, []) else none) else (bif Nat.beq pc 29 then some (.athrow, 1, []) else none))))) else (bif Nat.blt pc 46 then (bif Nat.blt pc 38 then (bif Nat.blt pc 34 then (bif Nat.blt pc 31 then (bif Nat.beq pc 30 then some (.aload_n 0, 1, []) else none) else (bif Nat.beq pc 31 then some (.invokevirtual 49, 3, [0, 76, 0, 679, 3, 3, 0]) else none)) else (bif Nat.blt pc 35 then (bif Nat.beq pc 34 then some (.aload_n 0, 1, []) else none) else (bif Nat.beq pc 35 then some (.getfield 10, 3, [3, 0, 1, 176]) else none))) else (bif Nat.blt pc 42 then (bif Nat.blt pc 41 then (bif Nat.beq pc 38 then some (.getfield 92, 3, [1, 11, 0, 125]) else none) else (bif Nat.beq pc 41 then some (.istore_n 2, 1, []) else none)) else (bif Nat.blt pc 43 then (bif Nat.beq pc 42 then some (.aload_n 0, 1, []) else none) else (bif Nat.beq pc 43 then some (.getfield 10, 3, [3, 0, 1, 176]) else none)))) else (bif Nat.blt pc 54 then (bif Nat.blt pc 50 then (bif Nat.blt pc 47 then (bif Nat.beq pc 46 then some (.iload_n 1, 1, []) else none) else (bif Nat.beq pc 47 then some (.invokevirtual 95, 3, [0, 30, 1, 523, 1, 3, 0]) else none)) else (bif Nat.blt pc 51 then (bif Nat.beq pc 50 then some (.aload_n 0, 1, []) else none) else (bif Nat.beq pc 51 then some (.getfield 10, 3, [3, 0, 1, 176]) else none))) else (bif Nat.blt pc 58 then (bif Nat.blt pc 57 then (bif Nat.beq pc 54 then some (.getfield 92, 3, [1, 11, 0, 125]) else none) else (bif Nat.beq pc 57 then some (.iload_n 2, 1, []) else none)) else (bif Nat.blt pc 59 then (bif Nat.beq pc 58 then some (.isub, 1, []) else none) else (bif Nat.beq pc 59 then some (.ireturn, 1, [0]) else none)))))
/-- X4_checkCycles -/
def I_X4_checkCycles (pc : Nat) : Option IE := bif Nat.blt pc 11 then (bif Nat.blt pc 5 then (bif Nat.blt pc 1 then (bif Nat.beq pc 0 then some (.iload_n 1, 1, []) else none) else (bif Nat.blt pc 2 then (bif Nat.beq pc 1 then some (.iconst 1, 1, []) else none) else (bif Nat.beq pc 2 then some (.if_icmp .lt 9, 3, [11]) else none))) else (bif Nat.blt pc 6 then (bif Nat.beq pc 5 then some (.iload_n 1, 1, []) else none) else (bif Nat.blt pc 8 then (bif Nat.beq pc 6 then some (.bipush 100, 2, []) else none) else (bif Nat.beq pc 8 then some (.if_icmp .le 13, 3, [21]) else none)))) else (bif Nat.blt pc 17 then (bif Nat.blt pc 14 then (bif Nat.beq pc 11 then some (.new 42, 3, [9, 2, 203, 98, 46, 518]) else none) else (bif Nat.blt pc 15 then (bif Nat.beq pc 14 then some (.dup, 1, []) else none) else (bif Nat.beq pc 15 then some (.ldc 98, 2, []) else none))) else (bif Nat.blt pc 20 then (bif Nat.beq pc 17 then some (.invokespecial 46, 3, []) else none) else (bif Nat.blt pc 21 then (bif Nat.beq pc 20 then some (.athrow, 1, []) else none) else (bif Nat.beq pc 21 then some (.return_, 1, []) else none))))
/-- X4_flush -/
def I_X4_flush (pc : Nat) : Option IE := bif Nat.blt pc 13 then (bif Nat.blt pc 5 then (bif Nat.blt pc 1 then (bif Nat.beq pc 0 then some (.aload_n 0, 1, []) else none) else (bif Nat.blt pc 4 then (bif Nat.beq pc 1 then some (.invokevirtual 49, 3, [0, 76, 0, 679, 3, 3, 0]) else none) else (bif Nat.beq pc 4 then some (.aload_n 0, 1, []) else none))) else (bif Nat.blt pc 11 then (bif Nat.blt pc 8 then (bif Nat.beq pc 5 then some (.getfield 10, 3, [3, 0, 1, 176]) else none) else (bif Nat.beq pc 8 then some (.invokevirtual 73, 3, [0, 21, 0, 355, 1, 1, 1]) else none)) else (bif Nat.blt pc 12 then (bif Nat.beq pc 11 then some (.istore_n 1, 1, []) else none) else (bif Nat.beq pc 12 then some (.aload_n 0, 1, []) else none)))) else (bif Nat.blt pc 20 then (bif Nat.blt pc 16 then (bif Nat.beq pc 13 then some (.getfield 10, 3, [3, 0, 1, 176]) else none) else (bif Nat.blt pc 17 then (bif Nat.beq pc 16 then some (.aload_n 0, 1, []) else none) else (bif Nat.beq pc 17 then some (.getfield 10, 3, [3, 0, 1, 176]) else none))) else (bif Nat.blt pc 26 then (bif Nat.blt pc 23 then (bif Nat.beq pc 20 then some (.getfield 100, 3, [1, 8, 0, 120]) else none) else (bif Nat.beq pc 23 then some (.putfield 103, 3, [1, 7, 0, 118]) else none)) else (bif Nat.blt pc 27 then (bif Nat.beq pc 26 then some (.iload_n 1, 1, []) else none) else (bif Nat.beq pc 27 then some (.ireturn, 1, [0]) else none))))
/-- X4_again -/
def I_X4_again (pc : Nat) : Option IE := bif Nat.blt pc 11 then (bif Nat.blt pc 4 then (bif Nat.blt pc 1 then (bif Nat.beq pc 0 then some (.aload_n 0, 1, []) else none) else (bif Nat.beq pc 1 then some (.invokevirtual 49, 3, [0, 76, 0, 679, 3, 3, 0]) else none)) else (bif Nat.blt pc 5 then (bif Nat.beq pc 4 then some (.aload_n 0, 1, []) else none) else (bif Nat.blt pc 8 then (bif Nat.beq pc 5 then some (.getfield 10, 3, [3, 0, 1, 176]) else none) else (bif Nat.beq pc 8 then some (.getfield 100, 3, [1, 8, 0, 120]) else none)))) else (bif Nat.blt pc 16 then (bif Nat.blt pc 12 then (bif Nat.beq pc 11 then some (.istore_n 1, 1, []) else none) else (bif Nat.blt pc 13 then (bif Nat.beq pc 12 then some (.aload_n 0, 1, []) else none) else (bif Nat.beq pc 13 then some (.getfield 10, 3, [3, 0, 1, 176]) else none))) else (bif Nat.blt pc 19 then (bif Nat.beq pc 16 then some (.invokevirtual 106, 3, [0, 16, 0, 598, 1, 3, 0]) else none) else (bif Nat.blt pc 20 then (bif Nat.beq pc 19 then some (.iload_n 1, 1, []) else none) else (bif Nat.beq pc 20 then some (.ireturn, 1, [0]) else none))))
/-- X4_append -/
def I_X4_append (pc : Nat) : Option IE := bif Nat.blt pc 31 then (bif Nat.blt pc 15 then (bif Nat.blt pc 6 then (bif Nat.blt pc 1 then (bif Nat.beq pc 0 then some (.iload_n 1, 1, []) else none) else (bif Nat.blt pc 3 then (bif Nat.beq pc 1 then some (.bipush 33, 2, []) else none) else (bif Nat.beq pc 3 then some (.if_icmp .lt 9, 3, [12]) else none))) else (bif Nat.blt pc 9 then (bif Nat.blt pc 7 then (bif Nat.beq pc 6 then some (.iload_n 1, 1, []) else none) else (bif Nat.beq pc 7 then some (.bipush 126, 2, []) else none)) else (bif Nat.blt pc 12 then (bif Nat.beq pc 9 then some (.if_icmp .le 13, 3, [22]) else none) else (bif Nat.beq pc 12 then some (.new 42, 3, [9, 2, 203, 109, 46, 619]) else none)))) else (bif Nat.blt pc 22 then (bif Nat.blt pc 18 then (bif Nat.blt pc 16 then (bif Nat.beq pc 15 then some (.dup, 1, []) else none) else (bif Nat.beq pc 16 then some (.ldc 109, 2, []) else none)) else (bif Nat.blt pc 21 then (bif Nat.beq pc 18 then some (.invokespecial 46, 3, []) else none) else (bif Nat.beq pc 21 then some (.athrow, 1, []) else none))) else (bif Nat.blt pc 26 then (bif Nat.blt pc 23 then (bif Nat.beq pc 22 then some (.aload_n 0, 1, []) else none) else (bif Nat.beq pc 23 then some (.getfield 26, 3, [3, 3, 1, 179]) else none)) else (bif Nat.blt pc 29 then (bif Nat.beq pc 26 then some (.getfield 111, 3, [2, 1, 0, 169]) else none) else (bif Nat.beq pc 29 then some (.bipush 120, 2, []) else none))))) else (bif Nat.blt pc 45 then (bif Nat.blt pc 38 then (bif Nat.blt pc 34 then (bif Nat.beq pc 31 then some (.if_icmp .lt 13, 3, [44]) else none) else (bif Nat.blt pc 37 then (bif Nat.beq pc 34 then some (.new 77, 3, [9, 3, 620, 114, 81, 629]) else none) else (bif Nat.beq pc 37 then some (.dup, 1, []) else none))) else (bif Nat.blt pc 43 then (bif Nat.blt pc 40 then (bif Nat.beq pc 38 then some (.ldc 114, 2, []) else none) else (bif Nat.beq pc 40 then some (.invokespecial 81, 3, []) else none)) else (bif Nat.blt pc 44 then (bif Nat.beq pc 43 then some (.athrow, 1, []) else none) else (bif Nat.beq pc 44 then some (.aload_n 0, 1, []) else none)))) else (bif Nat.blt pc 53 then (bif Nat.blt pc 49 then (bif Nat.blt pc 48 then (bif Nat.beq pc 45 then some (.getfield 26, 3, [3, 3, 1, 179]) else none) else (bif Nat.beq pc 48 then some (.iload_n 1, 1, []) else none)) else (bif Nat.blt pc 50 then (bif Nat.beq pc 49 then some (.i2c, 1, []) else none) else (bif Nat.beq pc 50 then some (.invokevirtual 116, 3, [0, 44, 1, 636, 2, 2, 0]) else none))) else (bif Nat.blt pc 57 then (bif Nat.blt pc 54 then (bif Nat.beq pc 53 then some (.aload_n 0, 1, []) else none) else (bif Nat.beq pc 54 then some (.getfield 26, 3, [3, 3, 1, 179]) else none)) else (bif Nat.blt pc 60 then (bif Nat.beq pc 57 then some (.getfield 111, 3, [2, 1, 0, 169]) else none) else (bif Nat.beq pc 60 then some (.ireturn, 1, [0]) else none)))))
/-- X4_clearBuffer -/
def I_X4_clearBuffer (pc : Nat) : Option IE := bif Nat.blt pc 9 then (bif Nat.blt pc 4 then (bif Nat.blt pc 1 then (bif Nat.beq pc 0 then some (.aload_n 0, 1, []) else none) else (bif Nat.beq pc 1 then some (.getfield 26, 3, [3, 3, 1, 179]) else none)) else (bif Nat.blt pc 7 then (bif Nat.beq pc 4 then some (.getfield 111, 3, [2, 1, 0, 169]) else none) else (bif Nat.blt pc 8 then (bif Nat.beq pc 7 then some (.istore_n 1, 1, []) else none) else (bif Nat.beq pc 8 then some (.aload_n 0, 1, []) else none)))) else (bif Nat.blt pc 13 then (bif Nat.blt pc 12 then (bif Nat.beq pc 9 then some (.getfield 26, 3, [3, 3, 1, 179]) else none) else (bif Nat.beq pc 12 then some (.iconst 0, 1, []) else none)) else (bif Nat.blt pc 16 then (bif Nat.beq pc 13 then some (.putfield 111, 3, [2, 1, 0, 169]) else none) else (bif Nat.blt pc 17 then (bif Nat.beq pc 16 then some (.iload_n 1, 1, []) else none) else (bif Nat.beq pc 17 then some (.ireturn, 1, [0]) else none))))
/-- X4_load -/
def I_X4_load (pc : Nat) : Option IE := bif Nat.blt pc 58 then (bif Nat.blt pc 29 then (bif Nat.blt pc 16 then (bif Nat.blt pc 7 then (bif Nat.blt pc 1 then (bif Nat.beq pc 0 then some (.aload_n 0, 1, []) else none) else (bif Nat.blt pc 4 then (bif Nat.beq pc 1 then some (.getfield 26, 3, [3, 3, 1, 179]) else none) else (bif Nat.beq pc 4 then some (.invokevirtual 123, 3, [0, 47, 0, 644, 2, 3, 1]) else none))) else (bif Nat.blt pc 13 then (bif Nat.blt pc 10 then (bif Nat.beq pc 7 then some (.ifCond .ne 13, 3, [20]) else none) else (bif Nat.beq pc 10 then some (.new 42, 3, [9, 2, 203, 127, 46, 673]) else none)) else (bif Nat.blt pc 14 then (bif Nat.beq pc 13 then some (.dup, 1, []) else none) else (bif Nat.beq pc 14 then some (.ldc 127, 2, []) else none)))) else (bif Nat.blt pc 21 then (bif Nat.blt pc 19 then (bif Nat.beq pc 16 then some (.invokespecial 46, 3, []) else none) else (bif Nat.blt pc 20 then (bif Nat.beq pc 19 then some (.athrow, 1, []) else none) else (bif Nat.beq pc 20 then some (.aload_n 0, 1, []) else none))) else (bif Nat.blt pc 27 then (bif Nat.blt pc 24 then (bif Nat.beq pc 21 then some (.getfield 26, 3, [3, 3, 1, 179]) else none) else (bif Nat.beq pc 24 then some (.invokevirtual 129, 3, [0, 48, 0, 674, 2, 3, 1]) else none)) else (bif Nat.blt pc 28 then (bif Nat.beq pc 27 then some (.istore_n 1, 1, []) else none) else (bif Nat.beq pc 28 then some (.iload_n 1, 1, []) else none))))) else (bif Nat.blt pc 44 then (bif Nat.blt pc 37 then (bif Nat.blt pc 31 then (bif Nat.beq pc 29 then some (.bipush 24, 2, []) else none) else (bif Nat.blt pc 34 then (bif Nat.beq pc 31 then some (.if_icmp .le 13, 3, [44]) else none) else (bif Nat.beq pc 34 then some (.new 77, 3, [9, 3, 620, 132, 81, 678]) else none))) else (bif Nat.blt pc 40 then (bif Nat.blt pc 38 then (bif Nat.beq pc 37 then some (.dup, 1, []) else none) else (bif Nat.beq pc 38 then some (.ldc 132, 2, []) else none)) else (bif Nat.blt pc 43 then (bif Nat.beq pc 40 then some (.invokespecial 81, 3, []) else none) else (bif Nat.beq pc 43 then some (.athrow, 1, []) else none)))) else (bif Nat.blt pc 52 then (bif Nat.blt pc 48 then (bif Nat.blt pc 45 then (bif Nat.beq pc 44 then some (.aload_n 0, 1, []) else none) else (bif Nat.beq pc 45 then some (.invokevirtual 49, 3, [0, 76, 0, 679, 3, 3, 0]) else none)) else (bif Nat.blt pc 49 then (bif Nat.beq pc 48 then some (.aload_n 0, 1, []) else none) else (bif Nat.beq pc 49 then some (.getfield 10, 3, [3, 0, 1, 176]) else none))) else (bif Nat.blt pc 56 then (bif Nat.blt pc 53 then (bif Nat.beq pc 52 then some (.iload_n 1, 1, []) else none) else (bif Nat.beq pc 53 then some (.putfield 134, 3, [1, 6, 0, 116]) else none)) else (bif Nat.blt pc 57 then (bif Nat.beq pc 56 then some (.iconst 0, 1, []) else none) else (bif Nat.beq pc 57 then some (.istore_n 2, 1, []) else none)))))) else (bif Nat.blt pc 82 then (bif Nat.blt pc 69 then (bif Nat.blt pc 61 then (bif Nat.blt pc 59 then (bif Nat.beq pc 58 then some (.iconst 0, 1, []) else none) else (bif Nat.blt pc 60 then (bif Nat.beq pc 59 then some (.istore_n 3, 1, []) else none) else (bif Nat.beq pc 60 then some (.iload_n 3, 1, []) else none))) else (bif Nat.blt pc 65 then (bif Nat.blt pc 62 then (bif Nat.beq pc 61 then some (.iload_n 1, 1, []) else none) else (bif Nat.beq pc 62 then some (.if_icmp .ge 34, 3, [96]) else none)) else (bif Nat.blt pc 66 then (bif Nat.beq pc 65 then some (.aload_n 0, 1, []) else none) else (bif Nat.beq pc 66 then some (.getfield 26, 3, [3, 3, 1, 179]) else none)))) else (bif Nat.blt pc 74 then (bif Nat.blt pc 70 then (bif Nat.beq pc 69 then some (.iload_n 2, 1, []) else none) else (bif Nat.blt pc 71 then (bif Nat.beq pc 70 then some (.aload_n 0, 1, []) else none) else (bif Nat.beq pc 71 then some (.getfield 10, 3, [3, 0, 1, 176]) else none))) else (bif Nat.blt pc 78 then (bif Nat.blt pc 75 then (bif Nat.beq pc 74 then some (.iload_n 3, 1, []) else none) else (bif Nat.beq pc 75 then some (.invokevirtual 135, 3, [0, 17, 1, 343, 1, 2, 5]) else none)) else (bif Nat.blt pc 81 then (bif Nat.beq pc 78 then some (.invokevirtual 139, 3, [0, 50, 2, 683, 2, 4, 0]) else none) else (bif Nat.beq pc 81 then some (.aload_n 0, 1, []) else none))))) else (bif Nat.blt pc 97 then (bif Nat.blt pc 89 then (bif Nat.blt pc 85 then (bif Nat.beq pc 82 then some (.getfield 26, 3, [3, 3, 1, 179]) else none) else (bif Nat.blt pc 86 then (bif Nat.beq pc 85 then some (.iload_n 2, 1, []) else none) else (bif Nat.beq pc 86 then some (.invokevirtual 143, 3, [0, 49, 1, 700, 2, 3, 1]) else none))) else (bif Nat.blt pc 93 then (bif Nat.blt pc 90 then (bif Nat.beq pc 89 then some (.istore_n 2, 1, []) else none) else (bif Nat.beq pc 90 then some (.iinc 3 1, 3, []) else none)) else (bif Nat.blt pc 96 then (bif Nat.beq pc 93 then some (.goto (-33), 3, [60]) else none) else (bif Nat.beq pc 96 then some (.aload_n 0, 1, []) else none)))) else (bif Nat.blt pc 107 then (bif Nat.blt pc 103 then (bif Nat.blt pc 100 then (bif Nat.beq pc 97 then some (.getfield 10, 3, [3, 0, 1, 176]) else none) else (bif Nat.beq pc 100 then some (.invokevirtual 106, 3, [0, 16, 0, 598, 1, 3, 0]) else none)) else (bif Nat.blt pc 104 then (bif Nat.beq pc 103 then some (.aload_n 0, 1, []) else none) else (bif Nat.beq pc 104 then some (.getfield 26, 3, [3, 3, 1, 179]) else none))) else (bif Nat.blt pc 111 then (bif Nat.blt pc 108 then (bif Nat.beq pc 107 then some (.iconst 0, 1, []) else none) else (bif Nat.beq pc 108 then some (.putfield 111, 3, [2, 1, 0, 169]) else none)) else (bif Nat.blt pc 112 then (bif Nat.beq pc 111 then some (.iload_n 1, 1, []) else none) else (bif Nat.beq pc 112 then some (.ireturn, 1, [0]) else none))))))
/-- X4_saveState -/
def I_X4_saveState (pc : Nat) : Option IE := bif Nat.blt pc 47 then (bif Nat.blt pc 22 then (bif Nat.blt pc 13 then (bif Nat.blt pc 5 then (bif Nat.blt pc 1 then (bif Nat.beq pc 0 then some (.aload_n 0, 1, []) else none) else (bif Nat.blt pc 4 then (bif Nat.beq pc 1 then some (.getfield 146, 3, [3, 5, 0, 181]) else none) else (bif Nat.beq pc 4 then some (.aload_n 0, 1, []) else none))) else (bif Nat.blt pc 9 then (bif Nat.blt pc 8 then (bif Nat.beq pc 5 then some (.getfield 19, 3, [3, 2, 1, 178]) else none) else (bif Nat.beq pc 8 then some (.arraylength, 1, []) else none)) else (bif Nat.blt pc 12 then (bif Nat.beq pc 9 then some (.if_icmp .lt 62, 3, [71]) else none) else (bif Nat.beq pc 12 then some (.aload_n 0, 1, []) else none)))) else (bif Nat.blt pc 18 then (bif Nat.blt pc 16 then (bif Nat.beq pc 13 then some (.getfield 19, 3, [3, 2, 1, 178]) else none) else (bif Nat.blt pc 17 then (bif Nat.beq pc 16 then some (.iconst 0, 1, []) else none) else (bif Nat.beq pc 17 then some (.aaload, 1, []) else none))) else (bif Nat.blt pc 20 then (bif Nat.blt pc 19 then (bif Nat.beq pc 18 then some (.astore_n 1, 1, []) else none) else (bif Nat.beq pc 19 then some (.iconst 1, 1, []) else none)) else (bif Nat.blt pc 21 then (bif Nat.beq pc 20 then some (.istore_n 2, 1, []) else none) else (bif Nat.beq pc 21 then some (.iload_n 2, 1, []) else none))))) else (bif Nat.blt pc 35 then (bif Nat.blt pc 27 then (bif Nat.blt pc 23 then (bif Nat.beq pc 22 then some (.aload_n 0, 1, []) else none) else (bif Nat.blt pc 26 then (bif Nat.beq pc 23 then some (.getfield 19, 3, [3, 2, 1, 178]) else none) else (bif Nat.beq pc 26 then some (.arraylength, 1, []) else none))) else (bif Nat.blt pc 31 then (bif Nat.blt pc 30 then (bif Nat.beq pc 27 then some (.if_icmp .ge 23, 3, [50]) else none) else (bif Nat.beq pc 30 then some (.aload_n 0, 1, []) else none)) else (bif Nat.blt pc 34 then (bif Nat.beq pc 31 then some (.getfield 19, 3, [3, 2, 1, 178]) else none) else (bif Nat.beq pc 34 then some (.iload_n 2, 1, []) else none)))) else (bif Nat.blt pc 41 then (bif Nat.blt pc 37 then (bif Nat.blt pc 36 then (bif Nat.beq pc 35 then some (.iconst 1, 1, []) else none) else (bif Nat.beq pc 36 then some (.isub, 1, []) else none)) else (bif Nat.blt pc 38 then (bif Nat.beq pc 37 then some (.aload_n 0, 1, []) else none) else (bif Nat.beq pc 38 then some (.getfield 19, 3, [3, 2, 1, 178]) else none))) else (bif Nat.blt pc 43 then (bif Nat.blt pc 42 then (bif Nat.beq pc 41 then some (.iload_n 2, 1, []) else none) else (bif Nat.beq pc 42 then some (.aaload, 1, []) else none)) else (bif Nat.blt pc 44 then (bif Nat.beq pc 43 then some (.aastore, 1, []) else none) else (bif Nat.beq pc 44 then some (.iinc 2 1, 3, []) else none)))))) else (bif Nat.blt pc 71 then (bif Nat.blt pc 58 then (bif Nat.blt pc 52 then (bif Nat.blt pc 50 then (bif Nat.beq pc 47 then some (.goto (-26), 3, [21]) else none) else (bif Nat.blt pc 51 then (bif Nat.beq pc 50 then some (.aload_n 0, 1, []) else none) else (bif Nat.beq pc 51 then some (.aload_n 0, 1, []) else none))) else (bif Nat.blt pc 56 then (bif Nat.blt pc 55 then (bif Nat.beq pc 52 then some (.getfield 19, 3, [3, 2, 1, 178]) else none) else (bif Nat.beq pc 55 then some (.arraylength, 1, []) else none)) else (bif Nat.blt pc 57 then (bif Nat.beq pc 56 then some (.iconst 1, 1, []) else none) else (bif Nat.beq pc 57 then some (.isub, 1, []) else none)))) else (bif Nat.blt pc 65 then (bif Nat.blt pc 61 then (bif Nat.beq pc 58 then some (.putfield 146, 3, [3, 5, 0, 181]) else none) else (bif Nat.blt pc 62 then (bif Nat.beq pc 61 then some (.aload_n 0, 1, []) else none) else (bif Nat.beq pc 62 then some (.getfield 19, 3, [3, 2, 1, 178]) else none))) else (bif Nat.blt pc 69 then (bif Nat.blt pc 66 then (bif Nat.beq pc 65 then some (.aload_n 0, 1, []) else none) else (bif Nat.beq pc 66 then some (.getfield 146, 3, [3, 5, 0, 181]) else none)) else (bif Nat.blt pc 70 then (bif Nat.beq pc 69 then some (.aload_n 1, 1, []) else none) else (bif Nat.beq pc 70 then some (.aastore, 1, []) else none))))) else (bif Nat.blt pc 84 then (bif Nat.blt pc 76 then (bif Nat.blt pc 72 then (bif Nat.beq pc 71 then some (.aload_n 0, 1, []) else none) else (bif Nat.blt pc 75 then (bif Nat.beq pc 72 then some (.getfield 19, 3, [3, 2, 1, 178]) else none) else (bif Nat.beq pc 75 then some (.aload_n 0, 1, []) else none))) else (bif Nat.blt pc 80 then (bif Nat.blt pc 79 then (bif Nat.beq pc 76 then some (.getfield 146, 3, [3, 5, 0, 181]) else none) else (bif Nat.beq pc 79 then some (.aaload, 1, []) else none)) else (bif Nat.blt pc 81 then (bif Nat.beq pc 80 then some (.aload_n 0, 1, []) else none) else (bif Nat.beq pc 81 then some (.getfield 10, 3, [3, 0, 1, 176]) else none)))) else (bif Nat.blt pc 92 then (bif Nat.blt pc 88 then (bif Nat.blt pc 87 then (bif Nat.beq pc 84 then some (.invokevirtual 151, 3, [0, 15, 1, 404, 1, 3, 0]) else none) else (bif Nat.beq pc 87 then some (.aload_n 0, 1, []) else none)) else (bif Nat.blt pc 89 then (bif Nat.beq pc 88 then some (.dup, 1, []) else none) else (bif Nat.beq pc 89 then some (.getfield 146, 3, [3, 5, 0, 181]) else none))) else (bif Nat.blt pc 94 then (bif Nat.blt pc 93 then (bif Nat.beq pc 92 then some (.iconst 1, 1, []) else none) else (bif Nat.beq pc 93 then some (.iadd, 1, []) else none)) else (bif Nat.blt pc 97 then (bif Nat.beq pc 94 then some (.putfield 146, 3, [3, 5, 0, 181]) else none) else (bif Nat.beq pc 97 then some (.return_, 1, []) else none))))))
/-- X4_instruction -/
def I_X4_instruction (pc : Nat) : Option IE := bif Nat.blt pc 14 then (bif Nat.blt pc 6 then (bif Nat.blt pc 2 then (bif Nat.blt pc 1 then (bif Nat.beq pc 0 then some (.aload_n 0, 1, []) else none) else (bif Nat.beq pc 1 then some (.iload_n 1, 1, []) else none)) else (bif Nat.blt pc 3 then (bif Nat.beq pc 2 then some (.aload_n 0, 1, []) else none) else (bif Nat.beq pc 3 then some (.getfield 10, 3, [3, 0, 1, 176]) else none))) else (bif Nat.blt pc 12 then (bif Nat.blt pc 9 then (bif Nat.beq pc 6 then some (.getfield 134, 3, [1, 6, 0, 116]) else none) else (bif Nat.beq pc 9 then some (.invokevirtual 34, 3, [0, 84, 2, 323, 3, 3, 0]) else none)) else (bif Nat.blt pc 13 then (bif Nat.beq pc 12 then some (.aload_n 0, 1, []) else none) else (bif Nat.beq pc 13 then some (.iload_n 2, 1, []) else none)))) else (bif Nat.blt pc 23 then (bif Nat.blt pc 19 then (bif Nat.blt pc 16 then (bif Nat.beq pc 14 then some (.bipush 7, 2, []) else none) else (bif Nat.beq pc 16 then some (.invokevirtual 155, 3, [0, 85, 2, 199, 3, 3, 0]) else none)) else (bif Nat.blt pc 20 then (bif Nat.beq pc 19 then some (.aload_n 0, 1, []) else none) else (bif Nat.beq pc 20 then some (.getfield 10, 3, [3, 0, 1, 176]) else none))) else (bif Nat.blt pc 27 then (bif Nat.blt pc 24 then (bif Nat.beq pc 23 then some (.iload_n 1, 1, []) else none) else (bif Nat.beq pc 24 then some (.invokevirtual 135, 3, [0, 17, 1, 343, 1, 2, 5]) else none)) else (bif Nat.blt pc 28 then (bif Nat.beq pc 27 then some (.iload_n 2, 1, []) else none) else (bif Nat.blt pc 31 then (bif Nat.beq pc 28 then some (.invokevirtual 158, 3, [0, 12, 1, 347, 0, 2, 1]) else none) else (bif Nat.beq pc 31 then some (.ireturn, 1, [0]) else none)))))
/-- X4_entry -/
def I_X4_entry (pc : Nat) : Option IE := bif Nat.blt pc 19 then (bif Nat.blt pc 9 then (bif Nat.blt pc 2 then (bif Nat.blt pc 1 then (bif Nat.beq pc 0 then some (.aload_n 0, 1, []) else none) else (bif Nat.beq pc 1 then some (.iload_n 1, 1, []) else none)) else (bif Nat.blt pc 3 then (bif Nat.beq pc 2 then some (.aload_n 0, 1, []) else none) else (bif Nat.blt pc 6 then (bif Nat.beq pc 3 then some (.getfield 10, 3, [3, 0, 1, 176]) else none) else (bif Nat.beq pc 6 then some (.invokevirtual 73, 3, [0, 21, 0, 355, 1, 1, 1]) else none)))) else (bif Nat.blt pc 13 then (bif Nat.blt pc 12 then (bif Nat.beq pc 9 then some (.invokevirtual 34, 3, [0, 84, 2, 323, 3, 3, 0]) else none) else (bif Nat.beq pc 12 then some (.aload_n 0, 1, []) else none)) else (bif Nat.blt pc 14 then (bif Nat.beq pc 13 then some (.iload_n 2, 1, []) else none) else (bif Nat.blt pc 16 then (bif Nat.beq pc 14 then some (.bipush 9, 2, []) else none) else (bif Nat.beq pc 16 then some (.invokevirtual 155, 3, [0, 85, 2, 199, 3, 3, 0]) else none))))) else (bif Nat.blt pc 30 then (bif Nat.blt pc 23 then (bif Nat.blt pc 20 then (bif Nat.beq pc 19 then some (.aload_n 0, 1, []) else none) else (bif Nat.beq pc 20 then some (.getfield 10, 3, [3, 0, 1, 176]) else none)) else (bif Nat.blt pc 24 then (bif Nat.beq pc 23 then some (.aload_n 0, 1, []) else none) else (bif Nat.blt pc 27 then (bif Nat.beq pc 24 then some (.getfield 10, 3, [3, 0, 1, 176]) else none) else (bif Nat.beq pc 27 then some (.getfield 100, 3, [1, 8, 0, 120]) else none)))) else (bif Nat.blt pc 32 then (bif Nat.blt pc 31 then (bif Nat.beq pc 30 then some (.iload_n 1, 1, []) else none) else (bif Nat.beq pc 31 then some (.iadd, 1, []) else none)) else (bif Nat.blt pc 33 then (bif Nat.beq pc 32 then some (.iload_n 2, 1, []) else none) else (bif Nat.blt pc 36 then (bif Nat.beq pc 33 then some (.invokevirtual 163, 3, [0, 24, 2, 356, 1, 5, 1]) else none) else (bif Nat.beq pc 36 then some (.ireturn, 1, [0]) else none)))))
/-- X4_whyNot -/
def I_X4_whyNot (pc : Nat) : Option IE := bif Nat.blt pc 13 then (bif Nat.blt pc 3 then (bif Nat.blt pc 1 then (bif Nat.beq pc 0 then some (.aload_n 0, 1, []) else none) else (bif Nat.blt pc 2 then (bif Nat.beq pc 1 then some (.iload_n 1, 1, []) else none) else (bif Nat.beq pc 2 then some (.aload_n 0, 1, []) else none))) else (bif Nat.blt pc 9 then (bif Nat.blt pc 6 then (bif Nat.beq pc 3 then some (.getfield 10, 3, [3, 0, 1, 176]) else none) else (bif Nat.beq pc 6 then some (.invokevirtual 73, 3, [0, 21, 0, 355, 1, 1, 1]) else none)) else (bif Nat.blt pc 12 then (bif Nat.beq pc 9 then some (.invokevirtual 34, 3, [0, 84, 2, 323, 3, 3, 0]) else none) else (bif Nat.beq pc 12 then some (.aload_n 0, 1, []) else none)))) else (bif Nat.blt pc 23 then (bif Nat.blt pc 17 then (bif Nat.blt pc 16 then (bif Nat.beq pc 13 then some (.getfield 10, 3, [3, 0, 1, 176]) else none) else (bif Nat.beq pc 16 then some (.aload_n 0, 1, []) else none)) else (bif Nat.blt pc 20 then (bif Nat.beq pc 17 then some (.getfield 10, 3, [3, 0, 1, 176]) else none) else (bif Nat.beq pc 20 then some (.getfield 100, 3, [1, 8, 0, 120]) else none))) else (bif Nat.blt pc 25 then (bif Nat.blt pc 24 then (bif Nat.beq pc 23 then some (.iload_n 1, 1, []) else none) else (bif Nat.beq pc 24 then some (.iadd, 1, []) else none)) else (bif Nat.blt pc 28 then (bif Nat.beq pc 25 then some (.invokevirtual 167, 3, [0, 25, 1, 395, 1, 3, 1]) else none) else (bif Nat.beq pc 28 then some (.ireturn, 1, [0]) else none))))
/-- X4_register -/
def I_X4_register (pc : Nat) : Option IE := bif Nat.blt pc 14 then (bif Nat.blt pc 7 then (bif Nat.blt pc 2 then (bif Nat.blt pc 1 then (bif Nat.beq pc 0 then some (.aload_n 0, 1, []) else none) else (bif Nat.beq pc 1 then some (.iload_n 1, 1, []) else none)) else (bif Nat.blt pc 4 then (bif Nat.beq pc 2 then some (.bipush 8, 2, []) else none) else (bif Nat.beq pc 4 then some (.invokevirtual 34, 3, [0, 84, 2, 323, 3, 3, 0]) else none))) else (bif Nat.blt pc 9 then (bif Nat.blt pc 8 then (bif Nat.beq pc 7 then some (.aload_n 0, 1, []) else none) else (bif Nat.beq pc 8 then some (.iload_n 2, 1, []) else none)) else (bif Nat.blt pc 10 then (bif Nat.beq pc 9 then some (.iconst 3, 1, []) else none) else (bif Nat.blt pc 13 then (bif Nat.beq pc 10 then some (.invokevirtual 155, 3, [0, 85, 2, 199, 3, 3, 0]) else none) else (bif Nat.beq pc 13 then some (.iload_n 2, 1, []) else none))))) else (bif Nat.blt pc 22 then (bif Nat.blt pc 18 then (bif Nat.blt pc 15 then (bif Nat.beq pc 14 then some (.iconst 2, 1, []) else none) else (bif Nat.beq pc 15 then some (.if_icmp .ne 7, 3, [22]) else none)) else (bif Nat.blt pc 19 then (bif Nat.beq pc 18 then some (.aload_n 0, 1, []) else none) else (bif Nat.beq pc 19 then some (.invokevirtual 170, 3, [0, 97, 0, 400, 3, 1, 0]) else none))) else (bif Nat.blt pc 24 then (bif Nat.blt pc 23 then (bif Nat.beq pc 22 then some (.aload_n 0, 1, []) else none) else (bif Nat.beq pc 23 then some (.iload_n 1, 1, []) else none)) else (bif Nat.blt pc 25 then (bif Nat.beq pc 24 then some (.iload_n 2, 1, []) else none) else (bif Nat.blt pc 28 then (bif Nat.beq pc 25 then some (.invokevirtual 173, 3, [0, 86, 2, 465, 3, 3, 1]) else none) else (bif Nat.beq pc 28 then some (.ireturn, 1, [0]) else none)))))
/-- X4_cell -/
def I_X4_cell (pc : Nat) : Option IE := bif Nat.blt pc 14 then (bif Nat.blt pc 7 then (bif Nat.blt pc 2 then (bif Nat.blt pc 1 then (bif Nat.beq pc 0 then some (.aload_n 0, 1, []) else none) else (bif Nat.beq pc 1 then some (.iload_n 1, 1, []) else none)) else (bif Nat.blt pc 4 then (bif Nat.beq pc 2 then some (.bipush 16, 2, []) else none) else (bif Nat.beq pc 4 then some (.invokevirtual 34, 3, [0, 84, 2, 323, 3, 3, 0]) else none))) else (bif Nat.blt pc 9 then (bif Nat.blt pc 8 then (bif Nat.beq pc 7 then some (.aload_n 0, 1, []) else none) else (bif Nat.beq pc 8 then some (.iload_n 2, 1, []) else none)) else (bif Nat.blt pc 10 then (bif Nat.beq pc 9 then some (.iconst 2, 1, []) else none) else (bif Nat.blt pc 13 then (bif Nat.beq pc 10 then some (.invokevirtual 155, 3, [0, 85, 2, 199, 3, 3, 0]) else none) else (bif Nat.beq pc 13 then some (.iload_n 2, 1, []) else none))))) else (bif Nat.blt pc 22 then (bif Nat.blt pc 18 then (bif Nat.blt pc 15 then (bif Nat.beq pc 14 then some (.iconst 1, 1, []) else none) else (bif Nat.beq pc 15 then some (.if_icmp .ne 7, 3, [22]) else none)) else (bif Nat.blt pc 19 then (bif Nat.beq pc 18 then some (.aload_n 0, 1, []) else none) else (bif Nat.beq pc 19 then some (.invokevirtual 170, 3, [0, 97, 0, 400, 3, 1, 0]) else none))) else (bif Nat.blt pc 24 then (bif Nat.blt pc 23 then (bif Nat.beq pc 22 then some (.aload_n 0, 1, []) else none) else (bif Nat.beq pc 23 then some (.iload_n 1, 1, []) else none)) else (bif Nat.blt pc 25 then (bif Nat.beq pc 24 then some (.iload_n 2, 1, []) else none) else (bif Nat.blt pc 28 then (bif Nat.beq pc 25 then some (.invokevirtual 176, 3, [0, 87, 2, 478, 3, 3, 1]) else none) else (bif Nat.beq pc 28 then some (.ireturn, 1, [0]) else none)))))
/-- X4_count -/
def I_X4_count (pc : Nat) : Option IE := bif Nat.blt pc 13 then (bif Nat.blt pc 4 then (bif Nat.blt pc 1 then (bif Nat.beq pc 0 then some (.aload_n 0, 1, []) else none) else (bif Nat.blt pc 2 then (bif Nat.beq pc 1 then some (.iload_n 1, 1, []) else none) else (bif Nat.beq pc 2 then some (.bipush 12, 2, []) else none))) else (bif Nat.blt pc 8 then (bif Nat.blt pc 7 then (bif Nat.beq pc 4 then some (.invokevirtual 155, 3, [0, 85, 2, 199, 3, 3, 0]) else none) else (bif Nat.beq pc 7 then some (.iload_n 1, 1, []) else none)) else (bif Nat.blt pc 10 then (bif Nat.beq pc 8 then some (.bipush 11, 2, []) else none) else (bif Nat.beq pc 10 then some (.if_icmp .ne 10, 3, [20]) else none)))) else (bif Nat.blt pc 21 then (bif Nat.blt pc 17 then (bif Nat.blt pc 14 then (bif Nat.beq pc 13 then some (.aload_n 0, 1, []) else none) else (bif Nat.beq pc 14 then some (.getfield 146, 3, [3, 5, 0, 181]) else none)) else (bif Nat.blt pc 20 then (bif Nat.beq pc 17 then some (.goto 11, 3, [28]) else none) else (bif Nat.beq pc 20 then some (.aload_n 0, 1, []) else none))) else (bif Nat.blt pc 25 then (bif Nat.blt pc 24 then (bif Nat.beq pc 21 then some (.getfield 10, 3, [3, 0, 1, 176]) else none) else (bif Nat.beq pc 24 then some (.iload_n 1, 1, []) else none)) else (bif Nat.blt pc 28 then (bif Nat.beq pc 25 then some (.invokevirtual 179, 3, [0, 23, 1, 271, 1, 2, 1]) else none) else (bif Nat.beq pc 28 then some (.ireturn, 1, [0]) else none))))
/-- X4_setting -/
def I_X4_setting (pc : Nat) : Option IE := bif Nat.blt pc 7 then (bif Nat.blt pc 2 then (bif Nat.blt pc 1 then (bif Nat.beq pc 0 then some (.aload_n 0, 1, []) else none) else (bif Nat.beq pc 1 then some (.iload_n 1, 1, []) else none)) else (bif Nat.blt pc 3 then (bif Nat.beq pc 2 then some (.iconst 3, 1, []) else none) else (bif Nat.blt pc 6 then (bif Nat.beq pc 3 then some (.invokevirtual 34, 3, [0, 84, 2, 323, 3, 3, 0]) else none) else (bif Nat.beq pc 6 then some (.aload_n 0, 1, []) else none)))) else (bif Nat.blt pc 13 then (bif Nat.blt pc 10 then (bif Nat.beq pc 7 then some (.getfield 10, 3, [3, 0, 1, 176]) else none) else (bif Nat.beq pc 10 then some (.getfield 52, 3, [1, 4, 1, 112]) else none)) else (bif Nat.blt pc 14 then (bif Nat.beq pc 13 then some (.iload_n 1, 1, []) else none) else (bif Nat.blt pc 15 then (bif Nat.beq pc 14 then some (.iaload, 1, []) else none) else (bif Nat.beq pc 15 then some (.ireturn, 1, [0]) else none))))
/-- X4_checkPlace -/
def I_X4_checkPlace (pc : Nat) : Option IE := bif Nat.blt pc 9 then (bif Nat.blt pc 4 then (bif Nat.blt pc 1 then (bif Nat.beq pc 0 then some (.iload_n 1, 1, []) else none) else (bif Nat.beq pc 1 then some (.ifCond .lt 8, 3, [9]) else none)) else (bif Nat.blt pc 5 then (bif Nat.beq pc 4 then some (.iload_n 1, 1, []) else none) else (bif Nat.blt pc 6 then (bif Nat.beq pc 5 then some (.iload_n 2, 1, []) else none) else (bif Nat.beq pc 6 then some (.if_icmp .lt 13, 3, [19]) else none)))) else (bif Nat.blt pc 15 then (bif Nat.blt pc 12 then (bif Nat.beq pc 9 then some (.new 182, 3, [9, 1, 327, 184, 186, 336]) else none) else (bif Nat.blt pc 13 then (bif Nat.beq pc 12 then some (.dup, 1, []) else none) else (bif Nat.beq pc 13 then some (.ldc 184, 2, []) else none))) else (bif Nat.blt pc 18 then (bif Nat.beq pc 15 then some (.invokespecial 186, 3, []) else none) else (bif Nat.blt pc 19 then (bif Nat.beq pc 18 then some (.athrow, 1, []) else none) else (bif Nat.beq pc 19 then some (.return_, 1, []) else none))))
/-- X4_checkWhat -/
def I_X4_checkWhat (pc : Nat) : Option IE := bif Nat.blt pc 9 then (bif Nat.blt pc 4 then (bif Nat.blt pc 1 then (bif Nat.beq pc 0 then some (.iload_n 1, 1, []) else none) else (bif Nat.beq pc 1 then some (.ifCond .lt 8, 3, [9]) else none)) else (bif Nat.blt pc 5 then (bif Nat.beq pc 4 then some (.iload_n 1, 1, []) else none) else (bif Nat.blt pc 6 then (bif Nat.beq pc 5 then some (.iload_n 2, 1, []) else none) else (bif Nat.beq pc 6 then some (.if_icmp .lt 13, 3, [19]) else none)))) else (bif Nat.blt pc 15 then (bif Nat.blt pc 12 then (bif Nat.beq pc 9 then some (.new 42, 3, [9, 2, 203, 187, 46, 244]) else none) else (bif Nat.blt pc 13 then (bif Nat.beq pc 12 then some (.dup, 1, []) else none) else (bif Nat.beq pc 13 then some (.ldc 187, 2, []) else none))) else (bif Nat.blt pc 18 then (bif Nat.beq pc 15 then some (.invokespecial 46, 3, []) else none) else (bif Nat.blt pc 19 then (bif Nat.beq pc 18 then some (.athrow, 1, []) else none) else (bif Nat.beq pc 19 then some (.return_, 1, []) else none))))
/-- X4_registerFact -/
def I_X4_registerFact (pc : Nat) : Option IE := bif Nat.blt pc 42 then (bif Nat.blt pc 33 then (bif Nat.blt pc 28 then (bif Nat.blt pc 1 then (bif Nat.beq pc 0 then some (.iload_n 2, 1, []) else none) else (bif Nat.beq pc 1 then some (.lookupswitch 52 #[(0, 27), (1, 36)], 27, [53, 0, 28, 1, 37]) else none)) else (bif Nat.blt pc 29 then (bif Nat.beq pc 28 then some (.aload_n 0, 1, []) else none) else (bif Nat.blt pc 32 then (bif Nat.beq pc 29 then some (.getfield 10, 3, [3, 0, 1, 176]) else none) else (bif Nat.beq pc 32 then some (.iload_n 1, 1, []) else none)))) else (bif Nat.blt pc 37 then (bif Nat.blt pc 36 then (bif Nat.beq pc 33 then some (.invokevirtual 189, 3, [0, 18, 1, 469, 1, 2, 1]) else none) else (bif Nat.beq pc 36 then some (.ireturn, 1, [0]) else none)) else (bif Nat.blt pc 38 then (bif Nat.beq pc 37 then some (.aload_n 0, 1, []) else none) else (bif Nat.blt pc 41 then (bif Nat.beq pc 38 then some (.getfield 10, 3, [3, 0, 1, 176]) else none) else (bif Nat.beq pc 41 then some (.iload_n 1, 1, []) else none))))) else (bif Nat.blt pc 53 then (bif Nat.blt pc 46 then (bif Nat.blt pc 43 then (bif Nat.beq pc 42 then some (.aload_n 0, 1, []) else none) else (bif Nat.beq pc 43 then some (.getfield 10, 3, [3, 0, 1, 176]) else none)) else (bif Nat.blt pc 49 then (bif Nat.beq pc 46 then some (.getfield 103, 3, [1, 7, 0, 118]) else none) else (bif Nat.blt pc 52 then (bif Nat.beq pc 49 then some (.invokevirtual 192, 3, [0, 28, 2, 470, 1, 4, 1]) else none) else (bif Nat.beq pc 52 then some (.ireturn, 1, [0]) else none)))) else (bif Nat.blt pc 57 then (bif Nat.blt pc 54 then (bif Nat.beq pc 53 then some (.aload_n 0, 1, []) else none) else (bif Nat.beq pc 54 then some (.getfield 16, 3, [3, 1, 1, 177]) else none)) else (bif Nat.blt pc 58 then (bif Nat.beq pc 57 then some (.iload_n 1, 1, []) else none) else (bif Nat.blt pc 61 then (bif Nat.beq pc 58 then some (.invokevirtual 189, 3, [0, 18, 1, 469, 1, 2, 1]) else none) else (bif Nat.beq pc 61 then some (.ireturn, 1, [0]) else none)))))
/-- X4_cellFact -/
def I_X4_cellFact (pc : Nat) : Option IE := bif Nat.blt pc 12 then (bif Nat.blt pc 5 then (bif Nat.blt pc 1 then (bif Nat.beq pc 0 then some (.iload_n 2, 1, []) else none) else (bif Nat.blt pc 4 then (bif Nat.beq pc 1 then some (.ifCond .ne 14, 3, [15]) else none) else (bif Nat.beq pc 4 then some (.aload_n 0, 1, []) else none))) else (bif Nat.blt pc 8 then (bif Nat.beq pc 5 then some (.getfield 10, 3, [3, 0, 1, 176]) else none) else (bif Nat.blt pc 9 then (bif Nat.beq pc 8 then some (.iload_n 1, 1, []) else none) else (bif Nat.beq pc 9 then some (.invokevirtual 195, 3, [0, 19, 1, 482, 1, 2, 1]) else none)))) else (bif Nat.blt pc 19 then (bif Nat.blt pc 15 then (bif Nat.beq pc 12 then some (.goto 11, 3, [23]) else none) else (bif Nat.blt pc 16 then (bif Nat.beq pc 15 then some (.aload_n 0, 1, []) else none) else (bif Nat.beq pc 16 then some (.getfield 16, 3, [3, 1, 1, 177]) else none))) else (bif Nat.blt pc 20 then (bif Nat.beq pc 19 then some (.iload_n 1, 1, []) else none) else (bif Nat.blt pc 23 then (bif Nat.beq pc 20 then some (.invokevirtual 195, 3, [0, 19, 1, 482, 1, 2, 1]) else none) else (bif Nat.beq pc 23 then some (.ireturn, 1, [0]) else none))))
/-- X4_ifRun -/
def I_X4_ifRun (pc : Nat) : Option IE := bif Nat.blt pc 11 then (bif Nat.blt pc 5 then (bif Nat.blt pc 1 then (bif Nat.beq pc 0 then some (.aload_n 0, 1, []) else none) else (bif Nat.blt pc 2 then (bif Nat.beq pc 1 then some (.iload_n 1, 1, []) else none) else (bif Nat.beq pc 2 then some (.invokevirtual 82, 3, [0, 68, 1, 514, 3, 2, 0]) else none))) else (bif Nat.blt pc 7 then (bif Nat.blt pc 6 then (bif Nat.beq pc 5 then some (.aload_n 0, 1, []) else none) else (bif Nat.beq pc 6 then some (.iload_n 2, 1, []) else none)) else (bif Nat.blt pc 8 then (bif Nat.beq pc 7 then some (.iconst 3, 1, []) else none) else (bif Nat.beq pc 8 then some (.invokevirtual 155, 3, [0, 85, 2, 199, 3, 3, 0]) else none)))) else (bif Nat.blt pc 16 then (bif Nat.blt pc 12 then (bif Nat.beq pc 11 then some (.aload_n 0, 1, []) else none) else (bif Nat.blt pc 13 then (bif Nat.beq pc 12 then some (.iload_n 1, 1, []) else none) else (bif Nat.beq pc 13 then some (.invokevirtual 198, 3, [0, 98, 1, 519, 3, 2, 0]) else none))) else (bif Nat.blt pc 18 then (bif Nat.blt pc 17 then (bif Nat.beq pc 16 then some (.aload_n 0, 1, []) else none) else (bif Nat.beq pc 17 then some (.iload_n 2, 1, []) else none)) else (bif Nat.blt pc 21 then (bif Nat.beq pc 18 then some (.invokevirtual 201, 3, [0, 99, 1, 576, 3, 2, 1]) else none) else (bif Nat.beq pc 21 then some (.ireturn, 1, [0]) else none))))
/-- X4_cyclesLeft -/
def I_X4_cyclesLeft (pc : Nat) : Option IE := bif Nat.blt pc 11 then (bif Nat.blt pc 4 then (bif Nat.blt pc 1 then (bif Nat.beq pc 0 then some (.aload_n 0, 1, []) else none) else (bif Nat.beq pc 1 then some (.getfield 16, 3, [3, 1, 1, 177]) else none)) else (bif Nat.blt pc 5 then (bif Nat.beq pc 4 then some (.aload_n 0, 1, []) else none) else (bif Nat.blt pc 8 then (bif Nat.beq pc 5 then some (.getfield 10, 3, [3, 0, 1, 176]) else none) else (bif Nat.beq pc 8 then some (.invokevirtual 151, 3, [0, 15, 1, 404, 1, 3, 0]) else none)))) else (bif Nat.blt pc 15 then (bif Nat.blt pc 12 then (bif Nat.beq pc 11 then some (.aload_n 0, 1, []) else none) else (bif Nat.beq pc 12 then some (.getfield 16, 3, [3, 1, 1, 177]) else none)) else (bif Nat.blt pc 17 then (bif Nat.beq pc 15 then some (.ldc 204, 2, [0, 1000000, 584]) else none) else (bif Nat.blt pc 20 then (bif Nat.beq pc 17 then some (.invokevirtual 205, 3, [0, 31, 1, 585, 1, 3, 1]) else none) else (bif Nat.beq pc 20 then some (.ireturn, 1, [0]) else none))))
/-- X4_bestWindow -/
def I_X4_bestWindow (pc : Nat) : Option IE := bif Nat.blt pc 7 then (bif Nat.blt pc 2 then (bif Nat.blt pc 1 then (bif Nat.beq pc 0 then some (.aload_n 0, 1, []) else none) else (bif Nat.beq pc 1 then some (.iload_n 1, 1, []) else none)) else (bif Nat.blt pc 3 then (bif Nat.beq pc 2 then some (.iconst 3, 1, []) else none) else (bif Nat.blt pc 6 then (bif Nat.beq pc 3 then some (.invokevirtual 155, 3, [0, 85, 2, 199, 3, 3, 0]) else none) else (bif Nat.beq pc 6 then some (.aload_n 0, 1, []) else none)))) else (bif Nat.blt pc 14 then (bif Nat.blt pc 10 then (bif Nat.beq pc 7 then some (.invokevirtual 208, 3, [0, 100, 0, 594, 3, 4, 0]) else none) else (bif Nat.blt pc 11 then (bif Nat.beq pc 10 then some (.aload_n 0, 1, []) else none) else (bif Nat.beq pc 11 then some (.getfield 30, 3, [3, 4, 1, 180]) else none))) else (bif Nat.blt pc 15 then (bif Nat.beq pc 14 then some (.iload_n 1, 1, []) else none) else (bif Nat.blt pc 16 then (bif Nat.beq pc 15 then some (.iaload, 1, []) else none) else (bif Nat.beq pc 16 then some (.ireturn, 1, [0]) else none))))
/-- X4_worstLoad -/
def I_X4_worstLoad (pc : Nat) : Option IE := bif Nat.blt pc 22 then (bif Nat.blt pc 7 then (bif Nat.blt pc 3 then (bif Nat.blt pc 1 then (bif Nat.beq pc 0 then some (.iconst (-1), 1, []) else none) else (bif Nat.blt pc 2 then (bif Nat.beq pc 1 then some (.istore_n 1, 1, []) else none) else (bif Nat.beq pc 2 then some (.iconst 0, 1, []) else none))) else (bif Nat.blt pc 5 then (bif Nat.blt pc 4 then (bif Nat.beq pc 3 then some (.istore_n 2, 1, []) else none) else (bif Nat.beq pc 4 then some (.iconst 0, 1, []) else none)) else (bif Nat.blt pc 6 then (bif Nat.beq pc 5 then some (.istore_n 3, 1, []) else none) else (bif Nat.beq pc 6 then some (.iload_n 3, 1, []) else none)))) else (bif Nat.blt pc 14 then (bif Nat.blt pc 8 then (bif Nat.beq pc 7 then some (.aload_n 0, 1, []) else none) else (bif Nat.blt pc 11 then (bif Nat.beq pc 8 then some (.getfield 10, 3, [3, 0, 1, 176]) else none) else (bif Nat.beq pc 11 then some (.getfield 134, 3, [1, 6, 0, 116]) else none))) else (bif Nat.blt pc 18 then (bif Nat.blt pc 17 then (bif Nat.beq pc 14 then some (.if_icmp .ge 33, 3, [47]) else none) else (bif Nat.beq pc 17 then some (.aload_n 0, 1, []) else none)) else (bif Nat.blt pc 21 then (bif Nat.beq pc 18 then some (.getfield 10, 3, [3, 0, 1, 176]) else none) else (bif Nat.beq pc 21 then some (.iload_n 3, 1, []) else none))))) else (bif Nat.blt pc 38 then (bif Nat.blt pc 30 then (bif Nat.blt pc 25 then (bif Nat.beq pc 22 then some (.invokevirtual 135, 3, [0, 17, 1, 343, 1, 2, 5]) else none) else (bif Nat.blt pc 28 then (bif Nat.beq pc 25 then some (.getfield 211, 3, [0, 6, 0, 61]) else none) else (bif Nat.beq pc 28 then some (.istore 4, 2, []) else none))) else (bif Nat.blt pc 33 then (bif Nat.blt pc 32 then (bif Nat.beq pc 30 then some (.iload 4, 2, []) else none) else (bif Nat.beq pc 32 then some (.iload_n 2, 1, []) else none)) else (bif Nat.blt pc 36 then (bif Nat.beq pc 33 then some (.if_icmp .le 8, 3, [41]) else none) else (bif Nat.beq pc 36 then some (.iload 4, 2, []) else none)))) else (bif Nat.blt pc 41 then (bif Nat.blt pc 39 then (bif Nat.beq pc 38 then some (.istore_n 2, 1, []) else none) else (bif Nat.blt pc 40 then (bif Nat.beq pc 39 then some (.iload_n 3, 1, []) else none) else (bif Nat.beq pc 40 then some (.istore_n 1, 1, []) else none))) else (bif Nat.blt pc 47 then (bif Nat.blt pc 44 then (bif Nat.beq pc 41 then some (.iinc 3 1, 3, []) else none) else (bif Nat.beq pc 44 then some (.goto (-38), 3, [6]) else none)) else (bif Nat.blt pc 48 then (bif Nat.beq pc 47 then some (.iload_n 1, 1, []) else none) else (bif Nat.beq pc 48 then some (.ireturn, 1, [0]) else none)))))
/-- X4_earlyShare -/
def I_X4_earlyShare (pc : Nat) : Option IE := bif Nat.blt pc 18 then (bif Nat.blt pc 10 then (bif Nat.blt pc 4 then (bif Nat.blt pc 1 then (bif Nat.beq pc 0 then some (.aload_n 0, 1, []) else none) else (bif Nat.beq pc 1 then some (.getfield 10, 3, [3, 0, 1, 176]) else none)) else (bif Nat.blt pc 7 then (bif Nat.beq pc 4 then some (.getfield 214, 3, [1, 12, 0, 127]) else none) else (bif Nat.beq pc 7 then some (.ifCond .le 23, 3, [30]) else none))) else (bif Nat.blt pc 14 then (bif Nat.blt pc 11 then (bif Nat.beq pc 10 then some (.aload_n 0, 1, []) else none) else (bif Nat.beq pc 11 then some (.getfield 10, 3, [3, 0, 1, 176]) else none)) else (bif Nat.blt pc 17 then (bif Nat.beq pc 14 then some (.getfield 217, 3, [1, 13, 0, 129]) else none) else (bif Nat.beq pc 17 then some (.i2d, 1, []) else none)))) else (bif Nat.blt pc 26 then (bif Nat.blt pc 22 then (bif Nat.blt pc 19 then (bif Nat.beq pc 18 then some (.aload_n 0, 1, []) else none) else (bif Nat.beq pc 19 then some (.getfield 10, 3, [3, 0, 1, 176]) else none)) else (bif Nat.blt pc 25 then (bif Nat.beq pc 22 then some (.getfield 214, 3, [1, 12, 0, 127]) else none) else (bif Nat.beq pc 25 then some (.i2d, 1, []) else none))) else (bif Nat.blt pc 30 then (bif Nat.blt pc 27 then (bif Nat.beq pc 26 then some (.ddiv, 1, []) else none) else (bif Nat.beq pc 27 then some (.goto 4, 3, [31]) else none)) else (bif Nat.blt pc 31 then (bif Nat.beq pc 30 then some (.dconst 0, 1, []) else none) else (bif Nat.beq pc 31 then some (.dreturn, 1, []) else none))))
/-- X4_rehearsePlainOrder -/
def I_X4_rehearsePlainOrder (pc : Nat) : Option IE := bif Nat.blt pc 8 then (bif Nat.blt pc 4 then (bif Nat.blt pc 1 then (bif Nat.beq pc 0 then some (.aload_n 0, 1, []) else none) else (bif Nat.beq pc 1 then some (.getfield 16, 3, [3, 1, 1, 177]) else none)) else (bif Nat.blt pc 5 then (bif Nat.beq pc 4 then some (.aload_n 0, 1, []) else none) else (bif Nat.beq pc 5 then some (.getfield 10, 3, [3, 0, 1, 176]) else none))) else (bif Nat.blt pc 12 then (bif Nat.blt pc 11 then (bif Nat.beq pc 8 then some (.invokevirtual 151, 3, [0, 15, 1, 404, 1, 3, 0]) else none) else (bif Nat.beq pc 11 then some (.aload_n 0, 1, []) else none)) else (bif Nat.blt pc 15 then (bif Nat.beq pc 12 then some (.getfield 16, 3, [3, 1, 1, 177]) else none) else (bif Nat.blt pc 18 then (bif Nat.beq pc 15 then some (.invokevirtual 257, 3, [0, 41, 0, 419, 1, 5, 0]) else none) else (bif Nat.beq pc 18 then some (.return_, 1, []) else none))))
/-- X4_rehearseCycles -/
def I_X4_rehearseCycles (pc : Nat) : Option IE := bif Nat.blt pc 11 then (bif Nat.blt pc 4 then (bif Nat.blt pc 1 then (bif Nat.beq pc 0 then some (.aload_n 0, 1, []) else none) else (bif Nat.beq pc 1 then some (.getfield 16, 3, [3, 1, 1, 177]) else none)) else (bif Nat.blt pc 5 then (bif Nat.beq pc 4 then some (.aload_n 0, 1, []) else none) else (bif Nat.blt pc 8 then (bif Nat.beq pc 5 then some (.getfield 10, 3, [3, 0, 1, 176]) else none) else (bif Nat.beq pc 8 then some (.invokevirtual 151, 3, [0, 15, 1, 404, 1, 3, 0]) else none)))) else (bif Nat.blt pc 15 then (bif Nat.blt pc 12 then (bif Nat.beq pc 11 then some (.aload_n 0, 1, []) else none) else (bif Nat.beq pc 12 then some (.getfield 16, 3, [3, 1, 1, 177]) else none)) else (bif Nat.blt pc 16 then (bif Nat.beq pc 15 then some (.iload_n 1, 1, []) else none) else (bif Nat.blt pc 19 then (bif Nat.beq pc 16 then some (.invokevirtual 95, 3, [0, 30, 1, 523, 1, 3, 0]) else none) else (bif Nat.beq pc 19 then some (.return_, 1, []) else none))))
/-- X4_rehearsed -/
def I_X4_rehearsed (pc : Nat) : Option IE := bif Nat.blt pc 45 then (bif Nat.blt pc 35 then (bif Nat.blt pc 28 then (bif Nat.blt pc 1 then (bif Nat.beq pc 0 then some (.iload_n 1, 1, []) else none) else (bif Nat.beq pc 1 then some (.lookupswitch 59 #[(0, 27), (1, 43)], 27, [60, 0, 28, 1, 44]) else none)) else (bif Nat.blt pc 29 then (bif Nat.beq pc 28 then some (.aload_n 0, 1, []) else none) else (bif Nat.blt pc 32 then (bif Nat.beq pc 29 then some (.getfield 16, 3, [3, 1, 1, 177]) else none) else (bif Nat.beq pc 32 then some (.getfield 92, 3, [1, 11, 0, 125]) else none)))) else (bif Nat.blt pc 42 then (bif Nat.blt pc 36 then (bif Nat.beq pc 35 then some (.aload_n 0, 1, []) else none) else (bif Nat.blt pc 39 then (bif Nat.beq pc 36 then some (.getfield 10, 3, [3, 0, 1, 176]) else none) else (bif Nat.beq pc 39 then some (.getfield 92, 3, [1, 11, 0, 125]) else none))) else (bif Nat.blt pc 43 then (bif Nat.beq pc 42 then some (.isub, 1, []) else none) else (bif Nat.blt pc 44 then (bif Nat.beq pc 43 then some (.ireturn, 1, [0]) else none) else (bif Nat.beq pc 44 then some (.aload_n 0, 1, []) else none))))) else (bif Nat.blt pc 58 then (bif Nat.blt pc 51 then (bif Nat.blt pc 48 then (bif Nat.beq pc 45 then some (.getfield 16, 3, [3, 1, 1, 177]) else none) else (bif Nat.beq pc 48 then some (.getfield 260, 3, [1, 9, 0, 122]) else none)) else (bif Nat.blt pc 52 then (bif Nat.beq pc 51 then some (.aload_n 0, 1, []) else none) else (bif Nat.blt pc 55 then (bif Nat.beq pc 52 then some (.getfield 10, 3, [3, 0, 1, 176]) else none) else (bif Nat.beq pc 55 then some (.getfield 260, 3, [1, 9, 0, 122]) else none)))) else (bif Nat.blt pc 61 then (bif Nat.blt pc 59 then (bif Nat.beq pc 58 then some (.isub, 1, []) else none) else (bif Nat.blt pc 60 then (bif Nat.beq pc 59 then some (.ireturn, 1, [0]) else none) else (bif Nat.beq pc 60 then some (.aload_n 0, 1, []) else none))) else (bif Nat.blt pc 64 then (bif Nat.beq pc 61 then some (.getfield 16, 3, [3, 1, 1, 177]) else none) else (bif Nat.blt pc 67 then (bif Nat.beq pc 64 then some (.invokevirtual 73, 3, [0, 21, 0, 355, 1, 1, 1]) else none) else (bif Nat.beq pc 67 then some (.ireturn, 1, [0]) else none)))))
/-- X4_rehearseWindows -/
def I_X4_rehearseWindows (pc : Nat) : Option IE := bif Nat.blt pc 49 then (bif Nat.blt pc 23 then (bif Nat.blt pc 8 then (bif Nat.blt pc 4 then (bif Nat.blt pc 2 then (bif Nat.beq pc 0 then some (.ldc 204, 2, [0, 1000000, 584]) else none) else (bif Nat.blt pc 3 then (bif Nat.beq pc 2 then some (.istore_n 1, 1, []) else none) else (bif Nat.beq pc 3 then some (.iconst 1, 1, []) else none))) else (bif Nat.blt pc 5 then (bif Nat.beq pc 4 then some (.istore_n 2, 1, []) else none) else (bif Nat.blt pc 6 then (bif Nat.beq pc 5 then some (.iload_n 2, 1, []) else none) else (bif Nat.beq pc 6 then some (.bipush 8, 2, []) else none)))) else (bif Nat.blt pc 15 then (bif Nat.blt pc 11 then (bif Nat.beq pc 8 then some (.if_icmp .gt 88, 3, [96]) else none) else (bif Nat.blt pc 12 then (bif Nat.beq pc 11 then some (.aload_n 0, 1, []) else none) else (bif Nat.beq pc 12 then some (.getfield 16, 3, [3, 1, 1, 177]) else none))) else (bif Nat.blt pc 19 then (bif Nat.blt pc 16 then (bif Nat.beq pc 15 then some (.aload_n 0, 1, []) else none) else (bif Nat.beq pc 16 then some (.getfield 10, 3, [3, 0, 1, 176]) else none)) else (bif Nat.blt pc 22 then (bif Nat.beq pc 19 then some (.invokevirtual 151, 3, [0, 15, 1, 404, 1, 3, 0]) else none) else (bif Nat.beq pc 22 then some (.aload_n 0, 1, []) else none))))) else (bif Nat.blt pc 38 then (bif Nat.blt pc 30 then (bif Nat.blt pc 26 then (bif Nat.beq pc 23 then some (.getfield 16, 3, [3, 1, 1, 177]) else none) else (bif Nat.blt pc 29 then (bif Nat.beq pc 26 then some (.invokevirtual 106, 3, [0, 16, 0, 598, 1, 3, 0]) else none) else (bif Nat.beq pc 29 then some (.aload_n 0, 1, []) else none))) else (bif Nat.blt pc 36 then (bif Nat.blt pc 33 then (bif Nat.beq pc 30 then some (.getfield 16, 3, [3, 1, 1, 177]) else none) else (bif Nat.beq pc 33 then some (.getfield 52, 3, [1, 4, 1, 112]) else none)) else (bif Nat.blt pc 37 then (bif Nat.beq pc 36 then some (.iconst 0, 1, []) else none) else (bif Nat.beq pc 37 then some (.iload_n 2, 1, []) else none)))) else (bif Nat.blt pc 43 then (bif Nat.blt pc 39 then (bif Nat.beq pc 38 then some (.iastore, 1, []) else none) else (bif Nat.blt pc 40 then (bif Nat.beq pc 39 then some (.aload_n 0, 1, []) else none) else (bif Nat.beq pc 40 then some (.getfield 16, 3, [3, 1, 1, 177]) else none))) else (bif Nat.blt pc 47 then (bif Nat.blt pc 44 then (bif Nat.beq pc 43 then some (.iload_n 1, 1, []) else none) else (bif Nat.beq pc 44 then some (.invokevirtual 205, 3, [0, 31, 1, 585, 1, 3, 1]) else none)) else (bif Nat.blt pc 48 then (bif Nat.beq pc 47 then some (.istore_n 3, 1, []) else none) else (bif Nat.beq pc 48 then some (.iload_n 3, 1, []) else none)))))) else (bif Nat.blt pc 69 then (bif Nat.blt pc 60 then (bif Nat.blt pc 54 then (bif Nat.blt pc 50 then (bif Nat.beq pc 49 then some (.iload_n 1, 1, []) else none) else (bif Nat.blt pc 53 then (bif Nat.beq pc 50 then some (.if_icmp .ge 40, 3, [90]) else none) else (bif Nat.beq pc 53 then some (.iload_n 3, 1, []) else none))) else (bif Nat.blt pc 56 then (bif Nat.blt pc 55 then (bif Nat.beq pc 54 then some (.istore_n 1, 1, []) else none) else (bif Nat.beq pc 55 then some (.aload_n 0, 1, []) else none)) else (bif Nat.blt pc 59 then (bif Nat.beq pc 56 then some (.getfield 30, 3, [3, 4, 1, 180]) else none) else (bif Nat.beq pc 59 then some (.iconst 0, 1, []) else none)))) else (bif Nat.blt pc 63 then (bif Nat.blt pc 61 then (bif Nat.beq pc 60 then some (.iload_n 2, 1, []) else none) else (bif Nat.blt pc 62 then (bif Nat.beq pc 61 then some (.iastore, 1, []) else none) else (bif Nat.beq pc 62 then some (.aload_n 0, 1, []) else none))) else (bif Nat.blt pc 67 then (bif Nat.blt pc 66 then (bif Nat.beq pc 63 then some (.getfield 30, 3, [3, 4, 1, 180]) else none) else (bif Nat.beq pc 66 then some (.iconst 1, 1, []) else none)) else (bif Nat.blt pc 68 then (bif Nat.beq pc 67 then some (.iload_n 3, 1, []) else none) else (bif Nat.beq pc 68 then some (.iastore, 1, []) else none))))) else (bif Nat.blt pc 82 then (bif Nat.blt pc 74 then (bif Nat.blt pc 70 then (bif Nat.beq pc 69 then some (.aload_n 0, 1, []) else none) else (bif Nat.blt pc 73 then (bif Nat.beq pc 70 then some (.getfield 30, 3, [3, 4, 1, 180]) else none) else (bif Nat.beq pc 73 then some (.iconst 2, 1, []) else none))) else (bif Nat.blt pc 78 then (bif Nat.blt pc 75 then (bif Nat.beq pc 74 then some (.aload_n 0, 1, []) else none) else (bif Nat.beq pc 75 then some (.getfield 16, 3, [3, 1, 1, 177]) else none)) else (bif Nat.blt pc 81 then (bif Nat.beq pc 78 then some (.getfield 260, 3, [1, 9, 0, 122]) else none) else (bif Nat.beq pc 81 then some (.aload_n 0, 1, []) else none)))) else (bif Nat.blt pc 89 then (bif Nat.blt pc 85 then (bif Nat.beq pc 82 then some (.getfield 10, 3, [3, 0, 1, 176]) else none) else (bif Nat.blt pc 88 then (bif Nat.beq pc 85 then some (.getfield 260, 3, [1, 9, 0, 122]) else none) else (bif Nat.beq pc 88 then some (.isub, 1, []) else none))) else (bif Nat.blt pc 93 then (bif Nat.blt pc 90 then (bif Nat.beq pc 89 then some (.iastore, 1, []) else none) else (bif Nat.beq pc 90 then some (.iinc 2 1, 3, []) else none)) else (bif Nat.blt pc 96 then (bif Nat.beq pc 93 then some (.goto (-88), 3, [5]) else none) else (bif Nat.beq pc 96 then some (.return_, 1, []) else none))))))
/-- J9_floorMod_7cf53 -/
def I_J9_floorMod_7cf53 (pc : Nat) : Option IE := bif Nat.blt pc 10 then (bif Nat.blt pc 4 then (bif Nat.blt pc 2 then (bif Nat.blt pc 1 then (bif Nat.beq pc 0 then some (.iload_n 0, 1, []) else none) else (bif Nat.beq pc 1 then some (.iload_n 1, 1, []) else none)) else (bif Nat.blt pc 3 then (bif Nat.beq pc 2 then some (.irem, 1, []) else none) else (bif Nat.beq pc 3 then some (.istore_n 2, 1, []) else none))) else (bif Nat.blt pc 6 then (bif Nat.blt pc 5 then (bif Nat.beq pc 4 then some (.iload_n 0, 1, []) else none) else (bif Nat.beq pc 5 then some (.iload_n 1, 1, []) else none)) else (bif Nat.blt pc 7 then (bif Nat.beq pc 6 then some (.ixor, 1, []) else none) else (bif Nat.beq pc 7 then some (.ifCond .ge 11, 3, [18]) else none)))) else (bif Nat.blt pc 16 then (bif Nat.blt pc 14 then (bif Nat.blt pc 11 then (bif Nat.beq pc 10 then some (.iload_n 2, 1, []) else none) else (bif Nat.beq pc 11 then some (.ifCond .eq 7, 3, [18]) else none)) else (bif Nat.blt pc 15 then (bif Nat.beq pc 14 then some (.iload_n 2, 1, []) else none) else (bif Nat.beq pc 15 then some (.iload_n 1, 1, []) else none))) else (bif Nat.blt pc 18 then (bif Nat.blt pc 17 then (bif Nat.beq pc 16 then some (.iadd, 1, []) else none) else (bif Nat.beq pc 17 then some (.ireturn, 1, [0]) else none)) else (bif Nat.blt pc 19 then (bif Nat.beq pc 18 then some (.iload_n 2, 1, []) else none) else (bif Nat.beq pc 19 then some (.ireturn, 1, [0]) else none))))
/-- L_cell -/
def I_L_cell (pc : Nat) : Option IE := bif Nat.blt pc 9 then (bif Nat.blt pc 3 then (bif Nat.blt pc 1 then (bif Nat.beq pc 0 then some (.iload_n 1, 1, []) else none) else (bif Nat.blt pc 2 then (bif Nat.beq pc 1 then some (.aload_n 0, 1, []) else none) else (bif Nat.beq pc 2 then some (.arraylength, 1, [1]) else none))) else (bif Nat.blt pc 7 then (bif Nat.blt pc 6 then (bif Nat.beq pc 3 then some (.if_icmp .ge 9, 3, [12]) else none) else (bif Nat.beq pc 6 then some (.aload_n 0, 1, []) else none)) else (bif Nat.blt pc 8 then (bif Nat.beq pc 7 then some (.iload_n 1, 1, []) else none) else (bif Nat.beq pc 8 then some (.iaload, 1, [1]) else none)))) else (bif Nat.blt pc 15 then (bif Nat.blt pc 12 then (bif Nat.beq pc 9 then some (.goto 9, 3, [18]) else none) else (bif Nat.blt pc 14 then (bif Nat.beq pc 12 then some (.ldc 7, 2, [0, 1237836467, 286]) else none) else (bif Nat.beq pc 14 then some (.iload_n 1, 1, []) else none))) else (bif Nat.blt pc 17 then (bif Nat.blt pc 16 then (bif Nat.beq pc 15 then some (.iconst 1, 1, []) else none) else (bif Nat.beq pc 16 then some (.iadd, 1, []) else none)) else (bif Nat.blt pc 18 then (bif Nat.beq pc 17 then some (.imul, 1, []) else none) else (bif Nat.beq pc 18 then some (.ireturn, 1, [0]) else none))))
/-- L_at -/
def I_L_at (pc : Nat) : Option IE := bif Nat.blt pc 3 then (bif Nat.blt pc 1 then (bif Nat.beq pc 0 then some (.iload_n 0, 1, []) else none) else (bif Nat.blt pc 2 then (bif Nat.beq pc 1 then some (.iconst 1, 1, []) else none) else (bif Nat.beq pc 2 then some (.iushr, 1, []) else none))) else (bif Nat.blt pc 4 then (bif Nat.beq pc 3 then some (.iload_n 1, 1, []) else none) else (bif Nat.blt pc 5 then (bif Nat.beq pc 4 then some (.irem, 1, []) else none) else (bif Nat.beq pc 5 then some (.ireturn, 1, [0]) else none)))
/-- L_bits -/
def I_L_bits (pc : Nat) : Option IE := bif Nat.blt pc 36 then (bif Nat.blt pc 20 then (bif Nat.blt pc 9 then (bif Nat.blt pc 5 then (bif Nat.blt pc 1 then (bif Nat.beq pc 0 then some (.iload_n 0, 1, []) else none) else (bif Nat.blt pc 4 then (bif Nat.beq pc 1 then some (.ifCond .ne 5, 3, [6]) else none) else (bif Nat.beq pc 4 then some (.iconst 0, 1, []) else none))) else (bif Nat.blt pc 6 then (bif Nat.beq pc 5 then some (.ireturn, 1, [0]) else none) else (bif Nat.blt pc 7 then (bif Nat.beq pc 6 then some (.iload_n 0, 1, []) else none) else (bif Nat.beq pc 7 then some (.ldc 10, 2, [0, 4292967296, 302]) else none)))) else (bif Nat.blt pc 15 then (bif Nat.blt pc 12 then (bif Nat.beq pc 9 then some (.if_icmp .ne 6, 3, [15]) else none) else (bif Nat.blt pc 14 then (bif Nat.beq pc 12 then some (.ldc 11, 2, [0, 2147483648, 383]) else none) else (bif Nat.beq pc 14 then some (.ireturn, 1, [0]) else none))) else (bif Nat.blt pc 16 then (bif Nat.beq pc 15 then some (.iload_n 0, 1, []) else none) else (bif Nat.blt pc 19 then (bif Nat.beq pc 16 then some (.ifCond .ge 8, 3, [24]) else none) else (bif Nat.beq pc 19 then some (.iload_n 0, 1, []) else none))))) else (bif Nat.blt pc 28 then (bif Nat.blt pc 25 then (bif Nat.blt pc 21 then (bif Nat.beq pc 20 then some (.ineg, 1, []) else none) else (bif Nat.blt pc 24 then (bif Nat.beq pc 21 then some (.goto 4, 3, [25]) else none) else (bif Nat.beq pc 24 then some (.iload_n 0, 1, []) else none))) else (bif Nat.blt pc 26 then (bif Nat.beq pc 25 then some (.istore_n 1, 1, []) else none) else (bif Nat.blt pc 27 then (bif Nat.beq pc 26 then some (.iconst 0, 1, []) else none) else (bif Nat.beq pc 27 then some (.istore_n 2, 1, []) else none)))) else (bif Nat.blt pc 31 then (bif Nat.blt pc 29 then (bif Nat.beq pc 28 then some (.iload_n 1, 1, []) else none) else (bif Nat.blt pc 30 then (bif Nat.beq pc 29 then some (.iload_n 2, 1, []) else none) else (bif Nat.beq pc 30 then some (.iconst 1, 1, []) else none))) else (bif Nat.blt pc 32 then (bif Nat.beq pc 31 then some (.iadd, 1, []) else none) else (bif Nat.blt pc 33 then (bif Nat.beq pc 32 then some (.ishr, 1, []) else none) else (bif Nat.beq pc 33 then some (.ifCond .le 9, 3, [42]) else none)))))) else (bif Nat.blt pc 55 then (bif Nat.blt pc 48 then (bif Nat.blt pc 44 then (bif Nat.blt pc 39 then (bif Nat.beq pc 36 then some (.iinc 2 1, 3, []) else none) else (bif Nat.blt pc 42 then (bif Nat.beq pc 39 then some (.goto (-11), 3, [28]) else none) else (bif Nat.beq pc 42 then some (.bipush 127, 2, []) else none))) else (bif Nat.blt pc 45 then (bif Nat.beq pc 44 then some (.iload_n 2, 1, []) else none) else (bif Nat.blt pc 46 then (bif Nat.beq pc 45 then some (.iadd, 1, []) else none) else (bif Nat.beq pc 46 then some (.bipush 23, 2, []) else none)))) else (bif Nat.blt pc 52 then (bif Nat.blt pc 49 then (bif Nat.beq pc 48 then some (.ishl, 1, []) else none) else (bif Nat.blt pc 50 then (bif Nat.beq pc 49 then some (.iload_n 1, 1, []) else none) else (bif Nat.beq pc 50 then some (.bipush 23, 2, []) else none))) else (bif Nat.blt pc 53 then (bif Nat.beq pc 52 then some (.iload_n 2, 1, []) else none) else (bif Nat.blt pc 54 then (bif Nat.beq pc 53 then some (.isub, 1, []) else none) else (bif Nat.beq pc 54 then some (.ishl, 1, []) else none))))) else (bif Nat.blt pc 64 then (bif Nat.blt pc 59 then (bif Nat.blt pc 57 then (bif Nat.beq pc 55 then some (.ldc 12, 2, [0, 8388607, 384]) else none) else (bif Nat.blt pc 58 then (bif Nat.beq pc 57 then some (.iand, 1, []) else none) else (bif Nat.beq pc 58 then some (.ior, 1, []) else none))) else (bif Nat.blt pc 60 then (bif Nat.beq pc 59 then some (.istore_n 3, 1, []) else none) else (bif Nat.blt pc 61 then (bif Nat.beq pc 60 then some (.iload_n 0, 1, []) else none) else (bif Nat.beq pc 61 then some (.ifCond .ge 10, 3, [71]) else none)))) else (bif Nat.blt pc 68 then (bif Nat.blt pc 65 then (bif Nat.beq pc 64 then some (.iload_n 3, 1, []) else none) else (bif Nat.blt pc 67 then (bif Nat.beq pc 65 then some (.ldc 11, 2, [0, 2147483648, 383]) else none) else (bif Nat.beq pc 67 then some (.ior, 1, []) else none))) else (bif Nat.blt pc 71 then (bif Nat.beq pc 68 then some (.goto 4, 3, [72]) else none) else (bif Nat.blt pc 72 then (bif Nat.beq pc 71 then some (.iload_n 3, 1, []) else none) else (bif Nat.beq pc 72 then some (.ireturn, 1, [0]) else none))))))
/-- L_plain -/
def I_L_plain (pc : Nat) : Option IE := bif Nat.blt pc 6 then (bif Nat.blt pc 1 then (bif Nat.beq pc 0 then some (.iload_n 0, 1, []) else none) else (bif Nat.blt pc 3 then (bif Nat.beq pc 1 then some (.ldc 10, 2, [0, 4292967296, 302]) else none) else (bif Nat.beq pc 3 then some (.if_icmp .ne 7, 3, [10]) else none))) else (bif Nat.blt pc 10 then (bif Nat.blt pc 7 then (bif Nat.beq pc 6 then some (.iconst 0, 1, []) else none) else (bif Nat.beq pc 7 then some (.goto 4, 3, [11]) else none)) else (bif Nat.blt pc 11 then (bif Nat.beq pc 10 then some (.iload_n 0, 1, []) else none) else (bif Nat.beq pc 11 then some (.ireturn, 1, [0]) else none)))
/-- L_held -/
def I_L_held (pc : Nat) : Option IE := bif Nat.blt pc 14 then (bif Nat.blt pc 5 then (bif Nat.blt pc 1 then (bif Nat.beq pc 0 then some (.lload_n 0, 1, []) else none) else (bif Nat.blt pc 4 then (bif Nat.beq pc 1 then some (.ldc2_w 13, 3, [2, 1000000, 309]) else none) else (bif Nat.beq pc 4 then some (.lcmp, 1, []) else none))) else (bif Nat.blt pc 10 then (bif Nat.blt pc 8 then (bif Nat.beq pc 5 then some (.ifCond .le 8, 3, [13]) else none) else (bif Nat.beq pc 8 then some (.ldc 15, 2, [0, 1000000, 310]) else none)) else (bif Nat.blt pc 13 then (bif Nat.beq pc 10 then some (.goto 18, 3, [28]) else none) else (bif Nat.beq pc 13 then some (.lload_n 0, 1, []) else none)))) else (bif Nat.blt pc 23 then (bif Nat.blt pc 18 then (bif Nat.blt pc 17 then (bif Nat.beq pc 14 then some (.ldc2_w 16, 3, [2, 18446744073708551616, 311]) else none) else (bif Nat.beq pc 17 then some (.lcmp, 1, []) else none)) else (bif Nat.blt pc 21 then (bif Nat.beq pc 18 then some (.ifCond .ge 8, 3, [26]) else none) else (bif Nat.beq pc 21 then some (.ldc 18, 2, [0, 4293967296, 312]) else none))) else (bif Nat.blt pc 27 then (bif Nat.blt pc 26 then (bif Nat.beq pc 23 then some (.goto 5, 3, [28]) else none) else (bif Nat.beq pc 26 then some (.lload_n 0, 1, []) else none)) else (bif Nat.blt pc 28 then (bif Nat.beq pc 27 then some (.l2i, 1, []) else none) else (bif Nat.beq pc 28 then some (.ireturn, 1, [0]) else none))))
/-- L_add -/
def I_L_add (pc : Nat) : Option IE := bif Nat.blt pc 18 then (bif Nat.blt pc 7 then (bif Nat.blt pc 3 then (bif Nat.blt pc 1 then (bif Nat.beq pc 0 then some (.iload_n 0, 1, []) else none) else (bif Nat.beq pc 1 then some (.ldc 10, 2, [0, 4292967296, 302]) else none)) else (bif Nat.blt pc 6 then (bif Nat.beq pc 3 then some (.if_icmp .ne 14, 3, [17]) else none) else (bif Nat.beq pc 6 then some (.iload_n 1, 1, []) else none))) else (bif Nat.blt pc 12 then (bif Nat.blt pc 9 then (bif Nat.beq pc 7 then some (.ldc 10, 2, [0, 4292967296, 302]) else none) else (bif Nat.beq pc 9 then some (.if_icmp .ne 8, 3, [17]) else none)) else (bif Nat.blt pc 14 then (bif Nat.beq pc 12 then some (.ldc 10, 2, [0, 4292967296, 302]) else none) else (bif Nat.blt pc 17 then (bif Nat.beq pc 14 then some (.goto 19, 3, [33]) else none) else (bif Nat.beq pc 17 then some (.lconst 1, 1, []) else none))))) else (bif Nat.blt pc 25 then (bif Nat.blt pc 22 then (bif Nat.blt pc 19 then (bif Nat.beq pc 18 then some (.iload_n 0, 1, []) else none) else (bif Nat.beq pc 19 then some (.invokestatic 19, 3, [1, 104, 1, 303, 9, 1, 1]) else none)) else (bif Nat.blt pc 23 then (bif Nat.beq pc 22 then some (.i2l, 1, []) else none) else (bif Nat.blt pc 24 then (bif Nat.beq pc 23 then some (.lmul, 1, []) else none) else (bif Nat.beq pc 24 then some (.iload_n 1, 1, []) else none)))) else (bif Nat.blt pc 29 then (bif Nat.blt pc 28 then (bif Nat.beq pc 25 then some (.invokestatic 19, 3, [1, 104, 1, 303, 9, 1, 1]) else none) else (bif Nat.beq pc 28 then some (.i2l, 1, []) else none)) else (bif Nat.blt pc 30 then (bif Nat.beq pc 29 then some (.ladd, 1, []) else none) else (bif Nat.blt pc 33 then (bif Nat.beq pc 30 then some (.invokestatic 23, 3, [1, 105, 1, 306, 9, 2, 1]) else none) else (bif Nat.beq pc 33 then some (.ireturn, 1, [0]) else none)))))
/-- L_mul -/
def I_L_mul (pc : Nat) : Option IE := bif Nat.blt pc 22 then (bif Nat.blt pc 11 then (bif Nat.blt pc 5 then (bif Nat.blt pc 1 then (bif Nat.beq pc 0 then some (.lconst 1, 1, []) else none) else (bif Nat.blt pc 2 then (bif Nat.beq pc 1 then some (.iload_n 0, 1, []) else none) else (bif Nat.beq pc 2 then some (.invokestatic 19, 3, [1, 104, 1, 303, 9, 1, 1]) else none))) else (bif Nat.blt pc 7 then (bif Nat.blt pc 6 then (bif Nat.beq pc 5 then some (.i2l, 1, []) else none) else (bif Nat.beq pc 6 then some (.lmul, 1, []) else none)) else (bif Nat.blt pc 8 then (bif Nat.beq pc 7 then some (.iload_n 1, 1, []) else none) else (bif Nat.beq pc 8 then some (.invokestatic 19, 3, [1, 104, 1, 303, 9, 1, 1]) else none)))) else (bif Nat.blt pc 16 then (bif Nat.blt pc 12 then (bif Nat.beq pc 11 then some (.i2l, 1, []) else none) else (bif Nat.blt pc 13 then (bif Nat.beq pc 12 then some (.lmul, 1, []) else none) else (bif Nat.beq pc 13 then some (.invokestatic 23, 3, [1, 105, 1, 306, 9, 2, 1]) else none))) else (bif Nat.blt pc 18 then (bif Nat.blt pc 17 then (bif Nat.beq pc 16 then some (.istore_n 2, 1, []) else none) else (bif Nat.beq pc 17 then some (.iload_n 2, 1, []) else none)) else (bif Nat.blt pc 21 then (bif Nat.beq pc 18 then some (.ifCond .ne 29, 3, [47]) else none) else (bif Nat.beq pc 21 then some (.iload_n 0, 1, []) else none))))) else (bif Nat.blt pc 35 then (bif Nat.blt pc 29 then (bif Nat.blt pc 25 then (bif Nat.beq pc 22 then some (.ifCond .ge 7, 3, [29]) else none) else (bif Nat.blt pc 26 then (bif Nat.beq pc 25 then some (.iconst 1, 1, []) else none) else (bif Nat.beq pc 26 then some (.goto 4, 3, [30]) else none))) else (bif Nat.blt pc 31 then (bif Nat.blt pc 30 then (bif Nat.beq pc 29 then some (.iconst 0, 1, []) else none) else (bif Nat.beq pc 30 then some (.iload_n 1, 1, []) else none)) else (bif Nat.blt pc 34 then (bif Nat.beq pc 31 then some (.ifCond .ge 7, 3, [38]) else none) else (bif Nat.beq pc 34 then some (.iconst 1, 1, []) else none)))) else (bif Nat.blt pc 42 then (bif Nat.blt pc 38 then (bif Nat.beq pc 35 then some (.goto 4, 3, [39]) else none) else (bif Nat.blt pc 39 then (bif Nat.beq pc 38 then some (.iconst 0, 1, []) else none) else (bif Nat.beq pc 39 then some (.if_icmp .eq 8, 3, [47]) else none))) else (bif Nat.blt pc 47 then (bif Nat.blt pc 44 then (bif Nat.beq pc 42 then some (.ldc 10, 2, [0, 4292967296, 302]) else none) else (bif Nat.beq pc 44 then some (.goto 4, 3, [48]) else none)) else (bif Nat.blt pc 48 then (bif Nat.beq pc 47 then some (.iload_n 2, 1, []) else none) else (bif Nat.beq pc 48 then some (.ireturn, 1, [0]) else none)))))
/-- L_place -/
def I_L_place (pc : Nat) : Option IE := bif Nat.blt pc 10 then (bif Nat.blt pc 5 then (bif Nat.blt pc 1 then (bif Nat.beq pc 0 then some (.iload_n 0, 1, []) else none) else (bif Nat.blt pc 4 then (bif Nat.beq pc 1 then some (.invokestatic 19, 3, [1, 104, 1, 303, 9, 1, 1]) else none) else (bif Nat.beq pc 4 then some (.iload_n 1, 1, []) else none))) else (bif Nat.blt pc 8 then (bif Nat.blt pc 6 then (bif Nat.beq pc 5 then some (.iadd, 1, []) else none) else (bif Nat.beq pc 6 then some (.bipush 16, 2, []) else none)) else (bif Nat.blt pc 9 then (bif Nat.beq pc 8 then some (.irem, 1, []) else none) else (bif Nat.beq pc 9 then some (.istore_n 2, 1, []) else none)))) else (bif Nat.blt pc 17 then (bif Nat.blt pc 14 then (bif Nat.blt pc 11 then (bif Nat.beq pc 10 then some (.iload_n 2, 1, []) else none) else (bif Nat.beq pc 11 then some (.ifCond .ge 10, 3, [21]) else none)) else (bif Nat.blt pc 15 then (bif Nat.beq pc 14 then some (.iload_n 2, 1, []) else none) else (bif Nat.beq pc 15 then some (.bipush 16, 2, []) else none))) else (bif Nat.blt pc 21 then (bif Nat.blt pc 18 then (bif Nat.beq pc 17 then some (.iadd, 1, []) else none) else (bif Nat.beq pc 18 then some (.goto 4, 3, [22]) else none)) else (bif Nat.blt pc 22 then (bif Nat.beq pc 21 then some (.iload_n 2, 1, []) else none) else (bif Nat.beq pc 22 then some (.ireturn, 1, [0]) else none))))
/-- L_name -/
def I_L_name (pc : Nat) : Option IE := bif Nat.blt pc 21 then (bif Nat.blt pc 9 then (bif Nat.blt pc 3 then (bif Nat.blt pc 1 then (bif Nat.beq pc 0 then some (.iload_n 0, 1, []) else none) else (bif Nat.blt pc 2 then (bif Nat.beq pc 1 then some (.iconst 1, 1, []) else none) else (bif Nat.beq pc 2 then some (.isub, 1, []) else none))) else (bif Nat.blt pc 7 then (bif Nat.blt pc 5 then (bif Nat.beq pc 3 then some (.istore 4, 2, []) else none) else (bif Nat.beq pc 5 then some (.iload 4, 2, []) else none)) else (bif Nat.blt pc 8 then (bif Nat.beq pc 7 then some (.aload_n 3, 1, []) else none) else (bif Nat.beq pc 8 then some (.iconst 3, 1, []) else none)))) else (bif Nat.blt pc 16 then (bif Nat.blt pc 13 then (bif Nat.blt pc 10 then (bif Nat.beq pc 9 then some (.iaload, 1, []) else none) else (bif Nat.beq pc 10 then some (.if_icmp .lt 36, 3, [46]) else none)) else (bif Nat.blt pc 14 then (bif Nat.beq pc 13 then some (.aload_n 2, 1, []) else none) else (bif Nat.beq pc 14 then some (.bipush 8, 2, []) else none))) else (bif Nat.blt pc 19 then (bif Nat.blt pc 18 then (bif Nat.beq pc 16 then some (.iload 4, 2, []) else none) else (bif Nat.beq pc 18 then some (.imul, 1, []) else none)) else (bif Nat.blt pc 20 then (bif Nat.beq pc 19 then some (.iaload, 1, []) else none) else (bif Nat.beq pc 20 then some (.iconst 4, 1, []) else none))))) else (bif Nat.blt pc 33 then (bif Nat.blt pc 29 then (bif Nat.blt pc 25 then (bif Nat.blt pc 24 then (bif Nat.beq pc 21 then some (.if_icmp .eq 19, 3, [40]) else none) else (bif Nat.beq pc 24 then some (.aload_n 2, 1, []) else none)) else (bif Nat.blt pc 27 then (bif Nat.beq pc 25 then some (.bipush 8, 2, []) else none) else (bif Nat.beq pc 27 then some (.iload 4, 2, []) else none))) else (bif Nat.blt pc 31 then (bif Nat.blt pc 30 then (bif Nat.beq pc 29 then some (.imul, 1, []) else none) else (bif Nat.beq pc 30 then some (.iconst 1, 1, []) else none)) else (bif Nat.blt pc 32 then (bif Nat.beq pc 31 then some (.iadd, 1, []) else none) else (bif Nat.beq pc 32 then some (.iaload, 1, []) else none)))) else (bif Nat.blt pc 40 then (bif Nat.blt pc 37 then (bif Nat.blt pc 34 then (bif Nat.beq pc 33 then some (.iload_n 1, 1, []) else none) else (bif Nat.beq pc 34 then some (.if_icmp .ne 6, 3, [40]) else none)) else (bif Nat.blt pc 39 then (bif Nat.beq pc 37 then some (.iload 4, 2, []) else none) else (bif Nat.beq pc 39 then some (.ireturn, 1, [0]) else none))) else (bif Nat.blt pc 46 then (bif Nat.blt pc 43 then (bif Nat.beq pc 40 then some (.iinc 4 (-1), 3, []) else none) else (bif Nat.beq pc 43 then some (.goto (-38), 3, [5]) else none)) else (bif Nat.blt pc 47 then (bif Nat.beq pc 46 then some (.iconst (-1), 1, []) else none) else (bif Nat.beq pc 47 then some (.ireturn, 1, [0]) else none)))))
/-- L_ready -/
def I_L_ready (pc : Nat) : Option IE := bif Nat.blt pc 15 then (bif Nat.blt pc 8 then (bif Nat.blt pc 2 then (bif Nat.blt pc 1 then (bif Nat.beq pc 0 then some (.iload_n 0, 1, []) else none) else (bif Nat.beq pc 1 then some (.iload_n 1, 1, []) else none)) else (bif Nat.blt pc 3 then (bif Nat.beq pc 2 then some (.aload_n 2, 1, []) else none) else (bif Nat.blt pc 5 then (bif Nat.beq pc 3 then some (.aload 4, 2, []) else none) else (bif Nat.beq pc 5 then some (.invokestatic 27, 3, [1, 109, 4, 377, 9, 5, 1]) else none)))) else (bif Nat.blt pc 12 then (bif Nat.blt pc 11 then (bif Nat.beq pc 8 then some (.ifCond .lt 19, 3, [27]) else none) else (bif Nat.beq pc 11 then some (.aload_n 3, 1, []) else none)) else (bif Nat.blt pc 13 then (bif Nat.beq pc 12 then some (.iconst 5, 1, []) else none) else (bif Nat.blt pc 14 then (bif Nat.beq pc 13 then some (.iload_n 0, 1, []) else none) else (bif Nat.beq pc 14 then some (.iload_n 1, 1, []) else none))))) else (bif Nat.blt pc 23 then (bif Nat.blt pc 18 then (bif Nat.blt pc 16 then (bif Nat.beq pc 15 then some (.aload_n 2, 1, []) else none) else (bif Nat.beq pc 16 then some (.aload 4, 2, []) else none)) else (bif Nat.blt pc 21 then (bif Nat.beq pc 18 then some (.invokestatic 27, 3, [1, 109, 4, 377, 9, 5, 1]) else none) else (bif Nat.blt pc 22 then (bif Nat.beq pc 21 then some (.imul, 1, []) else none) else (bif Nat.beq pc 22 then some (.iaload, 1, []) else none)))) else (bif Nat.blt pc 28 then (bif Nat.blt pc 24 then (bif Nat.beq pc 23 then some (.iconst 2, 1, []) else none) else (bif Nat.blt pc 27 then (bif Nat.beq pc 24 then some (.if_icmp .ne 7, 3, [31]) else none) else (bif Nat.beq pc 27 then some (.iconst 1, 1, []) else none))) else (bif Nat.blt pc 31 then (bif Nat.beq pc 28 then some (.goto 4, 3, [32]) else none) else (bif Nat.blt pc 32 then (bif Nat.beq pc 31 then some (.iconst 0, 1, []) else none) else (bif Nat.beq pc 32 then some (.ireturn, 1, [1]) else none)))))
/-- L_value -/
def I_L_value (pc : Nat) : Option IE := bif Nat.blt pc 19 then (bif Nat.blt pc 8 then (bif Nat.blt pc 2 then (bif Nat.blt pc 1 then (bif Nat.beq pc 0 then some (.iload_n 0, 1, []) else none) else (bif Nat.beq pc 1 then some (.iload_n 1, 1, []) else none)) else (bif Nat.blt pc 3 then (bif Nat.beq pc 2 then some (.aload_n 2, 1, []) else none) else (bif Nat.blt pc 5 then (bif Nat.beq pc 3 then some (.aload 5, 2, []) else none) else (bif Nat.beq pc 5 then some (.invokestatic 27, 3, [1, 109, 4, 377, 9, 5, 1]) else none)))) else (bif Nat.blt pc 14 then (bif Nat.blt pc 11 then (bif Nat.beq pc 8 then some (.ifCond .ge 10, 3, [18]) else none) else (bif Nat.blt pc 13 then (bif Nat.beq pc 11 then some (.aload 4, 2, []) else none) else (bif Nat.beq pc 13 then some (.iload_n 1, 1, []) else none))) else (bif Nat.blt pc 15 then (bif Nat.beq pc 14 then some (.iaload, 1, []) else none) else (bif Nat.blt pc 18 then (bif Nat.beq pc 15 then some (.goto 17, 3, [32]) else none) else (bif Nat.beq pc 18 then some (.aload_n 3, 1, []) else none))))) else (bif Nat.blt pc 25 then (bif Nat.blt pc 21 then (bif Nat.blt pc 20 then (bif Nat.beq pc 19 then some (.iconst 5, 1, []) else none) else (bif Nat.beq pc 20 then some (.iload_n 0, 1, []) else none)) else (bif Nat.blt pc 22 then (bif Nat.beq pc 21 then some (.iload_n 1, 1, []) else none) else (bif Nat.blt pc 23 then (bif Nat.beq pc 22 then some (.aload_n 2, 1, []) else none) else (bif Nat.beq pc 23 then some (.aload 5, 2, []) else none)))) else (bif Nat.blt pc 30 then (bif Nat.blt pc 28 then (bif Nat.beq pc 25 then some (.invokestatic 27, 3, [1, 109, 4, 377, 9, 5, 1]) else none) else (bif Nat.blt pc 29 then (bif Nat.beq pc 28 then some (.imul, 1, []) else none) else (bif Nat.beq pc 29 then some (.iconst 4, 1, []) else none))) else (bif Nat.blt pc 31 then (bif Nat.beq pc 30 then some (.iadd, 1, []) else none) else (bif Nat.blt pc 32 then (bif Nat.beq pc 31 then some (.iaload, 1, []) else none) else (bif Nat.beq pc 32 then some (.ireturn, 1, [0]) else none)))))
/-- L_why -/
def I_L_why (pc : Nat) : Option IE := bif Nat.blt pc 64 then (bif Nat.blt pc 30 then (bif Nat.blt pc 14 then (bif Nat.blt pc 5 then (bif Nat.blt pc 2 then (bif Nat.blt pc 1 then (bif Nat.beq pc 0 then some (.aload_n 2, 1, []) else none) else (bif Nat.beq pc 1 then some (.iconst 5, 1, []) else none)) else (bif Nat.blt pc 3 then (bif Nat.beq pc 2 then some (.iload_n 0, 1, []) else none) else (bif Nat.blt pc 4 then (bif Nat.beq pc 3 then some (.imul, 1, []) else none) else (bif Nat.beq pc 4 then some (.iaload, 1, []) else none)))) else (bif Nat.blt pc 10 then (bif Nat.blt pc 8 then (bif Nat.beq pc 5 then some (.ifCond .eq 5, 3, [10]) else none) else (bif Nat.blt pc 9 then (bif Nat.beq pc 8 then some (.iconst 1, 1, []) else none) else (bif Nat.beq pc 9 then some (.ireturn, 1, [0]) else none))) else (bif Nat.blt pc 11 then (bif Nat.beq pc 10 then some (.aload_n 1, 1, []) else none) else (bif Nat.blt pc 13 then (bif Nat.beq pc 11 then some (.bipush 8, 2, []) else none) else (bif Nat.beq pc 13 then some (.iload_n 0, 1, []) else none))))) else (bif Nat.blt pc 23 then (bif Nat.blt pc 16 then (bif Nat.blt pc 15 then (bif Nat.beq pc 14 then some (.imul, 1, []) else none) else (bif Nat.beq pc 15 then some (.iaload, 1, []) else none)) else (bif Nat.blt pc 18 then (bif Nat.beq pc 16 then some (.istore 4, 2, []) else none) else (bif Nat.blt pc 20 then (bif Nat.beq pc 18 then some (.iload 4, 2, []) else none) else (bif Nat.beq pc 20 then some (.ifCond .le 23, 3, [43]) else none)))) else (bif Nat.blt pc 27 then (bif Nat.blt pc 24 then (bif Nat.beq pc 23 then some (.iload_n 0, 1, []) else none) else (bif Nat.blt pc 25 then (bif Nat.beq pc 24 then some (.aload_n 1, 1, []) else none) else (bif Nat.beq pc 25 then some (.bipush 8, 2, []) else none))) else (bif Nat.blt pc 28 then (bif Nat.beq pc 27 then some (.iload_n 0, 1, []) else none) else (bif Nat.blt pc 29 then (bif Nat.beq pc 28 then some (.imul, 1, []) else none) else (bif Nat.beq pc 29 then some (.iconst 2, 1, []) else none)))))) else (bif Nat.blt pc 48 then (bif Nat.blt pc 35 then (bif Nat.blt pc 32 then (bif Nat.blt pc 31 then (bif Nat.beq pc 30 then some (.iadd, 1, []) else none) else (bif Nat.beq pc 31 then some (.iaload, 1, []) else none)) else (bif Nat.blt pc 33 then (bif Nat.beq pc 32 then some (.aload_n 1, 1, []) else none) else (bif Nat.blt pc 34 then (bif Nat.beq pc 33 then some (.aload_n 2, 1, []) else none) else (bif Nat.beq pc 34 then some (.aload_n 3, 1, []) else none)))) else (bif Nat.blt pc 42 then (bif Nat.blt pc 38 then (bif Nat.beq pc 35 then some (.invokestatic 31, 3, [1, 110, 5, 388, 9, 5, 1]) else none) else (bif Nat.blt pc 41 then (bif Nat.beq pc 38 then some (.ifCond .ne 5, 3, [43]) else none) else (bif Nat.beq pc 41 then some (.iconst 2, 1, []) else none))) else (bif Nat.blt pc 43 then (bif Nat.beq pc 42 then some (.ireturn, 1, [0]) else none) else (bif Nat.blt pc 45 then (bif Nat.beq pc 43 then some (.iload 4, 2, []) else none) else (bif Nat.beq pc 45 then some (.ifCond .le 29, 3, [74]) else none))))) else (bif Nat.blt pc 58 then (bif Nat.blt pc 54 then (bif Nat.blt pc 50 then (bif Nat.beq pc 48 then some (.iload 4, 2, []) else none) else (bif Nat.blt pc 51 then (bif Nat.beq pc 50 then some (.iconst 3, 1, []) else none) else (bif Nat.beq pc 51 then some (.if_icmp .eq 23, 3, [74]) else none))) else (bif Nat.blt pc 55 then (bif Nat.beq pc 54 then some (.iload_n 0, 1, []) else none) else (bif Nat.blt pc 56 then (bif Nat.beq pc 55 then some (.aload_n 1, 1, []) else none) else (bif Nat.beq pc 56 then some (.bipush 8, 2, []) else none)))) else (bif Nat.blt pc 61 then (bif Nat.blt pc 59 then (bif Nat.beq pc 58 then some (.iload_n 0, 1, []) else none) else (bif Nat.blt pc 60 then (bif Nat.beq pc 59 then some (.imul, 1, []) else none) else (bif Nat.beq pc 60 then some (.iconst 3, 1, []) else none))) else (bif Nat.blt pc 62 then (bif Nat.beq pc 61 then some (.iadd, 1, []) else none) else (bif Nat.blt pc 63 then (bif Nat.beq pc 62 then some (.iaload, 1, []) else none) else (bif Nat.beq pc 63 then some (.aload_n 1, 1, []) else none))))))) else (bif Nat.blt pc 98 then (bif Nat.blt pc 83 then (bif Nat.blt pc 73 then (bif Nat.blt pc 66 then (bif Nat.blt pc 65 then (bif Nat.beq pc 64 then some (.aload_n 2, 1, []) else none) else (bif Nat.beq pc 65 then some (.aload_n 3, 1, []) else none)) else (bif Nat.blt pc 69 then (bif Nat.beq pc 66 then some (.invokestatic 31, 3, [1, 110, 5, 388, 9, 5, 1]) else none) else (bif Nat.blt pc 72 then (bif Nat.beq pc 69 then some (.ifCond .ne 5, 3, [74]) else none) else (bif Nat.beq pc 72 then some (.iconst 3, 1, []) else none)))) else (bif Nat.blt pc 77 then (bif Nat.blt pc 74 then (bif Nat.beq pc 73 then some (.ireturn, 1, [0]) else none) else (bif Nat.blt pc 76 then (bif Nat.beq pc 74 then some (.iload 4, 2, []) else none) else (bif Nat.beq pc 76 then some (.iconst 3, 1, []) else none))) else (bif Nat.blt pc 80 then (bif Nat.beq pc 77 then some (.if_icmp .ne 14, 3, [91]) else none) else (bif Nat.blt pc 81 then (bif Nat.beq pc 80 then some (.aload_n 1, 1, []) else none) else (bif Nat.beq pc 81 then some (.bipush 8, 2, []) else none))))) else (bif Nat.blt pc 91 then (bif Nat.blt pc 86 then (bif Nat.blt pc 84 then (bif Nat.beq pc 83 then some (.iload_n 0, 1, []) else none) else (bif Nat.blt pc 85 then (bif Nat.beq pc 84 then some (.imul, 1, []) else none) else (bif Nat.beq pc 85 then some (.iconst 5, 1, []) else none))) else (bif Nat.blt pc 87 then (bif Nat.beq pc 86 then some (.iadd, 1, []) else none) else (bif Nat.blt pc 88 then (bif Nat.beq pc 87 then some (.iaload, 1, []) else none) else (bif Nat.beq pc 88 then some (.ifCond .ne 5, 3, [93]) else none)))) else (bif Nat.blt pc 94 then (bif Nat.blt pc 92 then (bif Nat.beq pc 91 then some (.iconst 0, 1, []) else none) else (bif Nat.blt pc 93 then (bif Nat.beq pc 92 then some (.ireturn, 1, [0]) else none) else (bif Nat.beq pc 93 then some (.aload_n 3, 1, []) else none))) else (bif Nat.blt pc 95 then (bif Nat.beq pc 94 then some (.iconst 3, 1, []) else none) else (bif Nat.blt pc 96 then (bif Nat.beq pc 95 then some (.iaload, 1, []) else none) else (bif Nat.beq pc 96 then some (.istore 5, 2, []) else none)))))) else (bif Nat.blt pc 116 then (bif Nat.blt pc 107 then (bif Nat.blt pc 101 then (bif Nat.blt pc 100 then (bif Nat.beq pc 98 then some (.iload 5, 2, []) else none) else (bif Nat.beq pc 100 then some (.iload_n 0, 1, []) else none)) else (bif Nat.blt pc 104 then (bif Nat.beq pc 101 then some (.if_icmp .ge 32, 3, [133]) else none) else (bif Nat.blt pc 105 then (bif Nat.beq pc 104 then some (.aload_n 1, 1, []) else none) else (bif Nat.beq pc 105 then some (.bipush 8, 2, []) else none)))) else (bif Nat.blt pc 111 then (bif Nat.blt pc 109 then (bif Nat.beq pc 107 then some (.iload 5, 2, []) else none) else (bif Nat.blt pc 110 then (bif Nat.beq pc 109 then some (.imul, 1, []) else none) else (bif Nat.beq pc 110 then some (.iaload, 1, []) else none))) else (bif Nat.blt pc 112 then (bif Nat.beq pc 111 then some (.iconst 4, 1, []) else none) else (bif Nat.blt pc 115 then (bif Nat.beq pc 112 then some (.if_icmp .ne 15, 3, [127]) else none) else (bif Nat.beq pc 115 then some (.aload_n 2, 1, []) else none))))) else (bif Nat.blt pc 125 then (bif Nat.blt pc 120 then (bif Nat.blt pc 117 then (bif Nat.beq pc 116 then some (.iconst 5, 1, []) else none) else (bif Nat.blt pc 119 then (bif Nat.beq pc 117 then some (.iload 5, 2, []) else none) else (bif Nat.beq pc 119 then some (.imul, 1, []) else none))) else (bif Nat.blt pc 121 then (bif Nat.beq pc 120 then some (.iaload, 1, []) else none) else (bif Nat.blt pc 122 then (bif Nat.beq pc 121 then some (.iconst 2, 1, []) else none) else (bif Nat.beq pc 122 then some (.if_icmp .eq 5, 3, [127]) else none)))) else (bif Nat.blt pc 130 then (bif Nat.blt pc 126 then (bif Nat.beq pc 125 then some (.iconst 4, 1, []) else none) else (bif Nat.blt pc 127 then (bif Nat.beq pc 126 then some (.ireturn, 1, [0]) else none) else (bif Nat.beq pc 127 then some (.iinc 5 1, 3, []) else none))) else (bif Nat.blt pc 133 then (bif Nat.beq pc 130 then some (.goto (-32), 3, [98]) else none) else (bif Nat.blt pc 134 then (bif Nat.beq pc 133 then some (.iconst 0, 1, []) else none) else (bif Nat.beq pc 134 then some (.ireturn, 1, [0]) else none)))))))
/-- L_done -/
def I_L_done (pc : Nat) : Option IE := bif Nat.blt pc 250 then (bif Nat.blt pc 123 then (bif Nat.blt pc 61 then (bif Nat.blt pc 28 then (bif Nat.blt pc 14 then (bif Nat.blt pc 7 then (bif Nat.blt pc 3 then (bif Nat.blt pc 2 then (bif Nat.beq pc 0 then some (.bipush 8, 2, []) else none) else (bif Nat.beq pc 2 then some (.iload_n 0, 1, []) else none)) else (bif Nat.blt pc 4 then (bif Nat.beq pc 3 then some (.imul, 1, []) else none) else (bif Nat.blt pc 6 then (bif Nat.beq pc 4 then some (.istore 6, 2, []) else none) else (bif Nat.beq pc 6 then some (.iconst 5, 1, []) else none)))) else (bif Nat.blt pc 9 then (bif Nat.blt pc 8 then (bif Nat.beq pc 7 then some (.iload_n 0, 1, []) else none) else (bif Nat.beq pc 8 then some (.imul, 1, []) else none)) else (bif Nat.blt pc 11 then (bif Nat.beq pc 9 then some (.istore 7, 2, []) else none) else (bif Nat.blt pc 12 then (bif Nat.beq pc 11 then some (.aload_n 2, 1, []) else none) else (bif Nat.beq pc 12 then some (.iload 7, 2, []) else none))))) else (bif Nat.blt pc 20 then (bif Nat.blt pc 16 then (bif Nat.blt pc 15 then (bif Nat.beq pc 14 then some (.iconst 2, 1, []) else none) else (bif Nat.beq pc 15 then some (.iastore, 1, []) else none)) else (bif Nat.blt pc 17 then (bif Nat.beq pc 16 then some (.aload_n 1, 1, []) else none) else (bif Nat.blt pc 19 then (bif Nat.beq pc 17 then some (.iload 6, 2, []) else none) else (bif Nat.beq pc 19 then some (.iaload, 1, []) else none)))) else (bif Nat.blt pc 24 then (bif Nat.blt pc 23 then (bif Nat.beq pc 20 then some (.ifCond .le 21, 3, [41]) else none) else (bif Nat.beq pc 23 then some (.iload_n 0, 1, []) else none)) else (bif Nat.blt pc 25 then (bif Nat.beq pc 24 then some (.aload_n 1, 1, []) else none) else (bif Nat.blt pc 27 then (bif Nat.beq pc 25 then some (.iload 6, 2, []) else none) else (bif Nat.beq pc 27 then some (.iconst 2, 1, []) else none)))))) else (bif Nat.blt pc 44 then (bif Nat.blt pc 33 then (bif Nat.blt pc 30 then (bif Nat.blt pc 29 then (bif Nat.beq pc 28 then some (.iadd, 1, []) else none) else (bif Nat.beq pc 29 then some (.iaload, 1, []) else none)) else (bif Nat.blt pc 31 then (bif Nat.beq pc 30 then some (.aload_n 1, 1, []) else none) else (bif Nat.blt pc 32 then (bif Nat.beq pc 31 then some (.aload_n 2, 1, []) else none) else (bif Nat.beq pc 32 then some (.aload_n 3, 1, []) else none)))) else (bif Nat.blt pc 38 then (bif Nat.blt pc 35 then (bif Nat.beq pc 33 then some (.aload 5, 2, []) else none) else (bif Nat.beq pc 35 then some (.invokestatic 35, 3, [1, 111, 6, 507, 9, 6, 1]) else none)) else (bif Nat.blt pc 41 then (bif Nat.beq pc 38 then some (.goto 4, 3, [42]) else none) else (bif Nat.blt pc 42 then (bif Nat.beq pc 41 then some (.iconst 0, 1, []) else none) else (bif Nat.beq pc 42 then some (.istore 8, 2, []) else none))))) else (bif Nat.blt pc 52 then (bif Nat.blt pc 47 then (bif Nat.blt pc 45 then (bif Nat.beq pc 44 then some (.aload_n 1, 1, []) else none) else (bif Nat.beq pc 45 then some (.iload 6, 2, []) else none)) else (bif Nat.blt pc 48 then (bif Nat.beq pc 47 then some (.iaload, 1, []) else none) else (bif Nat.blt pc 51 then (bif Nat.beq pc 48 then some (.ifCond .le 29, 3, [77]) else none) else (bif Nat.beq pc 51 then some (.aload_n 1, 1, []) else none)))) else (bif Nat.blt pc 56 then (bif Nat.blt pc 54 then (bif Nat.beq pc 52 then some (.iload 6, 2, []) else none) else (bif Nat.blt pc 55 then (bif Nat.beq pc 54 then some (.iaload, 1, []) else none) else (bif Nat.beq pc 55 then some (.iconst 3, 1, []) else none))) else (bif Nat.blt pc 59 then (bif Nat.beq pc 56 then some (.if_icmp .eq 21, 3, [77]) else none) else (bif Nat.blt pc 60 then (bif Nat.beq pc 59 then some (.iload_n 0, 1, []) else none) else (bif Nat.beq pc 60 then some (.aload_n 1, 1, []) else none))))))) else (bif Nat.blt pc 93 then (bif Nat.blt pc 77 then (bif Nat.blt pc 67 then (bif Nat.blt pc 64 then (bif Nat.blt pc 63 then (bif Nat.beq pc 61 then some (.iload 6, 2, []) else none) else (bif Nat.beq pc 63 then some (.iconst 3, 1, []) else none)) else (bif Nat.blt pc 65 then (bif Nat.beq pc 64 then some (.iadd, 1, []) else none) else (bif Nat.blt pc 66 then (bif Nat.beq pc 65 then some (.iaload, 1, []) else none) else (bif Nat.beq pc 66 then some (.aload_n 1, 1, []) else none)))) else (bif Nat.blt pc 69 then (bif Nat.blt pc 68 then (bif Nat.beq pc 67 then some (.aload_n 2, 1, []) else none) else (bif Nat.beq pc 68 then some (.aload_n 3, 1, []) else none)) else (bif Nat.blt pc 71 then (bif Nat.beq pc 69 then some (.aload 5, 2, []) else none) else (bif Nat.blt pc 74 then (bif Nat.beq pc 71 then some (.invokestatic 35, 3, [1, 111, 6, 507, 9, 6, 1]) else none) else (bif Nat.beq pc 74 then some (.goto 4, 3, [78]) else none))))) else (bif Nat.blt pc 84 then (bif Nat.blt pc 80 then (bif Nat.blt pc 78 then (bif Nat.beq pc 77 then some (.iconst 0, 1, []) else none) else (bif Nat.beq pc 78 then some (.istore 9, 2, []) else none)) else (bif Nat.blt pc 81 then (bif Nat.beq pc 80 then some (.aload_n 1, 1, []) else none) else (bif Nat.blt pc 83 then (bif Nat.beq pc 81 then some (.iload 6, 2, []) else none) else (bif Nat.beq pc 83 then some (.iaload, 1, []) else none)))) else (bif Nat.blt pc 90 then (bif Nat.blt pc 87 then (bif Nat.beq pc 84 then some (.ifCond .ne 17, 3, [101]) else none) else (bif Nat.blt pc 88 then (bif Nat.beq pc 87 then some (.aload_n 2, 1, []) else none) else (bif Nat.beq pc 88 then some (.iload 7, 2, []) else none))) else (bif Nat.blt pc 91 then (bif Nat.beq pc 90 then some (.iconst 4, 1, []) else none) else (bif Nat.blt pc 92 then (bif Nat.beq pc 91 then some (.iadd, 1, []) else none) else (bif Nat.beq pc 92 then some (.aload_n 1, 1, []) else none)))))) else (bif Nat.blt pc 105 then (bif Nat.blt pc 99 then (bif Nat.blt pc 96 then (bif Nat.blt pc 95 then (bif Nat.beq pc 93 then some (.iload 6, 2, []) else none) else (bif Nat.beq pc 95 then some (.iconst 4, 1, []) else none)) else (bif Nat.blt pc 97 then (bif Nat.beq pc 96 then some (.iadd, 1, []) else none) else (bif Nat.blt pc 98 then (bif Nat.beq pc 97 then some (.iaload, 1, []) else none) else (bif Nat.beq pc 98 then some (.iconst 4, 1, []) else none)))) else (bif Nat.blt pc 101 then (bif Nat.blt pc 100 then (bif Nat.beq pc 99 then some (.idiv, 1, []) else none) else (bif Nat.beq pc 100 then some (.iastore, 1, []) else none)) else (bif Nat.blt pc 102 then (bif Nat.beq pc 101 then some (.aload_n 1, 1, []) else none) else (bif Nat.blt pc 104 then (bif Nat.beq pc 102 then some (.iload 6, 2, []) else none) else (bif Nat.beq pc 104 then some (.iaload, 1, []) else none))))) else (bif Nat.blt pc 113 then (bif Nat.blt pc 109 then (bif Nat.blt pc 106 then (bif Nat.beq pc 105 then some (.iconst 1, 1, []) else none) else (bif Nat.beq pc 106 then some (.if_icmp .ne 16, 3, [122]) else none)) else (bif Nat.blt pc 110 then (bif Nat.beq pc 109 then some (.aload_n 2, 1, []) else none) else (bif Nat.blt pc 112 then (bif Nat.beq pc 110 then some (.iload 7, 2, []) else none) else (bif Nat.beq pc 112 then some (.iconst 4, 1, []) else none)))) else (bif Nat.blt pc 118 then (bif Nat.blt pc 114 then (bif Nat.beq pc 113 then some (.iadd, 1, []) else none) else (bif Nat.blt pc 116 then (bif Nat.beq pc 114 then some (.iload 8, 2, []) else none) else (bif Nat.beq pc 116 then some (.iload 9, 2, []) else none))) else (bif Nat.blt pc 121 then (bif Nat.beq pc 118 then some (.invokestatic 39, 3, [1, 106, 2, 299, 9, 2, 1]) else none) else (bif Nat.blt pc 122 then (bif Nat.beq pc 121 then some (.iastore, 1, []) else none) else (bif Nat.beq pc 122 then some (.aload_n 1, 1, []) else none)))))))) else (bif Nat.blt pc 186 then (bif Nat.blt pc 156 then (bif Nat.blt pc 139 then (bif Nat.blt pc 131 then (bif Nat.blt pc 126 then (bif Nat.blt pc 125 then (bif Nat.beq pc 123 then some (.iload 6, 2, []) else none) else (bif Nat.beq pc 125 then some (.iaload, 1, []) else none)) else (bif Nat.blt pc 127 then (bif Nat.beq pc 126 then some (.iconst 2, 1, []) else none) else (bif Nat.blt pc 130 then (bif Nat.beq pc 127 then some (.if_icmp .ne 16, 3, [143]) else none) else (bif Nat.beq pc 130 then some (.aload_n 2, 1, []) else none)))) else (bif Nat.blt pc 134 then (bif Nat.blt pc 133 then (bif Nat.beq pc 131 then some (.iload 7, 2, []) else none) else (bif Nat.beq pc 133 then some (.iconst 4, 1, []) else none)) else (bif Nat.blt pc 135 then (bif Nat.beq pc 134 then some (.iadd, 1, []) else none) else (bif Nat.blt pc 137 then (bif Nat.beq pc 135 then some (.iload 8, 2, []) else none) else (bif Nat.beq pc 137 then some (.iload 9, 2, []) else none))))) else (bif Nat.blt pc 147 then (bif Nat.blt pc 143 then (bif Nat.blt pc 142 then (bif Nat.beq pc 139 then some (.invokestatic 43, 3, [1, 107, 2, 313, 9, 3, 1]) else none) else (bif Nat.beq pc 142 then some (.iastore, 1, []) else none)) else (bif Nat.blt pc 144 then (bif Nat.beq pc 143 then some (.aload_n 1, 1, []) else none) else (bif Nat.blt pc 146 then (bif Nat.beq pc 144 then some (.iload 6, 2, []) else none) else (bif Nat.beq pc 146 then some (.iaload, 1, []) else none)))) else (bif Nat.blt pc 152 then (bif Nat.blt pc 148 then (bif Nat.beq pc 147 then some (.iconst 3, 1, []) else none) else (bif Nat.blt pc 151 then (bif Nat.beq pc 148 then some (.if_icmp .ge 4, 3, [152]) else none) else (bif Nat.beq pc 151 then some (.return_, 1, []) else none))) else (bif Nat.blt pc 153 then (bif Nat.beq pc 152 then some (.aload_n 2, 1, []) else none) else (bif Nat.blt pc 155 then (bif Nat.beq pc 153 then some (.iload 7, 2, []) else none) else (bif Nat.beq pc 155 then some (.iconst 2, 1, []) else none)))))) else (bif Nat.blt pc 170 then (bif Nat.blt pc 163 then (bif Nat.blt pc 159 then (bif Nat.blt pc 157 then (bif Nat.beq pc 156 then some (.iadd, 1, []) else none) else (bif Nat.beq pc 157 then some (.iload 8, 2, []) else none)) else (bif Nat.blt pc 160 then (bif Nat.beq pc 159 then some (.aload_n 1, 1, []) else none) else (bif Nat.blt pc 162 then (bif Nat.beq pc 160 then some (.iload 6, 2, []) else none) else (bif Nat.beq pc 162 then some (.iconst 4, 1, []) else none)))) else (bif Nat.blt pc 165 then (bif Nat.blt pc 164 then (bif Nat.beq pc 163 then some (.iadd, 1, []) else none) else (bif Nat.beq pc 164 then some (.iaload, 1, []) else none)) else (bif Nat.blt pc 168 then (bif Nat.beq pc 165 then some (.invokestatic 46, 3, [1, 108, 2, 316, 9, 3, 1]) else none) else (bif Nat.blt pc 169 then (bif Nat.beq pc 168 then some (.iastore, 1, []) else none) else (bif Nat.beq pc 169 then some (.aload_n 1, 1, []) else none))))) else (bif Nat.blt pc 178 then (bif Nat.blt pc 173 then (bif Nat.blt pc 172 then (bif Nat.beq pc 170 then some (.iload 6, 2, []) else none) else (bif Nat.beq pc 172 then some (.iaload, 1, []) else none)) else (bif Nat.blt pc 174 then (bif Nat.beq pc 173 then some (.iconst 3, 1, []) else none) else (bif Nat.blt pc 177 then (bif Nat.beq pc 174 then some (.if_icmp .ne 150, 3, [324]) else none) else (bif Nat.beq pc 177 then some (.iconst 0, 1, []) else none)))) else (bif Nat.blt pc 183 then (bif Nat.blt pc 180 then (bif Nat.beq pc 178 then some (.istore 10, 2, []) else none) else (bif Nat.blt pc 181 then (bif Nat.beq pc 180 then some (.aload_n 2, 1, []) else none) else (bif Nat.beq pc 181 then some (.iload 7, 2, []) else none))) else (bif Nat.blt pc 184 then (bif Nat.beq pc 183 then some (.iconst 3, 1, []) else none) else (bif Nat.blt pc 185 then (bif Nat.beq pc 184 then some (.iadd, 1, []) else none) else (bif Nat.beq pc 185 then some (.iconst (-1), 1, []) else none))))))) else (bif Nat.blt pc 215 then (bif Nat.blt pc 199 then (bif Nat.blt pc 192 then (bif Nat.blt pc 188 then (bif Nat.blt pc 187 then (bif Nat.beq pc 186 then some (.iastore, 1, []) else none) else (bif Nat.beq pc 187 then some (.aload_n 2, 1, []) else none)) else (bif Nat.blt pc 190 then (bif Nat.beq pc 188 then some (.iload 7, 2, []) else none) else (bif Nat.blt pc 191 then (bif Nat.beq pc 190 then some (.iconst 4, 1, []) else none) else (bif Nat.beq pc 191 then some (.iadd, 1, []) else none)))) else (bif Nat.blt pc 195 then (bif Nat.blt pc 194 then (bif Nat.beq pc 192 then some (.aload 4, 2, []) else none) else (bif Nat.beq pc 194 then some (.aload_n 2, 1, []) else none)) else (bif Nat.blt pc 197 then (bif Nat.beq pc 195 then some (.iload 7, 2, []) else none) else (bif Nat.blt pc 198 then (bif Nat.beq pc 197 then some (.iconst 2, 1, []) else none) else (bif Nat.beq pc 198 then some (.iadd, 1, []) else none))))) else (bif Nat.blt pc 205 then (bif Nat.blt pc 201 then (bif Nat.blt pc 200 then (bif Nat.beq pc 199 then some (.iaload, 1, []) else none) else (bif Nat.beq pc 200 then some (.iaload, 1, []) else none)) else (bif Nat.blt pc 202 then (bif Nat.beq pc 201 then some (.iastore, 1, []) else none) else (bif Nat.blt pc 204 then (bif Nat.beq pc 202 then some (.aload 5, 2, []) else none) else (bif Nat.beq pc 204 then some (.iconst 3, 1, []) else none)))) else (bif Nat.blt pc 210 then (bif Nat.blt pc 206 then (bif Nat.beq pc 205 then some (.iaload, 1, []) else none) else (bif Nat.blt pc 208 then (bif Nat.beq pc 206 then some (.istore 11, 2, []) else none) else (bif Nat.beq pc 208 then some (.iload 11, 2, []) else none))) else (bif Nat.blt pc 211 then (bif Nat.beq pc 210 then some (.iload_n 0, 1, []) else none) else (bif Nat.blt pc 214 then (bif Nat.beq pc 211 then some (.if_icmp .ge 93, 3, [304]) else none) else (bif Nat.beq pc 214 then some (.aload_n 1, 1, []) else none)))))) else (bif Nat.blt pc 232 then (bif Nat.blt pc 222 then (bif Nat.blt pc 219 then (bif Nat.blt pc 217 then (bif Nat.beq pc 215 then some (.bipush 8, 2, []) else none) else (bif Nat.beq pc 217 then some (.iload 11, 2, []) else none)) else (bif Nat.blt pc 220 then (bif Nat.beq pc 219 then some (.imul, 1, []) else none) else (bif Nat.blt pc 221 then (bif Nat.beq pc 220 then some (.iaload, 1, []) else none) else (bif Nat.beq pc 221 then some (.iconst 4, 1, []) else none)))) else (bif Nat.blt pc 228 then (bif Nat.blt pc 225 then (bif Nat.beq pc 222 then some (.if_icmp .eq 6, 3, [228]) else none) else (bif Nat.beq pc 225 then some (.goto 73, 3, [298]) else none)) else (bif Nat.blt pc 229 then (bif Nat.beq pc 228 then some (.aload_n 2, 1, []) else none) else (bif Nat.blt pc 230 then (bif Nat.beq pc 229 then some (.iconst 5, 1, []) else none) else (bif Nat.beq pc 230 then some (.iload 11, 2, []) else none))))) else (bif Nat.blt pc 239 then (bif Nat.blt pc 234 then (bif Nat.blt pc 233 then (bif Nat.beq pc 232 then some (.imul, 1, []) else none) else (bif Nat.beq pc 233 then some (.iaload, 1, []) else none)) else (bif Nat.blt pc 235 then (bif Nat.beq pc 234 then some (.iconst 2, 1, []) else none) else (bif Nat.blt pc 238 then (bif Nat.beq pc 235 then some (.if_icmp .eq 7, 3, [242]) else none) else (bif Nat.beq pc 238 then some (.iconst 1, 1, []) else none)))) else (bif Nat.blt pc 246 then (bif Nat.blt pc 242 then (bif Nat.beq pc 239 then some (.goto 5, 3, [244]) else none) else (bif Nat.blt pc 244 then (bif Nat.beq pc 242 then some (.iload 10, 2, []) else none) else (bif Nat.beq pc 244 then some (.istore 10, 2, []) else none))) else (bif Nat.blt pc 247 then (bif Nat.beq pc 246 then some (.aload_n 2, 1, []) else none) else (bif Nat.blt pc 248 then (bif Nat.beq pc 247 then some (.iconst 5, 1, []) else none) else (bif Nat.beq pc 248 then some (.iload 11, 2, []) else none))))))))) else (bif Nat.blt pc 370 then (bif Nat.blt pc 310 then (bif Nat.blt pc 280 then (bif Nat.blt pc 263 then (bif Nat.blt pc 257 then (bif Nat.blt pc 252 then (bif Nat.blt pc 251 then (bif Nat.beq pc 250 then some (.imul, 1, []) else none) else (bif Nat.beq pc 251 then some (.iaload, 1, []) else none)) else (bif Nat.blt pc 253 then (bif Nat.beq pc 252 then some (.iconst 2, 1, []) else none) else (bif Nat.blt pc 256 then (bif Nat.beq pc 253 then some (.if_icmp .ne 45, 3, [298]) else none) else (bif Nat.beq pc 256 then some (.aload_n 2, 1, []) else none)))) else (bif Nat.blt pc 260 then (bif Nat.blt pc 258 then (bif Nat.beq pc 257 then some (.iconst 5, 1, []) else none) else (bif Nat.beq pc 258 then some (.iload 11, 2, []) else none)) else (bif Nat.blt pc 261 then (bif Nat.beq pc 260 then some (.imul, 1, []) else none) else (bif Nat.blt pc 262 then (bif Nat.beq pc 261 then some (.iconst 2, 1, []) else none) else (bif Nat.beq pc 262 then some (.iadd, 1, []) else none))))) else (bif Nat.blt pc 269 then (bif Nat.blt pc 265 then (bif Nat.blt pc 264 then (bif Nat.beq pc 263 then some (.iaload, 1, []) else none) else (bif Nat.beq pc 264 then some (.aload_n 2, 1, []) else none)) else (bif Nat.blt pc 267 then (bif Nat.beq pc 265 then some (.iload 7, 2, []) else none) else (bif Nat.blt pc 268 then (bif Nat.beq pc 267 then some (.iconst 2, 1, []) else none) else (bif Nat.beq pc 268 then some (.iadd, 1, []) else none)))) else (bif Nat.blt pc 276 then (bif Nat.blt pc 270 then (bif Nat.beq pc 269 then some (.iaload, 1, []) else none) else (bif Nat.blt pc 273 then (bif Nat.beq pc 270 then some (.if_icmp .eq 6, 3, [276]) else none) else (bif Nat.beq pc 273 then some (.goto 25, 3, [298]) else none))) else (bif Nat.blt pc 277 then (bif Nat.beq pc 276 then some (.aload_n 2, 1, []) else none) else (bif Nat.blt pc 279 then (bif Nat.beq pc 277 then some (.iload 7, 2, []) else none) else (bif Nat.beq pc 279 then some (.iconst 3, 1, []) else none)))))) else (bif Nat.blt pc 293 then (bif Nat.blt pc 287 then (bif Nat.blt pc 283 then (bif Nat.blt pc 281 then (bif Nat.beq pc 280 then some (.iadd, 1, []) else none) else (bif Nat.beq pc 281 then some (.iload 11, 2, []) else none)) else (bif Nat.blt pc 284 then (bif Nat.beq pc 283 then some (.iastore, 1, []) else none) else (bif Nat.blt pc 285 then (bif Nat.beq pc 284 then some (.aload_n 2, 1, []) else none) else (bif Nat.beq pc 285 then some (.iload 7, 2, []) else none)))) else (bif Nat.blt pc 289 then (bif Nat.blt pc 288 then (bif Nat.beq pc 287 then some (.iconst 4, 1, []) else none) else (bif Nat.beq pc 288 then some (.iadd, 1, []) else none)) else (bif Nat.blt pc 290 then (bif Nat.beq pc 289 then some (.aload_n 2, 1, []) else none) else (bif Nat.blt pc 291 then (bif Nat.beq pc 290 then some (.iconst 5, 1, []) else none) else (bif Nat.beq pc 291 then some (.iload 11, 2, []) else none))))) else (bif Nat.blt pc 298 then (bif Nat.blt pc 295 then (bif Nat.blt pc 294 then (bif Nat.beq pc 293 then some (.imul, 1, []) else none) else (bif Nat.beq pc 294 then some (.iconst 4, 1, []) else none)) else (bif Nat.blt pc 296 then (bif Nat.beq pc 295 then some (.iadd, 1, []) else none) else (bif Nat.blt pc 297 then (bif Nat.beq pc 296 then some (.iaload, 1, []) else none) else (bif Nat.beq pc 297 then some (.iastore, 1, []) else none)))) else (bif Nat.blt pc 306 then (bif Nat.blt pc 301 then (bif Nat.beq pc 298 then some (.iinc 11 1, 3, []) else none) else (bif Nat.blt pc 304 then (bif Nat.beq pc 301 then some (.goto (-93), 3, [208]) else none) else (bif Nat.beq pc 304 then some (.aload 5, 2, []) else none))) else (bif Nat.blt pc 308 then (bif Nat.beq pc 306 then some (.bipush 7, 2, []) else none) else (bif Nat.blt pc 309 then (bif Nat.beq pc 308 then some (.dup2, 1, []) else none) else (bif Nat.beq pc 309 then some (.iaload, 1, []) else none))))))) else (bif Nat.blt pc 338 then (bif Nat.blt pc 323 then (bif Nat.blt pc 317 then (bif Nat.blt pc 312 then (bif Nat.blt pc 311 then (bif Nat.beq pc 310 then some (.iconst 1, 1, []) else none) else (bif Nat.beq pc 311 then some (.iadd, 1, []) else none)) else (bif Nat.blt pc 313 then (bif Nat.beq pc 312 then some (.iastore, 1, []) else none) else (bif Nat.blt pc 315 then (bif Nat.beq pc 313 then some (.aload 5, 2, []) else none) else (bif Nat.beq pc 315 then some (.bipush 8, 2, []) else none)))) else (bif Nat.blt pc 319 then (bif Nat.blt pc 318 then (bif Nat.beq pc 317 then some (.dup2, 1, []) else none) else (bif Nat.beq pc 318 then some (.iaload, 1, []) else none)) else (bif Nat.blt pc 321 then (bif Nat.beq pc 319 then some (.iload 10, 2, []) else none) else (bif Nat.blt pc 322 then (bif Nat.beq pc 321 then some (.iadd, 1, []) else none) else (bif Nat.beq pc 322 then some (.iastore, 1, []) else none))))) else (bif Nat.blt pc 329 then (bif Nat.blt pc 325 then (bif Nat.blt pc 324 then (bif Nat.beq pc 323 then some (.return_, 1, []) else none) else (bif Nat.beq pc 324 then some (.aload_n 2, 1, []) else none)) else (bif Nat.blt pc 327 then (bif Nat.beq pc 325 then some (.iload 7, 2, []) else none) else (bif Nat.blt pc 328 then (bif Nat.beq pc 327 then some (.iconst 4, 1, []) else none) else (bif Nat.beq pc 328 then some (.iadd, 1, []) else none)))) else (bif Nat.blt pc 333 then (bif Nat.blt pc 331 then (bif Nat.beq pc 329 then some (.iload 9, 2, []) else none) else (bif Nat.blt pc 332 then (bif Nat.beq pc 331 then some (.iastore, 1, []) else none) else (bif Nat.beq pc 332 then some (.iconst (-1), 1, []) else none))) else (bif Nat.blt pc 335 then (bif Nat.beq pc 333 then some (.istore 10, 2, []) else none) else (bif Nat.blt pc 337 then (bif Nat.beq pc 335 then some (.aload 5, 2, []) else none) else (bif Nat.beq pc 337 then some (.iconst 2, 1, []) else none)))))) else (bif Nat.blt pc 354 then (bif Nat.blt pc 345 then (bif Nat.blt pc 340 then (bif Nat.blt pc 339 then (bif Nat.beq pc 338 then some (.iaload, 1, []) else none) else (bif Nat.beq pc 339 then some (.iconst 1, 1, []) else none)) else (bif Nat.blt pc 341 then (bif Nat.beq pc 340 then some (.isub, 1, []) else none) else (bif Nat.blt pc 343 then (bif Nat.beq pc 341 then some (.istore 11, 2, []) else none) else (bif Nat.beq pc 343 then some (.iload 11, 2, []) else none)))) else (bif Nat.blt pc 349 then (bif Nat.blt pc 346 then (bif Nat.beq pc 345 then some (.iload_n 0, 1, []) else none) else (bif Nat.beq pc 346 then some (.if_icmp .le 68, 3, [414]) else none)) else (bif Nat.blt pc 350 then (bif Nat.beq pc 349 then some (.aload_n 1, 1, []) else none) else (bif Nat.blt pc 352 then (bif Nat.beq pc 350 then some (.bipush 8, 2, []) else none) else (bif Nat.beq pc 352 then some (.iload 11, 2, []) else none))))) else (bif Nat.blt pc 361 then (bif Nat.blt pc 356 then (bif Nat.blt pc 355 then (bif Nat.beq pc 354 then some (.imul, 1, []) else none) else (bif Nat.beq pc 355 then some (.iaload, 1, []) else none)) else (bif Nat.blt pc 357 then (bif Nat.beq pc 356 then some (.iconst 3, 1, []) else none) else (bif Nat.blt pc 360 then (bif Nat.beq pc 357 then some (.if_icmp .ne 47, 3, [404]) else none) else (bif Nat.beq pc 360 then some (.aload_n 2, 1, []) else none)))) else (bif Nat.blt pc 365 then (bif Nat.blt pc 362 then (bif Nat.beq pc 361 then some (.iconst 5, 1, []) else none) else (bif Nat.blt pc 364 then (bif Nat.beq pc 362 then some (.iload 11, 2, []) else none) else (bif Nat.beq pc 364 then some (.imul, 1, []) else none))) else (bif Nat.blt pc 366 then (bif Nat.beq pc 365 then some (.iaload, 1, []) else none) else (bif Nat.blt pc 367 then (bif Nat.beq pc 366 then some (.iconst 2, 1, []) else none) else (bif Nat.beq pc 367 then some (.if_icmp .ne 37, 3, [404]) else none)))))))) else (bif Nat.blt pc 433 then (bif Nat.blt pc 396 then (bif Nat.blt pc 382 then (bif Nat.blt pc 376 then (bif Nat.blt pc 372 then (bif Nat.blt pc 371 then (bif Nat.beq pc 370 then some (.aload_n 2, 1, []) else none) else (bif Nat.beq pc 371 then some (.iconst 5, 1, []) else none)) else (bif Nat.blt pc 374 then (bif Nat.beq pc 372 then some (.iload 11, 2, []) else none) else (bif Nat.blt pc 375 then (bif Nat.beq pc 374 then some (.imul, 1, []) else none) else (bif Nat.beq pc 375 then some (.iconst 2, 1, []) else none)))) else (bif Nat.blt pc 378 then (bif Nat.blt pc 377 then (bif Nat.beq pc 376 then some (.iadd, 1, []) else none) else (bif Nat.beq pc 377 then some (.iaload, 1, []) else none)) else (bif Nat.blt pc 379 then (bif Nat.beq pc 378 then some (.aload_n 2, 1, []) else none) else (bif Nat.blt pc 381 then (bif Nat.beq pc 379 then some (.iload 7, 2, []) else none) else (bif Nat.beq pc 381 then some (.iconst 2, 1, []) else none))))) else (bif Nat.blt pc 389 then (bif Nat.blt pc 384 then (bif Nat.blt pc 383 then (bif Nat.beq pc 382 then some (.iadd, 1, []) else none) else (bif Nat.beq pc 383 then some (.iaload, 1, []) else none)) else (bif Nat.blt pc 387 then (bif Nat.beq pc 384 then some (.if_icmp .ne 20, 3, [404]) else none) else (bif Nat.blt pc 388 then (bif Nat.beq pc 387 then some (.aload_n 2, 1, []) else none) else (bif Nat.beq pc 388 then some (.iconst 5, 1, []) else none)))) else (bif Nat.blt pc 393 then (bif Nat.blt pc 391 then (bif Nat.beq pc 389 then some (.iload 11, 2, []) else none) else (bif Nat.blt pc 392 then (bif Nat.beq pc 391 then some (.imul, 1, []) else none) else (bif Nat.beq pc 392 then some (.iconst 3, 1, []) else none))) else (bif Nat.blt pc 394 then (bif Nat.beq pc 393 then some (.iadd, 1, []) else none) else (bif Nat.blt pc 395 then (bif Nat.beq pc 394 then some (.iaload, 1, []) else none) else (bif Nat.beq pc 395 then some (.iload_n 0, 1, []) else none)))))) else (bif Nat.blt pc 420 then (bif Nat.blt pc 408 then (bif Nat.blt pc 401 then (bif Nat.blt pc 399 then (bif Nat.beq pc 396 then some (.if_icmp .ge 8, 3, [404]) else none) else (bif Nat.beq pc 399 then some (.iload 11, 2, []) else none)) else (bif Nat.blt pc 404 then (bif Nat.beq pc 401 then some (.goto 5, 3, [406]) else none) else (bif Nat.blt pc 406 then (bif Nat.beq pc 404 then some (.iload 10, 2, []) else none) else (bif Nat.beq pc 406 then some (.istore 10, 2, []) else none)))) else (bif Nat.blt pc 414 then (bif Nat.blt pc 411 then (bif Nat.beq pc 408 then some (.iinc 11 (-1), 3, []) else none) else (bif Nat.beq pc 411 then some (.goto (-68), 3, [343]) else none)) else (bif Nat.blt pc 416 then (bif Nat.beq pc 414 then some (.iload 10, 2, []) else none) else (bif Nat.blt pc 419 then (bif Nat.beq pc 416 then some (.ifCond .ge 4, 3, [420]) else none) else (bif Nat.beq pc 419 then some (.return_, 1, []) else none))))) else (bif Nat.blt pc 426 then (bif Nat.blt pc 423 then (bif Nat.blt pc 422 then (bif Nat.beq pc 420 then some (.aload 5, 2, []) else none) else (bif Nat.beq pc 422 then some (.iconst 4, 1, []) else none)) else (bif Nat.blt pc 424 then (bif Nat.beq pc 423 then some (.dup2, 1, []) else none) else (bif Nat.blt pc 425 then (bif Nat.beq pc 424 then some (.iaload, 1, []) else none) else (bif Nat.beq pc 425 then some (.iconst 1, 1, []) else none)))) else (bif Nat.blt pc 430 then (bif Nat.blt pc 427 then (bif Nat.beq pc 426 then some (.iadd, 1, []) else none) else (bif Nat.blt pc 428 then (bif Nat.beq pc 427 then some (.iastore, 1, []) else none) else (bif Nat.beq pc 428 then some (.aload 5, 2, []) else none))) else (bif Nat.blt pc 431 then (bif Nat.beq pc 430 then some (.iconst 5, 1, []) else none) else (bif Nat.blt pc 432 then (bif Nat.beq pc 431 then some (.dup2, 1, []) else none) else (bif Nat.beq pc 432 then some (.iaload, 1, []) else none))))))) else (bif Nat.blt pc 461 then (bif Nat.blt pc 447 then (bif Nat.blt pc 440 then (bif Nat.blt pc 436 then (bif Nat.blt pc 435 then (bif Nat.beq pc 433 then some (.aload 5, 2, []) else none) else (bif Nat.beq pc 435 then some (.iconst 2, 1, []) else none)) else (bif Nat.blt pc 437 then (bif Nat.beq pc 436 then some (.iaload, 1, []) else none) else (bif Nat.blt pc 439 then (bif Nat.beq pc 437 then some (.iload 10, 2, []) else none) else (bif Nat.beq pc 439 then some (.isub, 1, []) else none)))) else (bif Nat.blt pc 442 then (bif Nat.blt pc 441 then (bif Nat.beq pc 440 then some (.iadd, 1, []) else none) else (bif Nat.beq pc 441 then some (.iastore, 1, []) else none)) else (bif Nat.blt pc 443 then (bif Nat.beq pc 442 then some (.aload_n 1, 1, []) else none) else (bif Nat.blt pc 445 then (bif Nat.beq pc 443 then some (.bipush 8, 2, []) else none) else (bif Nat.beq pc 445 then some (.iload 10, 2, []) else none))))) else (bif Nat.blt pc 452 then (bif Nat.blt pc 449 then (bif Nat.blt pc 448 then (bif Nat.beq pc 447 then some (.imul, 1, []) else none) else (bif Nat.beq pc 448 then some (.iconst 5, 1, []) else none)) else (bif Nat.blt pc 450 then (bif Nat.beq pc 449 then some (.iadd, 1, []) else none) else (bif Nat.blt pc 451 then (bif Nat.beq pc 450 then some (.iconst 3, 1, []) else none) else (bif Nat.beq pc 451 then some (.iastore, 1, []) else none)))) else (bif Nat.blt pc 457 then (bif Nat.blt pc 453 then (bif Nat.beq pc 452 then some (.aload_n 1, 1, []) else none) else (bif Nat.blt pc 455 then (bif Nat.beq pc 453 then some (.bipush 8, 2, []) else none) else (bif Nat.beq pc 455 then some (.iload 10, 2, []) else none))) else (bif Nat.blt pc 458 then (bif Nat.beq pc 457 then some (.imul, 1, []) else none) else (bif Nat.blt pc 460 then (bif Nat.beq pc 458 then some (.bipush 6, 2, []) else none) else (bif Nat.beq pc 460 then some (.iadd, 1, []) else none)))))) else (bif Nat.blt pc 475 then (bif Nat.blt pc 466 then (bif Nat.blt pc 463 then (bif Nat.blt pc 462 then (bif Nat.beq pc 461 then some (.dup2, 1, []) else none) else (bif Nat.beq pc 462 then some (.iaload, 1, []) else none)) else (bif Nat.blt pc 464 then (bif Nat.beq pc 463 then some (.iconst 1, 1, []) else none) else (bif Nat.blt pc 465 then (bif Nat.beq pc 464 then some (.iadd, 1, []) else none) else (bif Nat.beq pc 465 then some (.iastore, 1, []) else none)))) else (bif Nat.blt pc 470 then (bif Nat.blt pc 468 then (bif Nat.beq pc 466 then some (.iload 10, 2, []) else none) else (bif Nat.beq pc 468 then some (.istore 11, 2, []) else none)) else (bif Nat.blt pc 472 then (bif Nat.beq pc 470 then some (.iload 11, 2, []) else none) else (bif Nat.blt pc 474 then (bif Nat.beq pc 472 then some (.aload 5, 2, []) else none) else (bif Nat.beq pc 474 then some (.iconst 2, 1, []) else none))))) else (bif Nat.blt pc 483 then (bif Nat.blt pc 479 then (bif Nat.blt pc 476 then (bif Nat.beq pc 475 then some (.iaload, 1, []) else none) else (bif Nat.beq pc 476 then some (.if_icmp .ge 16, 3, [492]) else none)) else (bif Nat.blt pc 480 then (bif Nat.beq pc 479 then some (.aload_n 2, 1, []) else none) else (bif Nat.blt pc 481 then (bif Nat.beq pc 480 then some (.iconst 5, 1, []) else none) else (bif Nat.beq pc 481 then some (.iload 11, 2, []) else none)))) else (bif Nat.blt pc 486 then (bif Nat.blt pc 484 then (bif Nat.beq pc 483 then some (.imul, 1, []) else none) else (bif Nat.blt pc 485 then (bif Nat.beq pc 484 then some (.iconst 0, 1, []) else none) else (bif Nat.beq pc 485 then some (.iastore, 1, []) else none))) else (bif Nat.blt pc 489 then (bif Nat.beq pc 486 then some (.iinc 11 1, 3, []) else none) else (bif Nat.blt pc 492 then (bif Nat.beq pc 489 then some (.goto (-19), 3, [470]) else none) else (bif Nat.beq pc 492 then some (.return_, 1, []) else none)))))))))
/-- L_cycle -/
def I_L_cycle (pc : Nat) : Option IE := bif Nat.blt pc 178 then (bif Nat.blt pc 89 then (bif Nat.blt pc 48 then (bif Nat.blt pc 25 then (bif Nat.blt pc 11 then (bif Nat.blt pc 6 then (bif Nat.blt pc 3 then (bif Nat.blt pc 1 then (bif Nat.beq pc 0 then some (.iconst 0, 1, []) else none) else (bif Nat.beq pc 1 then some (.istore 6, 2, []) else none)) else (bif Nat.blt pc 5 then (bif Nat.beq pc 3 then some (.aload 5, 2, []) else none) else (bif Nat.beq pc 5 then some (.iconst 3, 1, []) else none))) else (bif Nat.blt pc 9 then (bif Nat.blt pc 7 then (bif Nat.beq pc 6 then some (.iaload, 1, []) else none) else (bif Nat.beq pc 7 then some (.aload 5, 2, []) else none)) else (bif Nat.blt pc 10 then (bif Nat.beq pc 9 then some (.iconst 2, 1, []) else none) else (bif Nat.beq pc 10 then some (.iaload, 1, []) else none)))) else (bif Nat.blt pc 19 then (bif Nat.blt pc 16 then (bif Nat.blt pc 14 then (bif Nat.beq pc 11 then some (.if_icmp .ge 129, 3, [140]) else none) else (bif Nat.beq pc 14 then some (.iload 6, 2, []) else none)) else (bif Nat.blt pc 18 then (bif Nat.beq pc 16 then some (.aload 4, 2, []) else none) else (bif Nat.beq pc 18 then some (.iconst 2, 1, []) else none))) else (bif Nat.blt pc 23 then (bif Nat.blt pc 20 then (bif Nat.beq pc 19 then some (.iaload, 1, []) else none) else (bif Nat.beq pc 20 then some (.if_icmp .ge 120, 3, [140]) else none)) else (bif Nat.blt pc 24 then (bif Nat.beq pc 23 then some (.aload_n 1, 1, []) else none) else (bif Nat.beq pc 24 then some (.iconst 5, 1, []) else none))))) else (bif Nat.blt pc 37 then (bif Nat.blt pc 30 then (bif Nat.blt pc 28 then (bif Nat.blt pc 27 then (bif Nat.beq pc 25 then some (.aload 5, 2, []) else none) else (bif Nat.beq pc 27 then some (.iconst 3, 1, []) else none)) else (bif Nat.blt pc 29 then (bif Nat.beq pc 28 then some (.iaload, 1, []) else none) else (bif Nat.beq pc 29 then some (.imul, 1, []) else none))) else (bif Nat.blt pc 32 then (bif Nat.blt pc 31 then (bif Nat.beq pc 30 then some (.iaload, 1, []) else none) else (bif Nat.beq pc 31 then some (.iconst 2, 1, []) else none)) else (bif Nat.blt pc 35 then (bif Nat.beq pc 32 then some (.if_icmp .ne 108, 3, [140]) else none) else (bif Nat.beq pc 35 then some (.aload 5, 2, []) else none)))) else (bif Nat.blt pc 42 then (bif Nat.blt pc 39 then (bif Nat.blt pc 38 then (bif Nat.beq pc 37 then some (.iconst 3, 1, []) else none) else (bif Nat.beq pc 38 then some (.iaload, 1, []) else none)) else (bif Nat.blt pc 41 then (bif Nat.beq pc 39 then some (.istore 7, 2, []) else none) else (bif Nat.beq pc 41 then some (.aload_n 0, 1, []) else none))) else (bif Nat.blt pc 46 then (bif Nat.blt pc 44 then (bif Nat.beq pc 42 then some (.bipush 8, 2, []) else none) else (bif Nat.beq pc 44 then some (.iload 7, 2, []) else none)) else (bif Nat.blt pc 47 then (bif Nat.beq pc 46 then some (.imul, 1, []) else none) else (bif Nat.beq pc 47 then some (.iaload, 1, []) else none)))))) else (bif Nat.blt pc 68 then (bif Nat.blt pc 59 then (bif Nat.blt pc 54 then (bif Nat.blt pc 52 then (bif Nat.blt pc 49 then (bif Nat.beq pc 48 then some (.iconst 4, 1, []) else none) else (bif Nat.beq pc 49 then some (.if_icmp .ne 24, 3, [73]) else none)) else (bif Nat.blt pc 53 then (bif Nat.beq pc 52 then some (.aload_n 3, 1, []) else none) else (bif Nat.beq pc 53 then some (.aload_n 1, 1, []) else none))) else (bif Nat.blt pc 57 then (bif Nat.blt pc 55 then (bif Nat.beq pc 54 then some (.iconst 5, 1, []) else none) else (bif Nat.beq pc 55 then some (.iload 7, 2, []) else none)) else (bif Nat.blt pc 58 then (bif Nat.beq pc 57 then some (.imul, 1, []) else none) else (bif Nat.beq pc 58 then some (.iconst 2, 1, []) else none)))) else (bif Nat.blt pc 63 then (bif Nat.blt pc 61 then (bif Nat.blt pc 60 then (bif Nat.beq pc 59 then some (.iadd, 1, []) else none) else (bif Nat.beq pc 60 then some (.iaload, 1, []) else none)) else (bif Nat.blt pc 62 then (bif Nat.beq pc 61 then some (.aload_n 1, 1, []) else none) else (bif Nat.beq pc 62 then some (.iconst 5, 1, []) else none))) else (bif Nat.blt pc 66 then (bif Nat.blt pc 65 then (bif Nat.beq pc 63 then some (.iload 7, 2, []) else none) else (bif Nat.beq pc 65 then some (.imul, 1, []) else none)) else (bif Nat.blt pc 67 then (bif Nat.beq pc 66 then some (.iconst 4, 1, []) else none) else (bif Nat.beq pc 67 then some (.iadd, 1, []) else none))))) else (bif Nat.blt pc 80 then (bif Nat.blt pc 74 then (bif Nat.blt pc 70 then (bif Nat.blt pc 69 then (bif Nat.beq pc 68 then some (.iaload, 1, []) else none) else (bif Nat.beq pc 69 then some (.iastore, 1, []) else none)) else (bif Nat.blt pc 73 then (bif Nat.beq pc 70 then some (.goto 22, 3, [92]) else none) else (bif Nat.beq pc 73 then some (.aload_n 2, 1, []) else none))) else (bif Nat.blt pc 77 then (bif Nat.blt pc 75 then (bif Nat.beq pc 74 then some (.aload_n 0, 1, []) else none) else (bif Nat.beq pc 75 then some (.bipush 8, 2, []) else none)) else (bif Nat.blt pc 79 then (bif Nat.beq pc 77 then some (.iload 7, 2, []) else none) else (bif Nat.beq pc 79 then some (.imul, 1, []) else none)))) else (bif Nat.blt pc 84 then (bif Nat.blt pc 82 then (bif Nat.blt pc 81 then (bif Nat.beq pc 80 then some (.iconst 1, 1, []) else none) else (bif Nat.beq pc 81 then some (.iadd, 1, []) else none)) else (bif Nat.blt pc 83 then (bif Nat.beq pc 82 then some (.iaload, 1, []) else none) else (bif Nat.beq pc 83 then some (.aload_n 1, 1, []) else none))) else (bif Nat.blt pc 87 then (bif Nat.blt pc 85 then (bif Nat.beq pc 84 then some (.iconst 5, 1, []) else none) else (bif Nat.beq pc 85 then some (.iload 7, 2, []) else none)) else (bif Nat.blt pc 88 then (bif Nat.beq pc 87 then some (.imul, 1, []) else none) else (bif Nat.beq pc 88 then some (.iconst 4, 1, []) else none))))))) else (bif Nat.blt pc 130 then (bif Nat.blt pc 111 then (bif Nat.blt pc 99 then (bif Nat.blt pc 93 then (bif Nat.blt pc 91 then (bif Nat.blt pc 90 then (bif Nat.beq pc 89 then some (.iadd, 1, []) else none) else (bif Nat.beq pc 90 then some (.iaload, 1, []) else none)) else (bif Nat.blt pc 92 then (bif Nat.beq pc 91 then some (.iastore, 1, []) else none) else (bif Nat.beq pc 92 then some (.aload_n 0, 1, []) else none))) else (bif Nat.blt pc 97 then (bif Nat.blt pc 95 then (bif Nat.beq pc 93 then some (.bipush 8, 2, []) else none) else (bif Nat.beq pc 95 then some (.iload 7, 2, []) else none)) else (bif Nat.blt pc 98 then (bif Nat.beq pc 97 then some (.imul, 1, []) else none) else (bif Nat.beq pc 98 then some (.iconst 5, 1, []) else none)))) else (bif Nat.blt pc 105 then (bif Nat.blt pc 101 then (bif Nat.blt pc 100 then (bif Nat.beq pc 99 then some (.iadd, 1, []) else none) else (bif Nat.beq pc 100 then some (.iaload, 1, []) else none)) else (bif Nat.blt pc 104 then (bif Nat.beq pc 101 then some (.ifCond .le 16, 3, [117]) else none) else (bif Nat.beq pc 104 then some (.aload_n 0, 1, []) else none))) else (bif Nat.blt pc 109 then (bif Nat.blt pc 107 then (bif Nat.beq pc 105 then some (.bipush 8, 2, []) else none) else (bif Nat.beq pc 107 then some (.iload 7, 2, []) else none)) else (bif Nat.blt pc 110 then (bif Nat.beq pc 109 then some (.imul, 1, []) else none) else (bif Nat.beq pc 110 then some (.iconst 5, 1, []) else none))))) else (bif Nat.blt pc 120 then (bif Nat.blt pc 115 then (bif Nat.blt pc 113 then (bif Nat.blt pc 112 then (bif Nat.beq pc 111 then some (.iadd, 1, []) else none) else (bif Nat.beq pc 112 then some (.dup2, 1, []) else none)) else (bif Nat.blt pc 114 then (bif Nat.beq pc 113 then some (.iaload, 1, []) else none) else (bif Nat.beq pc 114 then some (.iconst 1, 1, []) else none))) else (bif Nat.blt pc 117 then (bif Nat.blt pc 116 then (bif Nat.beq pc 115 then some (.isub, 1, []) else none) else (bif Nat.beq pc 116 then some (.iastore, 1, []) else none)) else (bif Nat.blt pc 119 then (bif Nat.beq pc 117 then some (.aload 5, 2, []) else none) else (bif Nat.beq pc 119 then some (.iconst 3, 1, []) else none)))) else (bif Nat.blt pc 124 then (bif Nat.blt pc 122 then (bif Nat.blt pc 121 then (bif Nat.beq pc 120 then some (.dup2, 1, []) else none) else (bif Nat.beq pc 121 then some (.iaload, 1, []) else none)) else (bif Nat.blt pc 123 then (bif Nat.beq pc 122 then some (.iconst 1, 1, []) else none) else (bif Nat.beq pc 123 then some (.iadd, 1, []) else none))) else (bif Nat.blt pc 127 then (bif Nat.blt pc 125 then (bif Nat.beq pc 124 then some (.iastore, 1, []) else none) else (bif Nat.beq pc 125 then some (.aload 5, 2, []) else none)) else (bif Nat.blt pc 129 then (bif Nat.beq pc 127 then some (.bipush 6, 2, []) else none) else (bif Nat.beq pc 129 then some (.dup2, 1, []) else none)))))) else (bif Nat.blt pc 156 then (bif Nat.blt pc 143 then (bif Nat.blt pc 134 then (bif Nat.blt pc 132 then (bif Nat.blt pc 131 then (bif Nat.beq pc 130 then some (.iaload, 1, []) else none) else (bif Nat.beq pc 131 then some (.iconst 1, 1, []) else none)) else (bif Nat.blt pc 133 then (bif Nat.beq pc 132 then some (.iadd, 1, []) else none) else (bif Nat.beq pc 133 then some (.iastore, 1, []) else none))) else (bif Nat.blt pc 140 then (bif Nat.blt pc 137 then (bif Nat.beq pc 134 then some (.iinc 6 1, 3, []) else none) else (bif Nat.beq pc 137 then some (.goto (-134), 3, [3]) else none)) else (bif Nat.blt pc 142 then (bif Nat.beq pc 140 then some (.aload 5, 2, []) else none) else (bif Nat.beq pc 142 then some (.iconst 3, 1, []) else none)))) else (bif Nat.blt pc 150 then (bif Nat.blt pc 146 then (bif Nat.blt pc 144 then (bif Nat.beq pc 143 then some (.iaload, 1, []) else none) else (bif Nat.beq pc 144 then some (.istore 7, 2, []) else none)) else (bif Nat.blt pc 148 then (bif Nat.beq pc 146 then some (.iload 7, 2, []) else none) else (bif Nat.beq pc 148 then some (.aload 5, 2, []) else none))) else (bif Nat.blt pc 152 then (bif Nat.blt pc 151 then (bif Nat.beq pc 150 then some (.iconst 2, 1, []) else none) else (bif Nat.beq pc 151 then some (.iaload, 1, []) else none)) else (bif Nat.blt pc 155 then (bif Nat.beq pc 152 then some (.if_icmp .ge 56, 3, [208]) else none) else (bif Nat.beq pc 155 then some (.aload_n 1, 1, []) else none))))) else (bif Nat.blt pc 169 then (bif Nat.blt pc 161 then (bif Nat.blt pc 159 then (bif Nat.blt pc 157 then (bif Nat.beq pc 156 then some (.iconst 5, 1, []) else none) else (bif Nat.beq pc 157 then some (.iload 7, 2, []) else none)) else (bif Nat.blt pc 160 then (bif Nat.beq pc 159 then some (.imul, 1, []) else none) else (bif Nat.beq pc 160 then some (.iaload, 1, []) else none))) else (bif Nat.blt pc 165 then (bif Nat.blt pc 162 then (bif Nat.beq pc 161 then some (.iconst 1, 1, []) else none) else (bif Nat.beq pc 162 then some (.if_icmp .eq 6, 3, [168]) else none)) else (bif Nat.blt pc 168 then (bif Nat.beq pc 165 then some (.goto 37, 3, [202]) else none) else (bif Nat.beq pc 168 then some (.aload_n 1, 1, []) else none)))) else (bif Nat.blt pc 174 then (bif Nat.blt pc 172 then (bif Nat.blt pc 170 then (bif Nat.beq pc 169 then some (.iconst 5, 1, []) else none) else (bif Nat.beq pc 170 then some (.iload 7, 2, []) else none)) else (bif Nat.blt pc 173 then (bif Nat.beq pc 172 then some (.imul, 1, []) else none) else (bif Nat.beq pc 173 then some (.iconst 1, 1, []) else none))) else (bif Nat.blt pc 176 then (bif Nat.blt pc 175 then (bif Nat.beq pc 174 then some (.iadd, 1, []) else none) else (bif Nat.beq pc 175 then some (.dup2, 1, []) else none)) else (bif Nat.blt pc 177 then (bif Nat.beq pc 176 then some (.iaload, 1, []) else none) else (bif Nat.beq pc 177 then some (.iconst 1, 1, []) else none)))))))) else (bif Nat.blt pc 280 then (bif Nat.blt pc 230 then (bif Nat.blt pc 199 then (bif Nat.blt pc 187 then (bif Nat.blt pc 182 then (bif Nat.blt pc 180 then (bif Nat.blt pc 179 then (bif Nat.beq pc 178 then some (.isub, 1, []) else none) else (bif Nat.beq pc 179 then some (.iastore, 1, []) else none)) else (bif Nat.blt pc 181 then (bif Nat.beq pc 180 then some (.aload_n 1, 1, []) else none) else (bif Nat.beq pc 181 then some (.iconst 5, 1, []) else none))) else (bif Nat.blt pc 185 then (bif Nat.blt pc 184 then (bif Nat.beq pc 182 then some (.iload 7, 2, []) else none) else (bif Nat.beq pc 184 then some (.imul, 1, []) else none)) else (bif Nat.blt pc 186 then (bif Nat.beq pc 185 then some (.iconst 1, 1, []) else none) else (bif Nat.beq pc 186 then some (.iadd, 1, []) else none)))) else (bif Nat.blt pc 194 then (bif Nat.blt pc 191 then (bif Nat.blt pc 188 then (bif Nat.beq pc 187 then some (.iaload, 1, []) else none) else (bif Nat.beq pc 188 then some (.ifCond .ne 14, 3, [202]) else none)) else (bif Nat.blt pc 193 then (bif Nat.beq pc 191 then some (.iload 7, 2, []) else none) else (bif Nat.beq pc 193 then some (.aload_n 0, 1, []) else none))) else (bif Nat.blt pc 196 then (bif Nat.blt pc 195 then (bif Nat.beq pc 194 then some (.aload_n 1, 1, []) else none) else (bif Nat.beq pc 195 then some (.aload_n 2, 1, []) else none)) else (bif Nat.blt pc 197 then (bif Nat.beq pc 196 then some (.aload_n 3, 1, []) else none) else (bif Nat.beq pc 197 then some (.aload 5, 2, []) else none))))) else (bif Nat.blt pc 215 then (bif Nat.blt pc 209 then (bif Nat.blt pc 205 then (bif Nat.blt pc 202 then (bif Nat.beq pc 199 then some (.invokestatic 49, 3, [1, 113, 6, 504, 9, 12, 0]) else none) else (bif Nat.beq pc 202 then some (.iinc 7 1, 3, []) else none)) else (bif Nat.blt pc 208 then (bif Nat.beq pc 205 then some (.goto (-59), 3, [146]) else none) else (bif Nat.beq pc 208 then some (.iconst 0, 1, []) else none))) else (bif Nat.blt pc 213 then (bif Nat.blt pc 211 then (bif Nat.beq pc 209 then some (.istore 7, 2, []) else none) else (bif Nat.beq pc 211 then some (.aload 5, 2, []) else none)) else (bif Nat.blt pc 214 then (bif Nat.beq pc 213 then some (.iconst 3, 1, []) else none) else (bif Nat.beq pc 214 then some (.iaload, 1, []) else none)))) else (bif Nat.blt pc 222 then (bif Nat.blt pc 219 then (bif Nat.blt pc 217 then (bif Nat.beq pc 215 then some (.istore 8, 2, []) else none) else (bif Nat.beq pc 217 then some (.iload 8, 2, []) else none)) else (bif Nat.blt pc 221 then (bif Nat.beq pc 219 then some (.aload 5, 2, []) else none) else (bif Nat.beq pc 221 then some (.iconst 2, 1, []) else none))) else (bif Nat.blt pc 226 then (bif Nat.blt pc 223 then (bif Nat.beq pc 222 then some (.iaload, 1, []) else none) else (bif Nat.beq pc 223 then some (.if_icmp .ge 82, 3, [305]) else none)) else (bif Nat.blt pc 228 then (bif Nat.beq pc 226 then some (.iload 7, 2, []) else none) else (bif Nat.beq pc 228 then some (.aload 4, 2, []) else none)))))) else (bif Nat.blt pc 257 then (bif Nat.blt pc 244 then (bif Nat.blt pc 237 then (bif Nat.blt pc 232 then (bif Nat.blt pc 231 then (bif Nat.beq pc 230 then some (.iconst 1, 1, []) else none) else (bif Nat.beq pc 231 then some (.iaload, 1, []) else none)) else (bif Nat.blt pc 235 then (bif Nat.beq pc 232 then some (.if_icmp .ge 73, 3, [305]) else none) else (bif Nat.beq pc 235 then some (.iload 8, 2, []) else none))) else (bif Nat.blt pc 239 then (bif Nat.blt pc 238 then (bif Nat.beq pc 237 then some (.aload_n 0, 1, []) else none) else (bif Nat.beq pc 238 then some (.aload_n 1, 1, []) else none)) else (bif Nat.blt pc 241 then (bif Nat.beq pc 239 then some (.aload 5, 2, []) else none) else (bif Nat.beq pc 241 then some (.invokestatic 53, 3, [1, 112, 4, 385, 9, 6, 1]) else none)))) else (bif Nat.blt pc 252 then (bif Nat.blt pc 250 then (bif Nat.blt pc 247 then (bif Nat.beq pc 244 then some (.ifCond .le 6, 3, [250]) else none) else (bif Nat.beq pc 247 then some (.goto 52, 3, [299]) else none)) else (bif Nat.blt pc 251 then (bif Nat.beq pc 250 then some (.aload_n 1, 1, []) else none) else (bif Nat.beq pc 251 then some (.iconst 5, 1, []) else none))) else (bif Nat.blt pc 255 then (bif Nat.blt pc 254 then (bif Nat.beq pc 252 then some (.iload 8, 2, []) else none) else (bif Nat.beq pc 254 then some (.imul, 1, []) else none)) else (bif Nat.blt pc 256 then (bif Nat.beq pc 255 then some (.iconst 1, 1, []) else none) else (bif Nat.beq pc 256 then some (.iastore, 1, []) else none))))) else (bif Nat.blt pc 267 then (bif Nat.blt pc 262 then (bif Nat.blt pc 259 then (bif Nat.blt pc 258 then (bif Nat.beq pc 257 then some (.aload_n 1, 1, []) else none) else (bif Nat.beq pc 258 then some (.iconst 5, 1, []) else none)) else (bif Nat.blt pc 261 then (bif Nat.beq pc 259 then some (.iload 8, 2, []) else none) else (bif Nat.beq pc 261 then some (.imul, 1, []) else none))) else (bif Nat.blt pc 264 then (bif Nat.blt pc 263 then (bif Nat.beq pc 262 then some (.iconst 1, 1, []) else none) else (bif Nat.beq pc 263 then some (.iadd, 1, []) else none)) else (bif Nat.blt pc 265 then (bif Nat.beq pc 264 then some (.aload_n 0, 1, []) else none) else (bif Nat.beq pc 265 then some (.bipush 8, 2, []) else none)))) else (bif Nat.blt pc 272 then (bif Nat.blt pc 270 then (bif Nat.blt pc 269 then (bif Nat.beq pc 267 then some (.iload 8, 2, []) else none) else (bif Nat.beq pc 269 then some (.imul, 1, []) else none)) else (bif Nat.blt pc 271 then (bif Nat.beq pc 270 then some (.iaload, 1, []) else none) else (bif Nat.beq pc 271 then some (.iconst 2, 1, []) else none))) else (bif Nat.blt pc 276 then (bif Nat.blt pc 275 then (bif Nat.beq pc 272 then some (.if_icmp .ne 7, 3, [279]) else none) else (bif Nat.beq pc 275 then some (.iconst 3, 1, []) else none)) else (bif Nat.blt pc 279 then (bif Nat.beq pc 276 then some (.goto 19, 3, [295]) else none) else (bif Nat.beq pc 279 then some (.aload_n 0, 1, []) else none))))))) else (bif Nat.blt pc 335 then (bif Nat.blt pc 310 then (bif Nat.blt pc 294 then (bif Nat.blt pc 286 then (bif Nat.blt pc 284 then (bif Nat.blt pc 282 then (bif Nat.beq pc 280 then some (.bipush 8, 2, []) else none) else (bif Nat.beq pc 282 then some (.iload 8, 2, []) else none)) else (bif Nat.blt pc 285 then (bif Nat.beq pc 284 then some (.imul, 1, []) else none) else (bif Nat.beq pc 285 then some (.iaload, 1, []) else none))) else (bif Nat.blt pc 290 then (bif Nat.blt pc 287 then (bif Nat.beq pc 286 then some (.iconst 3, 1, []) else none) else (bif Nat.beq pc 287 then some (.if_icmp .ne 7, 3, [294]) else none)) else (bif Nat.blt pc 291 then (bif Nat.beq pc 290 then some (.iconst 2, 1, []) else none) else (bif Nat.beq pc 291 then some (.goto 4, 3, [295]) else none)))) else (bif Nat.blt pc 302 then (bif Nat.blt pc 296 then (bif Nat.blt pc 295 then (bif Nat.beq pc 294 then some (.iconst 1, 1, []) else none) else (bif Nat.beq pc 295 then some (.iastore, 1, []) else none)) else (bif Nat.blt pc 299 then (bif Nat.beq pc 296 then some (.iinc 7 1, 3, []) else none) else (bif Nat.beq pc 299 then some (.iinc 8 1, 3, []) else none))) else (bif Nat.blt pc 306 then (bif Nat.blt pc 305 then (bif Nat.beq pc 302 then some (.goto (-85), 3, [217]) else none) else (bif Nat.beq pc 305 then some (.iconst 0, 1, []) else none)) else (bif Nat.blt pc 308 then (bif Nat.beq pc 306 then some (.istore 8, 2, []) else none) else (bif Nat.beq pc 308 then some (.iload 8, 2, []) else none))))) else (bif Nat.blt pc 323 then (bif Nat.blt pc 317 then (bif Nat.blt pc 313 then (bif Nat.blt pc 312 then (bif Nat.beq pc 310 then some (.aload 4, 2, []) else none) else (bif Nat.beq pc 312 then some (.iconst 1, 1, []) else none)) else (bif Nat.blt pc 314 then (bif Nat.beq pc 313 then some (.iaload, 1, []) else none) else (bif Nat.beq pc 314 then some (.if_icmp .ge 53, 3, [367]) else none))) else (bif Nat.blt pc 320 then (bif Nat.blt pc 319 then (bif Nat.beq pc 317 then some (.aload 5, 2, []) else none) else (bif Nat.beq pc 319 then some (.iconst 2, 1, []) else none)) else (bif Nat.blt pc 321 then (bif Nat.beq pc 320 then some (.iaload, 1, []) else none) else (bif Nat.beq pc 321 then some (.aload 5, 2, []) else none)))) else (bif Nat.blt pc 328 then (bif Nat.blt pc 325 then (bif Nat.blt pc 324 then (bif Nat.beq pc 323 then some (.iconst 3, 1, []) else none) else (bif Nat.beq pc 324 then some (.iaload, 1, []) else none)) else (bif Nat.blt pc 326 then (bif Nat.beq pc 325 then some (.isub, 1, []) else none) else (bif Nat.beq pc 326 then some (.aload 4, 2, []) else none))) else (bif Nat.blt pc 330 then (bif Nat.blt pc 329 then (bif Nat.beq pc 328 then some (.iconst 0, 1, []) else none) else (bif Nat.beq pc 329 then some (.iaload, 1, []) else none)) else (bif Nat.blt pc 333 then (bif Nat.beq pc 330 then some (.if_icmp .ge 37, 3, [367]) else none) else (bif Nat.beq pc 333 then some (.aload 5, 2, []) else none)))))) else (bif Nat.blt pc 356 then (bif Nat.blt pc 346 then (bif Nat.blt pc 340 then (bif Nat.blt pc 337 then (bif Nat.blt pc 336 then (bif Nat.beq pc 335 then some (.iconst 2, 1, []) else none) else (bif Nat.beq pc 336 then some (.iaload, 1, []) else none)) else (bif Nat.blt pc 339 then (bif Nat.beq pc 337 then some (.aload 5, 2, []) else none) else (bif Nat.beq pc 339 then some (.iconst 1, 1, []) else none))) else (bif Nat.blt pc 344 then (bif Nat.blt pc 341 then (bif Nat.beq pc 340 then some (.iaload, 1, []) else none) else (bif Nat.beq pc 341 then some (.if_icmp .ge 26, 3, [367]) else none)) else (bif Nat.blt pc 345 then (bif Nat.beq pc 344 then some (.aload_n 1, 1, []) else none) else (bif Nat.beq pc 345 then some (.iconst 5, 1, []) else none)))) else (bif Nat.blt pc 351 then (bif Nat.blt pc 349 then (bif Nat.blt pc 348 then (bif Nat.beq pc 346 then some (.aload 5, 2, []) else none) else (bif Nat.beq pc 348 then some (.iconst 2, 1, []) else none)) else (bif Nat.blt pc 350 then (bif Nat.beq pc 349 then some (.iaload, 1, []) else none) else (bif Nat.beq pc 350 then some (.imul, 1, []) else none))) else (bif Nat.blt pc 353 then (bif Nat.blt pc 352 then (bif Nat.beq pc 351 then some (.iconst 0, 1, []) else none) else (bif Nat.beq pc 352 then some (.iastore, 1, []) else none)) else (bif Nat.blt pc 355 then (bif Nat.beq pc 353 then some (.aload 5, 2, []) else none) else (bif Nat.beq pc 355 then some (.iconst 2, 1, []) else none))))) else (bif Nat.blt pc 369 then (bif Nat.blt pc 360 then (bif Nat.blt pc 358 then (bif Nat.blt pc 357 then (bif Nat.beq pc 356 then some (.dup2, 1, []) else none) else (bif Nat.beq pc 357 then some (.iaload, 1, []) else none)) else (bif Nat.blt pc 359 then (bif Nat.beq pc 358 then some (.iconst 1, 1, []) else none) else (bif Nat.beq pc 359 then some (.iadd, 1, []) else none))) else (bif Nat.blt pc 364 then (bif Nat.blt pc 361 then (bif Nat.beq pc 360 then some (.iastore, 1, []) else none) else (bif Nat.beq pc 361 then some (.iinc 8 1, 3, []) else none)) else (bif Nat.blt pc 367 then (bif Nat.beq pc 364 then some (.goto (-56), 3, [308]) else none) else (bif Nat.beq pc 367 then some (.aload 5, 2, []) else none)))) else (bif Nat.blt pc 373 then (bif Nat.blt pc 371 then (bif Nat.blt pc 370 then (bif Nat.beq pc 369 then some (.iconst 0, 1, []) else none) else (bif Nat.beq pc 370 then some (.dup2, 1, []) else none)) else (bif Nat.blt pc 372 then (bif Nat.beq pc 371 then some (.iaload, 1, []) else none) else (bif Nat.beq pc 372 then some (.iconst 1, 1, []) else none))) else (bif Nat.blt pc 375 then (bif Nat.blt pc 374 then (bif Nat.beq pc 373 then some (.iadd, 1, []) else none) else (bif Nat.beq pc 374 then some (.iastore, 1, []) else none)) else (bif Nat.blt pc 377 then (bif Nat.beq pc 375 then some (.iload 6, 2, []) else none) else (bif Nat.beq pc 377 then some (.ireturn, 1, [0]) else none))))))))
/-- L_begin -/
def I_L_begin (pc : Nat) : Option IE := bif Nat.blt pc 20 then (bif Nat.blt pc 8 then (bif Nat.blt pc 4 then (bif Nat.blt pc 2 then (bif Nat.blt pc 1 then (bif Nat.beq pc 0 then some (.aload_n 1, 1, []) else none) else (bif Nat.beq pc 1 then some (.iconst 2, 1, []) else none)) else (bif Nat.blt pc 3 then (bif Nat.beq pc 2 then some (.iconst 0, 1, []) else none) else (bif Nat.beq pc 3 then some (.iastore, 1, []) else none))) else (bif Nat.blt pc 6 then (bif Nat.blt pc 5 then (bif Nat.beq pc 4 then some (.aload_n 1, 1, []) else none) else (bif Nat.beq pc 5 then some (.iconst 3, 1, []) else none)) else (bif Nat.blt pc 7 then (bif Nat.beq pc 6 then some (.iconst 0, 1, []) else none) else (bif Nat.beq pc 7 then some (.iastore, 1, []) else none)))) else (bif Nat.blt pc 12 then (bif Nat.blt pc 10 then (bif Nat.blt pc 9 then (bif Nat.beq pc 8 then some (.iconst 0, 1, []) else none) else (bif Nat.beq pc 9 then some (.istore_n 2, 1, []) else none)) else (bif Nat.blt pc 11 then (bif Nat.beq pc 10 then some (.iload_n 2, 1, []) else none) else (bif Nat.beq pc 11 then some (.aload_n 1, 1, []) else none))) else (bif Nat.blt pc 14 then (bif Nat.blt pc 13 then (bif Nat.beq pc 12 then some (.iconst 1, 1, []) else none) else (bif Nat.beq pc 13 then some (.iaload, 1, []) else none)) else (bif Nat.blt pc 17 then (bif Nat.beq pc 14 then some (.if_icmp .ge 28, 3, [42]) else none) else (bif Nat.blt pc 18 then (bif Nat.beq pc 17 then some (.aload_n 0, 1, []) else none) else (bif Nat.beq pc 18 then some (.bipush 8, 2, []) else none)))))) else (bif Nat.blt pc 29 then (bif Nat.blt pc 24 then (bif Nat.blt pc 22 then (bif Nat.blt pc 21 then (bif Nat.beq pc 20 then some (.iload_n 2, 1, []) else none) else (bif Nat.beq pc 21 then some (.imul, 1, []) else none)) else (bif Nat.blt pc 23 then (bif Nat.beq pc 22 then some (.iconst 5, 1, []) else none) else (bif Nat.beq pc 23 then some (.iadd, 1, []) else none))) else (bif Nat.blt pc 26 then (bif Nat.blt pc 25 then (bif Nat.beq pc 24 then some (.iconst 0, 1, []) else none) else (bif Nat.beq pc 25 then some (.iastore, 1, []) else none)) else (bif Nat.blt pc 27 then (bif Nat.beq pc 26 then some (.aload_n 0, 1, []) else none) else (bif Nat.beq pc 27 then some (.bipush 8, 2, []) else none)))) else (bif Nat.blt pc 34 then (bif Nat.blt pc 31 then (bif Nat.blt pc 30 then (bif Nat.beq pc 29 then some (.iload_n 2, 1, []) else none) else (bif Nat.beq pc 30 then some (.imul, 1, []) else none)) else (bif Nat.blt pc 33 then (bif Nat.beq pc 31 then some (.bipush 6, 2, []) else none) else (bif Nat.beq pc 33 then some (.iadd, 1, []) else none))) else (bif Nat.blt pc 36 then (bif Nat.blt pc 35 then (bif Nat.beq pc 34 then some (.iconst 0, 1, []) else none) else (bif Nat.beq pc 35 then some (.iastore, 1, []) else none)) else (bif Nat.blt pc 39 then (bif Nat.beq pc 36 then some (.iinc 2 1, 3, []) else none) else (bif Nat.blt pc 42 then (bif Nat.beq pc 39 then some (.goto (-29), 3, [10]) else none) else (bif Nat.beq pc 42 then some (.return_, 1, []) else none))))))
/-- L_same -/
def I_L_same (pc : Nat) : Option IE := bif Nat.blt pc 9 then (bif Nat.blt pc 3 then (bif Nat.blt pc 1 then (bif Nat.beq pc 0 then some (.iconst 0, 1, []) else none) else (bif Nat.blt pc 2 then (bif Nat.beq pc 1 then some (.istore_n 2, 1, []) else none) else (bif Nat.beq pc 2 then some (.iload_n 2, 1, []) else none))) else (bif Nat.blt pc 5 then (bif Nat.blt pc 4 then (bif Nat.beq pc 3 then some (.aload_n 1, 1, []) else none) else (bif Nat.beq pc 4 then some (.arraylength, 1, []) else none)) else (bif Nat.blt pc 8 then (bif Nat.beq pc 5 then some (.if_icmp .ge 15, 3, [20]) else none) else (bif Nat.beq pc 8 then some (.aload_n 0, 1, []) else none)))) else (bif Nat.blt pc 13 then (bif Nat.blt pc 11 then (bif Nat.blt pc 10 then (bif Nat.beq pc 9 then some (.iload_n 2, 1, []) else none) else (bif Nat.beq pc 10 then some (.aload_n 1, 1, []) else none)) else (bif Nat.blt pc 12 then (bif Nat.beq pc 11 then some (.iload_n 2, 1, []) else none) else (bif Nat.beq pc 12 then some (.iaload, 1, []) else none))) else (bif Nat.blt pc 17 then (bif Nat.blt pc 14 then (bif Nat.beq pc 13 then some (.iastore, 1, []) else none) else (bif Nat.beq pc 14 then some (.iinc 2 1, 3, []) else none)) else (bif Nat.blt pc 20 then (bif Nat.beq pc 17 then some (.goto (-15), 3, [2]) else none) else (bif Nat.beq pc 20 then some (.return_, 1, []) else none))))
/-- L_order -/
def I_L_order (pc : Nat) : Option IE := bif Nat.blt pc 93 then (bif Nat.blt pc 50 then (bif Nat.blt pc 24 then (bif Nat.blt pc 10 then (bif Nat.blt pc 5 then (bif Nat.blt pc 2 then (bif Nat.blt pc 1 then (bif Nat.beq pc 0 then some (.aload_n 3, 1, []) else none) else (bif Nat.beq pc 1 then some (.iconst 3, 1, []) else none)) else (bif Nat.blt pc 3 then (bif Nat.beq pc 2 then some (.iaload, 1, []) else none) else (bif Nat.beq pc 3 then some (.istore 4, 2, []) else none))) else (bif Nat.blt pc 8 then (bif Nat.blt pc 7 then (bif Nat.beq pc 5 then some (.iload 4, 2, []) else none) else (bif Nat.beq pc 7 then some (.aload_n 3, 1, []) else none)) else (bif Nat.blt pc 9 then (bif Nat.beq pc 8 then some (.iconst 1, 1, []) else none) else (bif Nat.beq pc 9 then some (.iaload, 1, []) else none)))) else (bif Nat.blt pc 18 then (bif Nat.blt pc 15 then (bif Nat.blt pc 13 then (bif Nat.beq pc 10 then some (.if_icmp .ge 176, 3, [186]) else none) else (bif Nat.beq pc 13 then some (.bipush 8, 2, []) else none)) else (bif Nat.blt pc 17 then (bif Nat.beq pc 15 then some (.iload 4, 2, []) else none) else (bif Nat.beq pc 17 then some (.imul, 1, []) else none))) else (bif Nat.blt pc 21 then (bif Nat.blt pc 20 then (bif Nat.beq pc 18 then some (.istore 5, 2, []) else none) else (bif Nat.beq pc 20 then some (.aload_n 0, 1, []) else none)) else (bif Nat.blt pc 23 then (bif Nat.beq pc 21 then some (.iload 5, 2, []) else none) else (bif Nat.beq pc 23 then some (.iaload, 1, []) else none))))) else (bif Nat.blt pc 35 then (bif Nat.blt pc 31 then (bif Nat.blt pc 28 then (bif Nat.blt pc 27 then (bif Nat.beq pc 24 then some (.ifCond .le 14, 3, [38]) else none) else (bif Nat.beq pc 27 then some (.aload_n 1, 1, []) else none)) else (bif Nat.blt pc 29 then (bif Nat.beq pc 28 then some (.aload_n 0, 1, []) else none) else (bif Nat.beq pc 29 then some (.iload 5, 2, []) else none))) else (bif Nat.blt pc 33 then (bif Nat.blt pc 32 then (bif Nat.beq pc 31 then some (.iconst 2, 1, []) else none) else (bif Nat.beq pc 32 then some (.iadd, 1, []) else none)) else (bif Nat.blt pc 34 then (bif Nat.beq pc 33 then some (.iaload, 1, []) else none) else (bif Nat.beq pc 34 then some (.iaload, 1, []) else none)))) else (bif Nat.blt pc 42 then (bif Nat.blt pc 39 then (bif Nat.blt pc 38 then (bif Nat.beq pc 35 then some (.goto 4, 3, [39]) else none) else (bif Nat.beq pc 38 then some (.iconst 0, 1, []) else none)) else (bif Nat.blt pc 41 then (bif Nat.beq pc 39 then some (.istore 6, 2, []) else none) else (bif Nat.beq pc 41 then some (.aload_n 0, 1, []) else none))) else (bif Nat.blt pc 45 then (bif Nat.blt pc 44 then (bif Nat.beq pc 42 then some (.iload 5, 2, []) else none) else (bif Nat.beq pc 44 then some (.iaload, 1, []) else none)) else (bif Nat.blt pc 48 then (bif Nat.beq pc 45 then some (.ifCond .ne 19, 3, [64]) else none) else (bif Nat.blt pc 49 then (bif Nat.beq pc 48 then some (.aload_n 1, 1, []) else none) else (bif Nat.beq pc 49 then some (.aload_n 0, 1, []) else none))))))) else (bif Nat.blt pc 69 then (bif Nat.blt pc 60 then (bif Nat.blt pc 55 then (bif Nat.blt pc 53 then (bif Nat.blt pc 52 then (bif Nat.beq pc 50 then some (.iload 5, 2, []) else none) else (bif Nat.beq pc 52 then some (.iconst 1, 1, []) else none)) else (bif Nat.blt pc 54 then (bif Nat.beq pc 53 then some (.iadd, 1, []) else none) else (bif Nat.beq pc 54 then some (.iaload, 1, []) else none))) else (bif Nat.blt pc 58 then (bif Nat.blt pc 56 then (bif Nat.beq pc 55 then some (.aload_n 0, 1, []) else none) else (bif Nat.beq pc 56 then some (.iload 5, 2, []) else none)) else (bif Nat.blt pc 59 then (bif Nat.beq pc 58 then some (.iconst 4, 1, []) else none) else (bif Nat.beq pc 59 then some (.iadd, 1, []) else none)))) else (bif Nat.blt pc 64 then (bif Nat.blt pc 62 then (bif Nat.blt pc 61 then (bif Nat.beq pc 60 then some (.iaload, 1, []) else none) else (bif Nat.beq pc 61 then some (.iconst 4, 1, []) else none)) else (bif Nat.blt pc 63 then (bif Nat.beq pc 62 then some (.idiv, 1, []) else none) else (bif Nat.beq pc 63 then some (.iastore, 1, []) else none))) else (bif Nat.blt pc 67 then (bif Nat.blt pc 65 then (bif Nat.beq pc 64 then some (.aload_n 0, 1, []) else none) else (bif Nat.beq pc 65 then some (.iload 5, 2, []) else none)) else (bif Nat.blt pc 68 then (bif Nat.beq pc 67 then some (.iaload, 1, []) else none) else (bif Nat.beq pc 68 then some (.iconst 1, 1, []) else none))))) else (bif Nat.blt pc 81 then (bif Nat.blt pc 76 then (bif Nat.blt pc 73 then (bif Nat.blt pc 72 then (bif Nat.beq pc 69 then some (.if_icmp .ne 24, 3, [93]) else none) else (bif Nat.beq pc 72 then some (.aload_n 1, 1, []) else none)) else (bif Nat.blt pc 74 then (bif Nat.beq pc 73 then some (.aload_n 0, 1, []) else none) else (bif Nat.beq pc 74 then some (.iload 5, 2, []) else none))) else (bif Nat.blt pc 78 then (bif Nat.blt pc 77 then (bif Nat.beq pc 76 then some (.iconst 1, 1, []) else none) else (bif Nat.beq pc 77 then some (.iadd, 1, []) else none)) else (bif Nat.blt pc 79 then (bif Nat.beq pc 78 then some (.iaload, 1, []) else none) else (bif Nat.beq pc 79 then some (.iload 6, 2, []) else none)))) else (bif Nat.blt pc 86 then (bif Nat.blt pc 83 then (bif Nat.blt pc 82 then (bif Nat.beq pc 81 then some (.aload_n 1, 1, []) else none) else (bif Nat.beq pc 82 then some (.aload_n 0, 1, []) else none)) else (bif Nat.blt pc 85 then (bif Nat.beq pc 83 then some (.iload 5, 2, []) else none) else (bif Nat.beq pc 85 then some (.iconst 3, 1, []) else none))) else (bif Nat.blt pc 88 then (bif Nat.blt pc 87 then (bif Nat.beq pc 86 then some (.iadd, 1, []) else none) else (bif Nat.beq pc 87 then some (.iaload, 1, []) else none)) else (bif Nat.blt pc 89 then (bif Nat.beq pc 88 then some (.iaload, 1, []) else none) else (bif Nat.blt pc 92 then (bif Nat.beq pc 89 then some (.invokestatic 39, 3, [1, 106, 2, 299, 9, 2, 1]) else none) else (bif Nat.beq pc 92 then some (.iastore, 1, []) else none)))))))) else (bif Nat.blt pc 138 then (bif Nat.blt pc 115 then (bif Nat.blt pc 105 then (bif Nat.blt pc 98 then (bif Nat.blt pc 96 then (bif Nat.blt pc 94 then (bif Nat.beq pc 93 then some (.aload_n 0, 1, []) else none) else (bif Nat.beq pc 94 then some (.iload 5, 2, []) else none)) else (bif Nat.blt pc 97 then (bif Nat.beq pc 96 then some (.iaload, 1, []) else none) else (bif Nat.beq pc 97 then some (.iconst 2, 1, []) else none))) else (bif Nat.blt pc 102 then (bif Nat.blt pc 101 then (bif Nat.beq pc 98 then some (.if_icmp .ne 24, 3, [122]) else none) else (bif Nat.beq pc 101 then some (.aload_n 1, 1, []) else none)) else (bif Nat.blt pc 103 then (bif Nat.beq pc 102 then some (.aload_n 0, 1, []) else none) else (bif Nat.beq pc 103 then some (.iload 5, 2, []) else none)))) else (bif Nat.blt pc 110 then (bif Nat.blt pc 107 then (bif Nat.blt pc 106 then (bif Nat.beq pc 105 then some (.iconst 1, 1, []) else none) else (bif Nat.beq pc 106 then some (.iadd, 1, []) else none)) else (bif Nat.blt pc 108 then (bif Nat.beq pc 107 then some (.iaload, 1, []) else none) else (bif Nat.beq pc 108 then some (.iload 6, 2, []) else none))) else (bif Nat.blt pc 112 then (bif Nat.blt pc 111 then (bif Nat.beq pc 110 then some (.aload_n 1, 1, []) else none) else (bif Nat.beq pc 111 then some (.aload_n 0, 1, []) else none)) else (bif Nat.blt pc 114 then (bif Nat.beq pc 112 then some (.iload 5, 2, []) else none) else (bif Nat.beq pc 114 then some (.iconst 3, 1, []) else none))))) else (bif Nat.blt pc 126 then (bif Nat.blt pc 121 then (bif Nat.blt pc 117 then (bif Nat.blt pc 116 then (bif Nat.beq pc 115 then some (.iadd, 1, []) else none) else (bif Nat.beq pc 116 then some (.iaload, 1, []) else none)) else (bif Nat.blt pc 118 then (bif Nat.beq pc 117 then some (.iaload, 1, []) else none) else (bif Nat.beq pc 118 then some (.invokestatic 43, 3, [1, 107, 2, 313, 9, 3, 1]) else none))) else (bif Nat.blt pc 123 then (bif Nat.blt pc 122 then (bif Nat.beq pc 121 then some (.iastore, 1, []) else none) else (bif Nat.beq pc 122 then some (.aload_n 0, 1, []) else none)) else (bif Nat.blt pc 125 then (bif Nat.beq pc 123 then some (.iload 5, 2, []) else none) else (bif Nat.beq pc 125 then some (.iaload, 1, []) else none)))) else (bif Nat.blt pc 132 then (bif Nat.blt pc 130 then (bif Nat.blt pc 127 then (bif Nat.beq pc 126 then some (.iconst 3, 1, []) else none) else (bif Nat.beq pc 127 then some (.if_icmp .ne 24, 3, [151]) else none)) else (bif Nat.blt pc 131 then (bif Nat.beq pc 130 then some (.aload_n 1, 1, []) else none) else (bif Nat.beq pc 131 then some (.aload_n 0, 1, []) else none))) else (bif Nat.blt pc 135 then (bif Nat.blt pc 134 then (bif Nat.beq pc 132 then some (.iload 5, 2, []) else none) else (bif Nat.beq pc 134 then some (.iconst 1, 1, []) else none)) else (bif Nat.blt pc 136 then (bif Nat.beq pc 135 then some (.iadd, 1, []) else none) else (bif Nat.blt pc 137 then (bif Nat.beq pc 136 then some (.iaload, 1, []) else none) else (bif Nat.beq pc 137 then some (.aload_n 2, 1, []) else none))))))) else (bif Nat.blt pc 162 then (bif Nat.blt pc 150 then (bif Nat.blt pc 144 then (bif Nat.blt pc 141 then (bif Nat.blt pc 140 then (bif Nat.beq pc 138 then some (.iload 6, 2, []) else none) else (bif Nat.beq pc 140 then some (.aload_n 0, 1, []) else none)) else (bif Nat.blt pc 143 then (bif Nat.beq pc 141 then some (.iload 5, 2, []) else none) else (bif Nat.beq pc 143 then some (.iconst 4, 1, []) else none))) else (bif Nat.blt pc 146 then (bif Nat.blt pc 145 then (bif Nat.beq pc 144 then some (.iadd, 1, []) else none) else (bif Nat.beq pc 145 then some (.iaload, 1, []) else none)) else (bif Nat.blt pc 149 then (bif Nat.beq pc 146 then some (.invokestatic 46, 3, [1, 108, 2, 316, 9, 3, 1]) else none) else (bif Nat.beq pc 149 then some (.iaload, 1, []) else none)))) else (bif Nat.blt pc 155 then (bif Nat.blt pc 152 then (bif Nat.blt pc 151 then (bif Nat.beq pc 150 then some (.iastore, 1, []) else none) else (bif Nat.beq pc 151 then some (.aload_n 0, 1, []) else none)) else (bif Nat.blt pc 154 then (bif Nat.beq pc 152 then some (.iload 5, 2, []) else none) else (bif Nat.beq pc 154 then some (.iaload, 1, []) else none))) else (bif Nat.blt pc 159 then (bif Nat.blt pc 156 then (bif Nat.beq pc 155 then some (.iconst 4, 1, []) else none) else (bif Nat.beq pc 156 then some (.if_icmp .ne 24, 3, [180]) else none)) else (bif Nat.blt pc 160 then (bif Nat.beq pc 159 then some (.aload_n 2, 1, []) else none) else (bif Nat.beq pc 160 then some (.iload 6, 2, []) else none))))) else (bif Nat.blt pc 173 then (bif Nat.blt pc 167 then (bif Nat.blt pc 165 then (bif Nat.blt pc 163 then (bif Nat.beq pc 162 then some (.aload_n 0, 1, []) else none) else (bif Nat.beq pc 163 then some (.iload 5, 2, []) else none)) else (bif Nat.blt pc 166 then (bif Nat.beq pc 165 then some (.iconst 4, 1, []) else none) else (bif Nat.beq pc 166 then some (.iadd, 1, []) else none))) else (bif Nat.blt pc 171 then (bif Nat.blt pc 168 then (bif Nat.beq pc 167 then some (.iaload, 1, []) else none) else (bif Nat.beq pc 168 then some (.invokestatic 46, 3, [1, 108, 2, 316, 9, 3, 1]) else none)) else (bif Nat.blt pc 172 then (bif Nat.beq pc 171 then some (.aload_n 1, 1, []) else none) else (bif Nat.beq pc 172 then some (.aload_n 0, 1, []) else none)))) else (bif Nat.blt pc 178 then (bif Nat.blt pc 176 then (bif Nat.blt pc 175 then (bif Nat.beq pc 173 then some (.iload 5, 2, []) else none) else (bif Nat.beq pc 175 then some (.iconst 3, 1, []) else none)) else (bif Nat.blt pc 177 then (bif Nat.beq pc 176 then some (.iadd, 1, []) else none) else (bif Nat.beq pc 177 then some (.iaload, 1, []) else none))) else (bif Nat.blt pc 180 then (bif Nat.blt pc 179 then (bif Nat.beq pc 178 then some (.iaload, 1, []) else none) else (bif Nat.beq pc 179 then some (.iastore, 1, []) else none)) else (bif Nat.blt pc 183 then (bif Nat.beq pc 180 then some (.iinc 4 1, 3, []) else none) else (bif Nat.blt pc 186 then (bif Nat.beq pc 183 then some (.goto (-178), 3, [5]) else none) else (bif Nat.beq pc 186 then some (.return_, 1, []) else none))))))))
/-- L_told -/
def I_L_told (pc : Nat) : Option IE := bif Nat.blt pc 379 then (bif Nat.blt pc 190 then (bif Nat.blt pc 98 then (bif Nat.blt pc 50 then (bif Nat.blt pc 26 then (bif Nat.blt pc 12 then (bif Nat.blt pc 6 then (bif Nat.blt pc 2 then (bif Nat.beq pc 0 then some (.bipush 8, 2, []) else none) else (bif Nat.blt pc 4 then (bif Nat.beq pc 2 then some (.newarray .int, 2, [6, 159]) else none) else (bif Nat.beq pc 4 then some (.astore 7, 2, []) else none))) else (bif Nat.blt pc 8 then (bif Nat.beq pc 6 then some (.bipush 16, 2, []) else none) else (bif Nat.blt pc 10 then (bif Nat.beq pc 8 then some (.newarray .int, 2, [6, 159]) else none) else (bif Nat.beq pc 10 then some (.astore 8, 2, []) else none)))) else (bif Nat.blt pc 18 then (bif Nat.blt pc 14 then (bif Nat.beq pc 12 then some (.aload 7, 2, []) else none) else (bif Nat.blt pc 15 then (bif Nat.beq pc 14 then some (.aload_n 3, 1, []) else none) else (bif Nat.beq pc 15 then some (.invokestatic 57, 3, [1, 116, 2, 293, 9, 3, 0]) else none))) else (bif Nat.blt pc 22 then (bif Nat.blt pc 20 then (bif Nat.beq pc 18 then some (.aload 8, 2, []) else none) else (bif Nat.beq pc 20 then some (.aload 4, 2, []) else none)) else (bif Nat.blt pc 25 then (bif Nat.beq pc 22 then some (.invokestatic 57, 3, [1, 116, 2, 293, 9, 3, 0]) else none) else (bif Nat.beq pc 25 then some (.aload_n 1, 1, []) else none))))) else (bif Nat.blt pc 38 then (bif Nat.blt pc 32 then (bif Nat.blt pc 28 then (bif Nat.beq pc 26 then some (.aload 7, 2, []) else none) else (bif Nat.blt pc 30 then (bif Nat.beq pc 28 then some (.aload 8, 2, []) else none) else (bif Nat.beq pc 30 then some (.aload 6, 2, []) else none))) else (bif Nat.blt pc 35 then (bif Nat.beq pc 32 then some (.invokestatic 61, 3, [1, 117, 4, 296, 9, 7, 0]) else none) else (bif Nat.blt pc 36 then (bif Nat.beq pc 35 then some (.iconst (-1), 1, []) else none) else (bif Nat.beq pc 36 then some (.istore 9, 2, []) else none)))) else (bif Nat.blt pc 43 then (bif Nat.blt pc 39 then (bif Nat.beq pc 38 then some (.iconst 0, 1, []) else none) else (bif Nat.blt pc 41 then (bif Nat.beq pc 39 then some (.istore 10, 2, []) else none) else (bif Nat.beq pc 41 then some (.iload 10, 2, []) else none))) else (bif Nat.blt pc 46 then (bif Nat.blt pc 45 then (bif Nat.beq pc 43 then some (.aload 6, 2, []) else none) else (bif Nat.beq pc 45 then some (.iconst 1, 1, []) else none)) else (bif Nat.blt pc 47 then (bif Nat.beq pc 46 then some (.iaload, 1, []) else none) else (bif Nat.beq pc 47 then some (.if_icmp .ge 89, 3, [136]) else none)))))) else (bif Nat.blt pc 74 then (bif Nat.blt pc 61 then (bif Nat.blt pc 55 then (bif Nat.blt pc 51 then (bif Nat.beq pc 50 then some (.iconst 0, 1, []) else none) else (bif Nat.blt pc 53 then (bif Nat.beq pc 51 then some (.istore 11, 2, []) else none) else (bif Nat.beq pc 53 then some (.iload 11, 2, []) else none))) else (bif Nat.blt pc 57 then (bif Nat.beq pc 55 then some (.bipush 7, 2, []) else none) else (bif Nat.blt pc 60 then (bif Nat.beq pc 57 then some (.if_icmp .ge 32, 3, [89]) else none) else (bif Nat.beq pc 60 then some (.aload_n 0, 1, []) else none)))) else (bif Nat.blt pc 68 then (bif Nat.blt pc 63 then (bif Nat.beq pc 61 then some (.iload 10, 2, []) else none) else (bif Nat.blt pc 65 then (bif Nat.beq pc 63 then some (.iload 11, 2, []) else none) else (bif Nat.beq pc 65 then some (.invokevirtual 65, 3, [0, 77, 2, 319, 3, 3, 1]) else none))) else (bif Nat.blt pc 71 then (bif Nat.blt pc 69 then (bif Nat.beq pc 68 then some (.aload_n 1, 1, []) else none) else (bif Nat.beq pc 69 then some (.bipush 8, 2, []) else none)) else (bif Nat.blt pc 73 then (bif Nat.beq pc 71 then some (.iload 10, 2, []) else none) else (bif Nat.beq pc 73 then some (.imul, 1, []) else none))))) else (bif Nat.blt pc 86 then (bif Nat.blt pc 78 then (bif Nat.blt pc 76 then (bif Nat.beq pc 74 then some (.iload 11, 2, []) else none) else (bif Nat.blt pc 77 then (bif Nat.beq pc 76 then some (.iadd, 1, []) else none) else (bif Nat.beq pc 77 then some (.iaload, 1, []) else none))) else (bif Nat.blt pc 82 then (bif Nat.blt pc 81 then (bif Nat.beq pc 78 then some (.if_icmp .eq 5, 3, [83]) else none) else (bif Nat.beq pc 81 then some (.iconst 0, 1, []) else none)) else (bif Nat.blt pc 83 then (bif Nat.beq pc 82 then some (.ireturn, 1, [1]) else none) else (bif Nat.beq pc 83 then some (.iinc 11 1, 3, []) else none)))) else (bif Nat.blt pc 92 then (bif Nat.blt pc 89 then (bif Nat.beq pc 86 then some (.goto (-33), 3, [53]) else none) else (bif Nat.blt pc 90 then (bif Nat.beq pc 89 then some (.aload_n 1, 1, []) else none) else (bif Nat.beq pc 90 then some (.bipush 8, 2, []) else none))) else (bif Nat.blt pc 95 then (bif Nat.blt pc 94 then (bif Nat.beq pc 92 then some (.iload 10, 2, []) else none) else (bif Nat.beq pc 94 then some (.imul, 1, []) else none)) else (bif Nat.blt pc 97 then (bif Nat.beq pc 95 then some (.bipush 6, 2, []) else none) else (bif Nat.beq pc 97 then some (.iadd, 1, []) else none))))))) else (bif Nat.blt pc 147 then (bif Nat.blt pc 121 then (bif Nat.blt pc 109 then (bif Nat.blt pc 104 then (bif Nat.blt pc 99 then (bif Nat.beq pc 98 then some (.iaload, 1, []) else none) else (bif Nat.blt pc 101 then (bif Nat.beq pc 99 then some (.iload 9, 2, []) else none) else (bif Nat.beq pc 101 then some (.ifCond .ge 7, 3, [108]) else none))) else (bif Nat.blt pc 105 then (bif Nat.beq pc 104 then some (.iconst 0, 1, []) else none) else (bif Nat.blt pc 108 then (bif Nat.beq pc 105 then some (.goto 13, 3, [118]) else none) else (bif Nat.beq pc 108 then some (.aload_n 1, 1, []) else none)))) else (bif Nat.blt pc 114 then (bif Nat.blt pc 111 then (bif Nat.beq pc 109 then some (.bipush 8, 2, []) else none) else (bif Nat.blt pc 113 then (bif Nat.beq pc 111 then some (.iload 9, 2, []) else none) else (bif Nat.beq pc 113 then some (.imul, 1, []) else none))) else (bif Nat.blt pc 117 then (bif Nat.blt pc 116 then (bif Nat.beq pc 114 then some (.bipush 6, 2, []) else none) else (bif Nat.beq pc 116 then some (.iadd, 1, []) else none)) else (bif Nat.blt pc 118 then (bif Nat.beq pc 117 then some (.iaload, 1, []) else none) else (bif Nat.beq pc 118 then some (.if_icmp .le 8, 3, [126]) else none))))) else (bif Nat.blt pc 136 then (bif Nat.blt pc 128 then (bif Nat.blt pc 123 then (bif Nat.beq pc 121 then some (.iload 10, 2, []) else none) else (bif Nat.blt pc 126 then (bif Nat.beq pc 123 then some (.goto 5, 3, [128]) else none) else (bif Nat.beq pc 126 then some (.iload 9, 2, []) else none))) else (bif Nat.blt pc 130 then (bif Nat.beq pc 128 then some (.istore 9, 2, []) else none) else (bif Nat.blt pc 133 then (bif Nat.beq pc 130 then some (.iinc 10 1, 3, []) else none) else (bif Nat.beq pc 133 then some (.goto (-92), 3, [41]) else none)))) else (bif Nat.blt pc 140 then (bif Nat.blt pc 138 then (bif Nat.beq pc 136 then some (.aload 6, 2, []) else none) else (bif Nat.blt pc 139 then (bif Nat.beq pc 138 then some (.iconst 3, 1, []) else none) else (bif Nat.beq pc 139 then some (.iaload, 1, []) else none))) else (bif Nat.blt pc 144 then (bif Nat.blt pc 142 then (bif Nat.beq pc 140 then some (.istore 10, 2, []) else none) else (bif Nat.beq pc 142 then some (.iload 10, 2, []) else none)) else (bif Nat.blt pc 146 then (bif Nat.beq pc 144 then some (.aload 6, 2, []) else none) else (bif Nat.beq pc 146 then some (.iconst 2, 1, []) else none)))))) else (bif Nat.blt pc 167 then (bif Nat.blt pc 157 then (bif Nat.blt pc 153 then (bif Nat.blt pc 148 then (bif Nat.beq pc 147 then some (.iaload, 1, []) else none) else (bif Nat.blt pc 151 then (bif Nat.beq pc 148 then some (.if_icmp .ge 314, 3, [462]) else none) else (bif Nat.beq pc 151 then some (.iload 10, 2, []) else none))) else (bif Nat.blt pc 155 then (bif Nat.beq pc 153 then some (.aload 6, 2, []) else none) else (bif Nat.blt pc 156 then (bif Nat.beq pc 155 then some (.iconst 3, 1, []) else none) else (bif Nat.beq pc 156 then some (.iaload, 1, []) else none)))) else (bif Nat.blt pc 161 then (bif Nat.blt pc 158 then (bif Nat.beq pc 157 then some (.isub, 1, []) else none) else (bif Nat.blt pc 160 then (bif Nat.beq pc 158 then some (.istore 11, 2, []) else none) else (bif Nat.beq pc 160 then some (.iconst 5, 1, []) else none))) else (bif Nat.blt pc 164 then (bif Nat.blt pc 163 then (bif Nat.beq pc 161 then some (.iload 10, 2, []) else none) else (bif Nat.beq pc 163 then some (.imul, 1, []) else none)) else (bif Nat.blt pc 166 then (bif Nat.beq pc 164 then some (.istore 12, 2, []) else none) else (bif Nat.beq pc 166 then some (.aload_n 1, 1, []) else none))))) else (bif Nat.blt pc 178 then (bif Nat.blt pc 172 then (bif Nat.blt pc 169 then (bif Nat.beq pc 167 then some (.bipush 8, 2, []) else none) else (bif Nat.blt pc 171 then (bif Nat.beq pc 169 then some (.iload 10, 2, []) else none) else (bif Nat.beq pc 171 then some (.imul, 1, []) else none))) else (bif Nat.blt pc 175 then (bif Nat.blt pc 173 then (bif Nat.beq pc 172 then some (.iaload, 1, []) else none) else (bif Nat.beq pc 173 then some (.istore 13, 2, []) else none)) else (bif Nat.blt pc 176 then (bif Nat.beq pc 175 then some (.aload_n 2, 1, []) else none) else (bif Nat.beq pc 176 then some (.iload 12, 2, []) else none)))) else (bif Nat.blt pc 183 then (bif Nat.blt pc 179 then (bif Nat.beq pc 178 then some (.iaload, 1, []) else none) else (bif Nat.blt pc 180 then (bif Nat.beq pc 179 then some (.iconst 2, 1, []) else none) else (bif Nat.beq pc 180 then some (.if_icmp .ne 7, 3, [187]) else none))) else (bif Nat.blt pc 187 then (bif Nat.blt pc 184 then (bif Nat.beq pc 183 then some (.iconst 1, 1, []) else none) else (bif Nat.beq pc 184 then some (.goto 4, 3, [188]) else none)) else (bif Nat.blt pc 188 then (bif Nat.beq pc 187 then some (.iconst 0, 1, []) else none) else (bif Nat.beq pc 188 then some (.istore 14, 2, []) else none)))))))) else (bif Nat.blt pc 283 then (bif Nat.blt pc 235 then (bif Nat.blt pc 213 then (bif Nat.blt pc 202 then (bif Nat.blt pc 194 then (bif Nat.blt pc 191 then (bif Nat.beq pc 190 then some (.aload_n 0, 1, []) else none) else (bif Nat.blt pc 193 then (bif Nat.beq pc 191 then some (.iload 11, 2, []) else none) else (bif Nat.beq pc 193 then some (.iconst 0, 1, []) else none))) else (bif Nat.blt pc 197 then (bif Nat.beq pc 194 then some (.invokevirtual 70, 3, [0, 78, 2, 351, 3, 3, 1]) else none) else (bif Nat.blt pc 199 then (bif Nat.beq pc 197 then some (.iload 10, 2, []) else none) else (bif Nat.beq pc 199 then some (.if_icmp .ne 123, 3, [322]) else none)))) else (bif Nat.blt pc 206 then (bif Nat.blt pc 203 then (bif Nat.beq pc 202 then some (.aload_n 0, 1, []) else none) else (bif Nat.blt pc 205 then (bif Nat.beq pc 203 then some (.iload 11, 2, []) else none) else (bif Nat.beq pc 205 then some (.iconst 1, 1, []) else none))) else (bif Nat.blt pc 210 then (bif Nat.blt pc 209 then (bif Nat.beq pc 206 then some (.invokevirtual 70, 3, [0, 78, 2, 351, 3, 3, 1]) else none) else (bif Nat.beq pc 209 then some (.aload_n 2, 1, []) else none)) else (bif Nat.blt pc 212 then (bif Nat.beq pc 210 then some (.iload 12, 2, []) else none) else (bif Nat.beq pc 212 then some (.iaload, 1, []) else none))))) else (bif Nat.blt pc 224 then (bif Nat.blt pc 219 then (bif Nat.blt pc 216 then (bif Nat.beq pc 213 then some (.if_icmp .ne 109, 3, [322]) else none) else (bif Nat.blt pc 217 then (bif Nat.beq pc 216 then some (.aload_n 0, 1, []) else none) else (bif Nat.beq pc 217 then some (.iload 11, 2, []) else none))) else (bif Nat.blt pc 220 then (bif Nat.beq pc 219 then some (.iconst 2, 1, []) else none) else (bif Nat.blt pc 223 then (bif Nat.beq pc 220 then some (.invokevirtual 70, 3, [0, 78, 2, 351, 3, 3, 1]) else none) else (bif Nat.beq pc 223 then some (.aload_n 2, 1, []) else none)))) else (bif Nat.blt pc 228 then (bif Nat.blt pc 226 then (bif Nat.beq pc 224 then some (.iload 12, 2, []) else none) else (bif Nat.blt pc 227 then (bif Nat.beq pc 226 then some (.iaload, 1, []) else none) else (bif Nat.beq pc 227 then some (.iconst 1, 1, []) else none))) else (bif Nat.blt pc 232 then (bif Nat.blt pc 231 then (bif Nat.beq pc 228 then some (.if_icmp .ne 12, 3, [240]) else none) else (bif Nat.beq pc 231 then some (.aload_n 2, 1, []) else none)) else (bif Nat.blt pc 234 then (bif Nat.beq pc 232 then some (.iload 12, 2, []) else none) else (bif Nat.beq pc 234 then some (.iconst 1, 1, []) else none)))))) else (bif Nat.blt pc 259 then (bif Nat.blt pc 245 then (bif Nat.blt pc 240 then (bif Nat.blt pc 236 then (bif Nat.beq pc 235 then some (.iadd, 1, []) else none) else (bif Nat.blt pc 237 then (bif Nat.beq pc 236 then some (.iaload, 1, []) else none) else (bif Nat.beq pc 237 then some (.goto 4, 3, [241]) else none))) else (bif Nat.blt pc 241 then (bif Nat.beq pc 240 then some (.iconst 0, 1, []) else none) else (bif Nat.blt pc 244 then (bif Nat.beq pc 241 then some (.if_icmp .ne 81, 3, [322]) else none) else (bif Nat.beq pc 244 then some (.aload_n 0, 1, []) else none)))) else (bif Nat.blt pc 251 then (bif Nat.blt pc 247 then (bif Nat.beq pc 245 then some (.iload 11, 2, []) else none) else (bif Nat.blt pc 248 then (bif Nat.beq pc 247 then some (.iconst 3, 1, []) else none) else (bif Nat.beq pc 248 then some (.invokevirtual 70, 3, [0, 78, 2, 351, 3, 3, 1]) else none))) else (bif Nat.blt pc 256 then (bif Nat.blt pc 253 then (bif Nat.beq pc 251 then some (.iload 13, 2, []) else none) else (bif Nat.beq pc 253 then some (.ifCond .le 23, 3, [276]) else none)) else (bif Nat.blt pc 258 then (bif Nat.beq pc 256 then some (.iload 10, 2, []) else none) else (bif Nat.beq pc 258 then some (.aload_n 1, 1, []) else none))))) else (bif Nat.blt pc 268 then (bif Nat.blt pc 264 then (bif Nat.blt pc 261 then (bif Nat.beq pc 259 then some (.bipush 8, 2, []) else none) else (bif Nat.blt pc 263 then (bif Nat.beq pc 261 then some (.iload 10, 2, []) else none) else (bif Nat.beq pc 263 then some (.imul, 1, []) else none))) else (bif Nat.blt pc 266 then (bif Nat.blt pc 265 then (bif Nat.beq pc 264 then some (.iconst 2, 1, []) else none) else (bif Nat.beq pc 265 then some (.iadd, 1, []) else none)) else (bif Nat.blt pc 267 then (bif Nat.beq pc 266 then some (.iaload, 1, []) else none) else (bif Nat.beq pc 267 then some (.aload_n 1, 1, []) else none)))) else (bif Nat.blt pc 276 then (bif Nat.blt pc 270 then (bif Nat.beq pc 268 then some (.aload 6, 2, []) else none) else (bif Nat.blt pc 273 then (bif Nat.beq pc 270 then some (.invokestatic 27, 3, [1, 109, 4, 377, 9, 5, 1]) else none) else (bif Nat.beq pc 273 then some (.goto 4, 3, [277]) else none))) else (bif Nat.blt pc 280 then (bif Nat.blt pc 277 then (bif Nat.beq pc 276 then some (.iconst (-1), 1, []) else none) else (bif Nat.beq pc 277 then some (.if_icmp .ne 45, 3, [322]) else none)) else (bif Nat.blt pc 281 then (bif Nat.beq pc 280 then some (.aload_n 0, 1, []) else none) else (bif Nat.beq pc 281 then some (.iload 11, 2, []) else none))))))) else (bif Nat.blt pc 328 then (bif Nat.blt pc 307 then (bif Nat.blt pc 295 then (bif Nat.blt pc 289 then (bif Nat.blt pc 284 then (bif Nat.beq pc 283 then some (.iconst 4, 1, []) else none) else (bif Nat.blt pc 287 then (bif Nat.beq pc 284 then some (.invokevirtual 70, 3, [0, 78, 2, 351, 3, 3, 1]) else none) else (bif Nat.beq pc 287 then some (.iload 13, 2, []) else none))) else (bif Nat.blt pc 292 then (bif Nat.beq pc 289 then some (.ifCond .le 29, 3, [318]) else none) else (bif Nat.blt pc 294 then (bif Nat.beq pc 292 then some (.iload 13, 2, []) else none) else (bif Nat.beq pc 294 then some (.iconst 3, 1, []) else none)))) else (bif Nat.blt pc 301 then (bif Nat.blt pc 298 then (bif Nat.beq pc 295 then some (.if_icmp .eq 23, 3, [318]) else none) else (bif Nat.blt pc 300 then (bif Nat.beq pc 298 then some (.iload 10, 2, []) else none) else (bif Nat.beq pc 300 then some (.aload_n 1, 1, []) else none))) else (bif Nat.blt pc 305 then (bif Nat.blt pc 303 then (bif Nat.beq pc 301 then some (.bipush 8, 2, []) else none) else (bif Nat.beq pc 303 then some (.iload 10, 2, []) else none)) else (bif Nat.blt pc 306 then (bif Nat.beq pc 305 then some (.imul, 1, []) else none) else (bif Nat.beq pc 306 then some (.iconst 3, 1, []) else none))))) else (bif Nat.blt pc 318 then (bif Nat.blt pc 310 then (bif Nat.blt pc 308 then (bif Nat.beq pc 307 then some (.iadd, 1, []) else none) else (bif Nat.blt pc 309 then (bif Nat.beq pc 308 then some (.iaload, 1, []) else none) else (bif Nat.beq pc 309 then some (.aload_n 1, 1, []) else none))) else (bif Nat.blt pc 312 then (bif Nat.beq pc 310 then some (.aload 6, 2, []) else none) else (bif Nat.blt pc 315 then (bif Nat.beq pc 312 then some (.invokestatic 27, 3, [1, 109, 4, 377, 9, 5, 1]) else none) else (bif Nat.beq pc 315 then some (.goto 4, 3, [319]) else none)))) else (bif Nat.blt pc 323 then (bif Nat.blt pc 319 then (bif Nat.beq pc 318 then some (.iconst (-1), 1, []) else none) else (bif Nat.blt pc 322 then (bif Nat.beq pc 319 then some (.if_icmp .eq 5, 3, [324]) else none) else (bif Nat.beq pc 322 then some (.iconst 0, 1, []) else none))) else (bif Nat.blt pc 325 then (bif Nat.blt pc 324 then (bif Nat.beq pc 323 then some (.ireturn, 1, [1]) else none) else (bif Nat.beq pc 324 then some (.aload_n 0, 1, []) else none)) else (bif Nat.blt pc 327 then (bif Nat.beq pc 325 then some (.iload 11, 2, []) else none) else (bif Nat.beq pc 327 then some (.iconst 5, 1, []) else none)))))) else (bif Nat.blt pc 352 then (bif Nat.blt pc 342 then (bif Nat.blt pc 336 then (bif Nat.blt pc 331 then (bif Nat.beq pc 328 then some (.invokevirtual 70, 3, [0, 78, 2, 351, 3, 3, 1]) else none) else (bif Nat.blt pc 333 then (bif Nat.beq pc 331 then some (.iload 14, 2, []) else none) else (bif Nat.beq pc 333 then some (.ifCond .eq 18, 3, [351]) else none))) else (bif Nat.blt pc 338 then (bif Nat.beq pc 336 then some (.iload 13, 2, []) else none) else (bif Nat.blt pc 339 then (bif Nat.beq pc 338 then some (.iconst 2, 1, []) else none) else (bif Nat.beq pc 339 then some (.if_icmp .le 12, 3, [351]) else none)))) else (bif Nat.blt pc 346 then (bif Nat.blt pc 343 then (bif Nat.beq pc 342 then some (.aload_n 2, 1, []) else none) else (bif Nat.blt pc 345 then (bif Nat.beq pc 343 then some (.iload 12, 2, []) else none) else (bif Nat.beq pc 345 then some (.iconst 2, 1, []) else none))) else (bif Nat.blt pc 348 then (bif Nat.blt pc 347 then (bif Nat.beq pc 346 then some (.iadd, 1, []) else none) else (bif Nat.beq pc 347 then some (.iaload, 1, []) else none)) else (bif Nat.blt pc 351 then (bif Nat.beq pc 348 then some (.goto 4, 3, [352]) else none) else (bif Nat.beq pc 351 then some (.iconst (-1), 1, []) else none))))) else (bif Nat.blt pc 368 then (bif Nat.blt pc 358 then (bif Nat.blt pc 355 then (bif Nat.beq pc 352 then some (.if_icmp .ne 102, 3, [454]) else none) else (bif Nat.blt pc 356 then (bif Nat.beq pc 355 then some (.aload_n 0, 1, []) else none) else (bif Nat.beq pc 356 then some (.iload 11, 2, []) else none))) else (bif Nat.blt pc 363 then (bif Nat.blt pc 360 then (bif Nat.beq pc 358 then some (.bipush 6, 2, []) else none) else (bif Nat.beq pc 360 then some (.invokevirtual 70, 3, [0, 78, 2, 351, 3, 3, 1]) else none)) else (bif Nat.blt pc 365 then (bif Nat.beq pc 363 then some (.iload 14, 2, []) else none) else (bif Nat.beq pc 365 then some (.ifCond .eq 18, 3, [383]) else none)))) else (bif Nat.blt pc 374 then (bif Nat.blt pc 370 then (bif Nat.beq pc 368 then some (.iload 13, 2, []) else none) else (bif Nat.blt pc 371 then (bif Nat.beq pc 370 then some (.iconst 3, 1, []) else none) else (bif Nat.beq pc 371 then some (.if_icmp .ne 12, 3, [383]) else none))) else (bif Nat.blt pc 377 then (bif Nat.blt pc 375 then (bif Nat.beq pc 374 then some (.aload_n 2, 1, []) else none) else (bif Nat.beq pc 375 then some (.iload 12, 2, []) else none)) else (bif Nat.blt pc 378 then (bif Nat.beq pc 377 then some (.iconst 3, 1, []) else none) else (bif Nat.beq pc 378 then some (.iadd, 1, []) else none))))))))) else (bif Nat.blt pc 585 then (bif Nat.blt pc 482 then (bif Nat.blt pc 428 then (bif Nat.blt pc 404 then (bif Nat.blt pc 390 then (bif Nat.blt pc 384 then (bif Nat.blt pc 380 then (bif Nat.beq pc 379 then some (.iaload, 1, []) else none) else (bif Nat.blt pc 383 then (bif Nat.beq pc 380 then some (.goto 4, 3, [384]) else none) else (bif Nat.beq pc 383 then some (.iconst (-1), 1, []) else none))) else (bif Nat.blt pc 387 then (bif Nat.beq pc 384 then some (.if_icmp .ne 70, 3, [454]) else none) else (bif Nat.blt pc 388 then (bif Nat.beq pc 387 then some (.aload_n 0, 1, []) else none) else (bif Nat.beq pc 388 then some (.iload 11, 2, []) else none)))) else (bif Nat.blt pc 397 then (bif Nat.blt pc 392 then (bif Nat.beq pc 390 then some (.bipush 7, 2, []) else none) else (bif Nat.blt pc 395 then (bif Nat.beq pc 392 then some (.invokevirtual 70, 3, [0, 78, 2, 351, 3, 3, 1]) else none) else (bif Nat.beq pc 395 then some (.iload 14, 2, []) else none))) else (bif Nat.blt pc 401 then (bif Nat.blt pc 400 then (bif Nat.beq pc 397 then some (.ifCond .eq 15, 3, [412]) else none) else (bif Nat.beq pc 400 then some (.aload_n 2, 1, []) else none)) else (bif Nat.blt pc 403 then (bif Nat.beq pc 401 then some (.iload 12, 2, []) else none) else (bif Nat.beq pc 403 then some (.iconst 4, 1, []) else none))))) else (bif Nat.blt pc 416 then (bif Nat.blt pc 409 then (bif Nat.blt pc 405 then (bif Nat.beq pc 404 then some (.iadd, 1, []) else none) else (bif Nat.blt pc 406 then (bif Nat.beq pc 405 then some (.iaload, 1, []) else none) else (bif Nat.beq pc 406 then some (.invokestatic 73, 3, [1, 103, 1, 380, 9, 4, 1]) else none))) else (bif Nat.blt pc 412 then (bif Nat.beq pc 409 then some (.goto 4, 3, [413]) else none) else (bif Nat.blt pc 413 then (bif Nat.beq pc 412 then some (.iconst 0, 1, []) else none) else (bif Nat.beq pc 413 then some (.if_icmp .ne 41, 3, [454]) else none)))) else (bif Nat.blt pc 421 then (bif Nat.blt pc 417 then (bif Nat.beq pc 416 then some (.aload_n 0, 1, []) else none) else (bif Nat.blt pc 419 then (bif Nat.beq pc 417 then some (.iload 11, 2, []) else none) else (bif Nat.beq pc 419 then some (.bipush 8, 2, []) else none))) else (bif Nat.blt pc 426 then (bif Nat.blt pc 424 then (bif Nat.beq pc 421 then some (.invokevirtual 70, 3, [0, 78, 2, 351, 3, 3, 1]) else none) else (bif Nat.beq pc 424 then some (.iload 10, 2, []) else none)) else (bif Nat.blt pc 427 then (bif Nat.beq pc 426 then some (.aload_n 1, 1, []) else none) else (bif Nat.beq pc 427 then some (.aload_n 2, 1, []) else none)))))) else (bif Nat.blt pc 455 then (bif Nat.blt pc 442 then (bif Nat.blt pc 436 then (bif Nat.blt pc 430 then (bif Nat.beq pc 428 then some (.aload 6, 2, []) else none) else (bif Nat.blt pc 433 then (bif Nat.beq pc 430 then some (.invokestatic 53, 3, [1, 112, 4, 385, 9, 6, 1]) else none) else (bif Nat.beq pc 433 then some (.if_icmp .ne 21, 3, [454]) else none))) else (bif Nat.blt pc 437 then (bif Nat.beq pc 436 then some (.aload_n 0, 1, []) else none) else (bif Nat.blt pc 439 then (bif Nat.beq pc 437 then some (.iload 11, 2, []) else none) else (bif Nat.beq pc 439 then some (.invokevirtual 76, 3, [0, 79, 1, 391, 3, 2, 1]) else none)))) else (bif Nat.blt pc 446 then (bif Nat.blt pc 444 then (bif Nat.beq pc 442 then some (.iload 10, 2, []) else none) else (bif Nat.blt pc 445 then (bif Nat.beq pc 444 then some (.aload_n 1, 1, []) else none) else (bif Nat.beq pc 445 then some (.aload_n 2, 1, []) else none))) else (bif Nat.blt pc 451 then (bif Nat.blt pc 448 then (bif Nat.beq pc 446 then some (.aload 6, 2, []) else none) else (bif Nat.beq pc 448 then some (.invokestatic 53, 3, [1, 112, 4, 385, 9, 6, 1]) else none)) else (bif Nat.blt pc 454 then (bif Nat.beq pc 451 then some (.if_icmp .eq 5, 3, [456]) else none) else (bif Nat.beq pc 454 then some (.iconst 0, 1, []) else none))))) else (bif Nat.blt pc 469 then (bif Nat.blt pc 462 then (bif Nat.blt pc 456 then (bif Nat.beq pc 455 then some (.ireturn, 1, [1]) else none) else (bif Nat.blt pc 459 then (bif Nat.beq pc 456 then some (.iinc 10 1, 3, []) else none) else (bif Nat.beq pc 459 then some (.goto (-317), 3, [142]) else none))) else (bif Nat.blt pc 465 then (bif Nat.blt pc 463 then (bif Nat.beq pc 462 then some (.iconst 0, 1, []) else none) else (bif Nat.beq pc 463 then some (.istore 10, 2, []) else none)) else (bif Nat.blt pc 467 then (bif Nat.beq pc 465 then some (.iload 10, 2, []) else none) else (bif Nat.beq pc 467 then some (.bipush 8, 2, []) else none)))) else (bif Nat.blt pc 475 then (bif Nat.blt pc 472 then (bif Nat.beq pc 469 then some (.if_icmp .ge 68, 3, [537]) else none) else (bif Nat.blt pc 473 then (bif Nat.beq pc 472 then some (.aload_n 0, 1, []) else none) else (bif Nat.beq pc 473 then some (.iload 10, 2, []) else none))) else (bif Nat.blt pc 479 then (bif Nat.blt pc 476 then (bif Nat.beq pc 475 then some (.iconst 0, 1, []) else none) else (bif Nat.beq pc 476 then some (.invokevirtual 79, 3, [0, 80, 2, 396, 3, 3, 1]) else none)) else (bif Nat.blt pc 480 then (bif Nat.beq pc 479 then some (.aload_n 3, 1, []) else none) else (bif Nat.beq pc 480 then some (.iload 10, 2, []) else none))))))) else (bif Nat.blt pc 531 then (bif Nat.blt pc 505 then (bif Nat.blt pc 493 then (bif Nat.blt pc 489 then (bif Nat.blt pc 483 then (bif Nat.beq pc 482 then some (.iaload, 1, []) else none) else (bif Nat.blt pc 486 then (bif Nat.beq pc 483 then some (.invokestatic 73, 3, [1, 103, 1, 380, 9, 4, 1]) else none) else (bif Nat.beq pc 486 then some (.if_icmp .ne 43, 3, [529]) else none))) else (bif Nat.blt pc 490 then (bif Nat.beq pc 489 then some (.aload_n 0, 1, []) else none) else (bif Nat.blt pc 492 then (bif Nat.beq pc 490 then some (.iload 10, 2, []) else none) else (bif Nat.beq pc 492 then some (.iconst 1, 1, []) else none)))) else (bif Nat.blt pc 499 then (bif Nat.blt pc 496 then (bif Nat.beq pc 493 then some (.invokevirtual 79, 3, [0, 80, 2, 396, 3, 3, 1]) else none) else (bif Nat.blt pc 498 then (bif Nat.beq pc 496 then some (.aload 6, 2, []) else none) else (bif Nat.beq pc 498 then some (.iconst 2, 1, []) else none))) else (bif Nat.blt pc 502 then (bif Nat.blt pc 500 then (bif Nat.beq pc 499 then some (.iaload, 1, []) else none) else (bif Nat.beq pc 500 then some (.iload 10, 2, []) else none)) else (bif Nat.blt pc 503 then (bif Nat.beq pc 502 then some (.aload_n 1, 1, []) else none) else (bif Nat.beq pc 503 then some (.aload 6, 2, []) else none))))) else (bif Nat.blt pc 518 then (bif Nat.blt pc 512 then (bif Nat.blt pc 508 then (bif Nat.beq pc 505 then some (.invokestatic 27, 3, [1, 109, 4, 377, 9, 5, 1]) else none) else (bif Nat.blt pc 511 then (bif Nat.beq pc 508 then some (.if_icmp .ne 21, 3, [529]) else none) else (bif Nat.beq pc 511 then some (.aload_n 0, 1, []) else none))) else (bif Nat.blt pc 514 then (bif Nat.beq pc 512 then some (.iload 10, 2, []) else none) else (bif Nat.blt pc 515 then (bif Nat.beq pc 514 then some (.iconst 2, 1, []) else none) else (bif Nat.beq pc 515 then some (.invokevirtual 79, 3, [0, 80, 2, 396, 3, 3, 1]) else none)))) else (bif Nat.blt pc 523 then (bif Nat.blt pc 520 then (bif Nat.beq pc 518 then some (.aload 7, 2, []) else none) else (bif Nat.blt pc 522 then (bif Nat.beq pc 520 then some (.iload 10, 2, []) else none) else (bif Nat.beq pc 522 then some (.iaload, 1, []) else none))) else (bif Nat.blt pc 529 then (bif Nat.blt pc 526 then (bif Nat.beq pc 523 then some (.invokestatic 73, 3, [1, 103, 1, 380, 9, 4, 1]) else none) else (bif Nat.beq pc 526 then some (.if_icmp .eq 5, 3, [531]) else none)) else (bif Nat.blt pc 530 then (bif Nat.beq pc 529 then some (.iconst 0, 1, []) else none) else (bif Nat.beq pc 530 then some (.ireturn, 1, [1]) else none)))))) else (bif Nat.blt pc 558 then (bif Nat.blt pc 544 then (bif Nat.blt pc 538 then (bif Nat.blt pc 534 then (bif Nat.beq pc 531 then some (.iinc 10 1, 3, []) else none) else (bif Nat.blt pc 537 then (bif Nat.beq pc 534 then some (.goto (-69), 3, [465]) else none) else (bif Nat.beq pc 537 then some (.iconst 0, 1, []) else none))) else (bif Nat.blt pc 540 then (bif Nat.beq pc 538 then some (.istore 10, 2, []) else none) else (bif Nat.blt pc 542 then (bif Nat.beq pc 540 then some (.iload 10, 2, []) else none) else (bif Nat.beq pc 542 then some (.bipush 16, 2, []) else none)))) else (bif Nat.blt pc 550 then (bif Nat.blt pc 547 then (bif Nat.beq pc 544 then some (.if_icmp .ge 47, 3, [591]) else none) else (bif Nat.blt pc 548 then (bif Nat.beq pc 547 then some (.aload_n 0, 1, []) else none) else (bif Nat.beq pc 548 then some (.iload 10, 2, []) else none))) else (bif Nat.blt pc 554 then (bif Nat.blt pc 551 then (bif Nat.beq pc 550 then some (.iconst 0, 1, []) else none) else (bif Nat.beq pc 551 then some (.invokevirtual 82, 3, [0, 81, 2, 474, 3, 3, 1]) else none)) else (bif Nat.blt pc 556 then (bif Nat.beq pc 554 then some (.aload 4, 2, []) else none) else (bif Nat.beq pc 556 then some (.iload 10, 2, []) else none))))) else (bif Nat.blt pc 572 then (bif Nat.blt pc 565 then (bif Nat.blt pc 559 then (bif Nat.beq pc 558 then some (.iaload, 1, []) else none) else (bif Nat.blt pc 562 then (bif Nat.beq pc 559 then some (.invokestatic 73, 3, [1, 103, 1, 380, 9, 4, 1]) else none) else (bif Nat.beq pc 562 then some (.if_icmp .ne 21, 3, [583]) else none))) else (bif Nat.blt pc 568 then (bif Nat.blt pc 566 then (bif Nat.beq pc 565 then some (.aload_n 0, 1, []) else none) else (bif Nat.beq pc 566 then some (.iload 10, 2, []) else none)) else (bif Nat.blt pc 569 then (bif Nat.beq pc 568 then some (.iconst 1, 1, []) else none) else (bif Nat.beq pc 569 then some (.invokevirtual 82, 3, [0, 81, 2, 474, 3, 3, 1]) else none)))) else (bif Nat.blt pc 577 then (bif Nat.blt pc 574 then (bif Nat.beq pc 572 then some (.aload 8, 2, []) else none) else (bif Nat.blt pc 576 then (bif Nat.beq pc 574 then some (.iload 10, 2, []) else none) else (bif Nat.beq pc 576 then some (.iaload, 1, []) else none))) else (bif Nat.blt pc 583 then (bif Nat.blt pc 580 then (bif Nat.beq pc 577 then some (.invokestatic 73, 3, [1, 103, 1, 380, 9, 4, 1]) else none) else (bif Nat.beq pc 580 then some (.if_icmp .eq 5, 3, [585]) else none)) else (bif Nat.blt pc 584 then (bif Nat.beq pc 583 then some (.iconst 0, 1, []) else none) else (bif Nat.beq pc 584 then some (.ireturn, 1, [1]) else none)))))))) else (bif Nat.blt pc 688 then (bif Nat.blt pc 637 then (bif Nat.blt pc 611 then (bif Nat.blt pc 597 then (bif Nat.blt pc 592 then (bif Nat.blt pc 588 then (bif Nat.beq pc 585 then some (.iinc 10 1, 3, []) else none) else (bif Nat.blt pc 591 then (bif Nat.beq pc 588 then some (.goto (-48), 3, [540]) else none) else (bif Nat.beq pc 591 then some (.iconst 0, 1, []) else none))) else (bif Nat.blt pc 594 then (bif Nat.beq pc 592 then some (.istore 10, 2, []) else none) else (bif Nat.blt pc 596 then (bif Nat.beq pc 594 then some (.iload 10, 2, []) else none) else (bif Nat.beq pc 596 then some (.iconst 3, 1, []) else none)))) else (bif Nat.blt pc 603 then (bif Nat.blt pc 600 then (bif Nat.beq pc 597 then some (.if_icmp .ge 25, 3, [622]) else none) else (bif Nat.blt pc 601 then (bif Nat.beq pc 600 then some (.aload_n 0, 1, []) else none) else (bif Nat.beq pc 601 then some (.iload 10, 2, []) else none))) else (bif Nat.blt pc 608 then (bif Nat.blt pc 606 then (bif Nat.beq pc 603 then some (.invokevirtual 85, 3, [0, 83, 1, 483, 3, 2, 1]) else none) else (bif Nat.beq pc 606 then some (.aload 5, 2, []) else none)) else (bif Nat.blt pc 610 then (bif Nat.beq pc 608 then some (.iload 10, 2, []) else none) else (bif Nat.beq pc 610 then some (.iaload, 1, []) else none))))) else (bif Nat.blt pc 623 then (bif Nat.blt pc 616 then (bif Nat.blt pc 614 then (bif Nat.beq pc 611 then some (.if_icmp .eq 5, 3, [616]) else none) else (bif Nat.blt pc 615 then (bif Nat.beq pc 614 then some (.iconst 0, 1, []) else none) else (bif Nat.beq pc 615 then some (.ireturn, 1, [1]) else none))) else (bif Nat.blt pc 619 then (bif Nat.beq pc 616 then some (.iinc 10 1, 3, []) else none) else (bif Nat.blt pc 622 then (bif Nat.beq pc 619 then some (.goto (-25), 3, [594]) else none) else (bif Nat.beq pc 622 then some (.iconst 0, 1, []) else none)))) else (bif Nat.blt pc 628 then (bif Nat.blt pc 625 then (bif Nat.beq pc 623 then some (.istore 10, 2, []) else none) else (bif Nat.blt pc 627 then (bif Nat.beq pc 625 then some (.iload 10, 2, []) else none) else (bif Nat.beq pc 627 then some (.iconst 2, 1, []) else none))) else (bif Nat.blt pc 632 then (bif Nat.blt pc 631 then (bif Nat.beq pc 628 then some (.if_icmp .ge 25, 3, [653]) else none) else (bif Nat.beq pc 631 then some (.aload_n 0, 1, []) else none)) else (bif Nat.blt pc 634 then (bif Nat.beq pc 632 then some (.iload 10, 2, []) else none) else (bif Nat.beq pc 634 then some (.invokevirtual 88, 3, [0, 82, 1, 195, 3, 2, 1]) else none)))))) else (bif Nat.blt pc 663 then (bif Nat.blt pc 647 then (bif Nat.blt pc 642 then (bif Nat.blt pc 639 then (bif Nat.beq pc 637 then some (.aload 6, 2, []) else none) else (bif Nat.blt pc 641 then (bif Nat.beq pc 639 then some (.iload 10, 2, []) else none) else (bif Nat.beq pc 641 then some (.iaload, 1, []) else none))) else (bif Nat.blt pc 645 then (bif Nat.beq pc 642 then some (.if_icmp .eq 5, 3, [647]) else none) else (bif Nat.blt pc 646 then (bif Nat.beq pc 645 then some (.iconst 0, 1, []) else none) else (bif Nat.beq pc 646 then some (.ireturn, 1, [1]) else none)))) else (bif Nat.blt pc 654 then (bif Nat.blt pc 650 then (bif Nat.beq pc 647 then some (.iinc 10 1, 3, []) else none) else (bif Nat.blt pc 653 then (bif Nat.beq pc 650 then some (.goto (-25), 3, [625]) else none) else (bif Nat.beq pc 653 then some (.iconst 3, 1, []) else none))) else (bif Nat.blt pc 658 then (bif Nat.blt pc 656 then (bif Nat.beq pc 654 then some (.istore 10, 2, []) else none) else (bif Nat.beq pc 656 then some (.iload 10, 2, []) else none)) else (bif Nat.blt pc 660 then (bif Nat.beq pc 658 then some (.bipush 10, 2, []) else none) else (bif Nat.beq pc 660 then some (.if_icmp .ge 27, 3, [687]) else none))))) else (bif Nat.blt pc 675 then (bif Nat.blt pc 669 then (bif Nat.blt pc 664 then (bif Nat.beq pc 663 then some (.aload_n 0, 1, []) else none) else (bif Nat.blt pc 666 then (bif Nat.beq pc 664 then some (.iload 10, 2, []) else none) else (bif Nat.beq pc 666 then some (.invokevirtual 88, 3, [0, 82, 1, 195, 3, 2, 1]) else none))) else (bif Nat.blt pc 673 then (bif Nat.blt pc 671 then (bif Nat.beq pc 669 then some (.aload 6, 2, []) else none) else (bif Nat.beq pc 671 then some (.iload 10, 2, []) else none)) else (bif Nat.blt pc 674 then (bif Nat.beq pc 673 then some (.iconst 1, 1, []) else none) else (bif Nat.beq pc 674 then some (.isub, 1, []) else none)))) else (bif Nat.blt pc 680 then (bif Nat.blt pc 676 then (bif Nat.beq pc 675 then some (.iaload, 1, []) else none) else (bif Nat.blt pc 679 then (bif Nat.beq pc 676 then some (.if_icmp .eq 5, 3, [681]) else none) else (bif Nat.beq pc 679 then some (.iconst 0, 1, []) else none))) else (bif Nat.blt pc 684 then (bif Nat.blt pc 681 then (bif Nat.beq pc 680 then some (.ireturn, 1, [1]) else none) else (bif Nat.beq pc 681 then some (.iinc 10 1, 3, []) else none)) else (bif Nat.blt pc 687 then (bif Nat.beq pc 684 then some (.goto (-28), 3, [656]) else none) else (bif Nat.beq pc 687 then some (.aload_n 0, 1, []) else none))))))) else (bif Nat.blt pc 733 then (bif Nat.blt pc 710 then (bif Nat.blt pc 698 then (bif Nat.blt pc 694 then (bif Nat.blt pc 689 then (bif Nat.beq pc 688 then some (.iconst 2, 1, []) else none) else (bif Nat.blt pc 692 then (bif Nat.beq pc 689 then some (.invokevirtual 88, 3, [0, 82, 1, 195, 3, 2, 1]) else none) else (bif Nat.beq pc 692 then some (.aload 6, 2, []) else none))) else (bif Nat.blt pc 695 then (bif Nat.beq pc 694 then some (.iconst 2, 1, []) else none) else (bif Nat.blt pc 696 then (bif Nat.beq pc 695 then some (.iaload, 1, []) else none) else (bif Nat.beq pc 696 then some (.aload 6, 2, []) else none)))) else (bif Nat.blt pc 701 then (bif Nat.blt pc 699 then (bif Nat.beq pc 698 then some (.iconst 3, 1, []) else none) else (bif Nat.blt pc 700 then (bif Nat.beq pc 699 then some (.iaload, 1, []) else none) else (bif Nat.beq pc 700 then some (.isub, 1, []) else none))) else (bif Nat.blt pc 705 then (bif Nat.blt pc 704 then (bif Nat.beq pc 701 then some (.if_icmp .ne 76, 3, [777]) else none) else (bif Nat.beq pc 704 then some (.aload_n 0, 1, []) else none)) else (bif Nat.blt pc 707 then (bif Nat.beq pc 705 then some (.bipush 10, 2, []) else none) else (bif Nat.beq pc 707 then some (.invokevirtual 88, 3, [0, 82, 1, 195, 3, 2, 1]) else none))))) else (bif Nat.blt pc 718 then (bif Nat.blt pc 714 then (bif Nat.blt pc 712 then (bif Nat.beq pc 710 then some (.aload 6, 2, []) else none) else (bif Nat.blt pc 713 then (bif Nat.beq pc 712 then some (.iconst 3, 1, []) else none) else (bif Nat.beq pc 713 then some (.iaload, 1, []) else none))) else (bif Nat.blt pc 716 then (bif Nat.beq pc 714 then some (.aload 6, 2, []) else none) else (bif Nat.blt pc 717 then (bif Nat.beq pc 716 then some (.iconst 1, 1, []) else none) else (bif Nat.beq pc 717 then some (.iaload, 1, []) else none)))) else (bif Nat.blt pc 725 then (bif Nat.blt pc 721 then (bif Nat.beq pc 718 then some (.if_icmp .ne 7, 3, [725]) else none) else (bif Nat.blt pc 722 then (bif Nat.beq pc 721 then some (.iconst 1, 1, []) else none) else (bif Nat.beq pc 722 then some (.goto 4, 3, [726]) else none))) else (bif Nat.blt pc 729 then (bif Nat.blt pc 726 then (bif Nat.beq pc 725 then some (.iconst 0, 1, []) else none) else (bif Nat.beq pc 726 then some (.if_icmp .ne 51, 3, [777]) else none)) else (bif Nat.blt pc 730 then (bif Nat.beq pc 729 then some (.aload_n 0, 1, []) else none) else (bif Nat.beq pc 730 then some (.invokevirtual 91, 3, [0, 91, 0, 487, 3, 5, 1]) else none)))))) else (bif Nat.blt pc 759 then (bif Nat.blt pc 746 then (bif Nat.blt pc 739 then (bif Nat.blt pc 735 then (bif Nat.beq pc 733 then some (.iload 9, 2, []) else none) else (bif Nat.blt pc 738 then (bif Nat.beq pc 735 then some (.if_icmp .ne 42, 3, [777]) else none) else (bif Nat.beq pc 738 then some (.aload_n 0, 1, []) else none))) else (bif Nat.blt pc 742 then (bif Nat.beq pc 739 then some (.invokevirtual 95, 3, [0, 92, 0, 491, 3, 1, 4]) else none) else (bif Nat.blt pc 744 then (bif Nat.beq pc 742 then some (.aload 6, 2, []) else none) else (bif Nat.beq pc 744 then some (.bipush 7, 2, []) else none)))) else (bif Nat.blt pc 751 then (bif Nat.blt pc 747 then (bif Nat.beq pc 746 then some (.iaload, 1, []) else none) else (bif Nat.blt pc 750 then (bif Nat.beq pc 747 then some (.ifCond .ne 7, 3, [754]) else none) else (bif Nat.beq pc 750 then some (.dconst 0, 1, []) else none))) else (bif Nat.blt pc 755 then (bif Nat.blt pc 754 then (bif Nat.beq pc 751 then some (.goto 18, 3, [769]) else none) else (bif Nat.beq pc 754 then some (.dconst 1, 1, []) else none)) else (bif Nat.blt pc 757 then (bif Nat.beq pc 755 then some (.aload 6, 2, []) else none) else (bif Nat.beq pc 757 then some (.bipush 8, 2, []) else none))))) else (bif Nat.blt pc 768 then (bif Nat.blt pc 762 then (bif Nat.blt pc 760 then (bif Nat.beq pc 759 then some (.iaload, 1, []) else none) else (bif Nat.blt pc 761 then (bif Nat.beq pc 760 then some (.i2d, 1, []) else none) else (bif Nat.beq pc 761 then some (.dmul, 1, []) else none))) else (bif Nat.blt pc 766 then (bif Nat.blt pc 764 then (bif Nat.beq pc 762 then some (.aload 6, 2, []) else none) else (bif Nat.beq pc 764 then some (.bipush 7, 2, []) else none)) else (bif Nat.blt pc 767 then (bif Nat.beq pc 766 then some (.iaload, 1, []) else none) else (bif Nat.beq pc 767 then some (.i2d, 1, []) else none)))) else (bif Nat.blt pc 773 then (bif Nat.blt pc 769 then (bif Nat.beq pc 768 then some (.ddiv, 1, []) else none) else (bif Nat.blt pc 770 then (bif Nat.beq pc 769 then some (.dcmp .l, 1, []) else none) else (bif Nat.beq pc 770 then some (.ifCond .ne 7, 3, [777]) else none))) else (bif Nat.blt pc 777 then (bif Nat.blt pc 774 then (bif Nat.beq pc 773 then some (.iconst 1, 1, []) else none) else (bif Nat.beq pc 774 then some (.goto 4, 3, [778]) else none)) else (bif Nat.blt pc 778 then (bif Nat.beq pc 777 then some (.iconst 0, 1, []) else none) else (bif Nat.beq pc 778 then some (.ireturn, 1, [1]) else none)))))))))
/-- L_ahead -/
def I_L_ahead (pc : Nat) : Option IE := bif Nat.blt pc 206 then (bif Nat.blt pc 104 then (bif Nat.blt pc 47 then (bif Nat.blt pc 25 then (bif Nat.blt pc 12 then (bif Nat.blt pc 6 then (bif Nat.blt pc 2 then (bif Nat.beq pc 0 then some (.bipush 64, 2, []) else none) else (bif Nat.blt pc 4 then (bif Nat.beq pc 2 then some (.newarray .int, 2, [6, 159]) else none) else (bif Nat.beq pc 4 then some (.astore 8, 2, []) else none))) else (bif Nat.blt pc 8 then (bif Nat.beq pc 6 then some (.bipush 40, 2, []) else none) else (bif Nat.blt pc 10 then (bif Nat.beq pc 8 then some (.newarray .int, 2, [6, 159]) else none) else (bif Nat.beq pc 10 then some (.astore 9, 2, []) else none)))) else (bif Nat.blt pc 18 then (bif Nat.blt pc 14 then (bif Nat.beq pc 12 then some (.bipush 8, 2, []) else none) else (bif Nat.blt pc 16 then (bif Nat.beq pc 14 then some (.newarray .int, 2, [6, 159]) else none) else (bif Nat.beq pc 16 then some (.astore 10, 2, []) else none))) else (bif Nat.blt pc 22 then (bif Nat.blt pc 20 then (bif Nat.beq pc 18 then some (.bipush 16, 2, []) else none) else (bif Nat.beq pc 20 then some (.newarray .int, 2, [6, 159]) else none)) else (bif Nat.blt pc 24 then (bif Nat.beq pc 22 then some (.astore 11, 2, []) else none) else (bif Nat.beq pc 24 then some (.iconst 3, 1, []) else none))))) else (bif Nat.blt pc 36 then (bif Nat.blt pc 31 then (bif Nat.blt pc 27 then (bif Nat.beq pc 25 then some (.newarray .int, 2, [6, 159]) else none) else (bif Nat.blt pc 29 then (bif Nat.beq pc 27 then some (.astore 12, 2, []) else none) else (bif Nat.beq pc 29 then some (.bipush 9, 2, []) else none))) else (bif Nat.blt pc 33 then (bif Nat.beq pc 31 then some (.newarray .int, 2, [6, 159]) else none) else (bif Nat.blt pc 35 then (bif Nat.beq pc 33 then some (.astore 13, 2, []) else none) else (bif Nat.beq pc 35 then some (.iconst 0, 1, []) else none)))) else (bif Nat.blt pc 41 then (bif Nat.blt pc 38 then (bif Nat.beq pc 36 then some (.istore 14, 2, []) else none) else (bif Nat.blt pc 39 then (bif Nat.beq pc 38 then some (.iconst (-1), 1, []) else none) else (bif Nat.beq pc 39 then some (.istore 15, 2, []) else none))) else (bif Nat.blt pc 44 then (bif Nat.blt pc 42 then (bif Nat.beq pc 41 then some (.iconst 0, 1, []) else none) else (bif Nat.beq pc 42 then some (.istore 16, 2, []) else none)) else (bif Nat.blt pc 45 then (bif Nat.beq pc 44 then some (.iconst 0, 1, []) else none) else (bif Nat.beq pc 45 then some (.istore 17, 2, []) else none)))))) else (bif Nat.blt pc 75 then (bif Nat.blt pc 60 then (bif Nat.blt pc 54 then (bif Nat.blt pc 49 then (bif Nat.beq pc 47 then some (.iload 17, 2, []) else none) else (bif Nat.blt pc 51 then (bif Nat.beq pc 49 then some (.bipush 9, 2, []) else none) else (bif Nat.beq pc 51 then some (.if_icmp .ge 308, 3, [359]) else none))) else (bif Nat.blt pc 56 then (bif Nat.beq pc 54 then some (.aload 8, 2, []) else none) else (bif Nat.blt pc 57 then (bif Nat.beq pc 56 then some (.aload_n 2, 1, []) else none) else (bif Nat.beq pc 57 then some (.invokestatic 57, 3, [1, 116, 2, 293, 9, 3, 0]) else none)))) else (bif Nat.blt pc 66 then (bif Nat.blt pc 62 then (bif Nat.beq pc 60 then some (.aload 9, 2, []) else none) else (bif Nat.blt pc 63 then (bif Nat.beq pc 62 then some (.aload_n 3, 1, []) else none) else (bif Nat.beq pc 63 then some (.invokestatic 57, 3, [1, 116, 2, 293, 9, 3, 0]) else none))) else (bif Nat.blt pc 70 then (bif Nat.blt pc 68 then (bif Nat.beq pc 66 then some (.aload 10, 2, []) else none) else (bif Nat.beq pc 68 then some (.aload 4, 2, []) else none)) else (bif Nat.blt pc 73 then (bif Nat.beq pc 70 then some (.invokestatic 57, 3, [1, 116, 2, 293, 9, 3, 0]) else none) else (bif Nat.beq pc 73 then some (.aload 11, 2, []) else none))))) else (bif Nat.blt pc 89 then (bif Nat.blt pc 82 then (bif Nat.blt pc 77 then (bif Nat.beq pc 75 then some (.aload 5, 2, []) else none) else (bif Nat.blt pc 80 then (bif Nat.beq pc 77 then some (.invokestatic 57, 3, [1, 116, 2, 293, 9, 3, 0]) else none) else (bif Nat.beq pc 80 then some (.aload 12, 2, []) else none))) else (bif Nat.blt pc 84 then (bif Nat.beq pc 82 then some (.aload 6, 2, []) else none) else (bif Nat.blt pc 87 then (bif Nat.beq pc 84 then some (.invokestatic 57, 3, [1, 116, 2, 293, 9, 3, 0]) else none) else (bif Nat.beq pc 87 then some (.aload 13, 2, []) else none)))) else (bif Nat.blt pc 96 then (bif Nat.blt pc 91 then (bif Nat.beq pc 89 then some (.aload 7, 2, []) else none) else (bif Nat.blt pc 94 then (bif Nat.beq pc 91 then some (.invokestatic 57, 3, [1, 116, 2, 293, 9, 3, 0]) else none) else (bif Nat.beq pc 94 then some (.iload 17, 2, []) else none))) else (bif Nat.blt pc 101 then (bif Nat.blt pc 99 then (bif Nat.beq pc 96 then some (.ifCond .le 9, 3, [105]) else none) else (bif Nat.beq pc 99 then some (.aload 12, 2, []) else none)) else (bif Nat.blt pc 102 then (bif Nat.beq pc 101 then some (.iconst 0, 1, []) else none) else (bif Nat.beq pc 102 then some (.iload 17, 2, []) else none))))))) else (bif Nat.blt pc 151 then (bif Nat.blt pc 128 then (bif Nat.blt pc 117 then (bif Nat.blt pc 110 then (bif Nat.blt pc 105 then (bif Nat.beq pc 104 then some (.iastore, 1, []) else none) else (bif Nat.blt pc 107 then (bif Nat.beq pc 105 then some (.iload 17, 2, []) else none) else (bif Nat.beq pc 107 then some (.ifCond .le 10, 3, [117]) else none))) else (bif Nat.blt pc 112 then (bif Nat.beq pc 110 then some (.aload 8, 2, []) else none) else (bif Nat.blt pc 114 then (bif Nat.beq pc 112 then some (.aload 13, 2, []) else none) else (bif Nat.beq pc 114 then some (.invokestatic 99, 3, [1, 115, 2, 498, 9, 3, 0]) else none)))) else (bif Nat.blt pc 121 then (bif Nat.blt pc 118 then (bif Nat.beq pc 117 then some (.iconst 1, 1, []) else none) else (bif Nat.blt pc 119 then (bif Nat.beq pc 118 then some (.iload_n 1, 1, []) else none) else (bif Nat.beq pc 119 then some (.bipush 30, 2, []) else none))) else (bif Nat.blt pc 125 then (bif Nat.blt pc 124 then (bif Nat.beq pc 121 then some (.invokestatic 102, 3, [1, 102, 2, 287, 9, 2, 1]) else none) else (bif Nat.beq pc 124 then some (.iadd, 1, []) else none)) else (bif Nat.blt pc 127 then (bif Nat.beq pc 125 then some (.istore 18, 2, []) else none) else (bif Nat.beq pc 127 then some (.iconst 0, 1, []) else none))))) else (bif Nat.blt pc 137 then (bif Nat.blt pc 133 then (bif Nat.blt pc 130 then (bif Nat.beq pc 128 then some (.istore 19, 2, []) else none) else (bif Nat.blt pc 131 then (bif Nat.beq pc 130 then some (.iconst 0, 1, []) else none) else (bif Nat.beq pc 131 then some (.istore 20, 2, []) else none))) else (bif Nat.blt pc 135 then (bif Nat.beq pc 133 then some (.aload 13, 2, []) else none) else (bif Nat.blt pc 136 then (bif Nat.beq pc 135 then some (.iconst 3, 1, []) else none) else (bif Nat.beq pc 136 then some (.iaload, 1, []) else none)))) else (bif Nat.blt pc 141 then (bif Nat.blt pc 139 then (bif Nat.beq pc 137 then some (.aload 13, 2, []) else none) else (bif Nat.blt pc 140 then (bif Nat.beq pc 139 then some (.iconst 1, 1, []) else none) else (bif Nat.beq pc 140 then some (.iaload, 1, []) else none))) else (bif Nat.blt pc 146 then (bif Nat.blt pc 144 then (bif Nat.beq pc 141 then some (.if_icmp .lt 15, 3, [156]) else none) else (bif Nat.beq pc 144 then some (.iload 17, 2, []) else none)) else (bif Nat.blt pc 149 then (bif Nat.beq pc 146 then some (.ifCond .ne 140, 3, [286]) else none) else (bif Nat.beq pc 149 then some (.iload 19, 2, []) else none)))))) else (bif Nat.blt pc 179 then (bif Nat.blt pc 164 then (bif Nat.blt pc 158 then (bif Nat.blt pc 153 then (bif Nat.beq pc 151 then some (.iload 18, 2, []) else none) else (bif Nat.blt pc 156 then (bif Nat.beq pc 153 then some (.if_icmp .ge 133, 3, [286]) else none) else (bif Nat.beq pc 156 then some (.iload 20, 2, []) else none))) else (bif Nat.blt pc 160 then (bif Nat.beq pc 158 then some (.aload 8, 2, []) else none) else (bif Nat.blt pc 162 then (bif Nat.beq pc 160 then some (.aload 9, 2, []) else none) else (bif Nat.beq pc 162 then some (.aload 10, 2, []) else none)))) else (bif Nat.blt pc 170 then (bif Nat.blt pc 166 then (bif Nat.beq pc 164 then some (.aload 11, 2, []) else none) else (bif Nat.blt pc 168 then (bif Nat.beq pc 166 then some (.aload 12, 2, []) else none) else (bif Nat.beq pc 168 then some (.aload 13, 2, []) else none))) else (bif Nat.blt pc 174 then (bif Nat.blt pc 173 then (bif Nat.beq pc 170 then some (.invokestatic 105, 3, [1, 114, 6, 501, 9, 9, 1]) else none) else (bif Nat.beq pc 173 then some (.iadd, 1, []) else none)) else (bif Nat.blt pc 176 then (bif Nat.beq pc 174 then some (.istore 20, 2, []) else none) else (bif Nat.beq pc 176 then some (.iinc 19 1, 3, []) else none))))) else (bif Nat.blt pc 192 then (bif Nat.blt pc 186 then (bif Nat.blt pc 181 then (bif Nat.beq pc 179 then some (.iload 17, 2, []) else none) else (bif Nat.blt pc 184 then (bif Nat.beq pc 181 then some (.ifCond .ne 62, 3, [243]) else none) else (bif Nat.beq pc 184 then some (.iload 19, 2, []) else none))) else (bif Nat.blt pc 188 then (bif Nat.beq pc 186 then some (.iload 18, 2, []) else none) else (bif Nat.blt pc 191 then (bif Nat.beq pc 188 then some (.if_icmp .ne 55, 3, [243]) else none) else (bif Nat.beq pc 191 then some (.aload_n 0, 1, []) else none)))) else (bif Nat.blt pc 198 then (bif Nat.blt pc 194 then (bif Nat.beq pc 192 then some (.iload 18, 2, []) else none) else (bif Nat.blt pc 195 then (bif Nat.beq pc 194 then some (.iconst 0, 1, []) else none) else (bif Nat.beq pc 195 then some (.invokevirtual 109, 3, [0, 88, 2, 510, 3, 3, 1]) else none))) else (bif Nat.blt pc 203 then (bif Nat.blt pc 200 then (bif Nat.beq pc 198 then some (.iload 20, 2, []) else none) else (bif Nat.beq pc 200 then some (.if_icmp .ne 41, 3, [241]) else none)) else (bif Nat.blt pc 204 then (bif Nat.beq pc 203 then some (.aload_n 0, 1, []) else none) else (bif Nat.beq pc 204 then some (.iload 18, 2, []) else none)))))))) else (bif Nat.blt pc 295 then (bif Nat.blt pc 248 then (bif Nat.blt pc 226 then (bif Nat.blt pc 216 then (bif Nat.blt pc 212 then (bif Nat.blt pc 207 then (bif Nat.beq pc 206 then some (.iconst 1, 1, []) else none) else (bif Nat.blt pc 210 then (bif Nat.beq pc 207 then some (.invokevirtual 109, 3, [0, 88, 2, 510, 3, 3, 1]) else none) else (bif Nat.beq pc 210 then some (.aload 13, 2, []) else none))) else (bif Nat.blt pc 213 then (bif Nat.beq pc 212 then some (.iconst 4, 1, []) else none) else (bif Nat.blt pc 214 then (bif Nat.beq pc 213 then some (.iaload, 1, []) else none) else (bif Nat.beq pc 214 then some (.aload 7, 2, []) else none)))) else (bif Nat.blt pc 219 then (bif Nat.blt pc 217 then (bif Nat.beq pc 216 then some (.iconst 4, 1, []) else none) else (bif Nat.blt pc 218 then (bif Nat.beq pc 217 then some (.iaload, 1, []) else none) else (bif Nat.beq pc 218 then some (.isub, 1, []) else none))) else (bif Nat.blt pc 223 then (bif Nat.blt pc 222 then (bif Nat.beq pc 219 then some (.if_icmp .ne 22, 3, [241]) else none) else (bif Nat.beq pc 222 then some (.aload_n 0, 1, []) else none)) else (bif Nat.blt pc 225 then (bif Nat.beq pc 223 then some (.iload 18, 2, []) else none) else (bif Nat.beq pc 225 then some (.iconst 2, 1, []) else none))))) else (bif Nat.blt pc 236 then (bif Nat.blt pc 232 then (bif Nat.blt pc 229 then (bif Nat.beq pc 226 then some (.invokevirtual 109, 3, [0, 88, 2, 510, 3, 3, 1]) else none) else (bif Nat.blt pc 231 then (bif Nat.beq pc 229 then some (.aload 13, 2, []) else none) else (bif Nat.beq pc 231 then some (.iconst 2, 1, []) else none))) else (bif Nat.blt pc 233 then (bif Nat.beq pc 232 then some (.iaload, 1, []) else none) else (bif Nat.blt pc 235 then (bif Nat.beq pc 233 then some (.aload 13, 2, []) else none) else (bif Nat.beq pc 235 then some (.iconst 3, 1, []) else none)))) else (bif Nat.blt pc 241 then (bif Nat.blt pc 237 then (bif Nat.beq pc 236 then some (.iaload, 1, []) else none) else (bif Nat.blt pc 238 then (bif Nat.beq pc 237 then some (.isub, 1, []) else none) else (bif Nat.beq pc 238 then some (.if_icmp .eq 5, 3, [243]) else none))) else (bif Nat.blt pc 243 then (bif Nat.blt pc 242 then (bif Nat.beq pc 241 then some (.iconst 0, 1, []) else none) else (bif Nat.beq pc 242 then some (.ireturn, 1, [1]) else none)) else (bif Nat.blt pc 245 then (bif Nat.beq pc 243 then some (.iload 17, 2, []) else none) else (bif Nat.beq pc 245 then some (.ifCond .ne (-112), 3, [133]) else none)))))) else (bif Nat.blt pc 268 then (bif Nat.blt pc 256 then (bif Nat.blt pc 252 then (bif Nat.blt pc 250 then (bif Nat.beq pc 248 then some (.aload 13, 2, []) else none) else (bif Nat.blt pc 251 then (bif Nat.beq pc 250 then some (.iconst 3, 1, []) else none) else (bif Nat.beq pc 251 then some (.iaload, 1, []) else none))) else (bif Nat.blt pc 254 then (bif Nat.beq pc 252 then some (.aload 13, 2, []) else none) else (bif Nat.blt pc 255 then (bif Nat.beq pc 254 then some (.iconst 1, 1, []) else none) else (bif Nat.beq pc 255 then some (.iaload, 1, []) else none)))) else (bif Nat.blt pc 263 then (bif Nat.blt pc 259 then (bif Nat.beq pc 256 then some (.if_icmp .ne (-123), 3, [133]) else none) else (bif Nat.blt pc 261 then (bif Nat.beq pc 259 then some (.iload 20, 2, []) else none) else (bif Nat.beq pc 261 then some (.aload 7, 2, []) else none))) else (bif Nat.blt pc 265 then (bif Nat.blt pc 264 then (bif Nat.beq pc 263 then some (.iconst 1, 1, []) else none) else (bif Nat.beq pc 264 then some (.iaload, 1, []) else none)) else (bif Nat.blt pc 267 then (bif Nat.beq pc 265 then some (.aload 7, 2, []) else none) else (bif Nat.beq pc 267 then some (.iconst 3, 1, []) else none))))) else (bif Nat.blt pc 279 then (bif Nat.blt pc 273 then (bif Nat.blt pc 269 then (bif Nat.beq pc 268 then some (.iaload, 1, []) else none) else (bif Nat.blt pc 270 then (bif Nat.beq pc 269 then some (.isub, 1, []) else none) else (bif Nat.beq pc 270 then some (.if_icmp .ne (-137), 3, [133]) else none))) else (bif Nat.blt pc 275 then (bif Nat.beq pc 273 then some (.iload 15, 2, []) else none) else (bif Nat.blt pc 276 then (bif Nat.beq pc 275 then some (.iconst (-1), 1, []) else none) else (bif Nat.beq pc 276 then some (.if_icmp .ne (-143), 3, [133]) else none)))) else (bif Nat.blt pc 286 then (bif Nat.blt pc 281 then (bif Nat.beq pc 279 then some (.iload 19, 2, []) else none) else (bif Nat.blt pc 283 then (bif Nat.beq pc 281 then some (.istore 15, 2, []) else none) else (bif Nat.beq pc 283 then some (.goto (-150), 3, [133]) else none))) else (bif Nat.blt pc 291 then (bif Nat.blt pc 288 then (bif Nat.beq pc 286 then some (.iload 17, 2, []) else none) else (bif Nat.beq pc 288 then some (.ifCond .ne 36, 3, [324]) else none)) else (bif Nat.blt pc 292 then (bif Nat.beq pc 291 then some (.aload_n 0, 1, []) else none) else (bif Nat.beq pc 292 then some (.invokevirtual 112, 3, [0, 89, 0, 580, 3, 1, 1]) else none))))))) else (bif Nat.blt pc 345 then (bif Nat.blt pc 317 then (bif Nat.blt pc 303 then (bif Nat.blt pc 299 then (bif Nat.blt pc 297 then (bif Nat.beq pc 295 then some (.aload 7, 2, []) else none) else (bif Nat.blt pc 298 then (bif Nat.beq pc 297 then some (.iconst 3, 1, []) else none) else (bif Nat.beq pc 298 then some (.iaload, 1, []) else none))) else (bif Nat.blt pc 301 then (bif Nat.beq pc 299 then some (.aload 7, 2, []) else none) else (bif Nat.blt pc 302 then (bif Nat.beq pc 301 then some (.iconst 1, 1, []) else none) else (bif Nat.beq pc 302 then some (.iaload, 1, []) else none)))) else (bif Nat.blt pc 310 then (bif Nat.blt pc 306 then (bif Nat.beq pc 303 then some (.if_icmp .ne 7, 3, [310]) else none) else (bif Nat.blt pc 307 then (bif Nat.beq pc 306 then some (.iconst 0, 1, []) else none) else (bif Nat.beq pc 307 then some (.goto 5, 3, [312]) else none))) else (bif Nat.blt pc 315 then (bif Nat.blt pc 312 then (bif Nat.beq pc 310 then some (.iload 15, 2, []) else none) else (bif Nat.beq pc 312 then some (.if_icmp .eq 5, 3, [317]) else none)) else (bif Nat.blt pc 316 then (bif Nat.beq pc 315 then some (.iconst 0, 1, []) else none) else (bif Nat.beq pc 316 then some (.ireturn, 1, [1]) else none))))) else (bif Nat.blt pc 331 then (bif Nat.blt pc 324 then (bif Nat.blt pc 319 then (bif Nat.beq pc 317 then some (.ldc 115, 2, [0, 1048576, 589]) else none) else (bif Nat.blt pc 321 then (bif Nat.beq pc 319 then some (.istore 15, 2, []) else none) else (bif Nat.beq pc 321 then some (.goto 32, 3, [353]) else none))) else (bif Nat.blt pc 326 then (bif Nat.beq pc 324 then some (.iload 19, 2, []) else none) else (bif Nat.blt pc 328 then (bif Nat.beq pc 326 then some (.iload 15, 2, []) else none) else (bif Nat.beq pc 328 then some (.if_icmp .lt 6, 3, [334]) else none)))) else (bif Nat.blt pc 338 then (bif Nat.blt pc 334 then (bif Nat.beq pc 331 then some (.goto 22, 3, [353]) else none) else (bif Nat.blt pc 336 then (bif Nat.beq pc 334 then some (.iload 17, 2, []) else none) else (bif Nat.beq pc 336 then some (.istore 14, 2, []) else none))) else (bif Nat.blt pc 342 then (bif Nat.blt pc 340 then (bif Nat.beq pc 338 then some (.iload 19, 2, []) else none) else (bif Nat.beq pc 340 then some (.istore 15, 2, []) else none)) else (bif Nat.blt pc 344 then (bif Nat.beq pc 342 then some (.aload 13, 2, []) else none) else (bif Nat.beq pc 344 then some (.iconst 4, 1, []) else none)))))) else (bif Nat.blt pc 369 then (bif Nat.blt pc 353 then (bif Nat.blt pc 349 then (bif Nat.blt pc 346 then (bif Nat.beq pc 345 then some (.iaload, 1, []) else none) else (bif Nat.blt pc 348 then (bif Nat.beq pc 346 then some (.aload 7, 2, []) else none) else (bif Nat.beq pc 348 then some (.iconst 4, 1, []) else none))) else (bif Nat.blt pc 350 then (bif Nat.beq pc 349 then some (.iaload, 1, []) else none) else (bif Nat.blt pc 351 then (bif Nat.beq pc 350 then some (.isub, 1, []) else none) else (bif Nat.beq pc 351 then some (.istore 16, 2, []) else none)))) else (bif Nat.blt pc 360 then (bif Nat.blt pc 356 then (bif Nat.beq pc 353 then some (.iinc 17 1, 3, []) else none) else (bif Nat.blt pc 359 then (bif Nat.beq pc 356 then some (.goto (-309), 3, [47]) else none) else (bif Nat.beq pc 359 then some (.aload_n 0, 1, []) else none))) else (bif Nat.blt pc 364 then (bif Nat.blt pc 361 then (bif Nat.beq pc 360 then some (.iconst 0, 1, []) else none) else (bif Nat.beq pc 361 then some (.invokevirtual 116, 3, [0, 90, 1, 590, 3, 2, 1]) else none)) else (bif Nat.blt pc 366 then (bif Nat.beq pc 364 then some (.iload 14, 2, []) else none) else (bif Nat.beq pc 366 then some (.if_icmp .ne 27, 3, [393]) else none))))) else (bif Nat.blt pc 381 then (bif Nat.blt pc 374 then (bif Nat.blt pc 370 then (bif Nat.beq pc 369 then some (.aload_n 0, 1, []) else none) else (bif Nat.blt pc 371 then (bif Nat.beq pc 370 then some (.iconst 1, 1, []) else none) else (bif Nat.beq pc 371 then some (.invokevirtual 116, 3, [0, 90, 1, 590, 3, 2, 1]) else none))) else (bif Nat.blt pc 379 then (bif Nat.blt pc 376 then (bif Nat.beq pc 374 then some (.iload 15, 2, []) else none) else (bif Nat.beq pc 376 then some (.if_icmp .ne 17, 3, [393]) else none)) else (bif Nat.blt pc 380 then (bif Nat.beq pc 379 then some (.aload_n 0, 1, []) else none) else (bif Nat.beq pc 380 then some (.iconst 2, 1, []) else none)))) else (bif Nat.blt pc 389 then (bif Nat.blt pc 384 then (bif Nat.beq pc 381 then some (.invokevirtual 116, 3, [0, 90, 1, 590, 3, 2, 1]) else none) else (bif Nat.blt pc 386 then (bif Nat.beq pc 384 then some (.iload 16, 2, []) else none) else (bif Nat.beq pc 386 then some (.if_icmp .ne 7, 3, [393]) else none))) else (bif Nat.blt pc 393 then (bif Nat.blt pc 390 then (bif Nat.beq pc 389 then some (.iconst 1, 1, []) else none) else (bif Nat.beq pc 390 then some (.goto 4, 3, [394]) else none)) else (bif Nat.blt pc 394 then (bif Nat.beq pc 393 then some (.iconst 0, 1, []) else none) else (bif Nat.beq pc 394 then some (.ireturn, 1, [1]) else none))))))))
/-- L_line -/
def I_L_line (pc : Nat) : Option IE := bif Nat.blt pc 162 then (bif Nat.blt pc 85 then (bif Nat.blt pc 41 then (bif Nat.blt pc 20 then (bif Nat.blt pc 9 then (bif Nat.blt pc 4 then (bif Nat.blt pc 2 then (bif Nat.beq pc 0 then some (.bipush 8, 2, []) else none) else (bif Nat.blt pc 3 then (bif Nat.beq pc 2 then some (.iload_n 1, 1, []) else none) else (bif Nat.beq pc 3 then some (.imul, 1, []) else none))) else (bif Nat.blt pc 5 then (bif Nat.beq pc 4 then some (.istore_n 3, 1, []) else none) else (bif Nat.blt pc 6 then (bif Nat.beq pc 5 then some (.iload_n 1, 1, []) else none) else (bif Nat.beq pc 6 then some (.ifCond .le 15, 3, [21]) else none)))) else (bif Nat.blt pc 15 then (bif Nat.blt pc 10 then (bif Nat.beq pc 9 then some (.aload_n 0, 1, []) else none) else (bif Nat.blt pc 12 then (bif Nat.beq pc 10 then some (.bipush 59, 2, []) else none) else (bif Nat.beq pc 12 then some (.invokevirtual 119, 3, [0, 71, 1, 615, 3, 2, 1]) else none))) else (bif Nat.blt pc 16 then (bif Nat.beq pc 15 then some (.iconst 1, 1, []) else none) else (bif Nat.blt pc 19 then (bif Nat.beq pc 16 then some (.if_icmp .ge 5, 3, [21]) else none) else (bif Nat.beq pc 19 then some (.iconst 0, 1, []) else none))))) else (bif Nat.blt pc 28 then (bif Nat.blt pc 23 then (bif Nat.blt pc 21 then (bif Nat.beq pc 20 then some (.ireturn, 1, [1]) else none) else (bif Nat.blt pc 22 then (bif Nat.beq pc 21 then some (.aload_n 2, 1, []) else none) else (bif Nat.beq pc 22 then some (.iload_n 3, 1, []) else none))) else (bif Nat.blt pc 24 then (bif Nat.beq pc 23 then some (.iaload, 1, []) else none) else (bif Nat.blt pc 25 then (bif Nat.beq pc 24 then some (.iconst 4, 1, []) else none) else (bif Nat.beq pc 25 then some (.if_icmp .ne 81, 3, [106]) else none)))) else (bif Nat.blt pc 34 then (bif Nat.blt pc 29 then (bif Nat.beq pc 28 then some (.aload_n 0, 1, []) else none) else (bif Nat.blt pc 31 then (bif Nat.beq pc 29 then some (.bipush 91, 2, []) else none) else (bif Nat.beq pc 31 then some (.invokevirtual 119, 3, [0, 71, 1, 615, 3, 2, 1]) else none))) else (bif Nat.blt pc 38 then (bif Nat.blt pc 37 then (bif Nat.beq pc 34 then some (.ifCond .le 70, 3, [104]) else none) else (bif Nat.beq pc 37 then some (.aload_n 0, 1, []) else none)) else (bif Nat.blt pc 40 then (bif Nat.beq pc 38 then some (.bipush 97, 2, []) else none) else (bif Nat.beq pc 40 then some (.aload_n 2, 1, []) else none)))))) else (bif Nat.blt pc 58 then (bif Nat.blt pc 49 then (bif Nat.blt pc 44 then (bif Nat.blt pc 42 then (bif Nat.beq pc 41 then some (.iload_n 3, 1, []) else none) else (bif Nat.blt pc 43 then (bif Nat.beq pc 42 then some (.iconst 2, 1, []) else none) else (bif Nat.beq pc 43 then some (.iadd, 1, []) else none))) else (bif Nat.blt pc 45 then (bif Nat.beq pc 44 then some (.iaload, 1, []) else none) else (bif Nat.blt pc 46 then (bif Nat.beq pc 45 then some (.iadd, 1, []) else none) else (bif Nat.beq pc 46 then some (.invokevirtual 119, 3, [0, 71, 1, 615, 3, 2, 1]) else none)))) else (bif Nat.blt pc 55 then (bif Nat.blt pc 52 then (bif Nat.beq pc 49 then some (.ifCond .le 55, 3, [104]) else none) else (bif Nat.blt pc 53 then (bif Nat.beq pc 52 then some (.aload_n 0, 1, []) else none) else (bif Nat.beq pc 53 then some (.bipush 48, 2, []) else none))) else (bif Nat.blt pc 56 then (bif Nat.beq pc 55 then some (.aload_n 2, 1, []) else none) else (bif Nat.blt pc 57 then (bif Nat.beq pc 56 then some (.iload_n 3, 1, []) else none) else (bif Nat.beq pc 57 then some (.iconst 4, 1, []) else none))))) else (bif Nat.blt pc 68 then (bif Nat.blt pc 61 then (bif Nat.blt pc 59 then (bif Nat.beq pc 58 then some (.iadd, 1, []) else none) else (bif Nat.blt pc 60 then (bif Nat.beq pc 59 then some (.iaload, 1, []) else none) else (bif Nat.beq pc 60 then some (.iadd, 1, []) else none))) else (bif Nat.blt pc 64 then (bif Nat.beq pc 61 then some (.invokevirtual 119, 3, [0, 71, 1, 615, 3, 2, 1]) else none) else (bif Nat.blt pc 67 then (bif Nat.beq pc 64 then some (.ifCond .le 40, 3, [104]) else none) else (bif Nat.beq pc 67 then some (.aload_n 0, 1, []) else none)))) else (bif Nat.blt pc 76 then (bif Nat.blt pc 70 then (bif Nat.beq pc 68 then some (.bipush 93, 2, []) else none) else (bif Nat.blt pc 73 then (bif Nat.beq pc 70 then some (.invokevirtual 119, 3, [0, 71, 1, 615, 3, 2, 1]) else none) else (bif Nat.beq pc 73 then some (.ifCond .le 31, 3, [104]) else none))) else (bif Nat.blt pc 79 then (bif Nat.blt pc 77 then (bif Nat.beq pc 76 then some (.aload_n 0, 1, []) else none) else (bif Nat.beq pc 77 then some (.bipush 61, 2, []) else none)) else (bif Nat.blt pc 82 then (bif Nat.beq pc 79 then some (.invokevirtual 119, 3, [0, 71, 1, 615, 3, 2, 1]) else none) else (bif Nat.beq pc 82 then some (.ifCond .le 22, 3, [104]) else none))))))) else (bif Nat.blt pc 122 then (bif Nat.blt pc 104 then (bif Nat.blt pc 92 then (bif Nat.blt pc 89 then (bif Nat.blt pc 86 then (bif Nat.beq pc 85 then some (.aload_n 0, 1, []) else none) else (bif Nat.blt pc 88 then (bif Nat.beq pc 86 then some (.bipush 97, 2, []) else none) else (bif Nat.beq pc 88 then some (.aload_n 2, 1, []) else none))) else (bif Nat.blt pc 90 then (bif Nat.beq pc 89 then some (.iload_n 3, 1, []) else none) else (bif Nat.blt pc 91 then (bif Nat.beq pc 90 then some (.iconst 3, 1, []) else none) else (bif Nat.beq pc 91 then some (.iadd, 1, []) else none)))) else (bif Nat.blt pc 97 then (bif Nat.blt pc 93 then (bif Nat.beq pc 92 then some (.iaload, 1, []) else none) else (bif Nat.blt pc 94 then (bif Nat.beq pc 93 then some (.iadd, 1, []) else none) else (bif Nat.beq pc 94 then some (.invokevirtual 119, 3, [0, 71, 1, 615, 3, 2, 1]) else none))) else (bif Nat.blt pc 100 then (bif Nat.beq pc 97 then some (.ifCond .le 7, 3, [104]) else none) else (bif Nat.blt pc 101 then (bif Nat.beq pc 100 then some (.iconst 1, 1, []) else none) else (bif Nat.beq pc 101 then some (.goto 4, 3, [105]) else none))))) else (bif Nat.blt pc 111 then (bif Nat.blt pc 107 then (bif Nat.blt pc 105 then (bif Nat.beq pc 104 then some (.iconst 0, 1, []) else none) else (bif Nat.blt pc 106 then (bif Nat.beq pc 105 then some (.ireturn, 1, [1]) else none) else (bif Nat.beq pc 106 then some (.aload_n 0, 1, []) else none))) else (bif Nat.blt pc 109 then (bif Nat.beq pc 107 then some (.bipush 97, 2, []) else none) else (bif Nat.blt pc 110 then (bif Nat.beq pc 109 then some (.aload_n 2, 1, []) else none) else (bif Nat.beq pc 110 then some (.iload_n 3, 1, []) else none)))) else (bif Nat.blt pc 114 then (bif Nat.blt pc 112 then (bif Nat.beq pc 111 then some (.iconst 1, 1, []) else none) else (bif Nat.blt pc 113 then (bif Nat.beq pc 112 then some (.iadd, 1, []) else none) else (bif Nat.beq pc 113 then some (.iaload, 1, []) else none))) else (bif Nat.blt pc 118 then (bif Nat.blt pc 115 then (bif Nat.beq pc 114 then some (.iadd, 1, []) else none) else (bif Nat.beq pc 115 then some (.invokevirtual 119, 3, [0, 71, 1, 615, 3, 2, 1]) else none)) else (bif Nat.blt pc 119 then (bif Nat.beq pc 118 then some (.iconst 1, 1, []) else none) else (bif Nat.beq pc 119 then some (.if_icmp .lt 13, 3, [132]) else none)))))) else (bif Nat.blt pc 141 then (bif Nat.blt pc 133 then (bif Nat.blt pc 128 then (bif Nat.blt pc 123 then (bif Nat.beq pc 122 then some (.aload_n 0, 1, []) else none) else (bif Nat.blt pc 125 then (bif Nat.beq pc 123 then some (.bipush 61, 2, []) else none) else (bif Nat.beq pc 125 then some (.invokevirtual 119, 3, [0, 71, 1, 615, 3, 2, 1]) else none))) else (bif Nat.blt pc 129 then (bif Nat.beq pc 128 then some (.iconst 1, 1, []) else none) else (bif Nat.blt pc 132 then (bif Nat.beq pc 129 then some (.if_icmp .ge 5, 3, [134]) else none) else (bif Nat.beq pc 132 then some (.iconst 0, 1, []) else none)))) else (bif Nat.blt pc 136 then (bif Nat.blt pc 134 then (bif Nat.beq pc 133 then some (.ireturn, 1, [1]) else none) else (bif Nat.blt pc 135 then (bif Nat.beq pc 134 then some (.aload_n 2, 1, []) else none) else (bif Nat.beq pc 135 then some (.iload_n 3, 1, []) else none))) else (bif Nat.blt pc 137 then (bif Nat.beq pc 136 then some (.iaload, 1, []) else none) else (bif Nat.blt pc 138 then (bif Nat.beq pc 137 then some (.iconst 3, 1, []) else none) else (bif Nat.beq pc 138 then some (.if_icmp .ne 57, 3, [195]) else none))))) else (bif Nat.blt pc 153 then (bif Nat.blt pc 147 then (bif Nat.blt pc 142 then (bif Nat.beq pc 141 then some (.aload_n 0, 1, []) else none) else (bif Nat.blt pc 144 then (bif Nat.beq pc 142 then some (.bipush 91, 2, []) else none) else (bif Nat.beq pc 144 then some (.invokevirtual 119, 3, [0, 71, 1, 615, 3, 2, 1]) else none))) else (bif Nat.blt pc 150 then (bif Nat.beq pc 147 then some (.ifCond .le 46, 3, [193]) else none) else (bif Nat.blt pc 151 then (bif Nat.beq pc 150 then some (.aload_n 0, 1, []) else none) else (bif Nat.beq pc 151 then some (.bipush 97, 2, []) else none)))) else (bif Nat.blt pc 156 then (bif Nat.blt pc 154 then (bif Nat.beq pc 153 then some (.aload_n 2, 1, []) else none) else (bif Nat.blt pc 155 then (bif Nat.beq pc 154 then some (.iload_n 3, 1, []) else none) else (bif Nat.beq pc 155 then some (.iconst 2, 1, []) else none))) else (bif Nat.blt pc 158 then (bif Nat.blt pc 157 then (bif Nat.beq pc 156 then some (.iadd, 1, []) else none) else (bif Nat.beq pc 157 then some (.iaload, 1, []) else none)) else (bif Nat.blt pc 159 then (bif Nat.beq pc 158 then some (.iadd, 1, []) else none) else (bif Nat.beq pc 159 then some (.invokevirtual 119, 3, [0, 71, 1, 615, 3, 2, 1]) else none)))))))) else (bif Nat.blt pc 244 then (bif Nat.blt pc 204 then (bif Nat.blt pc 181 then (bif Nat.blt pc 171 then (bif Nat.blt pc 168 then (bif Nat.blt pc 165 then (bif Nat.beq pc 162 then some (.ifCond .le 31, 3, [193]) else none) else (bif Nat.blt pc 166 then (bif Nat.beq pc 165 then some (.aload_n 0, 1, []) else none) else (bif Nat.beq pc 166 then some (.bipush 48, 2, []) else none))) else (bif Nat.blt pc 169 then (bif Nat.beq pc 168 then some (.aload_n 2, 1, []) else none) else (bif Nat.blt pc 170 then (bif Nat.beq pc 169 then some (.iload_n 3, 1, []) else none) else (bif Nat.beq pc 170 then some (.iconst 4, 1, []) else none)))) else (bif Nat.blt pc 174 then (bif Nat.blt pc 172 then (bif Nat.beq pc 171 then some (.iadd, 1, []) else none) else (bif Nat.blt pc 173 then (bif Nat.beq pc 172 then some (.iaload, 1, []) else none) else (bif Nat.beq pc 173 then some (.iadd, 1, []) else none))) else (bif Nat.blt pc 177 then (bif Nat.beq pc 174 then some (.invokevirtual 119, 3, [0, 71, 1, 615, 3, 2, 1]) else none) else (bif Nat.blt pc 180 then (bif Nat.beq pc 177 then some (.ifCond .le 16, 3, [193]) else none) else (bif Nat.beq pc 180 then some (.aload_n 0, 1, []) else none))))) else (bif Nat.blt pc 194 then (bif Nat.blt pc 189 then (bif Nat.blt pc 183 then (bif Nat.beq pc 181 then some (.bipush 93, 2, []) else none) else (bif Nat.blt pc 186 then (bif Nat.beq pc 183 then some (.invokevirtual 119, 3, [0, 71, 1, 615, 3, 2, 1]) else none) else (bif Nat.beq pc 186 then some (.ifCond .le 7, 3, [193]) else none))) else (bif Nat.blt pc 190 then (bif Nat.beq pc 189 then some (.iconst 1, 1, []) else none) else (bif Nat.blt pc 193 then (bif Nat.beq pc 190 then some (.goto 4, 3, [194]) else none) else (bif Nat.beq pc 193 then some (.iconst 0, 1, []) else none)))) else (bif Nat.blt pc 197 then (bif Nat.blt pc 195 then (bif Nat.beq pc 194 then some (.ireturn, 1, [1]) else none) else (bif Nat.blt pc 196 then (bif Nat.beq pc 195 then some (.aload_n 2, 1, []) else none) else (bif Nat.beq pc 196 then some (.iload_n 3, 1, []) else none))) else (bif Nat.blt pc 201 then (bif Nat.blt pc 198 then (bif Nat.beq pc 197 then some (.iaload, 1, []) else none) else (bif Nat.beq pc 198 then some (.ifCond .le 60, 3, [258]) else none)) else (bif Nat.blt pc 202 then (bif Nat.beq pc 201 then some (.aload_n 0, 1, []) else none) else (bif Nat.beq pc 202 then some (.bipush 97, 2, []) else none)))))) else (bif Nat.blt pc 220 then (bif Nat.blt pc 210 then (bif Nat.blt pc 207 then (bif Nat.blt pc 205 then (bif Nat.beq pc 204 then some (.aload_n 2, 1, []) else none) else (bif Nat.blt pc 206 then (bif Nat.beq pc 205 then some (.iload_n 3, 1, []) else none) else (bif Nat.beq pc 206 then some (.iconst 2, 1, []) else none))) else (bif Nat.blt pc 208 then (bif Nat.beq pc 207 then some (.iadd, 1, []) else none) else (bif Nat.blt pc 209 then (bif Nat.beq pc 208 then some (.iaload, 1, []) else none) else (bif Nat.beq pc 209 then some (.iadd, 1, []) else none)))) else (bif Nat.blt pc 217 then (bif Nat.blt pc 213 then (bif Nat.beq pc 210 then some (.invokevirtual 119, 3, [0, 71, 1, 615, 3, 2, 1]) else none) else (bif Nat.blt pc 216 then (bif Nat.beq pc 213 then some (.ifCond .le 43, 3, [256]) else none) else (bif Nat.beq pc 216 then some (.aload_n 0, 1, []) else none))) else (bif Nat.blt pc 218 then (bif Nat.beq pc 217 then some (.aload_n 2, 1, []) else none) else (bif Nat.blt pc 219 then (bif Nat.beq pc 218 then some (.iload_n 3, 1, []) else none) else (bif Nat.beq pc 219 then some (.iaload, 1, []) else none))))) else (bif Nat.blt pc 234 then (bif Nat.blt pc 226 then (bif Nat.blt pc 221 then (bif Nat.beq pc 220 then some (.iconst 1, 1, []) else none) else (bif Nat.blt pc 224 then (bif Nat.beq pc 221 then some (.if_icmp .ne 8, 3, [229]) else none) else (bif Nat.beq pc 224 then some (.bipush 43, 2, []) else none))) else (bif Nat.blt pc 229 then (bif Nat.beq pc 226 then some (.goto 5, 3, [231]) else none) else (bif Nat.blt pc 231 then (bif Nat.beq pc 229 then some (.bipush 42, 2, []) else none) else (bif Nat.beq pc 231 then some (.invokevirtual 119, 3, [0, 71, 1, 615, 3, 2, 1]) else none)))) else (bif Nat.blt pc 240 then (bif Nat.blt pc 237 then (bif Nat.beq pc 234 then some (.ifCond .le 22, 3, [256]) else none) else (bif Nat.blt pc 238 then (bif Nat.beq pc 237 then some (.aload_n 0, 1, []) else none) else (bif Nat.beq pc 238 then some (.bipush 97, 2, []) else none))) else (bif Nat.blt pc 242 then (bif Nat.blt pc 241 then (bif Nat.beq pc 240 then some (.aload_n 2, 1, []) else none) else (bif Nat.beq pc 241 then some (.iload_n 3, 1, []) else none)) else (bif Nat.blt pc 243 then (bif Nat.beq pc 242 then some (.iconst 3, 1, []) else none) else (bif Nat.beq pc 243 then some (.iadd, 1, []) else none))))))) else (bif Nat.blt pc 287 then (bif Nat.blt pc 262 then (bif Nat.blt pc 256 then (bif Nat.blt pc 249 then (bif Nat.blt pc 245 then (bif Nat.beq pc 244 then some (.iaload, 1, []) else none) else (bif Nat.blt pc 246 then (bif Nat.beq pc 245 then some (.iadd, 1, []) else none) else (bif Nat.beq pc 246 then some (.invokevirtual 119, 3, [0, 71, 1, 615, 3, 2, 1]) else none))) else (bif Nat.blt pc 252 then (bif Nat.beq pc 249 then some (.ifCond .le 7, 3, [256]) else none) else (bif Nat.blt pc 253 then (bif Nat.beq pc 252 then some (.iconst 1, 1, []) else none) else (bif Nat.beq pc 253 then some (.goto 4, 3, [257]) else none)))) else (bif Nat.blt pc 259 then (bif Nat.blt pc 257 then (bif Nat.beq pc 256 then some (.iconst 0, 1, []) else none) else (bif Nat.blt pc 258 then (bif Nat.beq pc 257 then some (.ireturn, 1, [1]) else none) else (bif Nat.beq pc 258 then some (.aload_n 2, 1, []) else none))) else (bif Nat.blt pc 260 then (bif Nat.beq pc 259 then some (.iload_n 3, 1, []) else none) else (bif Nat.blt pc 261 then (bif Nat.beq pc 260 then some (.iconst 4, 1, []) else none) else (bif Nat.beq pc 261 then some (.iadd, 1, []) else none))))) else (bif Nat.blt pc 273 then (bif Nat.blt pc 267 then (bif Nat.blt pc 263 then (bif Nat.beq pc 262 then some (.iaload, 1, []) else none) else (bif Nat.blt pc 265 then (bif Nat.beq pc 263 then some (.istore 4, 2, []) else none) else (bif Nat.beq pc 265 then some (.iload 4, 2, []) else none))) else (bif Nat.blt pc 270 then (bif Nat.beq pc 267 then some (.ifCond .ge 15, 3, [282]) else none) else (bif Nat.blt pc 271 then (bif Nat.beq pc 270 then some (.aload_n 0, 1, []) else none) else (bif Nat.beq pc 271 then some (.bipush 45, 2, []) else none)))) else (bif Nat.blt pc 280 then (bif Nat.blt pc 276 then (bif Nat.beq pc 273 then some (.invokevirtual 119, 3, [0, 71, 1, 615, 3, 2, 1]) else none) else (bif Nat.blt pc 277 then (bif Nat.beq pc 276 then some (.iconst 1, 1, []) else none) else (bif Nat.beq pc 277 then some (.if_icmp .ge 5, 3, [282]) else none))) else (bif Nat.blt pc 282 then (bif Nat.blt pc 281 then (bif Nat.beq pc 280 then some (.iconst 0, 1, []) else none) else (bif Nat.beq pc 281 then some (.ireturn, 1, [1]) else none)) else (bif Nat.blt pc 284 then (bif Nat.beq pc 282 then some (.iload 4, 2, []) else none) else (bif Nat.beq pc 284 then some (.ifCond .ge 8, 3, [292]) else none)))))) else (bif Nat.blt pc 311 then (bif Nat.blt pc 299 then (bif Nat.blt pc 292 then (bif Nat.blt pc 289 then (bif Nat.beq pc 287 then some (.iload 4, 2, []) else none) else (bif Nat.blt pc 290 then (bif Nat.beq pc 289 then some (.ineg, 1, []) else none) else (bif Nat.beq pc 290 then some (.istore 4, 2, []) else none))) else (bif Nat.blt pc 294 then (bif Nat.beq pc 292 then some (.iload 4, 2, []) else none) else (bif Nat.blt pc 296 then (bif Nat.beq pc 294 then some (.bipush 10, 2, []) else none) else (bif Nat.beq pc 296 then some (.if_icmp .lt 18, 3, [314]) else none)))) else (bif Nat.blt pc 304 then (bif Nat.blt pc 300 then (bif Nat.beq pc 299 then some (.aload_n 0, 1, []) else none) else (bif Nat.blt pc 302 then (bif Nat.beq pc 300 then some (.bipush 48, 2, []) else none) else (bif Nat.beq pc 302 then some (.iload 4, 2, []) else none))) else (bif Nat.blt pc 307 then (bif Nat.blt pc 306 then (bif Nat.beq pc 304 then some (.bipush 10, 2, []) else none) else (bif Nat.beq pc 306 then some (.idiv, 1, []) else none)) else (bif Nat.blt pc 308 then (bif Nat.beq pc 307 then some (.iadd, 1, []) else none) else (bif Nat.beq pc 308 then some (.invokevirtual 119, 3, [0, 71, 1, 615, 3, 2, 1]) else none))))) else (bif Nat.blt pc 322 then (bif Nat.blt pc 317 then (bif Nat.blt pc 314 then (bif Nat.beq pc 311 then some (.ifCond .le 22, 3, [333]) else none) else (bif Nat.blt pc 315 then (bif Nat.beq pc 314 then some (.aload_n 0, 1, []) else none) else (bif Nat.beq pc 315 then some (.bipush 48, 2, []) else none))) else (bif Nat.blt pc 319 then (bif Nat.beq pc 317 then some (.iload 4, 2, []) else none) else (bif Nat.blt pc 321 then (bif Nat.beq pc 319 then some (.bipush 10, 2, []) else none) else (bif Nat.beq pc 321 then some (.irem, 1, []) else none)))) else (bif Nat.blt pc 329 then (bif Nat.blt pc 323 then (bif Nat.beq pc 322 then some (.iadd, 1, []) else none) else (bif Nat.blt pc 326 then (bif Nat.beq pc 323 then some (.invokevirtual 119, 3, [0, 71, 1, 615, 3, 2, 1]) else none) else (bif Nat.beq pc 326 then some (.ifCond .le 7, 3, [333]) else none))) else (bif Nat.blt pc 333 then (bif Nat.blt pc 330 then (bif Nat.beq pc 329 then some (.iconst 1, 1, []) else none) else (bif Nat.beq pc 330 then some (.goto 4, 3, [334]) else none)) else (bif Nat.blt pc 334 then (bif Nat.beq pc 333 then some (.iconst 0, 1, []) else none) else (bif Nat.beq pc 334 then some (.ireturn, 1, [1]) else none))))))))
/-- L_load -/
def I_L_load (pc : Nat) : Option IE := bif Nat.blt pc 150 then (bif Nat.blt pc 74 then (bif Nat.blt pc 35 then (bif Nat.blt pc 15 then (bif Nat.blt pc 7 then (bif Nat.blt pc 3 then (bif Nat.blt pc 2 then (bif Nat.beq pc 0 then some (.aload 4, 2, []) else none) else (bif Nat.beq pc 2 then some (.iconst 1, 1, []) else none)) else (bif Nat.blt pc 4 then (bif Nat.beq pc 3 then some (.iconst 4, 1, []) else none) else (bif Nat.blt pc 5 then (bif Nat.beq pc 4 then some (.iload_n 1, 1, []) else none) else (bif Nat.beq pc 5 then some (.bipush 9, 2, []) else none)))) else (bif Nat.blt pc 12 then (bif Nat.blt pc 8 then (bif Nat.beq pc 7 then some (.ishr, 1, []) else none) else (bif Nat.blt pc 9 then (bif Nat.beq pc 8 then some (.iconst 4, 1, []) else none) else (bif Nat.beq pc 9 then some (.invokestatic 102, 3, [1, 102, 2, 287, 9, 2, 1]) else none))) else (bif Nat.blt pc 13 then (bif Nat.beq pc 12 then some (.iadd, 1, []) else none) else (bif Nat.blt pc 14 then (bif Nat.beq pc 13 then some (.iastore, 1, []) else none) else (bif Nat.beq pc 14 then some (.aload_n 0, 1, []) else none))))) else (bif Nat.blt pc 24 then (bif Nat.blt pc 19 then (bif Nat.blt pc 18 then (bif Nat.beq pc 15 then some (.invokevirtual 122, 3, [0, 72, 0, 608, 3, 2, 1]) else none) else (bif Nat.beq pc 18 then some (.pop, 1, []) else none)) else (bif Nat.blt pc 20 then (bif Nat.beq pc 19 then some (.iconst 0, 1, []) else none) else (bif Nat.blt pc 22 then (bif Nat.beq pc 20 then some (.istore 5, 2, []) else none) else (bif Nat.beq pc 22 then some (.iload 5, 2, []) else none)))) else (bif Nat.blt pc 28 then (bif Nat.blt pc 26 then (bif Nat.beq pc 24 then some (.aload 4, 2, []) else none) else (bif Nat.blt pc 27 then (bif Nat.beq pc 26 then some (.iconst 1, 1, []) else none) else (bif Nat.beq pc 27 then some (.iaload, 1, []) else none))) else (bif Nat.blt pc 31 then (bif Nat.beq pc 28 then some (.if_icmp .ge 247, 3, [275]) else none) else (bif Nat.blt pc 33 then (bif Nat.beq pc 31 then some (.bipush 8, 2, []) else none) else (bif Nat.beq pc 33 then some (.iload 5, 2, []) else none)))))) else (bif Nat.blt pc 52 then (bif Nat.blt pc 42 then (bif Nat.blt pc 38 then (bif Nat.blt pc 36 then (bif Nat.beq pc 35 then some (.imul, 1, []) else none) else (bif Nat.beq pc 36 then some (.istore 6, 2, []) else none)) else (bif Nat.blt pc 39 then (bif Nat.beq pc 38 then some (.iload_n 1, 1, []) else none) else (bif Nat.blt pc 41 then (bif Nat.beq pc 39 then some (.iload 5, 2, []) else none) else (bif Nat.beq pc 41 then some (.ishr, 1, []) else none)))) else (bif Nat.blt pc 46 then (bif Nat.blt pc 43 then (bif Nat.beq pc 42 then some (.iconst 3, 1, []) else none) else (bif Nat.blt pc 45 then (bif Nat.beq pc 43 then some (.iload 5, 2, []) else none) else (bif Nat.beq pc 45 then some (.imul, 1, []) else none))) else (bif Nat.blt pc 47 then (bif Nat.beq pc 46 then some (.iadd, 1, []) else none) else (bif Nat.blt pc 49 then (bif Nat.beq pc 47 then some (.bipush 10, 2, []) else none) else (bif Nat.beq pc 49 then some (.invokestatic 102, 3, [1, 102, 2, 287, 9, 2, 1]) else none))))) else (bif Nat.blt pc 63 then (bif Nat.blt pc 57 then (bif Nat.blt pc 54 then (bif Nat.beq pc 52 then some (.istore 7, 2, []) else none) else (bif Nat.blt pc 55 then (bif Nat.beq pc 54 then some (.aload_n 3, 1, []) else none) else (bif Nat.beq pc 55 then some (.iload 6, 2, []) else none))) else (bif Nat.blt pc 59 then (bif Nat.beq pc 57 then some (.iload 7, 2, []) else none) else (bif Nat.blt pc 60 then (bif Nat.beq pc 59 then some (.iconst 2, 1, []) else none) else (bif Nat.beq pc 60 then some (.if_icmp .ge 7, 3, [67]) else none)))) else (bif Nat.blt pc 69 then (bif Nat.blt pc 64 then (bif Nat.beq pc 63 then some (.iconst 0, 1, []) else none) else (bif Nat.blt pc 67 then (bif Nat.beq pc 64 then some (.goto 35, 3, [99]) else none) else (bif Nat.beq pc 67 then some (.iload 7, 2, []) else none))) else (bif Nat.blt pc 70 then (bif Nat.beq pc 69 then some (.iconst 4, 1, []) else none) else (bif Nat.blt pc 73 then (bif Nat.beq pc 70 then some (.if_icmp .ge 7, 3, [77]) else none) else (bif Nat.beq pc 73 then some (.iconst 1, 1, []) else none))))))) else (bif Nat.blt pc 114 then (bif Nat.blt pc 98 then (bif Nat.blt pc 84 then (bif Nat.blt pc 79 then (bif Nat.blt pc 77 then (bif Nat.beq pc 74 then some (.goto 25, 3, [99]) else none) else (bif Nat.beq pc 77 then some (.iload 7, 2, []) else none)) else (bif Nat.blt pc 80 then (bif Nat.beq pc 79 then some (.iconst 4, 1, []) else none) else (bif Nat.blt pc 83 then (bif Nat.beq pc 80 then some (.if_icmp .ne 7, 3, [87]) else none) else (bif Nat.beq pc 83 then some (.iconst 2, 1, []) else none)))) else (bif Nat.blt pc 91 then (bif Nat.blt pc 87 then (bif Nat.beq pc 84 then some (.goto 15, 3, [99]) else none) else (bif Nat.blt pc 89 then (bif Nat.beq pc 87 then some (.iload 7, 2, []) else none) else (bif Nat.beq pc 89 then some (.bipush 7, 2, []) else none))) else (bif Nat.blt pc 94 then (bif Nat.beq pc 91 then some (.if_icmp .ge 7, 3, [98]) else none) else (bif Nat.blt pc 95 then (bif Nat.beq pc 94 then some (.iconst 3, 1, []) else none) else (bif Nat.beq pc 95 then some (.goto 4, 3, [99]) else none))))) else (bif Nat.blt pc 105 then (bif Nat.blt pc 101 then (bif Nat.blt pc 99 then (bif Nat.beq pc 98 then some (.iconst 4, 1, []) else none) else (bif Nat.blt pc 100 then (bif Nat.beq pc 99 then some (.iastore, 1, []) else none) else (bif Nat.beq pc 100 then some (.aload_n 3, 1, []) else none))) else (bif Nat.blt pc 103 then (bif Nat.beq pc 101 then some (.iload 6, 2, []) else none) else (bif Nat.blt pc 104 then (bif Nat.beq pc 103 then some (.iconst 1, 1, []) else none) else (bif Nat.beq pc 104 then some (.iadd, 1, []) else none)))) else (bif Nat.blt pc 109 then (bif Nat.blt pc 106 then (bif Nat.beq pc 105 then some (.aload_n 3, 1, []) else none) else (bif Nat.blt pc 108 then (bif Nat.beq pc 106 then some (.iload 6, 2, []) else none) else (bif Nat.beq pc 108 then some (.iaload, 1, []) else none))) else (bif Nat.blt pc 110 then (bif Nat.beq pc 109 then some (.iconst 4, 1, []) else none) else (bif Nat.blt pc 113 then (bif Nat.beq pc 110 then some (.if_icmp .ne 7, 3, [117]) else none) else (bif Nat.beq pc 113 then some (.iconst (-1), 1, []) else none)))))) else (bif Nat.blt pc 132 then (bif Nat.blt pc 123 then (bif Nat.blt pc 118 then (bif Nat.blt pc 117 then (bif Nat.beq pc 114 then some (.goto 14, 3, [128]) else none) else (bif Nat.beq pc 117 then some (.iload_n 2, 1, []) else none)) else (bif Nat.blt pc 120 then (bif Nat.beq pc 118 then some (.iload 5, 2, []) else none) else (bif Nat.blt pc 121 then (bif Nat.beq pc 120 then some (.ishr, 1, []) else none) else (bif Nat.beq pc 121 then some (.iload 5, 2, []) else none)))) else (bif Nat.blt pc 128 then (bif Nat.blt pc 124 then (bif Nat.beq pc 123 then some (.iadd, 1, []) else none) else (bif Nat.blt pc 125 then (bif Nat.beq pc 124 then some (.iconst 4, 1, []) else none) else (bif Nat.beq pc 125 then some (.invokestatic 102, 3, [1, 102, 2, 287, 9, 2, 1]) else none))) else (bif Nat.blt pc 129 then (bif Nat.beq pc 128 then some (.iastore, 1, []) else none) else (bif Nat.blt pc 130 then (bif Nat.beq pc 129 then some (.aload_n 3, 1, []) else none) else (bif Nat.beq pc 130 then some (.iload 6, 2, []) else none))))) else (bif Nat.blt pc 141 then (bif Nat.blt pc 135 then (bif Nat.blt pc 133 then (bif Nat.beq pc 132 then some (.iconst 2, 1, []) else none) else (bif Nat.blt pc 134 then (bif Nat.beq pc 133 then some (.iadd, 1, []) else none) else (bif Nat.beq pc 134 then some (.aload_n 3, 1, []) else none))) else (bif Nat.blt pc 137 then (bif Nat.beq pc 135 then some (.iload 6, 2, []) else none) else (bif Nat.blt pc 138 then (bif Nat.beq pc 137 then some (.iaload, 1, []) else none) else (bif Nat.beq pc 138 then some (.ifCond .ne 7, 3, [145]) else none)))) else (bif Nat.blt pc 146 then (bif Nat.blt pc 142 then (bif Nat.beq pc 141 then some (.iconst (-1), 1, []) else none) else (bif Nat.blt pc 145 then (bif Nat.beq pc 142 then some (.goto 16, 3, [158]) else none) else (bif Nat.beq pc 145 then some (.iload_n 2, 1, []) else none))) else (bif Nat.blt pc 148 then (bif Nat.beq pc 146 then some (.iload 5, 2, []) else none) else (bif Nat.blt pc 149 then (bif Nat.beq pc 148 then some (.iconst 2, 1, []) else none) else (bif Nat.beq pc 149 then some (.iadd, 1, []) else none)))))))) else (bif Nat.blt pc 218 then (bif Nat.blt pc 186 then (bif Nat.blt pc 165 then (bif Nat.blt pc 158 then (bif Nat.blt pc 153 then (bif Nat.blt pc 151 then (bif Nat.beq pc 150 then some (.ishr, 1, []) else none) else (bif Nat.beq pc 151 then some (.iload 5, 2, []) else none)) else (bif Nat.blt pc 154 then (bif Nat.beq pc 153 then some (.iadd, 1, []) else none) else (bif Nat.blt pc 155 then (bif Nat.beq pc 154 then some (.iconst 4, 1, []) else none) else (bif Nat.beq pc 155 then some (.invokestatic 102, 3, [1, 102, 2, 287, 9, 2, 1]) else none)))) else (bif Nat.blt pc 162 then (bif Nat.blt pc 159 then (bif Nat.beq pc 158 then some (.iastore, 1, []) else none) else (bif Nat.blt pc 160 then (bif Nat.beq pc 159 then some (.aload_n 3, 1, []) else none) else (bif Nat.beq pc 160 then some (.iload 6, 2, []) else none))) else (bif Nat.blt pc 163 then (bif Nat.beq pc 162 then some (.iconst 3, 1, []) else none) else (bif Nat.blt pc 164 then (bif Nat.beq pc 163 then some (.iadd, 1, []) else none) else (bif Nat.beq pc 164 then some (.aload_n 3, 1, []) else none))))) else (bif Nat.blt pc 175 then (bif Nat.blt pc 171 then (bif Nat.blt pc 167 then (bif Nat.beq pc 165 then some (.iload 6, 2, []) else none) else (bif Nat.blt pc 168 then (bif Nat.beq pc 167 then some (.iaload, 1, []) else none) else (bif Nat.beq pc 168 then some (.ifCond .eq 11, 3, [179]) else none))) else (bif Nat.blt pc 172 then (bif Nat.beq pc 171 then some (.aload_n 3, 1, []) else none) else (bif Nat.blt pc 174 then (bif Nat.beq pc 172 then some (.iload 6, 2, []) else none) else (bif Nat.beq pc 174 then some (.iaload, 1, []) else none)))) else (bif Nat.blt pc 180 then (bif Nat.blt pc 176 then (bif Nat.beq pc 175 then some (.iconst 3, 1, []) else none) else (bif Nat.blt pc 179 then (bif Nat.beq pc 176 then some (.if_icmp .ne 7, 3, [183]) else none) else (bif Nat.beq pc 179 then some (.iconst (-1), 1, []) else none))) else (bif Nat.blt pc 183 then (bif Nat.beq pc 180 then some (.goto 16, 3, [196]) else none) else (bif Nat.blt pc 184 then (bif Nat.beq pc 183 then some (.iload_n 2, 1, []) else none) else (bif Nat.beq pc 184 then some (.iload 5, 2, []) else none)))))) else (bif Nat.blt pc 201 then (bif Nat.blt pc 192 then (bif Nat.blt pc 188 then (bif Nat.blt pc 187 then (bif Nat.beq pc 186 then some (.iconst 4, 1, []) else none) else (bif Nat.beq pc 187 then some (.iadd, 1, []) else none)) else (bif Nat.blt pc 189 then (bif Nat.beq pc 188 then some (.ishr, 1, []) else none) else (bif Nat.blt pc 191 then (bif Nat.beq pc 189 then some (.iload 5, 2, []) else none) else (bif Nat.beq pc 191 then some (.iadd, 1, []) else none)))) else (bif Nat.blt pc 197 then (bif Nat.blt pc 193 then (bif Nat.beq pc 192 then some (.iconst 4, 1, []) else none) else (bif Nat.blt pc 196 then (bif Nat.beq pc 193 then some (.invokestatic 102, 3, [1, 102, 2, 287, 9, 2, 1]) else none) else (bif Nat.beq pc 196 then some (.iastore, 1, []) else none))) else (bif Nat.blt pc 198 then (bif Nat.beq pc 197 then some (.aload_n 3, 1, []) else none) else (bif Nat.blt pc 200 then (bif Nat.beq pc 198 then some (.iload 6, 2, []) else none) else (bif Nat.beq pc 200 then some (.iconst 4, 1, []) else none))))) else (bif Nat.blt pc 210 then (bif Nat.blt pc 205 then (bif Nat.blt pc 202 then (bif Nat.beq pc 201 then some (.iadd, 1, []) else none) else (bif Nat.blt pc 203 then (bif Nat.beq pc 202 then some (.aload_n 3, 1, []) else none) else (bif Nat.beq pc 203 then some (.iload 6, 2, []) else none))) else (bif Nat.blt pc 206 then (bif Nat.beq pc 205 then some (.iaload, 1, []) else none) else (bif Nat.blt pc 209 then (bif Nat.beq pc 206 then some (.ifCond .ne 25, 3, [231]) else none) else (bif Nat.beq pc 209 then some (.iconst 4, 1, []) else none)))) else (bif Nat.blt pc 214 then (bif Nat.blt pc 211 then (bif Nat.beq pc 210 then some (.iload_n 1, 1, []) else none) else (bif Nat.blt pc 213 then (bif Nat.beq pc 211 then some (.iload 5, 2, []) else none) else (bif Nat.beq pc 213 then some (.iconst 3, 1, []) else none))) else (bif Nat.blt pc 215 then (bif Nat.beq pc 214 then some (.iadd, 1, []) else none) else (bif Nat.blt pc 216 then (bif Nat.beq pc 215 then some (.ishr, 1, []) else none) else (bif Nat.beq pc 216 then some (.iload 5, 2, []) else none))))))) else (bif Nat.blt pc 256 then (bif Nat.blt pc 236 then (bif Nat.blt pc 227 then (bif Nat.blt pc 221 then (bif Nat.blt pc 219 then (bif Nat.beq pc 218 then some (.iadd, 1, []) else none) else (bif Nat.beq pc 219 then some (.bipush 49, 2, []) else none)) else (bif Nat.blt pc 224 then (bif Nat.beq pc 221 then some (.invokestatic 102, 3, [1, 102, 2, 287, 9, 2, 1]) else none) else (bif Nat.blt pc 226 then (bif Nat.beq pc 224 then some (.bipush 24, 2, []) else none) else (bif Nat.beq pc 226 then some (.isub, 1, []) else none)))) else (bif Nat.blt pc 232 then (bif Nat.blt pc 228 then (bif Nat.beq pc 227 then some (.imul, 1, []) else none) else (bif Nat.blt pc 231 then (bif Nat.beq pc 228 then some (.goto 28, 3, [256]) else none) else (bif Nat.beq pc 231 then some (.aload_n 3, 1, []) else none))) else (bif Nat.blt pc 234 then (bif Nat.beq pc 232 then some (.iload 6, 2, []) else none) else (bif Nat.blt pc 235 then (bif Nat.beq pc 234 then some (.iaload, 1, []) else none) else (bif Nat.beq pc 235 then some (.iconst 3, 1, []) else none))))) else (bif Nat.blt pc 247 then (bif Nat.blt pc 243 then (bif Nat.blt pc 239 then (bif Nat.beq pc 236 then some (.if_icmp .ge 7, 3, [243]) else none) else (bif Nat.blt pc 240 then (bif Nat.beq pc 239 then some (.iconst 0, 1, []) else none) else (bif Nat.beq pc 240 then some (.goto 16, 3, [256]) else none))) else (bif Nat.blt pc 244 then (bif Nat.beq pc 243 then some (.iload_n 1, 1, []) else none) else (bif Nat.blt pc 246 then (bif Nat.beq pc 244 then some (.iload 5, 2, []) else none) else (bif Nat.beq pc 246 then some (.iconst 5, 1, []) else none)))) else (bif Nat.blt pc 251 then (bif Nat.blt pc 248 then (bif Nat.beq pc 247 then some (.iadd, 1, []) else none) else (bif Nat.blt pc 249 then (bif Nat.beq pc 248 then some (.ishr, 1, []) else none) else (bif Nat.beq pc 249 then some (.iload 5, 2, []) else none))) else (bif Nat.blt pc 252 then (bif Nat.beq pc 251 then some (.iadd, 1, []) else none) else (bif Nat.blt pc 253 then (bif Nat.beq pc 252 then some (.iconst 3, 1, []) else none) else (bif Nat.beq pc 253 then some (.invokestatic 102, 3, [1, 102, 2, 287, 9, 2, 1]) else none)))))) else (bif Nat.blt pc 276 then (bif Nat.blt pc 264 then (bif Nat.blt pc 258 then (bif Nat.blt pc 257 then (bif Nat.beq pc 256 then some (.iastore, 1, []) else none) else (bif Nat.beq pc 257 then some (.aload_n 0, 1, []) else none)) else (bif Nat.blt pc 260 then (bif Nat.beq pc 258 then some (.iload 5, 2, []) else none) else (bif Nat.blt pc 261 then (bif Nat.beq pc 260 then some (.aload_n 3, 1, []) else none) else (bif Nat.beq pc 261 then some (.invokestatic 125, 3, [1, 120, 3, 612, 9, 5, 1]) else none)))) else (bif Nat.blt pc 269 then (bif Nat.blt pc 267 then (bif Nat.beq pc 264 then some (.ifCond .ne 5, 3, [269]) else none) else (bif Nat.blt pc 268 then (bif Nat.beq pc 267 then some (.iconst 0, 1, []) else none) else (bif Nat.beq pc 268 then some (.ireturn, 1, [1]) else none))) else (bif Nat.blt pc 272 then (bif Nat.beq pc 269 then some (.iinc 5 1, 3, []) else none) else (bif Nat.blt pc 275 then (bif Nat.beq pc 272 then some (.goto (-250), 3, [22]) else none) else (bif Nat.beq pc 275 then some (.aload_n 3, 1, []) else none))))) else (bif Nat.blt pc 288 then (bif Nat.blt pc 282 then (bif Nat.blt pc 278 then (bif Nat.beq pc 276 then some (.aload 4, 2, []) else none) else (bif Nat.blt pc 281 then (bif Nat.beq pc 278 then some (.invokestatic 99, 3, [1, 115, 2, 498, 9, 3, 0]) else none) else (bif Nat.beq pc 281 then some (.aload_n 0, 1, []) else none))) else (bif Nat.blt pc 285 then (bif Nat.beq pc 282 then some (.invokevirtual 129, 3, [0, 74, 0, 640, 3, 4, 1]) else none) else (bif Nat.blt pc 287 then (bif Nat.beq pc 285 then some (.aload 4, 2, []) else none) else (bif Nat.beq pc 287 then some (.iconst 1, 1, []) else none)))) else (bif Nat.blt pc 293 then (bif Nat.blt pc 289 then (bif Nat.beq pc 288 then some (.iaload, 1, []) else none) else (bif Nat.blt pc 292 then (bif Nat.beq pc 289 then some (.if_icmp .ne 7, 3, [296]) else none) else (bif Nat.beq pc 292 then some (.iconst 1, 1, []) else none))) else (bif Nat.blt pc 296 then (bif Nat.beq pc 293 then some (.goto 4, 3, [297]) else none) else (bif Nat.blt pc 297 then (bif Nat.beq pc 296 then some (.iconst 0, 1, []) else none) else (bif Nat.beq pc 297 then some (.ireturn, 1, [1]) else none))))))))
/-- L_act -/
def I_L_act (pc : Nat) : Option IE := bif Nat.blt pc 181 then (bif Nat.blt pc 95 then (bif Nat.blt pc 43 then (bif Nat.blt pc 21 then (bif Nat.blt pc 9 then (bif Nat.blt pc 5 then (bif Nat.blt pc 1 then (bif Nat.beq pc 0 then some (.iload_n 1, 1, []) else none) else (bif Nat.blt pc 4 then (bif Nat.beq pc 1 then some (.ifCond .ne 14, 3, [15]) else none) else (bif Nat.beq pc 4 then some (.aload_n 0, 1, []) else none))) else (bif Nat.blt pc 6 then (bif Nat.beq pc 5 then some (.iload_n 2, 1, []) else none) else (bif Nat.blt pc 7 then (bif Nat.beq pc 6 then some (.iload_n 3, 1, []) else none) else (bif Nat.beq pc 7 then some (.aload 4, 2, []) else none)))) else (bif Nat.blt pc 15 then (bif Nat.blt pc 11 then (bif Nat.beq pc 9 then some (.aload 9, 2, []) else none) else (bif Nat.blt pc 14 then (bif Nat.beq pc 11 then some (.invokestatic 132, 3, [1, 121, 5, 605, 9, 8, 1]) else none) else (bif Nat.beq pc 14 then some (.ireturn, 1, [1]) else none))) else (bif Nat.blt pc 16 then (bif Nat.beq pc 15 then some (.iload_n 1, 1, []) else none) else (bif Nat.blt pc 18 then (bif Nat.beq pc 16 then some (.bipush 11, 2, []) else none) else (bif Nat.beq pc 18 then some (.if_icmp .ge 78, 3, [96]) else none))))) else (bif Nat.blt pc 30 then (bif Nat.blt pc 24 then (bif Nat.blt pc 22 then (bif Nat.beq pc 21 then some (.iconst 1, 1, []) else none) else (bif Nat.blt pc 23 then (bif Nat.beq pc 22 then some (.iload_n 2, 1, []) else none) else (bif Nat.beq pc 23 then some (.iload_n 1, 1, []) else none))) else (bif Nat.blt pc 25 then (bif Nat.beq pc 24 then some (.iconst 1, 1, []) else none) else (bif Nat.blt pc 28 then (bif Nat.beq pc 25 then some (.if_icmp .ne 8, 3, [33]) else none) else (bif Nat.beq pc 28 then some (.bipush 20, 2, []) else none)))) else (bif Nat.blt pc 37 then (bif Nat.blt pc 33 then (bif Nat.beq pc 30 then some (.goto 4, 3, [34]) else none) else (bif Nat.blt pc 34 then (bif Nat.beq pc 33 then some (.iconst 3, 1, []) else none) else (bif Nat.beq pc 34 then some (.invokestatic 102, 3, [1, 102, 2, 287, 9, 2, 1]) else none))) else (bif Nat.blt pc 40 then (bif Nat.blt pc 38 then (bif Nat.beq pc 37 then some (.iadd, 1, []) else none) else (bif Nat.beq pc 38 then some (.istore 10, 2, []) else none)) else (bif Nat.blt pc 41 then (bif Nat.beq pc 40 then some (.iconst 0, 1, []) else none) else (bif Nat.beq pc 41 then some (.istore 11, 2, []) else none)))))) else (bif Nat.blt pc 67 then (bif Nat.blt pc 55 then (bif Nat.blt pc 48 then (bif Nat.blt pc 44 then (bif Nat.beq pc 43 then some (.iconst 0, 1, []) else none) else (bif Nat.blt pc 46 then (bif Nat.beq pc 44 then some (.istore 12, 2, []) else none) else (bif Nat.beq pc 46 then some (.iload 12, 2, []) else none))) else (bif Nat.blt pc 50 then (bif Nat.beq pc 48 then some (.iload 10, 2, []) else none) else (bif Nat.blt pc 53 then (bif Nat.beq pc 50 then some (.if_icmp .ge 29, 3, [79]) else none) else (bif Nat.beq pc 53 then some (.iload 11, 2, []) else none)))) else (bif Nat.blt pc 61 then (bif Nat.blt pc 57 then (bif Nat.beq pc 55 then some (.aload 4, 2, []) else none) else (bif Nat.blt pc 59 then (bif Nat.beq pc 57 then some (.aload 5, 2, []) else none) else (bif Nat.beq pc 59 then some (.aload 6, 2, []) else none))) else (bif Nat.blt pc 63 then (bif Nat.beq pc 61 then some (.aload 7, 2, []) else none) else (bif Nat.blt pc 65 then (bif Nat.beq pc 63 then some (.aload 8, 2, []) else none) else (bif Nat.beq pc 65 then some (.aload 9, 2, []) else none))))) else (bif Nat.blt pc 80 then (bif Nat.blt pc 73 then (bif Nat.blt pc 70 then (bif Nat.beq pc 67 then some (.invokestatic 105, 3, [1, 114, 6, 501, 9, 9, 1]) else none) else (bif Nat.blt pc 71 then (bif Nat.beq pc 70 then some (.iadd, 1, []) else none) else (bif Nat.beq pc 71 then some (.istore 11, 2, []) else none))) else (bif Nat.blt pc 76 then (bif Nat.beq pc 73 then some (.iinc 12 1, 3, []) else none) else (bif Nat.blt pc 79 then (bif Nat.beq pc 76 then some (.goto (-30), 3, [46]) else none) else (bif Nat.beq pc 79 then some (.aload_n 0, 1, []) else none)))) else (bif Nat.blt pc 87 then (bif Nat.blt pc 82 then (bif Nat.beq pc 80 then some (.iload 10, 2, []) else none) else (bif Nat.blt pc 85 then (bif Nat.beq pc 82 then some (.invokevirtual 135, 3, [0, 67, 1, 704, 3, 3, 1]) else none) else (bif Nat.beq pc 85 then some (.iload 11, 2, []) else none))) else (bif Nat.blt pc 91 then (bif Nat.blt pc 90 then (bif Nat.beq pc 87 then some (.if_icmp .ne 7, 3, [94]) else none) else (bif Nat.beq pc 90 then some (.iconst 1, 1, []) else none)) else (bif Nat.blt pc 94 then (bif Nat.beq pc 91 then some (.goto 4, 3, [95]) else none) else (bif Nat.beq pc 94 then some (.iconst 0, 1, []) else none))))))) else (bif Nat.blt pc 135 then (bif Nat.blt pc 113 then (bif Nat.blt pc 105 then (bif Nat.blt pc 99 then (bif Nat.blt pc 96 then (bif Nat.beq pc 95 then some (.ireturn, 1, [1]) else none) else (bif Nat.blt pc 97 then (bif Nat.beq pc 96 then some (.iload_n 1, 1, []) else none) else (bif Nat.beq pc 97 then some (.bipush 11, 2, []) else none))) else (bif Nat.blt pc 102 then (bif Nat.beq pc 99 then some (.if_icmp .ne 37, 3, [136]) else none) else (bif Nat.blt pc 104 then (bif Nat.beq pc 102 then some (.aload 9, 2, []) else none) else (bif Nat.beq pc 104 then some (.iconst 2, 1, []) else none)))) else (bif Nat.blt pc 109 then (bif Nat.blt pc 106 then (bif Nat.beq pc 105 then some (.iaload, 1, []) else none) else (bif Nat.blt pc 108 then (bif Nat.beq pc 106 then some (.aload 9, 2, []) else none) else (bif Nat.beq pc 108 then some (.iconst 3, 1, []) else none))) else (bif Nat.blt pc 110 then (bif Nat.beq pc 109 then some (.iaload, 1, []) else none) else (bif Nat.blt pc 111 then (bif Nat.beq pc 110 then some (.isub, 1, []) else none) else (bif Nat.beq pc 111 then some (.istore 10, 2, []) else none))))) else (bif Nat.blt pc 121 then (bif Nat.blt pc 118 then (bif Nat.blt pc 115 then (bif Nat.beq pc 113 then some (.aload 9, 2, []) else none) else (bif Nat.blt pc 116 then (bif Nat.beq pc 115 then some (.iconst 2, 1, []) else none) else (bif Nat.beq pc 116 then some (.aload 9, 2, []) else none))) else (bif Nat.blt pc 119 then (bif Nat.beq pc 118 then some (.iconst 3, 1, []) else none) else (bif Nat.blt pc 120 then (bif Nat.beq pc 119 then some (.iaload, 1, []) else none) else (bif Nat.beq pc 120 then some (.iastore, 1, []) else none)))) else (bif Nat.blt pc 127 then (bif Nat.blt pc 122 then (bif Nat.beq pc 121 then some (.aload_n 0, 1, []) else none) else (bif Nat.blt pc 125 then (bif Nat.beq pc 122 then some (.invokevirtual 138, 3, [0, 69, 0, 709, 3, 2, 1]) else none) else (bif Nat.beq pc 125 then some (.iload 10, 2, []) else none))) else (bif Nat.blt pc 131 then (bif Nat.blt pc 130 then (bif Nat.beq pc 127 then some (.if_icmp .ne 7, 3, [134]) else none) else (bif Nat.beq pc 130 then some (.iconst 1, 1, []) else none)) else (bif Nat.blt pc 134 then (bif Nat.beq pc 131 then some (.goto 4, 3, [135]) else none) else (bif Nat.beq pc 134 then some (.iconst 0, 1, []) else none)))))) else (bif Nat.blt pc 156 then (bif Nat.blt pc 145 then (bif Nat.blt pc 139 then (bif Nat.blt pc 136 then (bif Nat.beq pc 135 then some (.ireturn, 1, [1]) else none) else (bif Nat.blt pc 137 then (bif Nat.beq pc 136 then some (.iload_n 1, 1, []) else none) else (bif Nat.beq pc 137 then some (.bipush 12, 2, []) else none))) else (bif Nat.blt pc 142 then (bif Nat.beq pc 139 then some (.if_icmp .ne 31, 3, [170]) else none) else (bif Nat.blt pc 144 then (bif Nat.beq pc 142 then some (.aload 9, 2, []) else none) else (bif Nat.beq pc 144 then some (.iconst 3, 1, []) else none)))) else (bif Nat.blt pc 150 then (bif Nat.blt pc 146 then (bif Nat.beq pc 145 then some (.iaload, 1, []) else none) else (bif Nat.blt pc 148 then (bif Nat.beq pc 146 then some (.istore 10, 2, []) else none) else (bif Nat.beq pc 148 then some (.aload 4, 2, []) else none))) else (bif Nat.blt pc 152 then (bif Nat.beq pc 150 then some (.aload 9, 2, []) else none) else (bif Nat.blt pc 155 then (bif Nat.beq pc 152 then some (.invokestatic 99, 3, [1, 115, 2, 498, 9, 3, 0]) else none) else (bif Nat.beq pc 155 then some (.aload_n 0, 1, []) else none))))) else (bif Nat.blt pc 169 then (bif Nat.blt pc 164 then (bif Nat.blt pc 159 then (bif Nat.beq pc 156 then some (.invokevirtual 141, 3, [0, 70, 0, 713, 3, 2, 1]) else none) else (bif Nat.blt pc 161 then (bif Nat.beq pc 159 then some (.iload 10, 2, []) else none) else (bif Nat.beq pc 161 then some (.if_icmp .ne 7, 3, [168]) else none))) else (bif Nat.blt pc 165 then (bif Nat.beq pc 164 then some (.iconst 1, 1, []) else none) else (bif Nat.blt pc 168 then (bif Nat.beq pc 165 then some (.goto 4, 3, [169]) else none) else (bif Nat.beq pc 168 then some (.iconst 0, 1, []) else none)))) else (bif Nat.blt pc 173 then (bif Nat.blt pc 170 then (bif Nat.beq pc 169 then some (.ireturn, 1, [1]) else none) else (bif Nat.blt pc 171 then (bif Nat.beq pc 170 then some (.iload_n 1, 1, []) else none) else (bif Nat.beq pc 171 then some (.bipush 13, 2, []) else none))) else (bif Nat.blt pc 177 then (bif Nat.blt pc 176 then (bif Nat.beq pc 173 then some (.if_icmp .ne 61, 3, [234]) else none) else (bif Nat.beq pc 176 then some (.iload_n 2, 1, []) else none)) else (bif Nat.blt pc 178 then (bif Nat.beq pc 177 then some (.iconst 3, 1, []) else none) else (bif Nat.beq pc 178 then some (.invokestatic 102, 3, [1, 102, 2, 287, 9, 2, 1]) else none)))))))) else (bif Nat.blt pc 273 then (bif Nat.blt pc 228 then (bif Nat.blt pc 203 then (bif Nat.blt pc 192 then (bif Nat.blt pc 187 then (bif Nat.blt pc 183 then (bif Nat.beq pc 181 then some (.istore 10, 2, []) else none) else (bif Nat.blt pc 185 then (bif Nat.beq pc 183 then some (.aload 8, 2, []) else none) else (bif Nat.beq pc 185 then some (.iload 10, 2, []) else none))) else (bif Nat.blt pc 188 then (bif Nat.beq pc 187 then some (.iaload, 1, []) else none) else (bif Nat.blt pc 190 then (bif Nat.beq pc 188 then some (.istore 11, 2, []) else none) else (bif Nat.beq pc 190 then some (.aload 8, 2, []) else none)))) else (bif Nat.blt pc 196 then (bif Nat.blt pc 194 then (bif Nat.beq pc 192 then some (.iload 10, 2, []) else none) else (bif Nat.blt pc 195 then (bif Nat.beq pc 194 then some (.iconst 1, 1, []) else none) else (bif Nat.beq pc 195 then some (.iload_n 3, 1, []) else none))) else (bif Nat.blt pc 198 then (bif Nat.beq pc 196 then some (.iload 10, 2, []) else none) else (bif Nat.blt pc 201 then (bif Nat.beq pc 198 then some (.ifCond .ne 8, 3, [206]) else none) else (bif Nat.beq pc 201 then some (.bipush 8, 2, []) else none))))) else (bif Nat.blt pc 213 then (bif Nat.blt pc 210 then (bif Nat.blt pc 206 then (bif Nat.beq pc 203 then some (.goto 4, 3, [207]) else none) else (bif Nat.blt pc 207 then (bif Nat.beq pc 206 then some (.iconst 4, 1, []) else none) else (bif Nat.beq pc 207 then some (.invokestatic 102, 3, [1, 102, 2, 287, 9, 2, 1]) else none))) else (bif Nat.blt pc 211 then (bif Nat.beq pc 210 then some (.iadd, 1, []) else none) else (bif Nat.blt pc 212 then (bif Nat.beq pc 211 then some (.iastore, 1, []) else none) else (bif Nat.beq pc 212 then some (.aload_n 0, 1, []) else none)))) else (bif Nat.blt pc 219 then (bif Nat.blt pc 215 then (bif Nat.beq pc 213 then some (.iload 10, 2, []) else none) else (bif Nat.blt pc 217 then (bif Nat.beq pc 215 then some (.aload 8, 2, []) else none) else (bif Nat.beq pc 217 then some (.iload 10, 2, []) else none))) else (bif Nat.blt pc 223 then (bif Nat.blt pc 220 then (bif Nat.beq pc 219 then some (.iaload, 1, []) else none) else (bif Nat.beq pc 220 then some (.invokevirtual 144, 3, [0, 63, 2, 717, 3, 4, 1]) else none)) else (bif Nat.blt pc 225 then (bif Nat.beq pc 223 then some (.iload 11, 2, []) else none) else (bif Nat.beq pc 225 then some (.if_icmp .ne 7, 3, [232]) else none)))))) else (bif Nat.blt pc 246 then (bif Nat.blt pc 237 then (bif Nat.blt pc 233 then (bif Nat.blt pc 229 then (bif Nat.beq pc 228 then some (.iconst 1, 1, []) else none) else (bif Nat.blt pc 232 then (bif Nat.beq pc 229 then some (.goto 4, 3, [233]) else none) else (bif Nat.beq pc 232 then some (.iconst 0, 1, []) else none))) else (bif Nat.blt pc 234 then (bif Nat.beq pc 233 then some (.ireturn, 1, [1]) else none) else (bif Nat.blt pc 236 then (bif Nat.beq pc 234 then some (.aload 9, 2, []) else none) else (bif Nat.beq pc 236 then some (.iconst 2, 1, []) else none)))) else (bif Nat.blt pc 241 then (bif Nat.blt pc 238 then (bif Nat.beq pc 237 then some (.iaload, 1, []) else none) else (bif Nat.blt pc 240 then (bif Nat.beq pc 238 then some (.aload 9, 2, []) else none) else (bif Nat.beq pc 240 then some (.iconst 3, 1, []) else none))) else (bif Nat.blt pc 242 then (bif Nat.beq pc 241 then some (.iaload, 1, []) else none) else (bif Nat.blt pc 245 then (bif Nat.beq pc 242 then some (.if_icmp .le 5, 3, [247]) else none) else (bif Nat.beq pc 245 then some (.iconst 1, 1, []) else none))))) else (bif Nat.blt pc 258 then (bif Nat.blt pc 250 then (bif Nat.blt pc 247 then (bif Nat.beq pc 246 then some (.ireturn, 1, [1]) else none) else (bif Nat.blt pc 248 then (bif Nat.beq pc 247 then some (.iload_n 3, 1, []) else none) else (bif Nat.beq pc 248 then some (.bipush 7, 2, []) else none))) else (bif Nat.blt pc 253 then (bif Nat.beq pc 250 then some (.invokestatic 102, 3, [1, 102, 2, 287, 9, 2, 1]) else none) else (bif Nat.blt pc 256 then (bif Nat.beq pc 253 then some (.ifCond .ne 8, 3, [261]) else none) else (bif Nat.beq pc 256 then some (.ldc 10, 2, [0, 4292967296, 302]) else none)))) else (bif Nat.blt pc 263 then (bif Nat.blt pc 261 then (bif Nat.beq pc 258 then some (.goto 16, 3, [274]) else none) else (bif Nat.blt pc 262 then (bif Nat.beq pc 261 then some (.iload_n 3, 1, []) else none) else (bif Nat.beq pc 262 then some (.iconst 3, 1, []) else none))) else (bif Nat.blt pc 267 then (bif Nat.blt pc 264 then (bif Nat.beq pc 263 then some (.ishr, 1, []) else none) else (bif Nat.beq pc 264 then some (.sipush 2001, 3, []) else none)) else (bif Nat.blt pc 270 then (bif Nat.beq pc 267 then some (.invokestatic 102, 3, [1, 102, 2, 287, 9, 2, 1]) else none) else (bif Nat.beq pc 270 then some (.sipush 1000, 3, []) else none))))))) else (bif Nat.blt pc 321 then (bif Nat.blt pc 295 then (bif Nat.blt pc 284 then (bif Nat.blt pc 277 then (bif Nat.blt pc 274 then (bif Nat.beq pc 273 then some (.isub, 1, []) else none) else (bif Nat.blt pc 276 then (bif Nat.beq pc 274 then some (.istore 10, 2, []) else none) else (bif Nat.beq pc 276 then some (.iload_n 2, 1, []) else none))) else (bif Nat.blt pc 279 then (bif Nat.beq pc 277 then some (.bipush 8, 2, []) else none) else (bif Nat.blt pc 282 then (bif Nat.beq pc 279 then some (.invokestatic 102, 3, [1, 102, 2, 287, 9, 2, 1]) else none) else (bif Nat.beq pc 282 then some (.istore 11, 2, []) else none)))) else (bif Nat.blt pc 290 then (bif Nat.blt pc 285 then (bif Nat.beq pc 284 then some (.iload_n 1, 1, []) else none) else (bif Nat.blt pc 287 then (bif Nat.beq pc 285 then some (.bipush 14, 2, []) else none) else (bif Nat.beq pc 287 then some (.if_icmp .ne 11, 3, [298]) else none))) else (bif Nat.blt pc 292 then (bif Nat.beq pc 290 then some (.aload 6, 2, []) else none) else (bif Nat.blt pc 294 then (bif Nat.beq pc 292 then some (.iload 11, 2, []) else none) else (bif Nat.beq pc 294 then some (.iaload, 1, []) else none))))) else (bif Nat.blt pc 306 then (bif Nat.blt pc 302 then (bif Nat.blt pc 298 then (bif Nat.beq pc 295 then some (.goto 8, 3, [303]) else none) else (bif Nat.blt pc 300 then (bif Nat.beq pc 298 then some (.aload 7, 2, []) else none) else (bif Nat.beq pc 300 then some (.iload 11, 2, []) else none))) else (bif Nat.blt pc 303 then (bif Nat.beq pc 302 then some (.iaload, 1, []) else none) else (bif Nat.blt pc 305 then (bif Nat.beq pc 303 then some (.istore 12, 2, []) else none) else (bif Nat.beq pc 305 then some (.iload_n 1, 1, []) else none)))) else (bif Nat.blt pc 313 then (bif Nat.blt pc 308 then (bif Nat.beq pc 306 then some (.bipush 14, 2, []) else none) else (bif Nat.blt pc 311 then (bif Nat.beq pc 308 then some (.if_icmp .ne 13, 3, [321]) else none) else (bif Nat.beq pc 311 then some (.aload 6, 2, []) else none))) else (bif Nat.blt pc 317 then (bif Nat.blt pc 315 then (bif Nat.beq pc 313 then some (.iload 11, 2, []) else none) else (bif Nat.beq pc 315 then some (.iload 10, 2, []) else none)) else (bif Nat.blt pc 318 then (bif Nat.beq pc 317 then some (.iastore, 1, []) else none) else (bif Nat.beq pc 318 then some (.goto 10, 3, [328]) else none)))))) else (bif Nat.blt pc 345 then (bif Nat.blt pc 331 then (bif Nat.blt pc 327 then (bif Nat.blt pc 323 then (bif Nat.beq pc 321 then some (.aload 7, 2, []) else none) else (bif Nat.blt pc 325 then (bif Nat.beq pc 323 then some (.iload 11, 2, []) else none) else (bif Nat.beq pc 325 then some (.iload 10, 2, []) else none))) else (bif Nat.blt pc 328 then (bif Nat.beq pc 327 then some (.iastore, 1, []) else none) else (bif Nat.blt pc 329 then (bif Nat.beq pc 328 then some (.iload_n 1, 1, []) else none) else (bif Nat.beq pc 329 then some (.bipush 14, 2, []) else none)))) else (bif Nat.blt pc 337 then (bif Nat.blt pc 334 then (bif Nat.beq pc 331 then some (.if_icmp .ne 17, 3, [348]) else none) else (bif Nat.blt pc 335 then (bif Nat.beq pc 334 then some (.aload_n 0, 1, []) else none) else (bif Nat.beq pc 335 then some (.iload 11, 2, []) else none))) else (bif Nat.blt pc 339 then (bif Nat.beq pc 337 then some (.iload 10, 2, []) else none) else (bif Nat.blt pc 342 then (bif Nat.beq pc 339 then some (.invokestatic 73, 3, [1, 103, 1, 380, 9, 4, 1]) else none) else (bif Nat.beq pc 342 then some (.invokevirtual 147, 3, [0, 64, 2, 725, 3, 3, 1]) else none))))) else (bif Nat.blt pc 359 then (bif Nat.blt pc 351 then (bif Nat.blt pc 348 then (bif Nat.beq pc 345 then some (.goto 14, 3, [359]) else none) else (bif Nat.blt pc 349 then (bif Nat.beq pc 348 then some (.aload_n 0, 1, []) else none) else (bif Nat.beq pc 349 then some (.iload 11, 2, []) else none))) else (bif Nat.blt pc 353 then (bif Nat.beq pc 351 then some (.iload 10, 2, []) else none) else (bif Nat.blt pc 356 then (bif Nat.beq pc 353 then some (.invokestatic 73, 3, [1, 103, 1, 380, 9, 4, 1]) else none) else (bif Nat.beq pc 356 then some (.invokevirtual 150, 3, [0, 65, 2, 739, 3, 3, 1]) else none)))) else (bif Nat.blt pc 367 then (bif Nat.blt pc 361 then (bif Nat.beq pc 359 then some (.iload 12, 2, []) else none) else (bif Nat.blt pc 364 then (bif Nat.beq pc 361 then some (.invokestatic 73, 3, [1, 103, 1, 380, 9, 4, 1]) else none) else (bif Nat.beq pc 364 then some (.if_icmp .ne 7, 3, [371]) else none))) else (bif Nat.blt pc 371 then (bif Nat.blt pc 368 then (bif Nat.beq pc 367 then some (.iconst 1, 1, []) else none) else (bif Nat.beq pc 368 then some (.goto 4, 3, [372]) else none)) else (bif Nat.blt pc 372 then (bif Nat.beq pc 371 then some (.iconst 0, 1, []) else none) else (bif Nat.beq pc 372 then some (.ireturn, 1, [1]) else none))))))))
/-- L_law -/
def I_L_law (pc : Nat) : Option IE := bif Nat.blt pc 122 then (bif Nat.blt pc 58 then (bif Nat.blt pc 33 then (bif Nat.blt pc 17 then (bif Nat.blt pc 8 then (bif Nat.blt pc 4 then (bif Nat.blt pc 3 then (bif Nat.beq pc 0 then some (.new 66, 3, [3, 26, 27]) else none) else (bif Nat.beq pc 3 then some (.dup, 1, []) else none)) else (bif Nat.blt pc 7 then (bif Nat.beq pc 4 then some (.invokespecial 153, 3, [2, 62, 0, 28, 3, 2, 0]) else none) else (bif Nat.beq pc 7 then some (.astore_n 1, 1, []) else none))) else (bif Nat.blt pc 12 then (bif Nat.blt pc 10 then (bif Nat.beq pc 8 then some (.bipush 64, 2, []) else none) else (bif Nat.beq pc 10 then some (.newarray .int, 2, [6, 159]) else none)) else (bif Nat.blt pc 13 then (bif Nat.beq pc 12 then some (.astore_n 2, 1, []) else none) else (bif Nat.blt pc 15 then (bif Nat.beq pc 13 then some (.bipush 40, 2, []) else none) else (bif Nat.beq pc 15 then some (.newarray .int, 2, [6, 159]) else none))))) else (bif Nat.blt pc 24 then (bif Nat.blt pc 20 then (bif Nat.blt pc 18 then (bif Nat.beq pc 17 then some (.astore_n 3, 1, []) else none) else (bif Nat.beq pc 18 then some (.bipush 8, 2, []) else none)) else (bif Nat.blt pc 22 then (bif Nat.beq pc 20 then some (.newarray .int, 2, [6, 159]) else none) else (bif Nat.beq pc 22 then some (.astore 4, 2, []) else none))) else (bif Nat.blt pc 28 then (bif Nat.blt pc 26 then (bif Nat.beq pc 24 then some (.bipush 16, 2, []) else none) else (bif Nat.beq pc 26 then some (.newarray .int, 2, [6, 159]) else none)) else (bif Nat.blt pc 30 then (bif Nat.beq pc 28 then some (.astore 5, 2, []) else none) else (bif Nat.blt pc 31 then (bif Nat.beq pc 30 then some (.iconst 3, 1, []) else none) else (bif Nat.beq pc 31 then some (.newarray .int, 2, [6, 159]) else none)))))) else (bif Nat.blt pc 48 then (bif Nat.blt pc 41 then (bif Nat.blt pc 37 then (bif Nat.blt pc 35 then (bif Nat.beq pc 33 then some (.astore 6, 2, []) else none) else (bif Nat.beq pc 35 then some (.bipush 9, 2, []) else none)) else (bif Nat.blt pc 39 then (bif Nat.beq pc 37 then some (.newarray .int, 2, [6, 159]) else none) else (bif Nat.beq pc 39 then some (.astore 7, 2, []) else none))) else (bif Nat.blt pc 44 then (bif Nat.blt pc 43 then (bif Nat.beq pc 41 then some (.aload 6, 2, []) else none) else (bif Nat.beq pc 43 then some (.iconst 0, 1, []) else none)) else (bif Nat.blt pc 45 then (bif Nat.beq pc 44 then some (.iconst 4, 1, []) else none) else (bif Nat.blt pc 46 then (bif Nat.beq pc 45 then some (.iastore, 1, []) else none) else (bif Nat.beq pc 46 then some (.aload 6, 2, []) else none))))) else (bif Nat.blt pc 53 then (bif Nat.blt pc 50 then (bif Nat.blt pc 49 then (bif Nat.beq pc 48 then some (.iconst 1, 1, []) else none) else (bif Nat.beq pc 49 then some (.iconst 2, 1, []) else none)) else (bif Nat.blt pc 51 then (bif Nat.beq pc 50 then some (.iastore, 1, []) else none) else (bif Nat.beq pc 51 then some (.aload 6, 2, []) else none))) else (bif Nat.blt pc 55 then (bif Nat.blt pc 54 then (bif Nat.beq pc 53 then some (.iconst 2, 1, []) else none) else (bif Nat.beq pc 54 then some (.iconst 2, 1, []) else none)) else (bif Nat.blt pc 56 then (bif Nat.beq pc 55 then some (.iastore, 1, []) else none) else (bif Nat.blt pc 57 then (bif Nat.beq pc 56 then some (.aload_n 1, 1, []) else none) else (bif Nat.beq pc 57 then some (.aload_n 2, 1, []) else none))))))) else (bif Nat.blt pc 93 then (bif Nat.blt pc 76 then (bif Nat.blt pc 65 then (bif Nat.blt pc 61 then (bif Nat.blt pc 59 then (bif Nat.beq pc 58 then some (.aload_n 3, 1, []) else none) else (bif Nat.beq pc 59 then some (.aload 4, 2, []) else none)) else (bif Nat.blt pc 63 then (bif Nat.beq pc 61 then some (.aload 5, 2, []) else none) else (bif Nat.beq pc 63 then some (.aload 6, 2, []) else none))) else (bif Nat.blt pc 70 then (bif Nat.blt pc 67 then (bif Nat.beq pc 65 then some (.aload 7, 2, []) else none) else (bif Nat.beq pc 67 then some (.invokestatic 154, 3, [1, 118, 7, 290, 9, 15, 1]) else none)) else (bif Nat.blt pc 73 then (bif Nat.beq pc 70 then some (.ifCond .eq 22, 3, [92]) else none) else (bif Nat.blt pc 74 then (bif Nat.beq pc 73 then some (.aload_n 1, 1, []) else none) else (bif Nat.beq pc 74 then some (.bipush 9, 2, []) else none))))) else (bif Nat.blt pc 82 then (bif Nat.blt pc 78 then (bif Nat.blt pc 77 then (bif Nat.beq pc 76 then some (.aload_n 2, 1, []) else none) else (bif Nat.beq pc 77 then some (.aload_n 3, 1, []) else none)) else (bif Nat.blt pc 80 then (bif Nat.beq pc 78 then some (.aload 4, 2, []) else none) else (bif Nat.beq pc 80 then some (.aload 5, 2, []) else none))) else (bif Nat.blt pc 86 then (bif Nat.blt pc 84 then (bif Nat.beq pc 82 then some (.aload 6, 2, []) else none) else (bif Nat.beq pc 84 then some (.aload 7, 2, []) else none)) else (bif Nat.blt pc 89 then (bif Nat.beq pc 86 then some (.invokestatic 158, 3, [1, 119, 8, 495, 9, 21, 1]) else none) else (bif Nat.blt pc 92 then (bif Nat.beq pc 89 then some (.ifCond .ne 5, 3, [94]) else none) else (bif Nat.beq pc 92 then some (.iconst 0, 1, []) else none)))))) else (bif Nat.blt pc 108 then (bif Nat.blt pc 99 then (bif Nat.blt pc 95 then (bif Nat.blt pc 94 then (bif Nat.beq pc 93 then some (.ireturn, 1, [1]) else none) else (bif Nat.beq pc 94 then some (.iconst 0, 1, []) else none)) else (bif Nat.blt pc 97 then (bif Nat.beq pc 95 then some (.istore 8, 2, []) else none) else (bif Nat.beq pc 97 then some (.iload 8, 2, []) else none))) else (bif Nat.blt pc 104 then (bif Nat.blt pc 101 then (bif Nat.beq pc 99 then some (.bipush 40, 2, []) else none) else (bif Nat.beq pc 101 then some (.if_icmp .ge 142, 3, [243]) else none)) else (bif Nat.blt pc 105 then (bif Nat.beq pc 104 then some (.aload_n 0, 1, []) else none) else (bif Nat.blt pc 106 then (bif Nat.beq pc 105 then some (.iconst 2, 1, []) else none) else (bif Nat.beq pc 106 then some (.iload 8, 2, []) else none))))) else (bif Nat.blt pc 115 then (bif Nat.blt pc 112 then (bif Nat.blt pc 109 then (bif Nat.beq pc 108 then some (.imul, 1, []) else none) else (bif Nat.beq pc 109 then some (.invokestatic 162, 3, [1, 101, 2, 283, 9, 2, 1]) else none)) else (bif Nat.blt pc 114 then (bif Nat.beq pc 112 then some (.ldc 165, 2, [0, 2147483647, 743]) else none) else (bif Nat.beq pc 114 then some (.iand, 1, []) else none))) else (bif Nat.blt pc 118 then (bif Nat.blt pc 117 then (bif Nat.beq pc 115 then some (.istore 9, 2, []) else none) else (bif Nat.beq pc 117 then some (.aload_n 0, 1, []) else none)) else (bif Nat.blt pc 119 then (bif Nat.beq pc 118 then some (.iconst 2, 1, []) else none) else (bif Nat.blt pc 121 then (bif Nat.beq pc 119 then some (.iload 8, 2, []) else none) else (bif Nat.beq pc 121 then some (.imul, 1, []) else none)))))))) else (bif Nat.blt pc 190 then (bif Nat.blt pc 157 then (bif Nat.blt pc 138 then (bif Nat.blt pc 129 then (bif Nat.blt pc 124 then (bif Nat.blt pc 123 then (bif Nat.beq pc 122 then some (.iconst 1, 1, []) else none) else (bif Nat.beq pc 123 then some (.iadd, 1, []) else none)) else (bif Nat.blt pc 127 then (bif Nat.beq pc 124 then some (.invokestatic 162, 3, [1, 101, 2, 283, 9, 2, 1]) else none) else (bif Nat.beq pc 127 then some (.ldc 165, 2, [0, 2147483647, 743]) else none))) else (bif Nat.blt pc 132 then (bif Nat.blt pc 130 then (bif Nat.beq pc 129 then some (.iand, 1, []) else none) else (bif Nat.beq pc 130 then some (.istore 10, 2, []) else none)) else (bif Nat.blt pc 134 then (bif Nat.beq pc 132 then some (.iload 8, 2, []) else none) else (bif Nat.blt pc 137 then (bif Nat.beq pc 134 then some (.ifCond .ne 7, 3, [141]) else none) else (bif Nat.beq pc 137 then some (.iconst 0, 1, []) else none))))) else (bif Nat.blt pc 147 then (bif Nat.blt pc 143 then (bif Nat.blt pc 141 then (bif Nat.beq pc 138 then some (.goto 24, 3, [162]) else none) else (bif Nat.beq pc 141 then some (.iload 8, 2, []) else none)) else (bif Nat.blt pc 144 then (bif Nat.beq pc 143 then some (.iconst 1, 1, []) else none) else (bif Nat.beq pc 144 then some (.if_icmp .ne 8, 3, [152]) else none))) else (bif Nat.blt pc 152 then (bif Nat.blt pc 149 then (bif Nat.beq pc 147 then some (.bipush 13, 2, []) else none) else (bif Nat.beq pc 149 then some (.goto 13, 3, [162]) else none)) else (bif Nat.blt pc 154 then (bif Nat.beq pc 152 then some (.iload 9, 2, []) else none) else (bif Nat.blt pc 156 then (bif Nat.beq pc 154 then some (.bipush 13, 2, []) else none) else (bif Nat.beq pc 156 then some (.ishr, 1, []) else none)))))) else (bif Nat.blt pc 173 then (bif Nat.blt pc 165 then (bif Nat.blt pc 162 then (bif Nat.blt pc 159 then (bif Nat.beq pc 157 then some (.bipush 16, 2, []) else none) else (bif Nat.beq pc 159 then some (.invokestatic 102, 3, [1, 102, 2, 287, 9, 2, 1]) else none)) else (bif Nat.blt pc 164 then (bif Nat.beq pc 162 then some (.istore 11, 2, []) else none) else (bif Nat.beq pc 164 then some (.aload_n 1, 1, []) else none))) else (bif Nat.blt pc 169 then (bif Nat.blt pc 167 then (bif Nat.beq pc 165 then some (.iload 11, 2, []) else none) else (bif Nat.beq pc 167 then some (.iload 9, 2, []) else none)) else (bif Nat.blt pc 171 then (bif Nat.beq pc 169 then some (.iload 10, 2, []) else none) else (bif Nat.blt pc 172 then (bif Nat.beq pc 171 then some (.aload_n 2, 1, []) else none) else (bif Nat.beq pc 172 then some (.aload_n 3, 1, []) else none))))) else (bif Nat.blt pc 181 then (bif Nat.blt pc 177 then (bif Nat.blt pc 175 then (bif Nat.beq pc 173 then some (.aload 4, 2, []) else none) else (bif Nat.beq pc 175 then some (.aload 5, 2, []) else none)) else (bif Nat.blt pc 179 then (bif Nat.beq pc 177 then some (.aload 6, 2, []) else none) else (bif Nat.beq pc 179 then some (.aload 7, 2, []) else none))) else (bif Nat.blt pc 187 then (bif Nat.blt pc 184 then (bif Nat.beq pc 181 then some (.invokestatic 166, 3, [1, 122, 10, 602, 9, 13, 1]) else none) else (bif Nat.beq pc 184 then some (.ifCond .eq 20, 3, [204]) else none)) else (bif Nat.blt pc 188 then (bif Nat.beq pc 187 then some (.aload_n 1, 1, []) else none) else (bif Nat.blt pc 189 then (bif Nat.beq pc 188 then some (.aload_n 2, 1, []) else none) else (bif Nat.beq pc 189 then some (.aload_n 3, 1, []) else none))))))) else (bif Nat.blt pc 220 then (bif Nat.blt pc 208 then (bif Nat.blt pc 198 then (bif Nat.blt pc 194 then (bif Nat.blt pc 192 then (bif Nat.beq pc 190 then some (.aload 4, 2, []) else none) else (bif Nat.beq pc 192 then some (.aload 5, 2, []) else none)) else (bif Nat.blt pc 196 then (bif Nat.beq pc 194 then some (.aload 6, 2, []) else none) else (bif Nat.beq pc 196 then some (.aload 7, 2, []) else none))) else (bif Nat.blt pc 204 then (bif Nat.blt pc 201 then (bif Nat.beq pc 198 then some (.invokestatic 154, 3, [1, 118, 7, 290, 9, 15, 1]) else none) else (bif Nat.beq pc 201 then some (.ifCond .ne 5, 3, [206]) else none)) else (bif Nat.blt pc 205 then (bif Nat.beq pc 204 then some (.iconst 0, 1, []) else none) else (bif Nat.blt pc 206 then (bif Nat.beq pc 205 then some (.ireturn, 1, [1]) else none) else (bif Nat.beq pc 206 then some (.iload 8, 2, []) else none))))) else (bif Nat.blt pc 214 then (bif Nat.blt pc 210 then (bif Nat.blt pc 209 then (bif Nat.beq pc 208 then some (.iconst 5, 1, []) else none) else (bif Nat.beq pc 209 then some (.irem, 1, []) else none)) else (bif Nat.blt pc 211 then (bif Nat.beq pc 210 then some (.iconst 4, 1, []) else none) else (bif Nat.beq pc 211 then some (.if_icmp .ne 26, 3, [237]) else none))) else (bif Nat.blt pc 217 then (bif Nat.blt pc 215 then (bif Nat.beq pc 214 then some (.aload_n 1, 1, []) else none) else (bif Nat.beq pc 215 then some (.iload 10, 2, []) else none)) else (bif Nat.blt pc 218 then (bif Nat.beq pc 217 then some (.iconst 4, 1, []) else none) else (bif Nat.blt pc 219 then (bif Nat.beq pc 218 then some (.ishr, 1, []) else none) else (bif Nat.beq pc 219 then some (.aload_n 2, 1, []) else none)))))) else (bif Nat.blt pc 237 then (bif Nat.blt pc 227 then (bif Nat.blt pc 223 then (bif Nat.blt pc 221 then (bif Nat.beq pc 220 then some (.aload_n 3, 1, []) else none) else (bif Nat.beq pc 221 then some (.aload 4, 2, []) else none)) else (bif Nat.blt pc 225 then (bif Nat.beq pc 223 then some (.aload 5, 2, []) else none) else (bif Nat.beq pc 225 then some (.aload 6, 2, []) else none))) else (bif Nat.blt pc 232 then (bif Nat.blt pc 229 then (bif Nat.beq pc 227 then some (.aload 7, 2, []) else none) else (bif Nat.beq pc 229 then some (.invokestatic 158, 3, [1, 119, 8, 495, 9, 21, 1]) else none)) else (bif Nat.blt pc 235 then (bif Nat.beq pc 232 then some (.ifCond .ne 5, 3, [237]) else none) else (bif Nat.blt pc 236 then (bif Nat.beq pc 235 then some (.iconst 0, 1, []) else none) else (bif Nat.beq pc 236 then some (.ireturn, 1, [1]) else none))))) else (bif Nat.blt pc 249 then (bif Nat.blt pc 243 then (bif Nat.blt pc 240 then (bif Nat.beq pc 237 then some (.iinc 8 1, 3, []) else none) else (bif Nat.beq pc 240 then some (.goto (-143), 3, [97]) else none)) else (bif Nat.blt pc 244 then (bif Nat.beq pc 243 then some (.aload_n 1, 1, []) else none) else (bif Nat.blt pc 246 then (bif Nat.beq pc 244 then some (.bipush 11, 2, []) else none) else (bif Nat.beq pc 246 then some (.invokevirtual 88, 3, [0, 82, 1, 195, 3, 2, 1]) else none)))) else (bif Nat.blt pc 253 then (bif Nat.blt pc 252 then (bif Nat.beq pc 249 then some (.ifCond .le 7, 3, [256]) else none) else (bif Nat.beq pc 252 then some (.iconst 1, 1, []) else none)) else (bif Nat.blt pc 256 then (bif Nat.beq pc 253 then some (.goto 4, 3, [257]) else none) else (bif Nat.blt pc 257 then (bif Nat.beq pc 256 then some (.iconst 0, 1, []) else none) else (bif Nat.beq pc 257 then some (.ireturn, 1, [1]) else none))))))))
def J0 : Nat × (Nat → Option IE) := (0, fun _ => none)
def J (m : Nat) : Nat × (Nat → Option IE) := bif Nat.blt m 105 then (bif Nat.blt m 52 then (bif Nat.blt m 26 then (bif Nat.blt m 13 then (bif Nat.blt m 6 then (bif Nat.blt m 3 then (bif Nat.blt m 1 then (bif Nat.beq m 0 then (15, I_X0_isInRange) else J0) else (bif Nat.blt m 2 then (bif Nat.beq m 1 then (95, I_X0_valueOf) else J0) else (bif Nat.beq m 2 then (129, I_X0_bitsOf) else J0))) else (bif Nat.blt m 4 then (bif Nat.beq m 3 then (82, I_X0_result) else J0) else (bif Nat.blt m 5 then (bif Nat.beq m 4 then (24, I_X0_limited) else J0) else (bif Nat.beq m 5 then (15, I_X0_isInRange) else J0)))) else (bif Nat.blt m 9 then (bif Nat.blt m 7 then (bif Nat.beq m 6 then (35, I_X1_init) else J0) else (bif Nat.blt m 8 then (bif Nat.beq m 7 then (28, I_X1_become) else J0) else (bif Nat.beq m 8 then (97, I_X1_becomeLike) else J0))) else (bif Nat.blt m 11 then (bif Nat.blt m 10 then (bif Nat.beq m 9 then (22, I_X1_isDone) else J0) else (bif Nat.beq m 10 then (33, I_X1_endsItsWork) else J0)) else (bif Nat.blt m 12 then (bif Nat.beq m 11 then (38, I_X1_cyclesNeeded) else J0) else (bif Nat.beq m 12 then (75, I_X1_part) else J0))))) else (bif Nat.blt m 19 then (bif Nat.blt m 16 then (bif Nat.blt m 14 then (bif Nat.beq m 13 then (99, I_X2_init) else J0) else (bif Nat.blt m 15 then (bif Nat.beq m 14 then (11, I_X2_greatest) else J0) else (bif Nat.beq m 15 then (146, I_X2_becomeLike) else J0))) else (bif Nat.blt m 17 then (bif Nat.beq m 16 then (43, I_X2_beginAnew) else J0) else (bif Nat.blt m 18 then (bif Nat.beq m 17 then (27, I_X2_at) else J0) else (bif Nat.beq m 18 then (24, I_X2_registerBits) else J0)))) else (bif Nat.blt m 22 then (bif Nat.blt m 20 then (bif Nat.beq m 19 then (24, I_X2_cellBits) else J0) else (bif Nat.blt m 21 then (bif Nat.beq m 20 then (76, I_X2_put) else J0) else (bif Nat.beq m 21 then (10, I_X2_entries) else J0))) else (bif Nat.blt m 24 then (bif Nat.blt m 23 then (bif Nat.beq m 22 then (17, I_X2_isFinished) else J0) else (bif Nat.beq m 23 then (119, I_X2_number) else J0)) else (bif Nat.blt m 25 then (bif Nat.beq m 24 then (194, I_X2_property) else J0) else (bif Nat.beq m 25 then (70, I_X2_hindrance) else J0)))))) else (bif Nat.blt m 39 then (bif Nat.blt m 32 then (bif Nat.blt m 29 then (bif Nat.blt m 27 then (bif Nat.beq m 26 then (26, I_X2_isReady) else J0) else (bif Nat.blt m 28 then (bif Nat.beq m 27 then (42, I_X2_hasOpenStoreAhead) else J0) else (bif Nat.beq m 28 then (39, I_X2_latestMaker) else J0))) else (bif Nat.blt m 30 then (bif Nat.beq m 29 then (47, I_X2_latestStore) else J0) else (bif Nat.blt m 31 then (bif Nat.beq m 30 then (18, I_X2_passCycles) else J0) else (bif Nat.beq m 31 then (26, I_X2_cyclesToEnd) else J0)))) else (bif Nat.blt m 35 then (bif Nat.blt m 33 then (bif Nat.beq m 32 then (63, I_X2_passCycle) else J0) else (bif Nat.blt m 34 then (bif Nat.beq m 33 then (97, I_X2_retireEntries) else J0) else (bif Nat.beq m 34 then (107, I_X2_finish) else J0))) else (bif Nat.blt m 37 then (bif Nat.blt m 36 then (bif Nat.beq m 35 then (22, I_X2_operand) else J0) else (bif Nat.beq m 36 then (88, I_X2_finishLoad) else J0)) else (bif Nat.blt m 38 then (bif Nat.beq m 37 then (61, I_X2_breakAlibis) else J0) else (bif Nat.beq m 38 then (66, I_X2_replay) else J0))))) else (bif Nat.blt m 45 then (bif Nat.blt m 42 then (bif Nat.blt m 40 then (bif Nat.beq m 39 then (61, I_X2_startEntries) else J0) else (bif Nat.blt m 41 then (bif Nat.beq m 40 then (98, I_X2_issueInstructions) else J0) else (bif Nat.beq m 41 then (124, I_X2_carryOutPlainly) else J0))) else (bif Nat.blt m 43 then (bif Nat.beq m 42 then (13, I_X2_placeOf) else J0) else (bif Nat.blt m 44 then (bif Nat.beq m 43 then (13, I_X3_init) else J0) else (bif Nat.beq m 44 then (40, I_X3_add) else J0)))) else (bif Nat.blt m 48 then (bif Nat.blt m 46 then (bif Nat.beq m 45 then (32, I_X3_signAt) else J0) else (bif Nat.blt m 47 then (bif Nat.beq m 46 then (15, I_X0_isInRange) else J0) else (bif Nat.beq m 47 then (45, I_X3_isComplete) else J0))) else (bif Nat.blt m 50 then (bif Nat.blt m 49 then (bif Nat.beq m 48 then (35, I_X3_instructions) else J0) else (bif Nat.beq m 49 then (35, I_X3_nextInstruction) else J0)) else (bif Nat.blt m 51 then (bif Nat.beq m 50 then (159, I_X3_readInstruction) else J0) else (bif Nat.beq m 51 then (9, I_X3_registerAt) else J0))))))) else (bif Nat.blt m 78 then (bif Nat.blt m 65 then (bif Nat.blt m 58 then (bif Nat.blt m 55 then (bif Nat.blt m 53 then (bif Nat.beq m 52 then (9, I_X3_digitAt) else J0) else (bif Nat.blt m 54 then (bif Nat.beq m 53 then (62, I_X3_numberAt) else J0) else (bif Nat.beq m 54 then (15, I_X0_isInRange) else J0))) else (bif Nat.blt m 56 then (bif Nat.beq m 55 then (18, I_X3_isRegister) else J0) else (bif Nat.blt m 57 then (bif Nat.beq m 56 then (18, I_X3_isDigit) else J0) else (bif Nat.beq m 57 then (246, I_X3_next) else J0)))) else (bif Nat.blt m 61 then (bif Nat.blt m 59 then (bif Nat.beq m 58 then (13, I_X3_ifRegister) else J0) else (bif Nat.blt m 60 then (bif Nat.beq m 59 then (34, I_X3_nextOfRightSide) else J0) else (bif Nat.beq m 60 then (22, I_X3_nextOfNumber) else J0))) else (bif Nat.blt m 63 then (bif Nat.blt m 62 then (bif Nat.beq m 61 then (12, I_X3_nextOfEnd) else J0) else (bif Nat.beq m 62 then (84, I_X4_init) else J0)) else (bif Nat.blt m 64 then (bif Nat.beq m 63 then (55, I_X4_set) else J0) else (bif Nat.beq m 64 then (14, I_X4_putRegister) else J0))))) else (bif Nat.blt m 71 then (bif Nat.blt m 68 then (bif Nat.blt m 66 then (bif Nat.beq m 65 then (14, I_X4_putCell) else J0) else (bif Nat.blt m 67 then (bif Nat.beq m 66 then (60, I_X4_putValue) else J0) else (bif Nat.beq m 67 then (60, I_X4_run) else J0))) else (bif Nat.blt m 69 then (bif Nat.beq m 68 then (22, I_X4_checkCycles) else J0) else (bif Nat.blt m 70 then (bif Nat.beq m 69 then (28, I_X4_flush) else J0) else (bif Nat.beq m 70 then (21, I_X4_again) else J0)))) else (bif Nat.blt m 74 then (bif Nat.blt m 72 then (bif Nat.beq m 71 then (61, I_X4_append) else J0) else (bif Nat.blt m 73 then (bif Nat.beq m 72 then (18, I_X4_clearBuffer) else J0) else (bif Nat.beq m 73 then (15, I_X0_isInRange) else J0))) else (bif Nat.blt m 76 then (bif Nat.blt m 75 then (bif Nat.beq m 74 then (113, I_X4_load) else J0) else (bif Nat.beq m 75 then (15, I_X0_isInRange) else J0)) else (bif Nat.blt m 77 then (bif Nat.beq m 76 then (98, I_X4_saveState) else J0) else (bif Nat.beq m 77 then (32, I_X4_instruction) else J0)))))) else (bif Nat.blt m 91 then (bif Nat.blt m 84 then (bif Nat.blt m 81 then (bif Nat.blt m 79 then (bif Nat.beq m 78 then (37, I_X4_entry) else J0) else (bif Nat.blt m 80 then (bif Nat.beq m 79 then (29, I_X4_whyNot) else J0) else (bif Nat.beq m 80 then (29, I_X4_register) else J0))) else (bif Nat.blt m 82 then (bif Nat.beq m 81 then (29, I_X4_cell) else J0) else (bif Nat.blt m 83 then (bif Nat.beq m 82 then (29, I_X4_count) else J0) else (bif Nat.beq m 83 then (16, I_X4_setting) else J0)))) else (bif Nat.blt m 87 then (bif Nat.blt m 85 then (bif Nat.beq m 84 then (20, I_X4_checkPlace) else J0) else (bif Nat.blt m 86 then (bif Nat.beq m 85 then (20, I_X4_checkWhat) else J0) else (bif Nat.beq m 86 then (62, I_X4_registerFact) else J0))) else (bif Nat.blt m 89 then (bif Nat.blt m 88 then (bif Nat.beq m 87 then (24, I_X4_cellFact) else J0) else (bif Nat.beq m 88 then (22, I_X4_ifRun) else J0)) else (bif Nat.blt m 90 then (bif Nat.beq m 89 then (21, I_X4_cyclesLeft) else J0) else (bif Nat.beq m 90 then (17, I_X4_bestWindow) else J0))))) else (bif Nat.blt m 98 then (bif Nat.blt m 94 then (bif Nat.blt m 92 then (bif Nat.beq m 91 then (49, I_X4_worstLoad) else J0) else (bif Nat.blt m 93 then (bif Nat.beq m 92 then (32, I_X4_earlyShare) else J0) else (bif Nat.beq m 93 then (15, I_X0_isInRange) else J0))) else (bif Nat.blt m 96 then (bif Nat.blt m 95 then (bif Nat.beq m 94 then (15, I_X0_isInRange) else J0) else (bif Nat.beq m 95 then (15, I_X0_isInRange) else J0)) else (bif Nat.blt m 97 then (bif Nat.beq m 96 then (15, I_X0_isInRange) else J0) else (bif Nat.beq m 97 then (19, I_X4_rehearsePlainOrder) else J0)))) else (bif Nat.blt m 101 then (bif Nat.blt m 99 then (bif Nat.beq m 98 then (20, I_X4_rehearseCycles) else J0) else (bif Nat.blt m 100 then (bif Nat.beq m 99 then (68, I_X4_rehearsed) else J0) else (bif Nat.beq m 100 then (97, I_X4_rehearseWindows) else J0))) else (bif Nat.blt m 103 then (bif Nat.blt m 102 then (bif Nat.beq m 101 then (19, I_L_cell) else J0) else (bif Nat.beq m 102 then (6, I_L_at) else J0)) else (bif Nat.blt m 104 then (bif Nat.beq m 103 then (73, I_L_bits) else J0) else (bif Nat.beq m 104 then (12, I_L_plain) else J0)))))))) else (bif Nat.blt m 157 then (bif Nat.blt m 131 then (bif Nat.blt m 118 then (bif Nat.blt m 111 then (bif Nat.blt m 108 then (bif Nat.blt m 106 then (bif Nat.beq m 105 then (29, I_L_held) else J0) else (bif Nat.blt m 107 then (bif Nat.beq m 106 then (34, I_L_add) else J0) else (bif Nat.beq m 107 then (49, I_L_mul) else J0))) else (bif Nat.blt m 109 then (bif Nat.beq m 108 then (23, I_L_place) else J0) else (bif Nat.blt m 110 then (bif Nat.beq m 109 then (48, I_L_name) else J0) else (bif Nat.beq m 110 then (33, I_L_ready) else J0)))) else (bif Nat.blt m 114 then (bif Nat.blt m 112 then (bif Nat.beq m 111 then (33, I_L_value) else J0) else (bif Nat.blt m 113 then (bif Nat.beq m 112 then (135, I_L_why) else J0) else (bif Nat.beq m 113 then (493, I_L_done) else J0))) else (bif Nat.blt m 116 then (bif Nat.blt m 115 then (bif Nat.beq m 114 then (378, I_L_cycle) else J0) else (bif Nat.beq m 115 then (43, I_L_begin) else J0)) else (bif Nat.blt m 117 then (bif Nat.beq m 116 then (21, I_L_same) else J0) else (bif Nat.beq m 117 then (187, I_L_order) else J0))))) else (bif Nat.blt m 124 then (bif Nat.blt m 121 then (bif Nat.blt m 119 then (bif Nat.beq m 118 then (779, I_L_told) else J0) else (bif Nat.blt m 120 then (bif Nat.beq m 119 then (395, I_L_ahead) else J0) else (bif Nat.beq m 120 then (335, I_L_line) else J0))) else (bif Nat.blt m 122 then (bif Nat.beq m 121 then (298, I_L_load) else J0) else (bif Nat.blt m 123 then (bif Nat.beq m 122 then (373, I_L_act) else J0) else (bif Nat.beq m 123 then (15, I_X0_isInRange) else J0)))) else (bif Nat.blt m 127 then (bif Nat.blt m 125 then (bif Nat.beq m 124 then (15, I_X0_isInRange) else J0) else (bif Nat.blt m 126 then (bif Nat.beq m 125 then (15, I_X0_isInRange) else J0) else (bif Nat.beq m 126 then (15, I_X0_isInRange) else J0))) else (bif Nat.blt m 129 then (bif Nat.blt m 128 then (bif Nat.beq m 127 then (15, I_X0_isInRange) else J0) else (bif Nat.beq m 128 then (15, I_X0_isInRange) else J0)) else (bif Nat.blt m 130 then (bif Nat.beq m 129 then (15, I_X0_isInRange) else J0) else (bif Nat.beq m 130 then (15, I_X0_isInRange) else J0)))))) else (bif Nat.blt m 144 then (bif Nat.blt m 137 then (bif Nat.blt m 134 then (bif Nat.blt m 132 then (bif Nat.beq m 131 then (15, I_X0_isInRange) else J0) else (bif Nat.blt m 133 then (bif Nat.beq m 132 then (15, I_X0_isInRange) else J0) else (bif Nat.beq m 133 then (15, I_X0_isInRange) else J0))) else (bif Nat.blt m 135 then (bif Nat.beq m 134 then (15, I_X0_isInRange) else J0) else (bif Nat.blt m 136 then (bif Nat.beq m 135 then (15, I_X0_isInRange) else J0) else (bif Nat.beq m 136 then (15, I_X0_isInRange) else J0)))) else (bif Nat.blt m 140 then (bif Nat.blt m 138 then (bif Nat.beq m 137 then (15, I_X0_isInRange) else J0) else (bif Nat.blt m 139 then (bif Nat.beq m 138 then (15, I_X0_isInRange) else J0) else (bif Nat.beq m 139 then (15, I_X0_isInRange) else J0))) else (bif Nat.blt m 142 then (bif Nat.blt m 141 then (bif Nat.beq m 140 then (15, I_X0_isInRange) else J0) else (bif Nat.beq m 141 then (15, I_X0_isInRange) else J0)) else (bif Nat.blt m 143 then (bif Nat.beq m 142 then (15, I_X0_isInRange) else J0) else (bif Nat.beq m 143 then (15, I_X0_isInRange) else J0))))) else (bif Nat.blt m 150 then (bif Nat.blt m 147 then (bif Nat.blt m 145 then (bif Nat.beq m 144 then (15, I_X0_isInRange) else J0) else (bif Nat.blt m 146 then (bif Nat.beq m 145 then (15, I_X0_isInRange) else J0) else (bif Nat.beq m 146 then (15, I_X0_isInRange) else J0))) else (bif Nat.blt m 148 then (bif Nat.beq m 147 then (15, I_X0_isInRange) else J0) else (bif Nat.blt m 149 then (bif Nat.beq m 148 then (15, I_X0_isInRange) else J0) else (bif Nat.beq m 149 then (15, I_X0_isInRange) else J0)))) else (bif Nat.blt m 153 then (bif Nat.blt m 151 then (bif Nat.beq m 150 then (15, I_X0_isInRange) else J0) else (bif Nat.blt m 152 then (bif Nat.beq m 151 then (15, I_X0_isInRange) else J0) else (bif Nat.beq m 152 then (15, I_X0_isInRange) else J0))) else (bif Nat.blt m 155 then (bif Nat.blt m 154 then (bif Nat.beq m 153 then (15, I_X0_isInRange) else J0) else (bif Nat.beq m 154 then (15, I_X0_isInRange) else J0)) else (bif Nat.blt m 156 then (bif Nat.beq m 155 then (15, I_X0_isInRange) else J0) else (bif Nat.beq m 156 then (15, I_X0_isInRange) else J0))))))) else (bif Nat.blt m 183 then (bif Nat.blt m 170 then (bif Nat.blt m 163 then (bif Nat.blt m 160 then (bif Nat.blt m 158 then (bif Nat.beq m 157 then (15, I_X0_isInRange) else J0) else (bif Nat.blt m 159 then (bif Nat.beq m 158 then (15, I_X0_isInRange) else J0) else (bif Nat.beq m 159 then (15, I_X0_isInRange) else J0))) else (bif Nat.blt m 161 then (bif Nat.beq m 160 then (15, I_X0_isInRange) else J0) else (bif Nat.blt m 162 then (bif Nat.beq m 161 then (15, I_X0_isInRange) else J0) else (bif Nat.beq m 162 then (15, I_X0_isInRange) else J0)))) else (bif Nat.blt m 166 then (bif Nat.blt m 164 then (bif Nat.beq m 163 then (15, I_X0_isInRange) else J0) else (bif Nat.blt m 165 then (bif Nat.beq m 164 then (15, I_X0_isInRange) else J0) else (bif Nat.beq m 165 then (15, I_X0_isInRange) else J0))) else (bif Nat.blt m 168 then (bif Nat.blt m 167 then (bif Nat.beq m 166 then (15, I_X0_isInRange) else J0) else (bif Nat.beq m 167 then (15, I_X0_isInRange) else J0)) else (bif Nat.blt m 169 then (bif Nat.beq m 168 then (15, I_X0_isInRange) else J0) else (bif Nat.beq m 169 then (15, I_X0_isInRange) else J0))))) else (bif Nat.blt m 176 then (bif Nat.blt m 173 then (bif Nat.blt m 171 then (bif Nat.beq m 170 then (15, I_X0_isInRange) else J0) else (bif Nat.blt m 172 then (bif Nat.beq m 171 then (15, I_X0_isInRange) else J0) else (bif Nat.beq m 172 then (15, I_X0_isInRange) else J0))) else (bif Nat.blt m 174 then (bif Nat.beq m 173 then (15, I_X0_isInRange) else J0) else (bif Nat.blt m 175 then (bif Nat.beq m 174 then (15, I_X0_isInRange) else J0) else (bif Nat.beq m 175 then (15, I_X0_isInRange) else J0)))) else (bif Nat.blt m 179 then (bif Nat.blt m 177 then (bif Nat.beq m 176 then (15, I_X0_isInRange) else J0) else (bif Nat.blt m 178 then (bif Nat.beq m 177 then (15, I_X0_isInRange) else J0) else (bif Nat.beq m 178 then (15, I_X0_isInRange) else J0))) else (bif Nat.blt m 181 then (bif Nat.blt m 180 then (bif Nat.beq m 179 then (15, I_X0_isInRange) else J0) else (bif Nat.beq m 180 then (15, I_X0_isInRange) else J0)) else (bif Nat.blt m 182 then (bif Nat.beq m 181 then (15, I_X0_isInRange) else J0) else (bif Nat.beq m 182 then (15, I_X0_isInRange) else J0)))))) else (bif Nat.blt m 196 then (bif Nat.blt m 189 then (bif Nat.blt m 186 then (bif Nat.blt m 184 then (bif Nat.beq m 183 then (15, I_X0_isInRange) else J0) else (bif Nat.blt m 185 then (bif Nat.beq m 184 then (15, I_X0_isInRange) else J0) else (bif Nat.beq m 185 then (15, I_X0_isInRange) else J0))) else (bif Nat.blt m 187 then (bif Nat.beq m 186 then (15, I_X0_isInRange) else J0) else (bif Nat.blt m 188 then (bif Nat.beq m 187 then (15, I_X0_isInRange) else J0) else (bif Nat.beq m 188 then (15, I_X0_isInRange) else J0)))) else (bif Nat.blt m 192 then (bif Nat.blt m 190 then (bif Nat.beq m 189 then (15, I_X0_isInRange) else J0) else (bif Nat.blt m 191 then (bif Nat.beq m 190 then (15, I_X0_isInRange) else J0) else (bif Nat.beq m 191 then (15, I_X0_isInRange) else J0))) else (bif Nat.blt m 194 then (bif Nat.blt m 193 then (bif Nat.beq m 192 then (20, I_J9_floorMod_7cf53) else J0) else (bif Nat.beq m 193 then (15, I_X0_isInRange) else J0)) else (bif Nat.blt m 195 then (bif Nat.beq m 194 then (15, I_X0_isInRange) else J0) else (bif Nat.beq m 195 then (15, I_X0_isInRange) else J0))))) else (bif Nat.blt m 203 then (bif Nat.blt m 199 then (bif Nat.blt m 197 then (bif Nat.beq m 196 then (15, I_X0_isInRange) else J0) else (bif Nat.blt m 198 then (bif Nat.beq m 197 then (15, I_X0_isInRange) else J0) else (bif Nat.beq m 198 then (15, I_X0_isInRange) else J0))) else (bif Nat.blt m 201 then (bif Nat.blt m 200 then (bif Nat.beq m 199 then (15, I_X0_isInRange) else J0) else (bif Nat.beq m 200 then (15, I_X0_isInRange) else J0)) else (bif Nat.blt m 202 then (bif Nat.beq m 201 then (15, I_X0_isInRange) else J0) else (bif Nat.beq m 202 then (15, I_X0_isInRange) else J0)))) else (bif Nat.blt m 206 then (bif Nat.blt m 204 then (bif Nat.beq m 203 then (15, I_X0_isInRange) else J0) else (bif Nat.blt m 205 then (bif Nat.beq m 204 then (15, I_X0_isInRange) else J0) else (bif Nat.beq m 205 then (15, I_X0_isInRange) else J0))) else (bif Nat.blt m 208 then (bif Nat.blt m 207 then (bif Nat.beq m 206 then (15, I_X0_isInRange) else J0) else (bif Nat.beq m 207 then (15, I_X0_isInRange) else J0)) else (bif Nat.blt m 209 then (bif Nat.beq m 208 then (15, I_X0_isInRange) else J0) else (bif Nat.beq m 209 then (258, I_L_law) else J0))))))))
def I (m pc : Nat) : Option IE := bif Nat.blt m 210 then (bif Nat.blt pc (J m).1 then (J m).2 pc else none) else none
abbrev MT : Type := MethodName × ByteArray × Nat × Option FieldType × Nat × List Nat × List (Nat × Nat × Nat × Nat)
def mtab_0 : List MT := [(yX0_isInRange, cX0_isInRange, 1, (some .boolean), 0, [735, 734, 0, 23, 1], []),
  (yX0_valueOf, cX0_valueOf, 7, (some .float), 0, [432, 431, 0, 23, 1], []),
  (yX0_bitsOf, cX0_bitsOf, 7, (some .int), 0, [455, 454, 0, 23, 1], []),
  (yX0_result, cX0_result, 4, (some .int), 1, [445, 444, 0, 23, 1], []),
  (yX0_limited, cX0_limited, 1, (some .float), 0, [449, 448, 0, 23, 1], []),
  (yX0_isInRange, cX0_isInRange, 1, (some .boolean), 0, [735, 734, 0, 23, 1], []),
  (yX1_init, cX1_init, 1, none, 1, [45, 44, 0, 15, 2], []),
  (yX1_become, cX1_become, 6, none, 0, [415, 413, 414, 15, 0], []),
  (yX1_becomeLike, cX1_becomeLike, 2, none, 1, [411, 409, 410, 15, 0], []),
  (yX1_isDone, cX1_isDone, 2, (some .boolean), 0, [364, 362, 363, 15, 0], []),
  (yX1_endsItsWork, cX1_endsItsWork, 1, (some .boolean), 0, [538, 536, 537, 15, 0], []),
  (yX1_cyclesNeeded, cX1_cyclesNeeded, 1, (some .int), 0, [570, 568, 569, 15, 0], []),
  (yX1_part, cX1_part, 2, (some .int), 0, [350, 348, 349, 15, 0], []),
  (yX2_init, cX2_init, 2, none, 2, [38, 37, 0, 14, 2], []),
  (yX2_greatest, cX2_greatest, 1, (some .int), 0, [723, 722, 0, 14, 1], []),
  (yX2_becomeLike, cX2_becomeLike, 3, none, 2, [407, 405, 406, 14, 0], []),
  (yX2_beginAnew, cX2_beginAnew, 3, none, 1, [601, 599, 600, 14, 0], []),
  (yX2_at, cX2_at, 2, (some (.object "AlibiWindow$Instruction")), 0, [346, 344, 345, 14, 0], []),
  (yX2_registerBits, cX2_registerBits, 2, (some .int), 0, [426, 424, 425, 14, 0], []),
  (yX2_cellBits, cX2_cellBits, 2, (some .int), 0, [442, 440, 441, 14, 0], []),
  (yX2_put, cX2_put, 2, none, 0, [464, 462, 463, 14, 0], []),
  (yX2_entries, cX2_entries, 1, (some .int), 0, [278, 276, 277, 14, 0], []),
  (yX2_isFinished, cX2_isFinished, 1, (some .boolean), 0, [282, 280, 281, 14, 0], []),
  (yX2_number, cX2_number, 2, (some .int), 1, [274, 272, 273, 14, 0], []),
  (yX2_property, cX2_property, 5, (some .int), 3, [359, 357, 358, 14, 0], []),
  (yX2_hindrance, cX2_hindrance, 3, (some .int), 2, [368, 366, 367, 14, 0], []),
  (yX2_isReady, cX2_isReady, 2, (some .boolean), 1, [372, 370, 371, 14, 0], []),
  (yX2_hasOpenStoreAhead, cX2_hasOpenStoreAhead, 4, (some .boolean), 1, [376, 374, 375, 14, 0], []),
  (yX2_latestMaker, cX2_latestMaker, 4, (some .int), 1, [473, 471, 472, 14, 0], []),
  (yX2_latestStore, cX2_latestStore, 5, (some .int), 1, [554, 552, 553, 14, 0], [])]
def mtab_1 : List MT := [(yX2_passCycles, cX2_passCycles, 3, none, 5, [526, 524, 525, 14, 0], []),
  (yX2_cyclesToEnd, cX2_cyclesToEnd, 3, (some .int), 5, [588, 586, 587, 14, 0], []),
  (yX2_passCycle, cX2_passCycle, 2, none, 4, [530, 528, 529, 14, 0], []),
  (yX2_retireEntries, cX2_retireEntries, 3, none, 1, [534, 532, 533, 14, 0], []),
  (yX2_finish, cX2_finish, 5, none, 3, [542, 540, 541, 14, 0], []),
  (yX2_operand, cX2_operand, 3, (some .int), 1, [546, 544, 545, 14, 0], []),
  (yX2_finishLoad, cX2_finishLoad, 4, none, 2, [550, 548, 549, 14, 0], []),
  (yX2_breakAlibis, cX2_breakAlibis, 5, none, 2, [558, 556, 557, 14, 0], []),
  (yX2_replay, cX2_replay, 4, none, 1, [562, 560, 561, 14, 0], []),
  (yX2_startEntries, cX2_startEntries, 4, none, 3, [566, 564, 565, 14, 0], []),
  (yX2_issueInstructions, cX2_issueInstructions, 3, none, 2, [574, 572, 573, 14, 0], []),
  (yX2_carryOutPlainly, cX2_carryOutPlainly, 5, none, 2, [422, 420, 421, 14, 0], []),
  (yX2_placeOf, cX2_placeOf, 2, (some .int), 1, [429, 428, 0, 14, 1], []),
  (yX3_init, cX3_init, 1, none, 1, [165, 164, 0, 16, 2], []),
  (yX3_add, cX3_add, 2, none, 0, [639, 637, 638, 16, 0], []),
  (yX3_signAt, cX3_signAt, 2, (some .char), 0, [651, 649, 650, 16, 0], []),
  (yX0_isInRange, cX0_isInRange, 1, (some .boolean), 0, [735, 734, 0, 23, 1], []),
  (yX3_isComplete, cX3_isComplete, 3, (some .boolean), 4, [647, 645, 646, 16, 0], []),
  (yX3_instructions, cX3_instructions, 3, (some .int), 1, [677, 675, 676, 16, 0], []),
  (yX3_nextInstruction, cX3_nextInstruction, 3, (some .int), 1, [703, 701, 702, 16, 0], []),
  (yX3_readInstruction, cX3_readInstruction, 4, none, 3, [686, 684, 685, 16, 0], []),
  (yX3_registerAt, cX3_registerAt, 2, (some .int), 1, [690, 688, 689, 16, 0], []),
  (yX3_digitAt, cX3_digitAt, 2, (some .int), 1, [694, 692, 693, 16, 0], []),
  (yX3_numberAt, cX3_numberAt, 4, (some .int), 2, [699, 697, 698, 16, 0], []),
  (yX0_isInRange, cX0_isInRange, 1, (some .boolean), 0, [735, 734, 0, 23, 1], []),
  (yX3_isRegister, cX3_isRegister, 1, (some .boolean), 0, [660, 659, 0, 16, 1], []),
  (yX3_isDigit, cX3_isDigit, 1, (some .boolean), 0, [669, 668, 0, 16, 1], []),
  (yX3_next, cX3_next, 2, (some .int), 3, [654, 653, 0, 16, 1], []),
  (yX3_ifRegister, cX3_ifRegister, 2, (some .int), 1, [657, 656, 0, 16, 1], []),
  (yX3_nextOfRightSide, cX3_nextOfRightSide, 1, (some .int), 2, [663, 662, 0, 16, 1], [])]
def mtab_2 : List MT := [(yX3_nextOfNumber, cX3_nextOfNumber, 1, (some .int), 1, [666, 665, 0, 16, 1], []),
  (yX3_nextOfEnd, cX3_nextOfEnd, 1, (some .int), 0, [672, 671, 0, 16, 1], []),
  (yX4_init, cX4_init, 2, none, 3, [30, 29, 0, 13, 2], []),
  (yX4_set, cX4_set, 4, (some .int), 7, [720, 718, 719, 13, 0], []),
  (yX4_putRegister, cX4_putRegister, 3, (some .int), 8, [728, 726, 727, 13, 0], []),
  (yX4_putCell, cX4_putCell, 3, (some .int), 8, [742, 740, 741, 13, 0], []),
  (yX4_putValue, cX4_putValue, 5, (some .int), 7, [732, 731, 11, 13, 0], []),
  (yX4_run, cX4_run, 3, (some .int), 7, [707, 705, 706, 13, 0], []),
  (yX4_checkCycles, cX4_checkCycles, 2, none, 6, [517, 516, 6, 13, 0], []),
  (yX4_flush, cX4_flush, 2, (some .int), 4, [712, 710, 711, 13, 0], []),
  (yX4_again, cX4_again, 2, (some .int), 4, [716, 714, 715, 13, 0], []),
  (yX4_append, cX4_append, 2, (some .int), 6, [618, 616, 617, 13, 0], []),
  (yX4_clearBuffer, cX4_clearBuffer, 2, (some .int), 0, [611, 609, 610, 13, 0], []),
  (yX0_isInRange, cX0_isInRange, 1, (some .boolean), 0, [735, 734, 0, 23, 1], []),
  (yX4_load, cX4_load, 4, (some .int), 6, [643, 641, 642, 13, 0], []),
  (yX0_isInRange, cX0_isInRange, 1, (some .boolean), 0, [735, 734, 0, 23, 1], []),
  (yX4_saveState, cX4_saveState, 3, none, 3, [682, 681, 10, 13, 0], []),
  (yX4_instruction, cX4_instruction, 3, (some .int), 7, [322, 320, 321, 13, 0], []),
  (yX4_entry, cX4_entry, 3, (some .int), 7, [354, 352, 353, 13, 0], []),
  (yX4_whyNot, cX4_whyNot, 2, (some .int), 7, [394, 392, 393, 13, 0], []),
  (yX4_register, cX4_register, 3, (some .int), 7, [399, 397, 398, 13, 0], []),
  (yX4_cell, cX4_cell, 3, (some .int), 7, [477, 475, 476, 13, 0], []),
  (yX4_count, cX4_count, 2, (some .int), 7, [198, 196, 197, 13, 0], []),
  (yX4_setting, cX4_setting, 2, (some .int), 7, [486, 484, 485, 13, 0], []),
  (yX4_checkPlace, cX4_checkPlace, 3, none, 6, [326, 325, 2, 13, 0], []),
  (yX4_checkWhat, cX4_checkWhat, 3, none, 6, [202, 201, 0, 13, 0], []),
  (yX4_registerFact, cX4_registerFact, 3, (some .int), 2, [468, 467, 4, 13, 0], []),
  (yX4_cellFact, cX4_cellFact, 3, (some .int), 1, [481, 480, 5, 13, 0], []),
  (yX4_ifRun, cX4_ifRun, 3, (some .int), 7, [513, 511, 512, 13, 0], []),
  (yX4_cyclesLeft, cX4_cyclesLeft, 1, (some .int), 6, [583, 581, 582, 13, 0], [])]
def mtab_3 : List MT := [(yX4_bestWindow, cX4_bestWindow, 2, (some .int), 7, [593, 591, 592, 13, 0], []),
  (yX4_worstLoad, cX4_worstLoad, 5, (some .int), 1, [490, 488, 489, 13, 0], []),
  (yX4_earlyShare, cX4_earlyShare, 1, (some .double), 0, [494, 492, 493, 13, 0], []),
  (yX0_isInRange, cX0_isInRange, 1, (some .boolean), 0, [735, 734, 0, 23, 1], []),
  (yX0_isInRange, cX0_isInRange, 1, (some .boolean), 0, [735, 734, 0, 23, 1], []),
  (yX0_isInRange, cX0_isInRange, 1, (some .boolean), 0, [735, 734, 0, 23, 1], []),
  (yX0_isInRange, cX0_isInRange, 1, (some .boolean), 0, [735, 734, 0, 23, 1], []),
  (yX4_rehearsePlainOrder, cX4_rehearsePlainOrder, 1, none, 3, [403, 402, 3, 13, 0], []),
  (yX4_rehearseCycles, cX4_rehearseCycles, 2, none, 6, [522, 521, 7, 13, 0], []),
  (yX4_rehearsed, cX4_rehearsed, 2, (some .int), 1, [579, 578, 8, 13, 0], []),
  (yX4_rehearseWindows, cX4_rehearseWindows, 4, none, 6, [597, 596, 9, 13, 0], []),
  (yL_cell, cL_cell, 2, (some .int), 0, [285, 284, 0, 12, 1], []),
  (yL_at, cL_at, 2, (some .int), 0, [289, 288, 0, 12, 1], []),
  (yL_bits, cL_bits, 4, (some .int), 0, [382, 381, 0, 12, 1], []),
  (yL_plain, cL_plain, 1, (some .int), 0, [305, 304, 0, 12, 1], []),
  (yL_held, cL_held, 2, (some .int), 0, [308, 307, 0, 12, 1], []),
  (yL_add, cL_add, 2, (some .int), 1, [301, 300, 0, 12, 1], []),
  (yL_mul, cL_mul, 3, (some .int), 1, [315, 314, 0, 12, 1], []),
  (yL_place, cL_place, 3, (some .int), 1, [318, 317, 0, 12, 1], []),
  (yL_name, cL_name, 5, (some .int), 0, [379, 378, 0, 12, 1], []),
  (yL_ready, cL_ready, 5, (some .boolean), 1, [390, 389, 0, 12, 1], []),
  (yL_value, cL_value, 6, (some .int), 1, [509, 508, 0, 12, 1], []),
  (yL_why, cL_why, 6, (some .int), 2, [387, 386, 0, 12, 1], []),
  (yL_done, cL_done, 12, none, 2, [506, 505, 0, 12, 1], []),
  (yL_cycle, cL_cycle, 9, (some .int), 3, [503, 502, 0, 12, 1], []),
  (yL_begin, cL_begin, 3, none, 0, [500, 499, 0, 12, 1], []),
  (yL_same, cL_same, 3, none, 0, [295, 294, 0, 12, 1], []),
  (yL_order, cL_order, 7, none, 2, [298, 297, 0, 12, 1], []),
  (yL_told, cL_told, 15, (some .boolean), 8, [292, 291, 0, 12, 1], []),
  (yL_ahead, cL_ahead, 21, (some .boolean), 8, [497, 496, 0, 12, 1], [])]
def mtab_4 : List MT := [(yL_line, cL_line, 5, (some .boolean), 7, [614, 613, 0, 12, 1], []),
  (yL_load, cL_load, 8, (some .boolean), 8, [607, 606, 0, 12, 1], []),
  (yL_act, cL_act, 13, (some .boolean), 9, [604, 603, 0, 12, 1], []),
  (yX0_isInRange, cX0_isInRange, 1, (some .boolean), 0, [735, 734, 0, 23, 1], []),
  (yX0_isInRange, cX0_isInRange, 1, (some .boolean), 0, [735, 734, 0, 23, 1], []),
  (yX0_isInRange, cX0_isInRange, 1, (some .boolean), 0, [735, 734, 0, 23, 1], []),
  (yX0_isInRange, cX0_isInRange, 1, (some .boolean), 0, [735, 734, 0, 23, 1], []),
  (yX0_isInRange, cX0_isInRange, 1, (some .boolean), 0, [735, 734, 0, 23, 1], []),
  (yX0_isInRange, cX0_isInRange, 1, (some .boolean), 0, [735, 734, 0, 23, 1], []),
  (yX0_isInRange, cX0_isInRange, 1, (some .boolean), 0, [735, 734, 0, 23, 1], []),
  (yX0_isInRange, cX0_isInRange, 1, (some .boolean), 0, [735, 734, 0, 23, 1], []),
  (yX0_isInRange, cX0_isInRange, 1, (some .boolean), 0, [735, 734, 0, 23, 1], []),
  (yX0_isInRange, cX0_isInRange, 1, (some .boolean), 0, [735, 734, 0, 23, 1], []),
  (yX0_isInRange, cX0_isInRange, 1, (some .boolean), 0, [735, 734, 0, 23, 1], []),
  (yX0_isInRange, cX0_isInRange, 1, (some .boolean), 0, [735, 734, 0, 23, 1], []),
  (yX0_isInRange, cX0_isInRange, 1, (some .boolean), 0, [735, 734, 0, 23, 1], []),
  (yX0_isInRange, cX0_isInRange, 1, (some .boolean), 0, [735, 734, 0, 23, 1], []),
  (yX0_isInRange, cX0_isInRange, 1, (some .boolean), 0, [735, 734, 0, 23, 1], []),
  (yX0_isInRange, cX0_isInRange, 1, (some .boolean), 0, [735, 734, 0, 23, 1], []),
  (yX0_isInRange, cX0_isInRange, 1, (some .boolean), 0, [735, 734, 0, 23, 1], []),
  (yX0_isInRange, cX0_isInRange, 1, (some .boolean), 0, [735, 734, 0, 23, 1], []),
  (yX0_isInRange, cX0_isInRange, 1, (some .boolean), 0, [735, 734, 0, 23, 1], []),
  (yX0_isInRange, cX0_isInRange, 1, (some .boolean), 0, [735, 734, 0, 23, 1], []),
  (yX0_isInRange, cX0_isInRange, 1, (some .boolean), 0, [735, 734, 0, 23, 1], []),
  (yX0_isInRange, cX0_isInRange, 1, (some .boolean), 0, [735, 734, 0, 23, 1], []),
  (yX0_isInRange, cX0_isInRange, 1, (some .boolean), 0, [735, 734, 0, 23, 1], []),
  (yX0_isInRange, cX0_isInRange, 1, (some .boolean), 0, [735, 734, 0, 23, 1], []),
  (yX0_isInRange, cX0_isInRange, 1, (some .boolean), 0, [735, 734, 0, 23, 1], []),
  (yX0_isInRange, cX0_isInRange, 1, (some .boolean), 0, [735, 734, 0, 23, 1], []),
  (yX0_isInRange, cX0_isInRange, 1, (some .boolean), 0, [735, 734, 0, 23, 1], [])]
def mtab_5 : List MT := [(yX0_isInRange, cX0_isInRange, 1, (some .boolean), 0, [735, 734, 0, 23, 1], []),
  (yX0_isInRange, cX0_isInRange, 1, (some .boolean), 0, [735, 734, 0, 23, 1], []),
  (yX0_isInRange, cX0_isInRange, 1, (some .boolean), 0, [735, 734, 0, 23, 1], []),
  (yX0_isInRange, cX0_isInRange, 1, (some .boolean), 0, [735, 734, 0, 23, 1], []),
  (yX0_isInRange, cX0_isInRange, 1, (some .boolean), 0, [735, 734, 0, 23, 1], []),
  (yX0_isInRange, cX0_isInRange, 1, (some .boolean), 0, [735, 734, 0, 23, 1], []),
  (yX0_isInRange, cX0_isInRange, 1, (some .boolean), 0, [735, 734, 0, 23, 1], []),
  (yX0_isInRange, cX0_isInRange, 1, (some .boolean), 0, [735, 734, 0, 23, 1], []),
  (yX0_isInRange, cX0_isInRange, 1, (some .boolean), 0, [735, 734, 0, 23, 1], []),
  (yX0_isInRange, cX0_isInRange, 1, (some .boolean), 0, [735, 734, 0, 23, 1], []),
  (yX0_isInRange, cX0_isInRange, 1, (some .boolean), 0, [735, 734, 0, 23, 1], []),
  (yX0_isInRange, cX0_isInRange, 1, (some .boolean), 0, [735, 734, 0, 23, 1], []),
  (yX0_isInRange, cX0_isInRange, 1, (some .boolean), 0, [735, 734, 0, 23, 1], []),
  (yX0_isInRange, cX0_isInRange, 1, (some .boolean), 0, [735, 734, 0, 23, 1], []),
  (yX0_isInRange, cX0_isInRange, 1, (some .boolean), 0, [735, 734, 0, 23, 1], []),
  (yX0_isInRange, cX0_isInRange, 1, (some .boolean), 0, [735, 734, 0, 23, 1], []),
  (yX0_isInRange, cX0_isInRange, 1, (some .boolean), 0, [735, 734, 0, 23, 1], []),
  (yX0_isInRange, cX0_isInRange, 1, (some .boolean), 0, [735, 734, 0, 23, 1], []),
  (yX0_isInRange, cX0_isInRange, 1, (some .boolean), 0, [735, 734, 0, 23, 1], []),
  (yX0_isInRange, cX0_isInRange, 1, (some .boolean), 0, [735, 734, 0, 23, 1], []),
  (yX0_isInRange, cX0_isInRange, 1, (some .boolean), 0, [735, 734, 0, 23, 1], []),
  (yX0_isInRange, cX0_isInRange, 1, (some .boolean), 0, [735, 734, 0, 23, 1], []),
  (yX0_isInRange, cX0_isInRange, 1, (some .boolean), 0, [735, 734, 0, 23, 1], []),
  (yX0_isInRange, cX0_isInRange, 1, (some .boolean), 0, [735, 734, 0, 23, 1], []),
  (yX0_isInRange, cX0_isInRange, 1, (some .boolean), 0, [735, 734, 0, 23, 1], []),
  (yX0_isInRange, cX0_isInRange, 1, (some .boolean), 0, [735, 734, 0, 23, 1], []),
  (yX0_isInRange, cX0_isInRange, 1, (some .boolean), 0, [735, 734, 0, 23, 1], []),
  (yX0_isInRange, cX0_isInRange, 1, (some .boolean), 0, [735, 734, 0, 23, 1], []),
  (yX0_isInRange, cX0_isInRange, 1, (some .boolean), 0, [735, 734, 0, 23, 1], []),
  (yX0_isInRange, cX0_isInRange, 1, (some .boolean), 0, [735, 734, 0, 23, 1], [])]
def mtab_6 : List MT := [(yX0_isInRange, cX0_isInRange, 1, (some .boolean), 0, [735, 734, 0, 23, 1], []),
  (yX0_isInRange, cX0_isInRange, 1, (some .boolean), 0, [735, 734, 0, 23, 1], []),
  (yX0_isInRange, cX0_isInRange, 1, (some .boolean), 0, [735, 734, 0, 23, 1], []),
  (yX0_isInRange, cX0_isInRange, 1, (some .boolean), 0, [735, 734, 0, 23, 1], []),
  (yX0_isInRange, cX0_isInRange, 1, (some .boolean), 0, [735, 734, 0, 23, 1], []),
  (yX0_isInRange, cX0_isInRange, 1, (some .boolean), 0, [735, 734, 0, 23, 1], []),
  (yX0_isInRange, cX0_isInRange, 1, (some .boolean), 0, [735, 734, 0, 23, 1], []),
  (yX0_isInRange, cX0_isInRange, 1, (some .boolean), 0, [735, 734, 0, 23, 1], []),
  (yX0_isInRange, cX0_isInRange, 1, (some .boolean), 0, [735, 734, 0, 23, 1], []),
  (yX0_isInRange, cX0_isInRange, 1, (some .boolean), 0, [735, 734, 0, 23, 1], []),
  (yX0_isInRange, cX0_isInRange, 1, (some .boolean), 0, [735, 734, 0, 23, 1], []),
  (yX0_isInRange, cX0_isInRange, 1, (some .boolean), 0, [735, 734, 0, 23, 1], []),
  (yJ9_floorMod_7cf53, cJ9_floorMod_7cf53, 3, (some .int), 0, [438, 437, 0, 24, 1], []),
  (yX0_isInRange, cX0_isInRange, 1, (some .boolean), 0, [735, 734, 0, 23, 1], []),
  (yX0_isInRange, cX0_isInRange, 1, (some .boolean), 0, [735, 734, 0, 23, 1], []),
  (yX0_isInRange, cX0_isInRange, 1, (some .boolean), 0, [735, 734, 0, 23, 1], []),
  (yX0_isInRange, cX0_isInRange, 1, (some .boolean), 0, [735, 734, 0, 23, 1], []),
  (yX0_isInRange, cX0_isInRange, 1, (some .boolean), 0, [735, 734, 0, 23, 1], []),
  (yX0_isInRange, cX0_isInRange, 1, (some .boolean), 0, [735, 734, 0, 23, 1], []),
  (yX0_isInRange, cX0_isInRange, 1, (some .boolean), 0, [735, 734, 0, 23, 1], []),
  (yX0_isInRange, cX0_isInRange, 1, (some .boolean), 0, [735, 734, 0, 23, 1], []),
  (yX0_isInRange, cX0_isInRange, 1, (some .boolean), 0, [735, 734, 0, 23, 1], []),
  (yX0_isInRange, cX0_isInRange, 1, (some .boolean), 0, [735, 734, 0, 23, 1], []),
  (yX0_isInRange, cX0_isInRange, 1, (some .boolean), 0, [735, 734, 0, 23, 1], []),
  (yX0_isInRange, cX0_isInRange, 1, (some .boolean), 0, [735, 734, 0, 23, 1], []),
  (yX0_isInRange, cX0_isInRange, 1, (some .boolean), 0, [735, 734, 0, 23, 1], []),
  (yX0_isInRange, cX0_isInRange, 1, (some .boolean), 0, [735, 734, 0, 23, 1], []),
  (yX0_isInRange, cX0_isInRange, 1, (some .boolean), 0, [735, 734, 0, 23, 1], []),
  (yX0_isInRange, cX0_isInRange, 1, (some .boolean), 0, [735, 734, 0, 23, 1], []),
  (yL_law, cL_law, 12, (some .boolean), 10, [], [])]
def mtab : List MT := mtab_0 ++ (mtab_1 ++ (mtab_2 ++ (mtab_3 ++ (mtab_4 ++ (mtab_5 ++ (mtab_6))))))
def mt0 : MT := (⟨"", "", ""⟩, ⟨#[]⟩, 0, none, 0, [], [])
def mtg (m : Nat) : MT := mtab.getD m mt0
def yM (m : Nat) : MethodName := (mtg m).1
def cM (m : Nat) : ByteArray := (mtg m).2.1
def xM (m : Nat) : Nat := (mtg m).2.2.1
def rM (m : Nat) : Option FieldType := (mtg m).2.2.2.1
def fM (m : Nat) : Nat := (mtg m).2.2.2.2.1
def wM (m : Nat) (k : Nat) : Nat := (mtg m).2.2.2.2.2.1.getD k 0
def hM (m : Nat) : List (Nat × Nat × Nat × Nat) := (mtg m).2.2.2.2.2.2
end
section
/-- what a field of an object holds: 0 an int, 1 a reference, 2 a long -/
def fty (ci k : Nat) : Nat := bif Nat.beq ci 0 then 0 else bif Nat.beq ci 1 then (bif Nat.blt k 5 then 1 else 0) else bif Nat.beq ci 2 then (bif Nat.beq k 0 then 1 else 0) else bif Nat.beq ci 3 then (bif Nat.blt k 5 then 1 else 0) else (bif Nat.blt k 11 then 1 else bif Nat.beq k 19 then 2 else 0)
/-- all words that a method may use -/
def lw_all : List Jvm.Cond := lw_tbl.filter goodWord
theorem lw_all_tbl {w : Jvm.Cond} (h : w ∈ lw_all) : w ∈ lw_tbl := (List.mem_filter.mp h).1
def gw (i : Nat) (w : Jvm.Cond) : Bool := decide (lw_tbl[i]? = some w) && goodWord w
theorem gw_in {i : Nat} {w : Jvm.Cond} (h : gw i w = true) : w ∈ lw_all := by
  unfold gw at h
  rw [Bool.and_eq_true, decide_eq_true_eq] at h
  exact List.mem_filter.mpr ⟨List.mem_of_getElem? h.1, h.2⟩
/-- a class of ours by its number -/
def clsOf (ci : Nat) : vw_C := vwCl.getD ci ("", fun _ => ("", "", "", false), 0)
def kty (k : Nat) : FieldType := match k with | 5 => .char | 6 => .int | 7 => .object RX1 | 8 => .object RX2 | _ => .long
def excN (E : Nat) : String := match E with | 1 => "java/lang/IndexOutOfBoundsException" | 2 => "java/lang/IllegalArgumentException" | _ => "java/lang/IllegalStateException"
def excP : List String := ["java/lang/RuntimeException", "java/lang/Exception"]
def objI : MethodName := ⟨"java/lang/Object", "<init>", "()V"⟩
def natN (k : Nat) : MethodName := match k with | 5 => ⟨"java/lang/System", "arraycopy", "(Ljava/lang/Object;ILjava/lang/Object;II)V"⟩ | 6 => ⟨"java/lang/Float", "intBitsToFloat", "(I)F"⟩ | 7 => ⟨"java/lang/Float", "floatToRawIntBits", "(F)I"⟩ | _ => ⟨"java/lang/Double", "doubleToRawLongBits", "(D)J"⟩
def hasW (w : Jvm.Cond) : Bool := decide (w ∈ lw_tbl) && goodWord w
def ownM (m : Nat) : String := (yM m).cls
/-- words that a world carries by itself -/
def nestW : List Jvm.Cond := [.methodLinkNest RX2 17 yX1_init "AlibiWindow", .methodLinkNest RX4 25 yX3_init "AlibiWindow", .arrayOver (.object RX1), .arrayOver (.object RX2)]
def nw (w : Jvm.Cond) : Bool := decide (w ∈ nestW)
/-- what a call needs of the tables, by its kind -/
def chkCall (m pc idx : Nat) (aux : List Nat) : Bool := match aux with
  | kd :: y :: na :: wl :: rest => match kd with
    | 3 => gw wl (.methodLink (ownM m) idx objI) && Nat.ble 1 (fM m)
    | 5 => gw wl (.methodLink (ownM m) idx (natN 5)) && Nat.ble 1 (fM m)
    | 6 => gw wl (.methodLink (ownM m) idx (natN 6)) && Nat.ble 1 (fM m)
    | 7 => gw wl (.methodLink (ownM m) idx (natN 7)) && Nat.ble 1 (fM m)
    | 8 => gw wl (.methodLink (ownM m) idx (natN 8)) && Nat.ble 1 (fM m)
    | 4 => nw (.methodLinkNest (ownM m) idx (yM y) "AlibiWindow") && (decide (xM y = rest.getD 1 0) && (decide ((parseMethodDescriptor (yM y).desc).map (fun d => d.parameters.length) = some na) && (Nat.blt (fM y) (fM m) && (Nat.blt y 209 && (Nat.beq (wM y 4) 2 && (decide ((clsOf (rest.getD 0 0)).1 = (yM y).cls) && Nat.blt (rest.getD 0 9) 4))))))
    | 2 => gw wl (.methodLink (ownM m) idx (yM y)) && (decide (xM y = rest.getD 1 0) && (decide ((parseMethodDescriptor (yM y).desc).map (fun d => d.parameters.length) = some na) && (Nat.blt (fM y) (fM m) && (Nat.blt y 209 && (Nat.beq (wM y 4) 2 && (decide ((clsOf (rest.getD 0 0)).1 = (yM y).cls) && Nat.blt (rest.getD 0 9) 4))))))
    | 0 => gw wl (.methodLink (ownM m) idx (yM y)) && (decide (xM y = rest.getD 1 0) && (decide ((parseMethodDescriptor (yM y).desc).map (fun d => d.parameters.length) = some na) && (Nat.blt (fM y) (fM m) && (Nat.blt y 209 && (Nat.beq (wM y 4) 0 && (decide ((clsOf (rest.getD 0 0)).1 = (yM y).cls) && Nat.blt (rest.getD 0 9) 4))))))
    | 1 => gw wl (.methodLink (ownM m) idx (yM y)) && (decide (xM y = rest.getD 1 0) && (decide ((parseMethodDescriptor (yM y).desc).map (fun d => d.parameters.length) = some na) && (Nat.blt (fM y) (fM m) && (Nat.blt y 209 && Nat.beq (wM y 4) 1))))
    | _ => false
  | _ => false
def tabOk (pc : Nat) : Int → List Int → List Nat → Bool
  | _, [], [] => true
  | i, o :: os, k :: t :: r => decide ((k : Int) = i) && (decide ((pc : Int) + o = (t : Int)) && tabOk pc (i + 1) os r)
  | _, _, _ => false
def lookOk (pc : Nat) : List (Int × Int) → List Nat → Bool
  | [], [] => true
  | q :: os, k :: t :: r => decide ((k : Int) = q.1) && (decide ((pc : Int) + q.2 = (t : Int)) && lookOk pc os r)
  | _, _ => false
/-- what 'throw new E(text)' needs -/
def chkThrow (m pc idx E wl si ii ws : Nat) : Bool := gw wl (.classLink (ownM m) idx (excN E)) && Nat.ble 6 (fM m) && Nat.blt 0 E && Nat.blt E 4 && Nat.blt m 209 && (hM m).isEmpty && decide (decode (cM m) (pc + 3) = .ok (.dup, 1)) && decide (decode (cM m) (pc + 4) = .ok (.ldc si, 2)) && decide (decode (cM m) (pc + 6) = .ok (.invokespecial ii, 3)) && decide (decode (cM m) (pc + 9) = .ok (.athrow, 1)) && decide (ownM m = RX4) && Nat.beq ii (match E with | 1 => 186 | 2 => 46 | _ => 81) && (match lw_tbl[ws]? with | some (.stringRef o k _) => decide (o = ownM m) && decide (k = si) | _ => false)
def chk (m pc len : Nat) (ins : Instr) (aux : List Nat) : Bool := match ins with
  | .istore_n k => Nat.beq len 1 && Nat.blt k (xM m)
  | .fstore_n k => Nat.beq len 1 && Nat.blt k (xM m)
  | .astore_n k => Nat.beq len 1 && Nat.blt k (xM m)
  | .lstore_n k => Nat.beq len 1 && Nat.blt (k + 1) (xM m)
  | .dstore_n k => Nat.beq len 1 && Nat.blt (k + 1) (xM m)
  | .istore k => Nat.beq len 2 && Nat.blt k (xM m)
  | .fstore k => Nat.beq len 2 && Nat.blt k (xM m)
  | .astore k => Nat.beq len 2 && Nat.blt k (xM m)
  | .dstore k => Nat.beq len 2 && Nat.blt (k + 1) (xM m)
  | .iinc k _ => Nat.beq len 3 && Nat.blt k (xM m)
  | .iload _ => Nat.beq len 2
  | .fload _ => Nat.beq len 2
  | .dload _ => Nat.beq len 2
  | .aload _ => Nat.beq len 2
  | .bipush _ => Nat.beq len 2
  | .sipush _ => Nat.beq len 3
  | .ldc idx => Nat.beq len 2 && (match aux with | 0 :: v :: wl :: _ => gw wl (.constant (ownM m) idx (Int32.ofNat v)) | 1 :: v :: wl :: _ => gw wl (.constantFloat (ownM m) idx (UInt32.ofNat v)) | _ => true)
  | .ldc2_w idx => Nat.beq len 3 && (match aux with | 2 :: v :: wl :: _ => gw wl (.constantLong (ownM m) idx (Int64.ofNat v)) | 3 :: v :: wl :: _ => gw wl (.constantDouble (ownM m) idx (UInt64.ofNat v)) | _ => false)
  | .ifCond _ off => Nat.beq len 3 && decide ((pc : Int) + off = ((aux.getD 0 0 : Nat) : Int))
  | .if_icmp _ off => Nat.beq len 3 && decide ((pc : Int) + off = ((aux.getD 0 0 : Nat) : Int))
  | .goto off => Nat.beq len 3 && decide ((pc : Int) + off = ((aux.getD 0 0 : Nat) : Int))
  | .tableswitch d lo hi offs => decide ((pc : Int) + d = ((aux.getD 0 0 : Nat) : Int)) && (decide (0 ≤ lo) && (decide (hi < 2147483648) && (decide ((offs.toList.length : Int) = hi - lo + 1) && tabOk pc lo offs.toList aux.tail)))
  | .lookupswitch d ps => decide ((pc : Int) + d = ((aux.getD 0 0 : Nat) : Int)) && ((ps.toList.zip (ps.toList.drop 1)).all (fun (a, next) => a.1 < next.1) && (ps.toList.all (fun q => decide (0 ≤ q.1 ∧ q.1 < 2147483648)) && lookOk pc ps.toList aux.tail))
  | .getfield idx => Nat.beq len 3 && (match aux with
    | ci :: k :: tag :: wl :: _ => Nat.blt ci 4 && (Nat.blt k (clsOf ci).2.2 && (Nat.beq tag (fty ci k) && gw wl (.fieldLink (ownM m) idx ((clsOf ci).2.1 k).1 ((clsOf ci).2.1 k).2.1 ((clsOf ci).2.1 k).2.2.1)))
    | _ => false)
  | .putfield idx => Nat.beq len 3 && (match aux with
    | ci :: k :: tag :: wl :: _ => Nat.blt ci 4 && (Nat.blt k (clsOf ci).2.2 && (Nat.beq tag (fty ci k) && (gw wl (.fieldLink (ownM m) idx ((clsOf ci).2.1 k).1 ((clsOf ci).2.1 k).2.1 ((clsOf ci).2.1 k).2.2.1) && (match ((clsOf ci).2.1 k).2.2.2 with | true => decide ((yM m).name = "<init>") && decide (((clsOf ci).2.1 k).1 = ownM m) | false => true))))
    | _ => false)
  | .arraylength => Nat.beq len 1 && (match aux with | [] => true | 1 :: _ => Nat.beq m 101 | _ => false)
  | .iaload => Nat.beq len 1 && (match aux with | [] => true | 1 :: _ => Nat.beq m 101 | _ => false)
  | .newarray ty => Nat.beq len 2 && (match aux with | kd :: wl :: _ => gw wl (.arrayClass (newarray.typeOf ty)) && decide (newarray.typeOf ty = kty kd) && (Nat.beq kd 5 || Nat.beq kd 6 || Nat.beq kd 9) | _ => false)
  | .anewarray idx => Nat.beq len 3 && (match aux with | kd :: wl :: wo :: _ => (Nat.beq kd 7 || Nat.beq kd 8) && (gw wl (.classLink (ownM m) idx (match kd with | 7 => RX1 | _ => RX2)) && nw (.arrayOver (.object (match kd with | 7 => RX1 | _ => RX2)))) | _ => false)
  | .new idx => Nat.beq len 3 && (match aux with
    | 9 :: E :: wl :: si :: ii :: ws :: _ => chkThrow m pc idx E wl si ii ws
    | ci :: wl :: wi :: _ => Nat.blt ci 4 && (gw wl (.classLink (ownM m) idx (clsOf ci).1) && gw wi (.instantiable (clsOf ci).1 (clsOf ci).2.2))
    | _ => false)
  | .invokevirtual idx => Nat.beq len 3 && (Nat.beq (aux.getD 0 99) 0 && chkCall m pc idx aux)
  | .invokestatic idx => Nat.beq len 3 && ((Nat.beq (aux.getD 0 99) 1 || (Nat.ble 5 (aux.getD 0 99) && Nat.ble (aux.getD 0 99) 8)) && chkCall m pc idx aux)
  | .invokespecial idx => Nat.beq len 3 && (((match aux with | [] => true | _ => false) || (Nat.ble 2 (aux.getD 0 99) && Nat.ble (aux.getD 0 99) 4)) && (match aux with | [] => true | _ => chkCall m pc idx aux))
  | .ireturn => Nat.beq len 1 && (match aux with | 0 :: _ => decide (rM m = some .int) | 1 :: _ => decide (rM m = some .boolean) | 2 :: _ => decide (rM m = some .char) | _ => false)
  | .lreturn => Nat.beq len 1 && decide (rM m = some .long)
  | .freturn => Nat.beq len 1 && decide (rM m = some .float)
  | .dreturn => Nat.beq len 1 && decide (rM m = some .double)
  | .areturn => Nat.beq len 1 && decide (rM m = some (.object RX1))
  | .return_ => Nat.beq len 1 && decide (rM m = none)
  | _ => Nat.beq len 1
def okI (m pc : Nat) (e : IE) : Bool := decide (decode (cM m) pc = .ok (e.1, e.2.1)) && chk m pc e.2.1 e.1 e.2.2
def okP (m pc : Nat) : Bool := match I m pc with | some e => okI m pc e | none => true
def okM (m : Nat) : Bool := (List.range (J m).1).all (okP m)
/-- a method's own words -/
def okY (m : Nat) : Bool := plainFor (yM m) && ((match hM m with | [] => gw (wM m 0) (.code (yM m) (cM m) (xM m) (rM m)) | h :: r => gw (wM m 0) (.codeWith (yM m) (cM m) (xM m) (rM m) (h :: r))) && (gw (wM m 3) (.initialized (yM m).cls) && (match wM m 4 with
  | 0 => gw (wM m 1) (.instanceMethod (yM m)) && gw (wM m 2) (.selects (yM m).cls (yM m) (yM m))
  | 1 => gw (wM m 1) (.static (yM m))
  | _ => gw (wM m 1) (.instanceMethod (yM m)) && (decide ((yM m).name = "<init>") && decide (rM m = none))) && (decide ((yM m).cls ≠ "java/lang/invoke/MethodHandle") && (decide ((yM m).cls ≠ "java/lang/invoke/VarHandle") && Nat.ble (xM m) 19))))
end
section
set_option maxRecDepth 100000 in
theorem okM_0 : okM 0 = true := by decide +kernel
set_option maxRecDepth 100000 in
theorem okY_0 : okY 0 = true := by decide +kernel
set_option maxRecDepth 100000 in
theorem okM_1 : okM 1 = true := by decide +kernel
set_option maxRecDepth 100000 in
theorem okY_1 : okY 1 = true := by decide +kernel
set_option maxRecDepth 100000 in
theorem okM_2 : okM 2 = true := by decide +kernel
set_option maxRecDepth 100000 in
theorem okY_2 : okY 2 = true := by decide +kernel
set_option maxRecDepth 100000 in
theorem okM_3 : okM 3 = true := by decide +kernel
set_option maxRecDepth 100000 in
theorem okY_3 : okY 3 = true := by decide +kernel
set_option maxRecDepth 100000 in
theorem okM_4 : okM 4 = true := by decide +kernel
set_option maxRecDepth 100000 in
theorem okY_4 : okY 4 = true := by decide +kernel
set_option maxRecDepth 100000 in
theorem okM_5 : okM 5 = true := by decide +kernel
set_option maxRecDepth 100000 in
theorem okY_5 : okY 5 = true := by decide +kernel
set_option maxRecDepth 100000 in
theorem okM_6 : okM 6 = true := by decide +kernel
set_option maxRecDepth 100000 in
theorem okY_6 : okY 6 = true := by decide +kernel
set_option maxRecDepth 100000 in
theorem okM_7 : okM 7 = true := by decide +kernel
set_option maxRecDepth 100000 in
theorem okY_7 : okY 7 = true := by decide +kernel
set_option maxRecDepth 100000 in
theorem okM_8 : okM 8 = true := by decide +kernel
set_option maxRecDepth 100000 in
theorem okY_8 : okY 8 = true := by decide +kernel
set_option maxRecDepth 100000 in
theorem okM_9 : okM 9 = true := by decide +kernel
set_option maxRecDepth 100000 in
theorem okY_9 : okY 9 = true := by decide +kernel
set_option maxRecDepth 100000 in
theorem okM_10 : okM 10 = true := by decide +kernel
set_option maxRecDepth 100000 in
theorem okY_10 : okY 10 = true := by decide +kernel
set_option maxRecDepth 100000 in
theorem okM_11 : okM 11 = true := by decide +kernel
set_option maxRecDepth 100000 in
theorem okY_11 : okY 11 = true := by decide +kernel
set_option maxRecDepth 100000 in
theorem okM_12 : okM 12 = true := by decide +kernel
set_option maxRecDepth 100000 in
theorem okY_12 : okY 12 = true := by decide +kernel
set_option maxRecDepth 100000 in
theorem okM_13 : okM 13 = true := by decide +kernel
set_option maxRecDepth 100000 in
theorem okY_13 : okY 13 = true := by decide +kernel
set_option maxRecDepth 100000 in
theorem okM_14 : okM 14 = true := by decide +kernel
set_option maxRecDepth 100000 in
theorem okY_14 : okY 14 = true := by decide +kernel
set_option maxRecDepth 100000 in
theorem okM_15 : okM 15 = true := by decide +kernel
set_option maxRecDepth 100000 in
theorem okY_15 : okY 15 = true := by decide +kernel
set_option maxRecDepth 100000 in
theorem okM_16 : okM 16 = true := by decide +kernel
set_option maxRecDepth 100000 in
theorem okY_16 : okY 16 = true := by decide +kernel
set_option maxRecDepth 100000 in
theorem okM_17 : okM 17 = true := by decide +kernel
set_option maxRecDepth 100000 in
theorem okY_17 : okY 17 = true := by decide +kernel
set_option maxRecDepth 100000 in
theorem okM_18 : okM 18 = true := by decide +kernel
set_option maxRecDepth 100000 in
theorem okY_18 : okY 18 = true := by decide +kernel
set_option maxRecDepth 100000 in
theorem okM_19 : okM 19 = true := by decide +kernel
set_option maxRecDepth 100000 in
theorem okY_19 : okY 19 = true := by decide +kernel
set_option maxRecDepth 100000 in
theorem okM_20 : okM 20 = true := by decide +kernel
set_option maxRecDepth 100000 in
theorem okY_20 : okY 20 = true := by decide +kernel
set_option maxRecDepth 100000 in
theorem okM_21 : okM 21 = true := by decide +kernel
set_option maxRecDepth 100000 in
theorem okY_21 : okY 21 = true := by decide +kernel
set_option maxRecDepth 100000 in
theorem okM_22 : okM 22 = true := by decide +kernel
set_option maxRecDepth 100000 in
theorem okY_22 : okY 22 = true := by decide +kernel
set_option maxRecDepth 100000 in
theorem okM_23 : okM 23 = true := by decide +kernel
set_option maxRecDepth 100000 in
theorem okY_23 : okY 23 = true := by decide +kernel
set_option maxRecDepth 100000 in
theorem okM_24 : okM 24 = true := by decide +kernel
set_option maxRecDepth 100000 in
theorem okY_24 : okY 24 = true := by decide +kernel
set_option maxRecDepth 100000 in
theorem okM_25 : okM 25 = true := by decide +kernel
set_option maxRecDepth 100000 in
theorem okY_25 : okY 25 = true := by decide +kernel
set_option maxRecDepth 100000 in
theorem okM_26 : okM 26 = true := by decide +kernel
set_option maxRecDepth 100000 in
theorem okY_26 : okY 26 = true := by decide +kernel
set_option maxRecDepth 100000 in
theorem okM_27 : okM 27 = true := by decide +kernel
set_option maxRecDepth 100000 in
theorem okY_27 : okY 27 = true := by decide +kernel
set_option maxRecDepth 100000 in
theorem okM_28 : okM 28 = true := by decide +kernel
set_option maxRecDepth 100000 in
theorem okY_28 : okY 28 = true := by decide +kernel
set_option maxRecDepth 100000 in
theorem okM_29 : okM 29 = true := by decide +kernel
set_option maxRecDepth 100000 in
theorem okY_29 : okY 29 = true := by decide +kernel
set_option maxRecDepth 100000 in
theorem okM_30 : okM 30 = true := by decide +kernel
set_option maxRecDepth 100000 in
theorem okY_30 : okY 30 = true := by decide +kernel
set_option maxRecDepth 100000 in
theorem okM_31 : okM 31 = true := by decide +kernel
set_option maxRecDepth 100000 in
theorem okY_31 : okY 31 = true := by decide +kernel
set_option maxRecDepth 100000 in
theorem okM_32 : okM 32 = true := by decide +kernel
set_option maxRecDepth 100000 in
theorem okY_32 : okY 32 = true := by decide +kernel
set_option maxRecDepth 100000 in
theorem okM_33 : okM 33 = true := by decide +kernel
set_option maxRecDepth 100000 in
theorem okY_33 : okY 33 = true := by decide +kernel
set_option maxRecDepth 100000 in
theorem okM_34 : okM 34 = true := by decide +kernel
set_option maxRecDepth 100000 in
theorem okY_34 : okY 34 = true := by decide +kernel
end
section
set_option maxRecDepth 100000 in
theorem okM_35 : okM 35 = true := by decide +kernel
set_option maxRecDepth 100000 in
theorem okY_35 : okY 35 = true := by decide +kernel
set_option maxRecDepth 100000 in
theorem okM_36 : okM 36 = true := by decide +kernel
set_option maxRecDepth 100000 in
theorem okY_36 : okY 36 = true := by decide +kernel
set_option maxRecDepth 100000 in
theorem okM_37 : okM 37 = true := by decide +kernel
set_option maxRecDepth 100000 in
theorem okY_37 : okY 37 = true := by decide +kernel
set_option maxRecDepth 100000 in
theorem okM_38 : okM 38 = true := by decide +kernel
set_option maxRecDepth 100000 in
theorem okY_38 : okY 38 = true := by decide +kernel
set_option maxRecDepth 100000 in
theorem okM_39 : okM 39 = true := by decide +kernel
set_option maxRecDepth 100000 in
theorem okY_39 : okY 39 = true := by decide +kernel
set_option maxRecDepth 100000 in
theorem okM_40 : okM 40 = true := by decide +kernel
set_option maxRecDepth 100000 in
theorem okY_40 : okY 40 = true := by decide +kernel
set_option maxRecDepth 100000 in
theorem okM_41 : okM 41 = true := by decide +kernel
set_option maxRecDepth 100000 in
theorem okY_41 : okY 41 = true := by decide +kernel
set_option maxRecDepth 100000 in
theorem okM_42 : okM 42 = true := by decide +kernel
set_option maxRecDepth 100000 in
theorem okY_42 : okY 42 = true := by decide +kernel
set_option maxRecDepth 100000 in
theorem okM_43 : okM 43 = true := by decide +kernel
set_option maxRecDepth 100000 in
theorem okY_43 : okY 43 = true := by decide +kernel
set_option maxRecDepth 100000 in
theorem okM_44 : okM 44 = true := by decide +kernel
set_option maxRecDepth 100000 in
theorem okY_44 : okY 44 = true := by decide +kernel
set_option maxRecDepth 100000 in
theorem okM_45 : okM 45 = true := by decide +kernel
set_option maxRecDepth 100000 in
theorem okY_45 : okY 45 = true := by decide +kernel
set_option maxRecDepth 100000 in
theorem okM_46 : okM 46 = true := by decide +kernel
set_option maxRecDepth 100000 in
theorem okY_46 : okY 46 = true := by decide +kernel
set_option maxRecDepth 100000 in
theorem okM_47 : okM 47 = true := by decide +kernel
set_option maxRecDepth 100000 in
theorem okY_47 : okY 47 = true := by decide +kernel
set_option maxRecDepth 100000 in
theorem okM_48 : okM 48 = true := by decide +kernel
set_option maxRecDepth 100000 in
theorem okY_48 : okY 48 = true := by decide +kernel
set_option maxRecDepth 100000 in
theorem okM_49 : okM 49 = true := by decide +kernel
set_option maxRecDepth 100000 in
theorem okY_49 : okY 49 = true := by decide +kernel
set_option maxRecDepth 100000 in
theorem okM_50 : okM 50 = true := by decide +kernel
set_option maxRecDepth 100000 in
theorem okY_50 : okY 50 = true := by decide +kernel
set_option maxRecDepth 100000 in
theorem okM_51 : okM 51 = true := by decide +kernel
set_option maxRecDepth 100000 in
theorem okY_51 : okY 51 = true := by decide +kernel
set_option maxRecDepth 100000 in
theorem okM_52 : okM 52 = true := by decide +kernel
set_option maxRecDepth 100000 in
theorem okY_52 : okY 52 = true := by decide +kernel
set_option maxRecDepth 100000 in
theorem okM_53 : okM 53 = true := by decide +kernel
set_option maxRecDepth 100000 in
theorem okY_53 : okY 53 = true := by decide +kernel
set_option maxRecDepth 100000 in
theorem okM_54 : okM 54 = true := by decide +kernel
set_option maxRecDepth 100000 in
theorem okY_54 : okY 54 = true := by decide +kernel
set_option maxRecDepth 100000 in
theorem okM_55 : okM 55 = true := by decide +kernel
set_option maxRecDepth 100000 in
theorem okY_55 : okY 55 = true := by decide +kernel
set_option maxRecDepth 100000 in
theorem okM_56 : okM 56 = true := by decide +kernel
set_option maxRecDepth 100000 in
theorem okY_56 : okY 56 = true := by decide +kernel
set_option maxRecDepth 100000 in
theorem okM_57 : okM 57 = true := by decide +kernel
set_option maxRecDepth 100000 in
theorem okY_57 : okY 57 = true := by decide +kernel
set_option maxRecDepth 100000 in
theorem okM_58 : okM 58 = true := by decide +kernel
set_option maxRecDepth 100000 in
theorem okY_58 : okY 58 = true := by decide +kernel
set_option maxRecDepth 100000 in
theorem okM_59 : okM 59 = true := by decide +kernel
set_option maxRecDepth 100000 in
theorem okY_59 : okY 59 = true := by decide +kernel
set_option maxRecDepth 100000 in
theorem okM_60 : okM 60 = true := by decide +kernel
set_option maxRecDepth 100000 in
theorem okY_60 : okY 60 = true := by decide +kernel
set_option maxRecDepth 100000 in
theorem okM_61 : okM 61 = true := by decide +kernel
set_option maxRecDepth 100000 in
theorem okY_61 : okY 61 = true := by decide +kernel
set_option maxRecDepth 100000 in
theorem okM_62 : okM 62 = true := by decide +kernel
set_option maxRecDepth 100000 in
theorem okY_62 : okY 62 = true := by decide +kernel
set_option maxRecDepth 100000 in
theorem okM_63 : okM 63 = true := by decide +kernel
set_option maxRecDepth 100000 in
theorem okY_63 : okY 63 = true := by decide +kernel
set_option maxRecDepth 100000 in
theorem okM_64 : okM 64 = true := by decide +kernel
set_option maxRecDepth 100000 in
theorem okY_64 : okY 64 = true := by decide +kernel
set_option maxRecDepth 100000 in
theorem okM_65 : okM 65 = true := by decide +kernel
set_option maxRecDepth 100000 in
theorem okY_65 : okY 65 = true := by decide +kernel
set_option maxRecDepth 100000 in
theorem okM_66 : okM 66 = true := by decide +kernel
set_option maxRecDepth 100000 in
theorem okY_66 : okY 66 = true := by decide +kernel
set_option maxRecDepth 100000 in
theorem okM_67 : okM 67 = true := by decide +kernel
set_option maxRecDepth 100000 in
theorem okY_67 : okY 67 = true := by decide +kernel
set_option maxRecDepth 100000 in
theorem okM_68 : okM 68 = true := by decide +kernel
set_option maxRecDepth 100000 in
theorem okY_68 : okY 68 = true := by decide +kernel
set_option maxRecDepth 100000 in
theorem okM_69 : okM 69 = true := by decide +kernel
set_option maxRecDepth 100000 in
theorem okY_69 : okY 69 = true := by decide +kernel
end
section
set_option maxRecDepth 100000 in
theorem okM_70 : okM 70 = true := by decide +kernel
set_option maxRecDepth 100000 in
theorem okY_70 : okY 70 = true := by decide +kernel
set_option maxRecDepth 100000 in
theorem okM_71 : okM 71 = true := by decide +kernel
set_option maxRecDepth 100000 in
theorem okY_71 : okY 71 = true := by decide +kernel
set_option maxRecDepth 100000 in
theorem okM_72 : okM 72 = true := by decide +kernel
set_option maxRecDepth 100000 in
theorem okY_72 : okY 72 = true := by decide +kernel
set_option maxRecDepth 100000 in
theorem okM_73 : okM 73 = true := by decide +kernel
set_option maxRecDepth 100000 in
theorem okY_73 : okY 73 = true := by decide +kernel
set_option maxRecDepth 100000 in
theorem okM_74 : okM 74 = true := by decide +kernel
set_option maxRecDepth 100000 in
theorem okY_74 : okY 74 = true := by decide +kernel
set_option maxRecDepth 100000 in
theorem okM_75 : okM 75 = true := by decide +kernel
set_option maxRecDepth 100000 in
theorem okY_75 : okY 75 = true := by decide +kernel
set_option maxRecDepth 100000 in
theorem okM_76 : okM 76 = true := by decide +kernel
set_option maxRecDepth 100000 in
theorem okY_76 : okY 76 = true := by decide +kernel
set_option maxRecDepth 100000 in
theorem okM_77 : okM 77 = true := by decide +kernel
set_option maxRecDepth 100000 in
theorem okY_77 : okY 77 = true := by decide +kernel
set_option maxRecDepth 100000 in
theorem okM_78 : okM 78 = true := by decide +kernel
set_option maxRecDepth 100000 in
theorem okY_78 : okY 78 = true := by decide +kernel
set_option maxRecDepth 100000 in
theorem okM_79 : okM 79 = true := by decide +kernel
set_option maxRecDepth 100000 in
theorem okY_79 : okY 79 = true := by decide +kernel
set_option maxRecDepth 100000 in
theorem okM_80 : okM 80 = true := by decide +kernel
set_option maxRecDepth 100000 in
theorem okY_80 : okY 80 = true := by decide +kernel
set_option maxRecDepth 100000 in
theorem okM_81 : okM 81 = true := by decide +kernel
set_option maxRecDepth 100000 in
theorem okY_81 : okY 81 = true := by decide +kernel
set_option maxRecDepth 100000 in
theorem okM_82 : okM 82 = true := by decide +kernel
set_option maxRecDepth 100000 in
theorem okY_82 : okY 82 = true := by decide +kernel
set_option maxRecDepth 100000 in
theorem okM_83 : okM 83 = true := by decide +kernel
set_option maxRecDepth 100000 in
theorem okY_83 : okY 83 = true := by decide +kernel
set_option maxRecDepth 100000 in
theorem okM_84 : okM 84 = true := by decide +kernel
set_option maxRecDepth 100000 in
theorem okY_84 : okY 84 = true := by decide +kernel
set_option maxRecDepth 100000 in
theorem okM_85 : okM 85 = true := by decide +kernel
set_option maxRecDepth 100000 in
theorem okY_85 : okY 85 = true := by decide +kernel
set_option maxRecDepth 100000 in
theorem okM_86 : okM 86 = true := by decide +kernel
set_option maxRecDepth 100000 in
theorem okY_86 : okY 86 = true := by decide +kernel
set_option maxRecDepth 100000 in
theorem okM_87 : okM 87 = true := by decide +kernel
set_option maxRecDepth 100000 in
theorem okY_87 : okY 87 = true := by decide +kernel
set_option maxRecDepth 100000 in
theorem okM_88 : okM 88 = true := by decide +kernel
set_option maxRecDepth 100000 in
theorem okY_88 : okY 88 = true := by decide +kernel
set_option maxRecDepth 100000 in
theorem okM_89 : okM 89 = true := by decide +kernel
set_option maxRecDepth 100000 in
theorem okY_89 : okY 89 = true := by decide +kernel
set_option maxRecDepth 100000 in
theorem okM_90 : okM 90 = true := by decide +kernel
set_option maxRecDepth 100000 in
theorem okY_90 : okY 90 = true := by decide +kernel
set_option maxRecDepth 100000 in
theorem okM_91 : okM 91 = true := by decide +kernel
set_option maxRecDepth 100000 in
theorem okY_91 : okY 91 = true := by decide +kernel
set_option maxRecDepth 100000 in
theorem okM_92 : okM 92 = true := by decide +kernel
set_option maxRecDepth 100000 in
theorem okY_92 : okY 92 = true := by decide +kernel
set_option maxRecDepth 100000 in
theorem okM_93 : okM 93 = true := by decide +kernel
set_option maxRecDepth 100000 in
theorem okY_93 : okY 93 = true := by decide +kernel
set_option maxRecDepth 100000 in
theorem okM_94 : okM 94 = true := by decide +kernel
set_option maxRecDepth 100000 in
theorem okY_94 : okY 94 = true := by decide +kernel
set_option maxRecDepth 100000 in
theorem okM_95 : okM 95 = true := by decide +kernel
set_option maxRecDepth 100000 in
theorem okY_95 : okY 95 = true := by decide +kernel
set_option maxRecDepth 100000 in
theorem okM_96 : okM 96 = true := by decide +kernel
set_option maxRecDepth 100000 in
theorem okY_96 : okY 96 = true := by decide +kernel
set_option maxRecDepth 100000 in
theorem okM_97 : okM 97 = true := by decide +kernel
set_option maxRecDepth 100000 in
theorem okY_97 : okY 97 = true := by decide +kernel
set_option maxRecDepth 100000 in
theorem okM_98 : okM 98 = true := by decide +kernel
set_option maxRecDepth 100000 in
theorem okY_98 : okY 98 = true := by decide +kernel
set_option maxRecDepth 100000 in
theorem okM_99 : okM 99 = true := by decide +kernel
set_option maxRecDepth 100000 in
theorem okY_99 : okY 99 = true := by decide +kernel
set_option maxRecDepth 100000 in
theorem okM_100 : okM 100 = true := by decide +kernel
set_option maxRecDepth 100000 in
theorem okY_100 : okY 100 = true := by decide +kernel
set_option maxRecDepth 100000 in
theorem okM_101 : okM 101 = true := by decide +kernel
set_option maxRecDepth 100000 in
theorem okY_101 : okY 101 = true := by decide +kernel
set_option maxRecDepth 100000 in
theorem okM_102 : okM 102 = true := by decide +kernel
set_option maxRecDepth 100000 in
theorem okY_102 : okY 102 = true := by decide +kernel
set_option maxRecDepth 100000 in
theorem okM_103 : okM 103 = true := by decide +kernel
set_option maxRecDepth 100000 in
theorem okY_103 : okY 103 = true := by decide +kernel
set_option maxRecDepth 100000 in
theorem okM_104 : okM 104 = true := by decide +kernel
set_option maxRecDepth 100000 in
theorem okY_104 : okY 104 = true := by decide +kernel
end
section
set_option maxRecDepth 100000 in
theorem okM_105 : okM 105 = true := by decide +kernel
set_option maxRecDepth 100000 in
theorem okY_105 : okY 105 = true := by decide +kernel
set_option maxRecDepth 100000 in
theorem okM_106 : okM 106 = true := by decide +kernel
set_option maxRecDepth 100000 in
theorem okY_106 : okY 106 = true := by decide +kernel
set_option maxRecDepth 100000 in
theorem okM_107 : okM 107 = true := by decide +kernel
set_option maxRecDepth 100000 in
theorem okY_107 : okY 107 = true := by decide +kernel
set_option maxRecDepth 100000 in
theorem okM_108 : okM 108 = true := by decide +kernel
set_option maxRecDepth 100000 in
theorem okY_108 : okY 108 = true := by decide +kernel
set_option maxRecDepth 100000 in
theorem okM_109 : okM 109 = true := by decide +kernel
set_option maxRecDepth 100000 in
theorem okY_109 : okY 109 = true := by decide +kernel
set_option maxRecDepth 100000 in
theorem okM_110 : okM 110 = true := by decide +kernel
set_option maxRecDepth 100000 in
theorem okY_110 : okY 110 = true := by decide +kernel
set_option maxRecDepth 100000 in
theorem okM_111 : okM 111 = true := by decide +kernel
set_option maxRecDepth 100000 in
theorem okY_111 : okY 111 = true := by decide +kernel
set_option maxRecDepth 100000 in
theorem okM_112 : okM 112 = true := by decide +kernel
set_option maxRecDepth 100000 in
theorem okY_112 : okY 112 = true := by decide +kernel
set_option maxRecDepth 100000 in
theorem okM_114 : okM 114 = true := by decide +kernel
set_option maxRecDepth 100000 in
theorem okY_114 : okY 114 = true := by decide +kernel
set_option maxRecDepth 100000 in
theorem okM_115 : okM 115 = true := by decide +kernel
set_option maxRecDepth 100000 in
theorem okY_115 : okY 115 = true := by decide +kernel
set_option maxRecDepth 100000 in
theorem okM_116 : okM 116 = true := by decide +kernel
set_option maxRecDepth 100000 in
theorem okY_116 : okY 116 = true := by decide +kernel
set_option maxRecDepth 100000 in
theorem okM_117 : okM 117 = true := by decide +kernel
set_option maxRecDepth 100000 in
theorem okY_117 : okY 117 = true := by decide +kernel
set_option maxRecDepth 100000 in
theorem okM_119 : okM 119 = true := by decide +kernel
set_option maxRecDepth 100000 in
theorem okY_119 : okY 119 = true := by decide +kernel
set_option maxRecDepth 100000 in
theorem okM_120 : okM 120 = true := by decide +kernel
set_option maxRecDepth 100000 in
theorem okY_120 : okY 120 = true := by decide +kernel
set_option maxRecDepth 100000 in
theorem okM_121 : okM 121 = true := by decide +kernel
set_option maxRecDepth 100000 in
theorem okY_121 : okY 121 = true := by decide +kernel
set_option maxRecDepth 100000 in
theorem okM_122 : okM 122 = true := by decide +kernel
set_option maxRecDepth 100000 in
theorem okY_122 : okY 122 = true := by decide +kernel
set_option maxRecDepth 100000 in
theorem okM_123 : okM 123 = true := by decide +kernel
set_option maxRecDepth 100000 in
theorem okY_123 : okY 123 = true := by decide +kernel
set_option maxRecDepth 100000 in
theorem okM_124 : okM 124 = true := by decide +kernel
set_option maxRecDepth 100000 in
theorem okY_124 : okY 124 = true := by decide +kernel
set_option maxRecDepth 100000 in
theorem okM_125 : okM 125 = true := by decide +kernel
set_option maxRecDepth 100000 in
theorem okY_125 : okY 125 = true := by decide +kernel
set_option maxRecDepth 100000 in
theorem okM_126 : okM 126 = true := by decide +kernel
set_option maxRecDepth 100000 in
theorem okY_126 : okY 126 = true := by decide +kernel
set_option maxRecDepth 100000 in
theorem okM_127 : okM 127 = true := by decide +kernel
set_option maxRecDepth 100000 in
theorem okY_127 : okY 127 = true := by decide +kernel
set_option maxRecDepth 100000 in
theorem okM_128 : okM 128 = true := by decide +kernel
set_option maxRecDepth 100000 in
theorem okY_128 : okY 128 = true := by decide +kernel
set_option maxRecDepth 100000 in
theorem okM_129 : okM 129 = true := by decide +kernel
set_option maxRecDepth 100000 in
theorem okY_129 : okY 129 = true := by decide +kernel
set_option maxRecDepth 100000 in
theorem okM_130 : okM 130 = true := by decide +kernel
set_option maxRecDepth 100000 in
theorem okY_130 : okY 130 = true := by decide +kernel
set_option maxRecDepth 100000 in
theorem okM_131 : okM 131 = true := by decide +kernel
set_option maxRecDepth 100000 in
theorem okY_131 : okY 131 = true := by decide +kernel
set_option maxRecDepth 100000 in
theorem okM_132 : okM 132 = true := by decide +kernel
set_option maxRecDepth 100000 in
theorem okY_132 : okY 132 = true := by decide +kernel
set_option maxRecDepth 100000 in
theorem okM_133 : okM 133 = true := by decide +kernel
set_option maxRecDepth 100000 in
theorem okY_133 : okY 133 = true := by decide +kernel
set_option maxRecDepth 100000 in
theorem okM_134 : okM 134 = true := by decide +kernel
set_option maxRecDepth 100000 in
theorem okY_134 : okY 134 = true := by decide +kernel
set_option maxRecDepth 100000 in
theorem okM_135 : okM 135 = true := by decide +kernel
set_option maxRecDepth 100000 in
theorem okY_135 : okY 135 = true := by decide +kernel
set_option maxRecDepth 100000 in
theorem okM_136 : okM 136 = true := by decide +kernel
set_option maxRecDepth 100000 in
theorem okY_136 : okY 136 = true := by decide +kernel
set_option maxRecDepth 100000 in
theorem okM_137 : okM 137 = true := by decide +kernel
set_option maxRecDepth 100000 in
theorem okY_137 : okY 137 = true := by decide +kernel
set_option maxRecDepth 100000 in
theorem okM_138 : okM 138 = true := by decide +kernel
set_option maxRecDepth 100000 in
theorem okY_138 : okY 138 = true := by decide +kernel
set_option maxRecDepth 100000 in
theorem okM_139 : okM 139 = true := by decide +kernel
set_option maxRecDepth 100000 in
theorem okY_139 : okY 139 = true := by decide +kernel
set_option maxRecDepth 100000 in
theorem okM_140 : okM 140 = true := by decide +kernel
set_option maxRecDepth 100000 in
theorem okY_140 : okY 140 = true := by decide +kernel
set_option maxRecDepth 100000 in
theorem okM_141 : okM 141 = true := by decide +kernel
set_option maxRecDepth 100000 in
theorem okY_141 : okY 141 = true := by decide +kernel
end
section
set_option maxRecDepth 100000 in
theorem okM_142 : okM 142 = true := by decide +kernel
set_option maxRecDepth 100000 in
theorem okY_142 : okY 142 = true := by decide +kernel
set_option maxRecDepth 100000 in
theorem okM_143 : okM 143 = true := by decide +kernel
set_option maxRecDepth 100000 in
theorem okY_143 : okY 143 = true := by decide +kernel
set_option maxRecDepth 100000 in
theorem okM_144 : okM 144 = true := by decide +kernel
set_option maxRecDepth 100000 in
theorem okY_144 : okY 144 = true := by decide +kernel
set_option maxRecDepth 100000 in
theorem okM_145 : okM 145 = true := by decide +kernel
set_option maxRecDepth 100000 in
theorem okY_145 : okY 145 = true := by decide +kernel
set_option maxRecDepth 100000 in
theorem okM_146 : okM 146 = true := by decide +kernel
set_option maxRecDepth 100000 in
theorem okY_146 : okY 146 = true := by decide +kernel
set_option maxRecDepth 100000 in
theorem okM_147 : okM 147 = true := by decide +kernel
set_option maxRecDepth 100000 in
theorem okY_147 : okY 147 = true := by decide +kernel
set_option maxRecDepth 100000 in
theorem okM_148 : okM 148 = true := by decide +kernel
set_option maxRecDepth 100000 in
theorem okY_148 : okY 148 = true := by decide +kernel
set_option maxRecDepth 100000 in
theorem okM_149 : okM 149 = true := by decide +kernel
set_option maxRecDepth 100000 in
theorem okY_149 : okY 149 = true := by decide +kernel
set_option maxRecDepth 100000 in
theorem okM_150 : okM 150 = true := by decide +kernel
set_option maxRecDepth 100000 in
theorem okY_150 : okY 150 = true := by decide +kernel
set_option maxRecDepth 100000 in
theorem okM_151 : okM 151 = true := by decide +kernel
set_option maxRecDepth 100000 in
theorem okY_151 : okY 151 = true := by decide +kernel
set_option maxRecDepth 100000 in
theorem okM_152 : okM 152 = true := by decide +kernel
set_option maxRecDepth 100000 in
theorem okY_152 : okY 152 = true := by decide +kernel
set_option maxRecDepth 100000 in
theorem okM_153 : okM 153 = true := by decide +kernel
set_option maxRecDepth 100000 in
theorem okY_153 : okY 153 = true := by decide +kernel
set_option maxRecDepth 100000 in
theorem okM_154 : okM 154 = true := by decide +kernel
set_option maxRecDepth 100000 in
theorem okY_154 : okY 154 = true := by decide +kernel
set_option maxRecDepth 100000 in
theorem okM_155 : okM 155 = true := by decide +kernel
set_option maxRecDepth 100000 in
theorem okY_155 : okY 155 = true := by decide +kernel
set_option maxRecDepth 100000 in
theorem okM_156 : okM 156 = true := by decide +kernel
set_option maxRecDepth 100000 in
theorem okY_156 : okY 156 = true := by decide +kernel
set_option maxRecDepth 100000 in
theorem okM_157 : okM 157 = true := by decide +kernel
set_option maxRecDepth 100000 in
theorem okY_157 : okY 157 = true := by decide +kernel
set_option maxRecDepth 100000 in
theorem okM_158 : okM 158 = true := by decide +kernel
set_option maxRecDepth 100000 in
theorem okY_158 : okY 158 = true := by decide +kernel
set_option maxRecDepth 100000 in
theorem okM_159 : okM 159 = true := by decide +kernel
set_option maxRecDepth 100000 in
theorem okY_159 : okY 159 = true := by decide +kernel
set_option maxRecDepth 100000 in
theorem okM_160 : okM 160 = true := by decide +kernel
set_option maxRecDepth 100000 in
theorem okY_160 : okY 160 = true := by decide +kernel
set_option maxRecDepth 100000 in
theorem okM_161 : okM 161 = true := by decide +kernel
set_option maxRecDepth 100000 in
theorem okY_161 : okY 161 = true := by decide +kernel
set_option maxRecDepth 100000 in
theorem okM_162 : okM 162 = true := by decide +kernel
set_option maxRecDepth 100000 in
theorem okY_162 : okY 162 = true := by decide +kernel
set_option maxRecDepth 100000 in
theorem okM_163 : okM 163 = true := by decide +kernel
set_option maxRecDepth 100000 in
theorem okY_163 : okY 163 = true := by decide +kernel
set_option maxRecDepth 100000 in
theorem okM_164 : okM 164 = true := by decide +kernel
set_option maxRecDepth 100000 in
theorem okY_164 : okY 164 = true := by decide +kernel
set_option maxRecDepth 100000 in
theorem okM_165 : okM 165 = true := by decide +kernel
set_option maxRecDepth 100000 in
theorem okY_165 : okY 165 = true := by decide +kernel
set_option maxRecDepth 100000 in
theorem okM_166 : okM 166 = true := by decide +kernel
set_option maxRecDepth 100000 in
theorem okY_166 : okY 166 = true := by decide +kernel
set_option maxRecDepth 100000 in
theorem okM_167 : okM 167 = true := by decide +kernel
set_option maxRecDepth 100000 in
theorem okY_167 : okY 167 = true := by decide +kernel
set_option maxRecDepth 100000 in
theorem okM_168 : okM 168 = true := by decide +kernel
set_option maxRecDepth 100000 in
theorem okY_168 : okY 168 = true := by decide +kernel
set_option maxRecDepth 100000 in
theorem okM_169 : okM 169 = true := by decide +kernel
set_option maxRecDepth 100000 in
theorem okY_169 : okY 169 = true := by decide +kernel
set_option maxRecDepth 100000 in
theorem okM_170 : okM 170 = true := by decide +kernel
set_option maxRecDepth 100000 in
theorem okY_170 : okY 170 = true := by decide +kernel
set_option maxRecDepth 100000 in
theorem okM_171 : okM 171 = true := by decide +kernel
set_option maxRecDepth 100000 in
theorem okY_171 : okY 171 = true := by decide +kernel
set_option maxRecDepth 100000 in
theorem okM_172 : okM 172 = true := by decide +kernel
set_option maxRecDepth 100000 in
theorem okY_172 : okY 172 = true := by decide +kernel
set_option maxRecDepth 100000 in
theorem okM_173 : okM 173 = true := by decide +kernel
set_option maxRecDepth 100000 in
theorem okY_173 : okY 173 = true := by decide +kernel
set_option maxRecDepth 100000 in
theorem okM_174 : okM 174 = true := by decide +kernel
set_option maxRecDepth 100000 in
theorem okY_174 : okY 174 = true := by decide +kernel
set_option maxRecDepth 100000 in
theorem okM_175 : okM 175 = true := by decide +kernel
set_option maxRecDepth 100000 in
theorem okY_175 : okY 175 = true := by decide +kernel
set_option maxRecDepth 100000 in
theorem okM_176 : okM 176 = true := by decide +kernel
set_option maxRecDepth 100000 in
theorem okY_176 : okY 176 = true := by decide +kernel
end
section
set_option maxRecDepth 100000 in
theorem okM_177 : okM 177 = true := by decide +kernel
set_option maxRecDepth 100000 in
theorem okY_177 : okY 177 = true := by decide +kernel
set_option maxRecDepth 100000 in
theorem okM_178 : okM 178 = true := by decide +kernel
set_option maxRecDepth 100000 in
theorem okY_178 : okY 178 = true := by decide +kernel
set_option maxRecDepth 100000 in
theorem okM_179 : okM 179 = true := by decide +kernel
set_option maxRecDepth 100000 in
theorem okY_179 : okY 179 = true := by decide +kernel
set_option maxRecDepth 100000 in
theorem okM_180 : okM 180 = true := by decide +kernel
set_option maxRecDepth 100000 in
theorem okY_180 : okY 180 = true := by decide +kernel
set_option maxRecDepth 100000 in
theorem okM_181 : okM 181 = true := by decide +kernel
set_option maxRecDepth 100000 in
theorem okY_181 : okY 181 = true := by decide +kernel
set_option maxRecDepth 100000 in
theorem okM_182 : okM 182 = true := by decide +kernel
set_option maxRecDepth 100000 in
theorem okY_182 : okY 182 = true := by decide +kernel
set_option maxRecDepth 100000 in
theorem okM_183 : okM 183 = true := by decide +kernel
set_option maxRecDepth 100000 in
theorem okY_183 : okY 183 = true := by decide +kernel
set_option maxRecDepth 100000 in
theorem okM_184 : okM 184 = true := by decide +kernel
set_option maxRecDepth 100000 in
theorem okY_184 : okY 184 = true := by decide +kernel
set_option maxRecDepth 100000 in
theorem okM_185 : okM 185 = true := by decide +kernel
set_option maxRecDepth 100000 in
theorem okY_185 : okY 185 = true := by decide +kernel
set_option maxRecDepth 100000 in
theorem okM_186 : okM 186 = true := by decide +kernel
set_option maxRecDepth 100000 in
theorem okY_186 : okY 186 = true := by decide +kernel
set_option maxRecDepth 100000 in
theorem okM_187 : okM 187 = true := by decide +kernel
set_option maxRecDepth 100000 in
theorem okY_187 : okY 187 = true := by decide +kernel
set_option maxRecDepth 100000 in
theorem okM_188 : okM 188 = true := by decide +kernel
set_option maxRecDepth 100000 in
theorem okY_188 : okY 188 = true := by decide +kernel
set_option maxRecDepth 100000 in
theorem okM_189 : okM 189 = true := by decide +kernel
set_option maxRecDepth 100000 in
theorem okY_189 : okY 189 = true := by decide +kernel
set_option maxRecDepth 100000 in
theorem okM_190 : okM 190 = true := by decide +kernel
set_option maxRecDepth 100000 in
theorem okY_190 : okY 190 = true := by decide +kernel
set_option maxRecDepth 100000 in
theorem okM_191 : okM 191 = true := by decide +kernel
set_option maxRecDepth 100000 in
theorem okY_191 : okY 191 = true := by decide +kernel
set_option maxRecDepth 100000 in
theorem okM_192 : okM 192 = true := by decide +kernel
set_option maxRecDepth 100000 in
theorem okY_192 : okY 192 = true := by decide +kernel
set_option maxRecDepth 100000 in
theorem okM_193 : okM 193 = true := by decide +kernel
set_option maxRecDepth 100000 in
theorem okY_193 : okY 193 = true := by decide +kernel
set_option maxRecDepth 100000 in
theorem okM_194 : okM 194 = true := by decide +kernel
set_option maxRecDepth 100000 in
theorem okY_194 : okY 194 = true := by decide +kernel
set_option maxRecDepth 100000 in
theorem okM_195 : okM 195 = true := by decide +kernel
set_option maxRecDepth 100000 in
theorem okY_195 : okY 195 = true := by decide +kernel
set_option maxRecDepth 100000 in
theorem okM_196 : okM 196 = true := by decide +kernel
set_option maxRecDepth 100000 in
theorem okY_196 : okY 196 = true := by decide +kernel
set_option maxRecDepth 100000 in
theorem okM_197 : okM 197 = true := by decide +kernel
set_option maxRecDepth 100000 in
theorem okY_197 : okY 197 = true := by decide +kernel
set_option maxRecDepth 100000 in
theorem okM_198 : okM 198 = true := by decide +kernel
set_option maxRecDepth 100000 in
theorem okY_198 : okY 198 = true := by decide +kernel
set_option maxRecDepth 100000 in
theorem okM_199 : okM 199 = true := by decide +kernel
set_option maxRecDepth 100000 in
theorem okY_199 : okY 199 = true := by decide +kernel
set_option maxRecDepth 100000 in
theorem okM_200 : okM 200 = true := by decide +kernel
set_option maxRecDepth 100000 in
theorem okY_200 : okY 200 = true := by decide +kernel
set_option maxRecDepth 100000 in
theorem okM_201 : okM 201 = true := by decide +kernel
set_option maxRecDepth 100000 in
theorem okY_201 : okY 201 = true := by decide +kernel
set_option maxRecDepth 100000 in
theorem okM_202 : okM 202 = true := by decide +kernel
set_option maxRecDepth 100000 in
theorem okY_202 : okY 202 = true := by decide +kernel
set_option maxRecDepth 100000 in
theorem okM_203 : okM 203 = true := by decide +kernel
set_option maxRecDepth 100000 in
theorem okY_203 : okY 203 = true := by decide +kernel
set_option maxRecDepth 100000 in
theorem okM_204 : okM 204 = true := by decide +kernel
set_option maxRecDepth 100000 in
theorem okY_204 : okY 204 = true := by decide +kernel
set_option maxRecDepth 100000 in
theorem okM_205 : okM 205 = true := by decide +kernel
set_option maxRecDepth 100000 in
theorem okY_205 : okY 205 = true := by decide +kernel
set_option maxRecDepth 100000 in
theorem okM_206 : okM 206 = true := by decide +kernel
set_option maxRecDepth 100000 in
theorem okY_206 : okY 206 = true := by decide +kernel
set_option maxRecDepth 100000 in
theorem okM_207 : okM 207 = true := by decide +kernel
set_option maxRecDepth 100000 in
theorem okY_207 : okY 207 = true := by decide +kernel
set_option maxRecDepth 100000 in
theorem okM_208 : okM 208 = true := by decide +kernel
set_option maxRecDepth 100000 in
theorem okY_208 : okY 208 = true := by decide +kernel
end
section
theorem okP_ge {m pc : Nat} (h : (J m).1 ≤ pc) : okP m pc = true := by
  unfold okP I
  have h1 : Nat.blt pc (J m).1 = false := by
    cases hb : Nat.blt pc (J m).1
    · rfl
    · have := Nat.le_of_ble_eq_true hb; omega
  rw [h1]
  cases Nat.blt m 210 <;> rfl
set_option maxRecDepth 100000 in
theorem okY_113 : okY 113 = true := by decide +kernel
set_option maxRecDepth 100000 in
theorem okL113_0 : (List.range 64).all (fun i => okP 113 (0 + i)) = true := by decide +kernel
set_option maxRecDepth 100000 in
theorem okL113_1 : (List.range 64).all (fun i => okP 113 (64 + i)) = true := by decide +kernel
set_option maxRecDepth 100000 in
theorem okL113_2 : (List.range 64).all (fun i => okP 113 (128 + i)) = true := by decide +kernel
set_option maxRecDepth 100000 in
theorem okL113_3 : (List.range 64).all (fun i => okP 113 (192 + i)) = true := by decide +kernel
set_option maxRecDepth 100000 in
theorem okL113_4 : (List.range 64).all (fun i => okP 113 (256 + i)) = true := by decide +kernel
set_option maxRecDepth 100000 in
theorem okL113_5 : (List.range 64).all (fun i => okP 113 (320 + i)) = true := by decide +kernel
set_option maxRecDepth 100000 in
theorem okL113_6 : (List.range 64).all (fun i => okP 113 (384 + i)) = true := by decide +kernel
set_option maxRecDepth 100000 in
theorem okL113_7 : (List.range 64).all (fun i => okP 113 (448 + i)) = true := by decide +kernel
set_option maxRecDepth 100000 in
theorem okY_118 : okY 118 = true := by decide +kernel
set_option maxRecDepth 100000 in
theorem okL118_0 : (List.range 64).all (fun i => okP 118 (0 + i)) = true := by decide +kernel
set_option maxRecDepth 100000 in
theorem okL118_1 : (List.range 64).all (fun i => okP 118 (64 + i)) = true := by decide +kernel
set_option maxRecDepth 100000 in
theorem okL118_2 : (List.range 64).all (fun i => okP 118 (128 + i)) = true := by decide +kernel
set_option maxRecDepth 100000 in
theorem okL118_3 : (List.range 64).all (fun i => okP 118 (192 + i)) = true := by decide +kernel
set_option maxRecDepth 100000 in
theorem okL118_4 : (List.range 64).all (fun i => okP 118 (256 + i)) = true := by decide +kernel
set_option maxRecDepth 100000 in
theorem okL118_5 : (List.range 64).all (fun i => okP 118 (320 + i)) = true := by decide +kernel
set_option maxRecDepth 100000 in
theorem okL118_6 : (List.range 64).all (fun i => okP 118 (384 + i)) = true := by decide +kernel
set_option maxRecDepth 100000 in
theorem okL118_7 : (List.range 64).all (fun i => okP 118 (448 + i)) = true := by decide +kernel
set_option maxRecDepth 100000 in
theorem okL118_8 : (List.range 64).all (fun i => okP 118 (512 + i)) = true := by decide +kernel
set_option maxRecDepth 100000 in
theorem okL118_9 : (List.range 64).all (fun i => okP 118 (576 + i)) = true := by decide +kernel
set_option maxRecDepth 100000 in
theorem okL118_10 : (List.range 64).all (fun i => okP 118 (640 + i)) = true := by decide +kernel
set_option maxRecDepth 100000 in
theorem okL118_11 : (List.range 64).all (fun i => okP 118 (704 + i)) = true := by decide +kernel
set_option maxRecDepth 100000 in
theorem okL118_12 : (List.range 64).all (fun i => okP 118 (768 + i)) = true := by decide +kernel
set_option maxRecDepth 100000 in
theorem thr_1 : (Cond.initialized (excN 1) :: vx_atS RX4 186 (excN 1) excP).all (fun w => vx_ot w && decide (w ∈ lw_tbl)) = true := by decide +kernel
set_option maxRecDepth 100000 in
theorem thr_2 : (Cond.initialized (excN 2) :: vx_atS RX4 46 (excN 2) excP).all (fun w => vx_ot w && decide (w ∈ lw_tbl)) = true := by decide +kernel
set_option maxRecDepth 100000 in
theorem thr_3 : (Cond.initialized (excN 3) :: vx_atS RX4 81 (excN 3) excP).all (fun w => vx_ot w && decide (w ∈ lw_tbl)) = true := by decide +kernel
end
section
set_option maxRecDepth 100000 in
theorem okM_209 : okM 209 = true := by decide +kernel
theorem okL113_at {pc : Nat} : okP 113 pc = true := by
  by_cases h : (J 113).1 ≤ pc
  · exact okP_ge h
  · have h1 : (J 113).1 = 493 := by decide +kernel
    have h2 : pc / 64 < 8 := by omega
    have h3 : pc % 64 < 64 := Nat.mod_lt _ (by omega)
    have e : pc = 64 * (pc / 64) + pc % 64 := (Nat.div_add_mod pc 64).symm
    have key : ∀ {k : Nat}, k = pc / 64 → (List.range 64).all (fun i => okP 113 (64 * k + i)) = true → okP 113 pc = true := by
      intro k hk h
      have := List.all_eq_true.mp h (pc % 64) (List.mem_range.mpr h3)
      rw [hk, ← e] at this
      exact this
    obtain ⟨k, hk⟩ : ∃ k, k = pc / 64 := ⟨_, rfl⟩
    rw [← hk] at h2
    match k, h2, hk with
    | 0, _, hk => exact key hk okL113_0
    | 1, _, hk => exact key hk okL113_1
    | 2, _, hk => exact key hk okL113_2
    | 3, _, hk => exact key hk okL113_3
    | 4, _, hk => exact key hk okL113_4
    | 5, _, hk => exact key hk okL113_5
    | 6, _, hk => exact key hk okL113_6
    | 7, _, hk => exact key hk okL113_7
    | k + 8, h2, _ => exact absurd h2 (by omega)
theorem okL118_at {pc : Nat} : okP 118 pc = true := by
  by_cases h : (J 118).1 ≤ pc
  · exact okP_ge h
  · have h1 : (J 118).1 = 779 := by decide +kernel
    have h2 : pc / 64 < 13 := by omega
    have h3 : pc % 64 < 64 := Nat.mod_lt _ (by omega)
    have e : pc = 64 * (pc / 64) + pc % 64 := (Nat.div_add_mod pc 64).symm
    have key : ∀ {k : Nat}, k = pc / 64 → (List.range 64).all (fun i => okP 118 (64 * k + i)) = true → okP 118 pc = true := by
      intro k hk h
      have := List.all_eq_true.mp h (pc % 64) (List.mem_range.mpr h3)
      rw [hk, ← e] at this
      exact this
    obtain ⟨k, hk⟩ : ∃ k, k = pc / 64 := ⟨_, rfl⟩
    rw [← hk] at h2
    match k, h2, hk with
    | 0, _, hk => exact key hk okL118_0
    | 1, _, hk => exact key hk okL118_1
    | 2, _, hk => exact key hk okL118_2
    | 3, _, hk => exact key hk okL118_3
    | 4, _, hk => exact key hk okL118_4
    | 5, _, hk => exact key hk okL118_5
    | 6, _, hk => exact key hk okL118_6
    | 7, _, hk => exact key hk okL118_7
    | 8, _, hk => exact key hk okL118_8
    | 9, _, hk => exact key hk okL118_9
    | 10, _, hk => exact key hk okL118_10
    | 11, _, hk => exact key hk okL118_11
    | 12, _, hk => exact key hk okL118_12
    | k + 13, h2, _ => exact absurd h2 (by omega)
theorem okMY {m : Nat} (h : m < 210) : (∀ pc, okP m pc = true) ∧ (m < 209 → okY m = true) := by
  have lift : ∀ {m : Nat}, okM m = true → ∀ pc, okP m pc = true := fun {m} h pc => by
    by_cases h1 : (J m).1 ≤ pc
    · exact okP_ge h1
    · exact List.all_eq_true.mp h pc (List.mem_range.mpr (by omega))
  match m, h with
  | 0, _ => exact ⟨lift okM_0, fun _ => okY_0⟩
  | 1, _ => exact ⟨lift okM_1, fun _ => okY_1⟩
  | 2, _ => exact ⟨lift okM_2, fun _ => okY_2⟩
  | 3, _ => exact ⟨lift okM_3, fun _ => okY_3⟩
  | 4, _ => exact ⟨lift okM_4, fun _ => okY_4⟩
  | 5, _ => exact ⟨lift okM_5, fun _ => okY_5⟩
  | 6, _ => exact ⟨lift okM_6, fun _ => okY_6⟩
  | 7, _ => exact ⟨lift okM_7, fun _ => okY_7⟩
  | 8, _ => exact ⟨lift okM_8, fun _ => okY_8⟩
  | 9, _ => exact ⟨lift okM_9, fun _ => okY_9⟩
  | 10, _ => exact ⟨lift okM_10, fun _ => okY_10⟩
  | 11, _ => exact ⟨lift okM_11, fun _ => okY_11⟩
  | 12, _ => exact ⟨lift okM_12, fun _ => okY_12⟩
  | 13, _ => exact ⟨lift okM_13, fun _ => okY_13⟩
  | 14, _ => exact ⟨lift okM_14, fun _ => okY_14⟩
  | 15, _ => exact ⟨lift okM_15, fun _ => okY_15⟩
  | 16, _ => exact ⟨lift okM_16, fun _ => okY_16⟩
  | 17, _ => exact ⟨lift okM_17, fun _ => okY_17⟩
  | 18, _ => exact ⟨lift okM_18, fun _ => okY_18⟩
  | 19, _ => exact ⟨lift okM_19, fun _ => okY_19⟩
  | 20, _ => exact ⟨lift okM_20, fun _ => okY_20⟩
  | 21, _ => exact ⟨lift okM_21, fun _ => okY_21⟩
  | 22, _ => exact ⟨lift okM_22, fun _ => okY_22⟩
  | 23, _ => exact ⟨lift okM_23, fun _ => okY_23⟩
  | 24, _ => exact ⟨lift okM_24, fun _ => okY_24⟩
  | 25, _ => exact ⟨lift okM_25, fun _ => okY_25⟩
  | 26, _ => exact ⟨lift okM_26, fun _ => okY_26⟩
  | 27, _ => exact ⟨lift okM_27, fun _ => okY_27⟩
  | 28, _ => exact ⟨lift okM_28, fun _ => okY_28⟩
  | 29, _ => exact ⟨lift okM_29, fun _ => okY_29⟩
  | 30, _ => exact ⟨lift okM_30, fun _ => okY_30⟩
  | 31, _ => exact ⟨lift okM_31, fun _ => okY_31⟩
  | 32, _ => exact ⟨lift okM_32, fun _ => okY_32⟩
  | 33, _ => exact ⟨lift okM_33, fun _ => okY_33⟩
  | 34, _ => exact ⟨lift okM_34, fun _ => okY_34⟩
  | 35, _ => exact ⟨lift okM_35, fun _ => okY_35⟩
  | 36, _ => exact ⟨lift okM_36, fun _ => okY_36⟩
  | 37, _ => exact ⟨lift okM_37, fun _ => okY_37⟩
  | 38, _ => exact ⟨lift okM_38, fun _ => okY_38⟩
  | 39, _ => exact ⟨lift okM_39, fun _ => okY_39⟩
  | 40, _ => exact ⟨lift okM_40, fun _ => okY_40⟩
  | 41, _ => exact ⟨lift okM_41, fun _ => okY_41⟩
  | 42, _ => exact ⟨lift okM_42, fun _ => okY_42⟩
  | 43, _ => exact ⟨lift okM_43, fun _ => okY_43⟩
  | 44, _ => exact ⟨lift okM_44, fun _ => okY_44⟩
  | 45, _ => exact ⟨lift okM_45, fun _ => okY_45⟩
  | 46, _ => exact ⟨lift okM_46, fun _ => okY_46⟩
  | 47, _ => exact ⟨lift okM_47, fun _ => okY_47⟩
  | 48, _ => exact ⟨lift okM_48, fun _ => okY_48⟩
  | 49, _ => exact ⟨lift okM_49, fun _ => okY_49⟩
  | 50, _ => exact ⟨lift okM_50, fun _ => okY_50⟩
  | 51, _ => exact ⟨lift okM_51, fun _ => okY_51⟩
  | 52, _ => exact ⟨lift okM_52, fun _ => okY_52⟩
  | 53, _ => exact ⟨lift okM_53, fun _ => okY_53⟩
  | 54, _ => exact ⟨lift okM_54, fun _ => okY_54⟩
  | 55, _ => exact ⟨lift okM_55, fun _ => okY_55⟩
  | 56, _ => exact ⟨lift okM_56, fun _ => okY_56⟩
  | 57, _ => exact ⟨lift okM_57, fun _ => okY_57⟩
  | 58, _ => exact ⟨lift okM_58, fun _ => okY_58⟩
  | 59, _ => exact ⟨lift okM_59, fun _ => okY_59⟩
  | 60, _ => exact ⟨lift okM_60, fun _ => okY_60⟩
  | 61, _ => exact ⟨lift okM_61, fun _ => okY_61⟩
  | 62, _ => exact ⟨lift okM_62, fun _ => okY_62⟩
  | 63, _ => exact ⟨lift okM_63, fun _ => okY_63⟩
  | 64, _ => exact ⟨lift okM_64, fun _ => okY_64⟩
  | 65, _ => exact ⟨lift okM_65, fun _ => okY_65⟩
  | 66, _ => exact ⟨lift okM_66, fun _ => okY_66⟩
  | 67, _ => exact ⟨lift okM_67, fun _ => okY_67⟩
  | 68, _ => exact ⟨lift okM_68, fun _ => okY_68⟩
  | 69, _ => exact ⟨lift okM_69, fun _ => okY_69⟩
  | 70, _ => exact ⟨lift okM_70, fun _ => okY_70⟩
  | 71, _ => exact ⟨lift okM_71, fun _ => okY_71⟩
  | 72, _ => exact ⟨lift okM_72, fun _ => okY_72⟩
  | 73, _ => exact ⟨lift okM_73, fun _ => okY_73⟩
  | 74, _ => exact ⟨lift okM_74, fun _ => okY_74⟩
  | 75, _ => exact ⟨lift okM_75, fun _ => okY_75⟩
  | 76, _ => exact ⟨lift okM_76, fun _ => okY_76⟩
  | 77, _ => exact ⟨lift okM_77, fun _ => okY_77⟩
  | 78, _ => exact ⟨lift okM_78, fun _ => okY_78⟩
  | 79, _ => exact ⟨lift okM_79, fun _ => okY_79⟩
  | 80, _ => exact ⟨lift okM_80, fun _ => okY_80⟩
  | 81, _ => exact ⟨lift okM_81, fun _ => okY_81⟩
  | 82, _ => exact ⟨lift okM_82, fun _ => okY_82⟩
  | 83, _ => exact ⟨lift okM_83, fun _ => okY_83⟩
  | 84, _ => exact ⟨lift okM_84, fun _ => okY_84⟩
  | 85, _ => exact ⟨lift okM_85, fun _ => okY_85⟩
  | 86, _ => exact ⟨lift okM_86, fun _ => okY_86⟩
  | 87, _ => exact ⟨lift okM_87, fun _ => okY_87⟩
  | 88, _ => exact ⟨lift okM_88, fun _ => okY_88⟩
  | 89, _ => exact ⟨lift okM_89, fun _ => okY_89⟩
  | 90, _ => exact ⟨lift okM_90, fun _ => okY_90⟩
  | 91, _ => exact ⟨lift okM_91, fun _ => okY_91⟩
  | 92, _ => exact ⟨lift okM_92, fun _ => okY_92⟩
  | 93, _ => exact ⟨lift okM_93, fun _ => okY_93⟩
  | 94, _ => exact ⟨lift okM_94, fun _ => okY_94⟩
  | 95, _ => exact ⟨lift okM_95, fun _ => okY_95⟩
  | 96, _ => exact ⟨lift okM_96, fun _ => okY_96⟩
  | 97, _ => exact ⟨lift okM_97, fun _ => okY_97⟩
  | 98, _ => exact ⟨lift okM_98, fun _ => okY_98⟩
  | 99, _ => exact ⟨lift okM_99, fun _ => okY_99⟩
  | 100, _ => exact ⟨lift okM_100, fun _ => okY_100⟩
  | 101, _ => exact ⟨lift okM_101, fun _ => okY_101⟩
  | 102, _ => exact ⟨lift okM_102, fun _ => okY_102⟩
  | 103, _ => exact ⟨lift okM_103, fun _ => okY_103⟩
  | 104, _ => exact ⟨lift okM_104, fun _ => okY_104⟩
  | 105, _ => exact ⟨lift okM_105, fun _ => okY_105⟩
  | 106, _ => exact ⟨lift okM_106, fun _ => okY_106⟩
  | 107, _ => exact ⟨lift okM_107, fun _ => okY_107⟩
  | 108, _ => exact ⟨lift okM_108, fun _ => okY_108⟩
  | 109, _ => exact ⟨lift okM_109, fun _ => okY_109⟩
  | 110, _ => exact ⟨lift okM_110, fun _ => okY_110⟩
  | 111, _ => exact ⟨lift okM_111, fun _ => okY_111⟩
  | 112, _ => exact ⟨lift okM_112, fun _ => okY_112⟩
  | 113, _ => exact ⟨fun _ => okL113_at, fun _ => okY_113⟩
  | 114, _ => exact ⟨lift okM_114, fun _ => okY_114⟩
  | 115, _ => exact ⟨lift okM_115, fun _ => okY_115⟩
  | 116, _ => exact ⟨lift okM_116, fun _ => okY_116⟩
  | 117, _ => exact ⟨lift okM_117, fun _ => okY_117⟩
  | 118, _ => exact ⟨fun _ => okL118_at, fun _ => okY_118⟩
  | 119, _ => exact ⟨lift okM_119, fun _ => okY_119⟩
  | 120, _ => exact ⟨lift okM_120, fun _ => okY_120⟩
  | 121, _ => exact ⟨lift okM_121, fun _ => okY_121⟩
  | 122, _ => exact ⟨lift okM_122, fun _ => okY_122⟩
  | 123, _ => exact ⟨lift okM_123, fun _ => okY_123⟩
  | 124, _ => exact ⟨lift okM_124, fun _ => okY_124⟩
  | 125, _ => exact ⟨lift okM_125, fun _ => okY_125⟩
  | 126, _ => exact ⟨lift okM_126, fun _ => okY_126⟩
  | 127, _ => exact ⟨lift okM_127, fun _ => okY_127⟩
  | 128, _ => exact ⟨lift okM_128, fun _ => okY_128⟩
  | 129, _ => exact ⟨lift okM_129, fun _ => okY_129⟩
  | 130, _ => exact ⟨lift okM_130, fun _ => okY_130⟩
  | 131, _ => exact ⟨lift okM_131, fun _ => okY_131⟩
  | 132, _ => exact ⟨lift okM_132, fun _ => okY_132⟩
  | 133, _ => exact ⟨lift okM_133, fun _ => okY_133⟩
  | 134, _ => exact ⟨lift okM_134, fun _ => okY_134⟩
  | 135, _ => exact ⟨lift okM_135, fun _ => okY_135⟩
  | 136, _ => exact ⟨lift okM_136, fun _ => okY_136⟩
  | 137, _ => exact ⟨lift okM_137, fun _ => okY_137⟩
  | 138, _ => exact ⟨lift okM_138, fun _ => okY_138⟩
  | 139, _ => exact ⟨lift okM_139, fun _ => okY_139⟩
  | 140, _ => exact ⟨lift okM_140, fun _ => okY_140⟩
  | 141, _ => exact ⟨lift okM_141, fun _ => okY_141⟩
  | 142, _ => exact ⟨lift okM_142, fun _ => okY_142⟩
  | 143, _ => exact ⟨lift okM_143, fun _ => okY_143⟩
  | 144, _ => exact ⟨lift okM_144, fun _ => okY_144⟩
  | 145, _ => exact ⟨lift okM_145, fun _ => okY_145⟩
  | 146, _ => exact ⟨lift okM_146, fun _ => okY_146⟩
  | 147, _ => exact ⟨lift okM_147, fun _ => okY_147⟩
  | 148, _ => exact ⟨lift okM_148, fun _ => okY_148⟩
  | 149, _ => exact ⟨lift okM_149, fun _ => okY_149⟩
  | 150, _ => exact ⟨lift okM_150, fun _ => okY_150⟩
  | 151, _ => exact ⟨lift okM_151, fun _ => okY_151⟩
  | 152, _ => exact ⟨lift okM_152, fun _ => okY_152⟩
  | 153, _ => exact ⟨lift okM_153, fun _ => okY_153⟩
  | 154, _ => exact ⟨lift okM_154, fun _ => okY_154⟩
  | 155, _ => exact ⟨lift okM_155, fun _ => okY_155⟩
  | 156, _ => exact ⟨lift okM_156, fun _ => okY_156⟩
  | 157, _ => exact ⟨lift okM_157, fun _ => okY_157⟩
  | 158, _ => exact ⟨lift okM_158, fun _ => okY_158⟩
  | 159, _ => exact ⟨lift okM_159, fun _ => okY_159⟩
  | 160, _ => exact ⟨lift okM_160, fun _ => okY_160⟩
  | 161, _ => exact ⟨lift okM_161, fun _ => okY_161⟩
  | 162, _ => exact ⟨lift okM_162, fun _ => okY_162⟩
  | 163, _ => exact ⟨lift okM_163, fun _ => okY_163⟩
  | 164, _ => exact ⟨lift okM_164, fun _ => okY_164⟩
  | 165, _ => exact ⟨lift okM_165, fun _ => okY_165⟩
  | 166, _ => exact ⟨lift okM_166, fun _ => okY_166⟩
  | 167, _ => exact ⟨lift okM_167, fun _ => okY_167⟩
  | 168, _ => exact ⟨lift okM_168, fun _ => okY_168⟩
  | 169, _ => exact ⟨lift okM_169, fun _ => okY_169⟩
  | 170, _ => exact ⟨lift okM_170, fun _ => okY_170⟩
  | 171, _ => exact ⟨lift okM_171, fun _ => okY_171⟩
  | 172, _ => exact ⟨lift okM_172, fun _ => okY_172⟩
  | 173, _ => exact ⟨lift okM_173, fun _ => okY_173⟩
  | 174, _ => exact ⟨lift okM_174, fun _ => okY_174⟩
  | 175, _ => exact ⟨lift okM_175, fun _ => okY_175⟩
  | 176, _ => exact ⟨lift okM_176, fun _ => okY_176⟩
  | 177, _ => exact ⟨lift okM_177, fun _ => okY_177⟩
  | 178, _ => exact ⟨lift okM_178, fun _ => okY_178⟩
  | 179, _ => exact ⟨lift okM_179, fun _ => okY_179⟩
  | 180, _ => exact ⟨lift okM_180, fun _ => okY_180⟩
  | 181, _ => exact ⟨lift okM_181, fun _ => okY_181⟩
  | 182, _ => exact ⟨lift okM_182, fun _ => okY_182⟩
  | 183, _ => exact ⟨lift okM_183, fun _ => okY_183⟩
  | 184, _ => exact ⟨lift okM_184, fun _ => okY_184⟩
  | 185, _ => exact ⟨lift okM_185, fun _ => okY_185⟩
  | 186, _ => exact ⟨lift okM_186, fun _ => okY_186⟩
  | 187, _ => exact ⟨lift okM_187, fun _ => okY_187⟩
  | 188, _ => exact ⟨lift okM_188, fun _ => okY_188⟩
  | 189, _ => exact ⟨lift okM_189, fun _ => okY_189⟩
  | 190, _ => exact ⟨lift okM_190, fun _ => okY_190⟩
  | 191, _ => exact ⟨lift okM_191, fun _ => okY_191⟩
  | 192, _ => exact ⟨lift okM_192, fun _ => okY_192⟩
  | 193, _ => exact ⟨lift okM_193, fun _ => okY_193⟩
  | 194, _ => exact ⟨lift okM_194, fun _ => okY_194⟩
  | 195, _ => exact ⟨lift okM_195, fun _ => okY_195⟩
  | 196, _ => exact ⟨lift okM_196, fun _ => okY_196⟩
  | 197, _ => exact ⟨lift okM_197, fun _ => okY_197⟩
  | 198, _ => exact ⟨lift okM_198, fun _ => okY_198⟩
  | 199, _ => exact ⟨lift okM_199, fun _ => okY_199⟩
  | 200, _ => exact ⟨lift okM_200, fun _ => okY_200⟩
  | 201, _ => exact ⟨lift okM_201, fun _ => okY_201⟩
  | 202, _ => exact ⟨lift okM_202, fun _ => okY_202⟩
  | 203, _ => exact ⟨lift okM_203, fun _ => okY_203⟩
  | 204, _ => exact ⟨lift okM_204, fun _ => okY_204⟩
  | 205, _ => exact ⟨lift okM_205, fun _ => okY_205⟩
  | 206, _ => exact ⟨lift okM_206, fun _ => okY_206⟩
  | 207, _ => exact ⟨lift okM_207, fun _ => okY_207⟩
  | 208, _ => exact ⟨lift okM_208, fun _ => okY_208⟩
  | 209, _ => exact ⟨lift okM_209, fun h => absurd h (by omega)⟩
  | m + 210, h => exact absurd h (by omega)
theorem I_lt {m pc : Nat} {e : IE} (h : I m pc = some e) : m < 210 := by
  unfold I at h
  cases h1 : Nat.blt m 210
  · rw [h1] at h; cases h
  · exact Nat.le_of_ble_eq_true h1
theorem I_ok {m pc : Nat} {e : IE} (h : I m pc = some e) : decode (cM m) pc = .ok (e.1, e.2.1) ∧ chk m pc e.2.1 e.1 e.2.2 = true ∧ m < 210 := by
  have h1 := I_lt h
  have h3 := (okMY h1).1 pc
  unfold okP at h3
  rw [h] at h3
  have h3 : okI m pc e = true := h3
  unfold okI at h3
  rw [Bool.and_eq_true, decide_eq_true_eq] at h3
  exact ⟨h3.1, h3.2, h1⟩
end
section
/-! the heap: ints, references, longs by address and place; how many objects there are, how many exceptions were made -/
abbrev Mem : Type := (Nat → Nat → Int32) × (Nat → Nat → Option Nat) × (Nat → Nat → Int64) × Nat × Nat
def up2 {α : Type} (f : Nat → Nat → α) (a k : Nat) (v : α) : Nat → Nat → α := fun b j => if b = a ∧ j = k then v else f b j
def mI (μ : Mem) (a k : Nat) : Int32 := μ.1 a k
def mR (μ : Mem) (a k : Nat) : Option Nat := μ.2.1 a k
def mL (μ : Mem) (a k : Nat) : Int64 := μ.2.2.1 a k
def mN (μ : Mem) : Nat := μ.2.2.2.1
def mX (μ : Mem) : Nat := μ.2.2.2.2
def setI (μ : Mem) (a k : Nat) (v : Int32) : Mem := (up2 μ.1 a k v, μ.2)
def setR (μ : Mem) (a k : Nat) (v : Nat) : Mem := (μ.1, up2 μ.2.1 a k (some v), μ.2.2)
def setL (μ : Mem) (a k : Nat) (v : Int64) : Mem := (μ.1, μ.2.1, up2 μ.2.2.1 a k v, μ.2.2.2)
def newM (μ : Mem) : Mem := (fun b j => if b = mN μ then 0 else μ.1 b j, fun b j => if b = mN μ then none else μ.2.1 b j, fun b j => if b = mN μ then 0 else μ.2.2.1 b j, mN μ + 1, μ.2.2.2.2)
def excM (μ : Mem) : Mem := (μ.1, μ.2.1, μ.2.2.1, μ.2.2.2.1, μ.2.2.2.2 + 1)
def cpyM (μ : Mem) (a0 sp a dp n : Nat) : Mem := (fun b j => if b = a then va_cpy (μ.1 a0) (μ.1 a) sp dp n j else μ.1 b j, μ.2)
/-- how many objects there are in all -/
def NN : Nat := 387
/-- what lies at an address: its kind (0 to 4 objects, 5 char[], 6 int[], 7 Instruction[], 8 Machine[], 9 long[]), how many places -/
def shpM (r : Nat) : Nat × Nat := bif Nat.beq r 0 then (1, 14) else bif Nat.beq r 1 then (7, 24) else bif Nat.beq r 2 then (0, 14) else bif Nat.beq r 3 then (6, 8) else bif Nat.beq r 4 then (6, 16) else bif Nat.beq r 5 then (6, 3) else (0, 14)
/-- the law's arrays by their order: its machine, then for each turn the copies -/
def shpT (r : Nat) : Nat × Nat := bif Nat.beq r 0 then (6, 64) else bif Nat.beq r 1 then (6, 40) else bif Nat.beq r 2 then (6, 8) else bif Nat.beq r 3 then (6, 16) else bif Nat.beq r 4 then (6, 3) else (6, 9)
def shpU (r : Nat) : Nat × Nat := bif Nat.blt r 10 then (bif Nat.beq (r % 2) 0 then (6, 8) else (6, 16)) else shpT (r - 10)
def shpL (j : Nat) : Nat × Nat := bif Nat.blt j 6 then shpT j else bif Nat.beq j 6 then (6, 8) else bif Nat.beq j 7 then (6, 16) else bif Nat.blt j 14 then shpT (j - 8) else shpU ((j - 14) % 16)
def shp (a : Nat) : Nat × Nat :=
  bif Nat.blt a 242 then (bif Nat.beq a 0 then (3, 6) else bif Nat.beq a 61 then (8, 6) else bif Nat.blt a 61 then shpM ((a - 1) % 30) else shpM ((a - 62) % 30))
  else bif Nat.beq a 242 then (2, 2) else bif Nat.beq a 243 then (5, 120) else bif Nat.beq a 244 then (6, 3) else bif Nat.blt a 387 then shpL (a - 245) else (99, 0)
/-- the guards -/
def gO (μ : Mem) (a ci : Nat) : Bool := Nat.blt a (mN μ) && Nat.beq (shp a).1 ci
def gA (μ : Mem) (a kd : Nat) (i : Int32) : Bool := Nat.blt a (mN μ) && (Nat.beq (shp a).1 kd && decide (0 ≤ i.toInt ∧ i.toInt < ((shp a).2 : Int)))
def gR (r : Option Nat) : Bool := r.isSome
def vR (r : Option Nat) : Value := .ref (r.getD 0)
def gN32 (r : UInt32) : Bool := decide (r &&& 0x7fffffff ≤ 0x7f800000)
def gN64 (r : UInt64) : Bool := decide (r &&& 0x7fffffffffffffff ≤ 0x7ff0000000000000)
/-- what a method of a small type may answer -/
def gZ (t : Nat) (x : Int32) : Bool := match t with | 0 => true | 1 => decide (x = 0 ∨ x = 1) | _ => decide (0 ≤ x ∧ x ≤ 65535)
def SCR : Nat := 1000000
abbrev Go : Type := Nat × List Value × List Value × Mem
/-- go on; a test and where it goes; a switch; an end; a throw; a call (callee, its locals, where it goes on) -/
abbrev Res : Type := Option (Bool × (Go ⊕ (Bool × Nat × Go) ⊕ (Int32 × List Nat × Go) ⊕ Option Value ⊕ Nat ⊕ (Nat × List Value × Go)))
def go (n : Nat) (L st : List Value) (μ : Mem) : Res := some (true, .inl (n, L, st, μ))
def gg (g : Bool) (n : Nat) (L st : List Value) (μ : Mem) : Res := some (g, .inl (n, L, st, μ))
def br (b : Bool) (t n : Nat) (L st : List Value) (μ : Mem) : Res := some (true, .inr (.inl (b, t, n, L, st, μ)))
def nl2 (v : Value) : Value := match v with | .long _ => .null | .double _ => .null | w => w
def st1 (L : List Value) (i : Nat) (v : Value) : List Value := match i with | 0 => L.set 0 v | j + 1 => (L.modify j nl2).set (j + 1) v
def st2 (L : List Value) (i : Nat) (v : Value) : List Value := (st1 L i v).set (i + 1) .null
def vtag (v : Value) : Nat := match v with | .int _ => 0 | .long _ => 1 | .float _ => 2 | .double _ => 3 | .ref _ => 4 | _ => 9
def sLd (t i n : Nat) (L st : List Value) (μ : Mem) : Res := match L[i]? with | some v => bif Nat.beq (vtag v) t then go n L (v :: st) μ else none | none => none
def sS1 (t i n : Nat) (L st : List Value) (μ : Mem) : Res := match st with | v :: r => bif Nat.beq (vtag v) t then go n (st1 L i v) r μ else none | [] => none
def sS2 (t i n : Nat) (L st : List Value) (μ : Mem) : Res := match st with | v :: r => bif Nat.beq (vtag v) t then go n (st2 L i v) r μ else none | [] => none
def icB (c : Jvm.ClassFile.Cond) (x y : Int32) : Bool := match c with | .eq => decide (x = y) | .ne => decide (¬ x = y) | .lt => decide (x < y) | .ge => decide (y ≤ x) | .gt => decide (y < x) | .le => decide (x ≤ y)
def ii1 (f : Int32 → Int32) (n : Nat) (L st : List Value) (μ : Mem) : Res := match st with | .int x :: r => go n L (.int (f x) :: r) μ | _ => none
def ii2 (f : Int32 → Int32 → Int32) (n : Nat) (L st : List Value) (μ : Mem) : Res := match st with | .int y :: .int x :: r => go n L (.int (f x y) :: r) μ | _ => none
def ll2 (f : Int64 → Int64 → Int64) (n : Nat) (L st : List Value) (μ : Mem) : Res := match st with | .long y :: .long x :: r => go n L (.long (f x y) :: r) μ | _ => none
def ff2 (f : UInt32 → UInt32 → UInt32) (n : Nat) (L st : List Value) (μ : Mem) : Res := match st with | .float y :: .float x :: r => gg (gN32 (f x y)) n L (.float (f x y) :: r) μ | _ => none
def dd2 (f : UInt64 → UInt64 → UInt64) (n : Nat) (L st : List Value) (μ : Mem) : Res := match st with | .double y :: .double x :: r => gg (gN64 (f x y)) n L (.double (f x y) :: r) μ | _ => none
def idx (i : Int32) : Nat := i.toNatClampNeg
def catL : List Value → Nat | [] => 0 | v :: r => v.category + catL r
def pad (as : List Value) (n : Nat) : List Value := as ++ List.replicate (n - as.length) .null
/-- arguments as locals: a wide one takes two places -/
def argL : List Value → List Value | [] => [] | .long x :: r => .long x :: .null :: argL r | .double x :: r => .double x :: .null :: argL r | v :: r => v :: argL r
/-- what is plain of a call: enough operands, few others, the arguments fit -/
def gC (na : Nat) (st args : List Value) (ml : Nat) (r : List Value) : Bool := Nat.ble (catL r) 8 && (Nat.ble (argL args).length ml && Nat.ble na st.length)
def cl (g gd : Bool) (y : Nat) (args : List Value) (ml n : Nat) (L r : List Value) (μ : Mem) : Res := bif gd then some (g, .inr (.inr (.inr (.inr (.inr (y, pad (argL args) ml, n, L, r, μ)))))) else none
def g8 (r : List Value) (g : Bool) (n : Nat) (L st : List Value) (μ : Mem) : Res := bif Nat.ble (catL r) 8 then gg g n L st μ else none
def sCall (aux : List Nat) (n : Nat) (L st : List Value) (μ : Mem) : Res := match aux with
  | 0 :: y :: na :: _ :: ci :: ml :: _ => match st.drop na with
    | .ref a :: r => cl (gO μ a ci) (gC na st (.ref a :: (st.take na).reverse) ml r) y (.ref a :: (st.take na).reverse) ml n L r μ
    | _ => none
  | 1 :: y :: na :: _ :: _ :: ml :: _ => cl true (gC na st (st.take na).reverse ml (st.drop na)) y (st.take na).reverse ml n L (st.drop na) μ
  | 2 :: y :: na :: _ :: ci :: ml :: _ => match st.drop na with
    | .ref a :: r => cl (gO μ a ci) (gC na st (.ref a :: (st.take na).reverse) ml r) y (.ref a :: (st.take na).reverse) ml n L r μ
    | _ => none
  | 3 :: _ => match st with
    | .ref a :: r => g8 r (Nat.blt a (mN μ)) n L r μ
    | _ => none
  | 4 :: y :: na :: _ :: ci :: ml :: _ => match st.drop na with
    | .ref a :: r => cl (gO μ a ci) (gC na st (.ref a :: (st.take na).reverse) ml r) y (.ref a :: (st.take na).reverse) ml n L r μ
    | _ => none
  | 5 :: _ => match st with
    | .int k :: .int dp :: .ref a :: .int sp :: .ref a0 :: r => g8 r (Nat.ble 245 (mN μ) && (gO μ a 6 && (gO μ a0 6 && decide (0 ≤ sp.toInt ∧ 0 ≤ dp.toInt ∧ 0 ≤ k.toInt ∧ sp.toInt + k.toInt ≤ ((shp a0).2 : Int) ∧ dp.toInt + k.toInt ≤ ((shp a).2 : Int))))) n L r (cpyM μ a0 (idx sp) a (idx dp) (idx k))
    | _ => none
  | 6 :: _ => match st with | .int x :: r => g8 r (decide (vn_sni2f x = false)) n L (.float x.toUInt32 :: r) μ | _ => none
  | 7 :: _ => match st with | .float x :: r => g8 r true n L (.int x.toInt32 :: r) μ | _ => none
  | 8 :: _ => match st with | .double x :: r => g8 r true n L (.long x.toInt64 :: r) μ | _ => none
  | _ => none
def sGet (aux : List Nat) (n : Nat) (L st : List Value) (μ : Mem) : Res := match aux, st with
  | ci :: k :: 0 :: _, .ref a :: r => gg (gO μ a ci) n L (.int (mI μ a k) :: r) μ
  | ci :: k :: 1 :: _, .ref a :: r => gg (gO μ a ci && gR (mR μ a k)) n L (vR (mR μ a k) :: r) μ
  | ci :: k :: 2 :: _, .ref a :: r => gg (gO μ a ci) n L (.long (mL μ a k) :: r) μ
  | _, _ => none
def sPut (aux : List Nat) (n : Nat) (L st : List Value) (μ : Mem) : Res := match aux, st with
  | ci :: k :: 0 :: _, .int x :: .ref a :: r => gg (gO μ a ci) n L r (setI μ a k x)
  | ci :: k :: 1 :: _, .ref x :: .ref a :: r => gg (gO μ a ci) n L r (setR μ a k x)
  | ci :: k :: 2 :: _, .long x :: .ref a :: r => gg (gO μ a ci) n L r (setL μ a k x)
  | _, _ => none
/-- one instruction; n: where the next one lies; xs: the script, with its length -/
def stp (xs : Nat × (Nat → Int32)) (ins : Instr) (n : Nat) (aux : List Nat) (L st : List Value) (μ : Mem) : Res := match ins with
  | .iload_n k => sLd 0 k n L st μ
  | .iload k => sLd 0 k n L st μ
  | .lload_n k => sLd 1 k n L st μ
  | .fload_n k => sLd 2 k n L st μ
  | .fload k => sLd 2 k n L st μ
  | .dload_n k => sLd 3 k n L st μ
  | .dload k => sLd 3 k n L st μ
  | .aload_n k => sLd 4 k n L st μ
  | .aload k => sLd 4 k n L st μ
  | .istore_n k => sS1 0 k n L st μ
  | .istore k => sS1 0 k n L st μ
  | .fstore_n k => sS1 2 k n L st μ
  | .fstore k => sS1 2 k n L st μ
  | .astore_n k => sS1 4 k n L st μ
  | .astore k => sS1 4 k n L st μ
  | .lstore_n k => sS2 1 k n L st μ
  | .dstore_n k => sS2 3 k n L st μ
  | .dstore k => sS2 3 k n L st μ
  | .iinc k d => match L[k]? with | some (.int x) => go n (st1 L k (.int (x + Int32.ofInt d))) st μ | _ => none
  | .iconst k => go n L (.int (Int32.ofInt k) :: st) μ
  | .bipush k => go n L (.int (Int8.ofInt k).toInt32 :: st) μ
  | .sipush k => go n L (.int (Int16.ofInt k).toInt32 :: st) μ
  | .lconst k => go n L (.long (Int64.ofNat (k : Nat)) :: st) μ
  | .fconst k => go n L (.float (match k with | 0 => FP.fconst0 | 1 => FP.fconst1 | _ => FP.fconst2) :: st) μ
  | .dconst k => go n L (.double (match k with | 0 => FP.dconst0 | _ => FP.dconst1) :: st) μ
  | .ldc _ => match aux with | 0 :: v :: _ :: _ => go n L (.int (Int32.ofNat v) :: st) μ | 1 :: v :: _ :: _ => go n L (.float (UInt32.ofNat v) :: st) μ | _ => none
  | .ldc2_w _ => match aux with | 2 :: v :: _ => go n L (.long (Int64.ofNat v) :: st) μ | 3 :: v :: _ => go n L (.double (UInt64.ofNat v) :: st) μ | _ => none
  | .iadd => ii2 (fun x y => x + y) n L st μ
  | .isub => ii2 (fun x y => x - y) n L st μ
  | .imul => ii2 (fun x y => x * y) n L st μ
  | .iand => ii2 (fun x y => x &&& y) n L st μ
  | .ior => ii2 (fun x y => x ||| y) n L st μ
  | .ixor => ii2 (fun x y => x ^^^ y) n L st μ
  | .ishl => ii2 (fun x y => x <<< (y &&& 31)) n L st μ
  | .ishr => ii2 (fun x y => x >>> (y &&& 31)) n L st μ
  | .iushr => ii2 (fun x y => (x.toUInt32 >>> (y.toUInt32 &&& Int32.toUInt32 31)).toInt32) n L st μ
  | .ineg => ii1 (fun x => -x) n L st μ
  | .i2c => ii1 (fun x => (x.toUInt32 % 65536).toInt32) n L st μ
  | .idiv => match st with | .int y :: .int x :: r => gg (decide (¬ y = 0)) n L (.int (x / y) :: r) μ | _ => none
  | .irem => match st with | .int y :: .int x :: r => gg (decide (¬ y = 0)) n L (.int (x - x / y * y) :: r) μ | _ => none
  | .ladd => ll2 (fun x y => x + y) n L st μ
  | .lmul => ll2 (fun x y => x * y) n L st μ
  | .land => ll2 (fun x y => x &&& y) n L st μ
  | .lor => ll2 (fun x y => x ||| y) n L st μ
  | .lshl => match st with | .int y :: .long x :: r => go n L (.long (x <<< (y.toInt64 &&& 63)) :: r) μ | _ => none
  | .lcmp => match st with | .long y :: .long x :: r => go n L (.int (lg_cmp x y) :: r) μ | _ => none
  | .i2l => match st with | .int x :: r => go n L (.long x.toInt64 :: r) μ | _ => none
  | .l2i => match st with | .long x :: r => go n L (.int x.toInt32 :: r) μ | _ => none
  | .i2d => match st with | .int x :: r => go n L (.double (FP.i2d x) :: r) μ | _ => none
  | .i2f => match st with | .int x :: r => go n L (.float (FP.i2f x) :: r) μ | _ => none
  | .f2i => match st with | .float x :: r => go n L (.int (FP.f2i x) :: r) μ | _ => none
  | .d2i => match st with | .double x :: r => go n L (.int (FP.d2i x) :: r) μ | _ => none
  | .d2l => match st with | .double x :: r => go n L (.long (FP.d2l x) :: r) μ | _ => none
  | .f2d => match st with | .float x :: r => gg (gN64 (FP.f2d x)) n L (.double (FP.f2d x) :: r) μ | _ => none
  | .d2f => match st with | .double x :: r => gg (gN32 (FP.d2f x)) n L (.float (FP.d2f x) :: r) μ | _ => none
  | .fneg => match st with | .float x :: r => go n L (.float (FP.fneg x) :: r) μ | _ => none
  | .fadd => ff2 FP.fadd n L st μ
  | .fmul => ff2 FP.fmul n L st μ
  | .fdiv => ff2 FP.fdiv n L st μ
  | .dmul => dd2 FP.dmul n L st μ
  | .ddiv => dd2 FP.ddiv n L st μ
  | .fcmp op => match st with | .float y :: .float x :: r => go n L (.int (Op.cmpValue (FP.fcmp x y) op) :: r) μ | _ => none
  | .dcmp op => match st with | .double y :: .double x :: r => go n L (.int (Op.cmpValue (FP.dcmp x y) op) :: r) μ | _ => none
  | .dup => match st with | .int x :: r => go n L (.int x :: .int x :: r) μ | .ref x :: r => go n L (.ref x :: .ref x :: r) μ | _ => none
  | .dup2 => match st with | .int x :: .ref y :: r => go n L (.int x :: .ref y :: .int x :: .ref y :: r) μ | .long x :: r => go n L (.long x :: .long x :: r) μ | _ => none
  | .pop => match st with | .int _ :: r => go n L r μ | .ref _ :: r => go n L r μ | _ => none
  | .ifCond c _ => match st with | .int x :: r => br (icB c x 0) (aux.getD 0 0) n L r μ | _ => none
  | .if_icmp c _ => match st with | .int y :: .int x :: r => br (icB c x y) (aux.getD 0 0) n L r μ | _ => none
  | .goto _ => go (aux.getD 0 0) L st μ
  | .tableswitch _ _ _ _ => match st with | .int x :: r => some (true, .inr (.inr (.inl (x, aux.tail, aux.getD 0 0, L, r, μ)))) | _ => none
  | .lookupswitch _ _ => match st with | .int x :: r => some (true, .inr (.inr (.inl (x, aux.tail, aux.getD 0 0, L, r, μ)))) | _ => none
  | .getfield _ => sGet aux n L st μ
  | .putfield _ => sPut aux n L st μ
  | .arraylength => match aux, st with
    | 1 :: _, .ref a :: r => gg (Nat.beq a SCR) n L (.int (Int32.ofNat xs.1) :: r) μ
    | [], .ref a :: r => gg (Nat.blt a (mN μ) && (Nat.ble 5 (shp a).1 && Nat.ble (shp a).1 9)) n L (.int (Int32.ofNat (shp a).2) :: r) μ
    | _, _ => none
  | .iaload => match aux, st with
    | 1 :: _, .int i :: .ref a :: r => gg (Nat.beq a SCR && decide (0 ≤ i.toInt ∧ i.toInt < (xs.1 : Int))) n L (.int (xs.2 (idx i)) :: r) μ
    | [], .int i :: .ref a :: r => gg (gA μ a 6 i) n L (.int (mI μ a (idx i)) :: r) μ
    | _, _ => none
  | .caload => match st with | .int i :: .ref a :: r => gg (gA μ a 5 i) n L (.int (mI μ a (idx i)) :: r) μ | _ => none
  | .laload => match st with | .int i :: .ref a :: r => gg (gA μ a 9 i) n L (.long (mL μ a (idx i)) :: r) μ | _ => none
  | .aaload => match st with | .int i :: .ref a :: r => gg ((gA μ a 7 i || gA μ a 8 i) && gR (mR μ a (idx i))) n L (vR (mR μ a (idx i)) :: r) μ | _ => none
  | .iastore => match st with | .int x :: .int i :: .ref a :: r => gg (gA μ a 6 i) n L r (setI μ a (idx i) x) | _ => none
  | .castore => match st with | .int x :: .int i :: .ref a :: r => gg (gA μ a 5 i) n L r (setI μ a (idx i) (vp_nar .char x)) | _ => none
  | .lastore => match st with | .long x :: .int i :: .ref a :: r => gg (gA μ a 9 i) n L r (setL μ a (idx i) x) | _ => none
  | .aastore => match st with | .ref x :: .int i :: .ref a :: r => gg ((gA μ a 7 i && gO μ x 0) || (gA μ a 8 i && gO μ x 1)) n L r (setR μ a (idx i) x) | _ => none
  | .newarray _ => match st with | .int k :: r => gg (Nat.blt (mN μ) NN && (Nat.beq (mX μ) 0 && (Nat.beq (shp (mN μ)).1 (aux.getD 0 0) && decide (k = Int32.ofNat (shp (mN μ)).2)))) n L (.ref (mN μ) :: r) (newM μ) | _ => none
  | .anewarray _ => match st with | .int k :: r => gg (Nat.blt (mN μ) NN && (Nat.beq (mX μ) 0 && (Nat.beq (shp (mN μ)).1 (aux.getD 0 0) && decide (k = Int32.ofNat (shp (mN μ)).2)))) n L (.ref (mN μ) :: r) (newM μ) | _ => none
  | .new _ => match aux with
    | 9 :: E :: _ => bif Nat.ble (catL st) 8 then some (Nat.ble 245 (mN μ), .inr (.inr (.inr (.inr (.inl E))))) else none
    | ci :: _ => gg (Nat.blt (mN μ) NN && (Nat.beq (mX μ) 0 && Nat.beq (shp (mN μ)).1 ci)) n L (.ref (mN μ) :: st) (newM μ)
    | _ => none
  | .invokevirtual _ => sCall aux n L st μ
  | .invokestatic _ => sCall aux n L st μ
  | .invokespecial _ => sCall aux n L st μ
  | .ireturn => match aux, st with | t :: _, [.int x] => some (gZ t x, .inr (.inr (.inr (.inl (some (.int x)))))) | _, _ => none
  | .lreturn => match st with | [.long x] => some (true, .inr (.inr (.inr (.inl (some (.long x)))))) | _ => none
  | .freturn => match st with | [.float x] => some (true, .inr (.inr (.inr (.inl (some (.float x)))))) | _ => none
  | .dreturn => match st with | [.double x] => some (true, .inr (.inr (.inr (.inl (some (.double x)))))) | _ => none
  | .areturn => match st with | [.ref x] => some (true, .inr (.inr (.inr (.inl (some (.ref x)))))) | _ => none
  | .return_ => match st with | [] => some (true, .inr (.inr (.inr (.inl none)))) | _ => none
  | _ => none
def step (xs : Nat × (Nat → Int32)) (m pc : Nat) (L st : List Value) (μ : Mem) : Res := match I m pc with
  | none => none
  | some e => stp xs e.1 (pc + e.2.1) e.2.2 L st μ
/-- where a switch goes -/
def swt (x : Int32) (d : Nat) : List Nat → Nat
  | k :: t :: r => bif decide (x = Int32.ofNat k) then t else swt x d r
  | _ => d
end
section
def hL : List (Nat × Nat × Nat × Nat × Nat × Nat) := []
def hRow (m : Nat) : List (Nat × Nat × Nat × Nat × Nat × Nat) := bif Nat.blt m 193 then [] else hL.filter (fun r => Nat.beq m r.1)
def hnd (m pc E : Nat) : Option (Nat × Nat) := match (hRow m).find? (fun r => Nat.ble r.2.1 pc && (Nat.blt pc r.2.2.1 && Nat.beq r.2.2.2.1 E)) with
  | some r => some (r.2.2.2.2.1, r.2.2.2.2.2)
  | none => none
abbrev Out : Type := Option Value ⊕ Nat
abbrev Scr : Type := Nat × (Nat → Int32)
def run (xs : Scr) : Nat → Nat → Nat → List Value → List Value → Mem → Option (Out × Mem)
  | 0, _, _, _, _, _ => none
  | f + 1, m, pc, L, st, μ => match step xs m pc L st μ with
    | none => none
    | some (g, r) => bif g then (match r with
      | .inl (n, L', s', μ') => run xs f m n L' s' μ'
      | .inr (.inl (b, t, n, L', s', μ')) => bif b then run xs f m t L' s' μ' else run xs f m n L' s' μ'
      | .inr (.inr (.inl (x, ps, d, L', s', μ'))) => run xs f m (swt x d ps) L' s' μ'
      | .inr (.inr (.inr (.inl v))) => some (.inl v, μ)
      | .inr (.inr (.inr (.inr (.inl E)))) => some (.inr E, excM μ)
      | .inr (.inr (.inr (.inr (.inr (y, Lc, n, L', s', μ'))))) => match run xs f y 0 Lc [] μ' with
        | none => none
        | some (.inl v, μ2) => run xs f m n L' (v.toList ++ s') μ2
        | some (.inr E, μ2) => match hnd m pc E with
          | none => some (.inr E, μ2)
          | some (p', k) => run xs f m p' (st1 L' k .null) [] μ2) else none
abbrev Post : Type := Out → Mem → Prop
def Ev (xs : Scr) (m pc : Nat) (L st : List Value) (μ : Mem) (Q : Post) : Prop := ∃ (f : Nat) (o : Out × Mem), run xs f m pc L st μ = some o ∧ Q o.1 o.2
theorem run_mono {xs : Scr} : ∀ {f m pc : Nat} {L st : List Value} {μ : Mem} {o : Out × Mem}, run xs f m pc L st μ = some o → run xs (f + 1) m pc L st μ = some o := by
  intro f
  induction f with
  | zero => intro m pc L st μ o h; simp [run] at h
  | succ f ih =>
    intro m pc L st μ o h
    rw [run] at h ⊢
    cases hs : step xs m pc L st μ with
    | none => rw [hs] at h; simp at h
    | some q =>
      obtain ⟨g, r⟩ := q
      rw [hs] at h
      cases g with
      | false => simp at h
      | true =>
        simp only [cond_true] at h ⊢
        rcases r with ⟨n, L', s', μ'⟩ | ⟨b, t, n, L', s', μ'⟩ | ⟨x, ps, d, L', s', μ'⟩ | v | E | ⟨y, Lc, n, L', s', μ'⟩
        · exact ih h
        · cases b
          · exact ih h
          · exact ih h
        · exact ih h
        · exact h
        · exact h
        · dsimp only at h ⊢
          cases hc : run xs f y 0 Lc [] μ' with
          | none => rw [hc] at h; simp at h
          | some q =>
            rw [hc] at h
            rw [ih hc]
            obtain ⟨ov, μ2⟩ := q
            cases ov with
            | inl v => exact ih h
            | inr E =>
              dsimp only at h ⊢
              cases hh : hnd m pc E with
              | none => rw [hh] at h; exact h
              | some z => rw [hh] at h; exact ih h
theorem run_le {xs : Scr} {f g m pc : Nat} {L st : List Value} {μ : Mem} {o : Out × Mem} (hfg : f ≤ g) (h : run xs f m pc L st μ = some o) : run xs g m pc L st μ = some o := by
  obtain ⟨k, rfl⟩ := Nat.exists_eq_add_of_le hfg
  induction k with
  | zero => exact h
  | succ k ih => exact run_mono (ih (Nat.le_add_right f k))
theorem run_det {xs : Scr} {f g m pc : Nat} {L st : List Value} {μ : Mem} {o o' : Out × Mem} (h : run xs f m pc L st μ = some o) (h' : run xs g m pc L st μ = some o') : o = o' := by
  have h1 := run_le (Nat.le_max_left f g) h
  have h2 := run_le (Nat.le_max_right f g) h'
  exact Option.some.inj (h1.symm.trans h2)
theorem Ev.imp {xs : Scr} {m pc : Nat} {L st : List Value} {μ : Mem} {Q Q' : Post} (h : Ev xs m pc L st μ Q) (hQ : ∀ o μ', Q o μ' → Q' o μ') : Ev xs m pc L st μ Q' := by
  obtain ⟨f, o, h1, h2⟩ := h
  exact ⟨f, o, h1, hQ _ _ h2⟩
/-- a contract with one answer, as an equivalence -/
theorem Ev.det {xs : Scr} {m pc : Nat} {L st : List Value} {μ : Mem} {o : Out} {μ' : Mem} (h : Ev xs m pc L st μ (fun o' u => o' = o ∧ u = μ')) (Q : Post) : Ev xs m pc L st μ Q ↔ Q o μ' := by
  obtain ⟨f, o1, h1, h2, h3⟩ := h
  constructor
  · rintro ⟨g, o2, h4, h5⟩
    have := run_det h1 h4
    rw [← this, h2, h3] at h5
    exact h5
  · intro hQ
    exact ⟨f, o1, h1, by rw [h2, h3]; exact hQ⟩
def CB (K : Option Value → Mem → Prop) (X : Nat → Mem → Prop) : Post := fun o μ => match o with | .inl v => K v μ | .inr E => X E μ
def KX (xs : Scr) (m pc : Nat) (L : List Value) (Q : Post) : Nat → Mem → Prop := fun E μ => match hnd m pc E with
  | none => Q (.inr E) μ
  | some (p', k) => Ev xs m p' (st1 L k .null) [] μ Q
/-- what one step says -/
def stE (xs : Scr) (m pc : Nat) (μ : Mem) (Q : Post) (C : Nat → List Value → List Value → Mem → Prop) (r : Res) : Prop := match r with
  | none => False
  | some (g, r) => bif g then (match r with
    | .inl (n, L', s', μ') => C n L' s' μ'
    | .inr (.inl (b, t, n, L', s', μ')) => bif b then C t L' s' μ' else C n L' s' μ'
    | .inr (.inr (.inl (x, ps, d, L', s', μ'))) => C (swt x d ps) L' s' μ'
    | .inr (.inr (.inr (.inl v))) => Q (.inl v) μ
    | .inr (.inr (.inr (.inr (.inl E)))) => Q (.inr E) (excM μ)
    | .inr (.inr (.inr (.inr (.inr (y, Lc, n, L', s', μ'))))) => Ev xs y 0 Lc [] μ' (CB (fun v μ2 => C n L' (v.toList ++ s') μ2) (KX xs m pc L' Q))) else False
theorem Ev.one {xs : Scr} {m pc : Nat} {L st : List Value} {μ : Mem} {Q : Post} (h : stE xs m pc μ Q (fun n L' s' μ' => Ev xs m n L' s' μ' Q) (step xs m pc L st μ)) : Ev xs m pc L st μ Q := by
  have key : ∀ {n : Nat} {L' s' : List Value} {μ' : Mem}, (∀ f, run xs (f + 1) m pc L st μ = run xs f m n L' s' μ') → Ev xs m n L' s' μ' Q → Ev xs m pc L st μ Q := fun hr ⟨f, o, h1, h2⟩ => ⟨f + 1, o, by rw [hr]; exact h1, h2⟩
  cases hs : step xs m pc L st μ with
  | none => rw [hs] at h; exact h.elim
  | some q =>
    obtain ⟨g, r⟩ := q
    rw [hs] at h
    cases g with
    | false => exact h.elim
    | true =>
      rcases r with ⟨n, L', s', μ'⟩ | ⟨b, t, n, L', s', μ'⟩ | ⟨x, ps, d, L', s', μ'⟩ | v | E | ⟨y, Lc, n, L', s', μ'⟩
      · exact key (fun f => by rw [run, hs]; rfl) h
      · cases b
        · exact key (fun f => by rw [run, hs]; rfl) h
        · exact key (fun f => by rw [run, hs]; rfl) h
      · exact key (fun f => by rw [run, hs]; rfl) h
      · exact ⟨1, (.inl v, μ), by rw [run, hs]; rfl, h⟩
      · exact ⟨1, (.inr E, excM μ), by rw [run, hs]; rfl, h⟩
      · obtain ⟨f, ⟨o, μ2⟩, h1, h2⟩ := h
        cases o with
        | inl v =>
          obtain ⟨f', o', h3, h4⟩ := h2
          refine ⟨max f f' + 1, o', ?_, h4⟩
          rw [run, hs]
          dsimp only [cond_true]
          rw [run_le (Nat.le_max_left f f') h1]
          exact run_le (Nat.le_max_right f f') h3
        | inr E =>
          have h2 : KX xs m pc L' Q E μ2 := h2
          unfold KX at h2
          cases hh : hnd m pc E with
          | none =>
            rw [hh] at h2
            refine ⟨f + 1, (.inr E, μ2), ?_, h2⟩
            rw [run, hs]
            dsimp only [cond_true]
            rw [h1]
            dsimp only
            rw [hh]
          | some z =>
            obtain ⟨p', k⟩ := z
            rw [hh] at h2
            obtain ⟨f', o', h3, h4⟩ := h2
            refine ⟨max f f' + 1, o', ?_, h4⟩
            rw [run, hs]
            dsimp only [cond_true]
            rw [run_le (Nat.le_max_left f f') h1]
            dsimp only
            rw [hh]
            exact run_le (Nat.le_max_right f f') h3
/-! typed ends of calls -/
def QV (K : Mem → Prop) (X : Nat → Mem → Prop) : Post := fun o μ => match o with | .inl none => K μ | .inr E => X E μ | _ => False
def QI (K : Int32 → Mem → Prop) (X : Nat → Mem → Prop) : Post := fun o μ => match o with | .inl (some (.int x)) => K x μ | .inr E => X E μ | _ => False
def QL (K : Int64 → Mem → Prop) (X : Nat → Mem → Prop) : Post := fun o μ => match o with | .inl (some (.long x)) => K x μ | .inr E => X E μ | _ => False
def QF (K : UInt32 → Mem → Prop) (X : Nat → Mem → Prop) : Post := fun o μ => match o with | .inl (some (.float x)) => K x μ | .inr E => X E μ | _ => False
def QD (K : UInt64 → Mem → Prop) (X : Nat → Mem → Prop) : Post := fun o μ => match o with | .inl (some (.double x)) => K x μ | .inr E => X E μ | _ => False
def QA (K : Nat → Mem → Prop) (X : Nat → Mem → Prop) : Post := fun o μ => match o with | .inl (some (.ref x)) => K x μ | .inr E => X E μ | _ => False
def CBt (t : Nat) (K : List Value → Mem → Prop) (X : Nat → Mem → Prop) : Post := match t with
  | 0 => QV (fun μ => K [] μ) X
  | 1 => QI (fun x μ => K [.int x] μ) X
  | 2 => QL (fun x μ => K [.long x] μ) X
  | 3 => QF (fun x μ => K [.float x] μ) X
  | 4 => QD (fun x μ => K [.double x] μ) X
  | _ => QA (fun x μ => K [.ref x] μ) X
theorem CBt_CB {t : Nat} {K : List Value → Mem → Prop} {X : Nat → Mem → Prop} {o : Out} {μ : Mem} (h : CBt t K X o μ) : CB (fun v μ => K v.toList μ) X o μ := by
  rcases o with v | E
  · rcases v with _ | v
    · match t, h with
      | 0, h => exact h
      | 1, h => exact h.elim
      | 2, h => exact h.elim
      | 3, h => exact h.elim
      | 4, h => exact h.elim
      | t + 5, h => exact h.elim
    · cases v <;> (match t, h with
      | 0, h => first | exact h | exact h.elim
      | 1, h => first | exact h | exact h.elim
      | 2, h => first | exact h | exact h.elim
      | 3, h => first | exact h | exact h.elim
      | 4, h => first | exact h | exact h.elim
      | t + 5, h => first | exact h | exact h.elim)
  · match t, h with
    | 0, h => exact h
    | 1, h => exact h
    | 2, h => exact h
    | 3, h => exact h
    | 4, h => exact h
    | t + 5, h => exact h
def rtag (m pc : Nat) : Nat := match I m pc with | some e => e.2.2.getD 6 0 | none => 0
def swp (x : Int32) (d : Nat) (P : Nat → Prop) : List Nat → Prop
  | k :: t :: r => bif decide (x = Int32.ofNat k) then P t else swp x d P r
  | _ => P d
theorem swp_swt {x : Int32} {d : Nat} {P : Nat → Prop} : ∀ (ps : List Nat), swp x d P ps → P (swt x d ps)
  | k :: t :: r => fun h => by
    unfold swp at h
    unfold swt
    cases hb : decide (x = Int32.ofNat k)
    · rw [hb] at h; exact swp_swt r h
    · rw [hb] at h; exact h
  | [] => fun h => h
  | [_] => fun h => h
/-- the condition under which a stretch of code (up to the stops S) ends well -/
def wpn (xs : Scr) (S : List Nat) : Nat → Nat → Nat → List Value → List Value → Mem → Post → Prop
  | 0, m, pc, L, st, μ, Q => Ev xs m pc L st μ Q
  | f + 1, m, pc, L, st, μ, Q => match step xs m pc L st μ with
    | none => False
    | some (g, r) => bif g then (match r with
      | .inl (n, L', s', μ') => bif S.elem n then Ev xs m n L' s' μ' Q else wpn xs S f m n L' s' μ' Q
      | .inr (.inl (b, t, n, L', s', μ')) => bif b then (bif S.elem t then Ev xs m t L' s' μ' Q else wpn xs S f m t L' s' μ' Q) else (bif S.elem n then Ev xs m n L' s' μ' Q else wpn xs S f m n L' s' μ' Q)
      | .inr (.inr (.inl (x, ps, d, L', s', μ'))) => swp x d (fun t => bif S.elem t then Ev xs m t L' s' μ' Q else wpn xs S f m t L' s' μ' Q) ps
      | .inr (.inr (.inr (.inl v))) => Q (.inl v) μ
      | .inr (.inr (.inr (.inr (.inl E)))) => Q (.inr E) (excM μ)
      | .inr (.inr (.inr (.inr (.inr (y, Lc, n, L', s', μ'))))) => Ev xs y 0 Lc [] μ' (CBt (rtag m pc) (fun v μ2 => bif S.elem n then Ev xs m n L' (v ++ s') μ2 Q else wpn xs S f m n L' (v ++ s') μ2 Q) (KX xs m pc L' Q))) else False
theorem wp {xs : Scr} (S : List Nat) : ∀ (f : Nat) {m pc : Nat} {L st : List Value} {μ : Mem} {Q : Post}, wpn xs S f m pc L st μ Q → Ev xs m pc L st μ Q := by
  intro f
  induction f with
  | zero => intro m pc L st μ Q h; exact h
  | succ f ih =>
    intro m pc L st μ Q h
    have nx : ∀ {n : Nat} {L' s' : List Value} {μ' : Mem}, (bif S.elem n then Ev xs m n L' s' μ' Q else wpn xs S f m n L' s' μ' Q) → Ev xs m n L' s' μ' Q := by
      intro n L' s' μ' h
      cases hb : S.elem n
      · rw [hb] at h; exact ih h
      · rw [hb] at h; exact h
    refine Ev.one ?_
    rw [wpn] at h
    cases hs : step xs m pc L st μ with
    | none => rw [hs] at h; exact h
    | some q =>
      obtain ⟨g, r⟩ := q
      rw [hs] at h
      cases g with
      | false => exact h
      | true =>
        rcases r with ⟨n, L', s', μ'⟩ | ⟨b, t, n, L', s', μ'⟩ | ⟨x, ps, d, L', s', μ'⟩ | v | E | ⟨y, Lc, n, L', s', μ'⟩
        · exact nx h
        · cases b
          · exact nx h
          · exact nx h
        · exact nx (swp_swt (P := fun t => bif S.elem t then Ev xs m t L' s' μ' Q else wpn xs S f m t L' s' μ' Q) ps h)
        · exact h
        · exact h
        · refine Ev.imp (Q := CBt (rtag m pc) (fun v μ2 => bif S.elem n then Ev xs m n L' (v ++ s') μ2 Q else wpn xs S f m n L' (v ++ s') μ2 Q) (KX xs m pc L' Q)) h fun o μ2 h2 => ?_
          have h3 := CBt_CB h2
          rcases o with v | E
          · exact nx h3
          · exact h3
end
section
/-! what a step does to the counts -/
theorem mN_setI {μ : Mem} {a k : Nat} {v : Int32} : mN (setI μ a k v) = mN μ := rfl
theorem mX_setI {μ : Mem} {a k : Nat} {v : Int32} : mX (setI μ a k v) = mX μ := rfl
theorem mN_setR {μ : Mem} {a k : Nat} {v : Nat} : mN (setR μ a k v) = mN μ := rfl
theorem mX_setR {μ : Mem} {a k : Nat} {v : Nat} : mX (setR μ a k v) = mX μ := rfl
theorem mN_setL {μ : Mem} {a k : Nat} {v : Int64} : mN (setL μ a k v) = mN μ := rfl
theorem mX_setL {μ : Mem} {a k : Nat} {v : Int64} : mX (setL μ a k v) = mX μ := rfl
theorem mN_newM {μ : Mem} : mN (newM μ) = mN μ + 1 := rfl
theorem mX_newM {μ : Mem} : mX (newM μ) = mX μ := rfl
theorem mN_excM {μ : Mem} : mN (excM μ) = mN μ := rfl
theorem mX_excM {μ : Mem} : mX (excM μ) = mX μ + 1 := rfl
theorem mN_cpyM {μ : Mem} {a0 sp a dp n : Nat} : mN (cpyM μ a0 sp a dp n) = mN μ := rfl
theorem mX_cpyM {μ : Mem} {a0 sp a dp n : Nat} : mX (cpyM μ a0 sp a dp n) = mX μ := rfl
/-- the counts behind a step -/
def grw (μ μ' : Mem) : Prop := mX μ' = mX μ ∧ (mN μ' = mN μ ∨ (mN μ' = mN μ + 1 ∧ mN μ < NN ∧ mX μ = 0))
theorem grw.rf {μ : Mem} : grw μ μ := ⟨rfl, Or.inl rfl⟩
/-- every way on from a step keeps the counts so -/
def grR (μ : Mem) (r : Res) : Prop := match r with
  | none => True
  | some (g, r) => g = true → (match r with
    | .inl q => grw μ q.2.2.2
    | .inr (.inl q) => grw μ q.2.2.2.2.2
    | .inr (.inr (.inl q)) => grw μ q.2.2.2.2.2
    | .inr (.inr (.inr (.inl _))) => True
    | .inr (.inr (.inr (.inr (.inl _)))) => True
    | .inr (.inr (.inr (.inr (.inr q)))) => grw μ q.2.2.2.2.2)
theorem gq_none {μ : Mem} : grR μ none := trivial
theorem gq_go {n : Nat} {L st : List Value} {μ μ' : Mem} (h : grw μ μ') : grR μ (go n L st μ') := fun _ => h
theorem gq_gg {g : Bool} {n : Nat} {L st : List Value} {μ μ' : Mem} (h : grw μ μ') : grR μ (gg g n L st μ') := fun _ => h
theorem gq_br {b : Bool} {t n : Nat} {L st : List Value} {μ μ' : Mem} (h : grw μ μ') : grR μ (br b t n L st μ') := fun _ => h
theorem gq_ld {t i n : Nat} {L st : List Value} {μ : Mem} : grR μ (sLd t i n L st μ) := by
  unfold sLd; split
  · rename_i v _
    cases Nat.beq (vtag v) t <;> first | exact gq_none | exact gq_go grw.rf
  · exact gq_none
theorem gq_s1 {t i n : Nat} {L st : List Value} {μ : Mem} : grR μ (sS1 t i n L st μ) := by
  unfold sS1; split
  · rename_i v _
    cases Nat.beq (vtag v) t <;> first | exact gq_none | exact gq_go grw.rf
  · exact gq_none
theorem gq_s2 {t i n : Nat} {L st : List Value} {μ : Mem} : grR μ (sS2 t i n L st μ) := by
  unfold sS2; split
  · rename_i v _
    cases Nat.beq (vtag v) t <;> first | exact gq_none | exact gq_go grw.rf
  · exact gq_none
theorem gq_ii1 {f : Int32 → Int32} {n : Nat} {L st : List Value} {μ : Mem} : grR μ (ii1 f n L st μ) := by
  unfold ii1; split <;> first | exact gq_go grw.rf | exact gq_none
theorem gq_ii2 {f : Int32 → Int32 → Int32} {n : Nat} {L st : List Value} {μ : Mem} : grR μ (ii2 f n L st μ) := by
  unfold ii2; split <;> first | exact gq_go grw.rf | exact gq_none
theorem gq_ll2 {f : Int64 → Int64 → Int64} {n : Nat} {L st : List Value} {μ : Mem} : grR μ (ll2 f n L st μ) := by
  unfold ll2; split <;> first | exact gq_go grw.rf | exact gq_none
theorem gq_ff2 {f : UInt32 → UInt32 → UInt32} {n : Nat} {L st : List Value} {μ : Mem} : grR μ (ff2 f n L st μ) := by
  unfold ff2; split <;> first | exact gq_gg grw.rf | exact gq_none
theorem gq_dd2 {f : UInt64 → UInt64 → UInt64} {n : Nat} {L st : List Value} {μ : Mem} : grR μ (dd2 f n L st μ) := by
  unfold dd2; split <;> first | exact gq_gg grw.rf | exact gq_none
theorem gq_get {aux : List Nat} {n : Nat} {L st : List Value} {μ : Mem} : grR μ (sGet aux n L st μ) := by
  unfold sGet; split <;> first | exact gq_gg grw.rf | exact gq_none
theorem gq_put {aux : List Nat} {n : Nat} {L st : List Value} {μ : Mem} : grR μ (sPut aux n L st μ) := by
  unfold sPut; split <;> first | exact gq_gg ⟨rfl, Or.inl rfl⟩ | exact gq_none
theorem gq_bif {b : Bool} {μ : Mem} {r : Res} (h : grR μ r) : grR μ (bif b then r else none) := by cases b <;> first | exact gq_none | exact h
theorem gq_call {aux : List Nat} {n : Nat} {L st : List Value} {μ : Mem} : grR μ (sCall aux n L st μ) := by
  unfold sCall
  repeat' split
  all_goals first | exact gq_none | exact gq_bif (gq_gg ⟨rfl, Or.inl rfl⟩) | exact gq_bif (fun _ => grw.rf)
theorem gq_new {g : Bool} {n : Nat} {L st : List Value} {μ : Mem} (h : g = true → mN μ < NN ∧ mX μ = 0) : grR μ (gg g n L st (newM μ)) := fun hg => ⟨rfl, Or.inr ⟨rfl, h hg⟩⟩
theorem gq_stp {xs : Scr} {ins : Instr} {n : Nat} {aux : List Nat} {L st : List Value} {μ : Mem} : grR μ (stp xs ins n aux L st μ) := by
  have hn : ∀ {b : Bool}, (Nat.blt (mN μ) NN && (Nat.beq (mX μ) 0 && b)) = true → mN μ < NN ∧ mX μ = 0 := by
    intro b h
    simp only [Bool.and_eq_true] at h
    exact ⟨Nat.le_of_ble_eq_true h.1, Nat.eq_of_beq_eq_true h.2.1⟩
  cases ins
  case tableswitch => unfold stp; dsimp only; split <;> first | exact gq_none | exact fun _ => grw.rf
  case lookupswitch => unfold stp; dsimp only; split <;> first | exact gq_none | exact fun _ => grw.rf
  case new =>
    unfold stp
    dsimp only
    split
    · exact gq_bif (fun hg => Nat.eq_of_beq_eq_true hg)
    · exact gq_new hn
    · exact gq_none
  case newarray => unfold stp; dsimp only; split <;> first | exact gq_none | exact gq_new hn
  case anewarray => unfold stp; dsimp only; split <;> first | exact gq_none | exact gq_new hn
  all_goals first
    | exact gq_none
    | exact gq_ld
    | exact gq_s1
    | exact gq_s2
    | exact gq_ii1
    | exact gq_ii2
    | exact gq_ll2
    | exact gq_ff2
    | exact gq_dd2
    | exact gq_get
    | exact gq_put
    | exact gq_call
    | exact gq_go grw.rf
    | (unfold stp; dsimp only; (repeat' split) <;> first | exact gq_none | exact gq_go grw.rf | exact gq_gg grw.rf | exact gq_gg ⟨rfl, Or.inl rfl⟩ | exact gq_br grw.rf | exact fun _ => trivial)
theorem gq_step {xs : Scr} {m pc : Nat} {L st : List Value} {μ : Mem} : grR μ (step xs m pc L st μ) := by
  unfold step
  split
  · exact gq_none
  · exact gq_stp
/-- the counts of a run grow -/
theorem run_grow {xs : Scr} : ∀ {f m pc : Nat} {L st : List Value} {μ : Mem} {o : Out × Mem}, run xs f m pc L st μ = some o → mN μ ≤ NN → mN μ ≤ mN o.2 ∧ mX μ ≤ mX o.2 ∧ mN o.2 ≤ NN ∧ (mN μ < mN o.2 → mX μ = 0) := by
  intro f
  induction f with
  | zero => intro m pc L st μ o h; simp [run] at h
  | succ f ih =>
    intro m pc L st μ o h hN
    have key : ∀ {μ' : Mem}, grw μ μ' → (mN μ' ≤ NN → mN μ' ≤ mN o.2 ∧ mX μ' ≤ mX o.2 ∧ mN o.2 ≤ NN ∧ (mN μ' < mN o.2 → mX μ' = 0)) → mN μ ≤ mN o.2 ∧ mX μ ≤ mX o.2 ∧ mN o.2 ≤ NN ∧ (mN μ < mN o.2 → mX μ = 0) := by
      rintro μ' ⟨h1, h2⟩ h3
      rw [h1] at h3
      rcases h2 with h2 | ⟨h2, h4, h5⟩
      · rw [h2] at h3; exact h3 hN
      · rw [h2] at h3
        obtain ⟨q1, q2, q3, q5⟩ := h3 (by omega)
        exact ⟨by omega, q2, q3, fun _ => h5⟩
    have hg := gq_step (xs := xs) (m := m) (pc := pc) (L := L) (st := st) (μ := μ)
    rw [run] at h
    cases hs : step xs m pc L st μ with
    | none => rw [hs] at h; simp at h
    | some q =>
      obtain ⟨g, r⟩ := q
      rw [hs] at h hg
      cases g with
      | false => simp at h
      | true =>
        simp only [cond_true] at h
        have hg := hg rfl
        rcases r with ⟨n, L', s', μ'⟩ | ⟨b, t, n, L', s', μ'⟩ | ⟨x, ps, d, L', s', μ'⟩ | v | E | ⟨y, Lc, n, L', s', μ'⟩
        · exact key hg (ih h)
        · cases b
          · exact key hg (ih h)
          · exact key hg (ih h)
        · exact key hg (ih h)
        · cases h; exact ⟨Nat.le_refl _, Nat.le_refl _, hN, fun h => absurd h (Nat.lt_irrefl _)⟩
        · cases h
          exact ⟨Nat.le_refl _, Nat.le_succ _, hN, fun h => absurd h (Nat.lt_irrefl _)⟩
        · dsimp only at h hg
          cases hc : run xs f y 0 Lc [] μ' with
          | none => rw [hc] at h; simp at h
          | some q =>
            rw [hc] at h
            obtain ⟨ov, μ2⟩ := q
            refine key hg fun hN' => ?_
            obtain ⟨a1, a2, a3, a5⟩ := ih hc hN'
            dsimp only at a1 a2 a3 a5
            have fin : (mN μ2 ≤ mN o.2 ∧ mX μ2 ≤ mX o.2 ∧ mN o.2 ≤ NN ∧ (mN μ2 < mN o.2 → mX μ2 = 0)) → mN μ' ≤ mN o.2 ∧ mX μ' ≤ mX o.2 ∧ mN o.2 ≤ NN ∧ (mN μ' < mN o.2 → mX μ' = 0) := by
              rintro ⟨b1, b2, b3, b5⟩
              exact ⟨by omega, by omega, b3, fun h => by
                by_cases hh : mN μ' < mN μ2
                · exact a5 hh
                · have := b5 (by omega); omega⟩
            cases ov with
            | inl v => exact fin (ih h a3)
            | inr E =>
              dsimp only at h
              cases hh : hnd m pc E with
              | none => rw [hh] at h; cases h; exact ⟨a1, a2, a3, a5⟩
              | some z => rw [hh] at h; exact fin (ih h a3)
end
section
/-! the world that a heap of ours is, and the frame's values -/
def adr (n0 b a : Nat) : Nat := if a = SCR then b else n0 + a
def rv (n0 b : Nat) (v : Value) : Value := match v with | .ref a => .ref (adr n0 b a) | w => w
theorem adr_lt {n0 b a : Nat} (h : a < NN) : adr n0 b a = n0 + a := by
  unfold adr
  rw [if_neg (by unfold NN at h; unfold SCR; omega)]
theorem adr_scr {n0 b a : Nat} (h : a = SCR) : adr n0 b a = b := by unfold adr; rw [if_pos h]
theorem rv_cat {n0 b : Nat} (v : Value) : (rv n0 b v).category = v.category := by cases v <;> rfl
def fvl (n0 b : Nat) (μ : Mem) (ci a k : Nat) : Value := match fty ci k with
  | 0 => .int (mI μ a k)
  | 1 => va_rf ((mR μ a k).map (adr n0 b))
  | _ => .long (mL μ a k)
def cel (n0 b : Nat) (cA : Nat → ClassId) (μ : Mem) (a : Nat) : va_E := match (shp a).1 with
  | 5 => .inl (cA 5, (shp a).2, .inl (mI μ a))
  | 6 => .inl (cA 6, (shp a).2, .inl (mI μ a))
  | 7 => .inl (cA 7, (shp a).2, .inr (.inr (.inr (.inr (fun i => (mR μ a i).map (adr n0 b))))))
  | 8 => .inl (cA 8, (shp a).2, .inr (.inr (.inr (.inr (fun i => (mR μ a i).map (adr n0 b))))))
  | 9 => .inl (cA 9, (shp a).2, .inr (.inl (mL μ a)))
  | ci => .inr (ci, (List.range (shp a).2).map (fvl n0 b μ ci a))
def wld (n0 b : Nat) (cA : Nat → ClassId) (μ : Mem) : va_W := (List.range (mN μ)).map (fun a => (n0 + a, cel n0 b cA μ a))
def tysOf (cA : Nat → ClassId) : List (ClassId × FieldType) := [(cA 5, .char), (cA 6, .int), (cA 7, .object RX1), (cA 8, .object RX2), (cA 9, .long)]
def AA (n0 : Nat) : Nat → Prop := fun q => n0 ≤ q
section World
variable {n0 b : Nat} {cA : Nat → ClassId} {μ μ' : Mem} {a ci : Nat}
theorem cel_O (h : (shp a).1 = ci) (hc : ci < 5) : cel n0 b cA μ a = .inr (ci, (List.range (shp a).2).map (fvl n0 b μ ci a)) := by
  unfold cel
  rw [h]
  match ci, hc with
  | 0, _ => rfl
  | 1, _ => rfl
  | 2, _ => rfl
  | 3, _ => rfl
  | 4, _ => rfl
theorem cel_5 (h : (shp a).1 = 5) : cel n0 b cA μ a = .inl (cA 5, (shp a).2, .inl (mI μ a)) := by unfold cel; rw [h]; rfl
theorem cel_6 (h : (shp a).1 = 6) : cel n0 b cA μ a = .inl (cA 6, (shp a).2, .inl (mI μ a)) := by unfold cel; rw [h]; rfl
theorem cel_7 (h : (shp a).1 = 7) : cel n0 b cA μ a = .inl (cA 7, (shp a).2, .inr (.inr (.inr (.inr (fun i => (mR μ a i).map (adr n0 b)))))) := by unfold cel; rw [h]; rfl
theorem cel_8 (h : (shp a).1 = 8) : cel n0 b cA μ a = .inl (cA 8, (shp a).2, .inr (.inr (.inr (.inr (fun i => (mR μ a i).map (adr n0 b)))))) := by unfold cel; rw [h]; rfl
theorem cel_9 (h : (shp a).1 = 9) : cel n0 b cA μ a = .inl (cA 9, (shp a).2, .inr (.inl (mL μ a))) := by unfold cel; rw [h]; rfl
/-- the same content, the same cell -/
theorem cel_cong (h1 : mI μ' a = mI μ a) (h2 : mR μ' a = mR μ a) (h3 : mL μ' a = mL μ a) : cel n0 b cA μ' a = cel n0 b cA μ a := by
  have hf : ∀ ci, fvl n0 b μ' ci a = fvl n0 b μ ci a := by
    intro ci
    funext k
    unfold fvl
    rw [h1, h2, h3]
  unfold cel
  rw [h1, h2, h3]
  simp only [hf]
theorem wld_get (h : a < mN μ) : (wld n0 b cA μ)[a]? = some (n0 + a, cel n0 b cA μ a) := by
  unfold wld
  rw [List.getElem?_map, List.getElem?_range h]
  rfl
theorem wld_len : (wld n0 b cA μ).length = mN μ := by unfold wld; rw [List.length_map, List.length_range]
theorem wld_none (h : ¬ a < mN μ) : (wld n0 b cA μ)[a]? = none := List.getElem?_eq_none (by rw [wld_len]; omega)
theorem wld_D : va_D (AA n0) (wld n0 b cA μ) := by
  have key : ∀ {i : Nat} {p : Nat × va_E}, (wld n0 b cA μ)[i]? = some p → p.1 = n0 + i := by
    intro i p h
    by_cases hi : i < mN μ
    · rw [wld_get hi] at h; cases h; rfl
    · rw [wld_none hi] at h; cases h
  refine ⟨fun i j p q hi hj hpq => ?_, fun k q hk => ?_⟩
  · have h1 := key hi
    have h2 := key hj
    omega
  · show n0 ≤ q.1
    rw [key hk]
    exact Nat.le_add_right _ _
theorem wld_set (h : a < mN μ) (hn : mN μ' = mN μ) (hc : ∀ c, c ≠ a → cel n0 b cA μ' c = cel n0 b cA μ c) {x : va_E} (hx : cel n0 b cA μ' a = x) : (wld n0 b cA μ).set a (n0 + a, x) = wld n0 b cA μ' := by
  subst hx
  apply List.ext_getElem?
  intro i
  by_cases hi : i = a
  · subst hi
    rw [List.getElem?_set_self (by rw [wld_len]; exact h), wld_get (by rw [hn]; exact h)]
  · rw [List.getElem?_set_ne (fun q => hi q.symm)]
    by_cases hl : i < mN μ
    · rw [wld_get hl, wld_get (by rw [hn]; exact hl), hc i hi]
    · rw [wld_none hl, wld_none (by rw [hn]; exact hl)]
theorem wld_push (hn : mN μ' = mN μ + 1) (hc : ∀ c, c < mN μ → cel n0 b cA μ' c = cel n0 b cA μ c) {x : va_E} (hx : cel n0 b cA μ' (mN μ) = x) : wld n0 b cA μ ++ [(n0 + mN μ, x)] = wld n0 b cA μ' := by
  subst hx
  apply List.ext_getElem?
  intro i
  rw [List.getElem?_append, wld_len]
  by_cases hl : i < mN μ
  · rw [if_pos hl, wld_get hl, wld_get (by omega), hc i hl]
  · rw [if_neg hl]
    by_cases he : i = mN μ
    · subst he
      rw [Nat.sub_self, wld_get (by omega)]
      rfl
    · rw [wld_none (by omega)]
      exact List.getElem?_eq_none (by simp; omega)
theorem wld_get' (h : a < mN μ) {q : va_E} (hq : cel n0 b cA μ a = q) : (wld n0 b cA μ)[a]? = some (n0 + a, q) := by rw [wld_get h, hq]
end World
/-! the guards, read -/
theorem gO_spec {μ : Mem} {a ci : Nat} (h : gO μ a ci = true) : a < mN μ ∧ (shp a).1 = ci := by
  unfold gO at h
  rw [Bool.and_eq_true] at h
  exact ⟨Nat.le_of_ble_eq_true h.1, Nat.eq_of_beq_eq_true h.2⟩
theorem clampInt {i : Int32} (h : 0 ≤ i.toInt) : (i.toNatClampNeg : Int) = i.toInt := Int.toNat_of_nonneg h
theorem vpin_of {i : Int32} {n : Nat} (h1 : 0 ≤ i.toInt) (h2 : i.toInt < (n : Int)) : vp_in i n := by
  have h3 := clampInt h1
  rintro (h | h)
  · rw [Int32.lt_iff_toInt_lt, Int32.toInt_zero] at h
    omega
  · omega
theorem gA_spec {μ : Mem} {a kd : Nat} {i : Int32} (h : gA μ a kd i = true) : a < mN μ ∧ (shp a).1 = kd ∧ vp_in i (shp a).2 := by
  unfold gA at h
  rw [Bool.and_eq_true, Bool.and_eq_true, decide_eq_true_eq] at h
  exact ⟨Nat.le_of_ble_eq_true h.1, Nat.eq_of_beq_eq_true h.2.1, vpin_of h.2.2.1 h.2.2.2⟩
theorem shp_obj : ∀ a, a < 387 → (shp a).1 < 4 → (shp a).2 = (clsOf (shp a).1).2.2 := by decide +kernel
theorem shp_len : ∀ a, a < 387 → (shp a).2 ≤ 1944 := by decide +kernel
theorem shp_lt {a : Nat} (h : a < NN) : (shp a).1 ≤ 9 := (by decide +kernel : ∀ a, a < 387 → (shp a).1 ≤ 9) a h
/-! the locals -/
def lvx (n0 b : Nat) (ls : Array Slot) (n : Nat) (L : List Value) : Prop := ls.size = n ∧ L.length = n ∧ lv_wf ls ∧ ∀ (i : Nat) (v : Value), L[i]? = some v → v ≠ .null → ls[i]? = some (.val (rv n0 b v))
def asl (n0 b : Nat) (L : List Value) : List (Nat × Value) := (List.range L.length).filterMap (fun i => match L[i]? with | some v => if v = .null then none else some (i, rv n0 b v) | none => none)
theorem asl_mem {n0 b : Nat} {L : List Value} {q : Nat × Value} : q ∈ asl n0 b L ↔ ∃ v, L[q.1]? = some v ∧ v ≠ .null ∧ q.2 = rv n0 b v := by
  unfold asl
  rw [List.mem_filterMap]
  constructor
  · rintro ⟨i, -, h⟩
    cases hv : L[i]? with
    | none => rw [hv] at h; cases h
    | some v =>
      rw [hv] at h
      dsimp only at h
      split at h
      · cases h
      · rename_i hn
        cases h
        exact ⟨v, hv, hn, rfl⟩
  · rintro ⟨v, h1, h2, h3⟩
    refine ⟨q.1, List.mem_range.mpr (List.getElem?_eq_some_iff.mp h1).1, ?_⟩
    rw [h1]
    dsimp only
    rw [if_neg h2, ← h3]
theorem lvx_has {n0 b n : Nat} {ls : Array Slot} {L : List Value} (h : lvx n0 b ls n L) : lv_has ls n (asl n0 b L) := by
  refine ⟨h.1, h.2.2.1, fun q hq => ?_⟩
  obtain ⟨v, h1, h2, h3⟩ := asl_mem.mp hq
  rw [h3]
  exact h.2.2.2 _ _ h1 h2
theorem lvx_at {n0 b n : Nat} {ls : Array Slot} {L : List Value} (h : lvx n0 b ls n L) {i : Nat} {v : Value} (hi : L[i]? = some v) (hv : v ≠ .null) : ls[i]? = some (.val (rv n0 b v)) := h.2.2.2 i v hi hv
theorem st1_len {L : List Value} {i : Nat} {v : Value} : (st1 L i v).length = L.length := by
  unfold st1
  split
  · rw [List.length_set]
  · rw [List.length_set, List.length_modify]
theorem st1_get {L : List Value} {i j : Nat} {v w : Value} (h : (st1 L i v)[j]? = some w) (hw : w ≠ .null) : (j = i ∧ w = v) ∨ (j ≠ i ∧ L[j]? = some w ∧ ¬ (j + 1 = i ∧ w.category = 2)) := by
  unfold st1 at h
  split at h
  · rw [List.getElem?_set] at h
    split at h
    · split at h
      · cases h; exact Or.inl ⟨by omega, rfl⟩
      · cases h
    · exact Or.inr ⟨by omega, h, by omega⟩
  · rename_i k
    rw [List.getElem?_set] at h
    split at h
    · split at h
      · cases h; exact Or.inl ⟨by omega, rfl⟩
      · cases h
    · refine Or.inr ⟨by omega, ?_⟩
      rw [List.getElem?_modify] at h
      by_cases hk : k = j
      · subst hk
        cases hL : L[k]? with
        | none => rw [hL] at h; cases h
        | some u =>
          rw [hL] at h
          have h : nl2 u = w := by simpa using h
          cases u <;> simp only [nl2] at h <;> subst h <;> first | exact absurd rfl hw | exact ⟨rfl, fun q => by simp [Value.category] at q⟩
      · cases hL : L[j]? with
        | none => rw [hL] at h; cases h
        | some u =>
          rw [hL] at h
          have h : u = w := by simpa [hk] using h
          subst h
          exact ⟨rfl, by omega⟩
theorem lvx_st1 {n0 b n : Nat} {ls ls' : Array Slot} {L : List Value} {i : Nat} {v : Value} (h : lvx n0 b ls n L) (h' : lv_has ls' n ((i, rv n0 b v) :: (asl n0 b L).filter (fun q => !(q.1 == i) && !(q.1 + 1 == i && q.2.category == 2)))) : lvx n0 b ls' n (st1 L i v) := by
  refine ⟨h'.1, by rw [st1_len]; exact h.2.1, h'.2.1, fun j w hj hw => ?_⟩
  rcases st1_get hj hw with ⟨rfl, rfl⟩ | ⟨h1, h2, h3⟩
  · exact h'.2.2 _ List.mem_cons_self
  · refine h'.2.2 (j, rv n0 b w) (List.mem_cons_of_mem _ (List.mem_filter.mpr ⟨asl_mem.mpr ⟨w, h2, hw, rfl⟩, ?_⟩))
    simp only [Bool.and_eq_true, Bool.not_eq_true', beq_eq_false_iff_ne, ne_eq, Bool.and_eq_false_iff, rv_cat]
    refine ⟨h1, ?_⟩
    by_cases hh : j + 1 = i
    · exact Or.inr fun q => h3 ⟨hh, q⟩
    · exact Or.inl hh
theorem lvx_st2 {n0 b n : Nat} {ls ls' : Array Slot} {L : List Value} {i : Nat} {v : Value} (h : lvx n0 b ls n L) (h' : lv_has ls' n ((i, rv n0 b v) :: (asl n0 b L).filter (fun q => !(q.1 == i) && (!(q.1 == i + 1) && !(q.1 + 1 == i && q.2.category == 2))))) : lvx n0 b ls' n (st2 L i v) := by
  refine ⟨h'.1, by unfold st2; rw [List.length_set, st1_len]; exact h.2.1, h'.2.1, fun j w hj hw => ?_⟩
  unfold st2 at hj
  rw [List.getElem?_set] at hj
  split at hj
  · split at hj
    · cases hj; exact absurd rfl hw
    · cases hj
  · rename_i hne
    rcases st1_get hj hw with ⟨rfl, rfl⟩ | ⟨h1, h2, h3⟩
    · exact h'.2.2 _ List.mem_cons_self
    · refine h'.2.2 (j, rv n0 b w) (List.mem_cons_of_mem _ (List.mem_filter.mpr ⟨asl_mem.mpr ⟨w, h2, hw, rfl⟩, ?_⟩))
      simp only [Bool.and_eq_true, Bool.not_eq_true', beq_eq_false_iff_ne, ne_eq, Bool.and_eq_false_iff, rv_cat]
      refine ⟨h1, fun q => hne q.symm, ?_⟩
      by_cases hh : j + 1 = i
      · exact Or.inr fun q => h3 ⟨hh, q⟩
      · exact Or.inl hh
/-- a place in the list of the known locals -/
theorem asl_at {n0 b : Nat} {L : List Value} {i : Nat} {v : Value} (h : L[i]? = some v) (hv : v ≠ .null) : ∃ k : Nat, (asl n0 b L)[k]? = some (i, rv n0 b v) := by
  have := List.getElem?_of_mem (asl_mem (n0 := n0) (b := b) (q := (i, rv n0 b v)).mpr ⟨v, h, hv, rfl⟩)
  exact this
end
section
/-! which instructions give which kind of step -/
def isBr (i : Instr) : Prop := match i with | .ifCond _ _ => True | .if_icmp _ _ => True | _ => False
def isSw (i : Instr) : Prop := match i with | .tableswitch _ _ _ _ => True | .lookupswitch _ _ => True | _ => False
def isRt (i : Instr) : Prop := match i with | .ireturn => True | .lreturn => True | .freturn => True | .dreturn => True | .areturn => True | .return_ => True | _ => False
def isNw (i : Instr) : Prop := match i with | .new _ => True | _ => False
def isCl (i : Instr) : Prop := match i with | .invokevirtual _ => True | .invokestatic _ => True | .invokespecial _ => True | _ => False
def kR (i : Instr) (r : Res) : Prop := match r with
  | none => True
  | some (_, r) => match r with
    | .inl _ => True
    | .inr (.inl _) => isBr i
    | .inr (.inr (.inl _)) => isSw i
    | .inr (.inr (.inr (.inl _))) => isRt i
    | .inr (.inr (.inr (.inr (.inl _)))) => isNw i
    | .inr (.inr (.inr (.inr (.inr _)))) => isCl i
theorem kr_none {i : Instr} : kR i none := trivial
theorem kr_go {i : Instr} {n : Nat} {L st : List Value} {μ : Mem} : kR i (go n L st μ) := trivial
theorem kr_gg {i : Instr} {g : Bool} {n : Nat} {L st : List Value} {μ : Mem} : kR i (gg g n L st μ) := trivial
theorem kr_ld {j : Instr} {t i n : Nat} {L st : List Value} {μ : Mem} : kR j (sLd t i n L st μ) := by
  unfold sLd; split
  · rename_i v _
    cases Nat.beq (vtag v) t <;> first | exact kr_none | exact kr_go
  · exact kr_none
theorem kr_s1 {j : Instr} {t i n : Nat} {L st : List Value} {μ : Mem} : kR j (sS1 t i n L st μ) := by
  unfold sS1; split
  · rename_i v _
    cases Nat.beq (vtag v) t <;> first | exact kr_none | exact kr_go
  · exact kr_none
theorem kr_s2 {j : Instr} {t i n : Nat} {L st : List Value} {μ : Mem} : kR j (sS2 t i n L st μ) := by
  unfold sS2; split
  · rename_i v _
    cases Nat.beq (vtag v) t <;> first | exact kr_none | exact kr_go
  · exact kr_none
theorem kr_ii1 {j : Instr} {f : Int32 → Int32} {n : Nat} {L st : List Value} {μ : Mem} : kR j (ii1 f n L st μ) := by unfold ii1; split <;> first | exact kr_go | exact kr_none
theorem kr_ii2 {j : Instr} {f : Int32 → Int32 → Int32} {n : Nat} {L st : List Value} {μ : Mem} : kR j (ii2 f n L st μ) := by unfold ii2; split <;> first | exact kr_go | exact kr_none
theorem kr_ll2 {j : Instr} {f : Int64 → Int64 → Int64} {n : Nat} {L st : List Value} {μ : Mem} : kR j (ll2 f n L st μ) := by unfold ll2; split <;> first | exact kr_go | exact kr_none
theorem kr_ff2 {j : Instr} {f : UInt32 → UInt32 → UInt32} {n : Nat} {L st : List Value} {μ : Mem} : kR j (ff2 f n L st μ) := by unfold ff2; split <;> first | exact kr_gg | exact kr_none
theorem kr_dd2 {j : Instr} {f : UInt64 → UInt64 → UInt64} {n : Nat} {L st : List Value} {μ : Mem} : kR j (dd2 f n L st μ) := by unfold dd2; split <;> first | exact kr_gg | exact kr_none
theorem kr_get {j : Instr} {aux : List Nat} {n : Nat} {L st : List Value} {μ : Mem} : kR j (sGet aux n L st μ) := by unfold sGet; split <;> first | exact kr_gg | exact kr_none
theorem kr_put {j : Instr} {aux : List Nat} {n : Nat} {L st : List Value} {μ : Mem} : kR j (sPut aux n L st μ) := by unfold sPut; split <;> first | exact kr_gg | exact kr_none
theorem kr_bif {i : Instr} {b : Bool} {r : Res} (h : kR i r) : kR i (bif b then r else none) := by cases b <;> first | exact kr_none | exact h
theorem kr_call {j : Instr} {aux : List Nat} {n : Nat} {L st : List Value} {μ : Mem} (h : isCl j) : kR j (sCall aux n L st μ) := by
  unfold sCall
  repeat' split
  all_goals first | exact kr_none | exact kr_bif kr_gg | exact kr_bif h
theorem kr_stp {xs : Scr} {ins : Instr} {n : Nat} {aux : List Nat} {L st : List Value} {μ : Mem} : kR ins (stp xs ins n aux L st μ) := by
  cases ins
  all_goals first
    | exact kr_none
    | exact kr_ld
    | exact kr_s1
    | exact kr_s2
    | exact kr_ii1
    | exact kr_ii2
    | exact kr_ll2
    | exact kr_ff2
    | exact kr_dd2
    | exact kr_get
    | exact kr_put
    | exact kr_call trivial
    | exact kr_go
    | (unfold stp; dsimp only; (repeat' split) <;> first | exact kr_none | exact kr_go | exact kr_gg | exact trivial | exact kr_bif trivial)
/-! what a step says, read -/
theorem inv_go {n n' : Nat} {L L' st st' : List Value} {μ μ' : Mem} (h : go n L st μ = some (true, .inl (n', L', st', μ'))) : n' = n ∧ L' = L ∧ st' = st ∧ μ' = μ := by
  unfold go at h; cases h; exact ⟨rfl, rfl, rfl, rfl⟩
theorem inv_gg {g : Bool} {n n' : Nat} {L L' st st' : List Value} {μ μ' : Mem} (h : gg g n L st μ = some (true, .inl (n', L', st', μ'))) : g = true ∧ n' = n ∧ L' = L ∧ st' = st ∧ μ' = μ := by
  unfold gg at h
  simp only [Option.some.injEq, Prod.mk.injEq, Sum.inl.injEq] at h
  obtain ⟨h1, h2, h3, h4, h5⟩ := h
  exact ⟨h1, h2.symm, h3.symm, h4.symm, h5.symm⟩
theorem inv_bif {b : Bool} {r : Res} {x : Bool × (Go ⊕ (Bool × Nat × Go) ⊕ (Int32 × List Nat × Go) ⊕ Option Value ⊕ Nat ⊕ (Nat × List Value × Go))} (h : (bif b then r else none) = some x) : b = true ∧ r = some x := by
  cases b
  · cases h
  · exact ⟨rfl, h⟩
theorem inv_ld {t i n n' : Nat} {L L' st st' : List Value} {μ μ' : Mem} (h : sLd t i n L st μ = some (true, .inl (n', L', st', μ'))) : ∃ v, L[i]? = some v ∧ vtag v = t ∧ n' = n ∧ L' = L ∧ st' = v :: st ∧ μ' = μ := by
  unfold sLd at h
  split at h
  · rename_i v hv
    cases hb : Nat.beq (vtag v) t
    · rw [hb] at h; cases h
    · rw [hb] at h
      obtain ⟨h1, h2, h3, h4⟩ := inv_go h
      exact ⟨v, hv, Nat.eq_of_beq_eq_true hb, h1, h2, h3, h4⟩
  · cases h
theorem inv_s1 {t i n n' : Nat} {L L' st st' : List Value} {μ μ' : Mem} (h : sS1 t i n L st μ = some (true, .inl (n', L', st', μ'))) : ∃ v r, st = v :: r ∧ vtag v = t ∧ n' = n ∧ L' = st1 L i v ∧ st' = r ∧ μ' = μ := by
  unfold sS1 at h
  split at h
  · rename_i v r
    cases hb : Nat.beq (vtag v) t
    · rw [hb] at h; cases h
    · rw [hb] at h
      obtain ⟨h1, h2, h3, h4⟩ := inv_go h
      exact ⟨v, r, rfl, Nat.eq_of_beq_eq_true hb, h1, h2, h3, h4⟩
  · cases h
theorem inv_s2 {t i n n' : Nat} {L L' st st' : List Value} {μ μ' : Mem} (h : sS2 t i n L st μ = some (true, .inl (n', L', st', μ'))) : ∃ v r, st = v :: r ∧ vtag v = t ∧ n' = n ∧ L' = st2 L i v ∧ st' = r ∧ μ' = μ := by
  unfold sS2 at h
  split at h
  · rename_i v r
    cases hb : Nat.beq (vtag v) t
    · rw [hb] at h; cases h
    · rw [hb] at h
      obtain ⟨h1, h2, h3, h4⟩ := inv_go h
      exact ⟨v, r, rfl, Nat.eq_of_beq_eq_true hb, h1, h2, h3, h4⟩
  · cases h
theorem tag0 {v : Value} (h : vtag v = 0) : ∃ x, v = .int x := by cases v <;> first | exact ⟨_, rfl⟩ | exact absurd h (by simp [vtag])
theorem tag1 {v : Value} (h : vtag v = 1) : ∃ x, v = .long x := by cases v <;> first | exact ⟨_, rfl⟩ | exact absurd h (by simp [vtag])
theorem tag2 {v : Value} (h : vtag v = 2) : ∃ x, v = .float x := by cases v <;> first | exact ⟨_, rfl⟩ | exact absurd h (by simp [vtag])
theorem tag3 {v : Value} (h : vtag v = 3) : ∃ x, v = .double x := by cases v <;> first | exact ⟨_, rfl⟩ | exact absurd h (by simp [vtag])
theorem tag4 {v : Value} (h : vtag v = 4) : ∃ x, v = .ref x := by cases v <;> first | exact ⟨_, rfl⟩ | exact absurd h (by simp [vtag])
theorem inv_ii1 {f : Int32 → Int32} {n n' : Nat} {L L' st st' : List Value} {μ μ' : Mem} (h : ii1 f n L st μ = some (true, .inl (n', L', st', μ'))) : ∃ x r, st = .int x :: r ∧ n' = n ∧ L' = L ∧ st' = .int (f x) :: r ∧ μ' = μ := by
  unfold ii1 at h
  split at h
  · obtain ⟨h1, h2, h3, h4⟩ := inv_go h; exact ⟨_, _, rfl, h1, h2, h3, h4⟩
  · cases h
theorem inv_ii2 {f : Int32 → Int32 → Int32} {n n' : Nat} {L L' st st' : List Value} {μ μ' : Mem} (h : ii2 f n L st μ = some (true, .inl (n', L', st', μ'))) : ∃ y x r, st = .int y :: .int x :: r ∧ n' = n ∧ L' = L ∧ st' = .int (f x y) :: r ∧ μ' = μ := by
  unfold ii2 at h
  split at h
  · obtain ⟨h1, h2, h3, h4⟩ := inv_go h; exact ⟨_, _, _, rfl, h1, h2, h3, h4⟩
  · cases h
theorem inv_ll2 {f : Int64 → Int64 → Int64} {n n' : Nat} {L L' st st' : List Value} {μ μ' : Mem} (h : ll2 f n L st μ = some (true, .inl (n', L', st', μ'))) : ∃ y x r, st = .long y :: .long x :: r ∧ n' = n ∧ L' = L ∧ st' = .long (f x y) :: r ∧ μ' = μ := by
  unfold ll2 at h
  split at h
  · obtain ⟨h1, h2, h3, h4⟩ := inv_go h; exact ⟨_, _, _, rfl, h1, h2, h3, h4⟩
  · cases h
theorem gN32_s {r : UInt32} (h : gN32 r = true) : vf_n32 r := by unfold gN32 at h; rw [decide_eq_true_eq] at h; exact h
theorem gN64_s {r : UInt64} (h : gN64 r = true) : vf_n64 r := by unfold gN64 at h; rw [decide_eq_true_eq] at h; exact h
theorem inv_ff2 {f : UInt32 → UInt32 → UInt32} {n n' : Nat} {L L' st st' : List Value} {μ μ' : Mem} (h : ff2 f n L st μ = some (true, .inl (n', L', st', μ'))) : ∃ y x r, st = .float y :: .float x :: r ∧ vf_n32 (f x y) ∧ n' = n ∧ L' = L ∧ st' = .float (f x y) :: r ∧ μ' = μ := by
  unfold ff2 at h
  split at h
  · obtain ⟨hg, h1, h2, h3, h4⟩ := inv_gg h; exact ⟨_, _, _, rfl, gN32_s hg, h1, h2, h3, h4⟩
  · cases h
theorem inv_dd2 {f : UInt64 → UInt64 → UInt64} {n n' : Nat} {L L' st st' : List Value} {μ μ' : Mem} (h : dd2 f n L st μ = some (true, .inl (n', L', st', μ'))) : ∃ y x r, st = .double y :: .double x :: r ∧ vf_n64 (f x y) ∧ n' = n ∧ L' = L ∧ st' = .double (f x y) :: r ∧ μ' = μ := by
  unfold dd2 at h
  split at h
  · obtain ⟨hg, h1, h2, h3, h4⟩ := inv_gg h; exact ⟨_, _, _, rfl, gN64_s hg, h1, h2, h3, h4⟩
  · cases h
end
section
/-! the machine's side of a step: what holds of a method's body while it runs -/
def ssum : Nat → Nat
  | 0 => 0
  | n + 1 => ssum n + (shp n).2
theorem ssum_mono {a k : Nat} : ssum a ≤ ssum (a + k) := by
  induction k with
  | zero => exact Nat.le_refl _
  | succ k ih => exact Nat.le_trans ih (Nat.le_add_right _ _)
theorem ssum_le {a c : Nat} (h : a ≤ c) : ssum a ≤ ssum c := by
  obtain ⟨k, rfl⟩ := Nat.exists_eq_add_of_le h
  exact ssum_mono
/-- what the tables and the heap below say, beside the words and the classes -/
def Vmf (b : Nat) (xs : Scr) (n0 : Nat) (U : State) (H : Heap) : Prop := (va_X b xs.1 xs.2 U H ∧ b < n0 ∧ xs.1 ≤ 260) ∧ (∀ w ∈ nestW, va_Nw w U) ∧ vx_Zq Bundle.tN "UNASSIGNED_STACK" Bundle.steD (AA n0) U H ∧ vx_Zq Bundle.tN "SUPPRESSED_SENTINEL" Bundle.listD (AA n0) U H ∧ (∀ (i k : Nat) (t : String), lw_tbl[i]? = some (.stringRef RX4 k t) → ∃ sa, vk_R RX4 k t sa U) ∧ (∀ E E' : Nat, 0 < E → E < 4 → 0 < E' → E' < 4 → E ≠ E' → va_Nc (excN E) (excN E') U) ∧ (∀ E : Nat, 0 < E → E < 4 → va_Nw (.castable (excN E) (excN E)) U) ∧ ∀ x : MethodName, Cond.declares x ∈ lw_tbl → va_Nw (.declares x) U
def Cx (p : Program) (l : Launch) (s : State) (mid : MethodId) (args : Array Value) (meth : Method) (c : Code) (D : va_G) (cA : Nat → ClassId) (n0 b : Nat) (xs : Scr) (m : Nat) : Prop :=
  p.tables.exec = Jvm.exec ∧ c.code = cM m ∧ c.maxLocals = xM m ∧ s.vm.findClass (ownM m) = some mid.cls ∧ (∀ w ∈ lw_all, w.before args s = true) ∧ va_K D vwCl (tysOf cA) s ∧ n0 ≤ s.heap.size ∧ meth.name = (yM m).name ∧ meth.locks = false ∧ l.stackTraces = false ∧ Vmf b xs n0 s s.heap ∧ (m = 101 → va_X b xs.1 xs.2 s s.heap ∧ b < n0 ∧ xs.1 ≤ 260) ∧ c.exceptionTable.toList = tableOf (hM m) ∧ meth.sig.returnType = rM m
def Iv (s : State) (D : va_G) (cA : Nat → ClassId) (n0 b k0 : Nat) (μ : Mem) (H : Heap) (locs : List Loc) : Prop :=
  mN μ ≤ NN ∧ va_P D vwCl (wld n0 b cA μ) H ∧ va_S (AA n0) s.heap H locs ∧ (mX μ = 0 → s.heap.size = n0 + k0 ∧ k0 ≤ mN μ)
def Gd (p : Program) (l : Launch) (e : Env) (R : Room) (s : State) (mid : MethodId) (args : Array Value) (below : List Frame) (meth : Method) (c : Code) (D : va_G) (cA : Nat → ClassId) (n0 b k0 d0 m : Nat) (Q : State → Prop) (pc : Nat) (L st : List Value) (μ : Mem) : Prop :=
  ∀ (H : Heap) (locs : List Loc) (ls : Array Slot), Iv s D cA n0 b k0 μ H locs → lvx n0 b ls (xM m) L → W p l e R s mid args below meth c H locs (mN μ + mX μ - k0) (ssum (mN μ) + 6 * mX μ - d0) Q (F0 mid pc ls (st.map (rv n0 b)))
theorem in_code {w : Jvm.Cond} {args : Array Value} {s : State} (h : ∀ w ∈ lw_all, w.before args s = true) {i : Nat} (hg : gw i w = true) : w.before args s = true := h w (gw_in hg)
theorem cls_ws {ci : Nat} (h : ci < 4) : ∀ w ∈ u_ws (clsOf ci).1 (clsOf ci).2.1 (clsOf ci).2.2, w ∈ lw_all := by
  have key : ∀ ci, ci < 4 → (u_ws (clsOf ci).1 (clsOf ci).2.1 (clsOf ci).2.2).all (fun w => hasW w) = true := by decide +kernel
  intro w hw
  have := List.all_eq_true.mp (key ci h) w hw
  unfold hasW at this
  rw [Bool.and_eq_true, decide_eq_true_eq] at this
  exact List.mem_filter.mpr this
theorem cls_at {ci : Nat} (h : ci < 4) : vwCl[ci]? = some ((clsOf ci).1, (clsOf ci).2.1, (clsOf ci).2.2) := by
  match ci, h with
  | 0, _ => rfl
  | 1, _ => rfl
  | 2, _ => rfl
  | 3, _ => rfl
theorem cls_nm {ci : Nat} (h : ci < 4) : ∀ a, a < (clsOf ci).2.2 → ∀ b, b < (clsOf ci).2.2 → a ≠ b → ((clsOf ci).2.1 a).2.1 ≠ ((clsOf ci).2.1 b).2.1 := by
  match ci, h with
  | 0, _ => exact nmX1
  | 1, _ => exact nmX2
  | 2, _ => exact nmX3
  | 3, _ => exact nmX4
def clsTy (ci : Nat) : Nat → FieldType := match ci with | 0 => tyX1 | 1 => tyX2 | 2 => tyX3 | _ => tyX4
theorem cls_ty {ci : Nat} (h : ci < 4) : ∀ k, k < (clsOf ci).2.2 → parseFieldDescriptor ((clsOf ci).2.1 k).2.2.1 = some (clsTy ci k) := by
  match ci, h with
  | 0, _ => exact tyX1_ok
  | 1, _ => exact tyX2_ok
  | 2, _ => exact tyX3_ok
  | 3, _ => exact tyX4_ok
/-- the kind of a field, and its type -/
def refTy (t : FieldType) : Bool := match t with | .object _ => true | .array _ => true | _ => false
theorem cls_f0 : ∀ ci, ci < 4 → ∀ k, k < (clsOf ci).2.2 → fty ci k = 0 → clsTy ci k = .int := by decide +kernel
theorem cls_f1 : ∀ ci, ci < 4 → ∀ k, k < (clsOf ci).2.2 → fty ci k = 1 → refTy (clsTy ci k) = true := by decide +kernel
theorem cls_f2 : ∀ ci, ci < 4 → ∀ k, k < (clsOf ci).2.2 → fty ci k = 2 → clsTy ci k = .long := by decide +kernel
theorem cls_fr : ∀ ci, ci < 4 → ∀ k, k < (clsOf ci).2.2 → fty ci k = 0 ∨ fty ci k = 1 ∨ fty ci k = 2 := by decide +kernel
theorem ref_fit {t : FieldType} (h : refTy t = true) (a : Nat) : narrow t (.ref a) = .ref a ∧ fits t (.ref a) = true := by
  cases t <;> first | exact ⟨rfl, rfl⟩ | exact absurd h (by simp [refTy])
section Snd
variable {p : Program} {l : Launch} {e : Env} {R : Room} {s : State} {mid : MethodId} {args : Array Value} {below : List Frame} {meth : Method} {c : Code} {D : va_G} {cA : Nat → ClassId} {n0 b k0 d0 : Nat} {xs : Scr} {m : Nat} {Q : State → Prop}
/-- the room still there -/
def Rm (R : Room) (k0 d0 : Nat) (μ : Mem) : Prop := mN μ + mX μ - k0 ≤ R.cells ∧ ssum (mN μ) + 6 * mX μ - d0 ≤ R.slots ∧ k0 ≤ mN μ + mX μ ∧ d0 ≤ ssum (mN μ) + 6 * mX μ
/-- reading a field -/
theorem g_get (C : Cx p l s mid args meth c D cA n0 b xs m) {pc idx : Nat} {aux : List Nat} {L st L' st' : List Value} {μ μ' : Mem} {n' : Nat} {len : Nat} (hI : I m pc = some (.getfield idx, len, aux))
    (hs : sGet aux (pc + len) L st μ = some (true, .inl (n', L', st', μ'))) (k : Gd p l e R s mid args below meth c D cA n0 b k0 d0 m Q n' L' st' μ') : Gd p l e R s mid args below meth c D cA n0 b k0 d0 m Q pc L st μ := by
  obtain ⟨hd, hc, -⟩ := I_ok hI
  obtain ⟨hx, hb, -, hown, hts, hK, -⟩ := C
  have hd : decode (cM m) pc = .ok (.getfield idx, len) := hd
  unfold chk at hc
  dsimp only at hc
  rw [Bool.and_eq_true] at hc
  obtain ⟨hlen, hc⟩ := hc
  have hlen := Nat.eq_of_beq_eq_true hlen
  subst hlen
  have main : ∀ {ci k0' tag wl : Nat} {r : List Nat} {a : Nat} {rs : List Value} {v : Value}, aux = ci :: k0' :: tag :: wl :: r → gO μ a ci = true → mN μ ≤ NN → st = .ref a :: rs → rv n0 b v = fvl n0 b μ ci a k0' →
      (∀ (H : Heap) (locs : List Loc) (ls : Array Slot), Iv s D cA n0 b k0 μ H locs → lvx n0 b ls (xM m) L → W p l e R s mid args below meth c H locs (mN μ + mX μ - k0) (ssum (mN μ) + 6 * mX μ - d0) Q (F0 mid (pc + 3) ls (rv n0 b v :: rs.map (rv n0 b)))) → Gd p l e R s mid args below meth c D cA n0 b k0 d0 m Q pc L st μ := by
    intro ci kk tag wl r a rs v haux hg hN hst hv kk2 H locs ls hi hl
    subst haux; subst hst
    dsimp only at hc
    simp only [Bool.and_eq_true] at hc
    obtain ⟨h1, h2, h3, h4⟩ := hc
    have h1 := Nat.le_of_ble_eq_true h1
    have h2 := Nat.le_of_ble_eq_true h2
    obtain ⟨ha, hsh⟩ := gO_spec hg
    have haN : a < NN := Nat.lt_of_lt_of_le ha hN
    have hob := shp_obj a haN (by rw [hsh]; exact h1)
    rw [hsh] at hob
    have hw := wld_get' (n0 := n0) (b := b) (cA := cA) ha (cel_O hsh h1)
    show W p l e R s mid args below meth c H locs _ _ Q (F0 mid pc ls (.ref (adr n0 b a) :: rs.map (rv n0 b)))
    rw [adr_lt haN]
    refine va_get (D := D) (ci := ci) (v := rv n0 b v) (C := (clsOf ci).1) (T := (clsOf ci).2.1) (N := (clsOf ci).2.2) hx hb hts (cls_ws h1) hown hK hi.2.1 a hw (cls_at h1) kk h2 (in_code hts h4) (fun _ h9 => h9) ?_ hd (kk2 H locs ls hi hl)
    rw [List.getElem?_map, List.getElem?_range (by rw [hob]; exact h2), hv]
    rfl
  unfold sGet at hs
  intro H locs ls hi hl
  have hN := hi.1
  split at hs
  · obtain ⟨hg, h1, h2, h3, h4⟩ := inv_gg hs
    subst h1; subst h2; subst h3; subst h4
    rename_i ci kk r a rs
    cases r with
    | nil => dsimp only at hc; exact absurd hc (by simp)
    | cons wl r =>
      refine main (v := .int (mI μ' a kk)) rfl hg hN rfl ?_ (fun H locs ls hi hl => k H locs ls hi hl) H locs ls hi hl
      have hc' := hc
      dsimp only at hc'
      simp only [Bool.and_eq_true] at hc'
      unfold fvl
      rw [← Nat.eq_of_beq_eq_true hc'.2.2.1]
      rfl
  · obtain ⟨hg, h1, h2, h3, h4⟩ := inv_gg hs
    subst h1; subst h2; subst h3; subst h4
    rename_i ci kk r a rs
    rw [Bool.and_eq_true] at hg
    cases r with
    | nil => dsimp only at hc; exact absurd hc (by simp)
    | cons wl r =>
      refine main (v := vR (mR μ' a kk)) rfl hg.1 hN rfl ?_ (fun H locs ls hi hl => k H locs ls hi hl) H locs ls hi hl
      have hc' := hc
      dsimp only at hc'
      simp only [Bool.and_eq_true] at hc'
      unfold fvl
      rw [← Nat.eq_of_beq_eq_true hc'.2.2.1]
      have hr := hg.2
      unfold gR at hr
      cases hm : mR μ' a kk with
      | none => rw [hm] at hr; cases hr
      | some z => rfl
  · obtain ⟨hg, h1, h2, h3, h4⟩ := inv_gg hs
    subst h1; subst h2; subst h3; subst h4
    rename_i ci kk r a rs
    cases r with
    | nil => dsimp only at hc; exact absurd hc (by simp)
    | cons wl r =>
      refine main (v := .long (mL μ' a kk)) rfl hg hN rfl ?_ (fun H locs ls hi hl => k H locs ls hi hl) H locs ls hi hl
      have hc' := hc
      dsimp only at hc'
      simp only [Bool.and_eq_true] at hc'
      unfold fvl
      rw [← Nat.eq_of_beq_eq_true hc'.2.2.1]
      rfl
  · cases hs
end Snd
end
section
theorem gw_hyp {i : Nat} {w : Jvm.Cond} (h : gw i w = true) : w ∈ lw_all := gw_in h
section Mems
variable {n0 b : Nat} {cA : Nat → ClassId} {μ : Mem} {a k c : Nat}
theorem mI_setI {x : Int32} {j : Nat} : mI (setI μ a k x) c j = if c = a ∧ j = k then x else mI μ c j := rfl
theorem mR_setI {x : Int32} {j : Nat} : mR (setI μ a k x) c j = mR μ c j := rfl
theorem mL_setI {x : Int32} {j : Nat} : mL (setI μ a k x) c j = mL μ c j := rfl
theorem mI_setR {x j : Nat} : mI (setR μ a k x) c j = mI μ c j := rfl
theorem mR_setR {x j : Nat} : mR (setR μ a k x) c j = if c = a ∧ j = k then some x else mR μ c j := rfl
theorem mL_setR {x j : Nat} : mL (setR μ a k x) c j = mL μ c j := rfl
theorem mI_setL {x : Int64} {j : Nat} : mI (setL μ a k x) c j = mI μ c j := rfl
theorem mR_setL {x : Int64} {j : Nat} : mR (setL μ a k x) c j = mR μ c j := rfl
theorem mL_setL {x : Int64} {j : Nat} : mL (setL μ a k x) c j = if c = a ∧ j = k then x else mL μ c j := rfl
theorem cel_setI_ne {x : Int32} (h : c ≠ a) : cel n0 b cA (setI μ a k x) c = cel n0 b cA μ c := cel_cong (by funext j; rw [mI_setI, if_neg (fun q => h q.1)]) rfl rfl
theorem cel_setR_ne {x : Nat} (h : c ≠ a) : cel n0 b cA (setR μ a k x) c = cel n0 b cA μ c := cel_cong rfl (by funext j; rw [mR_setR, if_neg (fun q => h q.1)]) rfl
theorem cel_setL_ne {x : Int64} (h : c ≠ a) : cel n0 b cA (setL μ a k x) c = cel n0 b cA μ c := cel_cong rfl rfl (by funext j; rw [mL_setL, if_neg (fun q => h q.1)])
theorem row_setI {x : Int32} : mI (setI μ a k x) a = upd (mI μ a) k x := by funext j; rw [mI_setI]; unfold upd; by_cases h : j = k <;> simp [h]
theorem row_setL {x : Int64} : mL (setL μ a k x) a = vp_updL (mL μ a) k x := by funext j; rw [mL_setL]; unfold vp_updL; by_cases h : j = k <;> simp [h]
theorem row_setR {x : Nat} : (fun i => (mR (setR μ a k x) a i).map (adr n0 b)) = va_up (fun i => (mR μ a i).map (adr n0 b)) k (some (adr n0 b x)) := by funext j; rw [mR_setR]; unfold va_up; by_cases h : j = k <;> simp [h]
theorem cel_new (h : c ≠ mN μ) : cel n0 b cA (newM μ) c = cel n0 b cA μ c := by
  refine cel_cong ?_ ?_ ?_
  · funext j; show (if c = mN μ then (0 : Int32) else μ.1 c j) = μ.1 c j; rw [if_neg h]
  · funext j; show (if c = mN μ then none else μ.2.1 c j) = μ.2.1 c j; rw [if_neg h]
  · funext j; show (if c = mN μ then (0 : Int64) else μ.2.2.1 c j) = μ.2.2.1 c j; rw [if_neg h]
theorem new_I {j : Nat} : mI (newM μ) (mN μ) j = 0 := by show (if mN μ = mN μ then (0 : Int32) else _) = 0; rw [if_pos rfl]
theorem new_R {j : Nat} : mR (newM μ) (mN μ) j = none := by show (if mN μ = mN μ then none else _) = none; rw [if_pos rfl]
theorem new_L {j : Nat} : mL (newM μ) (mN μ) j = 0 := by show (if mN μ = mN μ then (0 : Int64) else _) = 0; rw [if_pos rfl]
end Mems
section Snd1
variable {p : Program} {l : Launch} {e : Env} {R : Room} {s : State} {mid : MethodId} {args : Array Value} {below : List Frame} {meth : Method} {c : Code} {D : va_G} {cA : Nat → ClassId} {n0 b k0 d0 : Nat} {xs : Scr} {m : Nat} {Q : State → Prop}
theorem g_put (C : Cx p l s mid args meth c D cA n0 b xs m) {pc len n' : Nat} {aux : List Nat} {L st L' st' : List Value} {μ μ' : Mem} {z : Nat} (hI : I m pc = some (.putfield z, len, aux)) (hs : stp xs (.putfield z) (pc + len) aux L st μ = some (true, .inl (n', L', st', μ'))) (k : Gd p l e R s mid args below meth c D cA n0 b k0 d0 m Q n' L' st' μ') : Gd p l e R s mid args below meth c D cA n0 b k0 d0 m Q pc L st μ := by
  have hd : decode (cM m) pc = .ok (.putfield z, len) := (I_ok hI).1
  have hc : chk m pc len (.putfield z) aux = true := (I_ok hI).2.1
  obtain ⟨hx, hb, -, hown, hts, hK, -, hnm, -⟩ := C
  have hs : sPut aux (pc + len) L st μ = some (true, .inl (n', L', st', μ')) := hs
  unfold chk at hc
  dsimp only at hc
  rw [Bool.and_eq_true] at hc
  obtain ⟨hlen, hc⟩ := hc
  have hlen := Nat.eq_of_beq_eq_true hlen
  subst hlen
  have main : ∀ {ci kk tag wl a : Nat} {r : List Nat} {rs : List Value} {v : Value} {μ1 : Mem}, aux = ci :: kk :: tag :: wl :: r → gO μ a ci = true → st = v :: .ref a :: rs →
      (ci < 4 → kk < (clsOf ci).2.2 → tag = fty ci kk → narrow (clsTy ci kk) (rv n0 b v) = rv n0 b v ∧ fits (clsTy ci kk) (rv n0 b v) = true ∧ ∀ j, fvl n0 b μ1 ci a j = if j = kk then rv n0 b v else fvl n0 b μ ci a j) →
      mN μ1 = mN μ → mX μ1 = mX μ → (∀ c, c ≠ a → cel n0 b cA μ1 c = cel n0 b cA μ c) → Gd p l e R s mid args below meth c D cA n0 b k0 d0 m Q (pc + 3) L rs μ1 → Gd p l e R s mid args below meth c D cA n0 b k0 d0 m Q pc L st μ := by
    intro ci kk tag wl a r rs v μ1 haux hg hst hv hn1 hn2 hcel k1 H locs ls hi hl
    subst haux; subst hst
    dsimp only at hc
    simp only [Bool.and_eq_true] at hc
    obtain ⟨h1, h2, h3, h4, h5⟩ := hc
    have h1 := Nat.le_of_ble_eq_true h1
    have h2 := Nat.le_of_ble_eq_true h2
    have h3 := Nat.eq_of_beq_eq_true h3
    obtain ⟨e1, e2, e3⟩ := hv h1 h2 h3
    obtain ⟨ha, hsh⟩ := gO_spec hg
    have haN : a < NN := Nat.lt_of_lt_of_le ha hi.1
    have hob := shp_obj a haN (by rw [hsh]; exact h1)
    rw [hsh] at hob
    have hw := wld_get' (n0 := n0) (b := b) (cA := cA) ha (cel_O hsh h1)
    have hset : ((List.range (shp a).2).map (fvl n0 b μ ci a)).set kk (rv n0 b v) = (List.range (shp a).2).map (fvl n0 b μ1 ci a) := by
      apply List.ext_getElem?
      intro j
      by_cases hj : j = kk
      · subst hj
        rw [List.getElem?_set_self (by rw [List.length_map, List.length_range, hob]; exact h2), List.getElem?_map, List.getElem?_range (by rw [hob]; exact h2)]
        simp [e3]
      · rw [List.getElem?_set_ne (fun q => hj q.symm), List.getElem?_map, List.getElem?_map]
        by_cases hjl : j < (shp a).2
        · rw [List.getElem?_range hjl, Option.map_some, Option.map_some, e3, if_neg hj]
        · rw [List.getElem?_eq_none (by rw [List.length_range]; omega)]; rfl
    show W p l e R s mid args below meth c H locs _ _ Q (F0 mid pc ls (rv n0 b v :: .ref (adr n0 b a) :: rs.map (rv n0 b)))
    rw [adr_lt haN]
    have fin : ∀ (H1 : Heap) (locs1 : List Loc), va_P D vwCl ((wld n0 b cA μ).set a (n0 + a, .inr (ci, ((List.range (shp a).2).map (fvl n0 b μ ci a)).set kk (rv n0 b v)))) H1 → va_D (AA n0) ((wld n0 b cA μ).set a (n0 + a, .inr (ci, ((List.range (shp a).2).map (fvl n0 b μ ci a)).set kk (rv n0 b v)))) → va_S (AA n0) s.heap H1 locs1 → W p l e R s mid args below meth c H1 locs1 (mN μ + mX μ - k0) (ssum (mN μ) + 6 * mX μ - d0) Q (F0 mid (pc + 3) ls (rs.map (rv n0 b))) := by
      intro H1 locs1 hP _ hS
      rw [hset, wld_set ha hn1 hcel (cel_O hsh h1)] at hP
      have hk := k1 H1 locs1 ls ⟨by rw [hn1]; exact hi.1, hP, hS, by rw [hn1, hn2]; exact hi.2.2.2⟩ hl
      rw [hn1, hn2] at hk
      exact hk
    cases hf : ((clsOf ci).2.1 kk).2.2.2 with
    | false => exact va_put (D := D) (A := AA n0) (ci := ci) (ty := clsTy ci kk) (C := (clsOf ci).1) (T := (clsOf ci).2.1) (N := (clsOf ci).2.2) hx hb hts (cls_ws h1) (clsTy ci) (cls_ty h1) (cls_nm h1) hown hK hi.2.1 wld_D hi.2.2.1 a hw (cls_at h1) kk h2 (in_code hts h4) (fun _ h9 => h9) hf (cls_ty h1 kk h2) e1 e2 (by rw [List.length_map, List.length_range, hob]; exact h2) hd fin
    | true =>
      rw [hf] at h5
      dsimp only at h5
      rw [Bool.and_eq_true, decide_eq_true_eq, decide_eq_true_eq] at h5
      exact va_putF (D := D) (A := AA n0) (ci := ci) (ty := clsTy ci kk) (C := (clsOf ci).1) (T := (clsOf ci).2.1) (N := (clsOf ci).2.2) hx hb hts (cls_ws h1) (clsTy ci) (cls_ty h1) (cls_nm h1) hown hK hi.2.1 wld_D hi.2.2.1 a hw (cls_at h1) kk h2 (in_code hts h4) (fun _ h9 => h9) hf (by rw [hnm]; exact h5.1) h5.2 (cls_ty h1 kk h2) e1 e2 (by rw [List.length_map, List.length_range, hob]; exact h2) hd fin
  unfold sPut at hs
  split at hs
  · obtain ⟨hg, h1, h2, h3, h4⟩ := inv_gg hs
    subst h1; subst h2; subst h3; subst h4
    rename_i ci kk r x a rs
    cases r with
    | nil => dsimp only at hc; exact absurd hc (by simp)
    | cons wl r =>
      refine main (μ1 := setI μ a kk x) rfl hg rfl (fun q1 q2 q3 => ?_) rfl rfl (fun c hc => cel_setI_ne hc) k
      have ht := cls_f0 ci q1 kk q2 q3.symm
      rw [ht]
      refine ⟨rfl, rfl, fun j => ?_⟩
      unfold fvl
      by_cases hj : j = kk
      · subst hj; rw [if_pos rfl, ← q3]; show Value.int (mI (setI μ a j x) a j) = _; rw [mI_setI, if_pos ⟨rfl, rfl⟩]; rfl
      · rw [if_neg hj, mI_setI, if_neg (fun q => hj q.2)]; rfl
  · obtain ⟨hg, h1, h2, h3, h4⟩ := inv_gg hs
    subst h1; subst h2; subst h3; subst h4
    rename_i ci kk r x a rs
    cases r with
    | nil => dsimp only at hc; exact absurd hc (by simp)
    | cons wl r =>
      refine main (μ1 := setR μ a kk x) rfl hg rfl (fun q1 q2 q3 => ?_) rfl rfl (fun c hc => cel_setR_ne hc) k
      have ht := ref_fit (cls_f1 ci q1 kk q2 q3.symm) (adr n0 b x)
      refine ⟨ht.1, ht.2, fun j => ?_⟩
      unfold fvl
      by_cases hj : j = kk
      · subst hj; rw [if_pos rfl, ← q3]; show va_rf ((mR (setR μ a j x) a j).map (adr n0 b)) = _; rw [mR_setR, if_pos ⟨rfl, rfl⟩]; rfl
      · rw [if_neg hj, mR_setR, if_neg (fun q => hj q.2)]; rfl
  · obtain ⟨hg, h1, h2, h3, h4⟩ := inv_gg hs
    subst h1; subst h2; subst h3; subst h4
    rename_i ci kk r x a rs
    cases r with
    | nil => dsimp only at hc; exact absurd hc (by simp)
    | cons wl r =>
      refine main (μ1 := setL μ a kk x) rfl hg rfl (fun q1 q2 q3 => ?_) rfl rfl (fun c hc => cel_setL_ne hc) k
      have ht := cls_f2 ci q1 kk q2 q3.symm
      rw [ht]
      refine ⟨rfl, rfl, fun j => ?_⟩
      unfold fvl
      by_cases hj : j = kk
      · subst hj; rw [if_pos rfl, ← q3]; show Value.long (mL (setL μ a j x) a j) = _; rw [mL_setL, if_pos ⟨rfl, rfl⟩]; rfl
      · rw [if_neg hj, mL_setL, if_neg (fun q => hj q.2)]; rfl
  · cases hs
/-- an array's class among the tables' -/
theorem ty_at {kd : Nat} (h1 : 5 ≤ kd) (h2 : kd ≤ 9) : (tysOf cA)[kd - 5]? = some (cA kd, kty kd) := by
  match kd, h1, h2 with
  | 5, _, _ => rfl
  | 6, _, _ => rfl
  | 7, _, _ => rfl
  | 8, _, _ => rfl
  | 9, _, _ => rfl
theorem g_alen (C : Cx p l s mid args meth c D cA n0 b xs m) {pc len n' : Nat} {aux : List Nat} {L st L' st' : List Value} {μ μ' : Mem} (hI : I m pc = some (.arraylength, len, aux)) (hs : stp xs (.arraylength) (pc + len) aux L st μ = some (true, .inl (n', L', st', μ'))) (k : Gd p l e R s mid args below meth c D cA n0 b k0 d0 m Q n' L' st' μ') : Gd p l e R s mid args below meth c D cA n0 b k0 d0 m Q pc L st μ := by
  have hd : decode (cM m) pc = .ok (.arraylength, len) := (I_ok hI).1
  have hc : chk m pc len .arraylength aux = true := (I_ok hI).2.1
  obtain ⟨hx, hb, -, hown, hts, hK, hn0, -, -, -, -, hscr, -⟩ := C
  unfold chk at hc
  dsimp only at hc
  rw [Bool.and_eq_true] at hc
  obtain ⟨hlen, hc⟩ := hc
  have hlen := Nat.eq_of_beq_eq_true hlen
  subst hlen
  unfold stp at hs
  dsimp only at hs
  split at hs
  · obtain ⟨hg, h1, h2, h3, h4⟩ := inv_gg hs
    subst h1; subst h2; subst h3; subst h4
    rename_i r a rs
    have ha := Nat.eq_of_beq_eq_true hg
    obtain ⟨hX, hbn, -⟩ := hscr (Nat.eq_of_beq_eq_true hc)
    intro H locs ls hi hl
    show W p l e R s mid args below meth c H locs _ _ Q (F0 mid pc ls (.ref (adr n0 b a) :: rs.map (rv n0 b)))
    rw [adr_scr ha]
    exact va_slen hx hb hX (Nat.lt_of_lt_of_le hbn hn0) (show ¬ n0 ≤ b by omega) hi.2.2.1 hd (k H locs ls hi hl)
  · obtain ⟨hg, h1, h2, h3, h4⟩ := inv_gg hs
    subst h1; subst h2; subst h3; subst h4
    rename_i a rs
    simp only [Bool.and_eq_true] at hg
    have ha := Nat.le_of_ble_eq_true hg.1
    have g1 := Nat.le_of_ble_eq_true hg.2.1
    have g2 := Nat.le_of_ble_eq_true hg.2.2
    intro H locs ls hi hl
    show W p l e R s mid args below meth c H locs _ _ Q (F0 mid pc ls (.ref (adr n0 b a) :: rs.map (rv n0 b)))
    rw [adr_lt (Nat.lt_of_lt_of_le ha hi.1)]
    obtain ⟨x, hxv, hx1⟩ : ∃ x : vp_A, cel n0 b cA μ' a = .inl (cA (shp a).1, x) ∧ x.1 = (shp a).2 := by
      obtain ⟨kd, hk⟩ : ∃ kd, kd = (shp a).1 := ⟨_, rfl⟩
      rw [← hk] at g1 g2
      match kd, g1, g2, hk with
      | 5, _, _, hk => exact ⟨_, by rw [cel_5 hk.symm, ← hk], rfl⟩
      | 6, _, _, hk => exact ⟨_, by rw [cel_6 hk.symm, ← hk], rfl⟩
      | 7, _, _, hk => exact ⟨_, by rw [cel_7 hk.symm, ← hk], rfl⟩
      | 8, _, _, hk => exact ⟨_, by rw [cel_8 hk.symm, ← hk], rfl⟩
      | 9, _, _, hk => exact ⟨_, by rw [cel_9 hk.symm, ← hk], rfl⟩
    exact va_alen (D := D) hx hb hK hi.2.1 a ((shp a).1 - 5) (wld_get' ha hxv) (ty_at g1 g2) (by rw [hx1]) hd (k H locs ls hi hl)
  · cases hs
theorem g_iaload (C : Cx p l s mid args meth c D cA n0 b xs m) {pc len n' : Nat} {aux : List Nat} {L st L' st' : List Value} {μ μ' : Mem} (hI : I m pc = some (.iaload, len, aux)) (hs : stp xs (.iaload) (pc + len) aux L st μ = some (true, .inl (n', L', st', μ'))) (k : Gd p l e R s mid args below meth c D cA n0 b k0 d0 m Q n' L' st' μ') : Gd p l e R s mid args below meth c D cA n0 b k0 d0 m Q pc L st μ := by
  have hd : decode (cM m) pc = .ok (.iaload, len) := (I_ok hI).1
  have hc : chk m pc len .iaload aux = true := (I_ok hI).2.1
  obtain ⟨hx, hb, -, hown, hts, hK, hn0, -, -, -, -, hscr, -⟩ := C
  unfold chk at hc
  dsimp only at hc
  rw [Bool.and_eq_true] at hc
  obtain ⟨hlen, hc⟩ := hc
  have hlen := Nat.eq_of_beq_eq_true hlen
  subst hlen
  unfold stp at hs
  dsimp only at hs
  split at hs
  · obtain ⟨hg, h1, h2, h3, h4⟩ := inv_gg hs
    subst h1; subst h2; subst h3; subst h4
    rename_i r i a rs
    rw [Bool.and_eq_true, decide_eq_true_eq] at hg
    have ha := Nat.eq_of_beq_eq_true hg.1
    obtain ⟨hX, hbn, -⟩ := hscr (Nat.eq_of_beq_eq_true hc)
    intro H locs ls hi hl
    show W p l e R s mid args below meth c H locs _ _ Q (F0 mid pc ls (.int i :: .ref (adr n0 b a) :: rs.map (rv n0 b)))
    rw [adr_scr ha]
    exact va_sld hx hb hX (Nat.lt_of_lt_of_le hbn hn0) (show ¬ n0 ≤ b by omega) hi.2.2.1 (vpin_of hg.2.1 hg.2.2) hd (k H locs ls hi hl)
  · obtain ⟨hg, h1, h2, h3, h4⟩ := inv_gg hs
    subst h1; subst h2; subst h3; subst h4
    rename_i i a rs
    obtain ⟨ha, hsh, hin⟩ := gA_spec hg
    intro H locs ls hi hl
    show W p l e R s mid args below meth c H locs _ _ Q (F0 mid pc ls (.int i :: .ref (adr n0 b a) :: rs.map (rv n0 b)))
    rw [adr_lt (Nat.lt_of_lt_of_le ha hi.1)]
    exact va_iald (D := D) hx hb hK hi.2.1 a 1 (wld_get' ha (cel_6 hsh)) rfl hin hd (k H locs ls hi hl)
  · cases hs
theorem g_caload (C : Cx p l s mid args meth c D cA n0 b xs m) {pc len n' : Nat} {aux : List Nat} {L st L' st' : List Value} {μ μ' : Mem} (hI : I m pc = some (.caload, len, aux)) (hs : stp xs (.caload) (pc + len) aux L st μ = some (true, .inl (n', L', st', μ'))) (k : Gd p l e R s mid args below meth c D cA n0 b k0 d0 m Q n' L' st' μ') : Gd p l e R s mid args below meth c D cA n0 b k0 d0 m Q pc L st μ := by
  have hd : decode (cM m) pc = .ok (.caload, len) := (I_ok hI).1
  have hc : chk m pc len .caload aux = true := (I_ok hI).2.1
  obtain ⟨hx, hb, -, hown, hts, hK, hn0, -⟩ := C
  have hlen : len = 1 := Nat.eq_of_beq_eq_true hc
  subst hlen
  unfold stp at hs
  dsimp only at hs
  split at hs
  · obtain ⟨hg, h1, h2, h3, h4⟩ := inv_gg hs
    subst h1; subst h2; subst h3; subst h4
    rename_i i a rs
    obtain ⟨ha, hsh, hin⟩ := gA_spec hg
    intro H locs ls hi hl
    show W p l e R s mid args below meth c H locs _ _ Q (F0 mid pc ls (.int i :: .ref (adr n0 b a) :: rs.map (rv n0 b)))
    rw [adr_lt (Nat.lt_of_lt_of_le ha hi.1)]
    exact va_cald (D := D) hx hb hK hi.2.1 a 0 (wld_get' ha (cel_5 hsh)) rfl hin hd (k H locs ls hi hl)
  · cases hs
theorem g_laload (C : Cx p l s mid args meth c D cA n0 b xs m) {pc len n' : Nat} {aux : List Nat} {L st L' st' : List Value} {μ μ' : Mem} (hI : I m pc = some (.laload, len, aux)) (hs : stp xs (.laload) (pc + len) aux L st μ = some (true, .inl (n', L', st', μ'))) (k : Gd p l e R s mid args below meth c D cA n0 b k0 d0 m Q n' L' st' μ') : Gd p l e R s mid args below meth c D cA n0 b k0 d0 m Q pc L st μ := by
  have hd : decode (cM m) pc = .ok (.laload, len) := (I_ok hI).1
  have hc : chk m pc len .laload aux = true := (I_ok hI).2.1
  obtain ⟨hx, hb, -, hown, hts, hK, hn0, -⟩ := C
  have hlen : len = 1 := Nat.eq_of_beq_eq_true hc
  subst hlen
  unfold stp at hs
  dsimp only at hs
  split at hs
  · obtain ⟨hg, h1, h2, h3, h4⟩ := inv_gg hs
    subst h1; subst h2; subst h3; subst h4
    rename_i i a rs
    obtain ⟨ha, hsh, hin⟩ := gA_spec hg
    intro H locs ls hi hl
    show W p l e R s mid args below meth c H locs _ _ Q (F0 mid pc ls (.int i :: .ref (adr n0 b a) :: rs.map (rv n0 b)))
    rw [adr_lt (Nat.lt_of_lt_of_le ha hi.1)]
    exact va_lald (D := D) hx hb hK hi.2.1 a 4 (wld_get' ha (cel_9 hsh)) rfl hin hd (k H locs ls hi hl)
  · cases hs
theorem g_iastore (C : Cx p l s mid args meth c D cA n0 b xs m) {pc len n' : Nat} {aux : List Nat} {L st L' st' : List Value} {μ μ' : Mem} (hI : I m pc = some (.iastore, len, aux)) (hs : stp xs (.iastore) (pc + len) aux L st μ = some (true, .inl (n', L', st', μ'))) (k : Gd p l e R s mid args below meth c D cA n0 b k0 d0 m Q n' L' st' μ') : Gd p l e R s mid args below meth c D cA n0 b k0 d0 m Q pc L st μ := by
  have hd : decode (cM m) pc = .ok (.iastore, len) := (I_ok hI).1
  have hc : chk m pc len .iastore aux = true := (I_ok hI).2.1
  obtain ⟨hx, hb, -, hown, hts, hK, hn0, -⟩ := C
  have hlen : len = 1 := Nat.eq_of_beq_eq_true hc
  subst hlen
  unfold stp at hs
  dsimp only at hs
  split at hs
  · obtain ⟨hg, h1, h2, h3, h4⟩ := inv_gg hs
    subst h1; subst h2; subst h3; subst h4
    rename_i x i a
    obtain ⟨ha, hsh, hin⟩ := gA_spec hg
    intro H locs ls hi hl
    show W p l e R s mid args below meth c H locs _ _ Q (F0 mid pc ls (.int x :: .int i :: .ref (adr n0 b a) :: st'.map (rv n0 b)))
    rw [adr_lt (Nat.lt_of_lt_of_le ha hi.1)]
    refine va_iast (D := D) (A := AA n0) hx hb hK hi.2.1 wld_D hi.2.2.1 a 1 (wld_get' ha (cel_6 hsh)) rfl hin hd (fun H1 locs1 hP _ hS => ?_)
    rw [wld_set (μ' := setI μ a (idx i) x) ha rfl (fun c hc => cel_setI_ne hc) (by rw [cel_6 hsh, row_setI]; rfl)] at hP
    exact k H1 locs1 ls ⟨hi.1, hP, hS, hi.2.2.2⟩ hl
  · cases hs
theorem g_castore (C : Cx p l s mid args meth c D cA n0 b xs m) {pc len n' : Nat} {aux : List Nat} {L st L' st' : List Value} {μ μ' : Mem} (hI : I m pc = some (.castore, len, aux)) (hs : stp xs (.castore) (pc + len) aux L st μ = some (true, .inl (n', L', st', μ'))) (k : Gd p l e R s mid args below meth c D cA n0 b k0 d0 m Q n' L' st' μ') : Gd p l e R s mid args below meth c D cA n0 b k0 d0 m Q pc L st μ := by
  have hd : decode (cM m) pc = .ok (.castore, len) := (I_ok hI).1
  have hc : chk m pc len .castore aux = true := (I_ok hI).2.1
  obtain ⟨hx, hb, -, hown, hts, hK, hn0, -⟩ := C
  have hlen : len = 1 := Nat.eq_of_beq_eq_true hc
  subst hlen
  unfold stp at hs
  dsimp only at hs
  split at hs
  · obtain ⟨hg, h1, h2, h3, h4⟩ := inv_gg hs
    subst h1; subst h2; subst h3; subst h4
    rename_i x i a
    obtain ⟨ha, hsh, hin⟩ := gA_spec hg
    intro H locs ls hi hl
    show W p l e R s mid args below meth c H locs _ _ Q (F0 mid pc ls (.int x :: .int i :: .ref (adr n0 b a) :: st'.map (rv n0 b)))
    rw [adr_lt (Nat.lt_of_lt_of_le ha hi.1)]
    refine va_cast (D := D) (A := AA n0) hx hb hK hi.2.1 wld_D hi.2.2.1 a 0 (wld_get' ha (cel_5 hsh)) rfl hin hd (fun H1 locs1 hP _ hS => ?_)
    rw [wld_set (μ' := setI μ a (idx i) (vp_nar .char x)) ha rfl (fun c hc => cel_setI_ne hc) (by rw [cel_5 hsh, row_setI]; rfl)] at hP
    exact k H1 locs1 ls ⟨hi.1, hP, hS, hi.2.2.2⟩ hl
  · cases hs
theorem g_lastore (C : Cx p l s mid args meth c D cA n0 b xs m) {pc len n' : Nat} {aux : List Nat} {L st L' st' : List Value} {μ μ' : Mem} (hI : I m pc = some (.lastore, len, aux)) (hs : stp xs (.lastore) (pc + len) aux L st μ = some (true, .inl (n', L', st', μ'))) (k : Gd p l e R s mid args below meth c D cA n0 b k0 d0 m Q n' L' st' μ') : Gd p l e R s mid args below meth c D cA n0 b k0 d0 m Q pc L st μ := by
  have hd : decode (cM m) pc = .ok (.lastore, len) := (I_ok hI).1
  have hc : chk m pc len .lastore aux = true := (I_ok hI).2.1
  obtain ⟨hx, hb, -, hown, hts, hK, hn0, -⟩ := C
  have hlen : len = 1 := Nat.eq_of_beq_eq_true hc
  subst hlen
  unfold stp at hs
  dsimp only at hs
  split at hs
  · obtain ⟨hg, h1, h2, h3, h4⟩ := inv_gg hs
    subst h1; subst h2; subst h3; subst h4
    rename_i x i a
    obtain ⟨ha, hsh, hin⟩ := gA_spec hg
    intro H locs ls hi hl
    show W p l e R s mid args below meth c H locs _ _ Q (F0 mid pc ls (.long x :: .int i :: .ref (adr n0 b a) :: st'.map (rv n0 b)))
    rw [adr_lt (Nat.lt_of_lt_of_le ha hi.1)]
    refine va_last (D := D) (A := AA n0) hx hb hK hi.2.1 wld_D hi.2.2.1 a 4 (wld_get' ha (cel_9 hsh)) rfl hin hd (fun H1 locs1 hP _ hS => ?_)
    rw [wld_set (μ' := setL μ a (idx i) x) ha rfl (fun c hc => cel_setL_ne hc) (by rw [cel_9 hsh, row_setL]; rfl)] at hP
    exact k H1 locs1 ls ⟨hi.1, hP, hS, hi.2.2.2⟩ hl
  · cases hs
theorem g_aaload (C : Cx p l s mid args meth c D cA n0 b xs m) {pc len n' : Nat} {aux : List Nat} {L st L' st' : List Value} {μ μ' : Mem} (hI : I m pc = some (.aaload, len, aux)) (hs : stp xs (.aaload) (pc + len) aux L st μ = some (true, .inl (n', L', st', μ'))) (k : Gd p l e R s mid args below meth c D cA n0 b k0 d0 m Q n' L' st' μ') : Gd p l e R s mid args below meth c D cA n0 b k0 d0 m Q pc L st μ := by
  have hd : decode (cM m) pc = .ok (.aaload, len) := (I_ok hI).1
  have hc : chk m pc len .aaload aux = true := (I_ok hI).2.1
  obtain ⟨hx, hb, -, hown, hts, hK, hn0, -⟩ := C
  have hlen : len = 1 := Nat.eq_of_beq_eq_true hc
  subst hlen
  unfold stp at hs
  dsimp only at hs
  split at hs
  · obtain ⟨hg, h1, h2, h3, h4⟩ := inv_gg hs
    subst h1; subst h2; subst h3; subst h4
    rename_i i a rs
    rw [Bool.and_eq_true, Bool.or_eq_true] at hg
    have hr := hg.2
    unfold gR at hr
    obtain ⟨z, hz⟩ := Option.isSome_iff_exists.mp hr
    have hv : ∀ {f : Nat → Option Nat}, f = (fun i => (mR μ' a i).map (adr n0 b)) → va_rf (f i.toNatClampNeg) = rv n0 b (vR (mR μ' a (idx i))) := by
      intro f hf
      rw [hf]
      show va_rf ((mR μ' a (idx i)).map (adr n0 b)) = _
      rw [hz]
      rfl
    intro H locs ls hi hl
    have hk := k H locs ls hi hl
    have hk : W p l e R s mid args below meth c H locs (mN μ' + mX μ' - k0) (ssum (mN μ') + 6 * mX μ' - d0) Q (F0 mid (pc + 1) ls (rv n0 b (vR (mR μ' a (idx i))) :: rs.map (rv n0 b))) := hk
    rw [← hv rfl] at hk
    show W p l e R s mid args below meth c H locs _ _ Q (F0 mid pc ls (.int i :: .ref (adr n0 b a) :: rs.map (rv n0 b)))
    rcases hg.1 with hg | hg
    · obtain ⟨ha, hsh, hin⟩ := gA_spec hg
      rw [adr_lt (Nat.lt_of_lt_of_le ha hi.1)]
      exact va_aldq (D := D) hx hb hK hi.2.1 a 2 (wld_get' ha (cel_7 hsh)) rfl hin hd hk
    · obtain ⟨ha, hsh, hin⟩ := gA_spec hg
      rw [adr_lt (Nat.lt_of_lt_of_le ha hi.1)]
      exact va_aldq (D := D) hx hb hK hi.2.1 a 3 (wld_get' ha (cel_8 hsh)) rfl hin hd hk
  · cases hs
theorem g_aastore (C : Cx p l s mid args meth c D cA n0 b xs m) {pc len n' : Nat} {aux : List Nat} {L st L' st' : List Value} {μ μ' : Mem} (hI : I m pc = some (.aastore, len, aux)) (hs : stp xs (.aastore) (pc + len) aux L st μ = some (true, .inl (n', L', st', μ'))) (k : Gd p l e R s mid args below meth c D cA n0 b k0 d0 m Q n' L' st' μ') : Gd p l e R s mid args below meth c D cA n0 b k0 d0 m Q pc L st μ := by
  have hd : decode (cM m) pc = .ok (.aastore, len) := (I_ok hI).1
  have hc : chk m pc len .aastore aux = true := (I_ok hI).2.1
  obtain ⟨hx, hb, -, hown, hts, hK, hn0, -⟩ := C
  have hlen : len = 1 := Nat.eq_of_beq_eq_true hc
  subst hlen
  unfold stp at hs
  dsimp only at hs
  split at hs
  · obtain ⟨hg, h1, h2, h3, h4⟩ := inv_gg hs
    subst h1; subst h2; subst h3; subst h4
    rename_i x i a
    rw [Bool.or_eq_true, Bool.and_eq_true, Bool.and_eq_true] at hg
    intro H locs ls hi hl
    show W p l e R s mid args below meth c H locs _ _ Q (F0 mid pc ls (.ref (adr n0 b x) :: .int i :: .ref (adr n0 b a) :: st'.map (rv n0 b)))
    rcases hg with ⟨hg, hv⟩ | ⟨hg, hv⟩
    · obtain ⟨ha, hsh, hin⟩ := gA_spec hg
      obtain ⟨hxa, hxs⟩ := gO_spec hv
      rw [adr_lt (Nat.lt_of_lt_of_le ha hi.1), adr_lt (Nat.lt_of_lt_of_le hxa hi.1)]
      refine va_astq (D := D) (A := AA n0) (r := (RX1, TX1, 14)) hx hb hK hi.2.1 wld_D hi.2.2.1 a 2 x 0 (wld_get' ha (cel_7 hsh)) rfl (wld_get' hxa (cel_O hxs (by omega))) rfl hin hd (fun H1 locs1 hP _ hS => ?_)
      rw [wld_set (μ' := setR μ a (idx i) x) ha rfl (fun c hc => cel_setR_ne hc) (by rw [cel_7 hsh, row_setR, adr_lt (Nat.lt_of_lt_of_le hxa hi.1)]; rfl)] at hP
      exact k H1 locs1 ls ⟨hi.1, hP, hS, hi.2.2.2⟩ hl
    · obtain ⟨ha, hsh, hin⟩ := gA_spec hg
      obtain ⟨hxa, hxs⟩ := gO_spec hv
      rw [adr_lt (Nat.lt_of_lt_of_le ha hi.1), adr_lt (Nat.lt_of_lt_of_le hxa hi.1)]
      refine va_astq (D := D) (A := AA n0) (r := (RX2, TX2, 14)) hx hb hK hi.2.1 wld_D hi.2.2.1 a 3 x 1 (wld_get' ha (cel_8 hsh)) rfl (wld_get' hxa (cel_O hxs (by omega))) rfl hin hd (fun H1 locs1 hP _ hS => ?_)
      rw [wld_set (μ' := setR μ a (idx i) x) ha rfl (fun c hc => cel_setR_ne hc) (by rw [cel_8 hsh, row_setR, adr_lt (Nat.lt_of_lt_of_le hxa hi.1)]; rfl)] at hP
      exact k H1 locs1 ls ⟨hi.1, hP, hS, hi.2.2.2⟩ hl
  · cases hs
end Snd1
/-- where a new thing lies -/
theorem new_at {D : va_G} {cA : Nat → ClassId} {n0 b k0 q cells slots : Nat} {s T : State} {μ : Mem} {H H1 : Heap} {locs locs1 : List Loc} {x : va_E} {p : Program} {l : Launch} {e : Env} {R : Room} {mid : MethodId} {args : Array Value} {below : List Frame} {meth : Method} {c : Code}
    (hi : Iv s D cA n0 b k0 μ H locs) (hN : mX μ = 0) (hP : va_P D vwCl (wld n0 b cA μ ++ [(q, x)]) H1) (hD : va_D (AA n0) (wld n0 b cA μ ++ [(q, x)])) (hT : T.heap = H1) (X : Stand p l e R s mid args below meth c T locs1 cells slots) (hc : cells = mN μ + mX μ - k0 + 1) : q = n0 + mN μ := by
  obtain ⟨h2, h3⟩ := hi.2.2.2 hN
  have h1 := hN
  have hlast : (wld n0 b cA μ ++ [(q, x)])[mN μ]? = some (q, x) := by
    rw [List.getElem?_append_right (by rw [wld_len]; exact Nat.le_refl _), wld_len, Nat.sub_self]
    rfl
  have hlt : q < H1.size := (hP _ _ hlast).lt
  have hge : n0 ≤ q := hD.2 _ _ hlast
  have hsz : T.heap.size ≤ s.heap.size + cells := X.same.2.2.1
  rw [hT] at hsz
  by_cases hq : q - n0 < mN μ
  · have h4 : (wld n0 b cA μ ++ [(q, x)])[q - n0]? = some (n0 + (q - n0), cel n0 b cA μ (q - n0)) := by
      rw [List.getElem?_append_left (by rw [wld_len]; exact hq)]
      exact wld_get hq
    have := hD.1 _ _ _ _ h4 hlast (show n0 + (q - n0) = q by omega)
    omega
  · omega
theorem cls_init {ci : Nat} (h : ci < 4) : (Cond.initialized (clsOf ci).1) ∈ lw_all := by
  have key : ∀ ci, ci < 4 → hasW (.initialized (clsOf ci).1) = true := by decide +kernel
  have := key ci h
  unfold hasW at this
  rw [Bool.and_eq_true, decide_eq_true_eq] at this
  exact List.mem_filter.mpr this
def dfl (t : Nat) : Value := match t with | 0 => .int 0 | 1 => .null | _ => .long 0
theorem cls_df : ∀ ci, ci < 4 → ∀ k, k < (clsOf ci).2.2 → defaultValue (clsTy ci k) = dfl (fty ci k) := by decide +kernel
theorem fvl_new {n0 b ci j : Nat} {μ : Mem} : fvl n0 b (newM μ) ci (mN μ) j = dfl (fty ci j) := by
  unfold fvl dfl
  rw [new_I, new_R, new_L]
  rfl
section Snd3
variable {p : Program} {l : Launch} {e : Env} {R : Room} {s : State} {mid : MethodId} {args : Array Value} {below : List Frame} {meth : Method} {c : Code} {D : va_G} {cA : Nat → ClassId} {n0 b k0 d0 : Nat} {xs : Scr} {m : Nat} {Q : State → Prop}
/-- behind the making of a thing -/
theorem new_go {n : Nat} {L st : List Value} {μ : Mem} {x : va_E} {H H1 : Heap} {locs : List Loc} {ls : Array Slot} {q slots : Nat} (hi : Iv s D cA n0 b k0 μ H locs) (hl : lvx n0 b ls (xM m) L) (hN : mN μ < NN) (hX : mX μ = 0) (hP : va_P D vwCl (wld n0 b cA μ ++ [(q, x)]) H1) (hD : va_D (AA n0) (wld n0 b cA μ ++ [(q, x)])) (hS : va_S (AA n0) s.heap H1 locs) (hx : cel n0 b cA (newM μ) (mN μ) = x) (hs : slots = ssum (mN μ) + 6 * mX μ - d0 + (shp (mN μ)).2) (hR : Rm R k0 d0 (newM μ)) (hk0 : k0 ≤ mN μ + mX μ) (hd0 : d0 ≤ ssum (mN μ) + 6 * mX μ) (k : Gd p l e R s mid args below meth c D cA n0 b k0 d0 m Q n L (.ref (mN μ) :: st) (newM μ)) :
    W p l e R s mid args below meth c H1 locs (mN μ + mX μ - k0 + 1) slots Q (F0 mid n ls (.ref q :: st.map (rv n0 b))) := by
  intro T hT X
  have hq := new_at hi hX hP hD hT X rfl
  subst hq
  rw [wld_push (μ' := newM μ) rfl (fun c hc => cel_new (by omega)) hx] at hP
  have h1 := k H1 locs ls ⟨hN, hP, hS, fun _ => ?_⟩ hl
  · have e1 : mN (newM μ) + mX (newM μ) - k0 = mN μ + mX μ - k0 + 1 := by rw [mN_newM, mX_newM]; omega
    have e2 : ssum (mN (newM μ)) + 6 * mX (newM μ) - d0 = slots := by rw [mN_newM, mX_newM, hs]; show ssum (mN μ) + (shp (mN μ)).2 + _ - _ = _; omega
    rw [e1, e2] at h1
    have h1 : W p l e R s mid args below meth c H1 locs (mN μ + mX μ - k0 + 1) slots Q (F0 mid n ls (.ref (adr n0 b (mN μ)) :: st.map (rv n0 b))) := h1
    rw [adr_lt hN] at h1
    exact h1 T hT X
  · obtain ⟨h2, h3⟩ := hi.2.2.2 hX
    exact ⟨h2, by rw [mN_newM]; omega⟩
theorem rm_new {μ : Mem} (hR : Rm R k0 d0 (newM μ)) (hk0 : k0 ≤ mN μ + mX μ) (hd0 : d0 ≤ ssum (mN μ) + 6 * mX μ) : mN μ + mX μ - k0 + 1 ≤ R.cells ∧ ssum (mN μ) + 6 * mX μ - d0 + (shp (mN μ)).2 ≤ R.slots := by
  obtain ⟨h1, h2, -, -⟩ := hR
  rw [mN_newM, mX_newM] at h1 h2
  have h2 : ssum (mN μ) + (shp (mN μ)).2 + 6 * mX μ - d0 ≤ R.slots := h2
  exact ⟨by omega, by omega⟩
theorem g_new (C : Cx p l s mid args meth c D cA n0 b xs m) {pc len n' : Nat} {aux : List Nat} {L st L' st' : List Value} {μ μ' : Mem} {z : Nat} (hI : I m pc = some (.new z, len, aux)) (hs : stp xs (.new z) (pc + len) aux L st μ = some (true, .inl (n', L', st', μ'))) (hR : Rm R k0 d0 μ') (hk0 : k0 ≤ mN μ + mX μ) (hd0 : d0 ≤ ssum (mN μ) + 6 * mX μ) (k : Gd p l e R s mid args below meth c D cA n0 b k0 d0 m Q n' L' st' μ') : Gd p l e R s mid args below meth c D cA n0 b k0 d0 m Q pc L st μ := by
  have hd : decode (cM m) pc = .ok (.new z, len) := (I_ok hI).1
  have hc : chk m pc len (.new z) aux = true := (I_ok hI).2.1
  obtain ⟨hx, hb, -, hown, hts, hK, hn0, -⟩ := C
  unfold chk at hc
  dsimp only at hc
  rw [Bool.and_eq_true] at hc
  obtain ⟨hlen, hc⟩ := hc
  have hlen := Nat.eq_of_beq_eq_true hlen
  subst hlen
  unfold stp at hs
  dsimp only at hs
  split at hs
  · have hs := (inv_bif hs).2
    simp only [Option.some.injEq, Prod.mk.injEq, reduceCtorEq, and_false] at hs
  · rename_i ci r hne
    obtain ⟨hg, h1, h2, h3, h4⟩ := inv_gg hs
    subst h1; subst h2; subst h3; subst h4
    simp only [Bool.and_eq_true] at hg
    have hN := Nat.le_of_ble_eq_true hg.1
    have hX := Nat.eq_of_beq_eq_true hg.2.1
    have hsh := Nat.eq_of_beq_eq_true hg.2.2
    have hci : ∃ wl wi r', r = wl :: wi :: r' ∧ ci < 4 ∧ gw wl (.classLink (ownM m) z (clsOf ci).1) = true ∧ gw wi (.instantiable (clsOf ci).1 (clsOf ci).2.2) = true := by
      split at hc
      · rename_i heq
        cases heq
        exact (hne _ _ rfl rfl).elim
      · rename_i ci' wl wi r' _ heq
        cases heq
        simp only [Bool.and_eq_true] at hc
        exact ⟨wl, wi, r', rfl, Nat.le_of_ble_eq_true hc.1, hc.2.1, hc.2.2⟩
      · cases hc
    obtain ⟨wl, wi, r', -, h1, h2, h3⟩ := hci
    have hob := shp_obj (mN μ) hN (by rw [hsh]; exact h1)
    rw [hsh] at hob
    have hrm := rm_new hR hk0 hd0
    intro H locs ls hi hl
    refine va_new (D := D) (A := AA n0) (ci := ci) (fs := (List.range (shp (mN μ)).2).map (fvl n0 b (newM μ) ci (mN μ))) (C := (clsOf ci).1) (T := (clsOf ci).2.1) (N := (clsOf ci).2.2) hx hb hts (cls_ws h1) (clsTy ci) (cls_ty h1) hown (in_code hts h2) (in_code hts h3) (hts _ (cls_init h1)) hK hi.2.1 wld_D hi.2.2.1 (fun q hq => Nat.le_trans hn0 hq) (cls_at h1) (fun j hj => ?_) hrm.1 (by rw [← hob]; exact hrm.2) hd (fun q H1 hP hD hS => ?_)
    · unfold vp_V
      rw [List.getD_eq_getElem?_getD, List.getElem?_map, List.getElem?_range (by rw [hob]; exact hj), cls_df ci h1 j hj]
      exact fvl_new.symm
    · exact new_go hi hl hN hX hP hD hS (cel_O hsh h1) (by rw [hob]) hR hk0 hd0 k
  · cases hs
theorem ofNat_neg {n : Nat} (h : n ≤ 1944) : ¬ Int32.ofNat n < 0 ∧ (Int32.ofNat n).toNatClampNeg = n := by
  have h1 : (Int32.ofNat n).toInt = (n : Int) := Int32.toInt_ofNat_of_lt (by omega)
  refine ⟨?_, ?_⟩
  · rw [Int32.lt_iff_toInt_lt, h1, Int32.toInt_zero]; omega
  · show (Int32.ofNat n).toInt.toNat = n
    rw [h1]; rfl
theorem g_newa (C : Cx p l s mid args meth c D cA n0 b xs m) {pc len n' : Nat} {aux : List Nat} {L st L' st' : List Value} {μ μ' : Mem} {ty : ArrayType} (hI : I m pc = some (.newarray ty, len, aux)) (hs : stp xs (.newarray ty) (pc + len) aux L st μ = some (true, .inl (n', L', st', μ'))) (hR : Rm R k0 d0 μ') (hk0 : k0 ≤ mN μ + mX μ) (hd0 : d0 ≤ ssum (mN μ) + 6 * mX μ) (k : Gd p l e R s mid args below meth c D cA n0 b k0 d0 m Q n' L' st' μ') : Gd p l e R s mid args below meth c D cA n0 b k0 d0 m Q pc L st μ := by
  have hd : decode (cM m) pc = .ok (.newarray ty, len) := (I_ok hI).1
  have hc : chk m pc len (.newarray ty) aux = true := (I_ok hI).2.1
  obtain ⟨hx, hb, -, hown, hts, hK, hn0, -⟩ := C
  unfold chk at hc
  dsimp only at hc
  rw [Bool.and_eq_true] at hc
  obtain ⟨hlen, hc⟩ := hc
  have hlen := Nat.eq_of_beq_eq_true hlen
  subst hlen
  unfold stp at hs
  dsimp only at hs
  split at hs
  · rename_i kk rs
    obtain ⟨hg, h1, h2, h3, h4⟩ := inv_gg hs
    subst h1; subst h2; subst h3; subst h4
    simp only [Bool.and_eq_true, decide_eq_true_eq] at hg
    obtain ⟨hN, hX, hsh, hkk⟩ := hg
    have hX := Nat.eq_of_beq_eq_true hX
    have hN : mN μ < NN := Nat.le_of_ble_eq_true hN
    have hsh := Nat.eq_of_beq_eq_true hsh
    split at hc
    · rename_i kd wl r _
      have hsh : (shp (mN μ)).1 = kd := hsh
      simp only [Bool.and_eq_true, Bool.or_eq_true, decide_eq_true_eq] at hc
      obtain ⟨⟨h1, h2⟩, h3⟩ := hc
      obtain ⟨z1, z2⟩ := ofNat_neg (shp_len (mN μ) hN)
      have hrm := rm_new hR hk0 hd0
      have hby : ∀ t : FieldType, (shp (mN μ)).2 * componentBytes t ≤ 536870912 := by
        intro t
        have hl := shp_len (mN μ) hN
        have hb8 : componentBytes t ≤ 8 := by cases t <;> simp [componentBytes]
        calc (shp (mN μ)).2 * componentBytes t ≤ 1944 * 8 := Nat.mul_le_mul hl hb8
          _ ≤ 536870912 := by decide
      have fin : ∀ {a0 : vp_A} {i : Nat}, (tysOf cA)[i]? = some (cA kd, kty kd) → kty kd ≠ .object RX1 → (∀ C, kty kd ≠ .object C) → (∀ cA', vp_cell cA' a0 = arrV cA' (shp (mN μ)).2 (fun _ => defaultValue (kty kd))) → cel n0 b cA (newM μ) (mN μ) = .inl (cA kd, a0) → Gd p l e R s mid args below meth c D cA n0 b k0 d0 m Q pc L' (.int kk :: rs) μ := by
        intro a0 i hty _ hprim ha hcl H locs ls hi hl
        subst hkk
        refine va_newa (D := D) (A := AA n0) (a0 := a0) hx hb (in_code hts h1) h2 hK hi.2.1 wld_D hi.2.2.1 (fun q hq => Nat.le_trans hn0 hq) ha z1 z2 (hby _) hrm.1 hrm.2 hd (fun q cA' H1 hK' hP hD hS => ?_)
        have hcA : cA' = cA kd := by
          have r1 := (hK'.2 _ _ (List.getElem?_append_right (Nat.le_refl _) |>.trans (by rw [Nat.sub_self]; rfl) : (tysOf cA ++ [(cA', kty kd)])[(tysOf cA).length]? = some (cA', kty kd))).2
          have r2 := (hK.2 _ _ hty).2
          cases hkt : kty kd with
          | object C => exact absurd hkt (hprim C)
          | _ =>
            rw [hkt] at r1 r2
            exact Option.some.inj (r1.symm.trans r2)
        subst hcA
        exact new_go hi hl hN hX hP hD hS hcl rfl hR hk0 hd0 k
      rcases h3 with (h3 | h3) | h3
      · have h3 := Nat.eq_of_beq_eq_true h3
        subst h3
        exact fin (a0 := ((shp (mN μ)).2, .inl (mI (newM μ) (mN μ)))) (i := 0) rfl (by decide) (fun C => by intro h; cases h) (fun cA' => by rw [vp_cell_i]; congr 1; funext j; rw [new_I]; rfl) (cel_5 hsh)
      · have h3 := Nat.eq_of_beq_eq_true h3
        subst h3
        exact fin (a0 := ((shp (mN μ)).2, .inl (mI (newM μ) (mN μ)))) (i := 1) rfl (by decide) (fun C => by intro h; cases h) (fun cA' => by rw [vp_cell_i]; congr 1; funext j; rw [new_I]; rfl) (cel_6 hsh)
      · have h3 := Nat.eq_of_beq_eq_true h3
        subst h3
        exact fin (a0 := ((shp (mN μ)).2, .inr (.inl (mL (newM μ) (mN μ))))) (i := 4) rfl (by decide) (fun C => by intro h; cases h) (fun cA' => by rw [vp_cell_l]; congr 1; funext j; rw [new_L]; rfl) (cel_9 hsh)
    · cases hc
  · cases hs
theorem g_anew (C : Cx p l s mid args meth c D cA n0 b xs m) {pc len n' : Nat} {aux : List Nat} {L st L' st' : List Value} {μ μ' : Mem} {z : Nat} (hI : I m pc = some (.anewarray z, len, aux)) (hs : stp xs (.anewarray z) (pc + len) aux L st μ = some (true, .inl (n', L', st', μ'))) (hR : Rm R k0 d0 μ') (hk0 : k0 ≤ mN μ + mX μ) (hd0 : d0 ≤ ssum (mN μ) + 6 * mX μ) (k : Gd p l e R s mid args below meth c D cA n0 b k0 d0 m Q n' L' st' μ') : Gd p l e R s mid args below meth c D cA n0 b k0 d0 m Q pc L st μ := by
  have hd : decode (cM m) pc = .ok (.anewarray z, len) := (I_ok hI).1
  have hc : chk m pc len (.anewarray z) aux = true := (I_ok hI).2.1
  obtain ⟨hx, hb, -, hown, hts, hK, hn0, -, -, -, hV, -⟩ := C
  unfold chk at hc
  dsimp only at hc
  rw [Bool.and_eq_true] at hc
  obtain ⟨hlen, hc⟩ := hc
  have hlen := Nat.eq_of_beq_eq_true hlen
  subst hlen
  unfold stp at hs
  dsimp only at hs
  split at hs
  · rename_i kk rs
    obtain ⟨hg, h1, h2, h3, h4⟩ := inv_gg hs
    subst h1; subst h2; subst h3; subst h4
    simp only [Bool.and_eq_true, decide_eq_true_eq] at hg
    obtain ⟨hN, hX, hsh, hkk⟩ := hg
    have hX := Nat.eq_of_beq_eq_true hX
    have hN : mN μ < NN := Nat.le_of_ble_eq_true hN
    have hsh := Nat.eq_of_beq_eq_true hsh
    split at hc
    · rename_i kd wl wo r _
      have hsh : (shp (mN μ)).1 = kd := hsh
      rw [Bool.and_eq_true, Bool.and_eq_true, Bool.or_eq_true] at hc
      obtain ⟨h3, h1, h2⟩ := hc
      obtain ⟨z1, z2⟩ := ofNat_neg (shp_len (mN μ) hN)
      have hrm := rm_new hR hk0 hd0
      have hby : (shp (mN μ)).2 * 4 ≤ 536870912 := by have hl := shp_len (mN μ) hN; omega
      have fin : ∀ {ZZ : String} {i : Nat}, (tysOf cA)[i]? = some (cA kd, .object ZZ) → gw wl (.classLink (ownM m) z ZZ) = true → nw (.arrayOver (.object ZZ)) = true → cel n0 b cA (newM μ) (mN μ) = .inl (cA kd, (shp (mN μ)).2, .inr (.inr (.inr (.inr (fun _ => none))))) → Gd p l e R s mid args below meth c D cA n0 b k0 d0 m Q pc L' (.int kk :: rs) μ := by
        intro ZZ i hty hl1 hl2 hcl H locs ls hi hl
        subst hkk
        unfold nw at hl2
        rw [decide_eq_true_eq] at hl2
        refine va_newq (D := D) (A := AA n0) hx hb hown (in_code hts hl1) (hV.2.1 _ hl2) hK hi.2.1 wld_D hi.2.2.1 (fun q hq => Nat.le_trans hn0 hq) z1 z2 hby hrm.1 hrm.2 hd (fun q cA' H1 hK' hP hD hS => ?_)
        have hcA : cA' = cA kd := by
          obtain ⟨_, _, _, _, _, r1⟩ := (hK'.2 _ _ (List.getElem?_append_right (Nat.le_refl _) |>.trans (by rw [Nat.sub_self]; rfl) : (tysOf cA ++ [(cA', .object ZZ)])[(tysOf cA).length]? = some (cA', .object ZZ))).2
          obtain ⟨_, _, _, _, _, r2⟩ := (hK.2 _ _ hty).2
          exact Option.some.inj (r1.symm.trans r2)
        subst hcA
        exact new_go hi hl hN hX hP hD hS hcl rfl hR hk0 hd0 k
      have hnone : (fun i => (mR (newM μ) (mN μ) i).map (adr n0 b)) = fun _ => none := by funext j; rw [new_R]; rfl
      rcases h3 with h3 | h3
      · have h3 := Nat.eq_of_beq_eq_true h3
        subst h3
        exact fin (i := 2) rfl h1 h2 (by rw [cel_7 hsh, hnone])
      · have h3 := Nat.eq_of_beq_eq_true h3
        subst h3
        exact fin (i := 3) rfl h1 h2 (by rw [cel_8 hsh, hnone])
    · cases hc
  · cases hs
end Snd3
theorem cat_sum {n0 b : Nat} {st : List Value} : ((st.map (rv n0 b)).map fun v => v.category).sum = catL st := by
  induction st with
  | nil => rfl
  | cons v r ih => rw [List.map_cons, List.map_cons, List.sum_cons, ih, rv_cat]; rfl
theorem nat_ws {k : Nat} (h5 : 5 ≤ k) (h8 : k ≤ 8) : Cond.native (natN k) ∈ lw_all ∧ Cond.static (natN k) ∈ lw_all ∧ Cond.initialized (natN k).cls ∈ lw_all := by
  have key : ∀ k, k < 9 → 5 ≤ k → (hasW (.native (natN k)) && (hasW (.static (natN k)) && hasW (.initialized (natN k).cls))) = true := by decide +kernel
  have := key k (by omega) h5
  simp only [Bool.and_eq_true, hasW, decide_eq_true_eq] at this
  exact ⟨List.mem_filter.mpr this.1, List.mem_filter.mpr this.2.1, List.mem_filter.mpr this.2.2⟩
theorem obj_ws : Cond.instanceMethod Lib.objectInit ∈ lw_all ∧ Cond.code Lib.objectInit ⟨#[0xb1]⟩ 1 none ∈ lw_all := by
  have key : (hasW (.instanceMethod Lib.objectInit) && hasW (.code Lib.objectInit ⟨#[0xb1]⟩ 1 none)) = true := by decide +kernel
  simp only [Bool.and_eq_true, hasW, decide_eq_true_eq] at key
  exact ⟨List.mem_filter.mpr key.1, List.mem_filter.mpr key.2⟩
theorem cel_cpy_ne {n0 b : Nat} {cA : Nat → ClassId} {μ : Mem} {a0 sp a dp n c : Nat} (h : c ≠ a) : cel n0 b cA (cpyM μ a0 sp a dp n) c = cel n0 b cA μ c := cel_cong (by funext j; show (if c = a then _ else _) = _; rw [if_neg h]; rfl) rfl rfl
theorem row_cpy {μ : Mem} {a0 sp a dp n : Nat} : mI (cpyM μ a0 sp a dp n) a = va_cpy (mI μ a0) (mI μ a) sp dp n := by funext j; show (if a = a then _ else _) = _; rw [if_pos rfl]; rfl
section Snd4
variable {p : Program} {l : Launch} {e : Env} {R : Room} {s : State} {mid : MethodId} {args : Array Value} {below : List Frame} {meth : Method} {c : Code} {D : va_G} {cA : Nat → ClassId} {n0 b k0 d0 : Nat} {xs : Scr} {m : Nat} {Q : State → Prop}
theorem g_invokevirtual (C : Cx p l s mid args meth c D cA n0 b xs m) {pc len n' : Nat} {aux : List Nat} {L st L' st' : List Value} {μ μ' : Mem} {z : Nat} (hI : I m pc = some (.invokevirtual z, len, aux)) (hs : stp xs (.invokevirtual z) (pc + len) aux L st μ = some (true, .inl (n', L', st', μ'))) (hF : fM m ≤ R.frames ∧ 38 * fM m ≤ R.locals) (k : Gd p l e R s mid args below meth c D cA n0 b k0 d0 m Q n' L' st' μ') : Gd p l e R s mid args below meth c D cA n0 b k0 d0 m Q pc L st μ := by
  have hc : chk m pc len (.invokevirtual z) aux = true := (I_ok hI).2.1
  unfold chk at hc
  dsimp only at hc
  simp only [Bool.and_eq_true] at hc
  have h0 := Nat.eq_of_beq_eq_true hc.2.1
  have hs : sCall aux (pc + len) L st μ = _ := hs
  cases aux with
  | nil => cases hs
  | cons kd r =>
    have h0 : kd = 0 := h0
    subst h0
    unfold sCall at hs
    split at hs
    · split at hs <;> first | (have hs := (inv_bif hs).2; simp only [Option.some.injEq, Prod.mk.injEq, reduceCtorEq, and_false] at hs; done) | cases hs
    all_goals first
      | (rename_i heq; cases heq; done)
      | cases hs
theorem g_invokespecial (C : Cx p l s mid args meth c D cA n0 b xs m) {pc len n' : Nat} {aux : List Nat} {L st L' st' : List Value} {μ μ' : Mem} {z : Nat} (hI : I m pc = some (.invokespecial z, len, aux)) (hs : stp xs (.invokespecial z) (pc + len) aux L st μ = some (true, .inl (n', L', st', μ'))) (hF : fM m ≤ R.frames ∧ 38 * fM m ≤ R.locals) (k : Gd p l e R s mid args below meth c D cA n0 b k0 d0 m Q n' L' st' μ') : Gd p l e R s mid args below meth c D cA n0 b k0 d0 m Q pc L st μ := by
  have hd : decode (cM m) pc = .ok (.invokespecial z, len) := (I_ok hI).1
  have hc : chk m pc len (.invokespecial z) aux = true := (I_ok hI).2.1
  obtain ⟨hx, hb, hml, hown, hts, hK, hn0, -⟩ := C
  unfold chk at hc
  dsimp only at hc
  rw [Bool.and_eq_true] at hc
  obtain ⟨hlen, hc⟩ := hc
  have hlen := Nat.eq_of_beq_eq_true hlen
  subst hlen
  rw [Bool.and_eq_true] at hc
  have hs : sCall aux (pc + 3) L st μ = _ := hs
  have hk3 : ∃ r, aux = 3 :: r := by
    cases aux with
    | nil => cases hs
    | cons kd r =>
      have h1 := hc.1
      simp only [Bool.false_or, Bool.and_eq_true, List.getD_cons_zero] at h1
      have h2 := Nat.le_of_ble_eq_true h1.1
      have h3 := Nat.le_of_ble_eq_true h1.2
      have : kd = 2 ∨ kd = 3 ∨ kd = 4 := by omega
      rcases this with rfl | rfl | rfl
      · exfalso
        unfold sCall at hs
        split at hs
        all_goals first
          | (rename_i heq; cases heq; done)
          | (split at hs <;> first | (have hs := (inv_bif hs).2; simp only [Option.some.injEq, Prod.mk.injEq, reduceCtorEq, and_false] at hs; done) | cases hs; done)
          | cases hs
      · exact ⟨r, rfl⟩
      · exfalso
        unfold sCall at hs
        split at hs
        all_goals first
          | (rename_i heq; cases heq; done)
          | (split at hs <;> first | (have hs := (inv_bif hs).2; simp only [Option.some.injEq, Prod.mk.injEq, reduceCtorEq, and_false] at hs; done) | cases hs; done)
          | cases hs
  obtain ⟨r, rfl⟩ := hk3
  have hs : (match st with | .ref a :: r => g8 r (Nat.blt a (mN μ)) (pc + 3) L r μ | _ => none) = some (true, .inl (n', L', st', μ')) := hs
  split at hs
  · obtain ⟨g8', hs⟩ := inv_bif hs
    obtain ⟨hg, h1, h2, h3, h4⟩ := inv_gg hs
    subst h1; subst h2; subst h3; subst h4
    rename_i a _ _ _
    have hcat := Nat.le_of_ble_eq_true g8'
    have hc2 := hc.2
    dsimp only at hc2
    cases r with
    | nil => cases hc2
    | cons y r => cases r with
      | nil => cases hc2
      | cons na r => cases r with
        | nil => cases hc2
        | cons wl r =>
          have hc2 : (gw wl (.methodLink (ownM m) z objI) && Nat.ble 1 (fM m)) = true := hc2
          rw [Bool.and_eq_true] at hc2
          have hf1 := Nat.le_of_ble_eq_true hc2.2
          intro H locs ls hi hl
          have hroom := lv_room (pc := pc) (ls := ls) (m := mid) (rest := Value.ref (adr n0 b a) :: st'.map (rv n0 b)) (st := st'.map (rv n0 b)) (by rw [cat_sum]; exact hcat)
          exact W.objInit hx hb hown (in_code hts hc2.1) (hts _ obj_ws.1) (hts _ obj_ws.2) (g := F0 mid pc ls (.ref (adr n0 b a) :: st'.map (rv n0 b))) rfl (by rw [hml]; exact hl.1) rfl hd (Nat.le_trans hf1 hF.1) (by omega) (k H locs ls hi hl)
  · cases hs
theorem g_invokestatic (C : Cx p l s mid args meth c D cA n0 b xs m) {pc len n' : Nat} {aux : List Nat} {L st L' st' : List Value} {μ μ' : Mem} {z : Nat} (hI : I m pc = some (.invokestatic z, len, aux)) (hs : stp xs (.invokestatic z) (pc + len) aux L st μ = some (true, .inl (n', L', st', μ'))) (hF : fM m ≤ R.frames ∧ 38 * fM m ≤ R.locals) (k : Gd p l e R s mid args below meth c D cA n0 b k0 d0 m Q n' L' st' μ') : Gd p l e R s mid args below meth c D cA n0 b k0 d0 m Q pc L st μ := by
  have hd : decode (cM m) pc = .ok (.invokestatic z, len) := (I_ok hI).1
  have hc : chk m pc len (.invokestatic z) aux = true := (I_ok hI).2.1
  obtain ⟨hx, hb, hml, hown, hts, hK, hn0, -⟩ := C
  unfold chk at hc
  dsimp only at hc
  rw [Bool.and_eq_true] at hc
  obtain ⟨hlen, hc⟩ := hc
  have hlen := Nat.eq_of_beq_eq_true hlen
  subst hlen
  rw [Bool.and_eq_true] at hc
  have hs : sCall aux (pc + 3) L st μ = _ := hs
  have hk5 : ∃ kd y na wl r, aux = kd :: y :: na :: wl :: r ∧ 5 ≤ kd ∧ kd ≤ 8 := by
    cases aux with
    | nil => cases hs
    | cons kd r =>
      have h1 := hc.1
      simp only [Bool.or_eq_true, Bool.and_eq_true, List.getD_cons_zero] at h1
      rcases h1 with h1 | ⟨h1, h2⟩
      · have h1 : kd = 1 := Nat.eq_of_beq_eq_true h1
        subst h1
        exfalso
        unfold sCall at hs
        split at hs
        all_goals first
          | (rename_i heq; cases heq; done)
          | (have hs := (inv_bif hs).2; simp only [Option.some.injEq, Prod.mk.injEq, reduceCtorEq, and_false] at hs; done)
          | cases hs
      · have hc2 := hc.2
        unfold chkCall at hc2
        cases r with
        | nil => cases hc2
        | cons y r => cases r with
          | nil => cases hc2
          | cons na r => cases r with
            | nil => cases hc2
            | cons wl r => exact ⟨kd, y, na, wl, r, rfl, Nat.le_of_ble_eq_true h1, Nat.le_of_ble_eq_true h2⟩
  obtain ⟨kd, y, na, wl, r, rfl, h5, h8⟩ := hk5
  have hc2 := hc.2
  have hlw : gw wl (.methodLink (ownM m) z (natN kd)) = true ∧ 1 ≤ fM m := by
    have : kd = 5 ∨ kd = 6 ∨ kd = 7 ∨ kd = 8 := by omega
    rcases this with rfl | rfl | rfl | rfl <;>
    · have hc2 : (gw wl (.methodLink (ownM m) z (natN _)) && Nat.ble 1 (fM m)) = true := hc2
      rw [Bool.and_eq_true] at hc2
      exact ⟨hc2.1, Nat.le_of_ble_eq_true hc2.2⟩
  obtain ⟨w1, w2, w3⟩ := nat_ws h5 h8
  have hfr : 1 ≤ R.frames := Nat.le_trans hlw.2 hF.1
  have hlo : 38 ≤ R.locals := by have := hF.2; have := hlw.2; omega
  have : kd = 5 ∨ kd = 6 ∨ kd = 7 ∨ kd = 8 := by omega
  rcases this with rfl | rfl | rfl | rfl
  · have hs : (match st with | .int k :: .int dp :: .ref a :: .int sp :: .ref a0 :: r => g8 r (Nat.ble 245 (mN μ) && (gO μ a 6 && (gO μ a0 6 && decide (0 ≤ sp.toInt ∧ 0 ≤ dp.toInt ∧ 0 ≤ k.toInt ∧ sp.toInt + k.toInt ≤ ((shp a0).2 : Int) ∧ dp.toInt + k.toInt ≤ ((shp a).2 : Int))))) (pc + 3) L r (cpyM μ a0 (idx sp) a (idx dp) (idx k)) | _ => none) = some (true, .inl (n', L', st', μ')) := hs
    split at hs
    · obtain ⟨g8', hs⟩ := inv_bif hs
      obtain ⟨hg, h1, h2, h3, h4⟩ := inv_gg hs
      subst h1; subst h2; subst h3; subst h4
      rename_i kk dp a sp a0 _ _ _
      simp only [Bool.and_eq_true, decide_eq_true_eq] at hg
      obtain ⟨gN, g1, g2, q1, q2, q3, q4, q5⟩ := hg
      obtain ⟨ha, hsh⟩ := gO_spec g1
      obtain ⟨ha0, hsh0⟩ := gO_spec g2
      have hcat := Nat.le_of_ble_eq_true g8'
      have nneg : ∀ {z : Int32}, 0 ≤ z.toInt → ¬ z < 0 := fun {z} h q => by rw [Int32.lt_iff_toInt_lt, Int32.toInt_zero] at q; omega
      have e1 := clampInt q1
      have e2 := clampInt q2
      have e3 := clampInt q3
      intro H locs ls hi hl
      show W p l e R s mid args below meth c H locs _ _ Q (F0 mid pc ls (.int kk :: .int dp :: .ref (adr n0 b a) :: .int sp :: .ref (adr n0 b a0) :: st'.map (rv n0 b)))
      rw [adr_lt (Nat.lt_of_lt_of_le ha hi.1), adr_lt (Nat.lt_of_lt_of_le ha0 hi.1)]
      refine va_copyi (D := D) (A := AA n0) hx hb (by rw [hml]; exact hl.1.symm) hown (in_code hts hlw.1) (hts _ w1) (hts _ w2) (hts _ w3) hK hi.2.1 wld_D hi.2.2.1 a0 a 1 1 (wld_get' ha0 (cel_6 hsh0)) (wld_get' ha (cel_6 hsh)) rfl rfl rfl (nneg q1) (nneg q2) (nneg q3) (by omega) (by omega) (fun _ _ => rfl) hfr (by rw [cat_sum]; show catL st' + (5 + 2 + 11) ≤ R.locals; omega) hd (fun H1 locs1 hP _ hS => ?_)
      rw [wld_set (μ' := cpyM μ a0 (idx sp) a (idx dp) (idx kk)) ha rfl (fun c hc => cel_cpy_ne hc) (by rw [cel_6 hsh, row_cpy]; rfl)] at hP
      exact k H1 locs1 ls ⟨hi.1, hP, hS, hi.2.2.2⟩ hl
    · cases hs
  · have hs : (match st with | .int x :: r => g8 r (decide (vn_sni2f x = false)) (pc + 3) L (.float x.toUInt32 :: r) μ | _ => none) = some (true, .inl (n', L', st', μ')) := hs
    split at hs
    · obtain ⟨g8', hs⟩ := inv_bif hs
      obtain ⟨hg, h1, h2, h3, h4⟩ := inv_gg hs
      subst h1; subst h2; subst h3; subst h4
      rename_i x rs
      rw [decide_eq_true_eq] at hg
      have hcat := Nat.le_of_ble_eq_true g8'
      intro H locs ls hi hl
      exact vn_i2f hx hb (by rw [hml]; exact hl.1.symm) hown (in_code hts hlw.1) (hts _ w1) (hts _ w2) (hts _ w3) hg hfr (by rw [cat_sum]; omega) hd (k H locs ls hi hl)
    · cases hs
  · have hs : (match st with | .float x :: r => g8 r true (pc + 3) L (.int x.toInt32 :: r) μ | _ => none) = some (true, .inl (n', L', st', μ')) := hs
    split at hs
    · obtain ⟨g8', hs⟩ := inv_bif hs
      obtain ⟨hg, h1, h2, h3, h4⟩ := inv_gg hs
      subst h1; subst h2; subst h3; subst h4
      rename_i x rs
      have hcat := Nat.le_of_ble_eq_true g8'
      intro H locs ls hi hl
      exact vn_f2i hx hb (by rw [hml]; exact hl.1.symm) hown (in_code hts hlw.1) (hts _ w1) (hts _ w2) (hts _ w3) hfr (by rw [cat_sum]; omega) hd (k H locs ls hi hl)
    · cases hs
  · have hs : (match st with | .double x :: r => g8 r true (pc + 3) L (.long x.toInt64 :: r) μ | _ => none) = some (true, .inl (n', L', st', μ')) := hs
    split at hs
    · obtain ⟨g8', hs⟩ := inv_bif hs
      obtain ⟨hg, h1, h2, h3, h4⟩ := inv_gg hs
      subst h1; subst h2; subst h3; subst h4
      rename_i x rs
      have hcat := Nat.le_of_ble_eq_true g8'
      intro H locs ls hi hl
      exact vn_d2l hx hb (by rw [hml]; exact hl.1.symm) hown (in_code hts hlw.1) (hts _ w1) (hts _ w2) (hts _ w3) hfr (by rw [cat_sum]; omega) hd (k H locs ls hi hl)
    · cases hs
end Snd4

section Stub
variable {p : Program} {l : Launch} {e : Env} {R : Room} {s : State} {mid : MethodId} {args : Array Value} {below : List Frame} {meth : Method} {c : Code} {D : va_G} {cA : Nat → ClassId} {n0 b k0 d0 : Nat} {xs : Scr} {m : Nat} {Q : State → Prop}end Stub
end
section
section Snd2
variable {p : Program} {l : Launch} {e : Env} {R : Room} {s : State} {mid : MethodId} {args : Array Value} {below : List Frame} {meth : Method} {c : Code} {D : va_G} {cA : Nat → ClassId} {n0 b k0 d0 : Nat} {xs : Scr} {m : Nat} {Q : State → Prop}
theorem stp_go (C : Cx p l s mid args meth c D cA n0 b xs m) {pc len n' : Nat} {ins : Instr} {aux : List Nat} {L st L' st' : List Value} {μ μ' : Mem} (hI : I m pc = some (ins, len, aux))
    (hs : stp xs ins (pc + len) aux L st μ = some (true, .inl (n', L', st', μ'))) (hR : Rm R k0 d0 μ') (hk0 : k0 ≤ mN μ + mX μ) (hd0 : d0 ≤ ssum (mN μ) + 6 * mX μ) (hF : fM m ≤ R.frames ∧ 38 * fM m ≤ R.locals) (k : Gd p l e R s mid args below meth c D cA n0 b k0 d0 m Q n' L' st' μ') : Gd p l e R s mid args below meth c D cA n0 b k0 d0 m Q pc L st μ := by
  have hd : decode (cM m) pc = .ok (ins, len) := (I_ok hI).1
  have hc : chk m pc len ins aux = true := (I_ok hI).2.1
  have hx := C.1
  have hb := C.2.1
  have hown := C.2.2.2.1
  have hts := C.2.2.2.2.1
  cases ins
  case iload_n kk =>
    obtain ⟨v, h1, h2, h3, h4, h5, h6⟩ := inv_ld hs
    obtain ⟨x, rfl⟩ := tag0 h2
    subst h3; subst h4; subst h5; subst h6
    have hlen : len = 1 := Nat.eq_of_beq_eq_true hc
    subst hlen
    intro H locs ls hi hl
    exact lv_iload_n hx hb hd rfl (lvx_at hl h1 (by simp)) (k H locs ls hi hl)
  case iload kk =>
    obtain ⟨v, h1, h2, h3, h4, h5, h6⟩ := inv_ld hs
    obtain ⟨x, rfl⟩ := tag0 h2
    subst h3; subst h4; subst h5; subst h6
    have hlen : len = 2 := Nat.eq_of_beq_eq_true hc
    subst hlen
    intro H locs ls hi hl
    exact lv_iload hx hb hd (lvx_at hl h1 (by simp)) (k H locs ls hi hl)
  case lload_n kk =>
    obtain ⟨v, h1, h2, h3, h4, h5, h6⟩ := inv_ld hs
    obtain ⟨x, rfl⟩ := tag1 h2
    subst h3; subst h4; subst h5; subst h6
    have hlen : len = 1 := Nat.eq_of_beq_eq_true hc
    subst hlen
    intro H locs ls hi hl
    exact lv_lload_n hx hb hd rfl (lvx_at hl h1 (by simp)) (k H locs ls hi hl)
  case fload_n kk =>
    obtain ⟨v, h1, h2, h3, h4, h5, h6⟩ := inv_ld hs
    obtain ⟨x, rfl⟩ := tag2 h2
    subst h3; subst h4; subst h5; subst h6
    have hlen : len = 1 := Nat.eq_of_beq_eq_true hc
    subst hlen
    intro H locs ls hi hl
    exact lv_fload_n hx hb hd rfl (lvx_at hl h1 (by simp)) (k H locs ls hi hl)
  case fload kk =>
    obtain ⟨v, h1, h2, h3, h4, h5, h6⟩ := inv_ld hs
    obtain ⟨x, rfl⟩ := tag2 h2
    subst h3; subst h4; subst h5; subst h6
    have hlen : len = 2 := Nat.eq_of_beq_eq_true hc
    subst hlen
    intro H locs ls hi hl
    exact lv_fload hx hb hd (lvx_at hl h1 (by simp)) (k H locs ls hi hl)
  case dload_n kk =>
    obtain ⟨v, h1, h2, h3, h4, h5, h6⟩ := inv_ld hs
    obtain ⟨x, rfl⟩ := tag3 h2
    subst h3; subst h4; subst h5; subst h6
    have hlen : len = 1 := Nat.eq_of_beq_eq_true hc
    subst hlen
    intro H locs ls hi hl
    exact lv_dload_n hx hb hd rfl (lvx_at hl h1 (by simp)) (k H locs ls hi hl)
  case dload kk =>
    obtain ⟨v, h1, h2, h3, h4, h5, h6⟩ := inv_ld hs
    obtain ⟨x, rfl⟩ := tag3 h2
    subst h3; subst h4; subst h5; subst h6
    have hlen : len = 2 := Nat.eq_of_beq_eq_true hc
    subst hlen
    intro H locs ls hi hl
    exact lv_dload hx hb hd (lvx_at hl h1 (by simp)) (k H locs ls hi hl)
  case aload_n kk =>
    obtain ⟨v, h1, h2, h3, h4, h5, h6⟩ := inv_ld hs
    obtain ⟨x, rfl⟩ := tag4 h2
    subst h3; subst h4; subst h5; subst h6
    have hlen : len = 1 := Nat.eq_of_beq_eq_true hc
    subst hlen
    intro H locs ls hi hl
    exact lv_aload_n hx hb hd rfl (lvx_at hl h1 (by simp)) (k H locs ls hi hl)
  case aload kk =>
    obtain ⟨v, h1, h2, h3, h4, h5, h6⟩ := inv_ld hs
    obtain ⟨x, rfl⟩ := tag4 h2
    subst h3; subst h4; subst h5; subst h6
    have hlen : len = 2 := Nat.eq_of_beq_eq_true hc
    subst hlen
    intro H locs ls hi hl
    exact lv_aload hx hb hd (lvx_at hl h1 (by simp)) (k H locs ls hi hl)
  case istore_n kk =>
    obtain ⟨v, r, h1, h2, h3, h4, h5, h6⟩ := inv_s1 hs
    obtain ⟨x, rfl⟩ := tag0 h2
    subst h1; subst h3; subst h4; subst h5; subst h6
    unfold chk at hc; dsimp only at hc; rw [Bool.and_eq_true] at hc
    have hlen : len = 1 := Nat.eq_of_beq_eq_true hc.1
    subst hlen
    have hn := Nat.le_of_ble_eq_true hc.2
    intro H locs ls hi hl
    exact lv_istore_n hx hb hd rfl (lvx_has hl) hn rfl (fun ls' h' => k H locs ls' hi (lvx_st1 (v := .int x) hl h'))
  case istore kk =>
    obtain ⟨v, r, h1, h2, h3, h4, h5, h6⟩ := inv_s1 hs
    obtain ⟨x, rfl⟩ := tag0 h2
    subst h1; subst h3; subst h4; subst h5; subst h6
    unfold chk at hc; dsimp only at hc; rw [Bool.and_eq_true] at hc
    have hlen : len = 2 := Nat.eq_of_beq_eq_true hc.1
    subst hlen
    have hn := Nat.le_of_ble_eq_true hc.2
    intro H locs ls hi hl
    exact lv_istore hx hb hd (lvx_has hl) hn rfl (fun ls' h' => k H locs ls' hi (lvx_st1 (v := .int x) hl h'))
  case fstore_n kk =>
    obtain ⟨v, r, h1, h2, h3, h4, h5, h6⟩ := inv_s1 hs
    obtain ⟨x, rfl⟩ := tag2 h2
    subst h1; subst h3; subst h4; subst h5; subst h6
    unfold chk at hc; dsimp only at hc; rw [Bool.and_eq_true] at hc
    have hlen : len = 1 := Nat.eq_of_beq_eq_true hc.1
    subst hlen
    have hn := Nat.le_of_ble_eq_true hc.2
    intro H locs ls hi hl
    exact lv_fstore_n hx hb hd rfl (lvx_has hl) hn rfl (fun ls' h' => k H locs ls' hi (lvx_st1 (v := .float x) hl h'))
  case fstore kk =>
    obtain ⟨v, r, h1, h2, h3, h4, h5, h6⟩ := inv_s1 hs
    obtain ⟨x, rfl⟩ := tag2 h2
    subst h1; subst h3; subst h4; subst h5; subst h6
    unfold chk at hc; dsimp only at hc; rw [Bool.and_eq_true] at hc
    have hlen : len = 2 := Nat.eq_of_beq_eq_true hc.1
    subst hlen
    have hn := Nat.le_of_ble_eq_true hc.2
    intro H locs ls hi hl
    exact lv_fstore hx hb hd (lvx_has hl) hn rfl (fun ls' h' => k H locs ls' hi (lvx_st1 (v := .float x) hl h'))
  case astore_n kk =>
    obtain ⟨v, r, h1, h2, h3, h4, h5, h6⟩ := inv_s1 hs
    obtain ⟨x, rfl⟩ := tag4 h2
    subst h1; subst h3; subst h4; subst h5; subst h6
    unfold chk at hc; dsimp only at hc; rw [Bool.and_eq_true] at hc
    have hlen : len = 1 := Nat.eq_of_beq_eq_true hc.1
    subst hlen
    have hn := Nat.le_of_ble_eq_true hc.2
    intro H locs ls hi hl
    exact lv_astore_n hx hb hd rfl (lvx_has hl) hn rfl (fun ls' h' => k H locs ls' hi (lvx_st1 (v := .ref x) hl h'))
  case astore kk =>
    obtain ⟨v, r, h1, h2, h3, h4, h5, h6⟩ := inv_s1 hs
    obtain ⟨x, rfl⟩ := tag4 h2
    subst h1; subst h3; subst h4; subst h5; subst h6
    unfold chk at hc; dsimp only at hc; rw [Bool.and_eq_true] at hc
    have hlen : len = 2 := Nat.eq_of_beq_eq_true hc.1
    subst hlen
    have hn := Nat.le_of_ble_eq_true hc.2
    intro H locs ls hi hl
    exact lv_astore hx hb hd (lvx_has hl) hn rfl (fun ls' h' => k H locs ls' hi (lvx_st1 (v := .ref x) hl h'))
  case lstore_n kk =>
    obtain ⟨v, r, h1, h2, h3, h4, h5, h6⟩ := inv_s2 hs
    obtain ⟨x, rfl⟩ := tag1 h2
    subst h1; subst h3; subst h4; subst h5; subst h6
    unfold chk at hc; dsimp only at hc; rw [Bool.and_eq_true] at hc
    have hlen : len = 1 := Nat.eq_of_beq_eq_true hc.1
    subst hlen
    have hn := Nat.le_of_ble_eq_true hc.2
    intro H locs ls hi hl
    exact lv_lstore_n hx hb hd rfl (lvx_has hl) hn rfl (fun ls' h' => k H locs ls' hi (lvx_st2 (v := .long x) hl h'))
  case dstore_n kk =>
    obtain ⟨v, r, h1, h2, h3, h4, h5, h6⟩ := inv_s2 hs
    obtain ⟨x, rfl⟩ := tag3 h2
    subst h1; subst h3; subst h4; subst h5; subst h6
    unfold chk at hc; dsimp only at hc; rw [Bool.and_eq_true] at hc
    have hlen : len = 1 := Nat.eq_of_beq_eq_true hc.1
    subst hlen
    have hn := Nat.le_of_ble_eq_true hc.2
    intro H locs ls hi hl
    exact lv_dstore_n hx hb hd rfl (lvx_has hl) hn rfl (fun ls' h' => k H locs ls' hi (lvx_st2 (v := .double x) hl h'))
  case dstore kk =>
    obtain ⟨v, r, h1, h2, h3, h4, h5, h6⟩ := inv_s2 hs
    obtain ⟨x, rfl⟩ := tag3 h2
    subst h1; subst h3; subst h4; subst h5; subst h6
    unfold chk at hc; dsimp only at hc; rw [Bool.and_eq_true] at hc
    have hlen : len = 2 := Nat.eq_of_beq_eq_true hc.1
    subst hlen
    have hn := Nat.le_of_ble_eq_true hc.2
    intro H locs ls hi hl
    exact lv_dstore hx hb hd (lvx_has hl) hn rfl (fun ls' h' => k H locs ls' hi (lvx_st2 (v := .double x) hl h'))
  case iinc kk d =>
    unfold stp at hs
    dsimp only at hs
    split at hs
    · rename_i x h1
      obtain ⟨h3, h4, h5, h6⟩ := inv_go hs
      subst h3; subst h5; subst h6
      unfold chk at hc; dsimp only at hc; rw [Bool.and_eq_true] at hc
      have hlen : len = 3 := Nat.eq_of_beq_eq_true hc.1
      subst hlen
      have hn := Nat.le_of_ble_eq_true hc.2
      intro H locs ls hi hl
      obtain ⟨kp, hk⟩ := asl_at (n0 := n0) (b := b) h1 (by simp)
      subst h4
      exact lv_iinc hx hb hd (lvx_has hl) hk rfl hn rfl (fun ls' h' => k H locs ls' hi (lvx_st1 (v := .int _) hl h'))
    · cases hs
  case iconst z =>
    obtain ⟨h3, h4, h5, h6⟩ := inv_go hs
    subst h3; subst h4; subst h5; subst h6
    have hlen : len = 1 := Nat.eq_of_beq_eq_true hc
    subst hlen
    exact fun H locs ls hi hl => lv_iconst hx hb hd rfl (k H locs ls hi hl)
  case bipush z =>
    obtain ⟨h3, h4, h5, h6⟩ := inv_go hs
    subst h3; subst h4; subst h5; subst h6
    have hlen : len = 2 := Nat.eq_of_beq_eq_true hc
    subst hlen
    exact fun H locs ls hi hl => lv_bipush hx hb hd rfl (k H locs ls hi hl)
  case sipush z =>
    obtain ⟨h3, h4, h5, h6⟩ := inv_go hs
    subst h3; subst h4; subst h5; subst h6
    have hlen : len = 3 := Nat.eq_of_beq_eq_true hc
    subst hlen
    exact fun H locs ls hi hl => lv_sipush hx hb hd rfl (k H locs ls hi hl)
  case lconst z =>
    obtain ⟨h3, h4, h5, h6⟩ := inv_go hs
    subst h3; subst h4; subst h5; subst h6
    have hlen : len = 1 := Nat.eq_of_beq_eq_true hc
    subst hlen
    exact fun H locs ls hi hl => lv_lconst hx hb hd rfl (k H locs ls hi hl)
  case fconst z =>
    obtain ⟨h3, h4, h5, h6⟩ := inv_go hs
    subst h3; subst h4; subst h5; subst h6
    have hlen : len = 1 := Nat.eq_of_beq_eq_true hc
    subst hlen
    match z, hd, k with
    | 0, hd, k => exact fun H locs ls hi hl => lv_fconst0 hx hb hd (k H locs ls hi hl)
    | 1, hd, k => exact fun H locs ls hi hl => lv_fconst1 hx hb hd (k H locs ls hi hl)
    | 2, hd, k => exact fun H locs ls hi hl => lv_fconst2 hx hb hd (k H locs ls hi hl)
  case dconst z =>
    obtain ⟨h3, h4, h5, h6⟩ := inv_go hs
    subst h3; subst h4; subst h5; subst h6
    have hlen : len = 1 := Nat.eq_of_beq_eq_true hc
    subst hlen
    match z, hd, k with
    | 0, hd, k => exact fun H locs ls hi hl => lv_dconst0 hx hb hd (k H locs ls hi hl)
    | 1, hd, k => exact fun H locs ls hi hl => lv_dconst1 hx hb hd (k H locs ls hi hl)
  case ldc z =>
    unfold stp at hs
    dsimp only at hs
    unfold chk at hc; dsimp only at hc; rw [Bool.and_eq_true] at hc
    have hlen : len = 2 := Nat.eq_of_beq_eq_true hc.1
    subst hlen
    split at hs
    · obtain ⟨h3, h4, h5, h6⟩ := inv_go hs
      subst h3; subst h4; subst h5; subst h6
      exact fun H locs ls hi hl => lv_ldc hx hb hown (in_code hts hc.2) hd (k H locs ls hi hl)
    · obtain ⟨h3, h4, h5, h6⟩ := inv_go hs
      subst h3; subst h4; subst h5; subst h6
      exact fun H locs ls hi hl => lv_ldcf hx hb hown (in_code hts hc.2) hd (k H locs ls hi hl)
    · cases hs
  case ldc2_w z =>
    unfold stp at hs
    dsimp only at hs
    unfold chk at hc; dsimp only at hc; rw [Bool.and_eq_true] at hc
    have hlen : len = 3 := Nat.eq_of_beq_eq_true hc.1
    subst hlen
    split at hs
    · obtain ⟨h3, h4, h5, h6⟩ := inv_go hs
      subst h3; subst h4; subst h5; subst h6
      rename_i v r
      cases r with
      | nil => exact absurd hc.2 (by simp)
      | cons wl r => exact fun H locs ls hi hl => lv_ldc2 hx hb hown (in_code hts hc.2) hd (k H locs ls hi hl)
    · obtain ⟨h3, h4, h5, h6⟩ := inv_go hs
      subst h3; subst h4; subst h5; subst h6
      rename_i v r
      cases r with
      | nil => exact absurd hc.2 (by simp)
      | cons wl r => exact fun H locs ls hi hl => lv_ldc2d hx hb hown (in_code hts hc.2) hd (k H locs ls hi hl)
    · cases hs
  case iadd =>
    obtain ⟨y, x, r, h1, h3, h4, h5, h6⟩ := inv_ii2 hs
    subst h1; subst h3; subst h4; subst h5; subst h6
    have hlen : len = 1 := Nat.eq_of_beq_eq_true hc
    subst hlen
    exact fun H locs ls hi hl => lv_iadd hx hb hd (k H locs ls hi hl)
  case isub =>
    obtain ⟨y, x, r, h1, h3, h4, h5, h6⟩ := inv_ii2 hs
    subst h1; subst h3; subst h4; subst h5; subst h6
    have hlen : len = 1 := Nat.eq_of_beq_eq_true hc
    subst hlen
    exact fun H locs ls hi hl => lv_isub hx hb hd (k H locs ls hi hl)
  case imul =>
    obtain ⟨y, x, r, h1, h3, h4, h5, h6⟩ := inv_ii2 hs
    subst h1; subst h3; subst h4; subst h5; subst h6
    have hlen : len = 1 := Nat.eq_of_beq_eq_true hc
    subst hlen
    exact fun H locs ls hi hl => lv_imul hx hb hd (k H locs ls hi hl)
  case iand =>
    obtain ⟨y, x, r, h1, h3, h4, h5, h6⟩ := inv_ii2 hs
    subst h1; subst h3; subst h4; subst h5; subst h6
    have hlen : len = 1 := Nat.eq_of_beq_eq_true hc
    subst hlen
    exact fun H locs ls hi hl => lv_iand hx hb hd (k H locs ls hi hl)
  case ior =>
    obtain ⟨y, x, r, h1, h3, h4, h5, h6⟩ := inv_ii2 hs
    subst h1; subst h3; subst h4; subst h5; subst h6
    have hlen : len = 1 := Nat.eq_of_beq_eq_true hc
    subst hlen
    exact fun H locs ls hi hl => lv_ior hx hb hd (k H locs ls hi hl)
  case ixor =>
    obtain ⟨y, x, r, h1, h3, h4, h5, h6⟩ := inv_ii2 hs
    subst h1; subst h3; subst h4; subst h5; subst h6
    have hlen : len = 1 := Nat.eq_of_beq_eq_true hc
    subst hlen
    exact fun H locs ls hi hl => lv_ixor hx hb hd (k H locs ls hi hl)
  case ishl =>
    obtain ⟨y, x, r, h1, h3, h4, h5, h6⟩ := inv_ii2 hs
    subst h1; subst h3; subst h4; subst h5; subst h6
    have hlen : len = 1 := Nat.eq_of_beq_eq_true hc
    subst hlen
    exact fun H locs ls hi hl => lv_ishl hx hb hd (k H locs ls hi hl)
  case ishr =>
    obtain ⟨y, x, r, h1, h3, h4, h5, h6⟩ := inv_ii2 hs
    subst h1; subst h3; subst h4; subst h5; subst h6
    have hlen : len = 1 := Nat.eq_of_beq_eq_true hc
    subst hlen
    exact fun H locs ls hi hl => lv_ishr hx hb hd (k H locs ls hi hl)
  case iushr =>
    obtain ⟨y, x, r, h1, h3, h4, h5, h6⟩ := inv_ii2 hs
    subst h1; subst h3; subst h4; subst h5; subst h6
    have hlen : len = 1 := Nat.eq_of_beq_eq_true hc
    subst hlen
    exact fun H locs ls hi hl => lv_iushr hx hb hd rfl (k H locs ls hi hl)
  case ineg =>
    obtain ⟨x, r, h1, h3, h4, h5, h6⟩ := inv_ii1 hs
    subst h1; subst h3; subst h4; subst h5; subst h6
    have hlen : len = 1 := Nat.eq_of_beq_eq_true hc
    subst hlen
    exact fun H locs ls hi hl => lv_ineg hx hb hd (k H locs ls hi hl)
  case i2c =>
    obtain ⟨x, r, h1, h3, h4, h5, h6⟩ := inv_ii1 hs
    subst h1; subst h3; subst h4; subst h5; subst h6
    have hlen : len = 1 := Nat.eq_of_beq_eq_true hc
    subst hlen
    exact fun H locs ls hi hl => lv_i2c hx hb hd rfl (k H locs ls hi hl)
  case ladd =>
    obtain ⟨y, x, r, h1, h3, h4, h5, h6⟩ := inv_ll2 hs
    subst h1; subst h3; subst h4; subst h5; subst h6
    have hlen : len = 1 := Nat.eq_of_beq_eq_true hc
    subst hlen
    exact fun H locs ls hi hl => lv_ladd hx hb hd (k H locs ls hi hl)
  case lmul =>
    obtain ⟨y, x, r, h1, h3, h4, h5, h6⟩ := inv_ll2 hs
    subst h1; subst h3; subst h4; subst h5; subst h6
    have hlen : len = 1 := Nat.eq_of_beq_eq_true hc
    subst hlen
    exact fun H locs ls hi hl => lv_lmul hx hb hd (k H locs ls hi hl)
  case land =>
    obtain ⟨y, x, r, h1, h3, h4, h5, h6⟩ := inv_ll2 hs
    subst h1; subst h3; subst h4; subst h5; subst h6
    have hlen : len = 1 := Nat.eq_of_beq_eq_true hc
    subst hlen
    exact fun H locs ls hi hl => lv_land hx hb hd (k H locs ls hi hl)
  case lor =>
    obtain ⟨y, x, r, h1, h3, h4, h5, h6⟩ := inv_ll2 hs
    subst h1; subst h3; subst h4; subst h5; subst h6
    have hlen : len = 1 := Nat.eq_of_beq_eq_true hc
    subst hlen
    exact fun H locs ls hi hl => lv_lor hx hb hd (k H locs ls hi hl)
  case fadd =>
    obtain ⟨y, x, r, h1, hne, h3, h4, h5, h6⟩ := inv_ff2 hs
    subst h1; subst h3; subst h4; subst h5; subst h6
    have hlen : len = 1 := Nat.eq_of_beq_eq_true hc
    subst hlen
    exact fun H locs ls hi hl => lv_fadd hx hb hd hne (k H locs ls hi hl)
  case fmul =>
    obtain ⟨y, x, r, h1, hne, h3, h4, h5, h6⟩ := inv_ff2 hs
    subst h1; subst h3; subst h4; subst h5; subst h6
    have hlen : len = 1 := Nat.eq_of_beq_eq_true hc
    subst hlen
    exact fun H locs ls hi hl => lv_fmul hx hb hd hne (k H locs ls hi hl)
  case fdiv =>
    obtain ⟨y, x, r, h1, hne, h3, h4, h5, h6⟩ := inv_ff2 hs
    subst h1; subst h3; subst h4; subst h5; subst h6
    have hlen : len = 1 := Nat.eq_of_beq_eq_true hc
    subst hlen
    exact fun H locs ls hi hl => lv_fdiv hx hb hd hne (k H locs ls hi hl)
  case dmul =>
    obtain ⟨y, x, r, h1, hne, h3, h4, h5, h6⟩ := inv_dd2 hs
    subst h1; subst h3; subst h4; subst h5; subst h6
    have hlen : len = 1 := Nat.eq_of_beq_eq_true hc
    subst hlen
    exact fun H locs ls hi hl => lv_dmul hx hb hd hne (k H locs ls hi hl)
  case ddiv =>
    obtain ⟨y, x, r, h1, hne, h3, h4, h5, h6⟩ := inv_dd2 hs
    subst h1; subst h3; subst h4; subst h5; subst h6
    have hlen : len = 1 := Nat.eq_of_beq_eq_true hc
    subst hlen
    exact fun H locs ls hi hl => lv_ddiv hx hb hd hne (k H locs ls hi hl)
  case idiv =>
    unfold stp at hs
    dsimp only at hs
    split at hs
    · obtain ⟨hg, h3, h4, h5, h6⟩ := inv_gg hs
      subst h3; subst h4; subst h5; subst h6
      have hlen : len = 1 := Nat.eq_of_beq_eq_true hc
      subst hlen
      exact fun H locs ls hi hl => lv_idiv hx hb hd (of_decide_eq_true hg) (k H locs ls hi hl)
    · cases hs
  case irem =>
    unfold stp at hs
    dsimp only at hs
    split at hs
    · obtain ⟨hg, h3, h4, h5, h6⟩ := inv_gg hs
      subst h3; subst h4; subst h5; subst h6
      have hlen : len = 1 := Nat.eq_of_beq_eq_true hc
      subst hlen
      exact fun H locs ls hi hl => lv_irem hx hb hd (of_decide_eq_true hg) (k H locs ls hi hl)
    · cases hs
  case lshl =>
    unfold stp at hs
    dsimp only at hs
    split at hs
    · obtain ⟨h3, h4, h5, h6⟩ := inv_go hs
      subst h3; subst h4; subst h5; subst h6
      have hlen : len = 1 := Nat.eq_of_beq_eq_true hc
      subst hlen
      exact fun H locs ls hi hl => lv_lshl hx hb hd rfl (k H locs ls hi hl)
    · cases hs
  case lcmp =>
    unfold stp at hs
    dsimp only at hs
    split at hs
    · obtain ⟨h3, h4, h5, h6⟩ := inv_go hs
      subst h3; subst h4; subst h5; subst h6
      have hlen : len = 1 := Nat.eq_of_beq_eq_true hc
      subst hlen
      exact fun H locs ls hi hl => W.lcmp hx hb hd (k H locs ls hi hl)
    · cases hs
  case i2l =>
    unfold stp at hs
    dsimp only at hs
    split at hs
    · obtain ⟨h3, h4, h5, h6⟩ := inv_go hs
      subst h3; subst h4; subst h5; subst h6
      have hlen : len = 1 := Nat.eq_of_beq_eq_true hc
      subst hlen
      exact fun H locs ls hi hl => lv_i2l hx hb hd rfl (k H locs ls hi hl)
    · cases hs
  case l2i =>
    unfold stp at hs
    dsimp only at hs
    split at hs
    · obtain ⟨h3, h4, h5, h6⟩ := inv_go hs
      subst h3; subst h4; subst h5; subst h6
      have hlen : len = 1 := Nat.eq_of_beq_eq_true hc
      subst hlen
      exact fun H locs ls hi hl => lv_l2i hx hb hd rfl (k H locs ls hi hl)
    · cases hs
  case i2d =>
    unfold stp at hs
    dsimp only at hs
    split at hs
    · obtain ⟨h3, h4, h5, h6⟩ := inv_go hs
      subst h3; subst h4; subst h5; subst h6
      have hlen : len = 1 := Nat.eq_of_beq_eq_true hc
      subst hlen
      exact fun H locs ls hi hl => lv_i2d hx hb hd (k H locs ls hi hl)
    · cases hs
  case i2f =>
    unfold stp at hs
    dsimp only at hs
    split at hs
    · obtain ⟨h3, h4, h5, h6⟩ := inv_go hs
      subst h3; subst h4; subst h5; subst h6
      have hlen : len = 1 := Nat.eq_of_beq_eq_true hc
      subst hlen
      exact fun H locs ls hi hl => lv_i2f hx hb hd (k H locs ls hi hl)
    · cases hs
  case f2i =>
    unfold stp at hs
    dsimp only at hs
    split at hs
    · obtain ⟨h3, h4, h5, h6⟩ := inv_go hs
      subst h3; subst h4; subst h5; subst h6
      have hlen : len = 1 := Nat.eq_of_beq_eq_true hc
      subst hlen
      exact fun H locs ls hi hl => lv_f2i hx hb hd (k H locs ls hi hl)
    · cases hs
  case d2i =>
    unfold stp at hs
    dsimp only at hs
    split at hs
    · obtain ⟨h3, h4, h5, h6⟩ := inv_go hs
      subst h3; subst h4; subst h5; subst h6
      have hlen : len = 1 := Nat.eq_of_beq_eq_true hc
      subst hlen
      exact fun H locs ls hi hl => lv_d2i hx hb hd (k H locs ls hi hl)
    · cases hs
  case d2l =>
    unfold stp at hs
    dsimp only at hs
    split at hs
    · obtain ⟨h3, h4, h5, h6⟩ := inv_go hs
      subst h3; subst h4; subst h5; subst h6
      have hlen : len = 1 := Nat.eq_of_beq_eq_true hc
      subst hlen
      exact fun H locs ls hi hl => lv_d2l hx hb hd (k H locs ls hi hl)
    · cases hs
  case fneg =>
    unfold stp at hs
    dsimp only at hs
    split at hs
    · obtain ⟨h3, h4, h5, h6⟩ := inv_go hs
      subst h3; subst h4; subst h5; subst h6
      have hlen : len = 1 := Nat.eq_of_beq_eq_true hc
      subst hlen
      exact fun H locs ls hi hl => lv_fneg hx hb hd (k H locs ls hi hl)
    · cases hs
  case f2d =>
    unfold stp at hs
    dsimp only at hs
    split at hs
    · obtain ⟨hg, h3, h4, h5, h6⟩ := inv_gg hs
      subst h3; subst h4; subst h5; subst h6
      have hlen : len = 1 := Nat.eq_of_beq_eq_true hc
      subst hlen
      exact fun H locs ls hi hl => lv_f2d hx hb hd (gN64_s hg) (k H locs ls hi hl)
    · cases hs
  case d2f =>
    unfold stp at hs
    dsimp only at hs
    split at hs
    · obtain ⟨hg, h3, h4, h5, h6⟩ := inv_gg hs
      subst h3; subst h4; subst h5; subst h6
      have hlen : len = 1 := Nat.eq_of_beq_eq_true hc
      subst hlen
      exact fun H locs ls hi hl => lv_d2f hx hb hd (gN32_s hg) (k H locs ls hi hl)
    · cases hs
  case fcmp op =>
    unfold stp at hs
    dsimp only at hs
    split at hs
    · obtain ⟨h3, h4, h5, h6⟩ := inv_go hs
      subst h3; subst h4; subst h5; subst h6
      have hlen : len = 1 := Nat.eq_of_beq_eq_true hc
      subst hlen
      exact fun H locs ls hi hl => lv_fcmp hx hb hd (k H locs ls hi hl)
    · cases hs
  case dcmp op =>
    unfold stp at hs
    dsimp only at hs
    split at hs
    · obtain ⟨h3, h4, h5, h6⟩ := inv_go hs
      subst h3; subst h4; subst h5; subst h6
      have hlen : len = 1 := Nat.eq_of_beq_eq_true hc
      subst hlen
      exact fun H locs ls hi hl => lv_dcmp hx hb hd (k H locs ls hi hl)
    · cases hs
  case dup =>
    unfold stp at hs
    dsimp only at hs
    split at hs
    · obtain ⟨h3, h4, h5, h6⟩ := inv_go hs
      subst h3; subst h4; subst h5; subst h6
      have hlen : len = 1 := Nat.eq_of_beq_eq_true hc
      subst hlen
      exact fun H locs ls hi hl => lv_dup hx hb hd rfl (k H locs ls hi hl)
    · obtain ⟨h3, h4, h5, h6⟩ := inv_go hs
      subst h3; subst h4; subst h5; subst h6
      have hlen : len = 1 := Nat.eq_of_beq_eq_true hc
      subst hlen
      exact fun H locs ls hi hl => lv_dup hx hb hd rfl (k H locs ls hi hl)
    · cases hs
  case dup2 =>
    unfold stp at hs
    dsimp only at hs
    split at hs
    · obtain ⟨h3, h4, h5, h6⟩ := inv_go hs
      subst h3; subst h4; subst h5; subst h6
      have hlen : len = 1 := Nat.eq_of_beq_eq_true hc
      subst hlen
      exact fun H locs ls hi hl => lv_dup2_11 hx hb hd rfl rfl (k H locs ls hi hl)
    · obtain ⟨h3, h4, h5, h6⟩ := inv_go hs
      subst h3; subst h4; subst h5; subst h6
      have hlen : len = 1 := Nat.eq_of_beq_eq_true hc
      subst hlen
      exact fun H locs ls hi hl => lv_dup2_2 hx hb hd rfl (k H locs ls hi hl)
    · cases hs
  case pop =>
    unfold stp at hs
    dsimp only at hs
    split at hs
    · obtain ⟨h3, h4, h5, h6⟩ := inv_go hs
      subst h3; subst h4; subst h5; subst h6
      have hlen : len = 1 := Nat.eq_of_beq_eq_true hc
      subst hlen
      exact fun H locs ls hi hl => lv_pop hx hb hd rfl (k H locs ls hi hl)
    · obtain ⟨h3, h4, h5, h6⟩ := inv_go hs
      subst h3; subst h4; subst h5; subst h6
      have hlen : len = 1 := Nat.eq_of_beq_eq_true hc
      subst hlen
      exact fun H locs ls hi hl => lv_pop hx hb hd rfl (k H locs ls hi hl)
    · cases hs
  case goto off =>
    obtain ⟨h3, h4, h5, h6⟩ := inv_go hs
    subst h3; subst h4; subst h5; subst h6
    unfold chk at hc; dsimp only at hc; rw [Bool.and_eq_true] at hc
    have hlen : len = 3 := Nat.eq_of_beq_eq_true hc.1
    subst hlen
    exact fun H locs ls hi hl => lv_goto hx hb hd (of_decide_eq_true hc.2) (k H locs ls hi hl)
  case getfield z =>
    exact g_get C hI hs k
  case putfield z =>
    exact g_put C hI hs k
  case arraylength =>
    exact g_alen C hI hs k
  case iaload =>
    exact g_iaload C hI hs k
  case caload =>
    exact g_caload C hI hs k
  case laload =>
    exact g_laload C hI hs k
  case aaload =>
    exact g_aaload C hI hs k
  case iastore =>
    exact g_iastore C hI hs k
  case castore =>
    exact g_castore C hI hs k
  case lastore =>
    exact g_lastore C hI hs k
  case aastore =>
    exact g_aastore C hI hs k
  case newarray ty =>
    exact g_newa C hI hs hR hk0 hd0 k
  case anewarray z =>
    exact g_anew C hI hs hR hk0 hd0 k
  case new z =>
    exact g_new C hI hs hR hk0 hd0 k
  case invokevirtual z =>
    exact g_invokevirtual C hI hs hF k
  case invokestatic z =>
    exact g_invokestatic C hI hs hF k
  case invokespecial z =>
    exact g_invokespecial C hI hs hF k
  all_goals first
    | (unfold stp at hs; cases hs; done)
    | (unfold stp at hs; dsimp only at hs; (repeat' split at hs) <;> first | (cases hs; done) | (simp [br] at hs; done))
end Snd2
end
section
theorem ofNat_iff {x : Int32} {k : Nat} (h : (k : Int) < 2147483648) : x = Int32.ofNat k ↔ x.toInt = (k : Int) := by
  have h1 : (Int32.ofNat k).toInt = (k : Int) := Int32.toInt_ofNat_of_lt (by omega)
  constructor
  · intro q; rw [q, h1]
  · intro q; exact Int32.toInt_inj.mp (by rw [q, h1])
theorem swt_tab {pc d : Nat} {x : Int32} : ∀ (os : List Int) (ps : List Nat) (i : Int), tabOk pc i os ps = true → 0 ≤ i → i + os.length ≤ 2147483648 →
    ((x.toInt < i ∨ i + os.length ≤ x.toInt) → swt x d ps = d) ∧ ∀ (j : Nat) (o : Int), x.toInt = i + j → os[j]? = some o → (pc : Int) + o = ((swt x d ps : Nat) : Int) := by
  intro os
  induction os with
  | nil =>
    intro ps i h _ _
    cases ps with
    | nil => exact ⟨fun _ => rfl, fun j o _ h => by cases h⟩
    | cons a r => cases r <;> cases h
  | cons o os ih =>
    intro ps i h h0 hb
    cases ps with
    | nil => cases h
    | cons k ps => cases ps with
      | nil => cases h
      | cons t r =>
        unfold tabOk at h
        simp only [Bool.and_eq_true, decide_eq_true_eq] at h
        obtain ⟨hk, ht, hr⟩ := h
        rw [List.length_cons] at hb ⊢
        obtain ⟨i1, i2⟩ := ih r (i + 1) hr (by omega) (by omega)
        have hx := ofNat_iff (x := x) (k := k) (by omega)
        unfold swt
        by_cases hc : x = Int32.ofNat k
        · rw [decide_eq_true hc]
          have hxi := hx.mp hc
          refine ⟨fun q => by omega, fun j o' hj ho => ?_⟩
          have : j = 0 := by omega
          subst this
          cases ho
          exact ht
        · rw [decide_eq_false hc]
          have hxi : ¬ x.toInt = (k : Int) := fun q => hc (hx.mpr q)
          refine ⟨fun q => i1 (by omega), fun j o' hj ho => ?_⟩
          cases j with
          | zero => omega
          | succ j => exact i2 j o' (by omega) ho
theorem swt_look {pc d : Nat} {x : Int32} {dd : Int} (hd : (pc : Int) + dd = (d : Int)) : ∀ (os : List (Int × Int)) (ps : List Nat), lookOk pc os ps = true → os.all (fun q => decide (0 ≤ q.1 ∧ q.1 < 2147483648)) = true →
    (pc : Int) + Op.lookupswitch.offset os dd x.toInt = ((swt x d ps : Nat) : Int) := by
  intro os
  induction os with
  | nil =>
    intro ps h _
    cases ps with
    | nil => exact hd
    | cons a r => cases r <;> cases h
  | cons o os ih =>
    intro ps h hb
    cases ps with
    | nil => cases h
    | cons k ps => cases ps with
      | nil => cases h
      | cons t r =>
        unfold lookOk at h
        simp only [Bool.and_eq_true, decide_eq_true_eq] at h
        obtain ⟨hk, ht, hr⟩ := h
        rw [List.all_cons, Bool.and_eq_true, decide_eq_true_eq] at hb
        have hx := ofNat_iff (x := x) (k := k) (by omega)
        obtain ⟨o1, o2⟩ := o
        rw [Op.lookupswitch.offset_cons]
        unfold swt
        by_cases hc : x = Int32.ofNat k
        · rw [decide_eq_true hc, if_pos (by rw [hx.mp hc]; exact hk.symm)]
          exact ht
        · rw [decide_eq_false hc, if_neg (fun q => hc (hx.mpr (q.symm.trans hk.symm)))]
          exact ih r hr hb.2
section Snd5
variable {p : Program} {l : Launch} {e : Env} {R : Room} {s : State} {mid : MethodId} {args : Array Value} {below : List Frame} {meth : Method} {c : Code} {D : va_G} {cA : Nat → ClassId} {n0 b k0 d0 : Nat} {xs : Scr} {m : Nat} {Q : State → Prop}
theorem stp_br (C : Cx p l s mid args meth c D cA n0 b xs m) {pc len n' t : Nat} {bb : Bool} {ins : Instr} {aux : List Nat} {L st L' st' : List Value} {μ μ' : Mem} (hI : I m pc = some (ins, len, aux))
    (hs : stp xs ins (pc + len) aux L st μ = some (true, .inr (.inl (bb, t, n', L', st', μ')))) (k1 : bb = true → Gd p l e R s mid args below meth c D cA n0 b k0 d0 m Q t L' st' μ') (k2 : bb = false → Gd p l e R s mid args below meth c D cA n0 b k0 d0 m Q n' L' st' μ') : Gd p l e R s mid args below meth c D cA n0 b k0 d0 m Q pc L st μ := by
  have hd : decode (cM m) pc = .ok (ins, len) := (I_ok hI).1
  have hc : chk m pc len ins aux = true := (I_ok hI).2.1
  have hx := C.1
  have hb := C.2.1
  have hk := kr_stp (xs := xs) (ins := ins) (n := pc + len) (aux := aux) (L := L) (st := st) (μ := μ)
  rw [hs] at hk
  cases ins <;> first | exact hk.elim | skip
  case ifCond cc off =>
    unfold chk at hc; dsimp only at hc; rw [Bool.and_eq_true] at hc
    have hlen : len = 3 := Nat.eq_of_beq_eq_true hc.1
    subst hlen
    have ht := of_decide_eq_true hc.2
    unfold stp at hs
    dsimp only at hs
    split at hs
    · rename_i x r
      unfold br at hs
      simp only [Option.some.injEq, Prod.mk.injEq, true_and, Sum.inr.injEq, Sum.inl.injEq] at hs
      obtain ⟨e1, e2, e3, e4, e5, e6⟩ := hs
      subst e1; subst e2; subst e3; subst e4; subst e5; subst e6
      intro H locs ls hi hl
      cases cc
      · exact lv_if_eq hx hb hd ht (fun q => k1 (decide_eq_true q) H locs ls hi hl) (fun q => k2 (decide_eq_false q) H locs ls hi hl)
      · exact lv_if_ne hx hb hd ht (fun q => k1 (decide_eq_true q) H locs ls hi hl) (fun q => k2 (decide_eq_false (fun w => w q)) H locs ls hi hl)
      · exact lv_if_lt hx hb hd ht (fun q => k1 (decide_eq_true q) H locs ls hi hl) (fun q => k2 (decide_eq_false q) H locs ls hi hl)
      · exact lv_if_ge hx hb hd ht (fun q => k1 (decide_eq_true q) H locs ls hi hl) (fun q => k2 (decide_eq_false q) H locs ls hi hl)
      · exact lv_if_gt hx hb hd ht (fun q => k1 (decide_eq_true q) H locs ls hi hl) (fun q => k2 (decide_eq_false q) H locs ls hi hl)
      · exact lv_if_le hx hb hd ht (fun q => k1 (decide_eq_true q) H locs ls hi hl) (fun q => k2 (decide_eq_false q) H locs ls hi hl)
    · cases hs
  case if_icmp cc off =>
    unfold chk at hc; dsimp only at hc; rw [Bool.and_eq_true] at hc
    have hlen : len = 3 := Nat.eq_of_beq_eq_true hc.1
    subst hlen
    have ht := of_decide_eq_true hc.2
    unfold stp at hs
    dsimp only at hs
    split at hs
    · rename_i y x r
      unfold br at hs
      simp only [Option.some.injEq, Prod.mk.injEq, true_and, Sum.inr.injEq, Sum.inl.injEq] at hs
      obtain ⟨e1, e2, e3, e4, e5, e6⟩ := hs
      subst e1; subst e2; subst e3; subst e4; subst e5; subst e6
      intro H locs ls hi hl
      cases cc
      · exact lv_icmp_eq hx hb hd ht (fun q => k1 (decide_eq_true q) H locs ls hi hl) (fun q => k2 (decide_eq_false q) H locs ls hi hl)
      · exact lv_icmp_ne hx hb hd ht (fun q => k1 (decide_eq_true q) H locs ls hi hl) (fun q => k2 (decide_eq_false (fun w => w q)) H locs ls hi hl)
      · exact lv_icmp_lt hx hb hd ht (fun q => k1 (decide_eq_true q) H locs ls hi hl) (fun q => k2 (decide_eq_false q) H locs ls hi hl)
      · exact lv_icmp_ge hx hb hd ht (fun q => k1 (decide_eq_true q) H locs ls hi hl) (fun q => k2 (decide_eq_false q) H locs ls hi hl)
      · exact lv_icmp_gt hx hb hd ht (fun q => k1 (decide_eq_true q) H locs ls hi hl) (fun q => k2 (decide_eq_false q) H locs ls hi hl)
      · exact lv_icmp_le hx hb hd ht (fun q => k1 (decide_eq_true q) H locs ls hi hl) (fun q => k2 (decide_eq_false q) H locs ls hi hl)
    · cases hs
theorem stp_sw (C : Cx p l s mid args meth c D cA n0 b xs m) {pc len n' : Nat} {x : Int32} {ps : List Nat} {ins : Instr} {aux : List Nat} {L st L' st' : List Value} {μ μ' : Mem} (hI : I m pc = some (ins, len, aux))
    (hs : stp xs ins (pc + len) aux L st μ = some (true, .inr (.inr (.inl (x, ps, n', L', st', μ'))))) (k : Gd p l e R s mid args below meth c D cA n0 b k0 d0 m Q (swt x n' ps) L' st' μ') : Gd p l e R s mid args below meth c D cA n0 b k0 d0 m Q pc L st μ := by
  have hd : decode (cM m) pc = .ok (ins, len) := (I_ok hI).1
  have hc : chk m pc len ins aux = true := (I_ok hI).2.1
  have hx := C.1
  have hb := C.2.1
  have hk := kr_stp (xs := xs) (ins := ins) (n := pc + len) (aux := aux) (L := L) (st := st) (μ := μ)
  rw [hs] at hk
  cases ins <;> first | exact hk.elim | skip
  case tableswitch dd lo hi offs =>
    unfold chk at hc; dsimp only at hc
    simp only [Bool.and_eq_true, decide_eq_true_eq] at hc
    obtain ⟨h1, h2, h3, h4, h5⟩ := hc
    unfold stp at hs
    dsimp only at hs
    split at hs
    · simp only [Option.some.injEq, Prod.mk.injEq, true_and, Sum.inr.injEq, Sum.inl.injEq] at hs
      obtain ⟨e1, e2, e3, e4, e5, e6⟩ := hs
      subst e1; subst e2; subst e3; subst e4; subst e5; subst e6
      rename_i x r
      obtain ⟨i1, i2⟩ := swt_tab (x := x) (d := aux.getD 0 0) offs.toList aux.tail lo h5 h2 (by omega)
      intro H locs ls hiv hl
      by_cases hout : x.toInt < lo ∨ hi < x.toInt
      · rw [i1 (by omega)] at k
        exact lv_tableOut hx hb hd hout h1 (k H locs ls hiv hl)
      · have hj : x.toInt = lo + ((x.toInt - lo).toNat : Int) := by omega
        have hlt : (x.toInt - lo).toNat < offs.toList.length := by omega
        have ho : offs[(x.toInt - lo).toNat]? = some (offs.toList[(x.toInt - lo).toNat]) := by
          rw [← Array.getElem?_toList]; exact List.getElem?_eq_getElem hlt
        exact lv_tableIn hx hb hd (by omega) (by omega) ho (i2 _ _ hj (List.getElem?_eq_getElem hlt)) (k H locs ls hiv hl)
    · cases hs
  case lookupswitch dd pp =>
    unfold chk at hc; dsimp only at hc
    simp only [Bool.and_eq_true, decide_eq_true_eq] at hc
    obtain ⟨h1, h2, h3, h4⟩ := hc
    unfold stp at hs
    dsimp only at hs
    split at hs
    · simp only [Option.some.injEq, Prod.mk.injEq, true_and, Sum.inr.injEq, Sum.inl.injEq] at hs
      obtain ⟨e1, e2, e3, e4, e5, e6⟩ := hs
      subst e1; subst e2; subst e3; subst e4; subst e5; subst e6
      rename_i x r
      have := swt_look (x := x) h1 pp.toList aux.tail h4 h3
      intro H locs ls hiv hl
      exact lv_lookup hx hb hd h2 rfl this (k H locs ls hiv hl)
    · cases hs
end Snd5
end
section
/-! contracts -/
def wsY (y : Nat) : List Jvm.Cond := (match hM y with | [] => Jvm.Cond.code (yM y) (cM y) (xM y) (rM y) | h :: r => Jvm.Cond.codeWith (yM y) (cM y) (xM y) (rM y) (h :: r)) :: lw_all
def rmY (y mc ms : Nat) : Room := { frames := fM y, cells := mc, slots := ms, locals := 38 * fM y }
def Wd (D : va_G) (cA : Nat → ClassId) (n0 b : Nat) (xs : Scr) (μ : Mem) (U : State) : Prop := mN μ ≤ NN ∧ va_P D vwCl (wld n0 b cA μ) U.heap ∧ va_K D vwCl (tysOf cA) U ∧ n0 ≤ U.heap.size ∧ Vmf b xs n0 U U.heap ∧ (mX μ = 0 → U.heap.size = n0 + mN μ)
def QcY (D : va_G) (cA : Nat → ClassId) (n0 b : Nat) (o : Out × Mem) : Array Value → State → Outcome → State → Prop := fun _ st oc t => ∃ v, o.1 = .inl v ∧ oc = .returned (v.map (rv n0 b)) ∧ va_P D vwCl (wld n0 b cA o.2) t.heap ∧ va_F (AA n0) st t
def XcY (D : va_G) (cA : Nat → ClassId) (n0 b : Nat) (o : Out × Mem) : String → State → State → Prop := fun E st t => ∃ k, o.1 = .inr k ∧ 0 < k ∧ k < 4 ∧ E = excN k ∧ va_P D vwCl (wld n0 b cA o.2) t.heap ∧ va_F (AA n0) st t
def mcY (μ μ' : Mem) : Nat := mN μ' + mX μ' - (mN μ + mX μ)
def msY (μ μ' : Mem) : Nat := ssum (mN μ') + 6 * mX μ' - (ssum (mN μ) + 6 * mX μ)
def Ctr (l : Launch) (D : va_G) (cA : Nat → ClassId) (n0 b : Nat) (xs : Scr) (y : Nat) (as : List Value) (μ : Mem) (o : Out × Mem) : Prop := vx_Met l (yM y) (wsY y) (rmY y (mcY μ o.2) (msY μ o.2)) (va_Pc (as.map (rv n0 b)) (Wd D cA n0 b xs μ)) (QcY D cA n0 b o) (XcY D cA n0 b o) (mcY μ o.2) (msY μ o.2) (AA n0)
theorem nest_warm {w : Jvm.Cond} (hw : w ∈ nestW) {s U : State} (hW : s.WarmedH U.vm) (h : va_Nw w s) : va_Nw w U := by
  unfold nestW at hw
  simp only [List.mem_cons, List.not_mem_nil, or_false] at hw
  rcases hw with rfl | rfl | rfl | rfl
  · exact va_Nw.warmM hW h
  · exact va_Nw.warmM hW h
  · exact va_AO.moved hW.alike h
  · exact va_AO.moved hW.alike h
theorem Vmf.to {b : Nat} {xs : Scr} {n0 : Nat} {s U : State} {H H1 : Heap} (hW : s.WarmedH U.vm) (h : Vmf b xs n0 s H) (hq : ∀ a : Nat, a < H.size → ¬ AA n0 a → H1[a]? = H[a]?) : Vmf b xs n0 U H1 := by
  obtain ⟨⟨hX, hbn, hx3⟩, h1, h2, h3, h4, h5, h6, h7⟩ := h
  have hbl : b < H.size := by obtain ⟨scr, hs, -⟩ := hX; exact (Array.getElem?_eq_some_iff.mp hs).1
  refine ⟨⟨(hX.moved hW.alike).kept (hq b hbl (show ¬ n0 ≤ b by omega)), hbn, hx3⟩, fun w hw => nest_warm hw hW (h1 w hw), vx_Zq.moved hW.alike (h2.kept hq), vx_Zq.moved hW.alike (h3.kept hq), fun i k t hi => ?_, fun E E' a1 a2 a3 a4 a5 => va_Nc.moved hW.alike (h5 E E' a1 a2 a3 a4 a5), fun E a1 a2 => va_Nw.warmC hW (h6 E a1 a2), fun x hx => va_Nw.warmD hW (h7 x hx)⟩
  obtain ⟨sa, hs⟩ := h4 i k t hi
  exact ⟨sa, hs.warm hW⟩
theorem Vmf.same {b : Nat} {xs : Scr} {n0 : Nat} {s U : State} {H : Heap} (hv : U.vm = s.vm) (h : Vmf b xs n0 s H) : Vmf b xs n0 U H := h.to (by rw [hv]; exact State.WarmedH.refl s) (fun _ _ _ => rfl)
theorem vy_ofW {l : Launch} {y : MethodName} {ws ws' : List Jvm.Cond} {rm : Room} {Pc : Array Value → State → Prop} {Qc : Array Value → State → Outcome → State → Prop} {XC : String → State → State → Prop} {mc ms : Nat} {free : Addr → Prop} {cc : ByteArray} {maxL : Nat} {ret : Option FieldType}
    (hy : plainFor y = true) (hw : ws = Cond.code y cc maxL ret :: ws')
    (body : ∀ p e s m args below meth c s₁, BodyLoose p l y (headSpec ws rm) cc maxL ret e s m args below meth c s₁ → c.maxLocals = maxL → c.exceptionTable.toList = [] → Pc args s →
      W p l e (headSpec ws rm).room s m args below meth c s.heap [] 0 0 (vx_MQ below Qc XC args s mc ms free) (entryFrame m args maxL)) : vx_Met l y ws rm Pc Qc XC mc ms free := by
  refine MetFree.of_bodySF (code := cc) (maxLocals := maxL) (ret := ret) hy ?_ ?_
  · intro args s m h hn
    obtain ⟨meth, c, h1, h2, h3, h4, h5, h6, -, -⟩ := Cond.code_spec hn (atoms_spec (ws := ws) h _ (by rw [hw]; exact List.mem_cons_self))
    exact ⟨meth, c, h1, h2, h3, h4, h5, h6⟩
  · intro p e s m args below meth c s₁ B hml hP _
    have hh0 : s₁.heap = s.heap := by rw [B.state]; rfl
    have ht : c.exceptionTable.toList = [] := by
      obtain ⟨meth9, c9, h1, h2, -, -, -, -, h7, -⟩ := Cond.code_spec B.named (atoms_spec (ws := ws) B.pre _ (by rw [hw]; exact List.mem_cons_self))
      cases Option.some.inj (h1.symm.trans B.method)
      cases Option.some.inj (h2.symm.trans (Stand.of_body B).code)
      rw [Array.isEmpty_iff.mp h7]
    obtain ⟨t, a1, o, b1, b2, b3⟩ := body p e s m args below meth c s₁ B hml ht hP s₁ hh0 (Stand.of_body B)
    exact ⟨t, o, a1, b1, b2, b3⟩
theorem vy_ofWH {l : Launch} {y : MethodName} {ws ws' : List Jvm.Cond} {rm : Room} {Pc : Array Value → State → Prop} {Qc : Array Value → State → Outcome → State → Prop} {XC : String → State → State → Prop} {mc ms : Nat} {free : Addr → Prop} {cc : ByteArray} {maxL : Nat} {ret : Option FieldType} {hh : List (Nat × Nat × Nat × Nat)}
    (hy : plainFor y = true) (hw : ws = Cond.codeWith y cc maxL ret hh :: ws')
    (body : ∀ p e s m args below meth c s₁, BodyLoose p l y (headSpec ws rm) cc maxL ret e s m args below meth c s₁ → c.maxLocals = maxL → c.exceptionTable.toList = tableOf hh → Pc args s →
      W p l e (headSpec ws rm).room s m args below meth c s.heap [] 0 0 (vx_MQ below Qc XC args s mc ms free) (entryFrame m args maxL)) : vx_Met l y ws rm Pc Qc XC mc ms free := by
  refine MetFree.of_bodySF (code := cc) (maxLocals := maxL) (ret := ret) hy ?_ ?_
  · intro args s m h hn
    obtain ⟨m9, meth, c, hn9, h1, h2, h3, h4, -, h5, h6, -⟩ := Cond.codeWith_spec (atoms_spec (ws := ws) h _ (by rw [hw]; exact List.mem_cons_self))
    cases hn.symm.trans hn9
    exact ⟨meth, c, h1, h2, h3, h4, h5, h6⟩
  · intro p e s m args below meth c s₁ B hml hP _
    have hh0 : s₁.heap = s.heap := by rw [B.state]; rfl
    have ht := vx_table (x := y) B (atoms_spec (ws := ws) B.pre _ (by rw [hw]; exact List.mem_cons_self) : (Cond.codeWith y cc maxL ret hh).before args s = true)
    obtain ⟨t, a1, o, b1, b2, b3⟩ := body p e s m args below meth c s₁ B hml ht hP s₁ hh0 (Stand.of_body B)
    exact ⟨t, o, a1, b1, b2, b3⟩
/-- a method's own word -/
theorem okY_spec {y : Nat} (h : y < 209) : plainFor (yM y) = true ∧ (∀ w ∈ wsY y, w ∈ lw_all) ∧ Cond.initialized (yM y).cls ∈ lw_all ∧ (wM y 4 = 0 → Cond.instanceMethod (yM y) ∈ lw_all ∧ Cond.selects (yM y).cls (yM y) (yM y) ∈ lw_all) ∧ (wM y 4 = 1 → Cond.static (yM y) ∈ lw_all) ∧ (wM y 4 = 2 → Cond.instanceMethod (yM y) ∈ lw_all ∧ (yM y).name = "<init>" ∧ rM y = none) ∧ (yM y).cls ≠ "java/lang/invoke/MethodHandle" ∧ (yM y).cls ≠ "java/lang/invoke/VarHandle" ∧ xM y ≤ 19 := by
  have h1 := (okMY (Nat.lt_succ_of_lt h)).2 h
  unfold okY at h1
  obtain ⟨h1, hr⟩ := Bool.and_eq_true_iff.mp h1
  obtain ⟨h2, hr⟩ := Bool.and_eq_true_iff.mp hr
  obtain ⟨h34, hr⟩ := Bool.and_eq_true_iff.mp hr
  obtain ⟨h3, h4⟩ := Bool.and_eq_true_iff.mp h34
  obtain ⟨h5, hr⟩ := Bool.and_eq_true_iff.mp hr
  obtain ⟨h6, h7⟩ := Bool.and_eq_true_iff.mp hr
  have h5 := of_decide_eq_true h5
  have h6 := of_decide_eq_true h6
  refine ⟨h1, fun w hw => ?_, gw_in h3, fun q => ?_, fun q => ?_, fun q => ?_, h5, h6, Nat.le_of_ble_eq_true h7⟩
  · unfold wsY at hw
    rcases List.mem_cons.mp hw with hw | hw
    · rw [hw]
      cases hh : hM y with
      | nil => rw [hh] at h2; exact gw_in h2
      | cons a r => rw [hh] at h2; exact gw_in h2
    · exact hw
  · rw [q] at h4
    simp only [Bool.and_eq_true] at h4
    exact ⟨gw_in h4.1, gw_in h4.2⟩
  · rw [q] at h4
    exact gw_in h4
  · rw [q] at h4
    simp only [Bool.and_eq_true, decide_eq_true_eq] at h4
    exact ⟨gw_in h4.1, h4.2.1, h4.2.2⟩
theorem lw_good {w : Jvm.Cond} (h : w ∈ lw_all) : (w.onTables && w.keeps) = true ∨ ∃ ty, w = .arrayClass ty := good_of_word (List.mem_filter.mp h).2
theorem lw_goodIn {ws : List Jvm.Cond} (h : ∀ w ∈ ws, w ∈ lw_all) : GoodIn lw_all ws := fun w hw => ⟨h w hw, lw_good (h w hw)⟩
/-- the locals at the start -/
theorem argL_at {n0 b : Nat} : ∀ (as : List Value) (k i : Nat) (v : Value), (argL as)[i]? = some v → v ≠ .null → (k + i, rv n0 b v) ∈ lv_args k (as.map (rv n0 b))
  | [], _, _, _, h, _ => by cases h
  | a :: as, k, i, v, h, hv => by
    have go1 : ∀ {a : Value}, a.category ≠ 2 → (argL (a :: as)) = a :: argL as → (argL (a :: as))[i]? = some v → (k + i, rv n0 b v) ∈ lv_args k ((a :: as).map (rv n0 b)) := by
      intro a ha he h
      rw [he] at h
      show _ ∈ (k, rv n0 b a) :: lv_args (if (rv n0 b a).category = 2 then k + 2 else k + 1) (as.map (rv n0 b))
      rw [rv_cat, if_neg ha]
      cases i with
      | zero => cases h; exact List.mem_cons_self
      | succ i => exact List.mem_cons_of_mem _ (by have := argL_at (n0 := n0) (b := b) as (k + 1) i v h hv; rw [show k + (i + 1) = k + 1 + i by omega]; exact this)
    have go2 : ∀ {a : Value}, a.category = 2 → (argL (a :: as)) = a :: .null :: argL as → (argL (a :: as))[i]? = some v → (k + i, rv n0 b v) ∈ lv_args k ((a :: as).map (rv n0 b)) := by
      intro a ha he h
      rw [he] at h
      show _ ∈ (k, rv n0 b a) :: lv_args (if (rv n0 b a).category = 2 then k + 2 else k + 1) (as.map (rv n0 b))
      rw [rv_cat, if_pos ha]
      cases i with
      | zero => cases h; exact List.mem_cons_self
      | succ i => cases i with
        | zero => cases h; exact absurd rfl hv
        | succ i => exact List.mem_cons_of_mem _ (by have := argL_at (n0 := n0) (b := b) as (k + 2) i v h hv; rw [show k + (i + 1 + 1) = k + 2 + i by omega]; exact this)
    cases a with
    | int x => exact go1 (by simp [Value.category]) rfl h
    | float x => exact go1 (by simp [Value.category]) rfl h
    | ref x => exact go1 (by simp [Value.category]) rfl h
    | null => exact go1 (by simp [Value.category]) rfl h
    | retAddr x => exact go1 (by simp [Value.category]) rfl h
    | long x => exact go2 rfl rfl h
    | double x => exact go2 rfl rfl h
theorem argL_len {n0 b : Nat} : ∀ as : List Value, (argL as).length = (lg_sl (as.map (rv n0 b))).length
  | [] => rfl
  | a :: as => by
    have ih := argL_len (n0 := n0) (b := b) as
    have e : lg_sl ((a :: as).map (rv n0 b)) = (if (rv n0 b a).category = 2 then [Slot.val (rv n0 b a), .second] else [.val (rv n0 b a)]) ++ lg_sl (as.map (rv n0 b)) := rfl
    rw [e, rv_cat, List.length_append, ← ih]
    cases a <;> simp [argL, Value.category] <;> omega
theorem lvx_entry {n0 b n : Nat} {as : List Value} (h : (argL as).length ≤ n) : lvx n0 b ((lg_sl (as.map (rv n0 b)) ++ List.replicate (n - (lg_sl (as.map (rv n0 b))).length) Slot.unset).toArray) n (pad (argL as) n) := by
  have hl := lv_entry (as.map (rv n0 b)) (n := n) (by rw [← argL_len]; exact h)
  refine ⟨hl.1, ?_, hl.2.1, fun i v hi hv => ?_⟩
  · unfold pad
    rw [List.length_append, List.length_replicate]
    omega
  · unfold pad at hi
    by_cases hlt : i < (argL as).length
    · rw [List.getElem?_append_left hlt] at hi
      have := argL_at (n0 := n0) (b := b) as 0 i v hi hv
      rw [Nat.zero_add] at this
      exact hl.2.2 _ this
    · rw [List.getElem?_append_right (by omega)] at hi
      have := List.mem_of_getElem? hi
      rw [List.mem_replicate] at this
      exact absurd this.2 hv
end
section
/-! constructors don't throw -/
def ctor (y : Nat) : Bool := Nat.beq y 6 || (Nat.beq y 13 || (Nat.beq y 43 || (Nat.beq y 62 || Nat.beq y 101)))
def cR (aux : List Nat) (r : Res) : Prop := match r with
  | none => True
  | some (_, r) => match r with
    | .inr (.inr (.inr (.inr (.inl _)))) => aux.getD 0 0 = 9
    | .inr (.inr (.inr (.inr (.inr q)))) => aux.getD 1 0 = q.1
    | _ => True
theorem cr_none {aux : List Nat} : cR aux none := trivial
theorem cr_bif {aux : List Nat} {b : Bool} {r : Res} (h : cR aux r) : cR aux (bif b then r else none) := by cases b <;> first | exact cr_none | exact h
theorem cr_go {aux : List Nat} {n : Nat} {L st : List Value} {μ : Mem} : cR aux (go n L st μ) := trivial
theorem cr_gg {aux : List Nat} {g : Bool} {n : Nat} {L st : List Value} {μ : Mem} : cR aux (gg g n L st μ) := trivial
theorem cr_ld {aux : List Nat} {t i n : Nat} {L st : List Value} {μ : Mem} : cR aux (sLd t i n L st μ) := by
  unfold sLd; split
  · exact cr_bif cr_go
  · exact cr_none
theorem cr_s1 {aux : List Nat} {t i n : Nat} {L st : List Value} {μ : Mem} : cR aux (sS1 t i n L st μ) := by
  unfold sS1; split
  · exact cr_bif cr_go
  · exact cr_none
theorem cr_s2 {aux : List Nat} {t i n : Nat} {L st : List Value} {μ : Mem} : cR aux (sS2 t i n L st μ) := by
  unfold sS2; split
  · exact cr_bif cr_go
  · exact cr_none
theorem cr_ii1 {aux : List Nat} {f : Int32 → Int32} {n : Nat} {L st : List Value} {μ : Mem} : cR aux (ii1 f n L st μ) := by unfold ii1; split <;> first | exact cr_go | exact cr_none
theorem cr_ii2 {aux : List Nat} {f : Int32 → Int32 → Int32} {n : Nat} {L st : List Value} {μ : Mem} : cR aux (ii2 f n L st μ) := by unfold ii2; split <;> first | exact cr_go | exact cr_none
theorem cr_ll2 {aux : List Nat} {f : Int64 → Int64 → Int64} {n : Nat} {L st : List Value} {μ : Mem} : cR aux (ll2 f n L st μ) := by unfold ll2; split <;> first | exact cr_go | exact cr_none
theorem cr_ff2 {aux : List Nat} {f : UInt32 → UInt32 → UInt32} {n : Nat} {L st : List Value} {μ : Mem} : cR aux (ff2 f n L st μ) := by unfold ff2; split <;> first | exact cr_gg | exact cr_none
theorem cr_dd2 {aux : List Nat} {f : UInt64 → UInt64 → UInt64} {n : Nat} {L st : List Value} {μ : Mem} : cR aux (dd2 f n L st μ) := by unfold dd2; split <;> first | exact cr_gg | exact cr_none
theorem cr_get {aux : List Nat} {n : Nat} {L st : List Value} {μ : Mem} : cR aux (sGet aux n L st μ) := by unfold sGet; split <;> first | exact cr_gg | exact cr_none
theorem cr_put {aux : List Nat} {n : Nat} {L st : List Value} {μ : Mem} : cR aux (sPut aux n L st μ) := by unfold sPut; split <;> first | exact cr_gg | exact cr_none
theorem cr_call {aux : List Nat} {n : Nat} {L st : List Value} {μ : Mem} : cR aux (sCall aux n L st μ) := by
  unfold sCall
  repeat' split
  all_goals first | exact cr_none | exact cr_bif cr_gg | exact cr_bif rfl
theorem cr_stp {xs : Scr} {ins : Instr} {n : Nat} {aux : List Nat} {L st : List Value} {μ : Mem} : cR aux (stp xs ins n aux L st μ) := by
  cases ins
  all_goals first
    | exact cr_none
    | exact cr_ld
    | exact cr_s1
    | exact cr_s2
    | exact cr_ii1
    | exact cr_ii2
    | exact cr_ll2
    | exact cr_ff2
    | exact cr_dd2
    | exact cr_get
    | exact cr_put
    | exact cr_call
    | exact cr_go
    | (unfold stp; dsimp only; (repeat' split) <;> first | exact cr_none | exact cr_go | exact cr_gg | exact trivial | exact cr_bif trivial | exact cr_bif rfl)
def okC (m pc : Nat) : Bool := match I m pc with
  | some e => !(Nat.beq (e.2.2.getD 0 0) 9) && (match e.1 with | .invokevirtual _ => false | .invokestatic _ => false | .invokespecial _ => Nat.beq (e.2.2.getD 0 0) 3 || ctor (e.2.2.getD 1 0) | _ => true)
  | none => true
theorem okC_ge {m pc : Nat} (h : (J m).1 ≤ pc) : okC m pc = true := by
  unfold okC I
  have h1 : Nat.blt pc (J m).1 = false := by
    cases hb : Nat.blt pc (J m).1
    · rfl
    · have := Nat.le_of_ble_eq_true hb; omega
  rw [h1]
  cases Nat.blt m 210 <;> rfl
def okCM (m : Nat) : Bool := (List.range (J m).1).all (okC m)
theorem okC1 : okCM 6 = true := by decide +kernel
theorem okC2 : okCM 13 = true := by decide +kernel
theorem okC3 : okCM 43 = true := by decide +kernel
theorem okC4 : okCM 62 = true := by decide +kernel
theorem okC5 : okCM 101 = true := by decide +kernel
theorem ctor_ok {m : Nat} (h : ctor m = true) (pc : Nat) : okC m pc = true := by
  have lift : okCM m = true → okC m pc = true := fun h => by
    by_cases h1 : (J m).1 ≤ pc
    · exact okC_ge h1
    · exact List.all_eq_true.mp h pc (List.mem_range.mpr (by omega))
  unfold ctor at h
  simp only [Bool.or_eq_true] at h
  rcases h with h | h | h | h | h <;> (have h := Nat.eq_of_beq_eq_true h; subst h)
  · exact lift okC1
  · exact lift okC2
  · exact lift okC3
  · exact lift okC4
  · exact lift okC5
theorem run_ctor {xs : Scr} : ∀ {f m pc : Nat} {L st : List Value} {μ μ' : Mem} {E : Nat}, ctor m = true → run xs f m pc L st μ = some (.inr E, μ') → False := by
  intro f
  induction f with
  | zero => intro m pc L st μ μ' E _ h; simp [run] at h
  | succ f ih =>
    intro m pc L st μ μ' E hm h
    have hok := ctor_ok hm pc
    rw [run] at h
    unfold step at h
    unfold okC at hok
    cases hI : I m pc with
    | none => rw [hI] at h; simp at h
    | some en =>
      obtain ⟨ins, len, aux⟩ := en
      rw [hI] at h hok
      dsimp only at h hok
      have hc := cr_stp (xs := xs) (ins := ins) (n := pc + len) (aux := aux) (L := L) (st := st) (μ := μ)
      have hk := kr_stp (xs := xs) (ins := ins) (n := pc + len) (aux := aux) (L := L) (st := st) (μ := μ)
      cases hs : stp xs ins (pc + len) aux L st μ with
      | none => rw [hs] at h; simp at h
      | some q =>
        obtain ⟨g, r⟩ := q
        rw [hs] at h hc hk
        cases g with
        | false => simp at h
        | true =>
          simp only [cond_true] at h
          rw [Bool.and_eq_true] at hok
          rcases r with ⟨n, L', s', μ'⟩ | ⟨b, t, n, L', s', μ'⟩ | ⟨x, ps, d, L', s', μ'⟩ | v | E' | ⟨y, Lc, n, L', s', μ'⟩
          · exact ih hm h
          · cases b
            · exact ih hm h
            · exact ih hm h
          · exact ih hm h
          · cases h
          · have hc : aux.getD 0 0 = 9 := hc
            have := hok.1
            rw [hc] at this
            cases this
          · have hc : aux.getD 1 0 = y := hc
            have hk : isCl ins := hk
            have hy : ctor y = true := by
              have h2 := hok.2
              cases ins <;> first | exact hk.elim | skip
              · dsimp only at h2
                rw [Bool.or_eq_true] at h2
                rcases h2 with h2 | h2
                · have h3 := Nat.eq_of_beq_eq_true h2
                  exfalso
                  have hs : sCall aux (pc + len) L st μ = _ := hs
                  cases aux with
                  | nil => cases hs
                  | cons kd r =>
                    have h3 : kd = 3 := h3
                    subst h3
                    have hs : (match st with | .ref a :: r => g8 r (Nat.blt a (mN μ)) (pc + len) L r μ | _ => none) = some (true, .inr (.inr (.inr (.inr (.inr (y, Lc, n, L', s', μ')))))) := hs
                    split at hs
                    · have := (inv_bif hs).2
                      unfold gg at this
                      simp only [Option.some.injEq, Prod.mk.injEq, reduceCtorEq, and_false] at this
                    · cases hs
                · rw [hc] at h2; exact h2
              · cases h2
              · cases h2
            dsimp only at h
            cases hr : run xs f y 0 Lc [] μ' with
            | none => rw [hr] at h; simp at h
            | some q =>
              rw [hr] at h
              obtain ⟨ov, μ2⟩ := q
              cases ov with
              | inl v => exact ih hm h
              | inr E2 => exact ih hy hr
theorem hM_static : ∀ y, y < 209 → wM y 4 ≠ 1 → hM y = [] := by decide +kernel
theorem init_ctor : ∀ y, y < 209 → wM y 4 = 2 → ctor y = true := by decide +kernel
end
section
theorem wd_blind {D : va_G} {cA : Nat → ClassId} {n0 b : Nat} {xs : Scr} {μ : Mem} {as : List Value} : FrameBlind (va_Pc as (Wd D cA n0 b xs μ)) := fun a U g mk q => by
  obtain ⟨q0, h1, h2, h3, h4, h5, h6⟩ := q
  exact ⟨q0, h1, h2, va_K.moved (u := U) (U := U.calling g mk a) (Vm.Alike.refl U.vm) h3, h4, Vmf.same (s := U) (U := U.calling g mk a) rfl h5, h6⟩
section Snd6
variable {p : Program} {l : Launch} {e : Env} {R : Room} {s : State} {mid : MethodId} {args : Array Value} {below : List Frame} {meth : Method} {c : Code} {D : va_G} {cA : Nat → ClassId} {n0 b k0 d0 : Nat} {xs : Scr} {m : Nat} {Q : State → Prop}
/-- the heap's size, where it counts -/
theorem size_at {T : State} {H : Heap} {locs : List Loc} {μ : Mem} {slots : Nat} (hn0 : n0 ≤ s.heap.size) (hi : Iv s D cA n0 b k0 μ H locs) (hT : T.heap = H) (X : Stand p l e R s mid args below meth c T locs (mN μ + mX μ - k0) slots) : mX μ = 0 → H.size = n0 + mN μ := by
  intro hN
  obtain ⟨h2, h3⟩ := hi.2.2.2 hN
  have hsz : T.heap.size ≤ s.heap.size + (mN μ + mX μ - k0) := X.same.2.2.1
  rw [hT] at hsz
  have hlow : n0 + mN μ ≤ H.size := by
    cases hm : mN μ with
    | zero => exact Nat.le_trans hn0 hi.2.2.1.1
    | succ k =>
      have := (hi.2.1 k _ (wld_get (n0 := n0) (b := b) (cA := cA) (μ := μ) (a := k) (by omega))).lt
      show n0 + (k + 1) ≤ H.size
      have this : n0 + k < H.size := this
      omega
  omega
theorem wd_at {μ : Mem} {H : Heap} {locs : List Loc} (C : Cx p l s mid args meth c D cA n0 b xs m) (hi : Iv s D cA n0 b k0 μ H locs) (hsz : mX μ = 0 → H.size = n0 + mN μ) : ∀ U : State, U.heap = H → s.WarmedH U.vm → Wd D cA n0 b xs μ U := by
  intro U hU hW
  obtain ⟨-, -, -, -, -, hK, hn0, -, -, -, hV, -⟩ := C
  refine ⟨hi.1, by rw [hU]; exact hi.2.1, va_K.moved hW.alike hK, by rw [hU]; exact Nat.le_trans hn0 hi.2.2.1.1, ?_, by rw [hU]; exact hsz⟩
  rw [hU]
  exact hV.to hW hi.2.2.1.2.1
/-- what the counts of a callee leave -/
def Gr (μ μ' : Mem) : Prop := mN μ ≤ mN μ' ∧ mX μ ≤ mX μ' ∧ mN μ' ≤ NN ∧ (mN μ < mN μ' → mX μ = 0)
theorem iv_after {μ μ2 : Mem} {H H1 : Heap} {locs locs1 : List Loc} (hi : Iv s D cA n0 b k0 μ H locs) (hg : Gr μ μ2) (hP : va_P D vwCl (wld n0 b cA μ2) H1) (hS : va_S (AA n0) s.heap H1 locs1) : Iv s D cA n0 b k0 μ2 H1 locs1 := by
  obtain ⟨g1, g2, g3, g5⟩ := hg
  refine ⟨g3, hP, hS, fun hN => ?_⟩
  obtain ⟨h2, h3⟩ := hi.2.2.2 (by omega)
  exact ⟨h2, by omega⟩
theorem cnt_after {μ μ2 : Mem} (hg : Gr μ μ2) (hk0 : k0 ≤ mN μ + mX μ) (hd0 : d0 ≤ ssum (mN μ) + 6 * mX μ) : mN μ + mX μ - k0 + mcY μ μ2 = mN μ2 + mX μ2 - k0 ∧ ssum (mN μ) + 6 * mX μ - d0 + msY μ μ2 = ssum (mN μ2) + 6 * mX μ2 - d0 ∧ k0 ≤ mN μ2 + mX μ2 ∧ d0 ≤ ssum (mN μ2) + 6 * mX μ2 := by
  obtain ⟨g1, g2, -, -⟩ := hg
  have := ssum_le g1
  unfold mcY msY
  omega
theorem map_toList {v : Option Value} {r : List Value} : (v.map (rv n0 b)).toList ++ r.map (rv n0 b) = (v.toList ++ r).map (rv n0 b) := by cases v <;> rfl
/-- behind a call that returns or throws -/
theorem call_go {pc : Nat} {L' st' : List Value} {μ : Mem} {o : Out × Mem} {H : Heap} {locs : List Loc} {ls : Array Slot} {st0 : List Value} {as : Array Value}
    (hr : vx_Run p l e R s mid args below meth c H locs (mN μ + mX μ - k0) (ssum (mN μ) + 6 * mX μ - d0) (mcY μ o.2) (msY μ o.2) (F0 mid pc ls st0) (st'.map (rv n0 b)) (QcY D cA n0 b o as) (XcY D cA n0 b o) (AA n0))
    (hi : Iv s D cA n0 b k0 μ H locs) (hl : lvx n0 b ls (xM m) L') (hg : Gr μ o.2) (hk0 : k0 ≤ mN μ + mX μ) (hd0 : d0 ≤ ssum (mN μ) + 6 * mX μ)
    (hk : ∀ v, o.1 = .inl v → Gd p l e R s mid args below meth c D cA n0 b k0 d0 m Q (pc + 3) L' (v.toList ++ st') o.2)
    (hx : ∀ E, o.1 = .inr E → 0 < E → E < 4 → ∀ (H : Heap) (locs : List Loc) (q : Addr) (ce : Cell), Iv s D cA n0 b k0 o.2 H locs → H[q]? = some ce → ce.vm = .none → s.vm.findClass (excN E) = some ce.cls → vx_W p l e R s mid args below meth c H locs (mN o.2 + mX o.2 - k0) (ssum (mN o.2) + 6 * mX o.2 - d0) Q (F0 mid pc ls (st'.map (rv n0 b))) q) :
    W p l e R s mid args below meth c H locs (mN μ + mX μ - k0) (ssum (mN μ) + 6 * mX μ - d0) Q (F0 mid pc ls st0) := by
  obtain ⟨c1, c2, -, -⟩ := cnt_after (k0 := k0) (d0 := d0) hg hk0 hd0
  intro T hT X
  rcases hr T hT X with ⟨v, st₀, t, T', Lc, h0, X', hL, e1, e2, ⟨v0, ho, hv, hP, hF⟩, st⟩ | ⟨q, st₀, t, T', Lc, E, ce, h0, X', hL, e1, e2, ⟨k, ho, hk1, hk4, hE, hP, hF⟩, hce, hcv, hcl, st⟩
  · cases hv
    obtain ⟨-, -, k3⟩ := vx_keep h0 e1 hi.2.2.1 (fun q _ h => h) (fun q h => h) hL hF
    rw [← e1] at hP
    rw [c1, c2] at X'
    obtain ⟨t2, a1, b1⟩ := hk v0 ho T'.heap (locs ++ Lc) ls (iv_after hi hg hP k3) hl T' rfl X'
    rw [← map_toList] at a1
    exact ⟨t2, st t2 a1, b1⟩
  · obtain ⟨-, -, k3⟩ := vx_keep h0 e1 hi.2.2.1 (fun q _ h => h) (fun q h => h) hL hF
    rw [← e1] at hP
    rw [c1, c2] at X'
    subst hE
    obtain ⟨t2, a1, b1⟩ := hx k ho hk1 hk4 T'.heap (locs ++ Lc) q ce (iv_after hi hg hP k3) (by rw [e1]; exact hce) hcv hcl T' rfl X'
    exact ⟨t2, st.trans a1, b1⟩
/-- behind a constructor's call -/
theorem init_go {pc : Nat} {L' st' : List Value} {μ : Mem} {o : Out × Mem} {H : Heap} {locs : List Loc} {ls : Array Slot} {st0 : List Value} {as : Array Value}
    (hr : va_Run p l e R s mid args below meth c H locs (mN μ + mX μ - k0) (ssum (mN μ) + 6 * mX μ - d0) (mcY μ o.2) (msY μ o.2) (F0 mid pc ls st0) (st'.map (rv n0 b)) (QcY D cA n0 b o as) (AA n0))
    (hi : Iv s D cA n0 b k0 μ H locs) (hl : lvx n0 b ls (xM m) L') (hg : Gr μ o.2) (hk0 : k0 ≤ mN μ + mX μ) (hd0 : d0 ≤ ssum (mN μ) + 6 * mX μ)
    (hk : ∀ v, o.1 = .inl v → Gd p l e R s mid args below meth c D cA n0 b k0 d0 m Q (pc + 3) L' (v.toList ++ st') o.2) :
    W p l e R s mid args below meth c H locs (mN μ + mX μ - k0) (ssum (mN μ) + 6 * mX μ - d0) Q (F0 mid pc ls st0) := by
  obtain ⟨c1, c2, -, -⟩ := cnt_after (k0 := k0) (d0 := d0) hg hk0 hd0
  intro T hT X
  obtain ⟨v, st₀, t, T', Lc, h0, X', hL, e1, e2, ⟨v0, ho, hv, hP, hF⟩, st⟩ := hr T hT X
  cases hv
  obtain ⟨-, -, k3⟩ := vx_keep h0 e1 hi.2.2.1 (fun q _ h => h) (fun q h => h) hL hF
  rw [← e1] at hP
  rw [c1, c2] at X'
  obtain ⟨t2, a1, b1⟩ := hk v0 ho T'.heap (locs ++ Lc) ls (iv_after hi hg hP k3) hl T' rfl X'
  rw [← map_toList] at a1
  exact ⟨t2, st t2 a1, b1⟩
theorem met_of {y : Nat} {as : List Value} {μ : Mem} {o : Out × Mem} (h : Ctr l D cA n0 b xs y as μ o) (ho : ∀ E, o.1 = .inr E → False) : Met l (yM y) (wsY y) (rmY y (mcY μ o.2) (msY μ o.2)) (va_Pc (as.map (rv n0 b)) (Wd D cA n0 b xs μ)) (QcY D cA n0 b o) (mcY μ o.2) (msY μ o.2) (AA n0) := by
  intro p e ha hc hk s m args below hf happ hP hK
  obtain ⟨n, o', h1, h2, h3, h4⟩ := h p e ha hc hk s m args below hf happ hP hK
  rcases h4 with h4 | ⟨q, hq, E, ce, L, ⟨k, hk, -⟩, -⟩
  · exact ⟨n, o', h1, h2, h3, h4⟩
  · exact (ho k hk).elim
/-- a call, of any kind -/
theorem stp_call (C : Cx p l s mid args meth c D cA n0 b xs m) {pc len n' y : Nat} {Lc : List Value} {ins : Instr} {aux : List Nat} {L st L' st' : List Value} {μ μ' : Mem} (hI : I m pc = some (ins, len, aux))
    (hs : stp xs ins (pc + len) aux L st μ = some (true, .inr (.inr (.inr (.inr (.inr (y, Lc, n', L', st', μ'))))))) (hF : fM m ≤ R.frames ∧ 38 * fM m ≤ R.locals) (hk0 : k0 ≤ mN μ' + mX μ') (hd0 : d0 ≤ ssum (mN μ') + 6 * mX μ') :
    ∃ as : List Value, Lc = pad (argL as) (xM y) ∧ (argL as).length ≤ xM y ∧ y < 209 ∧ ∀ o : Out × Mem, Ctr l D cA n0 b xs y as μ' o → Gr μ' o.2 → Rm R k0 d0 o.2 → (ctor y = true → ∀ E, o.1 = .inr E → False) →
      (∀ v, o.1 = .inl v → Gd p l e R s mid args below meth c D cA n0 b k0 d0 m Q n' L' (v.toList ++ st') o.2) →
      (∀ E, o.1 = .inr E → 0 < E → E < 4 → ∀ (H : Heap) (locs : List Loc) (ls : Array Slot) (q : Addr) (ce : Cell), Iv s D cA n0 b k0 o.2 H locs → lvx n0 b ls (xM m) L' → H[q]? = some ce → ce.vm = .none → s.vm.findClass (excN E) = some ce.cls → vx_W p l e R s mid args below meth c H locs (mN o.2 + mX o.2 - k0) (ssum (mN o.2) + 6 * mX o.2 - d0) Q (F0 mid pc ls (st'.map (rv n0 b))) q) →
      Gd p l e R s mid args below meth c D cA n0 b k0 d0 m Q pc L st μ := by
  have hd : decode (cM m) pc = .ok (ins, len) := (I_ok hI).1
  have hc : chk m pc len ins aux = true := (I_ok hI).2.1
  have C0 := C
  obtain ⟨hx, hb, hml, hown, hts, hK, hn0, -, -, -, hV, -⟩ := C
  have hkk := kr_stp (xs := xs) (ins := ins) (n := pc + len) (aux := aux) (L := L) (st := st) (μ := μ)
  rw [hs] at hkk
  have hk : isCl ins := hkk
  clear hkk
  have hinv : ∀ {g gd : Bool} {y1 ml n1 : Nat} {as L1 r1 : List Value} {μ1 : Mem}, cl g gd y1 as ml n1 L1 r1 μ1 = some (true, .inr (.inr (.inr (.inr (.inr (y, Lc, n', L', st', μ')))))) → gd = true ∧ g = true ∧ y1 = y ∧ pad (argL as) ml = Lc ∧ n1 = n' ∧ L1 = L' ∧ r1 = st' ∧ μ1 = μ' := by
    intro g gd y1 ml n1 as L1 r1 μ1 h
    unfold cl at h
    obtain ⟨h1, h2⟩ := inv_bif h
    simp only [Option.some.injEq, Prod.mk.injEq, Sum.inr.injEq] at h2
    exact ⟨h1, h2.1, h2.2.1, h2.2.2.1, h2.2.2.2.1, h2.2.2.2.2.1, h2.2.2.2.2.2.1, h2.2.2.2.2.2.2⟩
  have gcs : ∀ {na ml : Nat} {as r : List Value}, gC na st as ml r = true → catL r ≤ 8 ∧ (argL as).length ≤ ml ∧ na ≤ st.length := by
    intro na ml as r h
    unfold gC at h
    simp only [Bool.and_eq_true] at h
    exact ⟨Nat.le_of_ble_eq_true h.1, Nat.le_of_ble_eq_true h.2.1, Nat.le_of_ble_eq_true h.2.2⟩
  have hroom : ∀ {pc : Nat} {ls : Array Slot} {r rest : List Value}, catL r ≤ 8 → 2 * (F0 mid pc ls rest).monitorRoom + ((r.map (rv n0 b)).map fun v => v.category).sum ≤ 8 := fun h => lv_room (by rw [cat_sum]; exact h)
  have frm : ∀ {y : Nat}, y < 209 → fM y < fM m → (rmY y 0 0).frames + 1 ≤ R.frames ∧ 8 + (xM y + 11) + (rmY y 0 0).locals ≤ R.locals := by
    intro y hy hlt
    have h1 := (okY_spec hy).2.2.2.2.2.2.2.2
    have := hF.1
    have := hF.2
    show fM y + 1 ≤ R.frames ∧ 8 + (xM y + 11) + 38 * fM y ≤ R.locals
    omega
  cases ins <;> first | exact hk.elim | skip
  case invokevirtual z =>
    unfold chk at hc; dsimp only at hc
    rw [Bool.and_eq_true, Bool.and_eq_true] at hc
    have hlen : len = 3 := Nat.eq_of_beq_eq_true hc.1
    subst hlen
    have h0 := Nat.eq_of_beq_eq_true hc.2.1
    have hc := hc.2.2
    have hs : sCall aux (pc + 3) L st μ = _ := hs
    have shape : ∃ y1 na wl ci ml r, aux = 0 :: y1 :: na :: wl :: ci :: ml :: r := by
      cases aux with
      | nil => cases hs
      | cons kd r => cases r with
        | nil => subst h0; cases hs
        | cons a1 r => cases r with
          | nil => subst h0; cases hs
          | cons a2 r => cases r with
            | nil => subst h0; cases hs
            | cons a3 r => cases r with
              | nil => subst h0; cases hs
              | cons a4 r => cases r with
                | nil => subst h0; cases hs
                | cons a5 r => exact ⟨a1, a2, a3, a4, a5, r, by rw [show kd = 0 from h0]⟩
    obtain ⟨y1, na, wl, ci, ml, r0, rfl⟩ := shape
    have hs : (match st.drop na with | .ref a :: r => cl (gO μ a ci) (gC na st (.ref a :: (st.take na).reverse) ml r) y1 (.ref a :: (st.take na).reverse) ml (pc + 3) L r μ | _ => none) = some (true, .inr (.inr (.inr (.inr (.inr (y, Lc, n', L', st', μ')))))) := hs
    split at hs
    · rename_i a r hdrop
      obtain ⟨q1, q2, q3, q4, q5, q6, q7, q8⟩ := hinv hs
      subst q3; subst q4; subst q5; subst q6; subst q7; subst q8
      have hc : (gw wl (.methodLink (ownM m) z (yM y1)) && (decide (xM y1 = ml) && (decide ((parseMethodDescriptor (yM y1).desc).map (fun d => d.parameters.length) = some na) && (Nat.blt (fM y1) (fM m) && (Nat.blt y1 209 && (Nat.beq (wM y1 4) 0 && (decide ((clsOf ci).1 = (yM y1).cls) && Nat.blt ci 4))))))) = true := hc
      simp only [Bool.and_eq_true, decide_eq_true_eq] at hc
      obtain ⟨w1, w2, w3, w4, w5, w6, w7, w8⟩ := hc
      have w4 := Nat.le_of_ble_eq_true w4
      have w5 := Nat.le_of_ble_eq_true w5
      have w6 := Nat.eq_of_beq_eq_true w6
      have w8 := Nat.le_of_ble_eq_true w8
      subst w2
      obtain ⟨c1, c2, c3⟩ := gcs q1
      obtain ⟨ha, hsh⟩ := gO_spec q2
      refine ⟨.ref a :: (st.take na).reverse, rfl, c2, w5, fun o hCt hg hR hct hk hx' H locs ls hi hl => ?_⟩
      obtain ⟨o1, o2, o3, o4, o5, o6, o7, o8, o9⟩ := okY_spec w5
      have hcode := hM_static y1 w5 (by rw [w6]; decide)
      have hws : wsY y1 = Cond.code (yM y1) (cM y1) (xM y1) (rM y1) :: lw_all := by unfold wsY; rw [hcode]
      have haN := Nat.lt_of_lt_of_le ha hi.1
      have hob := shp_obj a haN (by rw [hsh]; exact w8)
      have hget := wld_get' (n0 := n0) (b := b) (cA := cA) ha (cel_O hsh w8)
      have hst : st.map (rv n0 b) = (((st.take na).reverse).map (rv n0 b)).reverse ++ .ref (adr n0 b a) :: r.map (rv n0 b) := by
        rw [← List.map_reverse, List.reverse_reverse]
        conv => lhs; rw [← List.take_append_drop na st, hdrop, List.map_append, List.map_cons]
        rfl
      have hlen : (((st.take na).reverse).map (rv n0 b)).length = na := by rw [List.length_map, List.length_reverse, List.length_take]; omega
      have hfit : mN μ + mX μ - k0 + mcY μ o.2 ≤ R.cells ∧ ssum (mN μ) + 6 * mX μ - d0 + msY μ o.2 ≤ R.slots := by
        obtain ⟨z1, z2, -, -⟩ := cnt_after (k0 := k0) (d0 := d0) hg hk0 hd0
        rw [z1, z2]; exact ⟨hR.1, hR.2.1⟩
      refine fun T hT X => ?_
      have hsz := size_at hn0 hi hT X
      have hpre := wd_at C0 hi hsz
      obtain ⟨cell, r1, r2, r3⟩ := va_recv hK hi.2.1 (cls_at w8) hget
      refine call_go (as := (Value.ref (adr n0 b a) :: ((st.take na).reverse).map (rv n0 b)).toArray) (vx_runV (C := (clsOf ci).1) (b := adr n0 b a) (As := ((st.take na).reverse).map (rv n0 b)) (Pc := va_Pc ((Value.ref a :: (st.take na).reverse).map (rv n0 b)) (Wd D cA n0 b xs μ)) (Qc := QcY D cA n0 b o) (mc := mcY μ o.2) (ms := msY μ o.2) (n := na) (own := ownM m) (index := z) (y := yM y1) (bytes := cM y1) (maxL := xM y1) (ret := rM y1) (ws := wsY y1) (rm := rmY y1 (mcY μ o.2) (msY μ o.2)) (Ts := lw_all) ⟨hx, hb, hml, hown, hts⟩ hCt (cwV na hts (lw_goodIn ?_) hws rfl rfl ⟨w7.symm, o7, o8, w3⟩ (frm w5 w4)) ⟨wd_blind, ⟨cell, by rw [adr_lt haN]; exact r1, r2, r3⟩, fun U hU hW => ⟨rfl, hpre U hU hW⟩⟩ rfl hlen hl.1 hst (hroom c1) hd hfit) hi hl hg hk0 hd0 hk (fun E he h0 h4 H1 locs1 q ce hi1 h1 h2 h3 => hx' E he h0 h4 H1 locs1 ls q ce hi1 hl h1 h2 h3) T hT X
      intro w hw
      unfold wsV at hw
      rcases List.mem_append.mp hw with hw | hw
      · simp only [List.mem_cons, List.not_mem_nil, or_false] at hw
        rcases hw with rfl | rfl | rfl | rfl
        · exact gw_in w1
        · exact (o4 w6).1
        · rw [w7]; exact (o4 w6).2
        · rw [w7]; exact o3
      · exact o2 w hw
    · cases hs
  case invokestatic z =>
    unfold chk at hc; dsimp only at hc
    rw [Bool.and_eq_true, Bool.and_eq_true] at hc
    have hlen : len = 3 := Nat.eq_of_beq_eq_true hc.1
    subst hlen
    have hkind := hc.2.1
    have hc := hc.2.2
    have hs : sCall aux (pc + 3) L st μ = some (true, .inr (.inr (.inr (.inr (.inr (y, Lc, n', L', st', μ')))))) := hs
    have h0 : aux.getD 0 99 = 1 := by
      rw [Bool.or_eq_true, Bool.and_eq_true] at hkind
      rcases hkind with h | ⟨h1, h2⟩
      · exact Nat.eq_of_beq_eq_true h
      · exfalso
        have h1 := Nat.le_of_ble_eq_true h1
        have h2 := Nat.le_of_ble_eq_true h2
        cases aux with
        | nil => cases hs
        | cons kd r =>
          have h1 : 5 ≤ kd := h1
          have h2 : kd ≤ 8 := h2
          have : kd = 5 ∨ kd = 6 ∨ kd = 7 ∨ kd = 8 := by omega
          rcases this with rfl | rfl | rfl | rfl
          all_goals
            unfold sCall at hs
            split at hs
            all_goals first
              | (rename_i heq; cases heq; done)
              | (split at hs <;> first | (have hs := (inv_bif hs).2; unfold gg at hs; simp only [Option.some.injEq, Prod.mk.injEq, reduceCtorEq, and_false] at hs; done) | cases hs; done)
              | cases hs
    have shape : ∃ y1 na wl ci ml r, aux = 1 :: y1 :: na :: wl :: ci :: ml :: r := by
      cases aux with
      | nil => cases hs
      | cons kd r => cases r with
        | nil => subst h0; cases hs
        | cons a1 r => cases r with
          | nil => subst h0; cases hs
          | cons a2 r => cases r with
            | nil => subst h0; cases hs
            | cons a3 r => cases r with
              | nil => subst h0; cases hs
              | cons a4 r => cases r with
                | nil => subst h0; cases hs
                | cons a5 r => exact ⟨a1, a2, a3, a4, a5, r, by rw [show kd = 1 from h0]⟩
    obtain ⟨y1, na, wl, ci, ml, r0, rfl⟩ := shape
    have hs : cl true (gC na st (st.take na).reverse ml (st.drop na)) y1 (st.take na).reverse ml (pc + 3) L (st.drop na) μ = some (true, .inr (.inr (.inr (.inr (.inr (y, Lc, n', L', st', μ')))))) := hs
    obtain ⟨q1, q2, q3, q4, q5, q6, q7, q8⟩ := hinv hs
    subst q3; subst q4; subst q5; subst q6; subst q7; subst q8
    have hc : (gw wl (.methodLink (ownM m) z (yM y1)) && (decide (xM y1 = ml) && (decide ((parseMethodDescriptor (yM y1).desc).map (fun d => d.parameters.length) = some na) && (Nat.blt (fM y1) (fM m) && (Nat.blt y1 209 && Nat.beq (wM y1 4) 1))))) = true := hc
    simp only [Bool.and_eq_true, decide_eq_true_eq] at hc
    obtain ⟨w1, w2, w3, w4, w5, w6⟩ := hc
    have w4 := Nat.le_of_ble_eq_true w4
    have w5 := Nat.le_of_ble_eq_true w5
    have w6 := Nat.eq_of_beq_eq_true w6
    subst w2
    obtain ⟨c1, c2, c3⟩ := gcs q1
    refine ⟨(st.take na).reverse, rfl, c2, w5, fun o hCt hg hR hct hk hx' H locs ls hi hl => ?_⟩
    obtain ⟨o1, o2, o3, o4, o5, o6, o7, o8, o9⟩ := okY_spec w5
    have hst : st.map (rv n0 b) = (((st.take na).reverse).map (rv n0 b)).reverse ++ (st.drop na).map (rv n0 b) := by
      rw [← List.map_reverse, List.reverse_reverse]
      conv => lhs; rw [← List.take_append_drop na st, List.map_append]
    have hlen : (((st.take na).reverse).map (rv n0 b)).length = na := by rw [List.length_map, List.length_reverse, List.length_take]; omega
    have hfit : mN μ + mX μ - k0 + mcY μ o.2 ≤ R.cells ∧ ssum (mN μ) + 6 * mX μ - d0 + msY μ o.2 ≤ R.slots := by
      obtain ⟨z1, z2, -, -⟩ := cnt_after (k0 := k0) (d0 := d0) hg hk0 hd0
      rw [z1, z2]; exact ⟨hR.1, hR.2.1⟩
    have hgood : GoodIn lw_all (va_wsS (ownM m) z (yM y1) (wsY y1)) := by
      refine lw_goodIn fun w hw => ?_
      unfold va_wsS at hw
      rcases List.mem_append.mp hw with hw | hw
      · simp only [List.mem_cons, List.not_mem_nil, or_false] at hw
        rcases hw with rfl | rfl | rfl
        · exact gw_in w1
        · exact o5 w6
        · exact o3
      · exact o2 w hw
    refine fun T hT X => ?_
    have hsz := size_at hn0 hi hT X
    have hpre := wd_at C0 hi hsz
    cases hh : hM y1 with
    | nil =>
      have hws : wsY y1 = Cond.code (yM y1) (cM y1) (xM y1) (rM y1) :: lw_all := by unfold wsY; rw [hh]
      exact call_go (as := (((st.take na).reverse).map (rv n0 b)).toArray) (vx_runS (As := ((st.take na).reverse).map (rv n0 b)) (Pc := va_Pc (((st.take na).reverse).map (rv n0 b)) (Wd D cA n0 b xs μ)) (Qc := QcY D cA n0 b o) (mc := mcY μ o.2) (ms := msY μ o.2) (n := na) (own := ownM m) (index := z) (y := yM y1) (bytes := cM y1) (maxL := xM y1) (ret := rM y1) (ws := wsY y1) (rm := rmY y1 (mcY μ o.2) (msY μ o.2)) (Ts := lw_all) ⟨hx, hb, hml, hown, hts⟩ hCt (va_cwS na hts hgood hws rfl rfl ⟨o7, o8, w3⟩ (frm w5 w4)) ⟨wd_blind, fun U hU hW => ⟨rfl, hpre U hU hW⟩⟩ rfl hlen hl.1 hst (hroom c1) hd hfit) hi hl hg hk0 hd0 hk (fun E he h0 h4 H1 locs1 q ce hi1 h1 h2 h3 => hx' E he h0 h4 H1 locs1 ls q ce hi1 hl h1 h2 h3) T hT X
    | cons h1 hr =>
      have hws : wsY y1 = Cond.codeWith (yM y1) (cM y1) (xM y1) (rM y1) (h1 :: hr) :: lw_all := by unfold wsY; rw [hh]
      exact call_go (as := (((st.take na).reverse).map (rv n0 b)).toArray) (vx_runSX (As := ((st.take na).reverse).map (rv n0 b)) (Pc := va_Pc (((st.take na).reverse).map (rv n0 b)) (Wd D cA n0 b xs μ)) (Qc := QcY D cA n0 b o) (mc := mcY μ o.2) (ms := msY μ o.2) (n := na) (own := ownM m) (index := z) (y := yM y1) (bytes := cM y1) (maxL := xM y1) (ret := rM y1) (ws := wsY y1) (rm := rmY y1 (mcY μ o.2) (msY μ o.2)) (Ts := lw_all) ⟨hx, hb, hml, hown, hts⟩ hCt (vx_cwSW na hts hgood hws rfl rfl ⟨o7, o8, w3⟩ (frm w5 w4)) ⟨wd_blind, fun U hU hW => ⟨rfl, hpre U hU hW⟩⟩ rfl hlen hl.1 hst (hroom c1) hd hfit) hi hl hg hk0 hd0 hk (fun E he h0 h4 H1 locs1 q ce hi1 h1 h2 h3 => hx' E he h0 h4 H1 locs1 ls q ce hi1 hl h1 h2 h3) T hT X
  case invokespecial z =>
    unfold chk at hc; dsimp only at hc
    rw [Bool.and_eq_true, Bool.and_eq_true] at hc
    have hlen : len = 3 := Nat.eq_of_beq_eq_true hc.1
    subst hlen
    have hs : sCall aux (pc + 3) L st μ = some (true, .inr (.inr (.inr (.inr (.inr (y, Lc, n', L', st', μ')))))) := hs
    have hkind : aux.getD 0 99 = 2 ∨ aux.getD 0 99 = 4 := by
      cases aux with
      | nil => cases hs
      | cons kd r =>
        have h1 := hc.2.1
        simp only [Bool.false_or, Bool.and_eq_true, List.getD_cons_zero] at h1
        have h2 := Nat.le_of_ble_eq_true h1.1
        have h3 := Nat.le_of_ble_eq_true h1.2
        have : kd = 2 ∨ kd = 3 ∨ kd = 4 := by omega
        rcases this with rfl | rfl | rfl
        · exact Or.inl rfl
        · exfalso
          have hs : (match st with | .ref a :: r => g8 r (Nat.blt a (mN μ)) (pc + 3) L r μ | _ => none) = some (true, .inr (.inr (.inr (.inr (.inr (y, Lc, n', L', st', μ')))))) := hs
          split at hs
          · have hs := (inv_bif hs).2
            unfold gg at hs
            simp only [Option.some.injEq, Prod.mk.injEq, reduceCtorEq, and_false] at hs
          · cases hs
        · exact Or.inr rfl
    have hc := hc.2.2
    rcases hkind with h0 | h0
    · have shape : ∃ y1 na wl ci ml r, aux = 2 :: y1 :: na :: wl :: ci :: ml :: r := by
        cases aux with
        | nil => cases hs
        | cons kd r => cases r with
          | nil => subst h0; cases hs
          | cons a1 r => cases r with
            | nil => subst h0; cases hs
            | cons a2 r => cases r with
              | nil => subst h0; cases hs
              | cons a3 r => cases r with
                | nil => subst h0; cases hs
                | cons a4 r => cases r with
                  | nil => subst h0; cases hs
                  | cons a5 r => exact ⟨a1, a2, a3, a4, a5, r, by rw [show kd = 2 from h0]⟩
      obtain ⟨y1, na, wl, ci, ml, r0, rfl⟩ := shape
      have hs : (match st.drop na with | .ref a :: r => cl (gO μ a ci) (gC na st (.ref a :: (st.take na).reverse) ml r) y1 (.ref a :: (st.take na).reverse) ml (pc + 3) L r μ | _ => none) = some (true, .inr (.inr (.inr (.inr (.inr (y, Lc, n', L', st', μ')))))) := hs
      split at hs
      · rename_i a r hdrop
        obtain ⟨q1, q2, q3, q4, q5, q6, q7, q8⟩ := hinv hs
        subst q3; subst q4; subst q5; subst q6; subst q7; subst q8
        have hc : (gw wl (.methodLink (ownM m) z (yM y1)) && (decide (xM y1 = ml) && (decide ((parseMethodDescriptor (yM y1).desc).map (fun d => d.parameters.length) = some na) && (Nat.blt (fM y1) (fM m) && (Nat.blt y1 209 && (Nat.beq (wM y1 4) 2 && (decide ((clsOf ci).1 = (yM y1).cls) && Nat.blt ci 4))))))) = true := hc
        simp only [Bool.and_eq_true, decide_eq_true_eq] at hc
        obtain ⟨w1, w2, w3, w4, w5, w6, w7, w8⟩ := hc
        have w4 := Nat.le_of_ble_eq_true w4
        have w5 := Nat.le_of_ble_eq_true w5
        have w6 := Nat.eq_of_beq_eq_true w6
        have w8 := Nat.le_of_ble_eq_true w8
        subst w2
        obtain ⟨c1, c2, c3⟩ := gcs q1
        obtain ⟨ha, hsh⟩ := gO_spec q2
        refine ⟨.ref a :: (st.take na).reverse, rfl, c2, w5, fun o hCt hg hR hct hk hx' H locs ls hi hl => ?_⟩
        obtain ⟨o1, o2, o3, o4, o5, o6, o7, o8, o9⟩ := okY_spec w5
        have hcode := hM_static y1 w5 (by rw [w6]; decide)
        have hws : wsY y1 = Cond.code (yM y1) (cM y1) (xM y1) (rM y1) :: lw_all := by unfold wsY; rw [hcode]
        have haN := Nat.lt_of_lt_of_le ha hi.1
        have hob := shp_obj a haN (by rw [hsh]; exact w8)
        have hget := wld_get' (n0 := n0) (b := b) (cA := cA) ha (cel_O hsh w8)
        have hst : st.map (rv n0 b) = (((st.take na).reverse).map (rv n0 b)).reverse ++ .ref (adr n0 b a) :: r.map (rv n0 b) := by
          rw [← List.map_reverse, List.reverse_reverse]
          conv => lhs; rw [← List.take_append_drop na st, hdrop, List.map_append, List.map_cons]
          rfl
        have hlen : (((st.take na).reverse).map (rv n0 b)).length = na := by rw [List.length_map, List.length_reverse, List.length_take]; omega
        have hfit : mN μ + mX μ - k0 + mcY μ o.2 ≤ R.cells ∧ ssum (mN μ) + 6 * mX μ - d0 + msY μ o.2 ≤ R.slots := by
          obtain ⟨z1, z2, -, -⟩ := cnt_after (k0 := k0) (d0 := d0) hg hk0 hd0
          rw [z1, z2]; exact ⟨hR.1, hR.2.1⟩
        refine fun T hT X => ?_
        have hsz := size_at hn0 hi hT X
        have hpre := wd_at C0 hi hsz
        have hgood : GoodIn lw_all (wsY y1) := lw_goodIn o2
        exact init_go (as := (Value.ref (adr n0 b a) :: ((st.take na).reverse).map (rv n0 b)).toArray) (va_runI (b := adr n0 b a) (As := ((st.take na).reverse).map (rv n0 b)) (Pc := va_Pc ((Value.ref a :: (st.take na).reverse).map (rv n0 b)) (Wd D cA n0 b xs μ)) (Qc := QcY D cA n0 b o) (mc := mcY μ o.2) (ms := msY μ o.2) (n := na) (own := ownM m) (index := z) (y := yM y1) (bytes := cM y1) (maxL := xM y1) (ws := wsY y1) (rm := rmY y1 (mcY μ o.2) (msY μ o.2)) (Ts := lw_all) ⟨hx, hb, hml, hown, hts⟩ (met_of hCt (hct (init_ctor y1 w5 w6))) (cwI na hts hgood (by rw [hws, (o6 w6).2.2]) rfl rfl (hts _ o3) (in_code hts w1) (hts _ (o6 w6).1) (o6 w6).2.1 ⟨o7, o8, w3⟩ (frm w5 w4)) ⟨wd_blind, fun U hU hW => ⟨rfl, hpre U hU hW⟩⟩ rfl hlen hl.1 hst (hroom c1) hd hfit) hi hl hg hk0 hd0 hk T hT X
      · cases hs
    · have shape : ∃ y1 na wl ci ml r, aux = 4 :: y1 :: na :: wl :: ci :: ml :: r := by
        cases aux with
        | nil => cases hs
        | cons kd r => cases r with
          | nil => subst h0; cases hs
          | cons a1 r => cases r with
            | nil => subst h0; cases hs
            | cons a2 r => cases r with
              | nil => subst h0; cases hs
              | cons a3 r => cases r with
                | nil => subst h0; cases hs
                | cons a4 r => cases r with
                  | nil => subst h0; cases hs
                  | cons a5 r => exact ⟨a1, a2, a3, a4, a5, r, by rw [show kd = 4 from h0]⟩
      obtain ⟨y1, na, wl, ci, ml, r0, rfl⟩ := shape
      have hs : (match st.drop na with | .ref a :: r => cl (gO μ a ci) (gC na st (.ref a :: (st.take na).reverse) ml r) y1 (.ref a :: (st.take na).reverse) ml (pc + 3) L r μ | _ => none) = some (true, .inr (.inr (.inr (.inr (.inr (y, Lc, n', L', st', μ')))))) := hs
      split at hs
      · rename_i a r hdrop
        obtain ⟨q1, q2, q3, q4, q5, q6, q7, q8⟩ := hinv hs
        subst q3; subst q4; subst q5; subst q6; subst q7; subst q8
        have hc : (nw (.methodLinkNest (ownM m) z (yM y1) "AlibiWindow") && (decide (xM y1 = ml) && (decide ((parseMethodDescriptor (yM y1).desc).map (fun d => d.parameters.length) = some na) && (Nat.blt (fM y1) (fM m) && (Nat.blt y1 209 && (Nat.beq (wM y1 4) 2 && (decide ((clsOf ci).1 = (yM y1).cls) && Nat.blt ci 4))))))) = true := hc
        simp only [Bool.and_eq_true, decide_eq_true_eq] at hc
        obtain ⟨w1, w2, w3, w4, w5, w6, w7, w8⟩ := hc
        have w4 := Nat.le_of_ble_eq_true w4
        have w5 := Nat.le_of_ble_eq_true w5
        have w6 := Nat.eq_of_beq_eq_true w6
        have w8 := Nat.le_of_ble_eq_true w8
        subst w2
        obtain ⟨c1, c2, c3⟩ := gcs q1
        obtain ⟨ha, hsh⟩ := gO_spec q2
        refine ⟨.ref a :: (st.take na).reverse, rfl, c2, w5, fun o hCt hg hR hct hk hx' H locs ls hi hl => ?_⟩
        obtain ⟨o1, o2, o3, o4, o5, o6, o7, o8, o9⟩ := okY_spec w5
        have hcode := hM_static y1 w5 (by rw [w6]; decide)
        have hws : wsY y1 = Cond.code (yM y1) (cM y1) (xM y1) (rM y1) :: lw_all := by unfold wsY; rw [hcode]
        have haN := Nat.lt_of_lt_of_le ha hi.1
        have hob := shp_obj a haN (by rw [hsh]; exact w8)
        have hget := wld_get' (n0 := n0) (b := b) (cA := cA) ha (cel_O hsh w8)
        have hst : st.map (rv n0 b) = (((st.take na).reverse).map (rv n0 b)).reverse ++ .ref (adr n0 b a) :: r.map (rv n0 b) := by
          rw [← List.map_reverse, List.reverse_reverse]
          conv => lhs; rw [← List.take_append_drop na st, hdrop, List.map_append, List.map_cons]
          rfl
        have hlen : (((st.take na).reverse).map (rv n0 b)).length = na := by rw [List.length_map, List.length_reverse, List.length_take]; omega
        have hfit : mN μ + mX μ - k0 + mcY μ o.2 ≤ R.cells ∧ ssum (mN μ) + 6 * mX μ - d0 + msY μ o.2 ≤ R.slots := by
          obtain ⟨z1, z2, -, -⟩ := cnt_after (k0 := k0) (d0 := d0) hg hk0 hd0
          rw [z1, z2]; exact ⟨hR.1, hR.2.1⟩
        refine fun T hT X => ?_
        have hsz := size_at hn0 hi hT X
        have hpre := wd_at C0 hi hsz
        have hgood : GoodIn lw_all (wsY y1) := lw_goodIn o2
        have hnest : va_Nw (.methodLinkNest (ownM m) z (yM y1) "AlibiWindow") s := by
          unfold nw at w1
          exact hV.2.1 _ (of_decide_eq_true w1)
        exact init_go (as := (Value.ref (adr n0 b a) :: ((st.take na).reverse).map (rv n0 b)).toArray) (va_runIN (b := adr n0 b a) (As := ((st.take na).reverse).map (rv n0 b)) (Pc := va_Pc ((Value.ref a :: (st.take na).reverse).map (rv n0 b)) (Wd D cA n0 b xs μ)) (Qc := QcY D cA n0 b o) (mc := mcY μ o.2) (ms := msY μ o.2) (n := na) (own := ownM m) (index := z) (y := yM y1) (bytes := cM y1) (maxL := xM y1) (ws := wsY y1) (rm := rmY y1 (mcY μ o.2) (msY μ o.2)) (Ts := lw_all) ⟨hx, hb, hml, hown, hts⟩ (met_of hCt (hct (init_ctor y1 w5 w6))) ⟨va_cnB na hts hgood (by rw [hws, (o6 w6).2.2]) rfl rfl hnest (hts _ o3) ⟨o7, o8, w3⟩ (frm w5 w4), (o6 w6).2.1, hts _ (o6 w6).1⟩ ⟨wd_blind, fun U hU hW => ⟨rfl, hpre U hU hW⟩⟩ rfl hlen hl.1 hst (hroom c1) hd hfit) hi hl hg hk0 hd0 hk T hT X
      · cases hs
end Snd6
end
section
/-! handlers: their rows, and what the tables say of them -/
def zc (m : Nat) : List (Nat × Nat × Nat × Nat) → List (Nat × Nat × Nat × Nat × Nat × Nat) → Bool
  | [], [] => true
  | h :: hs, r :: rs => Nat.beq h.1 r.2.1 && (Nat.beq h.2.1 r.2.2.1 && (!Nat.beq h.2.2.2 0 && (Nat.blt 0 r.2.2.2.1 && (Nat.blt r.2.2.2.1 4 && (hasW (.classLink (ownM m) h.2.2.2 (excN r.2.2.2.1)) && (true && (Nat.blt r.2.2.2.2.2 (xM m) && ((match I m h.2.2.1 with | some (.astore_n k, len, _) => Nat.beq k r.2.2.2.2.2 && Nat.beq (h.2.2.1 + len) r.2.2.2.2.1 | some (.astore k, len, _) => Nat.beq k r.2.2.2.2.2 && Nat.beq (h.2.2.1 + len) r.2.2.2.2.1 | _ => false) && zc m hs rs))))))))
  | _, _ => false
theorem zc_all : (List.range 210).all (fun m => zc m (hM m) (hRow m)) = true := by decide +kernel
theorem zc_at {m : Nat} (h : m < 210) : zc m (hM m) (hRow m) = true := List.all_eq_true.mp zc_all m (List.mem_range.mpr h)
theorem hasW_in {w : Jvm.Cond} (h : hasW w = true) : w ∈ lw_all := by
  unfold hasW at h
  rw [Bool.and_eq_true, decide_eq_true_eq] at h
  exact List.mem_filter.mpr h
theorem cov_iff {h : Nat × Nat × Nat × Nat} {pc : Nat} : covers ⟨h.1, h.2.1, h.2.2.1, h.2.2.2⟩ pc = (Nat.ble h.1 pc && Nat.blt pc h.2.1) := by
  unfold covers
  rw [Bool.eq_iff_iff]
  simp only [Bool.and_eq_true, decide_eq_true_eq]
  constructor
  · rintro ⟨h1, h2⟩; exact ⟨Nat.ble_eq_true_of_le h1, Nat.ble_eq_true_of_le h2⟩
  · rintro ⟨h1, h2⟩; exact ⟨Nat.le_of_ble_eq_true h1, Nat.le_of_ble_eq_true h2⟩
/-- the row that catches, or that none does -/
theorem zc_find {m pc E : Nat} {s : State} {args : Array Value} (hts : ∀ w ∈ lw_all, w.before args s = true) (hNc : ∀ E E' : Nat, 0 < E → E < 4 → 0 < E' → E' < 4 → E ≠ E' → va_Nc (excN E) (excN E') s) (hCa : va_Nw (.castable (excN E) (excN E)) s) (h0 : 0 < E) (h4 : E < 4) :
    ∀ (hs : List (Nat × Nat × Nat × Nat)) (rs : List (Nat × Nat × Nat × Nat × Nat × Nat)), zc m hs rs = true →
      (match rs.find? (fun r => Nat.ble r.2.1 pc && (Nat.blt pc r.2.2.1 && Nat.beq r.2.2.2.1 E)) with
      | none => ∀ z ∈ tableOf hs, covers z pc = false ∨ (z.catchType ≠ 0 ∧ ∃ nm : String, (Cond.classLink (ownM m) z.catchType nm).before args s = true ∧ va_Nc (excN E) nm s)
      | some r => ∃ (pre : List ExceptionTableEntry) (x : ExceptionTableEntry) (suf : List ExceptionTableEntry), tableOf hs = pre ++ x :: suf ∧ (∀ z ∈ pre, covers z pc = false ∨ (z.catchType ≠ 0 ∧ ∃ nm : String, (Cond.classLink (ownM m) z.catchType nm).before args s = true ∧ va_Nc (excN E) nm s)) ∧ covers x pc = true ∧ x.catchType ≠ 0 ∧ (Cond.classLink (ownM m) x.catchType (excN E)).before args s = true ∧ (Cond.castable (excN E) (excN E)).before args s = true ∧ r.2.2.2.2.2 < xM m ∧
          ∃ (len : Nat) (aux : List Nat), ((∃ k : Fin 4, (k : Nat) = r.2.2.2.2.2 ∧ I m x.handlerPc = some (.astore_n k, len, aux)) ∨ I m x.handlerPc = some (.astore r.2.2.2.2.2, len, aux)) ∧ x.handlerPc + len = r.2.2.2.2.1) := by
  intro hs
  induction hs with
  | nil =>
    intro rs h
    cases rs with
    | nil => exact fun z hz => by cases hz
    | cons r rs => cases h
  | cons h hs ih =>
    intro rs hz
    cases rs with
    | nil => cases hz
    | cons r rs =>
      unfold zc at hz
      simp only [Bool.and_eq_true, true_and] at hz
      obtain ⟨z1, z2, z3, z4, z5, z6, z8, z9, z10⟩ := hz
      have z1 := Nat.eq_of_beq_eq_true z1
      have z2 := Nat.eq_of_beq_eq_true z2
      have z3 : h.2.2.2 ≠ 0 := fun q => by rw [q] at z3; cases z3
      have z4 := Nat.le_of_ble_eq_true z4
      have z5 := Nat.le_of_ble_eq_true z5
      have z8 := Nat.le_of_ble_eq_true z8
      have ih := ih rs z10
      have hcov := cov_iff (h := h) (pc := pc)
      have htab : tableOf (h :: hs) = ⟨h.1, h.2.1, h.2.2.1, h.2.2.2⟩ :: tableOf hs := rfl
      rw [List.find?_cons]
      cases hb : (Nat.ble r.2.1 pc && (Nat.blt pc r.2.2.1 && Nat.beq r.2.2.2.1 E)) with
      | true =>
        dsimp only
        simp only [Bool.and_eq_true] at hb
        have hE := Nat.eq_of_beq_eq_true hb.2.2
        rw [htab]
        refine ⟨[], _, tableOf hs, rfl, (fun z hz => by cases hz), ?_, z3, ?_, ?_, z8, ?_⟩
        · rw [hcov, z1, z2, hb.1, hb.2.1, Bool.and_self]
        · rw [← hE]; exact hts _ (hasW_in z6)
        · exact va_Nw.use rfl hCa
        · cases hI : I m h.2.2.1 with
          | none => rw [hI] at z9; cases z9
          | some e =>
            obtain ⟨ins, len, aux⟩ := e
            rw [hI] at z9
            cases ins <;> first | (cases z9; done) | skip
            · dsimp only at z9
              rw [Bool.and_eq_true] at z9
              exact ⟨len, aux, Or.inr (by rw [← Nat.eq_of_beq_eq_true z9.1]), Nat.eq_of_beq_eq_true z9.2⟩
            · dsimp only at z9
              rw [Bool.and_eq_true] at z9
              exact ⟨len, aux, Or.inl ⟨_, Nat.eq_of_beq_eq_true z9.1, rfl⟩, Nat.eq_of_beq_eq_true z9.2⟩
      | false =>
        dsimp only
        have hpass : covers (⟨h.1, h.2.1, h.2.2.1, h.2.2.2⟩ : ExceptionTableEntry) pc = false ∨ ((⟨h.1, h.2.1, h.2.2.1, h.2.2.2⟩ : ExceptionTableEntry).catchType ≠ 0 ∧ ∃ nm : String, (Cond.classLink (ownM m) (⟨h.1, h.2.1, h.2.2.1, h.2.2.2⟩ : ExceptionTableEntry).catchType nm).before args s = true ∧ va_Nc (excN E) nm s) := by
          by_cases hc : covers (⟨h.1, h.2.1, h.2.2.1, h.2.2.2⟩ : ExceptionTableEntry) pc = true
          · refine Or.inr ⟨z3, excN r.2.2.2.1, hts _ (hasW_in z6), hNc E _ h0 h4 z4 z5 fun q => ?_⟩
            rw [hcov, z1, z2, Bool.and_eq_true] at hc
            rw [hc.1, hc.2, ← q] at hb
            simp at hb
          · exact Or.inl (by simpa using hc)
        rw [htab]
        cases hf : rs.find? (fun r => Nat.ble r.2.1 pc && (Nat.blt pc r.2.2.1 && Nat.beq r.2.2.2.1 E)) with
        | none =>
          rw [hf] at ih
          exact fun z hz => (List.mem_cons.mp hz).elim (fun q => q ▸ hpass) (ih z)
        | some r1 =>
          rw [hf] at ih
          obtain ⟨pre, x, suf, e1, e2, e3⟩ := ih
          exact ⟨_ :: pre, x, suf, by rw [e1]; rfl, fun z hz => (List.mem_cons.mp hz).elim (fun q => q ▸ hpass) (e2 z), e3⟩
theorem lvx_drop {n0 b n : Nat} {ls ls' : Array Slot} {L : List Value} {i : Nat} {x : Value} (h : lvx n0 b ls n L) (h' : lv_has ls' n ((i, x) :: (asl n0 b L).filter (fun q => !(q.1 == i) && !(q.1 + 1 == i && q.2.category == 2)))) : lvx n0 b ls' n (st1 L i .null) := by
  refine ⟨h'.1, by rw [st1_len]; exact h.2.1, h'.2.1, fun j w hj hw => ?_⟩
  rcases st1_get hj hw with ⟨rfl, rfl⟩ | ⟨h1, h2, h3⟩
  · exact absurd rfl hw
  · refine h'.2.2 (j, rv n0 b w) (List.mem_cons_of_mem _ (List.mem_filter.mpr ⟨asl_mem.mpr ⟨w, h2, hw, rfl⟩, ?_⟩))
    simp only [Bool.and_eq_true, Bool.not_eq_true', beq_eq_false_iff_ne, ne_eq, Bool.and_eq_false_iff, rv_cat]
    refine ⟨h1, ?_⟩
    by_cases hh : j + 1 = i
    · exact Or.inr fun q => h3 ⟨hh, q⟩
    · exact Or.inl hh
section Snd7
variable {p : Program} {l : Launch} {e : Env} {R : Room} {s : State} {mid : MethodId} {args : Array Value} {below : List Frame} {meth : Method} {c : Code} {D : va_G} {cA : Nat → ClassId} {n0 b k0 d0 : Nat} {xs : Scr} {m : Nat} {Q : State → Prop}
/-- an exception that is caught here -/
theorem catch_go (C : Cx p l s mid args meth c D cA n0 b xs m) (hm : m < 210) {pc E p' kk : Nat} {L r : List Value} {μ : Mem} {H : Heap} {locs : List Loc} {ls : Array Slot} {q : Addr} {ce : Cell} (hh : hnd m pc E = some (p', kk)) (h0 : 0 < E) (h4 : E < 4) (hi : Iv s D cA n0 b k0 μ H locs) (hl : lvx n0 b ls (xM m) L) (h1 : H[q]? = some ce) (h2 : ce.vm = .none) (h3 : s.vm.findClass (excN E) = some ce.cls) (k : Gd p l e R s mid args below meth c D cA n0 b k0 d0 m Q p' (st1 L kk .null) [] μ) :
    vx_W p l e R s mid args below meth c H locs (mN μ + mX μ - k0) (ssum (mN μ) + 6 * mX μ - d0) Q (F0 mid pc ls (r.map (rv n0 b))) q := by
  obtain ⟨hx, hb, hml, hown, hts, hK, hn0, -, -, -, hV, -, htab, -⟩ := C
  have hz := zc_find (pc := pc) (E := E) (m := m) hts hV.2.2.2.2.2.1 (hV.2.2.2.2.2.2.1 E h0 h4) h0 h4 (hM m) (hRow m) (zc_at hm)
  unfold hnd at hh
  cases hf : (hRow m).find? (fun r => Nat.ble r.2.1 pc && (Nat.blt pc r.2.2.1 && Nat.beq r.2.2.2.1 E)) with
  | none => rw [hf] at hh; cases hh
  | some r1 =>
    rw [hf] at hh hz
    cases hh
    obtain ⟨pre, x, suf, e1, e2, e3, e4, e5, e6, e7, len, aux, e8, e9⟩ := hz
    refine vx_catch hown pre x suf (by rw [htab]; exact e1) e2 e3 e4 e5 e6 h1 h2 h3 ?_
    rcases e8 with ⟨kf, hkf, hI⟩ | hI
    · have hd : decode (cM m) x.handlerPc = .ok (.astore_n kf, len) := (I_ok hI).1
      have hc : chk m x.handlerPc len (.astore_n kf) aux = true := (I_ok hI).2.1
      unfold chk at hc; dsimp only at hc; rw [Bool.and_eq_true] at hc
      have hlen : len = 1 := Nat.eq_of_beq_eq_true hc.1
      subst hlen
      refine lv_astore_n hx hb hd hkf (lvx_has hl) e7 rfl (fun ls' h' => ?_)
      have := k H locs ls' hi (lvx_drop hl h')
      rw [← e9] at this
      exact this
    · have hd : decode (cM m) x.handlerPc = .ok (.astore r1.2.2.2.2.2, len) := (I_ok hI).1
      have hc : chk m x.handlerPc len (.astore r1.2.2.2.2.2) aux = true := (I_ok hI).2.1
      unfold chk at hc; dsimp only at hc; rw [Bool.and_eq_true] at hc
      have hlen : len = 2 := Nat.eq_of_beq_eq_true hc.1
      subst hlen
      refine lv_astore hx hb hd (lvx_has hl) e7 rfl (fun ls' h' => ?_)
      have := k H locs ls' hi (lvx_drop hl h')
      rw [← e9] at this
      exact this
end Snd7
end
section
section Snd8
variable {p : Program} {l : Launch} {e : Env} {R : Room} {s : State} {mid : MethodId} {args : Array Value} {below : List Frame} {meth : Method} {c : Code} {D : va_G} {cA : Nat → ClassId} {n0 b k0 d0 : Nat} {xs : Scr} {m : Nat} {Q : State → Prop}
def EndOK (p : Program) (l : Launch) (e : Env) (R : Room) (s : State) (mid : MethodId) (args : Array Value) (below : List Frame) (meth : Method) (c : Code) (D : va_G) (cA : Nat → ClassId) (n0 b k0 d0 : Nat) (xs : Scr) (m : Nat) (Q : State → Prop) (o : Out × Mem) : Prop :=
  ∀ (pc len : Nat) (ins : Instr) (aux : List Nat) (L st : List Value) (v : Option Value) (H : Heap) (locs : List Loc) (ls : Array Slot), I m pc = some (ins, len, aux) → stp xs ins (pc + len) aux L st o.2 = some (true, .inr (.inr (.inr (.inl v)))) → o.1 = .inl v → Iv s D cA n0 b k0 o.2 H locs → lvx n0 b ls (xM m) L → W p l e R s mid args below meth c H locs (mN o.2 + mX o.2 - k0) (ssum (mN o.2) + 6 * mX o.2 - d0) Q (F0 mid pc ls (st.map (rv n0 b)))
def ThrOK (p : Program) (l : Launch) (e : Env) (R : Room) (s : State) (mid : MethodId) (args : Array Value) (below : List Frame) (meth : Method) (c : Code) (D : va_G) (cA : Nat → ClassId) (n0 b k0 d0 : Nat) (xs : Scr) (m : Nat) (Q : State → Prop) (o : Out × Mem) : Prop :=
  ∀ (pc len : Nat) (ins : Instr) (aux : List Nat) (L st : List Value) (E : Nat) (μ : Mem) (H : Heap) (locs : List Loc) (ls : Array Slot), I m pc = some (ins, len, aux) → stp xs ins (pc + len) aux L st μ = some (true, .inr (.inr (.inr (.inr (.inl E))))) → o = (.inr E, excM μ) → Iv s D cA n0 b k0 μ H locs → lvx n0 b ls (xM m) L → k0 ≤ mN μ + mX μ → d0 ≤ ssum (mN μ) + 6 * mX μ → W p l e R s mid args below meth c H locs (mN μ + mX μ - k0) (ssum (mN μ) + 6 * mX μ - d0) Q (F0 mid pc ls (st.map (rv n0 b)))
def PrpOK (p : Program) (l : Launch) (e : Env) (R : Room) (s : State) (mid : MethodId) (args : Array Value) (below : List Frame) (meth : Method) (c : Code) (D : va_G) (cA : Nat → ClassId) (n0 b k0 d0 : Nat) (xs : Scr) (m : Nat) (Q : State → Prop) (o : Out × Mem) : Prop :=
  ∀ (pc E : Nat) (st : List Value) (H : Heap) (locs : List Loc) (ls : Array Slot) (q : Addr) (ce : Cell), o.1 = .inr E → 0 < E → E < 4 → hnd m pc E = none → Iv s D cA n0 b k0 o.2 H locs → H[q]? = some ce → ce.vm = .none → s.vm.findClass (excN E) = some ce.cls → vx_W p l e R s mid args below meth c H locs (mN o.2 + mX o.2 - k0) (ssum (mN o.2) + 6 * mX o.2 - d0) Q (F0 mid pc ls (st.map (rv n0 b))) q
/-- a run whose callees keep their contracts -/
theorem run_snd {f : Nat} (ihc : ∀ (y : Nat) (as : List Value) (μ : Mem) (o : Out × Mem), y < 209 → (argL as).length ≤ xM y → run xs f y 0 (pad (argL as) (xM y)) [] μ = some o → mN μ ≤ NN → Ctr l D cA n0 b xs y as μ o) (C : Cx p l s mid args meth c D cA n0 b xs m) (hm : m < 210) (hF : fM m ≤ R.frames ∧ 38 * fM m ≤ R.locals) :
    ∀ {f' pc : Nat} {L st : List Value} {μ : Mem} {o : Out × Mem}, f' ≤ f + 1 → run xs f' m pc L st μ = some o → mN μ ≤ NN → k0 ≤ mN μ + mX μ → d0 ≤ ssum (mN μ) + 6 * mX μ → Rm R k0 d0 o.2 → EndOK p l e R s mid args below meth c D cA n0 b k0 d0 xs m Q o → ThrOK p l e R s mid args below meth c D cA n0 b k0 d0 xs m Q o → PrpOK p l e R s mid args below meth c D cA n0 b k0 d0 xs m Q o → Gd p l e R s mid args below meth c D cA n0 b k0 d0 m Q pc L st μ := by
  intro f'
  induction f' with
  | zero => intro pc L st μ o _ h; simp [run] at h
  | succ f' ih =>
    intro pc L st μ o hle h hN hk0 hd0 hR hE hT hPr
    have hle' : f' ≤ f + 1 := by omega
    have hgr := gq_step (xs := xs) (m := m) (pc := pc) (L := L) (st := st) (μ := μ)
    have hgw := run_grow h hN
    rw [run] at h
    cases hI : I m pc with
    | none => unfold step at h; rw [hI] at h; simp at h
    | some en =>
      obtain ⟨ins, len, aux⟩ := en
      have hstep : step xs m pc L st μ = stp xs ins (pc + len) aux L st μ := by unfold step; rw [hI]
      rw [hstep] at h hgr
      have mono : ∀ {μ' : Mem}, grw μ μ' → k0 ≤ mN μ' + mX μ' ∧ d0 ≤ ssum (mN μ') + 6 * mX μ' ∧ mN μ' ≤ NN := by
        rintro μ' ⟨a1, a2⟩
        rcases a2 with a2 | ⟨a2, a3, -⟩
        · rw [a1, a2]; exact ⟨hk0, hd0, hN⟩
        · rw [a1, a2]
          have : ssum (mN μ + 1) = ssum (mN μ) + (shp (mN μ)).2 := rfl
          exact ⟨by omega, by omega, a3⟩
      cases hs : stp xs ins (pc + len) aux L st μ with
      | none => rw [hs] at h; simp at h
      | some q =>
        obtain ⟨g, r⟩ := q
        rw [hs] at h hgr
        cases g with
        | false => simp at h
        | true =>
          simp only [cond_true] at h
          have hgr := hgr rfl
          rcases r with ⟨n, L', s', μ'⟩ | ⟨bb, t, n, L', s', μ'⟩ | ⟨x, ps, d, L', s', μ'⟩ | v | E | ⟨y, Lc, n, L', s', μ'⟩
          · have hgr : grw μ μ' := hgr
            obtain ⟨m1, m2, m3⟩ := mono hgr
            have hgw' := run_grow h m3
            refine stp_go C hI hs ?_ hk0 hd0 hF (ih hle' h m3 m1 m2 hR hE hT hPr)
            have := ssum_le hgw'.1
            exact ⟨by have := hR.1; have := hgw'.1; have := hgw'.2.1; omega, by have := hR.2.1; have := hgw'.1; have := hgw'.2.1; omega, m1, m2⟩
          · have hgr : grw μ μ' := hgr
            obtain ⟨m1, m2, m3⟩ := mono hgr
            refine stp_br C hI hs (fun hb => ?_) (fun hb => ?_)
            · rw [hb] at h; exact ih hle' h m3 m1 m2 hR hE hT hPr
            · rw [hb] at h; exact ih hle' h m3 m1 m2 hR hE hT hPr
          · have hgr : grw μ μ' := hgr
            obtain ⟨m1, m2, m3⟩ := mono hgr
            exact stp_sw C hI hs (ih hle' h m3 m1 m2 hR hE hT hPr)
          · cases h
            exact fun H locs ls hi hl => hE pc len ins aux L st v H locs ls hI hs rfl hi hl
          · cases h
            exact fun H locs ls hi hl => hT pc len ins aux L st E μ H locs ls hI hs rfl hi hl hk0 hd0
          · dsimp only at h hgr
            obtain ⟨m1, m2, m3⟩ := mono hgr
            obtain ⟨as, hLc, hlen, hy, key⟩ := stp_call C hI hs hF m1 m2
            subst hLc
            cases hc : run xs f' y 0 (pad (argL as) (xM y)) [] μ' with
            | none => rw [hc] at h; simp at h
            | some q =>
              obtain ⟨ov, μ2⟩ := q
              rw [hc] at h
              have hg2 := run_grow hc m3
              have hg2' : Gr μ' μ2 := hg2
              obtain ⟨-, -, n1, n2⟩ := cnt_after (k0 := k0) (d0 := d0) hg2' m1 m2
              have hR2 : mN μ2 ≤ mN o.2 → mX μ2 ≤ mX o.2 → Rm R k0 d0 μ2 := by
                intro b1 b2
                have := ssum_le b1
                exact ⟨by have := hR.1; omega, by have := hR.2.1; omega, n1, n2⟩
              have hct := ihc y as μ' (ov, μ2) hy hlen (run_le (by omega) hc) m3
              cases ov with
              | inl v =>
                have h : run xs f' m n L' (v.toList ++ s') μ2 = some o := h
                have hg3 := run_grow h hg2.2.2.1
                refine key (.inl v, μ2) hct hg2' (hR2 hg3.1 hg3.2.1) (fun _ E hE => by cases hE) (fun v' hv => ?_) (fun E hE => by cases hE)
                cases hv
                exact ih hle' h hg2.2.2.1 n1 n2 hR hE hT hPr
              | inr E =>
                have h : (match hnd m pc E with | none => some (.inr E, μ2) | some (p', k) => run xs f' m p' (st1 L' k .null) [] μ2) = some o := h
                cases hh : hnd m pc E with
                | none =>
                  rw [hh] at h
                  cases h
                  exact key (.inr E, μ2) hct hg2' (hR2 (Nat.le_refl _) (Nat.le_refl _)) (fun hc1 E' _ => run_ctor hc1 hc) (fun v hv => by cases hv) (fun E' hE' h0 h4 H locs ls q ce hi hl h1 h2 h3 => by
                    cases hE'
                    exact hPr pc E s' H locs ls q ce rfl h0 h4 hh hi h1 h2 h3)
                | some z =>
                  obtain ⟨p', kk⟩ := z
                  rw [hh] at h
                  have h : run xs f' m p' (st1 L' kk .null) [] μ2 = some o := h
                  have hg3 := run_grow h hg2.2.2.1
                  exact key (.inr E, μ2) hct hg2' (hR2 hg3.1 hg3.2.1) (fun hc1 E' _ => run_ctor hc1 hc) (fun v hv => by cases hv) (fun E' hE' h0 h4 H locs ls q ce hi hl h1 h2 h3 => by
                    cases hE'
                    exact catch_go C hm hh h0 h4 hi hl h1 h2 h3 (ih hle' h hg2.2.2.1 n1 n2 hR hE hT hPr))
end Snd8
end
section
theorem char_nar {x : Int32} (h1 : 0 ≤ x) (h2 : x ≤ 65535) : narrow .char (.int x) = .int x := by
  rw [Int32.le_iff_toInt_le] at h1 h2
  have e0 : (0 : Int32).toInt = 0 := by decide
  have e1 : (65535 : Int32).toInt = 65535 := by decide
  rw [e0] at h1
  rw [e1] at h2
  have hx : x = nI x.toInt.toNat := by
    apply Int32.toInt_inj.mp
    show x.toInt = (Int32.ofNat x.toInt.toNat).toInt
    rw [Int32.toInt_ofNat_of_lt (by omega)]
    omega
  rw [hx]
  exact (pk_charN (by omega)).1
theorem bool_nar {x : Int32} (h : x = 0 ∨ x = 1) : narrow .boolean (.int x) = .int x := by
  rcases h with rfl | rfl
  · rfl
  · rfl
section Snd9
variable {p : Program} {l : Launch} {e : Env} {R : Room} {s : State} {mid : MethodId} {args : Array Value} {below : List Frame} {meth : Method} {c : Code} {D : va_G} {cA : Nat → ClassId} {n0 b k0 d0 : Nat} {xs : Scr} {m : Nat} {Q : State → Prop}
/-- the ends of a method -/
theorem end_ok (C : Cx p l s mid args meth c D cA n0 b xs m) {o : Out × Mem} {XC : String → State → State → Prop} : EndOK p l e R s mid args below meth c D cA n0 b k0 d0 xs m (vx_MQ below (QcY D cA n0 b o) XC args s (mN o.2 + mX o.2 - k0) (ssum (mN o.2) + 6 * mX o.2 - d0) (AA n0)) o := by
  obtain ⟨hx, hb, hml, hown, hts, hK, hn0, -, hlocks, -, -, -, -, hret⟩ := C
  intro pc len ins aux L st v H locs ls hI hs ho hi hl
  have hd : decode (cM m) pc = .ok (ins, len) := (I_ok hI).1
  have hc : chk m pc len ins aux = true := (I_ok hI).2.1
  have hkk := kr_stp (xs := xs) (ins := ins) (n := pc + len) (aux := aux) (L := L) (st := st) (μ := o.2)
  rw [hs] at hkk
  have hk : isRt ins := hkk
  clear hkk
  have hq : ∀ t : State, t.heap = H → s.WarmedH t.vm → QcY D cA n0 b o args s (.returned (v.map (rv n0 b))) t := fun t ht hW => ⟨v, ho, rfl, by rw [ht]; exact hi.2.1, hi.2.2.1.F ht⟩
  have hf := hi.2.2.1.2.2
  refine vx_ret ?_
  cases ins <;> first | exact hk.elim | skip
  case areturn =>
    unfold chk at hc; dsimp only at hc; rw [Bool.and_eq_true, decide_eq_true_eq] at hc
    have hlen : len = 1 := Nat.eq_of_beq_eq_true hc.1
    subst hlen
    unfold stp at hs; dsimp only at hs
    split at hs
    · simp only [Option.some.injEq, Prod.mk.injEq, true_and, Sum.inr.injEq, Sum.inl.injEq] at hs
      subst hs
      exact W.aret hx hb (by rw [hret]; exact hc.2) (Or.inl ⟨_, rfl⟩) (Or.inr ⟨_, rfl⟩) hq hf hd hlocks
    · cases hs
  case dreturn =>
    unfold chk at hc; dsimp only at hc; rw [Bool.and_eq_true, decide_eq_true_eq] at hc
    have hlen : len = 1 := Nat.eq_of_beq_eq_true hc.1
    subst hlen
    unfold stp at hs; dsimp only at hs
    split at hs
    · simp only [Option.some.injEq, Prod.mk.injEq, true_and, Sum.inr.injEq, Sum.inl.injEq] at hs
      subst hs
      exact W.dret hx hb (by rw [hret]; exact hc.2) hq hf hd hlocks
    · cases hs
  case freturn =>
    unfold chk at hc; dsimp only at hc; rw [Bool.and_eq_true, decide_eq_true_eq] at hc
    have hlen : len = 1 := Nat.eq_of_beq_eq_true hc.1
    subst hlen
    unfold stp at hs; dsimp only at hs
    split at hs
    · simp only [Option.some.injEq, Prod.mk.injEq, true_and, Sum.inr.injEq, Sum.inl.injEq] at hs
      subst hs
      exact W.fret hx hb (by rw [hret]; exact hc.2) hq hf hd hlocks
    · cases hs
  case ireturn =>
    unfold chk at hc; dsimp only at hc; rw [Bool.and_eq_true] at hc
    have hlen : len = 1 := Nat.eq_of_beq_eq_true hc.1
    subst hlen
    unfold stp at hs; dsimp only at hs
    split at hs
    · rename_i t r x
      simp only [Option.some.injEq, Prod.mk.injEq, Sum.inr.injEq, Sum.inl.injEq] at hs
      obtain ⟨hg, hv⟩ := hs
      subst hv
      have hc2 := hc.2
      match t, hg, hc2, hI with
      | 0, _, hc2, _ => exact W.iret hx hb (by rw [hret]; exact of_decide_eq_true hc2) hq hf hd hlocks
      | 1, hg, hc2, _ => exact W.zret hx hb (by rw [hret]; exact of_decide_eq_true hc2) (bool_nar (of_decide_eq_true hg)) hq hf hd hlocks
      | 2, hg, hc2, _ => exact W.zret hx hb (by rw [hret]; exact of_decide_eq_true hc2) (char_nar (of_decide_eq_true hg).1 (of_decide_eq_true hg).2) hq hf hd hlocks
      | k + 3, _, hc2, _ => cases hc2
    · cases hs
  case lreturn =>
    unfold chk at hc; dsimp only at hc; rw [Bool.and_eq_true, decide_eq_true_eq] at hc
    have hlen : len = 1 := Nat.eq_of_beq_eq_true hc.1
    subst hlen
    unfold stp at hs; dsimp only at hs
    split at hs
    · simp only [Option.some.injEq, Prod.mk.injEq, true_and, Sum.inr.injEq, Sum.inl.injEq] at hs
      subst hs
      exact W.lret hx hb (by rw [hret]; exact hc.2) hq hf hd hlocks
    · cases hs
  case return_ =>
    unfold chk at hc; dsimp only at hc; rw [Bool.and_eq_true, decide_eq_true_eq] at hc
    have hlen : len = 1 := Nat.eq_of_beq_eq_true hc.1
    subst hlen
    unfold stp at hs; dsimp only at hs
    split at hs
    · simp only [Option.some.injEq, Prod.mk.injEq, true_and, Sum.inr.injEq, Sum.inl.injEq] at hs
      subst hs
      exact W.vret hx hb (by rw [hret]; exact hc.2) hq hf hd hlocks
    · cases hs
/-- an exception that goes on to the caller -/
theorem prp_ok (C : Cx p l s mid args meth c D cA n0 b xs m) (hm : m < 210) {o : Out × Mem} {Qc : Array Value → State → Outcome → State → Prop} : PrpOK p l e R s mid args below meth c D cA n0 b k0 d0 xs m (vx_MQ below Qc (XcY D cA n0 b o) args s (mN o.2 + mX o.2 - k0) (ssum (mN o.2) + 6 * mX o.2 - d0) (AA n0)) o := by
  obtain ⟨hx, hb, hml, hown, hts, hK, hn0, -, hlocks, -, hV, -, htab, hret⟩ := C
  intro pc E st H locs ls q ce ho h0 h4 hh hi h1 h2 h3
  have hz := zc_find (pc := pc) (E := E) (m := m) hts hV.2.2.2.2.2.1 (hV.2.2.2.2.2.2.1 E h0 h4) h0 h4 (hM m) (hRow m) (zc_at hm)
  unfold hnd at hh
  cases hf : (hRow m).find? (fun r => Nat.ble r.2.1 pc && (Nat.blt pc r.2.2.1 && Nat.beq r.2.2.2.1 E)) with
  | some r1 => rw [hf] at hh; cases hh
  | none =>
    rw [hf] at hz
    exact vx_outP hown hlocks (by rw [htab]; exact hz) h1 h2 h3 (fun t ht _ => ⟨E, ho, h0, h4, rfl, by rw [ht]; exact hi.2.1, hi.2.2.1.F ht⟩) hi.2.2.1.2.2 (Nat.le_refl _) (Nat.le_refl _)
end Snd9
end
section
def thrI (E : Nat) : Nat := match E with | 1 => 186 | 2 => 46 | _ => 81
def okw (E : Nat) (w : Jvm.Cond) : Bool := match w with | .castable a c => decide (a = excN E) && decide (c = excN E) | .declares _ => true | _ => goodWord w
def thrOk (E : Nat) : Bool := (Cond.initialized (excN E) :: vx_atS RX4 (thrI E) (excN E) excP).all (fun w => vx_ot w && (decide (w ∈ lw_tbl) && okw E w)) && Bundle.fit (excN E)
theorem thr_o1 : thrOk 1 = true := by decide +kernel
theorem thr_o2 : thrOk 2 = true := by decide +kernel
theorem thr_o3 : thrOk 3 = true := by decide +kernel
theorem thr_o {E : Nat} (h0 : 0 < E) (h4 : E < 4) : thrOk E = true := by
  match E, h0, h4 with
  | 1, _, _ => exact thr_o1
  | 2, _, _ => exact thr_o2
  | 3, _, _ => exact thr_o3
theorem thr_fitP : ∀ n ∈ excP, Bundle.fit n = true := by decide +kernel
theorem thr_ot {m z E : Nat} : vx_ot (.classLink (ownM m) z (excN E)) = true := rfl
theorem cel_exc {n0 b : Nat} {cA : Nat → ClassId} {μ : Mem} : wld n0 b cA (excM μ) = wld n0 b cA μ := rfl
theorem chkThrow_spec {m pc idx E wl si ii ws : Nat} (h : chkThrow m pc idx E wl si ii ws = true) : gw wl (.classLink (ownM m) idx (excN E)) = true ∧ Nat.ble 6 (fM m) = true ∧ Nat.blt 0 E = true ∧ Nat.blt E 4 = true ∧ Nat.blt m 209 = true ∧ (hM m).isEmpty = true ∧ decode (cM m) (pc + 3) = .ok (.dup, 1) ∧ decode (cM m) (pc + 4) = .ok (.ldc si, 2) ∧ decode (cM m) (pc + 6) = .ok (.invokespecial ii, 3) ∧ decode (cM m) (pc + 9) = .ok (.athrow, 1) ∧ ownM m = RX4 ∧ Nat.beq ii (thrI E) = true ∧ (match lw_tbl[ws]? with | some (.stringRef o k _) => decide (o = ownM m) && decide (k = si) | _ => false) = true := by
  unfold chkThrow at h
  simp only [Bool.and_eq_true, decide_eq_true_eq, and_assoc] at h
  exact h
section Snd10
variable {p : Program} {l : Launch} {e : Env} {R : Room} {s : State} {mid : MethodId} {args : Array Value} {below : List Frame} {meth : Method} {c : Code} {D : va_G} {cA : Nat → ClassId} {n0 b k0 d0 : Nat} {xs : Scr} {m : Nat} {Q : State → Prop}
/-- a throw -/
theorem thr_ok (C : Cx p l s mid args meth c D cA n0 b xs m) (hF : fM m ≤ R.frames ∧ 38 * fM m ≤ R.locals) {o : Out × Mem} (hR : Rm R k0 d0 o.2) {Qc : Array Value → State → Outcome → State → Prop} : ThrOK p l e R s mid args below meth c D cA n0 b k0 d0 xs m (vx_MQ below Qc (XcY D cA n0 b o) args s (mN o.2 + mX o.2 - k0) (ssum (mN o.2) + 6 * mX o.2 - d0) (AA n0)) o := by
  obtain ⟨hx, hb, hml, hown, hts, hK, hn0, -, hlocks, hl, hV, -, htab, hret⟩ := C
  intro pc len ins aux L st E μ H locs ls hI hs ho hi hlv hk0 hd0
  have hd : decode (cM m) pc = .ok (ins, len) := (I_ok hI).1
  have hc : chk m pc len ins aux = true := (I_ok hI).2.1
  have hkk := kr_stp (xs := xs) (ins := ins) (n := pc + len) (aux := aux) (L := L) (st := st) (μ := μ)
  rw [hs] at hkk
  have hk : isNw ins := hkk
  clear hkk
  cases ins <;> first | exact hk.elim | skip
  case new z =>
    unfold chk at hc; dsimp only at hc; rw [Bool.and_eq_true] at hc
    have hlen : len = 3 := Nat.eq_of_beq_eq_true hc.1
    subst hlen
    have hc2 := hc.2
    clear hc
    unfold stp at hs; dsimp only at hs
    split at hs
    · rename_i E' r _
      obtain ⟨hcat, hs⟩ := inv_bif hs
      have hcat := Nat.le_of_ble_eq_true hcat
      simp only [Option.some.injEq, Prod.mk.injEq, Sum.inr.injEq, Sum.inl.injEq] at hs
      obtain ⟨-, hE⟩ := hs
      subst E
      split at hc2
      · rename_i E1 wl si ii ws r1 heq
        simp only [List.cons.injEq, true_and] at heq
        obtain ⟨hE1, hr1⟩ := heq
        subst r
        subst hr1
        obtain ⟨c1, c2, c3, c4, c5, c6, c7, c8, c9, c10, c11, c12, c13⟩ := chkThrow_spec hc2
        have c2 := Nat.le_of_ble_eq_true c2
        have c3 := Nat.le_of_ble_eq_true c3
        have c4 := Nat.le_of_ble_eq_true c4
        have c12 : ii = thrI E1 := Nat.eq_of_beq_eq_true c12
        have hht : hM m = [] := by
          cases hh : hM m with
          | nil => rfl
          | cons a q => rw [hh] at c6; cases c6
        have hto := thr_o c3 c4
        unfold thrOk at hto
        rw [Bool.and_eq_true] at hto
        obtain ⟨hto, hfit⟩ := hto
        have hall := List.all_eq_true.mp hto
        obtain ⟨t, ht⟩ : ∃ t, lw_tbl[ws]? = some (.stringRef RX4 si t) := by
          split at c13
          · rename_i o1 k1 t1 he
            rw [Bool.and_eq_true, decide_eq_true_eq, decide_eq_true_eq] at c13
            exact ⟨t1, by rw [he, c13.1, c13.2, c11]⟩
          · cases c13
        obtain ⟨sa, hsa⟩ := hV.2.2.2.2.1 ws si t ht
        have hbef : ∀ w ∈ Cond.initialized (excN E1) :: vx_atS RX4 (thrI E1) (excN E1) excP, w.before args s = true := by
          intro w hw
          have h1 := hall w hw
          simp only [Bool.and_eq_true, decide_eq_true_eq] at h1
          obtain ⟨-, h2, h3⟩ := h1
          by_cases hg : goodWord w = true
          · exact hts w (List.mem_filter.mpr ⟨h2, hg⟩)
          · unfold okw at h3
            split at h3
            · rw [Bool.and_eq_true, decide_eq_true_eq, decide_eq_true_eq] at h3
              rw [h3.1, h3.2]
              exact va_Nw.use rfl (hV.2.2.2.2.2.2.1 E1 c3 c4)
            · exact va_Nw.use rfl (hV.2.2.2.2.2.2.2 _ h2)
            · exact absurd h3 hg
        cases ho
        refine vx_throwS (A := AA n0) (own := ownM m) (cls := excN E1) (text := t) (names := excP) (ik := z) (is := si) (ic := ii) (sa := sa) hx hb hl hown hfit thr_fitP (in_code hts c1) (hbef _ List.mem_cons_self) (by rw [c11]; exact hsa) (fun w hw => hbef w (List.mem_cons_of_mem _ (by rw [c11, c12] at hw; exact hw))) (fun w hw => ?_) hV.2.2.1 hV.2.2.2.1 hi.2.2.1 (by rw [hml]; exact hlv.1) hd c7 c8 c9 c10 (fun x hx => by rw [htab, hht] at hx; cases hx) (by show 2 + 3 < R.frames; have := hF.1; omega) (by rw [cat_sum]; have := hF.2; show catL st + (13 * 3 + 43) ≤ R.locals; omega) ?_ ?_ hlocks (fun t1 ha hs1 hq => ⟨E1, rfl, c3, c4, rfl, ?_, ?_⟩) hi.2.2.1.2.2 ?_ ?_
        · rcases List.mem_cons.mp hw with rfl | hw
          · rfl
          · rw [c11, c12] at hw
            have h1 := hall w hw
            rw [Bool.and_eq_true] at h1
            exact h1.1
        · have := hR.1; rw [mN_excM, mX_excM] at this; omega
        · have := hR.2.1; rw [mN_excM, mX_excM] at this; omega
        · rw [cel_exc]
          exact va_P.kept hi.2.1 (fun k q hk => hq _ (hi.2.1 k q hk).lt)
        · refine ⟨Nat.le_trans hi.2.2.1.1 hs1, fun q h1 h2 => ?_⟩
          rw [hq q (Nat.lt_of_lt_of_le h1 hi.2.2.1.1)]
          exact hi.2.2.1.2.1 q h1 h2
        · rw [mN_excM, mX_excM]; omega
        · rw [mN_excM, mX_excM]; omega
      · rename_i heq
        simp only [List.cons.injEq] at heq
        rw [← heq.1, Bool.and_eq_true] at hc2
        exact absurd hc2.1 (by decide)
      · cases hc2
    · rename_i h9
      unfold gg at hs
      simp only [Option.some.injEq, Prod.mk.injEq, reduceCtorEq, and_false] at hs
    · cases hs
/-- every method keeps its contract -/
theorem ctr_run (hl : l.stackTraces = false) : ∀ (f y : Nat) (as : List Value) (μ : Mem) (o : Out × Mem), y < 209 → (argL as).length ≤ xM y → run xs f y 0 (pad (argL as) (xM y)) [] μ = some o → mN μ ≤ NN → Ctr l D cA n0 b xs y as μ o := by
  intro f
  induction f with
  | zero => intro y as μ o _ _ h; simp [run] at h
  | succ f ih =>
    intro y as μ o hy hlen h hN
    obtain ⟨o1, o2, -⟩ := okY_spec hy
    have ih' : ∀ (y : Nat) (as : List Value) (μ : Mem) (o : Out × Mem), y < 209 → (argL as).length ≤ xM y → run xs f y 0 (pad (argL as) (xM y)) [] μ = some o → mN μ ≤ NN → Ctr l D cA n0 b xs y as μ o := ih
    have body : ∀ (p : Program) (e : Env) (s : State) (mid : MethodId) (args : Array Value) (below : List Frame) (meth : Method) (c : Code) (s₁ : State), BodyLoose p l (yM y) (headSpec (wsY y) (rmY y (mcY μ o.2) (msY μ o.2))) (cM y) (xM y) (rM y) e s mid args below meth c s₁ → c.maxLocals = xM y → c.exceptionTable.toList = tableOf (hM y) → va_Pc (as.map (rv n0 b)) (Wd D cA n0 b xs μ) args s →
        W p l e (headSpec (wsY y) (rmY y (mcY μ o.2) (msY μ o.2))).room s mid args below meth c s.heap [] 0 0 (vx_MQ below (QcY D cA n0 b o) (XcY D cA n0 b o) args s (mcY μ o.2) (msY μ o.2) (AA n0)) (entryFrame mid args (xM y)) := by
      intro p e s mid args below meth c s₁ B hml htab hv
      obtain ⟨rfl, w1, w2, w3, w4, w5, w6⟩ := hv
      have hts : ∀ w ∈ wsY y, w.before _ s = true := atoms_spec (ws := wsY y) B.pre
      have C : Cx p l s mid (as.map (rv n0 b)).toArray meth c D cA n0 b xs y := ⟨B.exec, B.bytes, hml, findClass_of_methodNamed B.named, fun w hw => hts w (List.mem_cons_of_mem _ hw), w3, w4, (name_of_methodNamed B.named B.method).1, B.notSynchronized, hl, w5, fun _ => w5.1, htab, B.returns⟩
      have hF : fM y ≤ (rmY y (mcY μ o.2) (msY μ o.2)).frames ∧ 38 * fM y ≤ (rmY y (mcY μ o.2) (msY μ o.2)).locals := ⟨Nat.le_refl _, Nat.le_refl _⟩
      have hg := run_grow h hN
      have hR : Rm (rmY y (mcY μ o.2) (msY μ o.2)) (mN μ + mX μ) (ssum (mN μ) + 6 * mX μ) o.2 := ⟨Nat.le_refl _, Nat.le_refl _, by have := hg.1; have := hg.2.1; omega, by have := ssum_le hg.1; have := hg.2.1; omega⟩
      have hG := run_snd (R := rmY y (mcY μ o.2) (msY μ o.2)) (p := p) (e := e) (below := below) (k0 := mN μ + mX μ) (d0 := ssum (mN μ) + 6 * mX μ) (Q := vx_MQ below (QcY D cA n0 b o) (XcY D cA n0 b o) (as.map (rv n0 b)).toArray s (mN o.2 + mX o.2 - (mN μ + mX μ)) (ssum (mN o.2) + 6 * mX o.2 - (ssum (mN μ) + 6 * mX μ)) (AA n0)) ih' C (by omega) hF (Nat.le_refl _) h hN (Nat.le_refl _) (Nat.le_refl _) hR (end_ok C) (thr_ok C hF hR) (prp_ok C (by omega))
      rw [lg_entry_eq]
      have hW := hG s.heap [] _ ⟨w1, w2, va_S.rf, fun q => ⟨by rw [q]; exact w6 q, by rw [q]; exact Nat.le_refl _⟩⟩ (lvx_entry hlen)
      rw [Nat.sub_self, Nat.sub_self] at hW
      exact hW
    unfold Ctr
    cases hh : hM y with
    | nil => exact vy_ofW o1 (by unfold wsY; rw [hh]) (fun p e s mid args below meth c s₁ B h1 h2 h3 => body p e s mid args below meth c s₁ B h1 (by rw [h2, hh]; rfl) h3)
    | cons a q => exact vy_ofWH (hh := a :: q) o1 (by unfold wsY; rw [hh]) (fun p e s mid args below meth c s₁ B h1 h2 h3 => body p e s mid args below meth c s₁ B h1 (by rw [h2, hh]) h3)
end Snd10
end
