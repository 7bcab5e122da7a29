/-! shares: doubles from 0.0 to 1.0 and their bits -/
theorem q_u64 {x y : Int64} (h : x.toUInt64.toNat = y.toUInt64.toNat) : x = y := by
  have e := UInt64.toNat.inj h
  rw [← Int64.toInt64_toUInt64 x, e, Int64.toInt64_toUInt64]
theorem q_nL {k : Nat} (h : k < 18446744073709551616) : (Int64.ofNat k).toUInt64.toNat = k := by
  show (UInt64.ofNat k).toNat = k
  rw [UInt64.toNat_ofNat']; exact Nat.mod_eq_of_lt h
theorem d2l_xD {c : Nat} (h : c < 2 ^ 53) : FP.d2l (xD c 0) = Int64.ofNat c := by
  have ht : (Int64.ofNat c).toInt = (c : Int) := Int64.toInt_ofNat_of_lt (by omega)
  have e : Jvm.FP.Core.l2d (Int64.ofNat c) = xD c 0 := by
    show Jvm.FP.Core.of64 (Jvm.FP.Core.round Jvm.FP.Core.b64 (Jvm.FP.Core.ofInt (Int64.ofNat c).toInt)) = _
    rw [ht]; unfold Jvm.FP.Core.ofInt xD
    rw [show decide ((c : Int) < 0) = false from decide_eq_false (by omega), Int.natAbs_natCast]
  rw [← e]; exact Jvm.FP.Core.d2l_l2d (by omega)
theorem s_val {e l : Nat} (hl : 0 < l) (hl2 : l < 2 ^ 31) (he : 0 < e) (hel : e ≤ l) : Jvm.FP.Core.val64 (FP.ddiv (FP.i2d (nI e)) (FP.i2d (nI l))) = Jvm.FP.Core.roundRatio Jvm.FP.Core.b64 false e l 0 := by
  have x1 : FP.i2d (nI e) = xD e 0 := i2d_xD (nI_toInt (by omega))
  have x2 : FP.i2d (nI l) = xD l 0 := i2d_xD (nI_toInt (by omega))
  obtain ⟨n, -, -, e1⟩ := fit64 (c := e) (k := 0) he (by omega) (by decide) (by decide)
  obtain ⟨m, -, -, e2⟩ := fit64 (c := l) (k := 0) hl (by omega) (by decide) (by decide)
  have hp := Nat.two_pow_pos m
  have hm : 0 < l * 2 ^ m := Nat.mul_pos hl hp
  rw [x1, x2]
  show Jvm.FP.Core.val64 (Jvm.FP.Core.ddiv (xD e 0) (xD l 0)) = _
  rw [Jvm.FP.Core.val64_ddiv, val_xD, val_xD, e1, e2]
  show (if l * 2 ^ m = 0 then (if e * 2 ^ n = 0 then Jvm.FP.Core.Datum.nan else .inf (false != false)) else Jvm.FP.Core.roundRatio Jvm.FP.Core.b64 (false != false) (e * 2 ^ n) (l * 2 ^ m) (0 - (n : Int) - (0 - (m : Int)))) = _
  rw [if_neg (by omega)]
  refine Jvm.FP.Core.roundRatio_congr hm hl ?_
  rcases Nat.le_total n m with h | h
  · obtain ⟨d, rfl⟩ := Nat.exists_eq_add_of_le h
    rw [show (0 - (n : Int) - (0 - ((n + d : Nat) : Int)) - 0).toNat = d by omega, show (0 - (0 - (n : Int) - (0 - ((n + d : Nat) : Int)))).toNat = 0 by omega, Nat.pow_add]
    simp only [Nat.pow_zero, Nat.one_mul, Nat.mul_one, Nat.mul_assoc, Nat.mul_comm, Nat.mul_left_comm]
  · obtain ⟨d, rfl⟩ := Nat.exists_eq_add_of_le h
    rw [show (0 - ((m + d : Nat) : Int) - (0 - (m : Int)) - 0).toNat = 0 by omega, show (0 - (0 - ((m + d : Nat) : Int) - (0 - (m : Int)))).toNat = d by omega, Nat.pow_add]
    simp only [Nat.pow_zero, Nat.one_mul, Nat.mul_one, Nat.mul_assoc, Nat.mul_comm, Nat.mul_left_comm]
theorem s_mag {e l : Nat} {d : UInt64} (hv : Jvm.FP.Core.val64 d = Jvm.FP.Core.roundRatio Jvm.FP.Core.b64 false e l 0) (hl : 0 < l) (hl2 : l < 2 ^ 31) (he : 0 < e) (hel : e ≤ l) : 992 * 2 ^ 52 ≤ d.toNat ∧ d.toNat ≤ 1024 * 2 ^ 52 := by
  have nv : Jvm.FP.Core.val64 d ≠ .nan := by rw [hv]; exact Jvm.FP.Core.roundRatio_ne_nan _ _ _ _ _
  have hs := Jvm.FP.Core.sgn_bits nv
  rw [hv, Jvm.FP.Core.sgn_roundRatio] at hs
  have hs2 : ¬ 2 ^ 63 ≤ d.toNat := of_decide_eq_false hs.symm
  have hq : Jvm.FP.Core.b64.qmin ≤ 0 := by rw [b64_qmin]; decide
  have hz : (0 - Jvm.FP.Core.b64.qmin).toNat = 1074 := by rw [b64_qmin]; decide
  have u1 : Jvm.FP.Core.unitsOf Jvm.FP.Core.b64 (992 * 2 ^ 52) = 2 ^ 1043 := by
    have := Jvm.FP.Core.unitsOf_start (f := Jvm.FP.Core.b64) (K := 992) (by decide)
    rw [b64_tails] at this; rw [this, ← Nat.pow_add]
  have u2 : Jvm.FP.Core.unitsOf Jvm.FP.Core.b64 (1024 * 2 ^ 52) = 2 ^ 1075 := by
    have := Jvm.FP.Core.unitsOf_start (f := Jvm.FP.Core.b64) (K := 1024) (by decide)
    rw [b64_tails] at this; rw [this, ← Nat.pow_add]
  have g1 := Jvm.FP.Core.mag_ge Jvm.FP.Core.good_b64 (n := d.toNat) (m := 992 * 2 ^ 52) (e0 := Jvm.FP.Core.b64.qmin) hv hl (Int.le_refl _) hq (by rw [Jvm.FP.Core.infBits_b64]; decide) (by
    rw [u1, Int.sub_self]
    unfold Jvm.FP.Core.inUnits
    rw [hz]
    have h1 : l ≤ e * 2 ^ 31 := Nat.le_trans (Nat.le_of_lt hl2) (Nat.le_mul_of_pos_left _ he)
    calc 2 ^ 1043 * 2 ^ (Int.toNat 0) * l = 2 ^ 1043 * l := by rw [show Int.toNat 0 = 0 from rfl, Nat.pow_zero, Nat.mul_one]
      _ ≤ 2 ^ 1043 * (e * 2 ^ 31) := Nat.mul_le_mul_left _ h1
      _ = e * 2 ^ 1074 := by rw [Nat.mul_left_comm, ← Nat.pow_add])
  have g2 := Jvm.FP.Core.mag_le Jvm.FP.Core.good_b64 (n := d.toNat) (m := 1024 * 2 ^ 52) (e0 := Jvm.FP.Core.b64.qmin) hv hl (Int.le_refl _) hq (by
    rw [u2, Int.sub_self]
    unfold Jvm.FP.Core.inUnits
    rw [hz]
    calc e * 2 ^ 1074 ≤ l * 2 ^ 1075 := Nat.mul_le_mul hel (Nat.pow_le_pow_right (by decide) (by decide))
      _ = 2 ^ 1075 * 2 ^ (Int.toNat 0) * l := by rw [show Int.toNat 0 = 0 from rfl, Nat.pow_zero, Nat.mul_one, Nat.mul_comm])
  rw [Jvm.FP.Core.mag_toNat64] at g1 g2
  omega
/-- such a double's significand and halvings -/
theorem s_xD {d : UInt64} (h1 : 992 * 2 ^ 52 ≤ d.toNat) (h2 : d.toNat ≤ 1024 * 2 ^ 52) : d = xD (2 ^ 52 + d.toNat % 2 ^ 52) (-((1075 - d.toNat / 2 ^ 52 : Nat) : Int)) := by
  have hv : Jvm.FP.Core.val64 d = .fin false (2 ^ 52 + d.toNat % 2 ^ 52) (-((1075 - d.toNat / 2 ^ 52 : Nat) : Int)) := by
    have x : Jvm.FP.Core.b64.exps = 2048 := by decide
    unfold Jvm.FP.Core.val64 Jvm.FP.Core.decode Jvm.FP.Core.fieldE Jvm.FP.Core.fieldT Jvm.FP.Core.fieldS
    rw [b64_tails, x, b64_qmin]
    generalize d.toNat = n at *
    have e2 : n / 2 ^ 52 % 2048 = n / 2 ^ 52 := Nat.mod_eq_of_lt (by omega)
    have e3 : n / 2 ^ 52 / 2048 = 0 := by omega
    rw [e2, if_neg (by omega), e3, if_neg (by omega)]
    congr 1
    omega
  have hf := Jvm.FP.Core.val64_fits d
  rw [hv] at hf
  refine Jvm.FP.Core.val64_inj ?_ ?_
  · rw [hv]; exact fun h => by cases h
  · rw [hv, val_xD, Jvm.FP.Core.round_of_fits Jvm.FP.Core.good_b64 hf]
theorem s_sh : ∀ e : Fin 1025, (nI e.1).toInt64 <<< ((nI 52).toInt64 &&& 63) = Int64.ofNat (e.1 * 2 ^ 52) := by decide +kernel
theorem s_s {e : Nat} (h : e < 1025) : (nI e).toInt64 <<< ((nI 52).toInt64 &&& 63) = Int64.ofNat (e * 2 ^ 52) := s_sh ⟨e, h⟩
theorem s_c52 {c h : Nat} (h0 : 0 < c) (hc : c < 2 ^ 53) (hh : h ≤ 800) : FP.dcmp (xD c (-(h : Int))) (UInt64.ofNat 4841369599423283200) = some (compare (c : Int) ((2 ^ (52 + h) : Nat) : Int)) := by
  rw [k_2p52]; exact cmp_xD h0 hc hh (by decide)
theorem s_m1 {c h : Nat} (hc : c < 2 ^ 53) (hh : h ≤ 800) : FP.dmul (xD c (-((h + 1 : Nat) : Int))) (UInt64.ofNat 4611686018427387904) = xD c (-(h : Int)) := by
  rw [k_2]; exact (mul_xD (j := 1) (by decide) hc (by omega) (by omega)).trans (congrArg (xD c) (by omega))
theorem s_loop {xs : Scr} {μ : Mem} {p0 : UInt64} {d : UInt64} (h1 : 992 * 2 ^ 52 ≤ d.toNat) (h2 : d.toNat ≤ 1024 * 2 ^ 52) : ∀ {k t : Nat} {Q : Post}, t + k = 1075 - d.toNat / 2 ^ 52 → Q (.inl (some (.long d.toInt64))) μ → Ev xs 5 13 [.double p0, .null, .double (xD (2 ^ 52 + d.toNat % 2 ^ 52) (-(k : Int))), .null, .int (nI t)] [] μ Q := by
  have hc : 2 ^ 52 + d.toNat % 2 ^ 52 < 2 ^ 53 := by omega
  have hc0 : 2 ^ 52 ≤ 2 ^ 52 + d.toNat % 2 ^ 52 := by omega
  have hE : 51 ≤ 1075 - d.toNat / 2 ^ 52 ∧ 1075 - d.toNat / 2 ^ 52 ≤ 83 := by omega
  intro k
  induction k with
  | zero =>
    intro t Q ht hq
    apply w_X0_bitsOfShare_13
    have hd : FP.d2l (xD (2 ^ 52 + d.toNat % 2 ^ 52) (-((0 : Nat) : Int))) = Int64.ofNat (2 ^ 52 + d.toNat % 2 ^ 52) := d2l_xD hc
    have hr : (nI 1075 - nI t).toInt64 <<< ((nI 52).toInt64 &&& 63) ||| (Int64.ofNat (2 ^ 52 + d.toNat % 2 ^ 52) &&& Int64.ofNat 4503599627370495) = d.toInt64 := by
      rw [pk_sub (show t ≤ 1075 by omega), s_s (show 1075 - t < 1025 by omega)]
      apply q_u64
      rw [UInt64.toUInt64_toInt64, Int64.toUInt64_or, UInt64.toNat_or, Int64.toUInt64_and, UInt64.toNat_and, q_nL (by omega), q_nL (by omega), q_nL (by decide), show (4503599627370495 : Nat) = 2 ^ 52 - 1 by decide, Nat.and_two_pow_sub_one_eq_mod, Nat.mul_comm, ← Nat.two_pow_add_eq_or_of_lt (Nat.mod_lt _ (by decide))]
      omega
    rw [hd, hr, icB_ge (by omega) (by decide), q_ge (s_c52 (by omega) hc (by omega)), decide_eq_false (show ¬ 1074 ≤ t by omega), cond_false, decide_eq_true (show ((2 ^ (52 + 0) : Nat) : Int) ≤ ((2 ^ 52 + d.toNat % 2 ^ 52 : Nat) : Int) by omega), cond_true]
    exact hq
  | succ k ih =>
    intro t Q ht hq
    apply w_X0_bitsOfShare_13
    have hp : 2 ^ 53 ≤ 2 ^ (52 + (k + 1)) := Nat.pow_le_pow_right (by decide) (by omega)
    rw [icB_ge (by omega) (by decide), q_ge (s_c52 (by omega) hc (by omega)), decide_eq_false (show ¬ 1074 ≤ t by omega), cond_false, decide_eq_false (show ¬ ((2 ^ (52 + (k + 1)) : Nat) : Int) ≤ ((2 ^ 52 + d.toNat % 2 ^ 52 : Nat) : Int) by omega), cond_false, s_m1 hc (by omega), q_nn64 nn_xD, cond_true, nI_add]
    exact ih (by omega) hq
/-- 0.0, or a share above it -/
def ShD (d : UInt64) : Prop := d = FP.dconst0 ∨ (992 * 2 ^ 52 ≤ d.toNat ∧ d.toNat ≤ 1024 * 2 ^ 52)
theorem ShD.nn {d : UInt64} (h : ShD d) : Jvm.FP.Core.val64 d ≠ .nan := by
  rw [Jvm.FP.Core.ne_nan]
  rcases h with h | ⟨h1, h2⟩
  · subst h; decide
  · omega
theorem ShD_div {e l : Nat} (hl : 0 < l) (hl2 : l < 2 ^ 31) (hel : e ≤ l) : ShD (FP.ddiv (FP.i2d (nI e)) (FP.i2d (nI l))) := by
  by_cases he : e = 0
  · left
    subst he
    have x1 : FP.i2d (nI 0) = xD 0 0 := i2d_xD (nI_toInt (by decide))
    have x2 : FP.i2d (nI l) = xD l 0 := i2d_xD (nI_toInt (by omega))
    obtain ⟨m, -, -, e2⟩ := fit64 (c := l) (k := 0) hl (by omega) (by decide) (by decide)
    have hp := Nat.two_pow_pos m
    have hm : 0 < l * 2 ^ m := Nat.mul_pos hl hp
    have hv : Jvm.FP.Core.val64 (FP.ddiv (FP.i2d (nI 0)) (FP.i2d (nI l))) = .fin false 0 Jvm.FP.Core.b64.qmin := by
      rw [x1, x2]
      show Jvm.FP.Core.val64 (Jvm.FP.Core.ddiv (xD 0 0) (xD l 0)) = _
      rw [Jvm.FP.Core.val64_ddiv, val_xD, val_xD, xD_zero, e2]
      show (if l * 2 ^ m = 0 then (if (0 : Nat) = 0 then Jvm.FP.Core.Datum.nan else .inf (false != false)) else Jvm.FP.Core.roundRatio Jvm.FP.Core.b64 (false != false) 0 (l * 2 ^ m) (Jvm.FP.Core.b64.qmin - (0 - (m : Int)))) = _
      rw [if_neg (by omega)]; unfold Jvm.FP.Core.roundRatio; rw [if_pos rfl]; rfl
    have h0 : Jvm.FP.Core.val64 FP.dconst0 = .fin false 0 Jvm.FP.Core.b64.qmin := by decide +kernel
    exact Jvm.FP.Core.val64_inj (by rw [hv]; exact fun h => by cases h) (hv.trans h0.symm)
  · right; exact s_mag (s_val hl hl2 (by omega) hel) hl hl2 (by omega) hel
theorem e_shdBits {xs : Scr} {μ : Mem} {Q : Post} {d : UInt64} (hd : ShD d) : Ev xs 5 0 [.double d, .null, .null, .null, .null] [] μ Q ↔ Q (.inl (some (.long d.toInt64))) μ := by
  have nv := hd.nn
  have n0 : Jvm.FP.Core.val64 FP.dconst0 ≠ .nan := by decide +kernel
  have k0 : Jvm.FP.Core.dkey FP.dconst0 = 0 := by decide +kernel
  have ck := Jvm.FP.Core.dcmp_key nv n0
  rw [k0] at ck
  apply Ev.dt; intro Q h; apply w_X0_bitsOfShare_0
  rw [q_gt ck]
  rcases hd with hd | ⟨h1, h2⟩
  · have hk : Jvm.FP.Core.dkey d = 0 := by rw [hd, k0]
    rw [decide_eq_false (show ¬ 0 < Jvm.FP.Core.dkey d by omega), cond_false]
    rw [hd, show FP.dconst0.toInt64 = Int64.ofNat 0 by decide] at h; exact h
  · have hk : 0 < Jvm.FP.Core.dkey d := by unfold Jvm.FP.Core.dkey; split <;> omega
    rw [decide_eq_true hk, cond_true]
    have hx := s_xD h1 h2
    have := s_loop (xs := xs) (μ := μ) (p0 := d) h1 h2 (k := 1075 - d.toNat / 2 ^ 52) (t := 0) (Q := Q) (by omega) h
    rw [← hx] at this
    exact this
theorem e_shdLong {xs : Scr} {μ : Mem} {Q : Post} {d : UInt64} (hd : ShD d) : Ev xs 189 0 [.double d, .null] [] μ Q ↔ Q (.inl (some (.long d.toInt64))) μ := by
  have nv := hd.nn
  have hn : ∀ {Q : Post}, Q (.inl (some (.int (nI 0)))) μ → Ev xs 188 0 [.double d, .null] [] μ Q := by
    intro Q h; apply w_Jxe99ae_isNaN_b9ae7_0
    rw [q_eq (Jvm.FP.Core.dcmp_key nv nv), decide_eq_true rfl, cond_true]; exact h
  apply Ev.dt; intro Q h; apply w_Jxe99ae_doubleToLongBits_ccdee_0
  apply hn
  rw [QI_i, show icB .ne (nI 0) (nI 0) = false from rfl, cond_false]; exact h
