/-! limits -/
theorem c_L {v : UInt32} (nv : Jvm.FP.Core.val32 v ≠ .nan) : FP.fcmp v (UInt32.ofNat 1232348160) = some (compare (Jvm.FP.Core.fkey v) 1232348160) := by
  have h := Jvm.FP.Core.fcmp_key nv L_nn
  rw [L_key] at h; exact h
theorem c_M {v : UInt32} (nv : Jvm.FP.Core.val32 v ≠ .nan) : FP.fcmp v (UInt32.ofNat 3379831808) = some (compare (Jvm.FP.Core.fkey v) (-1232348160)) := by
  have h := Jvm.FP.Core.fcmp_key nv M_nn
  rw [M_key] at h; exact h
theorem lim_key {v : UInt32} (nv : Jvm.FP.Core.val32 v ≠ .nan) : limF v = if 1232348160 < Jvm.FP.Core.fkey v then UInt32.ofNat 1232348160 else if Jvm.FP.Core.fkey v < -1232348160 then UInt32.ofNat 3379831808 else v := by
  unfold limF
  rw [q_gt (c_L nv), q_lt (c_M nv)]
  simp only [decide_eq_true_eq]
theorem e_limited {xs : Scr} {μ : Mem} {Q : Post} {v : UInt32} (nv : Jvm.FP.Core.val32 v ≠ .nan) : Ev xs 4 0 [.float v] [] μ Q ↔ Q (.inl (some (.float (limF v)))) μ := by
  apply Ev.dt; intro Q h; apply w_X0_limited_0
  rw [lim_key nv] at h
  rw [q_le (c_L nv), q_ge (c_M nv)]
  by_cases h1 : 1232348160 < Jvm.FP.Core.fkey v
  · rw [if_pos h1] at h
    rw [decide_eq_false (show ¬ Jvm.FP.Core.fkey v ≤ 1232348160 by omega), cond_false]; exact h
  · rw [if_neg h1] at h
    rw [decide_eq_true (show Jvm.FP.Core.fkey v ≤ 1232348160 by omega), cond_true]
    by_cases h2 : Jvm.FP.Core.fkey v < -1232348160
    · rw [if_pos h2] at h
      rw [decide_eq_false (show ¬ -1232348160 ≤ Jvm.FP.Core.fkey v by omega), cond_false]; exact h
    · rw [if_neg h2] at h
      rw [decide_eq_true (show -1232348160 ≤ Jvm.FP.Core.fkey v by omega), cond_true]; exact h
theorem lim_mag {v : UInt32} (nv : Jvm.FP.Core.val32 v ≠ .nan) : magF (limF v) ≤ 1232348160 ∧ (magF (limF v) = 0 → limF v = v) := by
  have eL : magF (UInt32.ofNat 1232348160) = 1232348160 := by decide
  have eM : magF (UInt32.ofNat 3379831808) = 1232348160 := by decide
  rw [lim_key nv]
  by_cases h1 : 1232348160 < Jvm.FP.Core.fkey v
  · rw [if_pos h1, eL]; exact ⟨Nat.le_refl _, fun h => absurd h (by decide)⟩
  · rw [if_neg h1]
    by_cases h2 : Jvm.FP.Core.fkey v < -1232348160
    · rw [if_pos h2, eM]; exact ⟨Nat.le_refl _, fun h => absurd h (by decide)⟩
    · rw [if_neg h2]; exact ⟨key_mag.mp ⟨by omega, by omega⟩, fun _ => rfl⟩
theorem InR_fin {p : Int32} (hp : InR p) : Jvm.FP.Core.FFin p.toUInt32 := FFin_mag (InR_iff.mp hp)
theorem raw_nn {k p q : Int32} (hp : InR p) (hq : InR q) : Jvm.FP.Core.val32 (rawF k p q) ≠ .nan := by
  unfold rawF
  by_cases h : k = nI 1
  · rw [if_pos h]; exact fadd_nn (InR_fin hp) (InR_fin hq)
  · rw [if_neg h]; exact fmul_nn (InR_fin hp) (InR_fin hq)
theorem resF_InR {k p q : Int32} (hp : InR p) (hq : InR q) : InR (resF k p q) := by
  rw [InR_iff]; unfold resF
  rw [UInt32.toUInt32_toInt32]; exact (lim_mag (raw_nn hp hq)).1
theorem set_all : ∀ n : Fin 199, magF (FP.fdiv (FP.i2f (Int32.ofInt ((n.1 : Int) - 99))) (UInt32.ofNat 1082130432)) ≤ 1232348160 ∧ (magF (FP.fdiv (FP.i2f (Int32.ofInt ((n.1 : Int) - 99))) (UInt32.ofNat 1082130432)) = 0 → FP.fdiv (FP.i2f (Int32.ofInt ((n.1 : Int) - 99))) (UInt32.ofNat 1082130432) = 0) := by decide +kernel
theorem set_ok {n : Int32} (hn : SetOk n) : magF (FP.fdiv (FP.i2f n) (UInt32.ofNat 1082130432)) ≤ 1232348160 ∧ (magF (FP.fdiv (FP.i2f n) (UInt32.ofNat 1082130432)) = 0 → FP.fdiv (FP.i2f n) (UInt32.ofNat 1082130432) = 0) := by
  have h := set_all ⟨(n.toInt + 99).toNat, by have := hn.1; have := hn.2; omega⟩
  have e : Int32.ofInt (((n.toInt + 99).toNat : Int) - 99) = n := by
    rw [show (((n.toInt + 99).toNat : Int) - 99) = n.toInt by have := hn.1; omega]; exact Int32.ofInt_toInt n
  change magF (FP.fdiv (FP.i2f (Int32.ofInt (((n.toInt + 99).toNat : Int) - 99))) (UInt32.ofNat 1082130432)) ≤ 1232348160 ∧ (magF (FP.fdiv (FP.i2f (Int32.ofInt (((n.toInt + 99).toNat : Int) - 99))) (UInt32.ofNat 1082130432)) = 0 → FP.fdiv (FP.i2f (Int32.ofInt (((n.toInt + 99).toNat : Int) - 99))) (UInt32.ofNat 1082130432) = 0) at h
  rw [e] at h; exact h
theorem setF_InR {n : Int32} (hn : SetOk n) : InR (setF n) := by
  rw [InR_iff]; unfold setF
  rw [UInt32.toUInt32_toInt32]; exact (set_ok hn).1
/-! the sign of a zero -/
theorem q_and31 (x : Nat) : x &&& 2147483648 = if x.testBit 31 = true then 2147483648 else 0 := by
  have e : (2147483648 : Nat) = 2 ^ 31 := by decide
  rw [e]
  apply Nat.eq_of_testBit_eq
  intro i
  rw [Nat.testBit_and, Nat.testBit_two_pow]
  by_cases hi : 31 = i
  · subst hi
    cases h : x.testBit 31
    · rw [if_neg (by decide), Nat.zero_testBit]; rfl
    · rw [if_pos rfl, Nat.testBit_two_pow]; rfl
  · rw [decide_eq_false hi, Bool.and_false]
    split
    · rw [Nat.testBit_two_pow, decide_eq_false hi]
    · rw [Nat.zero_testBit]
theorem q_tb {x : Nat} (h : x < 4294967296) : x.testBit 31 = decide (2 ^ 31 ≤ x) := by
  rw [Nat.testBit_eq_decide_div_mod_eq, decide_eq_decide]; omega
theorem z_end {s : UInt32} {b : Bool} (h : s.toNat % 2 ^ 31 = 0) (hb : decide (2 ^ 31 ≤ s.toNat) = b) : (if b = true then 2147483648 else 0) = s.toNat := by
  have := s.toNat_lt
  subst hb
  simp only [decide_eq_true_eq]
  split <;> omega
theorem z_add {p q : Int32} (hp : InR p) (hq : InR q) (hz : magF (FP.fadd p.toUInt32 q.toUInt32) = 0) : (p &&& q) &&& nI 2147483648 = (FP.fadd p.toUInt32 q.toUInt32).toInt32 := by
  have h1 := p.toUInt32.toNat_lt
  have h2 := q.toUInt32.toNat_lt
  apply q_u32
  rw [UInt32.toUInt32_toInt32, Int32.toUInt32_and, UInt32.toNat_and, Int32.toUInt32_and, UInt32.toNat_and, q_nU (by decide), q_and31, Nat.testBit_and, q_tb h1, q_tb h2]
  exact z_end hz (fadd_zs (InR_fin hp) (InR_fin hq) hz)
theorem z_mul {p q : Int32} (hp : InR p) (hq : InR q) (hz : magF (FP.fmul p.toUInt32 q.toUInt32) = 0) : (p ^^^ q) &&& nI 2147483648 = (FP.fmul p.toUInt32 q.toUInt32).toInt32 := by
  have h1 := p.toUInt32.toNat_lt
  have h2 := q.toUInt32.toNat_lt
  apply q_u32
  rw [UInt32.toUInt32_toInt32, Int32.toUInt32_and, UInt32.toNat_and, Int32.toUInt32_xor, UInt32.toNat_xor, q_nU (by decide), q_and31, Nat.testBit_xor, q_tb h1, q_tb h2]
  exact z_end hz (fmul_s (InR_fin hp) (InR_fin hq))
/-! whole parts -/
theorem q_ge0 {x : Int32} : icB .ge x (nI 0) = decide (0 ≤ x.toInt) := by
  show decide (nI 0 ≤ x) = _
  rw [decide_eq_decide, Int32.le_iff_toInt_le, show (nI 0).toInt = 0 by decide]
theorem q_fm {x : Int32} {y : Int} (hx : x.toInt = y) (h1 : -2097152 < y) (h2 : y < 2097152) : (x - x / nI 16 * nI 16).toInt = if 0 ≤ y then y % 16 else if y % 16 = 0 then 0 else y % 16 - 16 := by
  rw [Int32.toInt_sub, Int32.toInt_mul, Int32.toInt_div_of_ne_right x (nI 16) (by decide), hx, show (nI 16).toInt = 16 by decide]
  by_cases h : 0 ≤ y
  · rw [if_pos h, Int.tdiv_eq_ediv_of_nonneg h, Int.bmod_eq_of_le (n := y / 16 * 16) (by omega) (by omega), Int.bmod_eq_of_le (by omega) (by omega)]; omega
  · obtain ⟨a, rfl⟩ : ∃ a : Int, y = -a := ⟨-y, by omega⟩
    rw [if_neg h, Int.neg_tdiv, Int.tdiv_eq_ediv_of_nonneg (by omega), Int.bmod_eq_of_le (n := -(a / 16) * 16) (by omega) (by omega), Int.bmod_eq_of_le (by omega) (by omega)]
    split <;> omega
theorem q_xy {p : Int32} {o : Nat} (hp : InR p) (ho : o < 10) : (FP.f2i p.toUInt32 + nI o).toInt = (FP.f2i p.toUInt32).toInt + o ∧ -2097152 < (FP.f2i p.toUInt32).toInt + o ∧ (FP.f2i p.toUInt32).toInt + o < 2097152 := by
  have h : -1048576 < (FP.f2i p.toUInt32).toInt ∧ (FP.f2i p.toUInt32).toInt < 1048576 := f2i_b (InR_iff.mp hp)
  refine ⟨?_, by omega, by omega⟩
  rw [Int32.toInt_add, nI_toInt (by omega)]
  exact Int.bmod_eq_of_le (by omega) (by omega)
theorem q_x16 (x : Int32) : icB .ge (x ^^^ nI 16) (nI 0) = decide (0 ≤ x.toInt) := by
  rw [← q_ge0]
  show decide (nI 0 ≤ x ^^^ nI 16) = decide (nI 0 ≤ x)
  rw [decide_eq_decide, q_sg, q_sg]
  have h1 := x.toUInt32.toNat_lt
  have h2 := (x ^^^ nI 16).toUInt32.toNat_lt
  have t1 := q_tb h1
  have t2 := q_tb h2
  have e : (x ^^^ nI 16).toUInt32.toNat.testBit 31 = x.toUInt32.toNat.testBit 31 := by
    rw [Int32.toUInt32_xor, UInt32.toNat_xor, Nat.testBit_xor, q_nU (by decide), show Nat.testBit 16 31 = false by decide, Bool.xor_false]
  rw [t1, t2, decide_eq_decide] at e
  omega
theorem q_cell {p : Int32} {o : Nat} (hp : InR p) (ho : o < 10) : (0 ≤ (FP.f2i p.toUInt32 + nI o).toInt ∧ (FP.f2i p.toUInt32 + nI o) - (FP.f2i p.toUInt32 + nI o) / nI 16 * nI 16 = nI (cellF p o)) ∨ ((FP.f2i p.toUInt32 + nI o).toInt < 0 ∧ (FP.f2i p.toUInt32 + nI o) - (FP.f2i p.toUInt32 + nI o) / nI 16 * nI 16 = nI 0 ∧ cellF p o = 0) ∨ ((FP.f2i p.toUInt32 + nI o).toInt < 0 ∧ ((FP.f2i p.toUInt32 + nI o) - (FP.f2i p.toUInt32 + nI o) / nI 16 * nI 16) + nI 16 = nI (cellF p o) ∧ ((FP.f2i p.toUInt32 + nI o) - (FP.f2i p.toUInt32 + nI o) / nI 16 * nI 16).toInt < 0) := by
  obtain ⟨h1, h2, h3⟩ := q_xy hp ho
  have hm := q_fm h1 h2 h3
  have hc := cellF_lt p o
  have e : (cellF p o : Int) = ((FP.f2i p.toUInt32).toInt + o) % 16 := by unfold cellF; omega
  rw [h1]
  generalize ((FP.f2i p.toUInt32 + nI o) - (FP.f2i p.toUInt32 + nI o) / nI 16 * nI 16) = r at *
  by_cases hy : 0 ≤ (FP.f2i p.toUInt32).toInt + o
  · rw [if_pos hy] at hm
    left; refine ⟨hy, Int32.toInt_inj.mp ?_⟩
    rw [hm, nI_toInt (by omega), e]
  · rw [if_neg hy] at hm
    by_cases h0 : ((FP.f2i p.toUInt32).toInt + o) % 16 = 0
    · rw [if_pos h0] at hm
      right; left; refine ⟨by omega, Int32.toInt_inj.mp ?_, by omega⟩
      rw [hm, nI_toInt (by omega)]; rfl
    · rw [if_neg h0] at hm
      right; right; refine ⟨by omega, Int32.toInt_inj.mp ?_, by omega⟩
      rw [Int32.toInt_add, nI_toInt (by omega), nI_toInt (by omega), hm, e]
      exact (Int.bmod_eq_of_le (by omega) (by omega)).trans (by omega)
theorem q_sn {p : Int32} (h : magF p.toUInt32 ≤ 2139095040) : vn_sni2f p = false := by
  unfold vn_sni2f
  have e : ¬ (p.toUInt32 &&& 0x7fffffff > 0x7f800000) := by
    intro hh
    have h2 := UInt32.lt_iff_toNat_lt.mp hh
    rw [Jvm.FP.Core.mask_toNat32] at h2
    have e2 : (0x7f800000 : UInt32).toNat = 2139095040 := by decide
    rw [e2] at h2
    unfold magF at h; omega
  rw [decide_eq_false e, Bool.false_and]

