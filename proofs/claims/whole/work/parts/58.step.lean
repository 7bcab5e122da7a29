/-! the reference takes a character -/
def bgU (I : In2) (r x : Nat) : In2 := up2 (up2 (up2 (up2 (up2 (up2 I 250 r (if x = 91 then nI 4 else nI 0)) 251 r (txr x)) 252 r nM) 253 r nM) 254 r (nI 0)) 245 12 (nI 1)
theorem gZ_b {b : Bool} : gZ 1 (bI b) = true := by cases b <;> decide
theorem gZ_1 : gZ 1 (nI 1) = true := by decide
theorem gZ_0 : gZ 1 (nI 0) = true := by decide
theorem e_begins {xs : Scr} {I : In2} {ρ : Rh} {Q : Post} {r x : Nat} (hW : Rw ρ) (hr : r < 32) (hx : x < 128) (h11 : I 245 11 = nI r) (h : Q (.inl (some (.int (bI (decide (x = 91) || txR x))))) (goU (decide (x = 91) || txR x) (if x = 91 then 20 else 1) (bgU I r x), ρ)) : Ev xs 145 0 [.ref 245, .int (nI x)] [] (I, ρ) Q := by
  apply w_X5_begins_0
  by_cases e : x = 91
  · subst e
    simp (maxSteps := 1000000) (disch := omega) only [↓QI_i, ↓QV_v, ↓QA_a, ↓QF_f, ↓QD_d, ↓QL_l, ↓Bool.cond_eq_ite, ↓reduceIte, decide_eq_true_eq, Bool.not_eq_true', Bool.true_and, Bool.and_true, Bool.and_self, gR_some, Option.getD_some, mI_def, setI_def, mR_def, not_false_eq_true, not_true_eq_false, Bool.false_eq_true, idx_nI, nI_add, pk_mul, icB_lt, icB_gt, icB_le, icB_ge, icB_eq, icB_ne, bI_ne, nI_eqI, gz_O hW, gz_R0 hW, gz_A hW, up2_pz, pz_at, gz_R4 hW, gz_R5 hW, gz_R6 hW, gz_R7 hW, gz_R8 hW, gz_A4 hW, gz_A5 hW, gz_A6 hW, gz_A7 hW, gz_A8 hW, up2_ne, h11, gZ_1, ↓e_goes1 hW, e_goes1 hW]
    exact h
  · rw [show decide (x = 91) = false from decide_eq_false e, Bool.false_or, if_neg e, show bgU I r x = up2 (up2 (up2 (up2 (up2 (up2 I 250 r (nI 0)) 251 r (txr x)) 252 r nM) 253 r nM) 254 r (nI 0)) 245 12 (nI 1) by unfold bgU; rw [if_neg e]] at h
    simp (maxSteps := 1000000) (disch := omega) only [↓QI_i, ↓QV_v, ↓QA_a, ↓QF_f, ↓QD_d, ↓QL_l, ↓Bool.cond_eq_ite, ↓reduceIte, decide_eq_true_eq, Bool.not_eq_true', Bool.true_and, Bool.and_true, Bool.and_self, gR_some, Option.getD_some, mI_def, setI_def, mR_def, not_false_eq_true, not_true_eq_false, Bool.false_eq_true, idx_nI, nI_add, pk_mul, icB_lt, icB_gt, icB_le, icB_ge, icB_eq, icB_ne, bI_ne, nI_eqI, gz_O hW, gz_R0 hW, gz_A hW, up2_pz, pz_at, e, gz_R4 hW, gz_R5 hW, gz_R6 hW, gz_R7 hW, gz_R8 hW, gz_A4 hW, gz_A5 hW, gz_A6 hW, gz_A7 hW, gz_A8 hW, up2_ne, h11, gZ_b, ↓e_isReg hx, e_isReg hx, ↓e_goes hW, e_goes hW]
    exact h
theorem e_takesFigure {xs : Scr} {I : In2} {ρ : Rh} {Q : Post} {r x : Nat} (hW : Rw ρ) (hr : r < 32) (hx : x < 128) (h11 : I 245 11 = nI r) : Ev xs 147 0 [.ref 245, .int (nI x)] [] (I, ρ) Q ↔ Q (.inl (some (.int (bI (txD x))))) (goU (txD x) 4 (up2 I 254 r (I 245 12 * txd x)), ρ) := by
  apply Ev.dt; intro Q h; apply w_X5_takesFigure_0
  simp (maxSteps := 1000000) (disch := omega) only [↓QI_i, ↓QV_v, ↓QA_a, ↓QF_f, ↓QD_d, ↓QL_l, ↓Bool.cond_eq_ite, ↓reduceIte, decide_eq_true_eq, Bool.not_eq_true', Bool.true_and, Bool.and_true, Bool.and_self, gR_some, Option.getD_some, mI_def, setI_def, mR_def, not_false_eq_true, not_true_eq_false, Bool.false_eq_true, idx_nI, nI_add, pk_mul, icB_lt, icB_gt, icB_le, icB_ge, icB_eq, icB_ne, bI_ne, nI_eqI, gz_O hW, gz_R0 hW, gz_A hW, up2_pz, pz_at, gz_R8 hW, gz_A8 hW, h11, gZ_b, ↓e_isFig hx, e_isFig hx, ↓e_goes hW, e_goes hW]
  exact h
theorem e_takesOne {xs : Scr} {I : In2} {ρ : Rh} {Q : Post} {r x v : Nat} (hW : Rw ρ) (hr : r < 32) (hx : x < 128) (h11 : I 245 11 = nI r) : Ev xs 151 0 [.ref 245, .int (nI x), .int (nI v)] [] (I, ρ) Q ↔ Q (.inl (some (.int (bI (txR x))))) (goU (txR x) v (up2 I 252 r (txr x)), ρ) := by
  apply Ev.dt; intro Q h; apply w_X5_takesOne_0
  simp (maxSteps := 1000000) (disch := omega) only [↓QI_i, ↓QV_v, ↓QA_a, ↓QF_f, ↓QD_d, ↓QL_l, ↓Bool.cond_eq_ite, ↓reduceIte, decide_eq_true_eq, Bool.not_eq_true', Bool.true_and, Bool.and_true, Bool.and_self, gR_some, Option.getD_some, mI_def, setI_def, mR_def, not_false_eq_true, not_true_eq_false, Bool.false_eq_true, idx_nI, nI_add, pk_mul, icB_lt, icB_gt, icB_le, icB_ge, icB_eq, icB_ne, bI_ne, nI_eqI, gz_O hW, gz_R0 hW, gz_A hW, up2_pz, pz_at, gz_R6 hW, gz_A6 hW, h11, gZ_b, ↓e_isReg hx, e_isReg hx, ↓e_goes hW, e_goes hW]
  exact h
theorem e_takesOther {xs : Scr} {I : In2} {ρ : Rh} {Q : Post} {r x : Nat} (hW : Rw ρ) (hr : r < 32) (hx : x < 128) (h11 : I 245 11 = nI r) : Ev xs 152 0 [.ref 245, .int (nI x)] [] (I, ρ) Q ↔ Q (.inl (some (.int (bI (txR x))))) (goU (txR x) 30 (up2 I 253 r (txr x)), ρ) := by
  apply Ev.dt; intro Q h; apply w_X5_takesOther_0
  simp (maxSteps := 1000000) (disch := omega) only [↓QI_i, ↓QV_v, ↓QA_a, ↓QF_f, ↓QD_d, ↓QL_l, ↓Bool.cond_eq_ite, ↓reduceIte, decide_eq_true_eq, Bool.not_eq_true', Bool.true_and, Bool.and_true, Bool.and_self, gR_some, Option.getD_some, mI_def, setI_def, mR_def, not_false_eq_true, not_true_eq_false, Bool.false_eq_true, idx_nI, nI_add, pk_mul, icB_lt, icB_gt, icB_le, icB_ge, icB_eq, icB_ne, bI_ne, nI_eqI, gz_O hW, gz_R0 hW, gz_A hW, up2_pz, pz_at, gz_R7 hW, gz_A7 hW, h11, gZ_b, ↓e_isReg hx, e_isReg hx, ↓e_goes hW, e_goes hW]
  exact h
theorem e_takesOffset {xs : Scr} {I : In2} {ρ : Rh} {Q : Post} {r x v : Nat} (hW : Rw ρ) (hr : r < 32) (hx : x < 128) (h11 : I 245 11 = nI r) : Ev xs 153 0 [.ref 245, .int (nI x), .int (nI v)] [] (I, ρ) Q ↔ Q (.inl (some (.int (bI (txD x))))) (goU (txD x) v (up2 I 254 r (txd x)), ρ) := by
  apply Ev.dt; intro Q h; apply w_X5_takesOffset_0
  simp (maxSteps := 1000000) (disch := omega) only [↓QI_i, ↓QV_v, ↓QA_a, ↓QF_f, ↓QD_d, ↓QL_l, ↓Bool.cond_eq_ite, ↓reduceIte, decide_eq_true_eq, Bool.not_eq_true', Bool.true_and, Bool.and_true, Bool.and_self, gR_some, Option.getD_some, mI_def, setI_def, mR_def, not_false_eq_true, not_true_eq_false, Bool.false_eq_true, idx_nI, nI_add, pk_mul, icB_lt, icB_gt, icB_le, icB_ge, icB_eq, icB_ne, bI_ne, nI_eqI, gz_O hW, gz_R0 hW, gz_A hW, up2_pz, pz_at, gz_R8 hW, gz_A8 hW, h11, gZ_b, ↓e_isFig hx, e_isFig hx, ↓e_goes hW, e_goes hW]
  exact h
theorem e_takesSign {xs : Scr} {I : In2} {ρ : Rh} {Q : Post} {r x : Nat} (hW : Rw ρ) (hr : r < 32) (hx : x < 128) (h11 : I 245 11 = nI r) : Ev xs 148 0 [.ref 245, .int (nI x)] [] (I, ρ) Q ↔ Q (.inl (some (.int (bI (decide (x = 43) || decide (x = 42)))))) (goU (decide (x = 43) || decide (x = 42)) 7 (up2 I 250 r (if x = 43 then nI 1 else nI 2)), ρ) := by
  apply Ev.dt; intro Q h; apply w_X5_takesSign_0
  by_cases e : x = 43
  · subst e
    simp (maxSteps := 1000000) (disch := omega) only [↓QI_i, ↓QV_v, ↓QA_a, ↓QF_f, ↓QD_d, ↓QL_l, ↓Bool.cond_eq_ite, ↓reduceIte, decide_eq_true_eq, Bool.not_eq_true', Bool.true_and, Bool.and_true, Bool.and_self, gR_some, Option.getD_some, mI_def, setI_def, mR_def, not_false_eq_true, not_true_eq_false, Bool.false_eq_true, idx_nI, nI_add, pk_mul, icB_lt, icB_gt, icB_le, icB_ge, icB_eq, icB_ne, bI_ne, nI_eqI, gz_O hW, gz_R0 hW, gz_A hW, up2_pz, pz_at, gz_R4 hW, gz_A4 hW, h11, gZ_1, ↓e_goes1 hW, e_goes1 hW]
    exact h
  · rw [show decide (x = 43) = false from decide_eq_false e, Bool.false_or, if_neg e] at h
    by_cases e2 : x = 42
    · subst e2
      simp (maxSteps := 1000000) (disch := omega) only [↓QI_i, ↓QV_v, ↓QA_a, ↓QF_f, ↓QD_d, ↓QL_l, ↓Bool.cond_eq_ite, ↓reduceIte, decide_eq_true_eq, Bool.not_eq_true', Bool.true_and, Bool.and_true, Bool.and_self, gR_some, Option.getD_some, mI_def, setI_def, mR_def, not_false_eq_true, not_true_eq_false, Bool.false_eq_true, idx_nI, nI_add, pk_mul, icB_lt, icB_gt, icB_le, icB_ge, icB_eq, icB_ne, bI_ne, nI_eqI, gz_O hW, gz_R0 hW, gz_A hW, up2_pz, pz_at, Nat.reduceEqDiff, gz_R4 hW, gz_A4 hW, h11, gZ_1, ↓e_goes1 hW, e_goes1 hW]
      exact h
    · rw [show decide (x = 42) = false from decide_eq_false e2] at h
      simp (maxSteps := 1000000) (disch := omega) only [↓QI_i, ↓QV_v, ↓QA_a, ↓QF_f, ↓QD_d, ↓QL_l, ↓Bool.cond_eq_ite, ↓reduceIte, decide_eq_true_eq, Bool.not_eq_true', Bool.true_and, Bool.and_true, Bool.and_self, gR_some, Option.getD_some, mI_def, setI_def, mR_def, not_false_eq_true, not_true_eq_false, Bool.false_eq_true, idx_nI, nI_add, pk_mul, icB_lt, icB_gt, icB_le, icB_ge, icB_eq, icB_ne, bI_ne, nI_eqI, gz_O hW, gz_R0 hW, gz_A hW, up2_pz, pz_at, e, e2, gz_R4 hW, gz_A4 hW, h11, gZ_0, ↓e_goes0 hW, e_goes0 hW]
      exact h
theorem e_takesRight {xs : Scr} {I : In2} {ρ : Rh} {Q : Post} {r x : Nat} (hW : Rw ρ) (hr : r < 32) (hx : x < 128) (h11 : I 245 11 = nI r)
    (h1 : x = 45 → Q (.inl (some (.int (nI 1)))) (up2 (up2 I 245 12 nM) 245 13 (nI 3), ρ)) (h2 : x = 91 → Q (.inl (some (.int (nI 1)))) (up2 (up2 I 250 r (nI 3)) 245 13 (nI 10), ρ))
    (h3 : txR x = true → Q (.inl (some (.int (nI 1)))) (up2 (up2 I 252 r (txr x)) 245 13 (nI 6), ρ)) (h4 : ¬ x = 45 → ¬ x = 91 → txR x = false → Q (.inl (some (.int (bI (txD x))))) (goU (txD x) 4 (up2 I 254 r (I 245 12 * txd x)), ρ)) : Ev xs 146 0 [.ref 245, .int (nI x)] [] (I, ρ) Q := by
  apply w_X5_takesRight_0
  by_cases e : x = 45
  · have := h1 e; subst e
    simp (maxSteps := 1000000) (disch := omega) only [↓QI_i, ↓QV_v, ↓QA_a, ↓QF_f, ↓QD_d, ↓QL_l, ↓Bool.cond_eq_ite, ↓reduceIte, decide_eq_true_eq, Bool.not_eq_true', Bool.true_and, Bool.and_true, Bool.and_self, gR_some, Option.getD_some, mI_def, setI_def, mR_def, not_false_eq_true, not_true_eq_false, Bool.false_eq_true, idx_nI, nI_add, pk_mul, icB_lt, icB_gt, icB_le, icB_ge, icB_eq, icB_ne, bI_ne, nI_eqI, gz_O hW, gz_R0 hW, gz_A hW, up2_pz, pz_at, gZ_1, ↓e_goes1 hW, e_goes1 hW]
    exact this
  · by_cases e2 : x = 91
    · have := h2 e2; subst e2
      simp (maxSteps := 1000000) (disch := omega) only [↓QI_i, ↓QV_v, ↓QA_a, ↓QF_f, ↓QD_d, ↓QL_l, ↓Bool.cond_eq_ite, ↓reduceIte, decide_eq_true_eq, Bool.not_eq_true', Bool.true_and, Bool.and_true, Bool.and_self, gR_some, Option.getD_some, mI_def, setI_def, mR_def, not_false_eq_true, not_true_eq_false, Bool.false_eq_true, idx_nI, nI_add, pk_mul, icB_lt, icB_gt, icB_le, icB_ge, icB_eq, icB_ne, bI_ne, nI_eqI, gz_O hW, gz_R0 hW, gz_A hW, up2_pz, pz_at, Nat.reduceEqDiff, gz_R4 hW, gz_A4 hW, h11, gZ_1, ↓e_goes1 hW, e_goes1 hW]
      exact this
    · cases e3 : txR x
      · have := h4 e e2 e3
        simp (maxSteps := 1000000) (disch := omega) only [↓QI_i, ↓QV_v, ↓QA_a, ↓QF_f, ↓QD_d, ↓QL_l, ↓Bool.cond_eq_ite, ↓reduceIte, decide_eq_true_eq, Bool.not_eq_true', Bool.true_and, Bool.and_true, Bool.and_self, gR_some, Option.getD_some, mI_def, setI_def, mR_def, not_false_eq_true, not_true_eq_false, Bool.false_eq_true, idx_nI, nI_add, pk_mul, icB_lt, icB_gt, icB_le, icB_ge, icB_eq, icB_ne, bI_ne, nI_eqI, gz_O hW, gz_R0 hW, gz_A hW, up2_pz, pz_at, e, e2, e3, gZ_b, ↓e_isReg hx, e_isReg hx, ↓e_takesFigure hW hr hx h11, e_takesFigure hW hr hx h11]
        exact this
      · have := h3 e3
        have e10 : ¬ true = false := by decide
        simp (maxSteps := 1000000) (disch := omega) only [↓QI_i, ↓QV_v, ↓QA_a, ↓QF_f, ↓QD_d, ↓QL_l, ↓Bool.cond_eq_ite, ↓reduceIte, decide_eq_true_eq, Bool.not_eq_true', Bool.true_and, Bool.and_true, Bool.and_self, gR_some, Option.getD_some, mI_def, setI_def, mR_def, not_false_eq_true, not_true_eq_false, Bool.false_eq_true, idx_nI, nI_add, pk_mul, icB_lt, icB_gt, icB_le, icB_ge, icB_eq, icB_ne, bI_ne, nI_eqI, gz_O hW, gz_R0 hW, gz_A hW, up2_pz, pz_at, e, e2, e3, e10, gz_R6 hW, gz_A6 hW, h11, gZ_1, ↓e_isReg hx, e_isReg hx, ↓e_goes1 hW, e_goes1 hW]
        exact this
theorem e_ends {xs : Scr} {I : In2} {ρ : Rh} {Q : Post} {r x : Nat} (hW : Rw ρ) (hx : x < 128) (h11 : I 245 11 = nI r)
    (h : if x = 59 then Q (.inl (some (.int (nI 1)))) (up2 (up2 I 245 11 (nI (r + 1))) 245 13 (nI 0), ρ) else Q (.inl (some (.int (nI 0)))) (I, ρ)) : Ev xs 150 0 [.ref 245, .int (nI x), .null] [] (I, ρ) Q := by
  have e10 : ¬ nI 1 = nI 0 := by decide
  apply w_X5_ends_0
  by_cases e : x = 59
  · subst e
    rw [if_pos rfl] at h
    simp (maxSteps := 1000000) (disch := omega) only [↓QI_i, ↓QV_v, ↓QA_a, ↓QF_f, ↓QD_d, ↓QL_l, ↓Bool.cond_eq_ite, ↓reduceIte, decide_eq_true_eq, Bool.not_eq_true', Bool.true_and, Bool.and_true, Bool.and_self, gR_some, Option.getD_some, mI_def, setI_def, mR_def, not_false_eq_true, not_true_eq_false, Bool.false_eq_true, idx_nI, nI_add, pk_mul, icB_lt, icB_gt, icB_le, icB_ge, icB_eq, icB_ne, bI_ne, nI_eqI, gz_O hW, gz_R0 hW, gz_A hW, up2_pz, pz_at, h11, e10, gZ_1, ↓e_goes1 hW, e_goes1 hW]
    exact h
  · rw [if_neg e] at h
    simp (maxSteps := 1000000) (disch := omega) only [↓QI_i, ↓QV_v, ↓QA_a, ↓QF_f, ↓QD_d, ↓QL_l, ↓Bool.cond_eq_ite, ↓reduceIte, decide_eq_true_eq, Bool.not_eq_true', Bool.true_and, Bool.and_true, Bool.and_self, gR_some, Option.getD_some, mI_def, setI_def, mR_def, not_false_eq_true, not_true_eq_false, Bool.false_eq_true, idx_nI, nI_add, pk_mul, icB_lt, icB_gt, icB_le, icB_ge, icB_eq, icB_ne, bI_ne, nI_eqI, gz_O hW, gz_R0 hW, gz_A hW, up2_pz, pz_at, e, h11, gZ_0, ↓e_goes0 hW, e_goes0 hW, Nat.add_zero, up2_self h11]
    exact h
theorem e_takesSecond {xs : Scr} {I : In2} {ρ : Rh} {Q : Post} {r x : Nat} (hW : Rw ρ) (hr : r < 32) (hx : x < 128) (h11 : I 245 11 = nI r)
    (h1 : txD x = true → ¬ I 254 r = nI 0 → Q (.inl (some (.int (nI 1)))) (up2 (up2 I 254 r (nI 10 * I 254 r + I 245 12 * txd x)) 245 13 (nI 5), ρ))
    (h2 : txD x = false ∨ I 254 r = nI 0 → if x = 59 then Q (.inl (some (.int (nI 1)))) (up2 (up2 I 245 11 (nI (r + 1))) 245 13 (nI 0), ρ) else Q (.inl (some (.int (nI 0)))) (I, ρ)) : Ev xs 149 0 [.ref 245, .int (nI x), .null] [] (I, ρ) Q := by
  have e10 : ¬ nI 1 = nI 0 := by decide
  have et : ¬ true = false := by decide
  have sm : up2 I 254 r (I 254 r) = I := up2_self rfl
  apply w_X5_takesSecond_0
  have en : ∀ q : Int32 → Mem → Prop, (x = 59 → q (nI 1) (up2 (up2 I 245 11 (nI (r + 1))) 245 13 (nI 0), ρ)) → (¬ x = 59 → q (nI 0) (I, ρ)) → ∀ X, Ev xs 150 0 [.ref 245, .int (nI x), .null] [] (I, ρ) (QI q X) := fun q a b X => by
    refine e_ends hW hx h11 ?_
    by_cases e : x = 59
    · rw [if_pos e]; exact a e
    · rw [if_neg e]; exact b e
  cases e : txD x
  · have h2 := h2 (Or.inl e)
    simp (maxSteps := 1000000) (disch := omega) only [↓QI_i, ↓QV_v, ↓QA_a, ↓QF_f, ↓QD_d, ↓QL_l, ↓Bool.cond_eq_ite, ↓reduceIte, decide_eq_true_eq, Bool.not_eq_true', Bool.true_and, Bool.and_true, Bool.and_self, gR_some, Option.getD_some, mI_def, setI_def, mR_def, not_false_eq_true, not_true_eq_false, Bool.false_eq_true, idx_nI, nI_add, pk_mul, icB_lt, icB_gt, icB_le, icB_ge, icB_eq, icB_ne, bI_ne, nI_eqI, gz_O hW, gz_R0 hW, gz_A hW, up2_pz, pz_at, e, gz_R8 hW, gz_A8 hW, h11, ↓e_isFig hx, e_isFig hx, sm]
    refine en _ (fun e59 => ?_) (fun e59 => ?_) _
    · rw [if_pos e59] at h2; rw [gZ_1]; exact h2
    · rw [if_neg e59] at h2; rw [gZ_0]; exact h2
  · by_cases e0 : I 254 r = nI 0
    · have h2 := h2 (Or.inr e0)
      simp (maxSteps := 1000000) (disch := omega) only [↓QI_i, ↓QV_v, ↓QA_a, ↓QF_f, ↓QD_d, ↓QL_l, ↓Bool.cond_eq_ite, ↓reduceIte, decide_eq_true_eq, Bool.not_eq_true', Bool.true_and, Bool.and_true, Bool.and_self, gR_some, Option.getD_some, mI_def, setI_def, mR_def, not_false_eq_true, not_true_eq_false, Bool.false_eq_true, idx_nI, nI_add, pk_mul, icB_lt, icB_gt, icB_le, icB_ge, icB_eq, icB_ne, bI_ne, nI_eqI, gz_O hW, gz_R0 hW, gz_A hW, up2_pz, pz_at, e, et, gz_R8 hW, gz_A8 hW, h11, ↓e_isFig hx, e_isFig hx, sm, e0, up2_self e0]
      refine en _ (fun e59 => ?_) (fun e59 => ?_) _
      · rw [if_pos e59] at h2; rw [gZ_1]; exact h2
      · rw [if_neg e59] at h2; rw [gZ_0]; exact h2
    · have h1 := h1 e e0
      simp (maxSteps := 1000000) (disch := omega) only [↓QI_i, ↓QV_v, ↓QA_a, ↓QF_f, ↓QD_d, ↓QL_l, ↓Bool.cond_eq_ite, ↓reduceIte, decide_eq_true_eq, Bool.not_eq_true', Bool.true_and, Bool.and_true, Bool.and_self, gR_some, Option.getD_some, mI_def, setI_def, mR_def, not_false_eq_true, not_true_eq_false, Bool.false_eq_true, idx_nI, nI_add, pk_mul, icB_lt, icB_gt, icB_le, icB_ge, icB_eq, icB_ne, bI_ne, nI_eqI, gz_O hW, gz_R0 hW, gz_A hW, up2_pz, pz_at, e, et, e0, e10, gz_R8 hW, gz_A8 hW, h11, ↓e_isFig hx, e_isFig hx, gZ_1, ↓e_goes1 hW, e_goes1 hW]
      exact h1
