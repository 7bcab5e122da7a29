/-! why an entry waits -/
theorem WfR.knd {k t p q n : Int32} (h : WfR k t p q n) : ∃ x, x ≤ 4 ∧ k = nI x := by
  rcases h with ⟨h, _⟩ | ⟨h | h, _⟩ | ⟨h, _⟩ | ⟨h, _⟩
  · exact ⟨0, by decide, h⟩
  · exact ⟨1, by decide, h⟩
  · exact ⟨2, by decide, h⟩
  · exact ⟨3, by decide, h⟩
  · exact ⟨4, by decide, h⟩
theorem l_why98 {xs : Scr} {I : In2} {ρ : Rh} {B : Nat} {d : In2} (hL : LB B ρ) {z : Zt} {a b n i : Nat} (hG : LG d z a b n) (hi : i < b) {v4 : Int32} : ∀ {e k : Nat} {Q : Post}, k + e = i → a ≤ k → Q (.inl (some (.int (if anyB (opP z) e k = true then nI 4 else nI 0)))) (pl I B d, ρ) → Ev xs 112 98 [.int (nI i), .ref B, .ref (B + 1), .ref (B + 5), .int v4, .int (nI k)] [] (pl I B d, ρ) Q := by
  have hb := hG.1.bnd
  have hn7 := hG.2.2.2.2
  intro e
  induction e with
  | zero =>
    intro k Q hk ha h
    obtain rfl : k = i := hk
    apply w_L_why_98
    rw [icB_ge (by omega) (by omega), decide_eq_true (Nat.le_refl k), cond_true]
    exact h
  | succ e ih =>
    intro k Q hk ha h
    have hki : ¬ i ≤ k := by omega
    have e0 : d 0 (8 * k) = pt z k 0 := hG.2.2.1.row0 (by omega)
    have e7 : d 1 (5 * k) = pt z k 7 := hG.2.2.1.st ha (by omega)
    unfold anyB at h
    apply w_L_why_98
    by_cases h0 : pt z k 0 = nI 4
    · by_cases h7 : pt z k 7 = nI 2
      · have hp : opP z k = false := by unfold opP; rw [h7]; simp
        rw [hp, Bool.false_or] at h
        simp (maxSteps := 1000000) (disch := omega) only [↓QI_i, ↓QV_v, ↓QA_a, ↓QF_f, ↓QD_d, ↓QL_l, ↓Bool.cond_eq_ite, ↓reduceIte, decide_eq_true_eq, Bool.not_eq_true', Bool.true_and, Bool.and_true, Bool.and_self, gR_some, Option.getD_some, mI_def, setI_def, mR_def, not_false_eq_true, not_true_eq_false, Bool.false_eq_true, idx_nI, nI_add, pk_mul, icB_lt, icB_gt, icB_le, icB_ge, icB_eq, icB_ne, bI_ne, nI_eqI, gl_0 hL, gl_1 hL, gl_2 hL, gl_3 hL, gl_4 hL, gl_5 hL, up2_pl, up2_pl0, pl_at, pl_at0, hki, e0, e7, h0, h7]
        exact ih (by omega) (by omega) h
      · have hp : opP z k = true := by unfold opP; simp [h0, h7]
        rw [hp, Bool.true_or, if_pos rfl] at h
        simp (maxSteps := 1000000) (disch := omega) only [↓QI_i, ↓QV_v, ↓QA_a, ↓QF_f, ↓QD_d, ↓QL_l, ↓Bool.cond_eq_ite, ↓reduceIte, decide_eq_true_eq, Bool.not_eq_true', Bool.true_and, Bool.and_true, Bool.and_self, gR_some, Option.getD_some, mI_def, setI_def, mR_def, not_false_eq_true, not_true_eq_false, Bool.false_eq_true, idx_nI, nI_add, pk_mul, icB_lt, icB_gt, icB_le, icB_ge, icB_eq, icB_ne, bI_ne, nI_eqI, gl_0 hL, gl_1 hL, gl_2 hL, gl_3 hL, gl_4 hL, gl_5 hL, up2_pl, up2_pl0, pl_at, pl_at0, hki, e0, e7, h0, h7]
        exact h
    · have hp : opP z k = false := by unfold opP; simp [h0]
      rw [hp, Bool.false_or] at h
      simp (maxSteps := 1000000) (disch := omega) only [↓QI_i, ↓QV_v, ↓QA_a, ↓QF_f, ↓QD_d, ↓QL_l, ↓Bool.cond_eq_ite, ↓reduceIte, decide_eq_true_eq, Bool.not_eq_true', Bool.true_and, Bool.and_true, Bool.and_self, gR_some, Option.getD_some, mI_def, setI_def, mR_def, not_false_eq_true, not_true_eq_false, Bool.false_eq_true, idx_nI, nI_add, pk_mul, icB_lt, icB_gt, icB_le, icB_ge, icB_eq, icB_ne, bI_ne, nI_eqI, gl_0 hL, gl_1 hL, gl_2 hL, gl_3 hL, gl_4 hL, gl_5 hL, up2_pl, up2_pl0, pl_at, pl_at0, hki, e0, e7, h0]
      exact ih (by omega) (by omega) h
theorem l_why {xs : Scr} {I : In2} {ρ : Rh} {Q : Post} {B : Nat} {d : In2} (hL : LB B ρ) {z : Zt} {a b n i : Nat} (hG : LG d z a b n) (ha : a ≤ i) (hi : i < b) : Ev xs 112 0 [.int (nI i), .ref B, .ref (B + 1), .ref (B + 5), .null, .null] [] (pl I B d, ρ) Q ↔ Q (.inl (some (.int (rsn z a i)))) (pl I B d, ρ) := by
  have hb := hG.1.bnd
  have hn7 := hG.2.2.2.2
  have hR := hG.2.2.1
  have e0 : d 0 (8 * i) = pt z i 0 := hR.row0 (by omega)
  have e2 : d 0 (8 * i + 2) = pt z i 2 := hR.row (by omega) (by decide)
  have e3 : d 0 (8 * i + 3) = pt z i 3 := hR.row (by omega) (by decide)
  have e5 : d 0 (8 * i + 5) = pt z i 5 := hR.row (by omega) (by decide)
  have e7 : d 1 (5 * i) = pt z i 7 := hR.st ha hi
  have c3 : d 5 3 = nI a := (hR.c (by decide)).trans hG.1.h3
  obtain ⟨hw, y, hy3, hye, -⟩ := hG.1.row (i := i) (by omega)
  obtain ⟨x, hx4, hxe⟩ := hw.knd
  apply Ev.dt; intro Q h
  unfold rsn hs1 hs2 at h
  rw [hxe, hye] at h
  have end74 : ∀ {v5 : Value}, Q (.inl (some (.int (if (decide (nI x = nI 3) && (!icB .le (nI y) (nI 0) && opn z a i)) = true then nI 4 else nI 0)))) (pl I B d, ρ) → Ev xs 112 74 [.int (nI i), .ref B, .ref (B + 1), .ref (B + 5), .int (nI x), v5] [] (pl I B d, ρ) Q := by
    intro v5 h
    apply w_L_why_74
    by_cases hx3 : x = 3
    · subst hx3
      rw [decide_eq_true rfl, Bool.true_and, icB_le (by omega) (by decide)] at h
      by_cases hy0 : y = 0
      · subst hy0
        simp (maxSteps := 1000000) (disch := omega) only [↓QI_i, ↓QV_v, ↓QA_a, ↓QF_f, ↓QD_d, ↓QL_l, ↓Bool.cond_eq_ite, ↓reduceIte, decide_eq_true_eq, Bool.not_eq_true', Bool.true_and, Bool.and_true, Bool.and_self, gR_some, Option.getD_some, mI_def, setI_def, mR_def, not_false_eq_true, not_true_eq_false, Bool.false_eq_true, idx_nI, nI_add, pk_mul, icB_lt, icB_gt, icB_le, icB_ge, icB_eq, icB_ne, bI_ne, nI_eqI, gl_0 hL, gl_1 hL, gl_2 hL, gl_3 hL, gl_4 hL, gl_5 hL, up2_pl, up2_pl0, pl_at, pl_at0, e5, hye]
        exact h
      · rw [decide_eq_false (by omega), Bool.not_false, Bool.true_and] at h
        simp (maxSteps := 1000000) (disch := omega) only [↓QI_i, ↓QV_v, ↓QA_a, ↓QF_f, ↓QD_d, ↓QL_l, ↓Bool.cond_eq_ite, ↓reduceIte, decide_eq_true_eq, Bool.not_eq_true', Bool.true_and, Bool.and_true, Bool.and_self, gR_some, Option.getD_some, mI_def, setI_def, mR_def, not_false_eq_true, not_true_eq_false, Bool.false_eq_true, idx_nI, nI_add, pk_mul, icB_lt, icB_gt, icB_le, icB_ge, icB_eq, icB_ne, bI_ne, nI_eqI, gl_0 hL, gl_1 hL, gl_2 hL, gl_3 hL, gl_4 hL, gl_5 hL, up2_pl, up2_pl0, pl_at, pl_at0, e5, hye, hy0, c3]
        exact l_why98 hL hG hi (e := i - a) (k := a) (by omega) (Nat.le_refl a) h
    · rw [decide_eq_false (not_nI (by omega) (by decide) hx3), Bool.false_and] at h
      simp (maxSteps := 1000000) (disch := omega) only [↓QI_i, ↓QV_v, ↓QA_a, ↓QF_f, ↓QD_d, ↓QL_l, ↓Bool.cond_eq_ite, ↓reduceIte, decide_eq_true_eq, Bool.not_eq_true', Bool.true_and, Bool.and_true, Bool.and_self, gR_some, Option.getD_some, mI_def, setI_def, mR_def, not_false_eq_true, not_true_eq_false, Bool.false_eq_true, idx_nI, nI_add, pk_mul, icB_lt, icB_gt, icB_le, icB_ge, icB_eq, icB_ne, bI_ne, nI_eqI, gl_0 hL, gl_1 hL, gl_2 hL, gl_3 hL, gl_4 hL, gl_5 hL, up2_pl, up2_pl0, pl_at, pl_at0, hx3]
      exact h
  have end43 : ∀ {v5 : Value}, Q (.inl (some (.int (if (decide (¬ nI x = nI 0) && decide (¬ nI x = nI 3) && !rdy z a i (pt z i 3)) = true then nI 3 else if (decide (nI x = nI 3) && (!icB .le (nI y) (nI 0) && opn z a i)) = true then nI 4 else nI 0)))) (pl I B d, ρ) → Ev xs 112 43 [.int (nI i), .ref B, .ref (B + 1), .ref (B + 5), .int (nI x), v5] [] (pl I B d, ρ) Q := by
    intro v5 h
    apply w_L_why_43
    by_cases hx0 : x = 0
    · subst hx0
      rw [icB_le (by decide) (by decide), decide_eq_true (Nat.le_refl 0), cond_true]
      rw [show decide (¬ nI 0 = nI 0) = false by decide, Bool.false_and, Bool.false_and] at h
      exact end74 h
    · rw [icB_le (by omega) (by decide), decide_eq_false (by omega), cond_false]
      by_cases hx3 : x = 3
      · subst hx3
        rw [icB_eq, decide_eq_true rfl, cond_true]
        rw [show decide (¬ nI 3 = nI 3) = false by decide, Bool.and_false, Bool.false_and] at h
        exact end74 h
      · rw [icB_eq, decide_eq_false (not_nI (by omega) (by decide) hx3), cond_false]
        rw [decide_eq_true (not_nI (by omega) (by decide) hx0), decide_eq_true (not_nI (by omega) (by decide) hx3), Bool.true_and, Bool.true_and] at h
        simp (maxSteps := 1000000) (disch := omega) only [↓QI_i, ↓QV_v, ↓QA_a, ↓QF_f, ↓QD_d, ↓QL_l, ↓Bool.cond_eq_ite, ↓reduceIte, decide_eq_true_eq, Bool.not_eq_true', Bool.true_and, Bool.and_true, Bool.and_self, gR_some, Option.getD_some, mI_def, setI_def, mR_def, not_false_eq_true, not_true_eq_false, Bool.false_eq_true, idx_nI, nI_add, pk_mul, icB_lt, icB_gt, icB_le, icB_ge, icB_eq, icB_ne, bI_ne, nI_eqI, gl_0 hL, gl_1 hL, gl_2 hL, gl_3 hL, gl_4 hL, gl_5 hL, up2_pl, up2_pl0, pl_at, pl_at0, e3, l_ready hL hG (show i ≤ b by omega)]
        cases hr : rdy z a i (pt z i 3)
        · rw [hr, Bool.not_false, if_pos rfl] at h
          try simp (maxSteps := 1000000) (disch := omega) only [↓QI_i, ↓QV_v, ↓QA_a, ↓QF_f, ↓QD_d, ↓QL_l, ↓Bool.cond_eq_ite, ↓reduceIte, decide_eq_true_eq, Bool.not_eq_true', Bool.true_and, Bool.and_true, Bool.and_self, gR_some, Option.getD_some, mI_def, setI_def, mR_def, not_false_eq_true, not_true_eq_false, Bool.false_eq_true, idx_nI, nI_add, pk_mul, icB_lt, icB_gt, icB_le, icB_ge, icB_eq, icB_ne, bI_ne, nI_eqI, gl_0 hL, gl_1 hL, gl_2 hL, gl_3 hL, gl_4 hL, gl_5 hL, up2_pl, up2_pl0, pl_at, pl_at0, bI_f]
          exact h
        · rw [hr, Bool.not_true, if_neg (by decide)] at h
          try simp (maxSteps := 1000000) (disch := omega) only [↓QI_i, ↓QV_v, ↓QA_a, ↓QF_f, ↓QD_d, ↓QL_l, ↓Bool.cond_eq_ite, ↓reduceIte, decide_eq_true_eq, Bool.not_eq_true', Bool.true_and, Bool.and_true, Bool.and_self, gR_some, Option.getD_some, mI_def, setI_def, mR_def, not_false_eq_true, not_true_eq_false, Bool.false_eq_true, idx_nI, nI_add, pk_mul, icB_lt, icB_gt, icB_le, icB_ge, icB_eq, icB_ne, bI_ne, nI_eqI, gl_0 hL, gl_1 hL, gl_2 hL, gl_3 hL, gl_4 hL, gl_5 hL, up2_pl, up2_pl0, pl_at, pl_at0, bI_t, Bool.true_eq_false]
          exact end74 h
  apply w_L_why_0
  by_cases h7 : pt z i 7 = nI 0
  · rw [if_pos h7] at h
    simp (maxSteps := 1000000) (disch := omega) only [↓QI_i, ↓QV_v, ↓QA_a, ↓QF_f, ↓QD_d, ↓QL_l, ↓Bool.cond_eq_ite, ↓reduceIte, decide_eq_true_eq, Bool.not_eq_true', Bool.true_and, Bool.and_true, Bool.and_self, gR_some, Option.getD_some, mI_def, setI_def, mR_def, not_false_eq_true, not_true_eq_false, Bool.false_eq_true, idx_nI, nI_add, pk_mul, icB_lt, icB_gt, icB_le, icB_ge, icB_eq, icB_ne, bI_ne, nI_eqI, gl_0 hL, gl_1 hL, gl_2 hL, gl_3 hL, gl_4 hL, gl_5 hL, up2_pl, up2_pl0, pl_at, pl_at0, e7, h7, e0, hxe]
    by_cases hx0 : x = 0
    · subst hx0
      rw [show decide (¬ nI 0 = nI 0) = false by decide, Bool.false_and, if_neg (by decide)] at h
      simp (maxSteps := 1000000) (disch := omega) only [↓QI_i, ↓QV_v, ↓QA_a, ↓QF_f, ↓QD_d, ↓QL_l, ↓Bool.cond_eq_ite, ↓reduceIte, decide_eq_true_eq, Bool.not_eq_true', Bool.true_and, Bool.and_true, Bool.and_self, gR_some, Option.getD_some, mI_def, setI_def, mR_def, not_false_eq_true, not_true_eq_false, Bool.false_eq_true, idx_nI, nI_add, pk_mul, icB_lt, icB_gt, icB_le, icB_ge, icB_eq, icB_ne, bI_ne, nI_eqI, gl_0 hL, gl_1 hL, gl_2 hL, gl_3 hL, gl_4 hL, gl_5 hL, up2_pl, up2_pl0, pl_at, pl_at0, Nat.le_refl]
      exact end43 h
    · have hx0' : ¬ x ≤ 0 := by omega
      rw [decide_eq_true (not_nI (by omega) (by decide) hx0), Bool.true_and] at h
      simp (maxSteps := 1000000) (disch := omega) only [↓QI_i, ↓QV_v, ↓QA_a, ↓QF_f, ↓QD_d, ↓QL_l, ↓Bool.cond_eq_ite, ↓reduceIte, decide_eq_true_eq, Bool.not_eq_true', Bool.true_and, Bool.and_true, Bool.and_self, gR_some, Option.getD_some, mI_def, setI_def, mR_def, not_false_eq_true, not_true_eq_false, Bool.false_eq_true, idx_nI, nI_add, pk_mul, icB_lt, icB_gt, icB_le, icB_ge, icB_eq, icB_ne, bI_ne, nI_eqI, gl_0 hL, gl_1 hL, gl_2 hL, gl_3 hL, gl_4 hL, gl_5 hL, up2_pl, up2_pl0, pl_at, pl_at0, hx0', e2, l_ready hL hG (show i ≤ b by omega)]
      cases hr : rdy z a i (pt z i 2)
      · rw [hr, Bool.not_false, if_pos rfl] at h
        try simp (maxSteps := 1000000) (disch := omega) only [↓QI_i, ↓QV_v, ↓QA_a, ↓QF_f, ↓QD_d, ↓QL_l, ↓Bool.cond_eq_ite, ↓reduceIte, decide_eq_true_eq, Bool.not_eq_true', Bool.true_and, Bool.and_true, Bool.and_self, gR_some, Option.getD_some, mI_def, setI_def, mR_def, not_false_eq_true, not_true_eq_false, Bool.false_eq_true, idx_nI, nI_add, pk_mul, icB_lt, icB_gt, icB_le, icB_ge, icB_eq, icB_ne, bI_ne, nI_eqI, gl_0 hL, gl_1 hL, gl_2 hL, gl_3 hL, gl_4 hL, gl_5 hL, up2_pl, up2_pl0, pl_at, pl_at0, bI_f]
        exact h
      · rw [hr, Bool.not_true, if_neg (by decide)] at h
        try simp (maxSteps := 1000000) (disch := omega) only [↓QI_i, ↓QV_v, ↓QA_a, ↓QF_f, ↓QD_d, ↓QL_l, ↓Bool.cond_eq_ite, ↓reduceIte, decide_eq_true_eq, Bool.not_eq_true', Bool.true_and, Bool.and_true, Bool.and_self, gR_some, Option.getD_some, mI_def, setI_def, mR_def, not_false_eq_true, not_true_eq_false, Bool.false_eq_true, idx_nI, nI_add, pk_mul, icB_lt, icB_gt, icB_le, icB_ge, icB_eq, icB_ne, bI_ne, nI_eqI, gl_0 hL, gl_1 hL, gl_2 hL, gl_3 hL, gl_4 hL, gl_5 hL, up2_pl, up2_pl0, pl_at, pl_at0, bI_t, Bool.true_eq_false]
        rw [decide_eq_true (not_nI (by omega) (by decide) hx0), Bool.true_and] at end43
        exact end43 h
  · rw [if_neg h7] at h
    simp (maxSteps := 1000000) (disch := omega) only [↓QI_i, ↓QV_v, ↓QA_a, ↓QF_f, ↓QD_d, ↓QL_l, ↓Bool.cond_eq_ite, ↓reduceIte, decide_eq_true_eq, Bool.not_eq_true', Bool.true_and, Bool.and_true, Bool.and_self, gR_some, Option.getD_some, mI_def, setI_def, mR_def, not_false_eq_true, not_true_eq_false, Bool.false_eq_true, idx_nI, nI_add, pk_mul, icB_lt, icB_gt, icB_le, icB_ge, icB_eq, icB_ne, bI_ne, nI_eqI, gl_0 hL, gl_1 hL, gl_2 hL, gl_3 hL, gl_4 hL, gl_5 hL, up2_pl, up2_pl0, pl_at, pl_at0, e7, h7]
    exact h
