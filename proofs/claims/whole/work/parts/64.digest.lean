/-! digests: the class's -/
def dgF (f : Nat → Int32) : Nat → Int64 → Int64
  | 0, h => h
  | n + 1, h => (Int64.ofNat 31 * dgF f n h) + (f n).toInt64
theorem k_dg95_20 {xs : Scr} {I : In2} {ρ : Rh} {Q : Post} {z : Zt} {a b n : Nat} {p p0 : Int64} (hW : Rw ρ) (g : Big (bk I 1) z a b n) {i : Nat} (hi : i < n) : ∀ {d w : Nat}, w + d = 7 → Ev xs 95 5 [.ref 0, .long p0, .null, .long (dgF (fun j => pt z (j / 7) (j % 7)) (7 * (i + 1)) p), .null, .int (nI (i + 1)), .int (nI 7)] [] (I, ρ) Q → Ev xs 95 20 [.ref 0, .long p0, .null, .long (dgF (fun j => pt z (j / 7) (j % 7)) (7 * i + w) p), .null, .int (nI i), .int (nI w)] [] (I, ρ) Q := by
  intro d
  induction d with
  | zero =>
    intro w hw h
    obtain rfl : w = 7 := by omega
    apply w_X4_hashProgram_20
    simp (maxSteps := 1000000) (disch := omega) only [↓QI_i, ↓QV_v, ↓QA_a, ↓QF_f, ↓QD_d, ↓QL_l, ↓Bool.cond_eq_ite, ↓reduceIte, decide_eq_true_eq, Bool.not_eq_true', Bool.true_and, Bool.and_true, Bool.and_self, gR_some, Option.getD_some, mI_def, setI_def, mR_def, not_false_eq_true, not_true_eq_false, Bool.false_eq_true, idx_nI, nI_add, pk_mul, icB_lt, icB_gt, icB_le, icB_ge, icB_eq, icB_ne, bI_ne, nI_eqI, Nat.le_refl]
    exact h
  | succ d ih =>
    intro w hw h
    have hk : ¬ 7 ≤ w := by omega
    have hw7 : w < 7 := by omega
    have e1 : (7 * i + w) / 7 = i := by omega
    have e2 : (7 * i + w) % 7 = w := by omega
    have hb := g.1.bnd
    have hi24 : i < 24 := by omega
    have ka : ∀ {Q : Post}, Ev xs 17 0 [.ref 1, .int (nI i)] [] (I, ρ) Q ↔ Q (.inl (some (.ref (1 + (6 + i))))) (I, ρ) := fun {Q} => k_at hW Bs_1 hi24
    have kp : ∀ {Q : Post}, Ev xs 12 0 [.ref (1 + (6 + i)), .int (nI w)] [] (I, ρ) Q ↔ Q (.inl (some (.int (pt z i w)))) (I, ρ) := fun {Q} => K_at fun Q => k_part hW Bs_1 g hi hw7
    apply w_X4_hashProgram_20
    simp (maxSteps := 1000000) (disch := omega) only [↓QI_i, ↓QV_v, ↓QA_a, ↓QF_f, ↓QD_d, ↓QL_l, ↓Bool.cond_eq_ite, ↓reduceIte, decide_eq_true_eq, Bool.not_eq_true', Bool.true_and, Bool.and_true, Bool.and_self, gR_some, Option.getD_some, mI_def, setI_def, mR_def, not_false_eq_true, not_true_eq_false, Bool.false_eq_true, idx_nI, nI_add, pk_mul, icB_lt, icB_gt, icB_le, icB_ge, icB_eq, icB_ne, bI_ne, nI_eqI, hk, gc_O hW, gc_0 hW, gm_O hW Bs_1, ↓ka, ka, gm_P hW Bs_1, ↓kp, kp]
    have := ih (w := w + 1) (by omega) h
    rw [← Nat.add_assoc, dgF] at this
    rw [e1, e2] at this
    exact this
theorem k_dg95_5 {xs : Scr} {I : In2} {ρ : Rh} {Q : Post} {z : Zt} {a b n : Nat} {p p0 : Int64} (hW : Rw ρ) (g : Big (bk I 1) z a b n) : ∀ {d i : Nat} {v6 : Value}, i + d = n → (∀ v6, Ev xs 95 70 [.ref 0, .long p0, .null, .long (dgF (fun j => pt z (j / 7) (j % 7)) (7 * n) p), .null, .int (nI a), v6] [] (I, ρ) Q) → Ev xs 95 5 [.ref 0, .long p0, .null, .long (dgF (fun j => pt z (j / 7) (j % 7)) (7 * i) p), .null, .int (nI i), v6] [] (I, ρ) Q := by
  have hb := g.1.bnd
  have q6 : I 1 6 = nI n := g.c6
  have q8 : I 1 8 = nI a := (g.2.2.cyc (k := 3) (by decide)).trans g.1.h3
  intro d
  induction d with
  | zero =>
    intro i v6 hi h
    obtain rfl : i = n := by omega
    apply w_X4_hashProgram_5
    simp (maxSteps := 1000000) (disch := omega) only [↓QI_i, ↓QV_v, ↓QA_a, ↓QF_f, ↓QD_d, ↓QL_l, ↓Bool.cond_eq_ite, ↓reduceIte, decide_eq_true_eq, Bool.not_eq_true', Bool.true_and, Bool.and_true, Bool.and_self, gR_some, Option.getD_some, mI_def, setI_def, mR_def, not_false_eq_true, not_true_eq_false, Bool.false_eq_true, idx_nI, nI_add, pk_mul, icB_lt, icB_gt, icB_le, icB_ge, icB_eq, icB_ne, bI_ne, nI_eqI, gc_O hW, gc_0 hW, gm_O hW Bs_1, q6, q8, Nat.le_refl]
    exact h v6
  | succ d ih =>
    intro i v6 hi h
    have hk : ¬ n ≤ i := by omega
    apply w_X4_hashProgram_5
    simp (maxSteps := 1000000) (disch := omega) only [↓QI_i, ↓QV_v, ↓QA_a, ↓QF_f, ↓QD_d, ↓QL_l, ↓Bool.cond_eq_ite, ↓reduceIte, decide_eq_true_eq, Bool.not_eq_true', Bool.true_and, Bool.and_true, Bool.and_self, gR_some, Option.getD_some, mI_def, setI_def, mR_def, not_false_eq_true, not_true_eq_false, Bool.false_eq_true, idx_nI, nI_add, pk_mul, icB_lt, icB_gt, icB_le, icB_ge, icB_eq, icB_ne, bI_ne, nI_eqI, gc_O hW, gc_0 hW, gm_O hW Bs_1, q6, hk]
    exact k_dg95_20 hW g (by omega) (d := 7) (w := 0) (by decide) (ih (by omega) h)
theorem k_dg95_85 {xs : Scr} {I : In2} {ρ : Rh} {Q : Post} {z : Zt} {a b n : Nat} {p p0 : Int64} (hW : Rw ρ) (g : Big (bk I 1) z a b n) {i : Nat} (ha : a ≤ i) (hi : i < b) : ∀ {d w : Nat}, w + d = 9 → Ev xs 95 70 [.ref 0, .long p0, .null, .long (dgF (fun j => epV z a (a + j / 9) (j % 9)) (9 * ((i - a) + 1)) p), .null, .int (nI (i + 1)), .int (nI 9)] [] (I, ρ) Q → Ev xs 95 85 [.ref 0, .long p0, .null, .long (dgF (fun j => epV z a (a + j / 9) (j % 9)) (9 * (i - a) + w) p), .null, .int (nI i), .int (nI w)] [] (I, ρ) Q := by
  intro d
  induction d with
  | zero =>
    intro w hw h
    obtain rfl : w = 9 := by omega
    apply w_X4_hashProgram_85
    simp (maxSteps := 1000000) (disch := omega) only [↓QI_i, ↓QV_v, ↓QA_a, ↓QF_f, ↓QD_d, ↓QL_l, ↓Bool.cond_eq_ite, ↓reduceIte, decide_eq_true_eq, Bool.not_eq_true', Bool.true_and, Bool.and_true, Bool.and_self, gR_some, Option.getD_some, mI_def, setI_def, mR_def, not_false_eq_true, not_true_eq_false, Bool.false_eq_true, idx_nI, nI_add, pk_mul, icB_lt, icB_gt, icB_le, icB_ge, icB_eq, icB_ne, bI_ne, nI_eqI, Nat.le_refl]
    exact h
  | succ d ih =>
    intro w hw h
    have hk : ¬ 9 ≤ w := by omega
    have hw9 : w < 9 := by omega
    have e1 : (9 * (i - a) + w) / 9 = (i - a) := by omega
    have e2 : (9 * (i - a) + w) % 9 = w := by omega
    have hb := g.1.bnd
    have e3 : a + (i - a) = i := by omega
    have kp : ∀ {Q : Post}, Ev xs 24 0 [.ref 1, .int (nI i), .int (nI w), .null, .null] [] (I, ρ) Q ↔ Q (.inl (some (.int (epV z a i w)))) (I, ρ) := fun {Q} => K_at fun Q => k_property hW Bs_1 g ha hi hw9
    apply w_X4_hashProgram_85
    simp (maxSteps := 1000000) (disch := omega) only [↓QI_i, ↓QV_v, ↓QA_a, ↓QF_f, ↓QD_d, ↓QL_l, ↓Bool.cond_eq_ite, ↓reduceIte, decide_eq_true_eq, Bool.not_eq_true', Bool.true_and, Bool.and_true, Bool.and_self, gR_some, Option.getD_some, mI_def, setI_def, mR_def, not_false_eq_true, not_true_eq_false, Bool.false_eq_true, idx_nI, nI_add, pk_mul, icB_lt, icB_gt, icB_le, icB_ge, icB_eq, icB_ne, bI_ne, nI_eqI, hk, gc_O hW, gc_0 hW, gm_O hW Bs_1, ↓kp, kp]
    have := ih (w := w + 1) (by omega) h
    rw [← Nat.add_assoc, dgF] at this
    rw [e1, e2, e3] at this
    exact this
theorem k_dg95_70 {xs : Scr} {I : In2} {ρ : Rh} {Q : Post} {z : Zt} {a b n : Nat} {p p0 : Int64} (hW : Rw ρ) (g : Big (bk I 1) z a b n) : ∀ {d i : Nat} {v6 : Value}, a ≤ i → i + d = b → Q (.inl (some (.long (dgF (fun j => epV z a (a + j / 9) (j % 9)) (9 * (b - a)) p)))) (I, ρ) → Ev xs 95 70 [.ref 0, .long p0, .null, .long (dgF (fun j => epV z a (a + j / 9) (j % 9)) (9 * (i - a)) p), .null, .int (nI i), v6] [] (I, ρ) Q := by
  have hb := g.1.bnd
  have q7 : I 1 7 = nI b := (g.2.2.cyc (k := 2) (by decide)).trans g.1.h2
  intro d
  induction d with
  | zero =>
    intro i v6 ha hi h
    obtain rfl : i = b := by omega
    apply w_X4_hashProgram_70
    simp (maxSteps := 1000000) (disch := omega) only [↓QI_i, ↓QV_v, ↓QA_a, ↓QF_f, ↓QD_d, ↓QL_l, ↓Bool.cond_eq_ite, ↓reduceIte, decide_eq_true_eq, Bool.not_eq_true', Bool.true_and, Bool.and_true, Bool.and_self, gR_some, Option.getD_some, mI_def, setI_def, mR_def, not_false_eq_true, not_true_eq_false, Bool.false_eq_true, idx_nI, nI_add, pk_mul, icB_lt, icB_gt, icB_le, icB_ge, icB_eq, icB_ne, bI_ne, nI_eqI, gc_O hW, gc_0 hW, gm_O hW Bs_1, q7, Nat.le_refl]
    exact h
  | succ d ih =>
    intro i v6 ha hi h
    have hk : ¬ b ≤ i := by omega
    have e : i - a + 1 = i + 1 - a := by omega
    apply w_X4_hashProgram_70
    simp (maxSteps := 1000000) (disch := omega) only [↓QI_i, ↓QV_v, ↓QA_a, ↓QF_f, ↓QD_d, ↓QL_l, ↓Bool.cond_eq_ite, ↓reduceIte, decide_eq_true_eq, Bool.not_eq_true', Bool.true_and, Bool.and_true, Bool.and_self, gR_some, Option.getD_some, mI_def, setI_def, mR_def, not_false_eq_true, not_true_eq_false, Bool.false_eq_true, idx_nI, nI_add, pk_mul, icB_lt, icB_gt, icB_le, icB_ge, icB_eq, icB_ne, bI_ne, nI_eqI, gc_O hW, gc_0 hW, gm_O hW Bs_1, q7, hk]
    refine k_dg95_85 hW g ha (by omega) (d := 9) (w := 0) (by decide) ?_
    rw [e]
    exact ih (by omega) (by omega) h
theorem k_dg95 {xs : Scr} {I : In2} {ρ : Rh} {Q : Post} {z : Zt} {a b n : Nat} {p p0 : Int64} (hW : Rw ρ) (g : Big (bk I 1) z a b n) (h : Q (.inl (some (.long (dgF (fun j => epV z a (a + j / 9) (j % 9)) (9 * (b - a)) (dgF (fun j => pt z (j / 7) (j % 7)) (7 * n) p))))) (I, ρ)) : Ev xs 95 0 [.ref 0, .long p, .null, .null, .null, .null, .null] [] (I, ρ) Q := by
  have hb := g.1.bnd
  apply w_X4_hashProgram_0
  refine k_dg95_5 hW g (d := n) (i := 0) (by omega) fun v6 => ?_
  have := k_dg95_70 (xs := xs) (p0 := p) hW g (d := b - a) (i := a) (v6 := v6) (Nat.le_refl a) (by omega) h
  rw [Nat.sub_self] at this
  exact this
theorem k_dg96_15 {xs : Scr} {I : In2} {ρ : Rh} {Q : Post} {z : Zt} {p p0 : Int64} (hW : Rw ρ) (g : Good (bk I 1) z) (hp : RhP I z) {i : Nat} (hi : i < 8) : ∀ {d w : Nat}, w + d = 3 → Ev xs 96 5 [.ref 0, .long p0, .null, .long (dgF (fun j => rgV z (j / 3) (j % 3)) (3 * (i + 1)) p), .null, .int (nI (i + 1)), .int (nI 3)] [] (I, ρ) Q → Ev xs 96 15 [.ref 0, .long p0, .null, .long (dgF (fun j => rgV z (j / 3) (j % 3)) (3 * i + w) p), .null, .int (nI i), .int (nI w)] [] (I, ρ) Q := by
  intro d
  induction d with
  | zero =>
    intro w hw h
    obtain rfl : w = 3 := by omega
    apply w_X4_hashValues_15
    simp (maxSteps := 1000000) (disch := omega) only [↓QI_i, ↓QV_v, ↓QA_a, ↓QF_f, ↓QD_d, ↓QL_l, ↓Bool.cond_eq_ite, ↓reduceIte, decide_eq_true_eq, Bool.not_eq_true', Bool.true_and, Bool.and_true, Bool.and_self, gR_some, Option.getD_some, mI_def, setI_def, mR_def, not_false_eq_true, not_true_eq_false, Bool.false_eq_true, idx_nI, nI_add, pk_mul, icB_lt, icB_gt, icB_le, icB_ge, icB_eq, icB_ne, bI_ne, nI_eqI, Nat.le_refl]
    exact h
  | succ d ih =>
    intro w hw h
    have hk : ¬ 3 ≤ w := by omega
    have hw3 : w < 3 := by omega
    have e1 : (3 * i + w) / 3 = i := by omega
    have e2 : (3 * i + w) % 3 = w := by omega
    have kp : ∀ {Q : Post}, Ev xs 86 0 [.ref 0, .int (nI i), .int (nI w)] [] (I, ρ) Q ↔ Q (.inl (some (.int (rgV z i w)))) (I, ρ) := fun {Q} => k_regFact hW g hi hw3 fun _ => hp
    apply w_X4_hashValues_15
    simp (maxSteps := 1000000) (disch := omega) only [↓QI_i, ↓QV_v, ↓QA_a, ↓QF_f, ↓QD_d, ↓QL_l, ↓Bool.cond_eq_ite, ↓reduceIte, decide_eq_true_eq, Bool.not_eq_true', Bool.true_and, Bool.and_true, Bool.and_self, gR_some, Option.getD_some, mI_def, setI_def, mR_def, not_false_eq_true, not_true_eq_false, Bool.false_eq_true, idx_nI, nI_add, pk_mul, icB_lt, icB_gt, icB_le, icB_ge, icB_eq, icB_ne, bI_ne, nI_eqI, hk, gc_O hW, gc_0 hW, gm_O hW Bs_1, ↓kp, kp]
    have := ih (w := w + 1) (by omega) h
    rw [← Nat.add_assoc, dgF] at this
    rw [e1, e2] at this
    exact this
theorem k_dg96_5 {xs : Scr} {I : In2} {ρ : Rh} {Q : Post} {z : Zt} {p p0 : Int64} (hW : Rw ρ) (g : Good (bk I 1) z) (hp : RhP I z) : ∀ {d i : Nat} {v6 : Value}, i + d = 8 → (∀ v6, Ev xs 96 52 [.ref 0, .long p0, .null, .long (dgF (fun j => rgV z (j / 3) (j % 3)) 24 p), .null, .int (nI 0), v6] [] (I, ρ) Q) → Ev xs 96 5 [.ref 0, .long p0, .null, .long (dgF (fun j => rgV z (j / 3) (j % 3)) (3 * i) p), .null, .int (nI i), v6] [] (I, ρ) Q := by
  intro d
  induction d with
  | zero =>
    intro i v6 hi h
    obtain rfl : i = 8 := by omega
    apply w_X4_hashValues_5
    simp (maxSteps := 1000000) (disch := omega) only [↓QI_i, ↓QV_v, ↓QA_a, ↓QF_f, ↓QD_d, ↓QL_l, ↓Bool.cond_eq_ite, ↓reduceIte, decide_eq_true_eq, Bool.not_eq_true', Bool.true_and, Bool.and_true, Bool.and_self, gR_some, Option.getD_some, mI_def, setI_def, mR_def, not_false_eq_true, not_true_eq_false, Bool.false_eq_true, idx_nI, nI_add, pk_mul, icB_lt, icB_gt, icB_le, icB_ge, icB_eq, icB_ne, bI_ne, nI_eqI, Nat.le_refl]
    exact h v6
  | succ d ih =>
    intro i v6 hi h
    have hk : ¬ 8 ≤ i := by omega
    apply w_X4_hashValues_5
    simp (maxSteps := 1000000) (disch := omega) only [↓QI_i, ↓QV_v, ↓QA_a, ↓QF_f, ↓QD_d, ↓QL_l, ↓Bool.cond_eq_ite, ↓reduceIte, decide_eq_true_eq, Bool.not_eq_true', Bool.true_and, Bool.and_true, Bool.and_self, gR_some, Option.getD_some, mI_def, setI_def, mR_def, not_false_eq_true, not_true_eq_false, Bool.false_eq_true, idx_nI, nI_add, pk_mul, icB_lt, icB_gt, icB_le, icB_ge, icB_eq, icB_ne, bI_ne, nI_eqI, hk]
    exact k_dg96_15 hW g hp (by omega) (d := 3) (w := 0) (by decide) (ih (by omega) h)
theorem k_dg96_62 {xs : Scr} {I : In2} {ρ : Rh} {Q : Post} {z : Zt} {p p0 : Int64} (hW : Rw ρ) (g : Good (bk I 1) z) (hp : RhP I z) {i : Nat} (hi : i < 16) : ∀ {d w : Nat}, w + d = 2 → Ev xs 96 52 [.ref 0, .long p0, .null, .long (dgF (fun j => clV z (j / 2) (j % 2)) (2 * (i + 1)) p), .null, .int (nI (i + 1)), .int (nI 2)] [] (I, ρ) Q → Ev xs 96 62 [.ref 0, .long p0, .null, .long (dgF (fun j => clV z (j / 2) (j % 2)) (2 * i + w) p), .null, .int (nI i), .int (nI w)] [] (I, ρ) Q := by
  intro d
  induction d with
  | zero =>
    intro w hw h
    obtain rfl : w = 2 := by omega
    apply w_X4_hashValues_62
    simp (maxSteps := 1000000) (disch := omega) only [↓QI_i, ↓QV_v, ↓QA_a, ↓QF_f, ↓QD_d, ↓QL_l, ↓Bool.cond_eq_ite, ↓reduceIte, decide_eq_true_eq, Bool.not_eq_true', Bool.true_and, Bool.and_true, Bool.and_self, gR_some, Option.getD_some, mI_def, setI_def, mR_def, not_false_eq_true, not_true_eq_false, Bool.false_eq_true, idx_nI, nI_add, pk_mul, icB_lt, icB_gt, icB_le, icB_ge, icB_eq, icB_ne, bI_ne, nI_eqI, Nat.le_refl]
    exact h
  | succ d ih =>
    intro w hw h
    have hk : ¬ 2 ≤ w := by omega
    have hw2 : w < 2 := by omega
    have e1 : (2 * i + w) / 2 = i := by omega
    have e2 : (2 * i + w) % 2 = w := by omega
    have kp : ∀ {Q : Post}, Ev xs 87 0 [.ref 0, .int (nI i), .int (nI w)] [] (I, ρ) Q ↔ Q (.inl (some (.int (clV z i w)))) (I, ρ) := fun {Q} => k_cellFact hW g hi hw2 fun _ => hp
    apply w_X4_hashValues_62
    simp (maxSteps := 1000000) (disch := omega) only [↓QI_i, ↓QV_v, ↓QA_a, ↓QF_f, ↓QD_d, ↓QL_l, ↓Bool.cond_eq_ite, ↓reduceIte, decide_eq_true_eq, Bool.not_eq_true', Bool.true_and, Bool.and_true, Bool.and_self, gR_some, Option.getD_some, mI_def, setI_def, mR_def, not_false_eq_true, not_true_eq_false, Bool.false_eq_true, idx_nI, nI_add, pk_mul, icB_lt, icB_gt, icB_le, icB_ge, icB_eq, icB_ne, bI_ne, nI_eqI, hk, gc_O hW, gc_0 hW, gm_O hW Bs_1, ↓kp, kp]
    have := ih (w := w + 1) (by omega) h
    rw [← Nat.add_assoc, dgF] at this
    rw [e1, e2] at this
    exact this
theorem k_dg96_52 {xs : Scr} {I : In2} {ρ : Rh} {Q : Post} {z : Zt} {p p0 : Int64} (hW : Rw ρ) (g : Good (bk I 1) z) (hp : RhP I z) : ∀ {d i : Nat} {v6 : Value}, i + d = 16 → Q (.inl (some (.long (dgF (fun j => clV z (j / 2) (j % 2)) 32 p)))) (I, ρ) → Ev xs 96 52 [.ref 0, .long p0, .null, .long (dgF (fun j => clV z (j / 2) (j % 2)) (2 * i) p), .null, .int (nI i), v6] [] (I, ρ) Q := by
  intro d
  induction d with
  | zero =>
    intro i v6 hi h
    obtain rfl : i = 16 := by omega
    apply w_X4_hashValues_52
    simp (maxSteps := 1000000) (disch := omega) only [↓QI_i, ↓QV_v, ↓QA_a, ↓QF_f, ↓QD_d, ↓QL_l, ↓Bool.cond_eq_ite, ↓reduceIte, decide_eq_true_eq, Bool.not_eq_true', Bool.true_and, Bool.and_true, Bool.and_self, gR_some, Option.getD_some, mI_def, setI_def, mR_def, not_false_eq_true, not_true_eq_false, Bool.false_eq_true, idx_nI, nI_add, pk_mul, icB_lt, icB_gt, icB_le, icB_ge, icB_eq, icB_ne, bI_ne, nI_eqI, Nat.le_refl]
    exact h
  | succ d ih =>
    intro i v6 hi h
    have hk : ¬ 16 ≤ i := by omega
    apply w_X4_hashValues_52
    simp (maxSteps := 1000000) (disch := omega) only [↓QI_i, ↓QV_v, ↓QA_a, ↓QF_f, ↓QD_d, ↓QL_l, ↓Bool.cond_eq_ite, ↓reduceIte, decide_eq_true_eq, Bool.not_eq_true', Bool.true_and, Bool.and_true, Bool.and_self, gR_some, Option.getD_some, mI_def, setI_def, mR_def, not_false_eq_true, not_true_eq_false, Bool.false_eq_true, idx_nI, nI_add, pk_mul, icB_lt, icB_gt, icB_le, icB_ge, icB_eq, icB_ne, bI_ne, nI_eqI, hk]
    exact k_dg96_62 hW g hp (by omega) (d := 2) (w := 0) (by decide) (ih (by omega) h)
theorem k_dg96 {xs : Scr} {I : In2} {ρ : Rh} {Q : Post} {z : Zt} {p p0 : Int64} (hW : Rw ρ) (g : Good (bk I 1) z) (hp : RhP I z) (h : Q (.inl (some (.long (dgF (fun j => clV z (j / 2) (j % 2)) 32 (dgF (fun j => rgV z (j / 3) (j % 3)) 24 p))))) (I, ρ)) : Ev xs 96 0 [.ref 0, .long p, .null, .null, .null, .null, .null] [] (I, ρ) Q := by
  apply w_X4_hashValues_0
  exact k_dg96_5 hW g hp (d := 8) (i := 0) (by decide) fun v6 => k_dg96_52 hW g hp (d := 16) (i := 0) (by decide) h
/-- the state that a digest leaves -/
def Dst (I0 : In2) (ρ0 : Rh) (z : Zt) (s : Nat) (zs : Nat → Zt) (tl : Nat × Zt) (I : In2) (ρ : Rh) : Prop := Rw ρ ∧ ρ.2 = ρ0.2 ∧ Cst I ρ z s zs tl ∧ ∀ a k, 245 ≤ a → I a k = I0 a k
def cnX (z : Zt) (s : Nat) (w : Nat) : Int32 := cnV z (idx (z 3)) (idx (z 2)) (idx (z 1)) s w
theorem k_dg94_35 {xs : Scr} {Q : Post} {I0 : In2} {ρ0 : Rh} {z : Zt} {s : Nat} {zs : Nat → Zt} {tl : Nat × Zt} {p p0 : Int64} : ∀ {d i : Nat} {I : In2} {ρ : Rh}, i + d = 3 → Dst I0 ρ0 z s zs tl I ρ → (∀ I' ρ', Dst I0 ρ0 z s zs tl I' ρ' → Q (.inl (some (.long (dgF (fun j => z (9 + j)) 3 p)))) (I', ρ')) → Ev xs 94 35 [.ref 0, .long p0, .null, .long (dgF (fun j => z (9 + j)) i p), .null, .int (nI i)] [] (I, ρ) Q := by
  intro d
  induction d with
  | zero =>
    intro i I ρ hi hD h
    obtain rfl : i = 3 := by omega
    apply w_X4_hashNumbers_35
    simp (maxSteps := 1000000) (disch := omega) only [↓QI_i, ↓QV_v, ↓QA_a, ↓QF_f, ↓QD_d, ↓QL_l, ↓Bool.cond_eq_ite, ↓reduceIte, decide_eq_true_eq, Bool.not_eq_true', Bool.true_and, Bool.and_true, Bool.and_self, gR_some, Option.getD_some, mI_def, setI_def, mR_def, not_false_eq_true, not_true_eq_false, Bool.false_eq_true, idx_nI, nI_add, pk_mul, icB_lt, icB_gt, icB_le, icB_ge, icB_eq, icB_ne, bI_ne, nI_eqI, Nat.le_refl]
    exact h I ρ hD
  | succ d ih =>
    intro i I ρ hi hD h
    obtain ⟨hW, hρ, hC, hfr⟩ := hD
    have hk : ¬ 3 ≤ i := by omega
    apply w_X4_hashNumbers_35
    simp (maxSteps := 1000000) (disch := omega) only [↓QI_i, ↓QV_v, ↓QA_a, ↓QF_f, ↓QD_d, ↓QL_l, ↓Bool.cond_eq_ite, ↓reduceIte, decide_eq_true_eq, Bool.not_eq_true', Bool.true_and, Bool.and_true, Bool.and_self, gR_some, Option.getD_some, mI_def, setI_def, mR_def, not_false_eq_true, not_true_eq_false, Bool.false_eq_true, idx_nI, nI_add, pk_mul, icB_lt, icB_gt, icB_le, icB_ge, icB_eq, icB_ne, bI_ne, nI_eqI, hk, gc_O hW]
    refine k_setting hW hC (fun w hw e I' ρ' hW' hρ' hC' hfr' => ?_) fun e => ?_
    · rw [nI_eqI (by omega) (by omega)] at e
      subst e
      exact ih (i := i + 1) (by omega) ⟨hW', hρ'.trans hρ, hC', fun a k ha => (hfr' a k ha).trans (hfr a k ha)⟩ h
    · rw [inB_n (by decide) (by omega)] at e; exact absurd e (by decide)
theorem k_dg94_5 {xs : Scr} {Q : Post} {I0 : In2} {ρ0 : Rh} {z : Zt} {s : Nat} {zs : Nat → Zt} {tl : Nat × Zt} {p p0 : Int64} : ∀ {d i : Nat} {I : In2} {ρ : Rh}, i + d = 12 → Dst I0 ρ0 z s zs tl I ρ → (∀ I' ρ', Dst I0 ρ0 z s zs tl I' ρ' → Ev xs 94 35 [.ref 0, .long p0, .null, .long (dgF (cnX z s) 12 p), .null, .int (nI 0)] [] (I', ρ') Q) → Ev xs 94 5 [.ref 0, .long p0, .null, .long (dgF (cnX z s) i p), .null, .int (nI i)] [] (I, ρ) Q := by
  intro d
  induction d with
  | zero =>
    intro i I ρ hi hD h
    obtain rfl : i = 12 := by omega
    apply w_X4_hashNumbers_5
    simp (maxSteps := 1000000) (disch := omega) only [↓QI_i, ↓QV_v, ↓QA_a, ↓QF_f, ↓QD_d, ↓QL_l, ↓Bool.cond_eq_ite, ↓reduceIte, decide_eq_true_eq, Bool.not_eq_true', Bool.true_and, Bool.and_true, Bool.and_self, gR_some, Option.getD_some, mI_def, setI_def, mR_def, not_false_eq_true, not_true_eq_false, Bool.false_eq_true, idx_nI, nI_add, pk_mul, icB_lt, icB_gt, icB_le, icB_ge, icB_eq, icB_ne, bI_ne, nI_eqI, Nat.le_refl]
    exact h I ρ hD
  | succ d ih =>
    intro i I ρ hi hD h
    obtain ⟨hW, hρ, hC, hfr⟩ := hD
    have hk : ¬ 12 ≤ i := by omega
    apply w_X4_hashNumbers_5
    simp (maxSteps := 1000000) (disch := omega) only [↓QI_i, ↓QV_v, ↓QA_a, ↓QF_f, ↓QD_d, ↓QL_l, ↓Bool.cond_eq_ite, ↓reduceIte, decide_eq_true_eq, Bool.not_eq_true', Bool.true_and, Bool.and_true, Bool.and_self, gR_some, Option.getD_some, mI_def, setI_def, mR_def, not_false_eq_true, not_true_eq_false, Bool.false_eq_true, idx_nI, nI_add, pk_mul, icB_lt, icB_gt, icB_le, icB_ge, icB_eq, icB_ne, bI_ne, nI_eqI, hk, gc_O hW]
    refine k_count hW hC (fun w hw e I' ρ' hW' hρ' hC' hfr' => ?_) fun e => ?_
    · rw [nI_eqI (by omega) (by omega)] at e
      subst e
      exact ih (i := i + 1) (by omega) ⟨hW', hρ'.trans hρ, hC', fun a k ha => (hfr' a k ha).trans (hfr a k ha)⟩ h
    · rw [inB_n (by decide) (by omega)] at e; exact absurd e (by decide)
