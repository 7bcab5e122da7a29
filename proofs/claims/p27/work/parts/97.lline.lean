/-! a line, appended -/
def RowL (w : Nat → Int32) : Prop :=
  (w 0 = nI 0 ∧ (∃ t, t < 4 ∧ w 1 = nI t) ∧ w 2 = nM ∧ w 3 = nM ∧ (∃ v : Int32, -24 ≤ v.toInt ∧ v.toInt ≤ 24 ∧ w 4 = Int32.ofInt (4 * v.toInt)) ∧ ((∃ v, v < 100 ∧ w 4 = nI v) ∨ (∃ v, 1 ≤ v ∧ v < 100 ∧ w 4 = - nI v))) ∨
  ((w 0 = nI 1 ∨ w 0 = nI 2) ∧ (∃ t, t < 4 ∧ w 1 = nI t) ∧ (∃ p, p < 4 ∧ w 2 = nI p) ∧ (∃ q, q < 4 ∧ w 3 = nI q) ∧ w 4 = nI 0) ∨
  (w 0 = nI 3 ∧ (∃ t, t < 4 ∧ w 1 = nI t) ∧ (∃ p, p < 4 ∧ w 2 = nI p) ∧ w 3 = nM ∧ (∃ o, o < 3 ∧ w 4 = nI o)) ∨
  (w 0 = nI 4 ∧ w 1 = nM ∧ (∃ p, p < 4 ∧ w 2 = nI p) ∧ (∃ q, q < 4 ∧ w 3 = nI q) ∧ (∃ o, o < 3 ∧ w 4 = nI o))
theorem neg_lt {v : Nat} (h1 : 1 ≤ v) (hv : v < 100) : icB .ge (- nI v) (nI 0) = false ∧ icB .lt (- nI v) (nI 0) = true ∧ SetOk (- nI v) ∧ - - nI v = nI v := by
  have : ∀ v : Fin 100, 1 ≤ v.1 → icB .ge (- nI v.1) (nI 0) = false ∧ icB .lt (- nI v.1) (nI 0) = true ∧ SetOk (- nI v.1) ∧ - - nI v.1 = nI v.1 := by unfold SetOk; decide
  exact this ⟨v, hv⟩ h1
theorem fig_d {v : Nat} (hv : v < 100) : nI v / nI 10 = nI (v / 10) ∧ nI v - nI v / nI 10 * nI 10 = nI (v % 10) := by
  have : ∀ v : Fin 100, nI v.1 / nI 10 = nI (v.1 / 10) ∧ nI v.1 - nI v.1 / nI 10 * nI 10 = nI (v.1 % 10) := by decide
  exact this ⟨v, hv⟩
theorem RowL.wf {w : Nat → Int32} (h : RowL w) : WfR (w 0) (w 1) (w 2) (w 3) (w 4) := by
  rcases h with ⟨h0, ⟨t, ht, h1⟩, h2, h3, -, hv⟩ | ⟨h0, ⟨t, ht, h1⟩, ⟨p, hp, h2⟩, ⟨q, hq, h3⟩, h4⟩ | ⟨h0, ⟨t, ht, h1⟩, ⟨p, hp, h2⟩, h3, ⟨o, ho, h4⟩⟩ | ⟨h0, h1, ⟨p, hp, h2⟩, ⟨q, hq, h3⟩, ⟨o, ho, h4⟩⟩
  · refine Or.inl ⟨h0, ⟨t, by omega, h1⟩, h2, h3, ?_⟩
    rcases hv with ⟨v, hv, e⟩ | ⟨v, h1v, hv, e⟩
    · rw [e]; exact (SetOk_n (by omega)).1
    · rw [e]; exact (neg_lt h1v hv).2.2.1
  · exact Or.inr (Or.inl ⟨h0, ⟨t, by omega, h1⟩, ⟨p, by omega, h2⟩, ⟨q, by omega, h3⟩, h4⟩)
  · exact Or.inr (Or.inr (Or.inl ⟨h0, ⟨t, by omega, h1⟩, ⟨p, by omega, h2⟩, h3, ⟨o, by omega, h4⟩⟩))
  · exact Or.inr (Or.inr (Or.inr ⟨h0, h1, ⟨p, by omega, h2⟩, ⟨q, by omega, h3⟩, ⟨o, by omega, h4⟩⟩))
section Line
variable {xs : Scr} {I0 I : In2} {ρ0 ρ : Rh} {Q : Post} {z : Zt} {s : Nat} {zs : Nat → Zt} {tl : Nat × Zt} {B : Nat}
theorem l_ln314 {i v : Nat} (hL0 : LB B ρ0) (hT0 : Tg I0 ρ0 z s zs tl I ρ) (hl : tl.1 ≤ 70) (hi : i < 7) (hv : v < 100) (h : ∀ I' ρ', Tg I0 ρ0 z s zs (apT tl (nI (48 + v % 10))) I' ρ' → Q (.inl (some (.int (nI 1)))) (I', ρ')) : Ev xs 120 314 [.ref 0, .int (nI i), .ref B, .int (nI (8 * i)), .int (nI v)] [] (I, ρ) Q := by
  have hB := hL0.1
  have L0 := hT0.LB hL0
  have g0 : ∀ k, I B k = I0 B k := fun k => hT0.2.2.2 B k hB
  apply w_L_line_314
  rw [(fig_d hv).2]
  simp (disch := omega) only [cond_true, cond_false, mI_def, idx_nI, nI_add, icB_ne, icB_eq, icB_le, icB_ge, icB_lt, nI_eqI, not_true_eq_false, not_false_eq_true, decide_true, decide_false, ap_1, Nat.add_eq_zero_iff, Nat.reduceEqDiff, Nat.reduceLeDiff, Nat.reduceLT, Nat.add_assoc, Nat.reduceAdd, Nat.not_lt_zero, gl_0 L0, gc_O hT0.1, g0]
  refine T_append hT0 (w := 48 + v % 10) (by omega) (by omega) (show tl.1 + 0 < 120 by omega) fun I1 ρ1 hT1 => ?_
  have L1 := hT1.LB hL0
  have g1 : ∀ k, I1 B k = I0 B k := fun k => hT1.2.2.2 B k hB
  rw [QI_i]
  simp (disch := omega) only [cond_true, cond_false, mI_def, idx_nI, nI_add, icB_ne, icB_eq, icB_le, icB_ge, icB_lt, nI_eqI, not_true_eq_false, not_false_eq_true, decide_true, decide_false, ap_1, Nat.add_eq_zero_iff, Nat.reduceEqDiff, Nat.reduceLeDiff, Nat.reduceLT, Nat.add_assoc, Nat.reduceAdd, Nat.not_lt_zero, gl_0 L1, gc_O hT1.1, g1]
  exact h _ _ hT1
theorem l_ln292 {i v : Nat} (hL0 : LB B ρ0) (hT0 : Tg I0 ρ0 z s zs tl I ρ) (hl : tl.1 ≤ 60) (hi : i < 7) (hv : v < 100) (h : ∀ I' ρ', Tg I0 ρ0 z s zs (apL tl (fig v)) I' ρ' → Q (.inl (some (.int (nI 1)))) (I', ρ')) : Ev xs 120 292 [.ref 0, .int (nI i), .ref B, .int (nI (8 * i)), .int (nI v)] [] (I, ρ) Q := by
  have hB := hL0.1
  have L0 := hT0.LB hL0
  have g0 : ∀ k, I B k = I0 B k := fun k => hT0.2.2.2 B k hB
  apply w_L_line_292
  rw [(fig_d hv).1]
  unfold fig at h
  by_cases hv10 : v < 10
  · rw [if_pos hv10] at h
    simp (disch := omega) only [icB_lt, hv10, decide_true, cond_true]
    refine l_ln314 hL0 hT0 (by omega) hi hv fun I' ρ' hT' => h I' ρ' ?_
    rw [show v % 10 = v by omega] at hT'
    exact hT'
  rw [if_neg hv10] at h
  simp (disch := omega) only [cond_true, cond_false, mI_def, idx_nI, nI_add, icB_ne, icB_eq, icB_le, icB_ge, icB_lt, nI_eqI, not_true_eq_false, not_false_eq_true, decide_true, decide_false, ap_1, Nat.add_eq_zero_iff, Nat.reduceEqDiff, Nat.reduceLeDiff, Nat.reduceLT, Nat.add_assoc, Nat.reduceAdd, Nat.not_lt_zero, gl_0 L0, gc_O hT0.1, g0, hv10]
  refine T_append hT0 (w := 48 + v / 10) (by omega) (by omega) (show tl.1 + 0 < 120 by omega) fun I1 ρ1 hT1 => ?_
  have L1 := hT1.LB hL0
  have g1 : ∀ k, I1 B k = I0 B k := fun k => hT1.2.2.2 B k hB
  rw [QI_i]
  simp (disch := omega) only [cond_true, cond_false, mI_def, idx_nI, nI_add, icB_ne, icB_eq, icB_le, icB_ge, icB_lt, nI_eqI, not_true_eq_false, not_false_eq_true, decide_true, decide_false, ap_1, Nat.add_eq_zero_iff, Nat.reduceEqDiff, Nat.reduceLeDiff, Nat.reduceLT, Nat.add_assoc, Nat.reduceAdd, Nat.not_lt_zero, gl_0 L1, gc_O hT1.1, g1, hv10]
  exact l_ln314 hL0 hT1 (show tl.1 + 1 ≤ 70 by omega) hi hv fun I' ρ' hT' => h I' ρ' hT'
theorem l_lnS {i : Nat} {v4 : Value} (hL0 : LB B ρ0) (hT0 : Tg I0 ρ0 z s zs tl I ρ) (hl : tl.1 ≤ 50) (hi : i < 7) {p q o : Nat} (hp : p < 8) (hq : q < 8) (ho : o < 10) (e0 : I0 B (8 * i) = nI 4) (e1 : I0 B (8 * i + 1) = nM) (e2 : I0 B (8 * i + 2) = nI p) (e3 : I0 B (8 * i + 3) = nI q) (e4 : I0 B (8 * i + 4) = nI o) (h : ∀ I' ρ' l, Tg I0 ρ0 z s zs (apL tl l) I' ρ' → LnOk l (fun f => I0 B (8 * i + f)) → Q (.inl (some (.int (nI 1)))) (I', ρ')) : Ev xs 120 21 [.ref 0, .int (nI i), .ref B, .int (nI (8 * i)), v4] [] (I, ρ) Q := by
  have hB := hL0.1
  have L0 := hT0.LB hL0
  have g0 : ∀ k, I B k = I0 B k := fun k => hT0.2.2.2 B k hB
  apply w_L_line_21
  simp (disch := omega) only [cond_true, cond_false, mI_def, idx_nI, nI_add, icB_ne, icB_eq, icB_le, icB_ge, icB_lt, nI_eqI, not_true_eq_false, not_false_eq_true, decide_true, decide_false, ap_1, Nat.add_eq_zero_iff, Nat.reduceEqDiff, Nat.reduceLeDiff, Nat.reduceLT, Nat.add_assoc, Nat.reduceAdd, Nat.not_lt_zero, gl_0 L0, gc_O hT0.1, g0, e0, e1, e2, e3, e4]
  refine T_append hT0 (w := 91) (by omega) (by omega) (show tl.1 + 0 < 120 by omega) fun I1 ρ1 hT1 => ?_
  have L1 := hT1.LB hL0
  have g1 : ∀ k, I1 B k = I0 B k := fun k => hT1.2.2.2 B k hB
  rw [QI_i]
  simp (disch := omega) only [cond_true, cond_false, mI_def, idx_nI, nI_add, icB_ne, icB_eq, icB_le, icB_ge, icB_lt, nI_eqI, not_true_eq_false, not_false_eq_true, decide_true, decide_false, ap_1, Nat.add_eq_zero_iff, Nat.reduceEqDiff, Nat.reduceLeDiff, Nat.reduceLT, Nat.add_assoc, Nat.reduceAdd, Nat.not_lt_zero, gl_0 L1, gc_O hT1.1, g1, e0, e1, e2, e3, e4]
  refine T_append hT1 (w := 97 + p) (by omega) (by omega) (show tl.1 + 1 < 120 by omega) fun I2 ρ2 hT2 => ?_
  have L2 := hT2.LB hL0
  have g2 : ∀ k, I2 B k = I0 B k := fun k => hT2.2.2.2 B k hB
  rw [QI_i]
  simp (disch := omega) only [cond_true, cond_false, mI_def, idx_nI, nI_add, icB_ne, icB_eq, icB_le, icB_ge, icB_lt, nI_eqI, not_true_eq_false, not_false_eq_true, decide_true, decide_false, ap_1, Nat.add_eq_zero_iff, Nat.reduceEqDiff, Nat.reduceLeDiff, Nat.reduceLT, Nat.add_assoc, Nat.reduceAdd, Nat.not_lt_zero, gl_0 L2, gc_O hT2.1, g2, e0, e1, e2, e3, e4]
  refine T_append hT2 (w := 48 + o) (by omega) (by omega) (show tl.1 + 2 < 120 by omega) fun I3 ρ3 hT3 => ?_
  have L3 := hT3.LB hL0
  have g3 : ∀ k, I3 B k = I0 B k := fun k => hT3.2.2.2 B k hB
  rw [QI_i]
  simp (disch := omega) only [cond_true, cond_false, mI_def, idx_nI, nI_add, icB_ne, icB_eq, icB_le, icB_ge, icB_lt, nI_eqI, not_true_eq_false, not_false_eq_true, decide_true, decide_false, ap_1, Nat.add_eq_zero_iff, Nat.reduceEqDiff, Nat.reduceLeDiff, Nat.reduceLT, Nat.add_assoc, Nat.reduceAdd, Nat.not_lt_zero, gl_0 L3, gc_O hT3.1, g3, e0, e1, e2, e3, e4]
  refine T_append hT3 (w := 93) (by omega) (by omega) (show tl.1 + 3 < 120 by omega) fun I4 ρ4 hT4 => ?_
  have L4 := hT4.LB hL0
  have g4 : ∀ k, I4 B k = I0 B k := fun k => hT4.2.2.2 B k hB
  rw [QI_i]
  simp (disch := omega) only [cond_true, cond_false, mI_def, idx_nI, nI_add, icB_ne, icB_eq, icB_le, icB_ge, icB_lt, nI_eqI, not_true_eq_false, not_false_eq_true, decide_true, decide_false, ap_1, Nat.add_eq_zero_iff, Nat.reduceEqDiff, Nat.reduceLeDiff, Nat.reduceLT, Nat.add_assoc, Nat.reduceAdd, Nat.not_lt_zero, gl_0 L4, gc_O hT4.1, g4, e0, e1, e2, e3, e4]
  refine T_append hT4 (w := 61) (by omega) (by omega) (show tl.1 + 4 < 120 by omega) fun I5 ρ5 hT5 => ?_
  have L5 := hT5.LB hL0
  have g5 : ∀ k, I5 B k = I0 B k := fun k => hT5.2.2.2 B k hB
  rw [QI_i]
  simp (disch := omega) only [cond_true, cond_false, mI_def, idx_nI, nI_add, icB_ne, icB_eq, icB_le, icB_ge, icB_lt, nI_eqI, not_true_eq_false, not_false_eq_true, decide_true, decide_false, ap_1, Nat.add_eq_zero_iff, Nat.reduceEqDiff, Nat.reduceLeDiff, Nat.reduceLT, Nat.add_assoc, Nat.reduceAdd, Nat.not_lt_zero, gl_0 L5, gc_O hT5.1, g5, e0, e1, e2, e3, e4]
  refine T_append hT5 (w := 97 + q) (by omega) (by omega) (show tl.1 + 5 < 120 by omega) fun I6 ρ6 hT6 => ?_
  have L6 := hT6.LB hL0
  have g6 : ∀ k, I6 B k = I0 B k := fun k => hT6.2.2.2 B k hB
  rw [QI_i]
  simp (disch := omega) only [cond_true, cond_false, mI_def, idx_nI, nI_add, icB_ne, icB_eq, icB_le, icB_ge, icB_lt, nI_eqI, not_true_eq_false, not_false_eq_true, decide_true, decide_false, ap_1, Nat.add_eq_zero_iff, Nat.reduceEqDiff, Nat.reduceLeDiff, Nat.reduceLT, Nat.add_assoc, Nat.reduceAdd, Nat.not_lt_zero, gl_0 L6, gc_O hT6.1, g6, e0, e1, e2, e3, e4]
  exact h _ _ [91, 97 + p, 48 + o, 93, 61, 97 + q] hT6 (Ln_store hp hq ho e0 e1 e2 e3 e4)
theorem l_lnL {i : Nat} {v4 : Value} (hL0 : LB B ρ0) (hT0 : Tg I0 ρ0 z s zs tl I ρ) (hl : tl.1 ≤ 50) (hi : i < 7) {t p o : Nat} (ht : t < 8) (hp : p < 8) (ho : o < 10) (e0 : I0 B (8 * i) = nI 3) (e1 : I0 B (8 * i + 1) = nI t) (e2 : I0 B (8 * i + 2) = nI p) (e3 : I0 B (8 * i + 3) = nM) (e4 : I0 B (8 * i + 4) = nI o) (h : ∀ I' ρ' l, Tg I0 ρ0 z s zs (apL tl l) I' ρ' → LnOk l (fun f => I0 B (8 * i + f)) → Q (.inl (some (.int (nI 1)))) (I', ρ')) : Ev xs 120 21 [.ref 0, .int (nI i), .ref B, .int (nI (8 * i)), v4] [] (I, ρ) Q := by
  have hB := hL0.1
  have L0 := hT0.LB hL0
  have g0 : ∀ k, I B k = I0 B k := fun k => hT0.2.2.2 B k hB
  apply w_L_line_21
  simp (disch := omega) only [cond_true, cond_false, mI_def, idx_nI, nI_add, icB_ne, icB_eq, icB_le, icB_ge, icB_lt, nI_eqI, not_true_eq_false, not_false_eq_true, decide_true, decide_false, ap_1, Nat.add_eq_zero_iff, Nat.reduceEqDiff, Nat.reduceLeDiff, Nat.reduceLT, Nat.add_assoc, Nat.reduceAdd, Nat.not_lt_zero, gl_0 L0, gc_O hT0.1, g0, e0, e1, e2, e3, e4]
  refine T_append hT0 (w := 97 + t) (by omega) (by omega) (show tl.1 + 0 < 120 by omega) fun I1 ρ1 hT1 => ?_
  have L1 := hT1.LB hL0
  have g1 : ∀ k, I1 B k = I0 B k := fun k => hT1.2.2.2 B k hB
  rw [QI_i]
  simp (disch := omega) only [cond_true, cond_false, mI_def, idx_nI, nI_add, icB_ne, icB_eq, icB_le, icB_ge, icB_lt, nI_eqI, not_true_eq_false, not_false_eq_true, decide_true, decide_false, ap_1, Nat.add_eq_zero_iff, Nat.reduceEqDiff, Nat.reduceLeDiff, Nat.reduceLT, Nat.add_assoc, Nat.reduceAdd, Nat.not_lt_zero, gl_0 L1, gc_O hT1.1, g1, e0, e1, e2, e3, e4]
  refine T_append hT1 (w := 61) (by omega) (by omega) (show tl.1 + 1 < 120 by omega) fun I2 ρ2 hT2 => ?_
  have L2 := hT2.LB hL0
  have g2 : ∀ k, I2 B k = I0 B k := fun k => hT2.2.2.2 B k hB
  rw [QI_i]
  simp (disch := omega) only [cond_true, cond_false, mI_def, idx_nI, nI_add, icB_ne, icB_eq, icB_le, icB_ge, icB_lt, nI_eqI, not_true_eq_false, not_false_eq_true, decide_true, decide_false, ap_1, Nat.add_eq_zero_iff, Nat.reduceEqDiff, Nat.reduceLeDiff, Nat.reduceLT, Nat.add_assoc, Nat.reduceAdd, Nat.not_lt_zero, gl_0 L2, gc_O hT2.1, g2, e0, e1, e2, e3, e4]
  refine T_append hT2 (w := 91) (by omega) (by omega) (show tl.1 + 2 < 120 by omega) fun I3 ρ3 hT3 => ?_
  have L3 := hT3.LB hL0
  have g3 : ∀ k, I3 B k = I0 B k := fun k => hT3.2.2.2 B k hB
  rw [QI_i]
  simp (disch := omega) only [cond_true, cond_false, mI_def, idx_nI, nI_add, icB_ne, icB_eq, icB_le, icB_ge, icB_lt, nI_eqI, not_true_eq_false, not_false_eq_true, decide_true, decide_false, ap_1, Nat.add_eq_zero_iff, Nat.reduceEqDiff, Nat.reduceLeDiff, Nat.reduceLT, Nat.add_assoc, Nat.reduceAdd, Nat.not_lt_zero, gl_0 L3, gc_O hT3.1, g3, e0, e1, e2, e3, e4]
  refine T_append hT3 (w := 97 + p) (by omega) (by omega) (show tl.1 + 3 < 120 by omega) fun I4 ρ4 hT4 => ?_
  have L4 := hT4.LB hL0
  have g4 : ∀ k, I4 B k = I0 B k := fun k => hT4.2.2.2 B k hB
  rw [QI_i]
  simp (disch := omega) only [cond_true, cond_false, mI_def, idx_nI, nI_add, icB_ne, icB_eq, icB_le, icB_ge, icB_lt, nI_eqI, not_true_eq_false, not_false_eq_true, decide_true, decide_false, ap_1, Nat.add_eq_zero_iff, Nat.reduceEqDiff, Nat.reduceLeDiff, Nat.reduceLT, Nat.add_assoc, Nat.reduceAdd, Nat.not_lt_zero, gl_0 L4, gc_O hT4.1, g4, e0, e1, e2, e3, e4]
  refine T_append hT4 (w := 48 + o) (by omega) (by omega) (show tl.1 + 4 < 120 by omega) fun I5 ρ5 hT5 => ?_
  have L5 := hT5.LB hL0
  have g5 : ∀ k, I5 B k = I0 B k := fun k => hT5.2.2.2 B k hB
  rw [QI_i]
  simp (disch := omega) only [cond_true, cond_false, mI_def, idx_nI, nI_add, icB_ne, icB_eq, icB_le, icB_ge, icB_lt, nI_eqI, not_true_eq_false, not_false_eq_true, decide_true, decide_false, ap_1, Nat.add_eq_zero_iff, Nat.reduceEqDiff, Nat.reduceLeDiff, Nat.reduceLT, Nat.add_assoc, Nat.reduceAdd, Nat.not_lt_zero, gl_0 L5, gc_O hT5.1, g5, e0, e1, e2, e3, e4]
  refine T_append hT5 (w := 93) (by omega) (by omega) (show tl.1 + 5 < 120 by omega) fun I6 ρ6 hT6 => ?_
  have L6 := hT6.LB hL0
  have g6 : ∀ k, I6 B k = I0 B k := fun k => hT6.2.2.2 B k hB
  rw [QI_i]
  simp (disch := omega) only [cond_true, cond_false, mI_def, idx_nI, nI_add, icB_ne, icB_eq, icB_le, icB_ge, icB_lt, nI_eqI, not_true_eq_false, not_false_eq_true, decide_true, decide_false, ap_1, Nat.add_eq_zero_iff, Nat.reduceEqDiff, Nat.reduceLeDiff, Nat.reduceLT, Nat.add_assoc, Nat.reduceAdd, Nat.not_lt_zero, gl_0 L6, gc_O hT6.1, g6, e0, e1, e2, e3, e4]
  exact h _ _ [97 + t, 61, 91, 97 + p, 48 + o, 93] hT6 (Ln_load ht hp ho e0 e1 e2 e3 e4)
theorem l_lnA {i : Nat} {v4 : Value} (hL0 : LB B ρ0) (hT0 : Tg I0 ρ0 z s zs tl I ρ) (hl : tl.1 ≤ 50) (hi : i < 7) {t p q : Nat} (ht : t < 8) (hp : p < 8) (hq : q < 8) (e0 : I0 B (8 * i) = nI 1) (e1 : I0 B (8 * i + 1) = nI t) (e2 : I0 B (8 * i + 2) = nI p) (e3 : I0 B (8 * i + 3) = nI q) (e4 : I0 B (8 * i + 4) = nI 0) (h : ∀ I' ρ' l, Tg I0 ρ0 z s zs (apL tl l) I' ρ' → LnOk l (fun f => I0 B (8 * i + f)) → Q (.inl (some (.int (nI 1)))) (I', ρ')) : Ev xs 120 21 [.ref 0, .int (nI i), .ref B, .int (nI (8 * i)), v4] [] (I, ρ) Q := by
  have hB := hL0.1
  have L0 := hT0.LB hL0
  have g0 : ∀ k, I B k = I0 B k := fun k => hT0.2.2.2 B k hB
  apply w_L_line_21
  simp (disch := omega) only [cond_true, cond_false, mI_def, idx_nI, nI_add, icB_ne, icB_eq, icB_le, icB_ge, icB_lt, nI_eqI, not_true_eq_false, not_false_eq_true, decide_true, decide_false, ap_1, Nat.add_eq_zero_iff, Nat.reduceEqDiff, Nat.reduceLeDiff, Nat.reduceLT, Nat.add_assoc, Nat.reduceAdd, Nat.not_lt_zero, gl_0 L0, gc_O hT0.1, g0, e0, e1, e2, e3, e4]
  refine T_append hT0 (w := 97 + t) (by omega) (by omega) (show tl.1 + 0 < 120 by omega) fun I1 ρ1 hT1 => ?_
  have L1 := hT1.LB hL0
  have g1 : ∀ k, I1 B k = I0 B k := fun k => hT1.2.2.2 B k hB
  rw [QI_i]
  simp (disch := omega) only [cond_true, cond_false, mI_def, idx_nI, nI_add, icB_ne, icB_eq, icB_le, icB_ge, icB_lt, nI_eqI, not_true_eq_false, not_false_eq_true, decide_true, decide_false, ap_1, Nat.add_eq_zero_iff, Nat.reduceEqDiff, Nat.reduceLeDiff, Nat.reduceLT, Nat.add_assoc, Nat.reduceAdd, Nat.not_lt_zero, gl_0 L1, gc_O hT1.1, g1, e0, e1, e2, e3, e4]
  refine T_append hT1 (w := 61) (by omega) (by omega) (show tl.1 + 1 < 120 by omega) fun I2 ρ2 hT2 => ?_
  have L2 := hT2.LB hL0
  have g2 : ∀ k, I2 B k = I0 B k := fun k => hT2.2.2.2 B k hB
  rw [QI_i]
  simp (disch := omega) only [cond_true, cond_false, mI_def, idx_nI, nI_add, icB_ne, icB_eq, icB_le, icB_ge, icB_lt, nI_eqI, not_true_eq_false, not_false_eq_true, decide_true, decide_false, ap_1, Nat.add_eq_zero_iff, Nat.reduceEqDiff, Nat.reduceLeDiff, Nat.reduceLT, Nat.add_assoc, Nat.reduceAdd, Nat.not_lt_zero, gl_0 L2, gc_O hT2.1, g2, e0, e1, e2, e3, e4]
  refine T_append hT2 (w := 97 + p) (by omega) (by omega) (show tl.1 + 2 < 120 by omega) fun I3 ρ3 hT3 => ?_
  have L3 := hT3.LB hL0
  have g3 : ∀ k, I3 B k = I0 B k := fun k => hT3.2.2.2 B k hB
  rw [QI_i]
  simp (disch := omega) only [cond_true, cond_false, mI_def, idx_nI, nI_add, icB_ne, icB_eq, icB_le, icB_ge, icB_lt, nI_eqI, not_true_eq_false, not_false_eq_true, decide_true, decide_false, ap_1, Nat.add_eq_zero_iff, Nat.reduceEqDiff, Nat.reduceLeDiff, Nat.reduceLT, Nat.add_assoc, Nat.reduceAdd, Nat.not_lt_zero, gl_0 L3, gc_O hT3.1, g3, e0, e1, e2, e3, e4]
  apply w_L_line_231
  simp (disch := omega) only [cond_true, cond_false, mI_def, idx_nI, nI_add, icB_ne, icB_eq, icB_le, icB_ge, icB_lt, nI_eqI, not_true_eq_false, not_false_eq_true, decide_true, decide_false, ap_1, Nat.add_eq_zero_iff, Nat.reduceEqDiff, Nat.reduceLeDiff, Nat.reduceLT, Nat.add_assoc, Nat.reduceAdd, Nat.not_lt_zero, gl_0 L3, gc_O hT3.1, g3, e0, e1, e2, e3, e4]
  refine T_append hT3 (w := 43) (by omega) (by omega) (show tl.1 + 3 < 120 by omega) fun I4 ρ4 hT4 => ?_
  have L4 := hT4.LB hL0
  have g4 : ∀ k, I4 B k = I0 B k := fun k => hT4.2.2.2 B k hB
  rw [QI_i]
  simp (disch := omega) only [cond_true, cond_false, mI_def, idx_nI, nI_add, icB_ne, icB_eq, icB_le, icB_ge, icB_lt, nI_eqI, not_true_eq_false, not_false_eq_true, decide_true, decide_false, ap_1, Nat.add_eq_zero_iff, Nat.reduceEqDiff, Nat.reduceLeDiff, Nat.reduceLT, Nat.add_assoc, Nat.reduceAdd, Nat.not_lt_zero, gl_0 L4, gc_O hT4.1, g4, e0, e1, e2, e3, e4]
  refine T_append hT4 (w := 97 + q) (by omega) (by omega) (show tl.1 + 4 < 120 by omega) fun I5 ρ5 hT5 => ?_
  have L5 := hT5.LB hL0
  have g5 : ∀ k, I5 B k = I0 B k := fun k => hT5.2.2.2 B k hB
  rw [QI_i]
  simp (disch := omega) only [cond_true, cond_false, mI_def, idx_nI, nI_add, icB_ne, icB_eq, icB_le, icB_ge, icB_lt, nI_eqI, not_true_eq_false, not_false_eq_true, decide_true, decide_false, ap_1, Nat.add_eq_zero_iff, Nat.reduceEqDiff, Nat.reduceLeDiff, Nat.reduceLT, Nat.add_assoc, Nat.reduceAdd, Nat.not_lt_zero, gl_0 L5, gc_O hT5.1, g5, e0, e1, e2, e3, e4]
  exact h _ _ [97 + t, 61, 97 + p, 43, 97 + q] hT5 (Ln_op ht hp hq (Or.inl ⟨rfl, e0⟩) e1 e2 e3 e4)
theorem l_lnM {i : Nat} {v4 : Value} (hL0 : LB B ρ0) (hT0 : Tg I0 ρ0 z s zs tl I ρ) (hl : tl.1 ≤ 50) (hi : i < 7) {t p q : Nat} (ht : t < 8) (hp : p < 8) (hq : q < 8) (e0 : I0 B (8 * i) = nI 2) (e1 : I0 B (8 * i + 1) = nI t) (e2 : I0 B (8 * i + 2) = nI p) (e3 : I0 B (8 * i + 3) = nI q) (e4 : I0 B (8 * i + 4) = nI 0) (h : ∀ I' ρ' l, Tg I0 ρ0 z s zs (apL tl l) I' ρ' → LnOk l (fun f => I0 B (8 * i + f)) → Q (.inl (some (.int (nI 1)))) (I', ρ')) : Ev xs 120 21 [.ref 0, .int (nI i), .ref B, .int (nI (8 * i)), v4] [] (I, ρ) Q := by
  have hB := hL0.1
  have L0 := hT0.LB hL0
  have g0 : ∀ k, I B k = I0 B k := fun k => hT0.2.2.2 B k hB
  apply w_L_line_21
  simp (disch := omega) only [cond_true, cond_false, mI_def, idx_nI, nI_add, icB_ne, icB_eq, icB_le, icB_ge, icB_lt, nI_eqI, not_true_eq_false, not_false_eq_true, decide_true, decide_false, ap_1, Nat.add_eq_zero_iff, Nat.reduceEqDiff, Nat.reduceLeDiff, Nat.reduceLT, Nat.add_assoc, Nat.reduceAdd, Nat.not_lt_zero, gl_0 L0, gc_O hT0.1, g0, e0, e1, e2, e3, e4]
  refine T_append hT0 (w := 97 + t) (by omega) (by omega) (show tl.1 + 0 < 120 by omega) fun I1 ρ1 hT1 => ?_
  have L1 := hT1.LB hL0
  have g1 : ∀ k, I1 B k = I0 B k := fun k => hT1.2.2.2 B k hB
  rw [QI_i]
  simp (disch := omega) only [cond_true, cond_false, mI_def, idx_nI, nI_add, icB_ne, icB_eq, icB_le, icB_ge, icB_lt, nI_eqI, not_true_eq_false, not_false_eq_true, decide_true, decide_false, ap_1, Nat.add_eq_zero_iff, Nat.reduceEqDiff, Nat.reduceLeDiff, Nat.reduceLT, Nat.add_assoc, Nat.reduceAdd, Nat.not_lt_zero, gl_0 L1, gc_O hT1.1, g1, e0, e1, e2, e3, e4]
  refine T_append hT1 (w := 61) (by omega) (by omega) (show tl.1 + 1 < 120 by omega) fun I2 ρ2 hT2 => ?_
  have L2 := hT2.LB hL0
  have g2 : ∀ k, I2 B k = I0 B k := fun k => hT2.2.2.2 B k hB
  rw [QI_i]
  simp (disch := omega) only [cond_true, cond_false, mI_def, idx_nI, nI_add, icB_ne, icB_eq, icB_le, icB_ge, icB_lt, nI_eqI, not_true_eq_false, not_false_eq_true, decide_true, decide_false, ap_1, Nat.add_eq_zero_iff, Nat.reduceEqDiff, Nat.reduceLeDiff, Nat.reduceLT, Nat.add_assoc, Nat.reduceAdd, Nat.not_lt_zero, gl_0 L2, gc_O hT2.1, g2, e0, e1, e2, e3, e4]
  refine T_append hT2 (w := 97 + p) (by omega) (by omega) (show tl.1 + 2 < 120 by omega) fun I3 ρ3 hT3 => ?_
  have L3 := hT3.LB hL0
  have g3 : ∀ k, I3 B k = I0 B k := fun k => hT3.2.2.2 B k hB
  rw [QI_i]
  simp (disch := omega) only [cond_true, cond_false, mI_def, idx_nI, nI_add, icB_ne, icB_eq, icB_le, icB_ge, icB_lt, nI_eqI, not_true_eq_false, not_false_eq_true, decide_true, decide_false, ap_1, Nat.add_eq_zero_iff, Nat.reduceEqDiff, Nat.reduceLeDiff, Nat.reduceLT, Nat.add_assoc, Nat.reduceAdd, Nat.not_lt_zero, gl_0 L3, gc_O hT3.1, g3, e0, e1, e2, e3, e4]
  apply w_L_line_231
  simp (disch := omega) only [cond_true, cond_false, mI_def, idx_nI, nI_add, icB_ne, icB_eq, icB_le, icB_ge, icB_lt, nI_eqI, not_true_eq_false, not_false_eq_true, decide_true, decide_false, ap_1, Nat.add_eq_zero_iff, Nat.reduceEqDiff, Nat.reduceLeDiff, Nat.reduceLT, Nat.add_assoc, Nat.reduceAdd, Nat.not_lt_zero, gl_0 L3, gc_O hT3.1, g3, e0, e1, e2, e3, e4]
  refine T_append hT3 (w := 42) (by omega) (by omega) (show tl.1 + 3 < 120 by omega) fun I4 ρ4 hT4 => ?_
  have L4 := hT4.LB hL0
  have g4 : ∀ k, I4 B k = I0 B k := fun k => hT4.2.2.2 B k hB
  rw [QI_i]
  simp (disch := omega) only [cond_true, cond_false, mI_def, idx_nI, nI_add, icB_ne, icB_eq, icB_le, icB_ge, icB_lt, nI_eqI, not_true_eq_false, not_false_eq_true, decide_true, decide_false, ap_1, Nat.add_eq_zero_iff, Nat.reduceEqDiff, Nat.reduceLeDiff, Nat.reduceLT, Nat.add_assoc, Nat.reduceAdd, Nat.not_lt_zero, gl_0 L4, gc_O hT4.1, g4, e0, e1, e2, e3, e4]
  refine T_append hT4 (w := 97 + q) (by omega) (by omega) (show tl.1 + 4 < 120 by omega) fun I5 ρ5 hT5 => ?_
  have L5 := hT5.LB hL0
  have g5 : ∀ k, I5 B k = I0 B k := fun k => hT5.2.2.2 B k hB
  rw [QI_i]
  simp (disch := omega) only [cond_true, cond_false, mI_def, idx_nI, nI_add, icB_ne, icB_eq, icB_le, icB_ge, icB_lt, nI_eqI, not_true_eq_false, not_false_eq_true, decide_true, decide_false, ap_1, Nat.add_eq_zero_iff, Nat.reduceEqDiff, Nat.reduceLeDiff, Nat.reduceLT, Nat.add_assoc, Nat.reduceAdd, Nat.not_lt_zero, gl_0 L5, gc_O hT5.1, g5, e0, e1, e2, e3, e4]
  exact h _ _ [97 + t, 61, 97 + p, 42, 97 + q] hT5 (Ln_op ht hp hq (Or.inr ⟨rfl, e0⟩) e1 e2 e3 e4)
theorem l_lnP {i : Nat} {v4 : Value} (hL0 : LB B ρ0) (hT0 : Tg I0 ρ0 z s zs tl I ρ) (hl : tl.1 ≤ 50) (hi : i < 7) {t v : Nat} (ht : t < 8) (hv : v < 100) (e0 : I0 B (8 * i) = nI 0) (e1 : I0 B (8 * i + 1) = nI t) (e2 : I0 B (8 * i + 2) = nM) (e3 : I0 B (8 * i + 3) = nM) (e4 : I0 B (8 * i + 4) = nI v) (h : ∀ I' ρ' l, Tg I0 ρ0 z s zs (apL tl l) I' ρ' → LnOk l (fun f => I0 B (8 * i + f)) → Q (.inl (some (.int (nI 1)))) (I', ρ')) : Ev xs 120 21 [.ref 0, .int (nI i), .ref B, .int (nI (8 * i)), v4] [] (I, ρ) Q := by
  have hB := hL0.1
  have L0 := hT0.LB hL0
  have g0 : ∀ k, I B k = I0 B k := fun k => hT0.2.2.2 B k hB
  apply w_L_line_21
  simp (disch := omega) only [cond_true, cond_false, mI_def, idx_nI, nI_add, icB_ne, icB_eq, icB_le, icB_ge, icB_lt, nI_eqI, not_true_eq_false, not_false_eq_true, decide_true, decide_false, ap_1, Nat.add_eq_zero_iff, Nat.reduceEqDiff, Nat.reduceLeDiff, Nat.reduceLT, Nat.add_assoc, Nat.reduceAdd, Nat.not_lt_zero, gl_0 L0, gc_O hT0.1, g0, e0, e1, e2, e3, e4]
  refine T_append hT0 (w := 97 + t) (by omega) (by omega) (show tl.1 + 0 < 120 by omega) fun I1 ρ1 hT1 => ?_
  have L1 := hT1.LB hL0
  have g1 : ∀ k, I1 B k = I0 B k := fun k => hT1.2.2.2 B k hB
  rw [QI_i]
  simp (disch := omega) only [cond_true, cond_false, mI_def, idx_nI, nI_add, icB_ne, icB_eq, icB_le, icB_ge, icB_lt, nI_eqI, not_true_eq_false, not_false_eq_true, decide_true, decide_false, ap_1, Nat.add_eq_zero_iff, Nat.reduceEqDiff, Nat.reduceLeDiff, Nat.reduceLT, Nat.add_assoc, Nat.reduceAdd, Nat.not_lt_zero, gl_0 L1, gc_O hT1.1, g1, e0, e1, e2, e3, e4]
  refine T_append hT1 (w := 61) (by omega) (by omega) (show tl.1 + 1 < 120 by omega) fun I2 ρ2 hT2 => ?_
  have L2 := hT2.LB hL0
  have g2 : ∀ k, I2 B k = I0 B k := fun k => hT2.2.2.2 B k hB
  rw [QI_i]
  simp (disch := omega) only [cond_true, cond_false, mI_def, idx_nI, nI_add, icB_ne, icB_eq, icB_le, icB_ge, icB_lt, nI_eqI, not_true_eq_false, not_false_eq_true, decide_true, decide_false, ap_1, Nat.add_eq_zero_iff, Nat.reduceEqDiff, Nat.reduceLeDiff, Nat.reduceLT, Nat.add_assoc, Nat.reduceAdd, Nat.not_lt_zero, gl_0 L2, gc_O hT2.1, g2, e0, e1, e2, e3, e4]
  exact l_ln292 hL0 hT2 (show tl.1 + 2 ≤ 60 by omega) hi hv fun I' ρ' hT' => h I' ρ' ((97 + t) :: 61 :: fig v) hT' (Ln_pos ht hv e0 e1 e2 e3 e4)
theorem l_lnN {i : Nat} {v4 : Value} (hL0 : LB B ρ0) (hT0 : Tg I0 ρ0 z s zs tl I ρ) (hl : tl.1 ≤ 50) (hi : i < 7) {t v : Nat} (ht : t < 8) (hv : v < 100) (h1v : 1 ≤ v) (e0 : I0 B (8 * i) = nI 0) (e1 : I0 B (8 * i + 1) = nI t) (e2 : I0 B (8 * i + 2) = nM) (e3 : I0 B (8 * i + 3) = nM) (e4 : I0 B (8 * i + 4) = - nI v) (h : ∀ I' ρ' l, Tg I0 ρ0 z s zs (apL tl l) I' ρ' → LnOk l (fun f => I0 B (8 * i + f)) → Q (.inl (some (.int (nI 1)))) (I', ρ')) : Ev xs 120 21 [.ref 0, .int (nI i), .ref B, .int (nI (8 * i)), v4] [] (I, ρ) Q := by
  have hB := hL0.1
  have L0 := hT0.LB hL0
  have g0 : ∀ k, I B k = I0 B k := fun k => hT0.2.2.2 B k hB
  apply w_L_line_21
  simp (disch := omega) only [cond_true, cond_false, mI_def, idx_nI, nI_add, icB_ne, icB_eq, icB_le, icB_ge, icB_lt, nI_eqI, not_true_eq_false, not_false_eq_true, decide_true, decide_false, ap_1, Nat.add_eq_zero_iff, Nat.reduceEqDiff, Nat.reduceLeDiff, Nat.reduceLT, Nat.add_assoc, Nat.reduceAdd, Nat.not_lt_zero, gl_0 L0, gc_O hT0.1, g0, e0, e1, e2, e3, e4, (neg_lt h1v hv).1, (neg_lt h1v hv).2.2.2]
  refine T_append hT0 (w := 97 + t) (by omega) (by omega) (show tl.1 + 0 < 120 by omega) fun I1 ρ1 hT1 => ?_
  have L1 := hT1.LB hL0
  have g1 : ∀ k, I1 B k = I0 B k := fun k => hT1.2.2.2 B k hB
  rw [QI_i]
  simp (disch := omega) only [cond_true, cond_false, mI_def, idx_nI, nI_add, icB_ne, icB_eq, icB_le, icB_ge, icB_lt, nI_eqI, not_true_eq_false, not_false_eq_true, decide_true, decide_false, ap_1, Nat.add_eq_zero_iff, Nat.reduceEqDiff, Nat.reduceLeDiff, Nat.reduceLT, Nat.add_assoc, Nat.reduceAdd, Nat.not_lt_zero, gl_0 L1, gc_O hT1.1, g1, e0, e1, e2, e3, e4, (neg_lt h1v hv).1, (neg_lt h1v hv).2.2.2]
  refine T_append hT1 (w := 61) (by omega) (by omega) (show tl.1 + 1 < 120 by omega) fun I2 ρ2 hT2 => ?_
  have L2 := hT2.LB hL0
  have g2 : ∀ k, I2 B k = I0 B k := fun k => hT2.2.2.2 B k hB
  rw [QI_i]
  simp (disch := omega) only [cond_true, cond_false, mI_def, idx_nI, nI_add, icB_ne, icB_eq, icB_le, icB_ge, icB_lt, nI_eqI, not_true_eq_false, not_false_eq_true, decide_true, decide_false, ap_1, Nat.add_eq_zero_iff, Nat.reduceEqDiff, Nat.reduceLeDiff, Nat.reduceLT, Nat.add_assoc, Nat.reduceAdd, Nat.not_lt_zero, gl_0 L2, gc_O hT2.1, g2, e0, e1, e2, e3, e4, (neg_lt h1v hv).1, (neg_lt h1v hv).2.2.2]
  refine T_append hT2 (w := 45) (by omega) (by omega) (show tl.1 + 2 < 120 by omega) fun I3 ρ3 hT3 => ?_
  have L3 := hT3.LB hL0
  have g3 : ∀ k, I3 B k = I0 B k := fun k => hT3.2.2.2 B k hB
  rw [QI_i]
  simp (disch := omega) only [cond_true, cond_false, mI_def, idx_nI, nI_add, icB_ne, icB_eq, icB_le, icB_ge, icB_lt, nI_eqI, not_true_eq_false, not_false_eq_true, decide_true, decide_false, ap_1, Nat.add_eq_zero_iff, Nat.reduceEqDiff, Nat.reduceLeDiff, Nat.reduceLT, Nat.add_assoc, Nat.reduceAdd, Nat.not_lt_zero, gl_0 L3, gc_O hT3.1, g3, e0, e1, e2, e3, e4, (neg_lt h1v hv).1, (neg_lt h1v hv).2.2.2]
  exact l_ln292 hL0 hT3 (show tl.1 + 3 ≤ 60 by omega) hi hv fun I' ρ' hT' => h I' ρ' ((97 + t) :: 61 :: 45 :: fig v) hT' (Ln_neg ht h1v hv e0 e1 e2 e3 e4)
theorem l_ln21 {i : Nat} {v4 : Value} (hL0 : LB B ρ0) (hT0 : Tg I0 ρ0 z s zs tl I ρ) (hl : tl.1 ≤ 50) (hi : i < 7) (hR : RowL (fun f => I0 B (8 * i + f))) (h : ∀ I' ρ' l, Tg I0 ρ0 z s zs (apL tl l) I' ρ' → LnOk l (fun f => I0 B (8 * i + f)) → Q (.inl (some (.int (nI 1)))) (I', ρ')) : Ev xs 120 21 [.ref 0, .int (nI i), .ref B, .int (nI (8 * i)), v4] [] (I, ρ) Q := by
  rcases hR with ⟨h0, ⟨t, ht, h1⟩, h2, h3, -, hv⟩ | ⟨h0, ⟨t, ht, h1⟩, ⟨p, hp, h2⟩, ⟨q, hq, h3⟩, h4⟩ | ⟨h0, ⟨t, ht, h1⟩, ⟨p, hp, h2⟩, h3, ⟨o, ho, h4⟩⟩ | ⟨h0, h1, ⟨p, hp, h2⟩, ⟨q, hq, h3⟩, ⟨o, ho, h4⟩⟩
  · rcases hv with ⟨v, hv, e⟩ | ⟨v, h1v, hv, e⟩
    · exact l_lnP hL0 hT0 hl hi (by omega) hv h0 h1 h2 h3 e h
    · exact l_lnN hL0 hT0 hl hi (by omega) hv h1v h0 h1 h2 h3 e h
  · rcases h0 with h0 | h0
    · exact l_lnA hL0 hT0 hl hi (by omega) (by omega) (by omega) h0 h1 h2 h3 h4 h
    · exact l_lnM hL0 hT0 hl hi (by omega) (by omega) (by omega) h0 h1 h2 h3 h4 h
  · exact l_lnL hL0 hT0 hl hi (by omega) (by omega) (by omega) h0 h1 h2 h3 h4 h
  · exact l_lnS hL0 hT0 hl hi (by omega) (by omega) (by omega) h0 h1 h2 h3 h4 h
theorem l_line {i : Nat} (hL0 : LB B ρ0) (hT0 : Tg I0 ρ0 z s zs tl I ρ) (hi : i < 7) (h00 : i = 0 → tl.1 = 0) (hX : TX tl i (fun j f => I0 B (8 * j + f))) (hR : RowL (fun f => I0 B (8 * i + f))) (h : ∀ I' ρ' tl', Tg I0 ρ0 z s zs tl' I' ρ' → tl'.2 = tl'.2 → TX tl' (i + 1) (fun j f => I0 B (8 * j + f)) → Q (.inl (some (.int (nI 1)))) (I', ρ')) : Ev xs 120 0 [.ref 0, .int (nI i), .ref B, .null, .null] [] (I, ρ) Q := by
  have hl := hX.1
  have hB := hL0.1
  have L0 := hT0.LB hL0
  have g0 : ∀ k, I B k = I0 B k := fun k => hT0.2.2.2 B k hB
  apply w_L_line_0
  rw [pk_mul]
  by_cases i0 : i = 0
  · rw [icB_le (by omega) (by decide), decide_eq_true (show i ≤ 0 by omega), cond_true]
    refine l_ln21 hL0 hT0 (by omega) hi hR fun I' ρ' l hT' hln => h I' ρ' _ hT' rfl ?_
    subst i0
    exact TX_1 (h00 rfl) hln
  rw [icB_le (by omega) (by decide), decide_eq_false (show ¬ i ≤ 0 by omega), cond_false, gc_O hT0.1, cond_true]
  refine T_append hT0 (w := 59) (by decide) (by decide) (by omega) fun I1 ρ1 hT1 => ?_
  rw [QI_i, icB_ge (by omega) (by decide), decide_eq_true (show 1 ≤ tl.1 + 1 by omega), cond_true]
  exact l_ln21 hL0 hT1 (show tl.1 + 1 ≤ 50 by omega) hi hR fun I' ρ' l hT' hln => h I' ρ' _ hT' rfl (TX_S (by omega) hX hln)
end Line
