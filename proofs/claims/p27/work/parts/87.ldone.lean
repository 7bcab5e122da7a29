/-! the end of an entry's work in the law -/
theorem l_zap470 {xs : Scr} {I : In2} {ρ : Rh} {B : Nat} (hL : LB B ρ) {b i0 : Nat} {v6 v7 v8 v9 v10 : Int32} (hb : b ≤ 7) : ∀ {e k : Nat} {d : In2} {Q : Post}, d 5 2 = nI b → k + e = b →
    (∀ d', (∀ o j, d' o j = if o = 1 ∧ 5 * k ≤ j ∧ j < 5 * b ∧ j % 5 = 0 then nI 0 else d o j) → Q (.inl none) (pl I B d', ρ)) → Ev xs 113 470 [.int (nI i0), .ref B, .ref (B + 1), .ref (B + 2), .ref (B + 3), .ref (B + 5), .int v6, .int v7, .int v8, .int v9, .int v10, .int (nI k)] [] (pl I B d, ρ) Q := by
  intro e
  induction e with
  | zero =>
    intro k d Q h2 hk h
    obtain rfl : k = b := hk
    apply w_L_done_470
    simp (maxSteps := 1000000) (disch := omega) only [↓QI_i, ↓QV_v, ↓QA_a, ↓QF_f, ↓QD_d, ↓QL_l, ↓Bool.cond_eq_ite, ↓reduceIte, decide_eq_true_eq, Bool.not_eq_true', Bool.true_and, Bool.and_true, Bool.and_self, gR_some, Option.getD_some, mI_def, setI_def, mR_def, not_false_eq_true, not_true_eq_false, Bool.false_eq_true, idx_nI, nI_add, pk_mul, icB_lt, icB_gt, icB_le, icB_ge, icB_eq, icB_ne, bI_ne, nI_eqI, gl_0 hL, gl_1 hL, gl_2 hL, gl_3 hL, gl_4 hL, gl_5 hL, up2_pl, up2_pl0, pl_at, pl_at0, h2, Nat.le_refl]
    exact h d fun o j => by rw [if_neg (by omega)]
  | succ e ih =>
    intro k d Q h2 hk h
    have hki : ¬ b ≤ k := by omega
    apply w_L_done_470
    simp (maxSteps := 1000000) (disch := omega) only [↓QI_i, ↓QV_v, ↓QA_a, ↓QF_f, ↓QD_d, ↓QL_l, ↓Bool.cond_eq_ite, ↓reduceIte, decide_eq_true_eq, Bool.not_eq_true', Bool.true_and, Bool.and_true, Bool.and_self, gR_some, Option.getD_some, mI_def, setI_def, mR_def, not_false_eq_true, not_true_eq_false, Bool.false_eq_true, idx_nI, nI_add, pk_mul, icB_lt, icB_gt, icB_le, icB_ge, icB_eq, icB_ne, bI_ne, nI_eqI, gl_0 hL, gl_1 hL, gl_2 hL, gl_3 hL, gl_4 hL, gl_5 hL, up2_pl, up2_pl0, pl_at, pl_at0, h2, hki]
    refine ih (k := k + 1) (by rw [up2_ne (by omega)]; exact h2) (by omega) fun d' hd' => h d' fun o j => ?_
    rw [hd' o j]
    by_cases h1 : o = 1 ∧ 5 * (k + 1) ≤ j ∧ j < 5 * b ∧ j % 5 = 0
    · rw [if_pos h1, if_pos (by omega)]
    · rw [if_neg h1]
      by_cases h3 : o = 1 ∧ j = 5 * k
      · obtain ⟨rfl, rfl⟩ := h3; rw [up2_at, if_pos (by omega)]
      · rw [up2_ne h3, if_neg (by omega)]
/-- the last store's alibi -/
theorem l_load208 {xs : Scr} {I : In2} {ρ : Rh} {B : Nat} (hL : LB B ρ) {z : Zt} {a b n i cell : Nat} {dB : In2} (hG : LG dB z a b n) (hi : i < b) {v6 v8 v9 : Int32} : ∀ {e k : Nat} {d : In2} {Q : Post}, k + e = i → a ≤ k →
    (∀ o j, ¬ (o = 1 ∧ 5 * i ≤ j ∧ j < 5 * i + 5) → d o j = dB o j) → d 1 (5 * i) = nI 2 → d 1 (5 * i + 2) = nI cell → d 1 (5 * i + 3) = oI (lat (alP z (nI cell)) a k) → d 1 (5 * i + 4) = (match lat (alP z (nI cell)) a k with | none => dB 3 cell | some j => dB 1 (5 * j + 4)) →
    (∀ d', (∀ o j, ¬ (o = 1 ∧ 5 * i ≤ j ∧ j < 5 * i + 5) → d' o j = dB o j) → d' 1 (5 * i) = nI 2 → d' 1 (5 * i + 2) = nI cell → d' 1 (5 * i + 3) = oI (lat (alP z (nI cell)) a i) → d' 1 (5 * i + 4) = (match lat (alP z (nI cell)) a i with | none => dB 3 cell | some j => dB 1 (5 * j + 4)) → Q (.inl none) (pl I B (up2 (up2 d' 5 7 (z 7 + nI 1)) 5 8 (z 8 + bI (opn z a i))), ρ)) →
    Ev xs 113 208 [.int (nI i), .ref B, .ref (B + 1), .ref (B + 2), .ref (B + 3), .ref (B + 5), .int v6, .int (nI (5 * i)), .int v8, .int v9, .int (bI (anyB (opP z) (k - a) a)), .int (nI k)] [] (pl I B d, ρ) Q := by
  have hb := hG.1.bnd
  have hn7 := hG.2.2.2.2
  intro e
  induction e with
  | zero =>
    intro k d Q hk ha hE h0 h2 h3 h4 h
    obtain rfl : k = i := hk
    have c7 : d 5 7 = z 7 := (hE _ _ (by omega)).trans (hG.2.2.1.c (by decide))
    have c8 : d 5 8 = z 8 := (hE _ _ (by omega)).trans (hG.2.2.1.c (by decide))
    apply w_L_done_208
    simp (maxSteps := 1000000) (disch := omega) only [↓QI_i, ↓QV_v, ↓QA_a, ↓QF_f, ↓QD_d, ↓QL_l, ↓Bool.cond_eq_ite, ↓reduceIte, decide_eq_true_eq, Bool.not_eq_true', Bool.true_and, Bool.and_true, Bool.and_self, gR_some, Option.getD_some, mI_def, setI_def, mR_def, not_false_eq_true, not_true_eq_false, Bool.false_eq_true, idx_nI, nI_add, pk_mul, icB_lt, icB_gt, icB_le, icB_ge, icB_eq, icB_ne, bI_ne, nI_eqI, gl_0 hL, gl_1 hL, gl_2 hL, gl_3 hL, gl_4 hL, gl_5 hL, up2_pl, up2_pl0, pl_at, pl_at0, Nat.le_refl, up2_ne, c7, c8]
    exact h d hE h0 h2 h3 h4
  | succ e ih =>
    intro k d Q hk ha hE h0 h2 h3 h4 h
    have hki : ¬ i ≤ k := by omega
    have q0 : d 0 (8 * k) = pt z k 0 := (hE _ _ (by omega)).trans (hG.2.2.1.row0 (by omega))
    have q7 : d 1 (5 * k) = pt z k 7 := (hE _ _ (by omega)).trans (hG.2.2.1.st ha (by omega))
    have hl : lat (alP z (nI cell)) a (k + 1) = if alP z (nI cell) k = true then some k else lat (alP z (nI cell)) a k := by rw [lat, if_pos ha]
    have ho : anyB (opP z) (k + 1 - a) a = (anyB (opP z) (k - a) a || opP z k) := by rw [show k + 1 - a = (k - a) + 1 by omega, anyB_snoc, show a + (k - a) = k by omega]
    -- the state goes on unchanged
    have skip : alP z (nI cell) k = false → ∀ {v : Int32}, v = bI (anyB (opP z) (k + 1 - a) a) → Ev xs 113 208 [.int (nI i), .ref B, .ref (B + 1), .ref (B + 2), .ref (B + 3), .ref (B + 5), .int v6, .int (nI (5 * i)), .int v8, .int v9, .int v, .int (nI (k + 1))] [] (pl I B d, ρ) Q := by
      intro hal v hv
      subst hv
      refine ih (k := k + 1) (by omega) (by omega) hE h0 h2 ?_ ?_ h
      · rw [hl, hal]; exact h3
      · rw [hl, hal]; exact h4
    apply w_L_done_208
    by_cases k0 : pt z k 0 = nI 4
    · have e244 : ∀ {v10 s0 : Int32}, s0 = bI (anyB (opP z) (k + 1 - a) a) → Ev xs 113 244 [.int (nI i), .ref B, .ref (B + 1), .ref (B + 2), .ref (B + 3), .ref (B + 5), .int v6, .int (nI (5 * i)), .int v8, .int v9, .int v10, .int (nI k)] [.int s0] (pl I B d, ρ) Q := by
        intro v10 s0 hs
        apply w_L_done_244
        by_cases k7 : pt z k 7 = nI 2
        · have q2 : d 1 (5 * k + 2) = pt z k 9 := (hE _ _ (by omega)).trans (hG.2.2.1.cell ha (by omega) k7 (Or.inr k0))
          by_cases k9 : pt z k 9 = nI cell
          · have hal : alP z (nI cell) k = true := by unfold alP; simp [k0, k7, k9]
            have q4 : d 1 (5 * k + 4) = dB 1 (5 * k + 4) := hE _ _ (by omega)
            simp (maxSteps := 1000000) (disch := omega) only [↓QI_i, ↓QV_v, ↓QA_a, ↓QF_f, ↓QD_d, ↓QL_l, ↓Bool.cond_eq_ite, ↓reduceIte, decide_eq_true_eq, Bool.not_eq_true', Bool.true_and, Bool.and_true, Bool.and_self, gR_some, Option.getD_some, mI_def, setI_def, mR_def, not_false_eq_true, not_true_eq_false, Bool.false_eq_true, idx_nI, nI_add, pk_mul, icB_lt, icB_gt, icB_le, icB_ge, icB_eq, icB_ne, bI_ne, nI_eqI, gl_0 hL, gl_1 hL, gl_2 hL, gl_3 hL, gl_4 hL, gl_5 hL, up2_pl, up2_pl0, pl_at, pl_at0, q7, k7, q2, k9, h2, up2_ne, q4]
            subst hs
            refine ih (k := k + 1) (by omega) (by omega) (fun o j hoj => by rw [up2_ne (by omega), up2_ne (by omega)]; exact hE o j hoj) (by rw [up2_ne (by omega), up2_ne (by omega)]; exact h0) (by rw [up2_ne (by omega), up2_ne (by omega)]; exact h2) ?_ ?_ h
            · rw [hl, hal, if_pos rfl, up2_ne (by omega), up2_at]; rfl
            · rw [hl, hal, if_pos rfl, up2_at]
          · have hal : alP z (nI cell) k = false := by unfold alP; simp [k9]
            simp (maxSteps := 1000000) (disch := omega) only [↓QI_i, ↓QV_v, ↓QA_a, ↓QF_f, ↓QD_d, ↓QL_l, ↓Bool.cond_eq_ite, ↓reduceIte, decide_eq_true_eq, Bool.not_eq_true', Bool.true_and, Bool.and_true, Bool.and_self, gR_some, Option.getD_some, mI_def, setI_def, mR_def, not_false_eq_true, not_true_eq_false, Bool.false_eq_true, idx_nI, nI_add, pk_mul, icB_lt, icB_gt, icB_le, icB_ge, icB_eq, icB_ne, bI_ne, nI_eqI, gl_0 hL, gl_1 hL, gl_2 hL, gl_3 hL, gl_4 hL, gl_5 hL, up2_pl, up2_pl0, pl_at, pl_at0, q7, k7, q2, k9, h2]
            exact skip hal hs
        · have hal : alP z (nI cell) k = false := by unfold alP; simp [k7]
          simp (maxSteps := 1000000) (disch := omega) only [↓QI_i, ↓QV_v, ↓QA_a, ↓QF_f, ↓QD_d, ↓QL_l, ↓Bool.cond_eq_ite, ↓reduceIte, decide_eq_true_eq, Bool.not_eq_true', Bool.true_and, Bool.and_true, Bool.and_self, gR_some, Option.getD_some, mI_def, setI_def, mR_def, not_false_eq_true, not_true_eq_false, Bool.false_eq_true, idx_nI, nI_add, pk_mul, icB_lt, icB_gt, icB_le, icB_ge, icB_eq, icB_ne, bI_ne, nI_eqI, gl_0 hL, gl_1 hL, gl_2 hL, gl_3 hL, gl_4 hL, gl_5 hL, up2_pl, up2_pl0, pl_at, pl_at0, q7, k7]
          exact skip hal hs
      by_cases k7 : pt z k 7 = nI 2
      · have hop : opP z k = false := by unfold opP; simp [k7]
        simp (maxSteps := 1000000) (disch := omega) only [↓QI_i, ↓QV_v, ↓QA_a, ↓QF_f, ↓QD_d, ↓QL_l, ↓Bool.cond_eq_ite, ↓reduceIte, decide_eq_true_eq, Bool.not_eq_true', Bool.true_and, Bool.and_true, Bool.and_self, gR_some, Option.getD_some, mI_def, setI_def, mR_def, not_false_eq_true, not_true_eq_false, Bool.false_eq_true, idx_nI, nI_add, pk_mul, icB_lt, icB_gt, icB_le, icB_ge, icB_eq, icB_ne, bI_ne, nI_eqI, gl_0 hL, gl_1 hL, gl_2 hL, gl_3 hL, gl_4 hL, gl_5 hL, up2_pl, up2_pl0, pl_at, pl_at0, hki, q0, k0, q7, k7]
        exact e244 (by rw [ho, hop, Bool.or_false])
      · have hop : opP z k = true := by unfold opP; simp [k0, k7]
        simp (maxSteps := 1000000) (disch := omega) only [↓QI_i, ↓QV_v, ↓QA_a, ↓QF_f, ↓QD_d, ↓QL_l, ↓Bool.cond_eq_ite, ↓reduceIte, decide_eq_true_eq, Bool.not_eq_true', Bool.true_and, Bool.and_true, Bool.and_self, gR_some, Option.getD_some, mI_def, setI_def, mR_def, not_false_eq_true, not_true_eq_false, Bool.false_eq_true, idx_nI, nI_add, pk_mul, icB_lt, icB_gt, icB_le, icB_ge, icB_eq, icB_ne, bI_ne, nI_eqI, gl_0 hL, gl_1 hL, gl_2 hL, gl_3 hL, gl_4 hL, gl_5 hL, up2_pl, up2_pl0, pl_at, pl_at0, hki, q0, k0, q7, k7]
        exact e244 (by rw [ho, hop, Bool.or_true]; rfl)
    · have hop : opP z k = false := by unfold opP; simp [k0]
      have hal : alP z (nI cell) k = false := by unfold alP; simp [k0]
      simp (maxSteps := 1000000) (disch := omega) only [↓QI_i, ↓QV_v, ↓QA_a, ↓QF_f, ↓QD_d, ↓QL_l, ↓Bool.cond_eq_ite, ↓reduceIte, decide_eq_true_eq, Bool.not_eq_true', Bool.true_and, Bool.and_true, Bool.and_self, gR_some, Option.getD_some, mI_def, setI_def, mR_def, not_false_eq_true, not_true_eq_false, Bool.false_eq_true, idx_nI, nI_add, pk_mul, icB_lt, icB_gt, icB_le, icB_ge, icB_eq, icB_ne, bI_ne, nI_eqI, gl_0 hL, gl_1 hL, gl_2 hL, gl_3 hL, gl_4 hL, gl_5 hL, up2_pl, up2_pl0, pl_at, pl_at0, hki, q0, k0]
      exact skip hal (by rw [ho, hop, Bool.or_false])
/-- the first load that a store breaks -/
theorem fstF_step {P : Nat → Bool} {n i : Nat} : fstF P (n + 1) i = if P i = true then some i else fstF P n (i + 1) := rfl
theorem l_store343 {xs : Scr} {I : In2} {ρ : Rh} {B : Nat} {d : In2} (hL : LB B ρ) {z : Zt} {a b n i cell : Nat} (hR : LR d z a b n) (hB : a ≤ b ∧ b ≤ n ∧ n ≤ 7) (h2 : d 5 2 = nI b) (hcell : d 1 (5 * i + 2) = nI cell) (hz9 : pt z i 9 = nI cell) (ha : a ≤ i) (hi : i < b) {v6 v8 v9 : Int32} {Q : Post}
    (hno : fstF (brk z i) (b - (i + 1)) (i + 1) = none → Q (.inl none) (pl I B d, ρ))
    (hyes : ∀ l, fstF (brk z i) (b - (i + 1)) (i + 1) = some l → i < l → l < b → Ev xs 113 470 [.int (nI i), .ref B, .ref (B + 1), .ref (B + 2), .ref (B + 3), .ref (B + 5), .int v6, .int (nI (5 * i)), .int v8, .int v9, .int (nI l), .int (nI l)] [] (pl I B (up2 (up2 (up2 (up2 d 5 4 (d 5 4 + nI 1)) 5 5 (d 5 5 + (nI b - nI l))) 0 (8 * l + 5) (nI 3)) 0 (8 * l + 6) (pt z l 6 + nI 1)), ρ) Q) :
    ∀ {e k : Nat}, i + e = k → k < b → Ev xs 113 343 [.int (nI i), .ref B, .ref (B + 1), .ref (B + 2), .ref (B + 3), .ref (B + 5), .int v6, .int (nI (5 * i)), .int v8, .int v9, .int (oI (fstF (brk z i) (b - (k + 1)) (k + 1))), .int (nI k)] [] (pl I B d, ρ) Q := by
  intro e
  induction e with
  | zero =>
    intro k hk hkb
    obtain rfl : i = k := hk
    apply w_L_done_343
    cases hf : fstF (brk z i) (b - (i + 1)) (i + 1) with
    | none =>
      simp (maxSteps := 1000000) (disch := omega) only [↓QI_i, ↓QV_v, ↓QA_a, ↓QF_f, ↓QD_d, ↓QL_l, ↓Bool.cond_eq_ite, ↓reduceIte, decide_eq_true_eq, Bool.not_eq_true', Bool.true_and, Bool.and_true, Bool.and_self, gR_some, Option.getD_some, mI_def, setI_def, mR_def, not_false_eq_true, not_true_eq_false, Bool.false_eq_true, idx_nI, nI_add, pk_mul, icB_lt, icB_gt, icB_le, icB_ge, icB_eq, icB_ne, bI_ne, nI_eqI, gl_0 hL, gl_1 hL, gl_2 hL, gl_3 hL, gl_4 hL, gl_5 hL, up2_pl, up2_pl0, pl_at, pl_at0, Nat.le_refl, oI_none, icB_ge_M]
      exact hno hf
    | some l =>
      obtain ⟨l1, l2, -⟩ := fstF_some hf
      have r6 : d 0 (8 * l + 6) = pt z l 6 := hR.row (by omega) (by decide)
      simp (maxSteps := 1000000) (disch := omega) only [↓QI_i, ↓QV_v, ↓QA_a, ↓QF_f, ↓QD_d, ↓QL_l, ↓Bool.cond_eq_ite, ↓reduceIte, decide_eq_true_eq, Bool.not_eq_true', Bool.true_and, Bool.and_true, Bool.and_self, gR_some, Option.getD_some, mI_def, setI_def, mR_def, not_false_eq_true, not_true_eq_false, Bool.false_eq_true, idx_nI, nI_add, pk_mul, icB_lt, icB_gt, icB_le, icB_ge, icB_eq, icB_ne, bI_ne, nI_eqI, gl_0 hL, gl_1 hL, gl_2 hL, gl_3 hL, gl_4 hL, gl_5 hL, up2_pl, up2_pl0, pl_at, pl_at0, Nat.le_refl, oI_some, Nat.zero_le, up2_ne, h2, r6]
      exact hyes l hf (by omega) (by omega)
  | succ e ih =>
    intro k hk hkb
    have hki : ¬ k ≤ i := by omega
    have q0 : d 0 (8 * k) = pt z k 0 := hR.row0 (by omega)
    have q7 : d 1 (5 * k) = pt z k 7 := hR.st (by omega) hkb
    obtain ⟨j, rfl⟩ : ∃ j, k = j + 1 := ⟨k - 1, by omega⟩
    have hp : nI (j + 1) + nM = nI j := pr_add (j + 1)
    have hbj : b - (j + 1) = (b - (j + 1 + 1)) + 1 := by omega
    have hst : fstF (brk z i) (b - (j + 1)) (j + 1) = if brk z i (j + 1) = true then some (j + 1) else fstF (brk z i) (b - (j + 1 + 1)) (j + 1 + 1) := by rw [hbj]; rfl
    have skip : brk z i (j + 1) = false → Ev xs 113 343 [.int (nI i), .ref B, .ref (B + 1), .ref (B + 2), .ref (B + 3), .ref (B + 5), .int v6, .int (nI (5 * i)), .int v8, .int v9, .int (oI (fstF (brk z i) (b - (j + 1 + 1)) (j + 1 + 1))), .int (nI j)] [] (pl I B d, ρ) Q := by
      intro hb
      have := ih (k := j) (by omega) (by omega)
      rw [hst, hb] at this
      exact this
    have hbk : brk z i (j + 1) = ((decide (pt z (j + 1) 0 = nI 3) && (decide (pt z (j + 1) 7 = nI 2) && decide (pt z (j + 1) 9 = nI cell))) && !icB .ge (pt z (j + 1) 10) (nI i)) := by unfold brk; rw [hz9]
    apply w_L_done_343
    by_cases k0 : pt z (j + 1) 0 = nI 3
    · by_cases k7 : pt z (j + 1) 7 = nI 2
      · have q2 : d 1 (5 * (j + 1) + 2) = pt z (j + 1) 9 := hR.cell (by omega) hkb k7 (Or.inl k0)
        have q3 : d 1 (5 * (j + 1) + 3) = pt z (j + 1) 10 := hR.ali (by omega) hkb k7 k0
        by_cases k9 : pt z (j + 1) 9 = nI cell
        · cases k10 : icB .ge (pt z (j + 1) 10) (nI i)
          · simp (maxSteps := 1000000) (disch := omega) only [↓QI_i, ↓QV_v, ↓QA_a, ↓QF_f, ↓QD_d, ↓QL_l, ↓Bool.cond_eq_ite, ↓reduceIte, decide_eq_true_eq, Bool.not_eq_true', Bool.true_and, Bool.and_true, Bool.and_self, gR_some, Option.getD_some, mI_def, setI_def, mR_def, not_false_eq_true, not_true_eq_false, Bool.false_eq_true, idx_nI, nI_add, pk_mul, icB_lt, icB_gt, icB_le, icB_ge, icB_eq, icB_ne, bI_ne, nI_eqI, gl_0 hL, gl_1 hL, gl_2 hL, gl_3 hL, gl_4 hL, gl_5 hL, up2_pl, up2_pl0, pl_at, pl_at0, hki, q0, k0, q7, k7, q2, k9, hcell, q3, k10, hp]
            have := ih (k := j) (by omega) (by omega)
            rw [hst, hbk, k0, k7, k9, k10] at this
            simpa [oI_some] using this
          · simp (maxSteps := 1000000) (disch := omega) only [↓QI_i, ↓QV_v, ↓QA_a, ↓QF_f, ↓QD_d, ↓QL_l, ↓Bool.cond_eq_ite, ↓reduceIte, decide_eq_true_eq, Bool.not_eq_true', Bool.true_and, Bool.and_true, Bool.and_self, gR_some, Option.getD_some, mI_def, setI_def, mR_def, not_false_eq_true, not_true_eq_false, Bool.false_eq_true, idx_nI, nI_add, pk_mul, icB_lt, icB_gt, icB_le, icB_ge, icB_eq, icB_ne, bI_ne, nI_eqI, gl_0 hL, gl_1 hL, gl_2 hL, gl_3 hL, gl_4 hL, gl_5 hL, up2_pl, up2_pl0, pl_at, pl_at0, hki, q0, k0, q7, k7, q2, k9, hcell, q3, k10, hp]
            exact skip (by rw [hbk, k10]; simp)
        · simp (maxSteps := 1000000) (disch := omega) only [↓QI_i, ↓QV_v, ↓QA_a, ↓QF_f, ↓QD_d, ↓QL_l, ↓Bool.cond_eq_ite, ↓reduceIte, decide_eq_true_eq, Bool.not_eq_true', Bool.true_and, Bool.and_true, Bool.and_self, gR_some, Option.getD_some, mI_def, setI_def, mR_def, not_false_eq_true, not_true_eq_false, Bool.false_eq_true, idx_nI, nI_add, pk_mul, icB_lt, icB_gt, icB_le, icB_ge, icB_eq, icB_ne, bI_ne, nI_eqI, gl_0 hL, gl_1 hL, gl_2 hL, gl_3 hL, gl_4 hL, gl_5 hL, up2_pl, up2_pl0, pl_at, pl_at0, hki, q0, k0, q7, k7, q2, k9, hcell, hp]
          exact skip (by rw [hbk]; simp [k9])
      · simp (maxSteps := 1000000) (disch := omega) only [↓QI_i, ↓QV_v, ↓QA_a, ↓QF_f, ↓QD_d, ↓QL_l, ↓Bool.cond_eq_ite, ↓reduceIte, decide_eq_true_eq, Bool.not_eq_true', Bool.true_and, Bool.and_true, Bool.and_self, gR_some, Option.getD_some, mI_def, setI_def, mR_def, not_false_eq_true, not_true_eq_false, Bool.false_eq_true, idx_nI, nI_add, pk_mul, icB_lt, icB_gt, icB_le, icB_ge, icB_eq, icB_ne, bI_ne, nI_eqI, gl_0 hL, gl_1 hL, gl_2 hL, gl_3 hL, gl_4 hL, gl_5 hL, up2_pl, up2_pl0, pl_at, pl_at0, hki, q0, k0, q7, k7, hp]
        exact skip (by rw [hbk]; simp [k7])
    · simp (maxSteps := 1000000) (disch := omega) only [↓QI_i, ↓QV_v, ↓QA_a, ↓QF_f, ↓QD_d, ↓QL_l, ↓Bool.cond_eq_ite, ↓reduceIte, decide_eq_true_eq, Bool.not_eq_true', Bool.true_and, Bool.and_true, Bool.and_self, gR_some, Option.getD_some, mI_def, setI_def, mR_def, not_false_eq_true, not_true_eq_false, Bool.false_eq_true, idx_nI, nI_add, pk_mul, icB_lt, icB_gt, icB_le, icB_ge, icB_eq, icB_ne, bI_ne, nI_eqI, gl_0 hL, gl_1 hL, gl_2 hL, gl_3 hL, gl_4 hL, gl_5 hL, up2_pl, up2_pl0, pl_at, pl_at0, hki, q0, k0, hp]
      exact skip (by rw [hbk]; simp [k0])
theorem l_done {xs : Scr} {I : In2} {ρ : Rh} {Q : Post} {B : Nat} {d : In2} (hL : LB B ρ) {z : Zt} {a b n i : Nat} (hG : LG d z a b n) (hx : EntX z a b i) (ha : a ≤ i) (hi : i < b) (h7 : pt z i 7 = nI 1) (h : ∀ d', LG d' (fnF z a b i) a b n → Q (.inl none) (pl I B d', ρ)) : Ev xs 113 0 [.int (nI i), .ref B, .ref (B + 1), .ref (B + 2), .ref (B + 3), .ref (B + 5), .null, .null, .null, .null, .null, .null] [] (pl I B d, ρ) Q := by
  have hb := hG.1.bnd
  have hn7 := hG.2.2.2.2
  have hR := hG.2.2.1
  have h7' : ¬ pt z i 7 = nI 0 := by rw [h7]; exact not_nI (by decide) (by decide) (by decide)
  obtain ⟨r1, r2⟩ := hG.2.1 i ha hi h7'
  have hw := (hG.1.row (i := i) (by omega)).1
  have f0 : d 0 (8 * i) = pt z i 0 := hR.row0 (by omega)
  have f2 : d 0 (8 * i + 2) = pt z i 2 := hR.row (by omega) (by decide)
  have f3 : d 0 (8 * i + 3) = pt z i 3 := hR.row (by omega) (by decide)
  have f4 : d 0 (8 * i + 4) = pt z i 4 := hR.row (by omega) (by decide)
  have hI := (Inv_fnF hG.1 hx ha hi).1
  have hRd := Rdy_fnF hG.2.1 hG.1 ha hi h7'
  have hLp : Lp (fnF z a b i) n := hG.2.2.2.1.of fun j _ => ⟨fnF_p (by decide), fnF_p (by decide)⟩
  have fin : ∀ d', LR d' (fnF z a b i) a b n → Q (.inl none) (pl I B d', ρ) := fun d' hd => h d' ⟨hI, hRd, hd, hLp, hn7⟩
  have hN1 : LN (up2 d 1 (5 * i) (nI 2)) z a n := hG.n.up fun _ _ _ => rfl
  have rows : ∀ {z' : Zt}, (∀ f, f < 7 → pt z' i f = pt z i f) → i < n → ∀ f, f < 7 → d 0 (8 * i + f) = pt z' i f := fun hz hin f hf => by rw [hz f hf]; exact hR.row hin hf
  -- a plain value
  have plain : ∀ v w, VV v w → ¬ pt z i 0 = nI 3 → ¬ pt z i 0 = nI 4 → fnF z a b i = lay (lay z i 7 (nI 2)) i 11 w → Q (.inl none) (pl I B (up2 (up2 d 1 (5 * i) (nI 2)) 1 (5 * i + 4) v), ρ) := by
    intro v w hv k3 k4 he
    refine fin _ ?_
    rw [he]
    refine LR.chg (i := i) hR (fun o k ho => by rw [up2_ne (by omega), up2_ne (by omega)]) (fun k hk => by rw [up2_ne (by omega), up2_ne (by omega)]) (fun k hk => by rw [up2_ne (by omega), up2_ne (by omega)]) (fun k hk => by rw [lay_lo hk, lay_lo hk]) (fun j f hj hf => by rw [pt_lj ⟨hj, by decide, hf⟩, pt_lj ⟨hj, by decide, hf⟩]) (fun hin f hf => ?_) (fun _ _ => ?_)
    · rw [up2_ne (by omega), up2_ne (by omega)]
      exact rows (fun f hf => by rw [pt_ln ⟨by omega, by decide, by omega⟩, pt_ln ⟨by omega, by decide, by omega⟩]) hin f hf
    · unfold Lrl
      dsimp only
      simp (disch := omega) only [Nat.add_zero, up2_ne, up2_at, pt_ln, pt_le]
      refine ⟨by trivial, fun e => absurd e (not_nI (by decide) (by decide) (by decide)), fun _ => ⟨hv, fun e => ?_, fun e => absurd e k3⟩⟩
      rcases e with e | e
      · exact absurd e k3
      · exact absurd e k4
  -- an operand
  have val : ∀ {p : Nat} {Q : Post} {d' : In2}, p < 8 → LN d' z a n → lvO d' z a i (nI p) = lvO d z a i (nI p) → (Ev xs 111 0 [.int (nI i), .int (nI p), .ref B, .ref (B + 1), .ref (B + 2), .ref (B + 5)] [] (pl I B d', ρ) Q ↔ Q (.inl (some (.int (lvO d z a i (nI p))))) (pl I B d', ρ)) := fun hp hN he => by rw [l_value hL hN (by omega) hp, he]
  have e1 : ∀ {p : Nat}, lvO (up2 d 1 (5 * i) (nI 2)) z a i (nI p) = lvO d z a i (nI p) := lvO_up (Nat.le_refl _)
  by_cases k0 : pt z i 0 = nI 0
  · obtain ⟨v, hv1, hv2, hv4⟩ := hG.2.2.2.1 i (by omega) k0
    have he : fnF z a b i = lay (lay z i 7 (nI 2)) i 11 (setF (pt z i 4)) := by unfold fnF; rw [if_pos k0]
    have hend := plain v _ (hv4 ▸ VV_set hv1 hv2) (by rw [k0]; exact not_nI (by decide) (by decide) (by decide)) (by rw [k0]; exact not_nI (by decide) (by decide) (by decide)) he
    have hd4 : pt z i 4 / nI 4 = v := by rw [hv4]; exact div4 hv1 hv2
    apply w_L_done_0
    simp (maxSteps := 1000000) (disch := omega) only [↓QI_i, ↓QV_v, ↓QA_a, ↓QF_f, ↓QD_d, ↓QL_l, ↓Bool.cond_eq_ite, ↓reduceIte, decide_eq_true_eq, Bool.not_eq_true', Bool.true_and, Bool.and_true, Bool.and_self, gR_some, Option.getD_some, mI_def, setI_def, mR_def, not_false_eq_true, not_true_eq_false, Bool.false_eq_true, idx_nI, nI_add, pk_mul, icB_lt, icB_gt, icB_le, icB_ge, icB_eq, icB_ne, bI_ne, nI_eqI, gl_0 hL, gl_1 hL, gl_2 hL, gl_3 hL, gl_4 hL, gl_5 hL, up2_pl, up2_pl0, pl_at, pl_at0, up2_ne, f0, k0, Nat.le_refl]
    apply w_L_done_42
    simp (maxSteps := 1000000) (disch := omega) only [↓QI_i, ↓QV_v, ↓QA_a, ↓QF_f, ↓QD_d, ↓QL_l, ↓Bool.cond_eq_ite, ↓reduceIte, decide_eq_true_eq, Bool.not_eq_true', Bool.true_and, Bool.and_true, Bool.and_self, gR_some, Option.getD_some, mI_def, setI_def, mR_def, not_false_eq_true, not_true_eq_false, Bool.false_eq_true, idx_nI, nI_add, pk_mul, icB_lt, icB_gt, icB_le, icB_ge, icB_eq, icB_ne, bI_ne, nI_eqI, gl_0 hL, gl_1 hL, gl_2 hL, gl_3 hL, gl_4 hL, gl_5 hL, up2_pl, up2_pl0, pl_at, pl_at0, up2_ne, f0, k0, Nat.le_refl]
    apply w_L_done_78
    simp (maxSteps := 1000000) (disch := omega) only [↓QI_i, ↓QV_v, ↓QA_a, ↓QF_f, ↓QD_d, ↓QL_l, ↓Bool.cond_eq_ite, ↓reduceIte, decide_eq_true_eq, Bool.not_eq_true', Bool.true_and, Bool.and_true, Bool.and_self, gR_some, Option.getD_some, mI_def, setI_def, mR_def, not_false_eq_true, not_true_eq_false, Bool.false_eq_true, idx_nI, nI_add, pk_mul, icB_lt, icB_gt, icB_le, icB_ge, icB_eq, icB_ne, bI_ne, nI_eqI, gl_0 hL, gl_1 hL, gl_2 hL, gl_3 hL, gl_4 hL, gl_5 hL, up2_pl, up2_pl0, pl_at, pl_at0, up2_ne, f0, k0, f4, hd4, show ¬ 4 = 0 by decide]
    apply w_L_done_101
    simp (maxSteps := 1000000) (disch := omega) only [↓QI_i, ↓QV_v, ↓QA_a, ↓QF_f, ↓QD_d, ↓QL_l, ↓Bool.cond_eq_ite, ↓reduceIte, decide_eq_true_eq, Bool.not_eq_true', Bool.true_and, Bool.and_true, Bool.and_self, gR_some, Option.getD_some, mI_def, setI_def, mR_def, not_false_eq_true, not_true_eq_false, Bool.false_eq_true, idx_nI, nI_add, pk_mul, icB_lt, icB_gt, icB_le, icB_ge, icB_eq, icB_ne, bI_ne, nI_eqI, gl_0 hL, gl_1 hL, gl_2 hL, gl_3 hL, gl_4 hL, gl_5 hL, up2_pl, up2_pl0, pl_at, pl_at0, up2_ne, f0, k0, show ¬ 0 = 1 by decide]
    apply w_L_done_122
    simp (maxSteps := 1000000) (disch := omega) only [↓QI_i, ↓QV_v, ↓QA_a, ↓QF_f, ↓QD_d, ↓QL_l, ↓Bool.cond_eq_ite, ↓reduceIte, decide_eq_true_eq, Bool.not_eq_true', Bool.true_and, Bool.and_true, Bool.and_self, gR_some, Option.getD_some, mI_def, setI_def, mR_def, not_false_eq_true, not_true_eq_false, Bool.false_eq_true, idx_nI, nI_add, pk_mul, icB_lt, icB_gt, icB_le, icB_ge, icB_eq, icB_ne, bI_ne, nI_eqI, gl_0 hL, gl_1 hL, gl_2 hL, gl_3 hL, gl_4 hL, gl_5 hL, up2_pl, up2_pl0, pl_at, pl_at0, up2_ne, f0, k0, show ¬ 0 = 2 by decide]
    apply w_L_done_143
    simp (maxSteps := 1000000) (disch := omega) only [↓QI_i, ↓QV_v, ↓QA_a, ↓QF_f, ↓QD_d, ↓QL_l, ↓Bool.cond_eq_ite, ↓reduceIte, decide_eq_true_eq, Bool.not_eq_true', Bool.true_and, Bool.and_true, Bool.and_self, gR_some, Option.getD_some, mI_def, setI_def, mR_def, not_false_eq_true, not_true_eq_false, Bool.false_eq_true, idx_nI, nI_add, pk_mul, icB_lt, icB_gt, icB_le, icB_ge, icB_eq, icB_ne, bI_ne, nI_eqI, gl_0 hL, gl_1 hL, gl_2 hL, gl_3 hL, gl_4 hL, gl_5 hL, up2_pl, up2_pl0, pl_at, pl_at0, up2_ne, f0, k0, show ¬ 3 ≤ 0 by decide]
    exact hend
  by_cases k3 : pt z i 0 = nI 3
  · obtain ⟨⟨p, hp, hpe⟩, -, o, ho, hoe⟩ := hw.k3 k3
    have hv := lvO_VV hR (Nat.le_of_lt hi) hp (hpe ▸ r1)
    have hcl := cellF_lt (vlO z a i (nI p)) o
    have he : fnF z a b i = ldF z a i (cellF (vlO z a i (nI p)) o) := by
      unfold fnF
      rw [if_neg k0, if_pos k3]
      unfold fnL
      rw [pt_ln (f := 7) (g := 2) (by decide), pt_ln (f := 7) (g := 4) (by decide), hpe, hoe, vlO_lay (by decide) (idx8 hp), idx_nI (by omega), fnE_eq ha (cellF_lt _ _)]
    obtain ⟨cl, hcle⟩ : ∃ cl, cl = cellF (vlO z a i (nI p)) o := ⟨_, rfl⟩
    have hpl := fun {Q : Post} {μ : Mem} => l_place (xs := xs) (Q := Q) (μ := μ) hv ho
    rw [← hcle] at he hcl hpl
    have l0 : lat (alP z (nI cl)) a a = none := lat_eq_none fun j h1 h2 => by omega
    apply w_L_done_0
    simp (maxSteps := 1000000) (disch := omega) only [↓QI_i, ↓QV_v, ↓QA_a, ↓QF_f, ↓QD_d, ↓QL_l, ↓Bool.cond_eq_ite, ↓reduceIte, decide_eq_true_eq, Bool.not_eq_true', Bool.true_and, Bool.and_true, Bool.and_self, gR_some, Option.getD_some, mI_def, setI_def, mR_def, not_false_eq_true, not_true_eq_false, Bool.false_eq_true, idx_nI, nI_add, pk_mul, icB_lt, icB_gt, icB_le, icB_ge, icB_eq, icB_ne, bI_ne, nI_eqI, gl_0 hL, gl_1 hL, gl_2 hL, gl_3 hL, gl_4 hL, gl_5 hL, up2_pl, up2_pl0, pl_at, pl_at0, up2_ne, f0, k3, show ¬ 3 ≤ 0 by decide, f2, hpe, val hp hN1 e1]
    apply w_L_done_42
    simp (maxSteps := 1000000) (disch := omega) only [↓QI_i, ↓QV_v, ↓QA_a, ↓QF_f, ↓QD_d, ↓QL_l, ↓Bool.cond_eq_ite, ↓reduceIte, decide_eq_true_eq, Bool.not_eq_true', Bool.true_and, Bool.and_true, Bool.and_self, gR_some, Option.getD_some, mI_def, setI_def, mR_def, not_false_eq_true, not_true_eq_false, Bool.false_eq_true, idx_nI, nI_add, pk_mul, icB_lt, icB_gt, icB_le, icB_ge, icB_eq, icB_ne, bI_ne, nI_eqI, gl_0 hL, gl_1 hL, gl_2 hL, gl_3 hL, gl_4 hL, gl_5 hL, up2_pl, up2_pl0, pl_at, pl_at0, up2_ne, f0, k3, show ¬ 3 ≤ 0 by decide]
    apply w_L_done_78
    simp (maxSteps := 1000000) (disch := omega) only [↓QI_i, ↓QV_v, ↓QA_a, ↓QF_f, ↓QD_d, ↓QL_l, ↓Bool.cond_eq_ite, ↓reduceIte, decide_eq_true_eq, Bool.not_eq_true', Bool.true_and, Bool.and_true, Bool.and_self, gR_some, Option.getD_some, mI_def, setI_def, mR_def, not_false_eq_true, not_true_eq_false, Bool.false_eq_true, idx_nI, nI_add, pk_mul, icB_lt, icB_gt, icB_le, icB_ge, icB_eq, icB_ne, bI_ne, nI_eqI, gl_0 hL, gl_1 hL, gl_2 hL, gl_3 hL, gl_4 hL, gl_5 hL, up2_pl, up2_pl0, pl_at, pl_at0, up2_ne, f0, k3, show ¬ 3 = 0 by decide]
    apply w_L_done_101
    simp (maxSteps := 1000000) (disch := omega) only [↓QI_i, ↓QV_v, ↓QA_a, ↓QF_f, ↓QD_d, ↓QL_l, ↓Bool.cond_eq_ite, ↓reduceIte, decide_eq_true_eq, Bool.not_eq_true', Bool.true_and, Bool.and_true, Bool.and_self, gR_some, Option.getD_some, mI_def, setI_def, mR_def, not_false_eq_true, not_true_eq_false, Bool.false_eq_true, idx_nI, nI_add, pk_mul, icB_lt, icB_gt, icB_le, icB_ge, icB_eq, icB_ne, bI_ne, nI_eqI, gl_0 hL, gl_1 hL, gl_2 hL, gl_3 hL, gl_4 hL, gl_5 hL, up2_pl, up2_pl0, pl_at, pl_at0, up2_ne, f0, k3, show ¬ 3 = 1 by decide]
    apply w_L_done_122
    simp (maxSteps := 1000000) (disch := omega) only [↓QI_i, ↓QV_v, ↓QA_a, ↓QF_f, ↓QD_d, ↓QL_l, ↓Bool.cond_eq_ite, ↓reduceIte, decide_eq_true_eq, Bool.not_eq_true', Bool.true_and, Bool.and_true, Bool.and_self, gR_some, Option.getD_some, mI_def, setI_def, mR_def, not_false_eq_true, not_true_eq_false, Bool.false_eq_true, idx_nI, nI_add, pk_mul, icB_lt, icB_gt, icB_le, icB_ge, icB_eq, icB_ne, bI_ne, nI_eqI, gl_0 hL, gl_1 hL, gl_2 hL, gl_3 hL, gl_4 hL, gl_5 hL, up2_pl, up2_pl0, pl_at, pl_at0, up2_ne, f0, k3, show ¬ 3 = 2 by decide]
    apply w_L_done_143
    have c3 : d 5 3 = nI a := hG.n.1
    simp (maxSteps := 1000000) (disch := omega) only [↓QI_i, ↓QV_v, ↓QA_a, ↓QF_f, ↓QD_d, ↓QL_l, ↓Bool.cond_eq_ite, ↓reduceIte, decide_eq_true_eq, Bool.not_eq_true', Bool.true_and, Bool.and_true, Bool.and_self, gR_some, Option.getD_some, mI_def, setI_def, mR_def, not_false_eq_true, not_true_eq_false, Bool.false_eq_true, idx_nI, nI_add, pk_mul, icB_lt, icB_gt, icB_le, icB_ge, icB_eq, icB_ne, bI_ne, nI_eqI, gl_0 hL, gl_1 hL, gl_2 hL, gl_3 hL, gl_4 hL, gl_5 hL, up2_pl, up2_pl0, pl_at, pl_at0, up2_ne, up2_at, f0, k3, Nat.le_refl, f4, hoe, hpl, c3]
    have hb0 : bI (anyB (opP z) (a - a) a) = nI 0 := by rw [Nat.sub_self]; rfl
    rw [← hb0]
    refine l_load208 hL hG hi (cell := cl) (e := i - a) (k := a) (by omega) (Nat.le_refl a) (fun o j hoj => by simp (disch := omega) only [up2_ne]) (by simp (disch := omega) only [up2_ne, up2_at]) (by simp (disch := omega) only [up2_ne, up2_at]) ?_ ?_ fun d' hE g0 g2 g3 g4 => ?_
    · rw [l0]; simp (disch := omega) only [up2_ne, up2_at]; rfl
    · rw [l0]; simp (disch := omega) only [up2_at]
    · refine fin _ ?_
      rw [he]
      unfold ldF
      refine LR.cnt (LR.cnt ?_ (by decide)) (by decide)
      refine LR.chg (i := i) hR (fun o k ho => hE _ _ (by omega)) (fun k hk => hE _ _ (by omega)) (fun k hk => hE _ _ (by omega)) (fun k hk => by rw [lay_lo hk, lay_lo hk, lay_lo hk, lay_lo hk]) (fun j f hj hf => by rw [pt_lj ⟨hj, by decide, hf⟩, pt_lj ⟨hj, by decide, hf⟩, pt_lj ⟨hj, by decide, hf⟩, pt_lj ⟨hj, by decide, hf⟩]) (fun hin f hf => ?_) (fun _ _ => ?_)
      · rw [hE _ _ (by omega)]
        exact rows (fun f hf => by rw [pt_ln ⟨by omega, by decide, by omega⟩, pt_ln ⟨by omega, by decide, by omega⟩, pt_ln ⟨by omega, by decide, by omega⟩, pt_ln ⟨by omega, by decide, by omega⟩]) hin f hf
      · unfold Lrl
        dsimp only
        simp (disch := omega) only [pt_ln, pt_le, Nat.add_zero, g0, g2, g3, g4]
        refine ⟨by trivial, fun e => absurd e (not_nI (by decide) (by decide) (by decide)), fun _ => ⟨?_, fun _ => by trivial, fun _ => by trivial⟩⟩
        cases hal : lat (alP z (nI cl)) a i with
        | none => exact hR.mem hcl
        | some j =>
          obtain ⟨j1, j2, j3, -⟩ := lat_some hal
          unfold alP at j3
          simp only [Bool.and_eq_true, decide_eq_true_eq] at j3
          exact hR.val j1 (by omega) j3.2.1
  by_cases k4 : pt z i 0 = nI 4
  · obtain ⟨⟨p, hp, hpe⟩, ⟨q, hq, hqe⟩, o, ho, hoe⟩ := hw.k4 k4
    have hv := lvO_VV hR (Nat.le_of_lt hi) hp (hpe ▸ r1)
    have hv2 := lvO_VV hR (Nat.le_of_lt hi) hq (hqe ▸ r2)
    have hcl := cellF_lt (vlO z a i (nI p)) o
    obtain ⟨cl, hcle⟩ : ∃ cl, cl = cellF (vlO z a i (nI p)) o := ⟨_, rfl⟩
    have hpl := fun {Q : Post} {μ : Mem} => l_place (xs := xs) (Q := Q) (μ := μ) hv ho
    have he : fnF z a b i = (match fstF (brk (lay (lay (lay z i 7 (nI 2)) i 9 (nI (cellF (vlO z a i (nI p)) o))) i 11 (vlO z a i (nI q))) i) (b - (i + 1)) (i + 1) with | none => (lay (lay (lay z i 7 (nI 2)) i 9 (nI (cellF (vlO z a i (nI p)) o))) i 11 (vlO z a i (nI q))) | some l => rpl (lay (lay (lay z i 7 (nI 2)) i 9 (nI (cellF (vlO z a i (nI p)) o))) i 11 (vlO z a i (nI q))) b l) := by
      unfold fnF
      rw [if_neg k0, if_neg k3, if_pos k4]
      unfold fnS
      have e2 : ∀ v, vlO (lay (lay z i 7 (nI 2)) i 9 v) a i (nI q) = vlO z a i (nI q) := fun v => by rw [vlO_lay (by decide) (idx8 hq), vlO_lay (by decide) (idx8 hq)]
      rw [pt_ln (f := 7) (g := 2) (by decide), pt_ln (f := 7) (g := 3) (by decide), pt_ln (f := 7) (g := 4) (by decide), hpe, hqe, hoe, vlO_lay (by decide) (idx8 hp), idx_nI (by omega)]
      simp only [e2]
      generalize fstF _ _ _ = o2
      cases o2 <;> rfl
    rw [← hcle] at he hcl hpl
    obtain ⟨z2, hz2⟩ : ∃ z2, z2 = lay (lay (lay z i 7 (nI 2)) i 9 (nI cl)) i 11 (vlO z a i (nI q)) := ⟨_, rfl⟩
    rw [← hz2] at he
    have hR2 : LR (up2 (up2 (up2 d 1 (5 * i) (nI 2)) 1 (5 * i + 2) (nI cl)) 1 (5 * i + 4) (lvO d z a i (nI q))) z2 a b n := by
      rw [hz2]
      refine LR.chg (i := i) hR (fun o k ho => by simp (disch := omega) only [up2_ne]) (fun k hk => by simp (disch := omega) only [up2_ne]) (fun k hk => by simp (disch := omega) only [up2_ne]) (fun k hk => by rw [lay_lo hk, lay_lo hk, lay_lo hk]) (fun j f hj hf => by rw [pt_lj ⟨hj, by decide, hf⟩, pt_lj ⟨hj, by decide, hf⟩, pt_lj ⟨hj, by decide, hf⟩]) (fun hin f hf => ?_) (fun _ _ => ?_)
      · simp (disch := omega) only [up2_ne]
        exact rows (fun f hf => by rw [pt_ln ⟨by omega, by decide, by omega⟩, pt_ln ⟨by omega, by decide, by omega⟩, pt_ln ⟨by omega, by decide, by omega⟩]) hin f hf
      · unfold Lrl
        dsimp only
        simp (disch := omega) only [pt_ln, pt_le, Nat.add_zero, up2_ne, up2_at]
        exact ⟨by trivial, fun e => absurd e (not_nI (by decide) (by decide) (by decide)), fun _ => ⟨hv2, fun _ => by trivial, fun e => absurd e k3⟩⟩
    have c2 : d 5 2 = nI b := (hR.c (by decide)).trans hG.1.h2
    have z9 : pt z2 i 9 = nI cl := by rw [hz2, pt_ln (by decide), pt_le]
    have c2b : nI b - nI 1 = nI (b - 1) := pk_sub (by omega)
    apply w_L_done_0
    simp (maxSteps := 1000000) (disch := omega) only [↓QI_i, ↓QV_v, ↓QA_a, ↓QF_f, ↓QD_d, ↓QL_l, ↓Bool.cond_eq_ite, ↓reduceIte, decide_eq_true_eq, Bool.not_eq_true', Bool.true_and, Bool.and_true, Bool.and_self, gR_some, Option.getD_some, mI_def, setI_def, mR_def, not_false_eq_true, not_true_eq_false, Bool.false_eq_true, idx_nI, nI_add, pk_mul, icB_lt, icB_gt, icB_le, icB_ge, icB_eq, icB_ne, bI_ne, nI_eqI, gl_0 hL, gl_1 hL, gl_2 hL, gl_3 hL, gl_4 hL, gl_5 hL, up2_pl, up2_pl0, pl_at, pl_at0, up2_ne, f0, k4, show ¬ 4 ≤ 0 by decide, f2, hpe, val hp hN1 e1]
    apply w_L_done_42
    simp (maxSteps := 1000000) (disch := omega) only [↓QI_i, ↓QV_v, ↓QA_a, ↓QF_f, ↓QD_d, ↓QL_l, ↓Bool.cond_eq_ite, ↓reduceIte, decide_eq_true_eq, Bool.not_eq_true', Bool.true_and, Bool.and_true, Bool.and_self, gR_some, Option.getD_some, mI_def, setI_def, mR_def, not_false_eq_true, not_true_eq_false, Bool.false_eq_true, idx_nI, nI_add, pk_mul, icB_lt, icB_gt, icB_le, icB_ge, icB_eq, icB_ne, bI_ne, nI_eqI, gl_0 hL, gl_1 hL, gl_2 hL, gl_3 hL, gl_4 hL, gl_5 hL, up2_pl, up2_pl0, pl_at, pl_at0, up2_ne, f0, k4, show ¬ 4 ≤ 0 by decide, show ¬ 4 = 3 by decide, f3, hqe, val hq hN1 e1]
    apply w_L_done_78
    simp (maxSteps := 1000000) (disch := omega) only [↓QI_i, ↓QV_v, ↓QA_a, ↓QF_f, ↓QD_d, ↓QL_l, ↓Bool.cond_eq_ite, ↓reduceIte, decide_eq_true_eq, Bool.not_eq_true', Bool.true_and, Bool.and_true, Bool.and_self, gR_some, Option.getD_some, mI_def, setI_def, mR_def, not_false_eq_true, not_true_eq_false, Bool.false_eq_true, idx_nI, nI_add, pk_mul, icB_lt, icB_gt, icB_le, icB_ge, icB_eq, icB_ne, bI_ne, nI_eqI, gl_0 hL, gl_1 hL, gl_2 hL, gl_3 hL, gl_4 hL, gl_5 hL, up2_pl, up2_pl0, pl_at, pl_at0, up2_ne, f0, k4, show ¬ 4 = 0 by decide]
    apply w_L_done_101
    simp (maxSteps := 1000000) (disch := omega) only [↓QI_i, ↓QV_v, ↓QA_a, ↓QF_f, ↓QD_d, ↓QL_l, ↓Bool.cond_eq_ite, ↓reduceIte, decide_eq_true_eq, Bool.not_eq_true', Bool.true_and, Bool.and_true, Bool.and_self, gR_some, Option.getD_some, mI_def, setI_def, mR_def, not_false_eq_true, not_true_eq_false, Bool.false_eq_true, idx_nI, nI_add, pk_mul, icB_lt, icB_gt, icB_le, icB_ge, icB_eq, icB_ne, bI_ne, nI_eqI, gl_0 hL, gl_1 hL, gl_2 hL, gl_3 hL, gl_4 hL, gl_5 hL, up2_pl, up2_pl0, pl_at, pl_at0, up2_ne, f0, k4, show ¬ 4 = 1 by decide]
    apply w_L_done_122
    simp (maxSteps := 1000000) (disch := omega) only [↓QI_i, ↓QV_v, ↓QA_a, ↓QF_f, ↓QD_d, ↓QL_l, ↓Bool.cond_eq_ite, ↓reduceIte, decide_eq_true_eq, Bool.not_eq_true', Bool.true_and, Bool.and_true, Bool.and_self, gR_some, Option.getD_some, mI_def, setI_def, mR_def, not_false_eq_true, not_true_eq_false, Bool.false_eq_true, idx_nI, nI_add, pk_mul, icB_lt, icB_gt, icB_le, icB_ge, icB_eq, icB_ne, bI_ne, nI_eqI, gl_0 hL, gl_1 hL, gl_2 hL, gl_3 hL, gl_4 hL, gl_5 hL, up2_pl, up2_pl0, pl_at, pl_at0, up2_ne, f0, k4, show ¬ 4 = 2 by decide]
    apply w_L_done_143
    simp (maxSteps := 1000000) (disch := omega) only [↓QI_i, ↓QV_v, ↓QA_a, ↓QF_f, ↓QD_d, ↓QL_l, ↓Bool.cond_eq_ite, ↓reduceIte, decide_eq_true_eq, Bool.not_eq_true', Bool.true_and, Bool.and_true, Bool.and_self, gR_some, Option.getD_some, mI_def, setI_def, mR_def, not_false_eq_true, not_true_eq_false, Bool.false_eq_true, idx_nI, nI_add, pk_mul, icB_lt, icB_gt, icB_le, icB_ge, icB_eq, icB_ne, bI_ne, nI_eqI, gl_0 hL, gl_1 hL, gl_2 hL, gl_3 hL, gl_4 hL, gl_5 hL, up2_pl, up2_pl0, pl_at, pl_at0, up2_ne, up2_at, f0, k4, show 3 ≤ 4 by decide, show ¬ 4 = 3 by decide, f4, hoe, hpl, c2, c2b]
    have hf0 : (nM : Int32) = oI (fstF (brk z2 i) (b - (b - 1 + 1)) (b - 1 + 1)) := by rw [show b - (b - 1 + 1) = 0 by omega]; rfl
    rw [hf0]
    refine l_store343 hL hR2 (by omega) (by simp (disch := omega) only [up2_ne]; exact c2) (by simp (disch := omega) only [up2_ne, up2_at]) z9 ha hi (fun hno => ?_) (fun l hl l1 l2 => ?_) (e := b - 1 - i) (k := b - 1) (by omega) (by omega)
    · refine fin _ ?_
      rw [he, hno]
      exact hR2
    · have hk3 := brk_k (fstF_some hl).2.2
      refine l_zap470 hL (b := b) (by omega) (e := b - l) (k := l) (by simp (disch := omega) only [up2_ne]; exact c2) (by omega) fun d' hd' => ?_
      refine fin _ ?_
      rw [he, hl]
      show LR d' (rpl z2 b l) a b n
      unfold rpl
      refine LR.wz ?_ (by omega) hd'
      have e4 : (up2 (up2 (up2 d 1 (5 * i) (nI 2)) 1 (5 * i + 2) (nI cl)) 1 (5 * i + 4) (lvO d z a i (nI q))) 5 4 = z2 4 := hR2.c (by decide)
      have e5 : (up2 (up2 (up2 d 1 (5 * i) (nI 2)) 1 (5 * i + 2) (nI cl)) 1 (5 * i + 4) (lvO d z a i (nI q))) 5 5 = z2 5 := hR2.c (by decide)
      have hR3 := (hR2.cnt (k := 4) (v := z2 4 + nI 1) (by decide)).cnt (k := 5) (v := z2 5 + (nI b - nI l)) (by decide)
      rw [e4, e5]
      refine LR.chg (i := l) hR3 (fun o k ho => by rw [up2_ne (by omega), up2_ne (by omega)]) (fun k hk => by rw [up2_ne (by omega), up2_ne (by omega)]) (fun k hk => by rw [up2_ne (by omega), up2_ne (by omega)]) (fun k hk => by rw [lay_lo hk, lay_lo hk]) (fun j f hj hf => by rw [pt_lj ⟨hj, by decide, hf⟩, pt_lj ⟨hj, by decide, hf⟩]) (fun hin f hf => ?_) (fun g1 g2 => ?_)
      · by_cases f6 : f = 6
        · subst f6
          rw [up2_at, pt_le]
        · rw [up2_ne (by omega), pt_ln ⟨f6, by decide, by omega⟩]
          by_cases f5 : f = 5
          · subst f5; rw [up2_at, pt_le]
          · rw [up2_ne (by omega), pt_ln ⟨f5, by decide, by omega⟩]; exact hR3.row hin hf
      · have := hR3.ent g1 g2
        unfold Lrl at this ⊢
        dsimp only at this ⊢
        simp (disch := omega) only [up2_ne, pt_ln] at this ⊢
        exact this
  · obtain ⟨k12, ⟨p, hp, hpe⟩, ⟨q, hq, hqe⟩, -⟩ := hw.k12 k0 k3 k4
    have hv := lvO_VV hR (Nat.le_of_lt hi) hp (hpe ▸ r1)
    have hv2 := lvO_VV hR (Nat.le_of_lt hi) hq (hqe ▸ r2)
    have he : fnF z a b i = lay (lay z i 7 (nI 2)) i 11 (resF (pt z i 0) (vlO z a i (nI p)) (vlO z a i (nI q))) := by
      unfold fnF
      rw [if_neg k0, if_neg k3, if_neg k4]
      rw [hpe, hqe, vlO_lay (by decide) (idx8 hp), vlO_lay (by decide) (idx8 hq)]
    rcases k12 with k1 | k2
    · rw [k1] at he
      have hend := plain _ _ (VV_add hv hv2) k3 k4 he
      have hadd := fun {Q : Post} {μ : Mem} => l_add (xs := xs) (Q := Q) (μ := μ) hv hv2
      apply w_L_done_0
      simp (maxSteps := 1000000) (disch := omega) only [↓QI_i, ↓QV_v, ↓QA_a, ↓QF_f, ↓QD_d, ↓QL_l, ↓Bool.cond_eq_ite, ↓reduceIte, decide_eq_true_eq, Bool.not_eq_true', Bool.true_and, Bool.and_true, Bool.and_self, gR_some, Option.getD_some, mI_def, setI_def, mR_def, not_false_eq_true, not_true_eq_false, Bool.false_eq_true, idx_nI, nI_add, pk_mul, icB_lt, icB_gt, icB_le, icB_ge, icB_eq, icB_ne, bI_ne, nI_eqI, gl_0 hL, gl_1 hL, gl_2 hL, gl_3 hL, gl_4 hL, gl_5 hL, up2_pl, up2_pl0, pl_at, pl_at0, up2_ne, f0, k1, show ¬ 1 ≤ 0 by decide, f2, hpe, val hp hN1 e1]
      apply w_L_done_42
      simp (maxSteps := 1000000) (disch := omega) only [↓QI_i, ↓QV_v, ↓QA_a, ↓QF_f, ↓QD_d, ↓QL_l, ↓Bool.cond_eq_ite, ↓reduceIte, decide_eq_true_eq, Bool.not_eq_true', Bool.true_and, Bool.and_true, Bool.and_self, gR_some, Option.getD_some, mI_def, setI_def, mR_def, not_false_eq_true, not_true_eq_false, Bool.false_eq_true, idx_nI, nI_add, pk_mul, icB_lt, icB_gt, icB_le, icB_ge, icB_eq, icB_ne, bI_ne, nI_eqI, gl_0 hL, gl_1 hL, gl_2 hL, gl_3 hL, gl_4 hL, gl_5 hL, up2_pl, up2_pl0, pl_at, pl_at0, up2_ne, f0, k1, show ¬ 1 ≤ 0 by decide, show ¬ 1 = 3 by decide, f3, hqe, val hq hN1 e1]
      apply w_L_done_78
      simp (maxSteps := 1000000) (disch := omega) only [↓QI_i, ↓QV_v, ↓QA_a, ↓QF_f, ↓QD_d, ↓QL_l, ↓Bool.cond_eq_ite, ↓reduceIte, decide_eq_true_eq, Bool.not_eq_true', Bool.true_and, Bool.and_true, Bool.and_self, gR_some, Option.getD_some, mI_def, setI_def, mR_def, not_false_eq_true, not_true_eq_false, Bool.false_eq_true, idx_nI, nI_add, pk_mul, icB_lt, icB_gt, icB_le, icB_ge, icB_eq, icB_ne, bI_ne, nI_eqI, gl_0 hL, gl_1 hL, gl_2 hL, gl_3 hL, gl_4 hL, gl_5 hL, up2_pl, up2_pl0, pl_at, pl_at0, up2_ne, f0, k1, show ¬ 1 = 0 by decide]
      apply w_L_done_101
      simp (maxSteps := 1000000) (disch := omega) only [↓QI_i, ↓QV_v, ↓QA_a, ↓QF_f, ↓QD_d, ↓QL_l, ↓Bool.cond_eq_ite, ↓reduceIte, decide_eq_true_eq, Bool.not_eq_true', Bool.true_and, Bool.and_true, Bool.and_self, gR_some, Option.getD_some, mI_def, setI_def, mR_def, not_false_eq_true, not_true_eq_false, Bool.false_eq_true, idx_nI, nI_add, pk_mul, icB_lt, icB_gt, icB_le, icB_ge, icB_eq, icB_ne, bI_ne, nI_eqI, gl_0 hL, gl_1 hL, gl_2 hL, gl_3 hL, gl_4 hL, gl_5 hL, up2_pl, up2_pl0, pl_at, pl_at0, up2_ne, f0, k1, hadd]
      apply w_L_done_122
      simp (maxSteps := 1000000) (disch := omega) only [↓QI_i, ↓QV_v, ↓QA_a, ↓QF_f, ↓QD_d, ↓QL_l, ↓Bool.cond_eq_ite, ↓reduceIte, decide_eq_true_eq, Bool.not_eq_true', Bool.true_and, Bool.and_true, Bool.and_self, gR_some, Option.getD_some, mI_def, setI_def, mR_def, not_false_eq_true, not_true_eq_false, Bool.false_eq_true, idx_nI, nI_add, pk_mul, icB_lt, icB_gt, icB_le, icB_ge, icB_eq, icB_ne, bI_ne, nI_eqI, gl_0 hL, gl_1 hL, gl_2 hL, gl_3 hL, gl_4 hL, gl_5 hL, up2_pl, up2_pl0, pl_at, pl_at0, up2_ne, f0, k1, show ¬ 1 = 2 by decide]
      apply w_L_done_143
      simp (maxSteps := 1000000) (disch := omega) only [↓QI_i, ↓QV_v, ↓QA_a, ↓QF_f, ↓QD_d, ↓QL_l, ↓Bool.cond_eq_ite, ↓reduceIte, decide_eq_true_eq, Bool.not_eq_true', Bool.true_and, Bool.and_true, Bool.and_self, gR_some, Option.getD_some, mI_def, setI_def, mR_def, not_false_eq_true, not_true_eq_false, Bool.false_eq_true, idx_nI, nI_add, pk_mul, icB_lt, icB_gt, icB_le, icB_ge, icB_eq, icB_ne, bI_ne, nI_eqI, gl_0 hL, gl_1 hL, gl_2 hL, gl_3 hL, gl_4 hL, gl_5 hL, up2_pl, up2_pl0, pl_at, pl_at0, up2_ne, f0, k1, show ¬ 3 ≤ 1 by decide]
      exact hend
    · rw [k2] at he
      have hend := plain _ _ (VV_mul hv hv2) k3 k4 he
      have hmul := fun {Q : Post} {μ : Mem} => l_mul (xs := xs) (Q := Q) (μ := μ) hv hv2
      apply w_L_done_0
      simp (maxSteps := 1000000) (disch := omega) only [↓QI_i, ↓QV_v, ↓QA_a, ↓QF_f, ↓QD_d, ↓QL_l, ↓Bool.cond_eq_ite, ↓reduceIte, decide_eq_true_eq, Bool.not_eq_true', Bool.true_and, Bool.and_true, Bool.and_self, gR_some, Option.getD_some, mI_def, setI_def, mR_def, not_false_eq_true, not_true_eq_false, Bool.false_eq_true, idx_nI, nI_add, pk_mul, icB_lt, icB_gt, icB_le, icB_ge, icB_eq, icB_ne, bI_ne, nI_eqI, gl_0 hL, gl_1 hL, gl_2 hL, gl_3 hL, gl_4 hL, gl_5 hL, up2_pl, up2_pl0, pl_at, pl_at0, up2_ne, f0, k2, show ¬ 2 ≤ 0 by decide, f2, hpe, val hp hN1 e1]
      apply w_L_done_42
      simp (maxSteps := 1000000) (disch := omega) only [↓QI_i, ↓QV_v, ↓QA_a, ↓QF_f, ↓QD_d, ↓QL_l, ↓Bool.cond_eq_ite, ↓reduceIte, decide_eq_true_eq, Bool.not_eq_true', Bool.true_and, Bool.and_true, Bool.and_self, gR_some, Option.getD_some, mI_def, setI_def, mR_def, not_false_eq_true, not_true_eq_false, Bool.false_eq_true, idx_nI, nI_add, pk_mul, icB_lt, icB_gt, icB_le, icB_ge, icB_eq, icB_ne, bI_ne, nI_eqI, gl_0 hL, gl_1 hL, gl_2 hL, gl_3 hL, gl_4 hL, gl_5 hL, up2_pl, up2_pl0, pl_at, pl_at0, up2_ne, f0, k2, show ¬ 2 ≤ 0 by decide, show ¬ 2 = 3 by decide, f3, hqe, val hq hN1 e1]
      apply w_L_done_78
      simp (maxSteps := 1000000) (disch := omega) only [↓QI_i, ↓QV_v, ↓QA_a, ↓QF_f, ↓QD_d, ↓QL_l, ↓Bool.cond_eq_ite, ↓reduceIte, decide_eq_true_eq, Bool.not_eq_true', Bool.true_and, Bool.and_true, Bool.and_self, gR_some, Option.getD_some, mI_def, setI_def, mR_def, not_false_eq_true, not_true_eq_false, Bool.false_eq_true, idx_nI, nI_add, pk_mul, icB_lt, icB_gt, icB_le, icB_ge, icB_eq, icB_ne, bI_ne, nI_eqI, gl_0 hL, gl_1 hL, gl_2 hL, gl_3 hL, gl_4 hL, gl_5 hL, up2_pl, up2_pl0, pl_at, pl_at0, up2_ne, f0, k2, show ¬ 2 = 0 by decide]
      apply w_L_done_101
      simp (maxSteps := 1000000) (disch := omega) only [↓QI_i, ↓QV_v, ↓QA_a, ↓QF_f, ↓QD_d, ↓QL_l, ↓Bool.cond_eq_ite, ↓reduceIte, decide_eq_true_eq, Bool.not_eq_true', Bool.true_and, Bool.and_true, Bool.and_self, gR_some, Option.getD_some, mI_def, setI_def, mR_def, not_false_eq_true, not_true_eq_false, Bool.false_eq_true, idx_nI, nI_add, pk_mul, icB_lt, icB_gt, icB_le, icB_ge, icB_eq, icB_ne, bI_ne, nI_eqI, gl_0 hL, gl_1 hL, gl_2 hL, gl_3 hL, gl_4 hL, gl_5 hL, up2_pl, up2_pl0, pl_at, pl_at0, up2_ne, f0, k2, show ¬ 2 = 1 by decide]
      apply w_L_done_122
      simp (maxSteps := 1000000) (disch := omega) only [↓QI_i, ↓QV_v, ↓QA_a, ↓QF_f, ↓QD_d, ↓QL_l, ↓Bool.cond_eq_ite, ↓reduceIte, decide_eq_true_eq, Bool.not_eq_true', Bool.true_and, Bool.and_true, Bool.and_self, gR_some, Option.getD_some, mI_def, setI_def, mR_def, not_false_eq_true, not_true_eq_false, Bool.false_eq_true, idx_nI, nI_add, pk_mul, icB_lt, icB_gt, icB_le, icB_ge, icB_eq, icB_ne, bI_ne, nI_eqI, gl_0 hL, gl_1 hL, gl_2 hL, gl_3 hL, gl_4 hL, gl_5 hL, up2_pl, up2_pl0, pl_at, pl_at0, up2_ne, f0, k2, hmul]
      apply w_L_done_143
      simp (maxSteps := 1000000) (disch := omega) only [↓QI_i, ↓QV_v, ↓QA_a, ↓QF_f, ↓QD_d, ↓QL_l, ↓Bool.cond_eq_ite, ↓reduceIte, decide_eq_true_eq, Bool.not_eq_true', Bool.true_and, Bool.and_true, Bool.and_self, gR_some, Option.getD_some, mI_def, setI_def, mR_def, not_false_eq_true, not_true_eq_false, Bool.false_eq_true, idx_nI, nI_add, pk_mul, icB_lt, icB_gt, icB_le, icB_ge, icB_eq, icB_ne, bI_ne, nI_eqI, gl_0 hL, gl_1 hL, gl_2 hL, gl_3 hL, gl_4 hL, gl_5 hL, up2_pl, up2_pl0, pl_at, pl_at0, up2_ne, f0, k2, show ¬ 3 ≤ 2 by decide]
      exact hend
