/-! the class's text: errors, ends, instructions -/
/-- where the first k characters lead to -/
def txS (tl : Nat × Zt) : Nat → Nat
  | 0 => 1
  | k + 1 => txN (txS tl k) (txC tl k)
theorem txS_lt {tl : Nat × Zt} {k : Nat} : txS tl k < 16 := by
  cases k with
  | zero => exact (by decide : 1 < 16)
  | succ k => exact txN_lt
/-- the first wrong character from k on -/
def txE (tl : Nat × Zt) : Nat → Nat → Nat
  | 0, k => k
  | d + 1, k => if txS tl (k + 1) = 0 then k else txE tl d (k + 1)
/-- whether all of it is a program -/
def txF (tl : Nat × Zt) : Bool := decide (txS tl tl.1 = 5) || decide (txS tl tl.1 = 6)
theorem k_full4 {xs : Scr} {I : In2} {ρ : Rh} {Q : Post} {tl : Nat × Zt} (hW : Rw ρ) (hT : TxC I tl) : ∀ {d k : Nat}, k + d = tl.1 → Q (.inl (some (.int (bI (txF tl))))) (I, ρ) → Ev xs 47 4 [.ref 242, .int (nI (txS tl k)), .int (nI k)] [] (I, ρ) Q := by
  have h1 := hT.1
  have hl := hT.2.1.1
  intro d
  induction d with
  | zero =>
    intro k hk h
    obtain rfl : k = tl.1 := by omega
    have hs := txS_lt (tl := tl) (k := tl.1)
    apply w_X3_isComplete_4
    simp (disch := omega) only [↓QI_i, ↓QV_v, ↓QA_a, ↓QF_f, ↓QD_d, ↓QL_l, ↓Bool.cond_eq_ite, ↓reduceIte, decide_eq_true_eq, Bool.not_eq_true', Bool.true_and, Bool.and_true, Bool.and_self, gR_some, Option.getD_some, mI_def, setI_def, mR_def, not_false_eq_true, not_true_eq_false, Bool.false_eq_true, idx_nI, nI_add, pk_mul, icB_lt, icB_gt, icB_le, icB_ge, icB_eq, icB_ne, bI_ne, nI_eqI, gc_T hW, h1, Nat.le_refl]
    revert h; unfold txF
    by_cases e : txS tl tl.1 = 5
    · rw [if_pos e, decide_eq_true e]; exact id
    · rw [if_neg e, decide_eq_false e]
      by_cases e2 : txS tl tl.1 = 6
      · rw [if_neg (by simpa using e2), decide_eq_true e2]; exact id
      · rw [if_pos e2, decide_eq_false e2]; exact id
  | succ d ih =>
    intro k hk h
    have hk1 : ¬ tl.1 ≤ k := by omega
    have hs := txS_lt (tl := tl) (k := k)
    have hx := txC_lt hT.2.1 k
    apply w_X3_isComplete_4
    simp (disch := omega) only [↓QI_i, ↓QV_v, ↓QA_a, ↓QF_f, ↓QD_d, ↓QL_l, ↓Bool.cond_eq_ite, ↓reduceIte, decide_eq_true_eq, Bool.not_eq_true', Bool.true_and, Bool.and_true, Bool.and_self, gR_some, Option.getD_some, mI_def, setI_def, mR_def, not_false_eq_true, not_true_eq_false, Bool.false_eq_true, idx_nI, nI_add, pk_mul, icB_lt, icB_gt, icB_le, icB_ge, icB_eq, icB_ne, bI_ne, nI_eqI, gc_T hW, h1, hk1, k_sign hW hT, k_next hs hx]
    exact ih (k := k + 1) (by omega) h
theorem k_full {xs : Scr} {I : In2} {ρ : Rh} {Q : Post} {tl : Nat × Zt} (hW : Rw ρ) (hT : TxC I tl) : Ev xs 47 0 [.ref 242, .null, .null] [] (I, ρ) Q ↔ Q (.inl (some (.int (bI (txF tl))))) (I, ρ) := by
  apply Ev.dt; intro Q h; apply w_X3_isComplete_0
  exact k_full4 hW hT (d := tl.1) (k := 0) (by omega) h
/-- how many instructions end in the first k characters -/
def txK (tl : Nat × Zt) : Nat → Nat
  | 0 => 0
  | k + 1 => if txC tl k = 59 then txK tl k + 1 else txK tl k
theorem txK_le {tl : Nat × Zt} : ∀ {k : Nat}, txK tl k ≤ k := by
  intro k
  induction k with
  | zero => exact Nat.le_refl 0
  | succ k ih => rw [txK]; split <;> omega
theorem k_ends4 {xs : Scr} {I : In2} {ρ : Rh} {Q : Post} {tl : Nat × Zt} (hW : Rw ρ) (hT : TxC I tl) : ∀ {d k : Nat}, k + d = tl.1 → Q (.inl (some (.int (nI (txK tl tl.1 + 1))))) (I, ρ) → Ev xs 48 4 [.ref 242, .int (nI (txK tl k)), .int (nI k)] [] (I, ρ) Q := by
  have h1 := hT.1
  have hl := hT.2.1.1
  intro d
  induction d with
  | zero =>
    intro k hk h
    obtain rfl : k = tl.1 := by omega
    apply w_X3_instructions_4
    simp (disch := omega) only [↓QI_i, ↓QV_v, ↓QA_a, ↓QF_f, ↓QD_d, ↓QL_l, ↓Bool.cond_eq_ite, ↓reduceIte, decide_eq_true_eq, Bool.not_eq_true', Bool.true_and, Bool.and_true, Bool.and_self, gR_some, Option.getD_some, mI_def, setI_def, mR_def, not_false_eq_true, not_true_eq_false, Bool.false_eq_true, idx_nI, nI_add, pk_mul, icB_lt, icB_gt, icB_le, icB_ge, icB_eq, icB_ne, bI_ne, nI_eqI, gc_T hW, h1, Nat.le_refl]
    exact h
  | succ d ih =>
    intro k hk h
    have hk1 : ¬ tl.1 ≤ k := by omega
    have hx := txC_lt hT.2.1 k
    apply w_X3_instructions_4
    simp (disch := omega) only [↓QI_i, ↓QV_v, ↓QA_a, ↓QF_f, ↓QD_d, ↓QL_l, ↓Bool.cond_eq_ite, ↓reduceIte, decide_eq_true_eq, Bool.not_eq_true', Bool.true_and, Bool.and_true, Bool.and_self, gR_some, Option.getD_some, mI_def, setI_def, mR_def, not_false_eq_true, not_true_eq_false, Bool.false_eq_true, idx_nI, nI_add, pk_mul, icB_lt, icB_gt, icB_le, icB_ge, icB_eq, icB_ne, bI_ne, nI_eqI, gc_T hW, h1, hk1, k_sign hW hT]
    have := ih (k := k + 1) (by omega) h
    rw [txK] at this
    by_cases e : txC tl k = 59
    · rw [if_neg (by simpa using e)]; rw [if_pos e] at this; exact this
    · rw [if_pos e]; rw [if_neg e] at this; exact this
theorem k_ends {xs : Scr} {I : In2} {ρ : Rh} {Q : Post} {tl : Nat × Zt} (hW : Rw ρ) (hT : TxC I tl) : Ev xs 48 0 [.ref 242, .null, .null] [] (I, ρ) Q ↔ Q (.inl (some (.int (nI (txK tl tl.1 + 1))))) (I, ρ) := by
  apply Ev.dt; intro Q h; apply w_X3_instructions_0
  exact k_ends4 hW hT (d := tl.1) (k := 0) (by omega) h
/-- where the next instruction begins -/
def txX (tl : Nat × Zt) : Nat → Nat → Nat
  | 0, k => k
  | d + 1, k => if txC tl k = 59 then k + 1 else txX tl d (k + 1)
theorem txX_le {tl : Nat × Zt} : ∀ {d k : Nat}, k ≤ txX tl d k ∧ txX tl d k ≤ k + d := by
  intro d
  induction d with
  | zero => intro k; exact ⟨Nat.le_refl k, Nat.le_refl k⟩
  | succ d ih => intro k; rw [txX]; have := @ih (k + 1); split <;> omega
theorem k_nxt2 {xs : Scr} {I : In2} {ρ : Rh} {Q : Post} {tl : Nat × Zt} (hW : Rw ρ) (hT : TxC I tl) {p : Int32} : ∀ {d k : Nat}, k + d = tl.1 → Q (.inl (some (.int (nI (txX tl d k))))) (I, ρ) → Ev xs 49 2 [.ref 242, .int p, .int (nI k)] [] (I, ρ) Q := by
  have h1 := hT.1
  have hl := hT.2.1.1
  intro d
  induction d with
  | zero =>
    intro k hk h
    obtain rfl : k = tl.1 := by omega
    apply w_X3_nextInstruction_2
    simp (disch := omega) only [↓QI_i, ↓QV_v, ↓QA_a, ↓QF_f, ↓QD_d, ↓QL_l, ↓Bool.cond_eq_ite, ↓reduceIte, decide_eq_true_eq, Bool.not_eq_true', Bool.true_and, Bool.and_true, Bool.and_self, gR_some, Option.getD_some, mI_def, setI_def, mR_def, not_false_eq_true, not_true_eq_false, Bool.false_eq_true, idx_nI, nI_add, pk_mul, icB_lt, icB_gt, icB_le, icB_ge, icB_eq, icB_ne, bI_ne, nI_eqI, gc_T hW, h1, Nat.le_refl]
    exact h
  | succ d ih =>
    intro k hk h
    have hk1 : ¬ tl.1 ≤ k := by omega
    have hx := txC_lt hT.2.1 k
    apply w_X3_nextInstruction_2
    simp (disch := omega) only [↓QI_i, ↓QV_v, ↓QA_a, ↓QF_f, ↓QD_d, ↓QL_l, ↓Bool.cond_eq_ite, ↓reduceIte, decide_eq_true_eq, Bool.not_eq_true', Bool.true_and, Bool.and_true, Bool.and_self, gR_some, Option.getD_some, mI_def, setI_def, mR_def, not_false_eq_true, not_true_eq_false, Bool.false_eq_true, idx_nI, nI_add, pk_mul, icB_lt, icB_gt, icB_le, icB_ge, icB_eq, icB_ne, bI_ne, nI_eqI, gc_T hW, h1, hk1, k_sign hW hT]
    rw [txX] at h
    by_cases e : txC tl k = 59
    · rw [if_neg (by simpa using e)]; rw [if_pos e] at h; exact h
    · rw [if_pos e]; rw [if_neg e] at h; exact ih (by omega) h
theorem k_nxt {xs : Scr} {I : In2} {ρ : Rh} {Q : Post} {tl : Nat × Zt} (hW : Rw ρ) (hT : TxC I tl) {k : Nat} (hk : k ≤ tl.1) : Ev xs 49 0 [.ref 242, .int (nI k), .null] [] (I, ρ) Q ↔ Q (.inl (some (.int (nI (txX tl (tl.1 - k) k))))) (I, ρ) := by
  apply Ev.dt; intro Q h; apply w_X3_nextInstruction_0
  exact k_nxt2 hW hT (by omega) h
/-! an instruction is read -/
def txr (x : Nat) : Int32 := nI x - nI 97
def txd (x : Nat) : Int32 := nI x - nI 48
theorem k_regAt {xs : Scr} {I : In2} {ρ : Rh} {Q : Post} {tl : Nat × Zt} {k : Nat} (hW : Rw ρ) (hT : TxC I tl) (hk : k < 200) : Ev xs 51 0 [.ref 242, .int (nI k)] [] (I, ρ) Q ↔ Q (.inl (some (.int (txr (txC tl k))))) (I, ρ) := by
  apply Ev.dt; intro Q h; apply w_X3_registerAt_0
  rw [gc_T hW, cond_true, k_sign hW hT hk]; exact h
theorem k_digAt {xs : Scr} {I : In2} {ρ : Rh} {Q : Post} {tl : Nat × Zt} {k : Nat} (hW : Rw ρ) (hT : TxC I tl) (hk : k < 200) : Ev xs 52 0 [.ref 242, .int (nI k)] [] (I, ρ) Q ↔ Q (.inl (some (.int (txd (txC tl k))))) (I, ρ) := by
  apply Ev.dt; intro Q h; apply w_X3_digitAt_0
  rw [gc_T hW, cond_true, k_sign hW hT hk]; exact h
/-- one figure or two -/
def txM (tl : Nat × Zt) (k : Nat) : Int32 := if txD (txC tl (k + 1)) = true then nI 10 * txd (txC tl k) + txd (txC tl (k + 1)) else txd (txC tl k)
def txV (tl : Nat × Zt) (k : Nat) : Int32 := if txC tl k = 45 then - txM tl (k + 1) else txM tl k
theorem k_numAt {xs : Scr} {I : In2} {ρ : Rh} {Q : Post} {tl : Nat × Zt} {k : Nat} (hW : Rw ρ) (hT : TxC I tl) (hk : k < 190) : Ev xs 53 0 [.ref 242, .int (nI k), .null, .null] [] (I, ρ) Q ↔ Q (.inl (some (.int (txV tl k)))) (I, ρ) := by
  have hx := txC_lt hT.2.1 k
  have hx1 := txC_lt hT.2.1 (k + 1)
  have hx2 := txC_lt hT.2.1 (k + 1 + 1)
  have hk1 : ¬ k + 1 ≤ k := by omega
  apply Ev.dt; intro Q h; apply w_X3_numberAt_0
  simp (disch := omega) only [↓QI_i, ↓QV_v, ↓QA_a, ↓QF_f, ↓QD_d, ↓QL_l, ↓Bool.cond_eq_ite, ↓reduceIte, decide_eq_true_eq, Bool.not_eq_true', Bool.true_and, Bool.and_true, Bool.and_self, gR_some, Option.getD_some, mI_def, setI_def, mR_def, not_false_eq_true, not_true_eq_false, Bool.false_eq_true, idx_nI, nI_add, pk_mul, icB_lt, icB_gt, icB_le, icB_ge, icB_eq, icB_ne, bI_ne, nI_eqI, gc_T hW, k_sign hW hT, k_digAt hW hT, k_isDig hx1, k_isDig hx2, Nat.le_refl, hk1]
  revert h; unfold txV txM
  by_cases e : txC tl k = 45
  · rw [if_pos e]
    cases txD (txC tl (k + 1 + 1)) <;> exact fun h => by rw [if_neg (fun hn : ¬ txC tl k = 45 => hn e)]; exact h
  · rw [if_neg e]
    cases txD (txC tl (k + 1)) <;> exact fun h => by rw [if_pos e]; exact h
/-- an instruction's parts, read from a place on -/
def txW (tl : Nat × Zt) (s : Nat) (f : Nat) : Int32 :=
  if txC tl s = 91 then (match f with | 0 => nI 4 | 1 => nM | 2 => txr (txC tl (s + 1)) | 3 => txr (txC tl (s + 5)) | _ => txd (txC tl (s + 2)))
  else if txC tl (s + 2) = 91 then (match f with | 0 => nI 3 | 1 => txr (txC tl s) | 2 => txr (txC tl (s + 3)) | 3 => nM | _ => txd (txC tl (s + 4)))
  else if txR (txC tl (s + 2)) = true then (match f with | 0 => if txC tl (s + 3) = 43 then nI 1 else nI 2 | 1 => txr (txC tl s) | 2 => txr (txC tl (s + 2)) | 3 => txr (txC tl (s + 4)) | _ => nI 0)
  else (match f with | 0 => nI 0 | 1 => txr (txC tl s) | 2 => nM | 3 => nM | _ => txV tl (s + 2))
def wr5 (c : In2) (o : Nat) (w : Nat → Int32) : In2 := up2 (up2 (up2 (up2 (up2 c o 0 (w 0)) o 1 (w 1)) o 2 (w 2)) o 3 (w 3)) o 4 (w 4)
theorem k_become {xs : Scr} {I : In2} {ρ : Rh} {Q : Post} {m i : Nat} {c : In2} (hW : Rw ρ) (hB : Bs m) (hi : i < 24) {w : Nat → Int32} : Ev xs 7 0 [.ref (m + (6 + i)), .int (w 0), .int (w 1), .int (w 2), .int (w 3), .int (w 4)] [] (pc I m c, ρ) Q ↔ Q (.inl none) (pc I m (wr5 c (6 + i) w), ρ) := by
  apply Ev.dt; intro Q h; apply w_X1_become_0
  try simp (disch := omega) only [mR_def, Option.getD_some, mI_def, idx_nI, setI_def, nI_add, pk_mul, gm_0 hW hB, gm_1 hW hB, gm_2 hW hB, gm_3 hW hB, gm_4 hW hB, up2_pc, up2_pc0, pc_at, pc_at0]
  simp (maxSteps := 1000000) (disch := omega) only [↓QI_i, ↓QV_v, ↓QA_a, ↓QF_f, ↓QD_d, ↓QL_l, ↓Bool.cond_eq_ite, ↓reduceIte, decide_eq_true_eq, Bool.not_eq_true', Bool.true_and, Bool.and_true, Bool.and_self, gR_some, Option.getD_some, mI_def, setI_def, mR_def, not_false_eq_true, not_true_eq_false, Bool.false_eq_true, idx_nI, nI_add, pk_mul, icB_lt, icB_gt, icB_le, icB_ge, icB_eq, icB_ne, bI_ne, nI_eqI, gm_O hW hB, gm_N hW hB, gm_P hW hB, gm_R hW hB, gm_0 hW hB, gm_1 hW hB, gm_2 hW hB, gm_3 hW hB, gm_4 hW hB, gm_A hW hB, gm_B hW hB, gm_C hW hB, gm_D hW hB, gm_L hW hB, gm_l1 hB, gm_l3 hB, gm_l4 hB, gm_l5 hB, up2_pc, up2_pc0, pc_at, pc_at0]
  exact h
theorem TxC.pc {I c : In2} {tl : Nat × Zt} (h : TxC I tl) : TxC (pc I 1 c) tl := ⟨by rw [pc_ne (by omega)]; exact h.1, h.2.1, fun k hk => by rw [pc_ne (by omega)]; exact h.2.2 k hk⟩
theorem k_read {xs : Scr} {I : In2} {ρ : Rh} {Q : Post} {tl : Nat × Zt} {c : In2} {s i : Nat} (hW : Rw ρ) (hT : TxC I tl) (hs : s ≤ 120) (hi : i < 24) (h : Q (.inl none) (pc I 1 (wr5 c (6 + i) (txW tl s)), ρ)) : Ev xs 50 0 [.ref 242, .int (nI s), .ref (1 + (6 + i)), .null] [] (pc I 1 c, ρ) Q := by
  have hT' : TxC (Jvm.Pilot.CAlibiWindowLaw_law_r2562_ce93eb.pc I 1 c) tl := hT.pc
  have hx := txC_lt hT.2.1 s
  have hx2 := txC_lt hT.2.1 (s + 2)
  have hx3 := txC_lt hT.2.1 (s + 3)
  have hB := Bs_1
  have bec : ∀ (R : Post) (w : Nat → Int32) (p0 p1 p2 p3 p4 : Int32), w 0 = p0 → w 1 = p1 → w 2 = p2 → w 3 = p3 → w 4 = p4 → R (.inl none) (Jvm.Pilot.CAlibiWindowLaw_law_r2562_ce93eb.pc I 1 (wr5 c (6 + i) w), ρ) → Ev xs 7 0 [.ref (1 + (6 + i)), .int p0, .int p1, .int p2, .int p3, .int p4] [] (Jvm.Pilot.CAlibiWindowLaw_law_r2562_ce93eb.pc I 1 c, ρ) R := by
    intro R w p0 p1 p2 p3 p4 e0 e1 e2 e3 e4 hR
    rw [← e0, ← e1, ← e2, ← e3, ← e4]
    exact (k_become hW Bs_1 hi).mpr hR
  apply w_X3_readInstruction_0
  simp (maxSteps := 1000000) (disch := omega) only [↓QI_i, ↓QV_v, ↓QA_a, ↓QF_f, ↓QD_d, ↓QL_l, ↓Bool.cond_eq_ite, ↓reduceIte, decide_eq_true_eq, Bool.not_eq_true', Bool.true_and, Bool.and_true, Bool.and_self, gR_some, Option.getD_some, mI_def, setI_def, mR_def, not_false_eq_true, not_true_eq_false, Bool.false_eq_true, idx_nI, nI_add, pk_mul, icB_lt, icB_gt, icB_le, icB_ge, icB_eq, icB_ne, bI_ne, nI_eqI, gc_T hW, ↓k_sign hW hT', k_sign hW hT', ↓k_regAt hW hT', k_regAt hW hT', ↓k_digAt hW hT', k_digAt hW hT', ↓k_numAt hW hT', k_numAt hW hT', ↓k_isReg hx2, k_isReg hx2, gm_P hW hB]
  by_cases e : txC tl s = 91
  · rw [if_neg (by simpa using e)]
    refine bec _ (txW tl s) _ _ _ _ _ ?_ ?_ ?_ ?_ ?_ h <;> (unfold txW; rw [if_pos e]; try rfl)
  · rw [if_pos e]
    by_cases e2 : txC tl (s + 2) = 91
    · rw [if_neg (by simpa using e2)]
      refine bec _ (txW tl s) _ _ _ _ _ ?_ ?_ ?_ ?_ ?_ h <;> (unfold txW; rw [if_neg e, if_pos e2]; try rfl)
    · rw [if_pos e2]
      cases e3 : txR (txC tl (s + 2))
      · rw [if_pos rfl]
        refine bec _ (txW tl s) _ _ _ _ _ ?_ ?_ ?_ ?_ ?_ h <;> (unfold txW; rw [if_neg e, if_neg e2, e3, if_neg (by decide)]; try rfl)
      · rw [if_neg (by decide)]
        by_cases e4 : txC tl (s + 3) = 43
        · rw [if_neg (by simpa using e4)]
          refine bec _ (txW tl s) _ _ _ _ _ ?_ ?_ ?_ ?_ ?_ h <;> (unfold txW; rw [if_neg e, if_neg e2, e3, if_pos rfl]; try rfl)
          exact if_pos e4
        · rw [if_pos e4]
          refine bec _ (txW tl s) _ _ _ _ _ ?_ ?_ ?_ ?_ ?_ h <;> (unfold txW; rw [if_neg e, if_neg e2, e3, if_pos rfl]; try rfl)
          exact if_neg e4

