/-! the buffer: the class reads it -/
def txR (x : Nat) : Bool := decide (97 ≤ x) && decide (x ≤ 104)
def txD (x : Nat) : Bool := decide (48 ≤ x) && decide (x ≤ 57)
/-- where a character leads to -/
def txN : Nat → Nat → Nat
  | 1, x => if x = 91 then 12 else if txR x = true then 2 else 0
  | 2, x => if x = 61 then 3 else 0
  | 3, x => if x = 45 then 4 else if x = 91 then 9 else if txR x = true then 7 else if x = 48 then 6 else if txD x = true then 5 else 0
  | 4, x => if x = 48 then 6 else if txD x = true then 5 else 0
  | 5, x => if txD x = true then 6 else if x = 59 then 1 else 0
  | 6, x => if x = 59 then 1 else 0
  | 7, x => if x = 43 then 8 else if x = 42 then 8 else 0
  | 8, x => if txR x = true then 6 else 0
  | 9, x => if txR x = true then 10 else 0
  | 10, x => if txD x = true then 11 else 0
  | 11, x => if x = 93 then 6 else 0
  | 12, x => if txR x = true then 13 else 0
  | 13, x => if txD x = true then 14 else 0
  | 14, x => if x = 93 then 15 else 0
  | 15, x => if x = 61 then 8 else 0
  | _, _ => 0
theorem tN0 {x : Nat} : txN 0 x = 0 := rfl
theorem tN1 {x : Nat} : txN 1 x = if x = 91 then 12 else if txR x = true then 2 else 0 := rfl
theorem tN2 {x : Nat} : txN 2 x = if x = 61 then 3 else 0 := rfl
theorem tN3 {x : Nat} : txN 3 x = if x = 45 then 4 else if x = 91 then 9 else if txR x = true then 7 else if x = 48 then 6 else if txD x = true then 5 else 0 := rfl
theorem tN4 {x : Nat} : txN 4 x = if x = 48 then 6 else if txD x = true then 5 else 0 := rfl
theorem tN5 {x : Nat} : txN 5 x = if txD x = true then 6 else if x = 59 then 1 else 0 := rfl
theorem tN6 {x : Nat} : txN 6 x = if x = 59 then 1 else 0 := rfl
theorem tN7 {x : Nat} : txN 7 x = if x = 43 then 8 else if x = 42 then 8 else 0 := rfl
theorem tN8 {x : Nat} : txN 8 x = if txR x = true then 6 else 0 := rfl
theorem tN9 {x : Nat} : txN 9 x = if txR x = true then 10 else 0 := rfl
theorem tN10 {x : Nat} : txN 10 x = if txD x = true then 11 else 0 := rfl
theorem tN11 {x : Nat} : txN 11 x = if x = 93 then 6 else 0 := rfl
theorem tN12 {x : Nat} : txN 12 x = if txR x = true then 13 else 0 := rfl
theorem tN13 {x : Nat} : txN 13 x = if txD x = true then 14 else 0 := rfl
theorem tN14 {x : Nat} : txN 14 x = if x = 93 then 15 else 0 := rfl
theorem tN15 {x : Nat} : txN 15 x = if x = 61 then 8 else 0 := rfl
theorem txe {a b : Nat} (ha : a < 2147483648) (hb : b < 2147483648) : icB .eq (nI a) (nI b) = decide (a = b) := by rw [icB_eq, decide_eq_decide, nI_eqI ha hb]
theorem txn {a b : Nat} (ha : a < 2147483648) (hb : b < 2147483648) : icB .ne (nI a) (nI b) = decide (¬ a = b) := by rw [icB_ne, decide_eq_decide, nI_eqI ha hb]
theorem k_isReg {xs : Scr} {μ : Mem} {Q : Post} {x : Nat} (hx : x < 128) : Ev xs 55 0 [.int (nI x)] [] μ Q ↔ Q (.inl (some (.int (bI (txR x))))) μ := by
  apply Ev.dt; intro Q h; apply w_X3_isRegister_0
  simp (maxSteps := 1000000) (disch := omega) only [icB_lt, icB_gt]
  revert h; unfold txR
  by_cases h1 : 97 ≤ x <;> by_cases h2 : x ≤ 104
  · rw [decide_eq_true h1, decide_eq_true h2, decide_eq_false (by omega), decide_eq_false (by omega)]; exact id
  · rw [decide_eq_true h1, decide_eq_false h2, decide_eq_false (by omega), decide_eq_true (by omega)]; exact id
  · rw [decide_eq_false h1, decide_eq_true (by omega : x < 97)]; exact id
  · rw [decide_eq_false h1, decide_eq_true (by omega : x < 97)]; exact id
theorem k_isDig {xs : Scr} {μ : Mem} {Q : Post} {x : Nat} (hx : x < 128) : Ev xs 56 0 [.int (nI x)] [] μ Q ↔ Q (.inl (some (.int (bI (txD x))))) μ := by
  apply Ev.dt; intro Q h; apply w_X3_isDigit_0
  simp (maxSteps := 1000000) (disch := omega) only [icB_lt, icB_gt]
  revert h; unfold txD
  by_cases h1 : 48 ≤ x <;> by_cases h2 : x ≤ 57
  · rw [decide_eq_true h1, decide_eq_true h2, decide_eq_false (by omega), decide_eq_false (by omega)]; exact id
  · rw [decide_eq_true h1, decide_eq_false h2, decide_eq_false (by omega), decide_eq_true (by omega)]; exact id
  · rw [decide_eq_false h1, decide_eq_true (by omega : x < 48)]; exact id
  · rw [decide_eq_false h1, decide_eq_true (by omega : x < 48)]; exact id
theorem k_ifReg {xs : Scr} {μ : Mem} {Q : Post} {x t : Nat} (hx : x < 128) : Ev xs 58 0 [.int (nI x), .int (nI t)] [] μ Q ↔ Q (.inl (some (.int (nI (if txR x = true then t else 0))))) μ := by
  apply Ev.dt; intro Q h; apply w_X3_ifRegister_0
  rw [k_isReg hx, QI_i, icB_eq_b]
  revert h; cases txR x <;> exact id
theorem k_endN {xs : Scr} {μ : Mem} {Q : Post} {x : Nat} (hx : x < 128) : Ev xs 61 0 [.int (nI x)] [] μ Q ↔ Q (.inl (some (.int (nI (if x = 59 then 1 else 0))))) μ := by
  apply Ev.dt; intro Q h; apply w_X3_nextOfEnd_0
  rw [txn (by omega) (by decide)]
  revert h; by_cases e : x = 59
  · rw [if_pos e, decide_eq_false (by simpa using e)]; exact id
  · rw [if_neg e, decide_eq_true e]; exact id
theorem k_numN {xs : Scr} {μ : Mem} {Q : Post} {x : Nat} (hx : x < 128) : Ev xs 60 0 [.int (nI x)] [] μ Q ↔ Q (.inl (some (.int (nI (if x = 48 then 6 else if txD x = true then 5 else 0))))) μ := by
  apply Ev.dt; intro Q h; apply w_X3_nextOfNumber_0
  rw [txn (by omega) (by decide), k_isDig hx, QI_i, icB_eq_b]
  revert h; by_cases e : x = 48
  · rw [if_pos e, decide_eq_false (by simpa using e)]; exact id
  · rw [if_neg e, decide_eq_true e]; cases txD x <;> exact id
theorem k_rsN {xs : Scr} {μ : Mem} {Q : Post} {x : Nat} (hx : x < 128) : Ev xs 59 0 [.int (nI x)] [] μ Q ↔ Q (.inl (some (.int (nI (txN 3 x))))) μ := by
  apply Ev.dt; intro Q h; apply w_X3_nextOfRightSide_0
  rw [txn (by omega) (by decide), txn (by omega) (by decide), k_isReg hx, QI_i, icB_eq_b, k_numN hx, QI_i]
  revert h; rw [tN3]
  by_cases e : x = 45
  · rw [if_pos e, decide_eq_false (by simpa using e)]; exact id
  · rw [if_neg e, decide_eq_true e]
    by_cases e2 : x = 91
    · rw [if_pos e2, decide_eq_false (by simpa using e2)]; exact id
    · rw [if_neg e2, decide_eq_true e2]; cases txR x <;> exact id
theorem txQ {Q : Post} {μ : Mem} {p : Prop} [Decidable p] {a b : Nat} : (bif decide (¬ p) then Q (.inl (some (.int (nI b)))) μ else Q (.inl (some (.int (nI a)))) μ) = Q (.inl (some (.int (nI (if p then a else b))))) μ := by
  by_cases e : p
  · rw [if_pos e, decide_eq_false (by simpa using e)]; rfl
  · rw [if_neg e, decide_eq_true e]; rfl
theorem txQb {Q : Post} {μ : Mem} {p : Bool} {a b : Nat} : (bif icB .eq (bI p) (nI 0) then Q (.inl (some (.int (nI b)))) μ else Q (.inl (some (.int (nI a)))) μ) = Q (.inl (some (.int (nI (if p = true then a else b))))) μ := by
  cases p <;> rfl
theorem k_next {xs : Scr} {μ : Mem} {Q : Post} {s x : Nat} (hs : s < 16) (hx : x < 128) : Ev xs 57 0 [.int (nI s), .int (nI x)] [] μ Q ↔ Q (.inl (some (.int (nI (txN s x))))) μ := by
  apply Ev.dt; intro Q h; apply w_X3_next_0
  have hd : ∀ a b : Nat, a < 2147483648 → b < 2147483648 → decide (nI a = nI b) = decide (a = b) := fun a b ha hb => txe ha hb
  simp (disch := omega) only [hd]
  obtain rfl | rfl | rfl | rfl | rfl | rfl | rfl | rfl | rfl | rfl | rfl | rfl | rfl | rfl | rfl | rfl : s = 0 ∨ s = 1 ∨ s = 2 ∨ s = 3 ∨ s = 4 ∨ s = 5 ∨ s = 6 ∨ s = 7 ∨ s = 8 ∨ s = 9 ∨ s = 10 ∨ s = 11 ∨ s = 12 ∨ s = 13 ∨ s = 14 ∨ s = 15 := by omega
  all_goals simp (disch := omega) only [Nat.reduceEqDiff, decide_true, decide_false, cond_true, cond_false, txn, txe]
  · exact h
  · rw [k_ifReg hx, QI_i, txQ]; exact h
  · rw [txQ]; exact h
  · rw [k_rsN hx, QI_i]; exact h
  · rw [k_numN hx, QI_i]; exact h
  · rw [k_isDig hx, QI_i, k_endN hx, QI_i, txQb]; exact h
  · rw [k_endN hx, QI_i]; exact h
  · rw [txQ]
    revert h
    rw [tN7]
    by_cases e : x = 43
    · rw [if_pos e, decide_eq_true e]; exact id
    · rw [if_neg e, decide_eq_false e]; exact id
  · rw [k_ifReg hx, QI_i]; exact h
  · rw [k_ifReg hx, QI_i]; exact h
  · rw [k_isDig hx, QI_i, txQb]; exact h
  · rw [txQ]; exact h
  · rw [k_ifReg hx, QI_i]; exact h
  · rw [k_isDig hx, QI_i, txQb]; exact h
  · rw [txQ]; exact h
  · rw [txQ]; exact h
theorem txN_lt {s x : Nat} : txN s x < 16 := by
  unfold txN; split <;> (repeat' split) <;> decide
/-- the character at a place, 0 behind the end -/
def txC (tl : Nat × Zt) (k : Nat) : Nat := if k < tl.1 then idx (tl.2 k) else 0
/-- the buffer as the class has it -/
def TxC (I : In2) (tl : Nat × Zt) : Prop := I 242 1 = nI tl.1 ∧ Chs tl ∧ ∀ k, k < tl.1 → I 243 k = tl.2 k
theorem txC_lt {tl : Nat × Zt} (h : Chs tl) (k : Nat) : txC tl k < 128 := by
  unfold txC; split
  · rename_i hk; obtain ⟨x, h1, h2, e⟩ := h.2 k hk; rw [e, idx_nI (by omega)]; omega
  · decide
theorem txC_nI {tl : Nat × Zt} (h : Chs tl) {k : Nat} (hk : k < tl.1) : tl.2 k = nI (txC tl k) := by
  unfold txC; rw [if_pos hk]; obtain ⟨x, h1, h2, e⟩ := h.2 k hk; rw [e, idx_nI (by omega)]
theorem txC_0 {tl : Nat × Zt} {k : Nat} (hk : ¬ k < tl.1) : txC tl k = 0 := if_neg hk
theorem k_sign {xs : Scr} {I : In2} {ρ : Rh} {Q : Post} {tl : Nat × Zt} {k : Nat} (hW : Rw ρ) (hT : TxC I tl) (hk : k < 200) : Ev xs 45 0 [.ref 242, .int (nI k)] [] (I, ρ) Q ↔ Q (.inl (some (.int (nI (txC tl k))))) (I, ρ) := by
  obtain ⟨h1, hc, ht⟩ := hT
  have hl := hc.1
  have hL : (Nat.blt 243 (mN (I, ρ)) && (Nat.ble 5 (shp 243).1 && Nat.ble (shp 243).1 9)) = true := by rw [mN_def, show Nat.blt 243 ρ.2.2.1 = true from Nat.blt_eq.mpr (Nat.lt_of_lt_of_le (by decide) hW.1)]; rfl
  have hl2 : (shp 243).2 = 120 := rfl
  have h0 : ¬ k < 0 := by omega
  apply Ev.dt; intro Q h; apply w_X3_signAt_0
  by_cases hk1 : k < tl.1
  · have g : gZ 2 (nI (txC tl k)) = true := by
      have := txC_lt hc k
      show decide _ = true
      apply decide_eq_true
      rw [show (0 : Int32) = nI 0 from rfl, show (65535 : Int32) = nI 65535 from rfl]
      exact ⟨nI_le (by omega) (by omega), nI_le (by omega) (by omega)⟩
    have e := ht k hk1
    rw [txC_nI hc hk1] at e
    have hk2 : ¬ tl.1 ≤ k := by omega
    have hk3 : ¬ 120 ≤ k := by omega
    simp (disch := omega) only [↓QI_i, ↓QV_v, ↓QA_a, ↓QF_f, ↓QD_d, ↓QL_l, ↓Bool.cond_eq_ite, ↓reduceIte, decide_eq_true_eq, Bool.not_eq_true', Bool.true_and, Bool.and_true, Bool.and_self, gR_some, Option.getD_some, mI_def, setI_def, mR_def, not_false_eq_true, not_true_eq_false, Bool.false_eq_true, idx_nI, nI_add, pk_mul, icB_lt, icB_gt, icB_le, icB_ge, icB_eq, icB_ne, bI_ne, nI_eqI, gc_T hW, gc_5 hW, hL, hl2, h1, h0, hk2, hk3, gc_C hW, e, g]
    exact h
  · have hk2 : tl.1 ≤ k := by omega
    rw [txC_0 hk1] at h
    simp (disch := omega) only [↓QI_i, ↓QV_v, ↓QA_a, ↓QF_f, ↓QD_d, ↓QL_l, ↓Bool.cond_eq_ite, ↓reduceIte, decide_eq_true_eq, Bool.not_eq_true', Bool.true_and, Bool.and_true, Bool.and_self, gR_some, Option.getD_some, mI_def, setI_def, mR_def, not_false_eq_true, not_true_eq_false, Bool.false_eq_true, idx_nI, nI_add, pk_mul, icB_lt, icB_gt, icB_le, icB_ge, icB_eq, icB_ne, bI_ne, nI_eqI, gc_T hW, h1, h0, hk2]
    exact h

