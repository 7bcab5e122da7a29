/-! the reference's machine, over its numbers -/
def mkP (z : Zt) (r : Int32) (k : Nat) : Bool := decide (¬ pt z k 0 = nI 4) && decide (pt z k 1 = r)
def mkr (z : Zt) (a i : Nat) (r : Int32) : Option Nat := lat (mkP z r) a i
def rdy (z : Zt) (a i : Nat) (r : Int32) : Bool := match mkr z a i r with | none => true | some k => decide (pt z k 7 = nI 2)
def vlO (z : Zt) (a i : Nat) (r : Int32) : Int32 := match mkr z a i r with | none => z (12 + idx r) | some k => pt z k 11
def hs1 (z : Zt) (i : Nat) : Bool := decide (¬ pt z i 0 = nI 0)
def hs2 (z : Zt) (i : Nat) : Bool := decide (¬ pt z i 0 = nI 0) && decide (¬ pt z i 0 = nI 3)
def opP (z : Zt) (k : Nat) : Bool := decide (pt z k 0 = nI 4) && decide (¬ pt z k 7 = nI 2)
def opn (z : Zt) (a i : Nat) : Bool := anyB (opP z) (i - a) a
def rsn (z : Zt) (a i : Nat) : Int32 :=
  if pt z i 7 = nI 0 then
    (if (hs1 z i && !rdy z a i (pt z i 2)) = true then nI 2
    else if (hs2 z i && !rdy z a i (pt z i 3)) = true then nI 3
    else if (decide (pt z i 0 = nI 3) && (!icB .le (pt z i 5) (nI 0) && opn z a i)) = true then nI 4 else nI 0)
  else nI 1
theorem e_of {xs : Scr} {I : In2} {ρ : Rh} {Q : Post} {z : Zt} (hW : Rw ρ) {i f : Nat} (hi : i < 24) (hf : f < 12) : Ev xs 105 0 [.ref 245, .int (nI i), .int (nI f)] [] (pz I z, ρ) Q ↔ Q (.inl (some (.int (pt z i f) ))) (pz I z, ρ) := by
  apply Ev.dt; intro Q h; apply w_X5_of_0
  try simp (disch := omega) only [mR_def, Option.getD_some, mI_def, idx_nI, setI_def, nI_add, pk_mul, gz_R0 hW, pz_at, up2_pz]
  simp (maxSteps := 1000000) (disch := omega) only [↓QI_i, ↓QV_v, ↓QA_a, ↓QF_f, ↓QD_d, ↓QL_l, ↓Bool.cond_eq_ite, ↓reduceIte, decide_eq_true_eq, Bool.not_eq_true', Bool.true_and, Bool.and_true, Bool.and_self, gR_some, Option.getD_some, mI_def, setI_def, mR_def, not_false_eq_true, not_true_eq_false, Bool.false_eq_true, idx_nI, nI_add, pk_mul, icB_lt, icB_gt, icB_le, icB_ge, icB_eq, icB_ne, bI_ne, nI_eqI, gz_O hW, gz_R0 hW, gz_A hW, up2_pz, pz_at]; exact h
theorem e_lay {xs : Scr} {I : In2} {ρ : Rh} {Q : Post} {z : Zt} (hW : Rw ρ) {i f : Nat} {v : Int32} (hi : i < 24) (hf : f < 12) : Ev xs 106 0 [.ref 245, .int (nI i), .int (nI f), .int v] [] (pz I z, ρ) Q ↔ Q (.inl none) (pz I (lay z i f v), ρ) := by
  apply Ev.dt; intro Q h; apply w_X5_lay_0
  try simp (disch := omega) only [mR_def, Option.getD_some, mI_def, idx_nI, setI_def, nI_add, pk_mul, gz_R0 hW, pz_at, up2_pz]
  simp (maxSteps := 1000000) (disch := omega) only [↓QI_i, ↓QV_v, ↓QA_a, ↓QF_f, ↓QD_d, ↓QL_l, ↓Bool.cond_eq_ite, ↓reduceIte, decide_eq_true_eq, Bool.not_eq_true', Bool.true_and, Bool.and_true, Bool.and_self, gR_some, Option.getD_some, mI_def, setI_def, mR_def, not_false_eq_true, not_true_eq_false, Bool.false_eq_true, idx_nI, nI_add, pk_mul, icB_lt, icB_gt, icB_le, icB_ge, icB_eq, icB_ne, bI_ne, nI_eqI, gz_O hW, gz_R0 hW, gz_A hW, up2_pz, pz_at]; exact h
theorem e_rule {xs : Scr} {I : In2} {ρ : Rh} {Q : Post} {z : Zt} (hW : Rw ρ) {k : Nat} (hk : k < 3) : Ev xs 107 0 [.ref 245, .int (nI k)] [] (pz I z, ρ) Q ↔ Q (.inl (some (.int (z (9 + k)) ))) (pz I z, ρ) := by
  apply Ev.dt; intro Q h; apply w_X5_rule_0
  try simp (disch := omega) only [mR_def, Option.getD_some, mI_def, idx_nI, setI_def, nI_add, pk_mul, gz_R0 hW, pz_at, up2_pz]
  simp (maxSteps := 1000000) (disch := omega) only [↓QI_i, ↓QV_v, ↓QA_a, ↓QF_f, ↓QD_d, ↓QL_l, ↓Bool.cond_eq_ite, ↓reduceIte, decide_eq_true_eq, Bool.not_eq_true', Bool.true_and, Bool.and_true, Bool.and_self, gR_some, Option.getD_some, mI_def, setI_def, mR_def, not_false_eq_true, not_true_eq_false, Bool.false_eq_true, idx_nI, nI_add, pk_mul, icB_lt, icB_gt, icB_le, icB_ge, icB_eq, icB_ne, bI_ne, nI_eqI, gz_O hW, gz_R0 hW, gz_A hW, up2_pz, pz_at]; exact h
theorem e_entries {xs : Scr} {I : In2} {ρ : Rh} {Q : Post} {z : Zt} (hW : Rw ρ) : Ev xs 111 0 [.ref 245] [] (pz I z, ρ) Q ↔ Q (.inl (some (.int (z 2 - z 3) ))) (pz I z, ρ) := by
  apply Ev.dt; intro Q h; apply w_X5_entries_0
  try simp (disch := omega) only [mR_def, Option.getD_some, mI_def, idx_nI, setI_def, nI_add, pk_mul, gz_R0 hW, pz_at, up2_pz]
  simp (maxSteps := 1000000) (disch := omega) only [↓QI_i, ↓QV_v, ↓QA_a, ↓QF_f, ↓QD_d, ↓QL_l, ↓Bool.cond_eq_ite, ↓reduceIte, decide_eq_true_eq, Bool.not_eq_true', Bool.true_and, Bool.and_true, Bool.and_self, gR_some, Option.getD_some, mI_def, setI_def, mR_def, not_false_eq_true, not_true_eq_false, Bool.false_eq_true, idx_nI, nI_add, pk_mul, icB_lt, icB_gt, icB_le, icB_ge, icB_eq, icB_ne, bI_ne, nI_eqI, gz_O hW, gz_R0 hW, gz_A hW, up2_pz, pz_at]; exact h
theorem e_makes {xs : Scr} {I : In2} {ρ : Rh} {Q : Post} {z : Zt} (hW : Rw ρ) {i : Nat} {r : Int32} (hi : i < 24) : Ev xs 117 0 [.ref 245, .int (nI i), .int r] [] (pz I z, ρ) Q ↔ Q (.inl (some (.int (bI (mkP z r i)) ))) (pz I z, ρ) := by
  apply Ev.dt; intro Q h; apply w_X5_makes_0
  try simp (disch := omega) only [mR_def, Option.getD_some, mI_def, idx_nI, setI_def, nI_add, pk_mul, gz_R0 hW, pz_at, up2_pz]
  simp (maxSteps := 1000000) (disch := omega) only [↓QI_i, ↓QV_v, ↓QA_a, ↓QF_f, ↓QD_d, ↓QL_l, ↓Bool.cond_eq_ite, ↓reduceIte, decide_eq_true_eq, Bool.not_eq_true', Bool.true_and, Bool.and_true, Bool.and_self, gR_some, Option.getD_some, mI_def, setI_def, mR_def, not_false_eq_true, not_true_eq_false, Bool.false_eq_true, idx_nI, nI_add, pk_mul, icB_lt, icB_gt, icB_le, icB_ge, icB_eq, icB_ne, bI_ne, nI_eqI, gz_O hW, gz_R0 hW, gz_A hW, up2_pz, pz_at, ↓e_of hW, e_of hW]
  unfold mkP at h
  by_cases h1 : pt z i 0 = nI 4 <;> by_cases h2 : pt z i 1 = r <;> simp [h1, h2, bI] at h ⊢ <;> exact h
theorem e_maker4 {xs : Scr} {I : In2} {ρ : Rh} {z : Zt} (hW : Rw ρ) {a : Nat} {p0 r : Int32} (h3 : z 3 = nI a) (ha : a ≤ 24) : ∀ {j : Nat} {Q : Post}, j ≤ 24 → (Ev xs 118 4 [.ref 245, .int p0, .int r, .int (nI j - nI 1)] [] (pz I z, ρ) Q ↔ Q (.inl (some (.int (oI (lat (mkP z r) a j)) ))) (pz I z, ρ)) := by
  intro j
  induction j with
  | zero =>
    intro Q _
    apply Ev.dt; intro Q h; apply w_X5_maker_4
    try simp (disch := omega) only [mR_def, Option.getD_some, mI_def, idx_nI, setI_def, nI_add, pk_mul, gz_R0 hW, pz_at, up2_pz, h3, nI_M, icB_lt_M, icB_ge_M]
    simp (maxSteps := 1000000) (disch := omega) only [↓QI_i, ↓QV_v, ↓QA_a, ↓QF_f, ↓QD_d, ↓QL_l, ↓Bool.cond_eq_ite, ↓reduceIte, decide_eq_true_eq, Bool.not_eq_true', Bool.true_and, Bool.and_true, Bool.and_self, gR_some, Option.getD_some, mI_def, setI_def, mR_def, not_false_eq_true, not_true_eq_false, Bool.false_eq_true, idx_nI, nI_add, pk_mul, icB_lt, icB_gt, icB_le, icB_ge, icB_eq, icB_ne, bI_ne, nI_eqI, gz_O hW, gz_R0 hW, gz_A hW, up2_pz, pz_at, h3, nI_M, icB_lt_M, icB_ge_M]
    exact h
  | succ j ih =>
    intro Q hj
    rw [nI_sub1]
    apply Ev.dt; intro Q h; apply w_X5_maker_4
    try simp (disch := omega) only [mR_def, Option.getD_some, mI_def, idx_nI, setI_def, nI_add, pk_mul, gz_R0 hW, pz_at, up2_pz, h3]
    simp (maxSteps := 1000000) (disch := omega) only [↓QI_i, ↓QV_v, ↓QA_a, ↓QF_f, ↓QD_d, ↓QL_l, ↓Bool.cond_eq_ite, ↓reduceIte, decide_eq_true_eq, Bool.not_eq_true', Bool.true_and, Bool.and_true, Bool.and_self, gR_some, Option.getD_some, mI_def, setI_def, mR_def, not_false_eq_true, not_true_eq_false, Bool.false_eq_true, idx_nI, nI_add, pk_mul, icB_lt, icB_gt, icB_le, icB_ge, icB_eq, icB_ne, bI_ne, nI_eqI, gz_O hW, gz_R0 hW, gz_A hW, up2_pz, pz_at, h3, ↓e_makes hW, e_makes hW]
    unfold lat at h
    by_cases h1 : a ≤ j
    · rw [if_neg (by omega)]
      rw [if_pos h1] at h
      cases hp : mkP z r j
      · rw [hp] at h
        simp only [Bool.false_eq_true, not_true_eq_false, if_true, if_false] at h ⊢
        rw [show nI j + nM = nI j - nI 1 by rw [Int32.sub_eq_add_neg]; rfl]
        exact (ih (by omega)).mpr h
      · rw [hp] at h
        simp only [if_true] at h ⊢
        rw [if_pos h1]
        exact h
    · rw [if_pos (by omega), if_neg h1]
      rw [if_neg h1] at h
      exact h
theorem e_maker {xs : Scr} {I : In2} {ρ : Rh} {Q : Post} {z : Zt} (hW : Rw ρ) {a i : Nat} {r : Int32} (h3 : z 3 = nI a) (ha : a ≤ 24) (hi : i ≤ 24) : Ev xs 118 0 [.ref 245, .int (nI i), .int r, .null] [] (pz I z, ρ) Q ↔ Q (.inl (some (.int (oI (mkr z a i r)) ))) (pz I z, ρ) := by
  apply Ev.dt; intro Q h; apply w_X5_maker_0
  exact (e_maker4 hW h3 ha hi).mpr h
theorem mkr_lt {z : Zt} {a i k : Nat} {r : Int32} (h : mkr z a i r = some k) : k < i := (lat_some h).2.1
theorem e_hasOne {xs : Scr} {I : In2} {ρ : Rh} {Q : Post} {z : Zt} (hW : Rw ρ) {i : Nat} (hi : i < 24) : Ev xs 119 0 [.ref 245, .int (nI i)] [] (pz I z, ρ) Q ↔ Q (.inl (some (.int (bI (hs1 z i)) ))) (pz I z, ρ) := by
  apply Ev.dt; intro Q h; apply w_X5_hasOne_0
  try simp (disch := omega) only [mR_def, Option.getD_some, mI_def, idx_nI, setI_def, nI_add, pk_mul, gz_R0 hW, pz_at, up2_pz]
  simp (maxSteps := 1000000) (disch := omega) only [↓QI_i, ↓QV_v, ↓QA_a, ↓QF_f, ↓QD_d, ↓QL_l, ↓Bool.cond_eq_ite, ↓reduceIte, decide_eq_true_eq, Bool.not_eq_true', Bool.true_and, Bool.and_true, Bool.and_self, gR_some, Option.getD_some, mI_def, setI_def, mR_def, not_false_eq_true, not_true_eq_false, Bool.false_eq_true, idx_nI, nI_add, pk_mul, icB_lt, icB_gt, icB_le, icB_ge, icB_eq, icB_ne, bI_ne, nI_eqI, gz_O hW, gz_R0 hW, gz_A hW, up2_pz, pz_at, ↓e_of hW, e_of hW]
  unfold hs1 at h
  by_cases h1 : pt z i 0 = nI 0 <;> simp [h1, bI] at h ⊢ <;> exact h
theorem e_hasOther {xs : Scr} {I : In2} {ρ : Rh} {Q : Post} {z : Zt} (hW : Rw ρ) {i : Nat} (hi : i < 24) : Ev xs 120 0 [.ref 245, .int (nI i)] [] (pz I z, ρ) Q ↔ Q (.inl (some (.int (bI (hs2 z i)) ))) (pz I z, ρ) := by
  apply Ev.dt; intro Q h; apply w_X5_hasOther_0
  try simp (disch := omega) only [mR_def, Option.getD_some, mI_def, idx_nI, setI_def, nI_add, pk_mul, gz_R0 hW, pz_at, up2_pz]
  simp (maxSteps := 1000000) (disch := omega) only [↓QI_i, ↓QV_v, ↓QA_a, ↓QF_f, ↓QD_d, ↓QL_l, ↓Bool.cond_eq_ite, ↓reduceIte, decide_eq_true_eq, Bool.not_eq_true', Bool.true_and, Bool.and_true, Bool.and_self, gR_some, Option.getD_some, mI_def, setI_def, mR_def, not_false_eq_true, not_true_eq_false, Bool.false_eq_true, idx_nI, nI_add, pk_mul, icB_lt, icB_gt, icB_le, icB_ge, icB_eq, icB_ne, bI_ne, nI_eqI, gz_O hW, gz_R0 hW, gz_A hW, up2_pz, pz_at, ↓e_of hW, e_of hW]
  unfold hs2 at h
  by_cases h1 : pt z i 0 = nI 0 <;> by_cases h2 : pt z i 0 = nI 3 <;> simp [h1, h2, bI] at h ⊢ <;> exact h
theorem e_isReady {xs : Scr} {I : In2} {ρ : Rh} {Q : Post} {z : Zt} (hW : Rw ρ) {a i : Nat} {r : Int32} (h3 : z 3 = nI a) (ha : a ≤ 24) (hi : i ≤ 24) : Ev xs 121 0 [.ref 245, .int (nI i), .int r, .null] [] (pz I z, ρ) Q ↔ Q (.inl (some (.int (bI (rdy z a i r)) ))) (pz I z, ρ) := by
  apply Ev.dt; intro Q h; apply w_X5_isReady_0
  rw [e_maker hW h3 ha hi]
  unfold rdy at h
  cases hm : mkr z a i r with
  | none => rw [hm] at h; simp (disch := omega) only [↓QI_i, ↓QV_v, ↓QA_a, ↓QF_f, ↓QD_d, ↓QL_l, ↓Bool.cond_eq_ite, ↓reduceIte, decide_eq_true_eq, Bool.not_eq_true', Bool.true_and, Bool.and_true, Bool.and_self, gR_some, Option.getD_some, mI_def, setI_def, mR_def, not_false_eq_true, not_true_eq_false, Bool.false_eq_true, idx_nI, nI_add, pk_mul, icB_lt, icB_gt, icB_le, icB_ge, icB_eq, icB_ne, bI_ne, nI_eqI, gz_O hW, gz_R0 hW, gz_A hW, up2_pz, pz_at, oI_none]; exact h
  | some k =>
    have hk := mkr_lt hm
    rw [hm] at h
    simp (disch := omega) only [↓QI_i, ↓QV_v, ↓QA_a, ↓QF_f, ↓QD_d, ↓QL_l, ↓Bool.cond_eq_ite, ↓reduceIte, decide_eq_true_eq, Bool.not_eq_true', Bool.true_and, Bool.and_true, Bool.and_self, gR_some, Option.getD_some, mI_def, setI_def, mR_def, not_false_eq_true, not_true_eq_false, Bool.false_eq_true, idx_nI, nI_add, pk_mul, icB_lt, icB_gt, icB_le, icB_ge, icB_eq, icB_ne, bI_ne, nI_eqI, gz_O hW, gz_R0 hW, gz_A hW, up2_pz, pz_at, oI_some, ↓e_of hW, e_of hW, nM_ne']
    by_cases h1 : pt z k 7 = nI 2 <;> simp [h1, bI] at h ⊢ <;> exact h
theorem e_valueOf {xs : Scr} {I : In2} {ρ : Rh} {Q : Post} {z : Zt} (hW : Rw ρ) {a i q : Nat} (h3 : z 3 = nI a) (ha : a ≤ 24) (hi : i ≤ 24) (hq : q < 8) : Ev xs 122 0 [.ref 245, .int (nI i), .int (nI q), .null] [] (pz I z, ρ) Q ↔ Q (.inl (some (.int (vlO z a i (nI q)) ))) (pz I z, ρ) := by
  apply Ev.dt; intro Q h; apply w_X5_valueOf_0
  rw [gz_O hW, cond_true, e_maker hW h3 ha hi]
  unfold vlO at h
  cases hm : mkr z a i (nI q) with
  | none => rw [hm] at h; simp (disch := omega) only [↓QI_i, ↓QV_v, ↓QA_a, ↓QF_f, ↓QD_d, ↓QL_l, ↓Bool.cond_eq_ite, ↓reduceIte, decide_eq_true_eq, Bool.not_eq_true', Bool.true_and, Bool.and_true, Bool.and_self, gR_some, Option.getD_some, mI_def, setI_def, mR_def, not_false_eq_true, not_true_eq_false, Bool.false_eq_true, idx_nI, nI_add, pk_mul, icB_lt, icB_gt, icB_le, icB_ge, icB_eq, icB_ne, bI_ne, nI_eqI, gz_O hW, gz_R0 hW, gz_A hW, up2_pz, pz_at, oI_none, not_true_eq_false, if_false] at h ⊢; exact h
  | some k =>
    have hk := mkr_lt hm
    rw [hm] at h
    simp (disch := omega) only [↓QI_i, ↓QV_v, ↓QA_a, ↓QF_f, ↓QD_d, ↓QL_l, ↓Bool.cond_eq_ite, ↓reduceIte, decide_eq_true_eq, Bool.not_eq_true', Bool.true_and, Bool.and_true, Bool.and_self, gR_some, Option.getD_some, mI_def, setI_def, mR_def, not_false_eq_true, not_true_eq_false, Bool.false_eq_true, idx_nI, nI_add, pk_mul, icB_lt, icB_gt, icB_le, icB_ge, icB_eq, icB_ne, bI_ne, nI_eqI, gz_O hW, gz_R0 hW, gz_A hW, up2_pz, pz_at, oI_some, ↓e_of hW, e_of hW, nM_ne', not_false_eq_true, if_true]
    exact h
theorem e_isOpen9 {xs : Scr} {I : In2} {ρ : Rh} {z : Zt} (hW : Rw ρ) {i : Nat} (hi : i ≤ 24) : ∀ {n k : Nat} {b : Bool} {Q : Post}, k + n = i → (Ev xs 132 9 [.ref 245, .int (nI i), .int (bI b), .int (nI k)] [] (pz I z, ρ) Q ↔ Q (.inl (some (.int (bI (b || anyB (opP z) n k)) ))) (pz I z, ρ)) := by
  intro n
  induction n with
  | zero =>
    intro k b Q hk
    apply Ev.dt; intro Q h; apply w_X5_isOpenStore_9
    try simp (disch := omega) only [mR_def, Option.getD_some, mI_def, idx_nI, setI_def, nI_add, pk_mul, gz_R0 hW, pz_at, up2_pz]
    simp (maxSteps := 1000000) (disch := omega) only [↓QI_i, ↓QV_v, ↓QA_a, ↓QF_f, ↓QD_d, ↓QL_l, ↓Bool.cond_eq_ite, ↓reduceIte, decide_eq_true_eq, Bool.not_eq_true', Bool.true_and, Bool.and_true, Bool.and_self, gR_some, Option.getD_some, mI_def, setI_def, mR_def, not_false_eq_true, not_true_eq_false, Bool.false_eq_true, idx_nI, nI_add, pk_mul, icB_lt, icB_gt, icB_le, icB_ge, icB_eq, icB_ne, bI_ne, nI_eqI, gz_O hW, gz_R0 hW, gz_A hW, up2_pz, pz_at]
    rw [if_pos (by omega), show gZ 1 (bI b) = true by cases b <;> rfl]
    simp only [if_true]
    simpa [anyB] using h
  | succ n ih =>
    intro k b Q hk
    apply Ev.dt; intro Q h; apply w_X5_isOpenStore_9
    try simp (disch := omega) only [mR_def, Option.getD_some, mI_def, idx_nI, setI_def, nI_add, pk_mul, gz_R0 hW, pz_at, up2_pz]
    simp (maxSteps := 1000000) (disch := omega) only [↓QI_i, ↓QV_v, ↓QA_a, ↓QF_f, ↓QD_d, ↓QL_l, ↓Bool.cond_eq_ite, ↓reduceIte, decide_eq_true_eq, Bool.not_eq_true', Bool.true_and, Bool.and_true, Bool.and_self, gR_some, Option.getD_some, mI_def, setI_def, mR_def, not_false_eq_true, not_true_eq_false, Bool.false_eq_true, idx_nI, nI_add, pk_mul, icB_lt, icB_gt, icB_le, icB_ge, icB_eq, icB_ne, bI_ne, nI_eqI, gz_O hW, gz_R0 hW, gz_A hW, up2_pz, pz_at, ↓e_of hW, e_of hW]
    rw [if_neg (by omega)]
    cases b with
    | true =>
      simp only [Bool.true_eq_false, not_false_eq_true, if_true] at h ⊢
      refine (ih (k := k + 1) (b := true) (by omega)).mpr ?_
      simpa using h
    | false =>
      simp only [not_true_eq_false, if_false]
      have ho : opP z k = (decide (pt z k 0 = nI 4) && decide (¬ pt z k 7 = nI 2)) := rfl
      unfold anyB at h
      rw [ho] at h
      by_cases h1 : pt z k 0 = nI 4
      · by_cases h2 : pt z k 7 = nI 2
        · simp [h1, h2] at h ⊢; exact (ih (k := k + 1) (b := false) (by omega)).mpr (by simpa using h)
        · simp [h1, h2] at h ⊢; exact (ih (k := k + 1) (b := true) (by omega)).mpr (by simpa using h)
      · simp [h1] at h ⊢; exact (ih (k := k + 1) (b := false) (by omega)).mpr (by simpa using h)
theorem e_isOpenStore {xs : Scr} {I : In2} {ρ : Rh} {Q : Post} {z : Zt} (hW : Rw ρ) {a i : Nat} (h3 : z 3 = nI a) (ha : a ≤ i) (hi : i ≤ 24) : Ev xs 132 0 [.ref 245, .int (nI i), .null, .null] [] (pz I z, ρ) Q ↔ Q (.inl (some (.int (bI (opn z a i)) ))) (pz I z, ρ) := by
  apply Ev.dt; intro Q h; apply w_X5_isOpenStore_0
  try simp (disch := omega) only [mR_def, Option.getD_some, mI_def, idx_nI, setI_def, nI_add, pk_mul, gz_R0 hW, pz_at, up2_pz, h3]
  simp (maxSteps := 1000000) (disch := omega) only [↓QI_i, ↓QV_v, ↓QA_a, ↓QF_f, ↓QD_d, ↓QL_l, ↓Bool.cond_eq_ite, ↓reduceIte, decide_eq_true_eq, Bool.not_eq_true', Bool.true_and, Bool.and_true, Bool.and_self, gR_some, Option.getD_some, mI_def, setI_def, mR_def, not_false_eq_true, not_true_eq_false, Bool.false_eq_true, idx_nI, nI_add, pk_mul, icB_lt, icB_gt, icB_le, icB_ge, icB_eq, icB_ne, bI_ne, nI_eqI, gz_O hW, gz_R0 hW, gz_A hW, up2_pz, pz_at, h3]
  refine (e_isOpen9 hW hi (n := i - a) (b := false) (by omega)).mpr ?_
  simpa [opn] using h
theorem e_reason {xs : Scr} {I : In2} {ρ : Rh} {Q : Post} {z : Zt} (hW : Rw ρ) {a i d : Nat} (h3 : z 3 = nI a) (ha : a ≤ i) (hi : i < 24) (hd : pt z i 5 = nI d) (hd3 : d ≤ 3) : Ev xs 133 0 [.ref 245, .int (nI i)] [] (pz I z, ρ) Q ↔ Q (.inl (some (.int (rsn z a i) ))) (pz I z, ρ) := by
  apply Ev.dt; intro Q h; apply w_X5_reason_0
  try simp (disch := omega) only [mR_def, Option.getD_some, mI_def, idx_nI, setI_def, nI_add, pk_mul, gz_R0 hW, pz_at, up2_pz, hd]
  simp (maxSteps := 1000000) (disch := omega) only [↓QI_i, ↓QV_v, ↓QA_a, ↓QF_f, ↓QD_d, ↓QL_l, ↓Bool.cond_eq_ite, ↓reduceIte, decide_eq_true_eq, Bool.not_eq_true', Bool.true_and, Bool.and_true, Bool.and_self, gR_some, Option.getD_some, mI_def, setI_def, mR_def, not_false_eq_true, not_true_eq_false, Bool.false_eq_true, idx_nI, nI_add, pk_mul, icB_lt, icB_gt, icB_le, icB_ge, icB_eq, icB_ne, bI_ne, nI_eqI, gz_O hW, gz_R0 hW, gz_A hW, up2_pz, pz_at, ↓e_of hW, e_of hW, ↓e_hasOne hW, e_hasOne hW, ↓e_hasOther hW, e_hasOther hW, ↓e_isReady hW h3, e_isReady hW h3, ↓e_isOpenStore hW h3, e_isOpenStore hW h3, hd]
  unfold rsn at h
  rw [hd, icB_le (by omega) (by decide)] at h
  by_cases h0 : pt z i 7 = nI 0
  · rw [if_pos h0] at h ⊢
    revert h
    cases hs1 z i <;> cases hs2 z i <;> cases rdy z a i (pt z i 2) <;> cases rdy z a i (pt z i 3) <;> by_cases h4 : pt z i 0 = nI 3 <;> by_cases h5 : d ≤ 0 <;> cases opn z a i <;> simp [h4, h5]
  · rw [if_neg h0] at h ⊢; exact h
theorem e_needs {xs : Scr} {μ : Mem} {Q : Post} {k : Int32} : Ev xs 134 0 [.int k] [] μ Q ↔ Q (.inl (some (.int (if k = nI 2 then nI 3 else if k = nI 3 then nI 2 else nI 1)))) μ := by
  apply Ev.dt; intro Q h; apply w_X5_needs_0
  simp (maxSteps := 1000000) (disch := omega) only [↓QI_i, ↓QV_v, ↓QA_a, ↓QF_f, ↓QD_d, ↓QL_l, ↓Bool.cond_eq_ite, ↓reduceIte, decide_eq_true_eq, Bool.not_eq_true', Bool.true_and, Bool.and_true, Bool.and_self, gR_some, Option.getD_some, mI_def, setI_def, mR_def, not_false_eq_true, not_true_eq_false, Bool.false_eq_true, idx_nI, nI_add, pk_mul, icB_lt, icB_gt, icB_le, icB_ge, icB_eq, icB_ne, bI_ne, nI_eqI]
  by_cases h1 : k = nI 2 <;> by_cases h2 : k = nI 3 <;> simp [h1, h2] at h ⊢ <;> exact h
