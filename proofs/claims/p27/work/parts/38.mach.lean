/-! the class's machine beside the reference's numbers -/
/-- an entry's row beside the reference's -/
def Erl (cr zr : Nat → Int32) : Prop := cr 7 = zr 7 ∧ (zr 7 = nI 1 → cr 8 = zr 8) ∧ (zr 7 = nI 2 → cr 13 = zr 11 ∧ ((zr 0 = nI 3 ∨ zr 0 = nI 4) → cr 11 = zr 9) ∧ (zr 0 = nI 3 → cr 12 = zr 10))
/-- an operand's name beside the reference's search -/
def Nm (c : In2) (z : Zt) (a i : Nat) (nm p : Int32) : Prop :=
  (p = nM ∧ nm = nM) ∨ ∃ q, q < 8 ∧ p = nI q ∧ ((nm = nM ∧ ∀ k, a ≤ k → k < i → mkP z p k = false) ∨ ∃ j, j < i ∧ nm = nI j ∧ (∀ k, a ≤ k → j < k → k < i → mkP z p k = false) ∧ (a ≤ j → mkP z p j = true) ∧ (j < a → c (6 + j) 13 = z (12 + q)))
def Rel (c : In2) (z : Zt) (a b n : Nat) : Prop := (∀ k, k < 9 → c 0 (5 + k) = z k) ∧ (∀ k, k < 3 → c 5 k = z (9 + k)) ∧ (∀ k, k < 8 → c 3 k = z (12 + k)) ∧ (∀ k, k < 16 → c 4 k = z (20 + k)) ∧
  (∀ i f, i < n → f < 7 → c (6 + i) f = pt z i f) ∧ (∀ i, a ≤ i → i < b → Erl (c (6 + i)) (pt z i)) ∧
  (∀ i, a ≤ i → i < b → Nm c z a i (c (6 + i) 9) (pt z i 2) ∧ Nm c z a i (c (6 + i) 10) (pt z i 3))
/-- what is not waiting has its operands -/
def Rdy (z : Zt) (a b : Nat) : Prop := ∀ i, a ≤ i → i < b → ¬ pt z i 7 = nI 0 → rdy z a i (pt z i 2) = true ∧ rdy z a i (pt z i 3) = true
def Big (c : In2) (z : Zt) (a b n : Nat) : Prop := Inv0 z a b n ∧ Rdy z a b ∧ Rel c z a b n
theorem Rel.cyc {c : In2} {z : Zt} {a b n : Nat} (h : Rel c z a b n) {k : Nat} (hk : k < 9) : c 0 (5 + k) = z k := h.1 k hk
theorem Rel.set {c : In2} {z : Zt} {a b n : Nat} (h : Rel c z a b n) {k : Nat} (hk : k < 3) : c 5 k = z (9 + k) := h.2.1 k hk
theorem Rel.reg {c : In2} {z : Zt} {a b n : Nat} (h : Rel c z a b n) {k : Nat} (hk : k < 8) : c 3 k = z (12 + k) := h.2.2.1 k hk
theorem Rel.mem {c : In2} {z : Zt} {a b n : Nat} (h : Rel c z a b n) {k : Nat} (hk : k < 16) : c 4 k = z (20 + k) := h.2.2.2.1 k hk
theorem Rel.row {c : In2} {z : Zt} {a b n : Nat} (h : Rel c z a b n) {i f : Nat} (hi : i < n) (hf : f < 7) : c (6 + i) f = pt z i f := h.2.2.2.2.1 i f hi hf
theorem Rel.ent {c : In2} {z : Zt} {a b n : Nat} (h : Rel c z a b n) {i : Nat} (h1 : a ≤ i) (h2 : i < b) : Erl (c (6 + i)) (pt z i) := h.2.2.2.2.2.1 i h1 h2
theorem Rel.stg {c : In2} {z : Zt} {a b n : Nat} (h : Rel c z a b n) {i : Nat} (h1 : a ≤ i ∧ i < b) : c (6 + i) 7 = pt z i 7 := (h.ent h1.1 h1.2).1
theorem Rel.nms {c : In2} {z : Zt} {a b n : Nat} (h : Rel c z a b n) {i : Nat} (h1 : a ≤ i) (h2 : i < b) : Nm c z a i (c (6 + i) 9) (pt z i 2) ∧ Nm c z a i (c (6 + i) 10) (pt z i 3) := h.2.2.2.2.2.2 i h1 h2
theorem Big.c8 {c : In2} {z : Zt} {a b n : Nat} (h : Big c z a b n) : c 0 8 = nI a := (h.2.2.cyc (k := 3) (by decide)).trans h.1.h3
theorem Big.c7 {c : In2} {z : Zt} {a b n : Nat} (h : Big c z a b n) : c 0 7 = nI b := (h.2.2.cyc (k := 2) (by decide)).trans h.1.h2
theorem Big.c6 {c : In2} {z : Zt} {a b n : Nat} (h : Big c z a b n) : c 0 6 = nI n := (h.2.2.cyc (k := 1) (by decide)).trans h.1.h1
theorem k_at {xs : Scr} {I : In2} {ρ : Rh} {Q : Post} {m i : Nat} (hW : Rw ρ) (hB : Bs m) (hi : i < 24) : Ev xs 17 0 [.ref m, .int (nI i)] [] (I, ρ) Q ↔ Q (.inl (some (.ref (m + (6 + i))))) (I, ρ) := by
  have h0 : ¬ i < 0 := by omega
  have h24 : ¬ 24 ≤ i := by omega
  apply Ev.dt; intro Q h; apply w_X2_at_0
  try simp (disch := omega) only [mR_def, Option.getD_some, mI_def, idx_nI, setI_def, nI_add, pk_mul, gm_0 hW hB, gm_1 hW hB, gm_2 hW hB, gm_3 hW hB, gm_4 hW hB, up2_pc, up2_pc0, pc_at, pc_at0, h0, h24, Bool.true_or]
  simp (maxSteps := 1000000) (disch := omega) only [↓QI_i, ↓QV_v, ↓QA_a, ↓QF_f, ↓QD_d, ↓QL_l, ↓Bool.cond_eq_ite, ↓reduceIte, decide_eq_true_eq, Bool.not_eq_true', Bool.true_and, Bool.and_true, Bool.and_self, gR_some, Option.getD_some, mI_def, setI_def, mR_def, not_false_eq_true, not_true_eq_false, Bool.false_eq_true, idx_nI, nI_add, pk_mul, icB_lt, icB_gt, icB_le, icB_ge, icB_eq, icB_ne, bI_ne, nI_eqI, gm_O hW hB, gm_N hW hB, gm_P hW hB, gm_R hW hB, gm_0 hW hB, gm_1 hW hB, gm_2 hW hB, gm_3 hW hB, gm_4 hW hB, gm_A hW hB, gm_B hW hB, gm_C hW hB, gm_D hW hB, gm_L hW hB, gm_l1 hB, gm_l3 hB, gm_l4 hB, gm_l5 hB, up2_pc, up2_pc0, pc_at, pc_at0, h0, h24, Bool.true_or]
  exact h
theorem mkr_nM {z : Zt} {a b n i : Nat} (h : Inv0 z a b n) (hi : i ≤ n) : mkr z a i nM = none := by
  refine lat_eq_none fun k h1 h2 => ?_
  obtain ⟨hw, -⟩ := h.row (i := k) (by omega)
  unfold mkP
  by_cases hk : pt z k 0 = nI 4
  · simp [hk]
  · obtain ⟨x, hx, he⟩ := hw.tgt hk
    rw [he]; simp [nM_ne (show x < 2147483648 by omega)]
theorem rdy_nM {z : Zt} {a b n i : Nat} (h : Inv0 z a b n) (hi : i ≤ n) : rdy z a i nM = true := by
  unfold rdy; rw [mkr_nM h hi]
theorem Nm.none {c : In2} {z : Zt} {a i : Nat} {p : Int32} (h : ∀ k, a ≤ k → k < i → mkP z p k = false) : mkr z a i p = none := lat_eq_none h
theorem k_isReady {xs : Scr} {I : In2} {ρ : Rh} {Q : Post} {m : Nat} {c : In2} (hW : Rw ρ) (hB : Bs m) {z : Zt} {a b n i : Nat} {nm p : Int32} (hG : Big c z a b n) (hi : i ≤ b) (hN : Nm c z a i nm p) : Ev xs 26 0 [.ref m, .int nm] [] (pc I m c, ρ) Q ↔ Q (.inl (some (.int (bI (rdy z a i p)) ))) (pc I m c, ρ) := by
  have hb := hG.1.bnd
  have h8 := hG.c8
  apply Ev.dt; intro Q h; apply w_X2_isReady_0
  have key : (rdy z a i p = true ∧ icB .lt nm (nI a) = true) ∨ ∃ j, j < i ∧ ¬ j < a ∧ nm = nI j ∧ rdy z a i p = decide (pt z j 7 = nI 2) := by
    rcases hN with ⟨hp, hn⟩ | ⟨q, hq, hp, ⟨hn, hno⟩ | ⟨j, hj, hn, hno, hmk, hmade⟩⟩
    · exact Or.inl ⟨by rw [hp]; exact rdy_nM hG.1 (by omega), by rw [hn]; exact icB_lt_M (by omega)⟩
    · exact Or.inl ⟨by unfold rdy; rw [show mkr z a i p = none from lat_eq_none hno], by rw [hn]; exact icB_lt_M (by omega)⟩
    · by_cases hja : j < a
      · exact Or.inl ⟨by unfold rdy; rw [show mkr z a i p = none from lat_eq_none fun k h1 h2 => hno k h1 (by omega) h2], by rw [hn, icB_lt (by omega) (by omega)]; exact decide_eq_true hja⟩
      · exact Or.inr ⟨j, hj, hja, hn, by unfold rdy; rw [show mkr z a i p = some j from lat_eq_some (by omega) hj (hmk (by omega)) fun k h1 h2 => hno k (by omega) h1 h2]⟩
  rcases key with ⟨e1, e2⟩ | ⟨j, hj, hja, hn, hr⟩
  · rw [e1] at h
    simp (maxSteps := 1000000) (disch := omega) only [↓QI_i, ↓QV_v, ↓QA_a, ↓QF_f, ↓QD_d, ↓QL_l, ↓Bool.cond_eq_ite, ↓reduceIte, decide_eq_true_eq, Bool.not_eq_true', Bool.true_and, Bool.and_true, Bool.and_self, gR_some, Option.getD_some, mI_def, setI_def, mR_def, not_false_eq_true, not_true_eq_false, Bool.false_eq_true, idx_nI, nI_add, pk_mul, icB_lt, icB_gt, icB_le, icB_ge, icB_eq, icB_ne, bI_ne, nI_eqI, gm_O hW hB, gm_N hW hB, gm_P hW hB, gm_R hW hB, gm_0 hW hB, gm_1 hW hB, gm_2 hW hB, gm_3 hW hB, gm_4 hW hB, gm_A hW hB, gm_B hW hB, gm_C hW hB, gm_D hW hB, gm_L hW hB, gm_l1 hB, gm_l3 hB, gm_l4 hB, gm_l5 hB, up2_pc, up2_pc0, pc_at, pc_at0, h8, e2]
    exact h
  · have hst := hG.2.2.stg (i := j) ⟨by omega, by omega⟩
    rw [hr] at h
    subst hn
    simp (maxSteps := 1000000) (disch := omega) only [↓QI_i, ↓QV_v, ↓QA_a, ↓QF_f, ↓QD_d, ↓QL_l, ↓Bool.cond_eq_ite, ↓reduceIte, decide_eq_true_eq, Bool.not_eq_true', Bool.true_and, Bool.and_true, Bool.and_self, gR_some, Option.getD_some, mI_def, setI_def, mR_def, not_false_eq_true, not_true_eq_false, Bool.false_eq_true, idx_nI, nI_add, pk_mul, icB_lt, icB_gt, icB_le, icB_ge, icB_eq, icB_ne, bI_ne, nI_eqI, gm_O hW hB, gm_N hW hB, gm_P hW hB, gm_R hW hB, gm_0 hW hB, gm_1 hW hB, gm_2 hW hB, gm_3 hW hB, gm_4 hW hB, gm_A hW hB, gm_B hW hB, gm_C hW hB, gm_D hW hB, gm_L hW hB, gm_l1 hB, gm_l3 hB, gm_l4 hB, gm_l5 hB, up2_pc, up2_pc0, pc_at, pc_at0, h8, hja, ↓k_at hW hB, k_at hW hB, hst]
    by_cases h2 : pt z j 7 = nI 2 <;> simp [h2, bI] at h ⊢ <;> exact h
def opv (z : Zt) (a i : Nat) (p : Int32) : Int32 := if p = nM then nI 0 else vlO z a i p
theorem k_regBits {xs : Scr} {I : In2} {ρ : Rh} {Q : Post} {m q : Nat} {c : In2} (hW : Rw ρ) (hB : Bs m) (hq : q < 8) : Ev xs 18 0 [.ref m, .int (nI q)] [] (pc I m c, ρ) Q ↔ Q (.inl (some (.int (c 3 q) ))) (pc I m c, ρ) := by
  have h0 : ¬ q < 0 := by omega
  have h24 : ¬ 8 ≤ q := by omega
  apply Ev.dt; intro Q h; apply w_X2_registerBits_0
  try simp (disch := omega) only [mR_def, Option.getD_some, mI_def, idx_nI, setI_def, nI_add, pk_mul, gm_0 hW hB, gm_1 hW hB, gm_2 hW hB, gm_3 hW hB, gm_4 hW hB, up2_pc, up2_pc0, pc_at, pc_at0, h0, h24]
  simp (maxSteps := 1000000) (disch := omega) only [↓QI_i, ↓QV_v, ↓QA_a, ↓QF_f, ↓QD_d, ↓QL_l, ↓Bool.cond_eq_ite, ↓reduceIte, decide_eq_true_eq, Bool.not_eq_true', Bool.true_and, Bool.and_true, Bool.and_self, gR_some, Option.getD_some, mI_def, setI_def, mR_def, not_false_eq_true, not_true_eq_false, Bool.false_eq_true, idx_nI, nI_add, pk_mul, icB_lt, icB_gt, icB_le, icB_ge, icB_eq, icB_ne, bI_ne, nI_eqI, gm_O hW hB, gm_N hW hB, gm_P hW hB, gm_R hW hB, gm_0 hW hB, gm_1 hW hB, gm_2 hW hB, gm_3 hW hB, gm_4 hW hB, gm_A hW hB, gm_B hW hB, gm_C hW hB, gm_D hW hB, gm_L hW hB, gm_l1 hB, gm_l3 hB, gm_l4 hB, gm_l5 hB, up2_pc, up2_pc0, pc_at, pc_at0, h0, h24]
  exact h
theorem k_regBitsM {xs : Scr} {I : In2} {ρ : Rh} {Q : Post} {m : Nat} : Ev xs 18 0 [.ref m, .int nM] [] (I, ρ) Q ↔ Q (.inl (some (.int (nI 0)))) (I, ρ) := by
  apply Ev.dt; intro Q h; apply w_X2_registerBits_0
  rw [icB_lt_M (by decide)]; exact h
theorem k_cellBits {xs : Scr} {I : In2} {ρ : Rh} {Q : Post} {m q : Nat} {c : In2} (hW : Rw ρ) (hB : Bs m) (hq : q < 16) : Ev xs 19 0 [.ref m, .int (nI q)] [] (pc I m c, ρ) Q ↔ Q (.inl (some (.int (c 4 q) ))) (pc I m c, ρ) := by
  have h0 : ¬ q < 0 := by omega
  have h24 : ¬ 16 ≤ q := by omega
  apply Ev.dt; intro Q h; apply w_X2_cellBits_0
  try simp (disch := omega) only [mR_def, Option.getD_some, mI_def, idx_nI, setI_def, nI_add, pk_mul, gm_0 hW hB, gm_1 hW hB, gm_2 hW hB, gm_3 hW hB, gm_4 hW hB, up2_pc, up2_pc0, pc_at, pc_at0, h0, h24]
  simp (maxSteps := 1000000) (disch := omega) only [↓QI_i, ↓QV_v, ↓QA_a, ↓QF_f, ↓QD_d, ↓QL_l, ↓Bool.cond_eq_ite, ↓reduceIte, decide_eq_true_eq, Bool.not_eq_true', Bool.true_and, Bool.and_true, Bool.and_self, gR_some, Option.getD_some, mI_def, setI_def, mR_def, not_false_eq_true, not_true_eq_false, Bool.false_eq_true, idx_nI, nI_add, pk_mul, icB_lt, icB_gt, icB_le, icB_ge, icB_eq, icB_ne, bI_ne, nI_eqI, gm_O hW hB, gm_N hW hB, gm_P hW hB, gm_R hW hB, gm_0 hW hB, gm_1 hW hB, gm_2 hW hB, gm_3 hW hB, gm_4 hW hB, gm_A hW hB, gm_B hW hB, gm_C hW hB, gm_D hW hB, gm_L hW hB, gm_l1 hB, gm_l3 hB, gm_l4 hB, gm_l5 hB, up2_pc, up2_pc0, pc_at, pc_at0, h0, h24]
  exact h
theorem k_operand {xs : Scr} {I : In2} {ρ : Rh} {Q : Post} {m : Nat} {c : In2} (hW : Rw ρ) (hB : Bs m) {z : Zt} {a b n i : Nat} {nm p : Int32} (hG : Big c z a b n) (hi : i ≤ b) (hN : Nm c z a i nm p) (hr : rdy z a i p = true) : Ev xs 35 0 [.ref m, .int p, .int nm] [] (pc I m c, ρ) Q ↔ Q (.inl (some (.int (opv z a i p) ))) (pc I m c, ρ) := by
  have hb := hG.1.bnd
  apply Ev.dt; intro Q h; apply w_X2_operand_0
  unfold opv vlO at h
  rcases hN with ⟨hp, hn⟩ | ⟨q, hq, hp, ⟨hn, hno⟩ | ⟨j, hj, hn, hno, hmk, hmade⟩⟩
  · subst hp; subst hn
    rw [if_pos rfl] at h
    simp (maxSteps := 1000000) (disch := omega) only [↓QI_i, ↓QV_v, ↓QA_a, ↓QF_f, ↓QD_d, ↓QL_l, ↓Bool.cond_eq_ite, ↓reduceIte, decide_eq_true_eq, Bool.not_eq_true', Bool.true_and, Bool.and_true, Bool.and_self, gR_some, Option.getD_some, mI_def, setI_def, mR_def, not_false_eq_true, not_true_eq_false, Bool.false_eq_true, idx_nI, nI_add, pk_mul, icB_lt, icB_gt, icB_le, icB_ge, icB_eq, icB_ne, bI_ne, nI_eqI, gm_O hW hB, gm_N hW hB, gm_P hW hB, gm_R hW hB, gm_0 hW hB, gm_1 hW hB, gm_2 hW hB, gm_3 hW hB, gm_4 hW hB, gm_A hW hB, gm_B hW hB, gm_C hW hB, gm_D hW hB, gm_L hW hB, gm_l1 hB, gm_l3 hB, gm_l4 hB, gm_l5 hB, up2_pc, up2_pc0, pc_at, pc_at0, ↓k_regBitsM, k_regBitsM]
    exact h
  · have hpM : ¬ p = nM := by rw [hp]; exact nM_ne (by omega)
    rw [if_neg hpM, show mkr z a i p = none from lat_eq_none hno] at h
    subst hp; subst hn
    have hrg := hG.2.2.reg hq
    simp (maxSteps := 1000000) (disch := omega) only [↓QI_i, ↓QV_v, ↓QA_a, ↓QF_f, ↓QD_d, ↓QL_l, ↓Bool.cond_eq_ite, ↓reduceIte, decide_eq_true_eq, Bool.not_eq_true', Bool.true_and, Bool.and_true, Bool.and_self, gR_some, Option.getD_some, mI_def, setI_def, mR_def, not_false_eq_true, not_true_eq_false, Bool.false_eq_true, idx_nI, nI_add, pk_mul, icB_lt, icB_gt, icB_le, icB_ge, icB_eq, icB_ne, bI_ne, nI_eqI, gm_O hW hB, gm_N hW hB, gm_P hW hB, gm_R hW hB, gm_0 hW hB, gm_1 hW hB, gm_2 hW hB, gm_3 hW hB, gm_4 hW hB, gm_A hW hB, gm_B hW hB, gm_C hW hB, gm_D hW hB, gm_L hW hB, gm_l1 hB, gm_l3 hB, gm_l4 hB, gm_l5 hB, up2_pc, up2_pc0, pc_at, pc_at0, ↓k_regBits hW hB, k_regBits hW hB, hrg]
    simp (disch := omega) only [idx_nI] at h
    exact h
  · have hpM : ¬ p = nM := by rw [hp]; exact nM_ne (by omega)
    have hjM : ¬ nI j = nM := nM_ne (by omega)
    rw [if_neg hpM] at h
    by_cases hja : j < a
    · rw [show mkr z a i p = none from lat_eq_none fun k h1 h2 => hno k h1 (by omega) h2] at h
      have hmd := hmade hja
      subst hp; subst hn
      simp (maxSteps := 1000000) (disch := omega) only [↓QI_i, ↓QV_v, ↓QA_a, ↓QF_f, ↓QD_d, ↓QL_l, ↓Bool.cond_eq_ite, ↓reduceIte, decide_eq_true_eq, Bool.not_eq_true', Bool.true_and, Bool.and_true, Bool.and_self, gR_some, Option.getD_some, mI_def, setI_def, mR_def, not_false_eq_true, not_true_eq_false, Bool.false_eq_true, idx_nI, nI_add, pk_mul, icB_lt, icB_gt, icB_le, icB_ge, icB_eq, icB_ne, bI_ne, nI_eqI, gm_O hW hB, gm_N hW hB, gm_P hW hB, gm_R hW hB, gm_0 hW hB, gm_1 hW hB, gm_2 hW hB, gm_3 hW hB, gm_4 hW hB, gm_A hW hB, gm_B hW hB, gm_C hW hB, gm_D hW hB, gm_L hW hB, gm_l1 hB, gm_l3 hB, gm_l4 hB, gm_l5 hB, up2_pc, up2_pc0, pc_at, pc_at0, ↓k_at hW hB, k_at hW hB, hjM, hmd]
      simp (disch := omega) only [idx_nI] at h
      exact h
    · have hm : mkr z a i p = some j := lat_eq_some (by omega) hj (hmk (by omega)) fun k h1 h2 => hno k (by omega) h1 h2
      unfold rdy at hr
      rw [hm] at h hr
      have hmd := ((hG.2.2.ent (i := j) (by omega) (by omega)).2.2 (of_decide_eq_true hr)).1
      subst hn
      simp (maxSteps := 1000000) (disch := omega) only [↓QI_i, ↓QV_v, ↓QA_a, ↓QF_f, ↓QD_d, ↓QL_l, ↓Bool.cond_eq_ite, ↓reduceIte, decide_eq_true_eq, Bool.not_eq_true', Bool.true_and, Bool.and_true, Bool.and_self, gR_some, Option.getD_some, mI_def, setI_def, mR_def, not_false_eq_true, not_true_eq_false, Bool.false_eq_true, idx_nI, nI_add, pk_mul, icB_lt, icB_gt, icB_le, icB_ge, icB_eq, icB_ne, bI_ne, nI_eqI, gm_O hW hB, gm_N hW hB, gm_P hW hB, gm_R hW hB, gm_0 hW hB, gm_1 hW hB, gm_2 hW hB, gm_3 hW hB, gm_4 hW hB, gm_A hW hB, gm_B hW hB, gm_C hW hB, gm_D hW hB, gm_L hW hB, gm_l1 hB, gm_l3 hB, gm_l4 hB, gm_l5 hB, up2_pc, up2_pc0, pc_at, pc_at0, ↓k_at hW hB, k_at hW hB, hjM, hmd]
      exact h
theorem k_isDone {xs : Scr} {I : In2} {ρ : Rh} {Q : Post} {m : Nat} {c : In2} (hW : Rw ρ) (hB : Bs m) {z : Zt} {a b n i : Nat} {w : Int32} (h8 : c 0 8 = nI a) (hb : a ≤ b ∧ b ≤ n ∧ n ≤ 24) (hG : Rel c z a b n) (ha : a ≤ i) (hi : i < b) : Ev xs 9 0 [.ref (m + (6 + i)), .int w] [] (pc I m c, ρ) Q ↔ Q (.inl (some (.int (bI (decide (pt z i 0 = w) && decide (pt z i 7 = nI 2))) ))) (pc I m c, ρ) := by
  have h0 : c (6 + i) 0 = pt z i 0 := hG.row (by omega) (by decide)
  have h7 := hG.stg (i := i) ⟨ha, hi⟩
  apply Ev.dt; intro Q h; apply w_X1_isDone_0
  try simp (disch := omega) only [mR_def, Option.getD_some, mI_def, idx_nI, setI_def, nI_add, pk_mul, gm_0 hW hB, gm_1 hW hB, gm_2 hW hB, gm_3 hW hB, gm_4 hW hB, up2_pc, up2_pc0, pc_at, pc_at0, h0, h7]
  simp (maxSteps := 1000000) (disch := omega) only [↓QI_i, ↓QV_v, ↓QA_a, ↓QF_f, ↓QD_d, ↓QL_l, ↓Bool.cond_eq_ite, ↓reduceIte, decide_eq_true_eq, Bool.not_eq_true', Bool.true_and, Bool.and_true, Bool.and_self, gR_some, Option.getD_some, mI_def, setI_def, mR_def, not_false_eq_true, not_true_eq_false, Bool.false_eq_true, idx_nI, nI_add, pk_mul, icB_lt, icB_gt, icB_le, icB_ge, icB_eq, icB_ne, bI_ne, nI_eqI, gm_O hW hB, gm_N hW hB, gm_P hW hB, gm_R hW hB, gm_0 hW hB, gm_1 hW hB, gm_2 hW hB, gm_3 hW hB, gm_4 hW hB, gm_A hW hB, gm_B hW hB, gm_C hW hB, gm_D hW hB, gm_L hW hB, gm_l1 hB, gm_l3 hB, gm_l4 hB, gm_l5 hB, up2_pc, up2_pc0, pc_at, pc_at0, h0, h7]
  by_cases e0 : pt z i 0 = w <;> by_cases e7 : pt z i 7 = nI 2 <;> simp [e0, e7, bI] at h ⊢ <;> exact h
theorem k_hasOpen5 {xs : Scr} {I : In2} {ρ : Rh} {m : Nat} {c : In2} (hW : Rw ρ) (hB : Bs m) {z : Zt} {a b n i : Nat} (h8 : c 0 8 = nI a) (hb : a ≤ b ∧ b ≤ n ∧ n ≤ 24) (hG : Rel c z a b n) (hi : i ≤ b) : ∀ {d k : Nat} {v3 : Value} {Q : Post}, a ≤ k → k + d = i → (Ev xs 27 5 [.ref m, .int (nI i), .int (nI k), v3] [] (pc I m c, ρ) Q ↔ Q (.inl (some (.int (bI (anyB (opP z) d k)) ))) (pc I m c, ρ)) := by
  intro d
  induction d with
  | zero =>
    intro k v3 Q ha hk
    obtain rfl : k = i := hk
    apply Ev.dt; intro Q h; apply w_X2_hasOpenStoreAhead_5
    try simp (disch := omega) only [mR_def, Option.getD_some, mI_def, idx_nI, setI_def, nI_add, pk_mul, gm_0 hW hB, gm_1 hW hB, gm_2 hW hB, gm_3 hW hB, gm_4 hW hB, up2_pc, up2_pc0, pc_at, pc_at0, Nat.le_refl]
    simp (maxSteps := 1000000) (disch := omega) only [↓QI_i, ↓QV_v, ↓QA_a, ↓QF_f, ↓QD_d, ↓QL_l, ↓Bool.cond_eq_ite, ↓reduceIte, decide_eq_true_eq, Bool.not_eq_true', Bool.true_and, Bool.and_true, Bool.and_self, gR_some, Option.getD_some, mI_def, setI_def, mR_def, not_false_eq_true, not_true_eq_false, Bool.false_eq_true, idx_nI, nI_add, pk_mul, icB_lt, icB_gt, icB_le, icB_ge, icB_eq, icB_ne, bI_ne, nI_eqI, gm_O hW hB, gm_N hW hB, gm_P hW hB, gm_R hW hB, gm_0 hW hB, gm_1 hW hB, gm_2 hW hB, gm_3 hW hB, gm_4 hW hB, gm_A hW hB, gm_B hW hB, gm_C hW hB, gm_D hW hB, gm_L hW hB, gm_l1 hB, gm_l3 hB, gm_l4 hB, gm_l5 hB, up2_pc, up2_pc0, pc_at, pc_at0, Nat.le_refl]
    exact h
  | succ d ih =>
    intro k v3 Q ha hk
    have hki : ¬ i ≤ k := by omega
    have h0 : c (6 + k) 0 = pt z k 0 := hG.row (by omega) (by decide)
    have h7 := hG.stg (i := k) ⟨ha, by omega⟩
    have ho : opP z k = (decide (pt z k 0 = nI 4) && decide (¬ pt z k 7 = nI 2)) := rfl
    apply Ev.dt; intro Q h; apply w_X2_hasOpenStoreAhead_5
    try simp (disch := omega) only [mR_def, Option.getD_some, mI_def, idx_nI, setI_def, nI_add, pk_mul, gm_0 hW hB, gm_1 hW hB, gm_2 hW hB, gm_3 hW hB, gm_4 hW hB, up2_pc, up2_pc0, pc_at, pc_at0, hki, h0, h7]
    simp (maxSteps := 1000000) (disch := omega) only [↓QI_i, ↓QV_v, ↓QA_a, ↓QF_f, ↓QD_d, ↓QL_l, ↓Bool.cond_eq_ite, ↓reduceIte, decide_eq_true_eq, Bool.not_eq_true', Bool.true_and, Bool.and_true, Bool.and_self, gR_some, Option.getD_some, mI_def, setI_def, mR_def, not_false_eq_true, not_true_eq_false, Bool.false_eq_true, idx_nI, nI_add, pk_mul, icB_lt, icB_gt, icB_le, icB_ge, icB_eq, icB_ne, bI_ne, nI_eqI, gm_O hW hB, gm_N hW hB, gm_P hW hB, gm_R hW hB, gm_0 hW hB, gm_1 hW hB, gm_2 hW hB, gm_3 hW hB, gm_4 hW hB, gm_A hW hB, gm_B hW hB, gm_C hW hB, gm_D hW hB, gm_L hW hB, gm_l1 hB, gm_l3 hB, gm_l4 hB, gm_l5 hB, up2_pc, up2_pc0, pc_at, pc_at0, hki, ↓k_at hW hB, k_at hW hB, h0, h7]
    rw [anyB, ho] at h
    by_cases e0 : pt z k 0 = nI 4 <;> by_cases e7 : pt z k 7 = nI 2 <;> simp [e0, e7] at h ⊢ <;> first | exact h | exact (ih (by omega) (by omega)).mpr h
theorem k_hasOpen {xs : Scr} {I : In2} {ρ : Rh} {Q : Post} {m : Nat} {c : In2} (hW : Rw ρ) (hB : Bs m) {z : Zt} {a b n i : Nat} (h8 : c 0 8 = nI a) (hb : a ≤ b ∧ b ≤ n ∧ n ≤ 24) (hG : Rel c z a b n) (ha : a ≤ i) (hi : i ≤ b) : Ev xs 27 0 [.ref m, .int (nI i), .null, .null] [] (pc I m c, ρ) Q ↔ Q (.inl (some (.int (bI (opn z a i)) ))) (pc I m c, ρ) := by
  apply Ev.dt; intro Q h; apply w_X2_hasOpenStoreAhead_0
  try simp (disch := omega) only [mR_def, Option.getD_some, mI_def, idx_nI, setI_def, nI_add, pk_mul, gm_0 hW hB, gm_1 hW hB, gm_2 hW hB, gm_3 hW hB, gm_4 hW hB, up2_pc, up2_pc0, pc_at, pc_at0, h8]
  simp (maxSteps := 1000000) (disch := omega) only [↓QI_i, ↓QV_v, ↓QA_a, ↓QF_f, ↓QD_d, ↓QL_l, ↓Bool.cond_eq_ite, ↓reduceIte, decide_eq_true_eq, Bool.not_eq_true', Bool.true_and, Bool.and_true, Bool.and_self, gR_some, Option.getD_some, mI_def, setI_def, mR_def, not_false_eq_true, not_true_eq_false, Bool.false_eq_true, idx_nI, nI_add, pk_mul, icB_lt, icB_gt, icB_le, icB_ge, icB_eq, icB_ne, bI_ne, nI_eqI, gm_O hW hB, gm_N hW hB, gm_P hW hB, gm_R hW hB, gm_0 hW hB, gm_1 hW hB, gm_2 hW hB, gm_3 hW hB, gm_4 hW hB, gm_A hW hB, gm_B hW hB, gm_C hW hB, gm_D hW hB, gm_L hW hB, gm_l1 hB, gm_l3 hB, gm_l4 hB, gm_l5 hB, up2_pc, up2_pc0, pc_at, pc_at0, h8]
  exact (k_hasOpen5 hW hB h8 hb hG hi (d := i - a) (Nat.le_refl a) (by omega)).mpr h
theorem k_latMaker4 {xs : Scr} {I : In2} {ρ : Rh} {m : Nat} {c : In2} (hW : Rw ρ) (hB : Bs m) {z : Zt} {a b n q : Nat} {p1 : Int32} (hG : Big c z a b n) (hq : q < 8) : ∀ {j : Nat} {Q : Post}, j ≤ n → (Ev xs 28 4 [.ref m, .int (nI q), .int p1, .int (nI j - nI 1)] [] (pc I m c, ρ) Q ↔ Q (.inl (some (.int (oI (lat (mkP z (nI q)) a j)) ))) (pc I m c, ρ)) := by
  have hb := hG.1.bnd
  have h8 := hG.c8
  intro j
  induction j with
  | zero =>
    intro Q _
    apply Ev.dt; intro Q h; apply w_X2_latestMaker_4
    try simp (disch := omega) only [mR_def, Option.getD_some, mI_def, idx_nI, setI_def, nI_add, pk_mul, gm_0 hW hB, gm_1 hW hB, gm_2 hW hB, gm_3 hW hB, gm_4 hW hB, up2_pc, up2_pc0, pc_at, pc_at0, h8, nI_M, icB_lt_M]
    simp (maxSteps := 1000000) (disch := omega) only [↓QI_i, ↓QV_v, ↓QA_a, ↓QF_f, ↓QD_d, ↓QL_l, ↓Bool.cond_eq_ite, ↓reduceIte, decide_eq_true_eq, Bool.not_eq_true', Bool.true_and, Bool.and_true, Bool.and_self, gR_some, Option.getD_some, mI_def, setI_def, mR_def, not_false_eq_true, not_true_eq_false, Bool.false_eq_true, idx_nI, nI_add, pk_mul, icB_lt, icB_gt, icB_le, icB_ge, icB_eq, icB_ne, bI_ne, nI_eqI, gm_O hW hB, gm_N hW hB, gm_P hW hB, gm_R hW hB, gm_0 hW hB, gm_1 hW hB, gm_2 hW hB, gm_3 hW hB, gm_4 hW hB, gm_A hW hB, gm_B hW hB, gm_C hW hB, gm_D hW hB, gm_L hW hB, gm_l1 hB, gm_l3 hB, gm_l4 hB, gm_l5 hB, up2_pc, up2_pc0, pc_at, pc_at0, h8, nI_M, icB_lt_M]
    exact h
  | succ j ih =>
    intro Q hj
    have hqM : ¬ nI q = nM := nM_ne (by omega)
    rw [nI_sub1]
    apply Ev.dt; intro Q h; apply w_X2_latestMaker_4
    unfold lat at h
    by_cases h1 : a ≤ j
    · have h1' : ¬ j < a := by omega
      have hr1 : c (6 + j) 1 = pt z j 1 := hG.2.2.row (by omega) (by decide)
      rw [if_pos h1] at h
      obtain ⟨hw, -⟩ := hG.1.row (i := j) (by omega)
      simp (maxSteps := 1000000) (disch := omega) only [↓QI_i, ↓QV_v, ↓QA_a, ↓QF_f, ↓QD_d, ↓QL_l, ↓Bool.cond_eq_ite, ↓reduceIte, decide_eq_true_eq, Bool.not_eq_true', Bool.true_and, Bool.and_true, Bool.and_self, gR_some, Option.getD_some, mI_def, setI_def, mR_def, not_false_eq_true, not_true_eq_false, Bool.false_eq_true, idx_nI, nI_add, pk_mul, icB_lt, icB_gt, icB_le, icB_ge, icB_eq, icB_ne, bI_ne, nI_eqI, gm_O hW hB, gm_N hW hB, gm_P hW hB, gm_R hW hB, gm_0 hW hB, gm_1 hW hB, gm_2 hW hB, gm_3 hW hB, gm_4 hW hB, gm_A hW hB, gm_B hW hB, gm_C hW hB, gm_D hW hB, gm_L hW hB, gm_l1 hB, gm_l3 hB, gm_l4 hB, gm_l5 hB, up2_pc, up2_pc0, pc_at, pc_at0, h8, h1', hqM, ↓k_at hW hB, k_at hW hB, hr1]
      have hmp : mkP z (nI q) j = decide (pt z j 1 = nI q) := by
        unfold mkP
        by_cases hk : pt z j 0 = nI 4
        · have := hw.tgt4 hk
          have hqM' : ¬ nM = nI q := fun e => hqM e.symm
          rw [this]; simp [hk, hqM']
        · simp [hk]
      rw [hmp] at h
      by_cases e1 : pt z j 1 = nI q
      · simp [e1] at h ⊢; exact h
      · simp [e1] at h ⊢
        rw [show nI j + nM = nI j - nI 1 by rw [Int32.sub_eq_add_neg]; rfl]
        exact (ih (by omega)).mpr h
    · have h1' : j < a := by omega
      rw [if_neg h1] at h
      simp (maxSteps := 1000000) (disch := omega) only [↓QI_i, ↓QV_v, ↓QA_a, ↓QF_f, ↓QD_d, ↓QL_l, ↓Bool.cond_eq_ite, ↓reduceIte, decide_eq_true_eq, Bool.not_eq_true', Bool.true_and, Bool.and_true, Bool.and_self, gR_some, Option.getD_some, mI_def, setI_def, mR_def, not_false_eq_true, not_true_eq_false, Bool.false_eq_true, idx_nI, nI_add, pk_mul, icB_lt, icB_gt, icB_le, icB_ge, icB_eq, icB_ne, bI_ne, nI_eqI, gm_O hW hB, gm_N hW hB, gm_P hW hB, gm_R hW hB, gm_0 hW hB, gm_1 hW hB, gm_2 hW hB, gm_3 hW hB, gm_4 hW hB, gm_A hW hB, gm_B hW hB, gm_C hW hB, gm_D hW hB, gm_L hW hB, gm_l1 hB, gm_l3 hB, gm_l4 hB, gm_l5 hB, up2_pc, up2_pc0, pc_at, pc_at0, h8, h1']
      exact h
theorem k_latMaker {xs : Scr} {I : In2} {ρ : Rh} {Q : Post} {m : Nat} {c : In2} (hW : Rw ρ) (hB : Bs m) {z : Zt} {a b n q i : Nat} (hG : Big c z a b n) (hq : q < 8) (hi : i ≤ n) : Ev xs 28 0 [.ref m, .int (nI q), .int (nI i), .null] [] (pc I m c, ρ) Q ↔ Q (.inl (some (.int (oI (mkr z a i (nI q))) ))) (pc I m c, ρ) := by
  apply Ev.dt; intro Q h; apply w_X2_latestMaker_0
  exact (k_latMaker4 hW hB hG hq hi).mpr h
theorem k_latMakerM {xs : Scr} {I : In2} {ρ : Rh} {Q : Post} {m : Nat} {c : In2} (hW : Rw ρ) (hB : Bs m) {x : Int32} : Ev xs 28 0 [.ref m, .int nM, .int x, .null] [] (pc I m c, ρ) Q ↔ Q (.inl (some (.int (nM) ))) (pc I m c, ρ) := by
  apply Ev.dt; intro Q h; apply w_X2_latestMaker_0; apply w_X2_latestMaker_4
  rw [gm_O hW hB, cond_true, cond_true]
  cases icB .lt (x - nI 1) (mI (pc I m c, ρ) m 8)
  · rw [cond_false, icB_eq, decide_eq_true rfl, cond_true]; exact h
  · rw [cond_true]; exact h
theorem k_latStore4 {xs : Scr} {I : In2} {ρ : Rh} {m : Nat} {c : In2} (hW : Rw ρ) (hB : Bs m) {z : Zt} {a b n cell : Nat} {p1 : Int32} (h8 : c 0 8 = nI a) (hb : a ≤ b ∧ b ≤ n ∧ n ≤ 24) (hG : Rel c z a b n) : ∀ {j : Nat} {v4 : Value} {Q : Post}, j ≤ b → (Ev xs 29 4 [.ref m, .int (nI cell), .int p1, .int (nI j - nI 1), v4] [] (pc I m c, ρ) Q ↔ Q (.inl (some (.int (oI (lat (alP z (nI cell)) a j)) ))) (pc I m c, ρ)) := by
  intro j
  induction j with
  | zero =>
    intro v4 Q _
    apply Ev.dt; intro Q h; apply w_X2_latestStore_4
    try simp (disch := omega) only [mR_def, Option.getD_some, mI_def, idx_nI, setI_def, nI_add, pk_mul, gm_0 hW hB, gm_1 hW hB, gm_2 hW hB, gm_3 hW hB, gm_4 hW hB, up2_pc, up2_pc0, pc_at, pc_at0, h8, nI_M, icB_lt_M]
    simp (maxSteps := 1000000) (disch := omega) only [↓QI_i, ↓QV_v, ↓QA_a, ↓QF_f, ↓QD_d, ↓QL_l, ↓Bool.cond_eq_ite, ↓reduceIte, decide_eq_true_eq, Bool.not_eq_true', Bool.true_and, Bool.and_true, Bool.and_self, gR_some, Option.getD_some, mI_def, setI_def, mR_def, not_false_eq_true, not_true_eq_false, Bool.false_eq_true, idx_nI, nI_add, pk_mul, icB_lt, icB_gt, icB_le, icB_ge, icB_eq, icB_ne, bI_ne, nI_eqI, gm_O hW hB, gm_N hW hB, gm_P hW hB, gm_R hW hB, gm_0 hW hB, gm_1 hW hB, gm_2 hW hB, gm_3 hW hB, gm_4 hW hB, gm_A hW hB, gm_B hW hB, gm_C hW hB, gm_D hW hB, gm_L hW hB, gm_l1 hB, gm_l3 hB, gm_l4 hB, gm_l5 hB, up2_pc, up2_pc0, pc_at, pc_at0, h8, nI_M, icB_lt_M]
    exact h
  | succ j ih =>
    intro v4 Q hj
    rw [nI_sub1]
    apply Ev.dt; intro Q h; apply w_X2_latestStore_4
    unfold lat at h
    by_cases h1 : a ≤ j
    · have h1' : ¬ j < a := by omega
      rw [if_pos h1] at h
      simp (maxSteps := 1000000) (disch := omega) only [↓QI_i, ↓QV_v, ↓QA_a, ↓QF_f, ↓QD_d, ↓QL_l, ↓Bool.cond_eq_ite, ↓reduceIte, decide_eq_true_eq, Bool.not_eq_true', Bool.true_and, Bool.and_true, Bool.and_self, gR_some, Option.getD_some, mI_def, setI_def, mR_def, not_false_eq_true, not_true_eq_false, Bool.false_eq_true, idx_nI, nI_add, pk_mul, icB_lt, icB_gt, icB_le, icB_ge, icB_eq, icB_ne, bI_ne, nI_eqI, gm_O hW hB, gm_N hW hB, gm_P hW hB, gm_R hW hB, gm_0 hW hB, gm_1 hW hB, gm_2 hW hB, gm_3 hW hB, gm_4 hW hB, gm_A hW hB, gm_B hW hB, gm_C hW hB, gm_D hW hB, gm_L hW hB, gm_l1 hB, gm_l3 hB, gm_l4 hB, gm_l5 hB, up2_pc, up2_pc0, pc_at, pc_at0, h8, h1', ↓k_at hW hB, k_at hW hB, ↓k_isDone hW hB h8 hb hG h1 (show j < b by omega), k_isDone hW hB h8 hb hG h1 (show j < b by omega)]
      unfold alP at h
      by_cases e0 : pt z j 0 = nI 4
      · by_cases e7 : pt z j 7 = nI 2
        · have e11 := ((hG.ent (i := j) h1 (by omega)).2.2 e7).2.1 (Or.inr e0)
          simp [e0, e7] at h ⊢
          simp (disch := omega) only [↓QI_i, ↓QV_v, ↓QA_a, ↓QF_f, ↓QD_d, ↓QL_l, ↓Bool.cond_eq_ite, ↓reduceIte, decide_eq_true_eq, Bool.not_eq_true', Bool.true_and, Bool.and_true, Bool.and_self, gR_some, Option.getD_some, mI_def, setI_def, mR_def, not_false_eq_true, not_true_eq_false, Bool.false_eq_true, idx_nI, nI_add, pk_mul, icB_lt, icB_gt, icB_le, icB_ge, icB_eq, icB_ne, bI_ne, nI_eqI, gm_O hW hB, gm_N hW hB, gm_P hW hB, gm_R hW hB, gm_0 hW hB, gm_1 hW hB, gm_2 hW hB, gm_3 hW hB, gm_4 hW hB, gm_A hW hB, gm_B hW hB, gm_C hW hB, gm_D hW hB, gm_L hW hB, gm_l1 hB, gm_l3 hB, gm_l4 hB, gm_l5 hB, up2_pc, up2_pc0, pc_at, pc_at0, e11]
          by_cases e9 : pt z j 9 = nI cell
          · simp [e9] at h ⊢; exact h
          · simp [e9] at h ⊢
            rw [show nI j + nM = nI j - nI 1 by rw [Int32.sub_eq_add_neg]; rfl]
            exact (ih (by omega)).mpr h
        · simp [e0, e7] at h ⊢
          rw [show nI j + nM = nI j - nI 1 by rw [Int32.sub_eq_add_neg]; rfl]
          exact (ih (by omega)).mpr h
      · simp [e0] at h ⊢
        rw [show nI j + nM = nI j - nI 1 by rw [Int32.sub_eq_add_neg]; rfl]
        exact (ih (by omega)).mpr h
    · have h1' : j < a := by omega
      rw [if_neg h1] at h
      simp (maxSteps := 1000000) (disch := omega) only [↓QI_i, ↓QV_v, ↓QA_a, ↓QF_f, ↓QD_d, ↓QL_l, ↓Bool.cond_eq_ite, ↓reduceIte, decide_eq_true_eq, Bool.not_eq_true', Bool.true_and, Bool.and_true, Bool.and_self, gR_some, Option.getD_some, mI_def, setI_def, mR_def, not_false_eq_true, not_true_eq_false, Bool.false_eq_true, idx_nI, nI_add, pk_mul, icB_lt, icB_gt, icB_le, icB_ge, icB_eq, icB_ne, bI_ne, nI_eqI, gm_O hW hB, gm_N hW hB, gm_P hW hB, gm_R hW hB, gm_0 hW hB, gm_1 hW hB, gm_2 hW hB, gm_3 hW hB, gm_4 hW hB, gm_A hW hB, gm_B hW hB, gm_C hW hB, gm_D hW hB, gm_L hW hB, gm_l1 hB, gm_l3 hB, gm_l4 hB, gm_l5 hB, up2_pc, up2_pc0, pc_at, pc_at0, h8, h1']
      exact h
theorem k_latStore {xs : Scr} {I : In2} {ρ : Rh} {Q : Post} {m : Nat} {c : In2} (hW : Rw ρ) (hB : Bs m) {z : Zt} {a b n cell i : Nat} (h8 : c 0 8 = nI a) (hb : a ≤ b ∧ b ≤ n ∧ n ≤ 24) (hG : Rel c z a b n) (hi : i ≤ b) : Ev xs 29 0 [.ref m, .int (nI cell), .int (nI i), .null, .null] [] (pc I m c, ρ) Q ↔ Q (.inl (some (.int (oI (lat (alP z (nI cell)) a i)) ))) (pc I m c, ρ) := by
  apply Ev.dt; intro Q h; apply w_X2_latestStore_0
  exact (k_latStore4 hW hB h8 hb hG hi).mpr h
theorem k_hind {xs : Scr} {I : In2} {ρ : Rh} {Q : Post} {m : Nat} {c : In2} (hW : Rw ρ) (hB : Bs m) {z : Zt} {a b n i : Nat} (hG : Big c z a b n) (ha : a ≤ i) (hi : i < b) : Ev xs 25 0 [.ref m, .int (nI i), .null] [] (pc I m c, ρ) Q ↔ Q (.inl (some (.int (rsn z a i) ))) (pc I m c, ρ) := by
  have hb := hG.1.bnd
  obtain ⟨hw, d, hd3, hd, -⟩ := hG.1.row (i := i) (by omega)
  obtain ⟨n1, n2⟩ := hG.2.2.nms ha hi
  have h0 : c (6 + i) 0 = pt z i 0 := hG.2.2.row (by omega) (by decide)
  have h5 : c (6 + i) 5 = nI d := (hG.2.2.row (by omega) (by decide)).trans hd
  have h7 := hG.2.2.stg (i := i) ⟨ha, hi⟩
  apply Ev.dt; intro Q h; apply w_X2_hindrance_0
  try simp (disch := omega) only [mR_def, Option.getD_some, mI_def, idx_nI, setI_def, nI_add, pk_mul, gm_0 hW hB, gm_1 hW hB, gm_2 hW hB, gm_3 hW hB, gm_4 hW hB, up2_pc, up2_pc0, pc_at, pc_at0, h7, h0, h5]
  simp (maxSteps := 1000000) (disch := omega) only [↓QI_i, ↓QV_v, ↓QA_a, ↓QF_f, ↓QD_d, ↓QL_l, ↓Bool.cond_eq_ite, ↓reduceIte, decide_eq_true_eq, Bool.not_eq_true', Bool.true_and, Bool.and_true, Bool.and_self, gR_some, Option.getD_some, mI_def, setI_def, mR_def, not_false_eq_true, not_true_eq_false, Bool.false_eq_true, idx_nI, nI_add, pk_mul, icB_lt, icB_gt, icB_le, icB_ge, icB_eq, icB_ne, bI_ne, nI_eqI, gm_O hW hB, gm_N hW hB, gm_P hW hB, gm_R hW hB, gm_0 hW hB, gm_1 hW hB, gm_2 hW hB, gm_3 hW hB, gm_4 hW hB, gm_A hW hB, gm_B hW hB, gm_C hW hB, gm_D hW hB, gm_L hW hB, gm_l1 hB, gm_l3 hB, gm_l4 hB, gm_l5 hB, up2_pc, up2_pc0, pc_at, pc_at0, ↓k_at hW hB, k_at hW hB, h7, ↓k_isReady hW hB hG (show i ≤ b by omega) n1, k_isReady hW hB hG (show i ≤ b by omega) n1, ↓k_isReady hW hB hG (show i ≤ b by omega) n2, k_isReady hW hB hG (show i ≤ b by omega) n2, h0, h5, ↓k_hasOpen hW hB hG.c8 hb hG.2.2 ha (show i ≤ b by omega), k_hasOpen hW hB hG.c8 hb hG.2.2 ha (show i ≤ b by omega)]
  have r1 : (hs1 z i && !rdy z a i (pt z i 2)) = !rdy z a i (pt z i 2) := by
    unfold hs1
    by_cases hk : pt z i 0 = nI 0
    · rw [(hw.k0 hk).1, rdy_nM hG.1 (by omega)]; simp
    · simp [hk]
  have r2 : (hs2 z i && !rdy z a i (pt z i 3)) = !rdy z a i (pt z i 3) := by
    unfold hs2
    by_cases hk : pt z i 0 = nI 0
    · rw [(hw.k0 hk).2.1, rdy_nM hG.1 (by omega)]; simp
    · by_cases hk3 : pt z i 0 = nI 3
      · rw [(hw.k3 hk3).2.1, rdy_nM hG.1 (by omega)]; simp
      · simp [hk, hk3]
  unfold rsn at h
  rw [hd, icB_le (by omega) (by decide), r1, r2] at h
  revert h
  by_cases e7 : pt z i 7 = nI 0
  · rw [if_pos e7]
    cases rdy z a i (pt z i 2) <;> cases rdy z a i (pt z i 3) <;> by_cases h4 : pt z i 0 = nI 3 <;> by_cases hd0 : d ≤ 0 <;> cases opn z a i <;> simp [e7, h4, hd0]
  · rw [if_neg e7]; simp [e7]

