/-! copies, and the plain order in the law -/
theorem gl_L {I : In2} {ρ : Rh} {f n : Nat} (hf : f < ρ.2.2.1) (hs : shp f = (6, n)) : (Nat.blt f (mN (I, ρ)) && (Nat.ble 5 (shp f).1 && Nat.ble (shp f).1 9)) = true := by
  rw [mN_def, Nat.blt_eq.mpr hf, hs]; rfl
theorem l_same2 {xs : Scr} {ρ : Rh} {t f n m : Nat} (hf : f < ρ.2.2.1) (ht : t < ρ.2.2.1) (hsf : shp f = (6, n)) (hst : shp t = (6, m)) (hnm : n ≤ m) (hm : m < 2147483648) (hne : ¬ t = f) : ∀ {e k : Nat} {I : In2} {Q : Post}, k + e = n →
    (∀ I', (∀ a j, I' a j = if a = t ∧ k ≤ j ∧ j < n then I f j else I a j) → Q (.inl none) (I', ρ)) → Ev xs 116 2 [.ref t, .ref f, .int (nI k)] [] (I, ρ) Q := by
  intro e
  induction e with
  | zero =>
    intro k I Q hk h
    obtain rfl : k = n := hk
    apply w_L_same_2
    rw [gl_L hf hsf, cond_true, hsf, icB_ge (by omega) (by omega), decide_eq_true (Nat.le_refl k), cond_true]
    exact h I fun a j => by rw [if_neg (by omega)]
  | succ e ih =>
    intro k I Q hk h
    have hkn : ¬ n ≤ k := by omega
    apply w_L_same_2
    rw [gl_L hf hsf, cond_true, hsf, icB_ge (by omega) (by omega), decide_eq_false hkn, cond_false, gA_ge hf hsf (by omega) (by omega), cond_true, gA_ge ht hst hm (by omega), cond_true]
    dsimp only
    rw [idx_nI (by omega), setI_def, mI_def, nI_add]
    refine ih (k := k + 1) (by omega) fun I' hI => h I' fun a j => ?_
    rw [hI]
    by_cases h1 : a = t ∧ k + 1 ≤ j ∧ j < n
    · rw [if_pos h1, if_pos (by omega), up2_ne (by omega)]
    · rw [if_neg h1]
      by_cases h2 : a = t ∧ j = k
      · obtain ⟨rfl, rfl⟩ := h2; rw [up2_at, if_pos (by omega)]
      · rw [up2_ne h2, if_neg (by omega)]
theorem l_same {xs : Scr} {ρ : Rh} {t f n m : Nat} {I : In2} {Q : Post} (hf : f < ρ.2.2.1) (ht : t < ρ.2.2.1) (hsf : shp f = (6, n)) (hst : shp t = (6, m)) (hnm : n ≤ m) (hm : m < 2147483648) (hne : ¬ t = f)
    (h : ∀ I', (∀ a j, I' a j = if a = t ∧ j < n then I f j else I a j) → Q (.inl none) (I', ρ)) : Ev xs 116 0 [.ref t, .ref f, .null] [] (I, ρ) Q := by
  apply w_L_same_0
  refine l_same2 hf ht hsf hst hnm hm hne (e := n) (k := 0) (Nat.zero_add n) fun I' hI => h I' fun a j => ?_
  rw [hI]
  by_cases h1 : a = t ∧ j < n
  · rw [if_pos h1, if_pos (by omega)]
  · rw [if_neg h1, if_neg (by omega)]
/-! the plain order -/
/-- the law's two arrays beside the plain order's values -/
def OV (I : In2) (R M : Nat) (w : Gh) : Prop := (∀ k, k < 8 → VV (I R k) (w.1 k)) ∧ (∀ k, k < 16 → VV (I M k) (w.2 k))
theorem VV.cl {v w : Int32} (h : VV v w) (o : Nat) : cellF w o < 16 := cellF_lt w o
theorem l_order5 {xs : Scr} {ρ : Rh} {B R M : Nat} {z : Zt} {a b n : Nat} (hL : LB B ρ) (h0 : Inv0 z a b n) (hp : Lp z n) (hn : n ≤ 7) (hR : R < ρ.2.2.1) (hM : M < ρ.2.2.1) (hsR : shp R = (6, 8)) (hsM : shp M = (6, 16)) (hRB : B + 6 ≤ R) (hMB : B + 6 ≤ M) (hRM : ¬ R = M) : ∀ {e i : Nat} {I : In2} {w : Gh} {v5 v6 : Value} {Q : Post}, i + e = n → I (B + 5) 1 = nI n → (∀ j f, j < n → f < 7 → I B (8 * j + f) = pt z j f) → OV I R M w →
    (∀ I', (∀ c j, ¬ (c = R ∨ c = M) → I' c j = I c j) → OV I' R M (plL z e i w) → Q (.inl none) (I', ρ)) → Ev xs 117 5 [.ref B, .ref R, .ref M, .ref (B + 5), .int (nI i), v5, v6] [] (I, ρ) Q := by
  intro e
  induction e with
  | zero =>
    intro i I w v5 v6 Q hi hc hr hw h
    obtain rfl : i = n := hi
    apply w_L_order_5
    rw [gl_5 hL (by decide), cond_true, mI_def, idx_nI (by decide), hc, icB_ge (by omega) (by omega), decide_eq_true (Nat.le_refl i), cond_true]
    exact h I (fun _ _ _ => rfl) hw
  | succ e ih =>
    intro i I w v5 v6 Q hi hc hr hw h
    have hii : ¬ n ≤ i := by omega
    have hrow := (h0.row (i := i) (by omega)).1
    have f0 : I B (8 * i) = pt z i 0 := hr i 0 (by omega) (by decide)
    have f1 : I B (8 * i + 1) = pt z i 1 := hr i 1 (by omega) (by decide)
    have f2 : I B (8 * i + 2) = pt z i 2 := hr i 2 (by omega) (by decide)
    have f3 : I B (8 * i + 3) = pt z i 3 := hr i 3 (by omega) (by decide)
    have f4 : I B (8 * i + 4) = pt z i 4 := hr i 4 (by omega) (by decide)
    have gR : ∀ {I : In2} {k : Nat}, k < 8 → gA (I, ρ) R 6 (nI k) = true := fun hk => gA_ge hR hsR (by decide) hk
    have gM : ∀ {I : In2} {k : Nat}, k < 16 → gA (I, ρ) M 6 (nI k) = true := fun hk => gA_ge hM hsM (by decide) hk
    -- behind the instruction
    have nx : ∀ (I' : In2) {v5 v6 : Value}, (∀ c j, ¬ (c = R ∨ c = M) → I' c j = I c j) → OV I' R M (plS z i w) → Ev xs 117 5 [.ref B, .ref R, .ref M, .ref (B + 5), .int (nI (i + 1)), v5, v6] [] (I', ρ) Q := fun I' v5 v6 hI hO =>
      ih (i := i + 1) (by omega) (by rw [hI _ _ (by omega)]; exact hc) (fun j f hj hf => by rw [hI _ _ (by omega)]; exact hr j f hj hf) hO fun I2 hI2 hO2 => h I2 (fun c j hcj => (hI2 c j hcj).trans (hI c j hcj)) hO2
    have setR : ∀ {t : Nat} {v u : Int32}, t < 8 → VV v u → pt z i 1 = nI t → ¬ pt z i 0 = nI 4 → plS z i w = (uz w.1 t u, w.2) → OV (up2 I R t v) R M (plS z i w) := by
      intro t v u ht hv _ _ he
      rw [he]
      refine ⟨fun k hk => ?_, fun k hk => by rw [up2_ne (by omega)]; exact hw.2 k hk⟩
      by_cases e : k = t
      · subst e; rw [up2_at]; show VV v (uz w.1 k u k); rw [uz_at]; exact hv
      · rw [up2_ne (by omega)]; show VV _ (uz w.1 t u k); rw [uz_ne e]; exact hw.1 k hk
    apply w_L_order_5
    by_cases k0 : pt z i 0 = nI 0
    · obtain ⟨v, hv1, hv2, hv4⟩ := hp i (by omega) k0
      obtain ⟨t, ht, hte⟩ := hrow.tgt (by rw [k0]; exact not_nI (by decide) (by decide) (by decide))
      have hd4 : pt z i 4 / nI 4 = v := by rw [hv4]; exact div4 hv1 hv2
      have k4 : ¬ pt z i 0 = nI 4 := by rw [k0]; exact not_nI (by decide) (by decide) (by decide)
      have he : plS z i w = (uz w.1 t (setF (pt z i 4)), w.2) := by unfold plS; rw [if_neg k4, if_pos k0, hte, idx_nI (by omega)]
      simp (maxSteps := 1000000) (disch := omega) only [↓QI_i, ↓QV_v, ↓QA_a, ↓QF_f, ↓QD_d, ↓QL_l, ↓Bool.cond_eq_ite, ↓reduceIte, decide_eq_true_eq, Bool.not_eq_true', Bool.true_and, Bool.and_true, Bool.and_self, gR_some, Option.getD_some, mI_def, setI_def, mR_def, not_false_eq_true, not_true_eq_false, Bool.false_eq_true, idx_nI, nI_add, pk_mul, icB_lt, icB_gt, icB_le, icB_ge, icB_eq, icB_ne, bI_ne, nI_eqI, gl_0 hL, gl_5 hL, hc, hii, f0, k0, Nat.le_refl]
      apply w_L_order_39
      simp (maxSteps := 1000000) (disch := omega) only [↓QI_i, ↓QV_v, ↓QA_a, ↓QF_f, ↓QD_d, ↓QL_l, ↓Bool.cond_eq_ite, ↓reduceIte, decide_eq_true_eq, Bool.not_eq_true', Bool.true_and, Bool.and_true, Bool.and_self, gR_some, Option.getD_some, mI_def, setI_def, mR_def, not_false_eq_true, not_true_eq_false, Bool.false_eq_true, idx_nI, nI_add, pk_mul, icB_lt, icB_gt, icB_le, icB_ge, icB_eq, icB_ne, bI_ne, nI_eqI, gl_0 hL, f0, k0, f1, hte, f4, hd4, gR, show ¬ 4 = 0 by decide]
      apply w_L_order_64
      simp (maxSteps := 1000000) (disch := omega) only [↓QI_i, ↓QV_v, ↓QA_a, ↓QF_f, ↓QD_d, ↓QL_l, ↓Bool.cond_eq_ite, ↓reduceIte, decide_eq_true_eq, Bool.not_eq_true', Bool.true_and, Bool.and_true, Bool.and_self, gR_some, Option.getD_some, mI_def, setI_def, mR_def, not_false_eq_true, not_true_eq_false, Bool.false_eq_true, idx_nI, nI_add, pk_mul, icB_lt, icB_gt, icB_le, icB_ge, icB_eq, icB_ne, bI_ne, nI_eqI, gl_0 hL, up2_ne, f0, k0, show ¬ 0 = 1 by decide]
      apply w_L_order_93
      simp (maxSteps := 1000000) (disch := omega) only [↓QI_i, ↓QV_v, ↓QA_a, ↓QF_f, ↓QD_d, ↓QL_l, ↓Bool.cond_eq_ite, ↓reduceIte, decide_eq_true_eq, Bool.not_eq_true', Bool.true_and, Bool.and_true, Bool.and_self, gR_some, Option.getD_some, mI_def, setI_def, mR_def, not_false_eq_true, not_true_eq_false, Bool.false_eq_true, idx_nI, nI_add, pk_mul, icB_lt, icB_gt, icB_le, icB_ge, icB_eq, icB_ne, bI_ne, nI_eqI, gl_0 hL, up2_ne, f0, k0, show ¬ 0 = 2 by decide]
      apply w_L_order_122
      simp (maxSteps := 1000000) (disch := omega) only [↓QI_i, ↓QV_v, ↓QA_a, ↓QF_f, ↓QD_d, ↓QL_l, ↓Bool.cond_eq_ite, ↓reduceIte, decide_eq_true_eq, Bool.not_eq_true', Bool.true_and, Bool.and_true, Bool.and_self, gR_some, Option.getD_some, mI_def, setI_def, mR_def, not_false_eq_true, not_true_eq_false, Bool.false_eq_true, idx_nI, nI_add, pk_mul, icB_lt, icB_gt, icB_le, icB_ge, icB_eq, icB_ne, bI_ne, nI_eqI, gl_0 hL, up2_ne, f0, k0, show ¬ 0 = 3 by decide]
      apply w_L_order_151
      simp (maxSteps := 1000000) (disch := omega) only [↓QI_i, ↓QV_v, ↓QA_a, ↓QF_f, ↓QD_d, ↓QL_l, ↓Bool.cond_eq_ite, ↓reduceIte, decide_eq_true_eq, Bool.not_eq_true', Bool.true_and, Bool.and_true, Bool.and_self, gR_some, Option.getD_some, mI_def, setI_def, mR_def, not_false_eq_true, not_true_eq_false, Bool.false_eq_true, idx_nI, nI_add, pk_mul, icB_lt, icB_gt, icB_le, icB_ge, icB_eq, icB_ne, bI_ne, nI_eqI, gl_0 hL, up2_ne, f0, k0, show ¬ 0 = 4 by decide]
      exact nx _ (fun c j hcj => up2_ne (by omega)) (setR ht (hv4 ▸ VV_set hv1 hv2) hte k4 he)
    by_cases k3 : pt z i 0 = nI 3
    · obtain ⟨⟨p, hp8, hpe⟩, -, o, ho, hoe⟩ := hrow.k3 k3
      have k4 : ¬ pt z i 0 = nI 4 := by rw [k3]; exact not_nI (by decide) (by decide) (by decide)
      obtain ⟨t, ht, hte⟩ := hrow.tgt k4
      have hv := hw.1 p hp8
      have hcl := cellF_lt (w.1 p) o
      have hpl := fun {Q : Post} {μ : Mem} => l_place (xs := xs) (Q := Q) (μ := μ) hv ho
      have he : plS z i w = (uz w.1 t (w.2 (cellF (w.1 p) o)), w.2) := by unfold plS; rw [if_neg k4, if_neg k0, if_pos k3, hte, hpe, hoe, idx_nI (by omega), idx_nI (by omega), idx_nI (by omega)]
      simp (maxSteps := 1000000) (disch := omega) only [↓QI_i, ↓QV_v, ↓QA_a, ↓QF_f, ↓QD_d, ↓QL_l, ↓Bool.cond_eq_ite, ↓reduceIte, decide_eq_true_eq, Bool.not_eq_true', Bool.true_and, Bool.and_true, Bool.and_self, gR_some, Option.getD_some, mI_def, setI_def, mR_def, not_false_eq_true, not_true_eq_false, Bool.false_eq_true, idx_nI, nI_add, pk_mul, icB_lt, icB_gt, icB_le, icB_ge, icB_eq, icB_ne, bI_ne, nI_eqI, gl_0 hL, gl_5 hL, hc, hii, f0, k3, show ¬ 3 ≤ 0 by decide, f2, hpe, gR]
      apply w_L_order_39
      simp (maxSteps := 1000000) (disch := omega) only [↓QI_i, ↓QV_v, ↓QA_a, ↓QF_f, ↓QD_d, ↓QL_l, ↓Bool.cond_eq_ite, ↓reduceIte, decide_eq_true_eq, Bool.not_eq_true', Bool.true_and, Bool.and_true, Bool.and_self, gR_some, Option.getD_some, mI_def, setI_def, mR_def, not_false_eq_true, not_true_eq_false, Bool.false_eq_true, idx_nI, nI_add, pk_mul, icB_lt, icB_gt, icB_le, icB_ge, icB_eq, icB_ne, bI_ne, nI_eqI, gl_0 hL, f0, k3, show ¬ 3 = 0 by decide]
      apply w_L_order_64
      simp (maxSteps := 1000000) (disch := omega) only [↓QI_i, ↓QV_v, ↓QA_a, ↓QF_f, ↓QD_d, ↓QL_l, ↓Bool.cond_eq_ite, ↓reduceIte, decide_eq_true_eq, Bool.not_eq_true', Bool.true_and, Bool.and_true, Bool.and_self, gR_some, Option.getD_some, mI_def, setI_def, mR_def, not_false_eq_true, not_true_eq_false, Bool.false_eq_true, idx_nI, nI_add, pk_mul, icB_lt, icB_gt, icB_le, icB_ge, icB_eq, icB_ne, bI_ne, nI_eqI, gl_0 hL, f0, k3, show ¬ 3 = 1 by decide]
      apply w_L_order_93
      simp (maxSteps := 1000000) (disch := omega) only [↓QI_i, ↓QV_v, ↓QA_a, ↓QF_f, ↓QD_d, ↓QL_l, ↓Bool.cond_eq_ite, ↓reduceIte, decide_eq_true_eq, Bool.not_eq_true', Bool.true_and, Bool.and_true, Bool.and_self, gR_some, Option.getD_some, mI_def, setI_def, mR_def, not_false_eq_true, not_true_eq_false, Bool.false_eq_true, idx_nI, nI_add, pk_mul, icB_lt, icB_gt, icB_le, icB_ge, icB_eq, icB_ne, bI_ne, nI_eqI, gl_0 hL, f0, k3, show ¬ 3 = 2 by decide]
      apply w_L_order_122
      simp (maxSteps := 1000000) (disch := omega) only [↓QI_i, ↓QV_v, ↓QA_a, ↓QF_f, ↓QD_d, ↓QL_l, ↓Bool.cond_eq_ite, ↓reduceIte, decide_eq_true_eq, Bool.not_eq_true', Bool.true_and, Bool.and_true, Bool.and_self, gR_some, Option.getD_some, mI_def, setI_def, mR_def, not_false_eq_true, not_true_eq_false, Bool.false_eq_true, idx_nI, nI_add, pk_mul, icB_lt, icB_gt, icB_le, icB_ge, icB_eq, icB_ne, bI_ne, nI_eqI, gl_0 hL, f0, k3, f1, hte, f4, hoe, hpl, gR, gM]
      apply w_L_order_151
      simp (maxSteps := 1000000) (disch := omega) only [↓QI_i, ↓QV_v, ↓QA_a, ↓QF_f, ↓QD_d, ↓QL_l, ↓Bool.cond_eq_ite, ↓reduceIte, decide_eq_true_eq, Bool.not_eq_true', Bool.true_and, Bool.and_true, Bool.and_self, gR_some, Option.getD_some, mI_def, setI_def, mR_def, not_false_eq_true, not_true_eq_false, Bool.false_eq_true, idx_nI, nI_add, pk_mul, icB_lt, icB_gt, icB_le, icB_ge, icB_eq, icB_ne, bI_ne, nI_eqI, gl_0 hL, up2_ne, f0, k3, show ¬ 3 = 4 by decide]
      exact nx _ (fun c j hcj => up2_ne (by omega)) (setR ht (hw.2 _ hcl) hte k4 he)
    by_cases k4 : pt z i 0 = nI 4
    · obtain ⟨⟨p, hp8, hpe⟩, ⟨q, hq8, hqe⟩, o, ho, hoe⟩ := hrow.k4 k4
      have hv := hw.1 p hp8
      have hcl := cellF_lt (w.1 p) o
      have hpl := fun {Q : Post} {μ : Mem} => l_place (xs := xs) (Q := Q) (μ := μ) hv ho
      have he : plS z i w = (w.1, uz w.2 (cellF (w.1 p) o) (w.1 q)) := by unfold plS; rw [if_pos k4, hpe, hoe, hqe, idx_nI (by omega), idx_nI (by omega), idx_nI (by omega)]
      simp (maxSteps := 1000000) (disch := omega) only [↓QI_i, ↓QV_v, ↓QA_a, ↓QF_f, ↓QD_d, ↓QL_l, ↓Bool.cond_eq_ite, ↓reduceIte, decide_eq_true_eq, Bool.not_eq_true', Bool.true_and, Bool.and_true, Bool.and_self, gR_some, Option.getD_some, mI_def, setI_def, mR_def, not_false_eq_true, not_true_eq_false, Bool.false_eq_true, idx_nI, nI_add, pk_mul, icB_lt, icB_gt, icB_le, icB_ge, icB_eq, icB_ne, bI_ne, nI_eqI, gl_0 hL, gl_5 hL, hc, hii, f0, k4, show ¬ 4 ≤ 0 by decide, f2, hpe, gR]
      apply w_L_order_39
      simp (maxSteps := 1000000) (disch := omega) only [↓QI_i, ↓QV_v, ↓QA_a, ↓QF_f, ↓QD_d, ↓QL_l, ↓Bool.cond_eq_ite, ↓reduceIte, decide_eq_true_eq, Bool.not_eq_true', Bool.true_and, Bool.and_true, Bool.and_self, gR_some, Option.getD_some, mI_def, setI_def, mR_def, not_false_eq_true, not_true_eq_false, Bool.false_eq_true, idx_nI, nI_add, pk_mul, icB_lt, icB_gt, icB_le, icB_ge, icB_eq, icB_ne, bI_ne, nI_eqI, gl_0 hL, f0, k4, show ¬ 4 = 0 by decide]
      apply w_L_order_64
      simp (maxSteps := 1000000) (disch := omega) only [↓QI_i, ↓QV_v, ↓QA_a, ↓QF_f, ↓QD_d, ↓QL_l, ↓Bool.cond_eq_ite, ↓reduceIte, decide_eq_true_eq, Bool.not_eq_true', Bool.true_and, Bool.and_true, Bool.and_self, gR_some, Option.getD_some, mI_def, setI_def, mR_def, not_false_eq_true, not_true_eq_false, Bool.false_eq_true, idx_nI, nI_add, pk_mul, icB_lt, icB_gt, icB_le, icB_ge, icB_eq, icB_ne, bI_ne, nI_eqI, gl_0 hL, f0, k4, show ¬ 4 = 1 by decide]
      apply w_L_order_93
      simp (maxSteps := 1000000) (disch := omega) only [↓QI_i, ↓QV_v, ↓QA_a, ↓QF_f, ↓QD_d, ↓QL_l, ↓Bool.cond_eq_ite, ↓reduceIte, decide_eq_true_eq, Bool.not_eq_true', Bool.true_and, Bool.and_true, Bool.and_self, gR_some, Option.getD_some, mI_def, setI_def, mR_def, not_false_eq_true, not_true_eq_false, Bool.false_eq_true, idx_nI, nI_add, pk_mul, icB_lt, icB_gt, icB_le, icB_ge, icB_eq, icB_ne, bI_ne, nI_eqI, gl_0 hL, f0, k4, show ¬ 4 = 2 by decide]
      apply w_L_order_122
      simp (maxSteps := 1000000) (disch := omega) only [↓QI_i, ↓QV_v, ↓QA_a, ↓QF_f, ↓QD_d, ↓QL_l, ↓Bool.cond_eq_ite, ↓reduceIte, decide_eq_true_eq, Bool.not_eq_true', Bool.true_and, Bool.and_true, Bool.and_self, gR_some, Option.getD_some, mI_def, setI_def, mR_def, not_false_eq_true, not_true_eq_false, Bool.false_eq_true, idx_nI, nI_add, pk_mul, icB_lt, icB_gt, icB_le, icB_ge, icB_eq, icB_ne, bI_ne, nI_eqI, gl_0 hL, f0, k4, show ¬ 4 = 3 by decide]
      apply w_L_order_151
      simp (maxSteps := 1000000) (disch := omega) only [↓QI_i, ↓QV_v, ↓QA_a, ↓QF_f, ↓QD_d, ↓QL_l, ↓Bool.cond_eq_ite, ↓reduceIte, decide_eq_true_eq, Bool.not_eq_true', Bool.true_and, Bool.and_true, Bool.and_self, gR_some, Option.getD_some, mI_def, setI_def, mR_def, not_false_eq_true, not_true_eq_false, Bool.false_eq_true, idx_nI, nI_add, pk_mul, icB_lt, icB_gt, icB_le, icB_ge, icB_eq, icB_ne, bI_ne, nI_eqI, gl_0 hL, f0, k4, f4, hoe, hpl, f3, hqe, gR, gM]
      refine nx _ (fun c j hcj => up2_ne (by omega)) ?_
      rw [he]
      refine ⟨fun k hk => by rw [up2_ne (by omega)]; exact hw.1 k hk, fun k hk => ?_⟩
      by_cases e : k = cellF (w.1 p) o
      · subst e; rw [up2_at]; show VV _ (uz w.2 _ _ _); rw [uz_at]; exact hw.1 q hq8
      · rw [up2_ne (by omega)]; show VV _ (uz w.2 _ _ k); rw [uz_ne e]; exact hw.2 k hk
    · obtain ⟨k12, ⟨p, hp8, hpe⟩, ⟨q, hq8, hqe⟩, -⟩ := hrow.k12 k0 k3 k4
      obtain ⟨t, ht, hte⟩ := hrow.tgt k4
      have hv := hw.1 p hp8
      have hv2 := hw.1 q hq8
      have he : plS z i w = (uz w.1 t (resF (pt z i 0) (w.1 p) (w.1 q)), w.2) := by unfold plS; rw [if_neg k4, if_neg k0, if_neg k3, hte, hpe, hqe, idx_nI (by omega), idx_nI (by omega), idx_nI (by omega)]
      rcases k12 with k1 | k2
      · have hadd := fun {Q : Post} {μ : Mem} => l_add (xs := xs) (Q := Q) (μ := μ) hv hv2
        simp (maxSteps := 1000000) (disch := omega) only [↓QI_i, ↓QV_v, ↓QA_a, ↓QF_f, ↓QD_d, ↓QL_l, ↓Bool.cond_eq_ite, ↓reduceIte, decide_eq_true_eq, Bool.not_eq_true', Bool.true_and, Bool.and_true, Bool.and_self, gR_some, Option.getD_some, mI_def, setI_def, mR_def, not_false_eq_true, not_true_eq_false, Bool.false_eq_true, idx_nI, nI_add, pk_mul, icB_lt, icB_gt, icB_le, icB_ge, icB_eq, icB_ne, bI_ne, nI_eqI, gl_0 hL, gl_5 hL, hc, hii, f0, k1, show ¬ 1 ≤ 0 by decide, f2, hpe, gR]
        apply w_L_order_39
        simp (maxSteps := 1000000) (disch := omega) only [↓QI_i, ↓QV_v, ↓QA_a, ↓QF_f, ↓QD_d, ↓QL_l, ↓Bool.cond_eq_ite, ↓reduceIte, decide_eq_true_eq, Bool.not_eq_true', Bool.true_and, Bool.and_true, Bool.and_self, gR_some, Option.getD_some, mI_def, setI_def, mR_def, not_false_eq_true, not_true_eq_false, Bool.false_eq_true, idx_nI, nI_add, pk_mul, icB_lt, icB_gt, icB_le, icB_ge, icB_eq, icB_ne, bI_ne, nI_eqI, gl_0 hL, f0, k1, show ¬ 1 = 0 by decide]
        apply w_L_order_64
        simp (maxSteps := 1000000) (disch := omega) only [↓QI_i, ↓QV_v, ↓QA_a, ↓QF_f, ↓QD_d, ↓QL_l, ↓Bool.cond_eq_ite, ↓reduceIte, decide_eq_true_eq, Bool.not_eq_true', Bool.true_and, Bool.and_true, Bool.and_self, gR_some, Option.getD_some, mI_def, setI_def, mR_def, not_false_eq_true, not_true_eq_false, Bool.false_eq_true, idx_nI, nI_add, pk_mul, icB_lt, icB_gt, icB_le, icB_ge, icB_eq, icB_ne, bI_ne, nI_eqI, gl_0 hL, f0, k1, f1, hte, f3, hqe, hadd, gR]
        apply w_L_order_93
        simp (maxSteps := 1000000) (disch := omega) only [↓QI_i, ↓QV_v, ↓QA_a, ↓QF_f, ↓QD_d, ↓QL_l, ↓Bool.cond_eq_ite, ↓reduceIte, decide_eq_true_eq, Bool.not_eq_true', Bool.true_and, Bool.and_true, Bool.and_self, gR_some, Option.getD_some, mI_def, setI_def, mR_def, not_false_eq_true, not_true_eq_false, Bool.false_eq_true, idx_nI, nI_add, pk_mul, icB_lt, icB_gt, icB_le, icB_ge, icB_eq, icB_ne, bI_ne, nI_eqI, gl_0 hL, up2_ne, f0, k1, show ¬ 1 = 2 by decide]
        apply w_L_order_122
        simp (maxSteps := 1000000) (disch := omega) only [↓QI_i, ↓QV_v, ↓QA_a, ↓QF_f, ↓QD_d, ↓QL_l, ↓Bool.cond_eq_ite, ↓reduceIte, decide_eq_true_eq, Bool.not_eq_true', Bool.true_and, Bool.and_true, Bool.and_self, gR_some, Option.getD_some, mI_def, setI_def, mR_def, not_false_eq_true, not_true_eq_false, Bool.false_eq_true, idx_nI, nI_add, pk_mul, icB_lt, icB_gt, icB_le, icB_ge, icB_eq, icB_ne, bI_ne, nI_eqI, gl_0 hL, up2_ne, f0, k1, show ¬ 1 = 3 by decide]
        apply w_L_order_151
        simp (maxSteps := 1000000) (disch := omega) only [↓QI_i, ↓QV_v, ↓QA_a, ↓QF_f, ↓QD_d, ↓QL_l, ↓Bool.cond_eq_ite, ↓reduceIte, decide_eq_true_eq, Bool.not_eq_true', Bool.true_and, Bool.and_true, Bool.and_self, gR_some, Option.getD_some, mI_def, setI_def, mR_def, not_false_eq_true, not_true_eq_false, Bool.false_eq_true, idx_nI, nI_add, pk_mul, icB_lt, icB_gt, icB_le, icB_ge, icB_eq, icB_ne, bI_ne, nI_eqI, gl_0 hL, up2_ne, f0, k1, show ¬ 1 = 4 by decide]
        exact nx _ (fun c j hcj => up2_ne (by omega)) (setR ht (VV_add hv hv2) hte k4 (by rw [he, k1]))
      · have hmul := fun {Q : Post} {μ : Mem} => l_mul (xs := xs) (Q := Q) (μ := μ) hv hv2
        simp (maxSteps := 1000000) (disch := omega) only [↓QI_i, ↓QV_v, ↓QA_a, ↓QF_f, ↓QD_d, ↓QL_l, ↓Bool.cond_eq_ite, ↓reduceIte, decide_eq_true_eq, Bool.not_eq_true', Bool.true_and, Bool.and_true, Bool.and_self, gR_some, Option.getD_some, mI_def, setI_def, mR_def, not_false_eq_true, not_true_eq_false, Bool.false_eq_true, idx_nI, nI_add, pk_mul, icB_lt, icB_gt, icB_le, icB_ge, icB_eq, icB_ne, bI_ne, nI_eqI, gl_0 hL, gl_5 hL, hc, hii, f0, k2, show ¬ 2 ≤ 0 by decide, f2, hpe, gR]
        apply w_L_order_39
        simp (maxSteps := 1000000) (disch := omega) only [↓QI_i, ↓QV_v, ↓QA_a, ↓QF_f, ↓QD_d, ↓QL_l, ↓Bool.cond_eq_ite, ↓reduceIte, decide_eq_true_eq, Bool.not_eq_true', Bool.true_and, Bool.and_true, Bool.and_self, gR_some, Option.getD_some, mI_def, setI_def, mR_def, not_false_eq_true, not_true_eq_false, Bool.false_eq_true, idx_nI, nI_add, pk_mul, icB_lt, icB_gt, icB_le, icB_ge, icB_eq, icB_ne, bI_ne, nI_eqI, gl_0 hL, f0, k2, show ¬ 2 = 0 by decide]
        apply w_L_order_64
        simp (maxSteps := 1000000) (disch := omega) only [↓QI_i, ↓QV_v, ↓QA_a, ↓QF_f, ↓QD_d, ↓QL_l, ↓Bool.cond_eq_ite, ↓reduceIte, decide_eq_true_eq, Bool.not_eq_true', Bool.true_and, Bool.and_true, Bool.and_self, gR_some, Option.getD_some, mI_def, setI_def, mR_def, not_false_eq_true, not_true_eq_false, Bool.false_eq_true, idx_nI, nI_add, pk_mul, icB_lt, icB_gt, icB_le, icB_ge, icB_eq, icB_ne, bI_ne, nI_eqI, gl_0 hL, f0, k2, show ¬ 2 = 1 by decide]
        apply w_L_order_93
        simp (maxSteps := 1000000) (disch := omega) only [↓QI_i, ↓QV_v, ↓QA_a, ↓QF_f, ↓QD_d, ↓QL_l, ↓Bool.cond_eq_ite, ↓reduceIte, decide_eq_true_eq, Bool.not_eq_true', Bool.true_and, Bool.and_true, Bool.and_self, gR_some, Option.getD_some, mI_def, setI_def, mR_def, not_false_eq_true, not_true_eq_false, Bool.false_eq_true, idx_nI, nI_add, pk_mul, icB_lt, icB_gt, icB_le, icB_ge, icB_eq, icB_ne, bI_ne, nI_eqI, gl_0 hL, f0, k2, f1, hte, f3, hqe, hmul, gR]
        apply w_L_order_122
        simp (maxSteps := 1000000) (disch := omega) only [↓QI_i, ↓QV_v, ↓QA_a, ↓QF_f, ↓QD_d, ↓QL_l, ↓Bool.cond_eq_ite, ↓reduceIte, decide_eq_true_eq, Bool.not_eq_true', Bool.true_and, Bool.and_true, Bool.and_self, gR_some, Option.getD_some, mI_def, setI_def, mR_def, not_false_eq_true, not_true_eq_false, Bool.false_eq_true, idx_nI, nI_add, pk_mul, icB_lt, icB_gt, icB_le, icB_ge, icB_eq, icB_ne, bI_ne, nI_eqI, gl_0 hL, up2_ne, f0, k2, show ¬ 2 = 3 by decide]
        apply w_L_order_151
        simp (maxSteps := 1000000) (disch := omega) only [↓QI_i, ↓QV_v, ↓QA_a, ↓QF_f, ↓QD_d, ↓QL_l, ↓Bool.cond_eq_ite, ↓reduceIte, decide_eq_true_eq, Bool.not_eq_true', Bool.true_and, Bool.and_true, Bool.and_self, gR_some, Option.getD_some, mI_def, setI_def, mR_def, not_false_eq_true, not_true_eq_false, Bool.false_eq_true, idx_nI, nI_add, pk_mul, icB_lt, icB_gt, icB_le, icB_ge, icB_eq, icB_ne, bI_ne, nI_eqI, gl_0 hL, up2_ne, f0, k2, show ¬ 2 = 4 by decide]
        exact nx _ (fun c j hcj => up2_ne (by omega)) (setR ht (VV_mul hv hv2) hte k4 (by rw [he, k2]))
theorem l_order {xs : Scr} {ρ : Rh} {B R M : Nat} {z : Zt} {a b n : Nat} {I : In2} {w : Gh} {Q : Post} (hL : LB B ρ) (h0 : Inv0 z a b n) (hp : Lp z n) (hn : n ≤ 7) (hR : R < ρ.2.2.1) (hM : M < ρ.2.2.1) (hsR : shp R = (6, 8)) (hsM : shp M = (6, 16)) (hRB : B + 6 ≤ R) (hMB : B + 6 ≤ M) (hRM : ¬ R = M) (hc1 : I (B + 5) 1 = nI n) (hc3 : I (B + 5) 3 = nI a) (hr : ∀ j f, j < n → f < 7 → I B (8 * j + f) = pt z j f) (hw : OV I R M w)
    (h : ∀ I', (∀ c j, ¬ (c = R ∨ c = M) → I' c j = I c j) → OV I' R M (plL z (n - a) a w) → Q (.inl none) (I', ρ)) : Ev xs 117 0 [.ref B, .ref R, .ref M, .ref (B + 5), .null, .null, .null] [] (I, ρ) Q := by
  have hb := h0.bnd
  apply w_L_order_0
  rw [gl_5 hL (by decide), cond_true, mI_def, idx_nI (by decide), hc3]
  exact l_order5 hL h0 hp hn hR hM hsR hsM hRB hMB hRM (e := n - a) (i := a) (by omega) hc1 hr hw h
