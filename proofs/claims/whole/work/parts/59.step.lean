/-! a step of the reference is a step of the class -/
theorem goU_t {v : Nat} {I : In2} : goU true v I = up2 I 245 13 (nI v) := rfl
theorem goU_f {v : Nat} {I : In2} : goU false v I = I := rfl
theorem sg_1 (x : Nat) (hx : x < 128) : nI 1 * txd x = txd x ∧ nM * txd x = - txd x := by
  have : ∀ x : Fin 128, nI 1 * txd x.1 = txd x.1 ∧ nM * txd x.1 = - txd x.1 := by decide
  exact this ⟨x, hx⟩
theorem sg_0 (x : Nat) (hx : txD x = true) (h : ¬ x = 48) : ¬ txd x = nI 0 ∧ ¬ - txd x = nI 0 := by
  have : ∀ x : Fin 128, txD x.1 = true → ¬ x.1 = 48 → ¬ txd x.1 = nI 0 ∧ ¬ - txd x.1 = nI 0 := by decide
  have h2 := txD_t hx
  exact this ⟨x, by omega⟩ hx h
theorem sg_2 (a b : Nat) (hb : b < 128) : nI 10 * (- txd a) + nM * txd b = - (nI 10 * txd a + txd b) := by
  rw [(sg_1 b hb).2]
  generalize txd a = p
  generalize txd b = q
  grind
theorem sg_48 : nI 1 * txd 48 = nI 0 ∧ nM * txd 48 = nI 0 := by decide
theorem e_takes {xs : Scr} {I : In2} {ρ : Rh} {Q : Post} {tl : Nat × Zt} {s k v r : Nat} {g K T P O N : Int32} (hW : Rw ρ) (hc : Chs tl) (hk : k < tl.1) (hr : r < 32) (hM : TxM I r v g K T P O N) (hV : TxV tl (txS tl k) s k v g K T P O N)
    (h0 : txS tl (k + 1) = 0 → ∀ I', TxQ I I' r → Q (.inl (some (.int (nI 0)))) (I', ρ))
    (h1 : ¬ txS tl (k + 1) = 0 → ¬ txC tl k = 59 → ∀ I' v' g' K' T' P' O' N', TxQ I I' r → TxM I' r v' g' K' T' P' O' N' → TxV tl (txS tl (k + 1)) s (k + 1) v' g' K' T' P' O' N' → Q (.inl (some (.int (nI 1)))) (I', ρ))
    (h2 : txC tl k = 59 → txS tl (k + 1) = 1 → s + 3 ≤ k → TxR tl s K T P O N → Q (.inl (some (.int (nI 1)))) (up2 (up2 I 245 11 (nI (r + 1))) 245 13 (nI 0), ρ)) :
    Ev xs 154 0 [.ref 245, .int (nI (txC tl k))] [] (I, ρ) Q := by
  have hS : txS tl (k + 1) = txN (txS tl k) (txC tl k) := rfl
  have hx := txC_lt hc k
  have hs := txS_lt (tl := tl) (k := k)
  obtain ⟨h11, h13, h12, hK, hT, hP, hO, hN⟩ := hM
  rw [hS] at h0 h1 h2
  apply w_X5_takes_0
  generalize txS tl k = st at *
  obtain rfl | rfl | rfl | rfl | rfl | rfl | rfl | rfl | rfl | rfl | rfl | rfl | rfl | rfl | rfl | rfl : st = 0 ∨ st = 1 ∨ st = 2 ∨ st = 3 ∨ st = 4 ∨ st = 5 ∨ st = 6 ∨ st = 7 ∨ st = 8 ∨ st = 9 ∨ st = 10 ∨ st = 11 ∨ st = 12 ∨ st = 13 ∨ st = 14 ∨ st = 15 := by omega
  · exact hV.elim
  · rw [tN1] at h0 h1 h2
    obtain ⟨rfl, rfl⟩ := hV
    simp (maxSteps := 1000000) (disch := omega) only [↓QI_i, ↓QV_v, ↓QA_a, ↓QF_f, ↓QD_d, ↓QL_l, ↓Bool.cond_eq_ite, ↓reduceIte, decide_eq_true_eq, Bool.not_eq_true', Bool.true_and, Bool.and_true, Bool.and_self, gR_some, Option.getD_some, mI_def, setI_def, mR_def, not_false_eq_true, not_true_eq_false, Bool.false_eq_true, idx_nI, nI_add, pk_mul, icB_lt, icB_gt, icB_le, icB_ge, icB_eq, icB_ne, bI_ne, nI_eqI, gz_O hW, gz_R0 hW, gz_A hW, up2_pz, pz_at, Nat.reduceEqDiff, Nat.reduceAdd, h13, gZ_0, gZ_1, gZ_b]
    refine e_begins hW hr hx h11 ?_
    rw [QI_i, gZ_b, if_pos rfl]
    by_cases e : txC tl k = 91
    · rw [if_pos e] at h1
      rw [decide_eq_true e, Bool.true_or, if_pos e, goU_t, bI_t, show bgU I r (txC tl k) = up2 (up2 (up2 (up2 (up2 (up2 I 250 r (nI 4)) 251 r (txr (txC tl k))) 252 r nM) 253 r nM) 254 r (nI 0)) 245 12 (nI 1) by unfold bgU; rw [if_pos e]]
      exact h1 (by decide) (by omega) _ 20 (nI 1) (nI 4) (txr (txC tl k)) nM nM (nI 0) (fun a k q1 q2 => by simp (disch := omega) only [up2_ne]) (by refine ⟨?_, ?_, ?_, ?_, ?_, ?_, ?_, ?_⟩ <;> simp (disch := omega) only [up2_ne, up2_at, h11, h13, h12, hK, hT, hP, hO, hN]) ⟨rfl, rfl, e, rfl⟩
    · rw [if_neg e] at h0 h1
      rw [decide_eq_false e, Bool.false_or, if_neg e, show bgU I r (txC tl k) = up2 (up2 (up2 (up2 (up2 (up2 I 250 r (nI 0)) 251 r (txr (txC tl k))) 252 r nM) 253 r nM) 254 r (nI 0)) 245 12 (nI 1) by unfold bgU; rw [if_neg e]]
      cases e2 : txR (txC tl k)
      · rw [goU_f, bI_f]; exact h0 (by rw [e2, if_neg (by decide)]) _ (fun a k q1 q2 => by simp (disch := omega) only [up2_ne])
      · rw [if_pos e2] at h1; have := txR_t e2
        rw [goU_t, bI_t]; exact h1 (by decide) (by omega) _ 1 (nI 1) (nI 0) (txr (txC tl k)) nM nM (nI 0) (fun a k q1 q2 => by simp (disch := omega) only [up2_ne]) (by refine ⟨?_, ?_, ?_, ?_, ?_, ?_, ?_, ?_⟩ <;> simp (disch := omega) only [up2_ne, up2_at, h11, h13, h12, hK, hT, hP, hO, hN]) ⟨rfl, rfl, e2, rfl, rfl, rfl, rfl, rfl, rfl⟩
  · rw [tN2] at h0 h1 h2
    obtain ⟨rfl, rfl, hR, rfl, rfl, rfl, rfl, rfl, rfl⟩ := hV
    by_cases e : txC tl (s + 1) = 61
    · rw [if_pos e] at h1
      simp (maxSteps := 1000000) (disch := omega) only [↓QI_i, ↓QV_v, ↓QA_a, ↓QF_f, ↓QD_d, ↓QL_l, ↓Bool.cond_eq_ite, ↓reduceIte, decide_eq_true_eq, Bool.not_eq_true', Bool.true_and, Bool.and_true, Bool.and_self, gR_some, Option.getD_some, mI_def, setI_def, mR_def, not_false_eq_true, not_true_eq_false, Bool.false_eq_true, idx_nI, nI_add, pk_mul, icB_lt, icB_gt, icB_le, icB_ge, icB_eq, icB_ne, bI_ne, nI_eqI, gz_O hW, gz_R0 hW, gz_A hW, up2_pz, pz_at, Nat.reduceEqDiff, Nat.reduceAdd, h13, gZ_0, gZ_1, gZ_b, e, ↓e_goes1 hW, e_goes1 hW]
      exact h1 (by decide) (by omega) _ 2 (nI 1) (nI 0) (txr (txC tl s)) nM nM (nI 0) (fun a k q1 q2 => by simp (disch := omega) only [up2_ne]) (by refine ⟨?_, ?_, ?_, ?_, ?_, ?_, ?_, ?_⟩ <;> simp (disch := omega) only [up2_ne, up2_at, h11, h13, h12, hK, hT, hP, hO, hN]) ⟨rfl, rfl, hR, rfl, rfl, rfl, rfl, rfl, rfl⟩
    · rw [if_neg e] at h0
      simp (maxSteps := 1000000) (disch := omega) only [↓QI_i, ↓QV_v, ↓QA_a, ↓QF_f, ↓QD_d, ↓QL_l, ↓Bool.cond_eq_ite, ↓reduceIte, decide_eq_true_eq, Bool.not_eq_true', Bool.true_and, Bool.and_true, Bool.and_self, gR_some, Option.getD_some, mI_def, setI_def, mR_def, not_false_eq_true, not_true_eq_false, Bool.false_eq_true, idx_nI, nI_add, pk_mul, icB_lt, icB_gt, icB_le, icB_ge, icB_eq, icB_ne, bI_ne, nI_eqI, gz_O hW, gz_R0 hW, gz_A hW, up2_pz, pz_at, Nat.reduceEqDiff, Nat.reduceAdd, h13, gZ_0, gZ_1, gZ_b, e, ↓e_goes0 hW, e_goes0 hW]
      exact h0 rfl _ (fun a k q1 q2 => by simp (disch := omega) only [up2_ne])
  · rw [tN3] at h0 h1 h2
    obtain ⟨rfl, rfl, hR, rfl, rfl, rfl, rfl, rfl, rfl⟩ := hV
    simp (maxSteps := 1000000) (disch := omega) only [↓QI_i, ↓QV_v, ↓QA_a, ↓QF_f, ↓QD_d, ↓QL_l, ↓Bool.cond_eq_ite, ↓reduceIte, decide_eq_true_eq, Bool.not_eq_true', Bool.true_and, Bool.and_true, Bool.and_self, gR_some, Option.getD_some, mI_def, setI_def, mR_def, not_false_eq_true, not_true_eq_false, Bool.false_eq_true, idx_nI, nI_add, pk_mul, icB_lt, icB_gt, icB_le, icB_ge, icB_eq, icB_ne, bI_ne, nI_eqI, gz_O hW, gz_R0 hW, gz_A hW, up2_pz, pz_at, Nat.reduceEqDiff, Nat.reduceAdd, h13, gZ_0, gZ_1, gZ_b]
    refine e_takesRight hW hr hx h11 (fun e => ?_) (fun e => ?_) (fun e => ?_) fun e e2 e3 => ?_
    · rw [if_pos e] at h1; rw [QI_i, gZ_1, if_pos rfl]
      exact h1 (by decide) (by omega) _ 3 nM (nI 0) (txr (txC tl s)) nM nM (nI 0) (fun a k q1 q2 => by simp (disch := omega) only [up2_ne]) (by refine ⟨?_, ?_, ?_, ?_, ?_, ?_, ?_, ?_⟩ <;> simp (disch := omega) only [up2_ne, up2_at, h11, h13, h12, hK, hT, hP, hO, hN]) ⟨rfl, rfl, hR, e, rfl, rfl, rfl, rfl, rfl⟩
    · rw [if_neg (by omega), if_pos e] at h1; rw [QI_i, gZ_1, if_pos rfl]
      exact h1 (by decide) (by omega) _ 10 (nI 1) (nI 3) (txr (txC tl s)) nM nM (nI 0) (fun a k q1 q2 => by simp (disch := omega) only [up2_ne]) (by refine ⟨?_, ?_, ?_, ?_, ?_, ?_, ?_, ?_⟩ <;> simp (disch := omega) only [up2_ne, up2_at, h11, h13, h12, hK, hT, hP, hO, hN]) ⟨rfl, rfl, hR, e, rfl, rfl, rfl⟩
    · have := txR_t e; rw [if_neg (by omega), if_neg (by omega), if_pos e] at h1; rw [QI_i, gZ_1, if_pos rfl]
      exact h1 (by decide) (by omega) _ 6 (nI 1) (nI 0) (txr (txC tl s)) (txr (txC tl (s + 2))) nM (nI 0) (fun a k q1 q2 => by simp (disch := omega) only [up2_ne]) (by refine ⟨?_, ?_, ?_, ?_, ?_, ?_, ?_, ?_⟩ <;> simp (disch := omega) only [up2_ne, up2_at, h11, h13, h12, hK, hT, hP, hO, hN]) ⟨rfl, rfl, hR, e, rfl, rfl, rfl⟩
    · rw [if_neg e, if_neg e2, if_neg (by rw [e3]; decide)] at h0 h1; rw [QI_i, gZ_b, if_pos rfl, h12, (sg_1 _ hx).1]
      by_cases e4 : txC tl (s + 2) = 48
      · have eD : txD (txC tl (s + 2)) = true := by rw [e4]; rfl
        rw [if_pos e4] at h1; rw [eD, goU_t, bI_t]
        exact h1 (by decide) (by omega) _ 4 (nI 1) (nI 0) (txr (txC tl s)) nM nM (txd (txC tl (s + 2))) (fun a k q1 q2 => by simp (disch := omega) only [up2_ne]) (by refine ⟨?_, ?_, ?_, ?_, ?_, ?_, ?_, ?_⟩ <;> simp (disch := omega) only [up2_ne, up2_at, h11, h13, h12, hK, hT, hP, hO, hN]) ⟨Nat.le_refl _, Or.inl ⟨rfl, by rw [e4]; decide⟩, fun hn => TxR_set hR (Or.inr eD) rfl rfl rfl rfl (by rw [txV_p eD, txM_1 hn]) (ok_1 eD).1⟩
      · rw [if_neg e4] at h0 h1
        cases e5 : txD (txC tl (s + 2))
        · rw [goU_f, bI_f]; exact h0 (by rw [e5, if_neg (by decide)]) _ (fun a k q1 q2 => by simp (disch := omega) only [up2_ne])
        · rw [if_pos e5] at h1; have := txD_t e5; rw [goU_t, bI_t]
          exact h1 (by decide) (by omega) _ 4 (nI 1) (nI 0) (txr (txC tl s)) nM nM (txd (txC tl (s + 2))) (fun a k q1 q2 => by simp (disch := omega) only [up2_ne]) (by refine ⟨?_, ?_, ?_, ?_, ?_, ?_, ?_, ?_⟩ <;> simp (disch := omega) only [up2_ne, up2_at, h11, h13, h12, hK, hT, hP, hO, hN]) ⟨rfl, hR, rfl, rfl, rfl, rfl, Or.inl ⟨rfl, e5, e4, rfl, rfl⟩⟩
  · rw [tN4] at h0 h1 h2
    obtain ⟨rfl, rfl, hR, h45, rfl, rfl, rfl, rfl, rfl⟩ := hV
    simp (maxSteps := 1000000) (disch := omega) only [↓QI_i, ↓QV_v, ↓QA_a, ↓QF_f, ↓QD_d, ↓QL_l, ↓Bool.cond_eq_ite, ↓reduceIte, decide_eq_true_eq, Bool.not_eq_true', Bool.true_and, Bool.and_true, Bool.and_self, gR_some, Option.getD_some, mI_def, setI_def, mR_def, not_false_eq_true, not_true_eq_false, Bool.false_eq_true, idx_nI, nI_add, pk_mul, icB_lt, icB_gt, icB_le, icB_ge, icB_eq, icB_ne, bI_ne, nI_eqI, gz_O hW, gz_R0 hW, gz_A hW, up2_pz, pz_at, Nat.reduceEqDiff, Nat.reduceAdd, h13, gZ_0, gZ_1, gZ_b, ↓e_takesFigure hW hr hx h11, e_takesFigure hW hr hx h11]
    rw [h12, (sg_1 _ hx).2]
    by_cases e4 : txC tl (s + 3) = 48
    · have eD : txD (txC tl (s + 3)) = true := by rw [e4]; rfl
      rw [if_pos e4] at h1; rw [eD, goU_t, bI_t]
      exact h1 (by decide) (by omega) _ 4 nM (nI 0) (txr (txC tl s)) nM nM (- txd (txC tl (s + 3))) (fun a k q1 q2 => by simp (disch := omega) only [up2_ne]) (by refine ⟨?_, ?_, ?_, ?_, ?_, ?_, ?_, ?_⟩ <;> simp (disch := omega) only [up2_ne, up2_at, h11, h13, h12, hK, hT, hP, hO, hN]) ⟨by omega, Or.inl ⟨rfl, by rw [e4]; decide⟩, fun hn => TxR_set hR (Or.inl h45) rfl rfl rfl rfl (by rw [txV_m h45, txM_1 hn]) (ok_1 eD).2⟩
    · rw [if_neg e4] at h0 h1
      cases e5 : txD (txC tl (s + 3))
      · rw [goU_f, bI_f]; exact h0 (by rw [e5, if_neg (by decide)]) _ (fun a k q1 q2 => by simp (disch := omega) only [up2_ne])
      · rw [if_pos e5] at h1; have := txD_t e5; rw [goU_t, bI_t]
        exact h1 (by decide) (by omega) _ 4 nM (nI 0) (txr (txC tl s)) nM nM (- txd (txC tl (s + 3))) (fun a k q1 q2 => by simp (disch := omega) only [up2_ne]) (by refine ⟨?_, ?_, ?_, ?_, ?_, ?_, ?_, ?_⟩ <;> simp (disch := omega) only [up2_ne, up2_at, h11, h13, h12, hK, hT, hP, hO, hN]) ⟨rfl, hR, rfl, rfl, rfl, rfl, Or.inr ⟨rfl, h45, e5, e4, rfl, rfl⟩⟩
  · rw [tN5] at h0 h1 h2
    obtain ⟨rfl, hR, rfl, rfl, rfl, rfl, ⟨rfl, eD, e48, rfl, rfl⟩ | ⟨rfl, h45, eD, e48, rfl, rfl⟩⟩ := hV
    · have n0 := (sg_0 _ eD e48).1
      simp (maxSteps := 1000000) (disch := omega) only [↓QI_i, ↓QV_v, ↓QA_a, ↓QF_f, ↓QD_d, ↓QL_l, ↓Bool.cond_eq_ite, ↓reduceIte, decide_eq_true_eq, Bool.not_eq_true', Bool.true_and, Bool.and_true, Bool.and_self, gR_some, Option.getD_some, mI_def, setI_def, mR_def, not_false_eq_true, not_true_eq_false, Bool.false_eq_true, idx_nI, nI_add, pk_mul, icB_lt, icB_gt, icB_le, icB_ge, icB_eq, icB_ne, bI_ne, nI_eqI, gz_O hW, gz_R0 hW, gz_A hW, up2_pz, pz_at, Nat.reduceEqDiff, Nat.reduceAdd, h13, gZ_0, gZ_1, gZ_b]
      refine e_takesSecond hW hr hx h11 (fun e e0 => ?_) fun e => ?_
      · have := txD_t e; rw [if_pos e] at h1; rw [QI_i, gZ_1, if_pos rfl, hN, h12]
        exact h1 (by decide) (by omega) _ 5 (nI 1) (nI 0) (txr (txC tl s)) nM nM (nI 10 * txd (txC tl (s + 2)) + nI 1 * txd (txC tl (s + 3))) (fun a k q1 q2 => by simp (disch := omega) only [up2_ne]) (by refine ⟨?_, ?_, ?_, ?_, ?_, ?_, ?_, ?_⟩ <;> simp (disch := omega) only [up2_ne, up2_at, h11, h13, h12, hK, hT, hP, hO, hN]) ⟨by omega, Or.inr (Or.inl rfl), fun _ => TxR_set hR (Or.inr eD) rfl rfl rfl rfl (by rw [txV_p eD, txM_2 e, (sg_1 _ hx).1]) (by rw [(sg_1 _ hx).1]; exact (ok_2 eD e).1)⟩
      · rw [hN] at e
        have hn : txD (txC tl (s + 3)) = false := e.resolve_right n0
        rw [if_neg (by rw [hn]; decide)] at h0 h2
        by_cases e59 : txC tl (s + 3) = 59
        · rw [if_pos e59]; rw [if_pos e59] at h2; rw [QI_i, gZ_1, if_pos rfl]; exact h2 e59 rfl (by omega) (TxR_set hR (Or.inr eD) rfl rfl rfl rfl (by rw [txV_p eD, txM_1 hn]) (ok_1 eD).1)
        · rw [if_neg e59]; rw [if_neg e59] at h0; rw [QI_i, gZ_0, if_pos rfl]; exact h0 rfl _ (fun a k q1 q2 => by simp (disch := omega) only [up2_ne])
    · have n0 := (sg_0 _ eD e48).2
      simp (maxSteps := 1000000) (disch := omega) only [↓QI_i, ↓QV_v, ↓QA_a, ↓QF_f, ↓QD_d, ↓QL_l, ↓Bool.cond_eq_ite, ↓reduceIte, decide_eq_true_eq, Bool.not_eq_true', Bool.true_and, Bool.and_true, Bool.and_self, gR_some, Option.getD_some, mI_def, setI_def, mR_def, not_false_eq_true, not_true_eq_false, Bool.false_eq_true, idx_nI, nI_add, pk_mul, icB_lt, icB_gt, icB_le, icB_ge, icB_eq, icB_ne, bI_ne, nI_eqI, gz_O hW, gz_R0 hW, gz_A hW, up2_pz, pz_at, Nat.reduceEqDiff, Nat.reduceAdd, h13, gZ_0, gZ_1, gZ_b]
      refine e_takesSecond hW hr hx h11 (fun e e0 => ?_) fun e => ?_
      · have := txD_t e; rw [if_pos e] at h1; rw [QI_i, gZ_1, if_pos rfl, hN, h12]
        exact h1 (by decide) (by omega) _ 5 (nM) (nI 0) (txr (txC tl s)) nM nM (nI 10 * (- txd (txC tl (s + 3))) + nM * txd (txC tl (s + 4))) (fun a k q1 q2 => by simp (disch := omega) only [up2_ne]) (by refine ⟨?_, ?_, ?_, ?_, ?_, ?_, ?_, ?_⟩ <;> simp (disch := omega) only [up2_ne, up2_at, h11, h13, h12, hK, hT, hP, hO, hN]) ⟨by omega, Or.inr (Or.inl rfl), fun _ => TxR_set hR (Or.inl h45) rfl rfl rfl rfl (by rw [txV_m h45, txM_2 e, sg_2 _ _ hx]) (by rw [sg_2 _ _ hx]; exact (ok_2 eD e).2)⟩
      · rw [hN] at e
        have hn : txD (txC tl (s + 4)) = false := e.resolve_right n0
        rw [if_neg (by rw [hn]; decide)] at h0 h2
        by_cases e59 : txC tl (s + 4) = 59
        · rw [if_pos e59]; rw [if_pos e59] at h2; rw [QI_i, gZ_1, if_pos rfl]; exact h2 e59 rfl (by omega) (TxR_set hR (Or.inl h45) rfl rfl rfl rfl (by rw [txV_m h45, txM_1 hn]) (ok_1 eD).2)
        · rw [if_neg e59]; rw [if_neg e59] at h0; rw [QI_i, gZ_0, if_pos rfl]; exact h0 rfl _ (fun a k q1 q2 => by simp (disch := omega) only [up2_ne])
  · obtain ⟨h3, hv, hF⟩ := hV
    rw [tN6] at h0 h1 h2
    have fin : ∀ q : Int32 → Mem → Prop, (∀ b μ, gZ 1 b = true → Q (.inl (some (.int b))) μ → q b μ) → ∀ X, if txC tl k = 59 then QI q X (.inl (some (.int (nI 1)))) (up2 (up2 I 245 11 (nI (r + 1))) 245 13 (nI 0), ρ) else QI q X (.inl (some (.int (nI 0)))) (I, ρ) := by
      intro q hq X
      by_cases e59 : txC tl k = 59
      · rw [if_pos e59]; rw [if_pos e59] at h2; exact hq _ _ gZ_1 (h2 e59 rfl h3 (hF (by rw [e59]; rfl)))
      · rw [if_neg e59]; rw [if_neg e59] at h0; exact hq _ _ gZ_0 (h0 rfl _ (fun a k q1 q2 => by simp (disch := omega) only [up2_ne]))
    obtain ⟨rfl, rfl⟩ | rfl | rfl := hv
    · simp (maxSteps := 1000000) (disch := omega) only [↓QI_i, ↓QV_v, ↓QA_a, ↓QF_f, ↓QD_d, ↓QL_l, ↓Bool.cond_eq_ite, ↓reduceIte, decide_eq_true_eq, Bool.not_eq_true', Bool.true_and, Bool.and_true, Bool.and_self, gR_some, Option.getD_some, mI_def, setI_def, mR_def, not_false_eq_true, not_true_eq_false, Bool.false_eq_true, idx_nI, nI_add, pk_mul, icB_lt, icB_gt, icB_le, icB_ge, icB_eq, icB_ne, bI_ne, nI_eqI, gz_O hW, gz_R0 hW, gz_A hW, up2_pz, pz_at, Nat.reduceEqDiff, Nat.reduceAdd, h13, gZ_0, gZ_1, gZ_b]
      refine e_takesSecond hW hr hx h11 (fun e e0 => absurd hN e0) fun e => fin _ (fun b μ hb hq => by rw [hb]; exact hq) _
    · simp (maxSteps := 1000000) (disch := omega) only [↓QI_i, ↓QV_v, ↓QA_a, ↓QF_f, ↓QD_d, ↓QL_l, ↓Bool.cond_eq_ite, ↓reduceIte, decide_eq_true_eq, Bool.not_eq_true', Bool.true_and, Bool.and_true, Bool.and_self, gR_some, Option.getD_some, mI_def, setI_def, mR_def, not_false_eq_true, not_true_eq_false, Bool.false_eq_true, idx_nI, nI_add, pk_mul, icB_lt, icB_gt, icB_le, icB_ge, icB_eq, icB_ne, bI_ne, nI_eqI, gz_O hW, gz_R0 hW, gz_A hW, up2_pz, pz_at, Nat.reduceEqDiff, Nat.reduceAdd, h13, gZ_0, gZ_1, gZ_b]
      exact e_ends hW hx h11 (fin _ (fun b μ hb hq => by rw [hb]; exact hq) _)
    · simp (maxSteps := 1000000) (disch := omega) only [↓QI_i, ↓QV_v, ↓QA_a, ↓QF_f, ↓QD_d, ↓QL_l, ↓Bool.cond_eq_ite, ↓reduceIte, decide_eq_true_eq, Bool.not_eq_true', Bool.true_and, Bool.and_true, Bool.and_self, gR_some, Option.getD_some, mI_def, setI_def, mR_def, not_false_eq_true, not_true_eq_false, Bool.false_eq_true, idx_nI, nI_add, pk_mul, icB_lt, icB_gt, icB_le, icB_ge, icB_eq, icB_ne, bI_ne, nI_eqI, gz_O hW, gz_R0 hW, gz_A hW, up2_pz, pz_at, Nat.reduceEqDiff, Nat.reduceAdd, h13, gZ_0, gZ_1, gZ_b]
      exact e_ends hW hx h11 (fin _ (fun b μ hb hq => by rw [hb]; exact hq) _)
  · rw [tN7] at h0 h1 h2
    obtain ⟨rfl, rfl, hR, hR2, rfl, rfl, rfl⟩ := hV
    simp (maxSteps := 1000000) (disch := omega) only [↓QI_i, ↓QV_v, ↓QA_a, ↓QF_f, ↓QD_d, ↓QL_l, ↓Bool.cond_eq_ite, ↓reduceIte, decide_eq_true_eq, Bool.not_eq_true', Bool.true_and, Bool.and_true, Bool.and_self, gR_some, Option.getD_some, mI_def, setI_def, mR_def, not_false_eq_true, not_true_eq_false, Bool.false_eq_true, idx_nI, nI_add, pk_mul, icB_lt, icB_gt, icB_le, icB_ge, icB_eq, icB_ne, bI_ne, nI_eqI, gz_O hW, gz_R0 hW, gz_A hW, up2_pz, pz_at, Nat.reduceEqDiff, Nat.reduceAdd, h13, gZ_0, gZ_1, gZ_b, ↓e_takesSign hW hr hx h11, e_takesSign hW hr hx h11]
    by_cases e : txC tl (s + 3) = 43
    · rw [if_pos e] at h1; rw [decide_eq_true e, Bool.true_or, goU_t, bI_t]
      exact h1 (by decide) (by omega) _ 7 g (if txC tl (s + 3) = 43 then nI 1 else nI 2) (txr (txC tl s)) (txr (txC tl (s + 2))) O (nI 0) (fun a k q1 q2 => by simp (disch := omega) only [up2_ne]) (by refine ⟨?_, ?_, ?_, ?_, ?_, ?_, ?_, ?_⟩ <;> simp (disch := omega) only [up2_ne, up2_at, h11, h13, h12, hK, hT, hP, hO, hN]) (Or.inl ⟨rfl, rfl, hR, hR2, rfl, rfl, rfl, rfl⟩)
    · rw [if_neg e] at h0 h1; rw [decide_eq_false e, Bool.false_or]
      by_cases e2 : txC tl (s + 3) = 42
      · rw [if_pos e2] at h1; rw [decide_eq_true e2, goU_t, bI_t]
        exact h1 (by decide) (by omega) _ 7 g (if txC tl (s + 3) = 43 then nI 1 else nI 2) (txr (txC tl s)) (txr (txC tl (s + 2))) O (nI 0) (fun a k q1 q2 => by simp (disch := omega) only [up2_ne]) (by refine ⟨?_, ?_, ?_, ?_, ?_, ?_, ?_, ?_⟩ <;> simp (disch := omega) only [up2_ne, up2_at, h11, h13, h12, hK, hT, hP, hO, hN]) (Or.inl ⟨rfl, rfl, hR, hR2, rfl, rfl, rfl, rfl⟩)
      · rw [if_neg e2] at h0; rw [decide_eq_false e2, goU_f, bI_f]; exact h0 rfl _ (fun a k q1 q2 => by simp (disch := omega) only [up2_ne])
  · rw [tN8] at h0 h1 h2
    obtain ⟨rfl, rfl, hR, hR2, rfl, rfl, rfl, rfl⟩ | ⟨rfl, rfl, hA, hR, hD, rfl, rfl, rfl⟩ := hV
    · simp (maxSteps := 1000000) (disch := omega) only [↓QI_i, ↓QV_v, ↓QA_a, ↓QF_f, ↓QD_d, ↓QL_l, ↓Bool.cond_eq_ite, ↓reduceIte, decide_eq_true_eq, Bool.not_eq_true', Bool.true_and, Bool.and_true, Bool.and_self, gR_some, Option.getD_some, mI_def, setI_def, mR_def, not_false_eq_true, not_true_eq_false, Bool.false_eq_true, idx_nI, nI_add, pk_mul, icB_lt, icB_gt, icB_le, icB_ge, icB_eq, icB_ne, bI_ne, nI_eqI, gz_O hW, gz_R0 hW, gz_A hW, up2_pz, pz_at, Nat.reduceEqDiff, Nat.reduceAdd, h13, gZ_0, gZ_1, gZ_b, ↓e_takesOther hW hr hx h11, e_takesOther hW hr hx h11]
      cases e : txR (txC tl (s + 4))
      · rw [goU_f, bI_f]; exact h0 (by rw [e, if_neg (by decide)]) _ (fun a k q1 q2 => by simp (disch := omega) only [up2_ne])
      · have := txR_t e; rw [if_pos e] at h1; rw [goU_t, bI_t]
        exact h1 (by decide) (by omega) _ 30 g (if txC tl (s + 3) = 43 then nI 1 else nI 2) (txr (txC tl s)) (txr (txC tl (s + 2))) (txr (txC tl (s + 4))) (nI 0) (fun a k q1 q2 => by simp (disch := omega) only [up2_ne]) (by refine ⟨?_, ?_, ?_, ?_, ?_, ?_, ?_, ?_⟩ <;> simp (disch := omega) only [up2_ne, up2_at, h11, h13, h12, hK, hT, hP, hO, hN]) ⟨by omega, Or.inr (Or.inr rfl), fun _ => TxR_bin hR hR2 e rfl rfl rfl rfl rfl⟩
    · simp (maxSteps := 1000000) (disch := omega) only [↓QI_i, ↓QV_v, ↓QA_a, ↓QF_f, ↓QD_d, ↓QL_l, ↓Bool.cond_eq_ite, ↓reduceIte, decide_eq_true_eq, Bool.not_eq_true', Bool.true_and, Bool.and_true, Bool.and_self, gR_some, Option.getD_some, mI_def, setI_def, mR_def, not_false_eq_true, not_true_eq_false, Bool.false_eq_true, idx_nI, nI_add, pk_mul, icB_lt, icB_gt, icB_le, icB_ge, icB_eq, icB_ne, bI_ne, nI_eqI, gz_O hW, gz_R0 hW, gz_A hW, up2_pz, pz_at, Nat.reduceEqDiff, Nat.reduceAdd, h13, gZ_0, gZ_1, gZ_b, ↓e_takesOther hW hr hx h11, e_takesOther hW hr hx h11]
      cases e : txR (txC tl (s + 5))
      · rw [goU_f, bI_f]; exact h0 (by rw [e, if_neg (by decide)]) _ (fun a k q1 q2 => by simp (disch := omega) only [up2_ne])
      · have := txR_t e; rw [if_pos e] at h1; rw [goU_t, bI_t]
        exact h1 (by decide) (by omega) _ 30 g (nI 4) T (txr (txC tl (s + 1))) (txr (txC tl (s + 5))) (txd (txC tl (s + 2))) (fun a k q1 q2 => by simp (disch := omega) only [up2_ne]) (by refine ⟨?_, ?_, ?_, ?_, ?_, ?_, ?_, ?_⟩ <;> simp (disch := omega) only [up2_ne, up2_at, h11, h13, h12, hK, hT, hP, hO, hN]) ⟨by omega, Or.inr (Or.inr rfl), fun _ => TxR_store hA hR hD e rfl rfl rfl rfl⟩
  · rw [tN9] at h0 h1 h2
    obtain ⟨rfl, rfl, hR, hA, rfl, rfl, rfl⟩ := hV
    simp (maxSteps := 1000000) (disch := omega) only [↓QI_i, ↓QV_v, ↓QA_a, ↓QF_f, ↓QD_d, ↓QL_l, ↓Bool.cond_eq_ite, ↓reduceIte, decide_eq_true_eq, Bool.not_eq_true', Bool.true_and, Bool.and_true, Bool.and_self, gR_some, Option.getD_some, mI_def, setI_def, mR_def, not_false_eq_true, not_true_eq_false, Bool.false_eq_true, idx_nI, nI_add, pk_mul, icB_lt, icB_gt, icB_le, icB_ge, icB_eq, icB_ne, bI_ne, nI_eqI, gz_O hW, gz_R0 hW, gz_A hW, up2_pz, pz_at, Nat.reduceEqDiff, Nat.reduceAdd, h13, gZ_0, gZ_1, gZ_b, ↓e_takesOne hW hr hx h11, e_takesOne hW hr hx h11]
    cases e : txR (txC tl (s + 3))
    · rw [goU_f, bI_f]; exact h0 (by rw [e, if_neg (by decide)]) _ (fun a k q1 q2 => by simp (disch := omega) only [up2_ne])
    · have := txR_t e; rw [if_pos e] at h1; rw [goU_t, bI_t]
      exact h1 (by decide) (by omega) _ 11 g (nI 3) (txr (txC tl s)) (txr (txC tl (s + 3))) nM N (fun a k q1 q2 => by simp (disch := omega) only [up2_ne]) (by refine ⟨?_, ?_, ?_, ?_, ?_, ?_, ?_, ?_⟩ <;> simp (disch := omega) only [up2_ne, up2_at, h11, h13, h12, hK, hT, hP, hO, hN]) ⟨rfl, rfl, hR, hA, e, rfl, rfl, rfl, rfl⟩
  · rw [tN10] at h0 h1 h2
    obtain ⟨rfl, rfl, hR, hA, hR3, rfl, rfl, rfl, rfl⟩ := hV
    simp (maxSteps := 1000000) (disch := omega) only [↓QI_i, ↓QV_v, ↓QA_a, ↓QF_f, ↓QD_d, ↓QL_l, ↓Bool.cond_eq_ite, ↓reduceIte, decide_eq_true_eq, Bool.not_eq_true', Bool.true_and, Bool.and_true, Bool.and_self, gR_some, Option.getD_some, mI_def, setI_def, mR_def, not_false_eq_true, not_true_eq_false, Bool.false_eq_true, idx_nI, nI_add, pk_mul, icB_lt, icB_gt, icB_le, icB_ge, icB_eq, icB_ne, bI_ne, nI_eqI, gz_O hW, gz_R0 hW, gz_A hW, up2_pz, pz_at, Nat.reduceEqDiff, Nat.reduceAdd, h13, gZ_0, gZ_1, gZ_b, ↓e_takesOffset hW hr hx h11, e_takesOffset hW hr hx h11]
    cases e : txD (txC tl (s + 4))
    · rw [goU_f, bI_f]; exact h0 (by rw [e, if_neg (by decide)]) _ (fun a k q1 q2 => by simp (disch := omega) only [up2_ne])
    · have := txD_t e; rw [if_pos e] at h1; rw [goU_t, bI_t]
      exact h1 (by decide) (by omega) _ 12 g (nI 3) (txr (txC tl s)) (txr (txC tl (s + 3))) nM (txd (txC tl (s + 4))) (fun a k q1 q2 => by simp (disch := omega) only [up2_ne]) (by refine ⟨?_, ?_, ?_, ?_, ?_, ?_, ?_, ?_⟩ <;> simp (disch := omega) only [up2_ne, up2_at, h11, h13, h12, hK, hT, hP, hO, hN]) ⟨rfl, rfl, hR, hA, hR3, e, rfl, rfl, rfl, rfl, rfl⟩
  · rw [tN11] at h0 h1 h2
    obtain ⟨rfl, rfl, hR, hA, hR3, hD, rfl, rfl, rfl, rfl, rfl⟩ := hV
    by_cases e : txC tl (s + 5) = 93
    · rw [if_pos e] at h1
      simp (maxSteps := 1000000) (disch := omega) only [↓QI_i, ↓QV_v, ↓QA_a, ↓QF_f, ↓QD_d, ↓QL_l, ↓Bool.cond_eq_ite, ↓reduceIte, decide_eq_true_eq, Bool.not_eq_true', Bool.true_and, Bool.and_true, Bool.and_self, gR_some, Option.getD_some, mI_def, setI_def, mR_def, not_false_eq_true, not_true_eq_false, Bool.false_eq_true, idx_nI, nI_add, pk_mul, icB_lt, icB_gt, icB_le, icB_ge, icB_eq, icB_ne, bI_ne, nI_eqI, gz_O hW, gz_R0 hW, gz_A hW, up2_pz, pz_at, Nat.reduceEqDiff, Nat.reduceAdd, h13, gZ_0, gZ_1, gZ_b, e, ↓e_goes1 hW, e_goes1 hW]
      exact h1 (by decide) (by omega) _ 30 g (nI 3) (txr (txC tl s)) (txr (txC tl (s + 3))) nM (txd (txC tl (s + 4))) (fun a k q1 q2 => by simp (disch := omega) only [up2_ne]) (by refine ⟨?_, ?_, ?_, ?_, ?_, ?_, ?_, ?_⟩ <;> simp (disch := omega) only [up2_ne, up2_at, h11, h13, h12, hK, hT, hP, hO, hN]) ⟨by omega, Or.inr (Or.inr rfl), fun _ => TxR_load hR hA hR3 hD rfl rfl rfl rfl rfl⟩
    · rw [if_neg e] at h0
      simp (maxSteps := 1000000) (disch := omega) only [↓QI_i, ↓QV_v, ↓QA_a, ↓QF_f, ↓QD_d, ↓QL_l, ↓Bool.cond_eq_ite, ↓reduceIte, decide_eq_true_eq, Bool.not_eq_true', Bool.true_and, Bool.and_true, Bool.and_self, gR_some, Option.getD_some, mI_def, setI_def, mR_def, not_false_eq_true, not_true_eq_false, Bool.false_eq_true, idx_nI, nI_add, pk_mul, icB_lt, icB_gt, icB_le, icB_ge, icB_eq, icB_ne, bI_ne, nI_eqI, gz_O hW, gz_R0 hW, gz_A hW, up2_pz, pz_at, Nat.reduceEqDiff, Nat.reduceAdd, h13, gZ_0, gZ_1, gZ_b, e, ↓e_goes0 hW, e_goes0 hW]
      exact h0 rfl _ (fun a k q1 q2 => by simp (disch := omega) only [up2_ne])
  · rw [tN12] at h0 h1 h2
    obtain ⟨rfl, rfl, hA, rfl⟩ := hV
    simp (maxSteps := 1000000) (disch := omega) only [↓QI_i, ↓QV_v, ↓QA_a, ↓QF_f, ↓QD_d, ↓QL_l, ↓Bool.cond_eq_ite, ↓reduceIte, decide_eq_true_eq, Bool.not_eq_true', Bool.true_and, Bool.and_true, Bool.and_self, gR_some, Option.getD_some, mI_def, setI_def, mR_def, not_false_eq_true, not_true_eq_false, Bool.false_eq_true, idx_nI, nI_add, pk_mul, icB_lt, icB_gt, icB_le, icB_ge, icB_eq, icB_ne, bI_ne, nI_eqI, gz_O hW, gz_R0 hW, gz_A hW, up2_pz, pz_at, Nat.reduceEqDiff, Nat.reduceAdd, h13, gZ_0, gZ_1, gZ_b, ↓e_takesOne hW hr hx h11, e_takesOne hW hr hx h11]
    cases e : txR (txC tl (s + 1))
    · rw [goU_f, bI_f]; exact h0 (by rw [e, if_neg (by decide)]) _ (fun a k q1 q2 => by simp (disch := omega) only [up2_ne])
    · have := txR_t e; rw [if_pos e] at h1; rw [goU_t, bI_t]
      exact h1 (by decide) (by omega) _ 21 g (nI 4) T (txr (txC tl (s + 1))) O N (fun a k q1 q2 => by simp (disch := omega) only [up2_ne]) (by refine ⟨?_, ?_, ?_, ?_, ?_, ?_, ?_, ?_⟩ <;> simp (disch := omega) only [up2_ne, up2_at, h11, h13, h12, hK, hT, hP, hO, hN]) ⟨rfl, rfl, hA, e, rfl, rfl⟩
  · rw [tN13] at h0 h1 h2
    obtain ⟨rfl, rfl, hA, hR, rfl, rfl⟩ := hV
    simp (maxSteps := 1000000) (disch := omega) only [↓QI_i, ↓QV_v, ↓QA_a, ↓QF_f, ↓QD_d, ↓QL_l, ↓Bool.cond_eq_ite, ↓reduceIte, decide_eq_true_eq, Bool.not_eq_true', Bool.true_and, Bool.and_true, Bool.and_self, gR_some, Option.getD_some, mI_def, setI_def, mR_def, not_false_eq_true, not_true_eq_false, Bool.false_eq_true, idx_nI, nI_add, pk_mul, icB_lt, icB_gt, icB_le, icB_ge, icB_eq, icB_ne, bI_ne, nI_eqI, gz_O hW, gz_R0 hW, gz_A hW, up2_pz, pz_at, Nat.reduceEqDiff, Nat.reduceAdd, h13, gZ_0, gZ_1, gZ_b, ↓e_takesOffset hW hr hx h11, e_takesOffset hW hr hx h11]
    cases e : txD (txC tl (s + 2))
    · rw [goU_f, bI_f]; exact h0 (by rw [e, if_neg (by decide)]) _ (fun a k q1 q2 => by simp (disch := omega) only [up2_ne])
    · have := txD_t e; rw [if_pos e] at h1; rw [goU_t, bI_t]
      exact h1 (by decide) (by omega) _ 22 g (nI 4) T (txr (txC tl (s + 1))) O (txd (txC tl (s + 2))) (fun a k q1 q2 => by simp (disch := omega) only [up2_ne]) (by refine ⟨?_, ?_, ?_, ?_, ?_, ?_, ?_, ?_⟩ <;> simp (disch := omega) only [up2_ne, up2_at, h11, h13, h12, hK, hT, hP, hO, hN]) ⟨rfl, rfl, hA, hR, e, rfl, rfl, rfl⟩
  · rw [tN14] at h0 h1 h2
    obtain ⟨rfl, rfl, hA, hR, hD, rfl, rfl, rfl⟩ := hV
    by_cases e : txC tl (s + 3) = 93
    · rw [if_pos e] at h1
      simp (maxSteps := 1000000) (disch := omega) only [↓QI_i, ↓QV_v, ↓QA_a, ↓QF_f, ↓QD_d, ↓QL_l, ↓Bool.cond_eq_ite, ↓reduceIte, decide_eq_true_eq, Bool.not_eq_true', Bool.true_and, Bool.and_true, Bool.and_self, gR_some, Option.getD_some, mI_def, setI_def, mR_def, not_false_eq_true, not_true_eq_false, Bool.false_eq_true, idx_nI, nI_add, pk_mul, icB_lt, icB_gt, icB_le, icB_ge, icB_eq, icB_ne, bI_ne, nI_eqI, gz_O hW, gz_R0 hW, gz_A hW, up2_pz, pz_at, Nat.reduceEqDiff, Nat.reduceAdd, h13, gZ_0, gZ_1, gZ_b, e, ↓e_goes1 hW, e_goes1 hW]
      exact h1 (by decide) (by omega) _ 23 g (nI 4) T (txr (txC tl (s + 1))) O (txd (txC tl (s + 2))) (fun a k q1 q2 => by simp (disch := omega) only [up2_ne]) (by refine ⟨?_, ?_, ?_, ?_, ?_, ?_, ?_, ?_⟩ <;> simp (disch := omega) only [up2_ne, up2_at, h11, h13, h12, hK, hT, hP, hO, hN]) ⟨rfl, rfl, hA, hR, hD, rfl, rfl, rfl⟩
    · rw [if_neg e] at h0
      simp (maxSteps := 1000000) (disch := omega) only [↓QI_i, ↓QV_v, ↓QA_a, ↓QF_f, ↓QD_d, ↓QL_l, ↓Bool.cond_eq_ite, ↓reduceIte, decide_eq_true_eq, Bool.not_eq_true', Bool.true_and, Bool.and_true, Bool.and_self, gR_some, Option.getD_some, mI_def, setI_def, mR_def, not_false_eq_true, not_true_eq_false, Bool.false_eq_true, idx_nI, nI_add, pk_mul, icB_lt, icB_gt, icB_le, icB_ge, icB_eq, icB_ne, bI_ne, nI_eqI, gz_O hW, gz_R0 hW, gz_A hW, up2_pz, pz_at, Nat.reduceEqDiff, Nat.reduceAdd, h13, gZ_0, gZ_1, gZ_b, e, ↓e_goes0 hW, e_goes0 hW]
      exact h0 rfl _ (fun a k q1 q2 => by simp (disch := omega) only [up2_ne])
  · rw [tN15] at h0 h1 h2
    obtain ⟨rfl, rfl, hA, hR, hD, rfl, rfl, rfl⟩ := hV
    by_cases e : txC tl (s + 4) = 61
    · rw [if_pos e] at h1
      simp (maxSteps := 1000000) (disch := omega) only [↓QI_i, ↓QV_v, ↓QA_a, ↓QF_f, ↓QD_d, ↓QL_l, ↓Bool.cond_eq_ite, ↓reduceIte, decide_eq_true_eq, Bool.not_eq_true', Bool.true_and, Bool.and_true, Bool.and_self, gR_some, Option.getD_some, mI_def, setI_def, mR_def, not_false_eq_true, not_true_eq_false, Bool.false_eq_true, idx_nI, nI_add, pk_mul, icB_lt, icB_gt, icB_le, icB_ge, icB_eq, icB_ne, bI_ne, nI_eqI, gz_O hW, gz_R0 hW, gz_A hW, up2_pz, pz_at, Nat.reduceEqDiff, Nat.reduceAdd, h13, gZ_0, gZ_1, gZ_b, e, ↓e_goes1 hW, e_goes1 hW]
      exact h1 (by decide) (by omega) _ 24 g (nI 4) T (txr (txC tl (s + 1))) O (txd (txC tl (s + 2))) (fun a k q1 q2 => by simp (disch := omega) only [up2_ne]) (by refine ⟨?_, ?_, ?_, ?_, ?_, ?_, ?_, ?_⟩ <;> simp (disch := omega) only [up2_ne, up2_at, h11, h13, h12, hK, hT, hP, hO, hN]) (Or.inr ⟨rfl, rfl, hA, hR, hD, rfl, rfl, rfl⟩)
    · rw [if_neg e] at h0
      simp (maxSteps := 1000000) (disch := omega) only [↓QI_i, ↓QV_v, ↓QA_a, ↓QF_f, ↓QD_d, ↓QL_l, ↓Bool.cond_eq_ite, ↓reduceIte, decide_eq_true_eq, Bool.not_eq_true', Bool.true_and, Bool.and_true, Bool.and_self, gR_some, Option.getD_some, mI_def, setI_def, mR_def, not_false_eq_true, not_true_eq_false, Bool.false_eq_true, idx_nI, nI_add, pk_mul, icB_lt, icB_gt, icB_le, icB_ge, icB_eq, icB_ne, bI_ne, nI_eqI, gz_O hW, gz_R0 hW, gz_A hW, up2_pz, pz_at, Nat.reduceEqDiff, Nat.reduceAdd, h13, gZ_0, gZ_1, gZ_b, e, ↓e_goes0 hW, e_goes0 hW]
      exact h0 rfl _ (fun a k q1 q2 => by simp (disch := omega) only [up2_ne])
