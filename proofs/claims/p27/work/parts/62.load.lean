/-! load, append, clearBuffer: both sides -/
theorem Cst.tx {I : In2} {ρ : Rh} {z : Zt} {s : Nat} {zs : Nat → Zt} {tl : Nat × Zt} (hC : Cst I ρ z s zs tl) : TxC I tl := ⟨hC.2.2.2.2.1, hC.2.2.2.2.2.1, hC.2.2.2.2.2.2⟩
theorem txB_le {tl : Nat × Zt} : ∀ {i : Nat}, txB tl i ≤ tl.1 := by
  intro i
  induction i with
  | zero => exact Nat.zero_le _
  | succ i ih => rw [txB]; have := (txX_le (tl := tl) (d := tl.1 - txB tl i) (k := txB tl i)).2; omega
theorem k_load60 {xs : Scr} {I : In2} {ρ : Rh} {tl : Nat × Zt} {L : Nat} (hW : Rw ρ) (hT : TxC I tl) (hL : L ≤ 24) : ∀ {d i : Nat} {c : In2} {Q : Post}, i + d = L →
    (∀ c', (∀ o k, c' o k = if (6 + i ≤ o ∧ o < 6 + L) ∧ k < 5 then txW tl (txB tl (o - 6)) k else c o k) → Ev xs 74 60 [.ref 0, .int (nI L), .int (nI (txB tl L)), .int (nI L)] [] (pc I 1 c', ρ) Q) →
    Ev xs 74 60 [.ref 0, .int (nI L), .int (nI (txB tl i)), .int (nI i)] [] (pc I 1 c, ρ) Q := by
  intro d
  induction d with
  | zero =>
    intro i c Q hi h
    obtain rfl : i = L := hi
    exact h c fun o k => by rw [if_neg (by omega)]
  | succ d ih =>
    intro i c Q hi h
    have hil : ¬ L ≤ i := by omega
    have hB := Bs_1
    have hle := txB_le (tl := tl) (i := i)
    have hl := hT.2.1.1
    apply w_X4_load_60
    simp (maxSteps := 1000000) (disch := omega) only [↓QI_i, ↓QV_v, ↓QA_a, ↓QF_f, ↓QD_d, ↓QL_l, ↓Bool.cond_eq_ite, ↓reduceIte, decide_eq_true_eq, Bool.not_eq_true', Bool.true_and, Bool.and_true, Bool.and_self, gR_some, Option.getD_some, mI_def, setI_def, mR_def, not_false_eq_true, not_true_eq_false, Bool.false_eq_true, idx_nI, nI_add, pk_mul, icB_lt, icB_gt, icB_le, icB_ge, icB_eq, icB_ne, bI_ne, nI_eqI, hil, gc_O hW, gc_T hW, gc_3 hW, gc_0 hW, gm_O hW hB, ↓k_at hW hB, k_at hW hB]
    refine k_read hW hT (by omega) (by omega) ?_
    have hT' : TxC (Jvm.Pilot.CAlibiWindowLaw_law_r2562_ce93eb.pc I 1 (wr5 c (6 + i) (txW tl (txB tl i)))) tl := hT.pc
    simp (maxSteps := 1000000) (disch := omega) only [↓QI_i, ↓QV_v, ↓QA_a, ↓QF_f, ↓QD_d, ↓QL_l, ↓Bool.cond_eq_ite, ↓reduceIte, decide_eq_true_eq, Bool.not_eq_true', Bool.true_and, Bool.and_true, Bool.and_self, gR_some, Option.getD_some, mI_def, setI_def, mR_def, not_false_eq_true, not_true_eq_false, Bool.false_eq_true, idx_nI, nI_add, pk_mul, icB_lt, icB_gt, icB_le, icB_ge, icB_eq, icB_ne, bI_ne, nI_eqI, gc_O hW, gc_T hW, gc_3 hW, ↓k_nxt hW hT' hle, k_nxt hW hT' hle]
    refine ih (i := i + 1) (by omega) fun c' hc' => h c' fun o k => ?_
    rw [hc' o k]
    by_cases h1 : (6 + (i + 1) ≤ o ∧ o < 6 + L) ∧ k < 5
    · rw [if_pos h1, if_pos (by omega)]
    · rw [if_neg h1]
      unfold wr5
      by_cases h2 : o = 6 + i ∧ k < 5
      · obtain ⟨rfl, h5⟩ := h2
        rw [if_pos (by omega), show 6 + i - 6 = i by omega]
        obtain rfl | rfl | rfl | rfl | rfl : k = 0 ∨ k = 1 ∨ k = 2 ∨ k = 3 ∨ k = 4 := by omega
        all_goals simp (disch := omega) only [up2_at, up2_ne]
      · rw [if_neg (by omega)]
        by_cases h3 : o = 6 + i
        · rw [up2_ne (by omega), up2_ne (by omega), up2_ne (by omega), up2_ne (by omega), up2_ne (by omega)]
        · rw [up2_ne (by omega), up2_ne (by omega), up2_ne (by omega), up2_ne (by omega), up2_ne (by omega)]
theorem Cst.clr {I : In2} {ρ : Rh} {z : Zt} {s : Nat} {zs : Nat → Zt} {tl : Nat × Zt} (hC : Cst I ρ z s zs tl) : Cst (up2 I 242 1 (nI 0)) ρ z s zs (0, tl.2) := by
  obtain ⟨g, h5, hs, ⟨σ, hσ, hz⟩, h1, hc, ht⟩ := hC
  refine ⟨g.fr fun o k ho => up2_ne (by omega), by rw [up2_ne (by omega)]; exact h5, hs, ⟨σ, hσ, fun j hj => (hz j hj).fr fun o k ho => up2_ne ?_⟩, up2_at, ⟨Nat.zero_le _, fun k hk => absurd hk (Nat.not_lt_zero k)⟩, fun k hk => absurd hk (Nat.not_lt_zero k)⟩
  have := hσ.1 j (by omega); omega
theorem k_load {xs : Scr} {I : In2} {ρ : Rh} {Q : Post} {z : Zt} {s : Nat} {zs : Nat → Zt} {tl : Nat × Zt} (hW : Rw ρ) (hC : Cst I ρ z s zs tl)
    (hok : txF tl = true → txK tl tl.1 + 1 ≤ 24 → KOk Q I ρ (nI (txK tl tl.1 + 1)) (ldZ tl z) (svN s) (svZ s zs z) (0, tl.2)) (hwfs : txF tl = true → ∀ i, i ≤ txK tl tl.1 → WfR (txW tl (txB tl i) 0) (txW tl (txB tl i) 1) (txW tl (txB tl i) 2) (txW tl (txB tl i) 3) (txW tl (txB tl i) 4)) (h1 : txF tl = false → Q (.inr 2) (I, xR ρ)) (h2 : txF tl = true → ¬ txK tl tl.1 + 1 ≤ 24 → Q (.inr 3) (I, xR ρ)) :
    Ev xs 74 0 [.ref 0, .null, .null, .null] [] (I, ρ) Q := by
  have hT := hC.tx
  have hl := hT.2.1.1
  have hK := txK_le (tl := tl) (k := tl.1)
  have hB := Bs_1
  apply w_X4_load_0
  simp (maxSteps := 1000000) (disch := omega) only [↓QI_i, ↓QV_v, ↓QA_a, ↓QF_f, ↓QD_d, ↓QL_l, ↓Bool.cond_eq_ite, ↓reduceIte, decide_eq_true_eq, Bool.not_eq_true', Bool.true_and, Bool.and_true, Bool.and_self, gR_some, Option.getD_some, mI_def, setI_def, mR_def, not_false_eq_true, not_true_eq_false, Bool.false_eq_true, idx_nI, nI_add, pk_mul, icB_lt, icB_gt, icB_le, icB_ge, icB_eq, icB_ne, bI_ne, nI_eqI, gc_O hW, gc_T hW, gc_3 hW, ↓k_full hW hT, k_full hW hT]
  cases hF : txF tl
  · rw [if_neg (by decide), gNN hW, if_pos rfl, excM_def]; exact h1 hF
  · rw [if_pos (by decide)]
    simp (maxSteps := 1000000) (disch := omega) only [↓QI_i, ↓QV_v, ↓QA_a, ↓QF_f, ↓QD_d, ↓QL_l, ↓Bool.cond_eq_ite, ↓reduceIte, decide_eq_true_eq, Bool.not_eq_true', Bool.true_and, Bool.and_true, Bool.and_self, gR_some, Option.getD_some, mI_def, setI_def, mR_def, not_false_eq_true, not_true_eq_false, Bool.false_eq_true, idx_nI, nI_add, pk_mul, icB_lt, icB_gt, icB_le, icB_ge, icB_eq, icB_ne, bI_ne, nI_eqI, gc_O hW, gc_T hW, gc_3 hW, ↓k_ends hW hT, k_ends hW hT]
    by_cases h24 : txK tl tl.1 + 1 ≤ 24
    · rw [if_pos h24]
      refine k_save hW hC fun I' ρ' hW' hρ' hC' hfr => ?_
      simp (maxSteps := 1000000) (disch := omega) only [↓QI_i, ↓QV_v, ↓QA_a, ↓QF_f, ↓QD_d, ↓QL_l, ↓Bool.cond_eq_ite, ↓reduceIte, decide_eq_true_eq, Bool.not_eq_true', Bool.true_and, Bool.and_true, Bool.and_self, gR_some, Option.getD_some, mI_def, setI_def, mR_def, not_false_eq_true, not_true_eq_false, Bool.false_eq_true, idx_nI, nI_add, pk_mul, icB_lt, icB_gt, icB_le, icB_ge, icB_eq, icB_ne, bI_ne, nI_eqI, gc_O hW', gc_0 hW', gm_O hW' hB]
      have hT' := hC'.tx
      obtain ⟨L, hLd⟩ : ∃ L, L = txK tl tl.1 + 1 := ⟨_, rfl⟩
      rw [← hLd]
      have hwf := hwfs hF
      have e1 : up2 I' 1 6 (nI L) = pc I' 1 (up2 (bk I' 1) 0 6 (nI L)) := by rw [← up2_pc0, pc_self]
      rw [e1]
      refine k_load60 (i := 0) (d := L) (L := L) hW' hT' (by omega) (by omega) fun c1 hc1 => ?_
      apply w_X4_load_60
      simp (maxSteps := 1000000) (disch := omega) only [↓QI_i, ↓QV_v, ↓QA_a, ↓QF_f, ↓QD_d, ↓QL_l, ↓Bool.cond_eq_ite, ↓reduceIte, decide_eq_true_eq, Bool.not_eq_true', Bool.true_and, Bool.and_true, Bool.and_self, gR_some, Option.getD_some, mI_def, setI_def, mR_def, not_false_eq_true, not_true_eq_false, Bool.false_eq_true, idx_nI, nI_add, pk_mul, icB_lt, icB_gt, icB_le, icB_ge, icB_eq, icB_ne, bI_ne, nI_eqI, Nat.le_refl, gc_O hW', gc_0 hW', gm_O hW' hB]
      apply w_X2_beginAnew_0
      have hW := hW'
      simp (disch := omega) only [QI_i, QV_v, QA_a, mR_def, Option.getD_some, mI_def, idx_nI, setI_def, gm_0 hW hB, gm_1 hW hB, gm_2 hW hB, gm_3 hW hB, gm_4 hW hB, gm_O hW hB, gm_N hW hB, gm_P hW hB, gR_some, Bool.and_self, cond_true, cond_false, up2_pc, up2_pc0, pc_at, pc_at0, up2_at, up2_ne]
      have c16 : c1 0 6 = nI L := by rw [hc1, if_neg (by omega), up2_at]
      refine k_begin12 hW hB (n := L) (by omega) (d := L) (by simp (disch := omega) only [up2_ne]; exact c16) (by omega) fun c2 hc2 => ?_
      simp (maxSteps := 1000000) (disch := omega) only [↓QI_i, ↓QV_v, ↓QA_a, ↓QF_f, ↓QD_d, ↓QL_l, ↓Bool.cond_eq_ite, ↓reduceIte, decide_eq_true_eq, Bool.not_eq_true', Bool.true_and, Bool.and_true, Bool.and_self, gR_some, Option.getD_some, mI_def, setI_def, mR_def, not_false_eq_true, not_true_eq_false, Bool.false_eq_true, idx_nI, nI_add, pk_mul, icB_lt, icB_gt, icB_le, icB_ge, icB_eq, icB_ne, bI_ne, nI_eqI, gc_O hW', gc_T hW', gc_3 hW']
      have low : ∀ o k, o < 6 → ¬ (o = 0 ∧ (k = 6 ∨ k = 7 ∨ k = 8)) → c2 o k = bk I' 1 o k := fun o k ho hk => by
        rw [hc2, if_neg (by omega), up2_ne (by omega), up2_ne (by omega), hc1, if_neg (by omega), up2_ne (by omega)]
      have hG : Good c2 (ldZ tl z) := by
        refine Good.load hLd (by omega) (fun i hi => hwf i (by omega)) hC'.1 ?_ ?_ ?_ (fun k hk e1 e2 e3 => low _ _ (by omega) (by omega)) (fun o k o1 o2 => low _ _ (by omega) (by omega)) fun i f hi hf => ?_
        · rw [hc2, if_neg (by omega), up2_ne (by omega), up2_ne (by omega)]; exact c16
        · rw [hc2, if_neg (by omega), up2_ne (by omega), up2_at]
        · rw [hc2, if_neg (by omega), up2_at]
        · rw [hc2]
          by_cases h5 : f < 5
          · rw [if_neg (by omega), up2_ne (by omega), up2_ne (by omega), hc1, if_pos (by omega), if_pos h5, show 6 + i - 6 = i by omega]
          · rw [if_pos (by omega), if_neg h5]
      have := hok hF h24
      rw [← hLd] at this
      refine this _ ρ' hW' hρ' (Cst.clr (hC'.now (I' := Jvm.Pilot.CAlibiWindowLaw_law_r2562_ce93eb.pc I' 1 c2) (Good.bk hG) fun a k h1 h2 => pc_ne (by omega))) fun a k ha => ?_
      rw [up2_ne (by omega), pc_ne (by omega)]; exact hfr a k ha
    · rw [if_neg h24, gNN hW, if_pos rfl, excM_def]; exact h2 hF h24
theorem k_clear {xs : Scr} {I : In2} {ρ : Rh} {Q : Post} {z : Zt} {s : Nat} {zs : Nat → Zt} {tl : Nat × Zt} (hW : Rw ρ) (hC : Cst I ρ z s zs tl) (hok : KOk Q I ρ (nI tl.1) z s zs (0, tl.2)) : Ev xs 72 0 [.ref 0, .null] [] (I, ρ) Q := by
  have hT := hC.tx
  have h1 := hT.1
  apply w_X4_clearBuffer_0
  simp (maxSteps := 1000000) (disch := omega) only [↓QI_i, ↓QV_v, ↓QA_a, ↓QF_f, ↓QD_d, ↓QL_l, ↓Bool.cond_eq_ite, ↓reduceIte, decide_eq_true_eq, Bool.not_eq_true', Bool.true_and, Bool.and_true, Bool.and_self, gR_some, Option.getD_some, mI_def, setI_def, mR_def, not_false_eq_true, not_true_eq_false, Bool.false_eq_true, idx_nI, nI_add, pk_mul, icB_lt, icB_gt, icB_le, icB_ge, icB_eq, icB_ne, bI_ne, nI_eqI, gc_O hW, gc_T hW, gc_3 hW, h1]
  exact hok _ ρ hW rfl hC.clr fun a k ha => up2_ne (by omega)
theorem Rst.clr {I : In2} {z : Zt} {s : Nat} {zs : Nat → Zt} {tl : Nat × Zt} (hR : Rst I z s zs tl) : Rst (up2 I 245 15 (nI 0)) z s zs (0, tl.2) := by
  obtain ⟨r1, r2, r3, r4, r5⟩ := hR
  exact ⟨(funext fun k => up2_ne (by omega)).trans r1, by rw [up2_ne (by omega)]; exact r2, fun j k hj hk => by rw [up2_ne (by omega)]; exact r3 j k hj hk, up2_at, fun k hk => absurd hk (Nat.not_lt_zero k)⟩
