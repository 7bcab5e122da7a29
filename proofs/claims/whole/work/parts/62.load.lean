/-! load, append, clearBuffer: both sides -/
theorem Cst.tx {I : In2} {ρ : Rh} {z : Zt} {s : Nat} {zs : Nat → Zt} {tl : Nat × Zt} (hC : Cst I ρ z s zs tl) : TxC I tl := ⟨hC.2.2.2.2.1, hC.2.2.2.2.2.1, hC.2.2.2.2.2.2⟩
theorem txB_le {tl : Nat × Zt} : ∀ {i : Nat}, txB tl i ≤ tl.1 := by
  intro i
  induction i with
  | zero => exact Nat.zero_le _
  | succ i ih => rw [txB]; have := (txX_le (tl := tl) (d := tl.1 - txB tl i) (k := txB tl i)).2; omega
theorem k_load60 {xs : Scr} {I : In2} {ρ : Rh} {tl : Nat × Zt} {L : Nat} (hW : Rw ρ) (hT : TxC I tl) (hL : L ≤ 24) : ∀ {d i : Nat} {c : In2} {Q : Post}, i + d = L →
    (∀ c', (∀ o k, c' o k = if (6 + i ≤ o ∧ o < 6 + L) ∧ k < 5 then txW tl (txB tl (o - 6)) k else c o k) → Ev xs 74 60 [.ref 0, .int (nI L), .int (nI (txB tl L)), .int (nI L)] [] (pc I 1 c', ρ) Q) →
    Ev xs 74 60 [.ref 0, .int (nI L), .int (nI (txB tl i)), .int (nI i)] [] (pc I 1 c, ρ) Q := by
  intro d
  induction d with
  | zero =>
    intro i c Q hi h
    obtain rfl : i = L := hi
    exact h c fun o k => by rw [if_neg (by omega)]
  | succ d ih =>
    intro i c Q hi h
    have hil : ¬ L ≤ i := by omega
    have hB := Bs_1
    have hle := txB_le (tl := tl) (i := i)
    have hl := hT.2.1.1
    apply w_X4_load_60
    simp (maxSteps := 1000000) (disch := omega) only [↓QI_i, ↓QV_v, ↓QA_a, ↓QF_f, ↓QD_d, ↓QL_l, ↓Bool.cond_eq_ite, ↓reduceIte, decide_eq_true_eq, Bool.not_eq_true', Bool.true_and, Bool.and_true, Bool.and_self, gR_some, Option.getD_some, mI_def, setI_def, mR_def, not_false_eq_true, not_true_eq_false, Bool.false_eq_true, idx_nI, nI_add, pk_mul, icB_lt, icB_gt, icB_le, icB_ge, icB_eq, icB_ne, bI_ne, nI_eqI, hil, gc_O hW, gc_T hW, gc_3 hW, gc_0 hW, gm_O hW hB, ↓k_at hW hB, k_at hW hB]
    refine k_read hW hT (by omega) (by omega) ?_
    have hT' : TxC (Jvm.Pilot.CAlibiWindowLaw_law_r8551_75a961.pc I 1 (wr5 c (6 + i) (txW tl (txB tl i)))) tl := hT.pc
    simp (maxSteps := 1000000) (disch := omega) only [↓QI_i, ↓QV_v, ↓QA_a, ↓QF_f, ↓QD_d, ↓QL_l, ↓Bool.cond_eq_ite, ↓reduceIte, decide_eq_true_eq, Bool.not_eq_true', Bool.true_and, Bool.and_true, Bool.and_self, gR_some, Option.getD_some, mI_def, setI_def, mR_def, not_false_eq_true, not_true_eq_false, Bool.false_eq_true, idx_nI, nI_add, pk_mul, icB_lt, icB_gt, icB_le, icB_ge, icB_eq, icB_ne, bI_ne, nI_eqI, gc_O hW, gc_T hW, gc_3 hW, ↓k_nxt hW hT' hle, k_nxt hW hT' hle]
    refine ih (i := i + 1) (by omega) fun c' hc' => h c' fun o k => ?_
    rw [hc' o k]
    by_cases h1 : (6 + (i + 1) ≤ o ∧ o < 6 + L) ∧ k < 5
    · rw [if_pos h1, if_pos (by omega)]
    · rw [if_neg h1]
      unfold wr5
      by_cases h2 : o = 6 + i ∧ k < 5
      · obtain ⟨rfl, h5⟩ := h2
        rw [if_pos (by omega), show 6 + i - 6 = i by omega]
        obtain rfl | rfl | rfl | rfl | rfl : k = 0 ∨ k = 1 ∨ k = 2 ∨ k = 3 ∨ k = 4 := by omega
        all_goals simp (disch := omega) only [up2_at, up2_ne]
      · rw [if_neg (by omega)]
        by_cases h3 : o = 6 + i
        · rw [up2_ne (by omega), up2_ne (by omega), up2_ne (by omega), up2_ne (by omega), up2_ne (by omega)]
        · rw [up2_ne (by omega), up2_ne (by omega), up2_ne (by omega), up2_ne (by omega), up2_ne (by omega)]
theorem Cst.clr {I : In2} {ρ : Rh} {z : Zt} {s : Nat} {zs : Nat → Zt} {tl : Nat × Zt} (hC : Cst I ρ z s zs tl) : Cst (up2 I 242 1 (nI 0)) ρ z s zs (0, tl.2) := by
  obtain ⟨g, h5, hs, ⟨σ, hσ, hz⟩, h1, hc, ht⟩ := hC
  refine ⟨g.fr fun o k ho => up2_ne (by omega), by rw [up2_ne (by omega)]; exact h5, hs, ⟨σ, hσ, fun j hj => (hz j hj).fr fun o k ho => up2_ne ?_⟩, up2_at, ⟨Nat.zero_le _, fun k hk => absurd hk (Nat.not_lt_zero k)⟩, fun k hk => absurd hk (Nat.not_lt_zero k)⟩
  have := hσ.1 j (by omega); omega
theorem k_load {xs : Scr} {I : In2} {ρ : Rh} {Q : Post} {z : Zt} {s : Nat} {zs : Nat → Zt} {tl : Nat × Zt} (hW : Rw ρ) (hC : Cst I ρ z s zs tl)
    (hok : txF tl = true → txK tl tl.1 + 1 ≤ 24 → KOk Q I ρ (nI (txK tl tl.1 + 1)) (ldZ tl z) (svN s) (svZ s zs z) (0, tl.2)) (h1 : txF tl = false → Q (.inr 2) (I, xR ρ)) (h2 : txF tl = true → ¬ txK tl tl.1 + 1 ≤ 24 → Q (.inr 3) (I, xR ρ)) :
    Ev xs 74 0 [.ref 0, .null, .null, .null] [] (I, ρ) Q := by
  have hT := hC.tx
  have hl := hT.2.1.1
  have hK := txK_le (tl := tl) (k := tl.1)
  have hB := Bs_1
  apply w_X4_load_0
  simp (maxSteps := 1000000) (disch := omega) only [↓QI_i, ↓QV_v, ↓QA_a, ↓QF_f, ↓QD_d, ↓QL_l, ↓Bool.cond_eq_ite, ↓reduceIte, decide_eq_true_eq, Bool.not_eq_true', Bool.true_and, Bool.and_true, Bool.and_self, gR_some, Option.getD_some, mI_def, setI_def, mR_def, not_false_eq_true, not_true_eq_false, Bool.false_eq_true, idx_nI, nI_add, pk_mul, icB_lt, icB_gt, icB_le, icB_ge, icB_eq, icB_ne, bI_ne, nI_eqI, gc_O hW, gc_T hW, gc_3 hW, ↓k_full hW hT, k_full hW hT]
  cases hF : txF tl
  · rw [if_neg (by decide), gNN hW, if_pos rfl, excM_def]; exact h1 hF
  · rw [if_pos (by decide)]
    simp (maxSteps := 1000000) (disch := omega) only [↓QI_i, ↓QV_v, ↓QA_a, ↓QF_f, ↓QD_d, ↓QL_l, ↓Bool.cond_eq_ite, ↓reduceIte, decide_eq_true_eq, Bool.not_eq_true', Bool.true_and, Bool.and_true, Bool.and_self, gR_some, Option.getD_some, mI_def, setI_def, mR_def, not_false_eq_true, not_true_eq_false, Bool.false_eq_true, idx_nI, nI_add, pk_mul, icB_lt, icB_gt, icB_le, icB_ge, icB_eq, icB_ne, bI_ne, nI_eqI, gc_O hW, gc_T hW, gc_3 hW, ↓k_ends hW hT, k_ends hW hT]
    by_cases h24 : txK tl tl.1 + 1 ≤ 24
    · rw [if_pos h24]
      refine k_save hW hC fun I' ρ' hW' hρ' hC' hfr => ?_
      simp (maxSteps := 1000000) (disch := omega) only [↓QI_i, ↓QV_v, ↓QA_a, ↓QF_f, ↓QD_d, ↓QL_l, ↓Bool.cond_eq_ite, ↓reduceIte, decide_eq_true_eq, Bool.not_eq_true', Bool.true_and, Bool.and_true, Bool.and_self, gR_some, Option.getD_some, mI_def, setI_def, mR_def, not_false_eq_true, not_true_eq_false, Bool.false_eq_true, idx_nI, nI_add, pk_mul, icB_lt, icB_gt, icB_le, icB_ge, icB_eq, icB_ne, bI_ne, nI_eqI, gc_O hW', gc_0 hW', gm_O hW' hB]
      have hT' := hC'.tx
      obtain ⟨L, hLd⟩ : ∃ L, L = txK tl tl.1 + 1 := ⟨_, rfl⟩
      rw [← hLd]
      have hwf := txWf hW hC'.2.2.2.2.2.1 hF
      have e1 : up2 I' 1 6 (nI L) = pc I' 1 (up2 (bk I' 1) 0 6 (nI L)) := by rw [← up2_pc0, pc_self]
      rw [e1]
      refine k_load60 (i := 0) (d := L) (L := L) hW' hT' (by omega) (by omega) fun c1 hc1 => ?_
      apply w_X4_load_60
      simp (maxSteps := 1000000) (disch := omega) only [↓QI_i, ↓QV_v, ↓QA_a, ↓QF_f, ↓QD_d, ↓QL_l, ↓Bool.cond_eq_ite, ↓reduceIte, decide_eq_true_eq, Bool.not_eq_true', Bool.true_and, Bool.and_true, Bool.and_self, gR_some, Option.getD_some, mI_def, setI_def, mR_def, not_false_eq_true, not_true_eq_false, Bool.false_eq_true, idx_nI, nI_add, pk_mul, icB_lt, icB_gt, icB_le, icB_ge, icB_eq, icB_ne, bI_ne, nI_eqI, Nat.le_refl, gc_O hW', gc_0 hW', gm_O hW' hB]
      apply w_X2_beginAnew_0
      have hW := hW'
      simp (disch := omega) only [QI_i, QV_v, QA_a, mR_def, Option.getD_some, mI_def, idx_nI, setI_def, gm_0 hW hB, gm_1 hW hB, gm_2 hW hB, gm_3 hW hB, gm_4 hW hB, gm_O hW hB, gm_N hW hB, gm_P hW hB, gR_some, Bool.and_self, cond_true, cond_false, up2_pc, up2_pc0, pc_at, pc_at0, up2_at, up2_ne]
      have c16 : c1 0 6 = nI L := by rw [hc1, if_neg (by omega), up2_at]
      refine k_begin12 hW hB (n := L) (by omega) (d := L) (by simp (disch := omega) only [up2_ne]; exact c16) (by omega) fun c2 hc2 => ?_
      simp (maxSteps := 1000000) (disch := omega) only [↓QI_i, ↓QV_v, ↓QA_a, ↓QF_f, ↓QD_d, ↓QL_l, ↓Bool.cond_eq_ite, ↓reduceIte, decide_eq_true_eq, Bool.not_eq_true', Bool.true_and, Bool.and_true, Bool.and_self, gR_some, Option.getD_some, mI_def, setI_def, mR_def, not_false_eq_true, not_true_eq_false, Bool.false_eq_true, idx_nI, nI_add, pk_mul, icB_lt, icB_gt, icB_le, icB_ge, icB_eq, icB_ne, bI_ne, nI_eqI, gc_O hW', gc_T hW', gc_3 hW']
      have low : ∀ o k, o < 6 → ¬ (o = 0 ∧ (k = 6 ∨ k = 7 ∨ k = 8)) → c2 o k = bk I' 1 o k := fun o k ho hk => by
        rw [hc2, if_neg (by omega), up2_ne (by omega), up2_ne (by omega), hc1, if_neg (by omega), up2_ne (by omega)]
      have hG : Good c2 (ldZ tl z) := by
        refine Good.load hLd (by omega) (fun i hi => hwf i (by omega)) hC'.1 ?_ ?_ ?_ (fun k hk e1 e2 e3 => low _ _ (by omega) (by omega)) (fun o k o1 o2 => low _ _ (by omega) (by omega)) fun i f hi hf => ?_
        · rw [hc2, if_neg (by omega), up2_ne (by omega), up2_ne (by omega)]; exact c16
        · rw [hc2, if_neg (by omega), up2_ne (by omega), up2_at]
        · rw [hc2, if_neg (by omega), up2_at]
        · rw [hc2]
          by_cases h5 : f < 5
          · rw [if_neg (by omega), up2_ne (by omega), up2_ne (by omega), hc1, if_pos (by omega), if_pos h5, show 6 + i - 6 = i by omega]
          · rw [if_pos (by omega), if_neg h5]
      have := hok hF h24
      rw [← hLd] at this
      refine this _ ρ' hW' hρ' (Cst.clr (hC'.now (I' := Jvm.Pilot.CAlibiWindowLaw_law_r8551_75a961.pc I' 1 c2) (Good.bk hG) fun a k h1 h2 => pc_ne (by omega))) fun a k ha => ?_
      rw [up2_ne (by omega), pc_ne (by omega)]; exact hfr a k ha
    · rw [if_neg h24, gNN hW, if_pos rfl, excM_def]; exact h2 hF h24
theorem k_clear {xs : Scr} {I : In2} {ρ : Rh} {Q : Post} {z : Zt} {s : Nat} {zs : Nat → Zt} {tl : Nat × Zt} (hW : Rw ρ) (hC : Cst I ρ z s zs tl) (hok : KOk Q I ρ (nI tl.1) z s zs (0, tl.2)) : Ev xs 72 0 [.ref 0, .null] [] (I, ρ) Q := by
  have hT := hC.tx
  have h1 := hT.1
  apply w_X4_clearBuffer_0
  simp (maxSteps := 1000000) (disch := omega) only [↓QI_i, ↓QV_v, ↓QA_a, ↓QF_f, ↓QD_d, ↓QL_l, ↓Bool.cond_eq_ite, ↓reduceIte, decide_eq_true_eq, Bool.not_eq_true', Bool.true_and, Bool.and_true, Bool.and_self, gR_some, Option.getD_some, mI_def, setI_def, mR_def, not_false_eq_true, not_true_eq_false, Bool.false_eq_true, idx_nI, nI_add, pk_mul, icB_lt, icB_gt, icB_le, icB_ge, icB_eq, icB_ne, bI_ne, nI_eqI, gc_O hW, gc_T hW, gc_3 hW, h1]
  exact hok _ ρ hW rfl hC.clr fun a k ha => up2_ne (by omega)
theorem Rst.clr {I : In2} {z : Zt} {s : Nat} {zs : Nat → Zt} {tl : Nat × Zt} (hR : Rst I z s zs tl) : Rst (up2 I 245 15 (nI 0)) z s zs (0, tl.2) := by
  obtain ⟨r1, r2, r3, r4, r5⟩ := hR
  exact ⟨(funext fun k => up2_ne (by omega)).trans r1, by rw [up2_ne (by omega)]; exact r2, fun j k hj hk => by rw [up2_ne (by omega)]; exact r3 j k hj hk, up2_at, fun k hk => absurd hk (Nat.not_lt_zero k)⟩
theorem e_clear {xs : Scr} {I : In2} {ρ : Rh} {Q : Post} {z : Zt} {s : Nat} {zs : Nat → Zt} {tl : Nat × Zt} (hW : Rw ρ) (hR : Rst I z s zs tl) (hok : ROk Q I ρ (nI tl.1) z s zs (0, tl.2) 0) : Ev xs 141 0 [.ref 245, .null] [] (I, ρ) Q := by
  have h15 := hR.2.2.2.1
  apply w_X5_clearBuffer_0
  simp (maxSteps := 1000000) (disch := omega) only [↓QI_i, ↓QV_v, ↓QA_a, ↓QF_f, ↓QD_d, ↓QL_l, ↓Bool.cond_eq_ite, ↓reduceIte, decide_eq_true_eq, Bool.not_eq_true', Bool.true_and, Bool.and_true, Bool.and_self, gR_some, Option.getD_some, mI_def, setI_def, mR_def, not_false_eq_true, not_true_eq_false, Bool.false_eq_true, idx_nI, nI_add, pk_mul, icB_lt, icB_gt, icB_le, icB_ge, icB_eq, icB_ne, bI_ne, nI_eqI, gz_O hW, gz_R0 hW, gz_A hW, up2_pz, pz_at, up2_ne, h15]
  exact hok _ (Rst.clr hR.t) (by rw [up2_ne (by omega), up2_at]) fun a k ha => by rw [up2_ne (by omega)]; exact fr_t ha
theorem e_load82 {xs : Scr} {I : In2} {ρ : Rh} {tl : Nat × Zt} {r : Nat} (hW : Rw ρ) (hr : r < 24) (h11 : I 245 11 = nI r) (hT : ∀ i, i ≤ r → TxR tl (txB tl i) (I 250 i) (I 251 i) (I 252 i) (I 253 i) (I 254 i)) : ∀ {d i : Nat} {z : Zt} {Q : Post}, i + d = r + 1 →
    Q (.inl (some (.int (bgF (ldL tl d i z) 1)))) (pz (up2 I 245 15 (nI 0)) (bgF (ldL tl d i z)), ρ) → Ev xs 157 82 [.ref 245, .int (nI i)] [] (pz I z, ρ) Q := by
  intro d
  induction d with
  | zero =>
    intro i z Q hi h
    obtain rfl : i = r + 1 := by omega
    have hlt : r < r + 1 := by omega
    have r11 : pz I z 245 11 = nI r := (pz_ne (by omega)).trans h11
    apply w_X5_load_82
    simp (maxSteps := 1000000) (disch := omega) only [↓QI_i, ↓QV_v, ↓QA_a, ↓QF_f, ↓QD_d, ↓QL_l, ↓Bool.cond_eq_ite, ↓reduceIte, decide_eq_true_eq, Bool.not_eq_true', Bool.true_and, Bool.and_true, Bool.and_self, gR_some, Option.getD_some, mI_def, setI_def, mR_def, not_false_eq_true, not_true_eq_false, Bool.false_eq_true, idx_nI, nI_add, pk_mul, icB_lt, icB_gt, icB_le, icB_ge, icB_eq, icB_ne, bI_ne, nI_eqI, gz_O hW, gz_R0 hW, gz_A hW, up2_pz, pz_at, r11, hlt, ↓e_begin hW, e_begin hW, up2_pn]
    exact h
  | succ d ih =>
    intro i z Q hi h
    have hlt : ¬ r < i := by omega
    have hi24 : i < 24 := by omega
    have r11 : ∀ z, pz I z 245 11 = nI r := fun z => (pz_ne (by omega)).trans h11
    have r0 : ∀ z, pz I z 250 i = I 250 i := fun z => pz_ne (by omega)
    have r1 : ∀ z, pz I z 251 i = I 251 i := fun z => pz_ne (by omega)
    have r2 : ∀ z, pz I z 252 i = I 252 i := fun z => pz_ne (by omega)
    have r3 : ∀ z, pz I z 253 i = I 253 i := fun z => pz_ne (by omega)
    have r4 : ∀ z, pz I z 254 i = I 254 i := fun z => pz_ne (by omega)
    obtain ⟨t0, t1, t2, t3, t4, -⟩ := hT i (by omega)
    apply w_X5_load_82
    by_cases e4 : I 250 i = nI 4
    · rw [if_pos e4] at t1
      have e4' := t0.symm.trans e4
      simp (maxSteps := 1000000) (disch := omega) only [↓QI_i, ↓QV_v, ↓QA_a, ↓QF_f, ↓QD_d, ↓QL_l, ↓Bool.cond_eq_ite, ↓reduceIte, decide_eq_true_eq, Bool.not_eq_true', Bool.true_and, Bool.and_true, Bool.and_self, gR_some, Option.getD_some, mI_def, setI_def, mR_def, not_false_eq_true, not_true_eq_false, Bool.false_eq_true, idx_nI, nI_add, pk_mul, icB_lt, icB_gt, icB_le, icB_ge, icB_eq, icB_ne, bI_ne, nI_eqI, gz_O hW, gz_R0 hW, gz_A hW, up2_pz, pz_at, hlt, gz_R4 hW, gz_R5 hW, gz_R6 hW, gz_R7 hW, gz_R8 hW, gz_A4 hW, gz_A5 hW, gz_A6 hW, gz_A7 hW, gz_A8 hW, r11, r0, r1, r2, r3, r4, e4, ↓e_lay hW, e_lay hW]
      refine ih (i := i + 1) (by omega) ?_
      rw [ldL, lay5, e4', ← t1, ← t2, ← t3, ← t4] at h
      exact h
    · rw [if_neg e4] at t1
      simp (maxSteps := 1000000) (disch := omega) only [↓QI_i, ↓QV_v, ↓QA_a, ↓QF_f, ↓QD_d, ↓QL_l, ↓Bool.cond_eq_ite, ↓reduceIte, decide_eq_true_eq, Bool.not_eq_true', Bool.true_and, Bool.and_true, Bool.and_self, gR_some, Option.getD_some, mI_def, setI_def, mR_def, not_false_eq_true, not_true_eq_false, Bool.false_eq_true, idx_nI, nI_add, pk_mul, icB_lt, icB_gt, icB_le, icB_ge, icB_eq, icB_ne, bI_ne, nI_eqI, gz_O hW, gz_R0 hW, gz_A hW, up2_pz, pz_at, hlt, gz_R4 hW, gz_R5 hW, gz_R6 hW, gz_R7 hW, gz_R8 hW, gz_A4 hW, gz_A5 hW, gz_A6 hW, gz_A7 hW, gz_A8 hW, r11, r0, r1, r2, r3, r4, e4, ↓e_lay hW, e_lay hW]
      refine ih (i := i + 1) (by omega) ?_
      rw [ldL, lay5, ← t0, ← t1, ← t2, ← t3, ← t4] at h
      exact h
theorem e_savF {xs : Scr} {I : In2} {ρ : Rh} {Q : Post} {z : Zt} {s : Nat} {zs : Nat → Zt} {tl : Nat × Zt} (hW : Rw ρ) (hR : Rst I z s zs tl) (hs : s ≤ 6) (h : ∀ I', Rst I' z (svN s) (svZ s zs z) tl → I' 245 16 = I 245 16 → (∀ a k, ¬ a = 246 → ¬ a = 248 → ¬ (a = 245 ∧ k = 14) → I' a k = I a k) → Q (.inl none) (I', ρ)) : Ev xs 108 0 [.ref 245, .null] [] (I, ρ) Q := by
  have hR' := hR
  obtain ⟨h6, h14, h8, h15, h9⟩ := hR'
  have q14 : pz I z 245 14 = nI s := h14
  rw [← hR.eq]
  apply w_X5_save_0
  by_cases hs6 : s = 6
  · subst hs6
    simp (maxSteps := 1000000) (disch := omega) only [↓QI_i, ↓QV_v, ↓QA_a, ↓QF_f, ↓QD_d, ↓QL_l, ↓Bool.cond_eq_ite, ↓reduceIte, decide_eq_true_eq, Bool.not_eq_true', Bool.true_and, Bool.and_true, Bool.and_self, gR_some, Option.getD_some, mI_def, setI_def, mR_def, not_false_eq_true, not_true_eq_false, Bool.false_eq_true, idx_nI, nI_add, pk_mul, icB_lt, icB_gt, icB_le, icB_ge, icB_eq, icB_ne, bI_ne, nI_eqI, gz_O hW, gz_R0 hW, gz_A hW, up2_pz, pz_at, q14]
    have eI : I = w8 I (I 248) := w8_self.symm
    have h15' : up2 I 245 14 (nI 5) 245 15 = nI tl.1 := (up2_ne (by decide)).trans h15
    have h9' : ∀ k, k < tl.1 → up2 I 245 14 (nI 5) 249 k = tl.2 k := fun k hk => (up2_ne (by omega)).trans (h9 k hk)
    have h16' : up2 I 245 14 (nI 5) 245 16 = I 245 16 := up2_ne (by decide)
    rw [eI]
    refine e_save11 hW h14 (d := 1620) (k := 0) (by decide) ?_
    refine e_save52 hW (s := 5) (by rw [up2_e, if_pos ⟨rfl, rfl⟩]) (by decide) (d := 324) (k := 0) (by decide) ?_
    refine h _ ⟨rfl, ?_, fun j k hj hk => ?_, ?_, fun k hk => ?_⟩ ?_ fun a k ha hb hc => ?_
    · unfold svN; rw [if_neg (by decide)]; exact (pz_ne (by decide)).trans up2_at
    · unfold svN at hj; rw [if_neg (by decide)] at hj
      unfold svZ; rw [if_neg (by decide)]
      rw [pz_ne (by decide), up2_ne (by omega)]; unfold w8; rw [if_pos rfl]; dsimp only
      by_cases e : j < 5
      · rw [if_pos e, if_neg (by omega), if_pos (by omega), ← h8 (j + 1) k (by omega) hk]; congr 1; omega
      · have : j = 5 := by omega
        subst this
        rw [if_neg e, if_pos (by omega), Nat.add_sub_cancel_left]
    · rw [pz_ne (by decide), up2_ne (by decide)]; unfold w8; rw [if_neg (by decide)]; exact h15'
    · rw [pz_ne (by decide), up2_ne (by omega)]; unfold w8; rw [if_neg (by decide)]; exact h9' k hk
    · rw [pz_ne (by decide), up2_ne (by decide)]; unfold w8; rw [if_neg (by decide)]; exact h16'
    · rw [pz_ne (by omega), up2_ne (by omega)]
      unfold w8; rw [if_neg (by omega), up2_ne (by omega)]
  · have hs6' : s < 6 := by omega
    simp (maxSteps := 1000000) (disch := omega) only [↓QI_i, ↓QV_v, ↓QA_a, ↓QF_f, ↓QD_d, ↓QL_l, ↓Bool.cond_eq_ite, ↓reduceIte, decide_eq_true_eq, Bool.not_eq_true', Bool.true_and, Bool.and_true, Bool.and_self, gR_some, Option.getD_some, mI_def, setI_def, mR_def, not_false_eq_true, not_true_eq_false, Bool.false_eq_true, idx_nI, nI_add, pk_mul, icB_lt, icB_gt, icB_le, icB_ge, icB_eq, icB_ne, bI_ne, nI_eqI, gz_O hW, gz_R0 hW, gz_A hW, up2_pz, pz_at, q14, hs6]
    have eI : I = w8 I (I 248) := w8_self.symm
    have h15' := h15
    have h9' := h9
    have h16' : I 245 16 = I 245 16 := rfl
    rw [eI]
    refine e_save52 hW h14 hs6' (d := 324) (k := 0) (by decide) ?_
    refine h _ ⟨rfl, ?_, fun j k hj hk => ?_, ?_, fun k hk => ?_⟩ ?_ fun a k ha hb hc => ?_
    · unfold svN; rw [if_pos hs6']; exact (pz_ne (by decide)).trans up2_at
    · unfold svN at hj; rw [if_pos hs6'] at hj
      unfold svZ; rw [if_pos hs6']
      rw [pz_ne (by decide), up2_ne (by omega)]; unfold w8; rw [if_pos rfl]; dsimp only
      by_cases e : j = s
      · subst e; rw [if_pos rfl, if_pos (by omega), Nat.add_sub_cancel_left]
      · rw [if_neg e, if_neg (by omega)]; exact h8 j k (by omega) hk
    · rw [pz_ne (by decide), up2_ne (by decide)]; unfold w8; rw [if_neg (by decide)]; exact h15'
    · rw [pz_ne (by decide), up2_ne (by omega)]; unfold w8; rw [if_neg (by decide)]; exact h9' k hk
    · rw [pz_ne (by decide), up2_ne (by decide)]; unfold w8; rw [if_neg (by decide)]
    · rw [pz_ne (by omega), up2_ne (by omega)]
      unfold w8; rw [if_neg (by omega)]
theorem e_load {xs : Scr} {I : In2} {ρ : Rh} {Q : Post} {z : Zt} {s : Nat} {zs : Nat → Zt} {tl : Nat × Zt} (hW : Rw ρ) (hc : Chs tl) (hR : Rst I z s zs tl) (hs : s ≤ 6)
    (hok : txF tl = true → txK tl tl.1 + 1 ≤ 24 → ROk Q I ρ (nI (txK tl tl.1 + 1)) (ldZ tl z) (svN s) (svZ s zs z) (0, tl.2) 0) (h1 : txF tl = false → ROk Q I ρ (nI 0) z s zs tl 1) (h2 : txF tl = true → ¬ txK tl tl.1 + 1 ≤ 24 → ROk Q I ρ (nI 0) z s zs tl 2) :
    Ev xs 157 0 [.ref 245, .null] [] (I, ρ) Q := by
  have hR' : Rst (up2 I 245 16 (nI 0)) z s zs tl := hR.t
  have hl := hc.1
  have hKl := txK_le (tl := tl) (k := tl.1)
  have st : ∀ {I'}, TxG (up2 I 245 16 (nI 0)) I' → Rst I' z s zs tl := fun hG => hR'.fr (funext fun k => hG _ _ (by omega) (by omega)) (hG _ _ (by omega) (by omega)) (hG _ _ (by omega) (by omega)) (fun k => hG _ _ (by omega) (by omega)) fun k _ => hG _ _ (by omega) (by omega)
  have lo : ∀ {I'}, TxG (up2 I 245 16 (nI 0)) I' → ∀ a k, a < 245 → I' a k = I a k := fun hG a k ha => (hG a k (by omega) (by omega)).trans (fr_t ha)
  have fl : ∀ {I' : In2} {t : Nat}, TxG (up2 I 245 16 (nI 0)) I' → ROk Q I ρ (nI 0) z s zs tl t → Q (.inl (some (.int (nI 0)))) (up2 I' 245 16 (nI t), ρ) := fun hG h => h _ (Rst.t (st hG)) up2_at fun a k ha => (fr_t ha).trans (lo hG a k ha)
  apply w_X5_load_0
  rw [gz_O hW, cond_true]
  show bif gO (setI (I, ρ) 245 16 (nI 0)) 245 4 then _ else _
  rw [setI_def, gz_O hW, cond_true]
  refine e_scan hW hc hR'.2.2.2.1 hR'.2.2.2.2 (fun I' j hj _ h0 hG => ?_) fun _ I' hG hT => ?_
  · have h15 := (st hG).2.2.2.1
    rw [QI_i, gz_O hW, cond_true, mI_def, h15, icB_lt (by omega) (by omega), decide_eq_true hj, cond_true, cond_true, e_fails hW, QI_i]
    exact fl hG (h1 (txF_0 h0))
  · have h15 := (st hG).2.2.2.1
    have hlt : ¬ tl.1 < tl.1 := Nat.lt_irrefl _
    rw [QI_i, gz_O hW, cond_true, mI_def, h15, icB_lt (by omega) (by omega), decide_eq_false hlt, cond_false]
    cases hF : txF tl
    · obtain ⟨v, h13, hv, n4, n5, n30⟩ := hT.not hF
      have b4 : icB .eq (nI v) (nI 4) = false := by rw [txe (by omega) (by decide)]; exact decide_eq_false n4
      have b5 : icB .eq (nI v) (nI 5) = false := by rw [txe (by omega) (by decide)]; exact decide_eq_false n5
      have b30 : icB .eq (nI v) (nI 30) = false := by rw [txe (by omega) (by decide)]; exact decide_eq_false n30
      rw [cond_true, mI_def, h13, b4, cond_false, cond_true, b5, cond_false, cond_true, b30, cond_false, cond_true, e_fails hW, QI_i]
      exact fl hG (h1 hF)
    · obtain ⟨v, h11, h13, hv, hrow⟩ := hT.fin hF
      have main : txK tl tl.1 + 1 ≤ 24 → ∀ I2, Rst I2 z (svN s) (svZ s zs z) tl → I2 245 16 = I' 245 16 → (∀ a k, a < 245 → I2 a k = I' a k) → (∀ k, k = 11 → I2 245 k = I' 245 k) → (∀ a k, 250 ≤ a → a ≤ 254 → I2 a k = I' a k) → Ev xs 157 82 [.ref 245, .int (nI 0)] [] (up2 I2 246 1 (nI (txK tl tl.1 + 1)), ρ) Q := by
        intro h24 I2 hR2 h16 hlo h11' hrows
        rw [← hR2.eq, up2_pz]
        have e1 : bgF (ldL tl (txK tl tl.1 + 1) 0 (uz z 1 (nI (txK tl tl.1 + 1)))) 1 = nI (txK tl tl.1 + 1) := by rw [bgF_lo (by decide) (by decide) (by decide), ldL_lo (by decide), uz_at]
        refine e_load82 (tl := tl) hW (r := txK tl tl.1) (by omega) ((h11' 11 rfl).trans h11) (fun i hi => ?_) (d := txK tl tl.1 + 1) (i := 0) (by omega) ?_
        · rw [hrows 250 i (by decide) (by decide), hrows 251 i (by decide) (by decide), hrows 252 i (by decide) (by decide), hrows 253 i (by decide) (by decide), hrows 254 i (by decide) (by decide)]
          exact hrow i hi
        · rw [e1]
          refine hok hF h24 _ (Rst.z (Rst.clr hR2)) ?_ fun a k ha => ?_
          · rw [pz_ne (by decide), up2_ne (by omega), h16]; exact (hG _ _ (by omega) (by omega)).trans up2_at
          · rw [pz_ne (by omega), up2_ne (by omega), hlo a k ha]; exact lo hG a k ha
      have sv : ∀ X : Nat → Mem → Prop, txK tl tl.1 + 1 ≤ 24 → Ev xs 108 0 [.ref 245, .null] [] (I', ρ) (QV (fun μ6 => bif (gO μ6 245 4 && gR (mR μ6 245 0)) then (bif gO μ6 245 4 then (bif gA μ6 ((mR μ6 245 0).getD 0) 6 (nI 1) then ((fun u7 : Mem => Ev xs 157 82 [.ref 245, .int (nI 0)] [] u7 Q) (setI μ6 ((mR μ6 245 0).getD 0) (idx (nI 1)) (mI μ6 245 11 + nI 1))) else False) else False) else False) X) := fun X h24 => by
        refine e_savF hW (st hG) hs fun I2 hR2 h16 hfr => ?_
        have q11 : I2 245 11 = nI (txK tl tl.1) := (hfr _ _ (by decide) (by decide) (by decide)).trans h11
        simp (maxSteps := 1000000) (disch := omega) only [↓QI_i, ↓QV_v, ↓QA_a, ↓QF_f, ↓QD_d, ↓QL_l, ↓Bool.cond_eq_ite, ↓reduceIte, decide_eq_true_eq, Bool.not_eq_true', Bool.true_and, Bool.and_true, Bool.and_self, gR_some, Option.getD_some, mI_def, setI_def, mR_def, not_false_eq_true, not_true_eq_false, Bool.false_eq_true, idx_nI, nI_add, pk_mul, icB_lt, icB_gt, icB_le, icB_ge, icB_eq, icB_ne, bI_ne, nI_eqI, gz_O hW, gz_R0 hW, gz_A hW, up2_pz, pz_at, q11]
        exact main h24 I2 hR2 h16 (fun a k ha => hfr a k (by omega) (by omega) (by omega)) (fun k hk => hfr _ _ (by decide) (by decide) (by omega)) fun a k h1 h2 => hfr a k (by omega) (by omega) (by omega)
      have ed : ∀ X : Nat → Mem → Prop, ¬ txK tl tl.1 + 1 ≤ 24 → Ev xs 103 0 [.ref 245, .int (nI 2)] [] (I', ρ) (QI (fun x9 μ8 => Q (.inl (some (.int x9))) μ8) X) := fun X h24 => by
        rw [e_fails hW, QI_i]; exact fl hG (h2 hF h24)
      have fin : ∀ X Y : Nat → Mem → Prop, bif icB .le (nI (txK tl tl.1) + nI 1) (nI 24) then (bif true then Ev xs 108 0 [.ref 245, .null] [] (I', ρ) (QV (fun μ6 => bif (gO μ6 245 4 && gR (mR μ6 245 0)) then (bif gO μ6 245 4 then (bif gA μ6 ((mR μ6 245 0).getD 0) 6 (nI 1) then ((fun u7 : Mem => Ev xs 157 82 [.ref 245, .int (nI 0)] [] u7 Q) (setI μ6 ((mR μ6 245 0).getD 0) (idx (nI 1)) (mI μ6 245 11 + nI 1))) else False) else False) else False) X) else False) else (bif true then Ev xs 103 0 [.ref 245, .int (nI 2)] [] (I', ρ) (QI (fun x9 μ8 => Q (.inl (some (.int x9))) μ8) Y) else False) := fun X Y => by
        rw [nI_add, icB_le (by omega) (by decide)]
        by_cases h24 : txK tl tl.1 + 1 ≤ 24
        · rw [decide_eq_true h24, cond_true, cond_true]; exact sv X h24
        · rw [decide_eq_false h24, cond_false, cond_true]; exact ed Y h24
      rw [mI_def, h13, mI_def, h11]
      obtain rfl | rfl | rfl := hv
      · rw [show icB .eq (nI 4) (nI 4) = true by decide]
        simp only [cond_true, cond_false]
        have := fin (KX xs 157 65 [.ref 245, .null] Q) (KX xs 157 60 [.ref 245, .null] Q)
        simp only [cond_true] at this
        exact this
      · rw [show icB .eq (nI 5) (nI 4) = false by decide, show icB .eq (nI 5) (nI 5) = true by decide]
        simp only [cond_true, cond_false]
        have := fin (KX xs 157 65 [.ref 245, .null] Q) (KX xs 157 60 [.ref 245, .null] Q)
        simp only [cond_true] at this
        exact this
      · rw [show icB .eq (nI 30) (nI 4) = false by decide, show icB .eq (nI 30) (nI 5) = false by decide, show icB .eq (nI 30) (nI 30) = true by decide]
        simp only [cond_true, cond_false]
        have := fin (KX xs 157 65 [.ref 245, .null] Q) (KX xs 157 60 [.ref 245, .null] Q)
        simp only [cond_true] at this
        exact this
