/-! append, of both -/
def okA (p : Int32) : Bool := !icB .lt p (nI 33) && !icB .gt p (nI 126)
theorem okA_t {p : Int32} (h : okA p = true) : ∃ w, 33 ≤ w ∧ w ≤ 126 ∧ p = nI w := by
  unfold okA at h
  rw [Bool.and_eq_true, Bool.not_eq_true', Bool.not_eq_true'] at h
  obtain ⟨h1, h2⟩ := h
  have h1 : ¬ p < nI 33 := of_decide_eq_false h1
  have h2 : ¬ nI 126 < p := of_decide_eq_false h2
  rcases pk_ix p (n := 127) (by decide) with q | q | ⟨w, q, rfl⟩
  · exact absurd (Int32.lt_of_lt_of_le q (by decide)) h1
  · exact absurd (Int32.lt_of_lt_of_le (nI_lt (by decide) (by decide)) q) h2
  · refine ⟨w, ?_, by omega, rfl⟩
    by_cases e0 : w < 33
    · exact absurd (nI_lt (by omega) (by decide)) h1
    · omega
theorem ch_1 {w : Nat} (h : w ≤ 126) : ((nI w).toUInt32 % 65536).toInt32 = nI w ∧ vp_nar .char (nI w) = nI w := by
  have : ∀ w : Fin 127, ((nI w.1).toUInt32 % 65536).toInt32 = nI w.1 ∧ vp_nar .char (nI w.1) = nI w.1 := by decide
  exact this ⟨w, by omega⟩
def apT (tl : Nat × Zt) (p : Int32) : Nat × Zt := (tl.1 + 1, uz tl.2 tl.1 p)
theorem Cst.app {I : In2} {ρ : Rh} {z : Zt} {s : Nat} {zs : Nat → Zt} {tl : Nat × Zt} {w : Nat} (hC : Cst I ρ z s zs tl) (h1 : 33 ≤ w) (h2 : w ≤ 126) (hl : tl.1 < 120) : Cst (up2 (up2 I 243 tl.1 (nI w)) 242 1 (nI (tl.1 + 1))) ρ z s zs (apT tl (nI w)) := by
  obtain ⟨g, h5, hs, ⟨σ, hσ, hz⟩, hl1, hc, ht⟩ := hC
  have fr : ∀ a k, a < 242 → up2 (up2 I 243 tl.1 (nI w)) 242 1 (nI (tl.1 + 1)) a k = I a k := fun a k ha => by rw [up2_ne (by omega), up2_ne (by omega)]
  refine ⟨g.fr fun o k ho => fr _ _ (by omega), by rw [fr _ _ (by omega)]; exact h5, hs, ⟨σ, hσ, fun j hj => (hz j hj).fr fun o k ho => fr _ _ ?_⟩, up2_at, ⟨hl, fun k hk => ?_⟩, fun k hk => ?_⟩
  · have := hσ.1 j (by omega); omega
  · have hk : k < tl.1 + 1 := hk
    show ∃ x, 33 ≤ x ∧ x ≤ 126 ∧ uz tl.2 tl.1 (nI w) k = nI x
    by_cases e : k = tl.1
    · rw [e, uz_at]; exact ⟨w, h1, h2, rfl⟩
    · rw [uz_ne e]; exact hc.2 k (by omega)
  · have hk : k < tl.1 + 1 := hk
    show _ = uz tl.2 tl.1 (nI w) k
    by_cases e : k = tl.1
    · rw [e, uz_at, up2_ne (by omega), up2_at]
    · rw [uz_ne e, up2_ne (by omega), up2_ne (by omega)]; exact ht k (by omega)
theorem k_append {xs : Scr} {I : In2} {ρ : Rh} {Q : Post} {z : Zt} {s : Nat} {zs : Nat → Zt} {tl : Nat × Zt} {p : Int32} (hW : Rw ρ) (hC : Cst I ρ z s zs tl)
    (hok : ∀ w, 33 ≤ w → w ≤ 126 → p = nI w → tl.1 < 120 → KOk Q I ρ (nI (tl.1 + 1)) z s zs (apT tl p)) (h1 : okA p = false → Q (.inr 2) (I, xR ρ)) (h2 : okA p = true → ¬ tl.1 < 120 → Q (.inr 3) (I, xR ρ)) : Ev xs 71 0 [.ref 0, .int p] [] (I, ρ) Q := by
  have hle : icB .le p (nI 126) = !icB .gt p (nI 126) := by
    show decide (p ≤ nI 126) = !decide (nI 126 < p)
    rw [← decide_not, decide_eq_decide]; exact Int32.not_lt.symm
  have hl1 := hC.tx.1
  have hl := hC.tx.2.1.1
  apply w_X4_append_0
  cases hA : okA p
  · have := h1 hA
    rw [gNN hW, excM_def, hle]
    revert hA this; unfold okA
    cases icB .lt p (nI 33)
    · cases icB .gt p (nI 126)
      · intro h; exact absurd h (by decide)
      · intro _ h; exact h
    · intro _ h; exact h
  · obtain ⟨w, w1, w2, rfl⟩ := okA_t hA
    have l1 : ¬ w < 33 := by omega
    obtain ⟨e1, e2⟩ := ch_1 w2
    have hL : (Nat.blt 243 (mN (I, ρ)) && (Nat.ble 5 (shp 243).1 && Nat.ble (shp 243).1 9)) = true := by rw [mN_def, show Nat.blt 243 ρ.2.2.1 = true from Nat.blt_eq.mpr (Nat.lt_of_lt_of_le (by decide) hW.1)]; rfl
    have hl2 : (shp 243).2 = 120 := rfl
    by_cases h120 : tl.1 < 120
    · have n0 : ¬ tl.1 < 0 := by omega
      have n120 : ¬ 120 ≤ tl.1 := by omega
      rw [e1]
      simp (maxSteps := 1000000) (disch := omega) only [↓QI_i, ↓QV_v, ↓QA_a, ↓QF_f, ↓QD_d, ↓QL_l, ↓Bool.cond_eq_ite, ↓reduceIte, decide_eq_true_eq, Bool.not_eq_true', Bool.true_and, Bool.and_true, Bool.and_self, gR_some, Option.getD_some, mI_def, setI_def, mR_def, not_false_eq_true, not_true_eq_false, Bool.false_eq_true, idx_nI, nI_add, pk_mul, icB_lt, icB_gt, icB_le, icB_ge, icB_eq, icB_ne, bI_ne, nI_eqI, gc_O hW, gc_T hW, gc_3 hW, hl1, l1, w2, h120]
      apply w_X3_add_0
      simp (maxSteps := 1000000) (disch := omega) only [↓QI_i, ↓QV_v, ↓QA_a, ↓QF_f, ↓QD_d, ↓QL_l, ↓Bool.cond_eq_ite, ↓reduceIte, decide_eq_true_eq, Bool.not_eq_true', Bool.true_and, Bool.and_true, Bool.and_self, gR_some, Option.getD_some, mI_def, setI_def, mR_def, not_false_eq_true, not_true_eq_false, Bool.false_eq_true, idx_nI, nI_add, pk_mul, icB_lt, icB_gt, icB_le, icB_ge, icB_eq, icB_ne, bI_ne, nI_eqI, gc_T hW, gc_5 hW, hL, hl2, hl1, n0, n120, gc_C hW, e2, up2_ne, gc_O hW, gc_3 hW, up2_at]
      exact hok w w1 w2 rfl h120 _ ρ hW rfl (hC.app w1 w2 h120) fun a k ha => by rw [up2_ne (by omega), up2_ne (by omega)]
    · rw [e1]
      simp (maxSteps := 1000000) (disch := omega) only [↓QI_i, ↓QV_v, ↓QA_a, ↓QF_f, ↓QD_d, ↓QL_l, ↓Bool.cond_eq_ite, ↓reduceIte, decide_eq_true_eq, Bool.not_eq_true', Bool.true_and, Bool.and_true, Bool.and_self, gR_some, Option.getD_some, mI_def, setI_def, mR_def, not_false_eq_true, not_true_eq_false, Bool.false_eq_true, idx_nI, nI_add, pk_mul, icB_lt, icB_gt, icB_le, icB_ge, icB_eq, icB_ne, bI_ne, nI_eqI, gc_O hW, gc_T hW, gc_3 hW, hl1, l1, w2, h120, gNN hW, excM_def]
      exact h2 hA h120
