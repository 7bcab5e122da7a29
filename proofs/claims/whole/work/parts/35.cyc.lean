/-! the reference's cycle: what it does to its numbers -/
theorem e_retire {xs : Scr} {I : In2} {ρ : Rh} {Q : Post} {z : Zt} (hW : Rw ρ) {a b n : Nat} (h0 : Inv z a b n) (hab : a < b) (hs : pt z a 7 = nI 2) : Ev xs 126 0 [.ref 245, .null] [] (pz I z, ρ) Q ↔ Q (.inl none) (pz I (rtF z a), ρ) := by
  have hb := h0.1.bnd
  obtain ⟨hw, d, hd3, hd, _⟩ := h0.1.row (i := a) (by omega)
  have h3 := h0.1.h3
  have key : (pt z a 0 = nI 4 ∧ ∃ x, x < 16 ∧ pt z a 9 = nI x) ∨ (¬ pt z a 0 = nI 4 ∧ ∃ x, x < 8 ∧ pt z a 1 = nI x) := by
    by_cases hk : pt z a 0 = nI 4
    · left; refine ⟨hk, ?_⟩
      rcases h0.2 a (Nat.le_refl a) hab with e | ⟨e, _⟩ | ⟨_, e⟩
      · rw [hs] at e; exact absurd e (not_nI (by decide) (by decide) (by decide))
      · rw [hs] at e; exact absurd e (not_nI (by decide) (by decide) (by decide))
      · exact e (Or.inr hk)
    · right; exact ⟨hk, hw.tgt hk⟩
  rcases key with ⟨hk, x, hx, hxe⟩ | ⟨hk, x, hx, hxe⟩
  · rcases d with _ | d
    · apply Ev.dt; intro Q h; apply w_X5_retire_0
      try simp (disch := omega) only [mR_def, Option.getD_some, mI_def, idx_nI, setI_def, nI_add, pk_mul, gz_R0 hW, pz_at, up2_pz, h3, hd, hk, hxe]
      simp (maxSteps := 1000000) (disch := omega) only [↓QI_i, ↓QV_v, ↓QA_a, ↓QF_f, ↓QD_d, ↓QL_l, ↓Bool.cond_eq_ite, ↓reduceIte, decide_eq_true_eq, Bool.not_eq_true', Bool.true_and, Bool.and_true, Bool.and_self, gR_some, Option.getD_some, mI_def, setI_def, mR_def, not_false_eq_true, not_true_eq_false, Bool.false_eq_true, idx_nI, nI_add, pk_mul, icB_lt, icB_gt, icB_le, icB_ge, icB_eq, icB_ne, bI_ne, nI_eqI, gz_O hW, gz_R0 hW, gz_A hW, up2_pz, pz_at, uz_at, uz_ne, pt_uz, lay_lo, pt_le, pt_ln, pt_lj, h3, ↓e_of hW, e_of hW, ↓e_lay hW, e_lay hW, hd, hk, hxe]
      simp (disch := omega) only [rtF, hk, hd, hxe, idx_nI, if_true] at h
      exact h
    · apply Ev.dt; intro Q h; apply w_X5_retire_0
      try simp (disch := omega) only [mR_def, Option.getD_some, mI_def, idx_nI, setI_def, nI_add, pk_mul, gz_R0 hW, pz_at, up2_pz, h3, hd, hk, hxe, Nat.le_zero_eq, Nat.add_one_ne_zero, nI_sub1]
      simp (maxSteps := 1000000) (disch := omega) only [↓QI_i, ↓QV_v, ↓QA_a, ↓QF_f, ↓QD_d, ↓QL_l, ↓Bool.cond_eq_ite, ↓reduceIte, decide_eq_true_eq, Bool.not_eq_true', Bool.true_and, Bool.and_true, Bool.and_self, gR_some, Option.getD_some, mI_def, setI_def, mR_def, not_false_eq_true, not_true_eq_false, Bool.false_eq_true, idx_nI, nI_add, pk_mul, icB_lt, icB_gt, icB_le, icB_ge, icB_eq, icB_ne, bI_ne, nI_eqI, gz_O hW, gz_R0 hW, gz_A hW, up2_pz, pz_at, uz_at, uz_ne, pt_uz, lay_lo, pt_le, pt_ln, pt_lj, h3, ↓e_of hW, e_of hW, ↓e_lay hW, e_lay hW, hd, hk, hxe, Nat.le_zero_eq, Nat.add_one_ne_zero, nI_sub1]
      simp (disch := omega) only [rtF, hk, hd, hxe, idx_nI, if_true, Nat.add_sub_cancel] at h
      exact h
  · rcases d with _ | d
    · apply Ev.dt; intro Q h; apply w_X5_retire_0
      try simp (disch := omega) only [mR_def, Option.getD_some, mI_def, idx_nI, setI_def, nI_add, pk_mul, gz_R0 hW, pz_at, up2_pz, h3, hd, hk, hxe]
      simp (maxSteps := 1000000) (disch := omega) only [↓QI_i, ↓QV_v, ↓QA_a, ↓QF_f, ↓QD_d, ↓QL_l, ↓Bool.cond_eq_ite, ↓reduceIte, decide_eq_true_eq, Bool.not_eq_true', Bool.true_and, Bool.and_true, Bool.and_self, gR_some, Option.getD_some, mI_def, setI_def, mR_def, not_false_eq_true, not_true_eq_false, Bool.false_eq_true, idx_nI, nI_add, pk_mul, icB_lt, icB_gt, icB_le, icB_ge, icB_eq, icB_ne, bI_ne, nI_eqI, gz_O hW, gz_R0 hW, gz_A hW, up2_pz, pz_at, uz_at, uz_ne, pt_uz, lay_lo, pt_le, pt_ln, pt_lj, h3, ↓e_of hW, e_of hW, ↓e_lay hW, e_lay hW, hd, hk, hxe]
      simp (disch := omega) only [rtF, hk, hd, hxe, idx_nI, if_false] at h
      exact h
    · apply Ev.dt; intro Q h; apply w_X5_retire_0
      try simp (disch := omega) only [mR_def, Option.getD_some, mI_def, idx_nI, setI_def, nI_add, pk_mul, gz_R0 hW, pz_at, up2_pz, h3, hd, hk, hxe, Nat.le_zero_eq, Nat.add_one_ne_zero, nI_sub1]
      simp (maxSteps := 1000000) (disch := omega) only [↓QI_i, ↓QV_v, ↓QA_a, ↓QF_f, ↓QD_d, ↓QL_l, ↓Bool.cond_eq_ite, ↓reduceIte, decide_eq_true_eq, Bool.not_eq_true', Bool.true_and, Bool.and_true, Bool.and_self, gR_some, Option.getD_some, mI_def, setI_def, mR_def, not_false_eq_true, not_true_eq_false, Bool.false_eq_true, idx_nI, nI_add, pk_mul, icB_lt, icB_gt, icB_le, icB_ge, icB_eq, icB_ne, bI_ne, nI_eqI, gz_O hW, gz_R0 hW, gz_A hW, up2_pz, pz_at, uz_at, uz_ne, pt_uz, lay_lo, pt_le, pt_ln, pt_lj, h3, ↓e_of hW, e_of hW, ↓e_lay hW, e_lay hW, hd, hk, hxe, Nat.le_zero_eq, Nat.add_one_ne_zero, nI_sub1]
      simp (disch := omega) only [rtF, hk, hd, hxe, idx_nI, if_false, Nat.add_sub_cancel] at h
      exact h
theorem DsR.dec {k : Int32} {d : Int32} (h : DsR k d) : DsR k (nI (idx d - 1)) := by
  obtain ⟨x, h1, h2, h3⟩ := h
  rw [h2, idx_nI (by omega)]
  exact ⟨x - 1, by omega, rfl, fun hk => by rw [h3 hk]⟩
theorem Inv_rtF {z : Zt} {a b n : Nat} (h0 : Inv z a b n) (hab : a < b) (hs : pt z a 7 = nI 2) : Inv (rtF z a) (a + 1) b n := by
  have hb := h0.1.bnd
  obtain ⟨hw, hd⟩ := h0.1.row (i := a) (by omega)
  have hv := h0.1.val (i := a) (by omega)
  have hI1 : Inv (if pt z a 0 = nI 4 then uz z (20 + idx (pt z a 9)) (pt z a 11) else uz z (12 + idx (pt z a 1)) (pt z a 11)) a b n ∧ pt (if pt z a 0 = nI 4 then uz z (20 + idx (pt z a 9)) (pt z a 11) else uz z (12 + idx (pt z a 1)) (pt z a 11)) a 0 = pt z a 0 ∧ (if pt z a 0 = nI 4 then uz z (20 + idx (pt z a 9)) (pt z a 11) else uz z (12 + idx (pt z a 1)) (pt z a 11)) 6 = z 6 := by
    by_cases hk : pt z a 0 = nI 4
    · obtain ⟨x, hx, he⟩ : ∃ x, x < 16 ∧ pt z a 9 = nI x := by
        rcases h0.2 a (Nat.le_refl a) hab with e | ⟨e, _⟩ | ⟨_, e⟩
        · rw [hs] at e; exact absurd e (not_nI (by decide) (by decide) (by decide))
        · rw [hs] at e; exact absurd e (not_nI (by decide) (by decide) (by decide))
        · exact e (Or.inr hk)
      rw [if_pos hk, he, idx_nI (by omega)]
      exact ⟨⟨h0.1.wv (by omega) hv, h0.2.wu (by omega)⟩, pt_uz (by omega), uz_ne (by omega)⟩
    · obtain ⟨x, hx, he⟩ := hw.tgt hk
      rw [if_neg hk, he, idx_nI (by omega)]
      exact ⟨⟨h0.1.wv (by omega) hv, h0.2.wu (by omega)⟩, pt_uz (by omega), uz_ne (by omega)⟩
  obtain ⟨hI1, hp0, -⟩ := hI1
  unfold rtF
  have hI2 : Inv0 _ a b n := hI1.1.wl (i := a) (f := 5) (v := nI (idx (pt z a 5) - 1)) (by decide) (fun _ _ => by rw [hp0]; exact hd.dec) (fun h => by cases h)
  have hE2 := hI1.2.wl (i := a) (f := 5) (v := nI (idx (pt z a 5) - 1)) (by decide)
  refine ⟨(hI2.w3 (a' := a + 1) (by omega)).wc (by decide), ?_⟩
  refine Ent.wu (Ent.wu (fun j h1 h2 => hE2 j (by omega) h2) (by decide)) (by decide)
theorem anyB_snoc {P : Nat → Bool} : ∀ {n i : Nat}, anyB P (n + 1) i = (anyB P n i || P (i + n)) := by
  intro n
  induction n with
  | zero => intro i; simp [anyB]
  | succ n ih => intro i; rw [anyB, ih, anyB, Bool.or_assoc, show i + 1 + n = i + (n + 1) by omega]
theorem e_fl34 {xs : Scr} {I : In2} {ρ : Rh} {z : Zt} (hW : Rw ρ) {a i cell : Nat} (hi : i < 24) (hc : cell < 16) : ∀ {d k : Nat} {v6 : Value} {Q : Post}, k + d = i → a ≤ k → Q (.inl none) (pz I (fnE z a i cell), ρ) → Ev xs 127 34 [.ref 245, .int (nI i), .int (nI cell), .int (oI (lat (alP z (nI cell)) a k)), .int (bI (anyB (opP z) (k - a) a)), .int (nI k), v6] [] (pz I z, ρ) Q := by
  intro d
  induction d with
  | zero =>
    intro k v6 Q hk ha h
    obtain rfl : k = i := hk
    apply w_X5_finishLoad_34
    unfold fnE opn at h
    cases hal : lat (alP z (nI cell)) a k with
    | none =>
      rw [hal] at h
      simp (disch := omega) only [↓QI_i, ↓QV_v, ↓QA_a, ↓QF_f, ↓QD_d, ↓QL_l, ↓Bool.cond_eq_ite, ↓reduceIte, decide_eq_true_eq, Bool.not_eq_true', Bool.true_and, Bool.and_true, Bool.and_self, gR_some, Option.getD_some, mI_def, setI_def, mR_def, not_false_eq_true, not_true_eq_false, Bool.false_eq_true, idx_nI, nI_add, pk_mul, icB_lt, icB_gt, icB_le, icB_ge, icB_eq, icB_ne, bI_ne, nI_eqI, gz_O hW, gz_R0 hW, gz_A hW, up2_pz, pz_at, uz_at, uz_ne, pt_uz, lay_lo, pt_le, pt_ln, pt_lj, ↓e_lay hW, e_lay hW, oI_none, Nat.le_refl] at h ⊢
      revert h; cases anyB (opP z) (k - a) a <;> simp [bI_t, bI_f]
    | some j =>
      have hj := (lat_some hal).2.1
      rw [hal] at h
      simp (disch := omega) only [↓QI_i, ↓QV_v, ↓QA_a, ↓QF_f, ↓QD_d, ↓QL_l, ↓Bool.cond_eq_ite, ↓reduceIte, decide_eq_true_eq, Bool.not_eq_true', Bool.true_and, Bool.and_true, Bool.and_self, gR_some, Option.getD_some, mI_def, setI_def, mR_def, not_false_eq_true, not_true_eq_false, Bool.false_eq_true, idx_nI, nI_add, pk_mul, icB_lt, icB_gt, icB_le, icB_ge, icB_eq, icB_ne, bI_ne, nI_eqI, gz_O hW, gz_R0 hW, gz_A hW, up2_pz, pz_at, uz_at, uz_ne, pt_uz, lay_lo, pt_le, pt_ln, pt_lj, ↓e_lay hW, e_lay hW, ↓e_of hW, e_of hW, oI_some, nM_ne', Nat.le_refl] at h ⊢
      revert h; cases anyB (opP z) (k - a) a <;> simp [bI_t, bI_f]
  | succ d ih =>
    intro k v6 Q hk ha h
    have hl : lat (alP z (nI cell)) a (k + 1) = if alP z (nI cell) k = true then some k else lat (alP z (nI cell)) a k := by rw [lat, if_pos ha]
    have ho : anyB (opP z) (k + 1 - a) a = (anyB (opP z) (k - a) a || opP z k) := by rw [show k + 1 - a = (k - a) + 1 by omega, anyB_snoc, show a + (k - a) = k by omega]
    have hih : ∀ v6, _ := fun v6 => ih (k := k + 1) (v6 := v6) (Q := Q) (by omega) (by omega) h
    rw [hl, ho] at hih
    have hki : ¬ i ≤ k := by omega
    apply w_X5_finishLoad_34
    unfold alP opP at hih
    by_cases h7 : pt z k 7 = nI 2 <;> by_cases h0 : pt z k 0 = nI 4 <;> by_cases h9 : pt z k 9 = nI cell <;> cases hb : anyB (opP z) (k - a) a <;>
      (rw [show anyB (fun k => decide (pt z k 0 = nI 4) && decide (¬ pt z k 7 = nI 2)) (k - a) a = anyB (opP z) (k - a) a from rfl, hb] at hih
       simp (maxSteps := 1000000) (disch := omega) only [↓QI_i, ↓QV_v, ↓QA_a, ↓QF_f, ↓QD_d, ↓QL_l, ↓Bool.cond_eq_ite, ↓reduceIte, decide_eq_true_eq, Bool.not_eq_true', Bool.true_and, Bool.and_true, Bool.and_self, gR_some, Option.getD_some, mI_def, setI_def, mR_def, not_false_eq_true, not_true_eq_false, Bool.false_eq_true, idx_nI, nI_add, pk_mul, icB_lt, icB_gt, icB_le, icB_ge, icB_eq, icB_ne, bI_ne, nI_eqI, gz_O hW, gz_R0 hW, gz_A hW, up2_pz, pz_at, ↓e_of hW, e_of hW, hki, h7, h0, h9, Bool.true_eq_false]
       simp [h7, h0, h9, bI_t, bI_f, oI_some] at hih ⊢
       exact hih _)
