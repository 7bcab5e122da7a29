/-! floats by their bits: what both sides compute -/
theorem e_isInRange {xs : Scr} {μ : Mem} {Q : Post} {p : Int32} : Ev xs 0 0 [.int p] [] μ Q ↔ Q (.inl (some (.int (bI (!icB .gt (p &&& nI 2147483647) (nI 1232348160)))))) μ := by
  apply Ev.dt; intro Q h; apply w_X0_isInRange_0
  cases hb : icB .gt (p &&& nI 2147483647) (nI 1232348160) <;> rw [hb] at h <;> exact h
theorem e_placeOf {xs : Scr} {μ : Mem} {Q : Post} {p : Int32} {o : Nat} (hp : InR p) (ho : o < 10) : Ev xs 42 0 [.int p, .int (nI o)] [] μ Q ↔ Q (.inl (some (.int (nI (cellF p o))))) μ := by
  apply Ev.dt; intro Q h; apply w_X2_placeOf_0
  refine (e_float hp).mpr ?_
  rw [QF_f]
  apply w_J9_floorMod_7cf53_0
  rw [show decide (¬ nI 16 = 0) = true by decide, cond_true, q_x16]
  rcases q_cell hp ho with ⟨h0, h1⟩ | ⟨h0, h1, h2⟩ | ⟨h0, h1, h2⟩
  · rw [decide_eq_true h0, cond_true, h1, QI_i]; exact h
  · rw [h2] at h
    rw [decide_eq_false (Int.not_le.mpr h0), cond_false, h1, show icB .eq (nI 0) (nI 0) = true by rfl, cond_true, QI_i]; exact h
  · have hne : ¬ (FP.f2i p.toUInt32 + nI o) - (FP.f2i p.toUInt32 + nI o) / nI 16 * nI 16 = nI 0 := by
      intro hh; rw [hh] at h2; exact absurd h2 (by decide)
    rw [decide_eq_false (Int.not_le.mpr h0), cond_false, icB_eq, decide_eq_false hne, cond_false, h1, QI_i]; exact h
theorem e_floatsResult {xs : Scr} {μ : Mem} {Q : Post} {k p q : Int32} (n : Int32) (hk : k = nI 1 ∨ k = nI 2) (hp : InR p) (hq : InR q) : Ev xs 3 0 [.int k, .int p, .int q, .int n] [] μ Q ↔ Q (.inl (some (.int (resF k p q)))) μ := by
  have hn := raw_nn (k := k) hp hq
  obtain ⟨hm, hz⟩ := lim_mag hn
  apply Ev.dt; intro Q h; apply w_X0_result_0
  unfold resF at h
  rcases hk with hk | hk
  · subst hk
    have er : rawF (nI 1) p q = FP.fadd p.toUInt32 q.toUInt32 := if_pos rfl
    rw [er] at hn hm hz h
    rw [show decide (nI 1 = nI 1) = true from decide_eq_true rfl, cond_true]
    refine (e_float hp).mpr ?_
    rw [QF_f]
    refine (e_float hq).mpr ?_
    rw [QF_f, q_nn32 hn, cond_true]
    refine (e_limited hn).mpr ?_
    rw [QF_f]
    refine (e_bitsOf hm).mpr ?_
    rw [QI_i]
    by_cases h0 : magF (limF (FP.fadd p.toUInt32 q.toUInt32)) = 0
    · have hs := hz h0
      rw [hs] at h0 h
      rw [hs, if_pos h0, z_add hp hq h0]; exact h
    · rw [if_neg h0]; exact h
  · subst hk
    have er : rawF (nI 2) p q = FP.fmul p.toUInt32 q.toUInt32 := if_neg (by decide)
    rw [er] at hn hm hz h
    rw [show decide (nI 2 = nI 1) = false by decide, cond_false, show decide (nI 2 = nI 2) = true from decide_eq_true rfl, cond_true]
    refine (e_float hp).mpr ?_
    rw [QF_f]
    refine (e_float hq).mpr ?_
    rw [QF_f, q_nn32 hn, cond_true]
    refine (e_limited hn).mpr ?_
    rw [QF_f]
    refine (e_bitsOf hm).mpr ?_
    rw [QI_i]
    by_cases h0 : magF (limF (FP.fmul p.toUInt32 q.toUInt32)) = 0
    · have hs := hz h0
      rw [hs] at h0 h
      rw [hs, if_pos h0, z_mul hp hq h0]; exact h
    · rw [if_neg h0]; exact h
theorem e_floatsSet {xs : Scr} {μ : Mem} {Q : Post} {k p q n : Int32} (hk : k = nI 0) (hn : SetOk n) : Ev xs 3 0 [.int k, .int p, .int q, .int n] [] μ Q ↔ Q (.inl (some (.int (setF n)))) μ := by
  obtain ⟨hm, hz⟩ := set_ok hn
  have nv := nn_of_mag hm
  subst hk
  apply Ev.dt; intro Q h; apply w_X0_result_0
  rw [show decide (nI 0 = nI 1) = false by decide, cond_false, show decide (nI 0 = nI 2) = false by decide, cond_false, q_nn32 nv, cond_true]
  refine (e_bitsOf hm).mpr ?_
  rw [QI_i]
  unfold setF at h
  by_cases h0 : magF (FP.fdiv (FP.i2f n) (UInt32.ofNat 1082130432)) = 0
  · rw [if_pos h0]
    rw [hz h0] at h; exact h
  · rw [if_neg h0]; exact h

