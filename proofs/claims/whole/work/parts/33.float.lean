/-! floats by their bits: what both sides compute -/
theorem e_nan32 {xs : Scr} {μ : Mem} {Q : Post} {v : UInt32} (nv : Jvm.FP.Core.val32 v ≠ .nan) : Ev xs 190 0 [.float v] [] μ Q ↔ Q (.inl (some (.int (nI 0)))) μ := by
  apply Ev.dt; intro Q h; apply w_Jxf58ca_isNaN_12338_0
  rw [q_eq (Jvm.FP.Core.fcmp_key nv nv), decide_eq_true rfl, cond_true]; exact h
theorem e_f2bits {xs : Scr} {μ : Mem} {Q : Post} {v : UInt32} (nv : Jvm.FP.Core.val32 v ≠ .nan) : Ev xs 191 0 [.float v] [] μ Q ↔ Q (.inl (some (.int v.toInt32))) μ := by
  apply Ev.dt; intro Q h; apply w_Jxf58ca_floatToIntBits_5c35a_0
  refine (e_nan32 nv).mpr ?_
  rw [QI_i, show icB .ne (nI 0) (nI 0) = false from rfl, cond_false]; exact h
theorem e_cellOf {xs : Scr} {μ : Mem} {Q : Post} {p : Int32} {o : Nat} (hp : InR p) (ho : o < 10) : Ev xs 123 0 [.int p, .int (nI o), .null] [] μ Q ↔ Q (.inl (some (.int (nI (cellF p o))))) μ := by
  apply Ev.dt; intro Q h; apply w_X5_cellOf_0
  have hn := InR_iff.mp hp
  have hc := cellF_lt p o
  rw [show decide (vn_sni2f p = false) = true from decide_eq_true (q_sn (by omega)), cond_true, show decide (¬ nI 16 = 0) = true by decide, cond_true, q_ge0]
  rcases q_cell hp ho with ⟨-, h1⟩ | ⟨-, h1, h2⟩ | ⟨-, h1, h2⟩
  · rw [h1, decide_eq_true (show 0 ≤ (nI (cellF p o)).toInt by rw [nI_toInt (by omega)]; omega), cond_true]; exact h
  · rw [h2] at h
    rw [h1, decide_eq_true (show 0 ≤ (nI 0).toInt by decide), cond_true]; exact h
  · rw [decide_eq_false (Int.not_le.mpr h2), cond_false, h1]; exact h
theorem e_result {xs : Scr} {μ : Mem} {Q : Post} {k p q : Int32} (hp : InR p) (hq : InR q) : Ev xs 124 0 [.int k, .int p, .int q, .null, .null, .null] [] μ Q ↔ Q (.inl (some (.int (resF k p q)))) μ := by
  apply Ev.dt; intro Q h; apply w_X5_result_0
  have hn := InR_iff.mp hp
  have hm := InR_iff.mp hq
  have nv := raw_nn (k := k) hp hq
  rw [show decide (vn_sni2f p = false) = true from decide_eq_true (q_sn (by omega)), cond_true, show decide (vn_sni2f q = false) = true from decide_eq_true (q_sn (by omega)), cond_true]
  unfold resF at h
  by_cases hk : k = nI 1
  · have er : rawF k p q = FP.fadd p.toUInt32 q.toUInt32 := if_pos hk
    rw [er] at nv h
    rw [lim_key nv] at h
    rw [show icB .ne k (nI 1) = false from decide_eq_false (fun hh => hh hk), cond_false, q_nn32 nv, cond_true, q_le (c_L nv), q_ge (c_M nv)]
    by_cases h1 : 1232348160 < Jvm.FP.Core.fkey (FP.fadd p.toUInt32 q.toUInt32)
    · rw [if_pos h1] at h
      rw [decide_eq_false (show ¬ Jvm.FP.Core.fkey (FP.fadd p.toUInt32 q.toUInt32) ≤ 1232348160 by omega), cond_false]
      refine (e_f2bits L_nn).mpr ?_
      rw [QI_i]; exact h
    · rw [if_neg h1] at h
      rw [decide_eq_true (show Jvm.FP.Core.fkey (FP.fadd p.toUInt32 q.toUInt32) ≤ 1232348160 by omega), cond_true]
      by_cases h2 : Jvm.FP.Core.fkey (FP.fadd p.toUInt32 q.toUInt32) < -1232348160
      · rw [if_pos h2] at h
        rw [decide_eq_false (show ¬ -1232348160 ≤ Jvm.FP.Core.fkey (FP.fadd p.toUInt32 q.toUInt32) by omega), cond_false]
        refine (e_f2bits M_nn).mpr ?_
        rw [QI_i]; exact h
      · rw [if_neg h2] at h
        rw [decide_eq_true (show -1232348160 ≤ Jvm.FP.Core.fkey (FP.fadd p.toUInt32 q.toUInt32) by omega), cond_true]
        refine (e_f2bits nv).mpr ?_
        rw [QI_i]; exact h
  · have er : rawF k p q = FP.fmul p.toUInt32 q.toUInt32 := if_neg hk
    rw [er] at nv h
    rw [lim_key nv] at h
    rw [show icB .ne k (nI 1) = true from decide_eq_true hk, cond_true, q_nn32 nv, cond_true, q_le (c_L nv), q_ge (c_M nv)]
    by_cases h1 : 1232348160 < Jvm.FP.Core.fkey (FP.fmul p.toUInt32 q.toUInt32)
    · rw [if_pos h1] at h
      rw [decide_eq_false (show ¬ Jvm.FP.Core.fkey (FP.fmul p.toUInt32 q.toUInt32) ≤ 1232348160 by omega), cond_false]
      refine (e_f2bits L_nn).mpr ?_
      rw [QI_i]; exact h
    · rw [if_neg h1] at h
      rw [decide_eq_true (show Jvm.FP.Core.fkey (FP.fmul p.toUInt32 q.toUInt32) ≤ 1232348160 by omega), cond_true]
      by_cases h2 : Jvm.FP.Core.fkey (FP.fmul p.toUInt32 q.toUInt32) < -1232348160
      · rw [if_pos h2] at h
        rw [decide_eq_false (show ¬ -1232348160 ≤ Jvm.FP.Core.fkey (FP.fmul p.toUInt32 q.toUInt32) by omega), cond_false]
        refine (e_f2bits M_nn).mpr ?_
        rw [QI_i]; exact h
      · rw [if_neg h2] at h
        rw [decide_eq_true (show -1232348160 ≤ Jvm.FP.Core.fkey (FP.fmul p.toUInt32 q.toUInt32) by omega), cond_true]
        refine (e_f2bits nv).mpr ?_
        rw [QI_i]; exact h
theorem e_setTo {xs : Scr} {μ : Mem} {Q : Post} {n : Int32} (hn : SetOk n) : Ev xs 125 0 [.int n] [] μ Q ↔ Q (.inl (some (.int (setF n)))) μ := by
  apply Ev.dt; intro Q h; apply w_X5_setTo_0
  have nv := nn_of_mag (set_ok hn).1
  rw [q_nn32 nv, cond_true]
  refine (e_f2bits nv).mpr ?_
  rw [QI_i]; exact h
theorem e_isValue {xs : Scr} {μ : Mem} {Q : Post} {p : Int32} : Ev xs 113 0 [.int p, .null] [] μ Q ↔ Q (.inl (some (.int (bI (!icB .gt (p &&& nI 2147483647) (nI 1232348160)))))) μ := by
  apply Ev.dt; intro Q h; apply w_X5_isValue_0
  have hl := q_mlt p.toUInt32
  rw [q_mag, icB_gt hl (by decide)] at h
  rw [q_mag, icB_le hl (by decide)]
  by_cases h1 : magF p.toUInt32 ≤ 2139095040
  · have nv : Jvm.FP.Core.val32 p.toUInt32 ≠ .nan := (Jvm.FP.Core.ne_nan32 _).mpr h1
    rw [decide_eq_true h1, cond_true, show decide (vn_sni2f p = false) = true from decide_eq_true (q_sn h1), cond_true, q_lt (c_M nv), q_gt (c_L nv)]
    by_cases h2 : 1232348160 < magF p.toUInt32
    · rw [decide_eq_true h2] at h
      by_cases h3 : Jvm.FP.Core.fkey p.toUInt32 < -1232348160
      · rw [decide_eq_true h3]; exact h
      · have h4 : 1232348160 < Jvm.FP.Core.fkey p.toUInt32 := by
          rcases Int.lt_or_le 1232348160 (Jvm.FP.Core.fkey p.toUInt32) with hh | hh
          · exact hh
          · exact absurd (key_mag.mp ⟨by omega, hh⟩) (by omega)
        rw [decide_eq_false h3, decide_eq_true h4]; exact h
    · rw [decide_eq_false h2] at h
      have hk := key_mag.mpr (show magF p.toUInt32 ≤ 1232348160 by omega)
      rw [decide_eq_false (show ¬ Jvm.FP.Core.fkey p.toUInt32 < -1232348160 by omega), decide_eq_false (show ¬ 1232348160 < Jvm.FP.Core.fkey p.toUInt32 by omega)]; exact h
  · rw [decide_eq_false h1, cond_false]
    rw [decide_eq_true (show 1232348160 < magF p.toUInt32 by omega)] at h; exact h
theorem e_isInRange {xs : Scr} {μ : Mem} {Q : Post} {p : Int32} : Ev xs 0 0 [.int p] [] μ Q ↔ Q (.inl (some (.int (bI (!icB .gt (p &&& nI 2147483647) (nI 1232348160)))))) μ := by
  apply Ev.dt; intro Q h; apply w_X0_isInRange_0
  cases hb : icB .gt (p &&& nI 2147483647) (nI 1232348160) <;> rw [hb] at h <;> exact h
theorem e_placeOf {xs : Scr} {μ : Mem} {Q : Post} {p : Int32} {o : Nat} (hp : InR p) (ho : o < 10) : Ev xs 42 0 [.int p, .int (nI o)] [] μ Q ↔ Q (.inl (some (.int (nI (cellF p o))))) μ := by
  apply Ev.dt; intro Q h; apply w_X2_placeOf_0
  refine (e_float hp).mpr ?_
  rw [QF_f]
  apply w_J9_floorMod_7cf53_0
  rw [show decide (¬ nI 16 = 0) = true by decide, cond_true, q_x16]
  rcases q_cell hp ho with ⟨h0, h1⟩ | ⟨h0, h1, h2⟩ | ⟨h0, h1, h2⟩
  · rw [decide_eq_true h0, cond_true, h1, QI_i]; exact h
  · rw [h2] at h
    rw [decide_eq_false (Int.not_le.mpr h0), cond_false, h1, show icB .eq (nI 0) (nI 0) = true by rfl, cond_true, QI_i]; exact h
  · have hne : ¬ (FP.f2i p.toUInt32 + nI o) - (FP.f2i p.toUInt32 + nI o) / nI 16 * nI 16 = nI 0 := by
      intro hh; rw [hh] at h2; exact absurd h2 (by decide)
    rw [decide_eq_false (Int.not_le.mpr h0), cond_false, icB_eq, decide_eq_false hne, cond_false, h1, QI_i]; exact h
theorem e_floatsResult {xs : Scr} {μ : Mem} {Q : Post} {k p q : Int32} (n : Int32) (hk : k = nI 1 ∨ k = nI 2) (hp : InR p) (hq : InR q) : Ev xs 3 0 [.int k, .int p, .int q, .int n] [] μ Q ↔ Q (.inl (some (.int (resF k p q)))) μ := by
  have hn := raw_nn (k := k) hp hq
  obtain ⟨hm, hz⟩ := lim_mag hn
  apply Ev.dt; intro Q h; apply w_X0_result_0
  unfold resF at h
  rcases hk with hk | hk
  · subst hk
    have er : rawF (nI 1) p q = FP.fadd p.toUInt32 q.toUInt32 := if_pos rfl
    rw [er] at hn hm hz h
    rw [show decide (nI 1 = nI 1) = true from decide_eq_true rfl, cond_true]
    refine (e_float hp).mpr ?_
    rw [QF_f]
    refine (e_float hq).mpr ?_
    rw [QF_f, q_nn32 hn, cond_true]
    refine (e_limited hn).mpr ?_
    rw [QF_f]
    refine (e_bitsOf hm).mpr ?_
    rw [QI_i]
    by_cases h0 : magF (limF (FP.fadd p.toUInt32 q.toUInt32)) = 0
    · have hs := hz h0
      rw [hs] at h0 h
      rw [hs, if_pos h0, z_add hp hq h0]; exact h
    · rw [if_neg h0]; exact h
  · subst hk
    have er : rawF (nI 2) p q = FP.fmul p.toUInt32 q.toUInt32 := if_neg (by decide)
    rw [er] at hn hm hz h
    rw [show decide (nI 2 = nI 1) = false by decide, cond_false, show decide (nI 2 = nI 2) = true from decide_eq_true rfl, cond_true]
    refine (e_float hp).mpr ?_
    rw [QF_f]
    refine (e_float hq).mpr ?_
    rw [QF_f, q_nn32 hn, cond_true]
    refine (e_limited hn).mpr ?_
    rw [QF_f]
    refine (e_bitsOf hm).mpr ?_
    rw [QI_i]
    by_cases h0 : magF (limF (FP.fmul p.toUInt32 q.toUInt32)) = 0
    · have hs := hz h0
      rw [hs] at h0 h
      rw [hs, if_pos h0, z_mul hp hq h0]; exact h
    · rw [if_neg h0]; exact h
theorem e_floatsSet {xs : Scr} {μ : Mem} {Q : Post} {k p q n : Int32} (hk : k = nI 0) (hn : SetOk n) : Ev xs 3 0 [.int k, .int p, .int q, .int n] [] μ Q ↔ Q (.inl (some (.int (setF n)))) μ := by
  obtain ⟨hm, hz⟩ := set_ok hn
  have nv := nn_of_mag hm
  subst hk
  apply Ev.dt; intro Q h; apply w_X0_result_0
  rw [show decide (nI 0 = nI 1) = false by decide, cond_false, show decide (nI 0 = nI 2) = false by decide, cond_false, q_nn32 nv, cond_true]
  refine (e_bitsOf hm).mpr ?_
  rw [QI_i]
  unfold setF at h
  by_cases h0 : magF (FP.fdiv (FP.i2f n) (UInt32.ofNat 1082130432)) = 0
  · rw [if_pos h0]
    rw [hz h0] at h; exact h
  · rw [if_neg h0]; exact h
