/-! a float out of its bits -/
theorem v_pw : ∀ j : Fin 31, FP.i2d (nI 1 <<< (nI j.1 &&& 31)) = xD 1 ((j.1 : Nat) : Int) := by decide +kernel
theorem v_p {j : Nat} (h : j < 31) : FP.i2d (nI 1 <<< (nI j &&& 31)) = xD 1 (j : Int) := v_pw ⟨j, h⟩
theorem v_div {c s m : Nat} (hc : c < 2 ^ 24) (hs : s ≤ 200) (hm : m ≤ 30) : FP.ddiv (xD c (-(s : Int))) (xD 1 (m : Int)) = xD c (-((s + m : Nat) : Int)) := (div_xD (j := m) hm (by omega) (by omega) (by omega)).trans (congrArg (xD c) (by omega))
theorem q_m30 {m : Nat} (h : m ≤ 200) : (nI m + Int32.ofInt (-30)).toInt = (m : Int) - 30 := by
  rw [Int32.toInt_add, nI_toInt (by omega), show (Int32.ofInt (-30)).toInt = -30 by decide]; exact Int.bmod_eq_of_le (by omega) (by omega)
theorem v_end {xs : Scr} {μ : Mem} {p v1 v2 v5 v6 : Int32} {Q : Post} (hn : magF p.toUInt32 ≤ 1232348160) (h6 : v6.toInt ≤ 0) (hq : Q (.inl (some (.float p.toUInt32))) μ) : Ev xs 1 47 [.int p, .int v1, .int v2, .double (xD (fC (magF p.toUInt32)) (-(fH (magF p.toUInt32) : Int))), .null, .int v5, .int v6] [] μ Q := by
  obtain ⟨b1, b2, b3⟩ := split_bits p.toUInt32
  have hb : (p.toUInt32 &&& 2147483647).toNat ≤ 1232348160 := by rw [b3]; exact hn
  have e2 : FP.d2f (xD (fC (magF p.toUInt32)) (-(fH (magF p.toUInt32) : Int))) = p.toUInt32 &&& 2147483647 := by
    rw [q_d2f nn_xD, ← b3]; exact d2f_bits hb
  apply w_X0_valueOf_47
  rw [e2, show icB .le v6 (nI 0) = true from decide_eq_true (Int32.le_iff_toInt_le.mpr (by rw [show (nI 0).toInt = 0 by decide]; exact h6)), q_nn32 (fl_nn hb), cond_true, cond_true]
  by_cases hs : p.toUInt32.toNat < 2 ^ 31
  · rw [show icB .ge p (nI 0) = true from decide_eq_true (q_sg.mpr hs), cond_true, ← b2 hs]; exact hq
  · rw [show icB .ge p (nI 0) = false from decide_eq_false (fun h => hs (q_sg.mp h)), cond_false, (q_negs (by omega)).2]; exact hq
theorem v_loop {xs : Scr} {μ : Mem} {p v1 v2 v5 : Int32} (hn : magF p.toUInt32 ≤ 1232348160) : ∀ {k : Nat} {l : Int} {s : Nat} {v6 : Int32} {Q : Post}, l ≤ 30 * (k : Int) → l ≤ 150 → (s : Int) + max l 0 = fH (magF p.toUInt32) → v6.toInt = l → Q (.inl (some (.float p.toUInt32))) μ → Ev xs 1 47 [.int p, .int v1, .int v2, .double (xD (fC (magF p.toUInt32)) (-(s : Int))), .null, .int v5, .int v6] [] μ Q := by
  have hc := fC_lt (magF p.toUInt32)
  have hH := fH_b hn
  have hend : ∀ {l : Int} {s : Nat} {v6 : Int32} {Q : Post}, l ≤ 0 → (s : Int) + max l 0 = fH (magF p.toUInt32) → v6.toInt = l → Q (.inl (some (.float p.toUInt32))) μ → Ev xs 1 47 [.int p, .int v1, .int v2, .double (xD (fC (magF p.toUInt32)) (-(s : Int))), .null, .int v5, .int v6] [] μ Q := by
    intro l s v6 Q h2 h4 h5 hq
    have hs : s = fH (magF p.toUInt32) := by omega
    subst hs
    exact v_end hn (by omega) hq
  intro k
  induction k with
  | zero =>
    intro l s v6 Q h2 h3 h4 h5 hq
    exact hend (by omega) h4 h5 hq
  | succ k ih =>
    intro l s v6 Q h2 h3 h4 h5 hq
    by_cases h0 : l ≤ 0
    · exact hend h0 h4 h5 hq
    · obtain ⟨m, rfl⟩ : ∃ m : Nat, l = (m : Int) := ⟨l.toNat, by omega⟩
      have e6 : v6 = nI m := Int32.toInt_inj.mp (by rw [h5, nI_toInt (by omega)])
      subst e6
      apply w_X0_valueOf_47
      rw [icB_le (by omega) (by decide), icB_ge (by omega) (by decide), decide_eq_false (show ¬ m ≤ 0 by omega), cond_false]
      by_cases h30 : 30 ≤ m
      · rw [decide_eq_true h30, cond_true, v_p (j := 30) (by decide), v_div hc (by omega) (by decide), q_nn64 nn_xD, cond_true]
        exact ih (by omega) (by omega) (by omega) (q_m30 (by omega)) hq
      · rw [decide_eq_false h30, cond_false, v_p (j := m) (by omega), v_div hc (by omega) (by omega), q_nn64 nn_xD, cond_true]
        exact hend (by omega) (by omega) (q_m30 (by omega)) hq
theorem e_float {xs : Scr} {μ : Mem} {Q : Post} {p : Int32} (hp : InR p) : Ev xs 1 0 [.int p, .null, .null, .null, .null, .null, .null] [] μ Q ↔ Q (.inl (some (.float p.toUInt32))) μ := by
  have hn := InR_iff.mp hp
  apply Ev.dt; intro Q h; apply w_X0_valueOf_0
  rw [q_mag, q_exp (q_mlt _), q_frac]
  by_cases h0 : magF p.toUInt32 / 2 ^ 23 = 0
  · have hc : fC (magF p.toUInt32) = magF p.toUInt32 % 2 ^ 23 := if_pos h0
    have hh : fH (magF p.toUInt32) = 149 := if_pos h0
    rw [h0, show icB .ne (nI 0) (nI 0) = false from rfl, cond_false, cond_false, show nI 150 - nI 1 = nI 149 by decide, ← hc]
    have e : FP.i2d (nI (fC (magF p.toUInt32))) = xD (fC (magF p.toUInt32)) (-((0 : Nat) : Int)) := i2d_xD (nI_toInt (by have := fC_lt (magF p.toUInt32); omega))
    rw [e]
    exact v_loop hn (k := 5) (l := 149) (s := 0) (by omega) (by omega) (by omega) (nI_toInt (by decide)) h
  · have hc : fC (magF p.toUInt32) = 2 ^ 23 + magF p.toUInt32 % 2 ^ 23 := if_neg h0
    have hh : fH (magF p.toUInt32) = 150 - magF p.toUInt32 / 2 ^ 23 := if_neg h0
    have hl : magF p.toUInt32 / 2 ^ 23 ≤ 146 := by omega
    rw [show icB .ne (nI (magF p.toUInt32 / 2 ^ 23)) (nI 0) = true from decide_eq_true (fun h => h0 ((nI_eq (by omega) (by decide)).mp h)), cond_true, cond_true, pk_sub (show magF p.toUInt32 / 2 ^ 23 ≤ 150 by omega), ← hh, nI_add, show magF p.toUInt32 % 2 ^ 23 + 8388608 = fC (magF p.toUInt32) by rw [hc]; omega]
    have e : FP.i2d (nI (fC (magF p.toUInt32))) = xD (fC (magF p.toUInt32)) (-((0 : Nat) : Int)) := i2d_xD (nI_toInt (by have := fC_lt (magF p.toUInt32); omega))
    rw [e]
    exact v_loop hn (k := 5) (l := (fH (magF p.toUInt32) : Int)) (s := 0) (by omega) (by omega) (by omega) (nI_toInt (by omega)) h

