/-! the law's loop -/
theorem g_ix {i n : Nat} (h : i < n) (hn : n ≤ 1536) : (Nat.beq SCR SCR && decide (0 ≤ (nI i).toInt ∧ (nI i).toInt < (n : Int))) = true := by
  have e : (nI i).toInt = (i : Int) := by
    have := idx_nI (k := i) (by omega)
    have h0 : (nI 0).toInt ≤ (nI i).toInt := Int32.le_iff_toInt_le.mp (nI_le (by omega) (by omega))
    have h1 : ((nI i).toInt).toNat = i := this
    have h2 : (nI 0).toInt = 0 := by decide
    omega
  rw [e]
  have : decide (0 ≤ (i : Int) ∧ (i : Int) < (n : Int)) = true := decide_eq_true ⟨by omega, by omega⟩
  rw [this]; rfl
def Qe : Post := fun o μ => o = .inl (some (.int (nI 1))) ∧ mN μ = 258 ∧ mX μ ≤ 512
theorem gt_end {n i : Nat} (hn : n ≤ 1536) (hi : i ≤ 1536) : icB .gt (nI i) (nI n - nI 3) = decide (n < i + 3) := by
  by_cases h : 3 ≤ n
  · rw [pk_sub h, icB_gt (by omega) (by omega), decide_eq_decide]; omega
  · rw [decide_eq_true (by omega : n < i + 3)]
    show decide (nI n - nI 3 < nI i) = true
    apply decide_eq_true
    obtain rfl | rfl | rfl : n = 0 ∨ n = 1 ∨ n = 2 := by omega
    · exact Int32.lt_of_lt_of_le (by decide : nI 0 - nI 3 < nI 0) (nI_le (by omega) (by omega))
    · exact Int32.lt_of_lt_of_le (by decide : nI 1 - nI 3 < nI 0) (nI_le (by omega) (by omega))
    · exact Int32.lt_of_lt_of_le (by decide : nI 2 - nI 3 < nI 0) (nI_le (by omega) (by omega))
theorem law_loop {xs : Scr} (hb : xs.1 ≤ 1536) : ∀ {d j : Nat} {I : In2} {ρ : Rh} {v5 v6 v7 v8 : Value}, 3 * j ≤ xs.1 → xs.1 ≤ 3 * j + d → LI j I ρ → Ev xs 209 23 [.ref SCR, .ref 0, .ref 245, .ref 257, .int (nI (3 * j)), v5, v6, v7, v8] [] (I, ρ) Qe := by
  intro d
  induction d with
  | zero =>
    intro j I ρ v5 v6 v7 v8 h1 h2 hL
    apply w_law_h
    rw [gt_end hb (by omega), decide_eq_true (by omega : xs.1 < 3 * j + 3), cond_true, show Nat.beq SCR SCR = true from rfl, cond_true]
    refine ⟨rfl, hL.1.1, ?_⟩
    show ρ.2.2.2 ≤ 512
    have := hL.2.1; omega
  | succ d ih =>
    intro j I ρ v5 v6 v7 v8 h1 h2 hL
    apply w_law_h
    rw [gt_end hb (by omega), show Nat.beq SCR SCR = true from rfl, cond_true]
    by_cases hs : xs.1 < 3 * j + 3
    · rw [decide_eq_true hs, cond_true]
      refine ⟨rfl, hL.1.1, ?_⟩
      show ρ.2.2.2 ≤ 512
      have := hL.2.1; omega
    · have g0 : (true && decide (0 ≤ (nI (3 * j)).toInt ∧ (nI (3 * j)).toInt < (xs.1 : Int))) = true := g_ix (by omega) hb
      have g1 : (Nat.beq SCR SCR && decide (0 ≤ (nI (3 * j) + nI 1).toInt ∧ (nI (3 * j) + nI 1).toInt < (xs.1 : Int))) = true := by rw [nI_add]; exact g_ix (by omega) hb
      have g2 : (Nat.beq SCR SCR && decide (0 ≤ (nI (3 * j) + nI 2).toInt ∧ (nI (3 * j) + nI 2).toInt < (xs.1 : Int))) = true := by rw [nI_add]; exact g_ix (by omega) hb
      have hN : ∀ (I' : In2) (ρ' : Rh) (v5 v6 v7 v8 : Value), LI (j + 1) I' ρ' → Ev xs 209 23 [.ref SCR, .ref 0, .ref 245, .ref 257, .int (nI (3 * j) + nI 3), v5, v6, v7, v8] [] (I', ρ') Qe := fun I' ρ' v5 v6 v7 v8 h => by
        rw [nI_add, show 3 * j + 3 = 3 * (j + 1) by omega]
        exact ih (by omega) (by omega) h
      rw [decide_eq_false hs, cond_false, g0, cond_true]
      generalize xs.2 (idx (nI (3 * j))) &&& nI 31 = x
      by_cases e0 : x = nI 0
      · rw [decide_eq_true e0, cond_true]; exact law_0 hL g1 g2 hN
      rw [decide_eq_false e0, cond_false]
      by_cases e1 : x = nI 1
      · rw [decide_eq_true e1, cond_true]; exact law_1 hL g1 g2 hN
      rw [decide_eq_false e1, cond_false]
      by_cases e2 : x = nI 2
      · rw [decide_eq_true e2, cond_true]; exact law_2 hL g1 g2 hN
      rw [decide_eq_false e2, cond_false]
      by_cases e3 : x = nI 3
      · rw [decide_eq_true e3, cond_true]; exact law_3 hL g1 g2 hN
      rw [decide_eq_false e3, cond_false]
      by_cases e4 : x = nI 4
      · rw [decide_eq_true e4, cond_true]; exact law_4 hL g1 g2 hN
      rw [decide_eq_false e4, cond_false]
      by_cases e5 : x = nI 5
      · rw [decide_eq_true e5, cond_true]; exact law_5 hL g1 g2 hN
      rw [decide_eq_false e5, cond_false]
      by_cases e6 : x = nI 6
      · rw [decide_eq_true e6, cond_true]; exact law_6 hL g1 g2 hN
      rw [decide_eq_false e6, cond_false]
      by_cases e7 : x = nI 7
      · rw [decide_eq_true e7, cond_true]; exact law_7 hL g1 g2 hN
      rw [decide_eq_false e7, cond_false]
      by_cases e8 : x = nI 8
      · rw [decide_eq_true e8, cond_true]; exact law_8 hL g1 g2 hN
      rw [decide_eq_false e8, cond_false]
      by_cases e9 : x = nI 9
      · rw [decide_eq_true e9, cond_true]; exact law_9 hL g1 g2 hN
      rw [decide_eq_false e9, cond_false]
      by_cases e10 : x = nI 10
      · rw [decide_eq_true e10, cond_true]; exact law_10 hL g1 g2 hN
      rw [decide_eq_false e10, cond_false]
      by_cases e11 : x = nI 11
      · rw [decide_eq_true e11, cond_true]; exact law_11 hL g1 g2 hN
      rw [decide_eq_false e11, cond_false]
      by_cases e12 : x = nI 12
      · rw [decide_eq_true e12, cond_true]; exact law_12 hL g1 g2 hN
      rw [decide_eq_false e12, cond_false]
      by_cases e13 : x = nI 13
      · rw [decide_eq_true e13, cond_true]; exact law_13 hL g1 g2 hN
      rw [decide_eq_false e13, cond_false]
      by_cases e14 : x = nI 14
      · rw [decide_eq_true e14, cond_true]; exact law_14 hL g1 g2 hN
      rw [decide_eq_false e14, cond_false]
      by_cases e15 : x = nI 15
      · rw [decide_eq_true e15, cond_true]; exact law_15 hL g1 g2 hN
      rw [decide_eq_false e15, cond_false]
      by_cases e16 : x = nI 16
      · rw [decide_eq_true e16, cond_true]; exact law_16 hL g1 g2 hN
      rw [decide_eq_false e16, cond_false]
      by_cases e17 : x = nI 17
      · rw [decide_eq_true e17, cond_true]; exact law_17 hL g1 g2 hN
      rw [decide_eq_false e17, cond_false]
      by_cases e18 : x = nI 18
      · rw [decide_eq_true e18, cond_true]; exact law_18 hL g1 g2 hN
      rw [decide_eq_false e18, cond_false]
      by_cases e19 : x = nI 19
      · rw [decide_eq_true e19, cond_true]; exact law_19 hL g1 g2 hN
      rw [decide_eq_false e19, cond_false]
      by_cases e20 : x = nI 20
      · rw [decide_eq_true e20, cond_true]; exact law_20 hL g1 g2 hN
      rw [decide_eq_false e20, cond_false]
      by_cases e21 : x = nI 21
      · rw [decide_eq_true e21, cond_true]; exact law_21 hL g1 g2 hN
      rw [decide_eq_false e21, cond_false]
      by_cases e22 : x = nI 22
      · rw [decide_eq_true e22, cond_true]; exact law_22 hL g1 g2 hN
      rw [decide_eq_false e22, cond_false]
      by_cases e23 : x = nI 23
      · rw [decide_eq_true e23, cond_true]; exact law_23 hL g1 g2 hN
      rw [decide_eq_false e23, cond_false]
      exact law_24 hL g1 g2 hN
