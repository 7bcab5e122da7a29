/-! a machine's constructor -/
theorem gn_a {μ : Mem} {N kd n : Nat} (hN : mN μ = N) (hX : mX μ = 0) (hl : N < 258) (hs : shp N = (kd, n)) : (Nat.blt (mN μ) NN && (Nat.beq (mX μ) 0 && (Nat.beq (shp (mN μ)).1 kd && decide (nI n = nI (shp (mN μ)).2)))) = true := by
  rw [hN, hX, hs, Nat.blt_eq.mpr (by unfold NN; omega), Nat.beq_refl kd, decide_eq_true rfl]; rfl
theorem gn_o {μ : Mem} {N kd : Nat} (hN : mN μ = N) (hX : mX μ = 0) (hl : N < 258) (hs : (shp N).1 = kd) : (Nat.blt (mN μ) NN && (Nat.beq (mX μ) 0 && Nat.beq (shp (mN μ)).1 kd)) = true := by
  rw [hN, hX, hs, Nat.blt_eq.mpr (by unfold NN; omega), Nat.beq_refl kd]; rfl
theorem mInM {μ : Mem} {a k : Nat} : mI (newM μ) a k = if a = mN μ then 0 else mI μ a k := rfl
theorem mRnM {μ : Mem} {a k : Nat} : mR (newM μ) a k = if a = mN μ then none else mR μ a k := rfl
/-- a new object is made and put into a field -/
theorem nw_st {μ : Mem} {N t k : Nat} (hN : mN μ = N) : mN (setR (newM μ) t k N) = N + 1 ∧ mX (setR (newM μ) t k N) = mX μ ∧ (∀ a j, a < N → mI (setR (newM μ) t k N) a j = mI μ a j) ∧ (∀ j, mI (setR (newM μ) t k N) N j = 0) ∧ (∀ a j, a < N → ¬ (a = t ∧ j = k) → mR (setR (newM μ) t k N) a j = mR μ a j) ∧ mR (setR (newM μ) t k N) t k = some N := by
  refine ⟨by rw [mN_setR, mN_newM, hN], rfl, fun a j ha => ?_, fun j => ?_, fun a j ha hn => ?_, ?_⟩
  · rw [mIsR, mInM, if_neg (by omega)]
  · rw [mIsR, mInM, if_pos hN.symm]
  · rw [mRsR, if_neg hn, mRnM, if_neg (by omega)]
  · rw [mRsR, if_pos ⟨rfl, rfl⟩]
theorem k_mach {xs : Scr} {m : Nat} {μ : Mem} {Q : Post} (hB : Bs m) (hN : mN μ = m + 1) (hX : mX μ = 0)
    (hQ : ∀ μ', mN μ' = m + 30 → mX μ' = 0 → (∀ a j, a < m + 1 → mI μ' a j = mI μ a j) → (∀ a j, a < m → mR μ' a j = mR μ a j) → (∀ j, mI μ' (m + 3) j = 0) → (∀ j, mI μ' (m + 4) j = 0) → mI μ' (m + 5) 0 = nI 4 → mI μ' (m + 5) 1 = nI 2 → mI μ' (m + 5) 2 = nI 2 → (∀ k, k < 5 → mR μ' m k = some (m + (1 + k))) → (∀ j, j < 24 → mR μ' (m + 1) j = some (m + (6 + j))) → Q (.inl none) μ') : Ev xs 13 0 [.ref m, .null] [] μ Q := by
  have hlt := Bs_lt hB
  obtain ⟨s0, s1, s2, s3, s4, s5, s6⟩ := Bs_shp hB
  have gm : ∀ {ν : Mem}, m < mN ν → gO ν m 1 = true := fun e => gO_i e (by rw [s0])
  apply w_X2_init_0
  have b0 : Nat.blt m (mN μ) = true := Nat.blt_eq.mpr (by omega)
  have g1 : gO (newM μ) m 1 = true := gm (by rw [mN_newM]; omega)
  simp only [b0, gn_a hN hX (by omega) s1, g1, cond_true]
  rw [hN]
  obtain ⟨n1, x1, i1, z1, r1, q1⟩ := nw_st (t := m) (k := 0) hN
  generalize setR (newM μ) m 0 (m + 1) = u at *
  rw [hX] at x1
  have g2 : gO (newM u) (m + 2) 0 = true := gO_i (by rw [mN_newM]; omega) (by rw [s2])
  rw [n1]
  have c2 := gn_o (kd := 0) n1 x1 (by omega) (by rw [show m + 1 + 1 = m + 2 from rfl, s2])
  rw [n1] at c2
  simp only [c2, show m + 1 + 1 = m + 2 from rfl, g2, cond_true]
  refine k_row (by rw [mN_newM]; omega) (by rw [s2]) fun v n2 x2 r2 i2 => ?_
  rw [mN_newM, n1] at n2
  rw [mX_newM, x1] at x2
  rw [QV_v, gm (by omega), cond_true]
  have n3 : mN (setR v m 1 (m + 2)) = m + 3 := n2
  have x3 : mX (setR v m 1 (m + 2)) = 0 := x2
  have i3 : ∀ a j, a < m + 1 → mI (setR v m 1 (m + 2)) a j = mI μ a j := fun a j ha => by
    rw [mIsR, i2 a j (by omega), mInM, if_neg (by omega), i1 a j (by omega)]
  have r3 : ∀ a j, a < m → mR (setR v m 1 (m + 2)) a j = mR μ a j := fun a j ha => by
    rw [mRsR, if_neg (by omega), r2, mRnM, if_neg (by omega), r1 a j (by omega) (by omega)]
  have q30 : mR (setR v m 1 (m + 2)) m 0 = some (m + 1) := by
    rw [mRsR, if_neg (by omega), r2, mRnM, if_neg (by omega), q1]
  have q31 : mR (setR v m 1 (m + 2)) m 1 = some (m + 2) := by rw [mRsR, if_pos ⟨rfl, rfl⟩]
  generalize setR v m 1 (m + 2) = w at *
  have c3 := gn_a n3 x3 (by omega) s3
  have g3 : gO (newM w) m 1 = true := gm (by rw [mN_newM]; omega)
  simp only [c3, g3, cond_true]
  rw [n3]
  obtain ⟨n4, x4, i4, z4, r4, q4⟩ := nw_st (t := m) (k := 2) n3
  generalize setR (newM w) m 2 (m + 3) = w4 at *
  rw [x3] at x4
  have c4 := gn_a (N := m + 4) n4 x4 (by omega) s4
  have g4 : gO (newM w4) m 1 = true := gm (by rw [mN_newM]; omega)
  simp only [c4, g4, cond_true]
  rw [n4]
  obtain ⟨n5, x5, i5, z5, r5, q5⟩ := nw_st (t := m) (k := 3) n4
  generalize setR (newM w4) m 3 (m + 3 + 1) = w5 at *
  rw [x4] at x5
  have c5 := gn_a (N := m + 5) n5 x5 (by omega) s5
  have g5 : gO (newM w5) m 1 = true := gm (by rw [mN_newM]; omega)
  simp only [c5, g5, cond_true]
  rw [n5]
  obtain ⟨n6, x6, i6, z6, r6, q6⟩ := nw_st (t := m) (k := 4) n5
  generalize setR (newM w5) m 4 (m + 3 + 1 + 1) = w6 at *
  rw [x5] at x6
  refine k_rows hB (d := 24) (i := 0) (by decide) (by omega) x6 ?_ (by rw [q6]) (fun j hj => absurd hj (Nat.not_lt_zero j)) fun y n7 x7 i7 a7 b7 c7 r7 q7 => ?_
  · rw [r6 _ _ (by omega) (by omega), r5 _ _ (by omega) (by omega), r4 _ _ (by omega) (by omega), q30]
  · refine hQ y n7 x7 (fun a j ha => ?_) (fun a j ha => ?_) (fun j => ?_) (fun j => ?_) a7 b7 c7 (fun k hk => ?_) q7
    · rw [i7 a j (by omega), i6 a j (by omega), i5 a j (by omega), i4 a j (by omega), i3 a j ha]
    · rw [r7 a j (by omega) (by omega), r6 a j (by omega) (by omega), r5 a j (by omega) (by omega), r4 a j (by omega) (by omega), r3 a j ha]
    · rw [i7 _ j (by omega), i6 _ j (by omega), i5 _ j (by omega), z4]
    · rw [i7 _ j (by omega), i6 _ j (by omega)]; exact z5 j
    · rw [r7 _ k (by omega) (by omega)]
      obtain rfl | rfl | rfl | rfl | rfl : k = 0 ∨ k = 1 ∨ k = 2 ∨ k = 3 ∨ k = 4 := by omega
      · rw [r6 _ _ (by omega) (by omega), r5 _ _ (by omega) (by omega), r4 _ _ (by omega) (by omega), q30]
      · rw [r6 _ _ (by omega) (by omega), r5 _ _ (by omega) (by omega), r4 _ _ (by omega) (by omega), q31]
      · rw [r6 _ _ (by omega) (by omega), r5 _ _ (by omega) (by omega), q4]
      · rw [r6 _ _ (by omega) (by omega), q5]
      · rw [q6]
