/-! the buffer's and the reference's constructors -/
theorem k_clsB {xs : Scr} {μ : Mem} {Q : Post} (hN : mN μ = 242) (hX : mX μ = 0) (h2 : mR μ 0 2 = some 61)
    (hQ : ∀ μ', mN μ' = 245 → mX μ' = 0 → (∀ a k, a < 242 → mI μ' a k = mI μ a k) → (∀ k, mI μ' 242 k = 0) → mR μ' 242 0 = some 243 → mR μ' 0 3 = some 242 → mR μ' 0 4 = some 244 → (∀ a k, a < 242 → ¬ (a = 0 ∧ (k = 3 ∨ k = 4)) → mR μ' a k = mR μ a k) → Q (.inl none) μ') : Ev xs 62 37 [.ref 0, .int (nI 6)] [] μ Q := by
  have g0 : ∀ {ν : Mem}, 0 < mN ν → gO ν 0 3 = true := fun e => gO_i e rfl
  have gl : (Nat.blt 61 (mN μ) && (Nat.ble 5 (shp 61).1 && Nat.ble (shp 61).1 9)) = true := by rw [Nat.blt_eq.mpr (by omega)]; rfl
  have hge : icB .ge (nI 6) (nI (shp 61).2) = true := by decide
  have c1 := gn_o (kd := 2) hN hX (by decide) rfl
  have g1 : gO (newM μ) (mN μ) 2 = true := gO_i (by rw [mN_newM]; omega) (by rw [hN]; rfl)
  apply w_X4_init_37
  simp only [g0 (ν := μ) (by omega), h2, gR_some, Option.getD_some, Bool.and_self, cond_true, gl, hge, c1, g1]
  rw [hN]
  have nn : mN (newM μ) = 243 := by rw [mN_newM, hN]
  have c2 := gn_a (kd := 5) (n := 120) nn hX (by decide) rfl
  apply w_X3_init_0
  have b2 : Nat.blt 242 (mN (newM μ)) = true := Nat.blt_eq.mpr (by omega)
  have g2 : gO (newM (newM μ)) 242 2 = true := gO_i (by rw [mN_newM, nn]; decide) rfl
  simp only [b2, c2, g2, cond_true]
  rw [nn, QV_v]
  obtain ⟨n3, x3, i3, z3, r3, q3⟩ := nw_st (t := 242) (k := 0) nn
  generalize setR (newM (newM μ)) 242 0 243 = u at *
  rw [g0 (by omega), cond_true]
  have n4 : mN (setR u 0 3 242) = 244 := n3
  have x4 : mX (setR u 0 3 242) = 0 := x3.trans hX
  have i4 : ∀ a k, mI (setR u 0 3 242) a k = mI u a k := fun a k => rfl
  have r4 : ∀ a k, ¬ (a = 0 ∧ k = 3) → mR (setR u 0 3 242) a k = mR u a k := fun a k h => by rw [mRsR, if_neg h]
  have q4 : mR (setR u 0 3 242) 0 3 = some 242 := by rw [mRsR, if_pos ⟨rfl, rfl⟩]
  generalize setR u 0 3 242 = v at *
  have c5 := gn_a (kd := 6) (n := 3) n4 x4 (by decide) rfl
  have g5 : gO (newM v) 0 3 = true := g0 (by rw [mN_newM]; omega)
  simp only [c5, g5, cond_true]
  rw [n4]
  obtain ⟨n6, x6, i6, z6, r6, q6⟩ := nw_st (t := 0) (k := 4) n4
  refine hQ _ n6 (x6.trans x4) (fun a k ha => ?_) (fun k => ?_) ?_ ?_ q6 fun a k ha hn => ?_
  · rw [i6 _ _ (by omega), i4, i3 _ _ (by omega), mInM, if_neg (by omega)]
  · rw [i6 _ _ (by omega), i4, i3 _ _ (by omega), mInM, if_pos hN.symm]
  · rw [r6 _ _ (by decide) (by omega), r4 _ _ (by omega), q3]
  · rw [r6 _ _ (by decide) (by omega), q4]
  · rw [r6 _ _ (by omega) (by omega), r4 _ _ (by omega), r3 _ _ (by omega) (by omega), mRnM, if_neg (by omega)]
theorem gA_j {μ : Mem} {k : Nat} (h : 246 < mN μ) (hk : k < 324) : gA μ 246 6 (nI k) = true := gA_i h rfl (by decide) hk
theorem gn_b {μ : Mem} {N kd n : Nat} (hN : mN μ = N) (hX : mX μ = 0) (hl : N < 258) (hs : shp N = (kd, n)) : (Nat.blt (mN μ) NN && (Nat.beq (mX μ) 0 && (Nat.beq (shp (mN μ)).1 kd && decide (nI n = nI (shp (mN μ)).2)))) = true := gn_a hN hX hl hs
theorem e_cons {xs : Scr} {μ : Mem} {Q : Post} (hN : mN μ = 246) (hX : mX μ = 0)
    (hQ : ∀ μ', mN μ' = 257 → mX μ' = 0 → (∀ a k, a < 246 → mI μ' a k = mI μ a k) → (∀ k, mI μ' 246 k = if k = 9 then nI 4 else if k = 10 then nI 2 else if k = 11 then nI 2 else 0) → (∀ k, k ≤ 10 → mR μ' 245 k = some (246 + k)) → (∀ a k, a < 245 → mR μ' a k = mR μ a k) → Q (.inl none) μ') : Ev xs 101 0 [.ref 245] [] μ Q := by
  have gm : ∀ {ν : Mem}, 245 < mN ν → gO ν 245 4 = true := fun e => gO_i e rfl
  apply w_X5_init_0
  have b0 : Nat.blt 245 (mN μ) = true := Nat.blt_eq.mpr (by omega)
  rw [b0, cond_true]
  have c0 := gn_b (N := 246) (kd := 6) (n := 324) hN hX (by decide) rfl
  have g0 : gO (newM μ) 245 4 = true := gm (by rw [mN_newM, hN]; decide)
  simp only [c0, g0, cond_true]
  rw [hN]
  obtain ⟨n0, x0, i0, z0, r0, q0⟩ := nw_st (t := 245) (k := 0) hN
  generalize setR (newM μ) 245 0 246 = u0 at *
  rw [hX] at x0
  have n0 : mN u0 = 247 := n0
  have c1 := gn_b (N := 247) (kd := 6) (n := 324) n0 x0 (by decide) rfl
  have g1 : gO (newM u0) 245 4 = true := gm (by rw [mN_newM, n0]; decide)
  simp only [c1, g1, cond_true]
  rw [n0]
  obtain ⟨n1, x1, i1, z1, r1, q1⟩ := nw_st (t := 245) (k := 1) n0
  generalize setR (newM u0) 245 1 247 = u1 at *
  rw [x0] at x1
  have n1 : mN u1 = 248 := n1
  have c2 := gn_b (N := 248) (kd := 6) (n := 1944) n1 x1 (by decide) rfl
  have g2 : gO (newM u1) 245 4 = true := gm (by rw [mN_newM, n1]; decide)
  simp only [c2, g2, cond_true]
  rw [n1]
  obtain ⟨n2, x2, i2, z2, r2, q2⟩ := nw_st (t := 245) (k := 2) n1
  generalize setR (newM u1) 245 2 248 = u2 at *
  rw [x1] at x2
  have n2 : mN u2 = 249 := n2
  have c3 := gn_b (N := 249) (kd := 6) (n := 120) n2 x2 (by decide) rfl
  have g3 : gO (newM u2) 245 4 = true := gm (by rw [mN_newM, n2]; decide)
  simp only [c3, g3, cond_true]
  rw [n2]
  obtain ⟨n3, x3, i3, z3, r3, q3⟩ := nw_st (t := 245) (k := 3) n2
  generalize setR (newM u2) 245 3 249 = u3 at *
  rw [x2] at x3
  have n3 : mN u3 = 250 := n3
  have c4 := gn_b (N := 250) (kd := 6) (n := 32) n3 x3 (by decide) rfl
  have g4 : gO (newM u3) 245 4 = true := gm (by rw [mN_newM, n3]; decide)
  simp only [c4, g4, cond_true]
  rw [n3]
  obtain ⟨n4, x4, i4, z4, r4, q4⟩ := nw_st (t := 245) (k := 4) n3
  generalize setR (newM u3) 245 4 250 = u4 at *
  rw [x3] at x4
  have n4 : mN u4 = 251 := n4
  have c5 := gn_b (N := 251) (kd := 6) (n := 32) n4 x4 (by decide) rfl
  have g5 : gO (newM u4) 245 4 = true := gm (by rw [mN_newM, n4]; decide)
  simp only [c5, g5, cond_true]
  rw [n4]
  obtain ⟨n5, x5, i5, z5, r5, q5⟩ := nw_st (t := 245) (k := 5) n4
  generalize setR (newM u4) 245 5 251 = u5 at *
  rw [x4] at x5
  have n5 : mN u5 = 252 := n5
  have c6 := gn_b (N := 252) (kd := 6) (n := 32) n5 x5 (by decide) rfl
  have g6 : gO (newM u5) 245 4 = true := gm (by rw [mN_newM, n5]; decide)
  simp only [c6, g6, cond_true]
  rw [n5]
  obtain ⟨n6, x6, i6, z6, r6, q6⟩ := nw_st (t := 245) (k := 6) n5
  generalize setR (newM u5) 245 6 252 = u6 at *
  rw [x5] at x6
  have n6 : mN u6 = 253 := n6
  have c7 := gn_b (N := 253) (kd := 6) (n := 32) n6 x6 (by decide) rfl
  have g7 : gO (newM u6) 245 4 = true := gm (by rw [mN_newM, n6]; decide)
  simp only [c7, g7, cond_true]
  rw [n6]
  obtain ⟨n7, x7, i7, z7, r7, q7⟩ := nw_st (t := 245) (k := 7) n6
  generalize setR (newM u6) 245 7 253 = u7 at *
  rw [x6] at x7
  have n7 : mN u7 = 254 := n7
  have c8 := gn_b (N := 254) (kd := 6) (n := 32) n7 x7 (by decide) rfl
  have g8 : gO (newM u7) 245 4 = true := gm (by rw [mN_newM, n7]; decide)
  simp only [c8, g8, cond_true]
  rw [n7]
  obtain ⟨n8, x8, i8, z8, r8, q8⟩ := nw_st (t := 245) (k := 8) n7
  generalize setR (newM u7) 245 8 254 = u8 at *
  rw [x7] at x8
  have n8 : mN u8 = 255 := n8
  have c9 := gn_b (N := 255) (kd := 6) (n := 8) n8 x8 (by decide) rfl
  have g9 : gO (newM u8) 245 4 = true := gm (by rw [mN_newM, n8]; decide)
  simp only [c9, g9, cond_true]
  rw [n8]
  obtain ⟨n9, x9, i9, z9, r9, q9⟩ := nw_st (t := 245) (k := 9) n8
  generalize setR (newM u8) 245 9 255 = u9 at *
  rw [x8] at x9
  have n9 : mN u9 = 256 := n9
  have c10 := gn_b (N := 256) (kd := 6) (n := 16) n9 x9 (by decide) rfl
  have g10 : gO (newM u9) 245 4 = true := gm (by rw [mN_newM, n9]; decide)
  simp only [c10, g10, cond_true]
  rw [n9]
  obtain ⟨n10, x10, i10, z10, r10, q10⟩ := nw_st (t := 245) (k := 10) n9
  generalize setR (newM u9) 245 10 256 = u10 at *
  rw [x9] at x10
  have n10 : mN u10 = 257 := n10
  have q0' : mR u10 245 0 = some 246 := by rw [r10 _ _ (by decide) (by omega), r9 _ _ (by decide) (by omega), r8 _ _ (by decide) (by omega), r7 _ _ (by decide) (by omega), r6 _ _ (by decide) (by omega), r5 _ _ (by decide) (by omega), r4 _ _ (by decide) (by omega), r3 _ _ (by decide) (by omega), r2 _ _ (by decide) (by omega), r1 _ _ (by decide) (by omega), q0]
  have gx : gO u10 245 4 = true := gm (by omega)
  have a9 : gA u10 246 6 (nI 9) = true := gA_j (by omega) (by decide)
  have a10 : gA u10 246 6 (nI 10) = true := gA_j (by omega) (by decide)
  have a11 : gA u10 246 6 (nI 11) = true := gA_j (by omega) (by decide)
  simp only [gx, gO_sI, gA_sI, mRsI, q0', gR_some, Option.getD_some, Bool.and_self, cond_true, a9, a10, a11, idx_nI (show 9 < 2147483648 by decide), idx_nI (show 10 < 2147483648 by decide), idx_nI (show 11 < 2147483648 by decide)]
  refine hQ _ n10 x10 (fun a k ha => ?_) (fun k => ?_) (fun k hk => ?_) fun a k ha => ?_
  · rw [mIsI, if_neg (by omega), mIsI, if_neg (by omega), mIsI, if_neg (by omega), i10 _ _ (by omega), i9 _ _ (by omega), i8 _ _ (by omega), i7 _ _ (by omega), i6 _ _ (by omega), i5 _ _ (by omega), i4 _ _ (by omega), i3 _ _ (by omega), i2 _ _ (by omega), i1 _ _ (by omega), i0 _ _ (by omega)]
  · rw [mIsI, mIsI, mIsI]
    have e0 : mI u10 246 k = 0 := by rw [i10 _ _ (by decide), i9 _ _ (by decide), i8 _ _ (by decide), i7 _ _ (by decide), i6 _ _ (by decide), i5 _ _ (by decide), i4 _ _ (by decide), i3 _ _ (by decide), i2 _ _ (by decide), i1 _ _ (by decide)]; exact z0 k
    by_cases e9 : k = 9
    · subst e9; rfl
    · by_cases e10 : k = 10
      · subst e10; rfl
      · by_cases e11 : k = 11
        · subst e11; rfl
        · rw [if_neg (fun h => e11 h.2), if_neg (fun h => e10 h.2), if_neg (fun h => e9 h.2), if_neg e9, if_neg e10, if_neg e11]; exact e0
  · show mR u10 245 k = _
    obtain rfl | rfl | rfl | rfl | rfl | rfl | rfl | rfl | rfl | rfl | rfl : k = 0 ∨ k = 1 ∨ k = 2 ∨ k = 3 ∨ k = 4 ∨ k = 5 ∨ k = 6 ∨ k = 7 ∨ k = 8 ∨ k = 9 ∨ k = 10 := by omega
    · rw [r10 _ _ (by decide) (by omega), r9 _ _ (by decide) (by omega), r8 _ _ (by decide) (by omega), r7 _ _ (by decide) (by omega), r6 _ _ (by decide) (by omega), r5 _ _ (by decide) (by omega), r4 _ _ (by decide) (by omega), r3 _ _ (by decide) (by omega), r2 _ _ (by decide) (by omega), r1 _ _ (by decide) (by omega), q0]
    · rw [r10 _ _ (by decide) (by omega), r9 _ _ (by decide) (by omega), r8 _ _ (by decide) (by omega), r7 _ _ (by decide) (by omega), r6 _ _ (by decide) (by omega), r5 _ _ (by decide) (by omega), r4 _ _ (by decide) (by omega), r3 _ _ (by decide) (by omega), r2 _ _ (by decide) (by omega), q1]
    · rw [r10 _ _ (by decide) (by omega), r9 _ _ (by decide) (by omega), r8 _ _ (by decide) (by omega), r7 _ _ (by decide) (by omega), r6 _ _ (by decide) (by omega), r5 _ _ (by decide) (by omega), r4 _ _ (by decide) (by omega), r3 _ _ (by decide) (by omega), q2]
    · rw [r10 _ _ (by decide) (by omega), r9 _ _ (by decide) (by omega), r8 _ _ (by decide) (by omega), r7 _ _ (by decide) (by omega), r6 _ _ (by decide) (by omega), r5 _ _ (by decide) (by omega), r4 _ _ (by decide) (by omega), q3]
    · rw [r10 _ _ (by decide) (by omega), r9 _ _ (by decide) (by omega), r8 _ _ (by decide) (by omega), r7 _ _ (by decide) (by omega), r6 _ _ (by decide) (by omega), r5 _ _ (by decide) (by omega), q4]
    · rw [r10 _ _ (by decide) (by omega), r9 _ _ (by decide) (by omega), r8 _ _ (by decide) (by omega), r7 _ _ (by decide) (by omega), r6 _ _ (by decide) (by omega), q5]
    · rw [r10 _ _ (by decide) (by omega), r9 _ _ (by decide) (by omega), r8 _ _ (by decide) (by omega), r7 _ _ (by decide) (by omega), q6]
    · rw [r10 _ _ (by decide) (by omega), r9 _ _ (by decide) (by omega), r8 _ _ (by decide) (by omega), q7]
    · rw [r10 _ _ (by decide) (by omega), r9 _ _ (by decide) (by omega), q8]
    · rw [r10 _ _ (by decide) (by omega), q9]
    · rw [q10]
  · show mR u10 a k = _
    rw [r10 _ _ (by omega) (by omega), r9 _ _ (by omega) (by omega), r8 _ _ (by omega) (by omega), r7 _ _ (by omega) (by omega), r6 _ _ (by omega) (by omega), r5 _ _ (by omega) (by omega), r4 _ _ (by omega) (by omega), r3 _ _ (by omega) (by omega), r2 _ _ (by omega) (by omega), r1 _ _ (by omega) (by omega), r0 _ _ (by omega) (by omega)]
