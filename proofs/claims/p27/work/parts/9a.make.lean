/-! the law's loop -/
theorem g_ix {i n : Nat} (h : i < n) (hn : n ≤ 1536) : (Nat.beq SCR SCR && decide (0 ≤ (nI i).toInt ∧ (nI i).toInt < (n : Int))) = true := by
  have e : (nI i).toInt = (i : Int) := by
    have := idx_nI (k := i) (by omega)
    have h0 : (nI 0).toInt ≤ (nI i).toInt := Int32.le_iff_toInt_le.mp (nI_le (by omega) (by omega))
    have h1 : ((nI i).toInt).toNat = i := this
    have h2 : (nI 0).toInt = 0 := by decide
    omega
  rw [e]
  have : decide (0 ≤ (i : Int) ∧ (i : Int) < (n : Int)) = true := decide_eq_true ⟨by omega, by omega⟩
  rw [this]; rfl
theorem gt_end {n i : Nat} (hn : n ≤ 1536) (hi : i ≤ 1536) : icB .gt (nI i) (nI n - nI 3) = decide (n < i + 3) := by
  by_cases h : 3 ≤ n
  · rw [pk_sub h, icB_gt (by omega) (by omega), decide_eq_decide]; omega
  · rw [decide_eq_true (by omega : n < i + 3)]
    show decide (nI n - nI 3 < nI i) = true
    apply decide_eq_true
    obtain rfl | rfl | rfl : n = 0 ∨ n = 1 ∨ n = 2 := by omega
    · exact Int32.lt_of_lt_of_le (by decide : nI 0 - nI 3 < nI 0) (nI_le (by omega) (by omega))
    · exact Int32.lt_of_lt_of_le (by decide : nI 1 - nI 3 < nI 0) (nI_le (by omega) (by omega))
    · exact Int32.lt_of_lt_of_le (by decide : nI 2 - nI 3 < nI 0) (nI_le (by omega) (by omega))
/-! the constructors -/
theorem mI_newM {μ : Mem} {a k : Nat} : mI (newM μ) a k = if a = mN μ then 0 else mI μ a k := rfl
theorem mR_newM {μ : Mem} {a k : Nat} : mR (newM μ) a k = if a = mN μ then none else mR μ a k := rfl
theorem gO_sI {μ : Mem} {a k b ci : Nat} {v : Int32} : gO (setI μ a k v) b ci = gO μ b ci := rfl
theorem gA_sI {μ : Mem} {a k b kd : Nat} {v i : Int32} : gA (setI μ a k v) b kd i = gA μ b kd i := rfl
theorem mRsR {μ : Mem} {a k v b j : Nat} : mR (setR μ a k v) b j = if b = a ∧ j = k then some v else mR μ b j := rfl
theorem mIsI {μ : Mem} {a k b j : Nat} {v : Int32} : mI (setI μ a k v) b j = if b = a ∧ j = k then v else mI μ b j := rfl
theorem mRsI {μ : Mem} {a k b j : Nat} {v : Int32} : mR (setI μ a k v) b j = mR μ b j := rfl
theorem mIsR {μ : Mem} {a k v b j : Nat} : mI (setR μ a k v) b j = mI μ b j := rfl
theorem gO_i {μ : Mem} {a ci : Nat} (h : a < mN μ) (hs : (shp a).1 = ci) : gO μ a ci = true := by
  unfold gO; rw [Nat.blt_eq.mpr h, hs]; exact Nat.beq_refl ci
theorem gA_i {μ : Mem} {a kd n k : Nat} (h : a < mN μ) (hs : shp a = (kd, n)) (hn : n ≤ 1536) (hk : k < n) : gA μ a kd (nI k) = true := by
  unfold gA; rw [Nat.blt_eq.mpr h, hs, Bool.true_and, Nat.beq_refl kd, Bool.true_and]
  have := g_ix hk hn
  rw [show Nat.beq SCR SCR = true from rfl, Bool.true_and] at this
  exact this
theorem k_row {xs : Scr} {μ : Mem} {Q : Post} {a : Nat} (h : a < mN μ) (hs : (shp a).1 = 0) (hQ : ∀ μ', mN μ' = mN μ → mX μ' = mX μ → (∀ b j, mR μ' b j = mR μ b j) → (∀ b j, ¬ b = a → mI μ' b j = mI μ b j) → Q (.inl none) μ') : Ev xs 6 0 [.ref a] [] μ Q := by
  have g : gO μ a 0 = true := gO_i h hs
  apply w_X1_init_0
  rw [Nat.blt_eq.mpr h, cond_true]
  simp only [g, gO_sI, cond_true]
  exact hQ _ rfl rfl (fun b j => rfl) fun b j hb => by
    have e : ∀ k, ¬ (b = a ∧ j = k) := fun k h => hb h.1
    rw [mIsI, if_neg (e _), mIsI, if_neg (e _), mIsI, if_neg (e _), mIsI, if_neg (e _), mIsI, if_neg (e _), mIsI, if_neg (e _)]
theorem k_rows {xs : Scr} {m : Nat} (hB : Bs m) : ∀ {d i : Nat} {μ : Mem} {Q : Post}, i + d = 24 → mN μ = m + (6 + i) → mX μ = 0 → mR μ m 0 = some (m + 1) → mR μ m 4 = some (m + 5) → (∀ j, j < i → mR μ (m + 1) j = some (m + (6 + j))) →
    (∀ μ', mN μ' = m + 30 → mX μ' = 0 → (∀ a j, a < m + 5 → mI μ' a j = mI μ a j) → mI μ' (m + 5) 0 = nI 4 → mI μ' (m + 5) 1 = nI 2 → mI μ' (m + 5) 2 = nI 2 → (∀ a j, a < m + 6 → ¬ a = m + 1 → mR μ' a j = mR μ a j) → (∀ j, j < 24 → mR μ' (m + 1) j = some (m + (6 + j))) → Q (.inl none) μ') → Ev xs 13 49 [.ref m, .int (nI i)] [] μ Q := by
  have hlt := Bs_lt hB
  obtain ⟨s0, s1, s2, s3, s4, s5, s6⟩ := Bs_shp hB
  intro d
  induction d with
  | zero =>
    intro i μ Q hi hN hX h0 h4 hr hQ
    obtain rfl : i = 24 := by omega
    have gm : gO μ m 1 = true := gO_i (by omega) (by rw [s0])
    have ga0 : gA μ (m + 5) 6 (nI 0) = true := gA_i (by omega) s5 (by decide) (by decide)
    have ga1 : gA μ (m + 5) 6 (nI 1) = true := gA_i (by omega) s5 (by decide) (by decide)
    have ga2 : gA μ (m + 5) 6 (nI 2) = true := gA_i (by omega) s5 (by decide) (by decide)
    have gl : (Nat.blt (m + 1) (mN μ) && (Nat.ble 5 7 && Nat.ble 7 9)) = true := by rw [hN, Nat.blt_eq.mpr (by omega)]; rfl
    apply w_X2_init_49
    simp only [gm, gO_sI, gA_sI, mRsI, h0, h4, gR_some, Option.getD_some, Bool.and_self, cond_true, gl, s1, show icB .ge (nI 24) (nI 24) = true by decide, ga0, ga1, ga2, idx_nI (show 0 < 2147483648 by decide), idx_nI (show 1 < 2147483648 by decide), idx_nI (show 2 < 2147483648 by decide)]
    refine hQ _ hN hX (fun a j ha => ?_) ?_ ?_ ?_ (fun a j _ _ => rfl) fun j hj => hr j hj
    · rw [mIsI, if_neg (by omega), mIsI, if_neg (by omega), mIsI, if_neg (by omega)]
    · rw [mIsI, if_neg (by omega), mIsI, if_neg (by omega), mIsI, if_pos ⟨rfl, rfl⟩]
    · rw [mIsI, if_neg (by omega), mIsI, if_pos ⟨rfl, rfl⟩]
    · rw [mIsI, if_pos ⟨rfl, rfl⟩]
  | succ d ih =>
    intro i μ Q hi hN hX h0 h4 hr hQ
    have hi24 : i < 24 := by omega
    have gm : gO μ m 1 = true := gO_i (by omega) (by rw [s0])
    have gl : (Nat.blt (m + 1) (mN μ) && (Nat.ble 5 7 && Nat.ble 7 9)) = true := by rw [hN, Nat.blt_eq.mpr (by omega)]; rfl
    have gn : (Nat.blt (mN μ) NN && (Nat.beq (mX μ) 0 && Nat.beq (shp (mN μ)).1 0)) = true := by
      rw [hN, hX, s6 i hi24, Nat.blt_eq.mpr (by unfold NN; omega)]; rfl
    have hge : icB .ge (nI i) (nI 24) = false := by rw [icB_ge (by omega) (by decide)]; exact decide_eq_false (by omega)
    apply w_X2_init_49
    simp only [gm, h0, gR_some, Option.getD_some, Bool.and_self, cond_true, gl, s1, hge, cond_false, gn]
    have gr : gO (newM μ) (mN μ) 0 = true := gO_i (by rw [mN_newM]; omega) (by rw [hN, s6 i hi24])
    rw [gr, cond_true]
    refine k_row (by rw [mN_newM]; omega) (by rw [hN, s6 i hi24]) fun μ' e1 e2 e3 e4 => ?_
    rw [mN_newM] at e1
    rw [mX_newM] at e2
    have ga : gA μ' (m + 1) 7 (nI i) = true := gA_i (by omega) s1 (by decide) hi24
    have gp : gO μ' (mN μ) 0 = true := gO_i (by omega) (by rw [hN, s6 i hi24])
    rw [QV_v, ga, gp, Bool.true_and, Bool.true_or, cond_true, idx_nI (by omega), nI_add]
    have rr : ∀ a j, a < m + 6 → mR μ' a j = mR μ a j := fun a j ha => by rw [e3, mR_newM, if_neg (by omega)]
    have ri : ∀ a j, a < m + 6 → mI μ' a j = mI μ a j := fun a j ha => by rw [e4 a j (by omega), mI_newM, if_neg (by omega)]
    refine ih (i := i + 1) (by omega) (show mN μ' = _ by omega) (show mX μ' = 0 by omega) (by rw [mRsR, if_neg (by omega), rr _ _ (by omega)]; exact h0) (by rw [mRsR, if_neg (by omega), rr _ _ (by omega)]; exact h4) (fun j hj => ?_) fun ν n1 n2 n3 n4 n5 n6 n7 n8 => hQ ν n1 n2 (fun a j ha => ?_) n4 n5 n6 (fun a j ha hb => ?_) n8
    · rw [mRsR]
      by_cases e : j = i
      · rw [if_pos ⟨rfl, e⟩, e, hN]
      · rw [if_neg (fun h => e h.2), rr _ _ (by omega)]; exact hr j (by omega)
    · rw [n3 a j ha, mIsR, ri a j (by omega)]
    · rw [n7 a j ha hb, mRsR, if_neg (by omega), rr a j ha]

/-! a machine's constructor -/
theorem gn_a {μ : Mem} {N kd n : Nat} (hN : mN μ = N) (hX : mX μ = 0) (hl : N < 387) (hs : shp N = (kd, n)) : (Nat.blt (mN μ) NN && (Nat.beq (mX μ) 0 && (Nat.beq (shp (mN μ)).1 kd && decide (nI n = nI (shp (mN μ)).2)))) = true := by
  rw [hN, hX, hs, Nat.blt_eq.mpr (by unfold NN; omega), Nat.beq_refl kd, decide_eq_true rfl]; rfl
theorem gn_o {μ : Mem} {N kd : Nat} (hN : mN μ = N) (hX : mX μ = 0) (hl : N < 387) (hs : (shp N).1 = kd) : (Nat.blt (mN μ) NN && (Nat.beq (mX μ) 0 && Nat.beq (shp (mN μ)).1 kd)) = true := by
  rw [hN, hX, hs, Nat.blt_eq.mpr (by unfold NN; omega), Nat.beq_refl kd]; rfl
theorem mInM {μ : Mem} {a k : Nat} : mI (newM μ) a k = if a = mN μ then 0 else mI μ a k := rfl
theorem mRnM {μ : Mem} {a k : Nat} : mR (newM μ) a k = if a = mN μ then none else mR μ a k := rfl
/-- a new object is made and put into a field -/
theorem nw_st {μ : Mem} {N t k : Nat} (hN : mN μ = N) : mN (setR (newM μ) t k N) = N + 1 ∧ mX (setR (newM μ) t k N) = mX μ ∧ (∀ a j, a < N → mI (setR (newM μ) t k N) a j = mI μ a j) ∧ (∀ j, mI (setR (newM μ) t k N) N j = 0) ∧ (∀ a j, a < N → ¬ (a = t ∧ j = k) → mR (setR (newM μ) t k N) a j = mR μ a j) ∧ mR (setR (newM μ) t k N) t k = some N := by
  refine ⟨by rw [mN_setR, mN_newM, hN], rfl, fun a j ha => ?_, fun j => ?_, fun a j ha hn => ?_, ?_⟩
  · rw [mIsR, mInM, if_neg (by omega)]
  · rw [mIsR, mInM, if_pos hN.symm]
  · rw [mRsR, if_neg hn, mRnM, if_neg (by omega)]
  · rw [mRsR, if_pos ⟨rfl, rfl⟩]
theorem k_mach {xs : Scr} {m : Nat} {μ : Mem} {Q : Post} (hB : Bs m) (hN : mN μ = m + 1) (hX : mX μ = 0)
    (hQ : ∀ μ', mN μ' = m + 30 → mX μ' = 0 → (∀ a j, a < m + 1 → mI μ' a j = mI μ a j) → (∀ a j, a < m → mR μ' a j = mR μ a j) → (∀ j, mI μ' (m + 3) j = 0) → (∀ j, mI μ' (m + 4) j = 0) → mI μ' (m + 5) 0 = nI 4 → mI μ' (m + 5) 1 = nI 2 → mI μ' (m + 5) 2 = nI 2 → (∀ k, k < 5 → mR μ' m k = some (m + (1 + k))) → (∀ j, j < 24 → mR μ' (m + 1) j = some (m + (6 + j))) → Q (.inl none) μ') : Ev xs 13 0 [.ref m, .null] [] μ Q := by
  have hlt := Bs_lt hB
  obtain ⟨s0, s1, s2, s3, s4, s5, s6⟩ := Bs_shp hB
  have gm : ∀ {ν : Mem}, m < mN ν → gO ν m 1 = true := fun e => gO_i e (by rw [s0])
  apply w_X2_init_0
  have b0 : Nat.blt m (mN μ) = true := Nat.blt_eq.mpr (by omega)
  have g1 : gO (newM μ) m 1 = true := gm (by rw [mN_newM]; omega)
  simp only [b0, gn_a hN hX (by omega) s1, g1, cond_true]
  rw [hN]
  obtain ⟨n1, x1, i1, z1, r1, q1⟩ := nw_st (t := m) (k := 0) hN
  generalize setR (newM μ) m 0 (m + 1) = u at *
  rw [hX] at x1
  have g2 : gO (newM u) (m + 2) 0 = true := gO_i (by rw [mN_newM]; omega) (by rw [s2])
  rw [n1]
  have c2 := gn_o (kd := 0) n1 x1 (by omega) (by rw [show m + 1 + 1 = m + 2 from rfl, s2])
  rw [n1] at c2
  simp only [c2, show m + 1 + 1 = m + 2 from rfl, g2, cond_true]
  refine k_row (by rw [mN_newM]; omega) (by rw [s2]) fun v n2 x2 r2 i2 => ?_
  rw [mN_newM, n1] at n2
  rw [mX_newM, x1] at x2
  rw [QV_v, gm (by omega), cond_true]
  have n3 : mN (setR v m 1 (m + 2)) = m + 3 := n2
  have x3 : mX (setR v m 1 (m + 2)) = 0 := x2
  have i3 : ∀ a j, a < m + 1 → mI (setR v m 1 (m + 2)) a j = mI μ a j := fun a j ha => by
    rw [mIsR, i2 a j (by omega), mInM, if_neg (by omega), i1 a j (by omega)]
  have r3 : ∀ a j, a < m → mR (setR v m 1 (m + 2)) a j = mR μ a j := fun a j ha => by
    rw [mRsR, if_neg (by omega), r2, mRnM, if_neg (by omega), r1 a j (by omega) (by omega)]
  have q30 : mR (setR v m 1 (m + 2)) m 0 = some (m + 1) := by
    rw [mRsR, if_neg (by omega), r2, mRnM, if_neg (by omega), q1]
  have q31 : mR (setR v m 1 (m + 2)) m 1 = some (m + 2) := by rw [mRsR, if_pos ⟨rfl, rfl⟩]
  generalize setR v m 1 (m + 2) = w at *
  have c3 := gn_a n3 x3 (by omega) s3
  have g3 : gO (newM w) m 1 = true := gm (by rw [mN_newM]; omega)
  simp only [c3, g3, cond_true]
  rw [n3]
  obtain ⟨n4, x4, i4, z4, r4, q4⟩ := nw_st (t := m) (k := 2) n3
  generalize setR (newM w) m 2 (m + 3) = w4 at *
  rw [x3] at x4
  have c4 := gn_a (N := m + 4) n4 x4 (by omega) s4
  have g4 : gO (newM w4) m 1 = true := gm (by rw [mN_newM]; omega)
  simp only [c4, g4, cond_true]
  rw [n4]
  obtain ⟨n5, x5, i5, z5, r5, q5⟩ := nw_st (t := m) (k := 3) n4
  generalize setR (newM w4) m 3 (m + 3 + 1) = w5 at *
  rw [x4] at x5
  have c5 := gn_a (N := m + 5) n5 x5 (by omega) s5
  have g5 : gO (newM w5) m 1 = true := gm (by rw [mN_newM]; omega)
  simp only [c5, g5, cond_true]
  rw [n5]
  obtain ⟨n6, x6, i6, z6, r6, q6⟩ := nw_st (t := m) (k := 4) n5
  generalize setR (newM w5) m 4 (m + 3 + 1 + 1) = w6 at *
  rw [x5] at x6
  refine k_rows hB (d := 24) (i := 0) (by decide) (by omega) x6 ?_ (by rw [q6]) (fun j hj => absurd hj (Nat.not_lt_zero j)) fun y n7 x7 i7 a7 b7 c7 r7 q7 => ?_
  · rw [r6 _ _ (by omega) (by omega), r5 _ _ (by omega) (by omega), r4 _ _ (by omega) (by omega), q30]
  · refine hQ y n7 x7 (fun a j ha => ?_) (fun a j ha => ?_) (fun j => ?_) (fun j => ?_) a7 b7 c7 (fun k hk => ?_) q7
    · rw [i7 a j (by omega), i6 a j (by omega), i5 a j (by omega), i4 a j (by omega), i3 a j ha]
    · rw [r7 a j (by omega) (by omega), r6 a j (by omega) (by omega), r5 a j (by omega) (by omega), r4 a j (by omega) (by omega), r3 a j ha]
    · rw [i7 _ j (by omega), i6 _ j (by omega), i5 _ j (by omega), z4]
    · rw [i7 _ j (by omega), i6 _ j (by omega)]; exact z5 j
    · rw [r7 _ k (by omega) (by omega)]
      obtain rfl | rfl | rfl | rfl | rfl : k = 0 ∨ k = 1 ∨ k = 2 ∨ k = 3 ∨ k = 4 := by omega
      · rw [r6 _ _ (by omega) (by omega), r5 _ _ (by omega) (by omega), r4 _ _ (by omega) (by omega), q30]
      · rw [r6 _ _ (by omega) (by omega), r5 _ _ (by omega) (by omega), r4 _ _ (by omega) (by omega), q31]
      · rw [r6 _ _ (by omega) (by omega), r5 _ _ (by omega) (by omega), q4]
      · rw [r6 _ _ (by omega) (by omega), q5]
      · rw [q6]

/-! the class's constructor -/
def MR (m : Nat) (μ : Mem) : Prop := (∀ k, k < 5 → mR μ m k = some (m + (1 + k))) ∧ ∀ j, j < 24 → mR μ (m + 1) j = some (m + (6 + j))
theorem MR.fr {m : Nat} {μ μ' : Mem} (h : MR m μ) (h0 : ∀ k, mR μ' m k = mR μ m k) (h1 : ∀ k, mR μ' (m + 1) k = mR μ (m + 1) k) : MR m μ' := ⟨fun k hk => by rw [h0]; exact h.1 k hk, fun k hk => by rw [h1]; exact h.2 k hk⟩
/-- the saved machines are made -/
theorem k_cls37 {xs : Scr} : ∀ {d i : Nat} {μ : Mem} {Q : Post}, i + d = 6 → mN μ = 62 + 30 * i → mX μ = 0 → mR μ 0 2 = some 61 → (∀ j, j < i → mR μ 61 j = some (62 + 30 * j) ∧ MR (62 + 30 * j) μ) →
    (∀ μ', mN μ' = 242 → mX μ' = 0 → (∀ a k, a < 61 → mI μ' a k = mI μ a k) → (∀ a k, a < 61 → mR μ' a k = mR μ a k) → (∀ j, j < 6 → mR μ' 61 j = some (62 + 30 * j) ∧ MR (62 + 30 * j) μ') → Ev xs 62 37 [.ref 0, .int (nI 6)] [] μ' Q) → Ev xs 62 37 [.ref 0, .int (nI i)] [] μ Q := by
  intro d
  induction d with
  | zero =>
    intro i μ Q hi hN hX h2 hr hQ
    obtain rfl : i = 6 := by omega
    exact hQ μ hN hX (fun _ _ _ => rfl) (fun _ _ _ => rfl) hr
  | succ d ih =>
    intro i μ Q hi hN hX h2 hr hQ
    have hB : Bs (62 + 30 * i) := Bs_s (by omega)
    have hs := (Bs_shp hB).1
    have g0 : gO μ 0 3 = true := gO_i (by omega) rfl
    have gl : (Nat.blt 61 (mN μ) && (Nat.ble 5 (shp 61).1 && Nat.ble (shp 61).1 9)) = true := by rw [Nat.blt_eq.mpr (by omega)]; rfl
    have hge : icB .ge (nI i) (nI (shp 61).2) = false := by
      rw [show (shp 61).2 = 6 from rfl, icB_ge (by omega) (by decide)]; exact decide_eq_false (by omega)
    have gn := gn_o (kd := 1) hN hX (by omega) (by rw [hs])
    have g1 : gO (newM μ) (mN μ) 1 = true := gO_i (by rw [mN_newM]; omega) (by rw [hN, hs])
    apply w_X4_init_37
    simp only [g0, h2, gR_some, Option.getD_some, Bool.and_self, cond_true, gl, hge, cond_false, gn, g1]
    rw [hN]
    refine k_mach hB (by rw [mN_newM, hN]) (by rw [mX_newM, hX]) fun ν n1 x1 i1 r1 _ _ _ _ _ q1 q2 => ?_
    have ga : gA ν 61 8 (nI i) = true := gA_i (by omega) rfl (by decide) (by omega)
    have gp : gO ν (62 + 30 * i) 1 = true := gO_i (by omega) (by rw [hs])
    have r2 : ∀ a k, a < 62 + 30 * i → mR ν a k = mR μ a k := fun a k ha => by rw [r1 a k ha, mRnM, if_neg (by omega)]
    have i2 : ∀ a k, a < 62 + 30 * i → mI ν a k = mI μ a k := fun a k ha => by rw [i1 a k (by omega), mInM, if_neg (by omega)]
    rw [QV_v, ga, gp, Bool.and_self, Bool.or_true, cond_true, idx_nI (by omega), nI_add]
    refine ih (i := i + 1) (by omega) (show mN ν = _ by omega) x1 (by rw [mRsR, if_neg (by omega), r2 _ _ (by omega)]; exact h2) (fun j hj => ?_) fun y n3 x3 i3 r3 q3 => hQ y n3 x3 (fun a k ha => ?_) (fun a k ha => ?_) q3
    · by_cases e : j = i
      · subst e
        exact ⟨by rw [mRsR, if_pos ⟨rfl, rfl⟩], fun k hk => by rw [mRsR, if_neg (by omega)]; exact q1 k hk, fun k hk => by rw [mRsR, if_neg (by omega)]; exact q2 k hk⟩
      · obtain ⟨a1, a2⟩ := hr j (by omega)
        exact ⟨by rw [mRsR, if_neg (by omega), r2 _ _ (by omega)]; exact a1, a2.fr (fun k => by rw [mRsR, if_neg (by omega), r2 _ _ (by omega)]) fun k => by rw [mRsR, if_neg (by omega), r2 _ _ (by omega)]⟩
    · rw [i3 a k ha, mIsR, i2 a k (by omega)]
    · rw [r3 a k ha, mRsR, if_neg (by omega), r2 a k (by omega)]

/-! the class's constructor, whole -/
def M1 (μ : Mem) : Prop := (∀ j, mI μ 1 j = 0) ∧ (∀ j, mI μ 4 j = 0) ∧ (∀ j, mI μ 5 j = 0) ∧ mI μ 6 0 = nI 4 ∧ mI μ 6 1 = nI 2 ∧ mI μ 6 2 = nI 2
theorem M1.fr {μ μ' : Mem} (h : M1 μ) (he : ∀ a j, a < 31 → mI μ' a j = mI μ a j) : M1 μ' := by
  obtain ⟨a, b, c, d, e, f⟩ := h
  exact ⟨fun j => (he _ _ (by decide)).trans (a j), fun j => (he _ _ (by decide)).trans (b j), fun j => (he _ _ (by decide)).trans (c j), (he _ _ (by decide)).trans d, (he _ _ (by decide)).trans e, (he _ _ (by decide)).trans f⟩
theorem k_clsA {xs : Scr} {μ : Mem} {Q : Post} (hN : mN μ = 1) (hX : mX μ = 0)
    (hQ : ∀ μ', mN μ' = 242 → mX μ' = 0 → (∀ k, mI μ' 0 k = mI μ 0 k) → M1 μ' → mR μ' 0 0 = some 1 → mR μ' 0 1 = some 31 → mR μ' 0 2 = some 61 → MR 1 μ' → MR 31 μ' → (∀ j, j < 6 → mR μ' 61 j = some (62 + 30 * j) ∧ MR (62 + 30 * j) μ') → Ev xs 62 37 [.ref 0, .int (nI 6)] [] μ' Q) : Ev xs 62 0 [.ref 0, .null] [] μ Q := by
  have g0 : ∀ {ν : Mem}, 0 < mN ν → gO ν 0 3 = true := fun e => gO_i e rfl
  apply w_X4_init_0
  have b0 : Nat.blt 0 (mN μ) = true := Nat.blt_eq.mpr (by omega)
  have g1 : gO (newM μ) (mN μ) 1 = true := gO_i (by rw [mN_newM]; omega) (by rw [hN]; rfl)
  have c1 := gn_o (kd := 1) hN hX (by decide) rfl
  simp only [b0, c1, g1, cond_true]
  rw [hN]
  refine k_mach Bs_1 (by rw [mN_newM, hN]) (by rw [mX_newM, hX]) fun ν n1 x1 i1 r1 z3 z4 sa sb sc q1 q2 => ?_
  rw [QV_v, g0 (by omega), cond_true]
  have nu : mN (setR ν 0 0 1) = 31 := n1
  have xu : mX (setR ν 0 0 1) = 0 := x1
  have iu : ∀ a k, mI (setR ν 0 0 1) a k = mI ν a k := fun a k => rfl
  have ru : ∀ a k, ¬ (a = 0 ∧ k = 0) → mR (setR ν 0 0 1) a k = mR ν a k := fun a k h => by rw [mRsR, if_neg h]
  have qu : mR (setR ν 0 0 1) 0 0 = some 1 := by rw [mRsR, if_pos ⟨rfl, rfl⟩]
  generalize setR ν 0 0 1 = u at *
  have c2 := gn_o (kd := 1) nu xu (by decide) rfl
  have g2 : gO (newM u) (mN u) 1 = true := gO_i (by rw [mN_newM]; omega) (by rw [nu]; rfl)
  simp only [c2, g2, cond_true]
  rw [nu]
  refine k_mach Bs_31 (by rw [mN_newM, nu]) (by rw [mX_newM, xu]) fun y n2 x2 i2 r2 _ _ _ _ _ p1 p2 => ?_
  rw [QV_v, g0 (by omega), cond_true]
  have nv : mN (setR y 0 1 31) = 61 := n2
  have xv : mX (setR y 0 1 31) = 0 := x2
  have iv : ∀ a k, a < 31 → mI (setR y 0 1 31) a k = mI u a k := fun a k ha => by rw [mIsR, i2 a k (by omega), mInM, if_neg (by omega)]
  have rv : ∀ a k, a < 31 → ¬ (a = 0 ∧ k = 1) → mR (setR y 0 1 31) a k = mR u a k := fun a k ha h => by rw [mRsR, if_neg h, r2 a k ha, mRnM, if_neg (by omega)]
  have qv : mR (setR y 0 1 31) 0 1 = some 31 := by rw [mRsR, if_pos ⟨rfl, rfl⟩]
  have mv : MR 31 (setR y 0 1 31) := ⟨fun k hk => by rw [mRsR, if_neg (by omega)]; exact p1 k hk, fun k hk => by rw [mRsR, if_neg (by omega)]; exact p2 k hk⟩
  generalize setR y 0 1 31 = v at *
  have c3 := gn_a (kd := 8) (n := 6) nv xv (by decide) rfl
  have g3 : gO (newM v) 0 3 = true := g0 (by rw [mN_newM]; omega)
  simp only [c3, g3, cond_true]
  rw [nv]
  obtain ⟨nw, xw, iw, zw, rw', qw⟩ := nw_st (t := 0) (k := 2) nv
  generalize setR (newM v) 0 2 61 = w at *
  refine k_cls37 (d := 6) (i := 0) (by decide) nw (xw.trans xv) qw (fun j hj => absurd hj (Nat.not_lt_zero j)) fun μ' n5 x5 i5 r5 q5 => ?_
  have il : ∀ a k, a < 31 → mI μ' a k = mI ν a k := fun a k ha => by rw [i5 a k (by omega), iw a k (by omega), iv a k ha, iu]
  refine hQ μ' n5 x5 (fun k => by rw [il _ _ (by decide), i1 _ _ (by decide), mInM, if_neg (by omega)]) ⟨fun j => ?_, fun j => ?_, fun j => ?_, ?_, ?_, ?_⟩ ?_ ?_ ?_ ?_ ?_ q5
  · rw [il _ _ (by decide), i1 _ _ (by decide), mInM, if_pos hN.symm]
  · rw [il _ _ (by decide)]; exact z3 j
  · rw [il _ _ (by decide)]; exact z4 j
  · rw [il _ _ (by decide)]; exact sa
  · rw [il _ _ (by decide)]; exact sb
  · rw [il _ _ (by decide)]; exact sc
  · rw [r5 _ _ (by decide), rw' _ _ (by decide) (by decide), rv _ _ (by decide) (by decide), qu]
  · rw [r5 _ _ (by decide), rw' _ _ (by decide) (by decide), qv]
  · rw [r5 _ _ (by decide), qw]
  · exact ⟨fun k hk => by rw [r5 _ _ (by decide), rw' _ _ (by decide) (by omega), rv _ _ (by decide) (by omega), ru _ _ (by omega)]; exact q1 k hk, fun k hk => by rw [r5 _ _ (by decide), rw' _ _ (by decide) (by omega), rv _ _ (by decide) (by omega), ru _ _ (by omega)]; exact q2 k hk⟩
  · exact mv.fr (fun k => by rw [r5 _ _ (by decide), rw' _ _ (by decide) (by omega)]) fun k => by rw [r5 _ _ (by decide), rw' _ _ (by decide) (by omega)]

/-! the buffer's and the reference's constructors -/
theorem k_clsB {xs : Scr} {μ : Mem} {Q : Post} (hN : mN μ = 242) (hX : mX μ = 0) (h2 : mR μ 0 2 = some 61)
    (hQ : ∀ μ', mN μ' = 245 → mX μ' = 0 → (∀ a k, a < 242 → mI μ' a k = mI μ a k) → (∀ k, mI μ' 242 k = 0) → mR μ' 242 0 = some 243 → mR μ' 0 3 = some 242 → mR μ' 0 4 = some 244 → (∀ a k, a < 242 → ¬ (a = 0 ∧ (k = 3 ∨ k = 4)) → mR μ' a k = mR μ a k) → Q (.inl none) μ') : Ev xs 62 37 [.ref 0, .int (nI 6)] [] μ Q := by
  have g0 : ∀ {ν : Mem}, 0 < mN ν → gO ν 0 3 = true := fun e => gO_i e rfl
  have gl : (Nat.blt 61 (mN μ) && (Nat.ble 5 (shp 61).1 && Nat.ble (shp 61).1 9)) = true := by rw [Nat.blt_eq.mpr (by omega)]; rfl
  have hge : icB .ge (nI 6) (nI (shp 61).2) = true := by decide
  have c1 := gn_o (kd := 2) hN hX (by decide) rfl
  have g1 : gO (newM μ) (mN μ) 2 = true := gO_i (by rw [mN_newM]; omega) (by rw [hN]; rfl)
  apply w_X4_init_37
  simp only [g0 (ν := μ) (by omega), h2, gR_some, Option.getD_some, Bool.and_self, cond_true, gl, hge, c1, g1]
  rw [hN]
  have nn : mN (newM μ) = 243 := by rw [mN_newM, hN]
  have c2 := gn_a (kd := 5) (n := 120) nn hX (by decide) rfl
  apply w_X3_init_0
  have b2 : Nat.blt 242 (mN (newM μ)) = true := Nat.blt_eq.mpr (by omega)
  have g2 : gO (newM (newM μ)) 242 2 = true := gO_i (by rw [mN_newM, nn]; decide) rfl
  simp only [b2, c2, g2, cond_true]
  rw [nn, QV_v]
  obtain ⟨n3, x3, i3, z3, r3, q3⟩ := nw_st (t := 242) (k := 0) nn
  generalize setR (newM (newM μ)) 242 0 243 = u at *
  rw [g0 (by omega), cond_true]
  have n4 : mN (setR u 0 3 242) = 244 := n3
  have x4 : mX (setR u 0 3 242) = 0 := x3.trans hX
  have i4 : ∀ a k, mI (setR u 0 3 242) a k = mI u a k := fun a k => rfl
  have r4 : ∀ a k, ¬ (a = 0 ∧ k = 3) → mR (setR u 0 3 242) a k = mR u a k := fun a k h => by rw [mRsR, if_neg h]
  have q4 : mR (setR u 0 3 242) 0 3 = some 242 := by rw [mRsR, if_pos ⟨rfl, rfl⟩]
  generalize setR u 0 3 242 = v at *
  have c5 := gn_a (kd := 6) (n := 3) n4 x4 (by decide) rfl
  have g5 : gO (newM v) 0 3 = true := g0 (by rw [mN_newM]; omega)
  simp only [c5, g5, cond_true]
  rw [n4]
  obtain ⟨n6, x6, i6, z6, r6, q6⟩ := nw_st (t := 0) (k := 4) n4
  refine hQ _ n6 (x6.trans x4) (fun a k ha => ?_) (fun k => ?_) ?_ ?_ q6 fun a k ha hn => ?_
  · rw [i6 _ _ (by omega), i4, i3 _ _ (by omega), mInM, if_neg (by omega)]
  · rw [i6 _ _ (by omega), i4, i3 _ _ (by omega), mInM, if_pos hN.symm]
  · rw [r6 _ _ (by decide) (by omega), r4 _ _ (by omega), q3]
  · rw [r6 _ _ (by decide) (by omega), q4]
  · rw [r6 _ _ (by omega) (by omega), r4 _ _ (by omega), r3 _ _ (by omega) (by omega), mRnM, if_neg (by omega)]
/-! the start: all stands at the head of the law's loop -/
theorem Good_0 {c : In2} {z : Zt} (hz : ∀ k, z k = if k = 9 then nI 4 else if k = 10 then nI 2 else if k = 11 then nI 2 else 0) (h0 : ∀ k, c 0 k = 0) (h3 : ∀ k, c 3 k = 0) (h4 : ∀ k, c 4 k = 0) (h50 : c 5 0 = nI 4) (h51 : c 5 1 = nI 2) (h52 : c 5 2 = nI 2) : Good c z := by
  have e0 : (0 : Int32) = nI 0 := rfl
  have zz : ∀ k, ¬ k = 9 → ¬ k = 10 → ¬ k = 11 → z k = nI 0 := fun k a b c => by rw [hz, if_neg a, if_neg b, if_neg c]; rfl
  have z9 : z 9 = nI 4 := by rw [hz]; rfl
  have z10 : z 10 = nI 2 := by rw [hz]; rfl
  have z11 : z 11 = nI 2 := by rw [hz]; rfl
  have iR : InR (nI 0) := by unfold InR; decide
  refine ⟨0, 0, 0, 0, ⟨⟨zz 3 (by decide) (by decide) (by decide), zz 2 (by decide) (by decide) (by decide), zz 1 (by decide) (by decide) (by decide), by decide, ⟨⟨4, by decide, by decide, z9⟩, ⟨2, by decide, by decide, z10⟩, ⟨2, by decide, by decide, z11⟩⟩, fun k hk => ?_, fun k hk => ?_, fun i hi => absurd hi (Nat.not_lt_zero i), fun i hi => ?_⟩, fun i a b => by omega, fun k hk => ?_, fun k hk => ?_, fun k hk => ?_, fun k hk => ?_, fun i f hi => absurd hi (Nat.not_lt_zero i), fun i a b => by omega, fun i a b => by omega⟩, Ent_0, ⟨zz 0 (by decide) (by decide) (by decide), 0, 0, zz 7 (by decide) (by decide) (by decide), zz 8 (by decide) (by decide) (by decide), Nat.le_refl 0, Nat.zero_le _⟩, Nat.zero_le _, fun k hk => ?_⟩
  · rw [zz _ (by omega) (by omega) (by omega)]; exact iR
  · rw [zz _ (by omega) (by omega) (by omega)]; exact iR
  · show InR (z (36 + 12 * i + 11))
    rw [zz _ (by omega) (by omega) (by omega)]; exact iR
  · rw [h0, zz _ (by omega) (by omega) (by omega)]; rfl
  · obtain rfl | rfl | rfl : k = 0 ∨ k = 1 ∨ k = 2 := by omega
    · rw [h50]; exact z9.symm
    · rw [h51]; exact z10.symm
    · rw [h52]; exact z11.symm
  · rw [h3, zz _ (by omega) (by omega) (by omega)]; rfl
  · rw [h4, zz _ (by omega) (by omega) (by omega)]; rfl
  · rw [zz _ (by omega) (by omega) (by omega)]; rfl
