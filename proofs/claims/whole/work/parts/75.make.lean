/-! the constructors -/
theorem mI_newM {μ : Mem} {a k : Nat} : mI (newM μ) a k = if a = mN μ then 0 else mI μ a k := rfl
theorem mR_newM {μ : Mem} {a k : Nat} : mR (newM μ) a k = if a = mN μ then none else mR μ a k := rfl
theorem gO_sI {μ : Mem} {a k b ci : Nat} {v : Int32} : gO (setI μ a k v) b ci = gO μ b ci := rfl
theorem gA_sI {μ : Mem} {a k b kd : Nat} {v i : Int32} : gA (setI μ a k v) b kd i = gA μ b kd i := rfl
theorem gO_sR {μ : Mem} {a k b ci v : Nat} : gO (setR μ a k v) b ci = gO μ b ci := rfl
theorem mRsR {μ : Mem} {a k v b j : Nat} : mR (setR μ a k v) b j = if b = a ∧ j = k then some v else mR μ b j := rfl
theorem mIsI {μ : Mem} {a k b j : Nat} {v : Int32} : mI (setI μ a k v) b j = if b = a ∧ j = k then v else mI μ b j := rfl
theorem mRsI {μ : Mem} {a k b j : Nat} {v : Int32} : mR (setI μ a k v) b j = mR μ b j := rfl
theorem mIsR {μ : Mem} {a k v b j : Nat} : mI (setR μ a k v) b j = mI μ b j := rfl
theorem gO_i {μ : Mem} {a ci : Nat} (h : a < mN μ) (hs : (shp a).1 = ci) : gO μ a ci = true := by
  unfold gO; rw [Nat.blt_eq.mpr h, hs]; exact Nat.beq_refl ci
theorem gA_i {μ : Mem} {a kd n k : Nat} (h : a < mN μ) (hs : shp a = (kd, n)) (hn : n ≤ 1536) (hk : k < n) : gA μ a kd (nI k) = true := by
  unfold gA; rw [Nat.blt_eq.mpr h, hs, Bool.true_and, Nat.beq_refl kd, Bool.true_and]
  have := g_ix hk hn
  rw [show Nat.beq SCR SCR = true from rfl, Bool.true_and] at this
  exact this
theorem k_row {xs : Scr} {μ : Mem} {Q : Post} {a : Nat} (h : a < mN μ) (hs : (shp a).1 = 0) (hQ : ∀ μ', mN μ' = mN μ → mX μ' = mX μ → (∀ b j, mR μ' b j = mR μ b j) → (∀ b j, ¬ b = a → mI μ' b j = mI μ b j) → Q (.inl none) μ') : Ev xs 6 0 [.ref a] [] μ Q := by
  have g : gO μ a 0 = true := gO_i h hs
  apply w_X1_init_0
  rw [Nat.blt_eq.mpr h, cond_true]
  simp only [g, gO_sI, cond_true]
  exact hQ _ rfl rfl (fun b j => rfl) fun b j hb => by
    have e : ∀ k, ¬ (b = a ∧ j = k) := fun k h => hb h.1
    rw [mIsI, if_neg (e _), mIsI, if_neg (e _), mIsI, if_neg (e _), mIsI, if_neg (e _), mIsI, if_neg (e _), mIsI, if_neg (e _)]
theorem k_rows {xs : Scr} {m : Nat} (hB : Bs m) : ∀ {d i : Nat} {μ : Mem} {Q : Post}, i + d = 24 → mN μ = m + (6 + i) → mX μ = 0 → mR μ m 0 = some (m + 1) → mR μ m 4 = some (m + 5) → (∀ j, j < i → mR μ (m + 1) j = some (m + (6 + j))) →
    (∀ μ', mN μ' = m + 30 → mX μ' = 0 → (∀ a j, a < m + 5 → mI μ' a j = mI μ a j) → mI μ' (m + 5) 0 = nI 4 → mI μ' (m + 5) 1 = nI 2 → mI μ' (m + 5) 2 = nI 2 → (∀ a j, a < m + 6 → ¬ a = m + 1 → mR μ' a j = mR μ a j) → (∀ j, j < 24 → mR μ' (m + 1) j = some (m + (6 + j))) → Q (.inl none) μ') → Ev xs 13 49 [.ref m, .int (nI i)] [] μ Q := by
  have hlt := Bs_lt hB
  obtain ⟨s0, s1, s2, s3, s4, s5, s6⟩ := Bs_shp hB
  intro d
  induction d with
  | zero =>
    intro i μ Q hi hN hX h0 h4 hr hQ
    obtain rfl : i = 24 := by omega
    have gm : gO μ m 1 = true := gO_i (by omega) (by rw [s0])
    have ga0 : gA μ (m + 5) 6 (nI 0) = true := gA_i (by omega) s5 (by decide) (by decide)
    have ga1 : gA μ (m + 5) 6 (nI 1) = true := gA_i (by omega) s5 (by decide) (by decide)
    have ga2 : gA μ (m + 5) 6 (nI 2) = true := gA_i (by omega) s5 (by decide) (by decide)
    have gl : (Nat.blt (m + 1) (mN μ) && (Nat.ble 5 7 && Nat.ble 7 9)) = true := by rw [hN, Nat.blt_eq.mpr (by omega)]; rfl
    apply w_X2_init_49
    simp only [gm, gO_sI, gA_sI, mRsI, h0, h4, gR_some, Option.getD_some, Bool.and_self, cond_true, gl, s1, show icB .ge (nI 24) (nI 24) = true by decide, ga0, ga1, ga2, idx_nI (show 0 < 2147483648 by decide), idx_nI (show 1 < 2147483648 by decide), idx_nI (show 2 < 2147483648 by decide)]
    refine hQ _ hN hX (fun a j ha => ?_) ?_ ?_ ?_ (fun a j _ _ => rfl) fun j hj => hr j hj
    · rw [mIsI, if_neg (by omega), mIsI, if_neg (by omega), mIsI, if_neg (by omega)]
    · rw [mIsI, if_neg (by omega), mIsI, if_neg (by omega), mIsI, if_pos ⟨rfl, rfl⟩]
    · rw [mIsI, if_neg (by omega), mIsI, if_pos ⟨rfl, rfl⟩]
    · rw [mIsI, if_pos ⟨rfl, rfl⟩]
  | succ d ih =>
    intro i μ Q hi hN hX h0 h4 hr hQ
    have hi24 : i < 24 := by omega
    have gm : gO μ m 1 = true := gO_i (by omega) (by rw [s0])
    have gl : (Nat.blt (m + 1) (mN μ) && (Nat.ble 5 7 && Nat.ble 7 9)) = true := by rw [hN, Nat.blt_eq.mpr (by omega)]; rfl
    have gn : (Nat.blt (mN μ) NN && (Nat.beq (mX μ) 0 && Nat.beq (shp (mN μ)).1 0)) = true := by
      rw [hN, hX, s6 i hi24, Nat.blt_eq.mpr (by unfold NN; omega)]; rfl
    have hge : icB .ge (nI i) (nI 24) = false := by rw [icB_ge (by omega) (by decide)]; exact decide_eq_false (by omega)
    apply w_X2_init_49
    simp only [gm, h0, gR_some, Option.getD_some, Bool.and_self, cond_true, gl, s1, hge, cond_false, gn]
    have gr : gO (newM μ) (mN μ) 0 = true := gO_i (by rw [mN_newM]; omega) (by rw [hN, s6 i hi24])
    rw [gr, cond_true]
    refine k_row (by rw [mN_newM]; omega) (by rw [hN, s6 i hi24]) fun μ' e1 e2 e3 e4 => ?_
    rw [mN_newM] at e1
    rw [mX_newM] at e2
    have ga : gA μ' (m + 1) 7 (nI i) = true := gA_i (by omega) s1 (by decide) hi24
    have gp : gO μ' (mN μ) 0 = true := gO_i (by omega) (by rw [hN, s6 i hi24])
    rw [QV_v, ga, gp, Bool.true_and, Bool.true_or, cond_true, idx_nI (by omega), nI_add]
    have rr : ∀ a j, a < m + 6 → mR μ' a j = mR μ a j := fun a j ha => by rw [e3, mR_newM, if_neg (by omega)]
    have ri : ∀ a j, a < m + 6 → mI μ' a j = mI μ a j := fun a j ha => by rw [e4 a j (by omega), mI_newM, if_neg (by omega)]
    refine ih (i := i + 1) (by omega) (show mN μ' = _ by omega) (show mX μ' = 0 by omega) (by rw [mRsR, if_neg (by omega), rr _ _ (by omega)]; exact h0) (by rw [mRsR, if_neg (by omega), rr _ _ (by omega)]; exact h4) (fun j hj => ?_) fun ν n1 n2 n3 n4 n5 n6 n7 n8 => hQ ν n1 n2 (fun a j ha => ?_) n4 n5 n6 (fun a j ha hb => ?_) n8
    · rw [mRsR]
      by_cases e : j = i
      · rw [if_pos ⟨rfl, e⟩, e, hN]
      · rw [if_neg (fun h => e h.2), rr _ _ (by omega)]; exact hr j (by omega)
    · rw [n3 a j ha, mIsR, ri a j (by omega)]
    · rw [n7 a j ha hb, mRsR, if_neg (by omega), rr a j ha]
