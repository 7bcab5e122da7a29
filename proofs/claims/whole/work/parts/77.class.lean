/-! the class's constructor -/
def MR (m : Nat) (μ : Mem) : Prop := (∀ k, k < 5 → mR μ m k = some (m + (1 + k))) ∧ ∀ j, j < 24 → mR μ (m + 1) j = some (m + (6 + j))
theorem MR.fr {m : Nat} {μ μ' : Mem} (h : MR m μ) (h0 : ∀ k, mR μ' m k = mR μ m k) (h1 : ∀ k, mR μ' (m + 1) k = mR μ (m + 1) k) : MR m μ' := ⟨fun k hk => by rw [h0]; exact h.1 k hk, fun k hk => by rw [h1]; exact h.2 k hk⟩
/-- the saved machines are made -/
theorem k_cls37 {xs : Scr} : ∀ {d i : Nat} {μ : Mem} {Q : Post}, i + d = 6 → mN μ = 62 + 30 * i → mX μ = 0 → mR μ 0 2 = some 61 → (∀ j, j < i → mR μ 61 j = some (62 + 30 * j) ∧ MR (62 + 30 * j) μ) →
    (∀ μ', mN μ' = 242 → mX μ' = 0 → (∀ a k, a < 61 → mI μ' a k = mI μ a k) → (∀ a k, a < 61 → mR μ' a k = mR μ a k) → (∀ j, j < 6 → mR μ' 61 j = some (62 + 30 * j) ∧ MR (62 + 30 * j) μ') → Ev xs 62 37 [.ref 0, .int (nI 6)] [] μ' Q) → Ev xs 62 37 [.ref 0, .int (nI i)] [] μ Q := by
  intro d
  induction d with
  | zero =>
    intro i μ Q hi hN hX h2 hr hQ
    obtain rfl : i = 6 := by omega
    exact hQ μ hN hX (fun _ _ _ => rfl) (fun _ _ _ => rfl) hr
  | succ d ih =>
    intro i μ Q hi hN hX h2 hr hQ
    have hB : Bs (62 + 30 * i) := Bs_s (by omega)
    have hs := (Bs_shp hB).1
    have g0 : gO μ 0 3 = true := gO_i (by omega) rfl
    have gl : (Nat.blt 61 (mN μ) && (Nat.ble 5 (shp 61).1 && Nat.ble (shp 61).1 9)) = true := by rw [Nat.blt_eq.mpr (by omega)]; rfl
    have hge : icB .ge (nI i) (nI (shp 61).2) = false := by
      rw [show (shp 61).2 = 6 from rfl, icB_ge (by omega) (by decide)]; exact decide_eq_false (by omega)
    have gn := gn_o (kd := 1) hN hX (by omega) (by rw [hs])
    have g1 : gO (newM μ) (mN μ) 1 = true := gO_i (by rw [mN_newM]; omega) (by rw [hN, hs])
    apply w_X4_init_37
    simp only [g0, h2, gR_some, Option.getD_some, Bool.and_self, cond_true, gl, hge, cond_false, gn, g1]
    rw [hN]
    refine k_mach hB (by rw [mN_newM, hN]) (by rw [mX_newM, hX]) fun ν n1 x1 i1 r1 _ _ _ _ _ q1 q2 => ?_
    have ga : gA ν 61 8 (nI i) = true := gA_i (by omega) rfl (by decide) (by omega)
    have gp : gO ν (62 + 30 * i) 1 = true := gO_i (by omega) (by rw [hs])
    have r2 : ∀ a k, a < 62 + 30 * i → mR ν a k = mR μ a k := fun a k ha => by rw [r1 a k ha, mRnM, if_neg (by omega)]
    have i2 : ∀ a k, a < 62 + 30 * i → mI ν a k = mI μ a k := fun a k ha => by rw [i1 a k (by omega), mInM, if_neg (by omega)]
    rw [QV_v, ga, gp, Bool.and_self, Bool.or_true, cond_true, idx_nI (by omega), nI_add]
    refine ih (i := i + 1) (by omega) (show mN ν = _ by omega) x1 (by rw [mRsR, if_neg (by omega), r2 _ _ (by omega)]; exact h2) (fun j hj => ?_) fun y n3 x3 i3 r3 q3 => hQ y n3 x3 (fun a k ha => ?_) (fun a k ha => ?_) q3
    · by_cases e : j = i
      · subst e
        exact ⟨by rw [mRsR, if_pos ⟨rfl, rfl⟩], fun k hk => by rw [mRsR, if_neg (by omega)]; exact q1 k hk, fun k hk => by rw [mRsR, if_neg (by omega)]; exact q2 k hk⟩
      · obtain ⟨a1, a2⟩ := hr j (by omega)
        exact ⟨by rw [mRsR, if_neg (by omega), r2 _ _ (by omega)]; exact a1, a2.fr (fun k => by rw [mRsR, if_neg (by omega), r2 _ _ (by omega)]) fun k => by rw [mRsR, if_neg (by omega), r2 _ _ (by omega)]⟩
    · rw [i3 a k ha, mIsR, i2 a k (by omega)]
    · rw [r3 a k ha, mRsR, if_neg (by omega), r2 a k (by omega)]
