/-! the class's constructor, whole -/
def M1 (μ : Mem) : Prop := (∀ j, mI μ 1 j = 0) ∧ (∀ j, mI μ 4 j = 0) ∧ (∀ j, mI μ 5 j = 0) ∧ mI μ 6 0 = nI 4 ∧ mI μ 6 1 = nI 2 ∧ mI μ 6 2 = nI 2
theorem M1.fr {μ μ' : Mem} (h : M1 μ) (he : ∀ a j, a < 31 → mI μ' a j = mI μ a j) : M1 μ' := by
  obtain ⟨a, b, c, d, e, f⟩ := h
  exact ⟨fun j => (he _ _ (by decide)).trans (a j), fun j => (he _ _ (by decide)).trans (b j), fun j => (he _ _ (by decide)).trans (c j), (he _ _ (by decide)).trans d, (he _ _ (by decide)).trans e, (he _ _ (by decide)).trans f⟩
theorem k_clsA {xs : Scr} {μ : Mem} {Q : Post} (hN : mN μ = 1) (hX : mX μ = 0)
    (hQ : ∀ μ', mN μ' = 242 → mX μ' = 0 → (∀ k, mI μ' 0 k = mI μ 0 k) → M1 μ' → mR μ' 0 0 = some 1 → mR μ' 0 1 = some 31 → mR μ' 0 2 = some 61 → MR 1 μ' → MR 31 μ' → (∀ j, j < 6 → mR μ' 61 j = some (62 + 30 * j) ∧ MR (62 + 30 * j) μ') → Ev xs 62 37 [.ref 0, .int (nI 6)] [] μ' Q) : Ev xs 62 0 [.ref 0, .null] [] μ Q := by
  have g0 : ∀ {ν : Mem}, 0 < mN ν → gO ν 0 3 = true := fun e => gO_i e rfl
  apply w_X4_init_0
  have b0 : Nat.blt 0 (mN μ) = true := Nat.blt_eq.mpr (by omega)
  have g1 : gO (newM μ) (mN μ) 1 = true := gO_i (by rw [mN_newM]; omega) (by rw [hN]; rfl)
  have c1 := gn_o (kd := 1) hN hX (by decide) rfl
  simp only [b0, c1, g1, cond_true]
  rw [hN]
  refine k_mach Bs_1 (by rw [mN_newM, hN]) (by rw [mX_newM, hX]) fun ν n1 x1 i1 r1 z3 z4 sa sb sc q1 q2 => ?_
  rw [QV_v, g0 (by omega), cond_true]
  have nu : mN (setR ν 0 0 1) = 31 := n1
  have xu : mX (setR ν 0 0 1) = 0 := x1
  have iu : ∀ a k, mI (setR ν 0 0 1) a k = mI ν a k := fun a k => rfl
  have ru : ∀ a k, ¬ (a = 0 ∧ k = 0) → mR (setR ν 0 0 1) a k = mR ν a k := fun a k h => by rw [mRsR, if_neg h]
  have qu : mR (setR ν 0 0 1) 0 0 = some 1 := by rw [mRsR, if_pos ⟨rfl, rfl⟩]
  generalize setR ν 0 0 1 = u at *
  have c2 := gn_o (kd := 1) nu xu (by decide) rfl
  have g2 : gO (newM u) (mN u) 1 = true := gO_i (by rw [mN_newM]; omega) (by rw [nu]; rfl)
  simp only [c2, g2, cond_true]
  rw [nu]
  refine k_mach Bs_31 (by rw [mN_newM, nu]) (by rw [mX_newM, xu]) fun y n2 x2 i2 r2 _ _ _ _ _ p1 p2 => ?_
  rw [QV_v, g0 (by omega), cond_true]
  have nv : mN (setR y 0 1 31) = 61 := n2
  have xv : mX (setR y 0 1 31) = 0 := x2
  have iv : ∀ a k, a < 31 → mI (setR y 0 1 31) a k = mI u a k := fun a k ha => by rw [mIsR, i2 a k (by omega), mInM, if_neg (by omega)]
  have rv : ∀ a k, a < 31 → ¬ (a = 0 ∧ k = 1) → mR (setR y 0 1 31) a k = mR u a k := fun a k ha h => by rw [mRsR, if_neg h, r2 a k ha, mRnM, if_neg (by omega)]
  have qv : mR (setR y 0 1 31) 0 1 = some 31 := by rw [mRsR, if_pos ⟨rfl, rfl⟩]
  have mv : MR 31 (setR y 0 1 31) := ⟨fun k hk => by rw [mRsR, if_neg (by omega)]; exact p1 k hk, fun k hk => by rw [mRsR, if_neg (by omega)]; exact p2 k hk⟩
  generalize setR y 0 1 31 = v at *
  have c3 := gn_a (kd := 8) (n := 6) nv xv (by decide) rfl
  have g3 : gO (newM v) 0 3 = true := g0 (by rw [mN_newM]; omega)
  simp only [c3, g3, cond_true]
  rw [nv]
  obtain ⟨nw, xw, iw, zw, rw', qw⟩ := nw_st (t := 0) (k := 2) nv
  generalize setR (newM v) 0 2 61 = w at *
  refine k_cls37 (d := 6) (i := 0) (by decide) nw (xw.trans xv) qw (fun j hj => absurd hj (Nat.not_lt_zero j)) fun μ' n5 x5 i5 r5 q5 => ?_
  have il : ∀ a k, a < 31 → mI μ' a k = mI ν a k := fun a k ha => by rw [i5 a k (by omega), iw a k (by omega), iv a k ha, iu]
  refine hQ μ' n5 x5 (fun k => by rw [il _ _ (by decide), i1 _ _ (by decide), mInM, if_neg (by omega)]) ⟨fun j => ?_, fun j => ?_, fun j => ?_, ?_, ?_, ?_⟩ ?_ ?_ ?_ ?_ ?_ q5
  · rw [il _ _ (by decide), i1 _ _ (by decide), mInM, if_pos hN.symm]
  · rw [il _ _ (by decide)]; exact z3 j
  · rw [il _ _ (by decide)]; exact z4 j
  · rw [il _ _ (by decide)]; exact sa
  · rw [il _ _ (by decide)]; exact sb
  · rw [il _ _ (by decide)]; exact sc
  · rw [r5 _ _ (by decide), rw' _ _ (by decide) (by decide), rv _ _ (by decide) (by decide), qu]
  · rw [r5 _ _ (by decide), rw' _ _ (by decide) (by decide), qv]
  · rw [r5 _ _ (by decide), qw]
  · exact ⟨fun k hk => by rw [r5 _ _ (by decide), rw' _ _ (by decide) (by omega), rv _ _ (by decide) (by omega), ru _ _ (by omega)]; exact q1 k hk, fun k hk => by rw [r5 _ _ (by decide), rw' _ _ (by decide) (by omega), rv _ _ (by decide) (by omega), ru _ _ (by omega)]; exact q2 k hk⟩
  · exact mv.fr (fun k => by rw [r5 _ _ (by decide), rw' _ _ (by decide) (by omega)]) fun k => by rw [r5 _ _ (by decide), rw' _ _ (by decide) (by omega)]
