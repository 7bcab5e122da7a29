/-! earlyShare and digest of the class -/
def shZ (z : Zt) : UInt64 := if z 7 = nI 0 then FP.dconst0 else FP.ddiv (FP.i2d (z 8)) (FP.i2d (z 7))
theorem sh_D {z : Zt} {cy : Nat} (h : Cg z cy) (hcy : cy ≤ 10000) (h0 : ¬ z 7 = nI 0) : ShD (FP.ddiv (FP.i2d (z 8)) (FP.i2d (z 7))) := by
  obtain ⟨-, l, e, c7, c8, h1, h2⟩ := h
  have hl : l ≠ 0 := fun hh => h0 (by rw [c7, hh])
  rw [c7, c8]
  exact ShD_div (by omega) (by omega) h1
theorem sh_ok {z : Zt} {cy : Nat} (h : Cg z cy) (hcy : cy ≤ 10000) (h0 : ¬ z 7 = nI 0) : gN64 (FP.ddiv (FP.i2d (z 8)) (FP.i2d (z 7))) = true := q_nn64 (sh_D h hcy h0).nn
theorem k_share {xs : Scr} {I : In2} {ρ : Rh} {Q : Post} {z : Zt} (hW : Rw ρ) (hg : Good (bk I 1) z) : Ev xs 92 0 [.ref 0] [] (I, ρ) Q ↔ Q (.inl (some (.double (shZ z)))) (I, ρ) := by
  obtain ⟨a, b, n, cy, g, -, hc, hcl, -⟩ := hg
  have hok := sh_ok hc hcl
  obtain ⟨-, l, e, c7, c8, hl⟩ := hc
  have q12 : I 1 12 = z 7 := g.2.2.cyc (k := 7) (by decide)
  have q13 : I 1 13 = z 8 := g.2.2.cyc (k := 8) (by decide)
  apply Ev.dt; intro Q h; apply w_X4_earlyShare_0
  unfold shZ at h
  simp only [gc_O hW, gc_0 hW, gm_O hW Bs_1, gR_some, mR_def, mI_def, Option.getD_some, Bool.and_self, cond_true, q12, q13]
  have e7 : icB .le (z 7) (nI 0) = decide (z 7 = nI 0) := by
    rw [c7, icB_le (by omega) (by decide), decide_eq_decide, nI_eqI (by omega) (by decide)]; omega
  rw [e7]
  by_cases h0 : z 7 = nI 0
  · rw [if_pos h0] at h; rw [decide_eq_true h0]; exact h
  · rw [if_neg h0] at h; rw [decide_eq_false h0, cond_false, hok h0]; exact h
