/-! earlyShare and digest of the class -/
def shZ (z : Zt) : UInt64 := if z 7 = nI 0 then FP.dconst0 else FP.ddiv (FP.i2d (z 8)) (FP.i2d (z 7))
theorem sh_D {z : Zt} {cy : Nat} (h : Cg z cy) (hcy : cy ≤ 10000) (h0 : ¬ z 7 = nI 0) : ShD (FP.ddiv (FP.i2d (z 8)) (FP.i2d (z 7))) := by
  obtain ⟨-, l, e, c7, c8, h1, h2⟩ := h
  have hl : l ≠ 0 := fun hh => h0 (by rw [c7, hh])
  rw [c7, c8]
  exact ShD_div (by omega) (by omega) h1
theorem sh_Z {z : Zt} {cy : Nat} (h : Cg z cy) (hcy : cy ≤ 10000) : ShD (shZ z) := by
  unfold shZ
  by_cases h0 : z 7 = nI 0
  · rw [if_pos h0]; left; rfl
  · rw [if_neg h0]; exact sh_D h hcy h0
theorem sh_ok {z : Zt} {cy : Nat} (h : Cg z cy) (hcy : cy ≤ 10000) (h0 : ¬ z 7 = nI 0) : gN64 (FP.ddiv (FP.i2d (z 8)) (FP.i2d (z 7))) = true := q_nn64 (sh_D h hcy h0).nn
theorem sh_bits {xs : Scr} {μ : Mem} {Q : Post} {z : Zt} {cy : Nat} (h : Cg z cy) (hcy : cy ≤ 10000) : Ev xs 5 0 [.double (shZ z), .null, .null, .null, .null] [] μ Q ↔ Q (.inl (some (.long (shZ z).toInt64))) μ := e_shdBits (sh_Z h hcy)
theorem sh_long {xs : Scr} {μ : Mem} {Q : Post} {z : Zt} {cy : Nat} (h : Cg z cy) (hcy : cy ≤ 10000) : Ev xs 189 0 [.double (shZ z), .null] [] μ Q ↔ Q (.inl (some (.long (shZ z).toInt64))) μ := e_shdLong (sh_Z h hcy)
theorem k_share {xs : Scr} {I : In2} {ρ : Rh} {Q : Post} {z : Zt} (hW : Rw ρ) (hg : Good (bk I 1) z) : Ev xs 92 0 [.ref 0] [] (I, ρ) Q ↔ Q (.inl (some (.double (shZ z)))) (I, ρ) := by
  obtain ⟨a, b, n, cy, g, -, hc, hcl, -⟩ := hg
  have hok := sh_ok hc hcl
  obtain ⟨-, l, e, c7, c8, hl⟩ := hc
  have q12 : I 1 12 = z 7 := g.2.2.cyc (k := 7) (by decide)
  have q13 : I 1 13 = z 8 := g.2.2.cyc (k := 8) (by decide)
  apply Ev.dt; intro Q h; apply w_X4_earlyShare_0
  unfold shZ at h
  simp only [gc_O hW, gc_0 hW, gm_O hW Bs_1, gR_some, mR_def, mI_def, Option.getD_some, Bool.and_self, cond_true, q12, q13]
  have e7 : icB .le (z 7) (nI 0) = decide (z 7 = nI 0) := by
    rw [c7, icB_le (by omega) (by decide), decide_eq_decide, nI_eqI (by omega) (by decide)]; omega
  rw [e7]
  by_cases h0 : z 7 = nI 0
  · rw [if_pos h0] at h; rw [decide_eq_true h0]; exact h
  · rw [if_neg h0] at h; rw [decide_eq_false h0, cond_false, hok h0]; exact h
theorem k_hash15 {xs : Scr} {I : In2} {ρ : Rh} {Q : Post} {tl : Nat × Zt} {p p0 : Int64} (hW : Rw ρ) (hT : TxC I tl) : ∀ {d i : Nat}, i + d = tl.1 → Q (.inl (some (.long (dgF tl.2 tl.1 p)))) (I, ρ) → Ev xs 54 15 [.ref 242, .long p0, .null, .long (dgF tl.2 i p), .null, .int (nI i)] [] (I, ρ) Q := by
  have h1 := hT.1
  have hl := hT.2.1.1
  intro d
  induction d with
  | zero =>
    intro i hi h
    obtain rfl : i = tl.1 := by omega
    apply w_X3_hashAll_15
    simp (maxSteps := 1000000) (disch := omega) only [↓QI_i, ↓QV_v, ↓QA_a, ↓QF_f, ↓QD_d, ↓QL_l, ↓Bool.cond_eq_ite, ↓reduceIte, decide_eq_true_eq, Bool.not_eq_true', Bool.true_and, Bool.and_true, Bool.and_self, gR_some, Option.getD_some, mI_def, setI_def, mR_def, not_false_eq_true, not_true_eq_false, Bool.false_eq_true, idx_nI, nI_add, pk_mul, icB_lt, icB_gt, icB_le, icB_ge, icB_eq, icB_ne, bI_ne, nI_eqI, gc_T hW, h1, Nat.le_refl]
    exact h
  | succ d ih =>
    intro i hi h
    have hk : ¬ tl.1 ≤ i := by omega
    apply w_X3_hashAll_15
    simp (maxSteps := 1000000) (disch := omega) only [↓QI_i, ↓QV_v, ↓QA_a, ↓QF_f, ↓QD_d, ↓QL_l, ↓Bool.cond_eq_ite, ↓reduceIte, decide_eq_true_eq, Bool.not_eq_true', Bool.true_and, Bool.and_true, Bool.and_self, gR_some, Option.getD_some, mI_def, setI_def, mR_def, not_false_eq_true, not_true_eq_false, Bool.false_eq_true, idx_nI, nI_add, pk_mul, icB_lt, icB_gt, icB_le, icB_ge, icB_eq, icB_ne, bI_ne, nI_eqI, gc_T hW, h1, hk, ↓k_sign hW hT, k_sign hW hT]
    rw [← txC_nI hT.2.1 (by omega : i < tl.1)]
    exact ih (i := i + 1) (by omega) h
theorem k_hash {xs : Scr} {I : In2} {ρ : Rh} {Q : Post} {tl : Nat × Zt} {p : Int64} (hW : Rw ρ) (hT : TxC I tl) (h : Q (.inl (some (.long (dgF tl.2 tl.1 ((Int64.ofNat 31 * p) + (nI tl.1).toInt64))))) (I, ρ)) : Ev xs 54 0 [.ref 242, .long p, .null, .null, .null, .null] [] (I, ρ) Q := by
  apply w_X3_hashAll_0
  rw [gc_T hW, cond_true, mI_def, hT.1]
  exact k_hash15 hW hT (d := tl.1) (i := 0) (by omega) h
/-- the digest -/
def dgN (z : Zt) (s : Nat) : Int64 := dgF (fun j => z (9 + j)) 3 (dgF (cnX z s) 12 (Int64.ofNat 2371))
def dgE (z : Zt) (a b n : Nat) (h : Int64) : Int64 := dgF (fun j => epV z a (a + j / 9) (j % 9)) (9 * (b - a)) (dgF (fun j => pt z (j / 7) (j % 7)) (7 * n) h)
def dgR (z : Zt) (h : Int64) : Int64 := dgF (fun j => clV z (j / 2) (j % 2)) 32 (dgF (fun j => rgV z (j / 3) (j % 3)) 24 h)
def dgW (z : Zt) (h : Int64) : Int64 := dgF (bwV z) 3 ((Int64.ofNat 31 * dgF (irV z 10) 3 h) + (nI (goN 144 z)).toInt64)
def dgT (z : Zt) (n : Nat) (tl : Nat × Zt) (h : Int64) : Int64 := dgF tl.2 tl.1 ((Int64.ofNat 31 * ((Int64.ofNat 31 * ((Int64.ofNat 31 * h) + (wsF z n 0 nM (nI 0)).toInt64)) + (shZ z).toInt64)) + (nI tl.1).toInt64)
def dgV (z : Zt) (s : Nat) (tl : Nat × Zt) : Int64 := dgT z (idx (z 1)) tl (dgW z (dgR z (dgE z (idx (z 3)) (idx (z 2)) (idx (z 1)) (dgN z s))))
theorem k_dg32 {xs : Scr} {I : In2} {ρ : Rh} {Q : Post} {z : Zt} {p : Int64} (hW : Rw ρ) (hg : Good (bk I 1) z) (hr : ∃ a b n, Big (bk I 31) (itC 10 z) a b n) : ∀ {d i : Nat}, i + d = 3 → Ev xs 93 32 [.ref 0, .long (dgF (irV z 10) 3 p), .null, .int (nI 3)] [] (I, ρ) Q → Ev xs 93 32 [.ref 0, .long (dgF (irV z 10) i p), .null, .int (nI i)] [] (I, ρ) Q := by
  intro d
  induction d with
  | zero =>
    intro i hi h
    obtain rfl : i = 3 := by omega
    exact h
  | succ d ih =>
    intro i hi h
    have hk : ¬ 3 ≤ i := by omega
    have hi3 : i < 3 := by omega
    have kr : ∀ {Q : Post}, Ev xs 99 0 [.ref 0, .int (nI i)] [] (I, ρ) Q ↔ Q (.inl (some (.int (irV z 10 i)))) (I, ρ) := fun {Q} => k_rehearsed hW hg hr hi3
    apply w_X4_digest_32
    simp (maxSteps := 1000000) (disch := omega) only [↓QI_i, ↓QV_v, ↓QA_a, ↓QF_f, ↓QD_d, ↓QL_l, ↓Bool.cond_eq_ite, ↓reduceIte, decide_eq_true_eq, Bool.not_eq_true', Bool.true_and, Bool.and_true, Bool.and_self, gR_some, Option.getD_some, mI_def, setI_def, mR_def, not_false_eq_true, not_true_eq_false, Bool.false_eq_true, idx_nI, nI_add, pk_mul, icB_lt, icB_gt, icB_le, icB_ge, icB_eq, icB_ne, bI_ne, nI_eqI, gc_O hW, hk, ↓kr, kr]
    exact ih (i := i + 1) (by omega) h
theorem k_dg74 {xs : Scr} {I : In2} {ρ : Rh} {Q : Post} {z : Zt} {s : Nat} {zs : Nat → Zt} {tl : Nat × Zt} {p : Int64} (hW : Rw ρ) (hC : Cst I ρ z s zs tl) (h4 : ∀ w, w < 3 → I 244 w = bwV z w) (h : Q (.inl (some (.long (dgT z (idx (z 1)) tl (dgF (bwV z) 3 p))))) (I, ρ)) : ∀ {d i : Nat}, i + d = 3 → Ev xs 93 74 [.ref 0, .long (dgF (bwV z) i p), .null, .int (nI i)] [] (I, ρ) Q := by
  have hg := hC.1
  have hT := hC.tx
  have hL : (Nat.blt 244 (mN (I, ρ)) && (Nat.ble 5 (shp 244).1 && Nat.ble (shp 244).1 9)) = true := by rw [mN_def, hW.1]; rfl
  have hl : (shp 244).2 = 3 := rfl
  intro d
  induction d with
  | zero =>
    intro i hi
    obtain rfl : i = 3 := by omega
    obtain ⟨a, b, n, cy, g, -, hc, hcl, -⟩ := hC.1
    have hb := g.1.bnd
    have en : idx (z 1) = n := by rw [g.1.h1, idx_nI (by omega)]
    rw [en] at h
    apply w_X4_digest_74
    simp only [gc_O hW, gc_4 hW, gR_some, mR_def, Option.getD_some, Bool.and_self, cond_true, hL, hl, show icB .ge (nI 3) (nI 3) = true by decide]
    apply w_X4_worstLoad_0
    refine k_worst6 hW g (d := n) (by omega) ?_
    rw [QI_i, gc_O hW, cond_true, k_share hW hg, QD_d, sh_bits hc hcl, QL_l]
    simp only [gc_O hW, gc_3 hW, gR_some, mR_def, Option.getD_some, Bool.and_self, cond_true, gc_T hW]
    refine k_hash hW hT ?_
    rw [QL_l]; exact h
  | succ d ih =>
    intro i hi
    have hk : ¬ 3 ≤ i := by omega
    have e4 := h4 i (by omega)
    apply w_X4_digest_74
    simp (maxSteps := 1000000) (disch := omega) only [↓QI_i, ↓QV_v, ↓QA_a, ↓QF_f, ↓QD_d, ↓QL_l, ↓Bool.cond_eq_ite, ↓reduceIte, decide_eq_true_eq, Bool.not_eq_true', Bool.true_and, Bool.and_true, Bool.and_self, gR_some, Option.getD_some, mI_def, setI_def, mR_def, not_false_eq_true, not_true_eq_false, Bool.false_eq_true, idx_nI, nI_add, pk_mul, icB_lt, icB_gt, icB_le, icB_ge, icB_eq, icB_ne, bI_ne, nI_eqI, gc_O hW, gc_4 hW, hL, hl, hk, gc_B hW, e4]
    exact ih (i := i + 1) (by omega)
theorem k_dg94 {xs : Scr} {Q : Post} {I0 : In2} {ρ0 : Rh} {z : Zt} {s : Nat} {zs : Nat → Zt} {tl : Nat × Zt} {p : Int64} {I : In2} {ρ : Rh} (hD : Dst I0 ρ0 z s zs tl I ρ) (h : ∀ I' ρ', Dst I0 ρ0 z s zs tl I' ρ' → Q (.inl (some (.long (dgF (fun j => z (9 + j)) 3 (dgF (cnX z s) 12 p))))) (I', ρ')) : Ev xs 94 0 [.ref 0, .long p, .null, .null, .null, .null] [] (I, ρ) Q := by
  apply w_X4_hashNumbers_0
  exact k_dg94_5 (p := p) (d := 12) (i := 0) (by decide) hD fun I1 ρ1 hD1 => k_dg94_35 (p := dgF (cnX z s) 12 p) (d := 3) (i := 0) (by decide) hD1 h
theorem k_dg32s {xs : Scr} {I : In2} {ρ : Rh} {Q : Post} {z : Zt} {p : Int64} (hW : Rw ρ) (hg : Good (bk I 1) z) (hr : ∃ a b n, Big (bk I 31) (itC 10 z) a b n) (h : Ev xs 93 32 [.ref 0, .long (dgF (irV z 10) 3 p), .null, .int (nI 3)] [] (I, ρ) Q) : Ev xs 93 32 [.ref 0, .long p, .null, .int (nI 0)] [] (I, ρ) Q := k_dg32 hW hg hr (p := p) (d := 3) (i := 0) (by decide) h
theorem k_dg74s {xs : Scr} {I : In2} {ρ : Rh} {Q : Post} {z : Zt} {s : Nat} {zs : Nat → Zt} {tl : Nat × Zt} {p : Int64} (hW : Rw ρ) (hC : Cst I ρ z s zs tl) (h4 : ∀ w, w < 3 → I 244 w = bwV z w) (h : Q (.inl (some (.long (dgT z (idx (z 1)) tl (dgF (bwV z) 3 p))))) (I, ρ)) : Ev xs 93 74 [.ref 0, .long p, .null, .int (nI 0)] [] (I, ρ) Q := k_dg74 hW hC h4 (p := p) h (d := 3) (i := 0) (by decide)
theorem k_digest {xs : Scr} {I : In2} {ρ : Rh} {Q : Post} {z : Zt} {s : Nat} {zs : Nat → Zt} {tl : Nat × Zt} (hW : Rw ρ) (hC : Cst I ρ z s zs tl) (h : ∀ I' ρ', Dst I ρ z s zs tl I' ρ' → Q (.inl (some (.long (dgV z s tl)))) (I', ρ')) : Ev xs 93 0 [.ref 0, .null, .null, .null] [] (I, ρ) Q := by
  apply w_X4_digest_0
  rw [gc_O hW, cond_true]
  refine k_dg94 (I0 := I) (ρ0 := ρ) (tl := tl) (zs := zs) ⟨hW, rfl, hC, fun _ _ _ => rfl⟩ fun I2 ρ2 hD2 => ?_
  obtain ⟨hW2, hρ2, hC2, hfr2⟩ := hD2
  rw [QL_l, gc_O hW2, cond_true]
  have ⟨a, b, n, cy, g, _⟩ := hC2.1
  have hb := g.1.bnd
  have ea : idx (z 3) = a := by rw [g.1.h3, idx_nI (by omega)]
  have eb : idx (z 2) = b := by rw [g.1.h2, idx_nI (by omega)]
  have en : idx (z 1) = n := by rw [g.1.h1, idx_nI (by omega)]
  refine k_dg95 (p0 := 0) hW2 g ?_
  rw [QL_l, gc_O hW2, cond_true]
  refine k_rhPlain hW2 hC2.1 fun I3 hfr3 hp => ?_
  have hC3 : Cst I3 ρ2 z s zs tl := hC2.fr rfl fun a k _ h2 => hfr3 a k h2
  rw [QV_v, gc_O hW2, cond_true]
  refine k_dg96 (p0 := 0) hW2 hC3.1 hp ?_
  rw [QL_l, gc_O hW2, cond_true]
  refine k_rhCycles (N := 10) (by decide) hW2 hC3.1 fun I4 hfr4 hr => ?_
  have hC4 : Cst I4 ρ2 z s zs tl := hC3.fr rfl fun a k _ h2 => hfr4 a k h2
  rw [QV_v]
  refine k_dg32s hW2 hC4.1 hr ?_
  apply w_X4_digest_32
  rw [show icB .ge (nI 3) (nI 3) = true by decide, cond_true, gc_O hW2, cond_true]
  refine k_left hW2 hC4.1 fun I5 hfr5 => ?_
  have hC5 : Cst I5 ρ2 z s zs tl := hC4.fr rfl fun a k _ h2 => hfr5 a k h2
  rw [QI_i, gc_O hW2, cond_true]
  refine k_windows hW2 hC5.1 fun I6 hfr6 h4 => ?_
  have hC6 : Cst I6 ρ2 z s zs tl := hC5.fr rfl fun a k h1 h2 => hfr6 a k h2 (by omega)
  rw [QV_v]
  refine k_dg74s hW2 hC6 h4 ?_
  have := h I6 ρ2 ⟨hW2, hρ2, hC6, fun a k ha => (hfr6 a k (by omega) (by omega)).trans ((hfr5 a k (by omega)).trans ((hfr4 a k (by omega)).trans ((hfr3 a k (by omega)).trans (hfr2 a k ha))))⟩
  unfold dgV dgW dgR dgE dgN at this
  rw [ea, eb] at this
  rw [en] at this ⊢
  exact this
