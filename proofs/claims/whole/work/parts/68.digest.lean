/-! the reference's digest, whole -/
theorem e_dg65 {xs : Scr} {I0 : In2} {ρ : Rh} {Q : Post} {z : Zt} {s : Nat} {zs : Nat → Zt} {tl : Nat × Zt} {a b n : Nat} {p : Int64} (hW : Rw ρ) (h0 : Inv z a b n) (hT : Tl z) (h : ∀ I, Est I0 z s zs tl I → Ev xs 187 65 [.ref 245, .int (nI 3)] [] (I, rL ρ (dgF (irV z 10) 3 p)) Q) : ∀ {d i : Nat} {I : In2}, i + d = 3 → Est I0 z s zs tl I → Ev xs 187 65 [.ref 245, .int (nI i)] [] (I, rL ρ (dgF (irV z 10) i p)) Q := by
  intro d
  induction d with
  | zero =>
    intro i I hi hE
    obtain rfl : i = 3 := by omega
    exact h I hE
  | succ d ih =>
    intro i I hi hE
    have hk : ¬ 3 ≤ i := by omega
    apply w_X5_digest_65
    rw [icB_ge (by omega) (by decide), decide_eq_false hk, cond_false, gz_O hW.l, cond_true]
    refine e_runE hW.l h0 hT hE (by omega) fun I' hE' => ?_
    rw [QI_i, gz_O hW.l, cond_true, e_mix hW, QV_v, nI_add]
    exact ih (i := i + 1) (by omega) hE'
theorem e_dg65s {xs : Scr} {I0 I : In2} {ρ : Rh} {Q : Post} {z : Zt} {s : Nat} {zs : Nat → Zt} {tl : Nat × Zt} {a b n : Nat} {p : Int64} (hW : Rw ρ) (h0 : Inv z a b n) (hT : Tl z) (h : ∀ I, Est I0 z s zs tl I → Ev xs 187 65 [.ref 245, .int (nI 3)] [] (I, rL ρ (dgF (irV z 10) 3 p)) Q) (hE : Est I0 z s zs tl I) : Ev xs 187 65 [.ref 245, .int (nI 0)] [] (I, rL ρ p) Q := e_dg65 (p := p) hW h0 hT h (d := 3) (i := 0) (Nat.zero_add 3) hE
theorem e_dg99 {xs : Scr} {I0 : In2} {ρ : Rh} {Q : Post} {z : Zt} {s : Nat} {zs : Nat → Zt} {tl : Nat × Zt} {a b n : Nat} {p : Int64} (hW : Rw ρ) (h0 : Inv0 z a b n) (hT : Tl z) (h : ∀ I, Est I0 z s zs tl I → Ev xs 187 99 [.ref 245, .int (nI 3)] [] (I, rL ρ (dgF (bwV z) 3 p)) Q) : ∀ {d i : Nat} {I : In2}, i + d = 3 → Est I0 z s zs tl I → Ev xs 187 99 [.ref 245, .int (nI i)] [] (I, rL ρ (dgF (bwV z) i p)) Q := by
  intro d
  induction d with
  | zero =>
    intro i I hi hE
    obtain rfl : i = 3 := by omega
    exact h I hE
  | succ d ih =>
    intro i I hi hE
    have hk : ¬ 3 ≤ i := by omega
    apply w_X5_digest_99
    rw [icB_ge (by omega) (by decide), decide_eq_false hk, cond_false, gz_O hW.l, cond_true]
    refine e_winE hW.l h0 hT hE (by omega) fun I' hE' => ?_
    rw [QI_i, gz_O hW.l, cond_true, e_mix hW, QV_v, nI_add]
    exact ih (i := i + 1) (by omega) hE'
theorem e_dg99s {xs : Scr} {I0 I : In2} {ρ : Rh} {Q : Post} {z : Zt} {s : Nat} {zs : Nat → Zt} {tl : Nat × Zt} {a b n : Nat} {p : Int64} (hW : Rw ρ) (h0 : Inv0 z a b n) (hT : Tl z) (h : ∀ I, Est I0 z s zs tl I → Ev xs 187 99 [.ref 245, .int (nI 3)] [] (I, rL ρ (dgF (bwV z) 3 p)) Q) (hE : Est I0 z s zs tl I) : Ev xs 187 99 [.ref 245, .int (nI 0)] [] (I, rL ρ p) Q := e_dg99 (p := p) hW h0 hT h (d := 3) (i := 0) (Nat.zero_add 3) hE
theorem e_dg151 {xs : Scr} {I : In2} {ρ : Rh} {Q : Post} {z : Zt} {s : Nat} {zs : Nat → Zt} {tl : Nat × Zt} {p : Int64} (hW : Rw ρ) (hl : tl.1 ≤ 120) (hR : Rst I z s zs tl) (h : Q (.inl (some (.long (dgF tl.2 tl.1 p)))) (I, rL ρ (dgF tl.2 tl.1 p))) : ∀ {d i : Nat}, i + d = tl.1 → Ev xs 187 151 [.ref 245, .int (nI i)] [] (I, rL ρ (dgF tl.2 i p)) Q := by
  have h15 := hR.2.2.2.1
  have h9 := hR.2.2.2.2
  have hgO : ∀ {h : Int64}, gO (I, rL ρ h) 245 4 = true := gz_O hW.l
  intro d
  induction d with
  | zero =>
    intro i hi
    obtain rfl : i = tl.1 := by omega
    apply w_X5_digest_151
    rw [hgO, cond_true, mI_def, h15, icB_ge (by omega) (by omega), decide_eq_true (Nat.le_refl _), cond_true, cond_true, mL_19]
    exact h
  | succ d ih =>
    intro i hi
    have hk : ¬ tl.1 ≤ i := by omega
    have hgA : ∀ {h : Int64}, gA (I, rL ρ h) 249 6 (nI i) = true := gz_A3 hW.l (by omega)
    apply w_X5_digest_151
    rw [hgO, cond_true, mI_def, h15, icB_ge (by omega) (by omega), decide_eq_false hk, cond_false]
    simp only [mR_def, rL_1, gz_R3 hW, gR_some, Bool.and_self, cond_true, Option.getD_some, hgA, mI_def, idx_nI (show i < 2147483648 by omega), h9 i (by omega)]
    rw [e_mix hW, QV_v, nI_add]
    exact ih (i := i + 1) (by omega)
theorem e_dg151s {xs : Scr} {I : In2} {ρ : Rh} {Q : Post} {z : Zt} {s : Nat} {zs : Nat → Zt} {tl : Nat × Zt} {p : Int64} (hW : Rw ρ) (hl : tl.1 ≤ 120) (hR : Rst I z s zs tl) (h : Q (.inl (some (.long (dgF tl.2 tl.1 p)))) (I, rL ρ (dgF tl.2 tl.1 p))) : Ev xs 187 151 [.ref 245, .int (nI 0)] [] (I, rL ρ p) Q := e_dg151 (p := p) hW hl hR h (d := tl.1) (i := 0) (Nat.zero_add _)
theorem e_dgEnd {xs : Scr} {I0 I : In2} {ρ : Rh} {Q : Post} {z : Zt} {s : Nat} {zs : Nat → Zt} {tl : Nat × Zt} {a b n cy : Nat} {p : Int64} (hW : Rw ρ) (h0 : Inv z a b n) (hc : Cg z cy) (hcl : cy ≤ 10000) (hl : tl.1 ≤ 120) (hE : Est I0 z s zs tl I) (h : Q (.inl (some (.long (dgT z n tl p)))) (I, rL ρ (dgT z n tl p))) : Ev xs 187 99 [.ref 245, .int (nI 3)] [] (I, rL ρ p) Q := by
  have kw : ∀ {h : Int64} {Q : Post}, Ev xs 181 0 [.ref 245, .null, .null, .null] [] (I, rL ρ h) Q ↔ Q (.inl (some (.int (wsF z n 0 nM (nI 0))))) (I, rL ρ h) := fun {h Q} => by
    have := e_worstNow (xs := xs) (I := I) (z := z) (Q := Q) (hW.l (h := h)) h0.1
    rw [hE.1.eq] at this; exact this
  unfold dgT at h
  apply w_X5_digest_99
  rw [show icB .ge (nI 3) (nI 3) = true by decide, cond_true, gz_O hW.l, cond_true, kw, QI_i, gz_O hW.l, cond_true, e_mix hW, QV_v, gz_O hW.l, cond_true, e_shareNow hW.l hc hcl hE.1.1, QD_d, sh_long hc hcl, QL_l, gz_O hW.l, cond_true, e_mix hW, QV_v, gz_O hW.l, cond_true, cond_true, mI_def, hE.1.2.2.2.1, e_mix hW, QV_v]
  exact e_dg151s hW hl hE.1 h
theorem e_dgW {xs : Scr} {I0 I : In2} {ρ : Rh} {Q : Post} {z : Zt} {s : Nat} {zs : Nat → Zt} {tl : Nat × Zt} {a b n cy : Nat} {p : Int64} (hW : Rw ρ) (h0 : Inv z a b n) (hT : Tl z) (hc : Cg z cy) (hcl : cy ≤ 10000) (hl : tl.1 ≤ 120) (hE : Est I0 z s zs tl I) (h : ∀ I, Est I0 z s zs tl I → Q (.inl (some (.long (dgT z n tl (dgW z p))))) (I, rL ρ (dgT z n tl (dgW z p)))) : Ev xs 187 65 [.ref 245, .int (nI 0)] [] (I, rL ρ p) Q := by
  unfold dgW at h
  refine e_dg65s hW h0 hT (fun I1 hE1 => ?_) hE
  apply w_X5_digest_65
  rw [show icB .ge (nI 3) (nI 3) = true by decide, cond_true, gz_O hW.l, cond_true]
  refine e_leftE hW.l h0 hT hE1 fun I2 hE2 => ?_
  rw [QI_i, gz_O hW.l, cond_true, e_mix hW, QV_v]
  exact e_dg99s hW h0.1 hT (fun I3 hE3 => e_dgEnd hW h0 hc hcl hl hE3 (h I3 hE3)) hE2
theorem e_dgM {xs : Scr} {I0 I : In2} {ρ : Rh} {Q : Post} {z : Zt} {s : Nat} {zs : Nat → Zt} {tl : Nat × Zt} {a b n cy : Nat} {p : Int64} (hW : Rw ρ) (h0 : Inv z a b n) (hT : Tl z) (hc : Cg z cy) (hcl : cy ≤ 10000) (hl : tl.1 ≤ 120) (hE : Est I0 z s zs tl I) (h : ∀ I, Est I0 z s zs tl I → Q (.inl (some (.long (dgT z n tl (dgW z (dgR z (dgE z a b n p))))))) (I, rL ρ (dgT z n tl (dgW z (dgR z (dgE z a b n p)))))) : Ev xs 187 38 [.ref 245, .int (nI 3)] [] (I, rL ρ p) Q := by
  apply w_X5_digest_38
  rw [show icB .ge (nI 3) (nI 3) = true by decide, cond_true, gz_O hW.l, cond_true]
  refine e_dgProg hW h0.1 hE fun I1 hE1 => ?_
  rw [QV_v]
  exact e_dgW hW h0 hT hc hcl hl hE1 h
theorem e_dgN {xs : Scr} {I : In2} {ρ : Rh} {Q : Post} {z : Zt} {s : Nat} {zs : Nat → Zt} {tl : Nat × Zt} {a b n : Nat} {p : Int64} (hW : Rw ρ) (h0 : Inv0 z a b n) (hR : Rst I z s zs tl) (h : Ev xs 187 38 [.ref 245, .int (nI 3)] [] (I, rL ρ (dgF (fun j => z (9 + j)) 3 (dgF (cnX z s) 12 p))) Q) : Ev xs 187 14 [.ref 245, .int (nI 0)] [] (I, rL ρ p) Q :=
  e_dg14 (p := p) hW h0 hR (d := 12) (i := 0) (Nat.zero_add 12) (e_dg38 (p := dgF (cnX z s) 12 p) hW hR (d := 3) (i := 0) (Nat.zero_add 3) h)
theorem e_digest {xs : Scr} {I : In2} {ρ : Rh} {Q : Post} {z : Zt} {c : In2} {s : Nat} {zs : Nat → Zt} {tl : Nat × Zt} (hW : Rw ρ) (hg : Good c z) (hl : tl.1 ≤ 120) (hR : Rst I z s zs tl) (h : ∀ I', Est I z s zs tl I' → Q (.inl (some (.long (dgV z s tl)))) (I', rL ρ (dgV z s tl))) : Ev xs 187 0 [.ref 245, .null] [] (I, ρ) Q := by
  obtain ⟨a, b, n, cy, g, hE, hc, hcl, hT⟩ := hg
  have hb := g.1.bnd
  have ea : idx (z 3) = a := by rw [g.1.h3, idx_nI (by omega)]
  have eb : idx (z 2) = b := by rw [g.1.h2, idx_nI (by omega)]
  have en : idx (z 1) = n := by rw [g.1.h1, idx_nI (by omega)]
  unfold dgV dgN at h
  rw [ea, eb, en] at h
  have hE1 : Est I z s zs tl (up2 I 245 16 (nI 0)) := ⟨hR.t, up2_at, fun a k ha => fr_t ha⟩
  apply w_X5_digest_0
  rw [gz_O hW, cond_true]
  show bif gO _ 245 4 then _ else _
  rw [setI_def, gz_O hW, cond_true]
  show Ev xs 187 14 _ _ (setL _ 245 19 _) Q
  rw [setL_0]
  exact e_dgN hW g.1 hE1.1 (e_dgM hW ⟨g.1, hE⟩ hT hc hcl hl hE1 h)
