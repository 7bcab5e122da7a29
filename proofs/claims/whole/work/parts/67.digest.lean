/-! the reference's digest -/
def Est (I0 : In2) (z : Zt) (s : Nat) (zs : Nat → Zt) (tl : Nat × Zt) (I : In2) : Prop := Rst I z s zs tl ∧ I 245 16 = nI 0 ∧ ∀ a k, a < 245 → I a k = I0 a k
theorem setL_0 {I : In2} {ρ : Rh} {h : Int64} : setL (I, ρ) 245 19 h = (I, rL ρ h) := rfl
theorem e_regE {xs : Scr} {I0 I : In2} {ρ : Rh} {Q : Post} {z : Zt} {s : Nat} {zs : Nat → Zt} {tl : Nat × Zt} {a b n q w : Nat} (hW : Rw ρ) (h0 : Inv0 z a b n) (hE : Est I0 z s zs tl I) (hq : q < 8) (hw : w < 3) (h : ∀ I', Est I0 z s zs tl I' → Q (.inl (some (.int (rgV z q w)))) (I', ρ)) : Ev xs 166 0 [.ref 245, .int (nI q), .int (nI w)] [] (I, ρ) Q := by
  obtain ⟨hR, ht, hf⟩ := hE
  have key : Ev xs 166 0 [.ref 245, .int (nI q), .int (nI w)] [] (pz (pg I (I 255, I 256)) z, ρ) Q := by
    refine e_regNow hW h0 hq hw fun w' => h _ ⟨hR.g, ?_, fun a k ha => ?_⟩
    · rw [pz_ne (by decide)]; exact ht
    · rw [pz_ne (by omega)]; exact (show pg I w' a k = I0 a k by unfold pg; rw [if_neg (by omega), if_neg (by omega)]; exact hf a k ha)
  rw [pg_self, hR.eq] at key; exact key
theorem e_cellE {xs : Scr} {I0 I : In2} {ρ : Rh} {Q : Post} {z : Zt} {s : Nat} {zs : Nat → Zt} {tl : Nat × Zt} {a b n q w : Nat} (hW : Rw ρ) (h0 : Inv0 z a b n) (hE : Est I0 z s zs tl I) (hq : q < 16) (hw : w < 2) (h : ∀ I', Est I0 z s zs tl I' → Q (.inl (some (.int (clV z q w)))) (I', ρ)) : Ev xs 168 0 [.ref 245, .int (nI q), .int (nI w)] [] (I, ρ) Q := by
  obtain ⟨hR, ht, hf⟩ := hE
  have key : Ev xs 168 0 [.ref 245, .int (nI q), .int (nI w)] [] (pz (pg I (I 255, I 256)) z, ρ) Q := by
    refine e_cellNow hW h0 hq hw fun w' => h _ ⟨hR.g, ?_, fun a k ha => ?_⟩
    · rw [pz_ne (by decide)]; exact ht
    · rw [pz_ne (by omega)]; exact (show pg I w' a k = I0 a k by unfold pg; rw [if_neg (by omega), if_neg (by omega)]; exact hf a k ha)
  rw [pg_self, hR.eq] at key; exact key
theorem Est.c {I0 I : In2} {z : Zt} {s : Nat} {zs : Nat → Zt} {tl : Nat × Zt} {zz : Zt} (hE : Est I0 z s zs tl I) : Est I0 z s zs tl (pz (cpA I zz 0) z) := by
  obtain ⟨hR, ht, hf⟩ := hE
  refine ⟨hR.c, ?_, fun a k ha => ?_⟩
  · rw [pz_ne (by decide)]; unfold cpA; rw [if_neg (by omega)]; exact ht
  · rw [pz_ne (by omega)]; unfold cpA; rw [if_neg (by omega)]; exact hf a k ha
theorem e_runE {xs : Scr} {I0 I : In2} {ρ : Rh} {Q : Post} {z : Zt} {s : Nat} {zs : Nat → Zt} {tl : Nat × Zt} {a b n w : Nat} (hW : Rw ρ) (h0 : Inv z a b n) (hT : Tl z) (hE : Est I0 z s zs tl I) (hw : w < 3) (h : ∀ I', Est I0 z s zs tl I' → Q (.inl (some (.int (irV z 10 w)))) (I', ρ)) : Ev xs 174 0 [.ref 245, .int (nI 10), .int (nI w), .null, .null, .null] [] (I, ρ) Q := by
  have key := (e_runNow (xs := xs) (I := I) (Q := Q) hW h0 hT (N := 10) (by decide) hw).mpr (h _ hE.c)
  rw [hE.1.eq] at key; exact key
theorem e_leftE {xs : Scr} {I0 I : In2} {ρ : Rh} {Q : Post} {z : Zt} {s : Nat} {zs : Nat → Zt} {tl : Nat × Zt} {a b n : Nat} (hW : Rw ρ) (h0 : Inv z a b n) (hT : Tl z) (hE : Est I0 z s zs tl I) (h : ∀ I', Est I0 z s zs tl I' → Q (.inl (some (.int (nI (goN 144 z))))) (I', ρ)) : Ev xs 177 0 [.ref 245, .null] [] (I, ρ) Q := by
  have key := (e_leftNow (xs := xs) (I := I) (Q := Q) hW h0 hT).mpr (h _ hE.c)
  rw [hE.1.eq] at key; exact key
theorem e_winE {xs : Scr} {I0 I : In2} {ρ : Rh} {Q : Post} {z : Zt} {s : Nat} {zs : Nat → Zt} {tl : Nat × Zt} {a b n w : Nat} (hW : Rw ρ) (h0 : Inv0 z a b n) (hT : Tl z) (hE : Est I0 z s zs tl I) (hw : w < 3) (h : ∀ I', Est I0 z s zs tl I' → Q (.inl (some (.int (bwV z w)))) (I', ρ)) : Ev xs 179 0 [.ref 245, .int (nI w), .null, .null, .null, .null, .null, .null] [] (I, ρ) Q := by
  have key := e_windowNow (xs := xs) (I := I) (Q := Q) hW h0 hT hw fun I' hI' => h _ ⟨hE.1.w hI', by rw [pz_ne (by decide), hI' _ _ (by decide) (by decide)]; exact hE.2.1, fun a k ha => by rw [pz_ne (by omega), hI' _ _ (by omega) (by omega)]; exact hE.2.2 a k ha⟩
  rw [hE.1.eq] at key; exact key
theorem e_dg14 {xs : Scr} {I : In2} {ρ : Rh} {Q : Post} {z : Zt} {s : Nat} {zs : Nat → Zt} {tl : Nat × Zt} {a b n : Nat} {p : Int64} (hW : Rw ρ) (h0 : Inv0 z a b n) (hR : Rst I z s zs tl) : ∀ {d i : Nat}, i + d = 12 → Ev xs 187 38 [.ref 245, .int (nI 0)] [] (I, rL ρ (dgF (cnX z s) 12 p)) Q → Ev xs 187 14 [.ref 245, .int (nI i)] [] (I, rL ρ (dgF (cnX z s) i p)) Q := by
  have hb := h0.bnd
  intro d
  induction d with
  | zero =>
    intro i hi h
    obtain rfl : i = 12 := by omega
    apply w_X5_digest_14
    rw [show icB .ge (nI 12) (nI 12) = true by decide, cond_true]; exact h
  | succ d ih =>
    intro i hi h
    have hk : ¬ 12 ≤ i := by omega
    have kc : ∀ {h : Int64} {Q : Post}, Ev xs 171 0 [.ref 245, .int (nI i)] [] (I, rL ρ h) Q ↔ Q (.inl (some (.int (cnX z s i)))) (I, rL ρ h) := fun {h Q} => by
      have := e_counted (xs := xs) (Q := Q) (hW.l (h := h)) h0 hR.2.1 (show i < 12 by omega)
      rw [hR.eq] at this
      unfold cnX; rw [h0.1, h0.2.1, h0.2.2.1, idx_nI (by omega), idx_nI (by omega), idx_nI (by omega)]; exact this
    apply w_X5_digest_14
    rw [icB_ge (by omega) (by decide), decide_eq_false hk, cond_false, gz_O hW.l, cond_true, kc, QI_i, gz_O hW.l, cond_true, e_mix hW, QV_v, nI_add]
    exact ih (i := i + 1) (by omega) h
theorem e_dg38 {xs : Scr} {I : In2} {ρ : Rh} {Q : Post} {z : Zt} {s : Nat} {zs : Nat → Zt} {tl : Nat × Zt} {p : Int64} (hW : Rw ρ) (hR : Rst I z s zs tl) : ∀ {d i : Nat}, i + d = 3 → Ev xs 187 38 [.ref 245, .int (nI 3)] [] (I, rL ρ (dgF (fun j => z (9 + j)) 3 p)) Q → Ev xs 187 38 [.ref 245, .int (nI i)] [] (I, rL ρ (dgF (fun j => z (9 + j)) i p)) Q := by
  intro d
  induction d with
  | zero =>
    intro i hi h
    obtain rfl : i = 3 := by omega
    exact h
  | succ d ih =>
    intro i hi h
    have hk : ¬ 3 ≤ i := by omega
    have kc : ∀ {h : Int64} {Q : Post}, Ev xs 107 0 [.ref 245, .int (nI i)] [] (I, rL ρ h) Q ↔ Q (.inl (some (.int (z (9 + i))))) (I, rL ρ h) := fun {h Q} => by
      have := e_rule (xs := xs) (I := I) (z := z) (Q := Q) (hW.l (h := h)) (show i < 3 by omega)
      rw [hR.eq] at this; exact this
    apply w_X5_digest_38
    rw [icB_ge (by omega) (by decide), decide_eq_false hk, cond_false, gz_O hW.l, cond_true, kc, QI_i, gz_O hW.l, cond_true, e_mix hW, QV_v, nI_add]
    exact ih (i := i + 1) (by omega) h
theorem e_dg2 {xs : Scr} {I : In2} {ρ : Rh} {Q : Post} {z : Zt} {s : Nat} {zs : Nat → Zt} {tl : Nat × Zt} {a b n : Nat} {p : Int64} (hW : Rw ρ) (h0 : Inv0 z a b n) (hR : Rst I z s zs tl) : ∀ {d i : Nat}, i + d = 7 * n → Ev xs 186 40 [.ref 245, .int (nI 0)] [] (I, rL ρ (dgF (fun j => pt z (j / 7) (j % 7)) (7 * n) p)) Q → Ev xs 186 2 [.ref 245, .int (nI i)] [] (I, rL ρ (dgF (fun j => pt z (j / 7) (j % 7)) i p)) Q := by
  have hb := h0.bnd
  have r1 : I 246 1 = nI n := by rw [hR.1]; exact h0.2.2.1
  have hgO : ∀ {h : Int64}, gO (I, rL ρ h) 245 4 = true := gz_O hW.l
  have hgA : ∀ {h : Int64}, gA (I, rL ρ h) 246 6 (nI 1) = true := gz_A hW.l (by decide)
  have n7 : ¬ nI 7 = 0 := by decide
  intro d
  induction d with
  | zero =>
    intro i hi h
    obtain rfl : i = 7 * n := by omega
    apply w_X5_mixProgram_2
    simp (maxSteps := 1000000) (disch := omega) only [↓QI_i, ↓QV_v, ↓QA_a, ↓QF_f, ↓QD_d, ↓QL_l, ↓Bool.cond_eq_ite, ↓reduceIte, decide_eq_true_eq, Bool.not_eq_true', Bool.true_and, Bool.and_true, Bool.and_self, gR_some, Option.getD_some, mI_def, setI_def, mR_def, not_false_eq_true, not_true_eq_false, Bool.false_eq_true, idx_nI, nI_add, pk_mul, icB_lt, icB_gt, icB_le, icB_ge, icB_eq, icB_ne, bI_ne, nI_eqI, hgO, hgA, rL_1, gz_R0 hW, r1, Nat.le_refl]
    exact h
  | succ d ih =>
    intro i hi h
    have hk : ¬ 7 * n ≤ i := by omega
    have d1 := (nI_d7 (i := i) (by omega)).1
    have d2 : nI i - nI (i / 7 * 7) = nI (i % 7) := by rw [pk_sub (by omega)]; congr 1; omega
    have kc : ∀ {h : Int64} {Q : Post}, Ev xs 105 0 [.ref 245, .int (nI (i / 7)), .int (nI (i % 7))] [] (I, rL ρ h) Q ↔ Q (.inl (some (.int (pt z (i / 7) (i % 7))))) (I, rL ρ h) := fun {h Q} => by
      have := e_of (xs := xs) (I := I) (z := z) (Q := Q) (hW.l (h := h)) (show i / 7 < 24 by omega) (show i % 7 < 12 by omega)
      rw [hR.eq] at this; exact this
    apply w_X5_mixProgram_2
    simp (maxSteps := 1000000) (disch := omega) only [↓QI_i, ↓QV_v, ↓QA_a, ↓QF_f, ↓QD_d, ↓QL_l, ↓Bool.cond_eq_ite, ↓reduceIte, decide_eq_true_eq, Bool.not_eq_true', Bool.true_and, Bool.and_true, Bool.and_self, gR_some, Option.getD_some, mI_def, setI_def, mR_def, not_false_eq_true, not_true_eq_false, Bool.false_eq_true, idx_nI, nI_add, pk_mul, icB_lt, icB_gt, icB_le, icB_ge, icB_eq, icB_ne, bI_ne, nI_eqI, hgO, hgA, rL_1, gz_R0 hW, r1, hk, n7, d1, d2, ↓kc, kc, ↓e_mix hW, e_mix hW]
    exact ih (i := i + 1) (by omega) h
theorem e_dg40 {xs : Scr} {I : In2} {ρ : Rh} {Q : Post} {z : Zt} {s : Nat} {zs : Nat → Zt} {tl : Nat × Zt} {a b n : Nat} {p : Int64} (hW : Rw ρ) (h0 : Inv0 z a b n) (hR : Rst I z s zs tl) : ∀ {d i : Nat}, i + d = 9 * (b - a) → Ev xs 186 83 [.ref 245, .int (nI 0)] [] (I, rL ρ (dgF (fun j => epV z a (a + j / 9) (j % 9)) (9 * (b - a)) p)) Q → Ev xs 186 40 [.ref 245, .int (nI i)] [] (I, rL ρ (dgF (fun j => epV z a (a + j / 9) (j % 9)) i p)) Q := by
  have hb := h0.bnd
  have r3 : I 246 3 = nI a := by rw [hR.1]; exact h0.1
  have hgO : ∀ {h : Int64}, gO (I, rL ρ h) 245 4 = true := gz_O hW.l
  have hgA : ∀ {h : Int64}, gA (I, rL ρ h) 246 6 (nI 3) = true := gz_A hW.l (by decide)
  have n9 : ¬ nI 9 = 0 := by decide
  have ke : ∀ {h : Int64} {Q : Post}, Ev xs 111 0 [.ref 245] [] (I, rL ρ h) Q ↔ Q (.inl (some (.int (nI (b - a))))) (I, rL ρ h) := fun {h Q} => by
    have := e_entries (xs := xs) (I := I) (z := z) (Q := Q) (hW.l (h := h))
    rw [hR.eq, h0.2.1, h0.1, pk_sub hb.1] at this; exact this
  intro d
  induction d with
  | zero =>
    intro i hi h
    obtain rfl : i = 9 * (b - a) := by omega
    apply w_X5_mixProgram_40
    simp (maxSteps := 1000000) (disch := omega) only [↓QI_i, ↓QV_v, ↓QA_a, ↓QF_f, ↓QD_d, ↓QL_l, ↓Bool.cond_eq_ite, ↓reduceIte, decide_eq_true_eq, Bool.not_eq_true', Bool.true_and, Bool.and_true, Bool.and_self, gR_some, Option.getD_some, mI_def, setI_def, mR_def, not_false_eq_true, not_true_eq_false, Bool.false_eq_true, idx_nI, nI_add, pk_mul, icB_lt, icB_gt, icB_le, icB_ge, icB_eq, icB_ne, bI_ne, nI_eqI, hgO, hgA, rL_1, gz_R0 hW, ↓ke, ke, Nat.le_refl]
    exact h
  | succ d ih =>
    intro i hi h
    have hk : ¬ 9 * (b - a) ≤ i := by omega
    have d1 := (nI_d9 (i := i) (by omega)).1
    have d2 : nI i - nI (i / 9 * 9) = nI (i % 9) := by rw [pk_sub (by omega)]; congr 1; omega
    have kc : ∀ {h : Int64} {Q : Post}, Ev xs 161 0 [.ref 245, .int (nI (a + i / 9)), .int (nI (i % 9)), .null, .null] [] (I, rL ρ h) Q ↔ Q (.inl (some (.int (epV z a (a + i / 9) (i % 9))))) (I, rL ρ h) := fun {h Q} => by
      have := e_entryNow (xs := xs) (I := I) (z := z) (Q := Q) (hW.l (h := h)) h0 (show a ≤ a + i / 9 by omega) (show a + i / 9 < b by omega) (show i % 9 < 9 by omega)
      rw [hR.eq] at this; exact this
    apply w_X5_mixProgram_40
    simp (maxSteps := 1000000) (disch := omega) only [↓QI_i, ↓QV_v, ↓QA_a, ↓QF_f, ↓QD_d, ↓QL_l, ↓Bool.cond_eq_ite, ↓reduceIte, decide_eq_true_eq, Bool.not_eq_true', Bool.true_and, Bool.and_true, Bool.and_self, gR_some, Option.getD_some, mI_def, setI_def, mR_def, not_false_eq_true, not_true_eq_false, Bool.false_eq_true, idx_nI, nI_add, pk_mul, icB_lt, icB_gt, icB_le, icB_ge, icB_eq, icB_ne, bI_ne, nI_eqI, hgO, hgA, rL_1, gz_R0 hW, r3, ↓ke, ke, hk, n9, d1, d2, ↓kc, kc, ↓e_mix hW, e_mix hW]
    exact ih (i := i + 1) (by omega) h
theorem e_dg112 {xs : Scr} {I0 : In2} {ρ : Rh} {Q : Post} {z : Zt} {s : Nat} {zs : Nat → Zt} {tl : Nat × Zt} {a b n : Nat} {p : Int64} (hW : Rw ρ) (h0 : Inv0 z a b n) (h : ∀ I, Est I0 z s zs tl I → Q (.inl none) (I, rL ρ (dgF (fun j => clV z (j / 2) (j % 2)) 32 p))) : ∀ {d i : Nat} {I : In2}, i + d = 32 → Est I0 z s zs tl I → Ev xs 186 112 [.ref 245, .int (nI i)] [] (I, rL ρ (dgF (fun j => clV z (j / 2) (j % 2)) i p)) Q := by
  have n2 : ¬ nI 2 = 0 := by decide
  intro d
  induction d with
  | zero =>
    intro i I hi hE
    obtain rfl : i = 32 := by omega
    apply w_X5_mixProgram_112
    rw [show icB .ge (nI 32) (nI 32) = true by decide, cond_true]; exact h I hE
  | succ d ih =>
    intro i I hi hE
    have hk : ¬ 32 ≤ i := by omega
    have d1 := (nI_d2 (i := i) (by omega)).1
    have d2 := (nI_d2 (i := i) (by omega)).2
    apply w_X5_mixProgram_112
    rw [icB_ge (by omega) (by decide), decide_eq_false hk, cond_false, decide_eq_true n2, cond_true, cond_true, d2, d1, gz_O hW.l, cond_true]
    refine e_cellE hW.l h0 hE (by omega) (by omega) fun I' hE' => ?_
    rw [QI_i, gz_O hW.l, cond_true, e_mix hW, QV_v, nI_add]
    exact ih (i := i + 1) (by omega) hE'
theorem e_dg83 {xs : Scr} {I0 : In2} {ρ : Rh} {Q : Post} {z : Zt} {s : Nat} {zs : Nat → Zt} {tl : Nat × Zt} {a b n : Nat} {p : Int64} (hW : Rw ρ) (h0 : Inv0 z a b n) (h : ∀ I, Est I0 z s zs tl I → Ev xs 186 112 [.ref 245, .int (nI 0)] [] (I, rL ρ (dgF (fun j => rgV z (j / 3) (j % 3)) 24 p)) Q) : ∀ {d i : Nat} {I : In2}, i + d = 24 → Est I0 z s zs tl I → Ev xs 186 83 [.ref 245, .int (nI i)] [] (I, rL ρ (dgF (fun j => rgV z (j / 3) (j % 3)) i p)) Q := by
  have n3 : ¬ nI 3 = 0 := by decide
  intro d
  induction d with
  | zero =>
    intro i I hi hE
    obtain rfl : i = 24 := by omega
    apply w_X5_mixProgram_83
    rw [show icB .ge (nI 24) (nI 24) = true by decide, cond_true]; exact h I hE
  | succ d ih =>
    intro i I hi hE
    have hk : ¬ 24 ≤ i := by omega
    have d1 := (nI_d3 (i := i) (by omega)).1
    have d2 := (nI_d3 (i := i) (by omega)).2
    apply w_X5_mixProgram_83
    rw [icB_ge (by omega) (by decide), decide_eq_false hk, cond_false, decide_eq_true n3, cond_true, cond_true, d2, d1, gz_O hW.l, cond_true]
    refine e_regE hW.l h0 hE (by omega) (by omega) fun I' hE' => ?_
    rw [QI_i, gz_O hW.l, cond_true, e_mix hW, QV_v, nI_add]
    exact ih (i := i + 1) (by omega) hE'
theorem e_dg2s {xs : Scr} {I : In2} {ρ : Rh} {Q : Post} {z : Zt} {s : Nat} {zs : Nat → Zt} {tl : Nat × Zt} {a b n : Nat} {p : Int64} (hW : Rw ρ) (h0 : Inv0 z a b n) (hR : Rst I z s zs tl) (h : Ev xs 186 40 [.ref 245, .int (nI 0)] [] (I, rL ρ (dgF (fun j => pt z (j / 7) (j % 7)) (7 * n) p)) Q) : Ev xs 186 2 [.ref 245, .int (nI 0)] [] (I, rL ρ p) Q := e_dg2 (p := p) hW h0 hR (d := 7 * n) (i := 0) (by omega) h
theorem e_dg40s {xs : Scr} {I : In2} {ρ : Rh} {Q : Post} {z : Zt} {s : Nat} {zs : Nat → Zt} {tl : Nat × Zt} {a b n : Nat} {p : Int64} (hW : Rw ρ) (h0 : Inv0 z a b n) (hR : Rst I z s zs tl) (h : Ev xs 186 83 [.ref 245, .int (nI 0)] [] (I, rL ρ (dgF (fun j => epV z a (a + j / 9) (j % 9)) (9 * (b - a)) p)) Q) : Ev xs 186 40 [.ref 245, .int (nI 0)] [] (I, rL ρ p) Q := e_dg40 (p := p) hW h0 hR (d := 9 * (b - a)) (i := 0) (by omega) h
theorem e_dg112s {xs : Scr} {I0 : In2} {ρ : Rh} {Q : Post} {z : Zt} {s : Nat} {zs : Nat → Zt} {tl : Nat × Zt} {a b n : Nat} {p : Int64} (hW : Rw ρ) (h0 : Inv0 z a b n) (h : ∀ I, Est I0 z s zs tl I → Q (.inl none) (I, rL ρ (dgF (fun j => clV z (j / 2) (j % 2)) 32 p))) {I : In2} (hE : Est I0 z s zs tl I) : Ev xs 186 112 [.ref 245, .int (nI 0)] [] (I, rL ρ p) Q := e_dg112 (p := p) hW h0 h (d := 32) (i := 0) (Nat.zero_add 32) hE
theorem e_dg83s {xs : Scr} {I0 : In2} {ρ : Rh} {Q : Post} {z : Zt} {s : Nat} {zs : Nat → Zt} {tl : Nat × Zt} {a b n : Nat} {p : Int64} (hW : Rw ρ) (h0 : Inv0 z a b n) (h : ∀ I, Est I0 z s zs tl I → Ev xs 186 112 [.ref 245, .int (nI 0)] [] (I, rL ρ (dgF (fun j => rgV z (j / 3) (j % 3)) 24 p)) Q) {I : In2} (hE : Est I0 z s zs tl I) : Ev xs 186 83 [.ref 245, .int (nI 0)] [] (I, rL ρ p) Q := e_dg83 (p := p) hW h0 h (d := 24) (i := 0) (Nat.zero_add 24) hE
theorem e_dgProg {xs : Scr} {I0 I : In2} {ρ : Rh} {Q : Post} {z : Zt} {s : Nat} {zs : Nat → Zt} {tl : Nat × Zt} {a b n : Nat} {p : Int64} (hW : Rw ρ) (h0 : Inv0 z a b n) (hE : Est I0 z s zs tl I) (h : ∀ I, Est I0 z s zs tl I → Q (.inl none) (I, rL ρ (dgR z (dgE z a b n p)))) : Ev xs 186 0 [.ref 245, .null] [] (I, rL ρ p) Q := by
  unfold dgR dgE at h
  apply w_X5_mixProgram_0
  exact e_dg2s hW h0 hE.1 (e_dg40s hW h0 hE.1 (e_dg83s hW h0 (fun I1 hE1 => e_dg112s hW h0 h hE1) hE))
