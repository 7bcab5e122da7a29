/-! what is asked: both sides, whole calls -/
def inN (z : Zt) : Nat := idx (z 1)
def enN (z : Zt) : Nat := idx (z 2) - idx (z 3)
theorem Cst.same {I : In2} {ρ : Rh} {Q : Post} {v : Int32} {z : Zt} {s : Nat} {zs : Nat → Zt} {tl : Nat × Zt} (hW : Rw ρ) (hC : Cst I ρ z s zs tl) (h : KOk Q I ρ v z s zs tl) : Q (.inl (some (.int v))) (I, ρ) := h I ρ hW rfl hC fun _ _ _ => rfl
theorem Rst.same {I : In2} {ρ : Rh} {Q : Post} {v : Int32} {z : Zt} {s : Nat} {zs : Nat → Zt} {tl : Nat × Zt} {t : Nat} (hR : Rst I z s zs tl) (h : ROk Q I ρ v z s zs tl t) : Q (.inl (some (.int v))) (up2 I 245 16 (nI t), ρ) := h _ hR.t up2_at fun a k ha => fr_t ha
theorem e_isInstr {xs : Scr} {I : In2} {ρ : Rh} {Q : Post} {z : Zt} (hW : Rw ρ) {a b n : Nat} {p : Int32} (h0 : Inv0 z a b n) : Ev xs 159 0 [.ref 245, .int p] [] (pz I z, ρ) Q ↔ Q (.inl (some (.int (bI (inB p n)) ))) (pz I z, ρ) := by
  have hb := h0.bnd
  have h1 := h0.h1
  apply Ev.dt; intro Q h; apply w_X5_isInstruction_0
  simp (disch := omega) only [↓QI_i, ↓QV_v, ↓QA_a, ↓QF_f, ↓QD_d, ↓QL_l, ↓Bool.cond_eq_ite, ↓reduceIte, decide_eq_true_eq, Bool.not_eq_true', Bool.true_and, Bool.and_true, Bool.and_self, gR_some, Option.getD_some, mI_def, setI_def, mR_def, not_false_eq_true, not_true_eq_false, Bool.false_eq_true, idx_nI, nI_add, pk_mul, icB_lt, icB_gt, icB_le, icB_ge, icB_eq, icB_ne, bI_ne, nI_eqI, gz_O hW, gz_R0 hW, gz_A hW, up2_pz, pz_at, h1]
  rw [e_within, QI_i, gt_pred (by omega), inB_def, show gZ 1 (bI (inB p n)) = true by cases inB p n <;> rfl, if_pos rfl]
  exact h
theorem e_isEntry {xs : Scr} {I : In2} {ρ : Rh} {Q : Post} {z : Zt} (hW : Rw ρ) {a b n : Nat} {p : Int32} (h0 : Inv0 z a b n) : Ev xs 162 0 [.ref 245, .int p] [] (pz I z, ρ) Q ↔ Q (.inl (some (.int (bI (inB p (b - a))) ))) (pz I z, ρ) := by
  have hb := h0.bnd
  have h3 := h0.h3
  have h2 := h0.h2
  apply Ev.dt; intro Q h; apply w_X5_isEntry_0
  rw [gz_O hW, cond_true, e_entries hW, QI_i, h2, h3, pk_sub hb.1, e_within, QI_i, gt_pred (by omega), inB_def, show gZ 1 (bI (inB p (b - a))) = true by cases inB p (b - a) <;> rfl, cond_true]
  exact h
theorem K_at {xs : Scr} {I : In2} {ρ : Rh} {Q : Post} {m pc0 : Nat} {L st : List Value} {o : Out} (h : ∀ Q : Post, Ev xs m pc0 L st (pc I 1 (bk I 1), ρ) Q ↔ Q o (pc I 1 (bk I 1), ρ)) : Ev xs m pc0 L st (I, ρ) Q ↔ Q o (I, ρ) := by
  rw [pc_self] at h; exact h Q
theorem n10 : ¬ nI 1 = nI 0 := not_nI (by decide) (by decide) (by decide)
theorem k_instruction {xs : Scr} {I : In2} {ρ : Rh} {Q : Post} {z : Zt} {s : Nat} {zs : Nat → Zt} {tl : Nat × Zt} {p q : Int32} (hW : Rw ρ) (hC : Cst I ρ z s zs tl)
    (hok : ∀ i w, i < inN z → w < 7 → p = nI i → q = nI w → KOk Q I ρ (pt z i w) z s zs tl) (h1 : inB p (inN z) = false → Q (.inr 1) (I, xR ρ)) (h2 : inB p (inN z) = true → inB q 7 = false → Q (.inr 2) (I, xR ρ)) : Ev xs 77 0 [.ref 0, .int p, .int q] [] (I, ρ) Q := by
  obtain ⟨a, b, n, cy, g, -⟩ := hC.1
  have hb := g.1.bnd
  have en : inN z = n := g.1.i1
  rw [en] at hok h1 h2
  have rd : I 1 6 = nI n := g.c6
  apply w_X4_instruction_0
  simp only [gc_O hW, gR_some, mR_def, gc_0 hW, Option.getD_some, Bool.and_self, cond_true, gm_O hW Bs_1, mI_def, rd]
  rw [e_checkPlace hW]
  cases hp : inB p n
  · rw [if_neg (by decide), QV_e, KX_lo (by decide)]; exact h1 hp
  · obtain ⟨i, hi, rfl⟩ := inB_t (by omega) hp
    rw [if_pos rfl, QV_v, gc_O hW, cond_true]
    refine e_checkWhat hW ?_
    cases hq : inB q 7
    · rw [if_neg (by decide), QV_e, KX_lo (by decide)]; exact h2 hp hq
    · obtain ⟨w, hw, rfl⟩ := inB_t (by omega) hq
      rw [if_pos rfl]
      simp only [QV_v, gc_O hW, gR_some, mR_def, gc_0 hW, Option.getD_some, Bool.and_self, cond_true, gm_O hW Bs_1]
      rw [k_at hW Bs_1 (by omega), QA_a, gm_P hW Bs_1 (by omega), cond_true]
      rw [K_at (fun Q => k_part hW Bs_1 g hi hw (Q := Q)), QI_i]
      exact hC.same hW (hok i w hi hw rfl rfl)
theorem e_instruction {xs : Scr} {I : In2} {ρ : Rh} {Q : Post} {z : Zt} {c : In2} {s : Nat} {zs : Nat → Zt} {tl : Nat × Zt} {p q : Int32} (hW : Rw ρ) (hg : Good c z) (hR : Rst I z s zs tl)
    (hok : ∀ i w, i < inN z → w < 7 → p = nI i → q = nI w → ROk Q I ρ (pt z i w) z s zs tl 0) (h1 : inB p (inN z) = false → ROk Q I ρ (nI 0) z s zs tl 1) (h2 : inB p (inN z) = true → inB q 7 = false → ROk Q I ρ (nI 0) z s zs tl 2) : Ev xs 160 0 [.ref 245, .int p, .int q] [] (I, ρ) Q := by
  obtain ⟨a, b, n, hI⟩ := hg.inv
  have hb := hI.1.bnd
  have en : inN z = n := hI.1.i1
  rw [en] at hok h1 h2
  have eI := (hR.t (t := nI 0)).eq
  apply w_X5_instruction_0
  simp only [gz_O hW, cond_true, setI_def]
  rw [← eI, e_isInstr hW hI.1, QI_i, icB_ne_b, eI]
  cases hp : inB p n
  · rw [cond_false, gz_O hW, cond_true, e_fails hW, t_t, QI_i]; exact hR.same (h1 hp)
  · obtain ⟨i, hi, rfl⟩ := inB_t (by omega) hp
    rw [cond_true, e_within, QI_i, gt_lit (n := 7) (m := 6) rfl (by decide), inB_def, icB_eq_b]
    cases hq : inB q 7
    · rw [Bool.not_false, cond_true, gz_O hW, cond_true, e_fails hW, t_t, QI_i]; exact hR.same (h2 hp hq)
    · obtain ⟨w, hw, rfl⟩ := inB_t (by omega) hq
      rw [Bool.not_true, cond_false, gz_O hW, cond_true, ← eI, e_of hW (by omega) (by omega), QI_i, eI]
      exact hR.same (hok i w hi hw rfl rfl)
theorem k_entry {xs : Scr} {I : In2} {ρ : Rh} {Q : Post} {z : Zt} {s : Nat} {zs : Nat → Zt} {tl : Nat × Zt} {p q : Int32} (hW : Rw ρ) (hC : Cst I ρ z s zs tl)
    (hok : ∀ i w, i < enN z → w < 9 → p = nI i → q = nI w → KOk Q I ρ (epV z (idx (z 3)) (idx (z 3) + i) w) z s zs tl) (h1 : inB p (enN z) = false → Q (.inr 1) (I, xR ρ)) (h2 : inB p (enN z) = true → inB q 9 = false → Q (.inr 2) (I, xR ρ)) : Ev xs 78 0 [.ref 0, .int p, .int q] [] (I, ρ) Q := by
  obtain ⟨a, b, n, cy, g, -⟩ := hC.1
  have hb := g.1.bnd
  have en : enN z = b - a := by unfold enN; rw [g.1.i2, g.1.i3]
  have ea : idx (z 3) = a := g.1.i3
  rw [en] at hok h1 h2
  rw [ea] at hok
  have rd : I 1 8 = nI a := g.c8
  apply w_X4_entry_0
  simp only [gc_O hW, gR_some, mR_def, gc_0 hW, Option.getD_some, Bool.and_self, cond_true, gm_O hW Bs_1]
  rw [K_at (fun Q => k_entries hW Bs_1 g (Q := Q)), QI_i, gc_O hW, cond_true, e_checkPlace hW]
  cases hp : inB p (b - a)
  · rw [if_neg (by decide), QV_e, KX_lo (by decide)]; exact h1 hp
  · obtain ⟨i, hi, rfl⟩ := inB_t (by omega) hp
    rw [if_pos rfl, QV_v, gc_O hW, cond_true]
    refine e_checkWhat hW ?_
    cases hq : inB q 9
    · rw [if_neg (by decide), QV_e, KX_lo (by decide)]; exact h2 hp hq
    · obtain ⟨w, hw, rfl⟩ := inB_t (by omega) hq
      rw [if_pos rfl]
      simp only [QV_v, gc_O hW, gR_some, mR_def, gc_0 hW, Option.getD_some, Bool.and_self, cond_true, gm_O hW Bs_1, mI_def, rd, nI_add]
      rw [K_at (fun Q => k_property hW Bs_1 g (show a ≤ a + i by omega) (show a + i < b by omega) hw (Q := Q)), QI_i]
      exact hC.same hW (hok i w hi hw rfl rfl)
theorem e_entry {xs : Scr} {I : In2} {ρ : Rh} {Q : Post} {z : Zt} {c : In2} {s : Nat} {zs : Nat → Zt} {tl : Nat × Zt} {p q : Int32} (hW : Rw ρ) (hg : Good c z) (hR : Rst I z s zs tl)
    (hok : ∀ i w, i < enN z → w < 9 → p = nI i → q = nI w → ROk Q I ρ (epV z (idx (z 3)) (idx (z 3) + i) w) z s zs tl 0) (h1 : inB p (enN z) = false → ROk Q I ρ (nI 0) z s zs tl 1) (h2 : inB p (enN z) = true → inB q 9 = false → ROk Q I ρ (nI 0) z s zs tl 2) : Ev xs 163 0 [.ref 245, .int p, .int q] [] (I, ρ) Q := by
  obtain ⟨a, b, n, hI⟩ := hg.inv
  have hb := hI.1.bnd
  have en : enN z = b - a := by unfold enN; rw [hI.1.i2, hI.1.i3]
  have ea : idx (z 3) = a := hI.1.i3
  rw [en] at hok h1 h2
  rw [ea] at hok
  have eI := (hR.t (t := nI 0)).eq
  have rd : up2 I 245 16 (nI 0) 246 3 = nI a := by rw [(hR.t (t := nI 0)).1]; exact hI.1.h3
  have hga : gA (up2 I 245 16 (nI 0), ρ) 246 6 (nI 3) = true := gz_A hW (by decide)
  apply w_X5_entry_0
  simp only [gz_O hW, cond_true, setI_def]
  rw [← eI, e_isEntry hW hI.1, QI_i, icB_ne_b, eI]
  cases hp : inB p (b - a)
  · rw [cond_false, gz_O hW, cond_true, e_fails hW, t_t, QI_i]; exact hR.same (h1 hp)
  · obtain ⟨i, hi, rfl⟩ := inB_t (by omega) hp
    rw [cond_true, e_within, QI_i, gt_lit (n := 9) (m := 8) rfl (by decide), inB_def, icB_eq_b]
    cases hq : inB q 9
    · rw [Bool.not_false, cond_true, gz_O hW, cond_true, e_fails hW, t_t, QI_i]; exact hR.same (h2 hp hq)
    · obtain ⟨w, hw, rfl⟩ := inB_t (by omega) hq
      simp only [Bool.not_true, cond_false, gz_O hW, gR_some, mR_def, gz_R0 hW, Option.getD_some, Bool.and_self, cond_true, hga, mI_def, idx_nI (show 3 < 2147483648 by decide), rd, nI_add]
      rw [← eI, e_entryNow hW hI.1 (show a ≤ a + i by omega) (show a + i < b by omega) hw, QI_i, eI]
      exact hR.same (hok i w hi hw rfl rfl)
theorem k_whyNot {xs : Scr} {I : In2} {ρ : Rh} {Q : Post} {z : Zt} {s : Nat} {zs : Nat → Zt} {tl : Nat × Zt} {p : Int32} (hW : Rw ρ) (hC : Cst I ρ z s zs tl)
    (hok : ∀ i, i < enN z → p = nI i → KOk Q I ρ (rsn z (idx (z 3)) (idx (z 3) + i)) z s zs tl) (h1 : inB p (enN z) = false → Q (.inr 1) (I, xR ρ)) : Ev xs 79 0 [.ref 0, .int p] [] (I, ρ) Q := by
  obtain ⟨a, b, n, cy, g, -⟩ := hC.1
  have hb := g.1.bnd
  have en : enN z = b - a := by unfold enN; rw [g.1.i2, g.1.i3]
  have ea : idx (z 3) = a := g.1.i3
  rw [en] at hok h1
  rw [ea] at hok
  have rd : I 1 8 = nI a := g.c8
  apply w_X4_whyNot_0
  simp only [gc_O hW, gR_some, mR_def, gc_0 hW, Option.getD_some, Bool.and_self, cond_true, gm_O hW Bs_1]
  rw [K_at (fun Q => k_entries hW Bs_1 g (Q := Q)), QI_i, gc_O hW, cond_true, e_checkPlace hW]
  cases hp : inB p (b - a)
  · rw [if_neg (by decide), QV_e, KX_lo (by decide)]; exact h1 hp
  · obtain ⟨i, hi, rfl⟩ := inB_t (by omega) hp
    rw [if_pos rfl]
    simp only [QV_v, gc_O hW, gR_some, mR_def, gc_0 hW, Option.getD_some, Bool.and_self, cond_true, gm_O hW Bs_1, mI_def, rd, nI_add]
    rw [K_at (fun Q => k_hind hW Bs_1 g (show a ≤ a + i by omega) (show a + i < b by omega) (Q := Q)), QI_i]
    exact hC.same hW (hok i hi rfl)
theorem e_whyNot {xs : Scr} {I : In2} {ρ : Rh} {Q : Post} {z : Zt} {c : In2} {s : Nat} {zs : Nat → Zt} {tl : Nat × Zt} {p : Int32} (hW : Rw ρ) (hg : Good c z) (hR : Rst I z s zs tl)
    (hok : ∀ i, i < enN z → p = nI i → ROk Q I ρ (rsn z (idx (z 3)) (idx (z 3) + i)) z s zs tl 0) (h1 : inB p (enN z) = false → ROk Q I ρ (nI 0) z s zs tl 1) : Ev xs 164 0 [.ref 245, .int p] [] (I, ρ) Q := by
  obtain ⟨a, b, n, hI⟩ := hg.inv
  have hb := hI.1.bnd
  have en : enN z = b - a := by unfold enN; rw [hI.1.i2, hI.1.i3]
  have ea : idx (z 3) = a := hI.1.i3
  rw [en] at hok h1
  rw [ea] at hok
  have eI := (hR.t (t := nI 0)).eq
  have rd : up2 I 245 16 (nI 0) 246 3 = nI a := by rw [(hR.t (t := nI 0)).1]; exact hI.1.h3
  have hga : gA (up2 I 245 16 (nI 0), ρ) 246 6 (nI 3) = true := gz_A hW (by decide)
  apply w_X5_whyNot_0
  simp only [gz_O hW, cond_true, setI_def]
  rw [← eI, e_isEntry hW hI.1, QI_i, icB_eq_b, eI]
  cases hp : inB p (b - a)
  · rw [Bool.not_false, cond_true, gz_O hW, cond_true, e_fails hW, t_t, QI_i]; exact hR.same (h1 hp)
  · obtain ⟨i, hi, rfl⟩ := inB_t (by omega) hp
    obtain ⟨hwf, d, hd3, hd, -⟩ := hI.1.row (i := a + i) (by omega)
    simp only [Bool.not_true, cond_false, gz_O hW, gR_some, mR_def, gz_R0 hW, Option.getD_some, Bool.and_self, cond_true, hga, mI_def, idx_nI (show 3 < 2147483648 by decide), rd, nI_add]
    rw [← eI, e_reason hW hI.1.h3 (show a ≤ a + i by omega) (show a + i < 24 by omega) hd hd3, QI_i, eI]
    exact hR.same (hok i hi rfl)
theorem k_count {xs : Scr} {I : In2} {ρ : Rh} {Q : Post} {z : Zt} {s : Nat} {zs : Nat → Zt} {tl : Nat × Zt} {p : Int32} (hW : Rw ρ) (hC : Cst I ρ z s zs tl)
    (hok : ∀ w, w < 12 → p = nI w → KOk Q I ρ (cnV z (idx (z 3)) (idx (z 2)) (idx (z 1)) s w) z s zs tl) (h1 : inB p 12 = false → Q (.inr 2) (I, xR ρ)) : Ev xs 82 0 [.ref 0, .int p] [] (I, ρ) Q := by
  obtain ⟨a, b, n, cy, g, -⟩ := hC.1
  have hb := g.1.bnd
  have h5 := hC.2.1
  rw [g.1.i3, g.1.i2, g.1.i1] at hok
  apply w_X4_count_0
  rw [gc_O hW, cond_true]
  refine e_checkWhat hW ?_
  cases hp : inB p 12
  · rw [if_neg (by decide), QV_e, KX_lo (by decide)]; exact h1 hp
  · obtain ⟨w, hw, rfl⟩ := inB_t (by omega) hp
    rw [if_pos rfl, QV_v, icB_ne]
    by_cases e : w = 11
    · subst e
      rw [decide_eq_false (fun h => h rfl), cond_false, gc_O hW, cond_true, mI_def, h5]
      exact hC.same hW (hok 11 (by decide) rfl)
    · rw [decide_eq_true (not_nI (by omega) (by decide) e), cond_true]
      simp only [gc_O hW, gR_some, mR_def, gc_0 hW, Option.getD_some, Bool.and_self, cond_true, gm_O hW Bs_1]
      rw [K_at (fun Q => k_number hW Bs_1 g (show w < 11 by omega) (Q := Q)), QI_i]
      have e2 : cnV z a b n 0 w = cnV z a b n s w := by
        have : w = 0 ∨ w = 1 ∨ w = 2 ∨ w = 3 ∨ w = 4 ∨ w = 5 ∨ w = 6 ∨ w = 7 ∨ w = 8 ∨ w = 9 ∨ w = 10 := by omega
        rcases this with e | e | e | e | e | e | e | e | e | e | e <;> subst e <;> rfl
      rw [e2]
      exact hC.same hW (hok w hw rfl)
theorem e_count {xs : Scr} {I : In2} {ρ : Rh} {Q : Post} {z : Zt} {c : In2} {s : Nat} {zs : Nat → Zt} {tl : Nat × Zt} {p : Int32} (hW : Rw ρ) (hg : Good c z) (hR : Rst I z s zs tl)
    (hok : ∀ w, w < 12 → p = nI w → ROk Q I ρ (cnV z (idx (z 3)) (idx (z 2)) (idx (z 1)) s w) z s zs tl 0) (h1 : inB p 12 = false → ROk Q I ρ (nI 0) z s zs tl 1) : Ev xs 172 0 [.ref 245, .int p] [] (I, ρ) Q := by
  obtain ⟨a, b, n, hI⟩ := hg.inv
  rw [hI.1.i3, hI.1.i2, hI.1.i1] at hok
  have eI := (hR.t (t := nI 0)).eq
  apply w_X5_count_0
  simp only [gz_O hW, cond_true, setI_def]
  rw [e_within, QI_i, gt_lit (n := 12) (m := 11) rfl (by decide), inB_def, icB_eq_b]
  cases hp : inB p 12
  · rw [Bool.not_false, cond_true, gz_O hW, cond_true, e_fails hW, t_t, QI_i]; exact hR.same (h1 hp)
  · obtain ⟨w, hw, rfl⟩ := inB_t (by omega) hp
    rw [Bool.not_true, cond_false, gz_O hW, cond_true, ← eI, e_counted hW hI.1 ((up2_ne (by decide)).trans hR.2.1) hw, QI_i, eI]
    exact hR.same (hok w hw rfl)
theorem k_setting {xs : Scr} {I : In2} {ρ : Rh} {Q : Post} {z : Zt} {s : Nat} {zs : Nat → Zt} {tl : Nat × Zt} {p : Int32} (hW : Rw ρ) (hC : Cst I ρ z s zs tl)
    (hok : ∀ w, w < 3 → p = nI w → KOk Q I ρ (z (9 + w)) z s zs tl) (h1 : inB p 3 = false → Q (.inr 1) (I, xR ρ)) : Ev xs 83 0 [.ref 0, .int p] [] (I, ρ) Q := by
  obtain ⟨a, b, n, cy, g, -⟩ := hC.1
  apply w_X4_setting_0
  rw [gc_O hW, cond_true, e_checkPlace hW]
  cases hp : inB p 3
  · rw [if_neg (by decide), QV_e, KX_lo (by decide)]; exact h1 hp
  · obtain ⟨w, hw, rfl⟩ := inB_t (by omega) hp
    have rd : I (1 + 5) w = z (9 + w) := g.2.2.set hw
    rw [if_pos rfl]
    simp only [QV_v, gc_O hW, gR_some, mR_def, gc_0 hW, Option.getD_some, Bool.and_self, cond_true, gm_O hW Bs_1, gm_4 hW Bs_1, gm_D hW Bs_1 hw, mI_def, idx_nI (show w < 2147483648 by omega), rd]
    exact hC.same hW (hok w hw rfl)
theorem e_setting {xs : Scr} {I : In2} {ρ : Rh} {Q : Post} {z : Zt} {s : Nat} {zs : Nat → Zt} {tl : Nat × Zt} {p : Int32} (hW : Rw ρ) (hR : Rst I z s zs tl)
    (hok : ∀ w, w < 3 → p = nI w → ROk Q I ρ (z (9 + w)) z s zs tl 0) (h1 : inB p 3 = false → ROk Q I ρ (nI 0) z s zs tl 1) : Ev xs 173 0 [.ref 245, .int p] [] (I, ρ) Q := by
  have eI := (hR.t (t := nI 0)).eq
  apply w_X5_setting_0
  simp only [gz_O hW, cond_true, setI_def]
  rw [e_within, QI_i, gt_lit (n := 3) (m := 2) rfl (by decide), inB_def, icB_eq_b]
  cases hp : inB p 3
  · rw [Bool.not_false, cond_true, gz_O hW, cond_true, e_fails hW, t_t, QI_i]; exact hR.same (h1 hp)
  · obtain ⟨w, hw, rfl⟩ := inB_t (by omega) hp
    rw [Bool.not_true, cond_false, gz_O hW, cond_true, ← eI, e_rule hW hw, QI_i, eI]
    exact hR.same (hok w hw rfl)
/-! the load that is replayed most -/
def wsF (z : Zt) : Nat → Nat → Int32 → Int32 → Int32
  | 0, _, best, _ => best
  | d + 1, i, best, most => if icB .le (pt z i 6) most = true then wsF z d (i + 1) best most else wsF z d (i + 1) (nI i) (pt z i 6)
theorem k_worst6 {xs : Scr} {I : In2} {ρ : Rh} {Q : Post} (hW : Rw ρ) {z : Zt} {a b n : Nat} (g : Big (bk I 1) z a b n) : ∀ {d i : Nat} {best most : Int32} {v4 : Value}, i + d = n → Q (.inl (some (.int (wsF z d i best most)))) (I, ρ) → Ev xs 91 6 [.ref 0, .int best, .int most, .int (nI i), v4] [] (I, ρ) Q := by
  have hb := g.1.bnd
  have rd : I 1 6 = nI n := g.c6
  intro d
  induction d with
  | zero =>
    intro i best most v4 hi h
    obtain rfl : i = n := hi
    apply w_X4_worstLoad_6
    simp only [gc_O hW, gR_some, mR_def, gc_0 hW, Option.getD_some, Bool.and_self, cond_true, gm_O hW Bs_1, mI_def, rd]
    rw [icB_ge (by omega) (by omega), decide_eq_true (Nat.le_refl i), cond_true]
    exact h
  | succ d ih =>
    intro i best most v4 hi h
    have hin : ¬ n ≤ i := by omega
    have r6 : I (1 + (6 + i)) 6 = pt z i 6 := g.2.2.row (by omega) (by decide)
    unfold wsF at h
    apply w_X4_worstLoad_6
    simp only [gc_O hW, gR_some, mR_def, gc_0 hW, Option.getD_some, Bool.and_self, cond_true, gm_O hW Bs_1, mI_def, rd]
    rw [icB_ge (by omega) (by omega), decide_eq_false hin, cond_false, k_at hW Bs_1 (by omega), QA_a, gm_P hW Bs_1 (by omega), cond_true, mI_def, r6, nI_add]
    cases hc : icB .le (pt z i 6) most
    · rw [hc, if_neg (by decide)] at h
      rw [cond_false]; exact ih (by omega) h
    · rw [hc, if_pos rfl] at h
      rw [cond_true]; exact ih (by omega) h
theorem k_worst {xs : Scr} {I : In2} {ρ : Rh} {Q : Post} {z : Zt} {s : Nat} {zs : Nat → Zt} {tl : Nat × Zt} (hW : Rw ρ) (hC : Cst I ρ z s zs tl) (hok : KOk Q I ρ (wsF z (inN z) 0 nM (nI 0)) z s zs tl) : Ev xs 91 0 [.ref 0, .null, .null, .null, .null] [] (I, ρ) Q := by
  obtain ⟨a, b, n, cy, g, -⟩ := hC.1
  have en : inN z = n := g.1.i1
  rw [en] at hok
  apply w_X4_worstLoad_0
  exact k_worst6 hW g (d := n) (by omega) (hC.same hW hok)
theorem e_worst4 {xs : Scr} {I : In2} {ρ : Rh} {Q : Post} {z : Zt} (hW : Rw ρ) {a b n : Nat} (h0 : Inv0 z a b n) : ∀ {d i : Nat} {best : Option Nat} {v3 : Value}, (∀ k, best = some k → k < i) → i + d = n → Q (.inl (some (.int (wsF z d i (oI best) (match best with | none => nI 0 | some k => pt z k 6))))) (pz I z, ρ) → Ev xs 181 4 [.ref 245, .int (oI best), .int (nI i), v3] [] (pz I z, ρ) Q := by
  have hb := h0.bnd
  have h1 := h0.h1
  intro d
  induction d with
  | zero =>
    intro i best v3 hbest hi h
    obtain rfl : i = n := hi
    apply w_X5_worstNow_4
    simp (maxSteps := 1000000) (disch := omega) only [↓QI_i, ↓QV_v, ↓QA_a, ↓QF_f, ↓QD_d, ↓QL_l, ↓Bool.cond_eq_ite, ↓reduceIte, decide_eq_true_eq, Bool.not_eq_true', Bool.true_and, Bool.and_true, Bool.and_self, gR_some, Option.getD_some, mI_def, setI_def, mR_def, not_false_eq_true, not_true_eq_false, Bool.false_eq_true, idx_nI, nI_add, pk_mul, icB_lt, icB_gt, icB_le, icB_ge, icB_eq, icB_ne, bI_ne, nI_eqI, gz_O hW, gz_R0 hW, gz_A hW, up2_pz, pz_at, h1, Nat.le_refl]
    exact h
  | succ d ih =>
    intro i best v3 hbest hi h
    have hin : ¬ n ≤ i := by omega
    unfold wsF at h
    apply w_X5_worstNow_4
    cases best with
    | none =>
      simp (maxSteps := 1000000) (disch := omega) only [↓QI_i, ↓QV_v, ↓QA_a, ↓QF_f, ↓QD_d, ↓QL_l, ↓Bool.cond_eq_ite, ↓reduceIte, decide_eq_true_eq, Bool.not_eq_true', Bool.true_and, Bool.and_true, Bool.and_self, gR_some, Option.getD_some, mI_def, setI_def, mR_def, not_false_eq_true, not_true_eq_false, Bool.false_eq_true, idx_nI, nI_add, pk_mul, icB_lt, icB_gt, icB_le, icB_ge, icB_eq, icB_ne, bI_ne, nI_eqI, gz_O hW, gz_R0 hW, gz_A hW, up2_pz, pz_at, h1, hin, oI_none, ↓e_of hW, e_of hW]
      cases hc : icB .le (pt z i 6) (nI 0)
      · rw [hc, if_neg (by decide)] at h
        rw [if_neg (by decide)]
        exact ih (best := some i) (fun k e => by cases e; omega) (by omega) h
      · rw [hc, if_pos rfl] at h
        rw [if_pos rfl]
        exact ih (best := none) (fun k e => by cases e) (by omega) h
    | some k =>
      have hk := hbest k rfl
      simp (maxSteps := 1000000) (disch := omega) only [↓QI_i, ↓QV_v, ↓QA_a, ↓QF_f, ↓QD_d, ↓QL_l, ↓Bool.cond_eq_ite, ↓reduceIte, decide_eq_true_eq, Bool.not_eq_true', Bool.true_and, Bool.and_true, Bool.and_self, gR_some, Option.getD_some, mI_def, setI_def, mR_def, not_false_eq_true, not_true_eq_false, Bool.false_eq_true, idx_nI, nI_add, pk_mul, icB_lt, icB_gt, icB_le, icB_ge, icB_eq, icB_ne, bI_ne, nI_eqI, gz_O hW, gz_R0 hW, gz_A hW, up2_pz, pz_at, h1, hin, oI_some, nM_ne', ↓e_of hW, e_of hW]
      cases hc : icB .le (pt z i 6) (pt z k 6)
      · rw [hc, if_neg (by decide)] at h
        rw [if_neg (by decide)]
        exact ih (best := some i) (fun k e => by cases e; omega) (by omega) h
      · rw [hc, if_pos rfl] at h
        rw [if_pos rfl]
        exact ih (best := some k) (fun k' e => by cases e; omega) (by omega) h
theorem e_worstNow {xs : Scr} {I : In2} {ρ : Rh} {Q : Post} {z : Zt} (hW : Rw ρ) {a b n : Nat} (h0 : Inv0 z a b n) : Ev xs 181 0 [.ref 245, .null, .null, .null] [] (pz I z, ρ) Q ↔ Q (.inl (some (.int (wsF z n 0 nM (nI 0)) ))) (pz I z, ρ) := by
  apply Ev.dt; intro Q h; apply w_X5_worstNow_0
  exact e_worst4 hW h0 (best := none) (d := n) (fun k e => by cases e) (by omega) h
theorem e_worst {xs : Scr} {I : In2} {ρ : Rh} {Q : Post} {z : Zt} {c : In2} {s : Nat} {zs : Nat → Zt} {tl : Nat × Zt} (hW : Rw ρ) (hg : Good c z) (hR : Rst I z s zs tl) (hok : ROk Q I ρ (wsF z (inN z) 0 nM (nI 0)) z s zs tl 0) : Ev xs 182 0 [.ref 245] [] (I, ρ) Q := by
  obtain ⟨a, b, n, hI⟩ := hg.inv
  have en : inN z = n := hI.1.i1
  rw [en] at hok
  have eI := (hR.t (t := nI 0)).eq
  apply w_X5_worstLoad_0
  simp only [gz_O hW, cond_true, setI_def]
  rw [← eI, e_worstNow hW hI.1, QI_i, eI]
  exact hR.same hok
