/-! what is asked: both sides, whole calls -/
def inN (z : Zt) : Nat := idx (z 1)
def enN (z : Zt) : Nat := idx (z 2) - idx (z 3)
theorem Cst.same {I : In2} {ρ : Rh} {Q : Post} {v : Int32} {z : Zt} {s : Nat} {zs : Nat → Zt} {tl : Nat × Zt} (hW : Rw ρ) (hC : Cst I ρ z s zs tl) (h : KOk Q I ρ v z s zs tl) : Q (.inl (some (.int v))) (I, ρ) := h I ρ hW rfl hC fun _ _ _ => rfl
theorem Rst.same {I : In2} {ρ : Rh} {Q : Post} {v : Int32} {z : Zt} {s : Nat} {zs : Nat → Zt} {tl : Nat × Zt} {t : Nat} (hR : Rst I z s zs tl) (h : ROk Q I ρ v z s zs tl t) : Q (.inl (some (.int v))) (up2 I 245 16 (nI t), ρ) := h _ hR.t up2_at fun a k ha => fr_t ha
theorem K_at {xs : Scr} {I : In2} {ρ : Rh} {Q : Post} {m pc0 : Nat} {L st : List Value} {o : Out} (h : ∀ Q : Post, Ev xs m pc0 L st (pc I 1 (bk I 1), ρ) Q ↔ Q o (pc I 1 (bk I 1), ρ)) : Ev xs m pc0 L st (I, ρ) Q ↔ Q o (I, ρ) := by
  rw [pc_self] at h; exact h Q
theorem n10 : ¬ nI 1 = nI 0 := not_nI (by decide) (by decide) (by decide)
theorem k_instruction {xs : Scr} {I : In2} {ρ : Rh} {Q : Post} {z : Zt} {s : Nat} {zs : Nat → Zt} {tl : Nat × Zt} {p q : Int32} (hW : Rw ρ) (hC : Cst I ρ z s zs tl)
    (hok : ∀ i w, i < inN z → w < 7 → p = nI i → q = nI w → KOk Q I ρ (pt z i w) z s zs tl) (h1 : inB p (inN z) = false → Q (.inr 1) (I, xR ρ)) (h2 : inB p (inN z) = true → inB q 7 = false → Q (.inr 2) (I, xR ρ)) : Ev xs 77 0 [.ref 0, .int p, .int q] [] (I, ρ) Q := by
  obtain ⟨a, b, n, cy, g, -⟩ := hC.1
  have hb := g.1.bnd
  have en : inN z = n := g.1.i1
  rw [en] at hok h1 h2
  have rd : I 1 6 = nI n := g.c6
  apply w_X4_instruction_0
  simp only [gc_O hW, gR_some, mR_def, gc_0 hW, Option.getD_some, Bool.and_self, cond_true, gm_O hW Bs_1, mI_def, rd]
  rw [e_checkPlace hW]
  cases hp : inB p n
  · rw [if_neg (by decide), QV_e, KX_lo (by decide)]; exact h1 hp
  · obtain ⟨i, hi, rfl⟩ := inB_t (by omega) hp
    rw [if_pos rfl, QV_v, gc_O hW, cond_true]
    refine e_checkWhat hW ?_
    cases hq : inB q 7
    · rw [if_neg (by decide), QV_e, KX_lo (by decide)]; exact h2 hp hq
    · obtain ⟨w, hw, rfl⟩ := inB_t (by omega) hq
      rw [if_pos rfl]
      simp only [QV_v, gc_O hW, gR_some, mR_def, gc_0 hW, Option.getD_some, Bool.and_self, cond_true, gm_O hW Bs_1]
      rw [k_at hW Bs_1 (by omega), QA_a, gm_P hW Bs_1 (by omega), cond_true]
      rw [K_at (fun Q => k_part hW Bs_1 g hi hw (Q := Q)), QI_i]
      exact hC.same hW (hok i w hi hw rfl rfl)
theorem k_entry {xs : Scr} {I : In2} {ρ : Rh} {Q : Post} {z : Zt} {s : Nat} {zs : Nat → Zt} {tl : Nat × Zt} {p q : Int32} (hW : Rw ρ) (hC : Cst I ρ z s zs tl)
    (hok : ∀ i w, i < enN z → w < 9 → p = nI i → q = nI w → KOk Q I ρ (epV z (idx (z 3)) (idx (z 3) + i) w) z s zs tl) (h1 : inB p (enN z) = false → Q (.inr 1) (I, xR ρ)) (h2 : inB p (enN z) = true → inB q 9 = false → Q (.inr 2) (I, xR ρ)) : Ev xs 78 0 [.ref 0, .int p, .int q] [] (I, ρ) Q := by
  obtain ⟨a, b, n, cy, g, -⟩ := hC.1
  have hb := g.1.bnd
  have en : enN z = b - a := by unfold enN; rw [g.1.i2, g.1.i3]
  have ea : idx (z 3) = a := g.1.i3
  rw [en] at hok h1 h2
  rw [ea] at hok
  have rd : I 1 8 = nI a := g.c8
  apply w_X4_entry_0
  simp only [gc_O hW, gR_some, mR_def, gc_0 hW, Option.getD_some, Bool.and_self, cond_true, gm_O hW Bs_1]
  rw [K_at (fun Q => k_entries hW Bs_1 g (Q := Q)), QI_i, gc_O hW, cond_true, e_checkPlace hW]
  cases hp : inB p (b - a)
  · rw [if_neg (by decide), QV_e, KX_lo (by decide)]; exact h1 hp
  · obtain ⟨i, hi, rfl⟩ := inB_t (by omega) hp
    rw [if_pos rfl, QV_v, gc_O hW, cond_true]
    refine e_checkWhat hW ?_
    cases hq : inB q 9
    · rw [if_neg (by decide), QV_e, KX_lo (by decide)]; exact h2 hp hq
    · obtain ⟨w, hw, rfl⟩ := inB_t (by omega) hq
      rw [if_pos rfl]
      simp only [QV_v, gc_O hW, gR_some, mR_def, gc_0 hW, Option.getD_some, Bool.and_self, cond_true, gm_O hW Bs_1, mI_def, rd, nI_add]
      rw [K_at (fun Q => k_property hW Bs_1 g (show a ≤ a + i by omega) (show a + i < b by omega) hw (Q := Q)), QI_i]
      exact hC.same hW (hok i w hi hw rfl rfl)
theorem k_whyNot {xs : Scr} {I : In2} {ρ : Rh} {Q : Post} {z : Zt} {s : Nat} {zs : Nat → Zt} {tl : Nat × Zt} {p : Int32} (hW : Rw ρ) (hC : Cst I ρ z s zs tl)
    (hok : ∀ i, i < enN z → p = nI i → KOk Q I ρ (rsn z (idx (z 3)) (idx (z 3) + i)) z s zs tl) (h1 : inB p (enN z) = false → Q (.inr 1) (I, xR ρ)) : Ev xs 79 0 [.ref 0, .int p] [] (I, ρ) Q := by
  obtain ⟨a, b, n, cy, g, -⟩ := hC.1
  have hb := g.1.bnd
  have en : enN z = b - a := by unfold enN; rw [g.1.i2, g.1.i3]
  have ea : idx (z 3) = a := g.1.i3
  rw [en] at hok h1
  rw [ea] at hok
  have rd : I 1 8 = nI a := g.c8
  apply w_X4_whyNot_0
  simp only [gc_O hW, gR_some, mR_def, gc_0 hW, Option.getD_some, Bool.and_self, cond_true, gm_O hW Bs_1]
  rw [K_at (fun Q => k_entries hW Bs_1 g (Q := Q)), QI_i, gc_O hW, cond_true, e_checkPlace hW]
  cases hp : inB p (b - a)
  · rw [if_neg (by decide), QV_e, KX_lo (by decide)]; exact h1 hp
  · obtain ⟨i, hi, rfl⟩ := inB_t (by omega) hp
    rw [if_pos rfl]
    simp only [QV_v, gc_O hW, gR_some, mR_def, gc_0 hW, Option.getD_some, Bool.and_self, cond_true, gm_O hW Bs_1, mI_def, rd, nI_add]
    rw [K_at (fun Q => k_hind hW Bs_1 g (show a ≤ a + i by omega) (show a + i < b by omega) (Q := Q)), QI_i]
    exact hC.same hW (hok i hi rfl)
theorem k_count {xs : Scr} {I : In2} {ρ : Rh} {Q : Post} {z : Zt} {s : Nat} {zs : Nat → Zt} {tl : Nat × Zt} {p : Int32} (hW : Rw ρ) (hC : Cst I ρ z s zs tl)
    (hok : ∀ w, w < 12 → p = nI w → KOk Q I ρ (cnV z (idx (z 3)) (idx (z 2)) (idx (z 1)) s w) z s zs tl) (h1 : inB p 12 = false → Q (.inr 2) (I, xR ρ)) : Ev xs 82 0 [.ref 0, .int p] [] (I, ρ) Q := by
  obtain ⟨a, b, n, cy, g, -⟩ := hC.1
  have hb := g.1.bnd
  have h5 := hC.2.1
  rw [g.1.i3, g.1.i2, g.1.i1] at hok
  apply w_X4_count_0
  rw [gc_O hW, cond_true]
  refine e_checkWhat hW ?_
  cases hp : inB p 12
  · rw [if_neg (by decide), QV_e, KX_lo (by decide)]; exact h1 hp
  · obtain ⟨w, hw, rfl⟩ := inB_t (by omega) hp
    rw [if_pos rfl, QV_v, icB_ne]
    by_cases e : w = 11
    · subst e
      rw [decide_eq_false (fun h => h rfl), cond_false, gc_O hW, cond_true, mI_def, h5]
      exact hC.same hW (hok 11 (by decide) rfl)
    · rw [decide_eq_true (not_nI (by omega) (by decide) e), cond_true]
      simp only [gc_O hW, gR_some, mR_def, gc_0 hW, Option.getD_some, Bool.and_self, cond_true, gm_O hW Bs_1]
      rw [K_at (fun Q => k_number hW Bs_1 g (show w < 11 by omega) (Q := Q)), QI_i]
      have e2 : cnV z a b n 0 w = cnV z a b n s w := by
        have : w = 0 ∨ w = 1 ∨ w = 2 ∨ w = 3 ∨ w = 4 ∨ w = 5 ∨ w = 6 ∨ w = 7 ∨ w = 8 ∨ w = 9 ∨ w = 10 := by omega
        rcases this with e | e | e | e | e | e | e | e | e | e | e <;> subst e <;> rfl
      rw [e2]
      exact hC.same hW (hok w hw rfl)
theorem k_setting {xs : Scr} {I : In2} {ρ : Rh} {Q : Post} {z : Zt} {s : Nat} {zs : Nat → Zt} {tl : Nat × Zt} {p : Int32} (hW : Rw ρ) (hC : Cst I ρ z s zs tl)
    (hok : ∀ w, w < 3 → p = nI w → KOk Q I ρ (z (9 + w)) z s zs tl) (h1 : inB p 3 = false → Q (.inr 1) (I, xR ρ)) : Ev xs 83 0 [.ref 0, .int p] [] (I, ρ) Q := by
  obtain ⟨a, b, n, cy, g, -⟩ := hC.1
  apply w_X4_setting_0
  rw [gc_O hW, cond_true, e_checkPlace hW]
  cases hp : inB p 3
  · rw [if_neg (by decide), QV_e, KX_lo (by decide)]; exact h1 hp
  · obtain ⟨w, hw, rfl⟩ := inB_t (by omega) hp
    have rd : I (1 + 5) w = z (9 + w) := g.2.2.set hw
    rw [if_pos rfl]
    simp only [QV_v, gc_O hW, gR_some, mR_def, gc_0 hW, Option.getD_some, Bool.and_self, cond_true, gm_O hW Bs_1, gm_4 hW Bs_1, gm_D hW Bs_1 hw, mI_def, idx_nI (show w < 2147483648 by omega), rd]
    exact hC.same hW (hok w hw rfl)
/-! the load that is replayed most -/
def wsF (z : Zt) : Nat → Nat → Int32 → Int32 → Int32
  | 0, _, best, _ => best
  | d + 1, i, best, most => if icB .le (pt z i 6) most = true then wsF z d (i + 1) best most else wsF z d (i + 1) (nI i) (pt z i 6)
theorem k_worst6 {xs : Scr} {I : In2} {ρ : Rh} {Q : Post} (hW : Rw ρ) {z : Zt} {a b n : Nat} (g : Big (bk I 1) z a b n) : ∀ {d i : Nat} {best most : Int32} {v4 : Value}, i + d = n → Q (.inl (some (.int (wsF z d i best most)))) (I, ρ) → Ev xs 91 6 [.ref 0, .int best, .int most, .int (nI i), v4] [] (I, ρ) Q := by
  have hb := g.1.bnd
  have rd : I 1 6 = nI n := g.c6
  intro d
  induction d with
  | zero =>
    intro i best most v4 hi h
    obtain rfl : i = n := hi
    apply w_X4_worstLoad_6
    simp only [gc_O hW, gR_some, mR_def, gc_0 hW, Option.getD_some, Bool.and_self, cond_true, gm_O hW Bs_1, mI_def, rd]
    rw [icB_ge (by omega) (by omega), decide_eq_true (Nat.le_refl i), cond_true]
    exact h
  | succ d ih =>
    intro i best most v4 hi h
    have hin : ¬ n ≤ i := by omega
    have r6 : I (1 + (6 + i)) 6 = pt z i 6 := g.2.2.row (by omega) (by decide)
    unfold wsF at h
    apply w_X4_worstLoad_6
    simp only [gc_O hW, gR_some, mR_def, gc_0 hW, Option.getD_some, Bool.and_self, cond_true, gm_O hW Bs_1, mI_def, rd]
    rw [icB_ge (by omega) (by omega), decide_eq_false hin, cond_false, k_at hW Bs_1 (by omega), QA_a, gm_P hW Bs_1 (by omega), cond_true, mI_def, r6, nI_add]
    cases hc : icB .le (pt z i 6) most
    · rw [hc, if_neg (by decide)] at h
      rw [cond_false]; exact ih (by omega) h
    · rw [hc, if_pos rfl] at h
      rw [cond_true]; exact ih (by omega) h
theorem k_worst {xs : Scr} {I : In2} {ρ : Rh} {Q : Post} {z : Zt} {s : Nat} {zs : Nat → Zt} {tl : Nat × Zt} (hW : Rw ρ) (hC : Cst I ρ z s zs tl) (hok : KOk Q I ρ (wsF z (inN z) 0 nM (nI 0)) z s zs tl) : Ev xs 91 0 [.ref 0, .null, .null, .null, .null] [] (I, ρ) Q := by
  obtain ⟨a, b, n, cy, g, -⟩ := hC.1
  have en : inN z = n := g.1.i1
  rw [en] at hok
  apply w_X4_worstLoad_0
  exact k_worst6 hW g (d := n) (by omega) (hC.same hW hok)
