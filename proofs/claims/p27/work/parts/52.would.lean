/-! what would be: the plain order, registers, cells -/
def w00 : Gh := (fun _ => 0, fun _ => 0)
def plV (z : Zt) : Gh := plL z (idx (z 1) - idx (z 3)) (idx (z 3)) (pl0 z w00)
def Agr (w w' : Gh) : Prop := (∀ k, k < 8 → w.1 k = w'.1 k) ∧ (∀ k, k < 16 → w.2 k = w'.2 k)
theorem plS_cg {z : Zt} {a b n i : Nat} {w w' : Gh} (h0 : Inv0 z a b n) (hi : i < n) (h : Agr w w') : Agr (plS z i w) (plS z i w') := by
  obtain ⟨hr, -⟩ := h0.row hi
  unfold plS
  by_cases k4 : pt z i 0 = nI 4
  · obtain ⟨⟨p, hp, hpe⟩, ⟨q, hq, hqe⟩, -⟩ := hr.k4 k4
    rw [if_pos k4, if_pos k4, hpe, hqe, idx_nI (show p < 2147483648 by omega), idx_nI (show q < 2147483648 by omega), h.1 p hp, h.1 q hq]
    refine ⟨h.1, fun k hk => ?_⟩
    dsimp only; unfold uz
    split
    · rfl
    · exact h.2 k hk
  · rw [if_neg k4, if_neg k4]
    refine ⟨fun k hk => ?_, h.2⟩
    dsimp only; unfold uz
    split
    · by_cases k0 : pt z i 0 = nI 0
      · rw [if_pos k0, if_pos k0]
      · rw [if_neg k0, if_neg k0]
        by_cases k3 : pt z i 0 = nI 3
        · obtain ⟨⟨p, hp, hpe⟩, -⟩ := hr.k3 k3
          rw [if_pos k3, if_pos k3, hpe, idx_nI (show p < 2147483648 by omega), h.1 p hp]
          exact h.2 _ (cellF_lt _ _)
        · obtain ⟨-, ⟨p, hp, hpe⟩, ⟨q, hq, hqe⟩, -⟩ := hr.k12 k0 k3 k4
          rw [if_neg k3, if_neg k3, hpe, hqe, idx_nI (show p < 2147483648 by omega), idx_nI (show q < 2147483648 by omega), h.1 p hp, h.1 q hq]
    · exact h.1 k hk
theorem plL_cg {z : Zt} {a b n : Nat} (h0 : Inv0 z a b n) : ∀ {d i : Nat} {w w' : Gh}, i + d ≤ n → Agr w w' → Agr (plL z d i w) (plL z d i w') := by
  intro d
  induction d with
  | zero => intro i w w' _ h; exact h
  | succ d ih => intro i w w' hi h; exact ih (by omega) (plS_cg h0 (by omega) h)
theorem plV_cg {z : Zt} {a b n : Nat} {w : Gh} (h0 : Inv0 z a b n) : Agr (plL z (n - a) a (pl0 z w)) (plV z) := by
  have hb := h0.bnd
  unfold plV
  rw [h0.i1, h0.i3]
  refine plL_cg h0 (by omega) ⟨fun k hk => ?_, fun k hk => ?_⟩
  · unfold pl0; dsimp only; rw [if_pos ⟨by omega, hk⟩, if_pos ⟨by omega, hk⟩]
  · unfold pl0; dsimp only; rw [if_pos ⟨by omega, hk⟩, if_pos ⟨by omega, hk⟩]
theorem K_am {xs : Scr} {I : In2} {ρ : Rh} {Q : Post} {mm m pc0 : Nat} {L st : List Value} {o : Out} (h : ∀ Q : Post, Ev xs m pc0 L st (pc I mm (bk I mm), ρ) Q ↔ Q o (pc I mm (bk I mm), ρ)) : Ev xs m pc0 L st (I, ρ) Q ↔ Q o (I, ρ) := by
  rw [pc_self] at h; exact h Q
/-- the rehearsal has been through the plain order -/
def RhP (I : In2) (z : Zt) : Prop := (∀ k, k < 8 → I (31 + 3) k = (plV z).1 k) ∧ (∀ k, k < 16 → I (31 + 4) k = (plV z).2 k)
theorem k_rhPlain {xs : Scr} {I : In2} {ρ : Rh} {Q : Post} {z : Zt} (hW : Rw ρ) (hg : Good (bk I 1) z) (h : ∀ I', (∀ a k, ¬ (31 ≤ a ∧ a ≤ 60) → I' a k = I a k) → RhP I' z → Q (.inl none) (I', ρ)) : Ev xs 97 0 [.ref 0] [] (I, ρ) Q := by
  apply w_X4_rehearsePlainOrder_0
  simp only [gc_O hW, gR_some, mR_def, gc_0 hW, gc_1 hW, Option.getD_some, Bool.and_self, cond_true, gm_O hW Bs_31]
  refine k_copy hW Bs_31 Bs_1 (by decide) hg fun c' hc' => ?_
  obtain ⟨a, b, n, cy, g, -⟩ := hc'
  simp only [QV_v, gc_O hW, gR_some, mR_def, gc_0 hW, gc_1 hW, Option.getD_some, Bool.and_self, cond_true, gm_O hW Bs_31]
  refine k_plain hW Bs_31 (w := w00) g fun c2 q1 q2 => ?_
  rw [QV_v]
  have e : plL z (n - a) a (pl0 z w00) = plV z := by unfold plV; rw [g.1.i1, g.1.i3]
  rw [e] at q1 q2
  refine h _ (fun a' k ha => pc_ne (by omega)) ⟨fun k hk => ?_, fun k hk => ?_⟩
  · rw [pc_at (by decide)]; exact q1 k hk
  · rw [pc_at (by decide)]; exact q2 k hk
/-- the rehearsal has been through some cycles -/
theorem k_rhCycles {xs : Scr} {I : In2} {ρ : Rh} {Q : Post} {z : Zt} {N : Nat} (hN : N ≤ 100) (hW : Rw ρ) (hg : Good (bk I 1) z) (h : ∀ I', (∀ a k, ¬ (31 ≤ a ∧ a ≤ 60) → I' a k = I a k) → (∃ a b n, Big (bk I' 31) (itC N z) a b n) → Q (.inl none) (I', ρ)) : Ev xs 98 0 [.ref 0, .int (nI N)] [] (I, ρ) Q := by
  apply w_X4_rehearseCycles_0
  simp only [gc_O hW, gR_some, mR_def, gc_0 hW, gc_1 hW, Option.getD_some, Bool.and_self, cond_true, gm_O hW Bs_31]
  refine k_copy hW Bs_31 Bs_1 (by decide) hg fun c' hc' => ?_
  obtain ⟨a, b, n, cy, g, hE, -⟩ := hc'
  simp only [QV_v, gc_O hW, gR_some, mR_def, gc_0 hW, gc_1 hW, Option.getD_some, Bool.and_self, cond_true, gm_O hW Bs_31]
  refine k_pass hW Bs_31 hN g hE fun c2 a2 b2 g2 e2 => ?_
  have hb := g2.1.bnd
  rw [QV_v]
  exact h _ (fun a' k ha => pc_ne (by omega)) ⟨a2, b2, n, g2.cgc (fun k _ => bk_pc (by omega)) (fun k _ => bk_pc (by omega)) (fun k _ => bk_pc (by omega)) (fun k _ => bk_pc (by omega)) (fun i f hi _ => bk_pc (by omega))⟩
def rgV (z : Zt) (q : Nat) : Nat → Int32
  | 0 => z (12 + q)
  | 1 => oI (mkr z (idx (z 3)) (idx (z 2)) (nI q))
  | _ => (plV z).1 q
def clV (z : Zt) (q : Nat) : Nat → Int32
  | 0 => z (20 + q)
  | _ => (plV z).2 q
theorem k_regFact {xs : Scr} {I : In2} {ρ : Rh} {Q : Post} {z : Zt} {q w : Nat} (hW : Rw ρ) (hg : Good (bk I 1) z) (hq : q < 8) (hw : w < 3) (hp : w = 2 → RhP I z) : Ev xs 86 0 [.ref 0, .int (nI q), .int (nI w)] [] (I, ρ) Q ↔ Q (.inl (some (.int (rgV z q w)))) (I, ρ) := by
  obtain ⟨a, b, n, cy, g, -⟩ := hg
  have hb := g.1.bnd
  have rd : I 1 7 = nI b := g.c7
  have rg : bk I 1 3 q = z (12 + q) := g.2.2.reg hq
  apply Ev.dt; intro Q h; apply w_X4_registerFact_0
  simp only [gc_O hW, gR_some, mR_def, gc_0 hW, gc_1 hW, Option.getD_some, Bool.and_self, cond_true, gm_O hW Bs_31, gm_O hW Bs_1, mI_def, rd]
  have : w = 0 ∨ w = 1 ∨ w = 2 := by omega
  rcases this with e | e | e <;> subst e <;> unfold rgV at h
  · rw [decide_eq_true rfl, cond_true, K_am (fun Q => k_regBits (c := bk I 1) hW Bs_1 hq (Q := Q)), QI_i, rg]; exact h
  · rw [decide_eq_false n10, cond_false, decide_eq_true rfl, cond_true, K_am (fun Q => k_latMaker hW Bs_1 g hq (show b ≤ n by omega) (Q := Q)), QI_i]
    rw [g.1.i3, g.1.i2] at h; exact h
  · have n20 : ¬ nI 2 = nI 0 := not_nI (by decide) (by decide) (by decide)
    have n21 : ¬ nI 2 = nI 1 := not_nI (by decide) (by decide) (by decide)
    rw [decide_eq_false n20, cond_false, decide_eq_false n21, cond_false, K_am (fun Q => k_regBits (c := bk I 31) hW Bs_31 hq (Q := Q)), QI_i, show bk I 31 3 q = (plV z).1 q from (hp rfl).1 q hq]; exact h
theorem k_cellFact {xs : Scr} {I : In2} {ρ : Rh} {Q : Post} {z : Zt} {q w : Nat} (hW : Rw ρ) (hg : Good (bk I 1) z) (hq : q < 16) (hw : w < 2) (hp : w = 1 → RhP I z) : Ev xs 87 0 [.ref 0, .int (nI q), .int (nI w)] [] (I, ρ) Q ↔ Q (.inl (some (.int (clV z q w)))) (I, ρ) := by
  obtain ⟨a, b, n, cy, g, -⟩ := hg
  have rg : bk I 1 4 q = z (20 + q) := g.2.2.mem hq
  apply Ev.dt; intro Q h; apply w_X4_cellFact_0
  simp only [gc_O hW, gR_some, mR_def, gc_0 hW, gc_1 hW, Option.getD_some, Bool.and_self, cond_true, gm_O hW Bs_31, gm_O hW Bs_1, icB_ne]
  have : w = 0 ∨ w = 1 := by omega
  rcases this with e | e <;> subst e <;> unfold clV at h
  · rw [decide_eq_false (fun h => h rfl), cond_false, K_am (fun Q => k_cellBits (c := bk I 1) hW Bs_1 hq (Q := Q)), QI_i, rg]; exact h
  · rw [decide_eq_true n10, cond_true, K_am (fun Q => k_cellBits (c := bk I 31) hW Bs_31 hq (Q := Q)), QI_i, show bk I 31 4 q = (plV z).2 q from (hp rfl).2 q hq]; exact h
theorem k_register {xs : Scr} {I : In2} {ρ : Rh} {Q : Post} {z : Zt} {s : Nat} {zs : Nat → Zt} {tl : Nat × Zt} {p q : Int32} (hW : Rw ρ) (hC : Cst I ρ z s zs tl)
    (hok : ∀ i w, i < 8 → w < 3 → p = nI i → q = nI w → KOk Q I ρ (rgV z i w) z s zs tl) (h1 : inB p 8 = false → Q (.inr 1) (I, xR ρ)) (h2 : inB p 8 = true → inB q 3 = false → Q (.inr 2) (I, xR ρ)) : Ev xs 80 0 [.ref 0, .int p, .int q] [] (I, ρ) Q := by
  apply w_X4_register_0
  rw [gc_O hW, cond_true, e_checkPlace hW]
  cases hp : inB p 8
  · rw [if_neg (by decide), QV_e, KX_lo (by decide)]; exact h1 hp
  · obtain ⟨i, hi, rfl⟩ := inB_t (by omega) hp
    rw [if_pos rfl, QV_v, gc_O hW, cond_true]
    refine e_checkWhat hW ?_
    cases hq : inB q 3
    · rw [if_neg (by decide), QV_e, KX_lo (by decide)]; exact h2 hp hq
    · obtain ⟨w, hw, rfl⟩ := inB_t (by omega) hq
      rw [if_pos rfl, QV_v, icB_ne]
      by_cases e : w = 2
      · subst e
        rw [decide_eq_false (fun h => h rfl), cond_false, gc_O hW, cond_true]
        refine k_rhPlain hW hC.1 fun I' hfr hP => ?_
        have hC' : Cst I' ρ z s zs tl := hC.fr rfl fun a k _ ha => hfr a k ha
        rw [QV_v, gc_O hW, cond_true, k_regFact hW hC'.1 hi hw (fun _ => hP), QI_i]
        exact hok i 2 hi hw rfl rfl I' ρ hW rfl hC' fun a k ha => hfr a k (by omega)
      · rw [decide_eq_true (not_nI (by omega) (by decide) e), cond_true, gc_O hW, cond_true, k_regFact hW hC.1 hi hw (fun e' => absurd e' e), QI_i]
        exact hC.same hW (hok i w hi hw rfl rfl)
theorem k_cell {xs : Scr} {I : In2} {ρ : Rh} {Q : Post} {z : Zt} {s : Nat} {zs : Nat → Zt} {tl : Nat × Zt} {p q : Int32} (hW : Rw ρ) (hC : Cst I ρ z s zs tl)
    (hok : ∀ i w, i < 16 → w < 2 → p = nI i → q = nI w → KOk Q I ρ (clV z i w) z s zs tl) (h1 : inB p 16 = false → Q (.inr 1) (I, xR ρ)) (h2 : inB p 16 = true → inB q 2 = false → Q (.inr 2) (I, xR ρ)) : Ev xs 81 0 [.ref 0, .int p, .int q] [] (I, ρ) Q := by
  apply w_X4_cell_0
  rw [gc_O hW, cond_true, e_checkPlace hW]
  cases hp : inB p 16
  · rw [if_neg (by decide), QV_e, KX_lo (by decide)]; exact h1 hp
  · obtain ⟨i, hi, rfl⟩ := inB_t (by omega) hp
    rw [if_pos rfl, QV_v, gc_O hW, cond_true]
    refine e_checkWhat hW ?_
    cases hq : inB q 2
    · rw [if_neg (by decide), QV_e, KX_lo (by decide)]; exact h2 hp hq
    · obtain ⟨w, hw, rfl⟩ := inB_t (by omega) hq
      rw [if_pos rfl, QV_v, icB_ne]
      by_cases e : w = 1
      · subst e
        rw [decide_eq_false (fun h => h rfl), cond_false, gc_O hW, cond_true]
        refine k_rhPlain hW hC.1 fun I' hfr hP => ?_
        have hC' : Cst I' ρ z s zs tl := hC.fr rfl fun a k _ ha => hfr a k ha
        rw [QV_v, gc_O hW, cond_true, k_cellFact hW hC'.1 hi hw (fun _ => hP), QI_i]
        exact hok i 1 hi hw rfl rfl I' ρ hW rfl hC' fun a k ha => hfr a k (by omega)
      · rw [decide_eq_true (not_nI (by omega) (by decide) e), cond_true, gc_O hW, cond_true, k_cellFact hW hC.1 hi hw (fun e' => absurd e' e), QI_i]
        exact hC.same hW (hok i w hi hw rfl rfl)
theorem Rst.g {I : In2} {z : Zt} {s : Nat} {zs : Nat → Zt} {tl : Nat × Zt} {w : Gh} (h : Rst I z s zs tl) : Rst (pz (pg I w) z) z s zs tl := by
  have h' : Rst (pg I w) z s zs tl := h.fr rfl rfl rfl (fun _ => rfl) (fun _ _ => rfl)
  exact h'.z
