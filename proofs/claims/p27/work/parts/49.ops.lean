/-! settings, values, cycles: both sides -/
theorem bk_up2 {I : In2} {m o k : Nat} {v : Int32} : bk (up2 I (m + o) k v) m = up2 (bk I m) o k v := by
  funext p j; unfold bk up2
  by_cases e : p = o ∧ j = k
  · rw [if_pos e, if_pos ⟨by rw [e.1], e.2⟩]
  · rw [if_neg e, if_neg (fun h => e ⟨by omega, h.2⟩)]
theorem Cst.now {I I' : In2} {ρ : Rh} {z z' : Zt} {s : Nat} {zs : Nat → Zt} {tl : Nat × Zt} (h : Cst I ρ z s zs tl) (g : Good (bk I' 1) z') (he : ∀ a k, (31 ≤ a ∨ a = 0) → a < 245 → I' a k = I a k) : Cst I' ρ z' s zs tl := by
  obtain ⟨-, h5, hs, ⟨σ, hσ, hz⟩, h1, hc, ht⟩ := h
  refine ⟨g, by rw [he _ _ (by omega) (by omega)]; exact h5, hs, ⟨σ, hσ, fun j hj => (hz j hj).fr fun o k ho => he _ _ (by omega) ?_⟩, by rw [he _ _ (by omega) (by omega)]; exact h1, hc, fun k hk => by rw [he _ _ (by omega) (by omega)]; exact ht k hk⟩
  have := hσ.1 j (by omega); omega
theorem Good.set {c : In2} {z : Zt} {j w : Nat} (h : Good c z) (hj : j < 3) (h1 : 1 ≤ w) (hw : w ≤ if j = 0 then 8 else 4) : Good (up2 c 5 j (nI w)) (uz z (9 + j) (nI w)) := by
  obtain ⟨a, b, n, cy, ⟨⟨h3, h2, h1', hb, ⟨w1, w2, w3⟩, hr, hm, hw', hv⟩, hd, k1, k2, k3, k4, k5, k6, k7⟩, hE, ⟨c0, l, e, c7, c8, hl⟩, hcy, hT⟩ := h
  have ep : ∀ i f, pt (uz z (9 + j) (nI w)) i f = pt z i f := fun i f => pt_uz (by omega)
  have eo : ∀ o k, ¬ o = 5 → up2 c 5 j (nI w) o k = c o k := fun o k ho => up2_ne (fun e => ho e.1)
  have ez : ∀ k, ¬ k = 9 + j → uz z (9 + j) (nI w) k = z k := fun k hk => uz_ne hk
  refine ⟨a, b, n, cy, ⟨⟨by rw [ez _ (by omega)]; exact h3, by rw [ez _ (by omega)]; exact h2, by rw [ez _ (by omega)]; exact h1', hb, ⟨?_, ?_, ?_⟩, fun k hk => by rw [ez _ (by omega)]; exact hr k hk, fun k hk => by rw [ez _ (by omega)]; exact hm k hk, fun i hi => by simp only [ep]; exact hw' i hi, fun i hi => by rw [ep]; exact hv i hi⟩, hd.wu (by omega), fun k hk => by rw [eo _ _ (by omega), ez _ (by omega)]; exact k1 k hk, fun k hk => ?_, fun k hk => by rw [eo _ _ (by omega), ez _ (by omega)]; exact k3 k hk, fun k hk => by rw [eo _ _ (by omega), ez _ (by omega)]; exact k4 k hk, fun i f hi hf => by rw [eo _ _ (by omega), ep]; exact k5 i f hi hf, fun i h1 h2 => ?_, fun i h1 h2 => ?_⟩, hE.wu (by omega), ⟨by rw [ez _ (by omega)]; exact c0, l, e, by rw [ez _ (by omega)]; exact c7, by rw [ez _ (by omega)]; exact c8, hl⟩, hcy, hT.wu (by omega)⟩
  · by_cases e : j = 0
    · subst e; rw [uz_at]; exact ⟨w, h1, by simpa using hw, rfl⟩
    · rw [ez _ (by omega)]; exact w1
  · by_cases e : j = 1
    · subst e; rw [uz_at]; exact ⟨w, h1, by simpa using hw, rfl⟩
    · rw [ez _ (by omega)]; exact w2
  · by_cases e : j = 2
    · subst e; rw [uz_at]; exact ⟨w, h1, by simpa using hw, rfl⟩
    · rw [ez _ (by omega)]; exact w3
  · by_cases e : k = j
    · rw [e, up2_at, uz_at]
    · rw [up2_ne (by omega), ez _ (by omega)]; exact k2 k hk
  · have := k6 i h1 h2
    have e1 : ∀ k', up2 c 5 j (nI w) (6 + i) k' = c (6 + i) k' := fun k' => eo _ _ (by omega)
    unfold Erl at this ⊢
    simp only [e1, ep]; exact this
  · rw [eo _ _ (by omega), eo _ _ (by omega), ep, ep]
    exact ⟨(k7 i h1 h2).1.cg (fun k' _ => mkP_congr (ep _ _) (ep _ _)) (fun j' _ => eo _ _ (by omega)) (fun q hq => ez _ (by omega)), (k7 i h1 h2).2.cg (fun k' _ => mkP_congr (ep _ _) (ep _ _)) (fun j' _ => eo _ _ (by omega)) (fun q hq => ez _ (by omega))⟩
/-- a value, put while there are no entries: o 3 the registers, 4 the cells -/
theorem Good.put {c : In2} {z : Zt} {o q N B : Nat} {v : Int32} (h : Good c z) (ho : (o = 3 ∧ N = 8 ∧ B = 12) ∨ (o = 4 ∧ N = 16 ∧ B = 20)) (hq : q < N) (hv : InR v) (hem : z 2 = z 3) : Good (up2 c o q v) (uz z (B + q) v) := by
  obtain ⟨a, b, n, cy, ⟨hI, hd, k1, k2, k3, k4, k5, k6, k7⟩, hE, ⟨c0, l, e, c7, c8, hl⟩, hcy, hT⟩ := h
  have hb := hI.bnd
  have hab : a = b := by
    have := hI.h2.symm.trans (hem.trans hI.h3)
    rw [nI_eqI (by omega) (by omega)] at this; exact this.symm
  subst hab
  have ep : ∀ i f, pt (uz z (B + q) v) i f = pt z i f := fun i f => pt_uz (by omega)
  have eo : ∀ p k, ¬ p = o → up2 c o q v p k = c p k := fun p k hp => up2_ne (fun e => hp e.1)
  have ez : ∀ k, ¬ k = B + q → uz z (B + q) v k = z k := fun k hk => uz_ne hk
  refine ⟨a, a, n, cy, ⟨hI.wv (by omega) hv, fun i h1 h2 => by omega, fun k hk => by rw [eo _ _ (by omega), ez _ (by omega)]; exact k1 k hk, fun k hk => by rw [eo _ _ (by omega), ez _ (by omega)]; exact k2 k hk, fun k hk => ?_, fun k hk => ?_, fun i f hi hf => by rw [eo _ _ (by omega), ep]; exact k5 i f hi hf, fun i h1 h2 => by omega, fun i h1 h2 => by omega⟩, Ent_0, ⟨by rw [ez _ (by omega)]; exact c0, l, e, by rw [ez _ (by omega)]; exact c7, by rw [ez _ (by omega)]; exact c8, hl⟩, hcy, hT.wu (by omega)⟩
  · by_cases e : 3 = o ∧ k = q
    · obtain ⟨e1, e2⟩ := e
      have hB : B = 12 := by omega
      rw [← e1, e2, up2_at, hB, uz_at]
    · rw [up2_ne (by omega), ez _ (by omega)]; exact k3 k hk
  · by_cases e : 4 = o ∧ k = q
    · obtain ⟨e1, e2⟩ := e
      have hB : B = 20 := by omega
      rw [← e1, e2, up2_at, hB, uz_at]
    · rw [up2_ne (by omega), ez _ (by omega)]; exact k4 k hk
theorem Good.flush {c : In2} {z : Zt} (h : Good c z) : Good (up2 c 0 7 (z 3)) (uz z 2 (z 3)) := by
  obtain ⟨a, b, n, cy, ⟨hI, hd, k1, k2, k3, k4, k5, k6, k7⟩, hE, ⟨c0, l, e, c7, c8, hl⟩, hcy, hT⟩ := h
  have hb := hI.bnd
  have ep : ∀ i f, pt (uz z 2 (z 3)) i f = pt z i f := fun i f => pt_uz (by omega)
  have ez : ∀ k, ¬ k = 2 → uz z 2 (z 3) k = z k := fun k hk => uz_ne hk
  have hI' : Inv0 (uz z 2 (z 3)) a a n := by rw [hI.h3]; exact hI.w2 (Nat.le_refl a) (by omega)
  refine ⟨a, a, n, cy, ⟨hI', fun i h1 h2 => by omega, fun k hk => ?_, fun k hk => by rw [up2_ne (by omega), ez _ (by omega)]; exact k2 k hk, fun k hk => by rw [up2_ne (by omega), ez _ (by omega)]; exact k3 k hk, fun k hk => by rw [up2_ne (by omega), ez _ (by omega)]; exact k4 k hk, fun i f hi hf => by rw [up2_ne (by omega), ep]; exact k5 i f hi hf, fun i h1 h2 => by omega, fun i h1 h2 => by omega⟩, Ent_0, ⟨by rw [ez _ (by omega)]; exact c0, l, e, by rw [ez _ (by omega)]; exact c7, by rw [ez _ (by omega)]; exact c8, hl⟩, hcy, hT.wu (by omega)⟩
  by_cases e : k = 2
  · rw [e, up2_at, uz_at]
  · rw [up2_ne (by omega), ez _ e]; exact k1 k hk
theorem Good.inv {c : In2} {z : Zt} (h : Good c z) : ∃ a b n, Inv z a b n := by
  obtain ⟨a, b, n, cy, g, hE, -⟩ := h; exact ⟨a, b, n, g.1, hE⟩
theorem Good.tl {c : In2} {z : Zt} (h : Good c z) : Tl z := by
  obtain ⟨a, b, n, cy, g, hE, -, -, h⟩ := h; exact h
/-- whether a value may be set -/
def okV (p v : Int32) : Bool := !icB .lt v (nI 1) && !icB .gt v (if p = nI 0 then nI 8 else nI 4)
theorem okV_t {j : Nat} {v : Int32} (hj : j < 3) (h : okV (nI j) v = true) : ∃ w, 1 ≤ w ∧ (w ≤ if j = 0 then 8 else 4) ∧ v = nI w := by
  unfold okV at h
  rw [Bool.and_eq_true, Bool.not_eq_true', Bool.not_eq_true'] at h
  obtain ⟨h1, h2⟩ := h
  have h1 : ¬ v < nI 1 := of_decide_eq_false h1
  have h2 : ¬ (if nI j = nI 0 then nI 8 else nI 4) < v := of_decide_eq_false h2
  have e : (if nI j = nI 0 then nI 8 else nI 4) = nI (if j = 0 then 8 else 4) := by
    by_cases e : j = 0
    · rw [e]; rfl
    · rw [if_neg (not_nI (by omega) (by decide) e), if_neg e]
  rw [e] at h2
  have hle : (if j = 0 then 8 else 4) ≤ 8 := by split <;> omega
  rcases pk_ix v (n := 9) (by decide) with q | q | ⟨w, q, rfl⟩
  · exact absurd (Int32.lt_of_lt_of_le q (by decide)) h1
  · exact absurd (Int32.lt_of_lt_of_le (nI_lt (by omega) (by decide)) q) h2
  · refine ⟨w, ?_, ?_, rfl⟩
    · by_cases e0 : w = 0
      · subst e0; exact absurd (by decide) h1
      · omega
    · by_cases e1 : w ≤ if j = 0 then 8 else 4
      · exact e1
      · exact absurd (nI_lt (by omega) (by omega)) h2
theorem k_set {xs : Scr} {I : In2} {ρ : Rh} {Q : Post} {z : Zt} {s : Nat} {zs : Nat → Zt} {tl : Nat × Zt} {p v : Int32} (hW : Rw ρ) (hC : Cst I ρ z s zs tl)
    (hok : ∀ j, j < 3 → p = nI j → okV p v = true → KOk Q I ρ (z (9 + j)) (uz z (9 + j) v) (svN s) (svZ s zs z) tl) (h1 : inB p 3 = false → Q (.inr 1) (I, xR ρ)) (h2 : inB p 3 = true → okV p v = false → Q (.inr 2) (I, xR ρ)) : Ev xs 63 0 [.ref 0, .int p, .int v, .null] [] (I, ρ) Q := by
  apply w_X4_set_0
  rw [gc_O hW, cond_true, e_checkPlace hW]
  cases hp : inB p 3
  · rw [if_neg (by decide)]
    exact h1 hp
  · obtain ⟨j, hj, rfl⟩ := inB_t (by decide) hp
    rw [if_pos rfl, QV_v]
    have e2 : okV (nI j) v = (!icB .lt v (nI 1) && !icB .gt v (if nI j = nI 0 then nI 8 else nI 4)) := rfl
    cases hl : icB .lt v (nI 1)
    · rw [cond_false]
      apply w_X2_greatest_0
      have main : ∀ x, (if nI j = nI 0 then nI 8 else nI 4) = x → bif icB .le v x then (bif gO (I, ρ) 0 3 then Ev xs 76 0 [.ref 0, .null, .null] [] (I, ρ) (QV (fun μ4 => bif (gO μ4 0 3 && gR (mR μ4 0 0)) then (bif (gO μ4 ((mR μ4 0 0).getD 0) 1 && gR (mR μ4 ((mR μ4 0 0).getD 0) 4)) then (bif gA μ4 (((mR μ4 ((mR μ4 0 0).getD 0) 4).getD 0)) 6 (nI j) then (bif (gO μ4 0 3 && gR (mR μ4 0 0)) then (bif (gO μ4 ((mR μ4 0 0).getD 0) 1 && gR (mR μ4 ((mR μ4 0 0).getD 0) 4)) then (bif gA μ4 (((mR μ4 ((mR μ4 0 0).getD 0) 4).getD 0)) 6 (nI j) then ((fun u5 : Mem => Q (.inl (some (.int (mI μ4 (((mR μ4 ((mR μ4 0 0).getD 0) 4).getD 0)) (idx (nI j)))))) u5) (setI μ4 (((mR μ4 ((mR μ4 0 0).getD 0) 4).getD 0)) (idx (nI j)) v)) else False) else False) else False) else False) else False) else False) (KX xs 63 37 [.ref 0, .int (nI j), .int v, .null] Q)) else False) else (bif Nat.ble 245 (mN (I, ρ)) then Q (.inr 2) (excM (I, ρ)) else False) := by
        intro x hx
        have hle : icB .le v x = !icB .gt v x := by
          show decide (v ≤ x) = !decide (x < v)
          rw [← decide_not, decide_eq_decide]; exact Int32.not_lt.symm
        rw [hx] at e2
        rw [hle]
        cases hg : icB .gt v x
        · have hokk : okV (nI j) v = true := by rw [e2, hl, hg]; rfl
          obtain ⟨w, q1, q2, rfl⟩ := okV_t hj hokk
          rw [Bool.not_false, cond_true, gc_O hW, cond_true]
          refine k_save hW hC fun I' ρ' hW' hρ' hC' hfr => ?_
          have g := hC'.1
          obtain ⟨a, b, n, cy, gg, -⟩ := hC'.1
          have rd : I' (1 + 5) j = z (9 + j) := gg.2.2.set hj
          simp (maxSteps := 1000000) (disch := omega) only [↓QI_i, ↓QV_v, ↓QA_a, ↓QF_f, ↓QD_d, ↓QL_l, ↓Bool.cond_eq_ite, ↓reduceIte, decide_eq_true_eq, Bool.not_eq_true', Bool.true_and, Bool.and_true, Bool.and_self, gR_some, Option.getD_some, mI_def, setI_def, mR_def, not_false_eq_true, not_true_eq_false, Bool.false_eq_true, idx_nI, nI_add, pk_mul, icB_lt, icB_gt, icB_le, icB_ge, icB_eq, icB_ne, bI_ne, nI_eqI, gc_O hW', gc_0 hW', gm_O hW' Bs_1, gm_4 hW' Bs_1, gm_D hW' Bs_1, rd]
          refine hok j hj rfl hokk _ ρ' hW' hρ' (hC'.now (by rw [bk_up2]; exact g.set hj q1 q2) fun a k h1 h2 => up2_ne (by omega)) fun a k ha => ?_
          rw [up2_ne (by omega)]; exact hfr a k ha
        · rw [Bool.not_true, cond_false, gNN hW, cond_true, excM_def]
          exact h2 hp (by rw [e2, hl, hg]; rfl)
      by_cases e : nI j = nI 0
      · rw [icB_ne, decide_eq_false (fun h => h e), cond_false]
        exact main _ (if_pos e)
      · rw [icB_ne, decide_eq_true e, cond_true]
        exact main _ (if_neg e)
    · rw [cond_true, gNN hW, cond_true, excM_def]
      exact h2 hp (by rw [e2, hl]; rfl)
/-! a value into a register or a cell -/
def okR (v : Int32) : Bool := !icB .gt (v &&& nI 2147483647) (nI 1232348160)
theorem okR_t {v : Int32} (h : okR v = true) : InR v := by
  unfold okR at h; unfold InR; simpa using h
theorem k_puts {xs : Scr} {I : In2} {ρ : Rh} {Q : Post} {z : Zt} {s : Nat} {zs : Nat → Zt} {tl : Nat × Zt} {p v : Int32} {o N B : Nat} (ho : (o = 3 ∧ N = 8 ∧ B = 12) ∨ (o = 4 ∧ N = 16 ∧ B = 20)) (hW : Rw ρ) (hC : Cst I ρ z s zs tl)
    (hok : ∀ j, j < N → p = nI j → okR v = true → z 2 = z 3 → KOk Q I ρ (z (B + j)) (uz z (B + j) v) (svN s) (svZ s zs z) tl) (h1 : inB p N = false → Q (.inr 1) (I, xR ρ)) (h2 : inB p N = true → okR v = false → Q (.inr 2) (I, xR ρ)) (h3 : inB p N = true → okR v = true → ¬ z 2 = z 3 → Q (.inr 3) (I, xR ρ)) :
    Ev xs 66 0 [.ref 0, .ref (1 + o), .int p, .int v, .null] [] (I, ρ) Q := by
  have hsh : (shp (1 + o)).2 = N ∧ (Nat.blt (1 + o) (mN (I, ρ)) && (Nat.ble 5 (shp (1 + o)).1 && Nat.ble (shp (1 + o)).1 9)) = true := by
    rw [mN_def, show Nat.blt (1 + o) ρ.2.2.1 = true from Nat.blt_eq.mpr (by have := hW.1; omega)]
    rcases ho with ⟨h1, h2, h3⟩ | ⟨h1, h2, h3⟩ <;> subst h1 <;> subst h2 <;> exact ⟨rfl, rfl⟩
  have hga : ∀ {I : In2} {ρ' : Rh}, Rw ρ' → ∀ {j : Nat}, j < N → gA (I, ρ') (1 + o) 6 (nI j) = true := by
    intro I ρ' hW' j hj
    rcases ho with ⟨h1, h2, h3⟩ | ⟨h1, h2, h3⟩ <;> subst h1 <;> subst h2
    · exact gm_B hW' Bs_1 hj
    · exact gm_C hW' Bs_1 hj
  obtain ⟨a, b, n, cy, g, -⟩ := hC.1
  have hb := g.1.bnd
  apply w_X4_putValue_0
  rw [hsh.2, hsh.1, cond_true, gc_O hW, cond_true, e_checkPlace hW]
  cases hp : inB p N
  · rw [if_neg (by decide)]; exact h1 hp
  · obtain ⟨j, hj, rfl⟩ := inB_t (by omega) hp
    rw [if_pos rfl, QV_v, e_isInRange, QI_i]
    change bif icB .ne (bI (okR v)) (nI 0) then _ else _
    rw [icB_ne_b]
    cases hv : okR v
    · rw [cond_false, gNN hW, cond_true, excM_def]; exact h2 hp hv
    · have hent : Ev xs 21 0 [.ref 1] [] (I, ρ) = Ev xs 21 0 [.ref 1] [] (pc I 1 (bk I 1), ρ) := by rw [pc_self]
      rw [cond_true]
      simp only [gc_O hW, gR_some, mR_def, gc_0 hW, Option.getD_some, Bool.and_self, cond_true, gm_O hW Bs_1]
      rw [hent, k_entries hW Bs_1 g, QI_i, pc_self, icB_le (by omega) (by decide)]
      have hab : (b - a ≤ 0) ↔ z 2 = z 3 := by
        rw [g.1.h2, g.1.h3, nI_eqI (by omega) (by omega)]; omega
      by_cases he : b - a ≤ 0
      · rw [decide_eq_true he, cond_true, gc_O hW, cond_true]
        refine k_save hW hC fun I' ρ' hW' hρ' hC' hfr => ?_
        have g' := hC'.1
        obtain ⟨a', b', n', cy', gg, -⟩ := hC'.1
        have rd : I' (1 + o) j = z (B + j) := by
          rcases ho with ⟨q1, q2, q3⟩ | ⟨q1, q2, q3⟩ <;> subst q1 <;> subst q2 <;> subst q3
          · exact gg.2.2.reg hj
          · exact gg.2.2.mem hj
        simp (maxSteps := 1000000) (disch := omega) only [↓QI_i, ↓QV_v, ↓QA_a, ↓QF_f, ↓QD_d, ↓QL_l, ↓Bool.cond_eq_ite, ↓reduceIte, decide_eq_true_eq, Bool.not_eq_true', Bool.true_and, Bool.and_true, Bool.and_self, gR_some, Option.getD_some, mI_def, setI_def, mR_def, not_false_eq_true, not_true_eq_false, Bool.false_eq_true, idx_nI, nI_add, pk_mul, icB_lt, icB_gt, icB_le, icB_ge, icB_eq, icB_ne, bI_ne, nI_eqI, hga hW' hj, rd]
        refine hok j hj rfl hv (hab.mp he) _ ρ' hW' hρ' (hC'.now (by rw [bk_up2]; exact g'.put ho hj (okR_t hv) (hab.mp he)) fun a k h1 h2 => up2_ne (by omega)) fun a k ha => ?_
        rw [up2_ne (by omega)]; exact hfr a k ha
      · rw [decide_eq_false he, cond_false, gNN hW, cond_true, excM_def]
        exact h3 hp hv (fun e => he (hab.mpr e))
