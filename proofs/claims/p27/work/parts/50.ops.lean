/-! values put, cycles, flushes, new beginnings: both sides -/
theorem KX_lo {xs : Scr} {m pc : Nat} {L : List Value} {Q : Post} {E : Nat} {μ : Mem} (hm : m < 193) : KX xs m pc L Q E μ = Q (.inr E) μ := by
  have : hnd m pc E = none := by
    unfold hnd hRow
    rw [show Nat.blt m 193 = true from Nat.blt_eq.mpr hm]; rfl
  unfold KX; rw [this]
theorem ROk.t {Q : Post} {I : In2} {ρ : Rh} {v x : Int32} {z : Zt} {s : Nat} {zs : Nat → Zt} {tl : Nat × Zt} {t : Nat} (h : ROk Q I ρ v z s zs tl t) : ROk Q (up2 I 245 16 x) ρ v z s zs tl t := fun I' h1 h2 h3 => h I' h1 h2 fun a k ha => (h3 a k ha).trans (fr_t ha)
theorem t_t {I : In2} {x t : Int32} : up2 (up2 I 245 16 x) 245 16 t = up2 I 245 16 t := by funext b j; simp only [up2_e]; split <;> rfl
theorem k_putReg {xs : Scr} {I : In2} {ρ : Rh} {Q : Post} {z : Zt} {s : Nat} {zs : Nat → Zt} {tl : Nat × Zt} {p v : Int32} (hW : Rw ρ) (hC : Cst I ρ z s zs tl)
    (hok : ∀ j, j < 8 → p = nI j → okR v = true → z 2 = z 3 → KOk Q I ρ (z (12 + j)) (uz z (12 + j) v) (svN s) (svZ s zs z) tl) (h1 : inB p 8 = false → Q (.inr 1) (I, xR ρ)) (h2 : inB p 8 = true → okR v = false → Q (.inr 2) (I, xR ρ)) (h3 : inB p 8 = true → okR v = true → ¬ z 2 = z 3 → Q (.inr 3) (I, xR ρ)) :
    Ev xs 64 0 [.ref 0, .int p, .int v] [] (I, ρ) Q := by
  apply w_X4_putRegister_0
  simp only [gc_O hW, gR_some, mR_def, gc_0 hW, Option.getD_some, Bool.and_self, cond_true, gm_O hW Bs_1, gm_2 hW Bs_1]
  exact k_puts (o := 3) (N := 8) (B := 12) (Or.inl ⟨rfl, rfl, rfl⟩) hW hC (fun j a1 a2 a3 a4 => hok j a1 a2 a3 a4) (fun e => by rw [QI_e, KX_lo (by decide)]; exact h1 e) (fun e f => by rw [QI_e, KX_lo (by decide)]; exact h2 e f) (fun e f g => by rw [QI_e, KX_lo (by decide)]; exact h3 e f g)
theorem k_putCell {xs : Scr} {I : In2} {ρ : Rh} {Q : Post} {z : Zt} {s : Nat} {zs : Nat → Zt} {tl : Nat × Zt} {p v : Int32} (hW : Rw ρ) (hC : Cst I ρ z s zs tl)
    (hok : ∀ j, j < 16 → p = nI j → okR v = true → z 2 = z 3 → KOk Q I ρ (z (20 + j)) (uz z (20 + j) v) (svN s) (svZ s zs z) tl) (h1 : inB p 16 = false → Q (.inr 1) (I, xR ρ)) (h2 : inB p 16 = true → okR v = false → Q (.inr 2) (I, xR ρ)) (h3 : inB p 16 = true → okR v = true → ¬ z 2 = z 3 → Q (.inr 3) (I, xR ρ)) :
    Ev xs 65 0 [.ref 0, .int p, .int v] [] (I, ρ) Q := by
  apply w_X4_putCell_0
  simp only [gc_O hW, gR_some, mR_def, gc_0 hW, Option.getD_some, Bool.and_self, cond_true, gm_O hW Bs_1, gm_3 hW Bs_1]
  exact k_puts (o := 4) (N := 16) (B := 20) (Or.inr ⟨rfl, rfl, rfl⟩) hW hC (fun j a1 a2 a3 a4 => hok j a1 a2 a3 a4) (fun e => by rw [QI_e, KX_lo (by decide)]; exact h1 e) (fun e f => by rw [QI_e, KX_lo (by decide)]; exact h2 e f) (fun e f g => by rw [QI_e, KX_lo (by decide)]; exact h3 e f g)
/-! run -/
def okN (p : Int32) : Bool := !icB .lt p (nI 1) && !icB .gt p (nI 100)
theorem okN_t {p : Int32} (h : okN p = true) : ∃ w, 1 ≤ w ∧ w ≤ 100 ∧ p = nI w := by
  unfold okN at h
  rw [Bool.and_eq_true, Bool.not_eq_true', Bool.not_eq_true'] at h
  obtain ⟨h1, h2⟩ := h
  have h1 : ¬ p < nI 1 := of_decide_eq_false h1
  have h2 : ¬ nI 100 < p := of_decide_eq_false h2
  rcases pk_ix p (n := 101) (by decide) with q | q | ⟨w, q, rfl⟩
  · exact absurd (Int32.lt_of_lt_of_le q (by decide)) h1
  · exact absurd (Int32.lt_of_lt_of_le (nI_lt (by decide) (by decide)) q) h2
  · refine ⟨w, ?_, by omega, rfl⟩
    by_cases e0 : w = 0
    · subst e0; exact absurd (by decide) h1
    · omega
theorem k_checkC {xs : Scr} {I : In2} {ρ : Rh} {Q : Post} {p : Int32} {t : Nat} (hW : Rw ρ) (h : if okN p = true then Q (.inl none) (I, ρ) else Q (.inr 2) (I, xR ρ)) : Ev xs 68 0 [.ref t, .int p] [] (I, ρ) Q := by
  have hle : icB .le p (nI 100) = !icB .gt p (nI 100) := by
    show decide (p ≤ nI 100) = !decide (nI 100 < p)
    rw [← decide_not, decide_eq_decide]; exact Int32.not_lt.symm
  apply w_X4_checkCycles_0
  rw [gNN hW, excM_def, hle]
  revert h; unfold okN
  cases icB .lt p (nI 1) <;> cases icB .gt p (nI 100) <;> simp
theorem k_run {xs : Scr} {I : In2} {ρ : Rh} {Q : Post} {z : Zt} {s : Nat} {zs : Nat → Zt} {tl : Nat × Zt} {p : Int32} (hW : Rw ρ) (hC : Cst I ρ z s zs tl)
    (hok : ∀ w cy, 1 ≤ w → w ≤ 100 → p = nI w → z 0 = nI cy → cy + w ≤ 10000 → KOk Q I ρ ((itC w z) 6 - z 6) (itC w z) (svN s) (svZ s zs z) tl) (h1 : okN p = false → Q (.inr 2) (I, xR ρ)) (h2 : ∀ w cy, w ≤ 100 → p = nI w → z 0 = nI cy → cy ≤ 10000 → ¬ cy + w ≤ 10000 → Q (.inr 3) (I, xR ρ)) :
    Ev xs 67 0 [.ref 0, .int p, .null] [] (I, ρ) Q := by
  obtain ⟨a, b, n, cy, g, -, ⟨hcy, -⟩, hcl, -⟩ := hC.1
  apply w_X4_run_0
  rw [gc_O hW, cond_true]
  refine k_checkC hW ?_
  cases hp : okN p
  · rw [if_neg (by decide), QV_e, KX_lo (by decide)]; exact h1 hp
  · obtain ⟨w, q1, q2, rfl⟩ := okN_t hp
    have rd0 : I 1 5 = nI cy := (g.2.2.cyc (k := 0) (by decide)).trans hcy
    rw [if_pos rfl, QV_v]
    simp only [gc_O hW, gR_some, mR_def, gc_0 hW, Option.getD_some, Bool.and_self, cond_true, gm_O hW Bs_1, mI_def, rd0, nI_add]
    rw [icB_le (by omega) (by decide)]
    by_cases hle : cy + w ≤ 10000
    · rw [decide_eq_true hle, cond_true]
      refine k_save hW hC fun I' ρ' hW' hρ' hC' hfr => ?_
      obtain ⟨a', b', n', cy', g', hE', hc', hcl', hT'⟩ := hC'.1
      have ecy : cy' = cy := by
        have := hc'.1.symm.trans hcy
        rw [nI_eqI (by omega) (by omega)] at this; exact this
      subst ecy
      have rd6 : I' 1 11 = z 6 := g'.2.2.cyc (k := 6) (by decide)
      simp only [QV_v, gc_O hW', gR_some, mR_def, gc_0 hW', Option.getD_some, Bool.and_self, cond_true, gm_O hW' Bs_1, mI_def, rd6]
      have := k_pass (xs := xs) (I := I') (Q := QV (fun μ3 => bif (gO μ3 0 3 && gR (mR μ3 0 0)) then (bif gO μ3 ((mR μ3 0 0).getD 0) 1 then (Q (.inl (some (.int (mI μ3 ((mR μ3 0 0).getD 0) 11 - z 6)))) μ3) else False) else False) (KX xs 67 55 [.ref 0, .int (nI w), .int (z 6)] Q)) hW' Bs_1 q2 g' hE' fun c2 a2 b2 g2 e2 => by
        have r6 : c2 0 11 = (itC w z) 6 := g2.2.2.cyc (k := 6) (by decide)
        simp only [QV_v, gc_O hW', gR_some, mR_def, gc_0 hW', Option.getD_some, Bool.and_self, cond_true, gm_O hW' Bs_1, mI_def, pc_at0, r6]
        have hI : Inv z a' b' n' := ⟨g'.1, hE'⟩
        refine hok w cy' q1 q2 rfl hcy hle _ ρ' hW' hρ' (hC'.now ?_ fun a k h1 h2 => pc_ne (by omega)) fun a k ha => (pc_ne (by omega)).trans (hfr a k ha)
        exact Good.bk ⟨a2, b2, n', cy' + w, g2, e2, hc'.itC hI, hle, hT'.itC hI⟩
      rw [pc_self] at this
      exact this
    · rw [decide_eq_false hle, cond_false, gNN hW, cond_true, excM_def]
      exact h2 w cy q2 rfl hcy hcl hle
/-! flush, again -/
theorem k_flush {xs : Scr} {I : In2} {ρ : Rh} {Q : Post} {z : Zt} {s : Nat} {zs : Nat → Zt} {tl : Nat × Zt} (hW : Rw ρ) (hC : Cst I ρ z s zs tl) (hok : KOk Q I ρ (z 2 - z 3) (uz z 2 (z 3)) (svN s) (svZ s zs z) tl) : Ev xs 69 0 [.ref 0, .null] [] (I, ρ) Q := by
  apply w_X4_flush_0
  rw [gc_O hW, cond_true]
  refine k_save hW hC fun I' ρ' hW' hρ' hC' hfr => ?_
  have hg := hC'.1
  obtain ⟨a, b, n, cy, g, -⟩ := hC'.1
  have hb := g.1.bnd
  have rd : I' 1 8 = z 3 := g.2.2.cyc (k := 3) (by decide)
  simp only [QV_v, gc_O hW', gR_some, mR_def, gc_0 hW', Option.getD_some, Bool.and_self, cond_true, gm_O hW' Bs_1]
  have := (k_entries (xs := xs) (I := I') hW' Bs_1 (Q := QI (fun x3 μ2 => bif (gO μ2 0 3 && gR (mR μ2 0 0)) then (bif (gO μ2 0 3 && gR (mR μ2 0 0)) then (bif gO μ2 ((mR μ2 0 0).getD 0) 1 then (bif gO μ2 ((mR μ2 0 0).getD 0) 1 then ((fun u4 : Mem => Q (.inl (some (.int x3))) u4) (setI μ2 ((mR μ2 0 0).getD 0) 7 (mI μ2 ((mR μ2 0 0).getD 0) 8))) else False) else False) else False) else False) (KX xs 69 8 [.ref 0, .null] Q)) g).mpr (by
    rw [pc_self, ← pk_sub hb.1, ← g.1.h2, ← g.1.h3]
    simp only [QI_i, gc_O hW', gR_some, mR_def, gc_0 hW', Option.getD_some, Bool.and_self, cond_true, gm_O hW' Bs_1, mI_def, setI_def, rd]
    refine hok _ ρ' hW' hρ' (hC'.now (by rw [show up2 I' 1 7 (z 3) = up2 I' (1 + 0) 7 (z 3) from rfl, bk_up2]; exact hg.flush) fun a k h1 h2 => up2_ne (by omega)) fun a k ha => ?_
    rw [up2_ne (by omega)]; exact hfr a k ha)
  rw [pc_self] at this
  exact this
theorem Good.bg {c c' : In2} {z : Zt} {n : Nat} (h : Good c z) (h' : Big c' (bgF z) 0 0 n) : Good c' (bgF z) := by
  obtain ⟨a, b, n', cy, g, hE, hc, hcl, hT⟩ := h
  exact ⟨0, 0, n, cy, h', Ent_0, hc.bgF, hcl, hT.bgF⟩
theorem k_again {xs : Scr} {I : In2} {ρ : Rh} {Q : Post} {z : Zt} {s : Nat} {zs : Nat → Zt} {tl : Nat × Zt} (hW : Rw ρ) (hC : Cst I ρ z s zs tl) (hok : KOk Q I ρ (z 3) (bgF z) (svN s) (svZ s zs z) tl) : Ev xs 70 0 [.ref 0, .null] [] (I, ρ) Q := by
  apply w_X4_again_0
  rw [gc_O hW, cond_true]
  refine k_save hW hC fun I' ρ' hW' hρ' hC' hfr => ?_
  have hg := hC'.1
  obtain ⟨a, b, n, cy, g, -⟩ := hC'.1
  have rd : I' 1 8 = z 3 := g.2.2.cyc (k := 3) (by decide)
  simp only [QV_v, gc_O hW', gR_some, mR_def, gc_0 hW', Option.getD_some, Bool.and_self, cond_true, gm_O hW' Bs_1, mI_def, rd]
  have := k_begin (xs := xs) (I := I') (Q := QV (fun μ2 => Q (.inl (some (.int (z 3)))) μ2) (KX xs 70 17 [.ref 0, .int (z 3)] Q)) hW' Bs_1 g fun c2 g2 => hok _ ρ' hW' hρ' (hC'.now (Good.bk (hg.bg g2)) fun a k h1 h2 => pc_ne (by omega)) fun a k ha => (pc_ne (by omega)).trans (hfr a k ha)
  rw [pc_self] at this
  exact this
