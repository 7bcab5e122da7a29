/-! the law's turns -/
def Qe : Post := fun o μ => o = .inl (some (.int (nI 1))) ∧ mN μ = 387 ∧ mX μ = 0
/-- how many objects there are ahead of a turn -/
def nT (t : Nat) : Nat := 259 + 2 * t + 6 * (t / 5)
theorem nT_shp {t : Nat} (ht : t < 40) : shp (nT t) = (6, 8) ∧ shp (nT t + 1) = (6, 16) ∧ (t % 5 = 4 → ∀ j, j < 6 → shp (nT t + 2 + j) = shpT j) := by
  have : ∀ t : Fin 40, shp (nT t.1) = (6, 8) ∧ shp (nT t.1 + 1) = (6, 16) ∧ (t.1 % 5 = 4 → ∀ j : Fin 6, shp (nT t.1 + 2 + j.1) = shpT j.1) := by decide +kernel
  obtain ⟨h1, h2, h3⟩ := this ⟨t, ht⟩
  exact ⟨h1, h2, fun q j hj => h3 q ⟨j, hj⟩⟩
theorem nT_S {t : Nat} : nT (t + 1) = nT t + 2 + if t % 5 = 4 then 6 else 0 := by
  unfold nT; split <;> omega
theorem t5 {t : Nat} (ht : t < 40) : nI t - nI t / nI 5 * nI 5 = nI (t % 5) := by
  have : ∀ t : Fin 40, nI t.1 - nI t.1 / nI 5 * nI 5 = nI (t.1 % 5) := by decide
  exact this ⟨t, ht⟩
/-- ahead of a turn -/
def LTn (t : Nat) (I : In2) (ρ : Rh) : Prop := Rw ρ ∧ ρ.2.2.1 = nT t ∧ ρ.2.2.2 = 0 ∧ ∃ (z : Zt) (s : Nat) (zs : Nat → Zt) (tl : Nat × Zt) (a b n cy : Nat), Cst I ρ z s zs tl ∧ LG (bl I 245) z a b n ∧ Ent z a b ∧ z 0 = nI cy ∧ cy ≤ 20 * t ∧ (0 < t → 1 ≤ s)
theorem LB_245 {ρ : Rh} (h : 251 ≤ ρ.2.2.1) : LB 245 ρ := ⟨Nat.le_refl _, h, fun j hj => by
  have : ∀ j : Fin 6, shp (245 + j.1) = shpT j.1 := by decide +kernel
  exact this ⟨j, hj⟩⟩
theorem l_cell {xs : Scr} {μ : Mem} {Q : Post} {k : Nat} (hb : xs.1 ≤ 260) (hk : k < 100) (h : ∀ v, Q (.inl (some (.int v))) μ) : Ev xs 101 0 [.ref SCR, .int (nI k)] [] μ Q := by
  apply w_L_cell_0
  rw [show Nat.beq SCR SCR = true from rfl, cond_true, icB_ge (by omega) (by omega)]
  by_cases hc : xs.1 ≤ k
  · rw [decide_eq_true hc, cond_true]; exact h _
  · have := g_ix (i := k) (n := xs.1) (by omega) (by omega)
    rw [show Nat.beq SCR SCR = true from rfl] at this
    rw [decide_eq_false hc, cond_false, this, cond_true]; exact h _
theorem law_162 {xs : Scr} {I : In2} {ρ : Rh} {Q : Post} {t k : Nat} {x y : Int32} {v11 : Value} (ht : t < 40) (hk : k < 16) (h0k : t = 0 → k = 0) (hS : LTn t I ρ) (next : ∀ I' ρ' (v9 v10 v11 : Value), LTn (t + 1) I' ρ' → Ev xs 209 97 [.ref SCR, .ref 0, .ref 245, .ref 246, .ref 247, .ref 248, .ref 249, .ref 250, .int (nI (t + 1)), v9, v10, v11] [] (I', ρ') Q) :
    Ev xs 209 162 [.ref SCR, .ref 0, .ref 245, .ref 246, .ref 247, .ref 248, .ref 249, .ref 250, .int (nI t), .int x, .int y, v11] [.int (nI k)] (I, ρ) Q := by
  obtain ⟨hW, hN, hX, z, s, zs, tl, a, b, n, cy, hC, hG, hE, hz, hcy, hs⟩ := hS
  obtain ⟨s1, s2, s3⟩ := nT_shp ht
  have hS1 := nT_S (t := t)
  have hle : nT t + 2 + (if t % 5 = 4 then 6 else 0) ≤ 387 := by unfold nT; split <;> omega
  have h251 : 251 ≤ nT t := by unfold nT; omega
  have hL : LB 245 ρ := LB_245 (by omega)
  apply w_L_law_162
  refine l_act hk (fun I1 ρ1 z1 s1' zs1 tl1 a1 b1 n1 cy1 W1 e1 C1 G1 E1 q1 q2 q3 => ?_) hW hC hL hG hE hz (by omega)
  have N1 : ρ1.2.2.1 = nT t := by rw [e1]; exact hN
  have X1 : ρ1.2.2.2 = 0 := by rw [e1]; exact hX
  have hs1 : 1 ≤ s1' := q3 (by
    by_cases k0 : k = 0
    · rw [if_pos k0]; exact Nat.le_refl 1
    · rw [if_neg k0]; exact hs (by omega))
  rw [QI_i, show icB .eq (nI 1) (nI 0) = false by decide, cond_false]
  refine l_told (B := 245) W1 X1 C1 (LB_245 (by omega)) G1 E1 (by rw [N1]; omega) (by rw [N1]; exact s1) (by rw [N1]; exact s2) fun I2 ρ2 W2 N2 X2 C2 f2 => ?_
  rw [N1] at N2 f2
  have G2 : LG (bl I2 245) z1 a1 b1 n1 := G1.ext fun o j ho => f2 _ _ (by omega) (by omega)
  rw [QI_i, show icB .ne (nI 1) (nI 0) = true by decide, cond_true, show decide (¬ nI 5 = nI 0) = true by decide, cond_true, t5 ht]
  by_cases h4 : t % 5 = 4
  · rw [h4, show icB .ne (nI 4) (nI 4) = false by decide, cond_false]
    rw [if_pos h4] at hS1 hle
    refine l_ahead (B := 245) W2 X2 C2 (LB_245 (by omega)) G2 E1 (by rw [N2]; omega) (by rw [N2]; exact s3 h4) fun I3 ρ3 W3 N3 X3 C3 f3 => ?_
    rw [N2] at N3 f3
    rw [QI_i, show icB .ne (nI 1) (nI 0) = true by decide, cond_true, nI_add]
    exact next I3 ρ3 _ _ _ ⟨W3, by rw [N3, hS1], X3, z1, s1', zs1, tl1, a1, b1, n1, cy1, C3, G2.ext fun o j ho => f3 _ _ (by omega) (by omega), E1, q1, by omega, fun _ => hs1⟩
  · rw [if_neg h4] at hS1
    rw [icB_ne, decide_eq_true (not_nI (by omega) (by decide) h4), cond_true, nI_add]
    exact next I2 ρ2 _ _ _ ⟨W2, by rw [N2, hS1], X2, z1, s1', zs1, tl1, a1, b1, n1, cy1, C2, G2, E1, q1, by omega, fun _ => hs1⟩
theorem law_loop {xs : Scr} (hb : xs.1 ≤ 260) : ∀ {e t : Nat} {I : In2} {ρ : Rh} {v9 v10 v11 : Value}, t + e = 40 → LTn t I ρ → Ev xs 209 97 [.ref SCR, .ref 0, .ref 245, .ref 246, .ref 247, .ref 248, .ref 249, .ref 250, .int (nI t), v9, v10, v11] [] (I, ρ) Qe := by
  intro e
  induction e with
  | zero =>
    intro t I ρ v9 v10 v11 ht hS
    obtain rfl : t = 40 := ht
    obtain ⟨hW, hN, hX, z, s, zs, tl, a, b, n, cy, hC, hG, hE, hz, hcy, hs⟩ := hS
    have hs1 := hs (by decide)
    have hs6 : s ≤ 6 := hC.2.2.1
    apply w_L_law_97
    rw [icB_ge (by decide) (by decide), decide_eq_true (Nat.le_refl 40), cond_true, gc_O hW, cond_true]
    refine T_count (I0 := I) (ρ0 := ρ) (w := 11) ⟨hW, rfl, hC, fun _ _ _ => rfl⟩ (by decide) fun I' ρ' hT' => ?_
    have hc : cnV z (idx (z 3)) (idx (z 2)) (idx (z 1)) s 11 = nI s := rfl
    rw [QI_i, hc, icB_le (by omega) (by decide), decide_eq_false (by omega), cond_false]
    refine ⟨rfl, ?_, ?_⟩
    · show ρ'.2.2.1 = 387
      rw [hT'.2.1, hN]; rfl
    · show ρ'.2.2.2 = 0
      rw [hT'.2.1, hX]
  | succ e ih =>
    intro t I ρ v9 v10 v11 ht hS
    have t40 : ¬ 40 ≤ t := by omega
    have next : ∀ I' ρ' (v9 v10 v11 : Value), LTn (t + 1) I' ρ' → Ev xs 209 97 [.ref SCR, .ref 0, .ref 245, .ref 246, .ref 247, .ref 248, .ref 249, .ref 250, .int (nI (t + 1)), v9, v10, v11] [] (I', ρ') Qe := fun I' ρ' v9 v10 v11 h => ih (by omega) h
    apply w_L_law_97
    rw [icB_ge (by omega) (by decide), decide_eq_false t40, cond_false, pk_mul]
    refine l_cell hb (by omega) fun x => ?_
    rw [QI_i, nI_add]
    refine l_cell hb (by omega) fun y => ?_
    rw [QI_i]
    by_cases t0 : t = 0
    · rw [icB_ne, decide_eq_false (fun q => q (by rw [t0])), cond_false]
      exact law_162 (by omega) (by decide) (fun _ => rfl) hS next
    rw [icB_ne, decide_eq_true (not_nI (by omega) (by decide) t0), cond_true]
    by_cases t1 : t = 1
    · rw [icB_ne, decide_eq_false (fun q => q (by rw [t1])), cond_false]
      exact law_162 (by omega) (by decide) (fun q => absurd q t0) hS next
    rw [icB_ne, decide_eq_true (not_nI (by omega) (by decide) t1), cond_true, l_at (by decide) (by decide), QI_i]
    exact law_162 (by omega) (atF_lt (by decide)) (fun q => absurd q t0) hS next
