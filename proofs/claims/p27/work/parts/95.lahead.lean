/-! ahead: the windows -/
section Ahead2
variable {xs : Scr} {I0 I : In2} {ρ : Rh} {Q : Post} {z : Zt} {s : Nat} {zs : Nat → Zt} {tl : Nat × Zt} {B C a b n : Nat} {x : Int32}
/-- one window: to the end -/
theorem a_loopW {W : Nat} {best ls v v18 : Int32} {zw : Zt} (hW1 : 1 ≤ W) (hW8 : W ≤ 8) (hend : ∀ I ρ v20, AH I0 I ρ z s zs tl B C a b n → (∃ ak bk, LG (bl I C) (goZ 144 zw) ak bk n) → Ev xs 119 286 [.ref 0, .int x, .ref B, .ref (B + 1), .ref (B + 2), .ref (B + 3), .ref (B + 4), .ref (B + 5), .ref C, .ref (C + 1), .ref (C + 2), .ref (C + 3), .ref (C + 4), .ref (C + 5), .int best, .int ls, .int v, .int (nI W), .int v18, .int (nI (goN 144 zw)), .int v20] [] (I, ρ) Q) : ∀ {e k : Nat} {I : In2} {ρ : Rh} {ak bk : Nat} {zk : Zt} {v20 : Int32}, AH I0 I ρ z s zs tl B C a b n → LG (bl I C) zk ak bk n → Ent zk ak bk →
    (ak < n → far zk ak bk n ≤ e ∧ far zk ak bk n + k ≤ 144) → goN 144 zw = k + goN (144 - k) zk → goZ 144 zw = goZ (144 - k) zk → k ≤ 144 →
    Ev xs 119 133 [.ref 0, .int x, .ref B, .ref (B + 1), .ref (B + 2), .ref (B + 3), .ref (B + 4), .ref (B + 5), .ref C, .ref (C + 1), .ref (C + 2), .ref (C + 3), .ref (C + 4), .ref (C + 5), .int best, .int ls, .int v, .int (nI W), .int v18, .int (nI k), .int v20] [] (I, ρ) Q := by
  intro e
  induction e with
  | zero =>
    intro k I ρ ak bk zk v20 hA hG hE hun hgN hgZ hk
    have hb := hG.1.bnd
    have hak : ¬ ak < n := fun q => by have := far_pos ⟨hG.1, hE⟩ q; have := (hun q).1; omega
    have LC := hA.2.2.2.2.2.1
    have d1 := (cc hG (k := 1) (by decide)).trans hG.1.h1
    have d3 := (cc hG (k := 3) (by decide)).trans hG.1.h3
    have e0 : goN (144 - k) zk = 0 ∧ goZ (144 - k) zk = zk := by
      cases hf : 144 - k with
      | zero => exact ⟨rfl, rfl⟩
      | succ f =>
        refine ⟨?_, ?_⟩
        · show (if idx (zk 3) = idx (zk 1) then 0 else goN f (cyF zk) + 1) = 0
          rw [hG.1.i3, hG.1.i1, if_pos (by omega)]
        · show (if idx (zk 3) = idx (zk 1) then zk else goZ f (cyF zk)) = zk
          rw [hG.1.i3, hG.1.i1, if_pos (by omega)]
    rw [e0.1] at hgN
    rw [e0.2] at hgZ
    have hex := hend I ρ v20 hA ⟨ak, bk, by rw [hgZ]; exact hG⟩
    rw [hgN] at hex
    have hW0 : ¬ W = 0 := by omega
    apply w_L_ahead_133
    simp (disch := omega) only [gl_5 LC, cond_true, cond_false, mI_def, idx_nI, d1, d3, icB_lt, hak, decide_false, icB_ne, nI_eqI, hW0, not_false_eq_true, decide_true]
    exact hex
  | succ e ih =>
    intro k I ρ ak bk zk v20 hA hG hE hun hgN hgZ hk
    have hb := hG.1.bnd
    have LC := hA.2.2.2.2.2.1
    have d1 := (cc hG (k := 1) (by decide)).trans hG.1.h1
    have d3 := (cc hG (k := 3) (by decide)).trans hG.1.h3
    have hW0 : ¬ W = 0 := by omega
    by_cases hak : ak < n
    · have hp := far_pos ⟨hG.1, hE⟩ hak
      obtain ⟨u1, u2⟩ := hun hak
      apply w_L_ahead_133
      simp (disch := omega) only [gl_5 LC, cond_true, mI_def, idx_nI, d1, d3, icB_lt, hak, decide_true]
      apply w_L_ahead_156
      refine I_cycle LC hG hE fun I1 a1 b1 o hI1 hG1 hE1 ha1 h61 => ?_
      have hA1 := hA.up hI1
      rw [QI_i, icB_ne, decide_eq_true (not_nI (by omega) (by decide) hW0), cond_true, nI_add]
      apply w_L_ahead_243
      rw [icB_ne, decide_eq_true (not_nI (by omega) (by decide) hW0), cond_true]
      obtain ⟨f, hf144⟩ : ∃ f, 144 - k = f + 1 := ⟨143 - k, by omega⟩
      rw [hf144] at hgN hgZ
      have hg : goN (f + 1) zk = goN f (cyF zk) + 1 := by
        show (if idx (zk 3) = idx (zk 1) then 0 else goN f (cyF zk) + 1) = _
        rw [hG.1.i3, hG.1.i1, if_neg (by omega)]
      have hg2 : goZ (f + 1) zk = goZ f (cyF zk) := by
        show (if idx (zk 3) = idx (zk 1) then zk else goZ f (cyF zk)) = _
        rw [hG.1.i3, hG.1.i1, if_neg (by omega)]
      rw [hg] at hgN
      rw [hg2] at hgZ
      have hf : 144 - (k + 1) = f := by omega
      refine ih (zk := cyF zk) hA1 hG1 hE1 (fun q => ?_) (by rw [hf]; omega) (by rw [hf]; exact hgZ) (by omega)
      have hfd := (far_dec ⟨hG.1, hE⟩ hak ⟨hG1.1, hE1⟩).1
      exact ⟨by omega, by omega⟩
    · have e0 : goN (144 - k) zk = 0 ∧ goZ (144 - k) zk = zk := by
        cases hf : 144 - k with
        | zero => exact ⟨rfl, rfl⟩
        | succ f =>
          refine ⟨?_, ?_⟩
          · show (if idx (zk 3) = idx (zk 1) then 0 else goN f (cyF zk) + 1) = 0
            rw [hG.1.i3, hG.1.i1, if_pos (by omega)]
          · show (if idx (zk 3) = idx (zk 1) then zk else goZ f (cyF zk)) = zk
            rw [hG.1.i3, hG.1.i1, if_pos (by omega)]
      rw [e0.1] at hgN
      rw [e0.2] at hgZ
      have hex := hend I ρ v20 hA ⟨ak, bk, by rw [hgZ]; exact hG⟩
      rw [hgN] at hex
      apply w_L_ahead_133
      simp (disch := omega) only [gl_5 LC, cond_true, cond_false, mI_def, idx_nI, d1, d3, icB_lt, hak, decide_false, icB_ne, nI_eqI, hW0, not_false_eq_true, decide_true]
      exact hex
/-- what has been found before window w -/
def BI (z : Zt) (w : Nat) (best ls v : Int32) : Prop := (w = 1 ∧ ls = nI 1048576) ∨ (2 ≤ w ∧ best = nI (bwF z (w - 1)).1 ∧ ls = nI (bwF z (w - 1)).2.1 ∧ v = (bwF z (w - 1)).2.2)
theorem shp_C {C : Nat} {ρ : Rh} (hL : LB C ρ) : shp C = (6, 64) := hL.2.2 0 (by decide)
/-- the six copies -/
theorem a_copy {P : Mem → Prop} {Q1 : Post} (hA : AH I0 I ρ z s zs tl B C a b n) {X1 X2 X3 X4 X5 X6 : Nat → Mem → Prop}
    (h : ∀ I', AH I0 I' ρ z s zs tl B C a b n → LG (bl I' C) z a b n → P (I', ρ)) : Ev xs 116 0 [.ref C, .ref B, .null] [] (I, ρ) (QV (fun μ7 => Ev xs 116 0 [.ref (C + 1), .ref (B + 1), .null] [] μ7 (QV (fun μ8 => Ev xs 116 0 [.ref (C + 2), .ref (B + 2), .null] [] μ8 (QV (fun μ9 => Ev xs 116 0 [.ref (C + 3), .ref (B + 3), .null] [] μ9 (QV (fun μ10 => Ev xs 116 0 [.ref (C + 4), .ref (B + 4), .null] [] μ10 (QV (fun μ11 => Ev xs 116 0 [.ref (C + 5), .ref (B + 5), .null] [] μ11 (QV P X6)) X5)) X4)) X3)) X2)) X1) := by
  have hN := hA.2.1
  have LBm := hA.2.2.2.2.1
  have LC := hA.2.2.2.2.2.1
  have hBC := hA.2.2.2.2.2.2.1
  have hB := LBm.1
  refine l_same (n := 64) (m := 64) (by omega) (by omega) (shp_C LBm) (shp_C LC) (Nat.le_refl _) (by decide) (by omega) fun I1 h1 => ?_
  rw [QV_v]
  refine l_same (n := 40) (m := 40) (by omega) (by omega) (LBm.2.2 1 (by decide)) (LC.2.2 1 (by decide)) (Nat.le_refl _) (by decide) (by omega) fun I2 h2 => ?_
  rw [QV_v]
  refine l_same (n := 8) (m := 8) (by omega) (by omega) (LBm.2.2 2 (by decide)) (LC.2.2 2 (by decide)) (Nat.le_refl _) (by decide) (by omega) fun I3 h3 => ?_
  rw [QV_v]
  refine l_same (n := 16) (m := 16) (by omega) (by omega) (LBm.2.2 3 (by decide)) (LC.2.2 3 (by decide)) (Nat.le_refl _) (by decide) (by omega) fun I4 h4 => ?_
  rw [QV_v]
  refine l_same (n := 3) (m := 3) (by omega) (by omega) (LBm.2.2 4 (by decide)) (LC.2.2 4 (by decide)) (Nat.le_refl _) (by decide) (by omega) fun I5 h5 => ?_
  rw [QV_v]
  refine l_same (n := 9) (m := 9) (by omega) (by omega) (LBm.2.2 5 (by decide)) (LC.2.2 5 (by decide)) (Nat.le_refl _) (by decide) (by omega) fun I6 h6 => ?_
  rw [QV_v]
  have fr : ∀ c k, ¬ (C ≤ c ∧ c < C + 6) → I6 c k = I c k := fun c k hc => by
    rw [h6, if_neg (by omega), h5, if_neg (by omega), h4, if_neg (by omega), h3, if_neg (by omega), h2, if_neg (by omega), h1, if_neg (by omega)]
  have hA6 := hA.up fr
  refine h I6 hA6 (hA.2.2.2.2.2.2.2.1.extb fun o k ho hk => ?_)
  show I6 (C + o) k = I (B + o) k
  have : o = 0 ∨ o = 1 ∨ o = 2 ∨ o = 3 ∨ o = 4 ∨ o = 5 := by omega
  rcases this with rfl | rfl | rfl | rfl | rfl | rfl
  · have hk : k < 64 := hk
    rw [h6, if_neg (by omega), h5, if_neg (by omega), h4, if_neg (by omega), h3, if_neg (by omega), h2, if_neg (by omega), h1, if_pos (by omega)]; rfl
  · have hk : k < 40 := hk
    rw [h6, if_neg (by omega), h5, if_neg (by omega), h4, if_neg (by omega), h3, if_neg (by omega), h2, if_pos (by omega), h1, if_neg (by omega)]
  · have hk : k < 8 := hk
    rw [h6, if_neg (by omega), h5, if_neg (by omega), h4, if_neg (by omega), h3, if_pos (by omega), h2, if_neg (by omega), h1, if_neg (by omega)]
  · have hk : k < 16 := hk
    rw [h6, if_neg (by omega), h5, if_neg (by omega), h4, if_pos (by omega), h3, if_neg (by omega), h2, if_neg (by omega), h1, if_neg (by omega)]
  · have hk : k < 3 := hk
    rw [h6, if_neg (by omega), h5, if_pos (by omega), h4, if_neg (by omega), h3, if_neg (by omega), h2, if_neg (by omega), h1, if_neg (by omega)]
  · have hk : k < 9 := hk
    rw [h6, if_pos (by omega), h5, if_neg (by omega), h4, if_neg (by omega), h3, if_neg (by omega), h2, if_neg (by omega), h1, if_neg (by omega)]
theorem wi_le {z : Zt} {w : Nat} : wiN z w ≤ 144 := goN_le
theorem a_end {best ls v : Int32} {v18 v19 v20 : Value} (hQ : ∀ I ρ, AH I0 I ρ z s zs tl B C a b n → Q (.inl (some (.int (nI 1)))) (I, ρ)) (hA : AH I0 I ρ z s zs tl B C a b n) (e1 : bwV z 0 = best) (e2 : bwV z 1 = ls) (e3 : bwV z 2 = v) : Ev xs 119 47 [.ref 0, .int x, .ref B, .ref (B + 1), .ref (B + 2), .ref (B + 3), .ref (B + 4), .ref (B + 5), .ref C, .ref (C + 1), .ref (C + 2), .ref (C + 3), .ref (C + 4), .ref (C + 5), .int best, .int ls, .int v, .int (nI 9), v18, v19, v20] [] (I, ρ) Q := by
  apply w_L_ahead_47
  rw [icB_ge (by decide) (by decide), decide_eq_true (Nat.le_refl 9), cond_true, gc_O hA.1, cond_true]
  refine T_bestWindow hA.t (by decide) fun I1 ρ1 hT1 => ?_
  have hA1 := hA.tg hT1
  rw [QI_i, e1, icB_ne, decide_eq_false (fun q => q rfl), cond_false, gc_O hA1.1, cond_true]
  refine T_bestWindow hA1.t (by decide) fun I2 ρ2 hT2 => ?_
  have hA2 := hA1.tg hT2
  rw [QI_i, e2, icB_ne, decide_eq_false (fun q => q rfl), cond_false, gc_O hA2.1, cond_true]
  refine T_bestWindow hA2.t (by decide) fun I3 ρ3 hT3 => ?_
  have hA3 := hA2.tg hT3
  rw [QI_i, e3, icB_ne, decide_eq_false (fun q => q rfl), cond_false]
  exact hQ I3 ρ3 hA3
theorem bwF_S {z : Zt} {w : Nat} (h1 : 1 ≤ w) : bwF z w = if wiN z w < (bwF z (w - 1)).2.1 then (w, wiN z w, wiR z w) else bwF z (w - 1) := by
  obtain ⟨u, rfl⟩ : ∃ u, w = u + 1 := ⟨w - 1, by omega⟩
  rfl
theorem BI_yes {z : Zt} {w g : Nat} {v : Int32} (h1 : 1 ≤ w) (hg : g = wiN z w) (hv : v = wiR z w) (q : g < (bwF z (w - 1)).2.1) : BI z (w + 1) (nI w) (nI g) v := by
  have hbw := bwF_S (z := z) h1
  rw [hg] at q
  rw [if_pos q] at hbw
  refine Or.inr ⟨by omega, ?_, ?_, ?_⟩
  · rw [Nat.add_sub_cancel, hbw]
  · rw [Nat.add_sub_cancel, hbw, hg]
  · rw [Nat.add_sub_cancel, hbw, hv]
theorem BI_no {z : Zt} {w : Nat} {best ls v : Int32} (h1 : 1 ≤ w) (q : ¬ wiN z w < (bwF z (w - 1)).2.1) (e1 : best = nI (bwF z (w - 1)).1) (e2 : ls = nI (bwF z (w - 1)).2.1) (e3 : v = (bwF z (w - 1)).2.2) : BI z (w + 1) best ls v := by
  have hbw := bwF_S (z := z) h1
  rw [if_neg q] at hbw
  refine Or.inr ⟨by omega, ?_, ?_, ?_⟩
  · rw [Nat.add_sub_cancel, hbw]; exact e1
  · rw [Nat.add_sub_cancel, hbw]; exact e2
  · rw [Nat.add_sub_cancel, hbw]; exact e3
theorem bwF_0 {z : Zt} : (bwF z 0).2.1 = 1000000 := rfl
/-- behind one window -/
theorem a_286 {w g ak bk : Nat} {best ls v v18 v20 : Int32} {zg : Zt} (h1 : 1 ≤ w) (hw : w ≤ 8) (hB : BI z w best ls v) (hg : g = wiN z w) (hv : zg 4 - z 4 = wiR z w) (hg144 : g ≤ 144) (hA : AH I0 I ρ z s zs tl B C a b n) (hG : LG (bl I C) zg ak bk n)
    (next : ∀ best' ls' v' v18 v19 v20, BI z (w + 1) best' ls' v' → Ev xs 119 47 [.ref 0, .int x, .ref B, .ref (B + 1), .ref (B + 2), .ref (B + 3), .ref (B + 4), .ref (B + 5), .ref C, .ref (C + 1), .ref (C + 2), .ref (C + 3), .ref (C + 4), .ref (C + 5), .int best', .int ls', .int v', .int (nI (w + 1)), v18, v19, v20] [] (I, ρ) Q) : Ev xs 119 286 [.ref 0, .int x, .ref B, .ref (B + 1), .ref (B + 2), .ref (B + 3), .ref (B + 4), .ref (B + 5), .ref C, .ref (C + 1), .ref (C + 2), .ref (C + 3), .ref (C + 4), .ref (C + 5), .int best, .int ls, .int v, .int (nI w), .int v18, .int (nI g), .int v20] [] (I, ρ) Q := by
  have L9 := hA.2.2.2.2.2.1
  have LB9 := hA.2.2.2.2.1
  have q4 := cc hG (k := 4) (by decide)
  have m4 := hA.c (k := 4) (by decide)
  have hw0' : ¬ w = 0 := by omega
  apply w_L_ahead_286
  rw [icB_ne, decide_eq_true (not_nI (by omega) (by decide) hw0'), cond_true]
  rcases hB with ⟨e1, e2⟩ | ⟨e0, e1, e2, e3⟩
  · have hlt : g < 1048576 := by omega
    subst e2
    rw [icB_lt (by omega) (by decide), decide_eq_true hlt, cond_true]
    simp (disch := omega) only [cond_true, gl_5 L9, gl_5 LB9, mI_def, idx_nI, q4, m4, nI_add]
    refine next _ _ _ _ _ _ (BI_yes h1 hg hv ?_)
    rw [show w - 1 = 0 by omega, bwF_0]
    omega
  · have hf := bwF_f (z := z) (w := w - 1)
    subst e2
    rw [icB_lt (by omega) (by omega)]
    by_cases hlt : g < (bwF z (w - 1)).2.1
    · rw [decide_eq_true hlt, cond_true]
      simp (disch := omega) only [cond_true, gl_5 L9, gl_5 LB9, mI_def, idx_nI, q4, m4, nI_add]
      exact next _ _ _ _ _ _ (BI_yes h1 hg hv hlt)
    · rw [decide_eq_false hlt, cond_false, nI_add]
      exact next _ _ _ _ _ _ (BI_no h1 (by rw [← hg]; exact hlt) e1 rfl e3)
theorem up_bl {I : In2} {C w : Nat} : bl (up2 I (C + 4) 0 (nI w)) C = up2 (bl I C) 4 0 (nI w) := by
  funext o k
  show up2 I (C + 4) 0 (nI w) (C + o) k = up2 (bl I C) 4 0 (nI w) o k
  by_cases e : o = 4 ∧ k = 0
  · rw [e.1, e.2, up2_at, up2_at]
  · rw [up2_ne e, up2_ne (by omega)]; rfl
/-- one window -/
theorem a_117 {w : Nat} {best ls v : Int32} {v18 v19 v20 : Value} (h1 : 1 ≤ w) (hw : w ≤ 8) (hB : BI z w best ls v) (hA : AH I0 I ρ z s zs tl B C a b n) (hG : LG (bl I C) (wiZ z w) 0 0 n)
    (next : ∀ I ρ best' ls' v' v18 v19 v20, AH I0 I ρ z s zs tl B C a b n → BI z (w + 1) best' ls' v' → Ev xs 119 47 [.ref 0, .int x, .ref B, .ref (B + 1), .ref (B + 2), .ref (B + 3), .ref (B + 4), .ref (B + 5), .ref C, .ref (C + 1), .ref (C + 2), .ref (C + 3), .ref (C + 4), .ref (C + 5), .int best', .int ls', .int v', .int (nI (w + 1)), v18, v19, v20] [] (I, ρ) Q) : Ev xs 119 117 [.ref 0, .int x, .ref B, .ref (B + 1), .ref (B + 2), .ref (B + 3), .ref (B + 4), .ref (B + 5), .ref C, .ref (C + 1), .ref (C + 2), .ref (C + 3), .ref (C + 4), .ref (C + 5), .int best, .int ls, .int v, .int (nI w), v18, v19, v20] [] (I, ρ) Q := by
  have hnw : Inv (wiZ z w) 0 0 n := ⟨hG.1, Ent_0⟩
  have hf := far_144 hnw
  apply w_L_ahead_117
  rw [l_at (by decide) (by decide), QI_i]
  refine a_loopW h1 hw (zw := wiZ z w) (fun I9 ρ9 v20 hA9 hG9 => ?_) (e := far (wiZ z w) 0 0 n) (k := 0) (zk := wiZ z w) hA hG Ent_0 (fun _ => ⟨Nat.le_refl _, by omega⟩) (by rw [Nat.zero_add, Nat.sub_zero]) (by rw [Nat.sub_zero]) (Nat.zero_le _)
  obtain ⟨ak, bk, hG9⟩ := hG9
  exact a_286 h1 hw hB rfl rfl goN_le hA9 hG9 fun best' ls' v' v18 v19 v20 hB' => next I9 ρ9 best' ls' v' v18 v19 v20 hA9 hB'
theorem a_win {w : Nat} {best ls v : Int32} {v18 v19 v20 : Value} (h1 : 1 ≤ w) (hw : w ≤ 8) (hB : BI z w best ls v) (hA : AH I0 I ρ z s zs tl B C a b n)
    (next : ∀ I ρ best' ls' v' v18 v19 v20, AH I0 I ρ z s zs tl B C a b n → BI z (w + 1) best' ls' v' → Ev xs 119 47 [.ref 0, .int x, .ref B, .ref (B + 1), .ref (B + 2), .ref (B + 3), .ref (B + 4), .ref (B + 5), .ref C, .ref (C + 1), .ref (C + 2), .ref (C + 3), .ref (C + 4), .ref (C + 5), .int best', .int ls', .int v', .int (nI (w + 1)), v18, v19, v20] [] (I, ρ) Q) : Ev xs 119 47 [.ref 0, .int x, .ref B, .ref (B + 1), .ref (B + 2), .ref (B + 3), .ref (B + 4), .ref (B + 5), .ref C, .ref (C + 1), .ref (C + 2), .ref (C + 3), .ref (C + 4), .ref (C + 5), .int best, .int ls, .int v, .int (nI w), v18, v19, v20] [] (I, ρ) Q := by
  have hw9 : ¬ 9 ≤ w := by omega
  have hw0 : ¬ w ≤ 0 := by omega
  apply w_L_ahead_47
  rw [icB_ge (by omega) (by decide), decide_eq_false hw9, cond_false]
  refine a_copy (Q1 := Q) hA fun I6 hA6 hG6 => ?_
  have LC := hA6.2.2.2.2.2.1
  have hn7 := hG6.2.2.2.2
  rw [icB_le (by omega) (by decide), decide_eq_false hw0, cond_false, gl_4 LC (by decide), cond_true]
  show bif false then _ else _
  rw [cond_false, idx_nI (by decide), setI_def]
  have hset := hG6.set (j := 0) (w := w) (by decide) h1 (by rw [if_pos rfl]; exact hw)
  have hA7 : AH I0 (up2 I6 (C + 4) 0 (nI w)) ρ z s zs tl B C a b n := hA6.up fun c k hc => up2_ne (by omega)
  rw [← up_bl] at hset
  refine I_begin LC hset fun I8 hI8 hG8 => ?_
  have hA8 := hA7.up hI8
  have hz : bgF (uz z (9 + 0) (nI w)) = wiZ z w := bgF_uz9
  rw [hz] at hG8
  rw [QV_v]
  exact a_117 h1 hw hB hA8 hG8 next
theorem a_47 (hQ : ∀ I ρ, AH I0 I ρ z s zs tl B C a b n → Q (.inl (some (.int (nI 1)))) (I, ρ)) : ∀ {e w : Nat} {I : In2} {ρ : Rh} {best ls v : Int32} {v18 v19 v20 : Value}, AH I0 I ρ z s zs tl B C a b n → w + e = 9 → 1 ≤ w → BI z w best ls v → Ev xs 119 47 [.ref 0, .int x, .ref B, .ref (B + 1), .ref (B + 2), .ref (B + 3), .ref (B + 4), .ref (B + 5), .ref C, .ref (C + 1), .ref (C + 2), .ref (C + 3), .ref (C + 4), .ref (C + 5), .int best, .int ls, .int v, .int (nI w), v18, v19, v20] [] (I, ρ) Q := by
  intro e
  induction e with
  | zero =>
    intro w I ρ best ls v v18 v19 v20 hA hw h1 hB
    obtain rfl : w = 9 := hw
    rcases hB with ⟨h, _⟩ | ⟨_, e1, e2, e3⟩
    · exact absurd h (by decide)
    · rw [show 9 - 1 = 8 from rfl] at e1 e2 e3
      exact a_end hQ hA e1.symm e2.symm e3.symm
  | succ e ih =>
    intro w I ρ best ls v v18 v19 v20 hA hw h1 hBI
    exact a_win h1 (by omega) hBI hA fun I ρ best' ls' v' v18 v19 v20 hA' hB' => ih hA' (by omega) (by omega) hB'
/-- where the machine stands -/
theorem a_first {v18 v19 v20 : Value} (hA : AH I0 I ρ z s zs tl B C a b n) (hQ : ∀ I ρ, AH I0 I ρ z s zs tl B C a b n → Q (.inl (some (.int (nI 1)))) (I, ρ)) : Ev xs 119 47 [.ref 0, .int x, .ref B, .ref (B + 1), .ref (B + 2), .ref (B + 3), .ref (B + 4), .ref (B + 5), .ref C, .ref (C + 1), .ref (C + 2), .ref (C + 3), .ref (C + 4), .ref (C + 5), .int (nI 0), .int nM, .int (nI 0), .int (nI 0), v18, v19, v20] [] (I, ρ) Q := by
  apply w_L_ahead_47
  rw [icB_ge (by decide) (by decide), decide_eq_false (by decide), cond_false]
  refine a_copy (Q1 := Q) hA fun I6 hA6 hG6 => ?_
  rw [icB_le (by decide) (by decide), decide_eq_true (Nat.le_refl 0), cond_true, cond_true]
  have hE := hA6.2.2.2.2.2.2.2.2.1
  have hf := far_144 (z := z) ⟨hG6.1, hE⟩
  have hN := atF_lt (x := x) (n := 30) (by decide)
  apply w_L_ahead_117
  rw [l_at (by decide) (by decide), QI_i, nI_add]
  have e0 : nI 0 = nI (a - a) := by rw [Nat.sub_self]
  have go := a_loop0 (xs := xs) (Q := Q) (x := x) (v := nI 0) (N := 1 + atF x 30) (by omega) (by omega) (fun I ρ v18 v19 v20 hA => a_47 hQ (e := 8) hA rfl (Nat.le_refl 1) (Or.inl ⟨rfl, rfl⟩)) (e := 144) (k := 0) (ls := nM) hA6 hG6 hE (Nat.le_refl a) (by rw [← e0]; exact (Int32.add_zero _).symm) (fun _ => ⟨hf, hf, rfl, by rw [Nat.zero_add, Nat.sub_zero]; rfl⟩) (fun h1 h2 => absurd h2 h1) (by omega) (by decide)
  rw [← e0] at go
  exact go
end Ahead2
theorem l_ahead {xs : Scr} {I : In2} {ρ : Rh} {Q : Post} {z : Zt} {s : Nat} {zs : Nat → Zt} {tl : Nat × Zt} {B a b n : Nat} {x : Int32} (hW : Rw ρ) (hX : ρ.2.2.2 = 0) (hC : Cst I ρ z s zs tl) (hL : LB B ρ) (hG : LG (bl I B) z a b n) (hE : Ent z a b) (hl : ρ.2.2.1 + 6 ≤ 387) (hs : ∀ j, j < 6 → shp (ρ.2.2.1 + j) = shpT j)
    (h : ∀ I' ρ', Rw ρ' → ρ'.2.2.1 = ρ.2.2.1 + 6 → ρ'.2.2.2 = 0 → Cst I' ρ' z s zs tl → (∀ c k, 245 ≤ c → c < ρ.2.2.1 → I' c k = I c k) → Q (.inl (some (.int (nI 1)))) (I', ρ')) :
    Ev xs 119 0 [.ref 0, .int x, .ref B, .ref (B + 1), .ref (B + 2), .ref (B + 3), .ref (B + 4), .ref (B + 5), .null, .null, .null, .null, .null, .null, .null, .null, .null, .null, .null, .null, .null] [] (I, ρ) Q := by
  have hB := hL.1
  have hB6 := hL.2.1
  obtain ⟨N, hN⟩ : ∃ N, N = ρ.2.2.1 := ⟨_, rfl⟩
  rw [← hN] at hl hs hB6
  have em0 : mN (I, ρ) = N := hN.symm
  apply w_L_ahead_0
  rw [em0]
  obtain ⟨ρ1, g1⟩ : ∃ ρ1, ρ1 = nwR ρ := ⟨_, rfl⟩
  have n1 : ρ1.2.2.1 = N + 1 := by rw [g1, nwR_N, ← hN]
  have x1 : ρ1.2.2.2 = 0 := by rw [g1]; exact hX
  obtain ⟨ρ2, g2⟩ : ∃ ρ2, ρ2 = nwR ρ1 := ⟨_, rfl⟩
  have n2 : ρ2.2.2.1 = N + 2 := by rw [g2, nwR_N, n1]
  have x2 : ρ2.2.2.2 = 0 := by rw [g2]; exact x1
  obtain ⟨ρ3, g3⟩ : ∃ ρ3, ρ3 = nwR ρ2 := ⟨_, rfl⟩
  have n3 : ρ3.2.2.1 = N + 3 := by rw [g3, nwR_N, n2]
  have x3 : ρ3.2.2.2 = 0 := by rw [g3]; exact x2
  obtain ⟨ρ4, g4⟩ : ∃ ρ4, ρ4 = nwR ρ3 := ⟨_, rfl⟩
  have n4 : ρ4.2.2.1 = N + 4 := by rw [g4, nwR_N, n3]
  have x4 : ρ4.2.2.2 = 0 := by rw [g4]; exact x3
  obtain ⟨ρ5, g5⟩ : ∃ ρ5, ρ5 = nwR ρ4 := ⟨_, rfl⟩
  have n5 : ρ5.2.2.1 = N + 5 := by rw [g5, nwR_N, n4]
  have x5 : ρ5.2.2.2 = 0 := by rw [g5]; exact x4
  obtain ⟨ρ6, g6⟩ : ∃ ρ6, ρ6 = nwR ρ5 := ⟨_, rfl⟩
  have n6 : ρ6.2.2.1 = N + 6 := by rw [g6, nwR_N, n5]
  have x6 : ρ6.2.2.2 = 0 := by rw [g6]; exact x5
  have W6 : Rw ρ6 := by rw [g6, g5, g4, g3, g2, g1]; exact hW.nw.nw.nw.nw.nw.nw
  have r6 : ∀ j, ρ6.1 61 j = ρ.1 61 j := fun j => by
    rw [g6, nwR_r (by omega), g5, nwR_r (by omega), g4, nwR_r (by omega), g3, nwR_r (by omega), g2, nwR_r (by omega), g1, nwR_r (by omega)]
  obtain ⟨I6, hI6⟩ : ∃ I6, I6 = nwI (nwI (nwI (nwI (nwI (nwI I N) (N + 1)) (N + 2)) (N + 3)) (N + 4)) (N + 5) := ⟨_, rfl⟩
  have I6e : ∀ c k, c < N → I6 c k = I c k := fun c k hc => by
    rw [hI6, nwI_ne (by omega), nwI_ne (by omega), nwI_ne (by omega), nwI_ne (by omega), nwI_ne (by omega), nwI_ne (by omega)]
  have m1 : ∀ I : In2, mN (I, ρ1) = N + 1 := fun _ => n1
  have m2 : ∀ I : In2, mN (I, ρ2) = N + 2 := fun _ => n2
  have m3 : ∀ I : In2, mN (I, ρ3) = N + 3 := fun _ => n3
  have m4 : ∀ I : In2, mN (I, ρ4) = N + 4 := fun _ => n4
  have m5 : ∀ I : In2, mN (I, ρ5) = N + 5 := fun _ => n5
  rw [← em0, gnw (n := 64) hX (by omega) (by rw [← hN]; exact hs 0 (by decide)), cond_true, em0, newM_def, ← hN, ← g1]
  show bif _ then _ else _
  rw [gnw (n := 40) x1 (by omega) (by rw [n1]; exact hs 1 (by decide)), cond_true, m1, newM_def, n1, ← g2]
  show bif _ then _ else _
  rw [gnw (n := 8) x2 (by omega) (by rw [n2]; exact hs 2 (by decide)), cond_true, m2, newM_def, n2, ← g3]
  show bif _ then _ else _
  rw [gnw (n := 16) x3 (by omega) (by rw [n3]; exact hs 3 (by decide)), cond_true, m3, newM_def, n3, ← g4]
  show bif _ then _ else _
  rw [gnw (n := 3) x4 (by omega) (by rw [n4]; exact hs 4 (by decide)), cond_true, m4, newM_def, n4, ← g5]
  show bif _ then _ else _
  rw [gnw (n := 9) x5 (by omega) (by rw [n5]; exact hs 5 (by decide)), cond_true, m5, newM_def, n5, ← g6]
  show Ev xs 119 47 _ _ _ _
  rw [← hI6]
  have hA : AH I6 I6 ρ6 z s zs tl B N a b n := ⟨W6, n6, x6, hC.lo (fun c k hc => I6e c k (by omega)) r6, ⟨hB, by rw [n6]; omega, hL.2.2⟩, ⟨by omega, by rw [n6]; omega, hs⟩, hB6, hG.ext fun o k ho => I6e _ _ (by omega), hE, fun _ _ _ _ => rfl⟩
  refine a_first hA fun I' ρ' hA' => ?_
  obtain ⟨p1, p2, p3, p4, -, -, -, -, -, p10⟩ := hA'
  exact h I' ρ' p1 (by rw [p2, ← hN]) p3 p4 fun c k h1 h2 => (p10 c k h1 (by omega)).trans (I6e c k (by omega))
