/-! the best window, in the reference -/
theorem e_win4 {xs : Scr} {ρ : Rh} {Q : Post} {z : Zt} {a b n wh : Nat} (hW : Rw ρ) (h0 : Inv0 z a b n) (hT : Tl z) (hwh : wh < 3) : ∀ {d w : Nat} {I : In2} {v4 v5 v6 v7 : Value}, w + d = 8 → (w = 0 ∨ (I 245 17 = nI (bwF z w).2.1 ∧ I 245 18 = (bwF z w).2.2)) →
    (∀ I', (∀ a k, ¬ a = 247 → ¬ (a = 245 ∧ (k = 17 ∨ k = 18)) → I' a k = I a k) → Q (.inl (some (.int (bwV z wh)))) (pz I' z, ρ)) → Ev xs 179 4 [.ref 245, .int (nI wh), .int (nI (bwF z w).1), .int (nI (w + 1)), v4, v5, v6, v7] [] (pz I z, ρ) Q := by
  have n20 : ¬ nI 2 = nI 0 := not_nI (by decide) (by decide) (by decide)
  have n21 : ¬ nI 2 = nI 1 := not_nI (by decide) (by decide) (by decide)
  have n10' := n10
  intro d
  induction d with
  | zero =>
    intro w I v4 v5 v6 v7 hw hb h
    obtain rfl : w = 8 := hw
    have h := h I (fun _ _ _ _ => rfl)
    obtain ⟨q1, q2⟩ : I 245 17 = nI (bwF z 8).2.1 ∧ I 245 18 = (bwF z 8).2.2 := by
      rcases hb with hb | hb
      · exact absurd hb (by decide)
      · exact hb
    have q1' : pz I z 245 17 = nI (bwF z 8).2.1 := q1
    have q2' : pz I z 245 18 = (bwF z 8).2.2 := q2
    apply w_X5_windowNow_4
    rw [icB_gt (by decide) (by decide), decide_eq_true (show 8 < 8 + 1 by decide), cond_true]
    have : wh = 0 ∨ wh = 1 ∨ wh = 2 := by omega
    rcases this with e | e | e <;> subst e <;> unfold bwV at h
    · simp only [icB_ne, not_true_eq_false, decide_false, cond_false]; exact h
    · simp only [icB_ne, n10', not_true_eq_false, not_false_eq_true, decide_true, decide_false, cond_true, cond_false, gz_O hW, mI_def, q1']; exact h
    · simp only [icB_ne, n20, n21, not_false_eq_true, decide_true, cond_true, gz_O hW, mI_def, q2']; exact h
  | succ d ih =>
    intro w I v4 v5 v6 v7 hw hb h
    have hw8 : ¬ 8 < w + 1 := by omega
    have hF := bwF_f (z := z) (w := w)
    have hle : wiN z (w + 1) ≤ 144 := goN_le
    have hwI := wi_Inv h0 (show 1 ≤ w + 1 by omega) (show w + 1 ≤ 8 by omega)
    have hTw : Tl (wiZ z (w + 1)) := hT.bgF.wu (by decide)
    have hgo : goN 144 (wiZ z (w + 1)) = wiN z (w + 1) := rfl
    have q17 : ∀ {x : Int32}, I 245 17 = x → pz (cpA I z 0) z 245 17 = x := fun h => by rw [show pz (cpA I z 0) z 245 17 = cpA I z 0 245 17 from rfl, cpA_ne (by decide)]; exact h
    have fin : ∀ (best' : Nat) (nn : Nat) (rr : Int32) v4 v5 v6 v7, bwF z (w + 1) = (best', nn, rr) → Ev xs 179 4 [.ref 245, .int (nI wh), .int (nI best'), .int (nI (w + 1 + 1)), v4, v5, v6, v7] [] (pz (up2 (up2 (cpA I z 0) 245 18 rr) 245 17 (nI nn)) z, ρ) Q := by
      intro best' nn rr v4 v5 v6 v7 hbw
      have := ih (w := w + 1) (I := up2 (up2 (cpA I z 0) 245 18 rr) 245 17 (nI nn)) (v4 := v4) (v5 := v5) (v6 := v6) (v7 := v7) (by omega) (Or.inr (by rw [hbw]; exact ⟨up2_at, by rw [up2_ne (by decide), up2_at]⟩)) fun I' hI' => h I' fun a k h1 h2 => by rw [hI' a k h1 h2, up2_ne (by omega), up2_ne (by omega), cpA_ne h1]
      rw [hbw] at this
      exact this
    apply w_X5_windowNow_4
    rw [icB_gt (by omega) (by decide), decide_eq_false hw8, cond_false]
    simp only [gz_O hW, gR_some, mR_def, gz_R0 hW, Option.getD_some, Bool.and_self, cond_true, gz_A hW (show 4 < 324 by decide), mI_def, idx_nI (show 4 < 2147483648 by decide), pz_at]
    rw [e_keep hW, QV_v, gz_O hW, cond_true, e_begin hW, QV_v]
    simp only [gz_O hW, gR_some, mR_def, gz_R0 hW, Option.getD_some, Bool.and_self, cond_true, gz_A hW (show 9 < 324 by decide), setI_def, idx_nI (show 9 < 2147483648 by decide), up2_pz]
    rw [show uz (bgF z) 9 (nI (w + 1)) = wiZ z (w + 1) from rfl, e_goOn hW hwI, QI_i, hgo]
    simp only [gz_O hW, gR_some, mR_def, gz_R0 hW, Option.getD_some, Bool.and_self, cond_true, gz_A hW (show 4 < 324 by decide), mI_def, idx_nI (show 4 < 2147483648 by decide), pz_at]
    rw [e_bring hW, QV_v, brF_eq hT (hTw.goZ hwI)]
    by_cases hw0 : w = 0
    · subst hw0
      have hb0 : (bwF z 0).1 = 0 := rfl
      have hbw : bwF z (0 + 1) = (0 + 1, wiN z (0 + 1), wiR z (0 + 1)) := by
        have e1 : (bwF z 0).2.1 = 1000000 := rfl
        rw [bwF, if_pos (by rw [e1]; omega)]
      simp only [hb0, icB_eq, n10', decide_true, decide_false, cond_true, cond_false, gz_O hW, setI_def, mI_def]
      rw [up2_pn (by decide), up2_pn (by decide), nI_add]
      exact fin _ _ _ _ _ _ _ hbw
    · have hbne : ¬ (bwF z w).1 = 0 := fun e => hw0 (hF.2.1.mp e)
      have hbI : ¬ nI (bwF z w).1 = nI 0 := not_nI (by omega) (by decide) hbne
      obtain ⟨q1, q2⟩ : I 245 17 = nI (bwF z w).2.1 ∧ I 245 18 = (bwF z w).2.2 := by
        rcases hb with hb | hb
        · exact absurd hb hw0
        · exact hb
      have q1' := q17 q1
      have q2' : pz (cpA I z 0) z 245 18 = (bwF z w).2.2 := by rw [show pz (cpA I z 0) z 245 18 = cpA I z 0 245 18 from rfl, cpA_ne (by decide)]; exact q2
      have r17 : ∀ {x : Int32}, up2 (pz (cpA I z 0) z) 245 18 x 245 17 = nI (bwF z w).2.1 := fun {x} => by rw [up2_ne (by decide)]; exact q1'
      by_cases hlt : wiN z (w + 1) < (bwF z w).2.1
      · have hnge : ¬ (bwF z w).2.1 ≤ wiN z (w + 1) := by omega
        have hbw : bwF z (w + 1) = (w + 1, wiN z (w + 1), wiR z (w + 1)) := by rw [bwF, if_pos hlt]
        have hge : icB .ge (nI (wiN z (w + 1))) (nI (bwF z w).2.1) = false := by rw [icB_ge (by omega) (by omega)]; exact decide_eq_false hnge
        simp only [icB_eq, hbI, n10', decide_true, decide_false, cond_true, cond_false, gz_O hW, setI_def, mI_def, q1', hge]
        rw [up2_pn (by decide), up2_pn (by decide), nI_add]
        exact fin _ _ _ _ _ _ _ hbw
      · have hbw : bwF z (w + 1) = ((bwF z w).1, (bwF z w).2.1, (bwF z w).2.2) := by rw [bwF, if_neg hlt]
        have hge : icB .ge (nI (wiN z (w + 1))) (nI (bwF z w).2.1) = true := by rw [icB_ge (by omega) (by omega)]; exact decide_eq_true (by omega)
        simp only [icB_eq, hbI, decide_true, decide_false, cond_true, cond_false, gz_O hW, setI_def, mI_def, q1', q2', hge, r17]
        rw [up2_pn (by decide), up2_pn (by decide), nI_add]
        exact fin _ _ _ _ _ _ _ hbw
theorem e_windowNow {xs : Scr} {I : In2} {ρ : Rh} {Q : Post} {z : Zt} {a b n wh : Nat} (hW : Rw ρ) (h0 : Inv0 z a b n) (hT : Tl z) (hwh : wh < 3) (h : ∀ I', (∀ a k, ¬ a = 247 → ¬ (a = 245 ∧ (k = 17 ∨ k = 18)) → I' a k = I a k) → Q (.inl (some (.int (bwV z wh)))) (pz I' z, ρ)) : Ev xs 179 0 [.ref 245, .int (nI wh), .null, .null, .null, .null, .null, .null] [] (pz I z, ρ) Q := by
  apply w_X5_windowNow_0
  exact e_win4 hW h0 hT hwh (d := 8) (w := 0) (by decide) (Or.inl rfl) h
theorem Rst.w {I I' : In2} {z : Zt} {s : Nat} {zs : Nat → Zt} {tl : Nat × Zt} (h : Rst I z s zs tl) (he : ∀ a k, ¬ a = 247 → ¬ (a = 245 ∧ (k = 17 ∨ k = 18)) → I' a k = I a k) : Rst (pz I' z) z s zs tl := by
  have h' : Rst I' z s zs tl := h.fr (by funext k; exact he _ _ (by decide) (by omega)) (he _ _ (by decide) (by decide)) (he _ _ (by decide) (by decide)) (fun k => he _ _ (by decide) (by omega)) (fun k _ => he _ _ (by decide) (by omega))
  exact h'.z
theorem e_bestWindow {xs : Scr} {I : In2} {ρ : Rh} {Q : Post} {z : Zt} {c : In2} {s : Nat} {zs : Nat → Zt} {tl : Nat × Zt} {p : Int32} (hW : Rw ρ) (hg : Good c z) (hR : Rst I z s zs tl)
    (hok : ∀ w, w < 3 → p = nI w → ROk Q I ρ (bwV z w) z s zs tl 0) (h1 : inB p 3 = false → ROk Q I ρ (nI 0) z s zs tl 1) : Ev xs 180 0 [.ref 245, .int p] [] (I, ρ) Q := by
  obtain ⟨a, b, n, hI⟩ := hg.inv
  have eI := (hR.t (t := nI 0)).eq
  apply w_X5_bestWindow_0
  simp only [gz_O hW, cond_true, setI_def]
  rw [e_within, QI_i, gt_lit (n := 3) (m := 2) rfl (by decide), inB_def, icB_eq_b]
  cases hp : inB p 3
  · rw [Bool.not_false, cond_true, gz_O hW, cond_true, e_fails hW, t_t, QI_i]; exact hR.same (h1 hp)
  · obtain ⟨w, hw, rfl⟩ := inB_t (by omega) hp
    rw [Bool.not_true, cond_false, gz_O hW, cond_true, ← eI]
    refine e_windowNow hW hI.1 hg.tl hw fun I' hI' => ?_
    rw [QI_i]
    exact hok w hw rfl _ (hR.t.w hI') (by rw [pz_ne (by decide), hI' _ _ (by decide) (by decide)]; exact up2_at) fun a k ha => by rw [pz_ne (by omega), hI' _ _ (by omega) (by omega)]; exact fr_t ha
