/-! the law's cycle -/
theorem LR_rtF {d d' : In2} {z : Zt} {a b n : Nat} (hI : Inv0 z a b n) (h : LR d z a b n) (hx : (pt z a 0 = nI 4 ∧ idx (pt z a 9) < 16) ∨ (¬ pt z a 0 = nI 4 ∧ idx (pt z a 1) < 8))
    (hc : ∀ o k, ¬ (o = 2 ∨ o = 3 ∨ (o = 0 ∧ k = 8 * a + 5) ∨ (o = 5 ∧ (k = 3 ∨ k = 6))) → d' o k = d o k) (h5 : d' 0 (8 * a + 5) = nI (idx (pt z a 5) - 1)) (h3 : d' 5 3 = nI (a + 1)) (h6 : d' 5 6 = z 6 + nI 1)
    (hr : ∀ k, k < 8 → VV (d' 2 k) ((rtF z a) (12 + k))) (hm : ∀ k, k < 16 → VV (d' 3 k) ((rtF z a) (20 + k))) : LR d' (rtF z a) (a + 1) b n := by
  obtain ⟨k1, k2, k3, k4, k5, k6⟩ := h
  have hbn := hI.bnd
  have ep : ∀ i f, f < 12 → ¬ (i = a ∧ f = 5) → pt (rtF z a) i f = pt z i f := fun i f hf hi => rtF_pt hf hi hx
  have ez : ∀ k, k < 12 → ¬ k = 3 → ¬ k = 6 → (rtF z a) k = z k := fun k hk e3 e6 => by
    unfold rtF
    rw [uz_ne e6, uz_ne e3, lay_lo (by omega)]
    split
    · rw [uz_ne (by omega)]
    · rw [uz_ne (by omega)]
  refine ⟨fun k hk => ?_, fun k hk => by rw [hc _ _ (by omega), ez _ (by omega) (by omega) (by omega)]; exact k2 k hk, hr, hm, fun j f hj hf => ?_, fun j h1 h2 => ?_⟩
  · by_cases e3 : k = 3
    · rw [e3]; exact h3.trans (by unfold rtF; rw [uz_ne (by decide), uz_at])
    · by_cases e6 : k = 6
      · rw [e6]; exact h6.trans (by unfold rtF; rw [uz_at])
      · rw [hc _ _ (by omega), ez k (by omega) e3 e6]; exact k1 k hk
  · by_cases hja : j = a ∧ f = 5
    · rw [hja.1, hja.2, h5]
      unfold rtF; rw [pt_uz (by decide), pt_uz (by decide), pt_le]
    · rw [hc _ _ (by omega), ep j f (by omega) hja]; exact k5 j f hj hf
  · have := k6 j (by omega) h2
    unfold Lrl at this ⊢
    dsimp only at this ⊢
    rw [hc _ _ (by omega), hc _ _ (by omega), hc _ _ (by omega), hc _ _ (by omega), hc _ _ (by omega), ep j 7 (by decide) (by omega), ep j 8 (by decide) (by omega), ep j 11 (by decide) (by omega), ep j 0 (by decide) (by omega), ep j 9 (by decide) (by omega), ep j 10 (by decide) (by omega)]
    exact this
theorem rtF_p {z : Zt} {a j f : Nat} (hf : f < 5) (hx : (pt z a 0 = nI 4 ∧ idx (pt z a 9) < 16) ∨ (¬ pt z a 0 = nI 4 ∧ idx (pt z a 1) < 8)) : pt (rtF z a) j f = pt z j f := rtF_pt (by omega) (by omega) hx
theorem rtF_6 {z : Zt} {a : Nat} : (rtF z a) 6 = z 6 + nI 1 := by unfold rtF; rw [uz_at]
theorem l_ret3 {xs : Scr} {I : In2} {ρ : Rh} {B : Nat} (hL : LB B ρ) {b n R : Nat} (hR4 : R ≤ 4) : ∀ {e o a : Nat} {z : Zt} {d : In2} {v7 v8 : Value} {Q : Post}, o + e = R → LG d z a b n → Ent z a b → z 11 = nI R →
    (∀ d' a' o' v8, LG d' (retL e z) a' b n → Ent (retL e z) a' b → o ≤ o' → a' = a + (o' - o) → (retL e z) 6 = z 6 + nI (o' - o) → Ev xs 114 146 [.ref B, .ref (B + 1), .ref (B + 2), .ref (B + 3), .ref (B + 4), .ref (B + 5), .int (nI o'), .int (nI a'), v8] [] (pl I B (d'), ρ) Q) → Ev xs 114 3 [.ref B, .ref (B + 1), .ref (B + 2), .ref (B + 3), .ref (B + 4), .ref (B + 5), .int (nI o), v7, v8] [] (pl I B d, ρ) Q := by
  intro e
  induction e with
  | zero =>
    intro o a z d v7 v8 Q ho hG hE h11 h
    obtain rfl : o = R := ho
    have hb := hG.1.bnd
    have hn7 := hG.2.2.2.2
    have c3 : d 5 3 = nI a := hG.n.1
    have c2 : d 5 2 = nI b := (hG.2.2.1.c (by decide)).trans hG.1.h2
    have s2 : d 4 2 = nI o := (hG.2.2.1.s (by decide)).trans h11
    have hnx := h d a o v8 hG hE (Nat.le_refl o) (by omega) (by show z 6 = z 6 + nI (o - o); rw [Nat.sub_self]; exact (Int32.add_zero _).symm)
    apply w_L_cycle_3
    by_cases hba : b ≤ a
    · simp (maxSteps := 1000000) (disch := omega) only [↓QI_i, ↓QV_v, ↓QA_a, ↓QF_f, ↓QD_d, ↓QL_l, ↓Bool.cond_eq_ite, ↓reduceIte, decide_eq_true_eq, Bool.not_eq_true', Bool.true_and, Bool.and_true, Bool.and_self, gR_some, Option.getD_some, mI_def, setI_def, mR_def, not_false_eq_true, not_true_eq_false, Bool.false_eq_true, idx_nI, nI_add, pk_mul, icB_lt, icB_gt, icB_le, icB_ge, icB_eq, icB_ne, bI_ne, nI_eqI, gl_0 hL, gl_1 hL, gl_2 hL, gl_3 hL, gl_4 hL, gl_5 hL, up2_pl, up2_pl0, pl_at, pl_at0, c3, c2, hba]
      exact hnx
    · simp (maxSteps := 1000000) (disch := omega) only [↓QI_i, ↓QV_v, ↓QA_a, ↓QF_f, ↓QD_d, ↓QL_l, ↓Bool.cond_eq_ite, ↓reduceIte, decide_eq_true_eq, Bool.not_eq_true', Bool.true_and, Bool.and_true, Bool.and_self, gR_some, Option.getD_some, mI_def, setI_def, mR_def, not_false_eq_true, not_true_eq_false, Bool.false_eq_true, idx_nI, nI_add, pk_mul, icB_lt, icB_gt, icB_le, icB_ge, icB_eq, icB_ne, bI_ne, nI_eqI, gl_0 hL, gl_1 hL, gl_2 hL, gl_3 hL, gl_4 hL, gl_5 hL, up2_pl, up2_pl0, pl_at, pl_at0, c3, c2, hba, s2, Nat.le_refl]
      exact hnx
  | succ e ih =>
    intro o a z d v7 v8 Q ho hG hE h11 h
    have hb := hG.1.bnd
    have hn7 := hG.2.2.2.2
    have hR := hG.2.2.1
    have c3 : d 5 3 = nI a := hG.n.1
    have c2 : d 5 2 = nI b := (hR.c (by decide)).trans hG.1.h2
    have s2 : d 4 2 = nI R := (hR.s (by decide)).trans h11
    have c6 : d 5 6 = z 6 := hR.c (by decide)
    have hoR : ¬ R ≤ o := by omega
    have hstep : retL (e + 1) z = if a < b ∧ pt z a 7 = nI 2 then retL e (rtF z a) else z := by
      rw [retL, hG.1.i3, hG.1.i2]
    rw [hstep] at h
    have stop : ¬ (a < b ∧ pt z a 7 = nI 2) → Ev xs 114 146 [.ref B, .ref (B + 1), .ref (B + 2), .ref (B + 3), .ref (B + 4), .ref (B + 5), .int (nI o), .int (nI a), v8] [] (pl I B d, ρ) Q := fun hn => by
      rw [if_neg hn] at h
      exact h d a o v8 hG hE (Nat.le_refl o) (by omega) (by rw [Nat.sub_self]; exact (Int32.add_zero _).symm)
    apply w_L_cycle_3
    by_cases hba : b ≤ a
    · simp (maxSteps := 1000000) (disch := omega) only [↓QI_i, ↓QV_v, ↓QA_a, ↓QF_f, ↓QD_d, ↓QL_l, ↓Bool.cond_eq_ite, ↓reduceIte, decide_eq_true_eq, Bool.not_eq_true', Bool.true_and, Bool.and_true, Bool.and_self, gR_some, Option.getD_some, mI_def, setI_def, mR_def, not_false_eq_true, not_true_eq_false, Bool.false_eq_true, idx_nI, nI_add, pk_mul, icB_lt, icB_gt, icB_le, icB_ge, icB_eq, icB_ne, bI_ne, nI_eqI, gl_0 hL, gl_1 hL, gl_2 hL, gl_3 hL, gl_4 hL, gl_5 hL, up2_pl, up2_pl0, pl_at, pl_at0, c3, c2, hba]
      exact stop (by omega)
    · have e7 : d 1 (5 * a) = pt z a 7 := hR.st (Nat.le_refl a) (by omega)
      by_cases hs : pt z a 7 = nI 2
      · rw [if_pos ⟨by omega, hs⟩] at h
        obtain ⟨hw, y, hy3, hy, hyk⟩ := hG.1.row (i := a) (by omega)
        have hI := Inv_rtF ⟨hG.1, hE⟩ (by omega) hs
        have hv := hR.val (Nat.le_refl a) (by omega) hs
        have f0 : d 0 (8 * a) = pt z a 0 := hR.row0 (by omega)
        have f1 : d 0 (8 * a + 1) = pt z a 1 := hR.row (by omega) (by decide)
        have f5 : d 0 (8 * a + 5) = nI y := (hR.row (by omega) (by decide)).trans hy
        -- behind the value
        have behind : ∀ d1 : In2, (∀ o k, ¬ (o = 2 ∨ o = 3) → d1 o k = d o k) → ((pt z a 0 = nI 4 ∧ idx (pt z a 9) < 16) ∨ (¬ pt z a 0 = nI 4 ∧ idx (pt z a 1) < 8)) → (∀ k, k < 8 → VV (d1 2 k) ((rtF z a) (12 + k))) → (∀ k, k < 16 → VV (d1 3 k) ((rtF z a) (20 + k))) →
            Ev xs 114 92 [.ref B, .ref (B + 1), .ref (B + 2), .ref (B + 3), .ref (B + 4), .ref (B + 5), .int (nI o), .int (nI a), v8] [] (pl I B (d1), ρ) Q := by
          intro d1 hd1 hx hr hm
          have g5 : d1 0 (8 * a + 5) = nI y := (hd1 _ _ (by omega)).trans f5
          have g3 : d1 5 3 = nI a := (hd1 _ _ (by omega)).trans c3
          have g6 : d1 5 6 = z 6 := (hd1 _ _ (by omega)).trans c6
          have last : ∀ d2 : In2, (∀ o k, ¬ (o = 0 ∧ k = 8 * a + 5) → d2 o k = d1 o k) → d2 0 (8 * a + 5) = nI (y - 1) → Ev xs 114 117 [.ref B, .ref (B + 1), .ref (B + 2), .ref (B + 3), .ref (B + 4), .ref (B + 5), .int (nI o), .int (nI a), v8] [] (pl I B (d2), ρ) Q := by
            intro d2 hd2 q5
            have q3 : d2 5 3 = nI a := (hd2 _ _ (by omega)).trans g3
            have q6 : d2 5 6 = z 6 := (hd2 _ _ (by omega)).trans g6
            apply w_L_cycle_117
            simp (maxSteps := 1000000) (disch := omega) only [↓QI_i, ↓QV_v, ↓QA_a, ↓QF_f, ↓QD_d, ↓QL_l, ↓Bool.cond_eq_ite, ↓reduceIte, decide_eq_true_eq, Bool.not_eq_true', Bool.true_and, Bool.and_true, Bool.and_self, gR_some, Option.getD_some, mI_def, setI_def, mR_def, not_false_eq_true, not_true_eq_false, Bool.false_eq_true, idx_nI, nI_add, pk_mul, icB_lt, icB_gt, icB_le, icB_ge, icB_eq, icB_ne, bI_ne, nI_eqI, gl_0 hL, gl_1 hL, gl_2 hL, gl_3 hL, gl_4 hL, gl_5 hL, up2_pl, up2_pl0, pl_at, pl_at0, q3, up2_ne, q6]
            refine ih (o := o + 1) (a := a + 1) (z := rtF z a) (by omega) ⟨hI.1, Rdy_rtF hG.2.1 (by omega) hx, ?_, hG.2.2.2.1.of fun j _ => ⟨rtF_p (by decide) hx, rtF_p (by decide) hx⟩, hn7⟩ hI.2 ?_ fun d' a' o' v8 z1 z2 z3 z5 z4 => ?_
            · refine LR_rtF hG.1 hR hx (fun o k hok => ?_) ?_ ?_ ?_ (fun k hk => ?_) (fun k hk => ?_)
              · rw [up2_ne (by omega), up2_ne (by omega), hd2 _ _ (by omega), hd1 _ _ (by omega)]
              · rw [up2_ne (by omega), up2_ne (by omega), q5, hy, idx_nI (by omega)]
              · rw [up2_ne (by omega), up2_at]
              · rw [up2_at]
              · rw [up2_ne (by omega), up2_ne (by omega), hd2 _ _ (by omega)]; exact hr k hk
              · rw [up2_ne (by omega), up2_ne (by omega), hd2 _ _ (by omega)]; exact hm k hk
            · rw [rtF_lo ⟨hG.1, hE⟩ (by omega) (by decide)]; exact h11
            · refine h d' a' o' v8 z1 z2 (by omega) (by omega) ?_
              rw [z4, rtF_6, Int32.add_assoc, nI_add, show 1 + (o' - (o + 1)) = o' - o by omega]
          apply w_L_cycle_92
          rcases y with _ | y
          · simp (maxSteps := 1000000) (disch := omega) only [↓QI_i, ↓QV_v, ↓QA_a, ↓QF_f, ↓QD_d, ↓QL_l, ↓Bool.cond_eq_ite, ↓reduceIte, decide_eq_true_eq, Bool.not_eq_true', Bool.true_and, Bool.and_true, Bool.and_self, gR_some, Option.getD_some, mI_def, setI_def, mR_def, not_false_eq_true, not_true_eq_false, Bool.false_eq_true, idx_nI, nI_add, pk_mul, icB_lt, icB_gt, icB_le, icB_ge, icB_eq, icB_ne, bI_ne, nI_eqI, gl_0 hL, gl_1 hL, gl_2 hL, gl_3 hL, gl_4 hL, gl_5 hL, up2_pl, up2_pl0, pl_at, pl_at0, g5, Nat.le_refl]
            exact last d1 (fun _ _ _ => rfl) g5
          · have hy0 : ¬ y + 1 ≤ 0 := by omega
            simp (maxSteps := 1000000) (disch := omega) only [↓QI_i, ↓QV_v, ↓QA_a, ↓QF_f, ↓QD_d, ↓QL_l, ↓Bool.cond_eq_ite, ↓reduceIte, decide_eq_true_eq, Bool.not_eq_true', Bool.true_and, Bool.and_true, Bool.and_self, gR_some, Option.getD_some, mI_def, setI_def, mR_def, not_false_eq_true, not_true_eq_false, Bool.false_eq_true, idx_nI, nI_add, pk_mul, icB_lt, icB_gt, icB_le, icB_ge, icB_eq, icB_ne, bI_ne, nI_eqI, gl_0 hL, gl_1 hL, gl_2 hL, gl_3 hL, gl_4 hL, gl_5 hL, up2_pl, up2_pl0, pl_at, pl_at0, g5, hy0, nI_sub1]
            exact last _ (fun o k hok => up2_ne hok) (up2_at)
        by_cases k4 : pt z a 0 = nI 4
        · obtain ⟨x, hx, hxe⟩ : ∃ x, x < 16 ∧ pt z a 9 = nI x := by
            rcases hE a (Nat.le_refl a) (by omega) with e | ⟨e, _⟩ | ⟨_, e⟩
            · rw [hs] at e; exact absurd e (not_nI (by decide) (by decide) (by decide))
            · rw [hs] at e; exact absurd e (not_nI (by decide) (by decide) (by decide))
            · exact e (Or.inr k4)
          have f2 : d 1 (5 * a + 2) = nI x := (hR.cell (Nat.le_refl a) (by omega) hs (Or.inr k4)).trans hxe
          have hxi : idx (pt z a 9) = x := by rw [hxe, idx_nI (by omega)]
          simp (maxSteps := 1000000) (disch := omega) only [↓QI_i, ↓QV_v, ↓QA_a, ↓QF_f, ↓QD_d, ↓QL_l, ↓Bool.cond_eq_ite, ↓reduceIte, decide_eq_true_eq, Bool.not_eq_true', Bool.true_and, Bool.and_true, Bool.and_self, gR_some, Option.getD_some, mI_def, setI_def, mR_def, not_false_eq_true, not_true_eq_false, Bool.false_eq_true, idx_nI, nI_add, pk_mul, icB_lt, icB_gt, icB_le, icB_ge, icB_eq, icB_ne, bI_ne, nI_eqI, gl_0 hL, gl_1 hL, gl_2 hL, gl_3 hL, gl_4 hL, gl_5 hL, up2_pl, up2_pl0, pl_at, pl_at0, c3, c2, hba, s2, hoR, e7, hs, f0, k4, f2]
          refine behind _ (fun o k hok => up2_ne (by omega)) (Or.inl ⟨k4, by omega⟩) (fun k hk => ?_) (fun k hk => ?_)
          · rw [rtF_rg (by omega), if_pos k4, uz_ne (by omega), up2_ne (by omega)]; exact hR.reg hk
          · rw [rtF_rg (by omega), if_pos k4, hxi]
            by_cases hkx : k = x
            · subst hkx; rw [up2_at, uz_at]; exact hv
            · rw [up2_ne (by omega), uz_ne (by omega)]; exact hR.mem hk
        · obtain ⟨x, hx, hxe⟩ := hw.tgt k4
          have hxi : idx (pt z a 1) = x := by rw [hxe, idx_nI (by omega)]
          simp (maxSteps := 1000000) (disch := omega) only [↓QI_i, ↓QV_v, ↓QA_a, ↓QF_f, ↓QD_d, ↓QL_l, ↓Bool.cond_eq_ite, ↓reduceIte, decide_eq_true_eq, Bool.not_eq_true', Bool.true_and, Bool.and_true, Bool.and_self, gR_some, Option.getD_some, mI_def, setI_def, mR_def, not_false_eq_true, not_true_eq_false, Bool.false_eq_true, idx_nI, nI_add, pk_mul, icB_lt, icB_gt, icB_le, icB_ge, icB_eq, icB_ne, bI_ne, nI_eqI, gl_0 hL, gl_1 hL, gl_2 hL, gl_3 hL, gl_4 hL, gl_5 hL, up2_pl, up2_pl0, pl_at, pl_at0, c3, c2, hba, s2, hoR, e7, hs, f0, k4, f1, hxe]
          refine behind _ (fun o k hok => up2_ne (by omega)) (Or.inr ⟨k4, by omega⟩) (fun k hk => ?_) (fun k hk => ?_)
          · rw [rtF_rg (by omega), if_neg k4, hxi]
            by_cases hkx : k = x
            · subst hkx; rw [up2_at, uz_at]; exact hv
            · rw [up2_ne (by omega), uz_ne (by omega)]; exact hR.reg hk
          · rw [rtF_rg (by omega), if_neg k4, uz_ne (by omega), up2_ne (by omega)]; exact hR.mem hk
      · simp (maxSteps := 1000000) (disch := omega) only [↓QI_i, ↓QV_v, ↓QA_a, ↓QF_f, ↓QD_d, ↓QL_l, ↓Bool.cond_eq_ite, ↓reduceIte, decide_eq_true_eq, Bool.not_eq_true', Bool.true_and, Bool.and_true, Bool.and_self, gR_some, Option.getD_some, mI_def, setI_def, mR_def, not_false_eq_true, not_true_eq_false, Bool.false_eq_true, idx_nI, nI_add, pk_mul, icB_lt, icB_gt, icB_le, icB_ge, icB_eq, icB_ne, bI_ne, nI_eqI, gl_0 hL, gl_1 hL, gl_2 hL, gl_3 hL, gl_4 hL, gl_5 hL, up2_pl, up2_pl0, pl_at, pl_at0, c3, c2, hba, s2, hoR, e7, hs]
        exact stop fun q => hs q.2
theorem l_work146 {xs : Scr} {I : In2} {ρ : Rh} {B : Nat} (hL : LB B ρ) {a b n : Nat} {v6 : Int32} : ∀ {e i : Nat} {z : Zt} {d : In2} {v8 : Value} {Q : Post}, LG d z a b n → Ent z a b → a ≤ i → i + e = b →
    (∀ d', LG d' (wkL a b e i z) a b n → Ent (wkL a b e i z) a b → Ev xs 114 217 [.ref B, .ref (B + 1), .ref (B + 2), .ref (B + 3), .ref (B + 4), .ref (B + 5), .int v6, .int (nI 0), .int (nI a)] [] (pl I B (d'), ρ) Q) → Ev xs 114 146 [.ref B, .ref (B + 1), .ref (B + 2), .ref (B + 3), .ref (B + 4), .ref (B + 5), .int v6, .int (nI i), v8] [] (pl I B d, ρ) Q := by
  intro e
  induction e with
  | zero =>
    intro i z d v8 Q hG hE ha hi h
    obtain rfl : i = b := hi
    have hb := hG.1.bnd
    have c3 : d 5 3 = nI a := hG.n.1
    have c2 : d 5 2 = nI i := (hG.2.2.1.c (by decide)).trans hG.1.h2
    apply w_L_cycle_146
    simp (maxSteps := 1000000) (disch := omega) only [↓QI_i, ↓QV_v, ↓QA_a, ↓QF_f, ↓QD_d, ↓QL_l, ↓Bool.cond_eq_ite, ↓reduceIte, decide_eq_true_eq, Bool.not_eq_true', Bool.true_and, Bool.and_true, Bool.and_self, gR_some, Option.getD_some, mI_def, setI_def, mR_def, not_false_eq_true, not_true_eq_false, Bool.false_eq_true, idx_nI, nI_add, pk_mul, icB_lt, icB_gt, icB_le, icB_ge, icB_eq, icB_ne, bI_ne, nI_eqI, gl_0 hL, gl_1 hL, gl_2 hL, gl_3 hL, gl_4 hL, gl_5 hL, up2_pl, up2_pl0, pl_at, pl_at0, c3, c2, Nat.le_refl]
    exact h d hG hE
  | succ e ih =>
    intro i z d v8 Q hG hE ha hi h
    have hb := hG.1.bnd
    have hn7 := hG.2.2.2.2
    have hR := hG.2.2.1
    have c2 : d 5 2 = nI b := (hR.c (by decide)).trans hG.1.h2
    have hki : ¬ b ≤ i := by omega
    have e7 : d 1 (5 * i) = pt z i 7 := hR.st ha (by omega)
    have hI : Inv (wkS z a b i) a b n := Inv_wkS ⟨hG.1, hE⟩ ha (by omega)
    have hnx : ∀ d', LG d' (wkS z a b i) a b n → Ev xs 114 146 [.ref B, .ref (B + 1), .ref (B + 2), .ref (B + 3), .ref (B + 4), .ref (B + 5), .int v6, .int (nI (i + 1)), v8] [] (pl I B (d'), ρ) Q := fun d' g => ih (i := i + 1) g hI.2 (by omega) (by omega) h
    have hwk : wkS z a b i = if pt z i 7 = nI 1 then (if pt z i 8 = nI 1 then fnF (lay z i 8 (nI 0)) a b i else lay z i 8 (pt z i 8 - nI 1)) else z := rfl
    apply w_L_cycle_146
    by_cases k7 : pt z i 7 = nI 1
    · obtain ⟨x, hx1, hx3, hxe⟩ := (hE i ha (by omega)).nz k7
      have e8 : d 1 (5 * i + 1) = nI x := (hR.left ha (by omega) k7).trans hxe
      rw [if_pos k7] at hwk
      have hRd : ∀ v, LR (up2 d 1 (5 * i + 1) v) (lay z i 8 v) a b n := fun v => by
        refine LR.chg (i := i) hR (fun o k ho => by rw [up2_ne (by omega)]) (fun k hk => by rw [up2_ne (by omega)]) (fun k hk => by rw [up2_ne (by omega)]) (fun k hk => by rw [lay_lo hk]) (fun j f hj hf => by rw [pt_lj ⟨hj, by decide, hf⟩]) (fun hin f hf => ?_) (fun _ _ => ?_)
        · rw [up2_ne (by omega), pt_ln ⟨by omega, by decide, by omega⟩]; exact hR.row hin hf
        · unfold Lrl
          dsimp only
          simp (disch := omega) only [pt_ln, pt_le, Nat.add_zero, up2_ne, up2_at]
          exact ⟨e7, fun _ => by trivial, fun e => by rw [k7] at e; exact absurd e (not_nI (by decide) (by decide) (by decide))⟩
      have hLp : ∀ v, Lp (lay z i 8 v) n := fun v => hG.2.2.2.1.of fun j _ => ⟨pt_ln (by decide), pt_ln (by decide)⟩
      have hI0 : ∀ v, Inv0 (lay z i 8 v) a b n := fun v => hG.1.wl (by decide) (fun h => by cases h) (fun h => by cases h)
      obtain ⟨x, rfl⟩ : ∃ y, x = y + 1 := ⟨x - 1, by omega⟩
      have hsub : nI (x + 1) - nI 1 = nI x := nI_sub1 x
      by_cases x1 : x = 0
      · subst x1
        rw [if_pos hxe] at hwk
        simp (maxSteps := 1000000) (disch := omega) only [↓QI_i, ↓QV_v, ↓QA_a, ↓QF_f, ↓QD_d, ↓QL_l, ↓Bool.cond_eq_ite, ↓reduceIte, decide_eq_true_eq, Bool.not_eq_true', Bool.true_and, Bool.and_true, Bool.and_self, gR_some, Option.getD_some, mI_def, setI_def, mR_def, not_false_eq_true, not_true_eq_false, Bool.false_eq_true, idx_nI, nI_add, pk_mul, icB_lt, icB_gt, icB_le, icB_ge, icB_eq, icB_ne, bI_ne, nI_eqI, gl_0 hL, gl_1 hL, gl_2 hL, gl_3 hL, gl_4 hL, gl_5 hL, up2_pl, up2_pl0, pl_at, pl_at0, c2, hki, e7, k7, e8, hsub, up2_at]
        refine l_done hL (z := lay z i 8 (nI 0)) ⟨hI0 _, Rdy.wl hG.2.1 (by decide), hRd _, hLp _, hn7⟩ (hE.x.wl (by decide)) ha (by omega) (by rw [pt_ln (by decide)]; exact k7) fun d' hd' => ?_
        rw [QV_v]
        exact hnx d' (by rw [hwk]; exact hd')
      · rw [if_neg (by rw [hxe]; exact not_nI (by omega) (by decide) (by omega)), hxe, hsub] at hwk
        simp (maxSteps := 1000000) (disch := omega) only [↓QI_i, ↓QV_v, ↓QA_a, ↓QF_f, ↓QD_d, ↓QL_l, ↓Bool.cond_eq_ite, ↓reduceIte, decide_eq_true_eq, Bool.not_eq_true', Bool.true_and, Bool.and_true, Bool.and_self, gR_some, Option.getD_some, mI_def, setI_def, mR_def, not_false_eq_true, not_true_eq_false, Bool.false_eq_true, idx_nI, nI_add, pk_mul, icB_lt, icB_gt, icB_le, icB_ge, icB_eq, icB_ne, bI_ne, nI_eqI, gl_0 hL, gl_1 hL, gl_2 hL, gl_3 hL, gl_4 hL, gl_5 hL, up2_pl, up2_pl0, pl_at, pl_at0, c2, hki, e7, k7, e8, hsub, up2_at, x1]
        exact hnx _ (by rw [hwk]; exact ⟨hI0 _, Rdy.wl hG.2.1 (by decide), hRd _, hLp _, hn7⟩)
    · rw [if_neg k7] at hwk
      simp (maxSteps := 1000000) (disch := omega) only [↓QI_i, ↓QV_v, ↓QA_a, ↓QF_f, ↓QD_d, ↓QL_l, ↓Bool.cond_eq_ite, ↓reduceIte, decide_eq_true_eq, Bool.not_eq_true', Bool.true_and, Bool.and_true, Bool.and_self, gR_some, Option.getD_some, mI_def, setI_def, mR_def, not_false_eq_true, not_true_eq_false, Bool.false_eq_true, idx_nI, nI_add, pk_mul, icB_lt, icB_gt, icB_le, icB_ge, icB_eq, icB_ne, bI_ne, nI_eqI, gl_0 hL, gl_1 hL, gl_2 hL, gl_3 hL, gl_4 hL, gl_5 hL, up2_pl, up2_pl0, pl_at, pl_at0, c2, hki, e7, k7]
      exact hnx d (by rw [hwk]; exact hG)
theorem LR_stF {d d' : In2} {z : Zt} {a b n i : Nat} (hR : LR d z a b n) (hd : ∀ o k, ¬ (o = 1 ∧ (k = 5 * i ∨ k = 5 * i + 1)) → d' o k = d o k) (h0 : d' 1 (5 * i) = nI 1) (h1 : d' 1 (5 * i + 1) = nds (pt z i 0)) : LR d' (stF z i) a b n := by
  unfold stF
  refine LR.chg (i := i) hR (fun o k ho => hd _ _ (by omega)) (fun k hk => hd _ _ (by omega)) (fun k hk => hd _ _ (by omega)) (fun k hk => by rw [lay_lo hk, lay_lo hk]) (fun j f hj hf => by rw [pt_lj ⟨hj, by decide, hf⟩, pt_lj ⟨hj, by decide, hf⟩]) (fun hin f hf => ?_) (fun _ _ => ?_)
  · rw [hd _ _ (by omega), pt_ln ⟨by omega, by decide, by omega⟩, pt_ln ⟨by omega, by decide, by omega⟩]; exact hR.row hin hf
  · unfold Lrl
    dsimp only
    simp (disch := omega) only [pt_ln, pt_le, Nat.add_zero, h0, h1]
    exact ⟨by trivial, fun _ => by trivial, fun e => absurd e (not_nI (by decide) (by decide) (by decide))⟩
theorem rsn_nI {z : Zt} {a i : Nat} : ∃ y, y ≤ 4 ∧ rsn z a i = nI y := by
  unfold rsn
  split
  · split
    · exact ⟨2, by decide, rfl⟩
    · split
      · exact ⟨3, by decide, rfl⟩
      · split
        · exact ⟨4, by decide, rfl⟩
        · exact ⟨0, by decide, rfl⟩
  · exact ⟨1, by decide, rfl⟩
theorem l_start217 {xs : Scr} {I : In2} {ρ : Rh} {B : Nat} (hL : LB B ρ) {a b n W : Nat} {v6 : Int32} (hW4 : W ≤ 4) : ∀ {e i w g : Nat} {z : Zt} {d : In2} {Q : Post}, LG d z a b n → Ent z a b → a ≤ i → i + e = b → g + w = W → z 10 = nI W →
    (∀ d' v7, LG d' (stL a e i w z) a b n → Ent (stL a e i w z) a b → Ev xs 114 308 [.ref B, .ref (B + 1), .ref (B + 2), .ref (B + 3), .ref (B + 4), .ref (B + 5), .int v6, .int v7, .int (nI 0)] [] (pl I B (d'), ρ) Q) → Ev xs 114 217 [.ref B, .ref (B + 1), .ref (B + 2), .ref (B + 3), .ref (B + 4), .ref (B + 5), .int v6, .int (nI g), .int (nI i)] [] (pl I B d, ρ) Q := by
  intro e
  induction e with
  | zero =>
    intro i w g z d Q hG hE ha hi hw h10 h
    obtain rfl : i = b := hi
    have hb := hG.1.bnd
    have c2 : d 5 2 = nI i := (hG.2.2.1.c (by decide)).trans hG.1.h2
    rw [stL_n] at h
    apply w_L_cycle_217
    simp (maxSteps := 1000000) (disch := omega) only [↓QI_i, ↓QV_v, ↓QA_a, ↓QF_f, ↓QD_d, ↓QL_l, ↓Bool.cond_eq_ite, ↓reduceIte, decide_eq_true_eq, Bool.not_eq_true', Bool.true_and, Bool.and_true, Bool.and_self, gR_some, Option.getD_some, mI_def, setI_def, mR_def, not_false_eq_true, not_true_eq_false, Bool.false_eq_true, idx_nI, nI_add, pk_mul, icB_lt, icB_gt, icB_le, icB_ge, icB_eq, icB_ne, bI_ne, nI_eqI, gl_0 hL, gl_1 hL, gl_2 hL, gl_3 hL, gl_4 hL, gl_5 hL, up2_pl, up2_pl0, pl_at, pl_at0, c2, Nat.le_refl]
    exact h d _ hG hE
  | succ e ih =>
    intro i w g z d Q hG hE ha hi hw h10 h
    have hb := hG.1.bnd
    have hn7 := hG.2.2.2.2
    have hR := hG.2.2.1
    have c2 : d 5 2 = nI b := (hR.c (by decide)).trans hG.1.h2
    have s1 : d 4 1 = nI W := (hR.s (by decide)).trans h10
    have hki : ¬ b ≤ i := by omega
    apply w_L_cycle_217
    rcases w with _ | w
    · obtain rfl : g = W := hw
      rw [stL_0] at h
      simp (maxSteps := 1000000) (disch := omega) only [↓QI_i, ↓QV_v, ↓QA_a, ↓QF_f, ↓QD_d, ↓QL_l, ↓Bool.cond_eq_ite, ↓reduceIte, decide_eq_true_eq, Bool.not_eq_true', Bool.true_and, Bool.and_true, Bool.and_self, gR_some, Option.getD_some, mI_def, setI_def, mR_def, not_false_eq_true, not_true_eq_false, Bool.false_eq_true, idx_nI, nI_add, pk_mul, icB_lt, icB_gt, icB_le, icB_ge, icB_eq, icB_ne, bI_ne, nI_eqI, gl_0 hL, gl_1 hL, gl_2 hL, gl_3 hL, gl_4 hL, gl_5 hL, up2_pl, up2_pl0, pl_at, pl_at0, c2, hki, s1, Nat.le_refl]
      exact h d _ hG hE
    · have hgW : ¬ W ≤ g := by omega
      obtain ⟨y, hy4, hye⟩ := rsn_nI (z := z) (a := a) (i := i)
      rw [stL_s] at h
      simp (maxSteps := 1000000) (disch := omega) only [↓QI_i, ↓QV_v, ↓QA_a, ↓QF_f, ↓QD_d, ↓QL_l, ↓Bool.cond_eq_ite, ↓reduceIte, decide_eq_true_eq, Bool.not_eq_true', Bool.true_and, Bool.and_true, Bool.and_self, gR_some, Option.getD_some, mI_def, setI_def, mR_def, not_false_eq_true, not_true_eq_false, Bool.false_eq_true, idx_nI, nI_add, pk_mul, icB_lt, icB_gt, icB_le, icB_ge, icB_eq, icB_ne, bI_ne, nI_eqI, gl_0 hL, gl_1 hL, gl_2 hL, gl_3 hL, gl_4 hL, gl_5 hL, up2_pl, up2_pl0, pl_at, pl_at0, c2, hki, s1, hgW, l_why hL hG ha (show i < b by omega), hye]
      by_cases y0 : y = 0
      · subst y0
        rw [if_pos hye] at h
        have f0 : d 0 (8 * i) = pt z i 0 := hR.row0 (by omega)
        have hI := Inv_stF (i := i) ⟨hG.1, hE⟩
        have go : ∀ d', (∀ o k, ¬ (o = 1 ∧ (k = 5 * i ∨ k = 5 * i + 1)) → d' o k = d o k) → d' 1 (5 * i) = nI 1 → d' 1 (5 * i + 1) = nds (pt z i 0) → Ev xs 114 217 [.ref B, .ref (B + 1), .ref (B + 2), .ref (B + 3), .ref (B + 4), .ref (B + 5), .int v6, .int (nI (g + 1)), .int (nI (i + 1))] [] (pl I B (d'), ρ) Q := fun d' q1 q2 q3 =>
          ih (i := i + 1) (w := w) (g := g + 1) ⟨hI.1, Rdy_stF hG.2.1 hG.1 (by omega) hye, LR_stF hR q1 q2 q3, hG.2.2.2.1.of fun j _ => ⟨by unfold stF; rw [pt_ln (by decide), pt_ln (by decide)], by unfold stF; rw [pt_ln (by decide), pt_ln (by decide)]⟩, hn7⟩ hI.2 (by omega) (by omega) (by omega) (by unfold stF; rw [lay_lo (by decide), lay_lo (by decide)]; exact h10) h
        have ext : ∀ v, ∀ o k, ¬ (o = 1 ∧ (k = 5 * i ∨ k = 5 * i + 1)) → (up2 (up2 d 1 (5 * i) (nI 1)) 1 (5 * i + 1) v) o k = d o k := fun v o k hok => by rw [up2_ne (by omega), up2_ne (by omega)]
        by_cases k2 : pt z i 0 = nI 2
        · simp (maxSteps := 1000000) (disch := omega) only [↓QI_i, ↓QV_v, ↓QA_a, ↓QF_f, ↓QD_d, ↓QL_l, ↓Bool.cond_eq_ite, ↓reduceIte, decide_eq_true_eq, Bool.not_eq_true', Bool.true_and, Bool.and_true, Bool.and_self, gR_some, Option.getD_some, mI_def, setI_def, mR_def, not_false_eq_true, not_true_eq_false, Bool.false_eq_true, idx_nI, nI_add, pk_mul, icB_lt, icB_gt, icB_le, icB_ge, icB_eq, icB_ne, bI_ne, nI_eqI, gl_0 hL, gl_1 hL, gl_2 hL, gl_3 hL, gl_4 hL, gl_5 hL, up2_pl, up2_pl0, pl_at, pl_at0, Nat.le_refl, up2_ne, f0, k2]
          exact go _ (ext _) (by rw [up2_ne (by omega), up2_at]) (by rw [up2_at, k2]; rfl)
        · by_cases k3 : pt z i 0 = nI 3
          · simp (maxSteps := 1000000) (disch := omega) only [↓QI_i, ↓QV_v, ↓QA_a, ↓QF_f, ↓QD_d, ↓QL_l, ↓Bool.cond_eq_ite, ↓reduceIte, decide_eq_true_eq, Bool.not_eq_true', Bool.true_and, Bool.and_true, Bool.and_self, gR_some, Option.getD_some, mI_def, setI_def, mR_def, not_false_eq_true, not_true_eq_false, Bool.false_eq_true, idx_nI, nI_add, pk_mul, icB_lt, icB_gt, icB_le, icB_ge, icB_eq, icB_ne, bI_ne, nI_eqI, gl_0 hL, gl_1 hL, gl_2 hL, gl_3 hL, gl_4 hL, gl_5 hL, up2_pl, up2_pl0, pl_at, pl_at0, Nat.le_refl, up2_ne, f0, k2, k3, show ¬ 3 = 2 by decide]
            exact go _ (ext _) (by rw [up2_ne (by omega), up2_at]) (by rw [up2_at, k3]; rfl)
          · simp (maxSteps := 1000000) (disch := omega) only [↓QI_i, ↓QV_v, ↓QA_a, ↓QF_f, ↓QD_d, ↓QL_l, ↓Bool.cond_eq_ite, ↓reduceIte, decide_eq_true_eq, Bool.not_eq_true', Bool.true_and, Bool.and_true, Bool.and_self, gR_some, Option.getD_some, mI_def, setI_def, mR_def, not_false_eq_true, not_true_eq_false, Bool.false_eq_true, idx_nI, nI_add, pk_mul, icB_lt, icB_gt, icB_le, icB_ge, icB_eq, icB_ne, bI_ne, nI_eqI, gl_0 hL, gl_1 hL, gl_2 hL, gl_3 hL, gl_4 hL, gl_5 hL, up2_pl, up2_pl0, pl_at, pl_at0, Nat.le_refl, up2_ne, f0, k2, k3]
            exact go _ (ext _) (by rw [up2_ne (by omega), up2_at]) (by rw [up2_at]; unfold nds; rw [if_neg k2, if_neg k3])
      · have y0' : ¬ y ≤ 0 := by omega
        rw [if_neg (by rw [hye]; exact not_nI (by omega) (by decide) y0)] at h
        simp (maxSteps := 1000000) (disch := omega) only [y0']
        exact ih (i := i + 1) (w := w + 1) (g := g) hG hE (by omega) (by omega) hw h10 h
theorem LR_isF {d : In2} {z : Zt} {a b n : Nat} (hR : LR d z a b n) : LR (up2 (up2 d 1 (5 * b) (nI 0)) 5 2 (nI (b + 1))) (isF z b) a (b + 1) n := by
  unfold isF
  refine LR.cnt ?_ (by decide)
  obtain ⟨k1, k2, k3, k4, k5, k6⟩ := hR
  refine ⟨fun k hk => by rw [up2_ne (by omega), lay_lo (by omega)]; exact k1 k hk, fun k hk => by rw [up2_ne (by omega), lay_lo (by omega)]; exact k2 k hk, fun k hk => by rw [up2_ne (by omega), lay_lo (by omega)]; exact k3 k hk, fun k hk => by rw [up2_ne (by omega), lay_lo (by omega)]; exact k4 k hk, fun j f hj hf => by rw [up2_ne (by omega), pt_ln ⟨by omega, by decide, by omega⟩]; exact k5 j f hj hf, fun j h1 h2 => ?_⟩
  by_cases e : j = b
  · subst e
    unfold Lrl
    dsimp only
    simp (disch := omega) only [pt_le, Nat.add_zero, up2_at]
    exact ⟨by trivial, fun e => absurd e (not_nI (by decide) (by decide) (by decide)), fun e => absurd e (not_nI (by decide) (by decide) (by decide))⟩
  · have := k6 j h1 (by omega)
    unfold Lrl at this ⊢
    dsimp only at this ⊢
    rw [up2_ne (by omega), up2_ne (by omega), up2_ne (by omega), up2_ne (by omega), up2_ne (by omega), pt_lj ⟨e, by decide, by decide⟩, pt_lj ⟨e, by decide, by decide⟩, pt_lj ⟨e, by decide, by decide⟩, pt_lj ⟨e, by decide, by decide⟩, pt_lj ⟨e, by decide, by decide⟩, pt_lj ⟨e, by decide, by decide⟩]
    exact this
theorem l_issue308 {xs : Scr} {I : In2} {ρ : Rh} {B : Nat} (hL : LB B ρ) {a n w W : Nat} {v6 v7 : Int32} (hW4 : W ≤ 4) (hw8 : w ≤ 8) : ∀ {e b g : Nat} {z : Zt} {d : In2} {Q : Post}, LG d z a b n → Ent z a b → g + e = W → z 10 = nI W → z 9 = nI w →
    (∀ d' b' v8, LG d' (isL a n w e b z) a b' n → Ent (isL a n w e b z) a b' → Ev xs 114 367 [.ref B, .ref (B + 1), .ref (B + 2), .ref (B + 3), .ref (B + 4), .ref (B + 5), .int v6, .int v7, .int v8] [] (pl I B (d'), ρ) Q) → Ev xs 114 308 [.ref B, .ref (B + 1), .ref (B + 2), .ref (B + 3), .ref (B + 4), .ref (B + 5), .int v6, .int v7, .int (nI g)] [] (pl I B d, ρ) Q := by
  intro e
  induction e with
  | zero =>
    intro b g z d Q hG hE hg h10 h9 h
    obtain rfl : g = W := hg
    have s1 : d 4 1 = nI g := (hG.2.2.1.s (by decide)).trans h10
    apply w_L_cycle_308
    simp (maxSteps := 1000000) (disch := omega) only [↓QI_i, ↓QV_v, ↓QA_a, ↓QF_f, ↓QD_d, ↓QL_l, ↓Bool.cond_eq_ite, ↓reduceIte, decide_eq_true_eq, Bool.not_eq_true', Bool.true_and, Bool.and_true, Bool.and_self, gR_some, Option.getD_some, mI_def, setI_def, mR_def, not_false_eq_true, not_true_eq_false, Bool.false_eq_true, idx_nI, nI_add, pk_mul, icB_lt, icB_gt, icB_le, icB_ge, icB_eq, icB_ne, bI_ne, nI_eqI, gl_0 hL, gl_1 hL, gl_2 hL, gl_3 hL, gl_4 hL, gl_5 hL, up2_pl, up2_pl0, pl_at, pl_at0, s1, Nat.le_refl]
    exact h d b _ hG hE
  | succ e ih =>
    intro b g z d Q hG hE hg h10 h9 h
    have hb := hG.1.bnd
    have hn7 := hG.2.2.2.2
    have hR := hG.2.2.1
    have s1 : d 4 1 = nI W := (hR.s (by decide)).trans h10
    have s0 : d 4 0 = nI w := (hR.s (by decide)).trans h9
    have c1 : d 5 1 = nI n := (hR.c (by decide)).trans hG.1.h1
    have c2 : d 5 2 = nI b := (hR.c (by decide)).trans hG.1.h2
    have c3 : d 5 3 = nI a := hG.n.1
    have hgW : ¬ W ≤ g := by omega
    have hsub : nI b - nI a = nI (b - a) := pk_sub hb.1
    rw [isL_s] at h
    apply w_L_cycle_308
    by_cases h1 : w ≤ b - a
    · rw [if_neg (by omega)] at h
      simp (maxSteps := 1000000) (disch := omega) only [↓QI_i, ↓QV_v, ↓QA_a, ↓QF_f, ↓QD_d, ↓QL_l, ↓Bool.cond_eq_ite, ↓reduceIte, decide_eq_true_eq, Bool.not_eq_true', Bool.true_and, Bool.and_true, Bool.and_self, gR_some, Option.getD_some, mI_def, setI_def, mR_def, not_false_eq_true, not_true_eq_false, Bool.false_eq_true, idx_nI, nI_add, pk_mul, icB_lt, icB_gt, icB_le, icB_ge, icB_eq, icB_ne, bI_ne, nI_eqI, gl_0 hL, gl_1 hL, gl_2 hL, gl_3 hL, gl_4 hL, gl_5 hL, up2_pl, up2_pl0, pl_at, pl_at0, s1, hgW, c2, c3, hsub, s0, h1]
      exact h d b _ hG hE
    · by_cases h2 : n ≤ b
      · rw [if_neg (by omega)] at h
        simp (maxSteps := 1000000) (disch := omega) only [↓QI_i, ↓QV_v, ↓QA_a, ↓QF_f, ↓QD_d, ↓QL_l, ↓Bool.cond_eq_ite, ↓reduceIte, decide_eq_true_eq, Bool.not_eq_true', Bool.true_and, Bool.and_true, Bool.and_self, gR_some, Option.getD_some, mI_def, setI_def, mR_def, not_false_eq_true, not_true_eq_false, Bool.false_eq_true, idx_nI, nI_add, pk_mul, icB_lt, icB_gt, icB_le, icB_ge, icB_eq, icB_ne, bI_ne, nI_eqI, gl_0 hL, gl_1 hL, gl_2 hL, gl_3 hL, gl_4 hL, gl_5 hL, up2_pl, up2_pl0, pl_at, pl_at0, s1, hgW, c2, c3, hsub, s0, h1, c1, h2]
        exact h d b _ hG hE
      · rw [if_pos (by omega)] at h
        simp (maxSteps := 1000000) (disch := omega) only [↓QI_i, ↓QV_v, ↓QA_a, ↓QF_f, ↓QD_d, ↓QL_l, ↓Bool.cond_eq_ite, ↓reduceIte, decide_eq_true_eq, Bool.not_eq_true', Bool.true_and, Bool.and_true, Bool.and_self, gR_some, Option.getD_some, mI_def, setI_def, mR_def, not_false_eq_true, not_true_eq_false, Bool.false_eq_true, idx_nI, nI_add, pk_mul, icB_lt, icB_gt, icB_le, icB_ge, icB_eq, icB_ne, bI_ne, nI_eqI, gl_0 hL, gl_1 hL, gl_2 hL, gl_3 hL, gl_4 hL, gl_5 hL, up2_pl, up2_pl0, pl_at, pl_at0, s1, hgW, c2, c3, hsub, s0, h1, c1, h2, up2_ne]
        have hI := Inv_isF ⟨hG.1, hE⟩ (by omega)
        exact ih (b := b + 1) (g := g + 1) ⟨hI.1, Rdy_isF (n := n) hG.2.1, LR_isF hR, hG.2.2.2.1.of fun j _ => ⟨by unfold isF; rw [pt_uz (by decide), pt_ln (by decide)], by unfold isF; rw [pt_uz (by decide), pt_ln (by decide)]⟩, hn7⟩ hI.2 (by omega) (by unfold isF; rw [uz_ne (by decide), lay_lo (by decide)]; exact h10) (by unfold isF; rw [uz_ne (by decide), lay_lo (by decide)]; exact h9) h
theorem l_cycle {xs : Scr} {I : In2} {ρ : Rh} {Q : Post} {B : Nat} {d : In2} (hL : LB B ρ) {z : Zt} {a b n : Nat} (hG : LG d z a b n) (hE : Ent z a b) (h : ∀ d' a' b' o, LG d' (cyF z) a' b' n → Ent (cyF z) a' b' → a' = a + o → (cyF z) 6 = z 6 + nI o → Q (.inl (some (.int (nI o)))) (pl I B d', ρ)) : Ev xs 114 0 [.ref B, .ref (B + 1), .ref (B + 2), .ref (B + 3), .ref (B + 4), .ref (B + 5), .null, .null, .null] [] (pl I B d, ρ) Q := by
  have w11 := hG.1.w11
  have w10 := hG.1.w10
  have w9 := hG.1.w9
  apply w_L_cycle_0
  refine l_ret3 hL (R := idx (z 11)) (by omega) (e := idx (z 11)) (o := 0) (Nat.zero_add _) hG hE w11.1 fun d1 a1 o1 v8 hG1 hE1 _ ha1 h6 => ?_
  have hI1 : Inv (retL (idx (z 11)) z) a1 b n := ⟨hG1.1, hE1⟩
  have l9 : (retL (idx (z 11)) z) 9 = z 9 := retL_lo (by decide) ⟨hG.1, hE⟩
  have l10 : (retL (idx (z 11)) z) 10 = z 10 := retL_lo (by decide) ⟨hG.1, hE⟩
  have hb1 := hG1.1.bnd
  refine l_work146 hL (e := b - a1) hG1 hE1 (Nat.le_refl a1) (by omega) fun d2 hG2 hE2 => ?_
  have e2 : wkL a1 b (b - a1) a1 (retL (idx (z 11)) z) = cy2 (cy1 z) := by unfold cy2 cy1; rw [hG1.1.i3, hG1.1.i2]
  rw [e2] at hG2 hE2
  have q10 : (cy2 (cy1 z)) 10 = z 10 := (cy2_lo (by unfold Fx; decide)).trans l10
  have q9 : (cy2 (cy1 z)) 9 = z 9 := (cy2_lo (by unfold Fx; decide)).trans l9
  refine l_start217 hL (W := idx (z 10)) (by omega) (e := b - a1) (w := idx (z 10)) (g := 0) hG2 hE2 (Nat.le_refl a1) (by omega) (Nat.zero_add _) (q10.trans w10.1) fun d3 v7 hG3 hE3 => ?_
  have e3 : stL a1 (b - a1) a1 (idx (z 10)) (cy2 (cy1 z)) = cy3 (cy2 (cy1 z)) := by unfold cy3; rw [hG2.1.i3, hG2.1.i2, q10]
  rw [e3] at hG3 hE3
  have p10 : (cy3 (cy2 (cy1 z))) 10 = z 10 := (cy3_lo (by decide)).trans q10
  have p9 : (cy3 (cy2 (cy1 z))) 9 = z 9 := (cy3_lo (by decide)).trans q9
  refine l_issue308 hL (W := idx (z 10)) (w := idx (z 9)) (by omega) (by omega) (e := idx (z 10)) (g := 0) hG3 hE3 (Nat.zero_add _) (p10.trans w10.1) (p9.trans w9.1) fun d4 b4 v8 hG4 hE4 => ?_
  have e4 : isL a1 n (idx (z 9)) (idx (z 10)) b (cy3 (cy2 (cy1 z))) = cy4 (cy3 (cy2 (cy1 z))) := by unfold cy4; rw [hG3.1.i3, hG3.1.i2, hG3.1.i1, p10, p9]
  rw [e4] at hG4 hE4
  have c0 : d4 5 0 = (cy4 (cy3 (cy2 (cy1 z)))) 0 := hG4.2.2.1.c (by decide)
  have hcy : cyF z = uz (cy4 (cy3 (cy2 (cy1 z)))) 0 ((cy4 (cy3 (cy2 (cy1 z)))) 0 + nI 1) := rfl
  apply w_L_cycle_367
  simp (maxSteps := 1000000) (disch := omega) only [↓QI_i, ↓QV_v, ↓QA_a, ↓QF_f, ↓QD_d, ↓QL_l, ↓Bool.cond_eq_ite, ↓reduceIte, decide_eq_true_eq, Bool.not_eq_true', Bool.true_and, Bool.and_true, Bool.and_self, gR_some, Option.getD_some, mI_def, setI_def, mR_def, not_false_eq_true, not_true_eq_false, Bool.false_eq_true, idx_nI, nI_add, pk_mul, icB_lt, icB_gt, icB_le, icB_ge, icB_eq, icB_ne, bI_ne, nI_eqI, gl_0 hL, gl_1 hL, gl_2 hL, gl_3 hL, gl_4 hL, gl_5 hL, up2_pl, up2_pl0, pl_at, pl_at0, c0]
  refine h _ a1 b4 o1 ⟨?_, ?_, ?_, ?_, hG.2.2.2.2⟩ ?_ (by omega) (by rw [cyF_6]; exact h6)
  · rw [hcy]; exact hG4.1.wc (by decide)
  · rw [hcy]; exact hG4.2.1.wu (by decide)
  · rw [hcy]; exact hG4.2.2.1.cnt (by decide)
  · rw [hcy]; exact hG4.2.2.2.1.of fun j _ => ⟨pt_uz (by decide), pt_uz (by decide)⟩
  · rw [hcy]; exact hE4.wu (by decide)
