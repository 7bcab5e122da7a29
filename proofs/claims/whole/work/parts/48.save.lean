/-! saving in the reference; undo of both -/
def KOk (Q : Post) (I : In2) (ρ : Rh) (v : Int32) (z : Zt) (s : Nat) (zs : Nat → Zt) (tl : Nat × Zt) : Prop := ∀ I' ρ', Rw ρ' → ρ'.2 = ρ.2 → Cst I' ρ' z s zs tl → (∀ a k, 245 ≤ a → I' a k = I a k) → Q (.inl (some (.int v))) (I', ρ')
def ROk (Q : Post) (I : In2) (ρ : Rh) (v : Int32) (z : Zt) (s : Nat) (zs : Nat → Zt) (tl : Nat × Zt) (t : Nat) : Prop := ∀ I', Rst I' z s zs tl → I' 245 16 = nI t → (∀ a k, a < 245 → I' a k = I a k) → Q (.inl (some (.int v))) (I', ρ)
theorem Rst.eq {I : In2} {z : Zt} {s : Nat} {zs : Nat → Zt} {tl : Nat × Zt} (h : Rst I z s zs tl) : pz I z = I := by rw [← h.1]; exact pz_self
theorem up2_pn {I : In2} {z : Zt} {a k : Nat} {v : Int32} (ha : ¬ a = 246) : up2 (pz I z) a k v = pz (up2 I a k v) z := by
  funext b j; unfold up2 pz; dsimp only
  by_cases e : b = a ∧ j = k
  · rw [if_pos e, if_neg (by omega), if_pos e]
  · rw [if_neg e]
    by_cases e2 : b = 246
    · rw [if_pos e2, if_pos e2]
    · rw [if_neg e2, if_neg e2, if_neg e]
theorem Rst.z {I : In2} {z z' : Zt} {s : Nat} {zs : Nat → Zt} {tl : Nat × Zt} (h : Rst I z s zs tl) : Rst (pz I z') z' s zs tl := by
  obtain ⟨h1, h2, h3, h4, h5⟩ := h
  exact ⟨rfl, h2, h3, h4, h5⟩
/-- what lies elsewhere doesn't matter -/
theorem Rst.fr {I I' : In2} {z : Zt} {s : Nat} {zs : Nat → Zt} {tl : Nat × Zt} (h : Rst I z s zs tl) (h6 : I' 246 = I 246) (hs : I' 245 14 = I 245 14) (hl : I' 245 15 = I 245 15) (h8 : ∀ k, I' 248 k = I 248 k) (h9 : ∀ k, k < tl.1 → I' 249 k = I 249 k) : Rst I' z s zs tl := by
  obtain ⟨g1, g2, g3, g4, g5⟩ := h
  exact ⟨h6.trans g1, hs.trans g2, fun j k hj hk => (h8 _).trans (g3 j k hj hk), hl.trans g4, fun k hk => (h9 k hk).trans (g5 k hk)⟩
def w8 (I : In2) (f : Zt) : In2 := fun a k => if a = 248 then f k else I a k
theorem w8_self {I : In2} : w8 I (I 248) = I := by
  funext b j; unfold w8; split
  · rename_i h; rw [h]
  · rfl
theorem up2_w8 {I : In2} {z f : Zt} {k : Nat} {v : Int32} : up2 (pz (w8 I f) z) 248 k v = pz (w8 I (uz f k v)) z := by
  rw [up2_pn (by decide)]
  congr 1
  funext b j; unfold up2 w8 uz
  by_cases e : b = 248
  · rw [if_pos e, if_pos e]
    by_cases e2 : j = k
    · rw [if_pos ⟨e, e2⟩, if_pos e2]
    · rw [if_neg (fun h => e2 h.2), if_neg e2]
  · rw [if_neg (fun h => e h.1), if_neg e, if_neg e]
theorem w8_at {I : In2} {z f : Zt} {k : Nat} : pz (w8 I f) z 248 k = f k := rfl
theorem e_save52 {xs : Scr} {ρ : Rh} {I : In2} {z : Zt} {Q : Post} {s : Nat} (hW : Rw ρ) (h14 : I 245 14 = nI s) (hs : s < 6) : ∀ {d k : Nat} {f : Zt}, k + d = 324 → Q (.inl none) (pz (up2 (w8 I (fun j => if 324 * s + k ≤ j ∧ j < 324 * s + 324 then z (j - 324 * s) else f j)) 245 14 (nI (s + 1))) z, ρ) → Ev xs 108 52 [.ref 245, .int (nI k)] [] (pz (w8 I f) z, ρ) Q := by
  have q14 : ∀ {f : Zt}, pz (w8 I f) z 245 14 = nI s := h14
  intro d
  induction d with
  | zero =>
    intro k f hk h
    obtain rfl : k = 324 := hk
    have : (fun j => if 324 * s + 324 ≤ j ∧ j < 324 * s + 324 then z (j - 324 * s) else f j) = f := by funext j; rw [if_neg (by omega)]
    rw [this] at h
    apply w_X5_save_52
    simp (maxSteps := 1000000) (disch := omega) only [↓QI_i, ↓QV_v, ↓QA_a, ↓QF_f, ↓QD_d, ↓QL_l, ↓Bool.cond_eq_ite, ↓reduceIte, decide_eq_true_eq, Bool.not_eq_true', Bool.true_and, Bool.and_true, Bool.and_self, gR_some, Option.getD_some, mI_def, setI_def, mR_def, not_false_eq_true, not_true_eq_false, Bool.false_eq_true, idx_nI, nI_add, pk_mul, icB_lt, icB_gt, icB_le, icB_ge, icB_eq, icB_ne, bI_ne, nI_eqI, gz_O hW, gz_R0 hW, gz_A hW, up2_pz, pz_at, Nat.le_refl, q14, up2_pn]
    exact h
  | succ d ih =>
    intro k f hk h
    have hk3 : ¬ 324 ≤ k := by omega
    apply w_X5_save_52
    simp (maxSteps := 1000000) (disch := omega) only [↓QI_i, ↓QV_v, ↓QA_a, ↓QF_f, ↓QD_d, ↓QL_l, ↓Bool.cond_eq_ite, ↓reduceIte, decide_eq_true_eq, Bool.not_eq_true', Bool.true_and, Bool.and_true, Bool.and_self, gR_some, Option.getD_some, mI_def, setI_def, mR_def, not_false_eq_true, not_true_eq_false, Bool.false_eq_true, idx_nI, nI_add, pk_mul, icB_lt, icB_gt, icB_le, icB_ge, icB_eq, icB_ne, bI_ne, nI_eqI, gz_O hW, gz_R0 hW, gz_A hW, up2_pz, pz_at, hk3, gz_R2 hW, q14, gz_A2 hW, up2_w8]
    refine ih (k := k + 1) (by omega) ?_
    have : (fun j => if 324 * s + (k + 1) ≤ j ∧ j < 324 * s + 324 then z (j - 324 * s) else uz f (324 * s + k) (z k) j) = (fun j => if 324 * s + k ≤ j ∧ j < 324 * s + 324 then z (j - 324 * s) else f j) := by
      funext j; unfold uz
      by_cases e : 324 * s + (k + 1) ≤ j ∧ j < 324 * s + 324
      · rw [if_pos e, if_pos (by omega)]
      · rw [if_neg e]
        by_cases e2 : j = 324 * s + k
        · rw [if_pos e2, if_pos (by omega), e2, Nat.add_sub_cancel_left]
        · rw [if_neg e2, if_neg (by omega)]
    rw [this]; exact h
theorem e_save11 {xs : Scr} {ρ : Rh} {I : In2} {z : Zt} {Q : Post} (hW : Rw ρ) (h14 : I 245 14 = nI 6) : ∀ {d k : Nat} {f : Zt}, k + d = 1620 → Ev xs 108 52 [.ref 245, .int (nI 0)] [] (pz (w8 (up2 I 245 14 (nI 5)) (fun j => if k ≤ j ∧ j < 1620 then f (324 + j) else f j)) z, ρ) Q → Ev xs 108 11 [.ref 245, .int (nI k)] [] (pz (w8 I f) z, ρ) Q := by
  have q14 : ∀ {f : Zt}, pz (w8 I f) z 245 14 = nI 6 := h14
  have e65 : nI 6 - nI 1 = nI 5 := nI_sub1 5
  intro d
  induction d with
  | zero =>
    intro k f hk h
    obtain rfl : k = 1620 := hk
    have e1 : (fun j => if 1620 ≤ j ∧ j < 1620 then f (324 + j) else f j) = f := by funext j; rw [if_neg (by omega)]
    have e2 : up2 (w8 I f) 245 14 (nI 5) = w8 (up2 I 245 14 (nI 5)) f := by
      funext b j; unfold up2 w8; dsimp only
      by_cases e : b = 245 ∧ j = 14
      · rw [if_pos e, if_neg (by omega), if_pos e]
      · rw [if_neg e]
        by_cases e2 : b = 248
        · rw [if_pos e2, if_pos e2]
        · rw [if_neg e2, if_neg e2, if_neg e]
    rw [e1] at h
    apply w_X5_save_11
    simp (maxSteps := 1000000) (disch := omega) only [↓QI_i, ↓QV_v, ↓QA_a, ↓QF_f, ↓QD_d, ↓QL_l, ↓Bool.cond_eq_ite, ↓reduceIte, decide_eq_true_eq, Bool.not_eq_true', Bool.true_and, Bool.and_true, Bool.and_self, gR_some, Option.getD_some, mI_def, setI_def, mR_def, not_false_eq_true, not_true_eq_false, Bool.false_eq_true, idx_nI, nI_add, pk_mul, icB_lt, icB_gt, icB_le, icB_ge, icB_eq, icB_ne, bI_ne, nI_eqI, gz_O hW, gz_R0 hW, gz_A hW, up2_pz, pz_at, Nat.le_refl, q14, up2_pn, e65, e2]
    exact h
  | succ d ih =>
    intro k f hk h
    have hk3 : ¬ 1620 ≤ k := by omega
    apply w_X5_save_11
    simp (maxSteps := 1000000) (disch := omega) only [↓QI_i, ↓QV_v, ↓QA_a, ↓QF_f, ↓QD_d, ↓QL_l, ↓Bool.cond_eq_ite, ↓reduceIte, decide_eq_true_eq, Bool.not_eq_true', Bool.true_and, Bool.and_true, Bool.and_self, gR_some, Option.getD_some, mI_def, setI_def, mR_def, not_false_eq_true, not_true_eq_false, Bool.false_eq_true, idx_nI, nI_add, pk_mul, icB_lt, icB_gt, icB_le, icB_ge, icB_eq, icB_ne, bI_ne, nI_eqI, gz_O hW, gz_R0 hW, gz_A hW, up2_pz, pz_at, hk3, gz_R2 hW, gz_A2 hW, up2_w8, w8_at]
    refine ih (k := k + 1) (by omega) ?_
    have : (fun j => if k + 1 ≤ j ∧ j < 1620 then uz f k (f (324 + k)) (324 + j) else uz f k (f (324 + k)) j) = (fun j => if k ≤ j ∧ j < 1620 then f (324 + j) else f j) := by
      funext j; unfold uz
      by_cases e : k + 1 ≤ j ∧ j < 1620
      · rw [if_pos e, if_neg (by omega), if_pos (by omega)]
      · rw [if_neg e]
        by_cases e2 : j = k
        · rw [if_pos e2, if_pos (by omega), e2]
        · rw [if_neg e2, if_neg (by omega)]
    rw [this]; exact h
theorem e_save {xs : Scr} {I : In2} {ρ : Rh} {Q : Post} {z : Zt} {s : Nat} {zs : Nat → Zt} {tl : Nat × Zt} (hW : Rw ρ) (hR : Rst I z s zs tl) (hs : s ≤ 6) (h : ∀ I', Rst I' z (svN s) (svZ s zs z) tl → I' 245 16 = I 245 16 → (∀ a k, a < 245 → I' a k = I a k) → Q (.inl none) (I', ρ)) : Ev xs 108 0 [.ref 245, .null] [] (I, ρ) Q := by
  have hR' := hR
  obtain ⟨h6, h14, h8, h15, h9⟩ := hR'
  have q14 : pz I z 245 14 = nI s := h14
  rw [← hR.eq]
  apply w_X5_save_0
  by_cases hs6 : s = 6
  · subst hs6
    simp (maxSteps := 1000000) (disch := omega) only [↓QI_i, ↓QV_v, ↓QA_a, ↓QF_f, ↓QD_d, ↓QL_l, ↓Bool.cond_eq_ite, ↓reduceIte, decide_eq_true_eq, Bool.not_eq_true', Bool.true_and, Bool.and_true, Bool.and_self, gR_some, Option.getD_some, mI_def, setI_def, mR_def, not_false_eq_true, not_true_eq_false, Bool.false_eq_true, idx_nI, nI_add, pk_mul, icB_lt, icB_gt, icB_le, icB_ge, icB_eq, icB_ne, bI_ne, nI_eqI, gz_O hW, gz_R0 hW, gz_A hW, up2_pz, pz_at, q14]
    have eI : I = w8 I (I 248) := w8_self.symm
    have h15' : up2 I 245 14 (nI 5) 245 15 = nI tl.1 := (up2_ne (by decide)).trans h15
    have h9' : ∀ k, k < tl.1 → up2 I 245 14 (nI 5) 249 k = tl.2 k := fun k hk => (up2_ne (by omega)).trans (h9 k hk)
    have h16' : up2 I 245 14 (nI 5) 245 16 = I 245 16 := up2_ne (by decide)
    rw [eI]
    refine e_save11 hW h14 (d := 1620) (k := 0) (by decide) ?_
    refine e_save52 hW (s := 5) (by rw [up2_e, if_pos ⟨rfl, rfl⟩]) (by decide) (d := 324) (k := 0) (by decide) ?_
    refine h _ ⟨rfl, ?_, fun j k hj hk => ?_, ?_, fun k hk => ?_⟩ ?_ fun a k ha => ?_
    · unfold svN; rw [if_neg (by decide)]; exact (pz_ne (by decide)).trans up2_at
    · unfold svN at hj; rw [if_neg (by decide)] at hj
      unfold svZ; rw [if_neg (by decide)]
      rw [pz_ne (by decide), up2_ne (by omega)]; unfold w8; rw [if_pos rfl]; dsimp only
      by_cases e : j < 5
      · rw [if_pos e, if_neg (by omega), if_pos (by omega), ← h8 (j + 1) k (by omega) hk]; congr 1; omega
      · have : j = 5 := by omega
        subst this
        rw [if_neg e, if_pos (by omega), Nat.add_sub_cancel_left]
    · rw [pz_ne (by decide), up2_ne (by decide)]; unfold w8; rw [if_neg (by decide)]; exact h15'
    · rw [pz_ne (by decide), up2_ne (by omega)]; unfold w8; rw [if_neg (by decide)]; exact h9' k hk
    · rw [pz_ne (by decide), up2_ne (by decide)]; unfold w8; rw [if_neg (by decide)]; exact h16'
    · rw [pz_ne (by omega), up2_ne (by omega)]
      unfold w8; rw [if_neg (by omega), up2_ne (by omega)]
  · have hs6' : s < 6 := by omega
    simp (maxSteps := 1000000) (disch := omega) only [↓QI_i, ↓QV_v, ↓QA_a, ↓QF_f, ↓QD_d, ↓QL_l, ↓Bool.cond_eq_ite, ↓reduceIte, decide_eq_true_eq, Bool.not_eq_true', Bool.true_and, Bool.and_true, Bool.and_self, gR_some, Option.getD_some, mI_def, setI_def, mR_def, not_false_eq_true, not_true_eq_false, Bool.false_eq_true, idx_nI, nI_add, pk_mul, icB_lt, icB_gt, icB_le, icB_ge, icB_eq, icB_ne, bI_ne, nI_eqI, gz_O hW, gz_R0 hW, gz_A hW, up2_pz, pz_at, q14, hs6]
    have eI : I = w8 I (I 248) := w8_self.symm
    have h15' := h15
    have h9' := h9
    have h16' : I 245 16 = I 245 16 := rfl
    rw [eI]
    refine e_save52 hW h14 hs6' (d := 324) (k := 0) (by decide) ?_
    refine h _ ⟨rfl, ?_, fun j k hj hk => ?_, ?_, fun k hk => ?_⟩ ?_ fun a k ha => ?_
    · unfold svN; rw [if_pos hs6']; exact (pz_ne (by decide)).trans up2_at
    · unfold svN at hj; rw [if_pos hs6'] at hj
      unfold svZ; rw [if_pos hs6']
      rw [pz_ne (by decide), up2_ne (by omega)]; unfold w8; rw [if_pos rfl]; dsimp only
      by_cases e : j = s
      · subst e; rw [if_pos rfl, if_pos (by omega), Nat.add_sub_cancel_left]
      · rw [if_neg e, if_neg (by omega)]; exact h8 j k (by omega) hk
    · rw [pz_ne (by decide), up2_ne (by decide)]; unfold w8; rw [if_neg (by decide)]; exact h15'
    · rw [pz_ne (by decide), up2_ne (by omega)]; unfold w8; rw [if_neg (by decide)]; exact h9' k hk
    · rw [pz_ne (by decide), up2_ne (by decide)]; unfold w8; rw [if_neg (by decide)]
    · rw [pz_ne (by omega), up2_ne (by omega)]
      unfold w8; rw [if_neg (by omega)]
/-! undo -/
theorem k_undo {xs : Scr} {I : In2} {ρ : Rh} {Q : Post} {z : Zt} {s : Nat} {zs : Nat → Zt} {tl : Nat × Zt} (hW : Rw ρ) (hC : Cst I ρ z s zs tl) (hok : 0 < s → KOk Q I ρ (nI (s - 1)) (zs (s - 1)) (s - 1) zs tl) (hno : s = 0 → Q (.inr 3) (I, xR ρ)) : Ev xs 75 0 [.ref 0] [] (I, ρ) Q := by
  obtain ⟨g, h5, hs, ⟨σ, ⟨hσ6, hinj, hσ⟩, hz⟩, h1, hc, ht⟩ := hC
  apply w_X4_undo_0
  rcases s with _ | s
  · simp (maxSteps := 1000000) (disch := omega) only [↓QI_i, ↓QV_v, ↓QA_a, ↓QF_f, ↓QD_d, ↓QL_l, ↓Bool.cond_eq_ite, ↓reduceIte, decide_eq_true_eq, Bool.not_eq_true', Bool.true_and, Bool.and_true, Bool.and_self, gR_some, Option.getD_some, mI_def, setI_def, mR_def, not_false_eq_true, not_true_eq_false, Bool.false_eq_true, idx_nI, nI_add, pk_mul, icB_lt, icB_gt, icB_le, icB_ge, icB_eq, icB_ne, bI_ne, nI_eqI, gc_O hW, h5, gNN hW, excM_def, Nat.lt_add_one]
    exact hno rfl
  · have hlt : ¬ s + 1 < 1 := by omega
    have h6 : s + 1 ≤ 6 := hs
    have hsS : ρ.1 61 s = some (62 + 30 * σ s) := hσ s (by omega)
    have hl := hσ6 s (by omega)
    have q5 : ∀ {I : In2}, up2 I 0 5 (nI s) 0 5 = nI s := up2_at
    simp (maxSteps := 1000000) (disch := omega) only [↓QI_i, ↓QV_v, ↓QA_a, ↓QF_f, ↓QD_d, ↓QL_l, ↓Bool.cond_eq_ite, ↓reduceIte, decide_eq_true_eq, Bool.not_eq_true', Bool.true_and, Bool.and_true, Bool.and_self, gR_some, Option.getD_some, mI_def, setI_def, mR_def, not_false_eq_true, not_true_eq_false, Bool.false_eq_true, idx_nI, nI_add, pk_mul, icB_lt, icB_gt, icB_le, icB_ge, icB_eq, icB_ne, bI_ne, nI_eqI, gc_O hW, gc_0 hW, gc_2 hW, gc_L hW, gc_l, h5, hlt, h6, nI_sub1, q5, gc_A hW, Bool.or_true, hsS, gm_O hW Bs_1]
    refine k_copy hW Bs_1 (Bs_s hl) (by omega) (z := zs s) ((hz s (by omega)).fr fun o k ho => by rw [up2_e, if_neg (by omega)]) fun c' hc' => ?_
    have r5 : pc (up2 I 0 5 (nI s)) 1 c' 0 5 = nI s := (pc_ne (by omega)).trans up2_at
    simp (maxSteps := 1000000) (disch := omega) only [↓QI_i, ↓QV_v, ↓QA_a, ↓QF_f, ↓QD_d, ↓QL_l, ↓Bool.cond_eq_ite, ↓reduceIte, decide_eq_true_eq, Bool.not_eq_true', Bool.true_and, Bool.and_true, Bool.and_self, gR_some, Option.getD_some, mI_def, setI_def, mR_def, not_false_eq_true, not_true_eq_false, Bool.false_eq_true, idx_nI, nI_add, pk_mul, icB_lt, icB_gt, icB_le, icB_ge, icB_eq, icB_ne, bI_ne, nI_eqI, gc_O hW, r5]
    have fr : ∀ a k, 31 ≤ a → pc (up2 I 0 5 (nI s)) 1 c' a k = I a k := fun a k h1 => by rw [pc_ne (by omega), up2_e, if_neg (by omega)]
    exact hok (by omega) _ ρ hW rfl ⟨hc'.bk, r5, by omega, ⟨σ, ⟨hσ6, hinj, hσ⟩, fun j hj => (hz j (by omega)).fr fun o k ho => fr _ _ (by omega)⟩, by rw [fr _ _ (by omega)]; exact h1, hc, fun k hk => by rw [fr _ _ (by omega)]; exact ht k hk⟩ fun a k ha => fr _ _ (by omega)
theorem e_undo30 {xs : Scr} {ρ : Rh} {I : In2} {Q : Post} {s : Nat} (hW : Rw ρ) (h14 : I 245 14 = nI s) (hs : s < 6) : ∀ {d k : Nat} {z : Zt}, k + d = 324 → Q (.inl (some (.int (nI s)))) (pz I (fun j => if k ≤ j ∧ j < 324 then I 248 (324 * s + j) else z j), ρ) → Ev xs 158 30 [.ref 245, .int (nI k)] [] (pz I z, ρ) Q := by
  have q14 : ∀ {z : Zt}, pz I z 245 14 = nI s := h14
  have q8 : ∀ {z : Zt} {k : Nat}, pz I z 248 k = I 248 k := fun {z k} => rfl
  intro d
  induction d with
  | zero =>
    intro k z hk h
    obtain rfl : k = 324 := hk
    have : (fun j => if 324 ≤ j ∧ j < 324 then I 248 (324 * s + j) else z j) = z := by funext j; rw [if_neg (by omega)]
    rw [this] at h
    apply w_X5_undo_30
    simp (maxSteps := 1000000) (disch := omega) only [↓QI_i, ↓QV_v, ↓QA_a, ↓QF_f, ↓QD_d, ↓QL_l, ↓Bool.cond_eq_ite, ↓reduceIte, decide_eq_true_eq, Bool.not_eq_true', Bool.true_and, Bool.and_true, Bool.and_self, gR_some, Option.getD_some, mI_def, setI_def, mR_def, not_false_eq_true, not_true_eq_false, Bool.false_eq_true, idx_nI, nI_add, pk_mul, icB_lt, icB_gt, icB_le, icB_ge, icB_eq, icB_ne, bI_ne, nI_eqI, gz_O hW, gz_R0 hW, gz_A hW, up2_pz, pz_at, Nat.le_refl, q14]
    exact h
  | succ d ih =>
    intro k z hk h
    have hk3 : ¬ 324 ≤ k := by omega
    apply w_X5_undo_30
    simp (maxSteps := 1000000) (disch := omega) only [↓QI_i, ↓QV_v, ↓QA_a, ↓QF_f, ↓QD_d, ↓QL_l, ↓Bool.cond_eq_ite, ↓reduceIte, decide_eq_true_eq, Bool.not_eq_true', Bool.true_and, Bool.and_true, Bool.and_self, gR_some, Option.getD_some, mI_def, setI_def, mR_def, not_false_eq_true, not_true_eq_false, Bool.false_eq_true, idx_nI, nI_add, pk_mul, icB_lt, icB_gt, icB_le, icB_ge, icB_eq, icB_ne, bI_ne, nI_eqI, gz_O hW, gz_R0 hW, gz_A hW, up2_pz, pz_at, hk3, gz_R2 hW, q14, gz_A2 hW, q8]
    refine ih (k := k + 1) (by omega) ?_
    have : (fun j => if k + 1 ≤ j ∧ j < 324 then I 248 (324 * s + j) else uz z k (I 248 (324 * s + k)) j) = (fun j => if k ≤ j ∧ j < 324 then I 248 (324 * s + j) else z j) := by
      funext j; unfold uz
      by_cases e : k + 1 ≤ j ∧ j < 324
      · rw [if_pos e, if_pos (by omega)]
      · rw [if_neg e]
        by_cases e2 : j = k
        · rw [if_pos e2, if_pos (by omega), e2]
        · rw [if_neg e2, if_neg (by omega)]
    rw [this]; exact h
theorem e_fails {xs : Scr} {I : In2} {ρ : Rh} {Q : Post} {t : Int32} (hW : Rw ρ) : Ev xs 103 0 [.ref 245, .int t] [] (I, ρ) Q ↔ Q (.inl (some (.int (nI 0)))) (up2 I 245 16 t, ρ) := by
  apply Ev.dt; intro Q h; apply w_X5_fails_0
  rw [gz_O hW, cond_true, setI_def]; exact h
theorem Rst.t {I : In2} {z : Zt} {s : Nat} {zs : Nat → Zt} {tl : Nat × Zt} {t : Int32} (h : Rst I z s zs tl) : Rst (up2 I 245 16 t) z s zs tl :=
  h.fr (by funext k; exact up2_ne (by omega)) (up2_ne (by decide)) (up2_ne (by decide)) (fun k => up2_ne (by omega)) (fun k _ => up2_ne (by omega))
theorem fr_t {I : In2} {t : Int32} {a k : Nat} (ha : a < 245) : up2 I 245 16 t a k = I a k := up2_ne (by omega)
theorem e_undo {xs : Scr} {I : In2} {ρ : Rh} {Q : Post} {z : Zt} {s : Nat} {zs : Nat → Zt} {tl : Nat × Zt} (hW : Rw ρ) (hR : Rst I z s zs tl) (hs : s ≤ 6) (hz : Tl z) (hzs : ∀ j, j < s → Tl (zs j)) (hok : 0 < s → ROk Q I ρ (nI (s - 1)) (zs (s - 1)) (s - 1) zs tl 0) (hno : s = 0 → ROk Q I ρ (nI 0) z s zs tl 1) : Ev xs 158 0 [.ref 245, .null] [] (I, ρ) Q := by
  have hR' := hR
  obtain ⟨h6, h14, h8, h15, h9⟩ := hR'
  apply w_X5_undo_0
  rcases s with _ | s
  · have q14 : up2 I 245 16 (nI 0) 245 14 = nI 0 := (up2_ne (by decide)).trans h14
    simp (maxSteps := 1000000) (disch := omega) only [↓QI_i, ↓QV_v, ↓QA_a, ↓QF_f, ↓QD_d, ↓QL_l, ↓Bool.cond_eq_ite, ↓reduceIte, decide_eq_true_eq, Bool.not_eq_true', Bool.true_and, Bool.and_true, Bool.and_self, gR_some, Option.getD_some, mI_def, setI_def, mR_def, not_false_eq_true, not_true_eq_false, Bool.false_eq_true, idx_nI, nI_add, pk_mul, icB_lt, icB_gt, icB_le, icB_ge, icB_eq, icB_ne, bI_ne, nI_eqI, gz_O hW, q14, e_fails hW]
    have e : up2 (up2 I 245 16 (nI 0)) 245 16 (nI 1) = up2 I 245 16 (nI 1) := by
      funext b j; simp only [up2_e]; split <;> rfl
    rw [e]
    exact hno rfl _ hR.t up2_at fun a k ha => fr_t ha
  · have q14 : up2 I 245 16 (nI 0) 245 14 = nI (s + 1) := (up2_ne (by decide)).trans h14
    simp (maxSteps := 1000000) (disch := omega) only [↓QI_i, ↓QV_v, ↓QA_a, ↓QF_f, ↓QD_d, ↓QL_l, ↓Bool.cond_eq_ite, ↓reduceIte, decide_eq_true_eq, Bool.not_eq_true', Bool.true_and, Bool.and_true, Bool.and_self, gR_some, Option.getD_some, mI_def, setI_def, mR_def, not_false_eq_true, not_true_eq_false, Bool.false_eq_true, idx_nI, nI_add, pk_mul, icB_lt, icB_gt, icB_le, icB_ge, icB_eq, icB_ne, bI_ne, nI_eqI, gz_O hW, q14, Nat.add_one_ne_zero, nI_sub1]
    have hI : up2 (up2 I 245 16 (nI 0)) 245 14 (nI s) = pz (up2 (up2 I 245 16 (nI 0)) 245 14 (nI s)) z := by
      rw [← up2_pn (by decide), ← up2_pn (by decide), hR.eq]
    rw [hI]
    refine e_undo30 hW (s := s) up2_at (by omega) (d := 324) (k := 0) (by decide) ?_
    have ez : (fun j => if 0 ≤ j ∧ j < 324 then up2 (up2 I 245 16 (nI 0)) 245 14 (nI s) 248 (324 * s + j) else z j) = zs s := by
      funext j
      by_cases e : 0 ≤ j ∧ j < 324
      · rw [if_pos e, up2_ne (by omega), up2_ne (by omega)]; exact h8 s j (by omega) e.2
      · rw [if_neg e, hz j (by omega), hzs s (by omega) j (by omega)]
    rw [ez]
    refine hok (by omega) _ ⟨rfl, (pz_ne (by decide)).trans up2_at, fun j k hj hk => ?_, ?_, fun k hk => ?_⟩ ?_ fun a k ha => ?_
    · rw [pz_ne (by decide), up2_ne (by omega), up2_ne (by omega)]; exact h8 j k (by omega) hk
    · rw [pz_ne (by decide), up2_ne (by decide), up2_ne (by decide)]; exact h15
    · rw [pz_ne (by decide), up2_ne (by omega), up2_ne (by omega)]; exact h9 k hk
    · rw [pz_ne (by decide), up2_ne (by decide), up2_at]
    · rw [pz_ne (by omega), up2_ne (by omega), up2_ne (by omega)]
