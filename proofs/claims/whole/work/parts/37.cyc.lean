/-! the reference's starts, issues, the cycle -/
theorem nds_ok (k : Int32) : ∃ x, 1 ≤ x ∧ x ≤ 3 ∧ nds k = nI x := by
  unfold nds
  by_cases h2 : k = nI 2
  · exact ⟨3, by decide, by decide, by rw [if_pos h2]⟩
  · by_cases h3 : k = nI 3
    · exact ⟨2, by decide, by decide, by rw [if_neg h2, if_pos h3]⟩
    · exact ⟨1, by decide, by decide, by rw [if_neg h2, if_neg h3]⟩
theorem rsn_0 {z : Zt} {a i : Nat} (h : rsn z a i = nI 0) : pt z i 7 = nI 0 := by
  unfold rsn at h
  by_cases h7 : pt z i 7 = nI 0
  · exact h7
  · rw [if_neg h7] at h; exact absurd h (not_nI (by decide) (by decide) (by decide))
def stF (z : Zt) (i : Nat) : Zt := lay (lay z i 7 (nI 1)) i 8 (nds (pt z i 0))
theorem stL_s {a k i w : Nat} {z : Zt} : stL a (k + 1) i (w + 1) z = if rsn z a i = nI 0 then stL a k (i + 1) w (stF z i) else stL a k (i + 1) (w + 1) z := rfl
theorem stL_0 {a k i : Nat} {z : Zt} : stL a k i 0 z = z := by cases k <;> rfl
theorem stL_n {a i w : Nat} {z : Zt} : stL a 0 i w z = z := by cases w <;> rfl
theorem Inv_stF {z : Zt} {a b n i : Nat} (h : Inv z a b n) : Inv (stF z i) a b n := by
  unfold stF
  refine ⟨(h.1.wl (by decide) (fun h => by cases h) (fun h => by cases h)).wl (by decide) (fun h => by cases h) (fun h => by cases h), EntX.w2 h.2.x rfl (Or.inl rfl) fun _ _ => Or.inr (Or.inl ⟨rfl, ?_⟩)⟩
  rw [if_pos rfl]; exact nds_ok _
theorem Inv_stL {a b n : Nat} : ∀ {k i w : Nat} {z : Zt}, Inv z a b n → Inv (stL a k i w z) a b n := by
  intro k
  induction k with
  | zero => intro i w z h; rw [stL_n]; exact h
  | succ k ih =>
    intro i w z h
    rcases w with _ | w
    · rw [stL_0]; exact h
    · rw [stL_s]
      by_cases hr : rsn z a i = nI 0
      · rw [if_pos hr]; exact ih (Inv_stF h)
      · rw [if_neg hr]; exact ih h
theorem e_cyc57 {xs : Scr} {I : In2} {ρ : Rh} (hW : Rw ρ) {a b n : Nat} {x : Int32} : ∀ {k i w s : Nat} {z : Zt} {Q : Post}, Inv z a b n → a ≤ i → i + k = b → z 10 = nI (s + w) → s + w ≤ 4 →
    (∀ y, Ev xs 135 119 [.ref 245, .int x, .int y, .int (nI 0)] [] (pz I (stL a k i w z), ρ) Q) → Ev xs 135 57 [.ref 245, .int x, .int (nI s), .int (nI i)] [] (pz I z, ρ) Q := by
  intro k
  induction k with
  | zero =>
    intro i w s z Q h0 ha hk h10 hs h
    obtain rfl : i = b := hk
    have hb := h0.1.bnd
    have h2 := h0.1.h2
    apply w_X5_cycle_57
    rw [stL_n] at h
    simp (maxSteps := 1000000) (disch := omega) only [↓QI_i, ↓QV_v, ↓QA_a, ↓QF_f, ↓QD_d, ↓QL_l, ↓Bool.cond_eq_ite, ↓reduceIte, decide_eq_true_eq, Bool.not_eq_true', Bool.true_and, Bool.and_true, Bool.and_self, gR_some, Option.getD_some, mI_def, setI_def, mR_def, not_false_eq_true, not_true_eq_false, Bool.false_eq_true, idx_nI, nI_add, pk_mul, icB_lt, icB_gt, icB_le, icB_ge, icB_eq, icB_ne, bI_ne, nI_eqI, gz_O hW, gz_R0 hW, gz_A hW, up2_pz, pz_at, h2, Nat.le_refl]
    exact h _
  | succ k ih =>
    intro i w s z Q h0 ha hk h10 hs h
    have hb := h0.1.bnd
    have h2 := h0.1.h2
    have h3 := h0.1.h3
    have hki : ¬ b ≤ i := by omega
    have hru : z (9 + 1) = nI (s + w) := h10
    obtain ⟨d, hd3, hd, -⟩ := (h0.1.row (i := i) (by omega)).2
    apply w_X5_cycle_57
    rcases w with _ | w
    · rw [stL_0] at h
      have hsw : s + 0 ≤ s := by omega
      simp (maxSteps := 1000000) (disch := omega) only [↓QI_i, ↓QV_v, ↓QA_a, ↓QF_f, ↓QD_d, ↓QL_l, ↓Bool.cond_eq_ite, ↓reduceIte, decide_eq_true_eq, Bool.not_eq_true', Bool.true_and, Bool.and_true, Bool.and_self, gR_some, Option.getD_some, mI_def, setI_def, mR_def, not_false_eq_true, not_true_eq_false, Bool.false_eq_true, idx_nI, nI_add, pk_mul, icB_lt, icB_gt, icB_le, icB_ge, icB_eq, icB_ne, bI_ne, nI_eqI, gz_O hW, gz_R0 hW, gz_A hW, up2_pz, pz_at, h2, hki, ↓e_rule hW, e_rule hW, hru, hsw]
      exact h _
    · rw [stL_s] at h
      have hsw : ¬ s + (w + 1) ≤ s := by omega
      by_cases hr : rsn z a i = nI 0
      · rw [if_pos hr] at h
        simp (maxSteps := 1000000) (disch := omega) only [↓QI_i, ↓QV_v, ↓QA_a, ↓QF_f, ↓QD_d, ↓QL_l, ↓Bool.cond_eq_ite, ↓reduceIte, decide_eq_true_eq, Bool.not_eq_true', Bool.true_and, Bool.and_true, Bool.and_self, gR_some, Option.getD_some, mI_def, setI_def, mR_def, not_false_eq_true, not_true_eq_false, Bool.false_eq_true, idx_nI, nI_add, pk_mul, icB_lt, icB_gt, icB_le, icB_ge, icB_eq, icB_ne, bI_ne, nI_eqI, gz_O hW, gz_R0 hW, gz_A hW, up2_pz, pz_at, uz_at, uz_ne, pt_uz, lay_lo, pt_le, pt_ln, pt_lj, h2, hki, ↓e_rule hW, e_rule hW, hru, hsw, ↓e_reason hW h3 ha (show i < 24 by omega) hd hd3, e_reason hW h3 ha (show i < 24 by omega) hd hd3, hr, ↓e_lay hW, e_lay hW, ↓e_of hW, e_of hW, ↓e_needs, e_needs]
        exact ih (i := i + 1) (s := s + 1) (w := w) (Inv_stF h0) (by omega) (by omega) (by rw [lay_lo (by decide), lay_lo (by decide), h10]; congr 1; omega) (by omega) h
      · rw [if_neg hr] at h
        simp (maxSteps := 1000000) (disch := omega) only [↓QI_i, ↓QV_v, ↓QA_a, ↓QF_f, ↓QD_d, ↓QL_l, ↓Bool.cond_eq_ite, ↓reduceIte, decide_eq_true_eq, Bool.not_eq_true', Bool.true_and, Bool.and_true, Bool.and_self, gR_some, Option.getD_some, mI_def, setI_def, mR_def, not_false_eq_true, not_true_eq_false, Bool.false_eq_true, idx_nI, nI_add, pk_mul, icB_lt, icB_gt, icB_le, icB_ge, icB_eq, icB_ne, bI_ne, nI_eqI, gz_O hW, gz_R0 hW, gz_A hW, up2_pz, pz_at, h2, hki, ↓e_rule hW, e_rule hW, hru, hsw, ↓e_reason hW h3 ha (show i < 24 by omega) hd hd3, e_reason hW h3 ha (show i < 24 by omega) hd hd3, hr]
        exact ih (i := i + 1) (s := s) (w := w + 1) h0 (by omega) (by omega) h10 hs h
def isF (z : Zt) (b : Nat) : Zt := uz (lay z b 7 (nI 0)) 2 (nI (b + 1))
theorem isL_s {a n w k b : Nat} {z : Zt} : isL a n w (k + 1) b z = if b - a < w ∧ b < n then isL a n w k (b + 1) (isF z b) else z := rfl
theorem Inv_isF {z : Zt} {a b n : Nat} (h : Inv z a b n) (hb : b < n) : Inv (isF z b) a (b + 1) n := by
  have hbn := h.1.bnd
  unfold isF
  refine ⟨(h.1.wl (by decide) (fun h => by cases h) (fun h => by cases h)).w2 (by omega) (by omega), Ent.wu (fun j h1 h2 => ?_) (by decide)⟩
  by_cases hj : j = b
  · subst hj; left; exact pt_le
  · rw [pt_lj ⟨hj, by decide, by decide⟩, pt_lj ⟨hj, by decide, by decide⟩, pt_lj ⟨hj, by decide, by decide⟩, pt_lj ⟨hj, by decide, by decide⟩]
    exact h.2 j h1 (by omega)
theorem Inv_isL {a n w : Nat} : ∀ {k b : Nat} {z : Zt}, Inv z a b n → ∃ b', b ≤ b' ∧ Inv (isL a n w k b z) a b' n := by
  intro k
  induction k with
  | zero => intro b z h; exact ⟨b, Nat.le_refl b, h⟩
  | succ k ih =>
    intro b z h
    rw [isL_s]
    by_cases hc : b - a < w ∧ b < n
    · rw [if_pos hc]; obtain ⟨b', h1, h2⟩ := ih (Inv_isF h hc.2); exact ⟨b', by omega, h2⟩
    · rw [if_neg hc]; exact ⟨b, Nat.le_refl b, h⟩
theorem e_cyc119 {xs : Scr} {I : In2} {ρ : Rh} (hW : Rw ρ) {a n w : Nat} {x v2 : Int32} (hw : w ≤ 8) : ∀ {k b s : Nat} {z : Zt} {Q : Post}, Inv z a b n → z 9 = nI w → z 10 = nI (s + k) → s + k ≤ 4 →
    Q (.inl (some (.int x))) (pz I (uz (isL a n w k b z) 0 ((isL a n w k b z) 0 + nI 1)), ρ) → Ev xs 135 119 [.ref 245, .int x, .int v2, .int (nI s)] [] (pz I z, ρ) Q := by
  intro k
  induction k with
  | zero =>
    intro b s z Q h0 h9 h10 hs h
    have hb := h0.1.bnd
    have h3 := h0.1.h3
    have h2 := h0.1.h2
    have hr0 : z (9 + 0) = nI w := h9
    have hr1 : z (9 + 1) = nI (s + 0) := h10
    have hsw : s + 0 ≤ s := by omega
    apply w_X5_cycle_119
    by_cases hc : w ≤ b - a
    · simp (maxSteps := 1000000) (disch := omega) only [↓QI_i, ↓QV_v, ↓QA_a, ↓QF_f, ↓QD_d, ↓QL_l, ↓Bool.cond_eq_ite, ↓reduceIte, decide_eq_true_eq, Bool.not_eq_true', Bool.true_and, Bool.and_true, Bool.and_self, gR_some, Option.getD_some, mI_def, setI_def, mR_def, not_false_eq_true, not_true_eq_false, Bool.false_eq_true, idx_nI, nI_add, pk_mul, icB_lt, icB_gt, icB_le, icB_ge, icB_eq, icB_ne, bI_ne, nI_eqI, gz_O hW, gz_R0 hW, gz_A hW, up2_pz, pz_at, ↓e_entries hW, e_entries hW, h3, h2, pk_sub, ↓e_rule hW, e_rule hW, hr0, hr1, hc]
      exact h
    · simp (maxSteps := 1000000) (disch := omega) only [↓QI_i, ↓QV_v, ↓QA_a, ↓QF_f, ↓QD_d, ↓QL_l, ↓Bool.cond_eq_ite, ↓reduceIte, decide_eq_true_eq, Bool.not_eq_true', Bool.true_and, Bool.and_true, Bool.and_self, gR_some, Option.getD_some, mI_def, setI_def, mR_def, not_false_eq_true, not_true_eq_false, Bool.false_eq_true, idx_nI, nI_add, pk_mul, icB_lt, icB_gt, icB_le, icB_ge, icB_eq, icB_ne, bI_ne, nI_eqI, gz_O hW, gz_R0 hW, gz_A hW, up2_pz, pz_at, ↓e_entries hW, e_entries hW, h3, h2, pk_sub, ↓e_rule hW, e_rule hW, hr0, hr1, hc, hsw]
      exact h
  | succ k ih =>
    intro b s z Q h0 h9 h10 hs h
    have hb := h0.1.bnd
    have h3 := h0.1.h3
    have h2 := h0.1.h2
    have h1 := h0.1.h1
    have hr0 : z (9 + 0) = nI w := h9
    have hr1 : z (9 + 1) = nI (s + (k + 1)) := h10
    have hsw : ¬ s + (k + 1) ≤ s := by omega
    rw [isL_s] at h
    apply w_X5_cycle_119
    by_cases hc : w ≤ b - a
    · rw [if_neg (by omega)] at h
      simp (maxSteps := 1000000) (disch := omega) only [↓QI_i, ↓QV_v, ↓QA_a, ↓QF_f, ↓QD_d, ↓QL_l, ↓Bool.cond_eq_ite, ↓reduceIte, decide_eq_true_eq, Bool.not_eq_true', Bool.true_and, Bool.and_true, Bool.and_self, gR_some, Option.getD_some, mI_def, setI_def, mR_def, not_false_eq_true, not_true_eq_false, Bool.false_eq_true, idx_nI, nI_add, pk_mul, icB_lt, icB_gt, icB_le, icB_ge, icB_eq, icB_ne, bI_ne, nI_eqI, gz_O hW, gz_R0 hW, gz_A hW, up2_pz, pz_at, ↓e_entries hW, e_entries hW, h3, h2, pk_sub, ↓e_rule hW, e_rule hW, hr0, hr1, hc]
      exact h
    · by_cases hn : n ≤ b
      · rw [if_neg (by omega)] at h
        simp (maxSteps := 1000000) (disch := omega) only [↓QI_i, ↓QV_v, ↓QA_a, ↓QF_f, ↓QD_d, ↓QL_l, ↓Bool.cond_eq_ite, ↓reduceIte, decide_eq_true_eq, Bool.not_eq_true', Bool.true_and, Bool.and_true, Bool.and_self, gR_some, Option.getD_some, mI_def, setI_def, mR_def, not_false_eq_true, not_true_eq_false, Bool.false_eq_true, idx_nI, nI_add, pk_mul, icB_lt, icB_gt, icB_le, icB_ge, icB_eq, icB_ne, bI_ne, nI_eqI, gz_O hW, gz_R0 hW, gz_A hW, up2_pz, pz_at, ↓e_entries hW, e_entries hW, h3, h2, h1, pk_sub, ↓e_rule hW, e_rule hW, hr0, hr1, hc, hsw, hn]
        exact h
      · rw [if_pos (by omega)] at h
        simp (maxSteps := 1000000) (disch := omega) only [↓QI_i, ↓QV_v, ↓QA_a, ↓QF_f, ↓QD_d, ↓QL_l, ↓Bool.cond_eq_ite, ↓reduceIte, decide_eq_true_eq, Bool.not_eq_true', Bool.true_and, Bool.and_true, Bool.and_self, gR_some, Option.getD_some, mI_def, setI_def, mR_def, not_false_eq_true, not_true_eq_false, Bool.false_eq_true, idx_nI, nI_add, pk_mul, icB_lt, icB_gt, icB_le, icB_ge, icB_eq, icB_ne, bI_ne, nI_eqI, gz_O hW, gz_R0 hW, gz_A hW, up2_pz, pz_at, uz_at, uz_ne, pt_uz, lay_lo, pt_le, pt_ln, pt_lj, ↓e_entries hW, e_entries hW, h3, h2, h1, pk_sub, ↓e_rule hW, e_rule hW, hr0, hr1, hc, hsw, hn, ↓e_lay hW, e_lay hW]
        exact ih (b := b + 1) (s := s + 1) (Inv_isF h0 (by omega)) (by rw [uz_ne (by decide), lay_lo (by decide)]; exact h9) (by rw [uz_ne (by decide), lay_lo (by decide), h10]; congr 1; omega) (by omega) h
/-! what the cycle leaves alone -/
def Fx (k : Nat) : Prop := k < 36 ∧ ¬ (k = 4 ∨ k = 5 ∨ k = 7 ∨ k = 8)
theorem rpl_lo {z : Zt} {b l k : Nat} (hk : Fx k) : (rpl z b l) k = z k := by
  obtain ⟨h1, h2⟩ := hk
  unfold rpl
  rw [zap_lo h1, lay_lo h1, lay_lo h1, uz_ne (by omega), uz_ne (by omega)]
theorem fnF_lo {z : Zt} {a b i k : Nat} (hk : Fx k) : (fnF z a b i) k = z k := by
  obtain ⟨h1, h2⟩ := hk
  unfold fnF
  split
  · rw [lay_lo h1, lay_lo h1]
  · split
    · unfold fnL fnE
      rw [uz_ne (by omega), uz_ne (by omega), lay_lo h1, lay_lo h1, lay_lo h1, lay_lo h1]
    · split
      · unfold fnS
        generalize fstF _ _ _ = o
        rcases o with _ | l
        · show (lay (lay (lay z i 7 (nI 2)) i 9 _) i 11 _) k = z k
          rw [lay_lo h1, lay_lo h1, lay_lo h1]
        · show (rpl (lay (lay (lay z i 7 (nI 2)) i 9 _) i 11 _) b l) k = z k
          rw [rpl_lo ⟨h1, h2⟩, lay_lo h1, lay_lo h1, lay_lo h1]
      · rw [lay_lo h1, lay_lo h1]
theorem wkS_lo {z : Zt} {a b i k : Nat} (hk : Fx k) : (wkS z a b i) k = z k := by
  unfold wkS
  split
  · split
    · rw [fnF_lo hk, lay_lo hk.1]
    · rw [lay_lo hk.1]
  · rfl
theorem wkL_lo {a b k : Nat} (hk : Fx k) : ∀ {c i : Nat} {z : Zt}, (wkL a b c i z) k = z k := by
  intro c
  induction c with
  | zero => intro i z; rfl
  | succ c ih => intro i z; rw [wkL, ih, wkS_lo hk]
theorem cy2_lo {z : Zt} {k : Nat} (hk : Fx k) : (cy2 z) k = z k := wkL_lo hk
theorem stL_lo {a k : Nat} (hk : k < 36) : ∀ {c i w : Nat} {z : Zt}, (stL a c i w z) k = z k := by
  intro c
  induction c with
  | zero => intro i w z; rw [stL_n]
  | succ c ih =>
    intro i w z
    rcases w with _ | w
    · rw [stL_0]
    · rw [stL_s]
      split
      · rw [ih]; unfold stF; rw [lay_lo hk, lay_lo hk]
      · exact ih
theorem cy3_lo {z : Zt} {k : Nat} (hk : k < 36) : (cy3 z) k = z k := stL_lo hk
theorem isL_lo {a n w k : Nat} (hk : k < 36 ∧ ¬ k = 2) : ∀ {c b : Nat} {z : Zt}, (isL a n w c b z) k = z k := by
  intro c
  induction c with
  | zero => intro b z; rfl
  | succ c ih =>
    intro b z
    rw [isL_s]
    split
    · rw [ih]; unfold isF; rw [uz_ne hk.2, lay_lo hk.1]
    · rfl
theorem cy4_lo {z : Zt} {k : Nat} (hk : k < 36 ∧ ¬ k = 2) : (cy4 z) k = z k := isL_lo hk
theorem rtF_lo {z : Zt} {a b n k : Nat} (h0 : Inv z a b n) (hab : a < b) (hk : k < 12 ∧ ¬ k = 3 ∧ ¬ k = 6) : (rtF z a) k = z k := by
  have hb := h0.1.bnd
  unfold rtF
  rw [uz_ne hk.2.2, uz_ne hk.2.1, lay_lo (by omega)]
  split
  · rw [uz_ne (by omega)]
  · rw [uz_ne (by omega)]
theorem retL_lo {b n k : Nat} (hk : k < 12 ∧ ¬ k = 3 ∧ ¬ k = 6) : ∀ {c a : Nat} {z : Zt}, Inv z a b n → (retL c z) k = z k := by
  intro c
  induction c with
  | zero => intro a z _; rfl
  | succ c ih =>
    intro a z h
    unfold retL
    rw [h.1.i3, h.1.i2]
    by_cases hc : a < b ∧ pt z a 7 = nI 2
    · rw [if_pos hc, ih (Inv_rtF h hc.1 hc.2), rtF_lo h hc.1 hk]
    · rw [if_neg hc]
/-- the cycle's steps keep the numbers fit -/
theorem Inv_cyF {z : Zt} {a b n : Nat} (h0 : Inv z a b n) : ∃ a' b', a ≤ a' ∧ Inv (cy1 z) a' b n ∧ Inv (cy2 (cy1 z)) a' b n ∧ Inv (cy3 (cy2 (cy1 z))) a' b n ∧ b ≤ b' ∧ Inv (cyF z) a' b' n := by
  obtain ⟨a', ha, h1⟩ := Inv_retL (k := idx (z 11)) h0
  have h2 := Inv_cy2 h1
  have h3 : Inv (cy3 (cy2 (retL (idx (z 11)) z))) a' b n := by unfold cy3; rw [h2.1.i3]; exact Inv_stL h2
  obtain ⟨b', hb, h4⟩ := Inv_isL (w := idx ((cy3 (cy2 (retL (idx (z 11)) z))) 9)) (k := idx ((cy3 (cy2 (retL (idx (z 11)) z))) 10)) h3
  refine ⟨a', b', ha, h1, h2, h3, hb, ?_⟩
  unfold cyF cy4
  have e3 : idx ((cy3 (cy2 (cy1 z))) 3) = a' := h3.1.i3
  have e2 : idx ((cy3 (cy2 (cy1 z))) 2) = b := h3.1.i2
  have e1 : idx ((cy3 (cy2 (cy1 z))) 1) = n := h3.1.i1
  dsimp only
  rw [e3, e2, e1]
  exact ⟨h4.1.wc (by decide), h4.2.wu (by decide)⟩
theorem Wid.spec {v : Int32} {n : Nat} (h : Wid v n) (hn : n < 2147483648) : v = nI (idx v) ∧ 1 ≤ idx v ∧ idx v ≤ n := by
  obtain ⟨w, h1, h2, rfl⟩ := h
  rw [idx_nI (by omega)]; exact ⟨rfl, h1, h2⟩
theorem Inv0.w9 {z : Zt} {a b n : Nat} (h : Inv0 z a b n) : z 9 = nI (idx (z 9)) ∧ 1 ≤ idx (z 9) ∧ idx (z 9) ≤ 8 := h.2.2.2.2.1.1.spec (by decide)
theorem Inv0.w10 {z : Zt} {a b n : Nat} (h : Inv0 z a b n) : z 10 = nI (idx (z 10)) ∧ 1 ≤ idx (z 10) ∧ idx (z 10) ≤ 4 := h.2.2.2.2.1.2.1.spec (by decide)
theorem Inv0.w11 {z : Zt} {a b n : Nat} (h : Inv0 z a b n) : z 11 = nI (idx (z 11)) ∧ 1 ≤ idx (z 11) ∧ idx (z 11) ≤ 4 := h.2.2.2.2.1.2.2.spec (by decide)
theorem cyF_6 {z : Zt} : (cyF z) 6 = (cy1 z) 6 := by
  unfold cyF
  rw [uz_ne (by decide), cy4_lo (by decide), cy3_lo (by decide), cy2_lo ⟨by decide, by decide⟩]
theorem e_cycle {xs : Scr} {I : In2} {ρ : Rh} {Q : Post} {z : Zt} (hW : Rw ρ) {a b n : Nat} (h0 : Inv z a b n) : Ev xs 135 0 [.ref 245, .null, .null, .null] [] (pz I z, ρ) Q ↔ Q (.inl (some (.int ((cyF z) 6 - z 6) ))) (pz I (cyF z), ρ) := by
  apply Ev.dt; intro Q h; apply w_X5_cycle_0
  obtain ⟨a', b', ha, i1, i2, i3, hb, i4⟩ := Inv_cyF h0
  obtain ⟨w11, l11, u11⟩ := h0.1.w11
  refine e_cyc2 hW h0 (k := idx (z 11)) (r := 0) (by rw [Nat.zero_add]; exact w11) (by omega) fun a2 j1 => ?_
  have ea : a2 = a' := by
    have e1 := i1.1.i3
    rw [show cy1 z = retL (idx (z 11)) z from rfl, j1.1.i3] at e1
    exact e1
  subst ea
  change Ev xs 135 57 [.ref 245, .int (nI 0 + ((cy1 z) 6 - z 6)), .int (nI 0), .int (nI a2)] [] (pz I (cy2 (cy1 z)), ρ) Q
  obtain ⟨w10, l10, u10⟩ := i2.1.w10
  have hbb := i2.1.bnd
  refine e_cyc57 hW i2 (k := b - a2) (w := idx ((cy2 (cy1 z)) 10)) (Nat.le_refl _) (by omega) (by rw [Nat.zero_add]; exact w10) (by omega) fun y => ?_
  have e3 : stL a2 (b - a2) a2 (idx ((cy2 (cy1 z)) 10)) (cy2 (cy1 z)) = cy3 (cy2 (cy1 z)) := by unfold cy3; rw [i2.1.i3, i2.1.i2]
  rw [e3]
  obtain ⟨v10, m10, n10⟩ := i3.1.w10
  obtain ⟨v9, m9, n9⟩ := i3.1.w9
  refine e_cyc119 hW (w := idx ((cy3 (cy2 (cy1 z))) 9)) (k := idx ((cy3 (cy2 (cy1 z))) 10)) n9 i3 v9 (by rw [Nat.zero_add]; exact v10) (by omega) ?_
  have e4 : isL a2 n (idx ((cy3 (cy2 (cy1 z))) 9)) (idx ((cy3 (cy2 (cy1 z))) 10)) b (cy3 (cy2 (cy1 z))) = cy4 (cy3 (cy2 (cy1 z))) := by unfold cy4; rw [i3.1.i3, i3.1.i2, i3.1.i1]
  rw [e4, show nI 0 + ((cy1 z) 6 - z 6) = (cyF z) 6 - z 6 by rw [cyF_6]; exact Int32.zero_add _]
  exact h
