/-! the class's machine: replays, stores, loads, work -/
theorem Rel.wz {z : Zt} {a b n l : Nat} {c : In2} (h : Rel c z a b n) (hl : l ≤ b) {c' : In2} (hc : ∀ o k, c' o k = if 6 + l ≤ o ∧ o < 6 + b ∧ k = 7 then nI 0 else c o k) : Rel c' (zap (b - l) l z) a b n := by
  obtain ⟨k1, k2, k3, k4, k5, k6, k7⟩ := h
  have elo : ∀ o k, o < 6 → c' o k = c o k := fun o k ho => by rw [hc, if_neg (by omega)]
  have en : ∀ o k, ¬ k = 7 → c' o k = c o k := fun o k hk => by rw [hc, if_neg (by omega)]
  have e : ∀ k g, g < 12 → ¬ g = 7 → pt (zap (b - l) l z) k g = pt z k g := fun k g hg hgf => by rw [pt_zap hg, if_neg (by omega)]
  refine ⟨fun k hk => by rw [elo _ _ (by omega), zap_lo (by omega)]; exact k1 k hk, fun k hk => by rw [elo _ _ (by omega), zap_lo (by omega)]; exact k2 k hk, fun k hk => by rw [elo _ _ (by omega), zap_lo (by omega)]; exact k3 k hk, fun k hk => by rw [elo _ _ (by omega), zap_lo (by omega)]; exact k4 k hk, fun j f hj hf => by rw [en _ _ (by omega), e _ _ (by omega) (by omega)]; exact k5 j f hj hf, fun j h1 h2 => ?_, fun j h1 h2 => ?_⟩
  · by_cases hjl : l ≤ j
    · unfold Erl
      rw [hc, if_pos (by omega), pt_zap (by decide), if_pos (by omega)]
      exact ⟨rfl, fun h => absurd h (not_nI (by decide) (by decide) (by decide)), fun h => absurd h (not_nI (by decide) (by decide) (by decide))⟩
    · have := k6 j h1 h2
      unfold Erl at this ⊢
      rw [show c' (6 + j) 7 = c (6 + j) 7 by rw [hc, if_neg (by omega)], en _ 8 (by decide), en _ 13 (by decide), en _ 11 (by decide), en _ 12 (by decide), show pt (zap (b - l) l z) j 7 = pt z j 7 by rw [pt_zap (by decide), if_neg (by omega)], e _ 8 (by decide) (by decide), e _ 11 (by decide) (by decide), e _ 0 (by decide) (by decide), e _ 9 (by decide) (by decide), e _ 10 (by decide) (by decide)]
      exact this
  · rw [en _ _ (by decide), en _ _ (by decide), e _ _ (by decide) (by decide), e _ _ (by decide) (by decide)]
    exact ⟨(k7 j h1 h2).1.cg (fun k _ => mkP_congr (e _ _ (by decide) (by decide)) (e _ _ (by decide) (by decide))) (fun k _ => en _ _ (by decide)) (fun q hq => zap_lo (by omega)), (k7 j h1 h2).2.cg (fun k _ => mkP_congr (e _ _ (by decide) (by decide)) (e _ _ (by decide) (by decide))) (fun k _ => en _ _ (by decide)) (fun q hq => zap_lo (by omega))⟩
theorem k_replay42 {xs : Scr} {I : In2} {ρ : Rh} {m : Nat} (hW : Rw ρ) (hB : Bs m) {b : Nat} {p0 : Int32} {p1 : Nat} (hb : b ≤ 24) : ∀ {d k : Nat} {c : In2} {Q : Post}, c 0 7 = nI b → k + d = b →
    (∀ c', (∀ o j, c' o j = if 6 + k ≤ o ∧ o < 6 + b ∧ j = 7 then nI 0 else c o j) → Q (.inl none) (pc I m c', ρ)) → Ev xs 38 42 [.ref m, .int p0, .ref p1, .int (nI k)] [] (pc I m c, ρ) Q := by
  intro d
  induction d with
  | zero =>
    intro k c Q h7 hk h
    obtain rfl : k = b := hk
    apply w_X2_replay_42
    simp (maxSteps := 1000000) (disch := omega) only [↓QI_i, ↓QV_v, ↓QA_a, ↓QF_f, ↓QD_d, ↓QL_l, ↓Bool.cond_eq_ite, ↓reduceIte, decide_eq_true_eq, Bool.not_eq_true', Bool.true_and, Bool.and_true, Bool.and_self, gR_some, Option.getD_some, mI_def, setI_def, mR_def, not_false_eq_true, not_true_eq_false, Bool.false_eq_true, idx_nI, nI_add, pk_mul, icB_lt, icB_gt, icB_le, icB_ge, icB_eq, icB_ne, bI_ne, nI_eqI, gm_O hW hB, gm_N hW hB, gm_P hW hB, gm_R hW hB, gm_0 hW hB, gm_1 hW hB, gm_2 hW hB, gm_3 hW hB, gm_4 hW hB, gm_A hW hB, gm_B hW hB, gm_C hW hB, gm_D hW hB, gm_L hW hB, gm_l1 hB, gm_l3 hB, gm_l4 hB, gm_l5 hB, up2_pc, up2_pc0, pc_at, pc_at0, h7, Nat.le_refl]
    exact h c fun o j => by rw [if_neg (by omega)]
  | succ d ih =>
    intro k c Q h7 hk h
    have hki : ¬ b ≤ k := by omega
    apply w_X2_replay_42
    simp (maxSteps := 1000000) (disch := omega) only [↓QI_i, ↓QV_v, ↓QA_a, ↓QF_f, ↓QD_d, ↓QL_l, ↓Bool.cond_eq_ite, ↓reduceIte, decide_eq_true_eq, Bool.not_eq_true', Bool.true_and, Bool.and_true, Bool.and_self, gR_some, Option.getD_some, mI_def, setI_def, mR_def, not_false_eq_true, not_true_eq_false, Bool.false_eq_true, idx_nI, nI_add, pk_mul, icB_lt, icB_gt, icB_le, icB_ge, icB_eq, icB_ne, bI_ne, nI_eqI, gm_O hW hB, gm_N hW hB, gm_P hW hB, gm_R hW hB, gm_0 hW hB, gm_1 hW hB, gm_2 hW hB, gm_3 hW hB, gm_4 hW hB, gm_A hW hB, gm_B hW hB, gm_C hW hB, gm_D hW hB, gm_L hW hB, gm_l1 hB, gm_l3 hB, gm_l4 hB, gm_l5 hB, up2_pc, up2_pc0, pc_at, pc_at0, h7, hki, ↓k_at hW hB, k_at hW hB]
    refine ih (k := k + 1) (by rw [up2_ne (by omega)]; exact h7) (by omega) fun c' hc' => h c' fun o j => ?_
    rw [hc' o j]
    by_cases h1 : 6 + (k + 1) ≤ o ∧ o < 6 + b ∧ j = 7
    · rw [if_pos h1, if_pos (by omega)]
    · rw [if_neg h1]
      by_cases h2 : o = 6 + k ∧ j = 7
      · obtain ⟨rfl, rfl⟩ := h2; rw [up2_at, if_pos (by omega)]
      · rw [up2_ne h2, if_neg (by omega)]
theorem Rdy_rpl {z : Zt} {a b l : Nat} (h : Rdy z a b) (hl : l ≤ b) : Rdy (rpl z b l) a b := by
  unfold rpl
  exact Rdy.wz (Rdy.wl (Rdy.wl (Rdy.wu (Rdy.wu h (by decide)) (by decide)) (by decide)) (by decide)) hl
theorem Inv0_zap {a b n : Nat} : ∀ {d k : Nat} {z : Zt}, Inv0 z a b n → Inv0 (zap d k z) a b n := by
  intro d
  induction d with
  | zero => intro k z h; exact h
  | succ d ih => intro k z h; exact ih (h.wl (by decide) (fun h => by cases h) (fun h => by cases h))
theorem Inv0_rpl {z : Zt} {a b n l : Nat} (h : Inv0 z a b n) (hk : pt z l 0 = nI 3) : Inv0 (rpl z b l) a b n := by
  unfold rpl
  refine Inv0_zap ?_
  refine Inv0.wl (Inv0.wl ((h.wc (k := 4) (by decide)).wc (k := 5) (by decide)) (by decide) (fun _ _ => ⟨3, by decide, rfl, fun hne => ?_⟩) (fun h => by cases h)) (by decide) (fun h => by cases h) (fun h => by cases h)
  rw [pt_uz (by decide), pt_uz (by decide)] at hne
  exact absurd hk hne
theorem k_replay {xs : Scr} {I : In2} {ρ : Rh} {Q : Post} {m : Nat} {c : In2} (hW : Rw ρ) (hB : Bs m) {z : Zt} {a b n l : Nat} (hG : Big c z a b n) (ha : a ≤ l) (hl : l < b) (hk : pt z l 0 = nI 3) (h : ∀ c', Big c' (rpl z b l) a b n → Q (.inl none) (pc I m c', ρ)) : Ev xs 38 0 [.ref m, .int (nI l), .ref (m + (6 + l)), .null] [] (pc I m c, ρ) Q := by
  have hb := hG.1.bnd
  have h7 := hG.c7
  have hR := hG.2.2
  have h6 : c (6 + l) 6 = pt z l 6 := hR.row (by omega) (by decide)
  have h9 : c 0 9 = z 4 := hR.cyc (k := 4) (by decide)
  have h10 : c 0 10 = z 5 := hR.cyc (k := 5) (by decide)
  apply w_X2_replay_0
  simp (maxSteps := 1000000) (disch := omega) only [↓QI_i, ↓QV_v, ↓QA_a, ↓QF_f, ↓QD_d, ↓QL_l, ↓Bool.cond_eq_ite, ↓reduceIte, decide_eq_true_eq, Bool.not_eq_true', Bool.true_and, Bool.and_true, Bool.and_self, gR_some, Option.getD_some, mI_def, setI_def, mR_def, not_false_eq_true, not_true_eq_false, Bool.false_eq_true, idx_nI, nI_add, pk_mul, icB_lt, icB_gt, icB_le, icB_ge, icB_eq, icB_ne, bI_ne, nI_eqI, gm_O hW hB, gm_N hW hB, gm_P hW hB, gm_R hW hB, gm_0 hW hB, gm_1 hW hB, gm_2 hW hB, gm_3 hW hB, gm_4 hW hB, gm_A hW hB, gm_B hW hB, gm_C hW hB, gm_D hW hB, gm_L hW hB, gm_l1 hB, gm_l3 hB, gm_l4 hB, gm_l5 hB, up2_pc, up2_pc0, pc_at, pc_at0, up2_at, up2_ne, h7, h6, h9, h10]
  refine k_replay42 hW hB (b := b) (by omega) (d := b - l) (by simp (disch := omega) only [up2_ne]; exact h7) (by omega) fun c' hc' => h c' ⟨Inv0_rpl hG.1 hk, Rdy_rpl hG.2.1 (by omega), ?_⟩
  unfold rpl
  refine Rel.wz ?_ (by omega) hc'
  have e1 : Rel (up2 (up2 (up2 (up2 c (6 + l) 5 (nI 3)) (6 + l) 6 (pt z l 6 + nI 1)) 0 9 (z 4 + nI 1)) 0 10 (z 5 + (nI b - nI l))) (uz (uz (lay (lay z l 5 (nI 3)) l 6 (pt z l 6 + nI 1)) 4 (z 4 + nI 1)) 5 (z 5 + (nI b - nI l))) a b n := by
    refine Rel.cnt (Rel.cnt (Rel.chg hR ha (fun o k ho => by rw [up2_ne (by omega), up2_ne (by omega)]) (fun k hk => by rw [lay_lo hk, lay_lo hk]) (fun j f hj hf => by rw [pt_lj ⟨hj, by decide, hf⟩, pt_lj ⟨hj, by decide, hf⟩]) (fun f hf => ⟨by rw [up2_ne (by omega), up2_ne (by omega)], by rw [pt_ln ⟨by omega, by decide, by omega⟩, pt_ln ⟨by omega, by decide, by omega⟩]⟩) (fun _ => ⟨?_, ?_⟩) ⟨by rw [up2_ne (by omega), up2_ne (by omega)], by rw [up2_ne (by omega), up2_ne (by omega)]⟩ (fun hi => ?_)) ⟨by decide, rfl⟩) ⟨by decide, rfl⟩
    · rw [up2_ne (by omega), up2_at, pt_ln ⟨by decide, by decide, by decide⟩, pt_le]
    · rw [up2_at, pt_le]
    · have := hR.ent ha hi
      unfold Erl at this ⊢
      simp (disch := omega) only [up2_ne, pt_ln]
      exact this
  have e2 : (uz (uz (lay (lay z l 5 (nI 3)) l 6 (pt z l 6 + nI 1)) 4 (z 4 + nI 1)) 5 (z 5 + (nI b - nI l))) = lay (lay (uz (uz z 4 (z 4 + nI 1)) 5 (z 5 + (nI b - nI l))) l 5 (nI 3)) l 6 (pt z l 6 + nI 1) := by
    funext j
    unfold uz lay uz
    by_cases hj : j < 36
    · simp (disch := omega) only [show ¬ j = 36 + 12 * l + 5 by omega, show ¬ j = 36 + 12 * l + 6 by omega, if_false]
    · simp (disch := omega) only [show ¬ j = 4 by omega, show ¬ j = 5 by omega, if_false]
  rw [e2] at e1
  exact e1
theorem k_break4 {xs : Scr} {I : In2} {ρ : Rh} {m : Nat} {c : In2} (hW : Rw ρ) (hB : Bs m) {z : Zt} {a b n i cell : Nat} (hG : Big c z a b n) (ha : a ≤ i) (hib : i < b) (hc : pt z i 9 = nI cell) : ∀ {d k : Nat} {v4 : Value} {Q : Post}, i < k → k + d = b →
    (∀ c', Big c' (match fstF (brk z i) d k with | none => z | some l => rpl z b l) a b n → Q (.inl none) (pc I m c', ρ)) → Ev xs 37 4 [.ref m, .int (nI i), .int (nI cell), .int (nI k), v4] [] (pc I m c, ρ) Q := by
  have hb := hG.1.bnd
  have h7 := hG.c7
  have h8 := hG.c8
  have hR := hG.2.2
  intro d
  induction d with
  | zero =>
    intro k v4 Q hik hk h
    obtain rfl : k = b := hk
    apply w_X2_breakAlibis_4
    simp (maxSteps := 1000000) (disch := omega) only [↓QI_i, ↓QV_v, ↓QA_a, ↓QF_f, ↓QD_d, ↓QL_l, ↓Bool.cond_eq_ite, ↓reduceIte, decide_eq_true_eq, Bool.not_eq_true', Bool.true_and, Bool.and_true, Bool.and_self, gR_some, Option.getD_some, mI_def, setI_def, mR_def, not_false_eq_true, not_true_eq_false, Bool.false_eq_true, idx_nI, nI_add, pk_mul, icB_lt, icB_gt, icB_le, icB_ge, icB_eq, icB_ne, bI_ne, nI_eqI, gm_O hW hB, gm_N hW hB, gm_P hW hB, gm_R hW hB, gm_0 hW hB, gm_1 hW hB, gm_2 hW hB, gm_3 hW hB, gm_4 hW hB, gm_A hW hB, gm_B hW hB, gm_C hW hB, gm_D hW hB, gm_L hW hB, gm_l1 hB, gm_l3 hB, gm_l4 hB, gm_l5 hB, up2_pc, up2_pc0, pc_at, pc_at0, h7, Nat.le_refl]
    exact h c hG
  | succ d ih =>
    intro k v4 Q hik hk h
    have hki : ¬ b ≤ k := by omega
    have hbk : brk z i k = ((decide (pt z k 0 = nI 3) && (decide (pt z k 7 = nI 2) && decide (pt z k 9 = nI cell))) && !icB .ge (pt z k 10) (nI i)) := by unfold brk; rw [hc]
    unfold fstF at h
    apply w_X2_breakAlibis_4
    simp (maxSteps := 1000000) (disch := omega) only [↓QI_i, ↓QV_v, ↓QA_a, ↓QF_f, ↓QD_d, ↓QL_l, ↓Bool.cond_eq_ite, ↓reduceIte, decide_eq_true_eq, Bool.not_eq_true', Bool.true_and, Bool.and_true, Bool.and_self, gR_some, Option.getD_some, mI_def, setI_def, mR_def, not_false_eq_true, not_true_eq_false, Bool.false_eq_true, idx_nI, nI_add, pk_mul, icB_lt, icB_gt, icB_le, icB_ge, icB_eq, icB_ne, bI_ne, nI_eqI, gm_O hW hB, gm_N hW hB, gm_P hW hB, gm_R hW hB, gm_0 hW hB, gm_1 hW hB, gm_2 hW hB, gm_3 hW hB, gm_4 hW hB, gm_A hW hB, gm_B hW hB, gm_C hW hB, gm_D hW hB, gm_L hW hB, gm_l1 hB, gm_l3 hB, gm_l4 hB, gm_l5 hB, up2_pc, up2_pc0, pc_at, pc_at0, h7, hki, ↓k_at hW hB, k_at hW hB, ↓k_isDone hW hB h8 hb hR (show a ≤ k by omega) (show k < b by omega), k_isDone hW hB h8 hb hR (show a ≤ k by omega) (show k < b by omega)]
    by_cases e0 : pt z k 0 = nI 3
    · by_cases e7 : pt z k 7 = nI 2
      · have e := (hR.ent (i := k) (by omega) (by omega)).2.2 e7
        have e11 := e.2.1 (Or.inl e0)
        have e12 := e.2.2 e0
        simp [e0, e7]
        simp (disch := omega) only [↓QI_i, ↓QV_v, ↓QA_a, ↓QF_f, ↓QD_d, ↓QL_l, ↓Bool.cond_eq_ite, ↓reduceIte, decide_eq_true_eq, Bool.not_eq_true', Bool.true_and, Bool.and_true, Bool.and_self, gR_some, Option.getD_some, mI_def, setI_def, mR_def, not_false_eq_true, not_true_eq_false, Bool.false_eq_true, idx_nI, nI_add, pk_mul, icB_lt, icB_gt, icB_le, icB_ge, icB_eq, icB_ne, bI_ne, nI_eqI, gm_O hW hB, gm_N hW hB, gm_P hW hB, gm_R hW hB, gm_0 hW hB, gm_1 hW hB, gm_2 hW hB, gm_3 hW hB, gm_4 hW hB, gm_A hW hB, gm_B hW hB, gm_C hW hB, gm_D hW hB, gm_L hW hB, gm_l1 hB, gm_l3 hB, gm_l4 hB, gm_l5 hB, up2_pc, up2_pc0, pc_at, pc_at0, e11, e12]
        by_cases e9 : pt z k 9 = nI cell
        · simp [e9]
          by_cases e10 : icB .ge (pt z k 10) (nI i) = true
          · rw [if_pos e10]
            rw [show brk z i k = false by rw [hbk, e10]; simp, if_neg (by decide)] at h
            exact ih (by omega) (by omega) h
          · rw [if_neg e10]
            rw [show brk z i k = true by rw [hbk, e0, e7, e9, Bool.eq_false_iff.mpr e10]; simp, if_pos rfl] at h
            refine k_replay hW hB hG (by omega) (by omega) e0 fun c' hc' => ?_
            exact h c' hc'
        · simp [e9]
          rw [show brk z i k = false by rw [hbk]; simp [e9], if_neg (by decide)] at h
          exact ih (by omega) (by omega) h
      · simp [e0, e7]
        rw [show brk z i k = false by rw [hbk]; simp [e7], if_neg (by decide)] at h
        exact ih (by omega) (by omega) h
    · simp [e0]
      rw [show brk z i k = false by rw [hbk]; simp [e0], if_neg (by decide)] at h
      exact ih (by omega) (by omega) h

theorem opn_lay {z : Zt} {a i j f : Nat} {v : Int32} (hf : 1 ≤ f ∧ f < 12 ∧ (¬ f = 7 ∨ i ≤ j)) (hai : a ≤ i) : opn (lay z j f v) a i = opn z a i := by
  unfold opn
  refine anyB_congr fun k h1 h2 => ?_
  unfold opP
  rw [pt_ln ⟨by omega, by omega, by decide⟩]
  by_cases h7 : f = 7
  · rw [pt_lj ⟨by omega, by omega, by decide⟩]
  · rw [pt_ln ⟨by omega, by omega, by decide⟩]
theorem alP_lay {z : Zt} {i j f k : Nat} {v w : Int32} (hf : 1 ≤ f ∧ f < 12) (hkj : ¬ k = j) : alP (lay z j f v) w k = alP z w k := by
  unfold alP
  rw [pt_lj ⟨hkj, by omega, by decide⟩, pt_lj ⟨hkj, by omega, by decide⟩, pt_lj ⟨hkj, by omega, by decide⟩]
/-- what a LOAD's end comes to -/
def ldF (z : Zt) (a i cell : Nat) : Zt :=
  let al := lat (alP z (nI cell)) a i
  uz (uz (lay (lay (lay (lay z i 7 (nI 2)) i 9 (nI cell)) i 10 (oI al)) i 11 (match al with | none => z (20 + cell) | some k => pt z k 11)) 7 (z 7 + nI 1)) 8 (z 8 + bI (opn z a i))
theorem fnE_eq {z : Zt} {a i cell : Nat} (hai : a ≤ i) (hc : cell < 16) : fnE (lay z i 7 (nI 2)) a i cell = ldF z a i cell := by
  unfold fnE ldF
  have e1 : lat (alP (lay z i 7 (nI 2)) (nI cell)) a i = lat (alP z (nI cell)) a i := lat_congr fun k _ h2 => alP_lay (i := i) (by decide) (by omega)
  rw [e1, opn_lay (by omega) hai]
  cases lat (alP z (nI cell)) a i with
  | none => simp (disch := omega) only [lay_lo]
  | some k => simp (disch := omega) only [lay_lo, pt_ln]
theorem opn_uz {z : Zt} {a i k : Nat} {v : Int32} (hk : k < 36) : opn (uz z k v) a i = opn z a i := by
  unfold opn
  refine anyB_congr fun j h1 h2 => ?_
  unfold opP
  rw [pt_uz hk, pt_uz hk]
theorem Rdy_ldF {z : Zt} {a b i cell : Nat} (h : Rdy z a b) (h7 : ¬ pt z i 7 = nI 0) : Rdy (ldF z a i cell) a b := by
  unfold ldF
  exact Rdy.wu (Rdy.wu (Rdy.wl (Rdy.wl (Rdy.wl (Rdy.w7 h (Or.inl rfl) fun _ => Or.inl h7) (by decide)) (by decide)) (by decide)) (by decide)) (by decide)
theorem Inv0_ldF {z : Zt} {a b n i cell : Nat} (h : Inv0 z a b n) (hi : i < 24) (hc : cell < 16) : Inv0 (ldF z a i cell) a b n := by
  unfold ldF
  have hv : InR (match lat (alP z (nI cell)) a i with | none => z (20 + cell) | some k => pt z k 11) := by
    cases hl : lat (alP z (nI cell)) a i with
    | none => exact h.mem hc
    | some k => have := (lat_some hl).2.1; exact h.val (by omega)
  exact Inv0.wc (Inv0.wc (Inv0.wl (Inv0.wl (Inv0.wl (h.wl (by decide) (fun h => by cases h) (fun h => by cases h)) (by decide) (fun h => by cases h) (fun h => by cases h)) (by decide) (fun h => by cases h) (fun h => by cases h)) (by decide) (fun h => by cases h) (fun _ => hv)) (by decide)) (by decide)
theorem k_finishLoad {xs : Scr} {I : In2} {ρ : Rh} {Q : Post} {m : Nat} {c : In2} (hW : Rw ρ) (hB : Bs m) {z : Zt} {a b n i o : Nat} {p : Int32} (hG : Big c z a b n) (ha : a ≤ i) (hi : i < b) (h7 : ¬ pt z i 7 = nI 0) (hk : pt z i 0 = nI 3) (hp : InR p) (ho : o < 10) (hoe : pt z i 4 = nI o)
    (h : ∀ c', Big c' (ldF z a i (cellF p o)) a b n → Q (.inl none) (pc I m c', ρ)) : Ev xs 36 0 [.ref m, .int (nI i), .ref (m + (6 + i)), .int p] [] (pc I m (up2 c (6 + i) 7 (nI 2)), ρ) Q := by
  have hb := hG.1.bnd
  have h8 := hG.c8
  have hR := hG.2.2
  have h4 : c (6 + i) 4 = nI o := (hR.row (by omega) (by decide)).trans hoe
  have hcl := cellF_lt p o
  have hm : c 4 (cellF p o) = z (20 + cellF p o) := hR.mem hcl
  have h12 : c 0 12 = z 7 := hR.cyc (k := 7) (by decide)
  have h13 : c 0 13 = z 8 := hR.cyc (k := 8) (by decide)
  have fin : ∀ c', (∀ o k, ¬ o = 6 + i → ¬ (o = 0 ∧ (k = 12 ∨ k = 13)) → c' o k = c o k) → (∀ f, f < 7 ∨ f = 9 ∨ f = 10 → c' (6 + i) f = c (6 + i) f) → c' (6 + i) 7 = nI 2 → c' (6 + i) 11 = nI (cellF p o) → c' (6 + i) 12 = oI (lat (alP z (nI (cellF p o))) a i) →
      c' (6 + i) 13 = (match lat (alP z (nI (cellF p o))) a i with | none => z (20 + cellF p o) | some k => pt z k 11) → c' 0 12 = z 7 + nI 1 → c' 0 13 = z 8 + bI (opn z a i) → Q (.inl none) (pc I m c', ρ) := by
    intro c' q1 q2 q3 q4 q5 q6 q7 q8
    refine h c' ⟨Inv0_ldF hG.1 (by omega) hcl, Rdy_ldF hG.2.1 h7, ?_⟩
    have e : c' = up2 (up2 (fun o k => if o = 0 ∧ (k = 12 ∨ k = 13) then c o k else c' o k) 0 12 (z 7 + nI 1)) 0 13 (z 8 + bI (opn z a i)) := by
      funext o k
      by_cases hk1 : o = 0 ∧ k = 13
      · rw [hk1.1, hk1.2, up2_at]; exact q8
      · rw [up2_ne hk1]
        by_cases hk2 : o = 0 ∧ k = 12
        · rw [hk2.1, hk2.2, up2_at]; exact q7
        · rw [up2_ne hk2, if_neg (by omega)]
    rw [e]
    unfold ldF
    refine Rel.cnt (Rel.cnt (Rel.chg hR ha (fun o k ho => ?_) (fun k hk => by simp (disch := omega) only [lay_lo]) (fun j f hj hf => by simp (disch := omega) only [pt_lj]) (fun f hf => ⟨?_, by simp (disch := omega) only [pt_ln]⟩) (fun hin => ⟨?_, ?_⟩) ⟨?_, ?_⟩ (fun _ => ?_)) ⟨by decide, rfl⟩) ⟨by decide, rfl⟩
    · by_cases hk1 : o = 0 ∧ (k = 12 ∨ k = 13)
      · rw [if_pos hk1]
      · rw [if_neg hk1]; exact q1 o k ho hk1
    · rw [if_neg (by omega)]; exact q2 f (by omega)
    · rw [if_neg (by omega), q2 5 (by decide), hR.row hin (by decide)]; simp (disch := omega) only [pt_ln]
    · rw [if_neg (by omega), q2 6 (by decide), hR.row hin (by decide)]; simp (disch := omega) only [pt_ln]
    · rw [if_neg (by omega)]; exact q2 9 (by decide)
    · rw [if_neg (by omega)]; exact q2 10 (by decide)
    · unfold Erl
      simp (disch := omega) only [if_neg, pt_ln, pt_le]
      exact ⟨q3, fun e => absurd e (not_nI (by decide) (by decide) (by decide)), fun _ => ⟨q6, fun _ => q4, fun _ => q5⟩⟩
  have hR1 : Rel (up2 (up2 c (6 + i) 7 (nI 2)) (6 + i) 11 (nI (cellF p o))) z a i n := hR.shr ha (by omega) (fun o k ho => by simp (disch := omega) only [up2_ne]) (fun f hf => by simp (disch := omega) only [up2_ne])
  have hR2 : Rel (up2 (up2 (up2 (up2 (up2 c (6 + i) 7 (nI 2)) (6 + i) 11 (nI (cellF p o))) (6 + i) 12 (oI (lat (alP z (nI (cellF p o))) a i))) (6 + i) 13 (match lat (alP z (nI (cellF p o))) a i with | none => z (20 + cellF p o) | some k => pt z k 11)) 0 12 (z 7 + nI 1)) (uz z 7 (z 7 + nI 1)) a i n :=
    Rel.cnt (hR.shr ha (by omega) (fun o k ho => by simp (disch := omega) only [up2_ne]) (fun f hf => by simp (disch := omega) only [up2_ne])) ⟨by decide, rfl⟩
  apply w_X2_finishLoad_0
  cases hal : lat (alP z (nI (cellF p o))) a i with
  | none =>
    rw [hal] at fin hR2
    simp only [oI_none] at fin hR2
    simp (disch := omega) only [QI_i, QV_v, QA_a, mR_def, Option.getD_some, mI_def, idx_nI, setI_def, gm_0 hW hB, gm_1 hW hB, gm_2 hW hB, gm_3 hW hB, gm_4 hW hB, gm_O hW hB, gm_N hW hB, gm_P hW hB, gR_some, Bool.and_self, cond_true, cond_false, up2_pc, up2_pc0, pc_at, pc_at0, up2_at, up2_ne, h4]
    rw [e_placeOf hp ho]
    simp (disch := omega) only [QI_i, QV_v, QA_a, mR_def, Option.getD_some, mI_def, idx_nI, setI_def, gm_0 hW hB, gm_1 hW hB, gm_2 hW hB, gm_3 hW hB, gm_4 hW hB, gm_O hW hB, gm_N hW hB, gm_P hW hB, gR_some, Bool.and_self, cond_true, cond_false, up2_pc, up2_pc0, pc_at, pc_at0, up2_at, up2_ne]
    rw [k_latStore hW hB (by simp (disch := omega) only [up2_ne]; exact h8) (by omega) hR1 (Nat.le_refl i), hal]
    simp (disch := omega) only [QI_i, QV_v, QA_a, mR_def, Option.getD_some, mI_def, idx_nI, setI_def, gm_0 hW hB, gm_1 hW hB, gm_2 hW hB, gm_3 hW hB, gm_4 hW hB, gm_O hW hB, gm_N hW hB, gm_P hW hB, gR_some, Bool.and_self, cond_true, cond_false, up2_pc, up2_pc0, pc_at, pc_at0, up2_at, up2_ne, oI_none, icB_ne, not_true_eq_false, decide_false]
    rw [k_cellBits hW hB hcl]
    simp (disch := omega) only [QI_i, QV_v, QA_a, mR_def, Option.getD_some, mI_def, idx_nI, setI_def, gm_0 hW hB, gm_1 hW hB, gm_2 hW hB, gm_3 hW hB, gm_4 hW hB, gm_O hW hB, gm_N hW hB, gm_P hW hB, gR_some, Bool.and_self, cond_true, cond_false, up2_pc, up2_pc0, pc_at, pc_at0, up2_at, up2_ne, hm, h12]
    rw [k_hasOpen hW hB (by simp (disch := omega) only [up2_ne]; exact h8) (by omega) hR2 ha (Nat.le_refl i), opn_uz (by decide)]
    cases ho : opn z a i
    · rw [ho] at fin
      simp (disch := omega) only [QI_i, QV_v, QA_a, mR_def, Option.getD_some, mI_def, idx_nI, setI_def, gm_0 hW hB, gm_1 hW hB, gm_2 hW hB, gm_3 hW hB, gm_4 hW hB, gm_O hW hB, gm_N hW hB, gm_P hW hB, gR_some, Bool.and_self, cond_true, cond_false, up2_pc, up2_pc0, pc_at, pc_at0, up2_at, up2_ne, icB_eq, bI_f, decide_true]
      refine fin _ (fun o k h1 h2 => ?_) (fun f hf => ?_) ?_ ?_ ?_ ?_ ?_ ?_ <;> simp (disch := omega) only [up2_ne, up2_at]
      exact h13.trans (Int32.add_zero _).symm
    · rw [ho] at fin
      simp (disch := omega) only [QI_i, QV_v, QA_a, mR_def, Option.getD_some, mI_def, idx_nI, setI_def, gm_0 hW hB, gm_1 hW hB, gm_2 hW hB, gm_3 hW hB, gm_4 hW hB, gm_O hW hB, gm_N hW hB, gm_P hW hB, gR_some, Bool.and_self, cond_true, cond_false, up2_pc, up2_pc0, pc_at, pc_at0, up2_at, up2_ne, icB_eq, bI_ne, Bool.true_eq_false, decide_false, h13]
      refine fin _ (fun o k h1 h2 => ?_) (fun f hf => ?_) ?_ ?_ ?_ ?_ ?_ ?_ <;> simp (disch := omega) only [up2_ne, up2_at]
      rfl
  | some k =>
    have hkk := lat_some hal
    have hkM : ¬ nI k = nM := nM_ne (by omega)
    have hk7 : pt z k 7 = nI 2 := by
      have := hkk.2.2.1
      unfold alP at this
      by_cases h : pt z k 7 = nI 2
      · exact h
      · simp [h] at this
    have hk13 : c (6 + k) 13 = pt z k 11 := ((hR.ent (i := k) hkk.1 (by omega)).2.2 hk7).1
    rw [hal] at fin hR2
    simp only [oI_some] at fin hR2
    simp (disch := omega) only [QI_i, QV_v, QA_a, mR_def, Option.getD_some, mI_def, idx_nI, setI_def, gm_0 hW hB, gm_1 hW hB, gm_2 hW hB, gm_3 hW hB, gm_4 hW hB, gm_O hW hB, gm_N hW hB, gm_P hW hB, gR_some, Bool.and_self, cond_true, cond_false, up2_pc, up2_pc0, pc_at, pc_at0, up2_at, up2_ne, h4]
    rw [e_placeOf hp ho]
    simp (disch := omega) only [QI_i, QV_v, QA_a, mR_def, Option.getD_some, mI_def, idx_nI, setI_def, gm_0 hW hB, gm_1 hW hB, gm_2 hW hB, gm_3 hW hB, gm_4 hW hB, gm_O hW hB, gm_N hW hB, gm_P hW hB, gR_some, Bool.and_self, cond_true, cond_false, up2_pc, up2_pc0, pc_at, pc_at0, up2_at, up2_ne]
    rw [k_latStore hW hB (by simp (disch := omega) only [up2_ne]; exact h8) (by omega) hR1 (Nat.le_refl i), hal]
    simp (disch := omega) only [QI_i, QV_v, QA_a, mR_def, Option.getD_some, mI_def, idx_nI, setI_def, gm_0 hW hB, gm_1 hW hB, gm_2 hW hB, gm_3 hW hB, gm_4 hW hB, gm_O hW hB, gm_N hW hB, gm_P hW hB, gR_some, Bool.and_self, cond_true, cond_false, up2_pc, up2_pc0, pc_at, pc_at0, up2_at, up2_ne, oI_some, icB_ne, hkM, not_false_eq_true, decide_true]
    rw [k_at hW hB (show k < 24 by omega)]
    simp (disch := omega) only [QI_i, QV_v, QA_a, mR_def, Option.getD_some, mI_def, idx_nI, setI_def, gm_0 hW hB, gm_1 hW hB, gm_2 hW hB, gm_3 hW hB, gm_4 hW hB, gm_O hW hB, gm_N hW hB, gm_P hW hB, gR_some, Bool.and_self, cond_true, cond_false, up2_pc, up2_pc0, pc_at, pc_at0, up2_at, up2_ne, hk13, h12]
    rw [k_hasOpen hW hB (by simp (disch := omega) only [up2_ne]; exact h8) (by omega) hR2 ha (Nat.le_refl i), opn_uz (by decide)]
    cases ho : opn z a i
    · rw [ho] at fin
      simp (disch := omega) only [QI_i, QV_v, QA_a, mR_def, Option.getD_some, mI_def, idx_nI, setI_def, gm_0 hW hB, gm_1 hW hB, gm_2 hW hB, gm_3 hW hB, gm_4 hW hB, gm_O hW hB, gm_N hW hB, gm_P hW hB, gR_some, Bool.and_self, cond_true, cond_false, up2_pc, up2_pc0, pc_at, pc_at0, up2_at, up2_ne, icB_eq, bI_f, decide_true]
      refine fin _ (fun o k h1 h2 => ?_) (fun f hf => ?_) ?_ ?_ ?_ ?_ ?_ ?_ <;> simp (disch := omega) only [up2_ne, up2_at]
      exact h13.trans (Int32.add_zero _).symm
    · rw [ho] at fin
      simp (disch := omega) only [QI_i, QV_v, QA_a, mR_def, Option.getD_some, mI_def, idx_nI, setI_def, gm_0 hW hB, gm_1 hW hB, gm_2 hW hB, gm_3 hW hB, gm_4 hW hB, gm_O hW hB, gm_N hW hB, gm_P hW hB, gR_some, Bool.and_self, cond_true, cond_false, up2_pc, up2_pc0, pc_at, pc_at0, up2_at, up2_ne, icB_eq, bI_ne, Bool.true_eq_false, decide_false, h13]
      refine fin _ (fun o k h1 h2 => ?_) (fun f hf => ?_) ?_ ?_ ?_ ?_ ?_ ?_ <;> simp (disch := omega) only [up2_ne, up2_at]
      rfl

