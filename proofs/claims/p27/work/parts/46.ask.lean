/-! what is asked of both -/
def inB (p : Int32) (n : Nat) : Bool := !icB .lt p (nI 0) && icB .lt p (nI n)
theorem inB_t {p : Int32} {n : Nat} (hn : n < 2147483648) (h : inB p n = true) : ∃ j, j < n ∧ p = nI j := by
  unfold inB at h
  rw [Bool.and_eq_true, Bool.not_eq_true'] at h
  obtain ⟨h1, h2⟩ := h
  have h1 : ¬ p < nI 0 := of_decide_eq_false h1
  have h2 : p < nI n := of_decide_eq_true h2
  rcases pk_ix p (n := n) hn with e | e | e
  · exact absurd e h1
  · exact absurd h2 (Int32.not_lt.mpr e)
  · exact e
theorem inB_n {j n : Nat} (hn : n < 2147483648) (h : j < n) : inB (nI j) n = true := by
  unfold inB
  rw [icB_lt (by omega) (by decide), icB_lt (by omega) hn]
  simp [h]
theorem gt_pred {p : Int32} {n : Nat} (hn : n < 1073741824) : icB .gt p (nI n - nI 1) = !icB .lt p (nI n) := by
  show decide (nI n - nI 1 < p) = !decide (p < nI n)
  rw [← decide_not, decide_eq_decide, Int32.lt_iff_toInt_lt, Int32.lt_iff_toInt_lt, pk_sub_toInt (by omega) (by decide), nI_toInt (by omega)]
  omega
theorem gt_lit {p : Int32} {n m : Nat} (hn : n = m + 1) (hm : m < 1073741823) : icB .gt p (nI m) = !icB .lt p (nI n) := by
  subst hn
  rw [← gt_pred (by omega), nI_sub1]
theorem inB_def {p : Int32} {n : Nat} : (!icB .lt p (nI 0) && !!icB .lt p (nI n)) = inB p n := by unfold inB; simp
def xR (ρ : Rh) : Rh := (ρ.1, ρ.2.1, ρ.2.2.1, ρ.2.2.2 + 1)
theorem excM_def {I : In2} {ρ : Rh} : excM (I, ρ) = (I, xR ρ) := rfl
theorem Rw.x {ρ : Rh} (h : Rw ρ) : Rw (xR ρ) := h
theorem gNN {I : In2} {ρ : Rh} (h : Rw ρ) : Nat.ble 245 (mN (I, ρ)) = true := Nat.ble_eq_true_of_le h.1
theorem e_checkPlace {xs : Scr} {I : In2} {ρ : Rh} {Q : Post} (hW : Rw ρ) {t : Nat} {p : Int32} {n : Nat} : Ev xs 84 0 [.ref t, .int p, .int (nI n)] [] (I, ρ) Q ↔ (if inB p n = true then Q (.inl none) (I, ρ) else Q (.inr 1) (I, xR ρ)) := by
  constructor
  · intro h
    have := (Ev.dt (o := if inB p n = true then (.inl none) else (.inr 1)) (μ' := if inB p n = true then (I, ρ) else (I, xR ρ)) (xs := xs) (m := 84) (pc := 0) (L := [.ref t, .int p, .int (nI n)]) (st := []) (μ := (I, ρ)) (fun Q h => by
      apply w_X4_checkPlace_0
      rw [gNN hW, excM_def]
      revert h; unfold inB
      cases icB .lt p (nI 0) <;> cases icB .lt p (nI n) <;> simp) (Q := Q)).mp h
    revert this
    cases inB p n <;> simp
  · intro h
    apply w_X4_checkPlace_0
    rw [gNN hW, excM_def]
    revert h; unfold inB
    cases icB .lt p (nI 0) <;> cases icB .lt p (nI n) <;> simp
theorem e_checkWhat {xs : Scr} {I : In2} {ρ : Rh} {Q : Post} (hW : Rw ρ) {t : Nat} {p : Int32} {n : Nat} : (if inB p n = true then Q (.inl none) (I, ρ) else Q (.inr 2) (I, xR ρ)) → Ev xs 85 0 [.ref t, .int p, .int (nI n)] [] (I, ρ) Q := by
  intro h
  apply w_X4_checkWhat_0
  rw [gNN hW, excM_def]
  revert h; unfold inB
  cases icB .lt p (nI 0) <;> cases icB .lt p (nI n) <;> simp
/-! the numbers that count tells -/
def cnV (z : Zt) (a b n s : Nat) : Nat → Int32
  | 0 => z 0 | 1 => z 1 | 2 => nI (b - a) | 3 => z 2 | 4 => z 3 | 5 => z 4 | 6 => z 5 | 7 => z 6 | 8 => z 7 | 9 => z 8 | 10 => bI (decide (a = n)) | _ => nI s
theorem k_entries {xs : Scr} {I : In2} {ρ : Rh} {Q : Post} {m : Nat} {c : In2} (hW : Rw ρ) (hB : Bs m) {z : Zt} {a b n : Nat} (hG : Big c z a b n) : Ev xs 21 0 [.ref m] [] (pc I m c, ρ) Q ↔ Q (.inl (some (.int (nI (b - a)) ))) (pc I m c, ρ) := by
  have hb := hG.1.bnd
  have h8 := hG.c8
  have h7 := hG.c7
  apply Ev.dt; intro Q h; apply w_X2_entries_0
  try simp (disch := omega) only [mR_def, Option.getD_some, mI_def, idx_nI, setI_def, nI_add, pk_mul, gm_0 hW hB, gm_1 hW hB, gm_2 hW hB, gm_3 hW hB, gm_4 hW hB, up2_pc, up2_pc0, pc_at, pc_at0, h8, h7, pk_sub]
  simp (maxSteps := 1000000) (disch := omega) only [↓QI_i, ↓QV_v, ↓QA_a, ↓QF_f, ↓QD_d, ↓QL_l, ↓Bool.cond_eq_ite, ↓reduceIte, decide_eq_true_eq, Bool.not_eq_true', Bool.true_and, Bool.and_true, Bool.and_self, gR_some, Option.getD_some, mI_def, setI_def, mR_def, not_false_eq_true, not_true_eq_false, Bool.false_eq_true, idx_nI, nI_add, pk_mul, icB_lt, icB_gt, icB_le, icB_ge, icB_eq, icB_ne, bI_ne, nI_eqI, gm_O hW hB, gm_N hW hB, gm_P hW hB, gm_R hW hB, gm_0 hW hB, gm_1 hW hB, gm_2 hW hB, gm_3 hW hB, gm_4 hW hB, gm_A hW hB, gm_B hW hB, gm_C hW hB, gm_D hW hB, gm_L hW hB, gm_l1 hB, gm_l3 hB, gm_l4 hB, gm_l5 hB, up2_pc, up2_pc0, pc_at, pc_at0, h8, h7, pk_sub]
  exact h
theorem k_number {xs : Scr} {I : In2} {ρ : Rh} {Q : Post} {m : Nat} {c : In2} (hW : Rw ρ) (hB : Bs m) {z : Zt} {a b n w : Nat} (hG : Big c z a b n) (hw : w < 11) : Ev xs 23 0 [.ref m, .int (nI w)] [] (pc I m c, ρ) Q ↔ Q (.inl (some (.int (cnV z a b n 0 w) ))) (pc I m c, ρ) := by
  have q0 : c 0 5 = z 0 := hG.2.2.cyc (k := 0) (by decide)
  have q1 : c 0 6 = z 1 := hG.2.2.cyc (k := 1) (by decide)
  have q2 : c 0 7 = z 2 := hG.2.2.cyc (k := 2) (by decide)
  have q3 : c 0 8 = z 3 := hG.2.2.cyc (k := 3) (by decide)
  have q4 : c 0 9 = z 4 := hG.2.2.cyc (k := 4) (by decide)
  have q5 : c 0 10 = z 5 := hG.2.2.cyc (k := 5) (by decide)
  have q6 : c 0 11 = z 6 := hG.2.2.cyc (k := 6) (by decide)
  have q7 : c 0 12 = z 7 := hG.2.2.cyc (k := 7) (by decide)
  have q8 : c 0 13 = z 8 := hG.2.2.cyc (k := 8) (by decide)
  apply Ev.dt; intro Q h; apply w_X2_number_0
  have : w = 0 ∨ w = 1 ∨ w = 2 ∨ w = 3 ∨ w = 4 ∨ w = 5 ∨ w = 6 ∨ w = 7 ∨ w = 8 ∨ w = 9 ∨ w = 10 := by omega
  rcases this with e | e | e | e | e | e | e | e | e | e | e <;> subst e <;> unfold cnV at h
  all_goals try (simp (disch := omega) [QI_i, QV_v, QA_a, mR_def, Option.getD_some, mI_def, idx_nI, setI_def, gm_0 hW hB, gm_1 hW hB, gm_2 hW hB, gm_3 hW hB, gm_4 hW hB, gm_O hW hB, gm_N hW hB, gm_P hW hB, gR_some, Bool.and_self, cond_true, cond_false, up2_pc, up2_pc0, pc_at, pc_at0, up2_at, up2_ne, nI_eqI, q0, q1, q3, q4, q5, q6, q7, q8]; first | exact h | (rw [q2]; exact h) | skip)
  · rw [k_entries hW hB hG]; exact h
  · rw [k_isFin hW hB hG]
    revert h
    have n10 : ¬ nI 1 = nI 0 := not_nI (by decide) (by decide) (by decide)
    by_cases e : a = n <;> simp [e, QI_i, icB_eq, bI_ne, bI, n10]
theorem k_part {xs : Scr} {I : In2} {ρ : Rh} {Q : Post} {m : Nat} {c : In2} (hW : Rw ρ) (hB : Bs m) {z : Zt} {a b n i w : Nat} (hG : Big c z a b n) (hi : i < n) (hw : w < 7) : Ev xs 12 0 [.ref (m + (6 + i)), .int (nI w)] [] (pc I m c, ρ) Q ↔ Q (.inl (some (.int (pt z i w) ))) (pc I m c, ρ) := by
  have hb := hG.1.bnd
  have hi24 : i < 24 := by omega
  have q := fun f (hf : f < 7) => hG.2.2.row hi hf
  have gP : gO (pc I m c, ρ) (m + (6 + i)) 0 = true := gm_P hW hB hi24
  apply Ev.dt; intro Q h; apply w_X1_part_0
  rw [gP]
  have : w = 0 ∨ w = 1 ∨ w = 2 ∨ w = 3 ∨ w = 4 ∨ w = 5 ∨ w = 6 := by omega
  rcases this with e | e | e | e | e | e | e <;> subst e <;> rw [← q _ (by decide)] at h <;> simp (disch := omega) [mI_def, nI_eqI, pc_at] <;> exact h
/-! what entry tells -/
def epV (z : Zt) (a i : Nat) : Nat → Int32
  | 0 => nI i
  | 1 => pt z i 7
  | 2 => if pt z i 7 = nI 1 then pt z i 8 else nI 0
  | 3 => oI (mkr z a i (pt z i 2))
  | 4 => oI (mkr z a i (pt z i 3))
  | 5 => if pt z i 7 = nI 2 ∧ (pt z i 0 = nI 3 ∨ pt z i 0 = nI 4) then pt z i 9 else nM
  | 6 => if pt z i 7 = nI 2 ∧ pt z i 0 = nI 3 then pt z i 10 else nM
  | 7 => if pt z i 7 = nI 2 then pt z i 11 else nI 0
  | _ => rsn z a i
theorem mkr_hs1 {z : Zt} {a b n i : Nat} (h0 : Inv0 z a b n) (hi : i < n) (h : hs1 z i = false) : mkr z a i (pt z i 2) = none := by
  have hk : pt z i 0 = nI 0 := by
    unfold hs1 at h
    by_cases e : pt z i 0 = nI 0
    · exact e
    · simp [e] at h
  rw [((h0.row hi).1.k0 hk).1]; exact mkr_nM h0 (by omega)
theorem mkr_hs2 {z : Zt} {a b n i : Nat} (h0 : Inv0 z a b n) (hi : i < n) (h : hs2 z i = false) : mkr z a i (pt z i 3) = none := by
  have hw := (h0.row hi).1
  have : pt z i 3 = nM := by
    unfold hs2 at h
    by_cases e : pt z i 0 = nI 0
    · exact (hw.k0 e).2.1
    · by_cases e3 : pt z i 0 = nI 3
      · exact (hw.k3 e3).2.1
      · simp [e, e3] at h
  rw [this]; exact mkr_nM h0 (by omega)
theorem Nm.val {c : In2} {z : Zt} {a b n i : Nat} {nm p : Int32} (h : Nm c z a i nm p) (h0 : Inv0 z a b n) (hi : i ≤ n) : (if icB .ge nm (nI a) = true then nm else nM) = oI (mkr z a i p) := by
  have hb := h0.bnd
  rcases h with ⟨hp, hn⟩ | ⟨q, hq, hp, ⟨hn, hno⟩ | ⟨j, hj, hn, hno, hmk, hmade⟩⟩
  · subst hp; subst hn; rw [icB_ge_M (by omega), mkr_nM h0 hi]; rfl
  · subst hn; rw [icB_ge_M (by omega), show mkr z a i p = Option.none from lat_eq_none hno]; rfl
  · subst hn
    rw [icB_ge (by omega) (by omega)]
    by_cases hja : a ≤ j
    · rw [show mkr z a i p = some j from lat_eq_some hja hj (hmk hja) fun k h1 h2 => hno k (by omega) h1 h2, decide_eq_true hja]; rfl
    · rw [show mkr z a i p = Option.none from lat_eq_none fun k h1 h2 => hno k h1 (by omega) h2, decide_eq_false hja]; rfl
theorem k_property {xs : Scr} {I : In2} {ρ : Rh} {Q : Post} {m : Nat} {c : In2} (hW : Rw ρ) (hB : Bs m) {z : Zt} {a b n i w : Nat} (hG : Big c z a b n) (ha : a ≤ i) (hi : i < b) (hw : w < 9) : Ev xs 24 0 [.ref m, .int (nI i), .int (nI w), .null, .null] [] (pc I m c, ρ) Q ↔ Q (.inl (some (.int (epV z a i w) ))) (pc I m c, ρ) := by
  have hb := hG.1.bnd
  have hR := hG.2.2
  have h8 := hG.c8
  obtain ⟨n1, n2⟩ := hR.nms ha hi
  have v1 := n1.val hG.1 (by omega)
  have v2 := n2.val hG.1 (by omega)
  have st := hR.stg (i := i) ⟨ha, hi⟩
  have er := hR.ent ha hi
  have hi24 : i < 24 := by omega
  have gP : ∀ {I : In2}, gO (I, ρ) (m + (6 + i)) 0 = true := gm_P hW hB hi24
  have gM : ∀ {I : In2}, gO (I, ρ) m 1 = true := gm_O hW hB
  have d3 := fun (Q' : Post) => k_isDone hW hB h8 hb hR ha hi (w := nI 3) (Q := Q') (xs := xs) (I := I)
  have d4 := fun (Q' : Post) => k_isDone hW hB h8 hb hR ha hi (w := nI 4) (Q := Q') (xs := xs) (I := I)
  apply Ev.dt; intro Q h; apply w_X2_property_0
  rw [gM, cond_true, k_at hW hB hi24]
  have : w = 0 ∨ w = 1 ∨ w = 2 ∨ w = 3 ∨ w = 4 ∨ w = 5 ∨ w = 6 ∨ w = 7 ∨ w = 8 := by omega
  rcases this with e | e | e | e | e | e | e | e | e <;> subst e <;> unfold epV at h <;> by_cases e7 : pt z i 7 = nI 2
  case _ => simp (disch := omega) [QI_i, QV_v, QA_a, mR_def, Option.getD_some, mI_def, idx_nI, setI_def, gm_0 hW hB, gm_1 hW hB, gm_2 hW hB, gm_3 hW hB, gm_4 hW hB, gm_O hW hB, gm_N hW hB, gm_P hW hB, gR_some, Bool.and_self, cond_true, cond_false, up2_pc, up2_pc0, pc_at, pc_at0, up2_at, up2_ne, gP, gM, st, e7, nI_eqI, icB_ne] at h ⊢; exact h
  case _ => simp (disch := omega) [QI_i, QV_v, QA_a, mR_def, Option.getD_some, mI_def, idx_nI, setI_def, gm_0 hW hB, gm_1 hW hB, gm_2 hW hB, gm_3 hW hB, gm_4 hW hB, gm_O hW hB, gm_N hW hB, gm_P hW hB, gR_some, Bool.and_self, cond_true, cond_false, up2_pc, up2_pc0, pc_at, pc_at0, up2_at, up2_ne, gP, gM, st, e7, nI_eqI, icB_ne] at h ⊢; exact h
  case _ => simp (disch := omega) [QI_i, QV_v, QA_a, mR_def, Option.getD_some, mI_def, idx_nI, setI_def, gm_0 hW hB, gm_1 hW hB, gm_2 hW hB, gm_3 hW hB, gm_4 hW hB, gm_O hW hB, gm_N hW hB, gm_P hW hB, gR_some, Bool.and_self, cond_true, cond_false, up2_pc, up2_pc0, pc_at, pc_at0, up2_at, up2_ne, gP, gM, st, e7, nI_eqI, icB_ne] at h ⊢; exact h
  case _ => simp (disch := omega) [QI_i, QV_v, QA_a, mR_def, Option.getD_some, mI_def, idx_nI, setI_def, gm_0 hW hB, gm_1 hW hB, gm_2 hW hB, gm_3 hW hB, gm_4 hW hB, gm_O hW hB, gm_N hW hB, gm_P hW hB, gR_some, Bool.and_self, cond_true, cond_false, up2_pc, up2_pc0, pc_at, pc_at0, up2_at, up2_ne, gP, gM, st, e7, nI_eqI, icB_ne] at h ⊢; exact h
  case _ => simp (disch := omega) [QI_i, QV_v, QA_a, mR_def, Option.getD_some, mI_def, idx_nI, setI_def, gm_0 hW hB, gm_1 hW hB, gm_2 hW hB, gm_3 hW hB, gm_4 hW hB, gm_O hW hB, gm_N hW hB, gm_P hW hB, gR_some, Bool.and_self, cond_true, cond_false, up2_pc, up2_pc0, pc_at, pc_at0, up2_at, up2_ne, gP, gM, st, e7, nI_eqI, icB_ne] at h ⊢; exact h
  case _ =>
    by_cases e1 : pt z i 7 = nI 1
    · have := er.2.1 e1
      simp (disch := omega) [QI_i, QV_v, QA_a, mR_def, Option.getD_some, mI_def, idx_nI, setI_def, gm_0 hW hB, gm_1 hW hB, gm_2 hW hB, gm_3 hW hB, gm_4 hW hB, gm_O hW hB, gm_N hW hB, gm_P hW hB, gR_some, Bool.and_self, cond_true, cond_false, up2_pc, up2_pc0, pc_at, pc_at0, up2_at, up2_ne, gP, gM, st, e7, e1, this, nI_eqI, icB_ne] at h ⊢; exact h
    · simp (disch := omega) [QI_i, QV_v, QA_a, mR_def, Option.getD_some, mI_def, idx_nI, setI_def, gm_0 hW hB, gm_1 hW hB, gm_2 hW hB, gm_3 hW hB, gm_4 hW hB, gm_O hW hB, gm_N hW hB, gm_P hW hB, gR_some, Bool.and_self, cond_true, cond_false, up2_pc, up2_pc0, pc_at, pc_at0, up2_at, up2_ne, gP, gM, st, e7, e1, nI_eqI, icB_ne] at h ⊢; exact h
  case _ =>
    rw [← v1] at h
    revert h
    cases hc : icB .ge (c (6 + i) 9) (nI a) <;> simp (disch := omega) [QI_i, QV_v, QA_a, mR_def, Option.getD_some, mI_def, idx_nI, setI_def, gm_0 hW hB, gm_1 hW hB, gm_2 hW hB, gm_3 hW hB, gm_4 hW hB, gm_O hW hB, gm_N hW hB, gm_P hW hB, gR_some, Bool.and_self, cond_true, cond_false, up2_pc, up2_pc0, pc_at, pc_at0, up2_at, up2_ne, gP, gM, st, e7, nI_eqI, icB_ne, h8, hc]
  case _ =>
    rw [← v1] at h
    revert h
    cases hc : icB .ge (c (6 + i) 9) (nI a) <;> simp (disch := omega) [QI_i, QV_v, QA_a, mR_def, Option.getD_some, mI_def, idx_nI, setI_def, gm_0 hW hB, gm_1 hW hB, gm_2 hW hB, gm_3 hW hB, gm_4 hW hB, gm_O hW hB, gm_N hW hB, gm_P hW hB, gR_some, Bool.and_self, cond_true, cond_false, up2_pc, up2_pc0, pc_at, pc_at0, up2_at, up2_ne, gP, gM, st, e7, nI_eqI, icB_ne, h8, hc]
  case _ =>
    rw [← v2] at h
    revert h
    cases hc : icB .ge (c (6 + i) 10) (nI a) <;> simp (disch := omega) [QI_i, QV_v, QA_a, mR_def, Option.getD_some, mI_def, idx_nI, setI_def, gm_0 hW hB, gm_1 hW hB, gm_2 hW hB, gm_3 hW hB, gm_4 hW hB, gm_O hW hB, gm_N hW hB, gm_P hW hB, gR_some, Bool.and_self, cond_true, cond_false, up2_pc, up2_pc0, pc_at, pc_at0, up2_at, up2_ne, gP, gM, st, e7, nI_eqI, icB_ne, h8, hc]
  case _ =>
    rw [← v2] at h
    revert h
    cases hc : icB .ge (c (6 + i) 10) (nI a) <;> simp (disch := omega) [QI_i, QV_v, QA_a, mR_def, Option.getD_some, mI_def, idx_nI, setI_def, gm_0 hW hB, gm_1 hW hB, gm_2 hW hB, gm_3 hW hB, gm_4 hW hB, gm_O hW hB, gm_N hW hB, gm_P hW hB, gR_some, Bool.and_self, cond_true, cond_false, up2_pc, up2_pc0, pc_at, pc_at0, up2_at, up2_ne, gP, gM, st, e7, nI_eqI, icB_ne, h8, hc]
  case _ =>
    have q := er.2.2 e7
    by_cases e3 : pt z i 0 = nI 3 <;> by_cases e4 : pt z i 0 = nI 4
    · have := q.2.1 (Or.inl e3)
      simp (disch := omega) [QI_i, QV_v, QA_a, mR_def, Option.getD_some, mI_def, idx_nI, setI_def, gm_0 hW hB, gm_1 hW hB, gm_2 hW hB, gm_3 hW hB, gm_4 hW hB, gm_O hW hB, gm_N hW hB, gm_P hW hB, gR_some, Bool.and_self, cond_true, cond_false, up2_pc, up2_pc0, pc_at, pc_at0, up2_at, up2_ne, gP, gM, st, e7, e3, e4, nI_eqI, icB_ne, icB_eq, d3, d4, bI, this] at h ⊢; exact h
    · have := q.2.1 (Or.inl e3)
      simp (disch := omega) [QI_i, QV_v, QA_a, mR_def, Option.getD_some, mI_def, idx_nI, setI_def, gm_0 hW hB, gm_1 hW hB, gm_2 hW hB, gm_3 hW hB, gm_4 hW hB, gm_O hW hB, gm_N hW hB, gm_P hW hB, gR_some, Bool.and_self, cond_true, cond_false, up2_pc, up2_pc0, pc_at, pc_at0, up2_at, up2_ne, gP, gM, st, e7, e3, e4, nI_eqI, icB_ne, icB_eq, d3, d4, bI, this] at h ⊢; exact h
    · have := q.2.1 (Or.inr e4)
      simp (disch := omega) [QI_i, QV_v, QA_a, mR_def, Option.getD_some, mI_def, idx_nI, setI_def, gm_0 hW hB, gm_1 hW hB, gm_2 hW hB, gm_3 hW hB, gm_4 hW hB, gm_O hW hB, gm_N hW hB, gm_P hW hB, gR_some, Bool.and_self, cond_true, cond_false, up2_pc, up2_pc0, pc_at, pc_at0, up2_at, up2_ne, gP, gM, st, e7, e3, e4, nI_eqI, icB_ne, icB_eq, d3, d4, bI, this] at h ⊢; exact h
    · simp (disch := omega) [QI_i, QV_v, QA_a, mR_def, Option.getD_some, mI_def, idx_nI, setI_def, gm_0 hW hB, gm_1 hW hB, gm_2 hW hB, gm_3 hW hB, gm_4 hW hB, gm_O hW hB, gm_N hW hB, gm_P hW hB, gR_some, Bool.and_self, cond_true, cond_false, up2_pc, up2_pc0, pc_at, pc_at0, up2_at, up2_ne, gP, gM, st, e7, e3, e4, nI_eqI, icB_ne, icB_eq, d3, d4, bI] at h ⊢; exact h
  case _ => simp (disch := omega) [QI_i, QV_v, QA_a, mR_def, Option.getD_some, mI_def, idx_nI, setI_def, gm_0 hW hB, gm_1 hW hB, gm_2 hW hB, gm_3 hW hB, gm_4 hW hB, gm_O hW hB, gm_N hW hB, gm_P hW hB, gR_some, Bool.and_self, cond_true, cond_false, up2_pc, up2_pc0, pc_at, pc_at0, up2_at, up2_ne, gP, gM, st, e7, nI_eqI, icB_ne, icB_eq, d3, d4, bI] at h ⊢; exact h
  case _ =>
    have q := er.2.2 e7
    by_cases e3 : pt z i 0 = nI 3
    · have := q.2.2 e3
      simp (disch := omega) [QI_i, QV_v, QA_a, mR_def, Option.getD_some, mI_def, idx_nI, setI_def, gm_0 hW hB, gm_1 hW hB, gm_2 hW hB, gm_3 hW hB, gm_4 hW hB, gm_O hW hB, gm_N hW hB, gm_P hW hB, gR_some, Bool.and_self, cond_true, cond_false, up2_pc, up2_pc0, pc_at, pc_at0, up2_at, up2_ne, gP, gM, st, e7, e3, nI_eqI, icB_ne, icB_eq, d3, bI, this] at h ⊢; exact h
    · simp (disch := omega) [QI_i, QV_v, QA_a, mR_def, Option.getD_some, mI_def, idx_nI, setI_def, gm_0 hW hB, gm_1 hW hB, gm_2 hW hB, gm_3 hW hB, gm_4 hW hB, gm_O hW hB, gm_N hW hB, gm_P hW hB, gR_some, Bool.and_self, cond_true, cond_false, up2_pc, up2_pc0, pc_at, pc_at0, up2_at, up2_ne, gP, gM, st, e7, e3, nI_eqI, icB_ne, icB_eq, d3, bI] at h ⊢; exact h
  case _ => simp (disch := omega) [QI_i, QV_v, QA_a, mR_def, Option.getD_some, mI_def, idx_nI, setI_def, gm_0 hW hB, gm_1 hW hB, gm_2 hW hB, gm_3 hW hB, gm_4 hW hB, gm_O hW hB, gm_N hW hB, gm_P hW hB, gR_some, Bool.and_self, cond_true, cond_false, up2_pc, up2_pc0, pc_at, pc_at0, up2_at, up2_ne, gP, gM, st, e7, nI_eqI, icB_ne, icB_eq, d3, bI] at h ⊢; exact h
  case _ =>
    have q := (er.2.2 e7).1
    simp (disch := omega) [QI_i, QV_v, QA_a, mR_def, Option.getD_some, mI_def, idx_nI, setI_def, gm_0 hW hB, gm_1 hW hB, gm_2 hW hB, gm_3 hW hB, gm_4 hW hB, gm_O hW hB, gm_N hW hB, gm_P hW hB, gR_some, Bool.and_self, cond_true, cond_false, up2_pc, up2_pc0, pc_at, pc_at0, up2_at, up2_ne, gP, gM, st, e7, nI_eqI, icB_ne, icB_eq, q] at h ⊢; exact h
  case _ => simp (disch := omega) [QI_i, QV_v, QA_a, mR_def, Option.getD_some, mI_def, idx_nI, setI_def, gm_0 hW hB, gm_1 hW hB, gm_2 hW hB, gm_3 hW hB, gm_4 hW hB, gm_O hW hB, gm_N hW hB, gm_P hW hB, gR_some, Bool.and_self, cond_true, cond_false, up2_pc, up2_pc0, pc_at, pc_at0, up2_at, up2_ne, gP, gM, st, e7, nI_eqI, icB_ne, icB_eq] at h ⊢; exact h
  case _ => simp (disch := omega) [QI_i, QV_v, QA_a, mR_def, Option.getD_some, mI_def, idx_nI, setI_def, gm_0 hW hB, gm_1 hW hB, gm_2 hW hB, gm_3 hW hB, gm_4 hW hB, gm_O hW hB, gm_N hW hB, gm_P hW hB, gR_some, Bool.and_self, cond_true, cond_false, up2_pc, up2_pc0, pc_at, pc_at0, up2_at, up2_ne, gP, gM, st, e7, nI_eqI, icB_ne] at h ⊢; rw [k_hind hW hB hG ha hi]; exact h
  case _ => simp (disch := omega) [QI_i, QV_v, QA_a, mR_def, Option.getD_some, mI_def, idx_nI, setI_def, gm_0 hW hB, gm_1 hW hB, gm_2 hW hB, gm_3 hW hB, gm_4 hW hB, gm_O hW hB, gm_N hW hB, gm_P hW hB, gR_some, Bool.and_self, cond_true, cond_false, up2_pc, up2_pc0, pc_at, pc_at0, up2_at, up2_ne, gP, gM, st, e7, nI_eqI, icB_ne] at h ⊢; rw [k_hind hW hB hG ha hi]; exact h

