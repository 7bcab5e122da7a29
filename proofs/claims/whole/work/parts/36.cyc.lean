/-! the reference's stores, work, starts, issues: the cycle -/
theorem e_isBroken {xs : Scr} {I : In2} {ρ : Rh} {Q : Post} {z : Zt} (hW : Rw ρ) {l st : Nat} (hl : l < 24) (hst : st < 24) : Ev xs 128 0 [.ref 245, .int (nI l), .int (nI st), .null] [] (pz I z, ρ) Q ↔ Q (.inl (some (.int (bI (brk z st l)) ))) (pz I z, ρ) := by
  apply Ev.dt; intro Q h
  apply w_X5_isBroken_0
  revert h
  unfold brk
  by_cases h0 : pt z l 0 = nI 3 <;> by_cases h7 : pt z l 7 = nI 2 <;> by_cases h9 : pt z l 9 = pt z st 9 <;> cases hg : icB .ge (pt z l 10) (nI st) <;>
    (simp (maxSteps := 1000000) (disch := omega) only [↓QI_i, ↓QV_v, ↓QA_a, ↓QF_f, ↓QD_d, ↓QL_l, ↓Bool.cond_eq_ite, ↓reduceIte, decide_eq_true_eq, Bool.not_eq_true', Bool.true_and, Bool.and_true, Bool.and_self, gR_some, Option.getD_some, mI_def, setI_def, mR_def, not_false_eq_true, not_true_eq_false, Bool.false_eq_true, idx_nI, nI_add, pk_mul, icB_lt, icB_gt, icB_le, icB_ge, icB_eq, icB_ne, bI_ne, nI_eqI, gz_O hW, gz_R0 hW, gz_A hW, up2_pz, pz_at, ↓e_of hW, e_of hW, h0, h7, h9, hg]; simp [h0, h7, h9, bI])
theorem e_zap {xs : Scr} {I : In2} {ρ : Rh} (hW : Rw ρ) {b p0 : Nat} {v2 : Int32} (hb : b ≤ 24) : ∀ {d k : Nat} {z : Zt} {Q : Post}, z 2 = nI b → k + d = b → Q (.inl none) (pz I (zap d k z), ρ) → Ev xs 129 136 [.ref 245, .int (nI p0), .int v2, .int (nI k)] [] (pz I z, ρ) Q := by
  intro d
  induction d with
  | zero =>
    intro k z Q h2 hk h
    obtain rfl : k = b := hk
    apply w_X5_finishStore_136
    simp (maxSteps := 1000000) (disch := omega) only [↓QI_i, ↓QV_v, ↓QA_a, ↓QF_f, ↓QD_d, ↓QL_l, ↓Bool.cond_eq_ite, ↓reduceIte, decide_eq_true_eq, Bool.not_eq_true', Bool.true_and, Bool.and_true, Bool.and_self, gR_some, Option.getD_some, mI_def, setI_def, mR_def, not_false_eq_true, not_true_eq_false, Bool.false_eq_true, idx_nI, nI_add, pk_mul, icB_lt, icB_gt, icB_le, icB_ge, icB_eq, icB_ne, bI_ne, nI_eqI, gz_O hW, gz_R0 hW, gz_A hW, up2_pz, pz_at, h2, Nat.le_refl]
    exact h
  | succ d ih =>
    intro k z Q h2 hk h
    have hki : ¬ b ≤ k := by omega
    apply w_X5_finishStore_136
    simp (maxSteps := 1000000) (disch := omega) only [↓QI_i, ↓QV_v, ↓QA_a, ↓QF_f, ↓QD_d, ↓QL_l, ↓Bool.cond_eq_ite, ↓reduceIte, decide_eq_true_eq, Bool.not_eq_true', Bool.true_and, Bool.and_true, Bool.and_self, gR_some, Option.getD_some, mI_def, setI_def, mR_def, not_false_eq_true, not_true_eq_false, Bool.false_eq_true, idx_nI, nI_add, pk_mul, icB_lt, icB_gt, icB_le, icB_ge, icB_eq, icB_ne, bI_ne, nI_eqI, gz_O hW, gz_R0 hW, gz_A hW, up2_pz, pz_at, h2, hki, ↓e_lay hW, e_lay hW]
    exact ih (by rw [lay_lo (by decide)]; exact h2) (by omega) h
theorem e_fs49 {xs : Scr} {I : In2} {ρ : Rh} {z : Zt} (hW : Rw ρ) {b i : Nat} (hb : b ≤ 24) (hi : i < 24) (h2 : z 2 = nI b) : ∀ {d k : Nat} {v3 : Value} {Q : Post}, k + d = b → Q (.inl none) (pz I (match fstF (brk z i) d k with | none => z | some l => rpl z b l), ρ) → Ev xs 129 49 [.ref 245, .int (nI i), .int (nI k), v3] [] (pz I z, ρ) Q := by
  intro d
  induction d with
  | zero =>
    intro k v3 Q hk h
    obtain rfl : k = b := hk
    apply w_X5_finishStore_49
    simp (maxSteps := 1000000) (disch := omega) only [↓QI_i, ↓QV_v, ↓QA_a, ↓QF_f, ↓QD_d, ↓QL_l, ↓Bool.cond_eq_ite, ↓reduceIte, decide_eq_true_eq, Bool.not_eq_true', Bool.true_and, Bool.and_true, Bool.and_self, gR_some, Option.getD_some, mI_def, setI_def, mR_def, not_false_eq_true, not_true_eq_false, Bool.false_eq_true, idx_nI, nI_add, pk_mul, icB_lt, icB_gt, icB_le, icB_ge, icB_eq, icB_ne, bI_ne, nI_eqI, gz_O hW, gz_R0 hW, gz_A hW, up2_pz, pz_at, h2, Nat.le_refl]
    exact h
  | succ d ih =>
    intro k v3 Q hk h
    have hki : ¬ b ≤ k := by omega
    unfold fstF at h
    apply w_X5_finishStore_49
    cases hbr : brk z i k with
    | true =>
      rw [hbr, if_pos rfl] at h
      simp (maxSteps := 1000000) (disch := omega) only [↓QI_i, ↓QV_v, ↓QA_a, ↓QF_f, ↓QD_d, ↓QL_l, ↓Bool.cond_eq_ite, ↓reduceIte, decide_eq_true_eq, Bool.not_eq_true', Bool.true_and, Bool.and_true, Bool.and_self, gR_some, Option.getD_some, mI_def, setI_def, mR_def, not_false_eq_true, not_true_eq_false, Bool.false_eq_true, idx_nI, nI_add, pk_mul, icB_lt, icB_gt, icB_le, icB_ge, icB_eq, icB_ne, bI_ne, nI_eqI, gz_O hW, gz_R0 hW, gz_A hW, up2_pz, pz_at, uz_at, uz_ne, pt_uz, lay_lo, pt_le, pt_ln, pt_lj, h2, hki, ↓e_isBroken hW, e_isBroken hW, hbr, Bool.true_eq_false, ↓e_lay hW, e_lay hW, ↓e_of hW, e_of hW]
      refine e_zap hW hb (d := b - k) ?_ (by omega) ?_
      · simp (disch := omega) only [uz_at, uz_ne, pt_uz, lay_lo, pt_le, pt_ln, pt_lj]; exact h2
      · exact h
    | false =>
      rw [hbr, if_neg (by decide)] at h
      simp (maxSteps := 1000000) (disch := omega) only [↓QI_i, ↓QV_v, ↓QA_a, ↓QF_f, ↓QD_d, ↓QL_l, ↓Bool.cond_eq_ite, ↓reduceIte, decide_eq_true_eq, Bool.not_eq_true', Bool.true_and, Bool.and_true, Bool.and_self, gR_some, Option.getD_some, mI_def, setI_def, mR_def, not_false_eq_true, not_true_eq_false, Bool.false_eq_true, idx_nI, nI_add, pk_mul, icB_lt, icB_gt, icB_le, icB_ge, icB_eq, icB_ne, bI_ne, nI_eqI, gz_O hW, gz_R0 hW, gz_A hW, up2_pz, pz_at, h2, hki, ↓e_isBroken hW, e_isBroken hW, hbr]
      exact ih (by omega) h
theorem e_finishStore {xs : Scr} {I : In2} {ρ : Rh} {Q : Post} {z : Zt} (hW : Rw ρ) {a b n i : Nat} (h0 : Inv0 z a b n) (hi : i < b) (hk : pt z i 0 = nI 4) : Ev xs 129 0 [.ref 245, .int (nI i), .null, .null] [] (pz I z, ρ) Q ↔ Q (.inl none) (pz I (fnS z a b i), ρ) := by
  have hb := h0.bnd
  obtain ⟨⟨p, hp, hpe⟩, ⟨q, hq, hqe⟩, o, ho, hoe⟩ := (h0.row (i := i) (by omega)).1.k4 hk
  have h3 := h0.h3
  have h2 := h0.h2
  have hv := vlO_InR h0 (i := i) (q := p) (by omega) hp
  have hb3 : ∀ c, (lay z i 9 (nI c)) 3 = nI a := fun c => by rw [lay_lo (by decide)]; exact h3
  apply Ev.dt; intro Q h; apply w_X5_finishStore_0
  try simp (disch := omega) only [mR_def, Option.getD_some, mI_def, idx_nI, setI_def, nI_add, pk_mul, gz_R0 hW, pz_at, up2_pz, hpe, hoe, hqe]
  simp (maxSteps := 1000000) (disch := omega) only [↓QI_i, ↓QV_v, ↓QA_a, ↓QF_f, ↓QD_d, ↓QL_l, ↓Bool.cond_eq_ite, ↓reduceIte, decide_eq_true_eq, Bool.not_eq_true', Bool.true_and, Bool.and_true, Bool.and_self, gR_some, Option.getD_some, mI_def, setI_def, mR_def, not_false_eq_true, not_true_eq_false, Bool.false_eq_true, idx_nI, nI_add, pk_mul, icB_lt, icB_gt, icB_le, icB_ge, icB_eq, icB_ne, bI_ne, nI_eqI, gz_O hW, gz_R0 hW, gz_A hW, up2_pz, pz_at, uz_at, uz_ne, pt_uz, lay_lo, pt_le, pt_ln, pt_lj, ↓e_of hW, e_of hW, hpe, ↓e_valueOf hW h3, e_valueOf hW h3, hoe, ↓e_cellOf hv, e_cellOf hv, ↓e_lay hW, e_lay hW, hqe, ↓e_valueOf hW (hb3 _), e_valueOf hW (hb3 _)]
  refine e_fs49 hW (b := b) (i := i) (by omega) (by omega) ?_ (d := b - (i + 1)) (by omega) ?_
  · simp (disch := omega) only [uz_at, uz_ne, pt_uz, lay_lo, pt_le, pt_ln, pt_lj]; exact h2
  · simp (disch := omega) only [fnS, hpe, hqe, hoe, idx_nI] at h
    exact h
theorem e_finishLoad {xs : Scr} {I : In2} {ρ : Rh} {Q : Post} {z : Zt} (hW : Rw ρ) {a b n i : Nat} (h0 : Inv0 z a b n) (ha : a ≤ i) (hi : i < b) (hk : pt z i 0 = nI 3) : Ev xs 127 0 [.ref 245, .int (nI i), .null, .null, .null, .null, .null] [] (pz I z, ρ) Q ↔ Q (.inl none) (pz I (fnL z a i), ρ) := by
  have hb := h0.bnd
  obtain ⟨⟨p, hp, hpe⟩, -, o, ho, hoe⟩ := (h0.row (i := i) (by omega)).1.k3 hk
  have h3 := h0.h3
  have hv := vlO_InR h0 (i := i) (q := p) (by omega) hp
  apply Ev.dt; intro Q h; apply w_X5_finishLoad_0
  try simp (disch := omega) only [mR_def, Option.getD_some, mI_def, idx_nI, setI_def, nI_add, pk_mul, gz_R0 hW, pz_at, up2_pz, hpe, hoe, h3]
  simp (maxSteps := 1000000) (disch := omega) only [↓QI_i, ↓QV_v, ↓QA_a, ↓QF_f, ↓QD_d, ↓QL_l, ↓Bool.cond_eq_ite, ↓reduceIte, decide_eq_true_eq, Bool.not_eq_true', Bool.true_and, Bool.and_true, Bool.and_self, gR_some, Option.getD_some, mI_def, setI_def, mR_def, not_false_eq_true, not_true_eq_false, Bool.false_eq_true, idx_nI, nI_add, pk_mul, icB_lt, icB_gt, icB_le, icB_ge, icB_eq, icB_ne, bI_ne, nI_eqI, gz_O hW, gz_R0 hW, gz_A hW, up2_pz, pz_at, ↓e_of hW, e_of hW, hpe, ↓e_valueOf hW h3, e_valueOf hW h3, hoe, ↓e_cellOf hv, e_cellOf hv, h3]
  simp (disch := omega) only [fnL, hpe, hoe, idx_nI] at h
  have hl : lat (alP z (nI (cellF (vlO z a i (nI p)) o))) a a = none := lat_eq_none fun j h1 h2 => by omega
  have := e_fl34 (xs := xs) (v6 := .null) hW (show i < 24 by omega) (cellF_lt (vlO z a i (nI p)) o) (d := i - a) (k := a) (by omega) (Nat.le_refl a) h
  rw [hl, Nat.sub_self] at this
  exact this
theorem e_finish {xs : Scr} {I : In2} {ρ : Rh} {Q : Post} {z : Zt} (hW : Rw ρ) {a b n i : Nat} (h0 : Inv0 z a b n) (ha : a ≤ i) (hi : i < b) : Ev xs 130 0 [.ref 245, .int (nI i), .null] [] (pz I z, ρ) Q ↔ Q (.inl none) (pz I (fnF z a b i), ρ) := by
  have hb := h0.bnd
  have hw := (h0.row (i := i) (by omega)).1
  have h1 : Inv0 (lay z i 7 (nI 2)) a b n := h0.wl (by decide) (fun h => by cases h) (fun h => by cases h)
  have hp0 : pt (lay z i 7 (nI 2)) i 0 = pt z i 0 := pt_ln (by decide)
  apply Ev.dt; intro Q h; apply w_X5_finish_0
  unfold fnF at h
  by_cases hk0 : pt z i 0 = nI 0
  · obtain ⟨-, -, hn⟩ := hw.k0 hk0
    simp only [hk0, if_true] at h
    simp (maxSteps := 1000000) (disch := omega) only [↓QI_i, ↓QV_v, ↓QA_a, ↓QF_f, ↓QD_d, ↓QL_l, ↓Bool.cond_eq_ite, ↓reduceIte, decide_eq_true_eq, Bool.not_eq_true', Bool.true_and, Bool.and_true, Bool.and_self, gR_some, Option.getD_some, mI_def, setI_def, mR_def, not_false_eq_true, not_true_eq_false, Bool.false_eq_true, idx_nI, nI_add, pk_mul, icB_lt, icB_gt, icB_le, icB_ge, icB_eq, icB_ne, bI_ne, nI_eqI, gz_O hW, gz_R0 hW, gz_A hW, up2_pz, pz_at, uz_at, uz_ne, pt_uz, lay_lo, pt_le, pt_ln, pt_lj, ↓e_of hW, e_of hW, ↓e_lay hW, e_lay hW, hk0, ↓e_setTo hn, e_setTo hn]
    exact h
  · by_cases hk3 : pt z i 0 = nI 3
    · simp only [hk0, if_false] at h
      simp (disch := omega) only [hk3, if_true] at h
      simp (maxSteps := 1000000) (disch := omega) only [↓QI_i, ↓QV_v, ↓QA_a, ↓QF_f, ↓QD_d, ↓QL_l, ↓Bool.cond_eq_ite, ↓reduceIte, decide_eq_true_eq, Bool.not_eq_true', Bool.true_and, Bool.and_true, Bool.and_self, gR_some, Option.getD_some, mI_def, setI_def, mR_def, not_false_eq_true, not_true_eq_false, Bool.false_eq_true, idx_nI, nI_add, pk_mul, icB_lt, icB_gt, icB_le, icB_ge, icB_eq, icB_ne, bI_ne, nI_eqI, gz_O hW, gz_R0 hW, gz_A hW, up2_pz, pz_at, uz_at, uz_ne, pt_uz, lay_lo, pt_le, pt_ln, pt_lj, ↓e_of hW, e_of hW, ↓e_lay hW, e_lay hW, hk3]
      exact (e_finishLoad hW h1 ha hi (by rw [hp0]; exact hk3)).mpr h
    · by_cases hk4 : pt z i 0 = nI 4
      · simp only [hk0, hk3, if_false] at h
        simp (disch := omega) only [hk4, if_true] at h
        simp (maxSteps := 1000000) (disch := omega) only [↓QI_i, ↓QV_v, ↓QA_a, ↓QF_f, ↓QD_d, ↓QL_l, ↓Bool.cond_eq_ite, ↓reduceIte, decide_eq_true_eq, Bool.not_eq_true', Bool.true_and, Bool.and_true, Bool.and_self, gR_some, Option.getD_some, mI_def, setI_def, mR_def, not_false_eq_true, not_true_eq_false, Bool.false_eq_true, idx_nI, nI_add, pk_mul, icB_lt, icB_gt, icB_le, icB_ge, icB_eq, icB_ne, bI_ne, nI_eqI, gz_O hW, gz_R0 hW, gz_A hW, up2_pz, pz_at, uz_at, uz_ne, pt_uz, lay_lo, pt_le, pt_ln, pt_lj, ↓e_of hW, e_of hW, ↓e_lay hW, e_lay hW, hk4]
        exact (e_finishStore hW h1 hi (by rw [hp0]; exact hk4)).mpr h
      · obtain ⟨-, ⟨p, hp, hpe⟩, ⟨q, hq, hqe⟩, -⟩ := hw.k12 hk0 hk3 hk4
        have v1 := vlO_InR h1 (i := i) (q := p) (by omega) hp
        have v2 := vlO_InR h1 (i := i) (q := q) (by omega) hq
        simp only [hk0, hk3, hk4, if_false, hpe, hqe] at h
        simp (maxSteps := 1000000) (disch := omega) only [↓QI_i, ↓QV_v, ↓QA_a, ↓QF_f, ↓QD_d, ↓QL_l, ↓Bool.cond_eq_ite, ↓reduceIte, decide_eq_true_eq, Bool.not_eq_true', Bool.true_and, Bool.and_true, Bool.and_self, gR_some, Option.getD_some, mI_def, setI_def, mR_def, not_false_eq_true, not_true_eq_false, Bool.false_eq_true, idx_nI, nI_add, pk_mul, icB_lt, icB_gt, icB_le, icB_ge, icB_eq, icB_ne, bI_ne, nI_eqI, gz_O hW, gz_R0 hW, gz_A hW, up2_pz, pz_at, uz_at, uz_ne, pt_uz, lay_lo, pt_le, pt_ln, pt_lj, ↓e_of hW, e_of hW, ↓e_lay hW, e_lay hW, hk0, hk3, hk4, hpe, hqe, ↓e_valueOf hW h1.h3, e_valueOf hW h1.h3, ↓e_result v1 v2, e_result v1 v2]
        exact h

/-! what the work leaves as it should be -/
theorem EnR.nz {k s l p : Int32} (h : EnR k s l p) (hs : s = nI 1) : ∃ x, 1 ≤ x ∧ x ≤ 3 ∧ l = nI x := by
  rcases h with e | ⟨_, e⟩ | ⟨e, _⟩
  · rw [hs] at e; exact absurd e (not_nI (by decide) (by decide) (by decide))
  · exact e
  · rw [hs] at e; exact absurd e (not_nI (by decide) (by decide) (by decide))
theorem Inv_zap {a b n : Nat} : ∀ {d k : Nat} {z : Zt}, Inv z a b n → Inv (zap d k z) a b n := by
  intro d
  induction d with
  | zero => intro k z h; exact h
  | succ d ih => intro k z h; exact ih ⟨h.1.wl (by decide) (fun h => by cases h) (fun h => by cases h), h.2.x.w7 fun _ _ => Or.inl rfl⟩
theorem zap_lo {k' : Nat} (hk : k' < 36) : ∀ {d k : Nat} {z : Zt}, (zap d k z) k' = z k' := by
  intro d
  induction d with
  | zero => intro k z; rfl
  | succ d ih => intro k z; rw [zap, ih, lay_lo hk]
theorem brk_k {z : Zt} {st l : Nat} (h : brk z st l = true) : pt z l 0 = nI 3 := by
  unfold brk at h
  by_cases h0 : pt z l 0 = nI 3
  · exact h0
  · simp [h0] at h
theorem Inv_rpl {z : Zt} {a b n l : Nat} (h : Inv z a b n) (hk : pt z l 0 = nI 3) : Inv (rpl z b l) a b n := by
  unfold rpl
  refine Inv_zap ⟨?_, ?_⟩
  · refine Inv0.wl (Inv0.wl ((h.1.wc (k := 4) (by decide)).wc (k := 5) (by decide)) (by decide) (fun _ _ => ⟨3, by decide, rfl, fun hne => ?_⟩) (fun h => by cases h)) (by decide) (fun h => by cases h) (fun h => by cases h)
    rw [pt_uz (by decide), pt_uz (by decide)] at hne
    exact absurd hk hne
  · exact Ent.wl (Ent.wl ((h.2.wu (k := 4) (by decide)).wu (k := 5) (by decide)) (by decide)) (by decide)
theorem Inv_fnF {z : Zt} {a b n i : Nat} (h : Inv0 z a b n) (hx : EntX z a b i) (ha : a ≤ i) (hi : i < b) : Inv (fnF z a b i) a b n := by
  have hb := h.bnd
  have hw := (h.row (i := i) (by omega)).1
  have h1 : Inv0 (lay z i 7 (nI 2)) a b n := h.wl (by decide) (fun h => by cases h) (fun h => by cases h)
  have hp0 : pt (lay z i 7 (nI 2)) i 0 = pt z i 0 := pt_ln (by decide)
  have hp2 : pt (lay z i 7 (nI 2)) i 2 = pt z i 2 := pt_ln (by decide)
  have hp3 : pt (lay z i 7 (nI 2)) i 3 = pt z i 3 := pt_ln (by decide)
  unfold fnF
  by_cases hk0 : pt z i 0 = nI 0
  · rw [if_pos hk0]
    obtain ⟨-, -, hn⟩ := hw.k0 hk0
    refine ⟨h1.wl (by decide) (fun h => by cases h) (fun _ => setF_InR hn), Ent.wl (hx.w7 fun _ _ => Or.inr (Or.inr ⟨rfl, fun e => ?_⟩)) (by decide)⟩
    rw [hk0] at e
    rcases e with e | e <;> exact absurd e (not_nI (by decide) (by decide) (by decide))
  · rw [if_neg hk0]
    by_cases hk3 : pt z i 0 = nI 3
    · rw [if_pos hk3]
      unfold fnL fnE
      have hc := cellF_lt (vlO (lay z i 7 (nI 2)) a i (pt (lay z i 7 (nI 2)) i 2)) (idx (pt (lay z i 7 (nI 2)) i 4))
      generalize cellF (vlO (lay z i 7 (nI 2)) a i (pt (lay z i 7 (nI 2)) i 2)) (idx (pt (lay z i 7 (nI 2)) i 4)) = cell at hc
      have hv : InR (match lat (alP (lay z i 7 (nI 2)) (nI cell)) a i with | none => (lay z i 7 (nI 2)) (20 + cell) | some k => pt (lay z i 7 (nI 2)) k 11) := by
        cases hl : lat (alP (lay z i 7 (nI 2)) (nI cell)) a i with
        | none => exact h1.mem hc
        | some k => have := (lat_some hl).2.1; exact h1.val (by omega)
      refine ⟨?_, ?_⟩
      · exact Inv0.wc (Inv0.wc (Inv0.wl (Inv0.wl (Inv0.wl h1 (by decide) (fun h => by cases h) (fun h => by cases h)) (by decide) (fun h => by cases h) (fun h => by cases h)) (by decide) (fun h => by cases h) (fun _ => hv)) (by decide)) (by decide)
      · refine Ent.wu (Ent.wu (Ent.wl (Ent.wl (EntX.w2 hx rfl (Or.inr rfl) fun _ _ => Or.inr (Or.inr ⟨rfl, fun _ => ⟨cell, hc, by rw [if_pos rfl]⟩⟩)) (by decide)) (by decide)) (by decide)) (by decide)
    · rw [if_neg hk3]
      by_cases hk4 : pt z i 0 = nI 4
      · rw [if_pos hk4]
        unfold fnS
        have hc := cellF_lt (vlO (lay z i 7 (nI 2)) a i (pt (lay z i 7 (nI 2)) i 2)) (idx (pt (lay z i 7 (nI 2)) i 4))
        generalize cellF (vlO (lay z i 7 (nI 2)) a i (pt (lay z i 7 (nI 2)) i 2)) (idx (pt (lay z i 7 (nI 2)) i 4)) = cell at hc
        obtain ⟨-, ⟨q, hq, hqe⟩, -⟩ := hw.k4 hk4
        rw [hp3, hqe]
        have h2 : Inv0 (lay (lay z i 7 (nI 2)) i 9 (nI cell)) a b n := h1.wl (by decide) (fun h => by cases h) (fun h => by cases h)
        have hv := vlO_InR h2 (i := i) (q := q) (by omega) hq
        have hI : Inv (lay (lay (lay z i 7 (nI 2)) i 9 (nI cell)) i 11 (vlO (lay (lay z i 7 (nI 2)) i 9 (nI cell)) a i (nI q))) a b n :=
          ⟨h2.wl (by decide) (fun h => by cases h) (fun _ => hv), Ent.wl (EntX.w2 hx rfl (Or.inr rfl) fun _ _ => Or.inr (Or.inr ⟨rfl, fun _ => ⟨cell, hc, by rw [if_pos rfl]⟩⟩)) (by decide)⟩
        dsimp only
        generalize lay (lay (lay z i 7 (nI 2)) i 9 (nI cell)) i 11 (vlO (lay (lay z i 7 (nI 2)) i 9 (nI cell)) a i (nI q)) = z2 at hI
        cases hl : fstF (brk z2 i) (b - (i + 1)) (i + 1) with
        | none => exact hI
        | some l => exact Inv_rpl hI (brk_k (fstF_some hl).2.2)
      · rw [if_neg hk4]
        obtain ⟨-, ⟨p, hp, hpe⟩, ⟨q, hq, hqe⟩, -⟩ := hw.k12 hk0 hk3 hk4
        have v1 := vlO_InR h1 (i := i) (q := p) (by omega) hp
        have v2 := vlO_InR h1 (i := i) (q := q) (by omega) hq
        refine ⟨h1.wl (by decide) (fun h => by cases h) (fun _ => by rw [hpe, hqe]; exact resF_InR v1 v2), Ent.wl (hx.w7 fun _ _ => Or.inr (Or.inr ⟨rfl, fun e => ?_⟩)) (by decide)⟩
        rcases e with e | e
        · exact absurd e hk3
        · exact absurd e hk4
theorem Inv_dec {z : Zt} {a b n i : Nat} (h : Inv z a b n) (ha : a ≤ i) (hi : i < b) (h7 : pt z i 7 = nI 1) (h8 : ¬ pt z i 8 = nI 1) : Inv (lay z i 8 (pt z i 8 - nI 1)) a b n := by
  obtain ⟨x, hx1, hx3, hxe⟩ := (h.2 i ha hi).nz h7
  refine ⟨h.1.wl (by decide) (fun h => by cases h) (fun h => by cases h), h.2.w8 fun _ _ => Or.inr (Or.inl ⟨h7, x - 1, ?_, by omega, ?_⟩)⟩
  · have : ¬ x = 1 := fun e => h8 (by rw [hxe, e])
    omega
  · rw [hxe, pk_sub hx1]

theorem Inv_wkS {z : Zt} {a b n i : Nat} (h : Inv z a b n) (ha : a ≤ i) (hi : i < b) : Inv (wkS z a b i) a b n := by
  unfold wkS
  by_cases h7 : pt z i 7 = nI 1
  · rw [if_pos h7]
    by_cases h8 : pt z i 8 = nI 1
    · rw [if_pos h8]
      exact Inv_fnF (h.1.wl (by decide) (fun h => by cases h) (fun h => by cases h)) (h.2.x.wl (by decide)) ha hi
    · rw [if_neg h8]; exact Inv_dec h ha hi h7 h8
  · rw [if_neg h7]; exact h
theorem Inv_wkL {a b n : Nat} : ∀ {k i : Nat} {z : Zt}, Inv z a b n → a ≤ i → i + k ≤ b → Inv (wkL a b k i z) a b n := by
  intro k
  induction k with
  | zero => intro i z h _ _; exact h
  | succ k ih => intro i z h h1 h2; exact ih (Inv_wkS h h1 (by omega)) (by omega) (by omega)
theorem e_work7 {xs : Scr} {I : In2} {ρ : Rh} (hW : Rw ρ) {a b n : Nat} : ∀ {k i : Nat} {z : Zt} {Q : Post}, Inv z a b n → a ≤ i → i + k = b → Q (.inl none) (pz I (wkL a b k i z), ρ) → Ev xs 131 7 [.ref 245, .int (nI i)] [] (pz I z, ρ) Q := by
  intro k
  induction k with
  | zero =>
    intro i z Q h0 ha hk h
    obtain rfl : i = b := hk
    have hb := h0.1.bnd
    have h2 := h0.1.h2
    apply w_X5_work_7
    simp (maxSteps := 1000000) (disch := omega) only [↓QI_i, ↓QV_v, ↓QA_a, ↓QF_f, ↓QD_d, ↓QL_l, ↓Bool.cond_eq_ite, ↓reduceIte, decide_eq_true_eq, Bool.not_eq_true', Bool.true_and, Bool.and_true, Bool.and_self, gR_some, Option.getD_some, mI_def, setI_def, mR_def, not_false_eq_true, not_true_eq_false, Bool.false_eq_true, idx_nI, nI_add, pk_mul, icB_lt, icB_gt, icB_le, icB_ge, icB_eq, icB_ne, bI_ne, nI_eqI, gz_O hW, gz_R0 hW, gz_A hW, up2_pz, pz_at, h2, Nat.le_refl]
    exact h
  | succ k ih =>
    intro i z Q h0 ha hk h
    have hb := h0.1.bnd
    have h2 := h0.1.h2
    have hki : ¬ b ≤ i := by omega
    have hnx := ih (i := i + 1) (Inv_wkS h0 ha (by omega)) (by omega) (by omega) h
    unfold wkS at hnx
    apply w_X5_work_7
    by_cases h7 : pt z i 7 = nI 1
    · obtain ⟨x, hx1, hx3, hxe⟩ := (h0.2 i ha (by omega)).nz h7
      rw [if_pos h7] at hnx
      by_cases h8 : pt z i 8 = nI 1
      · rw [if_pos h8] at hnx
        have h1 : Inv0 (lay z i 8 (nI 0)) a b n := h0.1.wl (by decide) (fun h => by cases h) (fun h => by cases h)
        simp (maxSteps := 1000000) (disch := omega) only [↓QI_i, ↓QV_v, ↓QA_a, ↓QF_f, ↓QD_d, ↓QL_l, ↓Bool.cond_eq_ite, ↓reduceIte, decide_eq_true_eq, Bool.not_eq_true', Bool.true_and, Bool.and_true, Bool.and_self, gR_some, Option.getD_some, mI_def, setI_def, mR_def, not_false_eq_true, not_true_eq_false, Bool.false_eq_true, idx_nI, nI_add, pk_mul, icB_lt, icB_gt, icB_le, icB_ge, icB_eq, icB_ne, bI_ne, nI_eqI, gz_O hW, gz_R0 hW, gz_A hW, up2_pz, pz_at, uz_at, uz_ne, pt_uz, lay_lo, pt_le, pt_ln, pt_lj, h2, hki, h7, h8, ↓e_of hW, e_of hW, ↓e_lay hW, e_lay hW, show nI 1 - nI 1 = nI 0 from by decide]
        exact (e_finish hW h1 ha (by omega)).mpr hnx
      · rw [if_neg h8, hxe] at hnx
        have hx2 : ¬ x = 1 := fun e => h8 (by rw [hxe, e])
        obtain ⟨x, rfl⟩ : ∃ y, x = y + 1 := ⟨x - 1, by omega⟩
        have hx0 : ¬ x = 0 := by omega
        rw [nI_sub1] at hnx
        simp (maxSteps := 1000000) (disch := omega) only [↓QI_i, ↓QV_v, ↓QA_a, ↓QF_f, ↓QD_d, ↓QL_l, ↓Bool.cond_eq_ite, ↓reduceIte, decide_eq_true_eq, Bool.not_eq_true', Bool.true_and, Bool.and_true, Bool.and_self, gR_some, Option.getD_some, mI_def, setI_def, mR_def, not_false_eq_true, not_true_eq_false, Bool.false_eq_true, idx_nI, nI_add, pk_mul, icB_lt, icB_gt, icB_le, icB_ge, icB_eq, icB_ne, bI_ne, nI_eqI, gz_O hW, gz_R0 hW, gz_A hW, up2_pz, pz_at, uz_at, uz_ne, pt_uz, lay_lo, pt_le, pt_ln, pt_lj, h2, hki, h7, hxe, ↓e_of hW, e_of hW, ↓e_lay hW, e_lay hW, nI_sub1, hx0]
        exact hnx
    · rw [if_neg h7] at hnx
      simp (maxSteps := 1000000) (disch := omega) only [↓QI_i, ↓QV_v, ↓QA_a, ↓QF_f, ↓QD_d, ↓QL_l, ↓Bool.cond_eq_ite, ↓reduceIte, decide_eq_true_eq, Bool.not_eq_true', Bool.true_and, Bool.and_true, Bool.and_self, gR_some, Option.getD_some, mI_def, setI_def, mR_def, not_false_eq_true, not_true_eq_false, Bool.false_eq_true, idx_nI, nI_add, pk_mul, icB_lt, icB_gt, icB_le, icB_ge, icB_eq, icB_ne, bI_ne, nI_eqI, gz_O hW, gz_R0 hW, gz_A hW, up2_pz, pz_at, h2, hki, ↓e_of hW, e_of hW, h7]
      exact hnx
theorem e_work {xs : Scr} {I : In2} {ρ : Rh} {Q : Post} {z : Zt} (hW : Rw ρ) {a b n : Nat} (h0 : Inv z a b n) : Ev xs 131 0 [.ref 245, .null] [] (pz I z, ρ) Q ↔ Q (.inl none) (pz I (cy2 z), ρ) := by
  have hb := h0.1.bnd
  have h3 := h0.1.h3
  apply Ev.dt; intro Q h; apply w_X5_work_0
  try simp (disch := omega) only [mR_def, Option.getD_some, mI_def, idx_nI, setI_def, nI_add, pk_mul, gz_R0 hW, pz_at, up2_pz, h3]
  simp (maxSteps := 1000000) (disch := omega) only [↓QI_i, ↓QV_v, ↓QA_a, ↓QF_f, ↓QD_d, ↓QL_l, ↓Bool.cond_eq_ite, ↓reduceIte, decide_eq_true_eq, Bool.not_eq_true', Bool.true_and, Bool.and_true, Bool.and_self, gR_some, Option.getD_some, mI_def, setI_def, mR_def, not_false_eq_true, not_true_eq_false, Bool.false_eq_true, idx_nI, nI_add, pk_mul, icB_lt, icB_gt, icB_le, icB_ge, icB_eq, icB_ne, bI_ne, nI_eqI, gz_O hW, gz_R0 hW, gz_A hW, up2_pz, pz_at, h3]
  unfold cy2 at h
  rw [h0.1.i3, h0.1.i2] at h
  exact e_work7 hW h0 (Nat.le_refl a) (by omega) h
theorem Inv_cy2 {z : Zt} {a b n : Nat} (h0 : Inv z a b n) : Inv (cy2 z) a b n := by
  have hb := h0.1.bnd
  unfold cy2
  rw [h0.1.i3, h0.1.i2]
  exact Inv_wkL h0 (Nat.le_refl a) (by omega)
/-! retiring, all of it -/
theorem e_cyc2 {xs : Scr} {I : In2} {ρ : Rh} (hW : Rw ρ) {b n : Nat} : ∀ {k r a : Nat} {z : Zt} {v2 v3 : Value} {Q : Post}, Inv z a b n → z 11 = nI (r + k) → r + k ≤ 4 →
    (∀ a', Inv (retL k z) a' b n → Ev xs 135 57 [.ref 245, .int (nI r + ((retL k z) 6 - z 6)), .int (nI 0), .int (nI a')] [] (pz I (cy2 (retL k z)), ρ) Q) → Ev xs 135 2 [.ref 245, .int (nI r), v2, v3] [] (pz I z, ρ) Q := by
  intro k
  induction k with
  | zero =>
    intro r a z v2 v3 Q h0 h11 hr h
    have hb := h0.1.bnd
    have h := h a h0
    rw [retL, Int32.sub_self, show nI r + 0 = nI r from Int32.add_zero _] at h
    have h3 : (cy2 z) 3 = nI a := (Inv_cy2 h0).1.h3
    have hz3 := h0.1.h3
    have hz2 := h0.1.h2
    have hru : z (9 + 2) = nI r := h11
    apply w_X5_cycle_2
    by_cases hab : a < b
    · have hba : ¬ b - a ≤ 0 := by omega
      by_cases hs : pt z a 7 = nI 2
      · simp (maxSteps := 1000000) (disch := omega) only [↓QI_i, ↓QV_v, ↓QA_a, ↓QF_f, ↓QD_d, ↓QL_l, ↓Bool.cond_eq_ite, ↓reduceIte, decide_eq_true_eq, Bool.not_eq_true', Bool.true_and, Bool.and_true, Bool.and_self, gR_some, Option.getD_some, mI_def, setI_def, mR_def, not_false_eq_true, not_true_eq_false, Bool.false_eq_true, idx_nI, nI_add, pk_mul, icB_lt, icB_gt, icB_le, icB_ge, icB_eq, icB_ne, bI_ne, nI_eqI, gz_O hW, gz_R0 hW, gz_A hW, up2_pz, pz_at, ↓e_entries hW, e_entries hW, hz3, hz2, pk_sub, hba, ↓e_of hW, e_of hW, hs, ↓e_rule hW, e_rule hW, hru, Nat.le_refl, ↓e_work hW h0, e_work hW h0, h3]
        exact h
      · simp (maxSteps := 1000000) (disch := omega) only [↓QI_i, ↓QV_v, ↓QA_a, ↓QF_f, ↓QD_d, ↓QL_l, ↓Bool.cond_eq_ite, ↓reduceIte, decide_eq_true_eq, Bool.not_eq_true', Bool.true_and, Bool.and_true, Bool.and_self, gR_some, Option.getD_some, mI_def, setI_def, mR_def, not_false_eq_true, not_true_eq_false, Bool.false_eq_true, idx_nI, nI_add, pk_mul, icB_lt, icB_gt, icB_le, icB_ge, icB_eq, icB_ne, bI_ne, nI_eqI, gz_O hW, gz_R0 hW, gz_A hW, up2_pz, pz_at, ↓e_entries hW, e_entries hW, hz3, hz2, pk_sub, hba, ↓e_of hW, e_of hW, hs, ↓e_work hW h0, e_work hW h0, h3]
        exact h
    · have hba : b - a ≤ 0 := by omega
      simp (maxSteps := 1000000) (disch := omega) only [↓QI_i, ↓QV_v, ↓QA_a, ↓QF_f, ↓QD_d, ↓QL_l, ↓Bool.cond_eq_ite, ↓reduceIte, decide_eq_true_eq, Bool.not_eq_true', Bool.true_and, Bool.and_true, Bool.and_self, gR_some, Option.getD_some, mI_def, setI_def, mR_def, not_false_eq_true, not_true_eq_false, Bool.false_eq_true, idx_nI, nI_add, pk_mul, icB_lt, icB_gt, icB_le, icB_ge, icB_eq, icB_ne, bI_ne, nI_eqI, gz_O hW, gz_R0 hW, gz_A hW, up2_pz, pz_at, ↓e_entries hW, e_entries hW, hz3, hz2, pk_sub, hba, ↓e_work hW h0, e_work hW h0, h3]
      exact h
  | succ k ih =>
    intro r a z v2 v3 Q h0 h11 hr h
    have hb := h0.1.bnd
    have hz3 := h0.1.h3
    have hz2 := h0.1.h2
    have hru : z (9 + 2) = nI (r + (k + 1)) := h11
    have h3 : (cy2 z) 3 = nI a := (Inv_cy2 h0).1.h3
    unfold retL at h
    rw [h0.1.i3, h0.1.i2] at h
    apply w_X5_cycle_2
    by_cases hab : a < b
    · have hba : ¬ b - a ≤ 0 := by omega
      by_cases hs : pt z a 7 = nI 2
      · have hrk : ¬ r + (k + 1) ≤ r := by omega
        simp (maxSteps := 1000000) (disch := omega) only [↓QI_i, ↓QV_v, ↓QA_a, ↓QF_f, ↓QD_d, ↓QL_l, ↓Bool.cond_eq_ite, ↓reduceIte, decide_eq_true_eq, Bool.not_eq_true', Bool.true_and, Bool.and_true, Bool.and_self, gR_some, Option.getD_some, mI_def, setI_def, mR_def, not_false_eq_true, not_true_eq_false, Bool.false_eq_true, idx_nI, nI_add, pk_mul, icB_lt, icB_gt, icB_le, icB_ge, icB_eq, icB_ne, bI_ne, nI_eqI, gz_O hW, gz_R0 hW, gz_A hW, up2_pz, pz_at, ↓e_entries hW, e_entries hW, hz3, hz2, pk_sub, hba, ↓e_of hW, e_of hW, hs, ↓e_rule hW, e_rule hW, hru, hrk, ↓e_retire hW h0 hab hs, e_retire hW h0 hab hs]
        rw [if_pos ⟨hab, hs⟩] at h
        have h6 : (rtF z a) 6 = z 6 + nI 1 := uz_at
        have h11' : (rtF z a) 11 = z 11 := by
          unfold rtF
          obtain ⟨hw, -⟩ := h0.1.row (i := a) (by omega)
          simp (disch := omega) only [uz_at, uz_ne, pt_uz, lay_lo, pt_le, pt_ln, pt_lj]
          by_cases hk : pt z a 0 = nI 4
          · rw [if_pos hk, uz_ne (by omega)]
          · rw [if_neg hk, uz_ne (by omega)]
        refine ih (Inv_rtF h0 hab hs) (by rw [h11', h11]; congr 1; omega) (by omega) fun a' ha' => ?_
        have h := h a' ha'
        rw [h6, show nI (r + 1) + ((retL k (rtF z a)) 6 - (z 6 + nI 1)) = nI r + ((retL k (rtF z a)) 6 - z 6) by rw [← nI_add]; grind]
        exact h
      · simp (maxSteps := 1000000) (disch := omega) only [↓QI_i, ↓QV_v, ↓QA_a, ↓QF_f, ↓QD_d, ↓QL_l, ↓Bool.cond_eq_ite, ↓reduceIte, decide_eq_true_eq, Bool.not_eq_true', Bool.true_and, Bool.and_true, Bool.and_self, gR_some, Option.getD_some, mI_def, setI_def, mR_def, not_false_eq_true, not_true_eq_false, Bool.false_eq_true, idx_nI, nI_add, pk_mul, icB_lt, icB_gt, icB_le, icB_ge, icB_eq, icB_ne, bI_ne, nI_eqI, gz_O hW, gz_R0 hW, gz_A hW, up2_pz, pz_at, ↓e_entries hW, e_entries hW, hz3, hz2, pk_sub, hba, ↓e_of hW, e_of hW, hs, ↓e_work hW h0, e_work hW h0, h3]
        rw [if_neg (fun e => hs e.2), Int32.sub_self, show nI r + 0 = nI r from Int32.add_zero _] at h
        exact h a h0
    · have hba : b - a ≤ 0 := by omega
      simp (maxSteps := 1000000) (disch := omega) only [↓QI_i, ↓QV_v, ↓QA_a, ↓QF_f, ↓QD_d, ↓QL_l, ↓Bool.cond_eq_ite, ↓reduceIte, decide_eq_true_eq, Bool.not_eq_true', Bool.true_and, Bool.and_true, Bool.and_self, gR_some, Option.getD_some, mI_def, setI_def, mR_def, not_false_eq_true, not_true_eq_false, Bool.false_eq_true, idx_nI, nI_add, pk_mul, icB_lt, icB_gt, icB_le, icB_ge, icB_eq, icB_ne, bI_ne, nI_eqI, gz_O hW, gz_R0 hW, gz_A hW, up2_pz, pz_at, ↓e_entries hW, e_entries hW, hz3, hz2, pk_sub, hba, ↓e_work hW h0, e_work hW h0, h3]
      rw [if_neg (fun e => hab e.1), Int32.sub_self, show nI r + 0 = nI r from Int32.add_zero _] at h
      exact h a h0
theorem Inv_retL {b n : Nat} : ∀ {k a : Nat} {z : Zt}, Inv z a b n → ∃ a', a ≤ a' ∧ Inv (retL k z) a' b n := by
  intro k
  induction k with
  | zero => intro a z h; exact ⟨a, Nat.le_refl a, h⟩
  | succ k ih =>
    intro a z h
    unfold retL
    rw [h.1.i3, h.1.i2]
    by_cases hc : a < b ∧ pt z a 7 = nI 2
    · rw [if_pos hc]
      obtain ⟨a', h1, h2⟩ := ih (Inv_rtF h hc.1 hc.2)
      exact ⟨a', by omega, h2⟩
    · rw [if_neg hc]; exact ⟨a, Nat.le_refl a, h⟩
