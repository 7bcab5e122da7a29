/-! the reference reads the buffer -/
/-- where the i-th instruction begins -/
def txB (tl : Nat × Zt) : Nat → Nat
  | 0 => 0
  | i + 1 => txX tl (tl.1 - txB tl i) (txB tl i)
theorem txX_at {tl : Nat × Zt} : ∀ {e d s : Nat}, e < d → (∀ j, s ≤ j → j < s + e → ¬ txC tl j = 59) → txC tl (s + e) = 59 → txX tl d s = s + e + 1 := by
  intro e
  induction e with
  | zero =>
    intro d s hd hn hc
    obtain ⟨d, rfl⟩ : ∃ d', d = d' + 1 := ⟨d - 1, by omega⟩
    rw [txX, if_pos (show txC tl s = 59 from hc)]
  | succ e ih =>
    intro d s hd hn hc
    obtain ⟨d, rfl⟩ : ∃ d', d = d' + 1 := ⟨d - 1, by omega⟩
    rw [txX, if_neg (hn s (by omega) (by omega)), ih (by omega) (fun j h1 h2 => hn j (by omega) (by omega)) (by rw [show s + 1 + e = s + (e + 1) by omega]; exact hc)]
    omega
theorem txS_0 {tl : Nat × Zt} {k : Nat} (h : txS tl k = 0) : ∀ {d : Nat}, txS tl (k + d) = 0 := by
  intro d
  induction d with
  | zero => exact h
  | succ d ih => rw [← Nat.add_assoc, txS, ih]; rfl
/-- reading leaves all else alone -/
def TxG (I I' : In2) : Prop := ∀ a k, ¬ (a = 245 ∧ (k = 11 ∨ k = 12 ∨ k = 13)) → ¬ (250 ≤ a ∧ a ≤ 254) → I' a k = I a k
theorem TxG.q {I J J' : In2} {r : Nat} (h : TxG I J) (h' : TxQ J J' r) : TxG I J' := fun a k h1 h2 => (h' a k h1 (fun e => h2 e.1)).trans (h a k h1 h2)
/-- how things stand ahead of the character k -/
def TxT (tl : Nat × Zt) (I : In2) (k : Nat) : Prop :=
  4 * txK tl k ≤ txB tl (txK tl k) ∧ txB tl (txK tl k) ≤ k ∧ ¬ txS tl k = 0 ∧ (∀ j, txB tl (txK tl k) ≤ j → j < k → ¬ txC tl j = 59) ∧
  (∃ v g K T P O N, TxM I (txK tl k) v g K T P O N ∧ TxV tl (txS tl k) (txB tl (txK tl k)) k v g K T P O N) ∧
  ∀ i, i < txK tl k → TxR tl (txB tl i) (I 250 i) (I 251 i) (I 252 i) (I 253 i) (I 254 i)
theorem e_scan12 {xs : Scr} {ρ : Rh} {Q : Post} {tl : Nat × Zt} {I0 : In2} (hW : Rw ρ) (hc : Chs tl) : ∀ {d k : Nat} {I : In2}, k + d = tl.1 → TxT tl I k → TxG I0 I → I0 245 15 = nI tl.1 → (∀ j, j < tl.1 → I0 249 j = tl.2 j) →
    (∀ I' j, j < tl.1 → txE tl d k = j → txS tl tl.1 = 0 → TxG I0 I' → Q (.inl (some (.int (nI j)))) (I', ρ)) → (txE tl d k = tl.1 → ∀ I', TxG I0 I' → TxT tl I' tl.1 → Q (.inl (some (.int (nI tl.1)))) (I', ρ)) → Ev xs 155 12 [.ref 245, .int (nI k)] [] (I, ρ) Q := by
  have hl := hc.1
  intro d
  induction d with
  | zero =>
    intro k I hk hT hG h15 h249 hE hF
    obtain rfl : k = tl.1 := by omega
    have r15 : I 245 15 = nI tl.1 := (hG _ _ (by omega) (by omega)).trans h15
    apply w_X5_scan_12
    simp (maxSteps := 1000000) (disch := omega) only [↓QI_i, ↓QV_v, ↓QA_a, ↓QF_f, ↓QD_d, ↓QL_l, ↓Bool.cond_eq_ite, ↓reduceIte, decide_eq_true_eq, Bool.not_eq_true', Bool.true_and, Bool.and_true, Bool.and_self, gR_some, Option.getD_some, mI_def, setI_def, mR_def, not_false_eq_true, not_true_eq_false, Bool.false_eq_true, idx_nI, nI_add, pk_mul, icB_lt, icB_gt, icB_le, icB_ge, icB_eq, icB_ne, bI_ne, nI_eqI, gz_O hW, gz_R0 hW, gz_A hW, up2_pz, pz_at, r15, Nat.le_refl]
    exact hF rfl I hG hT
  | succ d ih =>
    intro k I hk hT hG h15 h249 hE hF
    have hk1 : ¬ tl.1 ≤ k := by omega
    have hkl : k < tl.1 := by omega
    have r15 : I 245 15 = nI tl.1 := (hG _ _ (by omega) (by omega)).trans h15
    have rk : I 249 k = nI (txC tl k) := ((hG _ _ (by omega) (by omega)).trans (h249 k hkl)).trans (txC_nI hc hkl)
    have hT' := hT
    obtain ⟨t1, t2, t3, t4, ⟨v, g, K, T, P, O, N, hM, hV⟩, t6⟩ := hT
    have hr : txK tl k < 32 := by omega
    rw [txE] at hE hF
    apply w_X5_scan_12
    simp (maxSteps := 1000000) (disch := omega) only [↓QI_i, ↓QV_v, ↓QA_a, ↓QF_f, ↓QD_d, ↓QL_l, ↓Bool.cond_eq_ite, ↓reduceIte, decide_eq_true_eq, Bool.not_eq_true', Bool.true_and, Bool.and_true, Bool.and_self, gR_some, Option.getD_some, mI_def, setI_def, mR_def, not_false_eq_true, not_true_eq_false, Bool.false_eq_true, idx_nI, nI_add, pk_mul, icB_lt, icB_gt, icB_le, icB_ge, icB_eq, icB_ne, bI_ne, nI_eqI, gz_O hW, gz_R0 hW, gz_A hW, up2_pz, pz_at, r15, hk1, gz_R3 hW, gz_A3 hW, rk]
    refine e_takes hW hc hkl hr hM hV (fun e0 I' hq => ?_) (fun en e59 I' v' g' K' T' P' O' N' hq hM' hV' => ?_) fun e59 e1 hs3 hR => ?_
    · rw [QI_i, if_pos rfl]
      rw [if_pos e0] at hE
      refine hE I' k hkl rfl ?_ (hG.q hq)
      have := txS_0 e0 (d := tl.1 - (k + 1))
      rwa [show k + 1 + (tl.1 - (k + 1)) = tl.1 by omega] at this
    · rw [QI_i, if_neg (by decide)]
      rw [if_neg en] at hE hF
      have eK : txK tl (k + 1) = txK tl k := by rw [txK, if_neg e59]
      refine ih (by omega) ⟨by rw [eK]; exact t1, by rw [eK]; omega, en, fun j h1 h2 => ?_, ?_, fun i hi => ?_⟩ (hG.q hq) h15 h249 hE hF
      · rw [eK] at h1
        by_cases e : j = k
        · rw [e]; exact e59
        · exact t4 j h1 (by omega)
      · rw [eK]; exact ⟨v', g', K', T', P', O', N', hM', hV'⟩
      · rw [eK] at hi
        rw [hq 250 i (by omega) (by omega), hq 251 i (by omega) (by omega), hq 252 i (by omega) (by omega), hq 253 i (by omega) (by omega), hq 254 i (by omega) (by omega)]
        exact t6 i hi
    · rw [QI_i, if_neg (by decide)]
      have en : ¬ txS tl (k + 1) = 0 := by rw [e1]; decide
      rw [if_neg en] at hE hF
      obtain ⟨h11, h13, h12, hK, hT, hP, hO, hN⟩ := hM
      have eK : txK tl (k + 1) = txK tl k + 1 := by rw [txK, if_pos e59]
      have eB : txB tl (txK tl k + 1) = k + 1 := by
        rw [txB]
        have := txX_at (tl := tl) (e := k - txB tl (txK tl k)) (d := tl.1 - txB tl (txK tl k)) (s := txB tl (txK tl k)) (by omega) (fun j h1 h2 => t4 j h1 (by omega)) (by rw [show txB tl (txK tl k) + (k - txB tl (txK tl k)) = k by omega]; exact e59)
        omega
      refine ih (by omega) ⟨by rw [eK, eB]; omega, by rw [eK, eB]; exact Nat.le_refl _, en, fun j h1 h2 => ?_, ?_, fun i hi => ?_⟩ (fun a j h1 h2 => ?_) h15 h249 hE hF
      · rw [eK, eB] at h1; omega
      · rw [eK, eB, e1]
        exact ⟨0, _, _, _, _, _, _, ⟨by simp (disch := omega) only [up2_ne, up2_at], up2_at, rfl, rfl, rfl, rfl, rfl, rfl⟩, rfl, rfl⟩
      · rw [eK] at hi
        simp (disch := omega) only [up2_ne]
        by_cases e : i = txK tl k
        · rw [e, hK, hT, hP, hO, hN]; exact hR
        · exact t6 i (by omega)
      · rw [up2_ne (by omega), up2_ne (by omega)]; exact hG a j h1 h2
theorem e_scan {xs : Scr} {ρ : Rh} {Q : Post} {tl : Nat × Zt} {I : In2} (hW : Rw ρ) (hc : Chs tl) (h15 : I 245 15 = nI tl.1) (h249 : ∀ j, j < tl.1 → I 249 j = tl.2 j)
    (hE : ∀ I' j, j < tl.1 → txE tl tl.1 0 = j → txS tl tl.1 = 0 → TxG I I' → Q (.inl (some (.int (nI j)))) (I', ρ)) (hF : txE tl tl.1 0 = tl.1 → ∀ I', TxG I I' → TxT tl I' tl.1 → Q (.inl (some (.int (nI tl.1)))) (I', ρ)) : Ev xs 155 0 [.ref 245, .null] [] (I, ρ) Q := by
  apply w_X5_scan_0
  simp (maxSteps := 1000000) (disch := omega) only [↓QI_i, ↓QV_v, ↓QA_a, ↓QF_f, ↓QD_d, ↓QL_l, ↓Bool.cond_eq_ite, ↓reduceIte, decide_eq_true_eq, Bool.not_eq_true', Bool.true_and, Bool.and_true, Bool.and_self, gR_some, Option.getD_some, mI_def, setI_def, mR_def, not_false_eq_true, not_true_eq_false, Bool.false_eq_true, idx_nI, nI_add, pk_mul, icB_lt, icB_gt, icB_le, icB_ge, icB_eq, icB_ne, bI_ne, nI_eqI, gz_O hW, gz_R0 hW, gz_A hW, up2_pz, pz_at]
  refine e_scan12 (d := tl.1) (k := 0) hW hc (by omega) ⟨Nat.le_refl 0, Nat.le_refl 0, (by decide : ¬ 1 = 0), fun j h1 h2 => by omega, ⟨0, _, _, _, _, _, _, ⟨up2_at, by simp (disch := omega) only [up2_ne, up2_at], rfl, rfl, rfl, rfl, rfl, rfl⟩, rfl, rfl⟩, fun i hi => by exact absurd hi (Nat.not_lt_zero i)⟩ (fun a k h1 h2 => by rw [up2_ne (by omega), up2_ne (by omega)]) h15 h249 hE hF
/-- the calls that find the first error -/
theorem e_first {xs : Scr} {I : In2} {ρ : Rh} {Q : Post} {z : Zt} {s : Nat} {zs : Nat → Zt} {tl : Nat × Zt} (hW : Rw ρ) (hc : Chs tl) (hR : Rst I z s zs tl) (hok : ROk Q I ρ (nI (txE tl tl.1 0)) z s zs tl 0) : Ev xs 156 0 [.ref 245] [] (I, ρ) Q := by
  have fin : ∀ I', TxG (up2 I 245 16 (nI 0)) I' → Q (.inl (some (.int (nI (txE tl tl.1 0))))) (I', ρ) := fun I' hG => by
    refine hok I' ?_ ((hG _ _ (by omega) (by omega)).trans up2_at) fun a k ha => (hG a k (by omega) (by omega)).trans (fr_t ha)
    have hR' : Rst (up2 I 245 16 (nI 0)) z s zs tl := hR.t
    exact hR'.fr (funext fun k => hG _ _ (by omega) (by omega)) (hG _ _ (by omega) (by omega)) (hG _ _ (by omega) (by omega)) (fun k => hG _ _ (by omega) (by omega)) fun k _ => hG _ _ (by omega) (by omega)
  have hR' : Rst (up2 I 245 16 (nI 0)) z s zs tl := hR.t
  apply w_X5_firstError_0
  simp (maxSteps := 1000000) (disch := omega) only [↓QI_i, ↓QV_v, ↓QA_a, ↓QF_f, ↓QD_d, ↓QL_l, ↓Bool.cond_eq_ite, ↓reduceIte, decide_eq_true_eq, Bool.not_eq_true', Bool.true_and, Bool.and_true, Bool.and_self, gR_some, Option.getD_some, mI_def, setI_def, mR_def, not_false_eq_true, not_true_eq_false, Bool.false_eq_true, idx_nI, nI_add, pk_mul, icB_lt, icB_gt, icB_le, icB_ge, icB_eq, icB_ne, bI_ne, nI_eqI, gz_O hW, gz_R0 hW, gz_A hW, up2_pz, pz_at]
  refine e_scan hW hc hR'.2.2.2.1 hR'.2.2.2.2 (fun I' j hj e _ hG => ?_) fun e I' hG _ => ?_
  · rw [QI_i]; rw [← e]; exact fin I' hG
  · rw [QI_i]; have := fin I' hG; rw [e] at this; exact this
theorem k_first {xs : Scr} {I : In2} {ρ : Rh} {Q : Post} {z : Zt} {s : Nat} {zs : Nat → Zt} {tl : Nat × Zt} (hW : Rw ρ) (hC : Cst I ρ z s zs tl) (hok : KOk Q I ρ (nI (txE tl tl.1 0)) z s zs tl) : Ev xs 73 0 [.ref 0] [] (I, ρ) Q := by
  have hT : TxC I tl := ⟨hC.2.2.2.2.1, hC.2.2.2.2.2.1, hC.2.2.2.2.2.2⟩
  apply w_X4_firstError_0
  simp (maxSteps := 1000000) (disch := omega) only [↓QI_i, ↓QV_v, ↓QA_a, ↓QF_f, ↓QD_d, ↓QL_l, ↓Bool.cond_eq_ite, ↓reduceIte, decide_eq_true_eq, Bool.not_eq_true', Bool.true_and, Bool.and_true, Bool.and_self, gR_some, Option.getD_some, mI_def, setI_def, mR_def, not_false_eq_true, not_true_eq_false, Bool.false_eq_true, idx_nI, nI_add, pk_mul, icB_lt, icB_gt, icB_le, icB_ge, icB_eq, icB_ne, bI_ne, nI_eqI, gc_O hW, gc_T hW, gc_3 hW, ↓k_right hW hT, k_right hW hT]
  exact hC.same hW hok
