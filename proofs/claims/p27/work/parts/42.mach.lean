/-! the class's machine: starts, issues, retiring, a cycle -/
theorem rsn_rdy {z : Zt} {a b n i : Nat} (h0 : Inv0 z a b n) (hi : i < n) (h : rsn z a i = nI 0) : rdy z a i (pt z i 2) = true ∧ rdy z a i (pt z i 3) = true := by
  have h7 := rsn_0 h
  obtain ⟨hw, -⟩ := h0.row hi
  unfold rsn at h
  rw [if_pos h7] at h
  have r1 : (hs1 z i && !rdy z a i (pt z i 2)) = !rdy z a i (pt z i 2) := by
    unfold hs1
    by_cases hk : pt z i 0 = nI 0
    · rw [(hw.k0 hk).1, rdy_nM h0 (by omega)]; simp
    · simp [hk]
  have r2 : (hs2 z i && !rdy z a i (pt z i 3)) = !rdy z a i (pt z i 3) := by
    unfold hs2
    by_cases hk : pt z i 0 = nI 0
    · rw [(hw.k0 hk).2.1, rdy_nM h0 (by omega)]; simp
    · by_cases hk3 : pt z i 0 = nI 3
      · rw [(hw.k3 hk3).2.1, rdy_nM h0 (by omega)]; simp
      · simp [hk, hk3]
  rw [r1, r2] at h
  cases h1 : rdy z a i (pt z i 2)
  · rw [h1, Bool.not_false, if_pos rfl] at h; exact absurd h (not_nI (by decide) (by decide) (by decide))
  · cases h2 : rdy z a i (pt z i 3)
    · rw [h1, h2, Bool.not_false, Bool.not_true, if_neg (by decide), if_pos rfl] at h; exact absurd h (not_nI (by decide) (by decide) (by decide))
    · exact ⟨rfl, rfl⟩
theorem Rdy_stF {z : Zt} {a b n i : Nat} (h : Rdy z a b) (h0 : Inv0 z a b n) (hi : i < n) (hr : rsn z a i = nI 0) : Rdy (stF z i) a b := by
  unfold stF
  exact Rdy.wl (Rdy.w7 h (Or.inr (by rw [rsn_0 hr]; exact not_nI (by decide) (by decide) (by decide))) fun _ => Or.inr (rsn_rdy h0 hi hr)) (by decide)
theorem k_needs {xs : Scr} {I : In2} {ρ : Rh} {Q : Post} {m : Nat} {c : In2} (hW : Rw ρ) (hB : Bs m) {i : Nat} {k : Int32} (hi : i < 24) (h0 : c (6 + i) 0 = k) : Ev xs 11 0 [.ref (m + (6 + i))] [] (pc I m c, ρ) Q ↔ Q (.inl (some (.int (nds k) ))) (pc I m c, ρ) := by
  apply Ev.dt; intro Q h; apply w_X1_cyclesNeeded_0
  try simp (disch := omega) only [mR_def, Option.getD_some, mI_def, idx_nI, setI_def, nI_add, pk_mul, gm_0 hW hB, gm_1 hW hB, gm_2 hW hB, gm_3 hW hB, gm_4 hW hB, up2_pc, up2_pc0, pc_at, pc_at0, h0]
  simp (maxSteps := 1000000) (disch := omega) only [↓QI_i, ↓QV_v, ↓QA_a, ↓QF_f, ↓QD_d, ↓QL_l, ↓Bool.cond_eq_ite, ↓reduceIte, decide_eq_true_eq, Bool.not_eq_true', Bool.true_and, Bool.and_true, Bool.and_self, gR_some, Option.getD_some, mI_def, setI_def, mR_def, not_false_eq_true, not_true_eq_false, Bool.false_eq_true, idx_nI, nI_add, pk_mul, icB_lt, icB_gt, icB_le, icB_ge, icB_eq, icB_ne, bI_ne, nI_eqI, gm_O hW hB, gm_N hW hB, gm_P hW hB, gm_R hW hB, gm_0 hW hB, gm_1 hW hB, gm_2 hW hB, gm_3 hW hB, gm_4 hW hB, gm_A hW hB, gm_B hW hB, gm_C hW hB, gm_D hW hB, gm_L hW hB, gm_l1 hB, gm_l3 hB, gm_l4 hB, gm_l5 hB, up2_pc, up2_pc0, pc_at, pc_at0, h0]
  unfold nds at h
  by_cases e2 : k = nI 2 <;> by_cases e3 : k = nI 3 <;> simp [e2, e3] at h ⊢ <;> exact h
theorem k_start12 {xs : Scr} {I : In2} {ρ : Rh} {m : Nat} (hW : Rw ρ) (hB : Bs m) {a b n : Nat} : ∀ {d i w : Nat} {z : Zt} {c : In2} {v3 : Value} {Q : Post}, w ≤ 4 → Big c z a b n → Ent z a b → a ≤ i → i + d = b →
    (∀ c', Big c' (stL a d i w z) a b n → Ent (stL a d i w z) a b → Q (.inl none) (pc I m c', ρ)) → Ev xs 39 12 [.ref m, .int (nI w), .int (nI i), v3] [] (pc I m c, ρ) Q := by
  intro d
  induction d with
  | zero =>
    intro i w z c v3 Q hw4 hG hE ha hk h
    obtain rfl : i = b := hk
    have hb := hG.1.bnd
    have h7 := hG.c7
    rw [stL_n] at h
    apply w_X2_startEntries_12
    simp (disch := omega) only [QI_i, QV_v, QA_a, mR_def, Option.getD_some, mI_def, idx_nI, setI_def, gm_0 hW hB, gm_1 hW hB, gm_2 hW hB, gm_3 hW hB, gm_4 hW hB, gm_O hW hB, gm_N hW hB, gm_P hW hB, gR_some, Bool.and_self, cond_true, cond_false, up2_pc, up2_pc0, pc_at, pc_at0, up2_at, up2_ne, h7, icB_ge, Nat.le_refl, decide_true]
    exact h c hG hE
  | succ d ih =>
    intro i w z c v3 Q hw4 hG hE ha hk h
    have hb := hG.1.bnd
    have h7 := hG.c7
    have hR := hG.2.2
    have hki : ¬ b ≤ i := by omega
    have h0 : c (6 + i) 0 = pt z i 0 := hR.row (by omega) (by decide)
    apply w_X2_startEntries_12
    rcases w with _ | w
    · rw [stL_0] at h
      simp (disch := omega) only [QI_i, QV_v, QA_a, mR_def, Option.getD_some, mI_def, idx_nI, setI_def, gm_0 hW hB, gm_1 hW hB, gm_2 hW hB, gm_3 hW hB, gm_4 hW hB, gm_O hW hB, gm_N hW hB, gm_P hW hB, gR_some, Bool.and_self, cond_true, cond_false, up2_pc, up2_pc0, pc_at, pc_at0, up2_at, up2_ne, h7, icB_ge, hki, decide_false, icB_le, Nat.le_refl, decide_true]
      exact h c hG hE
    · rw [stL_s] at h
      have hw0 : ¬ w + 1 ≤ 0 := by omega
      simp (disch := omega) only [QI_i, QV_v, QA_a, mR_def, Option.getD_some, mI_def, idx_nI, setI_def, gm_0 hW hB, gm_1 hW hB, gm_2 hW hB, gm_3 hW hB, gm_4 hW hB, gm_O hW hB, gm_N hW hB, gm_P hW hB, gR_some, Bool.and_self, cond_true, cond_false, up2_pc, up2_pc0, pc_at, pc_at0, up2_at, up2_ne, h7, icB_ge, hki, decide_false, icB_le, hw0]
      rw [k_hind hW hB hG ha (show i < b by omega)]
      by_cases hr : rsn z a i = nI 0
      · rw [if_pos hr] at h
        simp (disch := omega) only [QI_i, QV_v, QA_a, mR_def, Option.getD_some, mI_def, idx_nI, setI_def, gm_0 hW hB, gm_1 hW hB, gm_2 hW hB, gm_3 hW hB, gm_4 hW hB, gm_O hW hB, gm_N hW hB, gm_P hW hB, gR_some, Bool.and_self, cond_true, cond_false, up2_pc, up2_pc0, pc_at, pc_at0, up2_at, up2_ne, hr, icB_ne, not_true_eq_false, decide_false]
        rw [k_at hW hB (show i < 24 by omega)]
        simp (disch := omega) only [QI_i, QV_v, QA_a, mR_def, Option.getD_some, mI_def, idx_nI, setI_def, gm_0 hW hB, gm_1 hW hB, gm_2 hW hB, gm_3 hW hB, gm_4 hW hB, gm_O hW hB, gm_N hW hB, gm_P hW hB, gR_some, Bool.and_self, cond_true, cond_false, up2_pc, up2_pc0, pc_at, pc_at0, up2_at, up2_ne]
        rw [k_needs hW hB (show i < 24 by omega) (k := pt z i 0) (by simp (disch := omega) only [up2_ne]; exact h0)]
        simp (disch := omega) only [QI_i, QV_v, QA_a, mR_def, Option.getD_some, mI_def, idx_nI, setI_def, gm_0 hW hB, gm_1 hW hB, gm_2 hW hB, gm_3 hW hB, gm_4 hW hB, gm_O hW hB, gm_N hW hB, gm_P hW hB, gR_some, Bool.and_self, cond_true, cond_false, up2_pc, up2_pc0, pc_at, pc_at0, up2_at, up2_ne, nI_add, nI_sub1']
        refine ih (i := i + 1) (w := w) (by omega) ⟨(Inv_stF ⟨hG.1, hE⟩).1, Rdy_stF hG.2.1 hG.1 (by omega) hr, ?_⟩ (Inv_stF ⟨hG.1, hE⟩).2 (by omega) (by omega) h
        unfold stF
        refine Rel.chg hR ha (fun o k ho => by simp (disch := omega) only [up2_ne]) (fun k hk => by simp (disch := omega) only [lay_lo]) (fun j f hj hf => by simp (disch := omega) only [pt_lj]) (fun f hf => ⟨by simp (disch := omega) only [up2_ne], by simp (disch := omega) only [pt_ln]⟩) (fun hin => ⟨?_, ?_⟩) ⟨by simp (disch := omega) only [up2_ne], by simp (disch := omega) only [up2_ne]⟩ (fun _ => ?_)
        · simp (disch := omega) only [up2_ne, pt_ln]; exact hR.row hin (by decide)
        · simp (disch := omega) only [up2_ne, pt_ln]; exact hR.row hin (by decide)
        · unfold Erl
          simp (disch := omega) only [up2_ne, up2_at, pt_ln, pt_le]
          exact ⟨by trivial, fun _ => by trivial, fun e => absurd e (not_nI (by decide) (by decide) (by decide))⟩
      · rw [if_neg hr] at h
        simp (disch := omega) only [QI_i, QV_v, QA_a, mR_def, Option.getD_some, mI_def, idx_nI, setI_def, gm_0 hW hB, gm_1 hW hB, gm_2 hW hB, gm_3 hW hB, gm_4 hW hB, gm_O hW hB, gm_N hW hB, gm_P hW hB, gR_some, Bool.and_self, cond_true, cond_false, up2_pc, up2_pc0, pc_at, pc_at0, up2_at, up2_ne, icB_ne, hr, not_false_eq_true, decide_true, nI_add]
        exact ih (i := i + 1) (w := w + 1) hw4 hG hE (by omega) (by omega) h
theorem k_start {xs : Scr} {I : In2} {ρ : Rh} {Q : Post} {m : Nat} {c : In2} (hW : Rw ρ) (hB : Bs m) {z : Zt} {a b n : Nat} (hG : Big c z a b n) (hE : Ent z a b) (h : ∀ c', Big c' (cy3 z) a b n → Ent (cy3 z) a b → Q (.inl none) (pc I m c', ρ)) : Ev xs 39 0 [.ref m, .null, .null, .null] [] (pc I m c, ρ) Q := by
  have hb := hG.1.bnd
  have h8 := hG.c8
  obtain ⟨w10, l10, u10⟩ := hG.1.w10
  have hs : c 5 1 = nI (idx (z 10)) := (hG.2.2.set (k := 1) (by decide)).trans w10
  apply w_X2_startEntries_0
  have hga : gA (pc I m c, ρ) (m + 5) 6 (nI 1) = true := gm_D hW hB (by decide)
  simp (disch := omega) only [QI_i, QV_v, QA_a, mR_def, Option.getD_some, mI_def, idx_nI, setI_def, gm_0 hW hB, gm_1 hW hB, gm_2 hW hB, gm_3 hW hB, gm_4 hW hB, gm_O hW hB, gm_N hW hB, gm_P hW hB, gR_some, Bool.and_self, cond_true, cond_false, up2_pc, up2_pc0, pc_at, pc_at0, up2_at, up2_ne, hga, hs, h8]
  have e3 : stL a (b - a) a (idx (z 10)) z = cy3 z := by unfold cy3; rw [hG.1.i3, hG.1.i2]
  refine k_start12 hW hB (d := b - a) u10 hG hE (Nat.le_refl a) (by omega) ?_
  rw [e3]; exact h
/-! issuing -/
theorem Nm.new {c : In2} {z : Zt} {a b q : Nat} (hq : q < 8) (hab : a ≤ b) : Nm c z a b (oI (mkr z a b (nI q))) (nI q) := by
  refine Or.inr ⟨q, hq, rfl, ?_⟩
  cases hm : mkr z a b (nI q) with
  | none => exact Or.inl ⟨rfl, lat_none hm⟩
  | some j =>
    obtain ⟨h1, h2, h3, h4⟩ := lat_some hm
    exact Or.inr ⟨j, h2, rfl, fun k _ hj hk => h4 k hj hk, fun _ => h3, fun h => by omega⟩
theorem Rel_isF {c : In2} {z : Zt} {a b n : Nat} {nm1 nm2 : Int32} (h : Rel c z a b n) (hb : a ≤ b) (hbn : b < n) (n1 : ∀ c', Nm c' z a b nm1 (pt z b 2)) (n2 : ∀ c', Nm c' z a b nm2 (pt z b 3)) :
    Rel (up2 (up2 (up2 (up2 c (6 + b) 7 (nI 0)) (6 + b) 9 nm1) (6 + b) 10 nm2) 0 7 (nI (b + 1))) (isF z b) a (b + 1) n := by
  obtain ⟨k1, k2, k3, k4, k5, k6, k7⟩ := h
  have ep : ∀ j f, f < 12 → ¬ (j = b ∧ f = 7) → pt (isF z b) j f = pt z j f := fun j f hf hj => by
    unfold isF; rw [pt_uz (by decide), pt_lay (by decide) hf, if_neg hj]
  have ez : ∀ k, k < 36 → ¬ k = 2 → (isF z b) k = z k := fun k hk h2 => by unfold isF; rw [uz_ne h2, lay_lo hk]
  refine ⟨fun k hk => ?_, fun k hk => ?_, fun k hk => ?_, fun k hk => ?_, fun j f hj hf => ?_, fun j h1 h2 => ?_, fun j h1 h2 => ?_⟩
  · by_cases hk2 : k = 2
    · rw [hk2, up2_at]; exact uz_at.symm
    · rw [up2_ne (by omega), up2_ne (by omega), up2_ne (by omega), up2_ne (by omega), ez k (by omega) hk2]; exact k1 k hk
  · rw [up2_ne (by omega), up2_ne (by omega), up2_ne (by omega), up2_ne (by omega), ez _ (by omega) (by omega)]; exact k2 k hk
  · rw [up2_ne (by omega), up2_ne (by omega), up2_ne (by omega), up2_ne (by omega), ez _ (by omega) (by omega)]; exact k3 k hk
  · rw [up2_ne (by omega), up2_ne (by omega), up2_ne (by omega), up2_ne (by omega), ez _ (by omega) (by omega)]; exact k4 k hk
  · rw [up2_ne (by omega), up2_ne (by omega), up2_ne (by omega), up2_ne (by omega), ep _ _ (by omega) (by omega)]; exact k5 j f hj hf
  · by_cases hjb : j = b
    · subst hjb
      unfold Erl
      rw [show pt (isF z j) j 7 = nI 0 by unfold isF; rw [pt_uz (by decide), pt_le], show up2 (up2 (up2 (up2 c (6 + j) 7 (nI 0)) (6 + j) 9 nm1) (6 + j) 10 nm2) 0 7 (nI (j + 1)) (6 + j) 7 = nI 0 by rw [up2_ne (by omega), up2_ne (by omega), up2_ne (by omega), up2_at]]
      exact ⟨rfl, fun e => absurd e (not_nI (by decide) (by decide) (by decide)), fun e => absurd e (not_nI (by decide) (by decide) (by decide))⟩
    · have := k6 j h1 (by omega)
      unfold Erl at this ⊢
      simp (disch := omega) only [up2_ne, ep]
      exact this
  · have ec : ∀ k, k < a → (up2 (up2 (up2 (up2 c (6 + b) 7 (nI 0)) (6 + b) 9 nm1) (6 + b) 10 nm2) 0 7 (nI (b + 1))) (6 + k) 13 = c (6 + k) 13 := fun k hk => by simp (disch := omega) only [up2_ne]
    have em : ∀ p, ∀ k, k < j → mkP (isF z b) p k = mkP z p k := fun p k _ => mkP_congr (ep _ _ (by decide) (by omega)) (ep _ _ (by decide) (by omega))
    have er : ∀ q, q < 8 → (isF z b) (12 + q) = z (12 + q) := fun q hq => ez _ (by omega) (by omega)
    rw [ep j 2 (by decide) (by omega), ep j 3 (by decide) (by omega)]
    by_cases hjb : j = b
    · subst hjb
      rw [show up2 (up2 (up2 (up2 c (6 + j) 7 (nI 0)) (6 + j) 9 nm1) (6 + j) 10 nm2) 0 7 (nI (j + 1)) (6 + j) 9 = nm1 by rw [up2_ne (by omega), up2_ne (by omega), up2_at], show up2 (up2 (up2 (up2 c (6 + j) 7 (nI 0)) (6 + j) 9 nm1) (6 + j) 10 nm2) 0 7 (nI (j + 1)) (6 + j) 10 = nm2 by rw [up2_ne (by omega), up2_at]]
      exact ⟨(n1 c).cg (em _) ec er, (n2 c).cg (em _) ec er⟩
    · rw [show up2 (up2 (up2 (up2 c (6 + b) 7 (nI 0)) (6 + b) 9 nm1) (6 + b) 10 nm2) 0 7 (nI (b + 1)) (6 + j) 9 = c (6 + j) 9 by simp (disch := omega) only [up2_ne], show up2 (up2 (up2 (up2 c (6 + b) 7 (nI 0)) (6 + b) 9 nm1) (6 + b) 10 nm2) 0 7 (nI (b + 1)) (6 + j) 10 = c (6 + j) 10 by simp (disch := omega) only [up2_ne]]
      exact ⟨(k7 j h1 (by omega)).1.cg (em _) ec er, (k7 j h1 (by omega)).2.cg (em _) ec er⟩
theorem Rdy_isF {z : Zt} {a b n : Nat} (h : Rdy z a b) : Rdy (isF z b) a (b + 1) := by
  have ep : ∀ j f, f < 12 → ¬ (j = b ∧ f = 7) → pt (isF z b) j f = pt z j f := fun j f hf hj => by
    unfold isF; rw [pt_uz (by decide), pt_lay (by decide) hf, if_neg hj]
  intro j h1 h2 h3
  by_cases hjb : j = b
  · exact absurd (by subst hjb; unfold isF; rw [pt_uz (by decide), pt_le]) h3
  · rw [ep _ _ (by decide) (by omega)] at h3
    obtain ⟨r1, r2⟩ := h j h1 (by omega) h3
    have em : ∀ r, mkr (isF z b) a j r = mkr z a j r := fun r => mkr_cg fun k _ _ => ⟨ep _ _ (by decide) (by omega), ep _ _ (by decide) (by omega)⟩
    rw [ep _ _ (by decide) (by omega), ep _ _ (by decide) (by omega)]
    rw [rdy_iff] at r1 r2 ⊢
    rw [rdy_iff]
    refine ⟨fun k hk => ?_, fun k hk => ?_⟩
    · rw [em] at hk; have := mkr_lt hk; rw [ep _ _ (by decide) (by omega)]; exact r1 k hk
    · rw [em] at hk; have := mkr_lt hk; rw [ep _ _ (by decide) (by omega)]; exact r2 k hk
theorem WfR.opr {k t p q n : Int32} (h : WfR k t p q n) : (p = nM ∨ regOk p) ∧ (q = nM ∨ regOk q) := by
  rcases h with ⟨_, _, h1, h2, _⟩ | ⟨_, _, h1, h2, _⟩ | ⟨_, _, h1, h2, _⟩ | ⟨_, _, h1, h2, _⟩
  · exact ⟨Or.inl h1, Or.inl h2⟩
  · exact ⟨Or.inr h1, Or.inr h2⟩
  · exact ⟨Or.inr h1, Or.inl h2⟩
  · exact ⟨Or.inr h1, Or.inr h2⟩
def nmF (z : Zt) (a i : Nat) (p : Int32) : Int32 := if p = nM then nM else oI (mkr z a i p)
theorem k_lat {xs : Scr} {I : In2} {ρ : Rh} {Q : Post} {m : Nat} {c : In2} (hW : Rw ρ) (hB : Bs m) {z : Zt} {a b n i : Nat} {p : Int32} (hG : Big c z a b n) (hp : p = nM ∨ regOk p) (hi : i ≤ n) : Ev xs 28 0 [.ref m, .int p, .int (nI i), .null] [] (pc I m c, ρ) Q ↔ Q (.inl (some (.int (nmF z a i p) ))) (pc I m c, ρ) := by
  unfold nmF
  rcases hp with hp | ⟨q, hq, hp⟩
  · subst hp; rw [if_pos rfl]; exact k_latMakerM hW hB
  · subst hp; rw [if_neg (nM_ne (by omega))]; exact k_latMaker hW hB hG hq hi
theorem Nm_nmF {z : Zt} {a b : Nat} {p : Int32} (hab : a ≤ b) (hp : p = nM ∨ regOk p) (c : In2) : Nm c z a b (nmF z a b p) p := by
  unfold nmF
  rcases hp with hp | ⟨q, hq, hp⟩
  · subst hp; rw [if_pos rfl]; exact Or.inl ⟨rfl, rfl⟩
  · subst hp; rw [if_neg (nM_ne (by omega))]; exact Nm.new hq hab
theorem k_issue7 {xs : Scr} {I : In2} {ρ : Rh} {m : Nat} (hW : Rw ρ) (hB : Bs m) {a n w : Nat} (hw8 : w ≤ 8) : ∀ {k b : Nat} {z : Zt} {c : In2} {v2 : Value} {Q : Post}, k ≤ 4 → Big c z a b n → Ent z a b → z 9 = nI w →
    (∀ c' b', Big c' (isL a n w k b z) a b' n → Ent (isL a n w k b z) a b' → Q (.inl none) (pc I m c', ρ)) → Ev xs 40 7 [.ref m, .int (nI k), v2] [] (pc I m c, ρ) Q := by
  intro k
  induction k with
  | zero =>
    intro b z c v2 Q hk4 hG hE h9 h
    apply w_X2_issueInstructions_7
    simp (disch := omega) only [QI_i, QV_v, QA_a, mR_def, Option.getD_some, mI_def, idx_nI, setI_def, gm_0 hW hB, gm_1 hW hB, gm_2 hW hB, gm_3 hW hB, gm_4 hW hB, gm_O hW hB, gm_N hW hB, gm_P hW hB, gR_some, Bool.and_self, cond_true, cond_false, up2_pc, up2_pc0, pc_at, pc_at0, up2_at, up2_ne, icB_le, Nat.le_refl, decide_true]
    exact h c b hG hE
  | succ k ih =>
    intro b z c v2 Q hk4 hG hE h9 h
    have hb := hG.1.bnd
    have h8 := hG.c8
    have h7 := hG.c7
    have h6 := hG.c6
    have hR := hG.2.2
    have hk0 : ¬ k + 1 ≤ 0 := by omega
    have hs : c 5 0 = nI w := (hR.set (k := 0) (by decide)).trans h9
    have hga : gA (pc I m c, ρ) (m + 5) 6 (nI 0) = true := gm_D hW hB (by decide)
    rw [isL_s] at h
    apply w_X2_issueInstructions_7
    simp (disch := omega) only [QI_i, QV_v, QA_a, mR_def, Option.getD_some, mI_def, idx_nI, setI_def, gm_0 hW hB, gm_1 hW hB, gm_2 hW hB, gm_3 hW hB, gm_4 hW hB, gm_O hW hB, gm_N hW hB, gm_P hW hB, gR_some, Bool.and_self, cond_true, cond_false, up2_pc, up2_pc0, pc_at, pc_at0, up2_at, up2_ne, icB_le, hk0, decide_false]
    apply w_X2_entries_0
    simp (disch := omega) only [QI_i, QV_v, QA_a, mR_def, Option.getD_some, mI_def, idx_nI, setI_def, gm_0 hW hB, gm_1 hW hB, gm_2 hW hB, gm_3 hW hB, gm_4 hW hB, gm_O hW hB, gm_N hW hB, gm_P hW hB, gR_some, Bool.and_self, cond_true, cond_false, up2_pc, up2_pc0, pc_at, pc_at0, up2_at, up2_ne, h7, h8, pk_sub, hga, hs, icB_ge]
    by_cases hwb : w ≤ b - a
    · rw [if_neg (by omega)] at h
      simp (disch := omega) only [hwb, decide_true, cond_true]
      exact h c b hG hE
    · simp (disch := omega) only [hwb, decide_false, cond_false, h6, icB_ge]
      by_cases hnb : n ≤ b
      · rw [if_neg (by omega)] at h
        simp (disch := omega) only [QI_i, QV_v, QA_a, mR_def, Option.getD_some, mI_def, idx_nI, setI_def, gm_0 hW hB, gm_1 hW hB, gm_2 hW hB, gm_3 hW hB, gm_4 hW hB, gm_O hW hB, gm_N hW hB, gm_P hW hB, gR_some, Bool.and_self, cond_true, cond_false, up2_pc, up2_pc0, pc_at, pc_at0, up2_at, up2_ne, hnb, decide_true]
        exact h c b hG hE
      · rw [if_pos (by omega)] at h
        have f2 : c (6 + b) 2 = pt z b 2 := hR.row (by omega) (by decide)
        have f3 : c (6 + b) 3 = pt z b 3 := hR.row (by omega) (by decide)
        obtain ⟨o1, o2⟩ := (hG.1.row (i := b) (by omega)).1.opr
        have hG1 : ∀ v, Big (up2 c (6 + b) 7 v) z a b n := fun v => ⟨hG.1, hG.2.1, hR.shr (by omega) (Nat.le_refl b) (fun o k ho => by simp (disch := omega) only [up2_ne]) (fun f hf => by simp (disch := omega) only [up2_ne])⟩
        have hG2 : ∀ v w, Big (up2 (up2 c (6 + b) 7 v) (6 + b) 9 w) z a b n := fun v w => ⟨hG.1, hG.2.1, hR.shr (by omega) (Nat.le_refl b) (fun o k ho => by simp (disch := omega) only [up2_ne]) (fun f hf => by simp (disch := omega) only [up2_ne])⟩
        simp (disch := omega) only [QI_i, QV_v, QA_a, mR_def, Option.getD_some, mI_def, idx_nI, setI_def, gm_0 hW hB, gm_1 hW hB, gm_2 hW hB, gm_3 hW hB, gm_4 hW hB, gm_O hW hB, gm_N hW hB, gm_P hW hB, gR_some, Bool.and_self, cond_true, cond_false, up2_pc, up2_pc0, pc_at, pc_at0, up2_at, up2_ne, hnb, decide_false, h7]
        rw [k_at hW hB (show b < 24 by omega)]
        simp (disch := omega) only [QI_i, QV_v, QA_a, mR_def, Option.getD_some, mI_def, idx_nI, setI_def, gm_0 hW hB, gm_1 hW hB, gm_2 hW hB, gm_3 hW hB, gm_4 hW hB, gm_O hW hB, gm_N hW hB, gm_P hW hB, gR_some, Bool.and_self, cond_true, cond_false, up2_pc, up2_pc0, pc_at, pc_at0, up2_at, up2_ne, h7, f2]
        rw [k_lat hW hB (hG1 _) o1 (show b ≤ n by omega)]
        simp (disch := omega) only [QI_i, QV_v, QA_a, mR_def, Option.getD_some, mI_def, idx_nI, setI_def, gm_0 hW hB, gm_1 hW hB, gm_2 hW hB, gm_3 hW hB, gm_4 hW hB, gm_O hW hB, gm_N hW hB, gm_P hW hB, gR_some, Bool.and_self, cond_true, cond_false, up2_pc, up2_pc0, pc_at, pc_at0, up2_at, up2_ne, h7, f3]
        rw [k_lat hW hB (hG2 _ _) o2 (show b ≤ n by omega)]
        simp (disch := omega) only [QI_i, QV_v, QA_a, mR_def, Option.getD_some, mI_def, idx_nI, setI_def, gm_0 hW hB, gm_1 hW hB, gm_2 hW hB, gm_3 hW hB, gm_4 hW hB, gm_O hW hB, gm_N hW hB, gm_P hW hB, gR_some, Bool.and_self, cond_true, cond_false, up2_pc, up2_pc0, pc_at, pc_at0, up2_at, up2_ne, h7, nI_add, nI_sub1']
        exact ih (b := b + 1) (by omega) ⟨(Inv_isF ⟨hG.1, hE⟩ (by omega)).1, Rdy_isF (n := n) hG.2.1, Rel_isF hR (by omega) (by omega) (Nm_nmF (by omega) o1) (Nm_nmF (by omega) o2)⟩ (Inv_isF ⟨hG.1, hE⟩ (by omega)).2 (by unfold isF; rw [uz_ne (by decide), lay_lo (by decide)]; exact h9) h
theorem k_issue {xs : Scr} {I : In2} {ρ : Rh} {Q : Post} {m : Nat} {c : In2} (hW : Rw ρ) (hB : Bs m) {z : Zt} {a b n : Nat} (hG : Big c z a b n) (hE : Ent z a b) (h : ∀ c' b', Big c' (cy4 z) a b' n → Ent (cy4 z) a b' → Q (.inl none) (pc I m c', ρ)) : Ev xs 40 0 [.ref m, .null, .null] [] (pc I m c, ρ) Q := by
  have hb := hG.1.bnd
  obtain ⟨w10, l10, u10⟩ := hG.1.w10
  obtain ⟨w9, l9, u9⟩ := hG.1.w9
  have hs : c 5 1 = nI (idx (z 10)) := (hG.2.2.set (k := 1) (by decide)).trans w10
  apply w_X2_issueInstructions_0
  have hga : gA (pc I m c, ρ) (m + 5) 6 (nI 1) = true := gm_D hW hB (by decide)
  simp (disch := omega) only [QI_i, QV_v, QA_a, mR_def, Option.getD_some, mI_def, idx_nI, setI_def, gm_0 hW hB, gm_1 hW hB, gm_2 hW hB, gm_3 hW hB, gm_4 hW hB, gm_O hW hB, gm_N hW hB, gm_P hW hB, gR_some, Bool.and_self, cond_true, cond_false, up2_pc, up2_pc0, pc_at, pc_at0, up2_at, up2_ne, hga, hs]
  have e4 : isL a n (idx (z 9)) (idx (z 10)) b z = cy4 z := by unfold cy4; rw [hG.1.i3, hG.1.i2, hG.1.i1]
  refine k_issue7 hW hB u9 u10 hG hE w9 ?_
  rw [e4]; exact h
/-! retiring -/
theorem k_put4 {xs : Scr} {I : In2} {ρ : Rh} {Q : Post} {m : Nat} {c : In2} (hW : Rw ρ) (hB : Bs m) {i x : Nat} (hi : i < 24) (hx : x < 16) (h0 : c (6 + i) 0 = nI 4) (h11 : c (6 + i) 11 = nI x) : Ev xs 20 0 [.ref m, .ref (m + (6 + i))] [] (pc I m c, ρ) Q ↔ Q (.inl none) (pc I m (up2 c 4 x (c (6 + i) 13)), ρ) := by
  have e0 : ¬ x < 0 := by omega
  have e16 : ¬ 16 ≤ x := by omega
  apply Ev.dt; intro Q h; apply w_X2_put_0
  try simp (disch := omega) only [mR_def, Option.getD_some, mI_def, idx_nI, setI_def, nI_add, pk_mul, gm_0 hW hB, gm_1 hW hB, gm_2 hW hB, gm_3 hW hB, gm_4 hW hB, up2_pc, up2_pc0, pc_at, pc_at0, h0, h11, e0, e16]
  simp (maxSteps := 1000000) (disch := omega) only [↓QI_i, ↓QV_v, ↓QA_a, ↓QF_f, ↓QD_d, ↓QL_l, ↓Bool.cond_eq_ite, ↓reduceIte, decide_eq_true_eq, Bool.not_eq_true', Bool.true_and, Bool.and_true, Bool.and_self, gR_some, Option.getD_some, mI_def, setI_def, mR_def, not_false_eq_true, not_true_eq_false, Bool.false_eq_true, idx_nI, nI_add, pk_mul, icB_lt, icB_gt, icB_le, icB_ge, icB_eq, icB_ne, bI_ne, nI_eqI, gm_O hW hB, gm_N hW hB, gm_P hW hB, gm_R hW hB, gm_0 hW hB, gm_1 hW hB, gm_2 hW hB, gm_3 hW hB, gm_4 hW hB, gm_A hW hB, gm_B hW hB, gm_C hW hB, gm_D hW hB, gm_L hW hB, gm_l1 hB, gm_l3 hB, gm_l4 hB, gm_l5 hB, up2_pc, up2_pc0, pc_at, pc_at0, h0, h11, e0, e16]
  exact h
theorem k_putR {xs : Scr} {I : In2} {ρ : Rh} {Q : Post} {m : Nat} {c : In2} (hW : Rw ρ) (hB : Bs m) {i x : Nat} (hi : i < 24) (hx : x < 8) (h0 : ¬ c (6 + i) 0 = nI 4) (h1 : c (6 + i) 1 = nI x) : Ev xs 20 0 [.ref m, .ref (m + (6 + i))] [] (pc I m c, ρ) Q ↔ Q (.inl none) (pc I m (up2 c 3 x (c (6 + i) 13)), ρ) := by
  have e0 : ¬ x < 0 := by omega
  have e8 : ¬ 8 ≤ x := by omega
  apply Ev.dt; intro Q h; apply w_X2_put_0
  try simp (disch := omega) only [mR_def, Option.getD_some, mI_def, idx_nI, setI_def, nI_add, pk_mul, gm_0 hW hB, gm_1 hW hB, gm_2 hW hB, gm_3 hW hB, gm_4 hW hB, up2_pc, up2_pc0, pc_at, pc_at0, h0, h1, e0, e8]
  simp (maxSteps := 1000000) (disch := omega) only [↓QI_i, ↓QV_v, ↓QA_a, ↓QF_f, ↓QD_d, ↓QL_l, ↓Bool.cond_eq_ite, ↓reduceIte, decide_eq_true_eq, Bool.not_eq_true', Bool.true_and, Bool.and_true, Bool.and_self, gR_some, Option.getD_some, mI_def, setI_def, mR_def, not_false_eq_true, not_true_eq_false, Bool.false_eq_true, idx_nI, nI_add, pk_mul, icB_lt, icB_gt, icB_le, icB_ge, icB_eq, icB_ne, bI_ne, nI_eqI, gm_O hW hB, gm_N hW hB, gm_P hW hB, gm_R hW hB, gm_0 hW hB, gm_1 hW hB, gm_2 hW hB, gm_3 hW hB, gm_4 hW hB, gm_A hW hB, gm_B hW hB, gm_C hW hB, gm_D hW hB, gm_L hW hB, gm_l1 hB, gm_l3 hB, gm_l4 hB, gm_l5 hB, up2_pc, up2_pc0, pc_at, pc_at0, h0, h1, e0, e8]
  exact h
theorem rtF_pt {z : Zt} {a : Nat} {i f : Nat} (hf : f < 12) (h1 : ¬ (i = a ∧ f = 5)) (hx : (pt z a 0 = nI 4 ∧ idx (pt z a 9) < 16) ∨ (¬ pt z a 0 = nI 4 ∧ idx (pt z a 1) < 8)) : pt (rtF z a) i f = pt z i f := by
  unfold rtF
  simp only [pt_uz (show 6 < 36 by decide), pt_uz (show 3 < 36 by decide), pt_lay (show 5 < 12 by decide) hf, h1, if_false]
  rcases hx with ⟨h, hx⟩ | ⟨h, hx⟩
  · rw [if_pos h, pt_uz (by omega)]
  · rw [if_neg h, pt_uz (by omega)]
theorem rtF_rg {z : Zt} {a k : Nat} (hk : 12 ≤ k ∧ k < 36) : (rtF z a) k = if pt z a 0 = nI 4 then (uz z (20 + idx (pt z a 9)) (pt z a 11)) k else (uz z (12 + idx (pt z a 1)) (pt z a 11)) k := by
  unfold rtF
  simp (disch := omega) only [uz_ne, lay_lo]
  split <;> rfl
theorem Rel_rtF {c c' : In2} {z : Zt} {a b n : Nat} (hI : Inv0 z a b n) (h : Rel c z a b n) (hab : a < b) (hs : pt z a 7 = nI 2) (hx : (pt z a 0 = nI 4 ∧ idx (pt z a 9) < 16) ∨ (¬ pt z a 0 = nI 4 ∧ ∃ x, x < 8 ∧ pt z a 1 = nI x))
    (hc : ∀ o k, ¬ (o = 3 ∨ o = 4 ∨ (o = 6 + a ∧ k = 5) ∨ (o = 0 ∧ (k = 8 ∨ k = 11))) → c' o k = c o k) (h5 : c' (6 + a) 5 = nI (idx (pt z a 5) - 1)) (h8 : c' 0 8 = nI (a + 1)) (h11 : c' 0 11 = z 6 + nI 1)
    (h3 : ∀ k, k < 8 → c' 3 k = (rtF z a) (12 + k)) (h4 : ∀ k, k < 16 → c' 4 k = (rtF z a) (20 + k)) : Rel c' (rtF z a) (a + 1) b n := by
  obtain ⟨k1, k2, k3, k4, k5, k6, k7⟩ := h
  have hbn := hI.bnd
  have hx' : (pt z a 0 = nI 4 ∧ idx (pt z a 9) < 16) ∨ (¬ pt z a 0 = nI 4 ∧ idx (pt z a 1) < 8) := by
    rcases hx with hx | ⟨hx, x, hx8, hxe⟩
    · exact Or.inl hx
    · exact Or.inr ⟨hx, by rw [hxe, idx_nI (by omega)]; exact hx8⟩
  have ep : ∀ i f, f < 12 → ¬ (i = a ∧ f = 5) → pt (rtF z a) i f = pt z i f := fun i f hf hi => rtF_pt hf hi hx'
  have ez : ∀ k, k < 12 → ¬ k = 3 → ¬ k = 6 → (rtF z a) k = z k := fun k hk e3 e6 => by
    unfold rtF
    rw [uz_ne e6, uz_ne e3, lay_lo (by omega)]
    split
    · rw [uz_ne (by omega)]
    · rw [uz_ne (by omega)]
  refine ⟨fun k hk => ?_, fun k hk => by rw [hc _ _ (by omega), ez _ (by omega) (by omega) (by omega)]; exact k2 k hk, h3, h4, fun j f hj hf => ?_, fun j h1 h2 => ?_, fun j h1 h2 => ?_⟩
  · by_cases e3 : k = 3
    · rw [e3]; exact h8.trans (by unfold rtF; rw [uz_ne (by decide), uz_at])
    · by_cases e6 : k = 6
      · rw [e6]; exact h11.trans (by unfold rtF; rw [uz_at])
      · rw [hc _ _ (by omega), ez k (by omega) e3 e6]; exact k1 k hk
  · by_cases hja : j = a ∧ f = 5
    · rw [hja.1, hja.2, h5]
      unfold rtF; rw [pt_uz (by decide), pt_uz (by decide), pt_le]
    · rw [hc _ _ (by omega), ep j f (by omega) hja]; exact k5 j f hj hf
  · have := k6 j (by omega) h2
    unfold Erl at this ⊢
    rw [hc _ _ (by omega), hc _ _ (by omega), hc _ _ (by omega), hc _ _ (by omega), hc _ _ (by omega), ep j 7 (by decide) (by omega), ep j 8 (by decide) (by omega), ep j 11 (by decide) (by omega), ep j 0 (by decide) (by omega), ep j 9 (by decide) (by omega), ep j 10 (by decide) (by omega)]
    exact this
  · have em : ∀ p k, mkP (rtF z a) p k = mkP z p k := fun p k => mkP_congr (ep _ _ (by decide) (by omega)) (ep _ _ (by decide) (by omega))
    have emade : ∀ k, k ≤ a → c' (6 + k) 13 = c (6 + k) 13 := fun k _ => hc _ _ (by omega)
    have ereg : ∀ q, q < 8 → mkP z (nI q) a = false → (rtF z a) (12 + q) = z (12 + q) := fun q hq hm => by
      rw [rtF_rg (by omega)]
      rcases hx with ⟨hk, hx⟩ | ⟨hk, x, hx8, hxe⟩
      · rw [if_pos hk, uz_ne (by omega)]
      · rw [if_neg hk, hxe, idx_nI (by omega)]
        by_cases hqx : q = x
        · exfalso; subst hqx; unfold mkP at hm; simp [hk, hxe] at hm
        · rw [uz_ne (by omega)]
    have ereg2 : ∀ q, q < 8 → mkP z (nI q) a = true → (rtF z a) (12 + q) = pt z a 11 := fun q hq hm => by
      rw [rtF_rg (by omega)]
      unfold mkP at hm
      rcases hx with ⟨hk, hx⟩ | ⟨hk, x, hx8, hxe⟩
      · simp [hk] at hm
      · rw [if_neg hk, hxe, idx_nI (by omega)]
        rw [hxe] at hm
        have : x = q := by
          by_cases e : x = q
          · exact e
          · have e' : ¬ nI x = nI q := not_nI (by omega) (by omega) e
            simp [hk, e'] at hm
        subst this; exact uz_at
    have hmade : c (6 + a) 13 = pt z a 11 := ((k6 a (Nat.le_refl a) hab).2.2 hs).1
    have nm : ∀ nm p, Nm c z a j nm p → Nm c' (rtF z a) (a + 1) j nm p := by
      intro nm p hN
      rcases hN with hN | ⟨q, hq, hp, ⟨hn, hno⟩ | ⟨j', hj', hn, hno, hmk, hmd⟩⟩
      · exact Or.inl hN
      · exact Or.inr ⟨q, hq, hp, Or.inl ⟨hn, fun k e1 e2 => by rw [em]; exact hno k (by omega) e2⟩⟩
      · refine Or.inr ⟨q, hq, hp, Or.inr ⟨j', hj', hn, fun k e1 e2 e3 => by rw [em]; exact hno k (by omega) e2 e3, fun e => by rw [em]; exact hmk (by omega), fun e => ?_⟩⟩
        rw [emade _ (by omega)]
        subst hp
        by_cases hja : j' = a
        · subst hja; rw [ereg2 q hq (hmk (Nat.le_refl _)), hmade]
        · rw [ereg q hq (hno a (Nat.le_refl a) (by omega) (by omega))]; exact hmd (by omega)
    rw [hc _ _ (by omega), hc _ _ (by omega), ep j 2 (by decide) (by omega), ep j 3 (by decide) (by omega)]
    exact ⟨nm _ _ (k7 j (by omega) h2).1, nm _ _ (k7 j (by omega) h2).2⟩
theorem Rdy_rtF {z : Zt} {a b : Nat} (h : Rdy z a b) (hab : a < b) (hx : (pt z a 0 = nI 4 ∧ idx (pt z a 9) < 16) ∨ (¬ pt z a 0 = nI 4 ∧ idx (pt z a 1) < 8)) : Rdy (rtF z a) (a + 1) b := by
  have ep : ∀ i f, f < 12 → ¬ (i = a ∧ f = 5) → pt (rtF z a) i f = pt z i f := fun i f hf hi => rtF_pt hf hi hx
  intro j h1 h2 h3
  rw [ep _ _ (by decide) (by omega)] at h3
  obtain ⟨r1, r2⟩ := h j (by omega) h2 h3
  have em : ∀ r k, mkr (rtF z a) (a + 1) j r = some k → mkr z a j r = some k := fun r k hk => by
    obtain ⟨e1, e2, e3, e4⟩ := lat_some hk
    have ec : ∀ k, mkP (rtF z a) r k = mkP z r k := fun k => mkP_congr (ep _ _ (by decide) (by omega)) (ep _ _ (by decide) (by omega))
    exact lat_eq_some (by omega) e2 (by rw [← ec]; exact e3) fun i g1 g2 => by rw [← ec]; exact e4 i g1 g2
  rw [ep _ _ (by decide) (by omega), ep _ _ (by decide) (by omega)]
  rw [rdy_iff] at r1 r2 ⊢
  rw [rdy_iff]
  exact ⟨fun k hk => by rw [ep _ _ (by decide) (by omega)]; exact r1 k (em _ _ hk), fun k hk => by rw [ep _ _ (by decide) (by omega)]; exact r2 k (em _ _ hk)⟩
theorem k_retire7 {xs : Scr} {I : In2} {ρ : Rh} {m : Nat} (hW : Rw ρ) (hB : Bs m) {b n : Nat} : ∀ {k a : Nat} {z : Zt} {c : In2} {v2 : Value} {Q : Post}, k ≤ 4 → Big c z a b n → Ent z a b →
    (∀ c' a', Big c' (retL k z) a' b n → Ent (retL k z) a' b → Q (.inl none) (pc I m c', ρ)) → Ev xs 33 7 [.ref m, .int (nI k), v2] [] (pc I m c, ρ) Q := by
  intro k
  induction k with
  | zero =>
    intro a z c v2 Q hk4 hG hE h
    apply w_X2_retireEntries_7
    simp (disch := omega) only [QI_i, QV_v, QA_a, mR_def, Option.getD_some, mI_def, idx_nI, setI_def, gm_0 hW hB, gm_1 hW hB, gm_2 hW hB, gm_3 hW hB, gm_4 hW hB, gm_O hW hB, gm_N hW hB, gm_P hW hB, gR_some, Bool.and_self, cond_true, cond_false, up2_pc, up2_pc0, pc_at, pc_at0, up2_at, up2_ne, icB_le, Nat.le_refl, decide_true]
    exact h c a hG hE
  | succ k ih =>
    intro a z c v2 Q hk4 hG hE h
    have hb := hG.1.bnd
    have h8 := hG.c8
    have h7 := hG.c7
    have hR := hG.2.2
    have hk0 : ¬ k + 1 ≤ 0 := by omega
    unfold retL at h
    rw [hG.1.i3, hG.1.i2] at h
    apply w_X2_retireEntries_7
    simp (disch := omega) only [QI_i, QV_v, QA_a, mR_def, Option.getD_some, mI_def, idx_nI, setI_def, gm_0 hW hB, gm_1 hW hB, gm_2 hW hB, gm_3 hW hB, gm_4 hW hB, gm_O hW hB, gm_N hW hB, gm_P hW hB, gR_some, Bool.and_self, cond_true, cond_false, up2_pc, up2_pc0, pc_at, pc_at0, up2_at, up2_ne, icB_le, hk0, decide_false, h8, h7, icB_ge]
    by_cases hab : a < b
    · have hba : ¬ b ≤ a := by omega
      have hst := hR.stg (i := a) ⟨Nat.le_refl a, hab⟩
      simp (disch := omega) only [QI_i, QV_v, QA_a, mR_def, Option.getD_some, mI_def, idx_nI, setI_def, gm_0 hW hB, gm_1 hW hB, gm_2 hW hB, gm_3 hW hB, gm_4 hW hB, gm_O hW hB, gm_N hW hB, gm_P hW hB, gR_some, Bool.and_self, cond_true, cond_false, up2_pc, up2_pc0, pc_at, pc_at0, up2_at, up2_ne, hba, decide_false]
      rw [k_at hW hB (show a < 24 by omega)]
      simp (disch := omega) only [QI_i, QV_v, QA_a, mR_def, Option.getD_some, mI_def, idx_nI, setI_def, gm_0 hW hB, gm_1 hW hB, gm_2 hW hB, gm_3 hW hB, gm_4 hW hB, gm_O hW hB, gm_N hW hB, gm_P hW hB, gR_some, Bool.and_self, cond_true, cond_false, up2_pc, up2_pc0, pc_at, pc_at0, up2_at, up2_ne, hst, icB_eq]
      by_cases hs : pt z a 7 = nI 2
      · rw [if_pos ⟨hab, hs⟩] at h
        simp (disch := omega) only [QI_i, QV_v, QA_a, mR_def, Option.getD_some, mI_def, idx_nI, setI_def, gm_0 hW hB, gm_1 hW hB, gm_2 hW hB, gm_3 hW hB, gm_4 hW hB, gm_O hW hB, gm_N hW hB, gm_P hW hB, gR_some, Bool.and_self, cond_true, cond_false, up2_pc, up2_pc0, pc_at, pc_at0, up2_at, up2_ne, hs, decide_true]
        obtain ⟨hw, d, hd3, hd, hdk⟩ := hG.1.row (i := a) (by omega)
        have er := (hR.ent (Nat.le_refl a) hab).2.2 hs
        have f0 : c (6 + a) 0 = pt z a 0 := hR.row (by omega) (by decide)
        have f1 : c (6 + a) 1 = pt z a 1 := hR.row (by omega) (by decide)
        have f5 : c (6 + a) 5 = nI d := (hR.row (by omega) (by decide)).trans hd
        have c11 : c 0 11 = z 6 := hR.cyc (k := 6) (by decide)
        have hI := Inv_rtF ⟨hG.1, hE⟩ hab hs
        have go : ∀ c', Rel c' (rtF z a) (a + 1) b n → ((pt z a 0 = nI 4 ∧ idx (pt z a 9) < 16) ∨ (¬ pt z a 0 = nI 4 ∧ idx (pt z a 1) < 8)) → ∀ v2, Ev xs 33 7 [.ref m, .int (nI k), v2] [] (pc I m c', ρ) Q := fun c' hc' hx v2 => ih (a := a + 1) (by omega) ⟨hI.1, Rdy_rtF hG.2.1 hab hx, hc'⟩ hI.2 h
        by_cases k4 : pt z a 0 = nI 4
        · obtain ⟨x, hx, hxe⟩ : ∃ x, x < 16 ∧ pt z a 9 = nI x := by
            rcases hE a (Nat.le_refl a) hab with e | ⟨e, _⟩ | ⟨_, e⟩
            · rw [hs] at e; exact absurd e (not_nI (by decide) (by decide) (by decide))
            · rw [hs] at e; exact absurd e (not_nI (by decide) (by decide) (by decide))
            · exact e (Or.inr k4)
          have e43 : ¬ nI 4 = nI 3 := not_nI (by decide) (by decide) (by decide)
          have hd0 : d = 0 := hdk (by rw [k4]; exact e43)
          rw [k_put4 hW hB (i := a) (x := x) (by omega) hx (f0.trans k4) ((er.2.1 (Or.inr k4)).trans hxe), er.1]
          simp (disch := omega) only [QI_i, QV_v, QA_a, mR_def, Option.getD_some, mI_def, idx_nI, setI_def, gm_0 hW hB, gm_1 hW hB, gm_2 hW hB, gm_3 hW hB, gm_4 hW hB, gm_O hW hB, gm_N hW hB, gm_P hW hB, gR_some, Bool.and_self, cond_true, cond_false, up2_pc, up2_pc0, pc_at, pc_at0, up2_at, up2_ne, f0, k4, icB_ne, e43, not_false_eq_true, decide_true, h8, c11, nI_add, nI_sub1']
          have hxi : idx (pt z a 9) = x := by rw [hxe, idx_nI (by omega)]
          refine go _ (Rel_rtF hG.1 hR hab hs (Or.inl ⟨k4, by omega⟩) (fun o k ho => by simp (disch := omega) only [up2_ne]) ?_ ?_ ?_ (fun k hk => ?_) (fun k hk => ?_)) (Or.inl ⟨k4, by omega⟩) _
          · simp (disch := omega) only [up2_ne]; rw [f5, hd, hd0]; rfl
          · simp (disch := omega) only [up2_ne, up2_at]
          · simp (disch := omega) only [up2_at]
          · rw [rtF_rg (by omega), if_pos k4, uz_ne (by omega)]; simp (disch := omega) only [up2_ne]; exact hR.reg hk
          · rw [rtF_rg (by omega), if_pos k4, hxi]
            by_cases hkx : k = x
            · subst hkx; simp (disch := omega) only [up2_ne, up2_at, uz_at]
            · simp (disch := omega) only [up2_ne, uz_ne]; exact hR.mem hk
        · obtain ⟨x, hx, hxe⟩ := hw.tgt k4
          have hxi : idx (pt z a 1) = x := by rw [hxe, idx_nI (by omega)]
          rw [k_putR hW hB (i := a) (x := x) (by omega) hx (by rw [f0]; exact k4) (f1.trans hxe), er.1]
          have done : ∀ c', c' = up2 (up2 (up2 (up2 c 3 x (pt z a 11)) (6 + a) 5 (nI (d - 1))) 0 8 (nI (a + 1))) 0 11 (z 6 + nI 1) → ∀ v2, Ev xs 33 7 [.ref m, .int (nI k), v2] [] (pc I m c', ρ) Q := by
            intro c' hc' v2
            refine go _ (Rel_rtF hG.1 hR hab hs (Or.inr ⟨k4, x, hx, hxe⟩) (fun o k ho => by rw [hc']; simp (disch := omega) only [up2_ne]) ?_ ?_ ?_ (fun k hk => ?_) (fun k hk => ?_)) (Or.inr ⟨k4, by omega⟩) _
            · rw [hc']; simp (disch := omega) only [up2_ne, up2_at]; rw [hd, idx_nI (by omega)]
            · rw [hc']; simp (disch := omega) only [up2_ne, up2_at]
            · rw [hc']; simp (disch := omega) only [up2_at]
            · rw [hc', rtF_rg (by omega), if_neg k4, hxi]
              by_cases hkx : k = x
              · subst hkx; simp (disch := omega) only [up2_ne, up2_at, uz_at]
              · simp (disch := omega) only [up2_ne, uz_ne]; exact hR.reg hk
            · rw [hc', rtF_rg (by omega), if_neg k4, uz_ne (by omega)]; simp (disch := omega) only [up2_ne]; exact hR.mem hk
          have nod : d = 0 → up2 (up2 c 3 x (pt z a 11)) (6 + a) 5 (nI (d - 1)) = up2 c 3 x (pt z a 11) := fun e => by
            funext o k'
            by_cases ho : o = 6 + a ∧ k' = 5
            · rw [ho.1, ho.2, up2_at, up2_ne (by omega), f5, e]
            · rw [up2_ne ho]
          by_cases k3 : pt z a 0 = nI 3
          · rcases d with _ | d
            · simp (disch := omega) only [QI_i, QV_v, QA_a, mR_def, Option.getD_some, mI_def, idx_nI, setI_def, gm_0 hW hB, gm_1 hW hB, gm_2 hW hB, gm_3 hW hB, gm_4 hW hB, gm_O hW hB, gm_N hW hB, gm_P hW hB, gR_some, Bool.and_self, cond_true, cond_false, up2_pc, up2_pc0, pc_at, pc_at0, up2_at, up2_ne, f0, k3, f5, icB_ne, not_true_eq_false, decide_false, icB_le, Nat.le_refl, decide_true, h8, c11, nI_add, nI_sub1']
              exact done _ (by rw [nod rfl]) _
            · have hd0 : ¬ d + 1 ≤ 0 := by omega
              simp (disch := omega) only [QI_i, QV_v, QA_a, mR_def, Option.getD_some, mI_def, idx_nI, setI_def, gm_0 hW hB, gm_1 hW hB, gm_2 hW hB, gm_3 hW hB, gm_4 hW hB, gm_O hW hB, gm_N hW hB, gm_P hW hB, gR_some, Bool.and_self, cond_true, cond_false, up2_pc, up2_pc0, pc_at, pc_at0, up2_at, up2_ne, f0, k3, f5, icB_ne, not_true_eq_false, decide_false, icB_le, hd0, h8, c11, nI_add, nI_sub1', nI_sub1]
              exact done _ rfl _
          · simp (disch := omega) only [QI_i, QV_v, QA_a, mR_def, Option.getD_some, mI_def, idx_nI, setI_def, gm_0 hW hB, gm_1 hW hB, gm_2 hW hB, gm_3 hW hB, gm_4 hW hB, gm_O hW hB, gm_N hW hB, gm_P hW hB, gR_some, Bool.and_self, cond_true, cond_false, up2_pc, up2_pc0, pc_at, pc_at0, up2_at, up2_ne, f0, icB_ne, k3, not_false_eq_true, decide_true, h8, c11, nI_add, nI_sub1']
            exact done _ (by rw [nod (hdk k3)]) _
      · rw [if_neg (fun e => hs e.2)] at h
        simp (disch := omega) only [QI_i, QV_v, QA_a, mR_def, Option.getD_some, mI_def, idx_nI, setI_def, gm_0 hW hB, gm_1 hW hB, gm_2 hW hB, gm_3 hW hB, gm_4 hW hB, gm_O hW hB, gm_N hW hB, gm_P hW hB, gR_some, Bool.and_self, cond_true, cond_false, up2_pc, up2_pc0, pc_at, pc_at0, up2_at, up2_ne, hs, decide_false]
        exact h c a hG hE
    · have hba : b ≤ a := by omega
      rw [if_neg (fun e => hab e.1)] at h
      simp (disch := omega) only [QI_i, QV_v, QA_a, mR_def, Option.getD_some, mI_def, idx_nI, setI_def, gm_0 hW hB, gm_1 hW hB, gm_2 hW hB, gm_3 hW hB, gm_4 hW hB, gm_O hW hB, gm_N hW hB, gm_P hW hB, gR_some, Bool.and_self, cond_true, cond_false, up2_pc, up2_pc0, pc_at, pc_at0, up2_at, up2_ne, hba, decide_true]
      exact h c a hG hE
/-- a cycle: beside the reference's -/
theorem k_passCycle {xs : Scr} {I : In2} {ρ : Rh} {Q : Post} {m : Nat} {c : In2} (hW : Rw ρ) (hB : Bs m) {z : Zt} {a b n : Nat} (hG : Big c z a b n) (hE : Ent z a b) (h : ∀ c' a' b', Big c' (cyF z) a' b' n → Ent (cyF z) a' b' → Q (.inl none) (pc I m c', ρ)) : Ev xs 32 0 [.ref m, .null] [] (pc I m c, ρ) Q := by
  obtain ⟨w11, l11, u11⟩ := hG.1.w11
  have hs : c 5 2 = nI (idx (z 11)) := (hG.2.2.set (k := 2) (by decide)).trans w11
  have hga : ∀ {c}, gA (pc I m c, ρ) (m + 5) 6 (nI 2) = true := gm_D hW hB (by decide)
  apply w_X2_passCycle_0
  simp (disch := omega) only [QI_i, QV_v, QA_a, mR_def, Option.getD_some, mI_def, idx_nI, setI_def, gm_0 hW hB, gm_1 hW hB, gm_2 hW hB, gm_3 hW hB, gm_4 hW hB, gm_O hW hB, gm_N hW hB, gm_P hW hB, gR_some, Bool.and_self, cond_true, cond_false, up2_pc, up2_pc0, pc_at, pc_at0, up2_at, up2_ne]
  apply w_X2_retireEntries_0
  simp (disch := omega) only [QI_i, QV_v, QA_a, mR_def, Option.getD_some, mI_def, idx_nI, setI_def, gm_0 hW hB, gm_1 hW hB, gm_2 hW hB, gm_3 hW hB, gm_4 hW hB, gm_O hW hB, gm_N hW hB, gm_P hW hB, gR_some, Bool.and_self, cond_true, cond_false, up2_pc, up2_pc0, pc_at, pc_at0, up2_at, up2_ne, hga, hs]
  refine k_retire7 hW hB u11 hG hE fun c1 a1 g1 e1 => ?_
  have hb1 := g1.1.bnd
  have h8 := g1.c8
  simp (disch := omega) only [QI_i, QV_v, QA_a, mR_def, Option.getD_some, mI_def, idx_nI, setI_def, gm_0 hW hB, gm_1 hW hB, gm_2 hW hB, gm_3 hW hB, gm_4 hW hB, gm_O hW hB, gm_N hW hB, gm_P hW hB, gR_some, Bool.and_self, cond_true, cond_false, up2_pc, up2_pc0, pc_at, pc_at0, up2_at, up2_ne, h8]
  refine k_work9 hW hB (d := b - a1) g1 e1 (Nat.le_refl a1) (by omega) fun c2 g2 e2 => ?_
  have ew : wkL a1 b (b - a1) a1 (retL (idx (z 11)) z) = cy2 (cy1 z) := by unfold cy2 cy1; rw [g1.1.i3, g1.1.i2]
  rw [ew] at g2 e2
  simp (disch := omega) only [QI_i, QV_v, QA_a, mR_def, Option.getD_some, mI_def, idx_nI, setI_def, gm_0 hW hB, gm_1 hW hB, gm_2 hW hB, gm_3 hW hB, gm_4 hW hB, gm_O hW hB, gm_N hW hB, gm_P hW hB, gR_some, Bool.and_self, cond_true, cond_false, up2_pc, up2_pc0, pc_at, pc_at0, up2_at, up2_ne]
  refine k_start hW hB g2 e2 fun c3 g3 e3 => ?_
  simp (disch := omega) only [QI_i, QV_v, QA_a, mR_def, Option.getD_some, mI_def, idx_nI, setI_def, gm_0 hW hB, gm_1 hW hB, gm_2 hW hB, gm_3 hW hB, gm_4 hW hB, gm_O hW hB, gm_N hW hB, gm_P hW hB, gR_some, Bool.and_self, cond_true, cond_false, up2_pc, up2_pc0, pc_at, pc_at0, up2_at, up2_ne]
  refine k_issue hW hB g3 e3 fun c4 b4 g4 e4 => ?_
  have h5 : c4 0 5 = (cy4 (cy3 (cy2 (cy1 z)))) 0 := g4.2.2.cyc (k := 0) (by decide)
  simp (disch := omega) only [QI_i, QV_v, QA_a, mR_def, Option.getD_some, mI_def, idx_nI, setI_def, gm_0 hW hB, gm_1 hW hB, gm_2 hW hB, gm_3 hW hB, gm_4 hW hB, gm_O hW hB, gm_N hW hB, gm_P hW hB, gR_some, Bool.and_self, cond_true, cond_false, up2_pc, up2_pc0, pc_at, pc_at0, up2_at, up2_ne, h5]
  unfold cyF at h
  exact h _ a1 b4 ⟨g4.1.wc (by decide), g4.2.1.wu (by decide), g4.2.2.cnt ⟨by decide, rfl⟩⟩ (e4.wu (by decide))

