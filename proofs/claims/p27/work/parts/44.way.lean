/-! ways to the end, copies, the plain order -/
def goN : Nat → Zt → Nat
  | 0, _ => 0
  | f + 1, z => if idx (z 3) = idx (z 1) then 0 else goN f (cyF z) + 1
def goZ : Nat → Zt → Zt
  | 0, z => z
  | f + 1, z => if idx (z 3) = idx (z 1) then z else goZ f (cyF z)
theorem goN_le : ∀ {f : Nat} {z : Zt}, goN f z ≤ f := by
  intro f
  induction f with
  | zero => intro z; exact Nat.le_refl 0
  | succ f ih => intro z; unfold goN; split; omega; have := ih (z := cyF z); omega
theorem far_pos {z : Zt} {a b n : Nat} (h : Inv z a b n) (han : a < n) : 1 ≤ far z a b n := by
  have := rkF_le h; unfold far; omega
theorem far_144 {z : Zt} {a b n : Nat} (h : Inv z a b n) : far z a b n ≤ 144 := by
  have := h.1.bnd; unfold far; omega
/-- at the end all are retired -/
theorem goZ_Inv {n : Nat} : ∀ {f a b : Nat} {z : Zt}, Inv z a b n → ∃ a' b', a ≤ a' ∧ Inv (goZ f z) a' b' n := by
  intro f
  induction f with
  | zero => intro a b z h; exact ⟨a, b, Nat.le_refl a, h⟩
  | succ f ih =>
    intro a b z h
    unfold goZ
    split
    · exact ⟨a, b, Nat.le_refl a, h⟩
    · obtain ⟨a', b', ha, -, -, -, -, h1⟩ := Inv_cyF h
      obtain ⟨a2, b2, h2, h3⟩ := ih h1
      exact ⟨a2, b2, by omega, h3⟩
theorem k_isFin {xs : Scr} {I : In2} {ρ : Rh} {Q : Post} {m : Nat} {c : In2} (hW : Rw ρ) (hB : Bs m) {z : Zt} {a b n : Nat} (hG : Big c z a b n) : Ev xs 22 0 [.ref m] [] (pc I m c, ρ) Q ↔ Q (.inl (some (.int (bI (decide (a = n))) ))) (pc I m c, ρ) := by
  have hb := hG.1.bnd
  have h8 := hG.c8
  have h6 := hG.c6
  apply Ev.dt; intro Q h; apply w_X2_isFinished_0
  try simp (disch := omega) only [mR_def, Option.getD_some, mI_def, idx_nI, setI_def, nI_add, pk_mul, gm_0 hW hB, gm_1 hW hB, gm_2 hW hB, gm_3 hW hB, gm_4 hW hB, up2_pc, up2_pc0, pc_at, pc_at0, h8, h6]
  simp (maxSteps := 1000000) (disch := omega) only [↓QI_i, ↓QV_v, ↓QA_a, ↓QF_f, ↓QD_d, ↓QL_l, ↓Bool.cond_eq_ite, ↓reduceIte, decide_eq_true_eq, Bool.not_eq_true', Bool.true_and, Bool.and_true, Bool.and_self, gR_some, Option.getD_some, mI_def, setI_def, mR_def, not_false_eq_true, not_true_eq_false, Bool.false_eq_true, idx_nI, nI_add, pk_mul, icB_lt, icB_gt, icB_le, icB_ge, icB_eq, icB_ne, bI_ne, nI_eqI, gm_O hW hB, gm_N hW hB, gm_P hW hB, gm_R hW hB, gm_0 hW hB, gm_1 hW hB, gm_2 hW hB, gm_3 hW hB, gm_4 hW hB, gm_A hW hB, gm_B hW hB, gm_C hW hB, gm_D hW hB, gm_L hW hB, gm_l1 hB, gm_l3 hB, gm_l4 hB, gm_l5 hB, up2_pc, up2_pc0, pc_at, pc_at0, h8, h6]
  by_cases e : a = n
  · have : ¬ a < n := by omega
    simp [e, bI] at h ⊢; exact h
  · have : a < n := by omega
    simp [e, this, bI] at h ⊢; exact h
theorem k_toEnd2 {xs : Scr} {I : In2} {ρ : Rh} {m : Nat} (hW : Rw ρ) (hB : Bs m) {n B : Nat} (hBB : B ≤ 1000000) : ∀ {f k a b : Nat} {z : Zt} {c : In2} {Q : Post}, Big c z a b n → Ent z a b → far z a b n ≤ f → k ≤ B → k + f < 2000000 →
    (k + goN f z < B → ∀ c' a' b', Big c' (goZ f z) a' b' n → Q (.inl (some (.int (nI (k + goN f z))))) (pc I m c', ρ)) → (B ≤ k + goN f z → ∀ c', Q (.inl (some (.int (nI B)))) (pc I m c', ρ)) → Ev xs 31 2 [.ref m, .int (nI B), .int (nI k)] [] (pc I m c, ρ) Q := by
  intro f
  induction f with
  | zero =>
    intro k a b z c Q hG hE hf hkB hk h1 h2
    have hb := hG.1.bnd
    have han : a = n := by
      by_cases e : a < n
      · have := far_pos ⟨hG.1, hE⟩ e; omega
      · omega
    apply w_X2_cyclesToEnd_2
    by_cases hB2 : B ≤ k
    · have e : k = B := by omega
      simp (disch := omega) only [QI_i, QV_v, QA_a, mR_def, Option.getD_some, mI_def, idx_nI, setI_def, gm_0 hW hB, gm_1 hW hB, gm_2 hW hB, gm_3 hW hB, gm_4 hW hB, gm_O hW hB, gm_N hW hB, gm_P hW hB, gR_some, Bool.and_self, cond_true, cond_false, up2_pc, up2_pc0, pc_at, pc_at0, up2_at, up2_ne, icB_ge, hB2, decide_true]
      rw [e]; exact h2 (by omega) c
    · simp (disch := omega) only [QI_i, QV_v, QA_a, mR_def, Option.getD_some, mI_def, idx_nI, setI_def, gm_0 hW hB, gm_1 hW hB, gm_2 hW hB, gm_3 hW hB, gm_4 hW hB, gm_O hW hB, gm_N hW hB, gm_P hW hB, gR_some, Bool.and_self, cond_true, cond_false, up2_pc, up2_pc0, pc_at, pc_at0, up2_at, up2_ne, icB_ge, hB2, decide_false]
      rw [k_isFin hW hB hG]
      simp (disch := omega) only [QI_i, QV_v, QA_a, mR_def, Option.getD_some, mI_def, idx_nI, setI_def, gm_0 hW hB, gm_1 hW hB, gm_2 hW hB, gm_3 hW hB, gm_4 hW hB, gm_O hW hB, gm_N hW hB, gm_P hW hB, gR_some, Bool.and_self, cond_true, cond_false, up2_pc, up2_pc0, pc_at, pc_at0, up2_at, up2_ne, han, decide_true, bI_t, icB_ne, not_nI (show 1 < 2147483648 by decide) (show 0 < 2147483648 by decide) (by decide), not_false_eq_true]
      exact h1 (by show k + 0 < B; omega) c a b hG
  | succ f ih =>
    intro k a b z c Q hG hE hf hkB hk h1 h2
    have hb := hG.1.bnd
    have n10 : ¬ nI 1 = nI 0 := not_nI (by decide) (by decide) (by decide)
    unfold goN goZ at h1
    unfold goN at h2
    rw [hG.1.i3, hG.1.i1] at h1 h2
    apply w_X2_cyclesToEnd_2
    by_cases hB2 : B ≤ k
    · have e : k = B := by omega
      simp (disch := omega) only [QI_i, QV_v, QA_a, mR_def, Option.getD_some, mI_def, idx_nI, setI_def, gm_0 hW hB, gm_1 hW hB, gm_2 hW hB, gm_3 hW hB, gm_4 hW hB, gm_O hW hB, gm_N hW hB, gm_P hW hB, gR_some, Bool.and_self, cond_true, cond_false, up2_pc, up2_pc0, pc_at, pc_at0, up2_at, up2_ne, icB_ge, hB2, decide_true]
      rw [e]; exact h2 (by omega) c
    · simp (disch := omega) only [QI_i, QV_v, QA_a, mR_def, Option.getD_some, mI_def, idx_nI, setI_def, gm_0 hW hB, gm_1 hW hB, gm_2 hW hB, gm_3 hW hB, gm_4 hW hB, gm_O hW hB, gm_N hW hB, gm_P hW hB, gR_some, Bool.and_self, cond_true, cond_false, up2_pc, up2_pc0, pc_at, pc_at0, up2_at, up2_ne, icB_ge, hB2, decide_false]
      rw [k_isFin hW hB hG]
      by_cases e : a = n
      · rw [if_pos e, if_pos e] at h1
        simp (disch := omega) only [QI_i, QV_v, QA_a, mR_def, Option.getD_some, mI_def, idx_nI, setI_def, gm_0 hW hB, gm_1 hW hB, gm_2 hW hB, gm_3 hW hB, gm_4 hW hB, gm_O hW hB, gm_N hW hB, gm_P hW hB, gR_some, Bool.and_self, cond_true, cond_false, up2_pc, up2_pc0, pc_at, pc_at0, up2_at, up2_ne, e, decide_true, bI_t, icB_ne, n10, not_false_eq_true]
        exact h1 (by show k + 0 < B; omega) c a b hG
      · rw [if_neg e, if_neg e] at h1
        rw [if_neg e] at h2
        simp (disch := omega) only [QI_i, QV_v, QA_a, mR_def, Option.getD_some, mI_def, idx_nI, setI_def, gm_0 hW hB, gm_1 hW hB, gm_2 hW hB, gm_3 hW hB, gm_4 hW hB, gm_O hW hB, gm_N hW hB, gm_P hW hB, gR_some, Bool.and_self, cond_true, cond_false, up2_pc, up2_pc0, pc_at, pc_at0, up2_at, up2_ne, e, decide_false, bI_f, icB_ne, not_true_eq_false]
        refine k_passCycle hW hB hG hE fun c' a' b' g1 g2 => ?_
        simp only [QV_v, nI_add]
        refine ih (k := k + 1) g1 g2 (by have := (far_dec ⟨hG.1, hE⟩ (by omega) ⟨g1.1, g2⟩).1; omega) (by omega) (by omega) (fun q => ?_) (fun q => ?_)
        · rw [show k + 1 + goN f (cyF z) = k + (goN f (cyF z) + 1) by omega]; exact h1 (by omega)
        · exact h2 (by omega)
theorem k_toEnd {xs : Scr} {I : In2} {ρ : Rh} {Q : Post} {m : Nat} {c : In2} (hW : Rw ρ) (hB : Bs m) {z : Zt} {a b n B : Nat} (hBB : B ≤ 1000000) (hG : Big c z a b n) (hE : Ent z a b)
    (h1 : goN 144 z < B → ∀ c' a' b', Big c' (goZ 144 z) a' b' n → Q (.inl (some (.int (nI (goN 144 z))))) (pc I m c', ρ)) (h2 : B ≤ goN 144 z → ∀ c', Q (.inl (some (.int (nI B)))) (pc I m c', ρ)) : Ev xs 31 0 [.ref m, .int (nI B), .null] [] (pc I m c, ρ) Q := by
  apply w_X2_cyclesToEnd_0
  exact k_toEnd2 hW hB hBB (f := 144) hG hE (far_144 ⟨hG.1, hE⟩) (by omega) (by decide) (by rw [Nat.zero_add]; exact h1) (by rw [Nat.zero_add]; exact h2)
/-! a number of cycles -/
def itC : Nat → Zt → Zt
  | 0, z => z
  | k + 1, z => itC k (cyF z)
theorem itC_Inv {n : Nat} : ∀ {k a b : Nat} {z : Zt}, Inv z a b n → ∃ a' b', Inv (itC k z) a' b' n := by
  intro k
  induction k with
  | zero => intro a b z h; exact ⟨a, b, h⟩
  | succ k ih => intro a b z h; obtain ⟨a', b', -, -, -, -, -, h1⟩ := Inv_cyF h; exact ih h1
theorem k_pass2 {xs : Scr} {I : In2} {ρ : Rh} {m : Nat} (hW : Rw ρ) (hB : Bs m) {n N : Nat} (hN : N ≤ 100) : ∀ {d k a b : Nat} {z : Zt} {c : In2} {Q : Post}, Big c z a b n → Ent z a b → k + d = N →
    (∀ c' a' b', Big c' (itC d z) a' b' n → Ent (itC d z) a' b' → Q (.inl none) (pc I m c', ρ)) → Ev xs 30 2 [.ref m, .int (nI N), .int (nI k)] [] (pc I m c, ρ) Q := by
  intro d
  induction d with
  | zero =>
    intro k a b z c Q hG hE hk h
    obtain rfl : k = N := hk
    apply w_X2_passCycles_2
    simp (disch := omega) only [QI_i, QV_v, QA_a, mR_def, Option.getD_some, mI_def, idx_nI, setI_def, gm_0 hW hB, gm_1 hW hB, gm_2 hW hB, gm_3 hW hB, gm_4 hW hB, gm_O hW hB, gm_N hW hB, gm_P hW hB, gR_some, Bool.and_self, cond_true, cond_false, up2_pc, up2_pc0, pc_at, pc_at0, up2_at, up2_ne, icB_ge, Nat.le_refl, decide_true]
    exact h c a b hG hE
  | succ d ih =>
    intro k a b z c Q hG hE hk h
    have hkN : ¬ N ≤ k := by omega
    apply w_X2_passCycles_2
    simp (disch := omega) only [QI_i, QV_v, QA_a, mR_def, Option.getD_some, mI_def, idx_nI, setI_def, gm_0 hW hB, gm_1 hW hB, gm_2 hW hB, gm_3 hW hB, gm_4 hW hB, gm_O hW hB, gm_N hW hB, gm_P hW hB, gR_some, Bool.and_self, cond_true, cond_false, up2_pc, up2_pc0, pc_at, pc_at0, up2_at, up2_ne, icB_ge, hkN, decide_false]
    refine k_passCycle hW hB hG hE fun c' a' b' g1 g2 => ?_
    simp only [QV_v, nI_add]
    exact ih (k := k + 1) g1 g2 (by omega) h
theorem k_pass {xs : Scr} {I : In2} {ρ : Rh} {Q : Post} {m : Nat} {c : In2} (hW : Rw ρ) (hB : Bs m) {z : Zt} {a b n N : Nat} (hN : N ≤ 100) (hG : Big c z a b n) (hE : Ent z a b) (h : ∀ c' a' b', Big c' (itC N z) a' b' n → Ent (itC N z) a' b' → Q (.inl none) (pc I m c', ρ)) : Ev xs 30 0 [.ref m, .int (nI N), .null] [] (pc I m c, ρ) Q := by
  apply w_X2_passCycles_0
  exact k_pass2 hW hB hN (d := N) hG hE (by omega) h
/-! keeping and bringing back -/
def cpA (I : In2) (z : Zt) (k : Nat) : In2 := fun b j => if b = 247 ∧ (k ≤ j ∧ j < 324) then z j else I b j
def brF (I : In2) (z : Zt) (k : Nat) : Zt := fun j => if k ≤ j ∧ j < 324 then I 247 j else z j
/-! one machine becomes like another -/
theorem Bs_dj {m m' : Nat} (h : Bs m) (h' : Bs m') (hne : ¬ m = m') : m + 30 ≤ m' ∨ m' + 30 ≤ m := by
  unfold Bs at h h'; omega
theorem k_rowLike {xs : Scr} {I : In2} {ρ : Rh} {Q : Post} {m : Nat} {c : In2} (hW : Rw ρ) (hB : Bs m) {m' i : Nat} (hB' : Bs m') (hd : m + 30 ≤ m' ∨ m' + 30 ≤ m) (hi : i < 24) (h : ∀ c', (∀ o k, ¬ o = 6 + i → c' o k = c o k) → (∀ k, k < 14 → c' (6 + i) k = I (m' + (6 + i)) k) → Q (.inl none) (pc I m c', ρ)) :
    Ev xs 8 0 [.ref (m + (6 + i)), .ref (m' + (6 + i))] [] (pc I m c, ρ) Q := by
  have gP : ∀ {I : In2}, gO (I, ρ) (m' + (6 + i)) 0 = true := gm_P hW hB' hi
  have rd : ∀ {c : In2} {k : Nat}, pc I m c (m' + (6 + i)) k = I (m' + (6 + i)) k := pc_ne (by omega)
  apply w_X1_becomeLike_0
  simp (disch := omega) only [QI_i, QV_v, QA_a, mR_def, Option.getD_some, mI_def, idx_nI, setI_def, gm_0 hW hB, gm_1 hW hB, gm_2 hW hB, gm_3 hW hB, gm_4 hW hB, gm_O hW hB, gm_N hW hB, gm_P hW hB, gR_some, Bool.and_self, cond_true, cond_false, up2_pc, up2_pc0, pc_at, pc_at0, up2_at, up2_ne, gP, rd]
  apply w_X1_become_0
  simp (disch := omega) only [QI_i, QV_v, QA_a, mR_def, Option.getD_some, mI_def, idx_nI, setI_def, gm_0 hW hB, gm_1 hW hB, gm_2 hW hB, gm_3 hW hB, gm_4 hW hB, gm_O hW hB, gm_N hW hB, gm_P hW hB, gR_some, Bool.and_self, cond_true, cond_false, up2_pc, up2_pc0, pc_at, pc_at0, up2_at, up2_ne, gP, rd]
  refine h _ (fun o k ho => by simp (disch := omega) only [up2_ne]) fun k hk => ?_
  have : k = 0 ∨ k = 1 ∨ k = 2 ∨ k = 3 ∨ k = 4 ∨ k = 5 ∨ k = 6 ∨ k = 7 ∨ k = 8 ∨ k = 9 ∨ k = 10 ∨ k = 11 ∨ k = 12 ∨ k = 13 := by omega
  rcases this with e | e | e | e | e | e | e | e | e | e | e | e | e | e <;> subst e <;> simp (disch := omega) only [up2_at, up2_ne]
theorem cpy_pc {I c : In2} {ρ : Rh} {m o a0 n : Nat} (ho : o < 30) (ha : ¬ (m ≤ a0 ∧ a0 < m + 30)) : cpyM (pc I m c, ρ) a0 0 (m + o) 0 n = (pc I m (fun p k => if p = o ∧ k < n then I a0 k else c p k), ρ) := by
  unfold cpyM
  refine Prod.ext ?_ rfl
  funext b j
  dsimp only
  by_cases hb : b = m + o
  · subst hb
    rw [if_pos rfl, pc_at ho]
    unfold va_cpy
    by_cases hj : j < n
    · rw [if_pos (by omega), if_pos ⟨rfl, hj⟩, pc_ne ha, Nat.sub_zero, Nat.zero_add]
    · rw [if_neg (by omega), if_neg (by omega), pc_at ho]
  · rw [if_neg hb]
    unfold pc
    by_cases hm : m ≤ b ∧ b < m + 30
    · rw [if_pos hm, if_pos hm]; dsimp only; rw [if_neg (by omega)]
    · rw [if_neg hm, if_neg hm]
theorem acp {I : In2} {ρ : Rh} {m m' o n : Nat} (hW : Rw ρ) (hB : Bs m) (hB' : Bs m') (ho : (o = 3 ∧ n = 8) ∨ (o = 4 ∧ n = 16) ∨ (o = 5 ∧ n = 3)) : (Nat.ble 245 (mN (I, ρ)) && (gO (I, ρ) (m + o) 6 && (gO (I, ρ) (m' + o) 6 && decide (0 ≤ (nI 0).toInt ∧ 0 ≤ (nI 0).toInt ∧ 0 ≤ (nI n).toInt ∧ (nI 0).toInt + (nI n).toInt ≤ ((shp (m' + o)).2 : Int) ∧ (nI 0).toInt + (nI n).toInt ≤ ((shp (m + o)).2 : Int))))) = true := by
  have hl := Bs_lt hB
  have hl' := Bs_lt hB'
  obtain ⟨-, s1, -, s3, s4, s5, -⟩ := Bs_shp hB
  obtain ⟨-, t1, -, t3, t4, t5, -⟩ := Bs_shp hB'
  rw [mN_def, Nat.ble_eq_true_of_le hW.1]
  rcases ho with ⟨h1, h2⟩ | ⟨h1, h2⟩ | ⟨h1, h2⟩ <;> subst h1 <;> subst h2
  · rw [gO_of hW (by omega) (by rw [s3]), gO_of hW (by omega) (by rw [t3]), s3, t3]; rfl
  · rw [gO_of hW (by omega) (by rw [s4]), gO_of hW (by omega) (by rw [t4]), s4, t4]; rfl
  · rw [gO_of hW (by omega) (by rw [s5]), gO_of hW (by omega) (by rw [t5]), s5, t5]; rfl
theorem k_like2 {xs : Scr} {I : In2} {ρ : Rh} {m m' : Nat} (hW : Rw ρ) (hB : Bs m) (hB' : Bs m') (hd : m + 30 ≤ m' ∨ m' + 30 ≤ m) {z : Zt} {a b n : Nat} (hG : Big (bk I m') z a b n) : ∀ {d i : Nat} {c : In2} {Q : Post}, i + d = n → (∀ j k, j < i → k < 14 → c (6 + j) k = I (m' + (6 + j)) k) →
    (∀ c', Big c' z a b n → Q (.inl none) (pc I m c', ρ)) → Ev xs 15 2 [.ref m, .ref m', .int (nI i)] [] (pc I m c, ρ) Q := by
  have hb := hG.1.bnd
  have h6 : I m' 6 = nI n := hG.c6
  have rd : ∀ {c : In2} {o k : Nat}, o < 30 → pc I m c (m' + o) k = I (m' + o) k := fun ho => pc_ne (by omega)
  have rd0 : ∀ {c : In2} {k : Nat}, pc I m c m' k = I m' k := fun {c k} => pc_ne (by omega)
  have gM : ∀ {I : In2}, gO (I, ρ) m' 1 = true := gm_O hW hB'
  intro d
  induction d with
  | zero =>
    intro i c Q hi hrow h
    obtain rfl : i = n := hi
    have a3 : ∀ {I : In2}, _ := fun {I} => acp (I := I) (o := 3) (n := 8) hW hB hB' (by decide)
    have a4 : ∀ {I : In2}, _ := fun {I} => acp (I := I) (o := 4) (n := 16) hW hB hB' (by decide)
    have a5 : ∀ {I : In2}, _ := fun {I} => acp (I := I) (o := 5) (n := 3) hW hB hB' (by decide)
    apply w_X2_becomeLike_2
    simp (disch := omega) only [QI_i, QV_v, QA_a, mR_def, Option.getD_some, mI_def, idx_nI, setI_def, gm_0 hW hB, gm_1 hW hB, gm_2 hW hB, gm_3 hW hB, gm_4 hW hB, gm_O hW hB, gm_N hW hB, gm_P hW hB, gR_some, Bool.and_self, cond_true, cond_false, up2_pc, up2_pc0, pc_at, pc_at0, up2_at, up2_ne, gM, rd0, h6, icB_ge, Nat.le_refl, decide_true, gm_2 hW hB', gm_3 hW hB', gm_4 hW hB', a3, a4, a5, cpy_pc]
    refine h _ (hG.cgc ?_ ?_ ?_ ?_ ?_)
    · intro k hk
      have : k = 0 ∨ k = 1 ∨ k = 2 ∨ k = 3 ∨ k = 4 ∨ k = 5 ∨ k = 6 ∨ k = 7 ∨ k = 8 := by omega
      rcases this with e | e | e | e | e | e | e | e | e <;> subst e <;> simp (disch := omega) only [up2_at, up2_ne] <;> first | rfl | exact h6.symm
    · intro k hk; simp (disch := omega) only [up2_ne]; rw [if_pos ⟨by trivial, hk⟩]; rfl
    · intro k hk; simp (disch := omega) only [up2_ne]; rw [if_neg (by omega), if_neg (by omega), if_pos ⟨by trivial, hk⟩]; rfl
    · intro k hk; simp (disch := omega) only [up2_ne]; rw [if_neg (by omega), if_pos ⟨by trivial, hk⟩]; rfl
    · intro j f hj hf; simp (disch := omega) only [up2_ne]; rw [if_neg (by omega), if_neg (by omega), if_neg (by omega)]; exact hrow j f hj hf
  | succ d ih =>
    intro i c Q hi hrow h
    have hki : ¬ n ≤ i := by omega
    apply w_X2_becomeLike_2
    simp (disch := omega) only [QI_i, QV_v, QA_a, mR_def, Option.getD_some, mI_def, idx_nI, setI_def, gm_0 hW hB, gm_1 hW hB, gm_2 hW hB, gm_3 hW hB, gm_4 hW hB, gm_O hW hB, gm_N hW hB, gm_P hW hB, gR_some, Bool.and_self, cond_true, cond_false, up2_pc, up2_pc0, pc_at, pc_at0, up2_at, up2_ne, gM, rd0, h6, icB_ge, hki, decide_false]
    rw [k_at hW hB (show i < 24 by omega)]
    simp (disch := omega) only [QI_i, QV_v, QA_a, mR_def, Option.getD_some, mI_def, idx_nI, setI_def, gm_0 hW hB, gm_1 hW hB, gm_2 hW hB, gm_3 hW hB, gm_4 hW hB, gm_O hW hB, gm_N hW hB, gm_P hW hB, gR_some, Bool.and_self, cond_true, cond_false, up2_pc, up2_pc0, pc_at, pc_at0, up2_at, up2_ne, gM]
    rw [k_at hW hB' (show i < 24 by omega)]
    simp (disch := omega) only [QI_i, QV_v, QA_a, mR_def, Option.getD_some, mI_def, idx_nI, setI_def, gm_0 hW hB, gm_1 hW hB, gm_2 hW hB, gm_3 hW hB, gm_4 hW hB, gm_O hW hB, gm_N hW hB, gm_P hW hB, gR_some, Bool.and_self, cond_true, cond_false, up2_pc, up2_pc0, pc_at, pc_at0, up2_at, up2_ne, gM]
    refine k_rowLike hW hB hB' hd (by omega) fun c' q1 q2 => ?_
    simp only [QV_v, nI_add]
    refine ih (i := i + 1) (by omega) (fun j k hj hk => ?_) h
    by_cases hji : j = i
    · subst hji; exact q2 k hk
    · rw [q1 _ _ (by omega)]; exact hrow j k (by omega) hk
theorem k_like {xs : Scr} {I : In2} {ρ : Rh} {Q : Post} {m : Nat} {c : In2} (hW : Rw ρ) (hB : Bs m) {m' : Nat} (hB' : Bs m') (hd : m + 30 ≤ m' ∨ m' + 30 ≤ m) {z : Zt} {a b n : Nat} (hG : Big (bk I m') z a b n) (h : ∀ c', Big c' z a b n → Q (.inl none) (pc I m c', ρ)) : Ev xs 15 0 [.ref m, .ref m', .null] [] (pc I m c, ρ) Q := by
  apply w_X2_becomeLike_0
  exact k_like2 hW hB hB' hd hG (i := 0) (d := n) (by omega) (fun j k hj => by omega) h

/-! the plain order -/
abbrev Gh : Type := Zt × Zt
def plS (z : Zt) (i : Nat) (w : Gh) : Gh :=
  if pt z i 0 = nI 4 then (w.1, uz w.2 (cellF (w.1 (idx (pt z i 2))) (idx (pt z i 4))) (w.1 (idx (pt z i 3))))
  else (uz w.1 (idx (pt z i 1)) (if pt z i 0 = nI 0 then setF (pt z i 4) else if pt z i 0 = nI 3 then w.2 (cellF (w.1 (idx (pt z i 2))) (idx (pt z i 4))) else resF (pt z i 0) (w.1 (idx (pt z i 2))) (w.1 (idx (pt z i 3)))), w.2)
def plL (z : Zt) : Nat → Nat → Gh → Gh
  | 0, _, w => w
  | d + 1, i, w => plL z d (i + 1) (plS z i w)
def Gok (w : Gh) : Prop := (∀ k, k < 8 → InR (w.1 k)) ∧ (∀ k, k < 16 → InR (w.2 k))
theorem Gok_plS {z : Zt} {a b n i : Nat} {w : Gh} (h0 : Inv0 z a b n) (hi : i < n) (hw : Gok w) : Gok (plS z i w) := by
  obtain ⟨hr, -⟩ := h0.row hi
  unfold plS
  by_cases k4 : pt z i 0 = nI 4
  · obtain ⟨⟨p, hp, hpe⟩, ⟨q, hq, hqe⟩, o, ho, hoe⟩ := hr.k4 k4
    rw [if_pos k4, hqe, idx_nI (show q < 2147483648 by omega)]
    refine ⟨hw.1, fun k hk => ?_⟩
    dsimp only
    by_cases e : k = cellF (w.1 (idx (pt z i 2))) (idx (pt z i 4))
    · rw [e, uz_at]; exact hw.1 q hq
    · rw [uz_ne e]; exact hw.2 k hk
  · rw [if_neg k4]
    refine ⟨fun k hk => ?_, hw.2⟩
    dsimp only
    by_cases e : k = idx (pt z i 1)
    · rw [e, uz_at]
      by_cases k0 : pt z i 0 = nI 0
      · rw [if_pos k0]; exact setF_InR (hr.k0 k0).2.2
      · rw [if_neg k0]
        by_cases k3 : pt z i 0 = nI 3
        · rw [if_pos k3]; exact hw.2 _ (cellF_lt _ _)
        · rw [if_neg k3]
          obtain ⟨-, ⟨p, hp, hpe⟩, ⟨q, hq, hqe⟩, -⟩ := hr.k12 k0 k3 k4
          rw [hpe, hqe, idx_nI (show p < 2147483648 by omega), idx_nI (show q < 2147483648 by omega)]
          exact resF_InR (hw.1 p hp) (hw.1 q hq)
    · rw [uz_ne e]; exact hw.1 k hk
/-- the model's own registers and cells -/
def pg (I : In2) (w : Gh) : In2 := fun a k => if a = 255 then w.1 k else if a = 256 then w.2 k else I a k
theorem up2_pg5 {I : In2} {z : Zt} {w : Gh} {k : Nat} {v : Int32} : up2 (pz (pg I w) z) 255 k v = pz (pg I (uz w.1 k v, w.2)) z := by
  funext b j
  unfold up2 pz pg uz
  dsimp only
  by_cases h6 : b = 246
  · rw [if_pos h6, if_pos h6, if_neg (by omega)]
  · rw [if_neg h6, if_neg h6]
    by_cases h5 : b = 255
    · rw [if_pos h5, if_pos h5]
      by_cases hj : j = k
      · rw [if_pos ⟨h5, hj⟩, if_pos hj]
      · rw [if_neg (fun e => hj e.2), if_neg hj]
    · rw [if_neg (fun e => h5 e.1), if_neg h5, if_neg h5]
theorem up2_pg6 {I : In2} {z : Zt} {w : Gh} {k : Nat} {v : Int32} : up2 (pz (pg I w) z) 256 k v = pz (pg I (w.1, uz w.2 k v)) z := by
  funext b j
  unfold up2 pz pg uz
  dsimp only
  by_cases h6 : b = 246
  · rw [if_pos h6, if_pos h6, if_neg (by omega)]
  · rw [if_neg h6, if_neg h6]
    by_cases h5 : b = 255
    · rw [if_pos h5, if_pos h5, if_neg (by omega)]
    · rw [if_neg h5, if_neg h5]
      by_cases h56 : b = 256
      · rw [if_pos h56, if_pos h56]
        by_cases hj : j = k
        · rw [if_pos ⟨h56, hj⟩, if_pos hj]
        · rw [if_neg (fun e => hj e.2), if_neg hj]
      · rw [if_neg (fun e => h56 e.1), if_neg h56, if_neg h56]
theorem pg_5 {I : In2} {z : Zt} {w : Gh} {k : Nat} : pz (pg I w) z 255 k = w.1 k := rfl
theorem pg_6 {I : In2} {z : Zt} {w : Gh} {k : Nat} : pz (pg I w) z 256 k = w.2 k := rfl
theorem pg_self {I : In2} : pg I (I 255, I 256) = I := by
  funext b j; unfold pg; dsimp only
  by_cases h5 : b = 255
  · rw [if_pos h5, h5]
  · rw [if_neg h5]
    by_cases h6 : b = 256
    · rw [if_pos h6, h6]
    · rw [if_neg h6]
/-- where the plain order begins -/
def pl0 (z : Zt) (w : Gh) : Gh := (fun j => if 0 ≤ j ∧ j < 8 then z (12 + j) else w.1 j, fun j => if 0 ≤ j ∧ j < 16 then z (20 + j) else w.2 j)
theorem Gok_pl0 {z : Zt} {a b n : Nat} {w : Gh} (h0 : Inv0 z a b n) : Gok (pl0 z w) := ⟨fun k hk => by unfold pl0; dsimp only; rw [if_pos ⟨by omega, hk⟩]; exact h0.reg hk, fun k hk => by unfold pl0; dsimp only; rw [if_pos ⟨by omega, hk⟩]; exact h0.mem hk⟩
