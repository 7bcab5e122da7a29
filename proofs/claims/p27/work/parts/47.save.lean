/-! the whole state of both; saving -/
def Good (c : In2) (z : Zt) : Prop := ∃ a b n cy, Big c z a b n ∧ Ent z a b ∧ Cg z cy ∧ cy ≤ 10000 ∧ Tl z
def Sig (σ : Nat → Nat) (ρ : Rh) : Prop := (∀ j, j < 6 → σ j < 6) ∧ (∀ i j, i < 6 → j < 6 → σ i = σ j → i = j) ∧ ∀ j, j < 6 → ρ.1 61 j = some (62 + 30 * σ j)
/-- the characters in the buffer -/
def Chs (tl : Nat × Zt) : Prop := tl.1 ≤ 120 ∧ ∀ k, k < tl.1 → ∃ x, 33 ≤ x ∧ x ≤ 126 ∧ tl.2 k = nI x
/-- the class's state -/
def Cst (I : In2) (ρ : Rh) (z : Zt) (s : Nat) (zs : Nat → Zt) (tl : Nat × Zt) : Prop :=
  Good (bk I 1) z ∧ I 0 5 = nI s ∧ s ≤ 6 ∧ (∃ σ, Sig σ ρ ∧ ∀ j, j < s → Good (bk I (62 + 30 * σ j)) (zs j)) ∧ I 242 1 = nI tl.1 ∧ Chs tl ∧ ∀ k, k < tl.1 → I 243 k = tl.2 k
/-- the reference's state -/
def Rst (I : In2) (z : Zt) (s : Nat) (zs : Nat → Zt) (tl : Nat × Zt) : Prop :=
  I 246 = z ∧ I 245 14 = nI s ∧ (∀ j k, j < s → k < 324 → I 248 (324 * j + k) = zs j k) ∧ I 245 15 = nI tl.1 ∧ ∀ k, k < tl.1 → I 249 k = tl.2 k
theorem Good.fr {I I' : In2} {m : Nat} {z : Zt} (h : Good (bk I m) z) (he : ∀ o k, o < 30 → I' (m + o) k = I (m + o) k) : Good (bk I' m) z := by
  obtain ⟨a, b, n, cy, g, r⟩ := h
  have hb := g.1.bnd
  exact ⟨a, b, n, cy, g.cgc (fun k _ => he 0 _ (by omega)) (fun k _ => he 5 _ (by omega)) (fun k _ => he 3 _ (by omega)) (fun k _ => he 4 _ (by omega)) (fun i f hi _ => he (6 + i) _ (by omega)), r⟩
theorem Good.bk {I c : In2} {m : Nat} {z : Zt} (h : Good c z) : Good (bk (pc I m c) m) z := by
  obtain ⟨a, b, n, cy, g, r⟩ := h
  have hb := g.1.bnd
  exact ⟨a, b, n, cy, g.cgc (fun k _ => bk_pc (by omega)) (fun k _ => bk_pc (by omega)) (fun k _ => bk_pc (by omega)) (fun k _ => bk_pc (by omega)) (fun i f hi _ => bk_pc (by omega)), r⟩
theorem Bs_1 : Bs 1 := Or.inl rfl
theorem Bs_31 : Bs 31 := Or.inr (Or.inl rfl)
theorem Bs_s {k : Nat} (h : k < 6) : Bs (62 + 30 * k) := by unfold Bs; omega
theorem Sig.x {σ : Nat → Nat} {ρ ρ' : Rh} (h : Sig σ ρ) (he : ρ'.1 = ρ.1) : Sig σ ρ' := ⟨h.1, h.2.1, fun j hj => by rw [he]; exact h.2.2 j hj⟩
/-- rehearsals, the best window and the references' rest don't matter -/
theorem Cst.fr {I I' : In2} {ρ ρ' : Rh} {z : Zt} {s : Nat} {zs : Nat → Zt} {tl : Nat × Zt} (h : Cst I ρ z s zs tl) (hρ : ρ'.1 = ρ.1) (he : ∀ a k, a < 244 → ¬ (31 ≤ a ∧ a ≤ 60) → I' a k = I a k) : Cst I' ρ' z s zs tl := by
  obtain ⟨g, h5, hs, ⟨σ, hσ, hz⟩, h1, hc, ht⟩ := h
  refine ⟨g.fr fun o k ho => he _ _ (by omega) (by omega), by rw [he _ _ (by omega) (by omega)]; exact h5, hs, ⟨σ, hσ.x hρ, fun j hj => (hz j hj).fr fun o k ho => he _ _ ?_ ?_⟩, by rw [he _ _ (by omega) (by omega)]; exact h1, hc, fun k hk => by rw [he _ _ (by omega) (by omega)]; exact ht k hk⟩
  · have := hσ.1 j (by omega); omega
  · omega
/-! the class's guards at its own object -/
theorem gc_O {I : In2} {ρ : Rh} (hW : Rw ρ) : gO (I, ρ) 0 3 = true := gO_of hW (by decide) rfl
theorem gc_T {I : In2} {ρ : Rh} (hW : Rw ρ) : gO (I, ρ) 242 2 = true := gO_of hW (by decide) rfl
theorem gc_0 {ρ : Rh} (hW : Rw ρ) : ρ.1 0 0 = some 1 := hW.2.1.1
theorem gc_1 {ρ : Rh} (hW : Rw ρ) : ρ.1 0 1 = some 31 := hW.2.1.2.1
theorem gc_2 {ρ : Rh} (hW : Rw ρ) : ρ.1 0 2 = some 61 := hW.2.1.2.2.1
theorem gc_3 {ρ : Rh} (hW : Rw ρ) : ρ.1 0 3 = some 242 := hW.2.1.2.2.2.1
theorem gc_4 {ρ : Rh} (hW : Rw ρ) : ρ.1 0 4 = some 244 := hW.2.1.2.2.2.2
theorem gc_5 {ρ : Rh} (hW : Rw ρ) : ρ.1 242 0 = some 243 := hW.2.2.1
theorem gc_A {I : In2} {ρ : Rh} (hW : Rw ρ) {k : Nat} (hk : k < 6) : gA (I, ρ) 61 8 (nI k) = true := gA_in hW (by decide) rfl (by decide) hk
theorem gc_B {I : In2} {ρ : Rh} (hW : Rw ρ) {k : Nat} (hk : k < 3) : gA (I, ρ) 244 6 (nI k) = true := gA_in hW (by decide) rfl (by decide) hk
theorem gc_C {I : In2} {ρ : Rh} (hW : Rw ρ) {k : Nat} (hk : k < 120) : gA (I, ρ) 243 5 (nI k) = true := gA_in hW (by decide) rfl (by decide) hk
theorem gc_L {I : In2} {ρ : Rh} (hW : Rw ρ) : (Nat.blt 61 (mN (I, ρ)) && (Nat.ble 5 (shp 61).1 && Nat.ble (shp 61).1 9)) = true := by rw [mN_def, show Nat.blt 61 ρ.2.2.1 = true from Nat.blt_eq.mpr (Nat.lt_of_lt_of_le (by decide) hW.1)]; rfl
theorem gc_l : (shp 61).2 = 6 := rfl
theorem gc_s {I : In2} {ρ : Rh} (hW : Rw ρ) {k : Nat} (hk : k < 6) : gO (I, ρ) (62 + 30 * k) 1 = true := gm_O hW (Bs_s hk)
def rS (ρ : Rh) (k v : Nat) : Rh := (up2 ρ.1 61 k (some v), ρ.2)
theorem setR_def {I : In2} {ρ : Rh} {k v : Nat} : setR (I, ρ) 61 k v = (I, rS ρ k v) := rfl
theorem Rw.s {ρ : Rh} {k v : Nat} (h : Rw ρ) : Rw (rS ρ k v) := by
  have e : ∀ a j, ¬ a = 61 → (rS ρ k v).1 a j = ρ.1 a j := fun a j ha => if_neg fun e => ha e.1
  obtain ⟨h1, ⟨a0, a1, a2, a3, a4⟩, h3, h4, h5⟩ := h
  refine ⟨h1, ⟨?_, ?_, ?_, ?_, ?_⟩, ?_, trivial, fun m hm => ⟨fun j hj => ?_, fun i hi => ?_⟩⟩
  · rw [e _ _ (by decide)]; exact a0
  · rw [e _ _ (by decide)]; exact a1
  · rw [e _ _ (by decide)]; exact a2
  · rw [e _ _ (by decide)]; exact a3
  · rw [e _ _ (by decide)]; exact a4
  · rw [e _ _ (by decide)]; exact h3
  · rw [e _ _ (by unfold Bs at hm; omega)]; exact (h5 m hm).1 j hj
  · rw [e _ _ (by unfold Bs at hm; omega)]; exact (h5 m hm).2 i hi
theorem rS_at {ρ : Rh} {k v : Nat} : (rS ρ k v).1 61 k = some v := if_pos ⟨rfl, rfl⟩
theorem rS_ne {ρ : Rh} {k v j : Nat} (h : ¬ j = k) : (rS ρ k v).1 61 j = ρ.1 61 j := if_neg fun e => h e.2
/-- a machine takes another's place: in the memory, below its own -/
theorem k_copy {xs : Scr} {I : In2} {ρ : Rh} {Q : Post} (hW : Rw ρ) {m m' : Nat} (hB : Bs m) (hB' : Bs m') (hne : ¬ m = m') {z : Zt} (hG : Good (bk I m') z) (h : ∀ c', Good c' z → Q (.inl none) (pc I m c', ρ)) : Ev xs 15 0 [.ref m, .ref m', .null] [] (I, ρ) Q := by
  obtain ⟨a, b, n, cy, g, r⟩ := hG
  have := k_like (xs := xs) (Q := Q) hW hB hB' (Bs_dj hB hB' hne) (c := bk I m) g fun c' hc' => h c' ⟨a, b, n, cy, hc', r⟩
  rw [pc_self] at this; exact this
def svN (s : Nat) : Nat := if s < 6 then s + 1 else 6
def svZ (s : Nat) (zs : Nat → Zt) (z : Zt) : Nat → Zt := fun j => if s < 6 then (if j = s then z else zs j) else (if j < 5 then zs (j + 1) else z)
theorem up2_e {I : In2} {a k b j : Nat} {v : Int32} : up2 I a k v b j = if b = a ∧ j = k then v else I b j := rfl
theorem k_save21 {xs : Scr} {I : In2} {z : Zt} {ρ0 : Rh} {σ : Nat → Nat} {Q : Post} (hσ6 : ∀ j, j < 6 → σ j < 6)
    (g : Good (bk (up2 I 0 5 (nI 5)) 1) z) (fin : ∀ ρ' c', Rw ρ' → ρ'.2 = ρ0.2 → (∀ j, j < 6 → ρ'.1 61 j = some (62 + 30 * σ ((j + 1) % 6))) → Good c' z → Q (.inl none) (up2 (pc (up2 I 0 5 (nI 5)) (62 + 30 * σ 0) c') 0 5 (nI 6), ρ')) :
    ∀ {d k : Nat} {ρ : Rh}, k + d = 6 → 1 ≤ k → Rw ρ → ρ.2 = ρ0.2 → (∀ j, j < 6 → ρ.1 61 j = if j + 1 < k then some (62 + 30 * σ (j + 1)) else some (62 + 30 * σ j)) → Ev xs 76 21 [.ref 0, .ref (62 + 30 * σ 0), .int (nI k)] [] (I, ρ) Q := by
  intro d
  induction d with
  | zero =>
    intro k ρ hk h1 hW hρ hs
    obtain rfl : k = 6 := hk
    have e65 : nI 6 - nI 1 = nI 5 := nI_sub1 5
    have e5 : ∀ {I : In2}, up2 I 0 5 (nI 5) 0 5 = nI 5 := up2_at
    have hs0 : ∀ {I : In2}, gO (I, ρ) (62 + 30 * σ 0) 1 = true := gc_s hW (hσ6 0 (by decide))
    have hs0' : ∀ {I : In2}, gO (I, rS ρ 5 (62 + 30 * σ 0)) (62 + 30 * σ 0) 1 = true := gc_s hW.s (hσ6 0 (by decide))
    have hW' : Rw (rS ρ 5 (62 + 30 * σ 0)) := hW.s
    apply w_X4_saveState_21
    simp (maxSteps := 1000000) (disch := omega) only [↓QI_i, ↓QV_v, ↓QA_a, ↓QF_f, ↓QD_d, ↓QL_l, ↓Bool.cond_eq_ite, ↓reduceIte, decide_eq_true_eq, Bool.not_eq_true', Bool.true_and, Bool.and_true, Bool.and_self, gR_some, Option.getD_some, mI_def, setI_def, mR_def, not_false_eq_true, not_true_eq_false, Bool.false_eq_true, idx_nI, nI_add, pk_mul, icB_lt, icB_gt, icB_le, icB_ge, icB_eq, icB_ne, bI_ne, nI_eqI, gc_O hW, gc_2 hW, gc_L hW, gc_l, Nat.le_refl, gc_A hW, Bool.or_true, e65, e5, hs0, setR_def, gc_O hW', gc_2 hW', gc_0 hW', gc_A hW', rS_at, hs0', gm_O hW' Bs_1]
    refine k_copy hW' (Bs_s (hσ6 0 (by decide))) Bs_1 (by omega) g fun c' hc' => ?_
    have q5 : pc (up2 I 0 5 (nI 5)) (62 + 30 * σ 0) c' 0 5 = nI 5 := (pc_ne (by omega)).trans up2_at
    simp (maxSteps := 1000000) (disch := omega) only [↓QI_i, ↓QV_v, ↓QA_a, ↓QF_f, ↓QD_d, ↓QL_l, ↓Bool.cond_eq_ite, ↓reduceIte, decide_eq_true_eq, Bool.not_eq_true', Bool.true_and, Bool.and_true, Bool.and_self, gR_some, Option.getD_some, mI_def, setI_def, mR_def, not_false_eq_true, not_true_eq_false, Bool.false_eq_true, idx_nI, nI_add, pk_mul, icB_lt, icB_gt, icB_le, icB_ge, icB_eq, icB_ne, bI_ne, nI_eqI, gc_O hW', q5]
    refine fin _ c' hW' hρ (fun j hj => ?_) hc'
    by_cases e : j = 5
    · subst e; rw [rS_at]
    · rw [rS_ne e, hs j hj, if_pos (by omega), Nat.mod_eq_of_lt (by omega)]
  | succ d ih =>
    intro k ρ hk h1 hW hρ hs
    have hki : ¬ 6 ≤ k := by omega
    obtain ⟨k, rfl⟩ : ∃ j, k = j + 1 := ⟨k - 1, by omega⟩
    have hk1 : ρ.1 61 (k + 1) = some (62 + 30 * σ (k + 1)) := by rw [hs _ (by omega), if_neg (by omega)]
    apply w_X4_saveState_21
    simp (maxSteps := 1000000) (disch := omega) only [↓QI_i, ↓QV_v, ↓QA_a, ↓QF_f, ↓QD_d, ↓QL_l, ↓Bool.cond_eq_ite, ↓reduceIte, decide_eq_true_eq, Bool.not_eq_true', Bool.true_and, Bool.and_true, Bool.and_self, gR_some, Option.getD_some, mI_def, setI_def, mR_def, not_false_eq_true, not_true_eq_false, Bool.false_eq_true, idx_nI, nI_add, pk_mul, icB_lt, icB_gt, icB_le, icB_ge, icB_eq, icB_ne, bI_ne, nI_eqI, gc_O hW, gc_2 hW, gc_L hW, gc_l, hki, gc_A hW, hk1, Bool.or_true, gc_s hW (hσ6 (k + 1) (by omega)), nI_sub1, setR_def]
    refine ih (k := k + 1 + 1) (by omega) (by omega) hW.s hρ fun j hj => ?_
    by_cases e : j = k
    · subst e; rw [rS_at, if_pos (by omega)]
    · rw [rS_ne e, hs j hj]
      by_cases e2 : j + 1 < k + 1
      · rw [if_pos e2, if_pos (by omega)]
      · rw [if_neg e2, if_neg (by omega)]

theorem k_save {xs : Scr} {I : In2} {ρ : Rh} {Q : Post} {z : Zt} {s : Nat} {zs : Nat → Zt} {tl : Nat × Zt} (hW : Rw ρ) (hC : Cst I ρ z s zs tl) (h : ∀ I' ρ', Rw ρ' → ρ'.2 = ρ.2 → Cst I' ρ' z (svN s) (svZ s zs z) tl → (∀ a k, 245 ≤ a → I' a k = I a k) → Q (.inl none) (I', ρ')) : Ev xs 76 0 [.ref 0, .null, .null] [] (I, ρ) Q := by
  obtain ⟨g, h5, hs, ⟨σ, ⟨hσ6, hinj, hσ⟩, hz⟩, h1, hc, ht⟩ := hC
  have gR : ∀ {c : In2} {k m : Nat}, Bs m → k < 6 → ¬ m = 0 → pc I m c 0 5 = I 0 5 := fun hm _ _ => pc_ne (by have := Bs_0 hm; omega)
  apply w_X4_saveState_0
  by_cases hs6 : s < 6
  · have hs6' : ¬ 6 ≤ s := by omega
    have hsS : ρ.1 61 s = some (62 + 30 * σ s) := hσ s hs6
    have hBs := Bs_s (hσ6 s hs6)
    simp (maxSteps := 1000000) (disch := omega) only [↓QI_i, ↓QV_v, ↓QA_a, ↓QF_f, ↓QD_d, ↓QL_l, ↓Bool.cond_eq_ite, ↓reduceIte, decide_eq_true_eq, Bool.not_eq_true', Bool.true_and, Bool.and_true, Bool.and_self, gR_some, Option.getD_some, mI_def, setI_def, mR_def, not_false_eq_true, not_true_eq_false, Bool.false_eq_true, idx_nI, nI_add, pk_mul, icB_lt, icB_gt, icB_le, icB_ge, icB_eq, icB_ne, bI_ne, nI_eqI, gc_O hW, gc_2 hW, gc_L hW, gc_l, h5, hs6, gc_A hW, Bool.or_true, hsS, gc_0 hW, gc_s hW (hσ6 s hs6)]
    refine k_copy hW hBs Bs_1 (by omega) g fun c' hc' => ?_
    have q5 : pc I (62 + 30 * σ s) c' 0 5 = nI s := (pc_ne (by omega)).trans h5
    simp (maxSteps := 1000000) (disch := omega) only [↓QI_i, ↓QV_v, ↓QA_a, ↓QF_f, ↓QD_d, ↓QL_l, ↓Bool.cond_eq_ite, ↓reduceIte, decide_eq_true_eq, Bool.not_eq_true', Bool.true_and, Bool.and_true, Bool.and_self, gR_some, Option.getD_some, mI_def, setI_def, mR_def, not_false_eq_true, not_true_eq_false, Bool.false_eq_true, idx_nI, nI_add, pk_mul, icB_lt, icB_gt, icB_le, icB_ge, icB_eq, icB_ne, bI_ne, nI_eqI, gc_O hW, q5]
    have fr : ∀ a k, ¬ (62 + 30 * σ s ≤ a ∧ a < 62 + 30 * σ s + 30) → ¬ a = 0 → up2 (pc I (62 + 30 * σ s) c') 0 5 (nI (s + 1)) a k = I a k := fun a k h1 h2 => by rw [up2_e, if_neg (fun e => h2 e.1), pc_ne h1]
    have hl := hσ6 s hs6
    refine h _ ρ hW rfl ⟨g.fr fun o k ho => fr _ _ (by omega) (by omega), ?_, by unfold svN; rw [if_pos hs6]; omega, ⟨σ, ⟨hσ6, hinj, hσ⟩, fun j hj => ?_⟩, by rw [fr _ _ (by omega) (by omega)]; exact h1, hc, fun k hk => by rw [fr _ _ (by omega) (by omega)]; exact ht k hk⟩ fun a k ha => fr _ _ (by omega) (by omega)
    · unfold svN; rw [if_pos hs6, up2_e, if_pos ⟨rfl, rfl⟩]
    · unfold svN at hj
      rw [if_pos hs6] at hj
      unfold svZ
      rw [if_pos hs6]
      by_cases e : j = s
      · subst e
        rw [if_pos rfl]
        refine (hc'.bk (I := I) (m := 62 + 30 * σ j)).fr fun o k ho => ?_
        rw [up2_e, if_neg (by omega)]
      · rw [if_neg e]
        have hne : ¬ σ j = σ s := fun e' => e (hinj j s (by omega) hs6 e')
        have hlj := hσ6 j (by omega)
        exact (hz j (by omega)).fr fun o k ho => fr _ _ (by omega) (by omega)
  · have hs6' : 6 ≤ s := by omega
    obtain rfl : s = 6 := by omega
    have h60 : ¬ 6 < 6 := by omega
    have hl0 := hσ6 0 (by decide)
    simp (maxSteps := 1000000) (disch := omega) only [↓QI_i, ↓QV_v, ↓QA_a, ↓QF_f, ↓QD_d, ↓QL_l, ↓Bool.cond_eq_ite, ↓reduceIte, decide_eq_true_eq, Bool.not_eq_true', Bool.true_and, Bool.and_true, Bool.and_self, gR_some, Option.getD_some, mI_def, setI_def, mR_def, not_false_eq_true, not_true_eq_false, Bool.false_eq_true, idx_nI, nI_add, pk_mul, icB_lt, icB_gt, icB_le, icB_ge, icB_eq, icB_ne, bI_ne, nI_eqI, gc_O hW, gc_2 hW, gc_L hW, gc_l, h5, h60, gc_A hW, Bool.or_true, hσ 0 (by decide)]
    have g' : Good (bk (up2 I 0 5 (nI 5)) 1) z := g.fr fun o k ho => by rw [up2_e, if_neg (by omega)]
    refine k_save21 (I := I) (z := z) (ρ0 := ρ) hσ6 g' (fun ρ' c' hW' hρ' hs' hc' => ?_) (d := 5) (k := 1) (by decide) (by decide) hW rfl fun j hj => by rw [if_neg (by omega)]; exact hσ j hj
    have fr : ∀ a k, ¬ (62 + 30 * σ 0 ≤ a ∧ a < 62 + 30 * σ 0 + 30) → ¬ a = 0 → up2 (pc (up2 I 0 5 (nI 5)) (62 + 30 * σ 0) c') 0 5 (nI 6) a k = I a k := fun a k h1 h2 => by rw [up2_e, if_neg (fun e => h2 e.1), pc_ne h1, up2_e, if_neg (fun e => h2 e.1)]
    have hmod : ∀ j, j < 6 → (j + 1) % 6 < 6 := fun j _ => Nat.mod_lt _ (by decide)
    refine h _ ρ' hW' hρ' ⟨g.fr fun o k ho => fr _ _ (by omega) (by omega), ?_, by unfold svN; rw [if_neg (by decide)]; omega, ⟨fun j => σ ((j + 1) % 6), ⟨fun j hj => hσ6 _ (hmod j hj), fun i j hi hj e => by have := hinj _ _ (hmod i hi) (hmod j hj) e; omega, hs'⟩, fun j hj => ?_⟩, by rw [fr _ _ (by omega) (by omega)]; exact h1, hc, fun k hk => by rw [fr _ _ (by omega) (by omega)]; exact ht k hk⟩ fun a k ha => fr _ _ (by omega) (by omega)
    · unfold svN; rw [if_neg (by decide), up2_e, if_pos ⟨rfl, rfl⟩]
    · unfold svN at hj
      rw [if_neg (by decide)] at hj
      unfold svZ
      rw [if_neg (by decide)]
      by_cases e : j < 5
      · rw [if_pos e]
        have hm : (j + 1) % 6 = j + 1 := Nat.mod_eq_of_lt (by omega)
        dsimp only
        rw [hm]
        have hne : ¬ σ (j + 1) = σ 0 := fun e' => by have := hinj (j + 1) 0 (by omega) (by decide) e'; omega
        have hlj := hσ6 (j + 1) (by omega)
        exact (hz (j + 1) (by omega)).fr fun o k ho => fr _ _ (by omega) (by omega)
      · rw [if_neg e]
        have hm : (j + 1) % 6 = 0 := by have : j = 5 := by omega
                                        subst this; rfl
        dsimp only
        rw [hm]
        refine (hc'.bk (I := up2 I 0 5 (nI 5)) (m := 62 + 30 * σ 0)).fr fun o k ho => ?_
        rw [up2_e, if_neg (by omega)]

