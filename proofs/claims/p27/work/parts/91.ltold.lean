/-! told: all that is asked of the class, beside the law's machine -/
theorem I_name {xs : Scr} {I : In2} {ρ : Rh} {Q : Post} {B : Nat} {z : Zt} {a n i : Nat} {r : Int32} (hL : LB B ρ) (hN : LN (bl I B) z a n) (hi : i ≤ n) : Ev xs 109 0 [.int (nI i), .int r, .ref B, .ref (B + 5), .null] [] (I, ρ) Q ↔ Q (.inl (some (.int (oI (mkr z a i r))))) (I, ρ) := by
  have := l_name (xs := xs) (I := I) (Q := Q) (d := bl I B) (r := r) hL hN hi
  rw [pl_self] at this; exact this
theorem I_why {xs : Scr} {I : In2} {ρ : Rh} {Q : Post} {B : Nat} {z : Zt} {a b n i : Nat} (hL : LB B ρ) (hG : LG (bl I B) z a b n) (ha : a ≤ i) (hi : i < b) : Ev xs 112 0 [.int (nI i), .ref B, .ref (B + 1), .ref (B + 5), .null, .null] [] (I, ρ) Q ↔ Q (.inl (some (.int (rsn z a i)))) (I, ρ) := by
  have := l_why (xs := xs) (I := I) (Q := Q) (d := bl I B) hL hG ha hi
  rw [pl_self] at this; exact this
theorem dc_self {d : UInt64} (h : Jvm.FP.Core.val64 d ≠ .nan) : icB .ne (Op.cmpValue (FP.dcmp d d) .l) (nI 0) = false := by
  rw [show FP.dcmp d d = some .eq from Jvm.FP.Core.dcmp_self h]; rfl
theorem k_d1 : FP.dconst1 = xD 1 ((0 : Nat) : Int) := by decide +kernel
theorem d1_mul {e : Nat} (h : e < 2147483648) : FP.dmul FP.dconst1 (FP.i2d (nI e)) = FP.i2d (nI e) := by
  have e1 : FP.i2d (nI e) = xD e 0 := i2d_xD (nI_toInt h)
  rw [e1, k_d1, show FP.dmul (xD 1 ((0 : Nat) : Int)) (xD e 0) = Jvm.FP.Core.dmul (xD e 0) (xD 1 ((0 : Nat) : Int)) from Jvm.FP.Core.dmul_comm _ _, mul_xD (j := 0) (by decide) (by omega) (by decide) (by decide)]
  rfl
theorem gN_i2d {e : Nat} (h : e < 2147483648) : gN64 (FP.i2d (nI e)) = true := by
  have e1 : FP.i2d (nI e) = xD e 0 := i2d_xD (nI_toInt h)
  rw [e1]; exact q_nn64 nn_xD
/-- what told stands on -/
def TC (I0 : In2) (ρ0 : Rh) (z : Zt) (B R M a b n : Nat) : Prop := LB B ρ0 ∧ LG (bl I0 B) z a b n ∧ Ent z a b ∧ (R < ρ0.2.2.1 ∧ M < ρ0.2.2.1 ∧ shp R = (6, 8) ∧ shp M = (6, 16) ∧ B + 6 ≤ R ∧ B + 6 ≤ M) ∧ OV I0 R M (plV z)
section Told
variable {xs : Scr} {I0 I : In2} {ρ0 ρ : Rh} {Q : Post} {z : Zt} {s : Nat} {zs : Nat → Zt} {tl : Nat × Zt} {B R M a b n : Nat} {v10 v11 v12 v13 v14 : Value} {w9 : Int32}
theorem TC.g (hC : TC I0 ρ0 z B R M a b n) (hT : Tg I0 ρ0 z s zs tl I ρ) : LG (bl I B) z a b n := by rw [hT.bl hC.1.1]; exact hC.2.1
theorem TC.c (hC : TC I0 ρ0 z B R M a b n) (hT : Tg I0 ρ0 z s zs tl I ρ) {k : Nat} (hk : k < 9) : I (B + 5) k = z k := (hC.g hT).2.2.1.c hk
theorem TC.st (hC : TC I0 ρ0 z B R M a b n) (hT : Tg I0 ρ0 z s zs tl I ρ) {k : Nat} (hk : k < 3) : I (B + 4) k = z (9 + k) := (hC.g hT).2.2.1.s hk
theorem TC.reg (hC : TC I0 ρ0 z B R M a b n) (hT : Tg I0 ρ0 z s zs tl I ρ) {k : Nat} (hk : k < 8) : VV (I (B + 2) k) (z (12 + k)) := (hC.g hT).2.2.1.reg hk
theorem TC.mem (hC : TC I0 ρ0 z B R M a b n) (hT : Tg I0 ρ0 z s zs tl I ρ) {k : Nat} (hk : k < 16) : VV (I (B + 3) k) (z (20 + k)) := (hC.g hT).2.2.1.mem hk
theorem TC.row (hC : TC I0 ρ0 z B R M a b n) (hT : Tg I0 ρ0 z s zs tl I ρ) {i f : Nat} (hi : i < n) (hf : f < 7) : I B (8 * i + f) = pt z i f := (hC.g hT).2.2.1.row hi hf
theorem TC.o1 (hC : TC I0 ρ0 z B R M a b n) (hT : Tg I0 ρ0 z s zs tl I ρ) {k : Nat} (hk : k < 8) : VV (I R k) ((plV z).1 k) := by
  rw [hT.2.2.2 _ _ (by have := hC.2.2.2.1; have := hC.1.1; omega)]; exact hC.2.2.2.2.1 k hk
theorem TC.o2 (hC : TC I0 ρ0 z B R M a b n) (hT : Tg I0 ρ0 z s zs tl I ρ) {k : Nat} (hk : k < 16) : VV (I M k) ((plV z).2 k) := by
  rw [hT.2.2.2 _ _ (by have := hC.2.2.2.1; have := hC.1.1; omega)]; exact hC.2.2.2.2.2 k hk
theorem TC.gR (hC : TC I0 ρ0 z B R M a b n) (hT : Tg I0 ρ0 z s zs tl I ρ) {I : In2} {k : Nat} (hk : k < 8) : gA (I, ρ) R 6 (nI k) = true := gA_ge (by rw [hT.2.1]; exact hC.2.2.2.1.1) hC.2.2.2.1.2.2.1 (by decide) hk
theorem TC.gM (hC : TC I0 ρ0 z B R M a b n) (hT : Tg I0 ρ0 z s zs tl I ρ) {I : In2} {k : Nat} (hk : k < 16) : gA (I, ρ) M 6 (nI k) = true := gA_ge (by rw [hT.2.1]; exact hC.2.2.2.1.2.1) hC.2.2.2.1.2.2.2.1 (by decide) hk
theorem TC.l (hC : TC I0 ρ0 z B R M a b n) (hT : Tg I0 ρ0 z s zs tl I ρ) : LB B ρ := hT.LB hC.1
theorem t_726 (hC : TC I0 ρ0 z B R M a b n) (hT : Tg I0 ρ0 z s zs tl I ρ) (hQ : ∀ I' ρ', Tg I0 ρ0 z s zs tl I' ρ' → Q (.inl (some (.int (nI 1)))) (I', ρ')) {x y10 : Int32} : Ev xs 118 726 [.ref 0, .ref B, .ref (B + 1), .ref (B + 2), .ref (B + 3), .ref (B + 4), .ref (B + 5), .ref R, .ref M, .int (wsF z n 0 nM (nI 0)), .int y10, v11, v12, v13, v14] [.int x, .int x] (I, ρ) Q := by
  have hb := hC.2.1.1.bnd
  have hn : inN z = n := by unfold inN; rw [hC.2.1.1.h1, idx_nI (by omega)]
  apply w_L_told_726
  try simp (disch := omega) only [idx_nI]
  rw [icB_ne, decide_eq_false (fun q => q rfl), cond_false, gc_O hT.1, cond_true]
  refine T_worst hT fun I1 ρ1 hT1 => ?_
  rw [hn, QI_i, icB_ne, decide_eq_false (fun q => q rfl), cond_false, gc_O hT1.1, cond_true]
  refine T_share hT1 ?_
  have c7 := hC.c hT1 (k := 7) (by decide)
  have c8 := hC.c hT1 (k := 8) (by decide)
  have L1 := hC.l hT1
  obtain ⟨_, _, _, cy, _, _, hcg, hcy, _⟩ := hT1.2.2.1.1
  have hcg0 := hcg
  obtain ⟨-, l, e, z7, z8, hel, hl⟩ := hcg
  rw [QD_d, gl_5 L1 (by decide), cond_true, mI_def, c7]
  by_cases h7 : z 7 = nI 0
  · have hs : shZ z = FP.dconst0 := by unfold shZ; rw [if_pos h7]
    rw [icB_ne, decide_eq_false (fun q => q h7), cond_false, hs, dc_self (d := FP.dconst0) (by rw [show Jvm.FP.Core.val64 FP.dconst0 = _ from Jvm.FP.Core.val64_dconst0]; exact fun h => by cases h), cond_false]
    exact hQ _ _ hT1
  · have hs : shZ z = FP.ddiv (FP.i2d (z 8)) (FP.i2d (z 7)) := by unfold shZ; rw [if_neg h7]
    have hnn : Jvm.FP.Core.val64 (shZ z) ≠ .nan := by rw [hs]; exact (sh_D hcg0 hcy h7).nn
    have hd1 : FP.dmul FP.dconst1 (FP.i2d (z 8)) = FP.i2d (z 8) := by rw [z8]; exact d1_mul (by omega)
    have hg1 : gN64 (FP.i2d (z 8)) = true := by rw [z8]; exact gN_i2d (by omega)
    have hg2 : gN64 (shZ z) = true := q_nn64 hnn
    rw [icB_ne, decide_eq_true h7, cond_true, gl_5 L1 (by decide), cond_true, mI_def, c8, hd1, hg1, cond_true, cond_true, ← hs, hg2, cond_true, dc_self hnn, cond_false]
    exact hQ _ _ hT1
theorem t_656 (hC : TC I0 ρ0 z B R M a b n) (hQ : ∀ I' ρ', Tg I0 ρ0 z s zs tl I' ρ' → Q (.inl (some (.int (nI 1)))) (I', ρ')) : ∀ {e k : Nat} {I : In2} {ρ : Rh}, Tg I0 ρ0 z s zs tl I ρ → k + e = 10 → 3 ≤ k → Ev xs 118 656 [.ref 0, .ref B, .ref (B + 1), .ref (B + 2), .ref (B + 3), .ref (B + 4), .ref (B + 5), .ref R, .ref M, .int (wsF z n 0 nM (nI 0)), .int (nI k), v11, v12, v13, v14] [] (I, ρ) Q := by
  have hb := hC.2.1.1.bnd
  have i3 := hC.2.1.1.i3
  have i2 := hC.2.1.1.i2
  have i1 := hC.2.1.1.i1
  intro e
  induction e with
  | zero =>
    intro k I ρ hT hk h3
    obtain rfl : k = 10 := hk
    apply w_L_told_656
    try simp (disch := omega) only [idx_nI]
    rw [icB_ge (by decide) (by decide), decide_eq_true (Nat.le_refl 10), cond_true, gc_O hT.1, cond_true]
    refine T_count hT (by decide) fun I1 ρ1 hT1 => ?_
    have L1 := hC.l hT1
    have c2 := (hC.c hT1 (k := 2) (by decide)).trans hC.2.1.1.h2
    have c3 := (hC.c hT1 (k := 3) (by decide)).trans hC.2.1.1.h3
    have hv : cnV z (idx (z 3)) (idx (z 2)) (idx (z 1)) s 2 = nI (b - a) := by rw [i3, i2]; rfl
    rw [QI_i, gl_5 L1 (by decide), cond_true, gl_5 L1 (by decide), cond_true, mI_def, mI_def, c2, c3, pk_sub hb.1, hv, icB_ne, decide_eq_false (fun q => q rfl), cond_false, gc_O hT1.1, cond_true]
    refine T_count hT1 (by decide) fun I2 ρ2 hT2 => ?_
    have L2 := hC.l hT2
    have d1 := (hC.c hT2 (k := 1) (by decide)).trans hC.2.1.1.h1
    have d3 := (hC.c hT2 (k := 3) (by decide)).trans hC.2.1.1.h3
    have hv2 : cnV z (idx (z 3)) (idx (z 2)) (idx (z 1)) s 10 = bI (decide (a = n)) := by rw [i3, i1]; rfl
    rw [QI_i, gl_5 L2 (by decide), cond_true, gl_5 L2 (by decide), cond_true, mI_def, mI_def, d1, d3, hv2, icB_ne]
    by_cases han : a = n
    · rw [decide_eq_false (fun q => q (by rw [han])), cond_false, decide_eq_true han]
      exact t_726 hC hT2 hQ
    · rw [decide_eq_true (not_nI (by omega) (by omega) han), cond_true, decide_eq_false han]
      exact t_726 hC hT2 hQ
  | succ e ih =>
    intro k I ρ hT hk h3
    have hk10 : ¬ 10 ≤ k := by omega
    apply w_L_told_656
    try simp (disch := omega) only [idx_nI]
    rw [icB_ge (by omega) (by decide), decide_eq_false hk10, cond_false, gc_O hT.1, cond_true]
    refine T_count hT (by omega) fun I1 ρ1 hT1 => ?_
    have L1 := hC.l hT1
    have hsub : nI k - nI 1 = nI (k - 1) := pk_sub (by omega)
    have ck := hC.c hT1 (k := k - 1) (by omega)
    have hv : cnV z (idx (z 3)) (idx (z 2)) (idx (z 1)) s k = z (k - 1) := by
      have : k = 3 ∨ k = 4 ∨ k = 5 ∨ k = 6 ∨ k = 7 ∨ k = 8 ∨ k = 9 := by omega
      rcases this with rfl | rfl | rfl | rfl | rfl | rfl | rfl <;> rfl
    rw [QI_i, hsub, gl_5 L1 (by omega), cond_true, mI_def, idx_nI (by omega), ck, hv, icB_eq, decide_eq_true rfl, cond_true, nI_add]
    exact ih hT1 (by omega) (by omega)
theorem t_625 (hC : TC I0 ρ0 z B R M a b n) (hQ : ∀ I' ρ', Tg I0 ρ0 z s zs tl I' ρ' → Q (.inl (some (.int (nI 1)))) (I', ρ')) : ∀ {e k : Nat} {I : In2} {ρ : Rh}, Tg I0 ρ0 z s zs tl I ρ → k + e = 2 → Ev xs 118 625 [.ref 0, .ref B, .ref (B + 1), .ref (B + 2), .ref (B + 3), .ref (B + 4), .ref (B + 5), .ref R, .ref M, .int (wsF z n 0 nM (nI 0)), .int (nI k), v11, v12, v13, v14] [] (I, ρ) Q := by
  intro e
  induction e with
  | zero =>
    intro k I ρ hT hk
    obtain rfl : k = 2 := hk
    apply w_L_told_625
    try simp (disch := omega) only [idx_nI]
    rw [icB_ge (by decide) (by decide), decide_eq_true (Nat.le_refl 2), cond_true]
    exact t_656 hC hQ (e := 7) (k := 3) hT (by decide) (by decide)
  | succ e ih =>
    intro k I ρ hT hk
    have hk2 : ¬ 2 ≤ k := by omega
    apply w_L_told_625
    try simp (disch := omega) only [idx_nI]
    rw [icB_ge (by omega) (by decide), decide_eq_false hk2, cond_false, gc_O hT.1, cond_true]
    refine T_count hT (by omega) fun I1 ρ1 hT1 => ?_
    have L1 := hC.l hT1
    have ck := hC.c hT1 (k := k) (by omega)
    have hv : cnV z (idx (z 3)) (idx (z 2)) (idx (z 1)) s k = z k := by
      have : k = 0 ∨ k = 1 := by omega
      rcases this with rfl | rfl <;> rfl
    rw [QI_i, gl_5 L1 (by omega), cond_true, mI_def, ck, hv, icB_eq, decide_eq_true rfl, cond_true, nI_add]
    exact ih hT1 (by omega)
theorem t_594 (hC : TC I0 ρ0 z B R M a b n) (hQ : ∀ I' ρ', Tg I0 ρ0 z s zs tl I' ρ' → Q (.inl (some (.int (nI 1)))) (I', ρ')) : ∀ {e k : Nat} {I : In2} {ρ : Rh}, Tg I0 ρ0 z s zs tl I ρ → k + e = 3 → Ev xs 118 594 [.ref 0, .ref B, .ref (B + 1), .ref (B + 2), .ref (B + 3), .ref (B + 4), .ref (B + 5), .ref R, .ref M, .int (wsF z n 0 nM (nI 0)), .int (nI k), v11, v12, v13, v14] [] (I, ρ) Q := by
  intro e
  induction e with
  | zero =>
    intro k I ρ hT hk
    obtain rfl : k = 3 := hk
    apply w_L_told_594
    try simp (disch := omega) only [idx_nI]
    rw [icB_ge (by decide) (by decide), decide_eq_true (Nat.le_refl 3), cond_true]
    exact t_625 hC hQ (e := 2) (k := 0) hT (by decide)
  | succ e ih =>
    intro k I ρ hT hk
    have hk2 : ¬ 3 ≤ k := by omega
    apply w_L_told_594
    try simp (disch := omega) only [idx_nI]
    rw [icB_ge (by omega) (by decide), decide_eq_false hk2, cond_false, gc_O hT.1, cond_true]
    refine T_setting hT (by omega) fun I1 ρ1 hT1 => ?_
    have L1 := hC.l hT1
    have ck := hC.st hT1 (k := k) (by omega)
    rw [QI_i, gl_4 L1 (by omega), cond_true, mI_def, ck, icB_eq, decide_eq_true rfl, cond_true, nI_add]
    exact ih hT1 (by omega)
theorem t_540 (hC : TC I0 ρ0 z B R M a b n) (hQ : ∀ I' ρ', Tg I0 ρ0 z s zs tl I' ρ' → Q (.inl (some (.int (nI 1)))) (I', ρ')) : ∀ {e k : Nat} {I : In2} {ρ : Rh}, Tg I0 ρ0 z s zs tl I ρ → k + e = 16 → Ev xs 118 540 [.ref 0, .ref B, .ref (B + 1), .ref (B + 2), .ref (B + 3), .ref (B + 4), .ref (B + 5), .ref R, .ref M, .int (wsF z n 0 nM (nI 0)), .int (nI k), v11, v12, v13, v14] [] (I, ρ) Q := by
  intro e
  induction e with
  | zero =>
    intro k I ρ hT hk
    obtain rfl : k = 16 := hk
    apply w_L_told_540
    try simp (disch := omega) only [idx_nI]
    rw [icB_ge (by decide) (by decide), decide_eq_true (Nat.le_refl 16), cond_true]
    exact t_594 hC hQ (e := 3) (k := 0) hT (by decide)
  | succ e ih =>
    intro k I ρ hT hk
    have hk2 : ¬ 16 ≤ k := by omega
    have hk16 : k < 16 := by omega
    apply w_L_told_540
    try simp (disch := omega) only [idx_nI]
    rw [icB_ge (by omega) (by decide), decide_eq_false hk2, cond_false, gc_O hT.1, cond_true]
    refine T_cell hT hk16 (by decide) fun I1 ρ1 hT1 => ?_
    have L1 := hC.l hT1
    rw [QI_i, gl_3 L1 hk16, cond_true, mI_def, l_bits (hC.mem hT1 hk16), QI_i]
    rw [show clV z k 0 = z (20 + k) from rfl, icB_ne, decide_eq_false (fun q => q rfl), cond_false, gc_O hT1.1, cond_true]
    refine T_cell hT1 hk16 (by decide) fun I2 ρ2 hT2 => ?_
    rw [QI_i, hC.gM hT2 hk16, cond_true, mI_def, l_bits (hC.o2 hT2 hk16), QI_i]
    rw [show clV z k 1 = (plV z).2 k from rfl, icB_eq, decide_eq_true rfl, cond_true, nI_add]
    exact ih hT2 (by omega)
theorem t_465 (hC : TC I0 ρ0 z B R M a b n) (hQ : ∀ I' ρ', Tg I0 ρ0 z s zs tl I' ρ' → Q (.inl (some (.int (nI 1)))) (I', ρ')) : ∀ {e k : Nat} {I : In2} {ρ : Rh}, Tg I0 ρ0 z s zs tl I ρ → k + e = 8 → Ev xs 118 465 [.ref 0, .ref B, .ref (B + 1), .ref (B + 2), .ref (B + 3), .ref (B + 4), .ref (B + 5), .ref R, .ref M, .int (wsF z n 0 nM (nI 0)), .int (nI k), v11, v12, v13, v14] [] (I, ρ) Q := by
  have hb := hC.2.1.1.bnd
  have i3 := hC.2.1.1.i3
  have i2 := hC.2.1.1.i2
  intro e
  induction e with
  | zero =>
    intro k I ρ hT hk
    obtain rfl : k = 8 := hk
    apply w_L_told_465
    try simp (disch := omega) only [idx_nI]
    rw [icB_ge (by decide) (by decide), decide_eq_true (Nat.le_refl 8), cond_true]
    exact t_540 hC hQ (e := 16) (k := 0) hT (by decide)
  | succ e ih =>
    intro k I ρ hT hk
    have hk2 : ¬ 8 ≤ k := by omega
    have hk8 : k < 8 := by omega
    apply w_L_told_465
    try simp (disch := omega) only [idx_nI]
    rw [icB_ge (by omega) (by decide), decide_eq_false hk2, cond_false, gc_O hT.1, cond_true]
    refine T_register hT hk8 (by decide) fun I1 ρ1 hT1 => ?_
    have L1 := hC.l hT1
    rw [QI_i, gl_2 L1 hk8, cond_true, mI_def, l_bits (hC.reg hT1 hk8), QI_i]
    rw [show rgV z k 0 = z (12 + k) from rfl, icB_ne, decide_eq_false (fun q => q rfl), cond_false, gc_O hT1.1, cond_true]
    refine T_register hT1 hk8 (by decide) fun I2 ρ2 hT2 => ?_
    have L2 := hC.l hT2
    have c2 := (hC.c hT2 (k := 2) (by decide)).trans hC.2.1.1.h2
    rw [QI_i, gl_5 L2 (by decide), cond_true, mI_def, c2, I_name L2 (hC.g hT2).n (by omega), QI_i]
    rw [show rgV z k 1 = oI (mkr z (idx (z 3)) (idx (z 2)) (nI k)) from rfl, i3, i2, icB_ne, decide_eq_false (fun q => q rfl), cond_false, gc_O hT2.1, cond_true]
    refine T_register hT2 hk8 (by decide) fun I3 ρ3 hT3 => ?_
    rw [QI_i, hC.gR hT3 hk8, cond_true, mI_def, l_bits (hC.o1 hT3 hk8), QI_i]
    rw [show rgV z k 2 = (plV z).1 k from rfl, icB_eq, decide_eq_true rfl, cond_true, nI_add]
    exact ih hT3 (by omega)
/-! an entry -/
/-- may be asked: an entry's own facts -/
def TE (z : Zt) (a b i x y : Nat) : Prop := a ≤ i ∧ i < b ∧ pt z i 0 = nI x ∧ x ≤ 4 ∧ y < 3 ∧ pt z i 7 = nI y
/-- what is behind an entry: the next one -/
def TN (xs : Scr) (I0 : In2) (ρ0 : Rh) (Q : Post) (z : Zt) (s : Nat) (zs : Nat → Zt) (tl : Nat × Zt) (B R M a n i : Nat) (x y : Nat) : Prop := ∀ I ρ, Tg I0 ρ0 z s zs tl I ρ → Ev xs 118 142 [.ref 0, .ref B, .ref (B + 1), .ref (B + 2), .ref (B + 3), .ref (B + 4), .ref (B + 5), .ref R, .ref M, .int (wsF z n 0 nM (nI 0)), .int (nI (i + 1)), .int (nI (i - a)), .int (nI (5 * i)), .int (nI x), .int (bI (decide (y = 2)))] [] (I, ρ) Q
theorem t_413 {i x y : Nat} {v : Int32} (hC : TC I0 ρ0 z B R M a b n) (hE : TE z a b i x y) (hT : Tg I0 ρ0 z s zs tl I ρ) (hN : TN xs I0 ρ0 Q z s zs tl B R M a n i x y) : Ev xs 118 413 [.ref 0, .ref B, .ref (B + 1), .ref (B + 2), .ref (B + 3), .ref (B + 4), .ref (B + 5), .ref R, .ref M, .int (wsF z n 0 nM (nI 0)), .int (nI i), .int (nI (i - a)), .int (nI (5 * i)), .int (nI x), .int (bI (decide (y = 2)))] [.int v, .int v] (I, ρ) Q := by
  have hb := hC.2.1.1.bnd
  have h3 := hC.2.1.1.h3
  have h2 := hC.2.1.1.h2
  obtain ⟨ha, hi, hx, hx4, hy3, hy⟩ := hE
  apply w_L_told_413
  rw [icB_ne, decide_eq_false (fun q => q rfl), cond_false, gc_O hT.1, cond_true]
  refine T_entry hT h3 h2 ha hi (by omega) (by decide) fun I1 ρ1 hT1 => ?_
  rw [QI_i, I_why (hC.l hT1) (hC.g hT1) ha hi, QI_i, show epV z a i 8 = rsn z a i from rfl, icB_ne, decide_eq_false (fun q => q rfl), cond_false, gc_O hT1.1, cond_true]
  refine T_whyNot hT1 h3 h2 ha hi (by omega) fun I2 ρ2 hT2 => ?_
  rw [QI_i, I_why (hC.l hT2) (hC.g hT2) ha hi, QI_i, icB_eq, decide_eq_true rfl, cond_true, nI_add]
  exact hN I2 ρ2 hT2
theorem bI_eq0 {p : Prop} [Decidable p] : icB .eq (bI (decide p)) (nI 0) = !decide p := icB_eq_b
theorem t_384 {i x y : Nat} {v : Int32} (hC : TC I0 ρ0 z B R M a b n) (hE : TE z a b i x y) (hT : Tg I0 ρ0 z s zs tl I ρ) (hN : TN xs I0 ρ0 Q z s zs tl B R M a n i x y) : Ev xs 118 384 [.ref 0, .ref B, .ref (B + 1), .ref (B + 2), .ref (B + 3), .ref (B + 4), .ref (B + 5), .ref R, .ref M, .int (wsF z n 0 nM (nI 0)), .int (nI i), .int (nI (i - a)), .int (nI (5 * i)), .int (nI x), .int (bI (decide (y = 2)))] [.int v, .int v] (I, ρ) Q := by
  have hb := hC.2.1.1.bnd
  have hn7 := hC.2.1.2.2.2.2
  have h3 := hC.2.1.1.h3
  have h2 := hC.2.1.1.h2
  have hE0 := hE
  obtain ⟨ha, hi, hx, hx4, hy3, hy⟩ := hE
  apply w_L_told_384
  rw [icB_ne, decide_eq_false (fun q => q rfl), cond_false, gc_O hT.1, cond_true]
  refine T_entry hT h3 h2 ha hi (by omega) (by decide) fun I1 ρ1 hT1 => ?_
  have L1 := hC.l hT1
  rw [QI_i, show epV z a i 7 = if pt z i 7 = nI 2 then pt z i 11 else nI 0 from rfl, hy, bI_eq0]
  by_cases y2 : y = 2
  · subst y2
    have hv := (hC.g hT1).2.2.1.val ha hi hy
    rw [decide_eq_true rfl, Bool.not_true, cond_false, nI_add, gl_1 L1 (by omega), cond_true, mI_def, idx_nI (by omega)]
    rw [l_bits (show VV (I1 (B + 1) (5 * i + 4)) (pt z i 11) from hv), QI_i, if_pos rfl]
    exact t_413 hC hE0 hT1 hN
  · rw [decide_eq_false y2, Bool.not_false, cond_true, if_neg (not_nI (by omega) (by decide) y2)]
    have := t_413 (xs := xs) (Q := Q) (v := nI 0) hC hE0 hT1 hN
    rw [decide_eq_false y2] at this
    exact this
theorem t_352 {i x y : Nat} {v : Int32} (hC : TC I0 ρ0 z B R M a b n) (hE : TE z a b i x y) (hT : Tg I0 ρ0 z s zs tl I ρ) (hN : TN xs I0 ρ0 Q z s zs tl B R M a n i x y) : Ev xs 118 352 [.ref 0, .ref B, .ref (B + 1), .ref (B + 2), .ref (B + 3), .ref (B + 4), .ref (B + 5), .ref R, .ref M, .int (wsF z n 0 nM (nI 0)), .int (nI i), .int (nI (i - a)), .int (nI (5 * i)), .int (nI x), .int (bI (decide (y = 2)))] [.int v, .int v] (I, ρ) Q := by
  have hb := hC.2.1.1.bnd
  have hn7 := hC.2.1.2.2.2.2
  have h3 := hC.2.1.1.h3
  have h2 := hC.2.1.1.h2
  have hE0 := hE
  obtain ⟨ha, hi, hx, hx4, hy3, hy⟩ := hE
  apply w_L_told_352
  rw [icB_ne, decide_eq_false (fun q => q rfl), cond_false, gc_O hT.1, cond_true]
  refine T_entry hT h3 h2 ha hi (by omega) (by decide) fun I1 ρ1 hT1 => ?_
  have L1 := hC.l hT1
  rw [QI_i, show epV z a i 6 = if pt z i 7 = nI 2 ∧ pt z i 0 = nI 3 then pt z i 10 else nM from rfl, bI_eq0]
  by_cases y2 : y = 2
  · subst y2
    rw [decide_eq_true rfl, Bool.not_true, cond_false]
    have nx := fun {v : Int32} => t_384 (xs := xs) (Q := Q) (v := v) hC hE0 hT1 hN
    rw [decide_eq_true rfl] at nx
    by_cases x3 : x = 3
    · subst x3
      have hal : I1 (B + 1) (5 * i + 3) = pt z i 10 := (hC.g hT1).2.2.1.ali ha hi hy hx
      rw [icB_ne, decide_eq_false (fun q => q rfl), cond_false, nI_add, gl_1 L1 (by omega), cond_true, mI_def, idx_nI (by omega), hal, if_pos ⟨hy, hx⟩]
      exact nx
    · rw [icB_ne, decide_eq_true (not_nI (by omega) (by decide) x3), cond_true, if_neg (fun q => not_nI (by omega) (by decide) x3 (hx.symm.trans q.2))]
      exact nx
  · rw [decide_eq_false y2, Bool.not_false, cond_true, if_neg (fun q => not_nI (by omega) (by decide) y2 (hy.symm.trans q.1))]
    have := t_384 (xs := xs) (Q := Q) (v := nM) hC hE0 hT1 hN
    rw [decide_eq_false y2] at this
    exact this
theorem t_319 {i x y : Nat} {v : Int32} (hC : TC I0 ρ0 z B R M a b n) (hE : TE z a b i x y) (hT : Tg I0 ρ0 z s zs tl I ρ) (hN : TN xs I0 ρ0 Q z s zs tl B R M a n i x y) : Ev xs 118 319 [.ref 0, .ref B, .ref (B + 1), .ref (B + 2), .ref (B + 3), .ref (B + 4), .ref (B + 5), .ref R, .ref M, .int (wsF z n 0 nM (nI 0)), .int (nI i), .int (nI (i - a)), .int (nI (5 * i)), .int (nI x), .int (bI (decide (y = 2)))] [.int v, .int v] (I, ρ) Q := by
  have hb := hC.2.1.1.bnd
  have hn7 := hC.2.1.2.2.2.2
  have h3 := hC.2.1.1.h3
  have h2 := hC.2.1.1.h2
  have hE0 := hE
  obtain ⟨ha, hi, hx, hx4, hy3, hy⟩ := hE
  apply w_L_told_319
  rw [icB_eq, decide_eq_true rfl, cond_true, gc_O hT.1, cond_true]
  refine T_entry hT h3 h2 ha hi (by omega) (by decide) fun I1 ρ1 hT1 => ?_
  have L1 := hC.l hT1
  rw [QI_i, show epV z a i 5 = if pt z i 7 = nI 2 ∧ (pt z i 0 = nI 3 ∨ pt z i 0 = nI 4) then pt z i 9 else nM from rfl, bI_eq0]
  by_cases y2 : y = 2
  · subst y2
    rw [decide_eq_true rfl, Bool.not_true, cond_false]
    have nx := fun {v : Int32} => t_352 (xs := xs) (Q := Q) (v := v) hC hE0 hT1 hN
    rw [decide_eq_true rfl] at nx
    by_cases x2 : x ≤ 2
    · rw [icB_le (by omega) (by decide), decide_eq_true x2, cond_true, if_neg (fun q => by
        rcases q.2 with q | q
        · exact not_nI (by omega) (by decide) (by omega) (hx.symm.trans q)
        · exact not_nI (by omega) (by decide) (by omega) (hx.symm.trans q))]
      exact nx
    · have hk : pt z i 0 = nI 3 ∨ pt z i 0 = nI 4 := by
        have : x = 3 ∨ x = 4 := by omega
        rcases this with e | e
        · exact Or.inl (by rw [hx, e])
        · exact Or.inr (by rw [hx, e])
      have hcl : I1 (B + 1) (5 * i + 2) = pt z i 9 := (hC.g hT1).2.2.1.cell ha hi hy hk
      rw [icB_le (by omega) (by decide), decide_eq_false x2, cond_false, nI_add, gl_1 L1 (by omega), cond_true, mI_def, idx_nI (by omega), hcl, if_pos ⟨hy, hk⟩]
      exact nx
  · rw [decide_eq_false y2, Bool.not_false, cond_true, if_neg (fun q => not_nI (by omega) (by decide) y2 (hy.symm.trans q.1))]
    have := t_352 (xs := xs) (Q := Q) (v := nM) hC hE0 hT1 hN
    rw [decide_eq_false y2] at this
    exact this
theorem t_277 {i x y : Nat} {v : Int32} (hC : TC I0 ρ0 z B R M a b n) (hE : TE z a b i x y) (hT : Tg I0 ρ0 z s zs tl I ρ) (hN : TN xs I0 ρ0 Q z s zs tl B R M a n i x y) : Ev xs 118 277 [.ref 0, .ref B, .ref (B + 1), .ref (B + 2), .ref (B + 3), .ref (B + 4), .ref (B + 5), .ref R, .ref M, .int (wsF z n 0 nM (nI 0)), .int (nI i), .int (nI (i - a)), .int (nI (5 * i)), .int (nI x), .int (bI (decide (y = 2)))] [.int v, .int v] (I, ρ) Q := by
  have hb := hC.2.1.1.bnd
  have hn7 := hC.2.1.2.2.2.2
  have h3 := hC.2.1.1.h3
  have h2 := hC.2.1.1.h2
  have hE0 := hE
  obtain ⟨ha, hi, hx, hx4, hy3, hy⟩ := hE
  apply w_L_told_277
  rw [icB_ne, decide_eq_false (fun q => q rfl), cond_false, gc_O hT.1, cond_true]
  refine T_entry hT h3 h2 ha hi (by omega) (by decide) fun I1 ρ1 hT1 => ?_
  have L1 := hC.l hT1
  have nx := fun {v : Int32} => t_319 (xs := xs) (Q := Q) (v := v) hC hE0 hT1 hN
  rw [QI_i, show epV z a i 4 = oI (mkr z a i (pt z i 3)) from rfl]
  by_cases x0 : x ≤ 0
  · have hm := mkr_hs2 (a := a) hC.2.1.1 (by omega : i < n) (by unfold hs2; rw [hx, show x = 0 by omega]; rfl)
    rw [icB_le (by omega) (by decide), decide_eq_true x0, cond_true, hm, oI_none]
    exact nx
  · rw [icB_le (by omega) (by decide), decide_eq_false x0, cond_false]
    by_cases x3 : x = 3
    · subst x3
      have hm := mkr_hs2 (a := a) hC.2.1.1 (by omega : i < n) (by unfold hs2; rw [hx]; decide)
      rw [icB_eq, decide_eq_true rfl, cond_true, hm, oI_none]
      exact nx
    · have f3 : I1 B (8 * i + 3) = pt z i 3 := hC.row hT1 (by omega) (by decide)
      rw [icB_eq, decide_eq_false (not_nI (by omega) (by decide) x3), cond_false, pk_mul, nI_add, gl_0 L1 (by omega), cond_true, mI_def, idx_nI (by omega), f3, I_name L1 (hC.g hT1).n (by omega), QI_i]
      exact nx
theorem t_241 {i x y : Nat} {v : Int32} (hC : TC I0 ρ0 z B R M a b n) (hE : TE z a b i x y) (hT : Tg I0 ρ0 z s zs tl I ρ) (hN : TN xs I0 ρ0 Q z s zs tl B R M a n i x y) : Ev xs 118 241 [.ref 0, .ref B, .ref (B + 1), .ref (B + 2), .ref (B + 3), .ref (B + 4), .ref (B + 5), .ref R, .ref M, .int (wsF z n 0 nM (nI 0)), .int (nI i), .int (nI (i - a)), .int (nI (5 * i)), .int (nI x), .int (bI (decide (y = 2)))] [.int v, .int v] (I, ρ) Q := by
  have hb := hC.2.1.1.bnd
  have hn7 := hC.2.1.2.2.2.2
  have h3 := hC.2.1.1.h3
  have h2 := hC.2.1.1.h2
  have hE0 := hE
  obtain ⟨ha, hi, hx, hx4, hy3, hy⟩ := hE
  apply w_L_told_241
  rw [icB_ne, decide_eq_false (fun q => q rfl), cond_false, gc_O hT.1, cond_true]
  refine T_entry hT h3 h2 ha hi (by omega) (by decide) fun I1 ρ1 hT1 => ?_
  have L1 := hC.l hT1
  have nx := fun {v : Int32} => t_277 (xs := xs) (Q := Q) (v := v) hC hE0 hT1 hN
  rw [QI_i, show epV z a i 3 = oI (mkr z a i (pt z i 2)) from rfl]
  by_cases x0 : x ≤ 0
  · have hm := mkr_hs1 (a := a) hC.2.1.1 (by omega : i < n) (by unfold hs1; rw [hx, show x = 0 by omega]; decide)
    rw [icB_le (by omega) (by decide), decide_eq_true x0, cond_true, hm, oI_none]
    exact nx
  · have f2 : I1 B (8 * i + 2) = pt z i 2 := hC.row hT1 (by omega) (by decide)
    rw [icB_le (by omega) (by decide), decide_eq_false x0, cond_false, pk_mul, nI_add, gl_0 L1 (by omega), cond_true, mI_def, idx_nI (by omega), f2, I_name L1 (hC.g hT1).n (by omega), QI_i]
    exact nx
theorem t_188 {i x y : Nat} (hC : TC I0 ρ0 z B R M a b n) (hE : TE z a b i x y) (hT : Tg I0 ρ0 z s zs tl I ρ) (hN : TN xs I0 ρ0 Q z s zs tl B R M a n i x y) : Ev xs 118 188 [.ref 0, .ref B, .ref (B + 1), .ref (B + 2), .ref (B + 3), .ref (B + 4), .ref (B + 5), .ref R, .ref M, .int (wsF z n 0 nM (nI 0)), .int (nI i), .int (nI (i - a)), .int (nI (5 * i)), .int (nI x), v14] [.int (bI (decide (y = 2)))] (I, ρ) Q := by
  have hb := hC.2.1.1.bnd
  have hn7 := hC.2.1.2.2.2.2
  have h3 := hC.2.1.1.h3
  have h2 := hC.2.1.1.h2
  have hE0 := hE
  obtain ⟨ha, hi, hx, hx4, hy3, hy⟩ := hE
  apply w_L_told_188
  rw [gc_O hT.1, cond_true]
  refine T_entry hT h3 h2 ha hi (by omega) (by decide) fun I1 ρ1 hT1 => ?_
  rw [QI_i, show epV z a i 0 = nI i from rfl, icB_ne, decide_eq_false (fun q => q rfl), cond_false, gc_O hT1.1, cond_true]
  refine T_entry hT1 h3 h2 ha hi (by omega) (by decide) fun I2 ρ2 hT2 => ?_
  have L2 := hC.l hT2
  have e7 : I2 (B + 1) (5 * i) = pt z i 7 := (hC.g hT2).2.2.1.st ha hi
  rw [QI_i, show epV z a i 1 = pt z i 7 from rfl, gl_1 L2 (by omega), cond_true, mI_def, idx_nI (by omega), e7, icB_ne, decide_eq_false (fun q => q rfl), cond_false, gc_O hT2.1, cond_true]
  refine T_entry hT2 h3 h2 ha hi (by omega) (by decide) fun I3 ρ3 hT3 => ?_
  have L3 := hC.l hT3
  have e7' : I3 (B + 1) (5 * i) = pt z i 7 := (hC.g hT3).2.2.1.st ha hi
  have nx := fun {v : Int32} => t_241 (xs := xs) (Q := Q) (v := v) hC hE0 hT3 hN
  rw [QI_i, show epV z a i 2 = if pt z i 7 = nI 1 then pt z i 8 else nI 0 from rfl, gl_1 L3 (by omega), cond_true, mI_def]
  try rw [idx_nI (by omega)]
  rw [e7', hy]
  by_cases y1 : y = 1
  · subst y1
    have e8 : I3 (B + 1) (5 * i + 1) = pt z i 8 := (hC.g hT3).2.2.1.left ha hi hy
    rw [icB_ne, decide_eq_false (fun q => q rfl), cond_false, nI_add, gl_1 L3 (by omega), cond_true, mI_def, idx_nI (by omega), e8, if_pos rfl]
    exact nx
  · rw [icB_ne, decide_eq_true (not_nI (by omega) (by decide) y1), cond_true, if_neg (not_nI (by omega) (by decide) y1)]
    exact nx
theorem t_142 (hC : TC I0 ρ0 z B R M a b n) (hQ : ∀ I' ρ', Tg I0 ρ0 z s zs tl I' ρ' → Q (.inl (some (.int (nI 1)))) (I', ρ')) : ∀ {e i : Nat} {I : In2} {ρ : Rh} {v11 v12 v13 v14 : Value}, Tg I0 ρ0 z s zs tl I ρ → i + e = b → a ≤ i → Ev xs 118 142 [.ref 0, .ref B, .ref (B + 1), .ref (B + 2), .ref (B + 3), .ref (B + 4), .ref (B + 5), .ref R, .ref M, .int (wsF z n 0 nM (nI 0)), .int (nI i), v11, v12, v13, v14] [] (I, ρ) Q := by
  have hb := hC.2.1.1.bnd
  have hn7 := hC.2.1.2.2.2.2
  intro e
  induction e with
  | zero =>
    intro i I ρ v11 v12 v13 v14 hT hi ha
    obtain rfl : i = b := hi
    have L := hC.l hT
    have c2 := (hC.c hT (k := 2) (by decide)).trans hC.2.1.1.h2
    apply w_L_told_142
    rw [gl_5 L (by decide), cond_true, mI_def, idx_nI (by decide), c2, icB_ge (by omega) (by omega), decide_eq_true (Nat.le_refl i), cond_true]
    exact t_465 hC hQ (e := 8) (k := 0) hT (by decide)
  | succ e ih =>
    intro i I ρ v11 v12 v13 v14 hT hi ha
    have hib : ¬ b ≤ i := by omega
    have L := hC.l hT
    have c2 := (hC.c hT (k := 2) (by decide)).trans hC.2.1.1.h2
    have c3 := (hC.c hT (k := 3) (by decide)).trans hC.2.1.1.h3
    obtain ⟨x, hx4, hx⟩ := (hC.2.1.1.row (i := i) (by omega)).1.knd
    have f0 : I B (8 * i) = nI x := (hC.row hT (i := i) (f := 0) (by omega) (by decide)).trans hx
    obtain ⟨y, hy3, hy⟩ : ∃ y, y < 3 ∧ pt z i 7 = nI y := by
      rcases hC.2.2.1 i ha (by omega) with e | ⟨e, _⟩ | ⟨e, _⟩
      · exact ⟨0, by decide, e⟩
      · exact ⟨1, by decide, e⟩
      · exact ⟨2, by decide, e⟩
    have e7 : I (B + 1) (5 * i) = nI y := ((hC.g hT).2.2.1.st ha (by omega)).trans hy
    have hN : TN xs I0 ρ0 Q z s zs tl B R M a n i x y := fun I' ρ' hT' => ih hT' (by omega) (by omega)
    have hE : TE z a b i x y := ⟨ha, by omega, hx, hx4, hy3, hy⟩
    have hsub : nI i - nI a = nI (i - a) := pk_sub ha
    have nx := t_188 (xs := xs) (Q := Q) (v14 := v14) hC hE hT hN
    apply w_L_told_142
    simp (disch := omega) only [mI_def, idx_nI, gl_5 L, gl_0 L, gl_1 L, cond_true, cond_false, c2, c3, icB_ge, hib, decide_false, pk_mul, f0, e7, hsub, icB_ne, nI_eqI]
    by_cases y2 : y = 2
    · subst y2
      simp only [not_true_eq_false, decide_false, cond_false]
      exact nx
    · simp only [y2, not_false_eq_true, decide_true, cond_true]
      rw [decide_eq_false y2] at nx
      exact nx
/-! instructions, and the load that is replayed most -/
def mst (z : Zt) (w : Option Nat) : Int32 := match w with | none => nI 0 | some k => pt z k 6
theorem t_41 (hC : TC I0 ρ0 z B R M a b n) (hQ : ∀ I' ρ', Tg I0 ρ0 z s zs tl I' ρ' → Q (.inl (some (.int (nI 1)))) (I', ρ')) : ∀ {e i : Nat} {w : Option Nat} {I : In2} {ρ : Rh} {v11 v12 v13 v14 : Value}, Tg I0 ρ0 z s zs tl I ρ → i + e = n → (∀ k, w = some k → k < i) → wsF z e i (oI w) (mst z w) = wsF z n 0 nM (nI 0) → Ev xs 118 41 [.ref 0, .ref B, .ref (B + 1), .ref (B + 2), .ref (B + 3), .ref (B + 4), .ref (B + 5), .ref R, .ref M, .int (oI w), .int (nI i), v11, v12, v13, v14] [] (I, ρ) Q := by
  have hb := hC.2.1.1.bnd
  have hn7 := hC.2.1.2.2.2.2
  intro e
  induction e with
  | zero =>
    intro i w I ρ v11 v12 v13 v14 hT hi hw hws
    obtain rfl : i = n := hi
    have L := hC.l hT
    have c1 := (hC.c hT (k := 1) (by decide)).trans hC.2.1.1.h1
    have c3 := (hC.c hT (k := 3) (by decide)).trans hC.2.1.1.h3
    apply w_L_told_41
    simp (disch := omega) only [mI_def, idx_nI, gl_5 L, cond_true, c1, c3, icB_ge, Nat.le_refl, decide_true]
    have hws : oI w = wsF z i 0 nM (nI 0) := hws
    rw [hws]
    exact t_142 hC hQ (e := b - a) (i := a) hT (by omega) (Nat.le_refl a)
  | succ e ih =>
    intro i w I ρ v11 v12 v13 v14 hT hi hw hws
    have hin : ¬ n ≤ i := by omega
    have L := hC.l hT
    have c1 := (hC.c hT (k := 1) (by decide)).trans hC.2.1.1.h1
    have hnN : inN z = n := by unfold inN; rw [hC.2.1.1.h1, idx_nI (by omega)]
    -- the parts
    have parts : ∀ {e2 k : Nat} {I : In2} {ρ : Rh}, Tg I0 ρ0 z s zs tl I ρ → k + e2 = 7 → Ev xs 118 53 [.ref 0, .ref B, .ref (B + 1), .ref (B + 2), .ref (B + 3), .ref (B + 4), .ref (B + 5), .ref R, .ref M, .int (oI w), .int (nI i), .int (nI k), v12, v13, v14] [] (I, ρ) Q := by
      intro e2
      induction e2 with
      | zero =>
        intro k I ρ hT hk
        obtain rfl : k = 7 := hk
        have L := hC.l hT
        have f6 : I B (8 * i + 6) = pt z i 6 := hC.row hT (by omega) (by decide)
        have hst : wsF z (e + 1) i (oI w) (mst z w) = if icB .le (pt z i 6) (mst z w) = true then wsF z e (i + 1) (oI w) (mst z w) else wsF z e (i + 1) (nI i) (pt z i 6) := rfl
        rw [hst] at hws
        apply w_L_told_53
        simp (disch := omega) only [mI_def, idx_nI, gl_0 L, cond_true, pk_mul, nI_add, f6, icB_ge, Nat.le_refl, decide_true]
        cases hwe : w with
        | none =>
          rw [hwe, show mst z none = nI 0 from rfl] at hws
          rw [oI_none, icB_ge_M (by decide), cond_false]
          cases hle : icB .le (pt z i 6) (nI 0)
          · rw [hle, if_neg (by decide)] at hws
            rw [cond_false]
            exact ih (w := some i) hT (by omega) (fun k hk => by cases hk; omega) hws
          · rw [hle, if_pos rfl] at hws
            rw [cond_true]
            exact ih (w := none) hT (by omega) (fun k hk => by cases hk) hws
        | some j =>
          have hj := hw j hwe
          rw [hwe, show mst z (some j) = pt z j 6 from rfl] at hws
          have g6 : I B (8 * j + 6) = pt z j 6 := hC.row hT (by omega) (by decide)
          simp (disch := omega) only [oI_some, icB_ge, Nat.zero_le, decide_true, cond_true, mI_def, idx_nI, gl_0 L, pk_mul, nI_add, g6]
          cases hle : icB .le (pt z i 6) (pt z j 6)
          · rw [hle, if_neg (by decide)] at hws
            rw [cond_false]
            exact ih (w := some i) hT (by omega) (fun k hk => by cases hk; omega) hws
          · rw [hle, if_pos rfl] at hws
            rw [cond_true]
            exact ih (w := some j) hT (by omega) (fun k hk => by cases hk; omega) hws
      | succ e2 ih2 =>
        intro k I ρ hT hk
        have hk7 : ¬ 7 ≤ k := by omega
        apply w_L_told_53
        rw [icB_ge (by omega) (by decide), decide_eq_false hk7, cond_false, gc_O hT.1, cond_true]
        refine T_instruction hT (by rw [hnN]; omega) (by rw [hnN]; omega) (by omega) fun I1 ρ1 hT1 => ?_
        have L1 := hC.l hT1
        have fk : I1 B (8 * i + k) = pt z i k := hC.row hT1 (by omega) (by omega)
        rw [QI_i]
        simp (disch := omega) only [mI_def, idx_nI, gl_0 L1, cond_true, pk_mul, nI_add, fk, icB_eq, decide_true]
        exact ih2 hT1 (by omega)
    apply w_L_told_41
    simp (disch := omega) only [mI_def, idx_nI, gl_5 L, cond_true, cond_false, c1, icB_ge, hin, decide_false]
    exact parts (e2 := 7) (k := 0) hT (by decide)
end Told
