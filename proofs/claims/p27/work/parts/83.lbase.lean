/-! the law's machine: six arrays at a base -/
def LB (B : Nat) (ρ : Rh) : Prop := 245 ≤ B ∧ B + 6 ≤ ρ.2.2.1 ∧ ∀ j, j < 6 → shp (B + j) = shpT j
def pl (I : In2) (B : Nat) (d : In2) : In2 := fun a k => if B ≤ a ∧ a < B + 6 then d (a - B) k else I a k
def bl (I : In2) (B : Nat) : In2 := fun o k => I (B + o) k
theorem up2_pl {I d : In2} {B o k : Nat} {v : Int32} (ho : o < 6) : up2 (pl I B d) (B + o) k v = pl I B (up2 d o k v) := by
  funext b j
  unfold up2 pl
  by_cases h : b = B + o
  · subst h; simp [ho]
  · by_cases hb : B ≤ b ∧ b < B + 6
    · have : b - B ≠ o := by omega
      simp [h, hb, this]
    · simp [h, hb]
theorem up2_pl0 {I d : In2} {B k : Nat} {v : Int32} : up2 (pl I B d) B k v = pl I B (up2 d 0 k v) := up2_pl (o := 0) (by decide)
theorem pl_at {I d : In2} {B o k : Nat} (ho : o < 6) : pl I B d (B + o) k = d o k := by
  unfold pl; rw [if_pos (by omega), Nat.add_sub_cancel_left]
theorem pl_at0 {I d : In2} {B k : Nat} : pl I B d B k = d 0 k := pl_at (o := 0) (by decide)
theorem pl_ne {I d : In2} {B a k : Nat} (h : ¬ (B ≤ a ∧ a < B + 6)) : pl I B d a k = I a k := if_neg h
theorem pl_pl {I d d' : In2} {B : Nat} : pl (pl I B d) B d' = pl I B d' := by
  funext b j; unfold pl; split <;> rfl
theorem pl_self {I : In2} {B : Nat} : pl I B (bl I B) = I := by
  funext b j; unfold pl bl; split
  · rename_i h; rw [Nat.add_sub_cancel' h.1]
  · rfl
theorem bl_pl {I d : In2} {B o k : Nat} (ho : o < 6) : bl (pl I B d) B o k = d o k := pl_at ho
theorem gl_0 {I : In2} {ρ : Rh} {B k : Nat} (hL : LB B ρ) (hk : k < 64) : gA (I, ρ) B 6 (nI k) = true := gA_ge (n := 64) (by have := hL.2.1; omega) (hL.2.2 0 (by decide)) (by decide) hk
theorem gl_1 {I : In2} {ρ : Rh} {B k : Nat} (hL : LB B ρ) (hk : k < 40) : gA (I, ρ) (B + 1) 6 (nI k) = true := gA_ge (n := 40) (by have := hL.2.1; omega) (hL.2.2 1 (by decide)) (by decide) hk
theorem gl_2 {I : In2} {ρ : Rh} {B k : Nat} (hL : LB B ρ) (hk : k < 8) : gA (I, ρ) (B + 2) 6 (nI k) = true := gA_ge (n := 8) (by have := hL.2.1; omega) (hL.2.2 2 (by decide)) (by decide) hk
theorem gl_3 {I : In2} {ρ : Rh} {B k : Nat} (hL : LB B ρ) (hk : k < 16) : gA (I, ρ) (B + 3) 6 (nI k) = true := gA_ge (n := 16) (by have := hL.2.1; omega) (hL.2.2 3 (by decide)) (by decide) hk
theorem gl_4 {I : In2} {ρ : Rh} {B k : Nat} (hL : LB B ρ) (hk : k < 3) : gA (I, ρ) (B + 4) 6 (nI k) = true := gA_ge (n := 3) (by have := hL.2.1; omega) (hL.2.2 4 (by decide)) (by decide) hk
theorem gl_5 {I : In2} {ρ : Rh} {B k : Nat} (hL : LB B ρ) (hk : k < 9) : gA (I, ρ) (B + 5) 6 (nI k) = true := gA_ge (n := 9) (by have := hL.2.1; omega) (hL.2.2 5 (by decide)) (by decide) hk
/-- one less, -1 below 0 -/
def pr (j : Nat) : Int32 := match j with | 0 => nM | j + 1 => nI j
theorem pr_sub (j : Nat) : nI j - nI 1 = pr j := by
  cases j with
  | zero => exact nI_M
  | succ j => exact nI_sub1 j
theorem pr_add (j : Nat) : nI j + nM = pr j := by
  cases j with
  | zero => exact nI_M'
  | succ j => exact nI_sub1' j
theorem pr_1 {j : Nat} : pr (j + 1) = nI j := rfl
theorem pr_0 : pr 0 = nM := rfl
/-- an entry of the law's beside the reference's row -/
def Lrl (w zr : Nat → Int32) : Prop := w 0 = zr 7 ∧ (zr 7 = nI 1 → w 1 = zr 8) ∧ (zr 7 = nI 2 → VV (w 4) (zr 11) ∧ ((zr 0 = nI 3 ∨ zr 0 = nI 4) → w 2 = zr 9) ∧ (zr 0 = nI 3 → w 3 = zr 10))
def LR (d : In2) (z : Zt) (a b n : Nat) : Prop := (∀ k, k < 9 → d 5 k = z k) ∧ (∀ k, k < 3 → d 4 k = z (9 + k)) ∧ (∀ k, k < 8 → VV (d 2 k) (z (12 + k))) ∧ (∀ k, k < 16 → VV (d 3 k) (z (20 + k))) ∧
  (∀ i f, i < n → f < 7 → d 0 (8 * i + f) = pt z i f) ∧ (∀ i, a ≤ i → i < b → Lrl (fun f => d 1 (5 * i + f)) (pt z i))
/-- what a program of the law's has besides: numbers of whole values, small offsets -/
def Lp (z : Zt) (n : Nat) : Prop := ∀ i, i < n → pt z i 0 = nI 0 → ∃ v : Int32, -24 ≤ v.toInt ∧ v.toInt ≤ 24 ∧ pt z i 4 = Int32.ofInt (4 * v.toInt)
def LG (d : In2) (z : Zt) (a b n : Nat) : Prop := Inv0 z a b n ∧ Rdy z a b ∧ LR d z a b n ∧ Lp z n ∧ n ≤ 7
/-- what naming needs -/
def LN (d : In2) (z : Zt) (a n : Nat) : Prop := d 5 3 = nI a ∧ (∀ i f, i < n → f < 7 → d 0 (8 * i + f) = pt z i f) ∧ a ≤ n ∧ n ≤ 7
theorem LR.c {d : In2} {z : Zt} {a b n : Nat} (h : LR d z a b n) {k : Nat} (hk : k < 9) : d 5 k = z k := h.1 k hk
theorem LR.s {d : In2} {z : Zt} {a b n : Nat} (h : LR d z a b n) {k : Nat} (hk : k < 3) : d 4 k = z (9 + k) := h.2.1 k hk
theorem LR.reg {d : In2} {z : Zt} {a b n : Nat} (h : LR d z a b n) {k : Nat} (hk : k < 8) : VV (d 2 k) (z (12 + k)) := h.2.2.1 k hk
theorem LR.mem {d : In2} {z : Zt} {a b n : Nat} (h : LR d z a b n) {k : Nat} (hk : k < 16) : VV (d 3 k) (z (20 + k)) := h.2.2.2.1 k hk
theorem LR.row {d : In2} {z : Zt} {a b n : Nat} (h : LR d z a b n) {i f : Nat} (hi : i < n) (hf : f < 7) : d 0 (8 * i + f) = pt z i f := h.2.2.2.2.1 i f hi hf
theorem LR.row0 {d : In2} {z : Zt} {a b n : Nat} (h : LR d z a b n) {i : Nat} (hi : i < n) : d 0 (8 * i) = pt z i 0 := h.2.2.2.2.1 i 0 hi (by decide)
theorem LR.ent {d : In2} {z : Zt} {a b n : Nat} (h : LR d z a b n) {i : Nat} (h1 : a ≤ i) (h2 : i < b) : Lrl (fun f => d 1 (5 * i + f)) (pt z i) := h.2.2.2.2.2 i h1 h2
theorem LR.st {d : In2} {z : Zt} {a b n : Nat} (h : LR d z a b n) {i : Nat} (h1 : a ≤ i) (h2 : i < b) : d 1 (5 * i) = pt z i 7 := (h.ent h1 h2).1
theorem LR.left {d : In2} {z : Zt} {a b n : Nat} (h : LR d z a b n) {i : Nat} (h1 : a ≤ i) (h2 : i < b) (h7 : pt z i 7 = nI 1) : d 1 (5 * i + 1) = pt z i 8 := (h.ent h1 h2).2.1 h7
theorem LR.val {d : In2} {z : Zt} {a b n : Nat} (h : LR d z a b n) {i : Nat} (h1 : a ≤ i) (h2 : i < b) (h7 : pt z i 7 = nI 2) : VV (d 1 (5 * i + 4)) (pt z i 11) := ((h.ent h1 h2).2.2 h7).1
theorem LR.cell {d : In2} {z : Zt} {a b n : Nat} (h : LR d z a b n) {i : Nat} (h1 : a ≤ i) (h2 : i < b) (h7 : pt z i 7 = nI 2) (hk : pt z i 0 = nI 3 ∨ pt z i 0 = nI 4) : d 1 (5 * i + 2) = pt z i 9 := ((h.ent h1 h2).2.2 h7).2.1 hk
theorem LR.ali {d : In2} {z : Zt} {a b n : Nat} (h : LR d z a b n) {i : Nat} (h1 : a ≤ i) (h2 : i < b) (h7 : pt z i 7 = nI 2) (hk : pt z i 0 = nI 3) : d 1 (5 * i + 3) = pt z i 10 := ((h.ent h1 h2).2.2 h7).2.2 hk
/-! names, readiness, values -/
theorem l_name5 {xs : Scr} {I : In2} {ρ : Rh} {B : Nat} {d : In2} (hL : LB B ρ) {z : Zt} {a n : Nat} (hN : LN d z a n) {i0 r : Int32} : ∀ {j : Nat} {Q : Post}, j ≤ n → Q (.inl (some (.int (oI (lat (mkP z r) a j))))) (pl I B d, ρ) → Ev xs 109 5 [.int i0, .int r, .ref B, .ref (B + 5), .int (pr j)] [] (pl I B d, ρ) Q := by
  obtain ⟨h5, hR, ha, hn⟩ := hN
  intro j
  induction j with
  | zero =>
    intro Q _ h
    apply w_L_name_5
    simp (maxSteps := 1000000) (disch := omega) only [↓QI_i, ↓QV_v, ↓QA_a, ↓QF_f, ↓QD_d, ↓QL_l, ↓Bool.cond_eq_ite, ↓reduceIte, decide_eq_true_eq, Bool.not_eq_true', Bool.true_and, Bool.and_true, Bool.and_self, gR_some, Option.getD_some, mI_def, setI_def, mR_def, not_false_eq_true, not_true_eq_false, Bool.false_eq_true, idx_nI, nI_add, pk_mul, icB_lt, icB_gt, icB_le, icB_ge, icB_eq, icB_ne, bI_ne, nI_eqI, gl_0 hL, gl_1 hL, gl_2 hL, gl_3 hL, gl_4 hL, gl_5 hL, up2_pl, up2_pl0, pl_at, pl_at0, h5, pr_0, icB_lt_M]
    exact h
  | succ j ih =>
    intro Q hj h
    have e0 : d 0 (8 * j) = pt z j 0 := hR j 0 (by omega) (by decide)
    have e1 : d 0 (8 * j + 1) = pt z j 1 := hR j 1 (by omega) (by decide)
    have hl : lat (mkP z r) a (j + 1) = if a ≤ j then (if mkP z r j = true then some j else lat (mkP z r) a j) else none := rfl
    rw [hl] at h
    apply w_L_name_5
    by_cases ha' : a ≤ j
    · have hja : ¬ j < a := by omega
      rw [if_pos ha'] at h
      by_cases hk : pt z j 0 = nI 4
      · have hm : mkP z r j = false := by unfold mkP; rw [hk]; rfl
        rw [hm] at h
        simp (maxSteps := 1000000) (disch := omega) only [↓QI_i, ↓QV_v, ↓QA_a, ↓QF_f, ↓QD_d, ↓QL_l, ↓Bool.cond_eq_ite, ↓reduceIte, decide_eq_true_eq, Bool.not_eq_true', Bool.true_and, Bool.and_true, Bool.and_self, gR_some, Option.getD_some, mI_def, setI_def, mR_def, not_false_eq_true, not_true_eq_false, Bool.false_eq_true, idx_nI, nI_add, pk_mul, icB_lt, icB_gt, icB_le, icB_ge, icB_eq, icB_ne, bI_ne, nI_eqI, gl_0 hL, gl_1 hL, gl_2 hL, gl_3 hL, gl_4 hL, gl_5 hL, up2_pl, up2_pl0, pl_at, pl_at0, h5, pr_1, hja, e0, hk, pr_add]
        exact ih (by omega) h
      · by_cases hr : pt z j 1 = r
        · have hm : mkP z r j = true := by unfold mkP; rw [hr]; simp [hk]
          rw [hm] at h
          simp (maxSteps := 1000000) (disch := omega) only [↓QI_i, ↓QV_v, ↓QA_a, ↓QF_f, ↓QD_d, ↓QL_l, ↓Bool.cond_eq_ite, ↓reduceIte, decide_eq_true_eq, Bool.not_eq_true', Bool.true_and, Bool.and_true, Bool.and_self, gR_some, Option.getD_some, mI_def, setI_def, mR_def, not_false_eq_true, not_true_eq_false, Bool.false_eq_true, idx_nI, nI_add, pk_mul, icB_lt, icB_gt, icB_le, icB_ge, icB_eq, icB_ne, bI_ne, nI_eqI, gl_0 hL, gl_1 hL, gl_2 hL, gl_3 hL, gl_4 hL, gl_5 hL, up2_pl, up2_pl0, pl_at, pl_at0, h5, pr_1, hja, e0, e1, hk, hr, pr_add]
          exact h
        · have hm : mkP z r j = false := by unfold mkP; simp [hr]
          rw [hm] at h
          simp (maxSteps := 1000000) (disch := omega) only [↓QI_i, ↓QV_v, ↓QA_a, ↓QF_f, ↓QD_d, ↓QL_l, ↓Bool.cond_eq_ite, ↓reduceIte, decide_eq_true_eq, Bool.not_eq_true', Bool.true_and, Bool.and_true, Bool.and_self, gR_some, Option.getD_some, mI_def, setI_def, mR_def, not_false_eq_true, not_true_eq_false, Bool.false_eq_true, idx_nI, nI_add, pk_mul, icB_lt, icB_gt, icB_le, icB_ge, icB_eq, icB_ne, bI_ne, nI_eqI, gl_0 hL, gl_1 hL, gl_2 hL, gl_3 hL, gl_4 hL, gl_5 hL, up2_pl, up2_pl0, pl_at, pl_at0, h5, pr_1, hja, e0, e1, hk, hr, pr_add]
          exact ih (by omega) h
    · have hja : j < a := by omega
      rw [if_neg ha'] at h
      simp (maxSteps := 1000000) (disch := omega) only [↓QI_i, ↓QV_v, ↓QA_a, ↓QF_f, ↓QD_d, ↓QL_l, ↓Bool.cond_eq_ite, ↓reduceIte, decide_eq_true_eq, Bool.not_eq_true', Bool.true_and, Bool.and_true, Bool.and_self, gR_some, Option.getD_some, mI_def, setI_def, mR_def, not_false_eq_true, not_true_eq_false, Bool.false_eq_true, idx_nI, nI_add, pk_mul, icB_lt, icB_gt, icB_le, icB_ge, icB_eq, icB_ne, bI_ne, nI_eqI, gl_0 hL, gl_1 hL, gl_2 hL, gl_3 hL, gl_4 hL, gl_5 hL, up2_pl, up2_pl0, pl_at, pl_at0, h5, pr_1, hja]
      exact h
theorem LG.n {d : In2} {z : Zt} {a b n : Nat} (h : LG d z a b n) : LN d z a n := ⟨(h.2.2.1.c (by decide)).trans h.1.h3, fun _ _ hi hf => h.2.2.1.row hi hf, by have := h.1.bnd; omega, h.2.2.2.2⟩
theorem l_name {xs : Scr} {I : In2} {ρ : Rh} {Q : Post} {B : Nat} {d : In2} (hL : LB B ρ) {z : Zt} {a n i : Nat} {r : Int32} (hN : LN d z a n) (hi : i ≤ n) : Ev xs 109 0 [.int (nI i), .int r, .ref B, .ref (B + 5), .null] [] (pl I B d, ρ) Q ↔ Q (.inl (some (.int (oI (mkr z a i r))))) (pl I B d, ρ) := by
  apply Ev.dt; intro Q h
  apply w_L_name_0
  rw [pr_sub]
  exact l_name5 hL hN hi h
theorem oI_ge {o : Option Nat} (h : ∀ k, o = some k → k < 2147483648) : icB .ge (oI o) (nI 0) = o.isSome := by
  cases o with
  | none => exact icB_ge_M (by decide)
  | some k => rw [oI_some, icB_ge (h k rfl) (by decide), decide_eq_true (Nat.zero_le k)]; rfl
theorem oI_lt {o : Option Nat} (h : ∀ k, o = some k → k < 2147483648) : icB .lt (oI o) (nI 0) = o.isNone := by
  cases o with
  | none => exact icB_lt_M (by decide)
  | some k => rw [oI_some, icB_lt (h k rfl) (by decide), decide_eq_false (Nat.not_lt_zero k)]; rfl
theorem l_ready {xs : Scr} {I : In2} {ρ : Rh} {Q : Post} {B : Nat} {d : In2} (hL : LB B ρ) {z : Zt} {a b n i : Nat} {r : Int32} (hG : LG d z a b n) (hi : i ≤ b) : Ev xs 110 0 [.int (nI i), .int r, .ref B, .ref (B + 1), .ref (B + 5)] [] (pl I B d, ρ) Q ↔ Q (.inl (some (.int (bI (rdy z a i r))))) (pl I B d, ρ) := by
  have hb := hG.1.bnd
  have hn7 := hG.2.2.2.2
  apply Ev.dt; intro Q h
  apply w_L_ready_0
  rw [l_name hL hG.n (by omega), QI_i]
  unfold rdy at h
  cases hm : mkr z a i r with
  | none =>
    rw [hm] at h
    rw [oI_none, icB_lt_M (by decide), cond_true]
    exact h
  | some k =>
    rw [hm] at h
    obtain ⟨h1, h2, -, -⟩ := lat_some hm
    have e := hG.2.2.1.st h1 (by omega : k < b)
    rw [oI_some, icB_lt (by omega) (by decide), decide_eq_false (Nat.not_lt_zero k), cond_false, l_name hL hG.n (by omega), QI_i, hm, oI_some]
    by_cases h7 : pt z k 7 = nI 2
    · simp (maxSteps := 1000000) (disch := omega) only [↓QI_i, ↓QV_v, ↓QA_a, ↓QF_f, ↓QD_d, ↓QL_l, ↓Bool.cond_eq_ite, ↓reduceIte, decide_eq_true_eq, Bool.not_eq_true', Bool.true_and, Bool.and_true, Bool.and_self, gR_some, Option.getD_some, mI_def, setI_def, mR_def, not_false_eq_true, not_true_eq_false, Bool.false_eq_true, idx_nI, nI_add, pk_mul, icB_lt, icB_gt, icB_le, icB_ge, icB_eq, icB_ne, bI_ne, nI_eqI, gl_0 hL, gl_1 hL, gl_2 hL, gl_3 hL, gl_4 hL, gl_5 hL, up2_pl, up2_pl0, pl_at, pl_at0, e, h7]
      dsimp only at h
      rw [h7, decide_eq_true rfl, bI_t] at h; exact h
    · simp (maxSteps := 1000000) (disch := omega) only [↓QI_i, ↓QV_v, ↓QA_a, ↓QF_f, ↓QD_d, ↓QL_l, ↓Bool.cond_eq_ite, ↓reduceIte, decide_eq_true_eq, Bool.not_eq_true', Bool.true_and, Bool.and_true, Bool.and_self, gR_some, Option.getD_some, mI_def, setI_def, mR_def, not_false_eq_true, not_true_eq_false, Bool.false_eq_true, idx_nI, nI_add, pk_mul, icB_lt, icB_gt, icB_le, icB_ge, icB_eq, icB_ne, bI_ne, nI_eqI, gl_0 hL, gl_1 hL, gl_2 hL, gl_3 hL, gl_4 hL, gl_5 hL, up2_pl, up2_pl0, pl_at, pl_at0, e, h7]
      dsimp only at h
      rw [decide_eq_false h7, bI_f] at h; exact h
/-- the law's own value of an operand -/
def lvO (d : In2) (z : Zt) (a i : Nat) (r : Int32) : Int32 := match mkr z a i r with | none => d 2 (idx r) | some k => d 1 (5 * k + 4)
theorem l_value {xs : Scr} {I : In2} {ρ : Rh} {Q : Post} {B : Nat} {d : In2} (hL : LB B ρ) {z : Zt} {a n i q : Nat} (hN : LN d z a n) (hi : i ≤ n) (hq : q < 8) : Ev xs 111 0 [.int (nI i), .int (nI q), .ref B, .ref (B + 1), .ref (B + 2), .ref (B + 5)] [] (pl I B d, ρ) Q ↔ Q (.inl (some (.int (lvO d z a i (nI q))))) (pl I B d, ρ) := by
  have hn7 := hN.2.2.2
  apply Ev.dt; intro Q h
  apply w_L_value_0
  rw [l_name hL hN (by omega), QI_i]
  unfold lvO at h
  cases hm : mkr z a i (nI q) with
  | none =>
    rw [hm] at h
    dsimp only at h
    rw [idx_nI (by omega)] at h
    rw [oI_none, icB_ge_M (by decide), cond_false]
    simp (maxSteps := 1000000) (disch := omega) only [↓QI_i, ↓QV_v, ↓QA_a, ↓QF_f, ↓QD_d, ↓QL_l, ↓Bool.cond_eq_ite, ↓reduceIte, decide_eq_true_eq, Bool.not_eq_true', Bool.true_and, Bool.and_true, Bool.and_self, gR_some, Option.getD_some, mI_def, setI_def, mR_def, not_false_eq_true, not_true_eq_false, Bool.false_eq_true, idx_nI, nI_add, pk_mul, icB_lt, icB_gt, icB_le, icB_ge, icB_eq, icB_ne, bI_ne, nI_eqI, gl_0 hL, gl_1 hL, gl_2 hL, gl_3 hL, gl_4 hL, gl_5 hL, up2_pl, up2_pl0, pl_at, pl_at0]
    exact h
  | some k =>
    rw [hm] at h
    obtain ⟨h1, h2, -, -⟩ := lat_some hm
    rw [oI_some, icB_ge (by omega) (by decide), decide_eq_true (Nat.zero_le k), cond_true, l_name hL hN (by omega), QI_i, hm, oI_some]
    simp (maxSteps := 1000000) (disch := omega) only [↓QI_i, ↓QV_v, ↓QA_a, ↓QF_f, ↓QD_d, ↓QL_l, ↓Bool.cond_eq_ite, ↓reduceIte, decide_eq_true_eq, Bool.not_eq_true', Bool.true_and, Bool.and_true, Bool.and_self, gR_some, Option.getD_some, mI_def, setI_def, mR_def, not_false_eq_true, not_true_eq_false, Bool.false_eq_true, idx_nI, nI_add, pk_mul, icB_lt, icB_gt, icB_le, icB_ge, icB_eq, icB_ne, bI_ne, nI_eqI, gl_0 hL, gl_1 hL, gl_2 hL, gl_3 hL, gl_4 hL, gl_5 hL, up2_pl, up2_pl0, pl_at, pl_at0]
    exact h
theorem lvO_VV {d : In2} {z : Zt} {a b n i q : Nat} (hR : LR d z a b n) (hi : i ≤ b) (hq : q < 8) (hr : rdy z a i (nI q) = true) : VV (lvO d z a i (nI q)) (vlO z a i (nI q)) := by
  unfold lvO vlO
  unfold rdy at hr
  cases hm : mkr z a i (nI q) with
  | none => simp only [idx_nI (show q < 2147483648 by omega)]; exact hR.reg hq
  | some k =>
    rw [hm] at hr
    obtain ⟨h1, h2, -, -⟩ := lat_some hm
    exact hR.val h1 (by omega) (of_decide_eq_true hr)
