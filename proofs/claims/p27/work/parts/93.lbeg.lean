/-! beginning anew, settings, a cycle: in the memory itself -/
theorem l_begin10 {xs : Scr} {I : In2} {ρ : Rh} {B : Nat} (hL : LB B ρ) {n : Nat} (hn : n ≤ 7) : ∀ {e i : Nat} {d : In2} {Q : Post}, d 5 1 = nI n → i + e = n → (∀ d', (∀ o k, d' o k = if o = 0 ∧ 8 * i ≤ k ∧ k < 8 * n ∧ (k % 8 = 5 ∨ k % 8 = 6) then nI 0 else d o k) → Q (.inl none) (pl I B d', ρ)) → Ev xs 115 10 [.ref B, .ref (B + 5), .int (nI i)] [] (pl I B d, ρ) Q := by
  intro e
  induction e with
  | zero =>
    intro i d Q h1 hi h
    obtain rfl : i = n := hi
    apply w_L_begin_10
    simp (maxSteps := 1000000) (disch := omega) only [↓QI_i, ↓QV_v, ↓QA_a, ↓QF_f, ↓QD_d, ↓QL_l, ↓Bool.cond_eq_ite, ↓reduceIte, decide_eq_true_eq, Bool.not_eq_true', Bool.true_and, Bool.and_true, Bool.and_self, gR_some, Option.getD_some, mI_def, setI_def, mR_def, not_false_eq_true, not_true_eq_false, Bool.false_eq_true, idx_nI, nI_add, pk_mul, icB_lt, icB_gt, icB_le, icB_ge, icB_eq, icB_ne, bI_ne, nI_eqI, gl_0 hL, gl_1 hL, gl_2 hL, gl_3 hL, gl_4 hL, gl_5 hL, up2_pl, up2_pl0, pl_at, pl_at0, h1, Nat.le_refl]
    exact h d fun o k => by rw [if_neg (by omega)]
  | succ e ih =>
    intro i d Q h1 hi h
    have hin : ¬ n ≤ i := by omega
    apply w_L_begin_10
    simp (maxSteps := 1000000) (disch := omega) only [↓QI_i, ↓QV_v, ↓QA_a, ↓QF_f, ↓QD_d, ↓QL_l, ↓Bool.cond_eq_ite, ↓reduceIte, decide_eq_true_eq, Bool.not_eq_true', Bool.true_and, Bool.and_true, Bool.and_self, gR_some, Option.getD_some, mI_def, setI_def, mR_def, not_false_eq_true, not_true_eq_false, Bool.false_eq_true, idx_nI, nI_add, pk_mul, icB_lt, icB_gt, icB_le, icB_ge, icB_eq, icB_ne, bI_ne, nI_eqI, gl_0 hL, gl_1 hL, gl_2 hL, gl_3 hL, gl_4 hL, gl_5 hL, up2_pl, up2_pl0, pl_at, pl_at0, h1, hin]
    refine ih (i := i + 1) (by rw [up2_ne (by omega), up2_ne (by omega)]; exact h1) (by omega) fun d' hd' => h d' fun o k => ?_
    rw [hd']
    by_cases c1 : o = 0 ∧ 8 * (i + 1) ≤ k ∧ k < 8 * n ∧ (k % 8 = 5 ∨ k % 8 = 6)
    · rw [if_pos c1, if_pos (by omega)]
    · rw [if_neg c1]
      by_cases c2 : o = 0 ∧ k = 8 * i + 6
      · rw [c2.1, c2.2, up2_at, if_pos (by omega)]
      · rw [up2_ne c2]
        by_cases c3 : o = 0 ∧ k = 8 * i + 5
        · rw [c3.1, c3.2, up2_at, if_pos (by omega)]
        · rw [up2_ne c3, if_neg (by omega)]
theorem l_begin {xs : Scr} {I : In2} {ρ : Rh} {Q : Post} {B : Nat} {d : In2} (hL : LB B ρ) {n : Nat} (hn : n ≤ 7) (h1 : d 5 1 = nI n) (h : ∀ d', (∀ o k, d' o k = if o = 0 ∧ k < 8 * n ∧ (k % 8 = 5 ∨ k % 8 = 6) then nI 0 else if o = 5 ∧ (k = 2 ∨ k = 3) then nI 0 else d o k) → Q (.inl none) (pl I B d', ρ)) : Ev xs 115 0 [.ref B, .ref (B + 5), .null] [] (pl I B d, ρ) Q := by
  apply w_L_begin_0
  simp (maxSteps := 1000000) (disch := omega) only [↓QI_i, ↓QV_v, ↓QA_a, ↓QF_f, ↓QD_d, ↓QL_l, ↓Bool.cond_eq_ite, ↓reduceIte, decide_eq_true_eq, Bool.not_eq_true', Bool.true_and, Bool.and_true, Bool.and_self, gR_some, Option.getD_some, mI_def, setI_def, mR_def, not_false_eq_true, not_true_eq_false, Bool.false_eq_true, idx_nI, nI_add, pk_mul, icB_lt, icB_gt, icB_le, icB_ge, icB_eq, icB_ne, bI_ne, nI_eqI, gl_0 hL, gl_1 hL, gl_2 hL, gl_3 hL, gl_4 hL, gl_5 hL, up2_pl, up2_pl0, pl_at, pl_at0]
  refine l_begin10 hL hn (e := n) (i := 0) (by rw [up2_ne (by omega), up2_ne (by omega)]; exact h1) (Nat.zero_add n) fun d' hd' => h d' fun o k => ?_
  rw [hd']
  by_cases c1 : o = 0 ∧ k < 8 * n ∧ (k % 8 = 5 ∨ k % 8 = 6)
  · rw [if_pos c1, if_pos (by omega)]
  · rw [if_neg c1, if_neg (by omega)]
    by_cases c2 : o = 5 ∧ (k = 2 ∨ k = 3)
    · rw [if_pos c2]
      rcases c2 with ⟨rfl, rfl | rfl⟩
      · rw [up2_ne (by omega), up2_at]
      · rw [up2_at]
    · rw [if_neg c2, up2_ne (by omega), up2_ne (by omega)]
theorem LR_bg {d d' : In2} {z : Zt} {a b n : Nat} (hR : LR d z a b n) (hn : n ≤ 24) (hd : ∀ o k, d' o k = if o = 0 ∧ k < 8 * n ∧ (k % 8 = 5 ∨ k % 8 = 6) then nI 0 else if o = 5 ∧ (k = 2 ∨ k = 3) then nI 0 else d o k) : LR d' (bgF z) 0 0 n := by
  obtain ⟨k1, k2, k3, k4, k5, k6⟩ := hR
  have eo : ∀ o k, ¬ o = 0 → ¬ o = 5 → d' o k = d o k := fun o k h0 h5 => by rw [hd, if_neg (by omega), if_neg (by omega)]
  refine ⟨fun k hk => ?_, fun k hk => by rw [eo _ _ (by decide) (by decide), bgF_lo (by omega) (by omega) (by omega)]; exact k2 k hk, fun k hk => by rw [eo _ _ (by decide) (by decide), bgF_lo (by omega) (by omega) (by omega)]; exact k3 k hk, fun k hk => by rw [eo _ _ (by decide) (by decide), bgF_lo (by omega) (by omega) (by omega)]; exact k4 k hk, fun i f hi hf => ?_, fun i h1 h2 => by omega⟩
  · rw [hd, if_neg (by omega)]
    by_cases c : k = 2 ∨ k = 3
    · rw [if_pos ⟨rfl, c⟩]
      rcases c with rfl | rfl
      · unfold bgF; rw [bgL_lo (by decide), uz_ne (by decide), uz_at]
      · unfold bgF; rw [bgL_lo (by decide), uz_at]
    · rw [if_neg (by omega), bgF_lo (by omega) (by omega) (by omega)]; exact k1 k hk
  · rw [bgF_pt (by omega) (by omega), hd]
    by_cases c : f = 5 ∨ f = 6
    · rw [if_pos (by omega), if_pos c]
    · rw [if_neg (by omega), if_neg (by omega), if_neg c]; exact k5 i f hi hf
theorem Rdy_00 {z : Zt} {a : Nat} : Rdy z a a := fun i h1 h2 => by omega
theorem LG_bg {d d' : In2} {z : Zt} {a b n : Nat} (hG : LG d z a b n) (hd : ∀ o k, d' o k = if o = 0 ∧ k < 8 * n ∧ (k % 8 = 5 ∨ k % 8 = 6) then nI 0 else if o = 5 ∧ (k = 2 ∨ k = 3) then nI 0 else d o k) : LG d' (bgF z) 0 0 n := by
  have hn7 := hG.2.2.2.2
  exact ⟨Inv0_bgF hG.1, Rdy_00, LR_bg hG.2.2.1 (by omega) hd, hG.2.2.2.1.of fun i hi => ⟨by rw [bgF_pt (by omega) (by decide), if_neg (by decide)], by rw [bgF_pt (by omega) (by decide), if_neg (by decide)]⟩, hn7⟩
theorem Inv0.ws {z : Zt} {a b n j w : Nat} (h : Inv0 z a b n) (hj : j < 3) (h1 : 1 ≤ w) (h2 : w ≤ if j = 0 then 8 else 4) : Inv0 (uz z (9 + j) (nI w)) a b n := by
  obtain ⟨g3, g2, g1, gb, ⟨w1, w2, w3⟩, gr, gm, gw, gv⟩ := h
  refine ⟨(uz_ne (by omega)).trans g3, (uz_ne (by omega)).trans g2, (uz_ne (by omega)).trans g1, gb, ?_, fun k hk => by rw [uz_ne (by omega)]; exact gr k hk, fun k hk => by rw [uz_ne (by omega)]; exact gm k hk, fun i hi => by simp only [pt_uz (show 9 + j < 36 by omega)]; exact gw i hi, fun i hi => by rw [pt_uz (by omega)]; exact gv i hi⟩
  have : j = 0 ∨ j = 1 ∨ j = 2 := by omega
  rcases this with rfl | rfl | rfl
  · exact ⟨⟨w, h1, h2, uz_at⟩, by rw [uz_ne (by decide)]; exact w2, by rw [uz_ne (by decide)]; exact w3⟩
  · exact ⟨by rw [uz_ne (by decide)]; exact w1, ⟨w, h1, h2, uz_at⟩, by rw [uz_ne (by decide)]; exact w3⟩
  · exact ⟨by rw [uz_ne (by decide)]; exact w1, by rw [uz_ne (by decide)]; exact w2, ⟨w, h1, h2, uz_at⟩⟩
theorem LR.set {d : In2} {z : Zt} {a b n j : Nat} {v : Int32} (h : LR d z a b n) (hj : j < 3) : LR (up2 d 4 j v) (uz z (9 + j) v) a b n := by
  obtain ⟨k1, k2, k3, k4, k5, k6⟩ := h
  refine ⟨fun k hk => by rw [up2_ne (by omega), uz_ne (by omega)]; exact k1 k hk, fun k hk => ?_, fun k hk => by rw [up2_ne (by omega), uz_ne (by omega)]; exact k3 k hk, fun k hk => by rw [up2_ne (by omega), uz_ne (by omega)]; exact k4 k hk, fun i f hi hf => by rw [up2_ne (by omega), pt_uz (by omega)]; exact k5 i f hi hf, fun i h1 h2 => ?_⟩
  · by_cases e : k = j
    · subst e; rw [up2_at, uz_at]
    · rw [up2_ne (by omega), uz_ne (by omega)]; exact k2 k hk
  · have := k6 i h1 h2
    unfold Lrl at this ⊢
    dsimp only at this ⊢
    simp only [pt_uz (show 9 + j < 36 by omega)]
    rw [up2_ne (by omega), up2_ne (by omega), up2_ne (by omega), up2_ne (by omega), up2_ne (by omega)]
    exact this
theorem LG.set {d : In2} {z : Zt} {a b n j w : Nat} (h : LG d z a b n) (hj : j < 3) (h1 : 1 ≤ w) (h2 : w ≤ if j = 0 then 8 else 4) : LG (up2 d 4 j (nI w)) (uz z (9 + j) (nI w)) a b n := ⟨h.1.ws hj h1 h2, h.2.1.wu (by omega), h.2.2.1.set hj, h.2.2.2.1.of fun i _ => ⟨pt_uz (by omega), pt_uz (by omega)⟩, h.2.2.2.2⟩
theorem lay_uz {z : Zt} {i f k : Nat} {v w : Int32} (hk : k < 36) : lay (uz z k v) i f w = uz (lay z i f w) k v := by
  funext j; unfold lay uz
  by_cases h : j = k
  · rw [if_neg (by omega), if_pos h, if_pos h]
  · rw [if_neg h, if_neg h]
theorem bgL_uz {k : Nat} {v : Int32} (hk : k < 36) : ∀ {d i : Nat} {z : Zt}, bgL d i (uz z k v) = uz (bgL d i z) k v := by
  intro d
  induction d with
  | zero => intro i z; rfl
  | succ d ih => intro i z; unfold bgL; rw [lay_uz hk, lay_uz hk, ih]
theorem uz_uz {z : Zt} {j k : Nat} {v w : Int32} (h : ¬ j = k) : uz (uz z j v) k w = uz (uz z k w) j v := by
  funext i; unfold uz
  by_cases h1 : i = k
  · rw [if_pos h1, if_neg (by omega), if_pos h1]
  · rw [if_neg h1]
    by_cases h2 : i = j
    · rw [if_pos h2, if_pos h2]
    · rw [if_neg h2, if_neg h2, if_neg h1]
theorem bgF_uz9 {z : Zt} {v : Int32} : bgF (uz z 9 v) = uz (bgF z) 9 v := by
  unfold bgF
  rw [uz_uz (j := 9) (k := 2) (by decide), uz_uz (j := 9) (k := 3) (by decide), bgL_uz (by decide)]
/-- in the memory itself -/
theorem I_begin {xs : Scr} {I : In2} {ρ : Rh} {Q : Post} {B : Nat} {z : Zt} {a b n : Nat} (hL : LB B ρ) (hG : LG (bl I B) z a b n) (h : ∀ I', (∀ c k, ¬ (B ≤ c ∧ c < B + 6) → I' c k = I c k) → LG (bl I' B) (bgF z) 0 0 n → Q (.inl none) (I', ρ)) : Ev xs 115 0 [.ref B, .ref (B + 5), .null] [] (I, ρ) Q := by
  have := l_begin (xs := xs) (I := I) (Q := Q) (d := bl I B) hL hG.2.2.2.2 ((hG.2.2.1.c (k := 1) (by decide)).trans hG.1.h1) fun d' hd' => h _ (fun c k hc => pl_ne hc) ((LG_bg hG hd').ext fun o k ho => bl_pl ho)
  rw [pl_self] at this; exact this
theorem I_cycle {xs : Scr} {I : In2} {ρ : Rh} {Q : Post} {B : Nat} {z : Zt} {a b n : Nat} (hL : LB B ρ) (hG : LG (bl I B) z a b n) (hE : Ent z a b) (h : ∀ I' a' b' o, (∀ c k, ¬ (B ≤ c ∧ c < B + 6) → I' c k = I c k) → LG (bl I' B) (cyF z) a' b' n → Ent (cyF z) a' b' → a' = a + o → (cyF z) 6 = z 6 + nI o → Q (.inl (some (.int (nI o)))) (I', ρ)) : Ev xs 114 0 [.ref B, .ref (B + 1), .ref (B + 2), .ref (B + 3), .ref (B + 4), .ref (B + 5), .null, .null, .null] [] (I, ρ) Q := by
  have := l_cycle (xs := xs) (I := I) (Q := Q) (d := bl I B) hL hG hE fun d' a' b' o g1 g2 g3 g4 => h _ a' b' o (fun c k hc => pl_ne hc) (g1.ext fun o k ho => bl_pl ho) g2 g3 g4
  rw [pl_self] at this; exact this
