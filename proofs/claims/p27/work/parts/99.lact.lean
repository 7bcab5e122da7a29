/-! a turn's act, both sides -/
theorem VV_ex {v : Int32} (h1 : -1000 ≤ v.toInt) (h2 : v.toInt ≤ 1000) : ∃ w, VV v w := by
  have hf := Jvm.FP.Core.i2f_int (a := v) (by omega)
  have := VV_of (i := v.toInt) hf (by omega) (by omega) fun h0 => by
    have : v = 0 := Int32.toInt_inj.mp h0
    rw [this, show Jvm.FP.Core.i2f 0 = 0 by decide +kernel]; decide
  rw [Int32.ofInt_toInt] at this
  exact ⟨_, this⟩
theorem VV_mn : VV mnZ sgZ := Or.inl ⟨rfl, rfl⟩
theorem put_v {w : Nat} (hw : w < 2001) : ∃ u, VV (nI w - nI 1000) u := by
  by_cases h : 1000 ≤ w
  · rw [show nI w - nI 1000 = nI (w - 1000) from pk_sub h]
    exact VV_ex (by rw [nI_toInt (by omega)]; omega) (by rw [nI_toInt (by omega)]; omega)
  · have e : nI w - nI 1000 = - nI (1000 - w) := by
      rw [← show nI 1000 - nI w = nI (1000 - w) from pk_sub (by omega), Int32.neg_sub]
    have e2 : (- nI (1000 - w)).toInt = - ((1000 - w : Nat) : Int) := by
      rw [Int32.toInt_neg, nI_toInt (by omega)]
      exact Int.bmod_eq_of_le (by omega) (by omega)
    rw [e]
    exact VV_ex (by rw [e2]; omega) (by rw [e2]; omega)
theorem svN_1 {s : Nat} : 1 ≤ svN s := by unfold svN; split <;> omega
theorem bl_up {I : In2} {B o k : Nat} {v : Int32} : bl (up2 I (B + o) k v) B = up2 (bl I B) o k v := by
  funext p j
  show up2 I (B + o) k v (B + p) j = up2 (bl I B) o k v p j
  by_cases e : p = o ∧ j = k
  · rw [e.1, e.2, up2_at, up2_at]
  · rw [up2_ne e, up2_ne (by omega)]; rfl
/-- what an act leaves -/
def AOk (Q : Post) (ρ : Rh) (B s cy : Nat) : Prop := ∀ (I' : In2) (ρ' : Rh) (z' : Zt) (s' : Nat) (zs' : Nat → Zt) (tl' : Nat × Zt) (a' b' n' cy' : Nat), Rw ρ' → ρ'.2 = ρ.2 → Cst I' ρ' z' s' zs' tl' → LG (bl I' B) z' a' b' n' → Ent z' a' b' → z' 0 = nI cy' → cy' ≤ cy + 20 → (1 ≤ s → 1 ≤ s') → Q (.inl (some (.int (nI 1)))) (I', ρ')
theorem LR.put {d : In2} {z : Zt} {a b n o j : Nat} {v w : Int32} (h : LR d z a b n) (hv : VV v w) (ho : (o = 2 ∧ j < 8) ∨ (o = 3 ∧ j < 16)) : LR (up2 d o j v) (uz z (if o = 2 then 12 + j else 20 + j) w) a b n := by
  obtain ⟨k1, k2, k3, k4, k5, k6⟩ := h
  rcases ho with ⟨rfl, hj⟩ | ⟨rfl, hj⟩
  · rw [if_pos rfl]
    refine ⟨fun k hk => by rw [up2_ne (by omega), uz_ne (by omega)]; exact k1 k hk, fun k hk => by rw [up2_ne (by omega), uz_ne (by omega)]; exact k2 k hk, fun k hk => ?_, fun k hk => by rw [up2_ne (by omega), uz_ne (by omega)]; exact k4 k hk, fun i f hi hf => by rw [up2_ne (by omega), pt_uz (by omega)]; exact k5 i f hi hf, fun i h1 h2 => ?_⟩
    · by_cases e : k = j
      · subst e; rw [up2_at, uz_at]; exact hv
      · rw [up2_ne (by omega), uz_ne (by omega)]; exact k3 k hk
    · have := k6 i h1 h2
      unfold Lrl at this ⊢
      dsimp only at this ⊢
      simp only [pt_uz (show 12 + j < 36 by omega)]
      rw [up2_ne (by omega), up2_ne (by omega), up2_ne (by omega), up2_ne (by omega), up2_ne (by omega)]
      exact this
  · rw [if_neg (by decide)]
    refine ⟨fun k hk => by rw [up2_ne (by omega), uz_ne (by omega)]; exact k1 k hk, fun k hk => by rw [up2_ne (by omega), uz_ne (by omega)]; exact k2 k hk, fun k hk => by rw [up2_ne (by omega), uz_ne (by omega)]; exact k3 k hk, fun k hk => ?_, fun i f hi hf => by rw [up2_ne (by omega), pt_uz (by omega)]; exact k5 i f hi hf, fun i h1 h2 => ?_⟩
    · by_cases e : k = j
      · subst e; rw [up2_at, uz_at]; exact hv
      · rw [up2_ne (by omega), uz_ne (by omega)]; exact k4 k hk
    · have := k6 i h1 h2
      unfold Lrl at this ⊢
      dsimp only at this ⊢
      simp only [pt_uz (show 20 + j < 36 by omega)]
      rw [up2_ne (by omega), up2_ne (by omega), up2_ne (by omega), up2_ne (by omega), up2_ne (by omega)]
      exact this
theorem LG.put {d : In2} {z : Zt} {a b n o j : Nat} {v w : Int32} (h : LG d z a b n) (hv : VV v w) (ho : (o = 2 ∧ j < 8) ∨ (o = 3 ∧ j < 16)) : LG (up2 d o j v) (uz z (if o = 2 then 12 + j else 20 + j) w) a b n := by
  have hk : 12 ≤ (if o = 2 then 12 + j else 20 + j) ∧ (if o = 2 then 12 + j else 20 + j) < 36 := by split <;> omega
  exact ⟨h.1.wv hk hv.inr, h.2.1.wu hk.2, h.2.2.1.put hv ho, h.2.2.2.1.of fun i _ => ⟨pt_uz hk.2, pt_uz hk.2⟩, h.2.2.2.2⟩
theorem LG.flush {d : In2} {z : Zt} {a b n : Nat} (h : LG d z a b n) : LG (up2 d 5 2 (nI a)) (uz z 2 (nI a)) a a n := by
  have hb := h.1.bnd
  exact ⟨h.1.w2 (Nat.le_refl a) (by omega), Rdy_00, (h.2.2.1.less (Nat.le_refl a) hb.1).cnt (by decide), h.2.2.2.1.of fun i _ => ⟨pt_uz (by decide), pt_uz (by decide)⟩, h.2.2.2.2⟩
theorem Ent.uz {z : Zt} {a b k : Nat} {v : Int32} (h : Ent z a b) (hk : k < 36) : Ent (Jvm.Pilot.CAlibiWindowLaw_law_r2562_ce93eb.uz z k v) a b := fun i h1 h2 => by
  rw [pt_uz hk, pt_uz hk, pt_uz hk, pt_uz hk]; exact h i h1 h2
section Act
variable {xs : Scr} {I : In2} {ρ : Rh} {Q : Post} {z : Zt} {s : Nat} {zs : Nat → Zt} {tl : Nat × Zt} {B a b n cy : Nat} {x y : Int32} {p1 : Int32}
theorem ac_run {m : Nat} (hA : AOk Q ρ B s cy) (hW : Rw ρ) (hL : LB B ρ) (h0 : z 0 = nI cy) (hcy : cy + 20 ≤ 10000) (hm1 : 1 ≤ m) (hm : m ≤ 20) : ∀ {e k ak bk : Nat} {I : In2}, k + e = m → Cst I ρ z s zs tl → LG (bl I B) (itC k z) ak bk n → Ent (itC k z) ak bk → a ≤ ak → (itC k z) 6 = z 6 + nI (ak - a) →
    Ev xs 122 46 [.ref 0, .int p1, .int x, .int y, .ref B, .ref (B + 1), .ref (B + 2), .ref (B + 3), .ref (B + 4), .ref (B + 5), .int (nI m), .int (nI (ak - a)), .int (nI k)] [] (I, ρ) Q := by
  intro e
  induction e with
  | zero =>
    intro k ak bk I hk hC hG hE ha h6
    obtain rfl : k = m := hk
    apply w_L_act_46
    rw [icB_ge (by omega) (by omega), decide_eq_true (Nat.le_refl k), cond_true, gc_O hW, cond_true]
    refine T_run (I0 := I) (ρ0 := ρ) ⟨hW, rfl, hC, fun _ _ _ => rfl⟩ hm1 (by omega) h0 (by omega) fun I' ρ' hT' => ?_
    rw [QI_i, h6, i_ad, icB_ne, decide_eq_false (fun q => q rfl), cond_false]
    have hcg : (itC k z) 0 = nI (cy + k) := by
      obtain ⟨a1, b1, n1, cy1, hBig, hE1, hcg, hle, -⟩ := hC.1
      have := (hcg.itC (k := k) ⟨hBig.1, hE1⟩).1
      have e1 := hcg.1.symm.trans h0
      rw [nI_eqI (by omega) (by omega)] at e1
      rw [← e1]; exact this
    exact hA I' ρ' _ _ _ _ ak bk n (cy + k) hT'.1 hT'.2.1 hT'.2.2.1 (by rw [hT'.bl hL.1]; exact hG) hE hcg (by omega) fun _ => svN_1
  | succ e ih =>
    intro k ak bk I hk hC hG hE ha h6
    have hB := hL.1
    apply w_L_act_46
    rw [icB_ge (by omega) (by omega), decide_eq_false (by omega), cond_false]
    refine I_cycle hL hG hE fun I1 a1 b1 o hI1 hG1 hE1 ha1 h61 => ?_
    rw [← itC_S] at hG1 hE1 h61
    rw [QI_i, nI_add, nI_add, show ak - a + o = a1 - a by omega]
    refine ih (by omega) (hC.lo (fun c k hc => hI1 c k (by omega)) (fun _ => rfl)) hG1 hE1 (by omega) ?_
    rw [h61, h6, Int32.add_assoc, nI_add]; congr 2; omega
theorem ac_21 {v10 v11 v12 : Value} (hA : AOk Q ρ B s cy) (hW : Rw ρ) (hC : Cst I ρ z s zs tl) (hL : LB B ρ) (hG : LG (bl I B) z a b n) (hE : Ent z a b) (h0 : z 0 = nI cy) (hcy : cy + 20 ≤ 10000) : Ev xs 122 21 [.ref 0, .int p1, .int x, .int y, .ref B, .ref (B + 1), .ref (B + 2), .ref (B + 3), .ref (B + 4), .ref (B + 5), v10, v11, v12] [] (I, ρ) Q := by
  have go : ∀ m, 1 ≤ m → m ≤ 20 → Ev xs 122 46 [.ref 0, .int p1, .int x, .int y, .ref B, .ref (B + 1), .ref (B + 2), .ref (B + 3), .ref (B + 4), .ref (B + 5), .int (nI m), .int (nI 0), .int (nI 0)] [] (I, ρ) Q := fun m h1 h2 => by
    have e0 : nI 0 = nI (a - a) := by rw [Nat.sub_self]
    have := ac_run (xs := xs) (a := a) (n := n) (x := x) (y := y) (p1 := p1) (zs := zs) (tl := tl) hA hW hL h0 hcy h1 h2 (e := m) (k := 0) (by omega) hC hG hE (Nat.le_refl a) (by rw [← e0]; exact (Int32.add_zero _).symm)
    rw [← e0] at this; exact this
  apply w_L_act_21
  by_cases h : p1 = nI 1
  · rw [icB_ne, decide_eq_false (fun q => q h), cond_false, l_at (by decide) (by decide), QI_i, nI_add]
    have := atF_lt (x := x) (n := 20) (by decide)
    exact go _ (by omega) (by omega)
  · rw [icB_ne, decide_eq_true h, cond_true, l_at (by decide) (by decide), QI_i, nI_add]
    have := atF_lt (x := x) (n := 3) (by decide)
    exact go _ (by omega) (by omega)
theorem ac_102 {v10 v11 v12 : Value} (hA : AOk Q ρ B s cy) (hW : Rw ρ) (hC : Cst I ρ z s zs tl) (hL : LB B ρ) (hG : LG (bl I B) z a b n) (hE : Ent z a b) (h0 : z 0 = nI cy) : Ev xs 122 102 [.ref 0, .int p1, .int x, .int y, .ref B, .ref (B + 1), .ref (B + 2), .ref (B + 3), .ref (B + 4), .ref (B + 5), v10, v11, v12] [] (I, ρ) Q := by
  have hB := hL.1
  have c2 : I (B + 5) 2 = z 2 := hG.2.2.1.c (k := 2) (by decide)
  have c3 : I (B + 5) 3 = z 3 := hG.2.2.1.c (k := 3) (by decide)
  apply w_L_act_102
  simp (disch := omega) only [gl_5 hL, cond_true, mI_def, idx_nI, setI_def, c2, c3, gc_O hW]
  refine T_flush (I0 := up2 I (B + 5) 2 (z 3)) (ρ0 := ρ) ⟨hW, rfl, hC.lo (fun c k hc => up2_ne (by omega)) (fun _ => rfl), fun _ _ _ => rfl⟩ fun I' ρ' hT' => ?_
  rw [QI_i, icB_ne, decide_eq_false (fun q => q rfl), cond_false]
  refine hA I' ρ' _ _ _ _ a a n cy hT'.1 hT'.2.1 hT'.2.2.1 ?_ Ent_0 (by rw [uz_ne (by decide)]; exact h0) (by omega) fun _ => svN_1
  rw [hT'.bl hB, bl_up, hG.1.h3]
  exact hG.flush
theorem ac_142 {v10 v11 v12 : Value} (hA : AOk Q ρ B s cy) (hW : Rw ρ) (hC : Cst I ρ z s zs tl) (hL : LB B ρ) (hG : LG (bl I B) z a b n) (hE : Ent z a b) (h0 : z 0 = nI cy) : Ev xs 122 142 [.ref 0, .int p1, .int x, .int y, .ref B, .ref (B + 1), .ref (B + 2), .ref (B + 3), .ref (B + 4), .ref (B + 5), v10, v11, v12] [] (I, ρ) Q := by
  have hB := hL.1
  have c3 : I (B + 5) 3 = z 3 := hG.2.2.1.c (k := 3) (by decide)
  apply w_L_act_142
  rw [gl_5 hL (by decide), cond_true]
  refine I_begin hL hG fun I1 hI1 hG1 => ?_
  rw [QV_v, gc_O hW, cond_true]
  refine T_again (I0 := I1) (ρ0 := ρ) ⟨hW, rfl, hC.lo (fun c k hc => hI1 c k (by omega)) (fun _ => rfl), fun _ _ _ => rfl⟩ fun I' ρ' hT' => ?_
  rw [QI_i, mI_def, idx_nI (by decide), c3, icB_ne, decide_eq_false (fun q => q rfl), cond_false]
  refine hA I' ρ' _ _ _ _ 0 0 n cy hT'.1 hT'.2.1 hT'.2.2.1 ?_ Ent_0 (by rw [bgF_lo (by decide) (by decide) (by decide)]; exact h0) (by omega) fun _ => svN_1
  rw [hT'.bl hB]
  exact hG1
theorem ac_207 {j w : Nat} {v12 : Value} (hA : AOk Q ρ B s cy) (hW : Rw ρ) (hC : Cst I ρ z s zs tl) (hL : LB B ρ) (hG : LG (bl I B) z a b n) (hE : Ent z a b) (h0 : z 0 = nI cy) (hj : j < 3) (hw : w = if j = 0 then 8 else 4) : Ev xs 122 207 [.ref 0, .int p1, .int x, .int y, .ref B, .ref (B + 1), .ref (B + 2), .ref (B + 3), .ref (B + 4), .ref (B + 5), .int (nI j), .int (I (B + 4) j), v12] [.int (nI w), .int y, .int (nI 1), .int (nI j), .ref (B + 4)] (I, ρ) Q := by
  have hB := hL.1
  have hw8 : 0 < w ∧ w ≤ 8 := by rw [hw]; split <;> omega
  have s4 : I (B + 4) j = z (9 + j) := hG.2.2.1.s hj
  apply w_L_act_207
  rw [l_at hw8.1 (by omega), QI_i, nI_add, gl_4 hL hj, cond_true]
  have hu := atF_lt (x := y) hw8.1
  show bif gA (setI _ _ _ _) _ _ _ then _ else _
  rw [setI_def, idx_nI (by omega), gl_4 hL hj, cond_true, gc_O hW, cond_true, mI_def, up2_at]
  refine T_set (I0 := up2 I (B + 4) j (nI (1 + atF y w))) (ρ0 := ρ) (j := j) (v := 1 + atF y w) ⟨hW, rfl, hC.lo (fun c k hc => up2_ne (by omega)) (fun _ => rfl), fun _ _ _ => rfl⟩ hj (by omega) (by rw [← hw]; omega) fun I' ρ' hT' => ?_
  rw [QI_i, s4, icB_ne, decide_eq_false (fun q => q rfl), cond_false]
  refine hA I' ρ' _ _ _ _ a b n cy hT'.1 hT'.2.1 hT'.2.2.1 ?_ (hE.uz (by omega)) (by rw [uz_ne (by omega)]; exact h0) (by omega) fun _ => svN_1
  rw [hT'.bl hB, bl_up]
  exact hG.set hj (by omega) (by rw [← hw]; omega)
theorem ac_176 {v10 v11 v12 : Value} (hA : AOk Q ρ B s cy) (hW : Rw ρ) (hC : Cst I ρ z s zs tl) (hL : LB B ρ) (hG : LG (bl I B) z a b n) (hE : Ent z a b) (h0 : z 0 = nI cy) : Ev xs 122 176 [.ref 0, .int p1, .int x, .int y, .ref B, .ref (B + 1), .ref (B + 2), .ref (B + 3), .ref (B + 4), .ref (B + 5), v10, v11, v12] [] (I, ρ) Q := by
  apply w_L_act_176
  rw [l_at (by decide) (by decide), QI_i]
  have hj := atF_lt (x := x) (n := 3) (by decide)
  generalize atF x 3 = j at hj
  rw [gl_4 hL hj, cond_true, mI_def, idx_nI (by omega)]
  by_cases e : j = 0
  · rw [icB_ne, decide_eq_false (fun q => q (by rw [e])), cond_false]
    exact ac_207 hA hW hC hL hG hE h0 hj (w := 8) (by rw [if_pos e])
  · rw [icB_ne, decide_eq_true (not_nI (by omega) (by decide) e), cond_true]
    exact ac_207 hA hW hC hL hG hE h0 hj (w := 4) (by rw [if_neg e])
theorem ac_274 {v w : Int32} {v10 v11 v12 : Value} (hA : AOk Q ρ B s cy) (hW : Rw ρ) (hC : Cst I ρ z s zs tl) (hL : LB B ρ) (hG : LG (bl I B) z a b n) (hE : Ent z a b) (h0 : z 0 = nI cy) (h23 : z 2 = z 3) (hv : VV v w) : Ev xs 122 274 [.ref 0, .int p1, .int x, .int y, .ref B, .ref (B + 1), .ref (B + 2), .ref (B + 3), .ref (B + 4), .ref (B + 5), v10, v11, v12] [.int v] (I, ρ) Q := by
  have hB := hL.1
  apply w_L_act_274
  rw [l_at (by decide) (by decide), QI_i]
  have hj := atF_lt (x := x) (n := 8) (by decide)
  generalize atF x 8 = j at hj
  by_cases e : p1 = nI 14
  · have hn : icB .ne p1 (nI 14) = false := by rw [icB_ne, decide_eq_false (fun q => q e)]
    have hm : VV (I (B + 2) j) (z (12 + j)) := hG.2.2.1.reg hj
    rw [hn, cond_false, gl_2 hL hj, cond_true, mI_def, idx_nI (by omega)]
    apply w_L_act_303
    rw [hn, cond_false, gl_2 hL hj, cond_true]
    show Ev xs 122 328 _ _ _ _
    rw [setI_def, idx_nI (by omega)]
    apply w_L_act_328
    rw [hn, cond_false, l_bits hv, QI_i, gc_O hW, cond_true]
    refine T_putReg (I0 := up2 I (B + 2) j v) (ρ0 := ρ) ⟨hW, rfl, hC.lo (fun c k hc => up2_ne (by omega)) (fun _ => rfl), fun _ _ _ => rfl⟩ hj hv.inr h23 fun I' ρ' hT' => ?_
    rw [QI_i, l_bits hm, QI_i, icB_ne, decide_eq_false (fun q => q rfl), cond_false]
    refine hA I' ρ' _ _ _ _ a b n cy hT'.1 hT'.2.1 hT'.2.2.1 ?_ (hE.uz (by omega)) (by rw [uz_ne (by omega)]; exact h0) (by omega) fun _ => svN_1
    rw [hT'.bl hB, bl_up]
    exact hG.put (o := 2) hv (Or.inl ⟨rfl, hj⟩)
  · have hn : icB .ne p1 (nI 14) = true := by rw [icB_ne, decide_eq_true e]
    have hm : VV (I (B + 3) j) (z (20 + j)) := hG.2.2.1.mem (by omega)
    rw [hn, cond_true, gl_3 hL (by omega), cond_true, mI_def, idx_nI (by omega)]
    apply w_L_act_303
    rw [hn, cond_true, gl_3 hL (by omega), cond_true]
    show Ev xs 122 328 _ _ _ _
    rw [setI_def, idx_nI (by omega)]
    apply w_L_act_328
    rw [hn, cond_true, l_bits hv, QI_i, gc_O hW, cond_true]
    refine T_putCell (I0 := up2 I (B + 3) j v) (ρ0 := ρ) ⟨hW, rfl, hC.lo (fun c k hc => up2_ne (by omega)) (fun _ => rfl), fun _ _ _ => rfl⟩ (by omega) hv.inr h23 fun I' ρ' hT' => ?_
    rw [QI_i, l_bits hm, QI_i, icB_ne, decide_eq_false (fun q => q rfl), cond_false]
    refine hA I' ρ' _ _ _ _ a b n cy hT'.1 hT'.2.1 hT'.2.2.1 ?_ (hE.uz (by omega)) (by rw [uz_ne (by omega)]; exact h0) (by omega) fun _ => svN_1
    rw [hT'.bl hB, bl_up]
    exact hG.put (o := 3) hv (Or.inr ⟨rfl, by omega⟩)
theorem ac_234 {v10 v11 v12 : Value} (hA : AOk Q ρ B s cy) (hW : Rw ρ) (hC : Cst I ρ z s zs tl) (hL : LB B ρ) (hG : LG (bl I B) z a b n) (hE : Ent z a b) (h0 : z 0 = nI cy) : Ev xs 122 234 [.ref 0, .int p1, .int x, .int y, .ref B, .ref (B + 1), .ref (B + 2), .ref (B + 3), .ref (B + 4), .ref (B + 5), v10, v11, v12] [] (I, ρ) Q := by
  have hb := hG.1.bnd
  have c2 : I (B + 5) 2 = nI b := (hG.2.2.1.c (k := 2) (by decide)).trans hG.1.h2
  have c3 : I (B + 5) 3 = nI a := (hG.2.2.1.c (k := 3) (by decide)).trans hG.1.h3
  apply w_L_act_234
  simp (disch := omega) only [gl_5 hL, cond_true, mI_def, idx_nI, c2, c3, icB_le]
  by_cases e : b ≤ a
  · have h23 : z 2 = z 3 := by rw [hG.1.h2, hG.1.h3]; congr 1; omega
    rw [decide_eq_true e, cond_true]
    apply w_L_act_247
    rw [l_at (by decide) (by decide), QI_i]
    by_cases e7 : atF y 7 = 0
    · rw [icB_ne, decide_eq_false (fun q => q (by rw [e7])), cond_false]
      exact ac_274 hA hW hC hL hG hE h0 h23 VV_mn
    · have := atF_lt (x := y) (n := 7) (by decide)
      rw [icB_ne, decide_eq_true (not_nI (by omega) (by decide) e7), cond_true, l_at (by decide) (by decide), QI_i]
      obtain ⟨u, hu⟩ := put_v (atF_lt (x := y >>> (nI 3 &&& 31)) (n := 2001) (by decide))
      exact ac_274 hA hW hC hL hG hE h0 h23 hu
  · rw [decide_eq_false e, cond_false]
    exact hA I ρ _ _ _ _ a b n cy hW rfl hC hG hE h0 (by omega) id
/-- an act -/
theorem l_act {k : Nat} (hk : k < 16) (hA : AOk Q ρ B (if k = 0 then 1 else s) cy) (hW : Rw ρ) (hC : Cst I ρ z s zs tl) (hL : LB B ρ) (hG : LG (bl I B) z a b n) (hE : Ent z a b) (h0 : z 0 = nI cy) (hcy : cy + 20 ≤ 10000) : Ev xs 122 0 [.ref 0, .int (nI k), .int x, .int y, .ref B, .ref (B + 1), .ref (B + 2), .ref (B + 3), .ref (B + 4), .ref (B + 5), .null, .null, .null] [] (I, ρ) Q := by
  apply w_L_act_0
  by_cases k0 : k = 0
  · rw [icB_ne, decide_eq_false (fun q => q (by rw [k0])), cond_false]
    refine l_load hW hC hL hG fun I' ρ' z' tl' n' g1 g2 g3 g4 g5 g6 => ?_
    rw [QI_i, show gZ 1 (nI 1) = true by decide, cond_true]
    exact hA I' ρ' _ _ _ _ 0 0 n' cy g1 g2 g3 g4 Ent_0 (g5.trans h0) (by omega) fun _ => svN_1
  rw [if_neg k0] at hA
  rw [icB_ne, decide_eq_true (not_nI (by omega) (by decide) k0), cond_true, icB_ge (by omega) (by decide)]
  by_cases k11 : 11 ≤ k
  · rw [decide_eq_true k11, cond_true]
    by_cases e11 : k = 11
    · rw [icB_ne, decide_eq_false (fun q => q (by rw [e11])), cond_false]
      exact ac_102 hA hW hC hL hG hE h0
    rw [icB_ne, decide_eq_true (not_nI (by omega) (by decide) e11), cond_true]
    by_cases e12 : k = 12
    · rw [icB_ne, decide_eq_false (fun q => q (by rw [e12])), cond_false]
      exact ac_142 hA hW hC hL hG hE h0
    rw [icB_ne, decide_eq_true (not_nI (by omega) (by decide) e12), cond_true]
    by_cases e13 : k = 13
    · rw [icB_ne, decide_eq_false (fun q => q (by rw [e13])), cond_false]
      exact ac_176 hA hW hC hL hG hE h0
    rw [icB_ne, decide_eq_true (not_nI (by omega) (by decide) e13), cond_true]
    exact ac_234 hA hW hC hL hG hE h0
  · rw [decide_eq_false k11, cond_false]
    exact ac_21 hA hW hC hL hG hE h0 hcy
end Act
