/-! ahead: what would be, on copies -/
theorem itC_S : ∀ {k : Nat} {z : Zt}, itC (k + 1) z = cyF (itC k z) := by
  intro k
  induction k with
  | zero => intro z; rfl
  | succ k ih => intro z; show itC (k + 1) (cyF z) = _; rw [ih]; rfl
def alen (o : Nat) : Nat := match o with | 0 => 64 | 1 => 40 | 2 => 8 | 3 => 16 | 4 => 3 | _ => 9
theorem LR.extb {d d' : In2} {z : Zt} {a b n : Nat} (h : LR d z a b n) (hb : b ≤ n) (hn : n ≤ 7) (he : ∀ o k, o < 6 → k < alen o → d' o k = d o k) : LR d' z a b n := by
  obtain ⟨k1, k2, k3, k4, k5, k6⟩ := h
  refine ⟨fun k hk => by rw [he 5 k (by decide) hk]; exact k1 k hk, fun k hk => by rw [he 4 k (by decide) hk]; exact k2 k hk, fun k hk => by rw [he 2 k (by decide) hk]; exact k3 k hk, fun k hk => by rw [he 3 k (by decide) hk]; exact k4 k hk, fun j f hj hf => by rw [he 0 _ (by decide) (show 8 * j + f < 64 by omega)]; exact k5 j f hj hf, fun j a1 a2 => ?_⟩
  have := k6 j a1 a2
  unfold Lrl at this ⊢
  dsimp only at this ⊢
  rw [he 1 _ (by decide) (show 5 * j + 0 < 40 by omega), he 1 _ (by decide) (show 5 * j + 1 < 40 by omega), he 1 _ (by decide) (show 5 * j + 2 < 40 by omega), he 1 _ (by decide) (show 5 * j + 3 < 40 by omega), he 1 _ (by decide) (show 5 * j + 4 < 40 by omega)]
  exact this
theorem LG.extb {d d' : In2} {z : Zt} {a b n : Nat} (h : LG d z a b n) (he : ∀ o k, o < 6 → k < alen o → d' o k = d o k) : LG d' z a b n := ⟨h.1, h.2.1, h.2.2.1.extb (by have := h.1.bnd; omega) h.2.2.2.2 he, h.2.2.2⟩
theorem i_ad (x y : Int32) : (x + y) - x = y := by rw [Int32.add_comm, Int32.add_sub_cancel]
/-- the state while ahead looks -/
def AH (I0 I : In2) (ρ : Rh) (z : Zt) (s : Nat) (zs : Nat → Zt) (tl : Nat × Zt) (B C a b n : Nat) : Prop := Rw ρ ∧ ρ.2.2.1 = C + 6 ∧ ρ.2.2.2 = 0 ∧ Cst I ρ z s zs tl ∧ LB B ρ ∧ LB C ρ ∧ B + 6 ≤ C ∧ LG (bl I B) z a b n ∧ Ent z a b ∧ ∀ c k, 245 ≤ c → c < C → I c k = I0 c k
section Ahead
variable {xs : Scr} {I0 I : In2} {ρ : Rh} {Q : Post} {z : Zt} {s : Nat} {zs : Nat → Zt} {tl : Nat × Zt} {B C a b n : Nat} {x : Int32}
theorem AH.tg {I' : In2} {ρ' : Rh} (h : AH I0 I ρ z s zs tl B C a b n) (hT : Tg I ρ z s zs tl I' ρ') : AH I0 I' ρ' z s zs tl B C a b n := by
  obtain ⟨h1, h2, h3, h4, h5, h6, h7, h8, h9, h10⟩ := h
  refine ⟨hT.1, by rw [hT.2.1]; exact h2, by rw [hT.2.1]; exact h3, hT.2.2.1, hT.LB h5, hT.LB h6, h7, by rw [hT.bl h5.1]; exact h8, h9, fun c k a1 a2 => (hT.2.2.2 c k a1).trans (h10 c k a1 a2)⟩
theorem AH.t (h : AH I0 I ρ z s zs tl B C a b n) : Tg I ρ z s zs tl I ρ := ⟨h.1, rfl, h.2.2.2.1, fun _ _ _ => rfl⟩
theorem AH.up {I' : In2} (h : AH I0 I ρ z s zs tl B C a b n) (hI : ∀ c k, ¬ (C ≤ c ∧ c < C + 6) → I' c k = I c k) : AH I0 I' ρ z s zs tl B C a b n := by
  obtain ⟨h1, h2, h3, h4, h5, h6, h7, h8, h9, h10⟩ := h
  have := h6.1
  have := h5.1
  refine ⟨h1, h2, h3, h4.lo (fun c k hc => hI c k (by omega)) (fun _ => rfl), h5, h6, h7, h8.ext fun o k ho => hI _ _ (by omega), h9, fun c k a1 a2 => (hI c k (by omega)).trans (h10 c k a1 a2)⟩
theorem AH.c (h : AH I0 I ρ z s zs tl B C a b n) {k : Nat} (hk : k < 9) : I (B + 5) k = z k := h.2.2.2.2.2.2.2.1.2.2.1.c hk
theorem cc (h : LG (bl I C) z a b n) {k : Nat} (hk : k < 9) : I (C + 5) k = z k := h.2.2.1.c hk
/-- the first look: cycles from where the machine stands -/
theorem a_loop0 {N : Nat} {v : Int32} (hN1 : 1 ≤ N) (hN : N ≤ 30) (hend : ∀ I ρ v18 v19 v20, AH I0 I ρ z s zs tl B C a b n → Ev xs 119 47 [.ref 0, .int x, .ref B, .ref (B + 1), .ref (B + 2), .ref (B + 3), .ref (B + 4), .ref (B + 5), .ref C, .ref (C + 1), .ref (C + 2), .ref (C + 3), .ref (C + 4), .ref (C + 5), .int (nI 0), .int (nI 1048576), .int v, .int (nI 1), v18, v19, v20] [] (I, ρ) Q) : ∀ {e k : Nat} {I : In2} {ρ : Rh} {ak bk : Nat} {ls : Int32}, AH I0 I ρ z s zs tl B C a b n → LG (bl I C) (itC k z) ak bk n → Ent (itC k z) ak bk → a ≤ ak → (itC k z) 6 = z 6 + nI (ak - a) →
    (ak < n → far (itC k z) ak bk n ≤ e ∧ far (itC k z) ak bk n + k ≤ 144 ∧ ls = nM ∧ goN 144 z = k + goN (144 - k) (itC k z)) → (¬ ak < n → a < n → ls = nI (goN 144 z)) → (k < N → N - k ≤ e) → k ≤ 1000 →
    Ev xs 119 133 [.ref 0, .int x, .ref B, .ref (B + 1), .ref (B + 2), .ref (B + 3), .ref (B + 4), .ref (B + 5), .ref C, .ref (C + 1), .ref (C + 2), .ref (C + 3), .ref (C + 4), .ref (C + 5), .int (nI 0), .int ls, .int v, .int (nI 0), .int (nI N), .int (nI k), .int (nI (ak - a))] [] (I, ρ) Q := by
  have h144 := @goN_le 144 z
  -- the way out
  have out : ∀ {k : Nat} {I : In2} {ρ : Rh} {ls v20 : Int32}, AH I0 I ρ z s zs tl B C a b n → (a < n → ls = nI (goN 144 z)) → Ev xs 119 286 [.ref 0, .int x, .ref B, .ref (B + 1), .ref (B + 2), .ref (B + 3), .ref (B + 4), .ref (B + 5), .ref C, .ref (C + 1), .ref (C + 2), .ref (C + 3), .ref (C + 4), .ref (C + 5), .int (nI 0), .int ls, .int v, .int (nI 0), .int (nI N), .int (nI k), .int v20] [] (I, ρ) Q := by
    intro k I ρ ls v20 hA hls
    have hb := hA.2.2.2.2.2.2.2.1.1.bnd
    apply w_L_ahead_286
    rw [icB_ne, decide_eq_false (fun q => q rfl), cond_false, gc_O hA.1, cond_true]
    refine T_cyclesLeft hA.t fun I1 ρ1 hT1 => ?_
    have hA1 := hA.tg hT1
    have L1 := hA1.2.2.2.2.1
    have c1 := (hA1.c (k := 1) (by decide)).trans hA1.2.2.2.2.2.2.2.1.1.h1
    have c3 := (hA1.c (k := 3) (by decide)).trans hA1.2.2.2.2.2.2.2.1.1.h3
    rw [QI_i]
    simp (disch := omega) only [gl_5 L1, cond_true, mI_def, idx_nI, c1, c3, icB_ne, nI_eqI]
    have last : ∀ y : Int32, Ev xs 119 312 [.ref 0, .int x, .ref B, .ref (B + 1), .ref (B + 2), .ref (B + 3), .ref (B + 4), .ref (B + 5), .ref C, .ref (C + 1), .ref (C + 2), .ref (C + 3), .ref (C + 4), .ref (C + 5), .int (nI 0), .int ls, .int v, .int (nI 0), .int (nI N), .int (nI k), .int v20] [.int y, .int y] (I, ρ) Q → True := fun _ _ => trivial
    have l312 : ∀ {y : Int32}, Ev xs 119 312 [.ref 0, .int x, .ref B, .ref (B + 1), .ref (B + 2), .ref (B + 3), .ref (B + 4), .ref (B + 5), .ref C, .ref (C + 1), .ref (C + 2), .ref (C + 3), .ref (C + 4), .ref (C + 5), .int (nI 0), .int ls, .int v, .int (nI 0), .int (nI N), .int (nI k), .int v20] [.int y, .int y] (I1, ρ1) Q := by
      intro y
      apply w_L_ahead_312
      rw [icB_eq, decide_eq_true rfl, cond_true]
      exact hend I1 ρ1 _ _ _ hA1
    by_cases han : a = n
    · have hg : goN 144 z = 0 := by
        show (if idx (z 3) = idx (z 1) then 0 else goN 143 (cyF z) + 1) = 0
        rw [hA.2.2.2.2.2.2.2.1.1.i3, hA.2.2.2.2.2.2.2.1.1.i1, if_pos han]
      simp only [han, not_true_eq_false, decide_false, cond_false]
      rw [hg]
      exact l312
    · simp only [han, not_false_eq_true, decide_true, cond_true]
      rw [hls (by omega)] at l312 ⊢
      exact l312
  intro e
  induction e with
  | zero =>
    intro k I ρ ak bk ls hA hG hE ha h6 hun hfin hk hk1000
    have hb := hG.1.bnd
    have hak : ¬ ak < n := fun q => by have := far_pos ⟨hG.1, hE⟩ q; have := (hun q).1; omega
    have hkN : ¬ k < N := fun q => by have := hk q; omega
    have LC := hA.2.2.2.2.2.1
    have d1 := (cc hG (k := 1) (by decide)).trans hG.1.h1
    have d3 := (cc hG (k := 3) (by decide)).trans hG.1.h3
    apply w_L_ahead_133
    simp (disch := omega) only [gl_5 LC, cond_true, cond_false, mI_def, idx_nI, d1, d3, icB_lt, hak, decide_false, icB_ne, not_true_eq_false, icB_ge, show N ≤ k by omega, decide_true]
    exact out hA (hfin hak)
  | succ e ih =>
    intro k I ρ ak bk ls hA hG hE ha h6 hun hfin hk hk1000
    have hb := hG.1.bnd
    have LC := hA.2.2.2.2.2.1
    have hbm := hA.2.2.2.2.2.2.2.1.1.bnd
    have d1 := (cc hG (k := 1) (by decide)).trans hG.1.h1
    have d3 := (cc hG (k := 3) (by decide)).trans hG.1.h3
    by_cases hgo : ak < n ∨ k < N
    · -- one cycle more
      have step : Ev xs 119 156 [.ref 0, .int x, .ref B, .ref (B + 1), .ref (B + 2), .ref (B + 3), .ref (B + 4), .ref (B + 5), .ref C, .ref (C + 1), .ref (C + 2), .ref (C + 3), .ref (C + 4), .ref (C + 5), .int (nI 0), .int ls, .int v, .int (nI 0), .int (nI N), .int (nI k), .int (nI (ak - a))] [] (I, ρ) Q := by
        apply w_L_ahead_156
        refine I_cycle LC hG hE fun I1 a1 b1 o hI1 hG1 hE1 ha1 h61 => ?_
        have hA1 := hA.up hI1
        rw [← itC_S] at hG1 hE1 h61
        have hb1 := hG1.1.bnd
        have hz6 : (itC (k + 1) z) 6 = z 6 + nI (a1 - a) := by rw [h61, h6, Int32.add_assoc, nI_add]; congr 2; omega
        have hv20 : nI (ak - a) + nI o = nI (a1 - a) := by rw [nI_add]; congr 1; omega
        -- behind the questions
        have behind : ∀ {I : In2} {ρ : Rh}, AH I0 I ρ z s zs tl B C a b n → LG (bl I C) (itC (k + 1) z) a1 b1 n → Ev xs 119 243 [.ref 0, .int x, .ref B, .ref (B + 1), .ref (B + 2), .ref (B + 3), .ref (B + 4), .ref (B + 5), .ref C, .ref (C + 1), .ref (C + 2), .ref (C + 3), .ref (C + 4), .ref (C + 5), .int (nI 0), .int ls, .int v, .int (nI 0), .int (nI N), .int (nI (k + 1)), .int (nI (a1 - a))] [] (I, ρ) Q := by
          intro I ρ hA hG2
          have LC := hA.2.2.2.2.2.1
          have LBm := hA.2.2.2.2.1
          have q1 := (cc hG2 (k := 1) (by decide)).trans hG2.1.h1
          have q3 := (cc hG2 (k := 3) (by decide)).trans hG2.1.h3
          have m1 := (hA.c (k := 1) (by decide)).trans hA.2.2.2.2.2.2.2.1.1.h1
          have m3 := (hA.c (k := 3) (by decide)).trans hA.2.2.2.2.2.2.2.1.1.h3
          have hsub : nI n - nI a = nI (n - a) := pk_sub (by omega)
          -- on with the loop
          have loop : ∀ ls', (a1 < n → ls' = nM) → (¬ a1 < n → a < n → ls' = nI (goN 144 z)) → Ev xs 119 133 [.ref 0, .int x, .ref B, .ref (B + 1), .ref (B + 2), .ref (B + 3), .ref (B + 4), .ref (B + 5), .ref C, .ref (C + 1), .ref (C + 2), .ref (C + 3), .ref (C + 4), .ref (C + 5), .int (nI 0), .int ls', .int v, .int (nI 0), .int (nI N), .int (nI (k + 1)), .int (nI (a1 - a))] [] (I, ρ) Q := by
            intro ls' hl1 hl2
            refine ih hA hG2 hE1 (by omega) hz6 (fun q => ?_) hl2 (fun q => by have := hk (by omega); omega) (by
              rcases hgo with q | q
              · have := (hun q).2.1; omega
              · omega)
            have hak : ak < n := by omega
            obtain ⟨u1, u2, u3, u4⟩ := hun hak
            have hf := (far_dec ⟨hG.1, hE⟩ hak (by rw [← itC_S]; exact ⟨hG1.1, hE1⟩)).1
            rw [← itC_S] at hf
            have hp := far_pos ⟨hG1.1, hE1⟩ q
            refine ⟨by omega, by omega, hl1 q, ?_⟩
            obtain ⟨f, hf144⟩ : ∃ f, 144 - k = f + 1 := ⟨143 - k, by omega⟩
            rw [hf144] at u4
            have hg : goN (f + 1) (itC k z) = goN f (cyF (itC k z)) + 1 := by
              show (if idx ((itC k z) 3) = idx ((itC k z) 1) then 0 else goN f (cyF (itC k z)) + 1) = _
              rw [hG.1.i3, hG.1.i1, if_neg (by omega)]
            rw [hg, ← itC_S] at u4
            rw [u4, show 144 - (k + 1) = f by omega]
            omega
          apply w_L_ahead_243
          by_cases h1n : a1 = n
          · subst h1n
            simp (disch := omega) only [gl_5 LC, gl_5 LBm, cond_true, cond_false, mI_def, idx_nI, q1, q3, m1, m3, hsub, icB_ne, not_true_eq_false, decide_false]
            by_cases hak : ak < a1
            · obtain ⟨u1, u2, u3, u4⟩ := hun hak
              subst u3
              simp only [not_true_eq_false, decide_false, cond_false]
              refine loop _ (fun q => absurd q (Nat.lt_irrefl _)) fun _ _ => ?_
              obtain ⟨f, hf144⟩ : ∃ f, 144 - k = f + 1 := ⟨143 - k, by have := far_pos ⟨hG.1, hE⟩ hak; omega⟩
              rw [hf144] at u4
              have hg : goN (f + 1) (itC k z) = goN f (cyF (itC k z)) + 1 := by
                show (if idx ((itC k z) 3) = idx ((itC k z) 1) then 0 else goN f (cyF (itC k z)) + 1) = _
                rw [hG.1.i3, hG.1.i1, if_neg (by omega)]
              have hg0 : goN f (cyF (itC k z)) = 0 := by
                rw [← itC_S]
                cases f with
                | zero => rfl
                | succ f =>
                  show (if idx ((itC (k + 1) z) 3) = idx ((itC (k + 1) z) 1) then 0 else goN f (cyF (itC (k + 1) z)) + 1) = _
                  rw [hG1.1.i3, hG1.1.i1, if_pos rfl]
              rw [u4, hg, hg0]
            · by_cases han : a < a1
              · have hl := hfin hak han
                have hne : ¬ ls = nM := by rw [hl]; exact nM_ne (by omega)
                simp only [hne, not_false_eq_true, decide_true, cond_true]
                exact loop ls (fun q => absurd q (Nat.lt_irrefl _)) fun _ _ => hl
              · by_cases hl : ls = nM
                · subst hl
                  simp only [not_true_eq_false, decide_false, cond_false]
                  exact loop _ (fun q => absurd q (Nat.lt_irrefl _)) fun _ q => absurd q han
                · simp only [hl, not_false_eq_true, decide_true, cond_true]
                  exact loop ls (fun q => absurd q (Nat.lt_irrefl _)) fun _ q => absurd q han
          · have h1n' : ¬ a1 = n := h1n
            simp (disch := omega) only [gl_5 LC, cond_true, cond_false, mI_def, idx_nI, q1, q3, icB_ne, nI_eqI, h1n', not_false_eq_true, not_true_eq_false, decide_true, decide_false]
            exact loop ls (fun q => (hun (by omega)).2.2.1) fun q => absurd (show a1 < n by omega) q
        rw [QI_i, icB_ne, decide_eq_false (fun q => q rfl), cond_false, nI_add, hv20]
        by_cases hkN : k + 1 = N
        · rw [icB_ne, decide_eq_false (fun q => q (by rw [hkN])), cond_false, gc_O hA1.1, cond_true]
          refine T_ifRun hA1.t hN1 (by omega) (by decide) fun I2 ρ2 hT2 => ?_
          have hA2 := hA1.tg hT2
          have hv0 : irV z N 0 = nI (a1 - a) := by
            show (itC N z) 6 - z 6 = _
            rw [← hkN, hz6, i_ad]
          rw [QI_i, hv0, icB_ne, decide_eq_false (fun q => q rfl), cond_false, gc_O hA2.1, cond_true]
          refine T_ifRun hA2.t hN1 (by omega) (by decide) fun I3 ρ3 hT3 => ?_
          have hA3 := hA2.tg hT3
          have hbl3 : bl I3 C = bl I1 C := (hT3.bl hA1.2.2.2.2.2.1.1).trans (hT2.bl hA1.2.2.2.2.2.1.1)
          have hG3 : LG (bl I3 C) (itC (k + 1) z) a1 b1 n := by rw [hbl3]; exact hG1
          have hv1 : irV z N 1 = (itC (k + 1) z) 4 - z 4 := by rw [hkN]; rfl
          have q4 := cc hG3 (k := 4) (by decide)
          have m4 := hA3.c (k := 4) (by decide)
          rw [QI_i, hv1]
          simp (disch := omega) only [gl_5 hA3.2.2.2.2.2.1, gl_5 hA3.2.2.2.2.1, cond_true, mI_def, idx_nI, q4, m4, icB_ne, not_true_eq_false, decide_false, cond_false, gc_O hA3.1]
          refine T_ifRun hA3.t hN1 (by omega) (by decide) fun I4 ρ4 hT4 => ?_
          have hA4 := hA3.tg hT4
          have hG4 : LG (bl I4 C) (itC (k + 1) z) a1 b1 n := by rw [hT4.bl hA1.2.2.2.2.2.1.1]; exact hG3
          have hv2 : irV z N 2 = (itC (k + 1) z) 2 - (itC (k + 1) z) 3 := by rw [hkN]; rfl
          have q2 := cc hG4 (k := 2) (by decide)
          have q3 := cc hG4 (k := 3) (by decide)
          rw [QI_i, hv2]
          simp (disch := omega) only [gl_5 hA4.2.2.2.2.2.1, cond_true, mI_def, idx_nI, q2, q3, icB_eq, decide_true]
          rw [← hkN] at behind ⊢
          exact behind hA4 hG4
        · rw [icB_ne, decide_eq_true (not_nI (by omega) (by omega) hkN), cond_true]
          exact behind hA1 hG1
      apply w_L_ahead_133
      by_cases hak : ak < n
      · simp (disch := omega) only [gl_5 LC, cond_true, mI_def, idx_nI, d1, d3, icB_lt, hak, decide_true]
        exact step
      · have hkN : ¬ N ≤ k := by omega
        simp (disch := omega) only [gl_5 LC, cond_true, cond_false, mI_def, idx_nI, d1, d3, icB_lt, hak, decide_false, icB_ne, not_true_eq_false, icB_ge, hkN]
        exact step
    · have hak : ¬ ak < n := fun q => hgo (Or.inl q)
      have hkN : N ≤ k := Nat.not_lt.mp fun q => hgo (Or.inr q)
      apply w_L_ahead_133
      simp (disch := omega) only [gl_5 LC, cond_true, cond_false, mI_def, idx_nI, d1, d3, icB_lt, hak, decide_false, icB_ne, not_true_eq_false, icB_ge, hkN, decide_true]
      exact out hA (hfin hak)
end Ahead
