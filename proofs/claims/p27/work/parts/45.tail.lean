/-! behind the numbers there is nothing; what is counted -/
def Tl (z : Zt) : Prop := ∀ k, 324 ≤ k → z k = 0
theorem Tl.wl {z : Zt} {i f : Nat} {v : Int32} (h : Tl z) (hi : i < 24) (hf : f < 12) : Tl (lay z i f v) := fun k hk => by
  unfold lay; rw [uz_ne (by omega)]; exact h k hk
theorem Tl.wu {z : Zt} {k : Nat} {v : Int32} (h : Tl z) (hk : k < 324) : Tl (uz z k v) := fun j hj => by rw [uz_ne (by omega)]; exact h j hj
theorem Tl.zap : ∀ {d l : Nat} {z : Zt}, Tl z → l + d ≤ 24 → Tl (zap d l z) := by
  intro d
  induction d with
  | zero => intro l z h _; exact h
  | succ d ih => intro l z h hl; exact ih (h.wl (by omega) (by decide)) (by omega)
theorem Tl.fnF {z : Zt} {a b i : Nat} (h : Tl z) (hi : i < b) (hb : b ≤ 24) : Tl (fnF z a b i) := by
  unfold Jvm.Pilot.CAlibiWindowLaw_law_r2562_ce93eb.fnF
  have h1 : Tl (lay z i 7 (nI 2)) := h.wl (by omega) (by decide)
  split
  · exact h1.wl (by omega) (by decide)
  · split
    · unfold fnL fnE
      exact ((((h1.wl (by omega) (by decide)).wl (by omega) (by decide)).wl (by omega) (by decide)).wu (by decide)).wu (by decide)
    · split
      · unfold fnS
        dsimp only
        generalize hfs : fstF _ (b - (i + 1)) (i + 1) = o
        rcases o with _ | l
        · exact (h1.wl (by omega) (by decide)).wl (by omega) (by decide)
        · have hl := fstF_some hfs
          unfold rpl
          exact Tl.zap (((((((h1.wl (by omega) (by decide)).wl (by omega) (by decide)).wu (by decide)).wu (by decide)).wl (by omega) (by decide)).wl (by omega) (by decide))) (by omega)
      · exact h1.wl (by omega) (by decide)
theorem Tl.wkS {z : Zt} {a b i : Nat} (h : Tl z) (hi : i < b) (hb : b ≤ 24) : Tl (wkS z a b i) := by
  unfold Jvm.Pilot.CAlibiWindowLaw_law_r2562_ce93eb.wkS
  split
  · split
    · exact (h.wl (by omega) (by decide)).fnF hi hb
    · exact h.wl (by omega) (by decide)
  · exact h
theorem Tl.wkL {a b : Nat} (hb : b ≤ 24) : ∀ {d i : Nat} {z : Zt}, Tl z → i + d ≤ b → Tl (wkL a b d i z) := by
  intro d
  induction d with
  | zero => intro i z h _; exact h
  | succ d ih => intro i z h hi; exact ih (h.wkS (by omega) hb) (by omega)
theorem Tl.stL {a : Nat} : ∀ {d i w : Nat} {z : Zt}, Tl z → i + d ≤ 24 → Tl (stL a d i w z) := by
  intro d
  induction d with
  | zero => intro i w z h _; rw [stL_n]; exact h
  | succ d ih =>
    intro i w z h hi
    rcases w with _ | w
    · rw [stL_0]; exact h
    · rw [stL_s]; split
      · exact ih ((h.wl (by omega) (by decide)).wl (by omega) (by decide)) (by omega)
      · exact ih h (by omega)
theorem Tl.isL {a n w : Nat} (hn : n ≤ 24) : ∀ {k b : Nat} {z : Zt}, Tl z → Tl (isL a n w k b z) := by
  intro k
  induction k with
  | zero => intro b z h; exact h
  | succ k ih =>
    intro b z h
    rw [isL_s]; split
    · rename_i hc; exact ih ((h.wl (by omega) (by decide)).wu (by decide))
    · exact h
theorem Tl.rtF {z : Zt} {a b n : Nat} (h : Tl z) (h0 : Inv z a b n) (hab : a < b) (hs : pt z a 7 = nI 2) : Tl (rtF z a) := by
  have hb := h0.1.bnd
  obtain ⟨hw, hd⟩ := h0.1.row (i := a) (by omega)
  unfold Jvm.Pilot.CAlibiWindowLaw_law_r2562_ce93eb.rtF
  refine Tl.wu (Tl.wu (Tl.wl ?_ (by omega) (by decide)) (by decide)) (by decide)
  by_cases hk : pt z a 0 = nI 4
  · obtain ⟨x, hx, he⟩ : ∃ x, x < 16 ∧ pt z a 9 = nI x := by
      rcases h0.2 a (Nat.le_refl a) hab with e | ⟨e, _⟩ | ⟨_, e⟩
      · rw [hs] at e; exact absurd e (not_nI (by decide) (by decide) (by decide))
      · rw [hs] at e; exact absurd e (not_nI (by decide) (by decide) (by decide))
      · exact e (Or.inr hk)
    rw [if_pos hk, he, idx_nI (by omega)]; exact h.wu (by omega)
  · obtain ⟨x, hx, he⟩ := hw.tgt hk
    rw [if_neg hk, he, idx_nI (by omega)]; exact h.wu (by omega)
theorem Tl.retL {b n : Nat} : ∀ {k a : Nat} {z : Zt}, Tl z → Inv z a b n → Tl (retL k z) := by
  intro k
  induction k with
  | zero => intro a z h _; exact h
  | succ k ih =>
    intro a z h h0
    unfold Jvm.Pilot.CAlibiWindowLaw_law_r2562_ce93eb.retL
    rw [h0.1.i3, h0.1.i2]
    by_cases hc : a < b ∧ pt z a 7 = nI 2
    · rw [if_pos hc]; exact ih (h.rtF h0 hc.1 hc.2) (Inv_rtF h0 hc.1 hc.2)
    · rw [if_neg hc]; exact h
theorem Tl.cyF {z : Zt} {a b n : Nat} (h : Tl z) (h0 : Inv z a b n) : Tl (cyF z) := by
  obtain ⟨a', b', ha, i1, i2, i3, hb, i4⟩ := Inv_cyF h0
  have hbn := i1.1.bnd
  have t1 : Tl (cy1 z) := h.retL h0
  have t2 : Tl (cy2 (cy1 z)) := by unfold cy2; rw [i1.1.i3, i1.1.i2]; exact Tl.wkL (by omega) t1 (by omega)
  have t3 : Tl (cy3 (cy2 (cy1 z))) := by unfold cy3; rw [i2.1.i3, i2.1.i2]; exact Tl.stL t2 (by omega)
  have t4 : Tl (cy4 (cy3 (cy2 (cy1 z)))) := by unfold cy4; rw [i3.1.i1]; exact Tl.isL (by omega) t3
  unfold Jvm.Pilot.CAlibiWindowLaw_law_r2562_ce93eb.cyF
  exact t4.wu (by decide)
theorem Tl.itC {n : Nat} : ∀ {k a b : Nat} {z : Zt}, Tl z → Inv z a b n → Tl (itC k z) := by
  intro k
  induction k with
  | zero => intro a b z h _; exact h
  | succ k ih => intro a b z h h0; obtain ⟨a', b', -, -, -, -, -, h1⟩ := Inv_cyF h0; exact ih (h.cyF h0) h1
theorem Tl.goZ {n : Nat} : ∀ {k a b : Nat} {z : Zt}, Tl z → Inv z a b n → Tl (goZ k z) := by
  intro k
  induction k with
  | zero => intro a b z h _; exact h
  | succ k ih =>
    intro a b z h h0
    unfold Jvm.Pilot.CAlibiWindowLaw_law_r2562_ce93eb.goZ
    split
    · exact h
    · obtain ⟨a', b', -, -, -, -, -, h1⟩ := Inv_cyF h0; exact ih (h.cyF h0) h1
theorem Tl.bgL : ∀ {d i : Nat} {z : Zt}, Tl z → i + d ≤ 24 → Tl (bgL d i z) := by
  intro d
  induction d with
  | zero => intro i z h _; exact h
  | succ d ih => intro i z h hi; exact ih ((h.wl (by omega) (by decide)).wl (by omega) (by decide)) (by omega)
theorem Tl.bgF {z : Zt} (h : Tl z) : Tl (bgF z) := Tl.bgL ((h.wu (by decide)).wu (by decide)) (by decide)
theorem Tl.eq {z z' : Zt} (h : Tl z) (h' : Tl z') (he : ∀ k, k < 324 → z' k = z k) : z' = z := by
  funext k
  by_cases hk : k < 324
  · exact he k hk
  · rw [h' k (by omega), h k (by omega)]
/-- what is counted: cycles, loads, early ones -/
def Cg (z : Zt) (cy : Nat) : Prop := z 0 = nI cy ∧ ∃ l e, z 7 = nI l ∧ z 8 = nI e ∧ e ≤ l ∧ l ≤ 24 * cy
/-- loads and early ones, with how many more there are at most -/
def Ld (z : Zt) (m : Nat) : Prop := ∃ l e, z 7 = nI l ∧ z 8 = nI e ∧ e ≤ l ∧ l ≤ m
theorem Ld.same {z z' : Zt} {m : Nat} (h : Ld z m) (h7 : z' 7 = z 7) (h8 : z' 8 = z 8) : Ld z' m := by
  obtain ⟨l, e, h1, h2, h3⟩ := h; exact ⟨l, e, h7.trans h1, h8.trans h2, h3⟩
theorem Ld.up {z : Zt} {m m' : Nat} (h : Ld z m) (hm : m ≤ m') : Ld z m' := by
  obtain ⟨l, e, h1, h2, h3, h4⟩ := h; exact ⟨l, e, h1, h2, h3, by omega⟩
theorem Ld.fnF {z : Zt} {a b i m : Nat} (h : Ld z m) : Ld (fnF z a b i) (m + 1) := by
  unfold Jvm.Pilot.CAlibiWindowLaw_law_r2562_ce93eb.fnF
  split
  · exact (h.same (by rw [lay_lo (by decide), lay_lo (by decide)]) (by rw [lay_lo (by decide), lay_lo (by decide)])).up (by omega)
  · split
    · obtain ⟨l, e, h1, h2, h3, h4⟩ := h
      unfold fnL fnE
      cases hop : opn (lay z i 7 (nI 2)) a i
      · refine ⟨l + 1, e, ?_, ?_, by omega, by omega⟩
        · rw [uz_ne (by decide), uz_at, lay_lo (by decide), h1, nI_add]
        · rw [uz_at, lay_lo (by decide), h2, hop, bI_f, nI_add, Nat.add_zero]
      · refine ⟨l + 1, e + 1, ?_, ?_, by omega, by omega⟩
        · rw [uz_ne (by decide), uz_at, lay_lo (by decide), h1, nI_add]
        · rw [uz_at, lay_lo (by decide), h2, hop, bI_t, nI_add]
    · split
      · unfold fnS
        dsimp only
        generalize hfs : fstF _ (b - (i + 1)) (i + 1) = o
        rcases o with _ | l
        · exact (h.same (by simp (disch := omega) only [lay_lo]) (by simp (disch := omega) only [lay_lo])).up (by omega)
        · have e : ∀ (x : Zt) k, k = 7 ∨ k = 8 → (rpl x b l) k = x k := fun x k hk => by unfold rpl; rw [zap_lo (by omega)]; simp (disch := omega) only [lay_lo, uz_ne]
          show Ld (rpl (lay (lay (lay z i 7 (nI 2)) i 9 _) i 11 _) b l) (m + 1)
          exact (h.same (by rw [e _ _ (by decide)]; simp (disch := omega) only [lay_lo]) (by rw [e _ _ (by decide)]; simp (disch := omega) only [lay_lo])).up (by omega)
      · exact (h.same (by rw [lay_lo (by decide), lay_lo (by decide)]) (by rw [lay_lo (by decide), lay_lo (by decide)])).up (by omega)
theorem Ld.wkS {z : Zt} {a b i m : Nat} (h : Ld z m) : Ld (wkS z a b i) (m + 1) := by
  unfold Jvm.Pilot.CAlibiWindowLaw_law_r2562_ce93eb.wkS
  split
  · split
    · exact (h.same (lay_lo (by decide)) (lay_lo (by decide))).fnF
    · exact (h.same (lay_lo (by decide)) (lay_lo (by decide))).up (by omega)
  · exact h.up (by omega)
theorem Ld.wkL {a b : Nat} : ∀ {d i m : Nat} {z : Zt}, Ld z m → Ld (wkL a b d i z) (m + d) := by
  intro d
  induction d with
  | zero => intro i m z h; exact h
  | succ d ih => intro i m z h; have := ih (i := i + 1) (h.wkS (a := a) (b := b) (i := i)); exact this.up (by omega)
theorem Cg.cyF {z : Zt} {a b n cy : Nat} (h : Cg z cy) (h0 : Inv z a b n) : Cg (cyF z) (cy + 1) := by
  obtain ⟨hc, hl⟩ := h
  obtain ⟨a', b', ha, i1, i2, i3, hb, i4⟩ := Inv_cyF h0
  have hbn := i1.1.bnd
  have l1 : Ld (cy1 z) (24 * cy) := Ld.same hl (retL_lo (by decide) h0) (retL_lo (by decide) h0)
  have l2 : Ld (cy2 (cy1 z)) (24 * cy + (b - a')) := by unfold cy2; rw [i1.1.i3, i1.1.i2]; exact l1.wkL
  refine ⟨?_, ?_⟩
  · unfold Jvm.Pilot.CAlibiWindowLaw_law_r2562_ce93eb.cyF
    rw [uz_at, cy4_lo (by decide), cy3_lo (by decide), cy2_lo ⟨by decide, by decide⟩, show (cy1 z) 0 = z 0 from retL_lo (by decide) h0, hc, nI_add]
  · refine (l2.same ?_ ?_).up (by omega)
    · unfold Jvm.Pilot.CAlibiWindowLaw_law_r2562_ce93eb.cyF; rw [uz_ne (by decide), cy4_lo (by decide), cy3_lo (by decide)]
    · unfold Jvm.Pilot.CAlibiWindowLaw_law_r2562_ce93eb.cyF; rw [uz_ne (by decide), cy4_lo (by decide), cy3_lo (by decide)]
theorem Cg.itC {n : Nat} : ∀ {k a b cy : Nat} {z : Zt}, Cg z cy → Inv z a b n → Cg (itC k z) (cy + k) := by
  intro k
  induction k with
  | zero => intro a b cy z h _; exact h
  | succ k ih =>
    intro a b cy z h h0
    obtain ⟨a', b', -, -, -, -, -, h1⟩ := Inv_cyF h0
    have := ih (h.cyF h0) h1
    rw [show cy + (k + 1) = cy + 1 + k by omega]; exact this
theorem Cg.bgF {z : Zt} {cy : Nat} (h : Cg z cy) : Cg (bgF z) cy := by
  obtain ⟨h0, l, e, h1, h2, h3⟩ := h
  exact ⟨(bgF_lo (by decide) (by decide) (by decide)).trans h0, l, e, (bgF_lo (by decide) (by decide) (by decide)).trans h1, (bgF_lo (by decide) (by decide) (by decide)).trans h2, h3⟩
/-! the plain order in the class -/
theorem k_plain5 {xs : Scr} {I : In2} {ρ : Rh} {m : Nat} (hW : Rw ρ) (hB : Bs m) {z : Zt} {Q : Post} {a b n : Nat} (h0 : Inv0 z a b n) : ∀ {d i : Nat} {c : In2} {w : Gh} {v2 v3 v4 : Value}, i + d = n → Gok w → c 0 6 = nI n → (∀ j f, j < n → f < 5 → c (6 + j) f = pt z j f) → (∀ k, k < 8 → c 3 k = w.1 k) → (∀ k, k < 16 → c 4 k = w.2 k) →
    (∀ c', (∀ k, k < 8 → c' 3 k = (plL z d i w).1 k) → (∀ k, k < 16 → c' 4 k = (plL z d i w).2 k) → Q (.inl none) (pc I m c', ρ)) → Ev xs 41 5 [.ref m, .int (nI i), v2, v3, v4] [] (pc I m c, ρ) Q := by
  have hb := h0.bnd
  intro d
  induction d with
  | zero =>
    intro i c w v2 v3 v4 hi hw h6 hrow hg hh h
    obtain rfl : i = n := hi
    apply w_X2_carryOutPlainly_5
    simp (disch := omega) only [QI_i, QV_v, QA_a, mR_def, Option.getD_some, mI_def, idx_nI, setI_def, gm_0 hW hB, gm_1 hW hB, gm_2 hW hB, gm_3 hW hB, gm_4 hW hB, gm_O hW hB, gm_N hW hB, gm_P hW hB, gR_some, Bool.and_self, cond_true, cond_false, up2_pc, up2_pc0, pc_at, pc_at0, up2_at, up2_ne, h6, icB_ge, Nat.le_refl, decide_true]
    exact h c hg hh
  | succ d ih =>
    intro i c w v2 v3 v4 hi hw h6 hrow hg hh h
    have hin : ¬ n ≤ i := by omega
    have hi24 : i < 24 := by omega
    obtain ⟨hr, -⟩ := h0.row (i := i) (by omega)
    have r0 := hrow i 0 (by omega) (by decide)
    have r1 := hrow i 1 (by omega) (by decide)
    have r2 := hrow i 2 (by omega) (by decide)
    have r3 := hrow i 3 (by omega) (by decide)
    have r4 := hrow i 4 (by omega) (by decide)
    have nx : ∀ c' v2 v3 v4, (∀ o k, ¬ (o = 3 ∨ o = 4 ∨ (o = 6 + i ∧ (k = 11 ∨ k = 13))) → c' o k = c o k) → (∀ k, k < 8 → c' 3 k = (plS z i w).1 k) → (∀ k, k < 16 → c' 4 k = (plS z i w).2 k) → Ev xs 41 5 [.ref m, .int (nI (i + 1)), v2, v3, v4] [] (pc I m c', ρ) Q := fun c' v2 v3 v4 hc g1 g2 =>
      ih (i := i + 1) (by omega) (Gok_plS h0 (by omega) hw) (by rw [hc _ _ (by omega)]; exact h6) (fun j f hj hf => by rw [hc _ _ (by omega)]; exact hrow j f hj hf) g1 g2 h
    have rb : ∀ {p : Int32} {Q' : Post}, (p = nM ∨ regOk p) → (∀ v, (∀ q, q < 8 → p = nI q → v = w.1 q) → Q' (.inl (some (.int v))) (pc I m c, ρ)) → Ev xs 18 0 [.ref m, .int p] [] (pc I m c, ρ) Q' := by
      intro p Q' hp hQ
      rcases hp with hp | ⟨q, hq, hp⟩
      · subst hp; rw [k_regBitsM]; exact hQ _ fun q hq e => absurd e.symm (nM_ne (by omega))
      · subst hp; rw [k_regBits hW hB hq]; exact hQ _ fun q' hq' e => by rw [nI_eqI (by omega) (by omega)] at e; rw [← e]; exact hg q hq
    obtain ⟨o1, o2⟩ := hr.opr
    apply w_X2_carryOutPlainly_5
    simp (disch := omega) only [QI_i, QV_v, QA_a, mR_def, Option.getD_some, mI_def, idx_nI, setI_def, gm_0 hW hB, gm_1 hW hB, gm_2 hW hB, gm_3 hW hB, gm_4 hW hB, gm_O hW hB, gm_N hW hB, gm_P hW hB, gR_some, Bool.and_self, cond_true, cond_false, up2_pc, up2_pc0, pc_at, pc_at0, up2_at, up2_ne, h6, icB_ge, hin, decide_false]
    rw [k_at hW hB hi24]
    simp (disch := omega) only [QI_i, QV_v, QA_a, mR_def, Option.getD_some, mI_def, idx_nI, setI_def, gm_0 hW hB, gm_1 hW hB, gm_2 hW hB, gm_3 hW hB, gm_4 hW hB, gm_O hW hB, gm_N hW hB, gm_P hW hB, gR_some, Bool.and_self, cond_true, cond_false, up2_pc, up2_pc0, pc_at, pc_at0, up2_at, up2_ne, r2]
    refine rb o1 fun p hp => ?_
    simp (disch := omega) only [QI_i, QV_v, QA_a, mR_def, Option.getD_some, mI_def, idx_nI, setI_def, gm_0 hW hB, gm_1 hW hB, gm_2 hW hB, gm_3 hW hB, gm_4 hW hB, gm_O hW hB, gm_N hW hB, gm_P hW hB, gR_some, Bool.and_self, cond_true, cond_false, up2_pc, up2_pc0, pc_at, pc_at0, up2_at, up2_ne, r3]
    refine rb o2 fun q hq => ?_
    simp (disch := omega) only [QI_i, QV_v, QA_a, mR_def, Option.getD_some, mI_def, idx_nI, setI_def, gm_0 hW hB, gm_1 hW hB, gm_2 hW hB, gm_3 hW hB, gm_4 hW hB, gm_O hW hB, gm_N hW hB, gm_P hW hB, gR_some, Bool.and_self, cond_true, cond_false, up2_pc, up2_pc0, pc_at, pc_at0, up2_at, up2_ne, r0]
    by_cases k4 : pt z i 0 = nI 4
    · obtain ⟨⟨x, hx, hxe⟩, ⟨y, hy, hye⟩, o, ho, hoe⟩ := hr.k4 k4
      have ep := hp x hx hxe
      have eq := hq y hy hye
      have hv : InR p := by rw [ep]; exact hw.1 x hx
      have hc := cellF_lt p o
      have hpl : plS z i w = (w.1, uz w.2 (cellF p o) q) := by
        unfold plS; rw [if_pos k4, hxe, hye, hoe, idx_nI (by omega), idx_nI (by omega), idx_nI (by omega), ← ep, ← eq]
      rw [hpl] at nx
      simp (disch := omega) only [k4, icB_ne, not_true_eq_false, decide_false, cond_false, QI_i, QV_v, QA_a, mR_def, Option.getD_some, mI_def, idx_nI, setI_def, gm_0 hW hB, gm_1 hW hB, gm_2 hW hB, gm_3 hW hB, gm_4 hW hB, gm_O hW hB, gm_N hW hB, gm_P hW hB, gR_some, Bool.and_self, cond_true, cond_false, up2_pc, up2_pc0, pc_at, pc_at0, up2_at, up2_ne, r4, hoe]
      rw [e_placeOf hv ho]
      simp (disch := omega) only [QI_i, QV_v, QA_a, mR_def, Option.getD_some, mI_def, idx_nI, setI_def, gm_0 hW hB, gm_1 hW hB, gm_2 hW hB, gm_3 hW hB, gm_4 hW hB, gm_O hW hB, gm_N hW hB, gm_P hW hB, gR_some, Bool.and_self, cond_true, cond_false, up2_pc, up2_pc0, pc_at, pc_at0, up2_at, up2_ne]
      rw [k_put4 hW hB (i := i) (x := cellF p o) hi24 hc (by simp (disch := omega) only [up2_ne]; exact r0.trans k4) (by simp (disch := omega) only [up2_ne, up2_at])]
      simp (disch := omega) only [QI_i, QV_v, QA_a, mR_def, Option.getD_some, mI_def, idx_nI, setI_def, gm_0 hW hB, gm_1 hW hB, gm_2 hW hB, gm_3 hW hB, gm_4 hW hB, gm_O hW hB, gm_N hW hB, gm_P hW hB, gR_some, Bool.and_self, cond_true, cond_false, up2_pc, up2_pc0, pc_at, pc_at0, up2_at, up2_ne, nI_add]
      refine nx _ _ _ _ (fun o' k' ho' => by simp (disch := omega) only [up2_ne]) (fun k hk => by simp (disch := omega) only [up2_ne]; exact hg k hk) fun k hk => ?_
      by_cases e : k = cellF p o
      · rw [e]; simp (disch := omega) only [up2_at, uz_at]
      · simp (disch := omega) only [up2_ne, uz_ne]; exact hh k hk
    · obtain ⟨t, ht, hte⟩ := hr.tgt k4
      have fin : ∀ (v : Int32) (Q' : Post), plS z i w = (uz w.1 t v, w.2) → (∀ c', (∀ o k, ¬ (o = 3 ∨ o = 4 ∨ (o = 6 + i ∧ (k = 11 ∨ k = 13))) → c' o k = c o k) → (∀ k, k < 8 → c' 3 k = (plS z i w).1 k) → (∀ k, k < 16 → c' 4 k = (plS z i w).2 k) → Q' (.inl none) (pc I m c', ρ)) →
          Ev xs 20 0 [.ref m, .ref (m + (6 + i))] [] (pc I m (up2 c (6 + i) 13 v), ρ) Q' := by
        intro v Q' hpl hQ'
        rw [k_putR hW hB (i := i) (x := t) hi24 ht (by simp (disch := omega) only [up2_ne]; rw [r0]; exact k4) (by simp (disch := omega) only [up2_ne]; exact r1.trans hte)]
        rw [hpl] at hQ'
        refine hQ' _ (fun o' k' ho' => by simp (disch := omega) only [up2_ne]) (fun k hk => ?_) fun k hk => by simp (disch := omega) only [up2_ne]; exact hh k hk
        by_cases e : k = t
        · rw [e]; simp (disch := omega) only [up2_at, uz_at]
        · simp (disch := omega) only [up2_ne, uz_ne]; exact hg k hk
      have hti : idx (pt z i 1) = t := by rw [hte, idx_nI (by omega)]
      simp (disch := omega) only [k4, icB_ne, not_false_eq_true, decide_true, cond_true, QI_i, QV_v, QA_a, mR_def, Option.getD_some, mI_def, idx_nI, setI_def, gm_0 hW hB, gm_1 hW hB, gm_2 hW hB, gm_3 hW hB, gm_4 hW hB, gm_O hW hB, gm_N hW hB, gm_P hW hB, gR_some, Bool.and_self, cond_true, cond_false, up2_pc, up2_pc0, pc_at, pc_at0, up2_at, up2_ne, r0]
      by_cases k3 : pt z i 0 = nI 3
      · obtain ⟨⟨x, hx, hxe⟩, -, o, ho, hoe⟩ := hr.k3 k3
        have ep := hp x hx hxe
        have hv : InR p := by rw [ep]; exact hw.1 x hx
        have hc := cellF_lt p o
        simp (disch := omega) only [k3, not_true_eq_false, decide_false, cond_false, QI_i, QV_v, QA_a, mR_def, Option.getD_some, mI_def, idx_nI, setI_def, gm_0 hW hB, gm_1 hW hB, gm_2 hW hB, gm_3 hW hB, gm_4 hW hB, gm_O hW hB, gm_N hW hB, gm_P hW hB, gR_some, Bool.and_self, cond_true, cond_false, up2_pc, up2_pc0, pc_at, pc_at0, up2_at, up2_ne, r4, hoe]
        rw [e_placeOf hv ho]
        simp (disch := omega) only [QI_i, QV_v, QA_a, mR_def, Option.getD_some, mI_def, idx_nI, setI_def, gm_0 hW hB, gm_1 hW hB, gm_2 hW hB, gm_3 hW hB, gm_4 hW hB, gm_O hW hB, gm_N hW hB, gm_P hW hB, gR_some, Bool.and_self, cond_true, cond_false, up2_pc, up2_pc0, pc_at, pc_at0, up2_at, up2_ne]
        rw [k_cellBits hW hB hc]
        simp (disch := omega) only [QI_i, QV_v, QA_a, mR_def, Option.getD_some, mI_def, idx_nI, setI_def, gm_0 hW hB, gm_1 hW hB, gm_2 hW hB, gm_3 hW hB, gm_4 hW hB, gm_O hW hB, gm_N hW hB, gm_P hW hB, gR_some, Bool.and_self, cond_true, cond_false, up2_pc, up2_pc0, pc_at, pc_at0, up2_at, up2_ne, nI_add]
        refine fin _ _ ?_ fun c' g1 g2 g3 => nx c' _ _ _ g1 g2 g3
        unfold plS
        rw [if_neg k4, hti, if_neg (by rw [k3]; exact not_nI (by decide) (by decide) (by decide)), if_pos k3, hxe, hoe, idx_nI (by omega), idx_nI (by omega), ← ep, hh _ hc]
      · simp (disch := omega) only [k3, not_false_eq_true, decide_true, cond_true, QI_i, QV_v, QA_a, mR_def, Option.getD_some, mI_def, idx_nI, setI_def, gm_0 hW hB, gm_1 hW hB, gm_2 hW hB, gm_3 hW hB, gm_4 hW hB, gm_O hW hB, gm_N hW hB, gm_P hW hB, gR_some, Bool.and_self, cond_true, cond_false, up2_pc, up2_pc0, pc_at, pc_at0, up2_at, up2_ne, r0, r4]
        by_cases k0 : pt z i 0 = nI 0
        · obtain ⟨-, -, hn⟩ := hr.k0 k0
          rw [e_floatsSet k0 hn]
          simp (disch := omega) only [QI_i, QV_v, QA_a, mR_def, Option.getD_some, mI_def, idx_nI, setI_def, gm_0 hW hB, gm_1 hW hB, gm_2 hW hB, gm_3 hW hB, gm_4 hW hB, gm_O hW hB, gm_N hW hB, gm_P hW hB, gR_some, Bool.and_self, cond_true, cond_false, up2_pc, up2_pc0, pc_at, pc_at0, up2_at, up2_ne, nI_add]
          refine fin _ _ ?_ fun c' g1 g2 g3 => nx c' _ _ _ g1 g2 g3
          unfold plS
          rw [if_neg k4, hti, if_pos k0]
        · obtain ⟨k12, ⟨x, hx, hxe⟩, ⟨y, hy, hye⟩, -⟩ := hr.k12 k0 k3 k4
          have ep := hp x hx hxe
          have eq := hq y hy hye
          have hv : InR p := by rw [ep]; exact hw.1 x hx
          have hv2 : InR q := by rw [eq]; exact hw.1 y hy
          rw [e_floatsResult _ k12 hv hv2]
          simp (disch := omega) only [QI_i, QV_v, QA_a, mR_def, Option.getD_some, mI_def, idx_nI, setI_def, gm_0 hW hB, gm_1 hW hB, gm_2 hW hB, gm_3 hW hB, gm_4 hW hB, gm_O hW hB, gm_N hW hB, gm_P hW hB, gR_some, Bool.and_self, cond_true, cond_false, up2_pc, up2_pc0, pc_at, pc_at0, up2_at, up2_ne, nI_add]
          refine fin _ _ ?_ fun c' g1 g2 g3 => nx c' _ _ _ g1 g2 g3
          unfold plS
          rw [if_neg k4, hti, if_neg k0, if_neg k3, hxe, hye, idx_nI (by omega), idx_nI (by omega), ← ep, ← eq]
theorem k_plain {xs : Scr} {I : In2} {ρ : Rh} {Q : Post} {m : Nat} {c : In2} (hW : Rw ρ) (hB : Bs m) {z : Zt} {a b n : Nat} {w : Gh} (hG : Big c z a b n) (h : ∀ c', (∀ k, k < 8 → c' 3 k = (plL z (n - a) a (pl0 z w)).1 k) → (∀ k, k < 16 → c' 4 k = (plL z (n - a) a (pl0 z w)).2 k) → Q (.inl none) (pc I m c', ρ)) : Ev xs 41 0 [.ref m, .null, .null, .null, .null] [] (pc I m c, ρ) Q := by
  have hb := hG.1.bnd
  have h8 := hG.c8
  apply w_X2_carryOutPlainly_0
  simp (disch := omega) only [QI_i, QV_v, QA_a, mR_def, Option.getD_some, mI_def, idx_nI, setI_def, gm_0 hW hB, gm_1 hW hB, gm_2 hW hB, gm_3 hW hB, gm_4 hW hB, gm_O hW hB, gm_N hW hB, gm_P hW hB, gR_some, Bool.and_self, cond_true, cond_false, up2_pc, up2_pc0, pc_at, pc_at0, up2_at, up2_ne, h8]
  exact k_plain5 hW hB hG.1 (d := n - a) (by omega) (Gok_pl0 (w := w) hG.1) hG.c6 (fun j f hj hf => hG.2.2.row hj (by omega)) (fun k hk => by unfold pl0; dsimp only; rw [if_pos ⟨by omega, hk⟩]; exact hG.2.2.reg hk) (fun k hk => by unfold pl0; dsimp only; rw [if_pos ⟨by omega, hk⟩]; exact hG.2.2.mem hk) h

