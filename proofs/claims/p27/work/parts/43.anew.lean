/-! beginning anew, the way to the end -/
theorem Big.cg {c : In2} {z z' : Zt} {a b n : Nat} (h : Big c z a b n) (he : ∀ k, k < 324 → z' k = z k) : Big c z' a b n := by
  obtain ⟨⟨h3, h2, h1, hb, ⟨w1, w2, w3⟩, hr, hm, hw, hv⟩, hd, k1, k2, k3, k4, k5, k6, k7⟩ := h
  have ep : ∀ i f, i < 24 → f < 12 → pt z' i f = pt z i f := fun i f hi hf => he _ (by omega)
  have em : ∀ r k, k < 24 → mkP z' r k = mkP z r k := fun r k hk => mkP_congr (ep _ _ hk (by decide)) (ep _ _ hk (by decide))
  refine ⟨⟨by rw [he _ (by decide)]; exact h3, by rw [he _ (by decide)]; exact h2, by rw [he _ (by decide)]; exact h1, hb, ⟨by rw [he _ (by decide)]; exact w1, by rw [he _ (by decide)]; exact w2, by rw [he _ (by decide)]; exact w3⟩, fun k hk => by rw [he _ (by omega)]; exact hr k hk, fun k hk => by rw [he _ (by omega)]; exact hm k hk, fun i hi => ?_, fun i hi => by rw [ep _ _ hi (by decide)]; exact hv i hi⟩, fun i h1 h2 h3 => ?_, fun k hk => by rw [he _ (by omega)]; exact k1 k hk, fun k hk => by rw [he _ (by omega)]; exact k2 k hk, fun k hk => by rw [he _ (by omega)]; exact k3 k hk, fun k hk => by rw [he _ (by omega)]; exact k4 k hk, fun i f hi hf => by rw [ep _ _ (by omega) (by omega)]; exact k5 i f hi hf, fun i h1 h2 => ?_, fun i h1 h2 => ?_⟩
  · rw [ep _ _ (by omega) (by decide), ep _ _ (by omega) (by decide), ep _ _ (by omega) (by decide), ep _ _ (by omega) (by decide), ep _ _ (by omega) (by decide), ep _ _ (by omega) (by decide)]; exact hw i hi
  · rw [ep _ _ (by omega) (by decide)] at h3
    obtain ⟨r1, r2⟩ := hd i h1 h2 h3
    have er : ∀ r, rdy z' a i r = rdy z a i r := fun r => by
      unfold rdy
      rw [show mkr z' a i r = mkr z a i r from lat_congr fun k _ hk => em r k (by omega)]
      cases hm : mkr z a i r with
      | none => rfl
      | some k => have := mkr_lt hm; dsimp only; rw [ep _ _ (by omega) (by decide)]
    rw [ep _ _ (by omega) (by decide), ep _ _ (by omega) (by decide), er, er]; exact ⟨r1, r2⟩
  · have := k6 i h1 h2
    unfold Erl at this ⊢
    rw [ep _ 7 (by omega) (by decide), ep _ 8 (by omega) (by decide), ep _ 11 (by omega) (by decide), ep _ 0 (by omega) (by decide), ep _ 9 (by omega) (by decide), ep _ 10 (by omega) (by decide)]
    exact this
  · rw [ep _ 2 (by omega) (by decide), ep _ 3 (by omega) (by decide)]
    exact ⟨(k7 i h1 h2).1.cg (fun k hk => em _ k (by omega)) (fun _ _ => rfl) (fun q hq => he _ (by omega)), (k7 i h1 h2).2.cg (fun k hk => em _ k (by omega)) (fun _ _ => rfl) (fun q hq => he _ (by omega))⟩
theorem Ent.cg {z z' : Zt} {a b : Nat} (h : Ent z a b) (hb : b ≤ 24) (he : ∀ k, k < 324 → z' k = z k) : Ent z' a b := by
  intro i h1 h2
  have ep : ∀ f, f < 12 → pt z' i f = pt z i f := fun f hf => he _ (by omega)
  rw [ep 0 (by decide), ep 7 (by decide), ep 8 (by decide), ep 9 (by decide)]; exact h i h1 h2
/-- the class's rows are read below its length alone -/
theorem Big.cgc {c c' : In2} {z : Zt} {a b n : Nat} (h : Big c z a b n) (h0 : ∀ k, k < 9 → c' 0 (5 + k) = c 0 (5 + k)) (h5 : ∀ k, k < 3 → c' 5 k = c 5 k) (h3 : ∀ k, k < 8 → c' 3 k = c 3 k) (h4 : ∀ k, k < 16 → c' 4 k = c 4 k) (hr : ∀ i f, i < n → f < 14 → c' (6 + i) f = c (6 + i) f) : Big c' z a b n := by
  obtain ⟨hI, hd, k1, k2, k3, k4, k5, k6, k7⟩ := h
  have hb := hI.bnd
  refine ⟨hI, hd, fun k hk => by rw [h0 k hk]; exact k1 k hk, fun k hk => by rw [h5 k hk]; exact k2 k hk, fun k hk => by rw [h3 k hk]; exact k3 k hk, fun k hk => by rw [h4 k hk]; exact k4 k hk, fun i f hi hf => by rw [hr i f hi (by omega)]; exact k5 i f hi hf, fun i h1 h2 => ?_, fun i h1 h2 => ?_⟩
  · have := k6 i h1 h2
    unfold Erl at this ⊢
    rw [hr i 7 (by omega) (by decide), hr i 8 (by omega) (by decide), hr i 13 (by omega) (by decide), hr i 11 (by omega) (by decide), hr i 12 (by omega) (by decide)]
    exact this
  · rw [hr i 9 (by omega) (by decide), hr i 10 (by omega) (by decide)]
    exact ⟨(k7 i h1 h2).1.cg (fun _ _ => rfl) (fun j hj => hr j 13 (by omega) (by decide)) (fun _ _ => rfl), (k7 i h1 h2).2.cg (fun _ _ => rfl) (fun j hj => hr j 13 (by omega) (by decide)) (fun _ _ => rfl)⟩
def bgL : Nat → Nat → Zt → Zt
  | 0, _, z => z
  | d + 1, i, z => bgL d (i + 1) (lay (lay z i 5 (nI 0)) i 6 (nI 0))
def bgF (z : Zt) : Zt := bgL 24 0 (uz (uz z 2 (nI 0)) 3 (nI 0))
theorem pt_bgL {f : Nat} (hf : f < 12) : ∀ {d l : Nat} {z : Zt} {j : Nat}, pt (bgL d l z) j f = if (l ≤ j ∧ j < l + d) ∧ (f = 5 ∨ f = 6) then nI 0 else pt z j f := by
  intro d
  induction d with
  | zero => intro l z j; rw [if_neg (by omega)]; rfl
  | succ d ih =>
    intro l z j
    rw [bgL, ih]
    by_cases h1 : (l + 1 ≤ j ∧ j < l + 1 + d) ∧ (f = 5 ∨ f = 6)
    · rw [if_pos h1, if_pos (by omega)]
    · rw [if_neg h1, pt_lay (by decide) hf, pt_lay (by decide) hf]
      by_cases h2 : j = l ∧ f = 6
      · rw [if_pos h2, if_pos (by omega)]
      · rw [if_neg h2]
        by_cases h3 : j = l ∧ f = 5
        · rw [if_pos h3, if_pos (by omega)]
        · rw [if_neg h3, if_neg (by omega)]
theorem bgL_lo {k : Nat} (hk : k < 36) : ∀ {d l : Nat} {z : Zt}, (bgL d l z) k = z k := by
  intro d
  induction d with
  | zero => intro l z; rfl
  | succ d ih => intro l z; rw [bgL, ih, lay_lo hk, lay_lo hk]
theorem bgF_pt {z : Zt} {j f : Nat} (hj : j < 24) (hf : f < 12) : pt (bgF z) j f = if f = 5 ∨ f = 6 then nI 0 else pt z j f := by
  unfold bgF
  rw [pt_bgL hf, pt_uz (by decide), pt_uz (by decide)]
  by_cases h : f = 5 ∨ f = 6
  · rw [if_pos ⟨by omega, h⟩, if_pos h]
  · rw [if_neg (fun e => h e.2), if_neg h]
theorem bgF_lo {z : Zt} {k : Nat} (hk : k < 36) (h2 : ¬ k = 2) (h3 : ¬ k = 3) : (bgF z) k = z k := by
  unfold bgF; rw [bgL_lo hk, uz_ne h3, uz_ne h2]
theorem Inv0_bgF {z : Zt} {a b n : Nat} (h : Inv0 z a b n) : Inv0 (bgF z) 0 0 n := by
  obtain ⟨h3, h2, h1, hb, ⟨w1, w2, w3⟩, hr, hm, hw, hv⟩ := h
  refine ⟨by unfold bgF; rw [bgL_lo (by decide), uz_at], by unfold bgF; rw [bgL_lo (by decide), uz_ne (by decide), uz_at], by rw [bgF_lo (by decide) (by decide) (by decide)]; exact h1, by omega, ⟨by rw [bgF_lo (by decide) (by decide) (by decide)]; exact w1, by rw [bgF_lo (by decide) (by decide) (by decide)]; exact w2, by rw [bgF_lo (by decide) (by decide) (by decide)]; exact w3⟩, fun k hk => by rw [bgF_lo (by omega) (by omega) (by omega)]; exact hr k hk, fun k hk => by rw [bgF_lo (by omega) (by omega) (by omega)]; exact hm k hk, fun i hi => ?_, fun i hi => by rw [bgF_pt hi (by decide), if_neg (by decide)]; exact hv i hi⟩
  have hi24 : i < 24 := by omega
  simp only [bgF_pt hi24 (show 0 < 12 by decide), bgF_pt hi24 (show 1 < 12 by decide), bgF_pt hi24 (show 2 < 12 by decide), bgF_pt hi24 (show 3 < 12 by decide), bgF_pt hi24 (show 4 < 12 by decide), bgF_pt hi24 (show 5 < 12 by decide)]
  exact ⟨(hw i hi).1, 0, by decide, rfl, fun _ => rfl⟩
/-! the class begins anew -/
theorem k_begin12 {xs : Scr} {I : In2} {ρ : Rh} {m : Nat} (hW : Rw ρ) (hB : Bs m) {n : Nat} (hn : n ≤ 24) : ∀ {d i : Nat} {c : In2} {v2 : Value} {Q : Post}, c 0 6 = nI n → i + d = n →
    (∀ c', (∀ o k, c' o k = if (6 + i ≤ o ∧ o < 6 + n) ∧ (k = 5 ∨ k = 6) then nI 0 else c o k) → Q (.inl none) (pc I m c', ρ)) → Ev xs 16 12 [.ref m, .int (nI i), v2] [] (pc I m c, ρ) Q := by
  intro d
  induction d with
  | zero =>
    intro i c v2 Q h6 hk h
    obtain rfl : i = n := hk
    apply w_X2_beginAnew_12
    simp (disch := omega) only [QI_i, QV_v, QA_a, mR_def, Option.getD_some, mI_def, idx_nI, setI_def, gm_0 hW hB, gm_1 hW hB, gm_2 hW hB, gm_3 hW hB, gm_4 hW hB, gm_O hW hB, gm_N hW hB, gm_P hW hB, gR_some, Bool.and_self, cond_true, cond_false, up2_pc, up2_pc0, pc_at, pc_at0, up2_at, up2_ne, h6, icB_ge, Nat.le_refl, decide_true]
    exact h c fun o k => by rw [if_neg (by omega)]
  | succ d ih =>
    intro i c v2 Q h6 hk h
    have hki : ¬ n ≤ i := by omega
    apply w_X2_beginAnew_12
    simp (disch := omega) only [QI_i, QV_v, QA_a, mR_def, Option.getD_some, mI_def, idx_nI, setI_def, gm_0 hW hB, gm_1 hW hB, gm_2 hW hB, gm_3 hW hB, gm_4 hW hB, gm_O hW hB, gm_N hW hB, gm_P hW hB, gR_some, Bool.and_self, cond_true, cond_false, up2_pc, up2_pc0, pc_at, pc_at0, up2_at, up2_ne, h6, icB_ge, hki, decide_false]
    rw [k_at hW hB (show i < 24 by omega)]
    simp (disch := omega) only [QI_i, QV_v, QA_a, mR_def, Option.getD_some, mI_def, idx_nI, setI_def, gm_0 hW hB, gm_1 hW hB, gm_2 hW hB, gm_3 hW hB, gm_4 hW hB, gm_O hW hB, gm_N hW hB, gm_P hW hB, gR_some, Bool.and_self, cond_true, cond_false, up2_pc, up2_pc0, pc_at, pc_at0, up2_at, up2_ne, nI_add]
    refine ih (i := i + 1) (by simp (disch := omega) only [up2_ne]; exact h6) (by omega) fun c' hc' => h c' fun o k => ?_
    rw [hc' o k]
    by_cases h1 : (6 + (i + 1) ≤ o ∧ o < 6 + n) ∧ (k = 5 ∨ k = 6)
    · rw [if_pos h1, if_pos (by omega)]
    · rw [if_neg h1]
      by_cases h2 : o = 6 + i ∧ k = 6
      · rw [h2.1, h2.2, up2_at, if_pos (by omega)]
      · rw [up2_ne h2]
        by_cases h3 : o = 6 + i ∧ k = 5
        · rw [h3.1, h3.2, up2_at, if_pos (by omega)]
        · rw [up2_ne h3, if_neg (by omega)]
theorem k_begin {xs : Scr} {I : In2} {ρ : Rh} {Q : Post} {m : Nat} {c : In2} (hW : Rw ρ) (hB : Bs m) {z : Zt} {a b n : Nat} (hG : Big c z a b n) (h : ∀ c', Big c' (bgF z) 0 0 n → Q (.inl none) (pc I m c', ρ)) : Ev xs 16 0 [.ref m, .null, .null] [] (pc I m c, ρ) Q := by
  have hb := hG.1.bnd
  have h6 := hG.c6
  have hR := hG.2.2
  apply w_X2_beginAnew_0
  simp (disch := omega) only [QI_i, QV_v, QA_a, mR_def, Option.getD_some, mI_def, idx_nI, setI_def, gm_0 hW hB, gm_1 hW hB, gm_2 hW hB, gm_3 hW hB, gm_4 hW hB, gm_O hW hB, gm_N hW hB, gm_P hW hB, gR_some, Bool.and_self, cond_true, cond_false, up2_pc, up2_pc0, pc_at, pc_at0, up2_at, up2_ne]
  refine k_begin12 hW hB (n := n) (by omega) (d := n) (by simp (disch := omega) only [up2_ne]; exact h6) (by omega) fun c' hc' => h c' ⟨Inv0_bgF hG.1, fun i h1 h2 => by omega, fun k hk => ?_, fun k hk => ?_, fun k hk => ?_, fun k hk => ?_, fun i f hi hf => ?_, fun i h1 h2 => by omega, fun i h1 h2 => by omega⟩
  · rw [hc', if_neg (by omega)]
    by_cases e3 : k = 3
    · rw [e3, up2_at]; unfold bgF; rw [bgL_lo (by decide), uz_at]
    · by_cases e2 : k = 2
      · rw [e2, up2_ne (by omega), up2_at]; unfold bgF; rw [bgL_lo (by decide), uz_ne (by decide), uz_at]
      · rw [up2_ne (by omega), up2_ne (by omega), bgF_lo (by omega) e2 e3]; exact hR.cyc hk
  · rw [hc', if_neg (by omega), up2_ne (by omega), up2_ne (by omega), bgF_lo (by omega) (by omega) (by omega)]; exact hR.set hk
  · rw [hc', if_neg (by omega), up2_ne (by omega), up2_ne (by omega), bgF_lo (by omega) (by omega) (by omega)]; exact hR.reg hk
  · rw [hc', if_neg (by omega), up2_ne (by omega), up2_ne (by omega), bgF_lo (by omega) (by omega) (by omega)]; exact hR.mem hk
  · rw [hc', bgF_pt (by omega) (by omega)]
    by_cases e : f = 5 ∨ f = 6
    · rw [if_pos (by omega), if_pos e]
    · rw [if_neg (by omega), if_neg e, up2_ne (by omega), up2_ne (by omega)]; exact hR.row hi hf
theorem Ent_0 {z : Zt} {a : Nat} : Ent z a a := fun i h1 h2 => by omega
/-! how far it is to the end -/
def rkF (z : Zt) (a b : Nat) : Nat := if a < b then (if pt z a 7 = nI 2 then 5 else if pt z a 7 = nI 1 then 5 - idx (pt z a 8) else 1) else 0
def far (z : Zt) (a b n : Nat) : Nat := 6 * (n - a) - rkF z a b
theorem rkF_le {z : Zt} {a b n : Nat} (h : Inv z a b n) : rkF z a b ≤ 5 := by
  unfold rkF; split
  · split
    · omega
    · split
      · omega
      · omega
  · omega
theorem fnF_rw {z : Zt} {a b i j f : Nat} (hij : j < i) (hf : f = 7 ∨ f = 8) : pt (fnF z a b i) j f = pt z j f := by
  have e : ∀ z g v, g < 12 → pt (lay z i g v) j f = pt z j f := fun z g v hg => pt_lj ⟨by omega, hg, by omega⟩
  unfold fnF
  split
  · rw [e _ _ _ (by decide), e _ _ _ (by decide)]
  · split
    · unfold fnL fnE
      rw [pt_uz (by decide), pt_uz (by decide), e _ _ _ (by decide), e _ _ _ (by decide), e _ _ _ (by decide), e _ _ _ (by decide)]
    · split
      · unfold fnS
        dsimp only
        generalize hfs : fstF _ (b - (i + 1)) (i + 1) = o
        rcases o with _ | l
        · show pt (lay (lay (lay z i 7 (nI 2)) i 9 _) i 11 _) j f = pt z j f
          rw [e _ _ _ (by decide), e _ _ _ (by decide), e _ _ _ (by decide)]
        · show pt (rpl (lay (lay (lay z i 7 (nI 2)) i 9 _) i 11 _) b l) j f = pt z j f
          have hl := fstF_some hfs
          unfold rpl
          rw [pt_zap (by omega), if_neg (by omega), pt_lj ⟨by omega, by decide, by omega⟩, pt_lj ⟨by omega, by decide, by omega⟩, pt_uz (by decide), pt_uz (by decide), e _ _ _ (by decide), e _ _ _ (by decide), e _ _ _ (by decide)]
      · rw [e _ _ _ (by decide), e _ _ _ (by decide)]
theorem wkS_rw {z : Zt} {a b i j f : Nat} (hij : j < i) (hf : f = 7 ∨ f = 8) : pt (wkS z a b i) j f = pt z j f := by
  unfold wkS
  split
  · split
    · rw [fnF_rw hij hf, pt_lj ⟨by omega, by decide, by omega⟩]
    · rw [pt_lj ⟨by omega, by decide, by omega⟩]
  · rfl
theorem wkL_rw {a b j f : Nat} (hf : f = 7 ∨ f = 8) : ∀ {d i : Nat} {z : Zt}, j < i → pt (wkL a b d i z) j f = pt z j f := by
  intro d
  induction d with
  | zero => intro i z _; rfl
  | succ d ih => intro i z h; rw [wkL, ih (by omega), wkS_rw h hf]
theorem stL_rw {a j f : Nat} (hf : f = 7 ∨ f = 8) : ∀ {d i w : Nat} {z : Zt}, j < i → pt (stL a d i w z) j f = pt z j f := by
  intro d
  induction d with
  | zero => intro i w z _; rw [stL_n]
  | succ d ih =>
    intro i w z h
    rcases w with _ | w
    · rw [stL_0]
    · rw [stL_s]
      split
      · rw [ih (by omega)]; unfold stF; rw [pt_lj ⟨by omega, by decide, by omega⟩, pt_lj ⟨by omega, by decide, by omega⟩]
      · exact ih (by omega)
theorem isL_rw {a n w j f : Nat} (hf : f = 7 ∨ f = 8) : ∀ {k b : Nat} {z : Zt}, j < b → pt (isL a n w k b z) j f = pt z j f := by
  intro k
  induction k with
  | zero => intro b z _; rfl
  | succ k ih =>
    intro b z h
    rw [isL_s]
    split
    · rw [ih (by omega)]; unfold isF; rw [pt_uz (by decide), pt_lj ⟨by omega, by decide, by omega⟩]
    · rfl
/-- the first entry can always be started -/
theorem rsn_first {z : Zt} {a : Nat} (h7 : pt z a 7 = nI 0) : rsn z a a = nI 0 := by
  have hm : ∀ r, mkr z a a r = none := fun r => lat_eq_none fun k h1 h2 => by omega
  have hr : ∀ r, rdy z a a r = true := fun r => by unfold rdy; rw [hm]
  have ho : opn z a a = false := by unfold opn; rw [Nat.sub_self]; rfl
  unfold rsn
  rw [if_pos h7, hr, hr, ho]
  simp
theorem fnF_7 {z : Zt} {a b i : Nat} : pt (fnF z a b i) i 7 = nI 2 := by
  have e : ∀ z g v, g < 12 → ¬ g = 7 → pt (lay z i g v) i 7 = pt z i 7 := fun z g v hg h => pt_ln ⟨by omega, hg, by decide⟩
  unfold fnF
  split
  · rw [e _ _ _ (by decide) (by decide), pt_le]
  · split
    · unfold fnL fnE
      rw [pt_uz (by decide), pt_uz (by decide), e _ _ _ (by decide) (by decide), e _ _ _ (by decide) (by decide), e _ _ _ (by decide) (by decide), pt_le]
    · split
      · unfold fnS
        dsimp only
        generalize hfs : fstF _ (b - (i + 1)) (i + 1) = o
        rcases o with _ | l
        · show pt (lay (lay (lay z i 7 (nI 2)) i 9 _) i 11 _) i 7 = nI 2
          rw [e _ _ _ (by decide) (by decide), e _ _ _ (by decide) (by decide), pt_le]
        · show pt (rpl (lay (lay (lay z i 7 (nI 2)) i 9 _) i 11 _) b l) i 7 = nI 2
          have hl := fstF_some hfs
          unfold rpl
          rw [pt_zap (by omega), if_neg (by omega), pt_lj ⟨by omega, by decide, by omega⟩, pt_lj ⟨by omega, by decide, by omega⟩, pt_uz (by decide), pt_uz (by decide), e _ _ _ (by decide) (by decide), e _ _ _ (by decide) (by decide), pt_le]
      · rw [e _ _ _ (by decide) (by decide), pt_le]
theorem nds_idx (k : Int32) : idx (nds k) ≤ 3 := by
  obtain ⟨x, h1, h2, h3⟩ := nds_ok k
  rw [h3, idx_nI (by omega)]; exact h2
theorem far_dec {z : Zt} {a b n a' b' : Nat} (h0 : Inv z a b n) (han : a < n) (h1 : Inv (cyF z) a' b' n) : far (cyF z) a' b' n < far z a b n ∧ a ≤ a' := by
  obtain ⟨a1, b1, ha, i1, i2, i3, hb, i4⟩ := Inv_cyF h0
  have eqa : a' = a1 := by rw [← h1.1.i3, i4.1.i3]
  have eqb : b' = b1 := by rw [← h1.1.i2, i4.1.i2]
  subst eqa; subst eqb
  have hbn := h0.1.bnd
  have hbn1 := i4.1.bnd
  refine ⟨?_, ha⟩
  have hr1 := rkF_le i4
  have hr0 := rkF_le h0
  by_cases hlt : a < a'
  · unfold far; omega
  · have haa : a' = a := by omega
    subst haa
    have hrk : rkF z a' b < rkF (cyF z) a' b' := by
      obtain ⟨w11, l11, u11⟩ := h0.1.w11
      have nr : ¬ (a' < b ∧ pt z a' 7 = nI 2) := by
        rintro ⟨e1, e2⟩
        have : ∃ a2, a' + 1 ≤ a2 ∧ Inv (cy1 z) a2 b n := by
          obtain ⟨k, hk⟩ : ∃ k, idx (z 11) = k + 1 := ⟨idx (z 11) - 1, by omega⟩
          unfold cy1
          rw [hk, retL, h0.1.i3, h0.1.i2, if_pos ⟨e1, e2⟩]
          obtain ⟨a2, g1, g2⟩ := Inv_retL (k := k) (Inv_rtF h0 e1 e2)
          exact ⟨a2, g1, g2⟩
        obtain ⟨a2, g1, g2⟩ := this
        have : a2 = a' := by rw [← g2.1.i3, i1.1.i3]
        omega
      have ez : cy1 z = z := by
        unfold cy1
        rcases hk : idx (z 11) with _ | k
        · rfl
        · rw [retL, h0.1.i3, h0.1.i2, if_neg nr]
      have e4 : ∀ f, f = 7 ∨ f = 8 → pt (cyF z) a' f = pt (cy4 (cy3 (cy2 z))) a' f := fun f hf => by unfold cyF; rw [ez, pt_uz (by decide)]
      rw [ez] at i2 i3
      by_cases hab : a' < b
      · have e5 : ∀ f, f = 7 ∨ f = 8 → pt (cyF z) a' f = pt (cy3 (cy2 z)) a' f := fun f hf => by rw [e4 f hf]; unfold cy4; rw [i3.1.i2]; exact isL_rw hf hab
        have n2 : ¬ pt z a' 7 = nI 2 := fun e => nr ⟨hab, e⟩
        obtain ⟨d, hd⟩ : ∃ d, b - a' = d + 1 := ⟨b - a' - 1, by omega⟩
        have e6 : ∀ f, f = 7 ∨ f = 8 → pt (cy2 z) a' f = pt (wkS z a' b a') a' f := fun f hf => by unfold cy2; rw [h0.1.i3, h0.1.i2, hd, wkL]; exact wkL_rw hf (Nat.lt_succ_self _)
        obtain ⟨v10, m10, n10⟩ := i2.1.w10
        obtain ⟨w, hw⟩ : ∃ w, idx ((cy2 z) 10) = w + 1 := ⟨idx ((cy2 z) 10) - 1, by omega⟩
        have e7 : ∀ f, f = 7 ∨ f = 8 → pt (cy3 (cy2 z)) a' f = pt (if rsn (cy2 z) a' a' = nI 0 then stF (cy2 z) a' else cy2 z) a' f := fun f hf => by
          unfold cy3; rw [i2.1.i3, i2.1.i2, hw, hd, stL_s]
          split
          · exact stL_rw hf (Nat.lt_succ_self _)
          · exact stL_rw hf (Nat.lt_succ_self _)
        unfold rkF
        rw [if_pos hab, if_neg n2, if_pos (show a' < b' by omega), e5 7 (Or.inl rfl), e5 8 (Or.inr rfl), e7 7 (Or.inl rfl), e7 8 (Or.inr rfl)]
        rcases h0.2 a' (Nat.le_refl a') hab with e | ⟨e, x, hx1, hx3, hxe⟩ | ⟨e, _⟩
        · rw [if_neg (by rw [e]; exact not_nI (by decide) (by decide) (by decide))]
          have e8 : pt (cy2 z) a' 7 = nI 0 := by
            rw [e6 7 (Or.inl rfl)]; unfold wkS; rw [if_neg (by rw [e]; exact not_nI (by decide) (by decide) (by decide))]; exact e
          rw [if_pos (rsn_first e8)]
          unfold stF
          rw [pt_ln (by decide), pt_le, pt_le, if_neg (not_nI (by decide) (by decide) (by decide)), if_pos rfl]
          have := nds_idx (pt (cy2 z) a' 0)
          omega
        · rw [if_pos e, hxe, idx_nI (by omega)]
          by_cases hx : x = 1
          · have e8 : pt (cy2 z) a' 7 = nI 2 := by
              rw [e6 7 (Or.inl rfl)]; unfold wkS; rw [if_pos e, if_pos (by rw [hxe, hx]), fnF_7]
            have hrn : ¬ rsn (cy2 z) a' a' = nI 0 := fun hh => by have := rsn_0 hh; rw [e8] at this; exact absurd this (not_nI (by decide) (by decide) (by decide))
            rw [if_neg hrn, if_pos e8]; omega
          · have e8 : pt (cy2 z) a' 7 = nI 1 := by
              rw [e6 7 (Or.inl rfl)]; unfold wkS; rw [if_pos e, if_neg (by rw [hxe]; exact not_nI (by omega) (by decide) hx), pt_ln (by decide)]; exact e
            have e9 : pt (cy2 z) a' 8 = nI (x - 1) := by
              rw [e6 8 (Or.inr rfl)]; unfold wkS; rw [if_pos e, if_neg (by rw [hxe]; exact not_nI (by omega) (by decide) hx), pt_le, hxe, pk_sub hx1]
            have hrn : ¬ rsn (cy2 z) a' a' = nI 0 := fun hh => by have := rsn_0 hh; rw [e8] at this; exact absurd this (not_nI (by decide) (by decide) (by decide))
            rw [if_neg hrn, e8, if_neg (not_nI (by decide) (by decide) (by decide)), if_pos rfl, e9, idx_nI (by omega)]; omega
        · exact absurd e n2
      · have hab' : a' = b := by omega
        subst hab'
        have hlt2 : a' < b' := by
          obtain ⟨v10, m10, n10⟩ := i3.1.w10
          obtain ⟨v9, m9, n9⟩ := i3.1.w9
          obtain ⟨k, hk⟩ : ∃ k, idx ((cy3 (cy2 z)) 10) = k + 1 := ⟨idx ((cy3 (cy2 z)) 10) - 1, by omega⟩
          have : ∃ b2, a' + 1 ≤ b2 ∧ Inv (cy4 (cy3 (cy2 z))) a' b2 n := by
            unfold cy4
            rw [i3.1.i3, i3.1.i2, i3.1.i1, hk, isL_s, if_pos (by omega)]
            exact Inv_isL (Inv_isF i3 han)
          obtain ⟨b2, g1, g2⟩ := this
          have e1 : (cyF z) 2 = (cy4 (cy3 (cy2 z))) 2 := by unfold cyF; rw [ez, uz_ne (by decide)]
          have e2 := i4.1.i2
          rw [e1, g2.1.i2] at e2
          omega
        unfold rkF
        rw [if_neg (Nat.lt_irrefl _), if_pos hlt2]
        split
        · omega
        · split
          · have := (i4.2 a' (Nat.le_refl _) hlt2)
            rename_i q2 q1
            obtain ⟨x, g1, g2, g3⟩ := this.nz q1
            rw [g3, idx_nI (by omega)]; omega
          · omega
    unfold far
    have : rkF z a' b ≤ 5 := hr0
    omega

