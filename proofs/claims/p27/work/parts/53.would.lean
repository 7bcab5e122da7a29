/-! what would be: cycles -/
def irV (z : Zt) (N : Nat) : Nat → Int32
  | 0 => (itC N z) 6 - z 6
  | 1 => (itC N z) 4 - z 4
  | _ => (itC N z) 2 - (itC N z) 3
theorem k_rehearsed {xs : Scr} {I : In2} {ρ : Rh} {Q : Post} {z : Zt} {N w : Nat} (hW : Rw ρ) (hg : Good (bk I 1) z) (hr : ∃ a b n, Big (bk I 31) (itC N z) a b n) (hw : w < 3) : Ev xs 99 0 [.ref 0, .int (nI w)] [] (I, ρ) Q ↔ Q (.inl (some (.int (irV z N w)))) (I, ρ) := by
  obtain ⟨a, b, n, cy, g, -⟩ := hg
  obtain ⟨a2, b2, n2, g2⟩ := hr
  have hb := g2.1.bnd
  have r1 : I 1 11 = z 6 := g.2.2.cyc (k := 6) (by decide)
  have r2 : I 1 9 = z 4 := g.2.2.cyc (k := 4) (by decide)
  have r3 : I 31 11 = (itC N z) 6 := g2.2.2.cyc (k := 6) (by decide)
  have r4 : I 31 9 = (itC N z) 4 := g2.2.2.cyc (k := 4) (by decide)
  have n20 : ¬ nI 2 = nI 0 := not_nI (by decide) (by decide) (by decide)
  have n21 : ¬ nI 2 = nI 1 := not_nI (by decide) (by decide) (by decide)
  apply Ev.dt; intro Q h; apply w_X4_rehearsed_0
  simp only [gc_O hW, gR_some, mR_def, gc_0 hW, gc_1 hW, Option.getD_some, Bool.and_self, cond_true, gm_O hW Bs_31, gm_O hW Bs_1, mI_def, r1, r2, r3, r4]
  have : w = 0 ∨ w = 1 ∨ w = 2 := by omega
  rcases this with e | e | e <;> subst e <;> unfold irV at h
  · rw [decide_eq_true rfl, cond_true]; exact h
  · rw [decide_eq_false n10, cond_false, decide_eq_true rfl, cond_true]; exact h
  · rw [decide_eq_false n20, cond_false, decide_eq_false n21, cond_false, K_am (fun Q => k_entries hW Bs_31 g2 (Q := Q)), QI_i, ← pk_sub hb.1, ← g2.1.h2, ← g2.1.h3]; exact h
theorem k_ifRun {xs : Scr} {I : In2} {ρ : Rh} {Q : Post} {z : Zt} {s : Nat} {zs : Nat → Zt} {tl : Nat × Zt} {p q : Int32} (hW : Rw ρ) (hC : Cst I ρ z s zs tl)
    (hok : ∀ N w, 1 ≤ N → N ≤ 100 → w < 3 → p = nI N → q = nI w → KOk Q I ρ (irV z N w) z s zs tl) (h1 : (okN p && inB q 3) = false → Q (.inr 2) (I, xR ρ)) : Ev xs 88 0 [.ref 0, .int p, .int q] [] (I, ρ) Q := by
  apply w_X4_ifRun_0
  rw [gc_O hW, cond_true]
  refine k_checkC hW ?_
  cases hp : okN p
  · rw [if_neg (by decide), QV_e, KX_lo (by decide)]; exact h1 (by rw [hp]; rfl)
  · obtain ⟨N, l1, l2, rfl⟩ := okN_t hp
    rw [if_pos rfl, QV_v, gc_O hW, cond_true]
    refine e_checkWhat hW ?_
    cases hq : inB q 3
    · rw [if_neg (by decide), QV_e, KX_lo (by decide)]; exact h1 (by rw [hp, hq]; rfl)
    · obtain ⟨w, hw, rfl⟩ := inB_t (by omega) hq
      rw [if_pos rfl, QV_v, gc_O hW, cond_true]
      refine k_rhCycles l2 hW hC.1 fun I' hfr hP => ?_
      have hC' : Cst I' ρ z s zs tl := hC.fr rfl fun a k _ ha => hfr a k ha
      rw [QV_v, gc_O hW, cond_true, k_rehearsed hW hC'.1 hP hw, QI_i]
      exact hok N w l1 l2 hw rfl rfl I' ρ hW rfl hC' fun a k ha => hfr a k (by omega)
theorem brF_eq {I : In2} {z z1 : Zt} (h : Tl z) (h1 : Tl z1) : brF (cpA I z 0) z1 0 = z := by
  funext j
  unfold brF cpA
  by_cases e : 0 ≤ j ∧ j < 324
  · rw [if_pos e, if_pos ⟨rfl, e⟩]
  · rw [if_neg e, h1 j (by omega), h j (by omega)]
theorem Rst.c {I : In2} {z zz : Zt} {s : Nat} {zs : Nat → Zt} {tl : Nat × Zt} (h : Rst I z s zs tl) : Rst (pz (cpA I zz 0) z) z s zs tl := by
  have e : ∀ a k, ¬ a = 247 → cpA I zz 0 a k = I a k := fun a k ha => by unfold cpA; rw [if_neg (by omega)]
  have h' : Rst (cpA I zz 0) z s zs tl := h.fr (by funext k; exact e _ _ (by decide)) (e _ _ (by decide)) (e _ _ (by decide)) (fun k => e _ _ (by decide)) (fun k _ => e _ _ (by decide))
  exact h'.z
theorem cpA_ne {I : In2} {z : Zt} {a k : Nat} (h : ¬ a = 247) : cpA I z 0 a k = I a k := by unfold cpA; rw [if_neg (by omega)]
theorem ROk.c {Q : Post} {I : In2} {ρ : Rh} {v : Int32} {z zz : Zt} {s : Nat} {zs : Nat → Zt} {tl : Nat × Zt} (hR : Rst I z s zs tl) (h : ROk Q I ρ v z s zs tl 0) : Q (.inl (some (.int v))) (pz (cpA (up2 I 245 16 (nI 0)) zz 0) z, ρ) :=
  h _ hR.t.c (by rw [pz_ne (by decide), cpA_ne (by decide)]; exact up2_at) fun a k ha => by rw [pz_ne (by omega), cpA_ne (by omega)]; exact fr_t ha
/-! how long it takes -/
theorem k_left {xs : Scr} {I : In2} {ρ : Rh} {Q : Post} {z : Zt} (hW : Rw ρ) (hg : Good (bk I 1) z) (h : ∀ I', (∀ a k, ¬ (31 ≤ a ∧ a ≤ 60) → I' a k = I a k) → Q (.inl (some (.int (nI (goN 144 z))))) (I', ρ)) : Ev xs 89 0 [.ref 0] [] (I, ρ) Q := by
  apply w_X4_cyclesLeft_0
  simp only [gc_O hW, gR_some, mR_def, gc_0 hW, gc_1 hW, Option.getD_some, Bool.and_self, cond_true, gm_O hW Bs_31]
  refine k_copy hW Bs_31 Bs_1 (by decide) hg fun c' hc' => ?_
  obtain ⟨a, b, n, cy, g, hE, -⟩ := hc'
  have hle : goN 144 z ≤ 144 := goN_le
  simp only [QV_v, gc_O hW, gR_some, mR_def, gc_0 hW, gc_1 hW, Option.getD_some, Bool.and_self, cond_true, gm_O hW Bs_31]
  refine k_toEnd hW Bs_31 (Nat.le_refl 1000000) g hE (fun _ c2 a2 b2 g2 => ?_) (fun hB => by omega)
  rw [QI_i]
  exact h _ fun a' k ha => pc_ne (by omega)
theorem k_cyclesLeft {xs : Scr} {I : In2} {ρ : Rh} {Q : Post} {z : Zt} {s : Nat} {zs : Nat → Zt} {tl : Nat × Zt} (hW : Rw ρ) (hC : Cst I ρ z s zs tl) (hok : KOk Q I ρ (nI (goN 144 z)) z s zs tl) : Ev xs 89 0 [.ref 0] [] (I, ρ) Q :=
  k_left hW hC.1 fun I' hfr => hok I' ρ hW rfl (hC.fr rfl fun a k _ ha => hfr a k ha) fun a k ha => hfr a k (by omega)
/-! the best window -/
def wiZ (z : Zt) (w : Nat) : Zt := uz (bgF z) 9 (nI w)
def wiN (z : Zt) (w : Nat) : Nat := goN 144 (wiZ z w)
def wiR (z : Zt) (w : Nat) : Int32 := (goZ 144 (wiZ z w)) 4 - z 4
def bwF (z : Zt) : Nat → Nat × Nat × Int32
  | 0 => (0, 1000000, nI 0)
  | w + 1 => if wiN z (w + 1) < (bwF z w).2.1 then (w + 1, wiN z (w + 1), wiR z (w + 1)) else bwF z w
theorem bwF_f {z : Zt} : ∀ {w : Nat}, (bwF z w).2.1 ≤ 1000000 ∧ ((bwF z w).1 = 0 ↔ w = 0) ∧ (bwF z w).1 ≤ w := by
  intro w
  induction w with
  | zero => exact ⟨Nat.le_refl _, by simp [bwF], Nat.le_refl _⟩
  | succ w ih =>
    have hle : wiN z (w + 1) ≤ 144 := goN_le
    unfold bwF
    split
    · exact ⟨by dsimp only; omega, by simp, Nat.le_refl _⟩
    · rename_i hn
      refine ⟨ih.1, ?_, by omega⟩
      constructor
      · intro h
        have hw0 := ih.2.1.mp h
        subst hw0
        exfalso; apply hn
        show wiN z (0 + 1) < 1000000
        omega
      · intro h; omega
def bwV (z : Zt) : Nat → Int32
  | 0 => nI (bwF z 8).1
  | 1 => nI (bwF z 8).2.1
  | _ => (bwF z 8).2.2
theorem wi_Inv {z : Zt} {a b n w : Nat} (h0 : Inv0 z a b n) (h1 : 1 ≤ w) (h2 : w ≤ 8) : Inv (wiZ z w) 0 0 n := by
  have h := Inv0_bgF h0
  obtain ⟨g3, g2, g1, gb, ⟨w1, w2, w3⟩, gr, gm, gw, gv⟩ := h
  have ep : ∀ i f, pt (uz (bgF z) 9 (nI w)) i f = pt (bgF z) i f := fun i f => pt_uz (by decide)
  refine ⟨⟨(uz_ne (by decide)).trans g3, (uz_ne (by decide)).trans g2, (uz_ne (by decide)).trans g1, gb, ⟨⟨w, h1, h2, uz_at⟩, ?_, ?_⟩, fun k hk => ?_, fun k hk => ?_, fun i hi => ?_, fun i hi => ?_⟩, Ent_0⟩
  · unfold wiZ; rw [uz_ne (by decide)]; exact w2
  · unfold wiZ; rw [uz_ne (by decide)]; exact w3
  · unfold wiZ; rw [uz_ne (by omega)]; exact gr k hk
  · unfold wiZ; rw [uz_ne (by omega)]; exact gm k hk
  · unfold wiZ; simp only [ep]; exact gw i hi
  · unfold wiZ; rw [ep]; exact gv i hi
theorem k_win {c : In2} {z : Zt} {n w : Nat} (hg : Good c (bgF z)) (h1 : 1 ≤ w) (h2 : w ≤ 8) : Good (up2 c 5 0 (nI w)) (wiZ z w) := hg.set (j := 0) (by decide) h1 (by simpa using h2)
theorem k_win5 {xs : Scr} {ρ : Rh} {Q : Post} {z : Zt} (hW : Rw ρ) : ∀ {d w : Nat} {I : In2} {v3 : Value}, w + d = 8 → Good (bk I 1) z → ((bwF z w).1 = 0 ∨ (I 244 0 = nI (bwF z w).1 ∧ I 244 1 = nI (bwF z w).2.1 ∧ I 244 2 = (bwF z w).2.2)) →
    (∀ I', (∀ a k, ¬ (31 ≤ a ∧ a ≤ 60) → ¬ a = 244 → I' a k = I a k) → (I' 244 0 = nI (bwF z 8).1 ∧ I' 244 1 = nI (bwF z 8).2.1 ∧ I' 244 2 = (bwF z 8).2.2) → Q (.inl none) (I', ρ)) → Ev xs 100 5 [.ref 0, .int (nI (bwF z w).2.1), .int (nI (w + 1)), v3] [] (I, ρ) Q := by
  intro d
  induction d with
  | zero =>
    intro w I v3 hw hg hb h
    obtain rfl : w = 8 := hw
    apply w_X4_rehearseWindows_5
    rw [icB_gt (by decide) (by decide), decide_eq_true (show 8 < 8 + 1 by decide), cond_true]
    refine h I (fun _ _ _ _ => rfl) ?_
    rcases hb with hb | hb
    · exact absurd (bwF_f.2.1.mp hb) (by decide)
    · exact hb
  | succ d ih =>
    intro w I v3 hw hg hb h
    have hw8 : ¬ 8 < w + 1 := by omega
    have hF := bwF_f (z := z) (w := w)
    have hle : wiN z (w + 1) ≤ 144 := goN_le
    apply w_X4_rehearseWindows_5
    rw [icB_gt (by omega) (by decide), decide_eq_false hw8, cond_false]
    simp only [gc_O hW, gR_some, mR_def, gc_0 hW, gc_1 hW, Option.getD_some, Bool.and_self, cond_true, gm_O hW Bs_31]
    refine k_copy hW Bs_31 Bs_1 (by decide) hg fun c1 hc1 => ?_
    obtain ⟨a, b, n, cy, g, hE, -⟩ := id hc1
    simp only [QV_v, gc_O hW, gR_some, mR_def, gc_0 hW, gc_1 hW, Option.getD_some, Bool.and_self, cond_true, gm_O hW Bs_31]
    refine k_begin hW Bs_31 g fun c2 g2 => ?_
    have hc2 := k_win (n := n) (hc1.bg g2) (show 1 ≤ w + 1 by omega) (show w + 1 ≤ 8 by omega)
    obtain ⟨a3, b3, n3, cy3, g3, hE3, -⟩ := hc2
    have hga : gA (pc I 31 c2, ρ) (31 + 5) 6 (nI 0) = true := gm_D hW Bs_31 (by decide)
    simp only [QV_v, gc_O hW, gR_some, mR_def, gc_0 hW, gc_1 hW, Option.getD_some, Bool.and_self, cond_true, gm_O hW Bs_31, gm_4 hW Bs_31, hga, setI_def, idx_nI (show 0 < 2147483648 by decide)]
    rw [up2_pc (show 5 < 30 by decide)]
    have frI : ∀ {c : In2} {a k : Nat}, ¬ (31 ≤ a ∧ a ≤ 60) → pc I 31 c a k = I a k := fun ha => pc_ne (by omega)
    have hgc : ∀ c, Good (bk (pc I 31 c) 1) z := fun c => hg.fr fun o k ho => pc_ne (by omega)
    refine k_toEnd hW Bs_31 hF.1 g3 hE3 (fun hlt c4 a4 b4 g4 => ?_) (fun hge c4 => ?_)
    · have hlt' : wiN z (w + 1) < (bwF z w).2.1 := hlt
      have hbw : bwF z (w + 1) = (w + 1, wiN z (w + 1), wiR z (w + 1)) := by rw [bwF, if_pos hlt']
      have r31 : pc I 31 c4 31 9 = (goZ 144 (wiZ z (w + 1))) 4 := (pc_at (o := 0) (by decide)).trans (g4.2.2.cyc (k := 4) (by decide))
      have r1 : pc I 31 c4 1 9 = z 4 := by
        obtain ⟨a, b, n, cy, g, -⟩ := hg
        rw [frI (by omega)]; exact g.2.2.cyc (k := 4) (by decide)
      have hgo : goN 144 (wiZ z (w + 1)) = wiN z (w + 1) := rfl
      have hnge : ¬ (bwF z w).2.1 ≤ wiN z (w + 1) := by omega
      rw [QI_i, hgo, icB_ge (by omega) (by omega), decide_eq_false hnge, cond_false]
      have q31 : ∀ {k v j v'}, up2 (up2 (pc I 31 c4) 244 k v) 244 j v' 31 9 = (goZ 144 (wiZ z (w + 1))) 4 := by
        intro k v j v'; rw [up2_ne (by omega), up2_ne (by omega)]; exact r31
      have q1 : ∀ {k v j v'}, up2 (up2 (pc I 31 c4) 244 k v) 244 j v' 1 9 = z 4 := by
        intro k v j v'; rw [up2_ne (by omega), up2_ne (by omega)]; exact r1
      simp only [gc_O hW, gR_some, mR_def, gc_0 hW, gc_1 hW, gc_4 hW, Option.getD_some, Bool.and_self, cond_true, gm_O hW Bs_31, gm_O hW Bs_1, gc_B hW (show 0 < 3 by decide), gc_B hW (show 1 < 3 by decide), gc_B hW (show 2 < 3 by decide), setI_def, mI_def, idx_nI (show 0 < 2147483648 by decide), idx_nI (show 1 < 2147483648 by decide), idx_nI (show 2 < 2147483648 by decide), q31, q1, nI_add]
      have hnx := ih (w := w + 1) (I := up2 (up2 (up2 (pc I 31 c4) 244 0 (nI (w + 1))) 244 1 (nI (wiN z (w + 1)))) 244 2 (wiR z (w + 1))) (v3 := .int (nI (wiN z (w + 1)))) (by omega) ((hgc c4).fr fun o k ho => by rw [up2_ne (by omega), up2_ne (by omega), up2_ne (by omega)]) (Or.inr (by
        rw [hbw]
        exact ⟨by rw [up2_ne (by decide), up2_ne (by decide), up2_at], by rw [up2_ne (by decide), up2_at], up2_at⟩)) fun I' q2 q3 => h I' (fun a k h1 h2 => by rw [q2 a k h1 h2, up2_ne (by omega), up2_ne (by omega), up2_ne (by omega)]; exact frI h1) q3
      rw [hbw] at hnx
      exact hnx
    · have hge' : (bwF z w).2.1 ≤ wiN z (w + 1) := hge
      have hbw : bwF z (w + 1) = bwF z w := by rw [bwF, if_neg (by omega)]
      rw [QI_i, icB_ge (by omega) (by omega), decide_eq_true (Nat.le_refl _), cond_true, nI_add]
      have hnx := ih (w := w + 1) (I := pc I 31 c4) (v3 := .int (nI (bwF z w).2.1)) (by omega) (hgc c4) (by
        rw [hbw]
        rcases hb with hb | ⟨q1, q2, q3⟩
        · exact Or.inl hb
        · exact Or.inr ⟨(frI (by omega)).trans q1, (frI (by omega)).trans q2, (frI (by omega)).trans q3⟩) fun I' q2 q3 => h I' (fun a k h1 h2 => by rw [q2 a k h1 h2]; exact frI h1) q3
      rw [hbw] at hnx
      exact hnx
theorem k_windows {xs : Scr} {I : In2} {ρ : Rh} {Q : Post} {z : Zt} (hW : Rw ρ) (hg : Good (bk I 1) z) (h : ∀ I', (∀ a k, ¬ (31 ≤ a ∧ a ≤ 60) → ¬ a = 244 → I' a k = I a k) → (∀ w, w < 3 → I' 244 w = bwV z w) → Q (.inl none) (I', ρ)) : Ev xs 100 0 [.ref 0, .null, .null, .null] [] (I, ρ) Q := by
  apply w_X4_rehearseWindows_0
  refine k_win5 hW (z := z) (w := 0) (d := 8) (by decide) hg (Or.inl rfl) fun I' q1 ⟨q2, q3, q4⟩ => h I' q1 fun w hw => ?_
  have : w = 0 ∨ w = 1 ∨ w = 2 := by omega
  rcases this with e | e | e <;> subst e
  · exact q2
  · exact q3
  · exact q4
theorem k_bestWindow {xs : Scr} {I : In2} {ρ : Rh} {Q : Post} {z : Zt} {s : Nat} {zs : Nat → Zt} {tl : Nat × Zt} {p : Int32} (hW : Rw ρ) (hC : Cst I ρ z s zs tl)
    (hok : ∀ w, w < 3 → p = nI w → KOk Q I ρ (bwV z w) z s zs tl) (h1 : inB p 3 = false → Q (.inr 2) (I, xR ρ)) : Ev xs 90 0 [.ref 0, .int p] [] (I, ρ) Q := by
  apply w_X4_bestWindow_0
  rw [gc_O hW, cond_true]
  refine e_checkWhat hW ?_
  cases hp : inB p 3
  · rw [if_neg (by decide), QV_e, KX_lo (by decide)]; exact h1 hp
  · obtain ⟨w, hw, rfl⟩ := inB_t (by omega) hp
    rw [if_pos rfl, QV_v, gc_O hW, cond_true]
    refine k_windows hW hC.1 fun I' hfr hb => ?_
    simp only [QV_v, gc_O hW, gR_some, mR_def, gc_4 hW, Option.getD_some, Bool.and_self, cond_true, gc_B hW hw, mI_def, idx_nI (show w < 2147483648 by omega), hb w hw]
    exact hok w hw rfl I' ρ hW rfl (hC.fr rfl fun a k ha ha2 => hfr a k ha2 (by omega)) fun a k ha => hfr a k (by omega) (by omega)

