/-! the class's machine: ends of work, the work of a cycle -/
theorem Rdy_val {z : Zt} {a b i f : Nat} {v : Int32} (h : Rdy z a b) (h7 : ¬ pt z i 7 = nI 0) (hf : 4 ≤ f ∧ f < 12 ∧ ¬ f = 7) : Rdy (lay (lay z i 7 (nI 2)) i f v) a b := Rdy.wl (Rdy.w7 h (Or.inl rfl) fun _ => Or.inl h7) hf
theorem opv_eq {z : Zt} {a i q : Nat} (hq : q < 8) : opv z a i (nI q) = vlO z a i (nI q) := if_neg (nM_ne (by omega))
theorem idx8 {q : Nat} (hq : q < 8) : idx (nI q) < 8 := by rw [idx_nI (by omega)]; exact hq
theorem k_finish {xs : Scr} {I : In2} {ρ : Rh} {Q : Post} {m : Nat} {c : In2} (hW : Rw ρ) (hB : Bs m) {z : Zt} {a b n i : Nat} (hG : Big c z a b n) (hx : EntX z a b i) (ha : a ≤ i) (hi : i < b) (h7 : pt z i 7 = nI 1)
    (h : ∀ c', Big c' (fnF z a b i) a b n → Q (.inl none) (pc I m c', ρ)) : Ev xs 34 0 [.ref m, .int (nI i), .ref (m + (6 + i)), .null, .null] [] (pc I m c, ρ) Q := by
  have hb := hG.1.bnd
  have hR := hG.2.2
  have h7' : ¬ pt z i 7 = nI 0 := by rw [h7]; exact not_nI (by decide) (by decide) (by decide)
  obtain ⟨r1, r2⟩ := hG.2.1 i ha hi h7'
  obtain ⟨n1, n2⟩ := hR.nms ha hi
  have hw := (hG.1.row (i := i) (by omega)).1
  have f0 : c (6 + i) 0 = pt z i 0 := hR.row (by omega) (by decide)
  have f2 : c (6 + i) 2 = pt z i 2 := hR.row (by omega) (by decide)
  have f3 : c (6 + i) 3 = pt z i 3 := hR.row (by omega) (by decide)
  have f4 : c (6 + i) 4 = pt z i 4 := hR.row (by omega) (by decide)
  have g2 : pt (lay z i 7 (nI 2)) i 2 = pt z i 2 := pt_ln (by decide)
  have g3 : pt (lay z i 7 (nI 2)) i 3 = pt z i 3 := pt_ln (by decide)
  have g4 : pt (lay z i 7 (nI 2)) i 4 = pt z i 4 := pt_ln (by decide)
  have hI := (Inv_fnF hG.1 hx ha hi).1
  apply w_X2_finish_0
  simp (disch := omega) only [QI_i, QV_v, QA_a, mR_def, Option.getD_some, mI_def, idx_nI, setI_def, gm_0 hW hB, gm_1 hW hB, gm_2 hW hB, gm_3 hW hB, gm_4 hW hB, gm_O hW hB, gm_N hW hB, gm_P hW hB, gR_some, Bool.and_self, cond_true, cond_false, up2_pc, up2_pc0, pc_at, pc_at0, up2_at, up2_ne, f2]
  rw [k_operand hW hB hG (show i ≤ b by omega) n1 r1]
  simp (disch := omega) only [QI_i, QV_v, QA_a, mR_def, Option.getD_some, mI_def, idx_nI, setI_def, gm_0 hW hB, gm_1 hW hB, gm_2 hW hB, gm_3 hW hB, gm_4 hW hB, gm_O hW hB, gm_N hW hB, gm_P hW hB, gR_some, Bool.and_self, cond_true, cond_false, up2_pc, up2_pc0, pc_at, pc_at0, up2_at, up2_ne, f3]
  rw [k_operand hW hB hG (show i ≤ b by omega) n2 r2]
  have plain : ∀ v, ¬ pt z i 0 = nI 3 → ¬ pt z i 0 = nI 4 → fnF z a b i = lay (lay z i 7 (nI 2)) i 11 v → Q (.inl none) (pc I m (up2 (up2 c (6 + i) 7 (nI 2)) (6 + i) 13 v), ρ) := by
    intro v k3 k4 he
    refine h _ ⟨hI, ?_, ?_⟩
    · rw [he]; exact Rdy_val hG.2.1 h7' (by decide)
    · rw [he]
      refine Rel.chg hR ha (fun o k ho => by simp (disch := omega) only [up2_ne]) (fun k hk => by simp (disch := omega) only [lay_lo]) (fun j f hj hf => by simp (disch := omega) only [pt_lj]) (fun f hf => ⟨by simp (disch := omega) only [up2_ne], by simp (disch := omega) only [pt_ln]⟩) (fun hin => ⟨?_, ?_⟩) ⟨by simp (disch := omega) only [up2_ne], by simp (disch := omega) only [up2_ne]⟩ (fun _ => ?_)
      · simp (disch := omega) only [up2_ne, pt_ln]; exact hR.row hin (by decide)
      · simp (disch := omega) only [up2_ne, pt_ln]; exact hR.row hin (by decide)
      · unfold Erl
        simp (disch := omega) only [up2_ne, up2_at, pt_ln, pt_le]
        refine ⟨by trivial, fun e => absurd e (not_nI (by decide) (by decide) (by decide)), fun _ => ⟨by trivial, fun e => ?_, fun e => absurd e k3⟩⟩
        rcases e with e | e
        · exact absurd e k3
        · exact absurd e k4
  by_cases k3 : pt z i 0 = nI 3
  · obtain ⟨⟨p, hp, hpe⟩, -, o, ho, hoe⟩ := hw.k3 k3
    have hv := vlO_InR hG.1 (i := i) (q := p) (by omega) hp
    simp (disch := omega) only [QI_i, QV_v, QA_a, mR_def, Option.getD_some, mI_def, idx_nI, setI_def, gm_0 hW hB, gm_1 hW hB, gm_2 hW hB, gm_3 hW hB, gm_4 hW hB, gm_O hW hB, gm_N hW hB, gm_P hW hB, gR_some, Bool.and_self, cond_true, cond_false, up2_pc, up2_pc0, pc_at, pc_at0, up2_at, up2_ne, f0, k3, icB_ne, not_true_eq_false, decide_false, hpe, opv_eq hp]
    refine k_finishLoad hW hB hG ha hi h7' k3 hv ho hoe fun c' hc' => ?_
    refine h c' ?_
    have he : fnF z a b i = ldF z a i (cellF (vlO z a i (nI p)) o) := by
      unfold fnF
      rw [if_neg (by rw [k3]; exact not_nI (by decide) (by decide) (by decide)), if_pos k3]
      unfold fnL
      rw [g2, g4, hpe, hoe, vlO_lay (by decide) (idx8 hp), idx_nI (by omega), fnE_eq ha (cellF_lt _ _)]
    rw [he]; exact hc'
  · by_cases k4 : pt z i 0 = nI 4
    · obtain ⟨⟨p, hp, hpe⟩, ⟨q, hq, hqe⟩, o, ho, hoe⟩ := hw.k4 k4
      have hv := vlO_InR hG.1 (i := i) (q := p) (by omega) hp
      have hv2 := vlO_InR hG.1 (i := i) (q := q) (by omega) hq
      have hcl := cellF_lt (vlO z a i (nI p)) o
      have e43 : ¬ nI 4 = nI 3 := not_nI (by decide) (by decide) (by decide)
      simp (disch := omega) only [QI_i, QV_v, QA_a, mR_def, Option.getD_some, mI_def, idx_nI, setI_def, gm_0 hW hB, gm_1 hW hB, gm_2 hW hB, gm_3 hW hB, gm_4 hW hB, gm_O hW hB, gm_N hW hB, gm_P hW hB, gR_some, Bool.and_self, cond_true, cond_false, up2_pc, up2_pc0, pc_at, pc_at0, up2_at, up2_ne, f0, k4, e43, icB_ne, not_true_eq_false, not_false_eq_true, decide_true, decide_false, hpe, hqe, opv_eq hp, opv_eq hq, f4, hoe]
      rw [e_placeOf hv ho]
      simp (disch := omega) only [QI_i, QV_v, QA_a, mR_def, Option.getD_some, mI_def, idx_nI, setI_def, gm_0 hW hB, gm_1 hW hB, gm_2 hW hB, gm_3 hW hB, gm_4 hW hB, gm_O hW hB, gm_N hW hB, gm_P hW hB, gR_some, Bool.and_self, cond_true, cond_false, up2_pc, up2_pc0, pc_at, pc_at0, up2_at, up2_ne]
      apply w_X2_breakAlibis_0
      rw [nI_add]
      have he : fnF z a b i = (match fstF (brk (lay (lay (lay z i 7 (nI 2)) i 9 (nI (cellF (vlO z a i (nI p)) o))) i 11 (vlO z a i (nI q))) i) (b - (i + 1)) (i + 1) with | none => (lay (lay (lay z i 7 (nI 2)) i 9 (nI (cellF (vlO z a i (nI p)) o))) i 11 (vlO z a i (nI q))) | some l => rpl (lay (lay (lay z i 7 (nI 2)) i 9 (nI (cellF (vlO z a i (nI p)) o))) i 11 (vlO z a i (nI q))) b l) := by
        unfold fnF
        rw [if_neg (by rw [k4]; exact not_nI (by decide) (by decide) (by decide)), if_neg k3, if_pos k4]
        unfold fnS
        have e2 : ∀ v, vlO (lay (lay z i 7 (nI 2)) i 9 v) a i (nI q) = vlO z a i (nI q) := fun v => by rw [vlO_lay (by decide) (idx8 hq), vlO_lay (by decide) (idx8 hq)]
        rw [g2, g3, g4, hpe, hqe, hoe, vlO_lay (by decide) (idx8 hp), idx_nI (by omega)]
        simp only [e2]
        generalize fstF _ _ _ = o2
        cases o2 <;> rfl
      rw [he] at h
      have hG2 : Big (up2 (up2 (up2 c (6 + i) 7 (nI 2)) (6 + i) 11 (nI (cellF (vlO z a i (nI p)) o))) (6 + i) 13 (vlO z a i (nI q))) (lay (lay (lay z i 7 (nI 2)) i 9 (nI (cellF (vlO z a i (nI p)) o))) i 11 (vlO z a i (nI q))) a b n := by
        refine ⟨((hG.1.wl (by decide) (fun h => by cases h) (fun h => by cases h)).wl (by decide) (fun h => by cases h) (fun h => by cases h)).wl (by decide) (fun h => by cases h) (fun _ => hv2), Rdy.wl (Rdy_val hG.2.1 h7' (by decide)) (by decide), ?_⟩
        refine Rel.chg hR ha (fun o k ho => by simp (disch := omega) only [up2_ne]) (fun k hk => by simp (disch := omega) only [lay_lo]) (fun j f hj hf => by simp (disch := omega) only [pt_lj]) (fun f hf => ⟨by simp (disch := omega) only [up2_ne], by simp (disch := omega) only [pt_ln]⟩) (fun hin => ⟨?_, ?_⟩) ⟨by simp (disch := omega) only [up2_ne], by simp (disch := omega) only [up2_ne]⟩ (fun _ => ?_)
        · simp (disch := omega) only [up2_ne, pt_ln]; exact hR.row hin (by decide)
        · simp (disch := omega) only [up2_ne, pt_ln]; exact hR.row hin (by decide)
        · unfold Erl
          simp (disch := omega) only [up2_ne, up2_at, pt_ln, pt_le]
          exact ⟨by trivial, fun e => absurd e (not_nI (by decide) (by decide) (by decide)), fun _ => ⟨by trivial, fun _ => by trivial, fun e => absurd e k3⟩⟩
      exact k_break4 hW hB hG2 ha hi (by simp (disch := omega) only [pt_ln, pt_le]) (d := b - (i + 1)) (by omega) (by omega) h
    · by_cases k0 : pt z i 0 = nI 0
      · obtain ⟨-, -, hn⟩ := hw.k0 k0
        have e03 : ¬ nI 0 = nI 3 := not_nI (by decide) (by decide) (by decide)
        have e04 : ¬ nI 0 = nI 4 := not_nI (by decide) (by decide) (by decide)
        simp (disch := omega) only [QI_i, QV_v, QA_a, mR_def, Option.getD_some, mI_def, idx_nI, setI_def, gm_0 hW hB, gm_1 hW hB, gm_2 hW hB, gm_3 hW hB, gm_4 hW hB, gm_O hW hB, gm_N hW hB, gm_P hW hB, gR_some, Bool.and_self, cond_true, cond_false, up2_pc, up2_pc0, pc_at, pc_at0, up2_at, up2_ne, f0, k0, e03, e04, icB_ne, not_false_eq_true, decide_true, f4]
        rw [e_floatsSet rfl hn]
        simp (disch := omega) only [QI_i, QV_v, QA_a, mR_def, Option.getD_some, mI_def, idx_nI, setI_def, gm_0 hW hB, gm_1 hW hB, gm_2 hW hB, gm_3 hW hB, gm_4 hW hB, gm_O hW hB, gm_N hW hB, gm_P hW hB, gR_some, Bool.and_self, cond_true, cond_false, up2_pc, up2_pc0, pc_at, pc_at0, up2_at, up2_ne]
        refine plain _ k3 k4 ?_
        unfold fnF
        rw [if_pos k0]
      · obtain ⟨k12, ⟨p, hp, hpe⟩, ⟨q, hq, hqe⟩, -⟩ := hw.k12 k0 k3 k4
        have hv := vlO_InR hG.1 (i := i) (q := p) (by omega) hp
        have hv2 := vlO_InR hG.1 (i := i) (q := q) (by omega) hq
        simp (disch := omega) only [QI_i, QV_v, QA_a, mR_def, Option.getD_some, mI_def, idx_nI, setI_def, gm_0 hW hB, gm_1 hW hB, gm_2 hW hB, gm_3 hW hB, gm_4 hW hB, gm_O hW hB, gm_N hW hB, gm_P hW hB, gR_some, Bool.and_self, cond_true, cond_false, up2_pc, up2_pc0, pc_at, pc_at0, up2_at, up2_ne, f0, k3, k4, icB_ne, not_false_eq_true, decide_true, hpe, hqe, opv_eq hp, opv_eq hq]
        rw [e_floatsResult _ k12 hv hv2]
        simp (disch := omega) only [QI_i, QV_v, QA_a, mR_def, Option.getD_some, mI_def, idx_nI, setI_def, gm_0 hW hB, gm_1 hW hB, gm_2 hW hB, gm_3 hW hB, gm_4 hW hB, gm_O hW hB, gm_N hW hB, gm_P hW hB, gR_some, Bool.and_self, cond_true, cond_false, up2_pc, up2_pc0, pc_at, pc_at0, up2_at, up2_ne]
        refine plain _ k3 k4 ?_
        unfold fnF
        rw [if_neg k0, if_neg k3, if_neg k4]
        rw [hpe, hqe, vlO_lay (by decide) (idx8 hp), vlO_lay (by decide) (idx8 hq)]
/-- all of a cycle's work -/
theorem Rdy_fnF {z : Zt} {a b n i : Nat} (h : Rdy z a b) (h0 : Inv0 z a b n) (ha : a ≤ i) (hi : i < b) (h7 : ¬ pt z i 7 = nI 0) : Rdy (fnF z a b i) a b := by
  unfold fnF
  split
  · exact Rdy_val h h7 (by decide)
  · split
    · unfold fnL; rw [fnE_eq ha (cellF_lt _ _)]; exact Rdy_ldF h h7
    · split
      · unfold fnS
        have hr : ∀ x y, Rdy (lay (lay (lay z i 7 (nI 2)) i 9 x) i 11 y) a b := fun x y => Rdy.wl (Rdy_val h h7 (by decide)) (by decide)
        dsimp only
        generalize hfs : fstF _ (b - (i + 1)) (i + 1) = o
        rcases o with _ | l
        · exact hr _ _
        · have := fstF_some hfs
          exact Rdy_rpl (hr _ _) (by omega)
      · exact Rdy_val h h7 (by decide)
theorem k_work9 {xs : Scr} {I : In2} {ρ : Rh} {m : Nat} (hW : Rw ρ) (hB : Bs m) {a b n : Nat} : ∀ {d i : Nat} {z : Zt} {c : In2} {Q : Post}, Big c z a b n → Ent z a b → a ≤ i → i + d = b →
    (∀ c', Big c' (wkL a b d i z) a b n → Ent (wkL a b d i z) a b → bif gO (pc I m c', ρ) m 1 then Ev xs 39 0 [.ref m, .null, .null, .null] [] (pc I m c', ρ) (QV (fun μ1 => bif gO μ1 m 1 then (Ev xs 40 0 [.ref m, .null, .null] [] μ1 (QV (fun μ2 => bif gO μ2 m 1 then (bif gO μ2 m 1 then (Q (.inl none) (setI μ2 m 5 (mI μ2 m 5 + nI 1))) else False) else False) (KX xs 32 49 [.ref m, .int (nI b)] Q))) else False) (KX xs 32 45 [.ref m, .int (nI b)] Q)) else False) → Ev xs 32 9 [.ref m, .int (nI i)] [] (pc I m c, ρ) Q := by
  intro d
  induction d with
  | zero =>
    intro i z c Q hG hE ha hk h
    obtain rfl : i = b := hk
    have hb := hG.1.bnd
    have h7 := hG.c7
    apply w_X2_passCycle_9
    have h := h c hG hE
    simp (disch := omega) only [QI_i, QV_v, QA_a, mR_def, Option.getD_some, mI_def, idx_nI, setI_def, gm_0 hW hB, gm_1 hW hB, gm_2 hW hB, gm_3 hW hB, gm_4 hW hB, gm_O hW hB, gm_N hW hB, gm_P hW hB, gR_some, Bool.and_self, cond_true, cond_false, up2_pc, up2_pc0, pc_at, pc_at0, up2_at, up2_ne, h7, icB_ge, Nat.le_refl, decide_true] at h ⊢
    exact h
  | succ d ih =>
    intro i z c Q hG hE ha hk h
    have hb := hG.1.bnd
    have hc7 := hG.c7
    have hR := hG.2.2
    have hki : ¬ b ≤ i := by omega
    have hst := hR.stg (i := i) ⟨ha, by omega⟩
    have hnx : ∀ c', Big c' (wkS z a b i) a b n → Ent (wkS z a b i) a b → Ev xs 32 9 [.ref m, .int (nI (i + 1))] [] (pc I m c', ρ) Q := fun c' g1 g2 => ih (i := i + 1) g1 g2 (by omega) (by omega) h
    have hI : Inv (wkS z a b i) a b n := Inv_wkS ⟨hG.1, hE⟩ ha (by omega)
    apply w_X2_passCycle_9
    simp (disch := omega) only [QI_i, QV_v, QA_a, mR_def, Option.getD_some, mI_def, idx_nI, setI_def, gm_0 hW hB, gm_1 hW hB, gm_2 hW hB, gm_3 hW hB, gm_4 hW hB, gm_O hW hB, gm_N hW hB, gm_P hW hB, gR_some, Bool.and_self, cond_true, cond_false, up2_pc, up2_pc0, pc_at, pc_at0, up2_at, up2_ne, hc7, icB_ge, hki, decide_false]
    rw [k_at hW hB (show i < 24 by omega)]
    simp (disch := omega) only [QI_i, QV_v, QA_a, mR_def, Option.getD_some, mI_def, idx_nI, setI_def, gm_0 hW hB, gm_1 hW hB, gm_2 hW hB, gm_3 hW hB, gm_4 hW hB, gm_O hW hB, gm_N hW hB, gm_P hW hB, gR_some, Bool.and_self, cond_true, cond_false, up2_pc, up2_pc0, pc_at, pc_at0, up2_at, up2_ne]
    have hwk : wkS z a b i = if pt z i 7 = nI 1 then (if pt z i 8 = nI 1 then fnF (lay z i 8 (nI 0)) a b i else lay z i 8 (pt z i 8 - nI 1)) else z := rfl
    by_cases e7 : pt z i 7 = nI 1
    · obtain ⟨x, hx1, hx3, hxe⟩ := (hE i ha (by omega)).nz e7
      have h8 : c (6 + i) 8 = nI x := ((hR.ent (i := i) ha (by omega)).2.1 e7).trans hxe
      rw [if_pos e7] at hwk
      have hRd : ∀ v, Rel (up2 c (6 + i) 8 v) (lay z i 8 v) a b n := fun v => by
        refine Rel.chg hR ha (fun o k ho => by simp (disch := omega) only [up2_ne]) (fun k hk => by simp (disch := omega) only [lay_lo]) (fun j f hj hf => by simp (disch := omega) only [pt_lj]) (fun f hf => ⟨by simp (disch := omega) only [up2_ne], by simp (disch := omega) only [pt_ln]⟩) (fun hin => ⟨?_, ?_⟩) ⟨by simp (disch := omega) only [up2_ne], by simp (disch := omega) only [up2_ne]⟩ (fun _ => ?_)
        · simp (disch := omega) only [up2_ne, pt_ln]; exact hR.row hin (by decide)
        · simp (disch := omega) only [up2_ne, pt_ln]; exact hR.row hin (by decide)
        · unfold Erl
          simp (disch := omega) only [up2_ne, up2_at, pt_ln, pt_le]
          exact ⟨hst, fun _ => by trivial, fun e => by rw [e7] at e; exact absurd e (not_nI (by decide) (by decide) (by decide))⟩
      by_cases e8 : x = 1
      · subst e8
        rw [if_pos hxe] at hwk
        have h1 : Inv0 (lay z i 8 (nI 0)) a b n := hG.1.wl (by decide) (fun h => by cases h) (fun h => by cases h)
        have hG1 : Big (up2 c (6 + i) 8 (nI 0)) (lay z i 8 (nI 0)) a b n := ⟨h1, Rdy.wl hG.2.1 (by decide), hRd _⟩
        apply w_X1_endsItsWork_0
        simp (disch := omega) only [QI_i, QV_v, QA_a, mR_def, Option.getD_some, mI_def, idx_nI, setI_def, gm_0 hW hB, gm_1 hW hB, gm_2 hW hB, gm_3 hW hB, gm_4 hW hB, gm_O hW hB, gm_N hW hB, gm_P hW hB, gR_some, Bool.and_self, cond_true, cond_false, up2_pc, up2_pc0, pc_at, pc_at0, up2_at, up2_ne, hst, e7, icB_eq, decide_true, h8, show nI 1 - nI 1 = nI 0 from by decide, icB_gt, Nat.lt_irrefl, decide_false]
        simp (disch := omega) only [nI_eqI, show ¬ 1 = 0 from by decide, decide_false, cond_false]
        rw [k_at hW hB (show i < 24 by omega)]
        simp (disch := omega) only [QI_i, QV_v, QA_a, mR_def, Option.getD_some, mI_def, idx_nI, setI_def, gm_0 hW hB, gm_1 hW hB, gm_2 hW hB, gm_3 hW hB, gm_4 hW hB, gm_O hW hB, gm_N hW hB, gm_P hW hB, gR_some, Bool.and_self, cond_true, cond_false, up2_pc, up2_pc0, pc_at, pc_at0, up2_at, up2_ne]
        refine k_finish hW hB hG1 (hE.x.wl (by decide)) ha (by omega) (by rw [pt_ln (by decide)]; exact e7) fun c' hc' => ?_
        simp only [QV_v, nI_add]
        exact hnx c' (by rw [hwk]; exact hc') hI.2
      · rw [if_neg (by rw [hxe]; exact not_nI (by omega) (by decide) e8), hxe] at hwk
        have hpos : 0 < x - 1 := by omega
        rw [pk_sub hx1] at hwk
        apply w_X1_endsItsWork_0
        simp (disch := omega) only [QI_i, QV_v, QA_a, mR_def, Option.getD_some, mI_def, idx_nI, setI_def, gm_0 hW hB, gm_1 hW hB, gm_2 hW hB, gm_3 hW hB, gm_4 hW hB, gm_O hW hB, gm_N hW hB, gm_P hW hB, gR_some, Bool.and_self, cond_true, cond_false, up2_pc, up2_pc0, pc_at, pc_at0, up2_at, up2_ne, hst, e7, icB_eq, decide_true, h8, pk_sub, icB_gt, hpos]
        simp (disch := omega) only [nI_add]
        exact hnx _ (by rw [hwk]; exact ⟨hG.1.wl (by decide) (fun h => by cases h) (fun h => by cases h), Rdy.wl hG.2.1 (by decide), hRd _⟩) hI.2
    · rw [if_neg e7] at hwk
      apply w_X1_endsItsWork_0
      simp (disch := omega) only [QI_i, QV_v, QA_a, mR_def, Option.getD_some, mI_def, idx_nI, setI_def, gm_0 hW hB, gm_1 hW hB, gm_2 hW hB, gm_3 hW hB, gm_4 hW hB, gm_O hW hB, gm_N hW hB, gm_P hW hB, gR_some, Bool.and_self, cond_true, cond_false, up2_pc, up2_pc0, pc_at, pc_at0, up2_at, up2_ne, hst, e7, icB_eq, decide_false]
      simp (disch := omega) only [decide_true, cond_true, nI_add]
      exact hnx c (by rw [hwk]; exact hG) hI.2

