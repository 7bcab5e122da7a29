/-! the reference's stores, work, starts, issues: the cycle -/
/-! what the work leaves as it should be -/
theorem EnR.nz {k s l p : Int32} (h : EnR k s l p) (hs : s = nI 1) : ∃ x, 1 ≤ x ∧ x ≤ 3 ∧ l = nI x := by
  rcases h with e | ⟨_, e⟩ | ⟨e, _⟩
  · rw [hs] at e; exact absurd e (not_nI (by decide) (by decide) (by decide))
  · exact e
  · rw [hs] at e; exact absurd e (not_nI (by decide) (by decide) (by decide))
theorem Inv_zap {a b n : Nat} : ∀ {d k : Nat} {z : Zt}, Inv z a b n → Inv (zap d k z) a b n := by
  intro d
  induction d with
  | zero => intro k z h; exact h
  | succ d ih => intro k z h; exact ih ⟨h.1.wl (by decide) (fun h => by cases h) (fun h => by cases h), h.2.x.w7 fun _ _ => Or.inl rfl⟩
theorem zap_lo {k' : Nat} (hk : k' < 36) : ∀ {d k : Nat} {z : Zt}, (zap d k z) k' = z k' := by
  intro d
  induction d with
  | zero => intro k z; rfl
  | succ d ih => intro k z; rw [zap, ih, lay_lo hk]
theorem brk_k {z : Zt} {st l : Nat} (h : brk z st l = true) : pt z l 0 = nI 3 := by
  unfold brk at h
  by_cases h0 : pt z l 0 = nI 3
  · exact h0
  · simp [h0] at h
theorem Inv_rpl {z : Zt} {a b n l : Nat} (h : Inv z a b n) (hk : pt z l 0 = nI 3) : Inv (rpl z b l) a b n := by
  unfold rpl
  refine Inv_zap ⟨?_, ?_⟩
  · refine Inv0.wl (Inv0.wl ((h.1.wc (k := 4) (by decide)).wc (k := 5) (by decide)) (by decide) (fun _ _ => ⟨3, by decide, rfl, fun hne => ?_⟩) (fun h => by cases h)) (by decide) (fun h => by cases h) (fun h => by cases h)
    rw [pt_uz (by decide), pt_uz (by decide)] at hne
    exact absurd hk hne
  · exact Ent.wl (Ent.wl ((h.2.wu (k := 4) (by decide)).wu (k := 5) (by decide)) (by decide)) (by decide)
theorem Inv_fnF {z : Zt} {a b n i : Nat} (h : Inv0 z a b n) (hx : EntX z a b i) (ha : a ≤ i) (hi : i < b) : Inv (fnF z a b i) a b n := by
  have hb := h.bnd
  have hw := (h.row (i := i) (by omega)).1
  have h1 : Inv0 (lay z i 7 (nI 2)) a b n := h.wl (by decide) (fun h => by cases h) (fun h => by cases h)
  have hp0 : pt (lay z i 7 (nI 2)) i 0 = pt z i 0 := pt_ln (by decide)
  have hp2 : pt (lay z i 7 (nI 2)) i 2 = pt z i 2 := pt_ln (by decide)
  have hp3 : pt (lay z i 7 (nI 2)) i 3 = pt z i 3 := pt_ln (by decide)
  unfold fnF
  by_cases hk0 : pt z i 0 = nI 0
  · rw [if_pos hk0]
    obtain ⟨-, -, hn⟩ := hw.k0 hk0
    refine ⟨h1.wl (by decide) (fun h => by cases h) (fun _ => setF_InR hn), Ent.wl (hx.w7 fun _ _ => Or.inr (Or.inr ⟨rfl, fun e => ?_⟩)) (by decide)⟩
    rw [hk0] at e
    rcases e with e | e <;> exact absurd e (not_nI (by decide) (by decide) (by decide))
  · rw [if_neg hk0]
    by_cases hk3 : pt z i 0 = nI 3
    · rw [if_pos hk3]
      unfold fnL fnE
      have hc := cellF_lt (vlO (lay z i 7 (nI 2)) a i (pt (lay z i 7 (nI 2)) i 2)) (idx (pt (lay z i 7 (nI 2)) i 4))
      generalize cellF (vlO (lay z i 7 (nI 2)) a i (pt (lay z i 7 (nI 2)) i 2)) (idx (pt (lay z i 7 (nI 2)) i 4)) = cell at hc
      have hv : InR (match lat (alP (lay z i 7 (nI 2)) (nI cell)) a i with | none => (lay z i 7 (nI 2)) (20 + cell) | some k => pt (lay z i 7 (nI 2)) k 11) := by
        cases hl : lat (alP (lay z i 7 (nI 2)) (nI cell)) a i with
        | none => exact h1.mem hc
        | some k => have := (lat_some hl).2.1; exact h1.val (by omega)
      refine ⟨?_, ?_⟩
      · exact Inv0.wc (Inv0.wc (Inv0.wl (Inv0.wl (Inv0.wl h1 (by decide) (fun h => by cases h) (fun h => by cases h)) (by decide) (fun h => by cases h) (fun h => by cases h)) (by decide) (fun h => by cases h) (fun _ => hv)) (by decide)) (by decide)
      · refine Ent.wu (Ent.wu (Ent.wl (Ent.wl (EntX.w2 hx rfl (Or.inr rfl) fun _ _ => Or.inr (Or.inr ⟨rfl, fun _ => ⟨cell, hc, by rw [if_pos rfl]⟩⟩)) (by decide)) (by decide)) (by decide)) (by decide)
    · rw [if_neg hk3]
      by_cases hk4 : pt z i 0 = nI 4
      · rw [if_pos hk4]
        unfold fnS
        have hc := cellF_lt (vlO (lay z i 7 (nI 2)) a i (pt (lay z i 7 (nI 2)) i 2)) (idx (pt (lay z i 7 (nI 2)) i 4))
        generalize cellF (vlO (lay z i 7 (nI 2)) a i (pt (lay z i 7 (nI 2)) i 2)) (idx (pt (lay z i 7 (nI 2)) i 4)) = cell at hc
        obtain ⟨-, ⟨q, hq, hqe⟩, -⟩ := hw.k4 hk4
        rw [hp3, hqe]
        have h2 : Inv0 (lay (lay z i 7 (nI 2)) i 9 (nI cell)) a b n := h1.wl (by decide) (fun h => by cases h) (fun h => by cases h)
        have hv := vlO_InR h2 (i := i) (q := q) (by omega) hq
        have hI : Inv (lay (lay (lay z i 7 (nI 2)) i 9 (nI cell)) i 11 (vlO (lay (lay z i 7 (nI 2)) i 9 (nI cell)) a i (nI q))) a b n :=
          ⟨h2.wl (by decide) (fun h => by cases h) (fun _ => hv), Ent.wl (EntX.w2 hx rfl (Or.inr rfl) fun _ _ => Or.inr (Or.inr ⟨rfl, fun _ => ⟨cell, hc, by rw [if_pos rfl]⟩⟩)) (by decide)⟩
        dsimp only
        generalize lay (lay (lay z i 7 (nI 2)) i 9 (nI cell)) i 11 (vlO (lay (lay z i 7 (nI 2)) i 9 (nI cell)) a i (nI q)) = z2 at hI
        cases hl : fstF (brk z2 i) (b - (i + 1)) (i + 1) with
        | none => exact hI
        | some l => exact Inv_rpl hI (brk_k (fstF_some hl).2.2)
      · rw [if_neg hk4]
        obtain ⟨-, ⟨p, hp, hpe⟩, ⟨q, hq, hqe⟩, -⟩ := hw.k12 hk0 hk3 hk4
        have v1 := vlO_InR h1 (i := i) (q := p) (by omega) hp
        have v2 := vlO_InR h1 (i := i) (q := q) (by omega) hq
        refine ⟨h1.wl (by decide) (fun h => by cases h) (fun _ => by rw [hpe, hqe]; exact resF_InR v1 v2), Ent.wl (hx.w7 fun _ _ => Or.inr (Or.inr ⟨rfl, fun e => ?_⟩)) (by decide)⟩
        rcases e with e | e
        · exact absurd e hk3
        · exact absurd e hk4
theorem Inv_dec {z : Zt} {a b n i : Nat} (h : Inv z a b n) (ha : a ≤ i) (hi : i < b) (h7 : pt z i 7 = nI 1) (h8 : ¬ pt z i 8 = nI 1) : Inv (lay z i 8 (pt z i 8 - nI 1)) a b n := by
  obtain ⟨x, hx1, hx3, hxe⟩ := (h.2 i ha hi).nz h7
  refine ⟨h.1.wl (by decide) (fun h => by cases h) (fun h => by cases h), h.2.w8 fun _ _ => Or.inr (Or.inl ⟨h7, x - 1, ?_, by omega, ?_⟩)⟩
  · have : ¬ x = 1 := fun e => h8 (by rw [hxe, e])
    omega
  · rw [hxe, pk_sub hx1]

theorem Inv_wkS {z : Zt} {a b n i : Nat} (h : Inv z a b n) (ha : a ≤ i) (hi : i < b) : Inv (wkS z a b i) a b n := by
  unfold wkS
  by_cases h7 : pt z i 7 = nI 1
  · rw [if_pos h7]
    by_cases h8 : pt z i 8 = nI 1
    · rw [if_pos h8]
      exact Inv_fnF (h.1.wl (by decide) (fun h => by cases h) (fun h => by cases h)) (h.2.x.wl (by decide)) ha hi
    · rw [if_neg h8]; exact Inv_dec h ha hi h7 h8
  · rw [if_neg h7]; exact h
theorem Inv_wkL {a b n : Nat} : ∀ {k i : Nat} {z : Zt}, Inv z a b n → a ≤ i → i + k ≤ b → Inv (wkL a b k i z) a b n := by
  intro k
  induction k with
  | zero => intro i z h _ _; exact h
  | succ k ih => intro i z h h1 h2; exact ih (Inv_wkS h h1 (by omega)) (by omega) (by omega)
theorem Inv_cy2 {z : Zt} {a b n : Nat} (h0 : Inv z a b n) : Inv (cy2 z) a b n := by
  have hb := h0.1.bnd
  unfold cy2
  rw [h0.1.i3, h0.1.i2]
  exact Inv_wkL h0 (Nat.le_refl a) (by omega)
/-! retiring, all of it -/
theorem Inv_retL {b n : Nat} : ∀ {k a : Nat} {z : Zt}, Inv z a b n → ∃ a', a ≤ a' ∧ Inv (retL k z) a' b n := by
  intro k
  induction k with
  | zero => intro a z h; exact ⟨a, Nat.le_refl a, h⟩
  | succ k ih =>
    intro a z h
    unfold retL
    rw [h.1.i3, h.1.i2]
    by_cases hc : a < b ∧ pt z a 7 = nI 2
    · rw [if_pos hc]
      obtain ⟨a', h1, h2⟩ := ih (Inv_rtF h hc.1 hc.2)
      exact ⟨a', by omega, h2⟩
    · rw [if_neg hc]; exact ⟨a, Nat.le_refl a, h⟩

