/-! the reference's cycle: what it does to its numbers -/
theorem DsR.dec {k : Int32} {d : Int32} (h : DsR k d) : DsR k (nI (idx d - 1)) := by
  obtain ⟨x, h1, h2, h3⟩ := h
  rw [h2, idx_nI (by omega)]
  exact ⟨x - 1, by omega, rfl, fun hk => by rw [h3 hk]⟩
theorem Inv_rtF {z : Zt} {a b n : Nat} (h0 : Inv z a b n) (hab : a < b) (hs : pt z a 7 = nI 2) : Inv (rtF z a) (a + 1) b n := by
  have hb := h0.1.bnd
  obtain ⟨hw, hd⟩ := h0.1.row (i := a) (by omega)
  have hv := h0.1.val (i := a) (by omega)
  have hI1 : Inv (if pt z a 0 = nI 4 then uz z (20 + idx (pt z a 9)) (pt z a 11) else uz z (12 + idx (pt z a 1)) (pt z a 11)) a b n ∧ pt (if pt z a 0 = nI 4 then uz z (20 + idx (pt z a 9)) (pt z a 11) else uz z (12 + idx (pt z a 1)) (pt z a 11)) a 0 = pt z a 0 ∧ (if pt z a 0 = nI 4 then uz z (20 + idx (pt z a 9)) (pt z a 11) else uz z (12 + idx (pt z a 1)) (pt z a 11)) 6 = z 6 := by
    by_cases hk : pt z a 0 = nI 4
    · obtain ⟨x, hx, he⟩ : ∃ x, x < 16 ∧ pt z a 9 = nI x := by
        rcases h0.2 a (Nat.le_refl a) hab with e | ⟨e, _⟩ | ⟨_, e⟩
        · rw [hs] at e; exact absurd e (not_nI (by decide) (by decide) (by decide))
        · rw [hs] at e; exact absurd e (not_nI (by decide) (by decide) (by decide))
        · exact e (Or.inr hk)
      rw [if_pos hk, he, idx_nI (by omega)]
      exact ⟨⟨h0.1.wv (by omega) hv, h0.2.wu (by omega)⟩, pt_uz (by omega), uz_ne (by omega)⟩
    · obtain ⟨x, hx, he⟩ := hw.tgt hk
      rw [if_neg hk, he, idx_nI (by omega)]
      exact ⟨⟨h0.1.wv (by omega) hv, h0.2.wu (by omega)⟩, pt_uz (by omega), uz_ne (by omega)⟩
  obtain ⟨hI1, hp0, -⟩ := hI1
  unfold rtF
  have hI2 : Inv0 _ a b n := hI1.1.wl (i := a) (f := 5) (v := nI (idx (pt z a 5) - 1)) (by decide) (fun _ _ => by rw [hp0]; exact hd.dec) (fun h => by cases h)
  have hE2 := hI1.2.wl (i := a) (f := 5) (v := nI (idx (pt z a 5) - 1)) (by decide)
  refine ⟨(hI2.w3 (a' := a + 1) (by omega)).wc (by decide), ?_⟩
  refine Ent.wu (Ent.wu (fun j h1 h2 => hE2 j (by omega) h2) (by decide)) (by decide)
theorem anyB_snoc {P : Nat → Bool} : ∀ {n i : Nat}, anyB P (n + 1) i = (anyB P n i || P (i + n)) := by
  intro n
  induction n with
  | zero => intro i; simp [anyB]
  | succ n ih => intro i; rw [anyB, ih, anyB, Bool.or_assoc, show i + 1 + n = i + (n + 1) by omega]
