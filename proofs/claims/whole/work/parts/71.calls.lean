/-! what each call comes to, in the class and in the reference -/
theorem inN_lt {c : In2} {z : Zt} (h : Good c z) : inN z < 2147483648 ∧ enN z < 2147483648 := by
  obtain ⟨a, b, n, cy, g, -⟩ := h
  have hb := g.1.bnd
  unfold inN enN
  rw [g.1.h1, g.1.h2, g.1.h3, idx_nI (by omega), idx_nI (by omega), idx_nI (by omega)]
  omega
theorem c_set {xs : Scr} {I : In2} {ρ : Rh} {z : Zt} {s : Nat} {zs : Nat → Zt} {tl : Nat × Zt} {p q : Int32} (hW : Rw ρ) (hC : Cst I ρ z s zs tl) : ∃ r, okRe r ∧ (∀ Q, KR Q I ρ (cd 1 2 0) r → Ev xs 63 0 [.ref 0, .int p, .int q, .null] [] (I, ρ) Q) ∧ ∀ I' ρ' Q, Rw ρ' → Rst I' z s zs tl → RR Q I' ρ' z s zs tl r → Ev xs 112 0 [.ref 245, .int p, .int q, .null] [] (I', ρ') Q := by
  obtain ⟨iN, eN⟩ := inN_lt hC.1
  cases h0 : inB p 3
  · exact ⟨.inr 1, ⟨by decide, by decide⟩, fun Q h => k_set hW hC (fun j hj e1 b2 => by rw [e1, inB_n (by first | decide | assumption) hj] at h0; cases h0) (fun _ => h 1 (by decide)) (fun x0 x1 => absurd (h0.symm.trans x0) (by decide)), fun I' ρ' Q hW' hR' h => e_set hW' hR' hC.2.2.1 (fun j hj e1 b2 => by rw [e1, inB_n (by first | decide | assumption) hj] at h0; cases h0) (fun _ => h) (fun x0 x1 => absurd (h0.symm.trans x0) (by decide))⟩
  · skip
    cases h1 : okV p q
    · exact ⟨.inr 2, ⟨by decide, by decide⟩, fun Q h => k_set hW hC (fun j hj e1 b2 => absurd (h1.symm.trans b2) (by decide)) (fun x0 => absurd (h0.symm.trans x0) (by decide)) (fun _ _ => h 2 (by decide)), fun I' ρ' Q hW' hR' h => e_set hW' hR' hC.2.2.1 (fun j hj e1 b2 => absurd (h1.symm.trans b2) (by decide)) (fun x0 => absurd (h0.symm.trans x0) (by decide)) (fun _ _ => h)⟩
    · refine ⟨.inl (z (9 + idx p), uz z (9 + idx p) q, svN s, svZ s zs z, tl), trivial, fun Q h => k_set hW hC (fun j hj e1 b2 => ?_) (fun x0 => absurd (h0.symm.trans x0) (by decide)) (fun x0 x1 => absurd (h1.symm.trans x1) (by decide)), fun I' ρ' Q hW' hR' h => e_set hW' hR' hC.2.2.1 (fun j hj e1 b2 => ?_) (fun x0 => absurd (h0.symm.trans x0) (by decide)) (fun x0 x1 => absurd (h1.symm.trans x1) (by decide))⟩
      · have aj : idx p = j := by (rw [e1]; exact idx_nI (by omega))
        subst aj
        exact h
      · have aj : idx p = j := by (rw [e1]; exact idx_nI (by omega))
        subst aj
        exact h
theorem c_putReg {xs : Scr} {I : In2} {ρ : Rh} {z : Zt} {s : Nat} {zs : Nat → Zt} {tl : Nat × Zt} {p q : Int32} (hW : Rw ρ) (hC : Cst I ρ z s zs tl) : ∃ r, okRe r ∧ (∀ Q, KR Q I ρ (cd 1 2 3) r → Ev xs 64 0 [.ref 0, .int p, .int q] [] (I, ρ) Q) ∧ ∀ I' ρ' Q, Rw ρ' → Rst I' z s zs tl → RR Q I' ρ' z s zs tl r → Ev xs 115 0 [.ref 245, .int p, .int q] [] (I', ρ') Q := by
  obtain ⟨iN, eN⟩ := inN_lt hC.1
  cases h0 : inB p 8
  · exact ⟨.inr 1, ⟨by decide, by decide⟩, fun Q h => k_putReg hW hC (fun j hj e1 b2 b3 => by rw [e1, inB_n (by first | decide | assumption) hj] at h0; cases h0) (fun _ => h 1 (by decide)) (fun x0 x1 => absurd (h0.symm.trans x0) (by decide)) (fun x0 x1 x2 => absurd (h0.symm.trans x0) (by decide)), fun I' ρ' Q hW' hR' h => e_putReg hW' hC.1 hR' hC.2.2.1 (fun j hj e1 b2 b3 => by rw [e1, inB_n (by first | decide | assumption) hj] at h0; cases h0) (fun _ => h) (fun x0 x1 => absurd (h0.symm.trans x0) (by decide)) (fun x0 x1 x2 => absurd (h0.symm.trans x0) (by decide))⟩
  · skip
    cases h1 : okR q
    · exact ⟨.inr 2, ⟨by decide, by decide⟩, fun Q h => k_putReg hW hC (fun j hj e1 b2 b3 => absurd (h1.symm.trans b2) (by decide)) (fun x0 => absurd (h0.symm.trans x0) (by decide)) (fun _ _ => h 2 (by decide)) (fun x0 x1 x2 => absurd (h1.symm.trans x1) (by decide)), fun I' ρ' Q hW' hR' h => e_putReg hW' hC.1 hR' hC.2.2.1 (fun j hj e1 b2 b3 => absurd (h1.symm.trans b2) (by decide)) (fun x0 => absurd (h0.symm.trans x0) (by decide)) (fun _ _ => h) (fun x0 x1 x2 => absurd (h1.symm.trans x1) (by decide))⟩
    · skip
      by_cases h2 : z 2 = z 3
      · refine ⟨.inl (z (12 + idx p), uz z (12 + idx p) q, svN s, svZ s zs z, tl), trivial, fun Q h => k_putReg hW hC (fun j hj e1 b2 b3 => ?_) (fun x0 => absurd (h0.symm.trans x0) (by decide)) (fun x0 x1 => absurd (h1.symm.trans x1) (by decide)) (fun x0 x1 x2 => absurd h2 x2), fun I' ρ' Q hW' hR' h => e_putReg hW' hC.1 hR' hC.2.2.1 (fun j hj e1 b2 b3 => ?_) (fun x0 => absurd (h0.symm.trans x0) (by decide)) (fun x0 x1 => absurd (h1.symm.trans x1) (by decide)) (fun x0 x1 x2 => absurd h2 x2)⟩
        · have aj : idx p = j := by (rw [e1]; exact idx_nI (by omega))
          subst aj
          exact h
        · have aj : idx p = j := by (rw [e1]; exact idx_nI (by omega))
          subst aj
          exact h
      · exact ⟨.inr 3, ⟨by decide, by decide⟩, fun Q h => k_putReg hW hC (fun j hj e1 b2 b3 => absurd b3 h2) (fun x0 => absurd (h0.symm.trans x0) (by decide)) (fun x0 x1 => absurd (h1.symm.trans x1) (by decide)) (fun _ _ _ => h 3 (by decide)), fun I' ρ' Q hW' hR' h => e_putReg hW' hC.1 hR' hC.2.2.1 (fun j hj e1 b2 b3 => absurd b3 h2) (fun x0 => absurd (h0.symm.trans x0) (by decide)) (fun x0 x1 => absurd (h1.symm.trans x1) (by decide)) (fun _ _ _ => h)⟩
theorem c_putCell {xs : Scr} {I : In2} {ρ : Rh} {z : Zt} {s : Nat} {zs : Nat → Zt} {tl : Nat × Zt} {p q : Int32} (hW : Rw ρ) (hC : Cst I ρ z s zs tl) : ∃ r, okRe r ∧ (∀ Q, KR Q I ρ (cd 1 2 3) r → Ev xs 65 0 [.ref 0, .int p, .int q] [] (I, ρ) Q) ∧ ∀ I' ρ' Q, Rw ρ' → Rst I' z s zs tl → RR Q I' ρ' z s zs tl r → Ev xs 116 0 [.ref 245, .int p, .int q] [] (I', ρ') Q := by
  obtain ⟨iN, eN⟩ := inN_lt hC.1
  cases h0 : inB p 16
  · exact ⟨.inr 1, ⟨by decide, by decide⟩, fun Q h => k_putCell hW hC (fun j hj e1 b2 b3 => by rw [e1, inB_n (by first | decide | assumption) hj] at h0; cases h0) (fun _ => h 1 (by decide)) (fun x0 x1 => absurd (h0.symm.trans x0) (by decide)) (fun x0 x1 x2 => absurd (h0.symm.trans x0) (by decide)), fun I' ρ' Q hW' hR' h => e_putCell hW' hC.1 hR' hC.2.2.1 (fun j hj e1 b2 b3 => by rw [e1, inB_n (by first | decide | assumption) hj] at h0; cases h0) (fun _ => h) (fun x0 x1 => absurd (h0.symm.trans x0) (by decide)) (fun x0 x1 x2 => absurd (h0.symm.trans x0) (by decide))⟩
  · skip
    cases h1 : okR q
    · exact ⟨.inr 2, ⟨by decide, by decide⟩, fun Q h => k_putCell hW hC (fun j hj e1 b2 b3 => absurd (h1.symm.trans b2) (by decide)) (fun x0 => absurd (h0.symm.trans x0) (by decide)) (fun _ _ => h 2 (by decide)) (fun x0 x1 x2 => absurd (h1.symm.trans x1) (by decide)), fun I' ρ' Q hW' hR' h => e_putCell hW' hC.1 hR' hC.2.2.1 (fun j hj e1 b2 b3 => absurd (h1.symm.trans b2) (by decide)) (fun x0 => absurd (h0.symm.trans x0) (by decide)) (fun _ _ => h) (fun x0 x1 x2 => absurd (h1.symm.trans x1) (by decide))⟩
    · skip
      by_cases h2 : z 2 = z 3
      · refine ⟨.inl (z (20 + idx p), uz z (20 + idx p) q, svN s, svZ s zs z, tl), trivial, fun Q h => k_putCell hW hC (fun j hj e1 b2 b3 => ?_) (fun x0 => absurd (h0.symm.trans x0) (by decide)) (fun x0 x1 => absurd (h1.symm.trans x1) (by decide)) (fun x0 x1 x2 => absurd h2 x2), fun I' ρ' Q hW' hR' h => e_putCell hW' hC.1 hR' hC.2.2.1 (fun j hj e1 b2 b3 => ?_) (fun x0 => absurd (h0.symm.trans x0) (by decide)) (fun x0 x1 => absurd (h1.symm.trans x1) (by decide)) (fun x0 x1 x2 => absurd h2 x2)⟩
        · have aj : idx p = j := by (rw [e1]; exact idx_nI (by omega))
          subst aj
          exact h
        · have aj : idx p = j := by (rw [e1]; exact idx_nI (by omega))
          subst aj
          exact h
      · exact ⟨.inr 3, ⟨by decide, by decide⟩, fun Q h => k_putCell hW hC (fun j hj e1 b2 b3 => absurd b3 h2) (fun x0 => absurd (h0.symm.trans x0) (by decide)) (fun x0 x1 => absurd (h1.symm.trans x1) (by decide)) (fun _ _ _ => h 3 (by decide)), fun I' ρ' Q hW' hR' h => e_putCell hW' hC.1 hR' hC.2.2.1 (fun j hj e1 b2 b3 => absurd b3 h2) (fun x0 => absurd (h0.symm.trans x0) (by decide)) (fun x0 x1 => absurd (h1.symm.trans x1) (by decide)) (fun _ _ _ => h)⟩
theorem c_load {xs : Scr} {I : In2} {ρ : Rh} {z : Zt} {s : Nat} {zs : Nat → Zt} {tl : Nat × Zt} (hW : Rw ρ) (hC : Cst I ρ z s zs tl) : ∃ r, okRe r ∧ (∀ Q, KR Q I ρ (cd 2 3 0) r → Ev xs 74 0 [.ref 0, .null, .null, .null] [] (I, ρ) Q) ∧ ∀ I' ρ' Q, Rw ρ' → Rst I' z s zs tl → RR Q I' ρ' z s zs tl r → Ev xs 157 0 [.ref 245, .null] [] (I', ρ') Q := by
  obtain ⟨iN, eN⟩ := inN_lt hC.1
  cases h0 : txF tl
  · exact ⟨.inr 1, ⟨by decide, by decide⟩, fun Q h => k_load hW hC (fun b1 b2 => absurd (h0.symm.trans b1) (by decide)) (fun _ => h 2 (by decide)) (fun x0 x1 => absurd (h0.symm.trans x0) (by decide)), fun I' ρ' Q hW' hR' h => e_load hW' hC.2.2.2.2.2.1 hR' hC.2.2.1 (fun b1 b2 => absurd (h0.symm.trans b1) (by decide)) (fun _ => h) (fun x0 x1 => absurd (h0.symm.trans x0) (by decide))⟩
  · skip
    by_cases h1 : txK tl tl.1 + 1 ≤ 24
    · refine ⟨.inl (nI (txK tl tl.1 + 1), ldZ tl z, svN s, svZ s zs z, (0, tl.2)), trivial, fun Q h => k_load hW hC (fun b1 b2 => ?_) (fun x0 => absurd (h0.symm.trans x0) (by decide)) (fun x0 x1 => absurd h1 x1), fun I' ρ' Q hW' hR' h => e_load hW' hC.2.2.2.2.2.1 hR' hC.2.2.1 (fun b1 b2 => ?_) (fun x0 => absurd (h0.symm.trans x0) (by decide)) (fun x0 x1 => absurd h1 x1)⟩
      · exact h
      · exact h
    · exact ⟨.inr 2, ⟨by decide, by decide⟩, fun Q h => k_load hW hC (fun b1 b2 => absurd b2 h1) (fun x0 => absurd (h0.symm.trans x0) (by decide)) (fun _ _ => h 3 (by decide)), fun I' ρ' Q hW' hR' h => e_load hW' hC.2.2.2.2.2.1 hR' hC.2.2.1 (fun b1 b2 => absurd b2 h1) (fun x0 => absurd (h0.symm.trans x0) (by decide)) (fun _ _ => h)⟩
theorem c_instruction {xs : Scr} {I : In2} {ρ : Rh} {z : Zt} {s : Nat} {zs : Nat → Zt} {tl : Nat × Zt} {p q : Int32} (hW : Rw ρ) (hC : Cst I ρ z s zs tl) : ∃ r, okRe r ∧ (∀ Q, KR Q I ρ (cd 1 2 0) r → Ev xs 77 0 [.ref 0, .int p, .int q] [] (I, ρ) Q) ∧ ∀ I' ρ' Q, Rw ρ' → Rst I' z s zs tl → RR Q I' ρ' z s zs tl r → Ev xs 160 0 [.ref 245, .int p, .int q] [] (I', ρ') Q := by
  obtain ⟨iN, eN⟩ := inN_lt hC.1
  cases h0 : inB p (inN z)
  · exact ⟨.inr 1, ⟨by decide, by decide⟩, fun Q h => k_instruction hW hC (fun i w hi hw e1 e2 => by rw [e1, inB_n (by first | decide | assumption) hi] at h0; cases h0) (fun _ => h 1 (by decide)) (fun x0 x1 => absurd (h0.symm.trans x0) (by decide)), fun I' ρ' Q hW' hR' h => e_instruction hW' hC.1 hR' (fun i w hi hw e1 e2 => by rw [e1, inB_n (by first | decide | assumption) hi] at h0; cases h0) (fun _ => h) (fun x0 x1 => absurd (h0.symm.trans x0) (by decide))⟩
  · skip
    cases h1 : inB q 7
    · exact ⟨.inr 2, ⟨by decide, by decide⟩, fun Q h => k_instruction hW hC (fun i w hi hw e1 e2 => by rw [e2, inB_n (by first | decide | assumption) hw] at h1; cases h1) (fun x0 => absurd (h0.symm.trans x0) (by decide)) (fun _ _ => h 2 (by decide)), fun I' ρ' Q hW' hR' h => e_instruction hW' hC.1 hR' (fun i w hi hw e1 e2 => by rw [e2, inB_n (by first | decide | assumption) hw] at h1; cases h1) (fun x0 => absurd (h0.symm.trans x0) (by decide)) (fun _ _ => h)⟩
    · refine ⟨.inl (pt z (idx p) (idx q), z, s, zs, tl), trivial, fun Q h => k_instruction hW hC (fun i w hi hw e1 e2 => ?_) (fun x0 => absurd (h0.symm.trans x0) (by decide)) (fun x0 x1 => absurd (h1.symm.trans x1) (by decide)), fun I' ρ' Q hW' hR' h => e_instruction hW' hC.1 hR' (fun i w hi hw e1 e2 => ?_) (fun x0 => absurd (h0.symm.trans x0) (by decide)) (fun x0 x1 => absurd (h1.symm.trans x1) (by decide))⟩
      · have ai : idx p = i := by (rw [e1]; exact idx_nI (by omega))
        subst ai
        have aw : idx q = w := by (rw [e2]; exact idx_nI (by omega))
        subst aw
        exact h
      · have ai : idx p = i := by (rw [e1]; exact idx_nI (by omega))
        subst ai
        have aw : idx q = w := by (rw [e2]; exact idx_nI (by omega))
        subst aw
        exact h
theorem c_entry {xs : Scr} {I : In2} {ρ : Rh} {z : Zt} {s : Nat} {zs : Nat → Zt} {tl : Nat × Zt} {p q : Int32} (hW : Rw ρ) (hC : Cst I ρ z s zs tl) : ∃ r, okRe r ∧ (∀ Q, KR Q I ρ (cd 1 2 0) r → Ev xs 78 0 [.ref 0, .int p, .int q] [] (I, ρ) Q) ∧ ∀ I' ρ' Q, Rw ρ' → Rst I' z s zs tl → RR Q I' ρ' z s zs tl r → Ev xs 163 0 [.ref 245, .int p, .int q] [] (I', ρ') Q := by
  obtain ⟨iN, eN⟩ := inN_lt hC.1
  cases h0 : inB p (enN z)
  · exact ⟨.inr 1, ⟨by decide, by decide⟩, fun Q h => k_entry hW hC (fun i w hi hw e1 e2 => by rw [e1, inB_n (by first | decide | assumption) hi] at h0; cases h0) (fun _ => h 1 (by decide)) (fun x0 x1 => absurd (h0.symm.trans x0) (by decide)), fun I' ρ' Q hW' hR' h => e_entry hW' hC.1 hR' (fun i w hi hw e1 e2 => by rw [e1, inB_n (by first | decide | assumption) hi] at h0; cases h0) (fun _ => h) (fun x0 x1 => absurd (h0.symm.trans x0) (by decide))⟩
  · skip
    cases h1 : inB q 9
    · exact ⟨.inr 2, ⟨by decide, by decide⟩, fun Q h => k_entry hW hC (fun i w hi hw e1 e2 => by rw [e2, inB_n (by first | decide | assumption) hw] at h1; cases h1) (fun x0 => absurd (h0.symm.trans x0) (by decide)) (fun _ _ => h 2 (by decide)), fun I' ρ' Q hW' hR' h => e_entry hW' hC.1 hR' (fun i w hi hw e1 e2 => by rw [e2, inB_n (by first | decide | assumption) hw] at h1; cases h1) (fun x0 => absurd (h0.symm.trans x0) (by decide)) (fun _ _ => h)⟩
    · refine ⟨.inl (epV z (idx (z 3)) (idx (z 3) + idx p) (idx q), z, s, zs, tl), trivial, fun Q h => k_entry hW hC (fun i w hi hw e1 e2 => ?_) (fun x0 => absurd (h0.symm.trans x0) (by decide)) (fun x0 x1 => absurd (h1.symm.trans x1) (by decide)), fun I' ρ' Q hW' hR' h => e_entry hW' hC.1 hR' (fun i w hi hw e1 e2 => ?_) (fun x0 => absurd (h0.symm.trans x0) (by decide)) (fun x0 x1 => absurd (h1.symm.trans x1) (by decide))⟩
      · have ai : idx p = i := by (rw [e1]; exact idx_nI (by omega))
        subst ai
        have aw : idx q = w := by (rw [e2]; exact idx_nI (by omega))
        subst aw
        exact h
      · have ai : idx p = i := by (rw [e1]; exact idx_nI (by omega))
        subst ai
        have aw : idx q = w := by (rw [e2]; exact idx_nI (by omega))
        subst aw
        exact h
theorem c_register {xs : Scr} {I : In2} {ρ : Rh} {z : Zt} {s : Nat} {zs : Nat → Zt} {tl : Nat × Zt} {p q : Int32} (hW : Rw ρ) (hC : Cst I ρ z s zs tl) : ∃ r, okRe r ∧ (∀ Q, KR Q I ρ (cd 1 2 0) r → Ev xs 80 0 [.ref 0, .int p, .int q] [] (I, ρ) Q) ∧ ∀ I' ρ' Q, Rw ρ' → Rst I' z s zs tl → RR Q I' ρ' z s zs tl r → Ev xs 167 0 [.ref 245, .int p, .int q] [] (I', ρ') Q := by
  obtain ⟨iN, eN⟩ := inN_lt hC.1
  cases h0 : inB p 8
  · exact ⟨.inr 1, ⟨by decide, by decide⟩, fun Q h => k_register hW hC (fun i w hi hw e1 e2 => by rw [e1, inB_n (by first | decide | assumption) hi] at h0; cases h0) (fun _ => h 1 (by decide)) (fun x0 x1 => absurd (h0.symm.trans x0) (by decide)), fun I' ρ' Q hW' hR' h => e_register hW' hC.1 hR' (fun i w hi hw e1 e2 => by rw [e1, inB_n (by first | decide | assumption) hi] at h0; cases h0) (fun _ => h) (fun x0 x1 => absurd (h0.symm.trans x0) (by decide))⟩
  · skip
    cases h1 : inB q 3
    · exact ⟨.inr 2, ⟨by decide, by decide⟩, fun Q h => k_register hW hC (fun i w hi hw e1 e2 => by rw [e2, inB_n (by first | decide | assumption) hw] at h1; cases h1) (fun x0 => absurd (h0.symm.trans x0) (by decide)) (fun _ _ => h 2 (by decide)), fun I' ρ' Q hW' hR' h => e_register hW' hC.1 hR' (fun i w hi hw e1 e2 => by rw [e2, inB_n (by first | decide | assumption) hw] at h1; cases h1) (fun x0 => absurd (h0.symm.trans x0) (by decide)) (fun _ _ => h)⟩
    · refine ⟨.inl (rgV z (idx p) (idx q), z, s, zs, tl), trivial, fun Q h => k_register hW hC (fun i w hi hw e1 e2 => ?_) (fun x0 => absurd (h0.symm.trans x0) (by decide)) (fun x0 x1 => absurd (h1.symm.trans x1) (by decide)), fun I' ρ' Q hW' hR' h => e_register hW' hC.1 hR' (fun i w hi hw e1 e2 => ?_) (fun x0 => absurd (h0.symm.trans x0) (by decide)) (fun x0 x1 => absurd (h1.symm.trans x1) (by decide))⟩
      · have ai : idx p = i := by (rw [e1]; exact idx_nI (by omega))
        subst ai
        have aw : idx q = w := by (rw [e2]; exact idx_nI (by omega))
        subst aw
        exact h
      · have ai : idx p = i := by (rw [e1]; exact idx_nI (by omega))
        subst ai
        have aw : idx q = w := by (rw [e2]; exact idx_nI (by omega))
        subst aw
        exact h
theorem c_cell {xs : Scr} {I : In2} {ρ : Rh} {z : Zt} {s : Nat} {zs : Nat → Zt} {tl : Nat × Zt} {p q : Int32} (hW : Rw ρ) (hC : Cst I ρ z s zs tl) : ∃ r, okRe r ∧ (∀ Q, KR Q I ρ (cd 1 2 0) r → Ev xs 81 0 [.ref 0, .int p, .int q] [] (I, ρ) Q) ∧ ∀ I' ρ' Q, Rw ρ' → Rst I' z s zs tl → RR Q I' ρ' z s zs tl r → Ev xs 169 0 [.ref 245, .int p, .int q] [] (I', ρ') Q := by
  obtain ⟨iN, eN⟩ := inN_lt hC.1
  cases h0 : inB p 16
  · exact ⟨.inr 1, ⟨by decide, by decide⟩, fun Q h => k_cell hW hC (fun i w hi hw e1 e2 => by rw [e1, inB_n (by first | decide | assumption) hi] at h0; cases h0) (fun _ => h 1 (by decide)) (fun x0 x1 => absurd (h0.symm.trans x0) (by decide)), fun I' ρ' Q hW' hR' h => e_cell hW' hC.1 hR' (fun i w hi hw e1 e2 => by rw [e1, inB_n (by first | decide | assumption) hi] at h0; cases h0) (fun _ => h) (fun x0 x1 => absurd (h0.symm.trans x0) (by decide))⟩
  · skip
    cases h1 : inB q 2
    · exact ⟨.inr 2, ⟨by decide, by decide⟩, fun Q h => k_cell hW hC (fun i w hi hw e1 e2 => by rw [e2, inB_n (by first | decide | assumption) hw] at h1; cases h1) (fun x0 => absurd (h0.symm.trans x0) (by decide)) (fun _ _ => h 2 (by decide)), fun I' ρ' Q hW' hR' h => e_cell hW' hC.1 hR' (fun i w hi hw e1 e2 => by rw [e2, inB_n (by first | decide | assumption) hw] at h1; cases h1) (fun x0 => absurd (h0.symm.trans x0) (by decide)) (fun _ _ => h)⟩
    · refine ⟨.inl (clV z (idx p) (idx q), z, s, zs, tl), trivial, fun Q h => k_cell hW hC (fun i w hi hw e1 e2 => ?_) (fun x0 => absurd (h0.symm.trans x0) (by decide)) (fun x0 x1 => absurd (h1.symm.trans x1) (by decide)), fun I' ρ' Q hW' hR' h => e_cell hW' hC.1 hR' (fun i w hi hw e1 e2 => ?_) (fun x0 => absurd (h0.symm.trans x0) (by decide)) (fun x0 x1 => absurd (h1.symm.trans x1) (by decide))⟩
      · have ai : idx p = i := by (rw [e1]; exact idx_nI (by omega))
        subst ai
        have aw : idx q = w := by (rw [e2]; exact idx_nI (by omega))
        subst aw
        exact h
      · have ai : idx p = i := by (rw [e1]; exact idx_nI (by omega))
        subst ai
        have aw : idx q = w := by (rw [e2]; exact idx_nI (by omega))
        subst aw
        exact h
theorem c_whyNot {xs : Scr} {I : In2} {ρ : Rh} {z : Zt} {s : Nat} {zs : Nat → Zt} {tl : Nat × Zt} {p : Int32} (hW : Rw ρ) (hC : Cst I ρ z s zs tl) : ∃ r, okRe r ∧ (∀ Q, KR Q I ρ (cd 1 0 0) r → Ev xs 79 0 [.ref 0, .int p] [] (I, ρ) Q) ∧ ∀ I' ρ' Q, Rw ρ' → Rst I' z s zs tl → RR Q I' ρ' z s zs tl r → Ev xs 164 0 [.ref 245, .int p] [] (I', ρ') Q := by
  obtain ⟨iN, eN⟩ := inN_lt hC.1
  cases h0 : inB p (enN z)
  · exact ⟨.inr 1, ⟨by decide, by decide⟩, fun Q h => k_whyNot hW hC (fun i hi e1 => by rw [e1, inB_n (by first | decide | assumption) hi] at h0; cases h0) (fun _ => h 1 (by decide)), fun I' ρ' Q hW' hR' h => e_whyNot hW' hC.1 hR' (fun i hi e1 => by rw [e1, inB_n (by first | decide | assumption) hi] at h0; cases h0) (fun _ => h)⟩
  · refine ⟨.inl (rsn z (idx (z 3)) (idx (z 3) + idx p), z, s, zs, tl), trivial, fun Q h => k_whyNot hW hC (fun i hi e1 => ?_) (fun x0 => absurd (h0.symm.trans x0) (by decide)), fun I' ρ' Q hW' hR' h => e_whyNot hW' hC.1 hR' (fun i hi e1 => ?_) (fun x0 => absurd (h0.symm.trans x0) (by decide))⟩
    · have ai : idx p = i := by (rw [e1]; exact idx_nI (by omega))
      subst ai
      exact h
    · have ai : idx p = i := by (rw [e1]; exact idx_nI (by omega))
      subst ai
      exact h
theorem c_count {xs : Scr} {I : In2} {ρ : Rh} {z : Zt} {s : Nat} {zs : Nat → Zt} {tl : Nat × Zt} {p : Int32} (hW : Rw ρ) (hC : Cst I ρ z s zs tl) : ∃ r, okRe r ∧ (∀ Q, KR Q I ρ (cd 2 0 0) r → Ev xs 82 0 [.ref 0, .int p] [] (I, ρ) Q) ∧ ∀ I' ρ' Q, Rw ρ' → Rst I' z s zs tl → RR Q I' ρ' z s zs tl r → Ev xs 172 0 [.ref 245, .int p] [] (I', ρ') Q := by
  obtain ⟨iN, eN⟩ := inN_lt hC.1
  cases h0 : inB p 12
  · exact ⟨.inr 1, ⟨by decide, by decide⟩, fun Q h => k_count hW hC (fun i hi e1 => by rw [e1, inB_n (by first | decide | assumption) hi] at h0; cases h0) (fun _ => h 2 (by decide)), fun I' ρ' Q hW' hR' h => e_count hW' hC.1 hR' (fun i hi e1 => by rw [e1, inB_n (by first | decide | assumption) hi] at h0; cases h0) (fun _ => h)⟩
  · refine ⟨.inl (cnV z (idx (z 3)) (idx (z 2)) (idx (z 1)) s (idx p), z, s, zs, tl), trivial, fun Q h => k_count hW hC (fun i hi e1 => ?_) (fun x0 => absurd (h0.symm.trans x0) (by decide)), fun I' ρ' Q hW' hR' h => e_count hW' hC.1 hR' (fun i hi e1 => ?_) (fun x0 => absurd (h0.symm.trans x0) (by decide))⟩
    · have ai : idx p = i := by (rw [e1]; exact idx_nI (by omega))
      subst ai
      exact h
    · have ai : idx p = i := by (rw [e1]; exact idx_nI (by omega))
      subst ai
      exact h
theorem c_setting {xs : Scr} {I : In2} {ρ : Rh} {z : Zt} {s : Nat} {zs : Nat → Zt} {tl : Nat × Zt} {p : Int32} (hW : Rw ρ) (hC : Cst I ρ z s zs tl) : ∃ r, okRe r ∧ (∀ Q, KR Q I ρ (cd 1 0 0) r → Ev xs 83 0 [.ref 0, .int p] [] (I, ρ) Q) ∧ ∀ I' ρ' Q, Rw ρ' → Rst I' z s zs tl → RR Q I' ρ' z s zs tl r → Ev xs 173 0 [.ref 245, .int p] [] (I', ρ') Q := by
  obtain ⟨iN, eN⟩ := inN_lt hC.1
  cases h0 : inB p 3
  · exact ⟨.inr 1, ⟨by decide, by decide⟩, fun Q h => k_setting hW hC (fun i hi e1 => by rw [e1, inB_n (by first | decide | assumption) hi] at h0; cases h0) (fun _ => h 1 (by decide)), fun I' ρ' Q hW' hR' h => e_setting hW' hR' (fun i hi e1 => by rw [e1, inB_n (by first | decide | assumption) hi] at h0; cases h0) (fun _ => h)⟩
  · refine ⟨.inl (z (9 + idx p), z, s, zs, tl), trivial, fun Q h => k_setting hW hC (fun i hi e1 => ?_) (fun x0 => absurd (h0.symm.trans x0) (by decide)), fun I' ρ' Q hW' hR' h => e_setting hW' hR' (fun i hi e1 => ?_) (fun x0 => absurd (h0.symm.trans x0) (by decide))⟩
    · have ai : idx p = i := by (rw [e1]; exact idx_nI (by omega))
      subst ai
      exact h
    · have ai : idx p = i := by (rw [e1]; exact idx_nI (by omega))
      subst ai
      exact h
theorem c_bestWindow {xs : Scr} {I : In2} {ρ : Rh} {z : Zt} {s : Nat} {zs : Nat → Zt} {tl : Nat × Zt} {p : Int32} (hW : Rw ρ) (hC : Cst I ρ z s zs tl) : ∃ r, okRe r ∧ (∀ Q, KR Q I ρ (cd 2 0 0) r → Ev xs 90 0 [.ref 0, .int p] [] (I, ρ) Q) ∧ ∀ I' ρ' Q, Rw ρ' → Rst I' z s zs tl → RR Q I' ρ' z s zs tl r → Ev xs 180 0 [.ref 245, .int p] [] (I', ρ') Q := by
  obtain ⟨iN, eN⟩ := inN_lt hC.1
  cases h0 : inB p 3
  · exact ⟨.inr 1, ⟨by decide, by decide⟩, fun Q h => k_bestWindow hW hC (fun i hi e1 => by rw [e1, inB_n (by first | decide | assumption) hi] at h0; cases h0) (fun _ => h 2 (by decide)), fun I' ρ' Q hW' hR' h => e_bestWindow hW' hC.1 hR' (fun i hi e1 => by rw [e1, inB_n (by first | decide | assumption) hi] at h0; cases h0) (fun _ => h)⟩
  · refine ⟨.inl (bwV z (idx p), z, s, zs, tl), trivial, fun Q h => k_bestWindow hW hC (fun i hi e1 => ?_) (fun x0 => absurd (h0.symm.trans x0) (by decide)), fun I' ρ' Q hW' hR' h => e_bestWindow hW' hC.1 hR' (fun i hi e1 => ?_) (fun x0 => absurd (h0.symm.trans x0) (by decide))⟩
    · have ai : idx p = i := by (rw [e1]; exact idx_nI (by omega))
      subst ai
      exact h
    · have ai : idx p = i := by (rw [e1]; exact idx_nI (by omega))
      subst ai
      exact h
