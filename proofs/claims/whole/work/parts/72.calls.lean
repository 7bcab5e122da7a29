theorem okA_n {w : Nat} (h1 : 33 ≤ w) (h2 : w ≤ 126) : okA (nI w) = true := by
  unfold okA
  rw [icB_lt (by omega) (by decide), icB_gt (by omega) (by decide), decide_eq_false (by omega), decide_eq_false (by omega)]; rfl
theorem okN_n {w : Nat} (h1 : 1 ≤ w) (h2 : w ≤ 100) : okN (nI w) = true := by
  unfold okN
  rw [icB_lt (by omega) (by decide), icB_gt (by omega) (by decide), decide_eq_false (by omega), decide_eq_false (by omega)]; rfl
theorem c_append {xs : Scr} {I : In2} {ρ : Rh} {z : Zt} {s : Nat} {zs : Nat → Zt} {tl : Nat × Zt} {p : Int32} (hW : Rw ρ) (hC : Cst I ρ z s zs tl) : ∃ r, okRe r ∧ (∀ Q, KR Q I ρ (cd 2 3 0) r → Ev xs 71 0 [.ref 0, .int p] [] (I, ρ) Q) ∧ ∀ I' ρ' Q, Rw ρ' → Rst I' z s zs tl → RR Q I' ρ' z s zs tl r → Ev xs 140 0 [.ref 245, .int p] [] (I', ρ') Q := by
  cases h0 : okA p
  · exact ⟨.inr 1, ⟨by decide, by decide⟩, fun Q h => k_append hW hC (fun w w1 w2 e _ => by rw [e, okA_n w1 w2] at h0; cases h0) (fun _ => h 2 (by decide)) (fun e => absurd (h0.symm.trans e) (by decide)), fun I' ρ' Q hW' hR' h => e_append hW' hC.tx.2.1 hR' (fun w w1 w2 e _ => by rw [e, okA_n w1 w2] at h0; cases h0) (fun _ => h) (fun e => absurd (h0.symm.trans e) (by decide))⟩
  · by_cases h1 : tl.1 < 120
    · exact ⟨.inl (nI (tl.1 + 1), z, s, zs, apT tl p), trivial, fun Q h => k_append hW hC (fun _ _ _ _ _ => h) (fun e => absurd (h0.symm.trans e) (by decide)) (fun _ e => absurd h1 e), fun I' ρ' Q hW' hR' h => e_append hW' hC.tx.2.1 hR' (fun _ _ _ _ _ => h) (fun e => absurd (h0.symm.trans e) (by decide)) (fun _ e => absurd h1 e)⟩
    · exact ⟨.inr 2, ⟨by decide, by decide⟩, fun Q h => k_append hW hC (fun _ _ _ _ e => absurd e h1) (fun e => absurd (h0.symm.trans e) (by decide)) (fun _ _ => h 3 (by decide)), fun I' ρ' Q hW' hR' h => e_append hW' hC.tx.2.1 hR' (fun _ _ _ _ e => absurd e h1) (fun e => absurd (h0.symm.trans e) (by decide)) (fun _ _ => h)⟩
theorem c_undo {xs : Scr} {I : In2} {ρ : Rh} {z : Zt} {s : Nat} {zs : Nat → Zt} {tl : Nat × Zt} (hW : Rw ρ) (hC : Cst I ρ z s zs tl) : ∃ r, okRe r ∧ (∀ Q, KR Q I ρ (cd 3 0 0) r → Ev xs 75 0 [.ref 0] [] (I, ρ) Q) ∧ ∀ I' ρ' Q, Rw ρ' → Rst I' z s zs tl → RR Q I' ρ' z s zs tl r → Ev xs 158 0 [.ref 245, .null] [] (I', ρ') Q := by
  have hs := hC.2.2.1
  have hzs : ∀ j, j < s → Tl (zs j) := by
    obtain ⟨σ, -, hg⟩ := hC.2.2.2.1
    exact fun j hj => (hg j hj).tl
  by_cases h0 : 0 < s
  · exact ⟨.inl (nI (s - 1), zs (s - 1), s - 1, zs, tl), trivial, fun Q h => k_undo hW hC (fun _ => h) (fun e => absurd h0 (by omega)), fun I' ρ' Q hW' hR' h => e_undo hW' hR' hs hC.1.tl hzs (fun _ => h) (fun e => absurd h0 (by omega))⟩
  · exact ⟨.inr 1, ⟨by decide, by decide⟩, fun Q h => k_undo hW hC (fun e => absurd e h0) (fun _ => h 3 (by decide)), fun I' ρ' Q hW' hR' h => e_undo hW' hR' hs hC.1.tl hzs (fun e => absurd e h0) (fun _ => h)⟩
theorem c_ifRun {xs : Scr} {I : In2} {ρ : Rh} {z : Zt} {s : Nat} {zs : Nat → Zt} {tl : Nat × Zt} {p q : Int32} (hW : Rw ρ) (hC : Cst I ρ z s zs tl) : ∃ r, okRe r ∧ (∀ Q, KR Q I ρ (cd 2 0 0) r → Ev xs 88 0 [.ref 0, .int p, .int q] [] (I, ρ) Q) ∧ ∀ I' ρ' Q, Rw ρ' → Rst I' z s zs tl → RR Q I' ρ' z s zs tl r → Ev xs 175 0 [.ref 245, .int p, .int q] [] (I', ρ') Q := by
  cases h0 : (okN p && inB q 3)
  · have no : ∀ N w : Nat, 1 ≤ N → N ≤ 100 → w < 3 → p = nI N → q = nI w → False := fun N w n1 n2 hw e1 e2 => by
      rw [e1, e2, okN_n n1 n2, inB_n (by decide) hw] at h0; cases h0
    exact ⟨.inr 1, ⟨by decide, by decide⟩, fun Q h => k_ifRun hW hC (fun N w n1 n2 hw e1 e2 => (no N w n1 n2 hw e1 e2).elim) (fun _ => h 2 (by decide)), fun I' ρ' Q hW' hR' h => e_ifRun hW' hC.1 hR' (fun N w n1 n2 hw e1 e2 => (no N w n1 n2 hw e1 e2).elim) (fun _ => h)⟩
  · refine ⟨.inl (irV z (idx p) (idx q), z, s, zs, tl), trivial, fun Q h => k_ifRun hW hC (fun N w n1 n2 hw e1 e2 => ?_) (fun e => absurd (h0.symm.trans e) (by decide)), fun I' ρ' Q hW' hR' h => e_ifRun hW' hC.1 hR' (fun N w n1 n2 hw e1 e2 => ?_) (fun e => absurd (h0.symm.trans e) (by decide))⟩
    · have a1 : idx p = N := by (rw [e1]; exact idx_nI (by omega))
      have a2 : idx q = w := by (rw [e2]; exact idx_nI (by omega))
      subst a1; subst a2; exact h
    · have a1 : idx p = N := by (rw [e1]; exact idx_nI (by omega))
      have a2 : idx q = w := by (rw [e2]; exact idx_nI (by omega))
      subst a1; subst a2; exact h
theorem c_run {xs : Scr} {I : In2} {ρ : Rh} {z : Zt} {s : Nat} {zs : Nat → Zt} {tl : Nat × Zt} {p : Int32} (hW : Rw ρ) (hC : Cst I ρ z s zs tl) : ∃ r, okRe r ∧ (∀ Q, KR Q I ρ (cd 2 3 0) r → Ev xs 67 0 [.ref 0, .int p, .null] [] (I, ρ) Q) ∧ ∀ I' ρ' Q, Rw ρ' → Rst I' z s zs tl → RR Q I' ρ' z s zs tl r → Ev xs 136 0 [.ref 245, .int p, .null, .null] [] (I', ρ') Q := by
  have ⟨a, b, n, cy, g, _, hc, hcl, _⟩ := hC.1
  have hcy := hc.1
  have same : ∀ {c2 : Nat}, c2 ≤ 10000 → z 0 = nI c2 → c2 = cy := fun h e => by
    have := e.symm.trans hcy
    rw [nI_eqI (by omega) (by omega)] at this; exact this
  cases h0 : okN p
  · have no : ∀ w : Nat, 1 ≤ w → w ≤ 100 → p = nI w → False := fun w w1 w2 e => by rw [e, okN_n w1 w2] at h0; cases h0
    have no2 : ∀ w : Nat, w ≤ 100 → p = nI w → ∀ cy' : Nat, cy' ≤ 10000 → ¬ cy' + w ≤ 10000 → False := fun w w2 e cy' hc' hn => no w (by omega) w2 e
    exact ⟨.inr 1, ⟨by decide, by decide⟩, fun Q h => k_run hW hC (fun w cy' w1 w2 e _ _ => (no w w1 w2 e).elim) (fun _ => h 2 (by decide)) (fun w cy' w2 e _ hc' hn => (no2 w w2 e cy' hc' hn).elim), fun I' ρ' Q hW' hR' h => e_run hW' hC.1 hR' hC.2.2.1 (fun w cy' w1 w2 e _ _ => (no w w1 w2 e).elim) (fun _ => h) (fun w cy' w2 e _ hc' hn => (no2 w w2 e cy' hc' hn).elim)⟩
  · obtain ⟨w0, v1, v2, rfl⟩ := okN_t h0
    have sw : ∀ {w : Nat}, w ≤ 100 → nI w0 = nI w → w = w0 := fun h e => by
      rw [nI_eqI (by omega) (by omega)] at e; exact e.symm
    by_cases h1 : cy + w0 ≤ 10000
    · refine ⟨.inl ((itC w0 z) 6 - z 6, itC w0 z, svN s, svZ s zs z, tl), trivial, fun Q h => k_run hW hC (fun w cy' w1 w2 e _ _ => ?_) (fun e => absurd (h0.symm.trans e) (by decide)) (fun w cy' w2 e ec hc' hn => ?_), fun I' ρ' Q hW' hR' h => e_run hW' hC.1 hR' hC.2.2.1 (fun w cy' w1 w2 e _ _ => ?_) (fun e => absurd (h0.symm.trans e) (by decide)) (fun w cy' w2 e ec hc' hn => ?_)⟩
      · have := sw w2 e; subst this; exact h
      · have := sw w2 e; have := same hc' ec; omega
      · have := sw w2 e; subst this; exact h
      · have := sw w2 e; have := same hc' ec; omega
    · refine ⟨.inr 2, ⟨by decide, by decide⟩, fun Q h => k_run hW hC (fun w cy' w1 w2 e ec hn => ?_) (fun e => absurd (h0.symm.trans e) (by decide)) (fun w cy' w2 e ec hc' hn => h 3 (by decide)), fun I' ρ' Q hW' hR' h => e_run hW' hC.1 hR' hC.2.2.1 (fun w cy' w1 w2 e ec hn => ?_) (fun e => absurd (h0.symm.trans e) (by decide)) (fun w cy' w2 e ec hc' hn => h)⟩
      · have := sw w2 e; have := same (by omega) ec; omega
      · have := sw w2 e; have := same (by omega) ec; omega
