/-! earlyShare and digest of the reference -/
def rL (ρ : Rh) (h : Int64) : Rh := (ρ.1, up2 ρ.2.1 245 19 h, ρ.2.2)
theorem Rw.l {ρ : Rh} {h : Int64} (hW : Rw ρ) : Rw (rL ρ h) := hW
theorem rL_1 {ρ : Rh} {h : Int64} : (rL ρ h).1 = ρ.1 := rfl
theorem setL_19 {I : In2} {ρ : Rh} {h h' : Int64} : setL (I, rL ρ h) 245 19 h' = (I, rL ρ h') := by
  show (I, ρ.1, up2 (up2 ρ.2.1 245 19 h) 245 19 h', ρ.2.2) = (I, ρ.1, up2 ρ.2.1 245 19 h', ρ.2.2)
  congr 3
  funext b j
  unfold up2; split <;> rfl
theorem mL_19 {I : In2} {ρ : Rh} {h : Int64} : mL (I, rL ρ h) 245 19 = h := by
  show up2 ρ.2.1 245 19 h 245 19 = h
  unfold up2; exact if_pos ⟨rfl, rfl⟩
theorem e_mix {xs : Scr} {I : In2} {ρ : Rh} {Q : Post} {h x : Int64} (hW : Rw ρ) : Ev xs 185 0 [.ref 245, .long x, .null] [] (I, rL ρ h) Q ↔ Q (.inl none) (I, rL ρ ((Int64.ofNat 31 * h) + x)) := by
  apply Ev.dt; intro Q hh; apply w_X5_mix_0
  rw [gz_O hW.l, cond_true, mL_19, setL_19, cond_true]; exact hh
theorem nI_d7 {i : Nat} (h : i < 256) : nI i / nI 7 = nI (i / 7) ∧ nI i - nI i / nI 7 * nI 7 = nI (i % 7) := by
  have h0 : ∀ i : Fin 32, nI (0 + i.1) / nI 7 = nI ((0 + i.1) / 7) ∧ nI (0 + i.1) - nI (0 + i.1) / nI 7 * nI 7 = nI ((0 + i.1) % 7) := by decide
  have h1 : ∀ i : Fin 32, nI (32 + i.1) / nI 7 = nI ((32 + i.1) / 7) ∧ nI (32 + i.1) - nI (32 + i.1) / nI 7 * nI 7 = nI ((32 + i.1) % 7) := by decide
  have h2 : ∀ i : Fin 32, nI (64 + i.1) / nI 7 = nI ((64 + i.1) / 7) ∧ nI (64 + i.1) - nI (64 + i.1) / nI 7 * nI 7 = nI ((64 + i.1) % 7) := by decide
  have h3 : ∀ i : Fin 32, nI (96 + i.1) / nI 7 = nI ((96 + i.1) / 7) ∧ nI (96 + i.1) - nI (96 + i.1) / nI 7 * nI 7 = nI ((96 + i.1) % 7) := by decide
  have h4 : ∀ i : Fin 32, nI (128 + i.1) / nI 7 = nI ((128 + i.1) / 7) ∧ nI (128 + i.1) - nI (128 + i.1) / nI 7 * nI 7 = nI ((128 + i.1) % 7) := by decide
  have h5 : ∀ i : Fin 32, nI (160 + i.1) / nI 7 = nI ((160 + i.1) / 7) ∧ nI (160 + i.1) - nI (160 + i.1) / nI 7 * nI 7 = nI ((160 + i.1) % 7) := by decide
  have h6 : ∀ i : Fin 32, nI (192 + i.1) / nI 7 = nI ((192 + i.1) / 7) ∧ nI (192 + i.1) - nI (192 + i.1) / nI 7 * nI 7 = nI ((192 + i.1) % 7) := by decide
  have h7 : ∀ i : Fin 32, nI (224 + i.1) / nI 7 = nI ((224 + i.1) / 7) ∧ nI (224 + i.1) - nI (224 + i.1) / nI 7 * nI 7 = nI ((224 + i.1) % 7) := by decide
  obtain ⟨k, j, hk, hj, rfl⟩ : ∃ k j, k < 8 ∧ j < 32 ∧ i = 32 * k + j := ⟨i / 32, i % 32, by omega, by omega, by omega⟩
  obtain rfl | rfl | rfl | rfl | rfl | rfl | rfl | rfl : k = 0 ∨ k = 1 ∨ k = 2 ∨ k = 3 ∨ k = 4 ∨ k = 5 ∨ k = 6 ∨ k = 7 := by omega
  · exact h0 ⟨j, hj⟩
  · exact h1 ⟨j, hj⟩
  · exact h2 ⟨j, hj⟩
  · exact h3 ⟨j, hj⟩
  · exact h4 ⟨j, hj⟩
  · exact h5 ⟨j, hj⟩
  · exact h6 ⟨j, hj⟩
  · exact h7 ⟨j, hj⟩
theorem nI_d9 {i : Nat} (h : i < 256) : nI i / nI 9 = nI (i / 9) ∧ nI i - nI i / nI 9 * nI 9 = nI (i % 9) := by
  have h0 : ∀ i : Fin 32, nI (0 + i.1) / nI 9 = nI ((0 + i.1) / 9) ∧ nI (0 + i.1) - nI (0 + i.1) / nI 9 * nI 9 = nI ((0 + i.1) % 9) := by decide
  have h1 : ∀ i : Fin 32, nI (32 + i.1) / nI 9 = nI ((32 + i.1) / 9) ∧ nI (32 + i.1) - nI (32 + i.1) / nI 9 * nI 9 = nI ((32 + i.1) % 9) := by decide
  have h2 : ∀ i : Fin 32, nI (64 + i.1) / nI 9 = nI ((64 + i.1) / 9) ∧ nI (64 + i.1) - nI (64 + i.1) / nI 9 * nI 9 = nI ((64 + i.1) % 9) := by decide
  have h3 : ∀ i : Fin 32, nI (96 + i.1) / nI 9 = nI ((96 + i.1) / 9) ∧ nI (96 + i.1) - nI (96 + i.1) / nI 9 * nI 9 = nI ((96 + i.1) % 9) := by decide
  have h4 : ∀ i : Fin 32, nI (128 + i.1) / nI 9 = nI ((128 + i.1) / 9) ∧ nI (128 + i.1) - nI (128 + i.1) / nI 9 * nI 9 = nI ((128 + i.1) % 9) := by decide
  have h5 : ∀ i : Fin 32, nI (160 + i.1) / nI 9 = nI ((160 + i.1) / 9) ∧ nI (160 + i.1) - nI (160 + i.1) / nI 9 * nI 9 = nI ((160 + i.1) % 9) := by decide
  have h6 : ∀ i : Fin 32, nI (192 + i.1) / nI 9 = nI ((192 + i.1) / 9) ∧ nI (192 + i.1) - nI (192 + i.1) / nI 9 * nI 9 = nI ((192 + i.1) % 9) := by decide
  have h7 : ∀ i : Fin 32, nI (224 + i.1) / nI 9 = nI ((224 + i.1) / 9) ∧ nI (224 + i.1) - nI (224 + i.1) / nI 9 * nI 9 = nI ((224 + i.1) % 9) := by decide
  obtain ⟨k, j, hk, hj, rfl⟩ : ∃ k j, k < 8 ∧ j < 32 ∧ i = 32 * k + j := ⟨i / 32, i % 32, by omega, by omega, by omega⟩
  obtain rfl | rfl | rfl | rfl | rfl | rfl | rfl | rfl : k = 0 ∨ k = 1 ∨ k = 2 ∨ k = 3 ∨ k = 4 ∨ k = 5 ∨ k = 6 ∨ k = 7 := by omega
  · exact h0 ⟨j, hj⟩
  · exact h1 ⟨j, hj⟩
  · exact h2 ⟨j, hj⟩
  · exact h3 ⟨j, hj⟩
  · exact h4 ⟨j, hj⟩
  · exact h5 ⟨j, hj⟩
  · exact h6 ⟨j, hj⟩
  · exact h7 ⟨j, hj⟩
theorem nI_d3 {i : Nat} (h : i < 256) : nI i / nI 3 = nI (i / 3) ∧ nI i - nI i / nI 3 * nI 3 = nI (i % 3) := by
  have h0 : ∀ i : Fin 32, nI (0 + i.1) / nI 3 = nI ((0 + i.1) / 3) ∧ nI (0 + i.1) - nI (0 + i.1) / nI 3 * nI 3 = nI ((0 + i.1) % 3) := by decide
  have h1 : ∀ i : Fin 32, nI (32 + i.1) / nI 3 = nI ((32 + i.1) / 3) ∧ nI (32 + i.1) - nI (32 + i.1) / nI 3 * nI 3 = nI ((32 + i.1) % 3) := by decide
  have h2 : ∀ i : Fin 32, nI (64 + i.1) / nI 3 = nI ((64 + i.1) / 3) ∧ nI (64 + i.1) - nI (64 + i.1) / nI 3 * nI 3 = nI ((64 + i.1) % 3) := by decide
  have h3 : ∀ i : Fin 32, nI (96 + i.1) / nI 3 = nI ((96 + i.1) / 3) ∧ nI (96 + i.1) - nI (96 + i.1) / nI 3 * nI 3 = nI ((96 + i.1) % 3) := by decide
  have h4 : ∀ i : Fin 32, nI (128 + i.1) / nI 3 = nI ((128 + i.1) / 3) ∧ nI (128 + i.1) - nI (128 + i.1) / nI 3 * nI 3 = nI ((128 + i.1) % 3) := by decide
  have h5 : ∀ i : Fin 32, nI (160 + i.1) / nI 3 = nI ((160 + i.1) / 3) ∧ nI (160 + i.1) - nI (160 + i.1) / nI 3 * nI 3 = nI ((160 + i.1) % 3) := by decide
  have h6 : ∀ i : Fin 32, nI (192 + i.1) / nI 3 = nI ((192 + i.1) / 3) ∧ nI (192 + i.1) - nI (192 + i.1) / nI 3 * nI 3 = nI ((192 + i.1) % 3) := by decide
  have h7 : ∀ i : Fin 32, nI (224 + i.1) / nI 3 = nI ((224 + i.1) / 3) ∧ nI (224 + i.1) - nI (224 + i.1) / nI 3 * nI 3 = nI ((224 + i.1) % 3) := by decide
  obtain ⟨k, j, hk, hj, rfl⟩ : ∃ k j, k < 8 ∧ j < 32 ∧ i = 32 * k + j := ⟨i / 32, i % 32, by omega, by omega, by omega⟩
  obtain rfl | rfl | rfl | rfl | rfl | rfl | rfl | rfl : k = 0 ∨ k = 1 ∨ k = 2 ∨ k = 3 ∨ k = 4 ∨ k = 5 ∨ k = 6 ∨ k = 7 := by omega
  · exact h0 ⟨j, hj⟩
  · exact h1 ⟨j, hj⟩
  · exact h2 ⟨j, hj⟩
  · exact h3 ⟨j, hj⟩
  · exact h4 ⟨j, hj⟩
  · exact h5 ⟨j, hj⟩
  · exact h6 ⟨j, hj⟩
  · exact h7 ⟨j, hj⟩
theorem nI_d2 {i : Nat} (h : i < 256) : nI i / nI 2 = nI (i / 2) ∧ nI i - nI i / nI 2 * nI 2 = nI (i % 2) := by
  have h0 : ∀ i : Fin 32, nI (0 + i.1) / nI 2 = nI ((0 + i.1) / 2) ∧ nI (0 + i.1) - nI (0 + i.1) / nI 2 * nI 2 = nI ((0 + i.1) % 2) := by decide
  have h1 : ∀ i : Fin 32, nI (32 + i.1) / nI 2 = nI ((32 + i.1) / 2) ∧ nI (32 + i.1) - nI (32 + i.1) / nI 2 * nI 2 = nI ((32 + i.1) % 2) := by decide
  have h2 : ∀ i : Fin 32, nI (64 + i.1) / nI 2 = nI ((64 + i.1) / 2) ∧ nI (64 + i.1) - nI (64 + i.1) / nI 2 * nI 2 = nI ((64 + i.1) % 2) := by decide
  have h3 : ∀ i : Fin 32, nI (96 + i.1) / nI 2 = nI ((96 + i.1) / 2) ∧ nI (96 + i.1) - nI (96 + i.1) / nI 2 * nI 2 = nI ((96 + i.1) % 2) := by decide
  have h4 : ∀ i : Fin 32, nI (128 + i.1) / nI 2 = nI ((128 + i.1) / 2) ∧ nI (128 + i.1) - nI (128 + i.1) / nI 2 * nI 2 = nI ((128 + i.1) % 2) := by decide
  have h5 : ∀ i : Fin 32, nI (160 + i.1) / nI 2 = nI ((160 + i.1) / 2) ∧ nI (160 + i.1) - nI (160 + i.1) / nI 2 * nI 2 = nI ((160 + i.1) % 2) := by decide
  have h6 : ∀ i : Fin 32, nI (192 + i.1) / nI 2 = nI ((192 + i.1) / 2) ∧ nI (192 + i.1) - nI (192 + i.1) / nI 2 * nI 2 = nI ((192 + i.1) % 2) := by decide
  have h7 : ∀ i : Fin 32, nI (224 + i.1) / nI 2 = nI ((224 + i.1) / 2) ∧ nI (224 + i.1) - nI (224 + i.1) / nI 2 * nI 2 = nI ((224 + i.1) % 2) := by decide
  obtain ⟨k, j, hk, hj, rfl⟩ : ∃ k j, k < 8 ∧ j < 32 ∧ i = 32 * k + j := ⟨i / 32, i % 32, by omega, by omega, by omega⟩
  obtain rfl | rfl | rfl | rfl | rfl | rfl | rfl | rfl : k = 0 ∨ k = 1 ∨ k = 2 ∨ k = 3 ∨ k = 4 ∨ k = 5 ∨ k = 6 ∨ k = 7 := by omega
  · exact h0 ⟨j, hj⟩
  · exact h1 ⟨j, hj⟩
  · exact h2 ⟨j, hj⟩
  · exact h3 ⟨j, hj⟩
  · exact h4 ⟨j, hj⟩
  · exact h5 ⟨j, hj⟩
  · exact h6 ⟨j, hj⟩
  · exact h7 ⟨j, hj⟩
theorem e_shareNow {xs : Scr} {I : In2} {ρ : Rh} {Q : Post} {z : Zt} {cy : Nat} (hW : Rw ρ) (hc : Cg z cy) (hcl : cy ≤ 10000) (h6 : I 246 = z) : Ev xs 183 0 [.ref 245] [] (I, ρ) Q ↔ Q (.inl (some (.double (shZ z)))) (I, ρ) := by
  have hok := sh_ok hc hcl
  apply Ev.dt; intro Q h; apply w_X5_shareNow_0
  unfold shZ at h
  have g7 : gA (I, ρ) 246 6 (nI 7) = true := gz_A hW (by decide)
  have g8 : gA (I, ρ) 246 6 (nI 8) = true := gz_A hW (by decide)
  have r7 : I 246 7 = z 7 := by rw [h6]
  have r8 : I 246 8 = z 8 := by rw [h6]
  simp only [gz_O hW, gz_R0 hW, gR_some, mR_def, mI_def, Option.getD_some, Bool.and_self, cond_true, g7, g8, idx_nI (show 7 < 2147483648 by decide), idx_nI (show 8 < 2147483648 by decide), r7, r8, icB_ne]
  by_cases h0 : z 7 = nI 0
  · rw [if_pos h0] at h; rw [decide_eq_false (fun hn => hn h0), cond_false]; exact h
  · rw [if_neg h0] at h; rw [decide_eq_true h0, cond_true, hok h0]; exact h
theorem e_share {xs : Scr} {I : In2} {ρ : Rh} {Q : Post} {z : Zt} {c : In2} {s : Nat} {zs : Nat → Zt} {tl : Nat × Zt} (hW : Rw ρ) (hg : Good c z) (hR : Rst I z s zs tl) (h : Q (.inl (some (.double (shZ z)))) (up2 I 245 16 (nI 0), ρ)) : Ev xs 184 0 [.ref 245] [] (I, ρ) Q := by
  obtain ⟨a, b, n, cy, g, -, hc, hcl, -⟩ := hg
  have h6 : (up2 I 245 16 (nI 0)) 246 = z := (hR.t (t := nI 0)).1
  apply w_X5_earlyShare_0
  rw [gz_O hW, cond_true]
  show bif gO _ 245 4 then _ else _
  rw [setI_def, gz_O hW, cond_true, e_shareNow hW hc hcl h6, QD_d]
  exact h
