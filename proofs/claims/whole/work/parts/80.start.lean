/-! the start: all stands at the head of the law's loop -/
theorem Good_0 {c : In2} {z : Zt} (hz : ∀ k, z k = if k = 9 then nI 4 else if k = 10 then nI 2 else if k = 11 then nI 2 else 0) (h0 : ∀ k, c 0 k = 0) (h3 : ∀ k, c 3 k = 0) (h4 : ∀ k, c 4 k = 0) (h50 : c 5 0 = nI 4) (h51 : c 5 1 = nI 2) (h52 : c 5 2 = nI 2) : Good c z := by
  have e0 : (0 : Int32) = nI 0 := rfl
  have zz : ∀ k, ¬ k = 9 → ¬ k = 10 → ¬ k = 11 → z k = nI 0 := fun k a b c => by rw [hz, if_neg a, if_neg b, if_neg c]; rfl
  have z9 : z 9 = nI 4 := by rw [hz]; rfl
  have z10 : z 10 = nI 2 := by rw [hz]; rfl
  have z11 : z 11 = nI 2 := by rw [hz]; rfl
  have iR : InR (nI 0) := by unfold InR; decide
  refine ⟨0, 0, 0, 0, ⟨⟨zz 3 (by decide) (by decide) (by decide), zz 2 (by decide) (by decide) (by decide), zz 1 (by decide) (by decide) (by decide), by decide, ⟨⟨4, by decide, by decide, z9⟩, ⟨2, by decide, by decide, z10⟩, ⟨2, by decide, by decide, z11⟩⟩, fun k hk => ?_, fun k hk => ?_, fun i hi => absurd hi (Nat.not_lt_zero i), fun i hi => ?_⟩, fun i a b => by omega, fun k hk => ?_, fun k hk => ?_, fun k hk => ?_, fun k hk => ?_, fun i f hi => absurd hi (Nat.not_lt_zero i), fun i a b => by omega, fun i a b => by omega⟩, Ent_0, ⟨zz 0 (by decide) (by decide) (by decide), 0, 0, zz 7 (by decide) (by decide) (by decide), zz 8 (by decide) (by decide) (by decide), Nat.le_refl 0, Nat.zero_le _⟩, Nat.zero_le _, fun k hk => ?_⟩
  · rw [zz _ (by omega) (by omega) (by omega)]; exact iR
  · rw [zz _ (by omega) (by omega) (by omega)]; exact iR
  · show InR (z (36 + 12 * i + 11))
    rw [zz _ (by omega) (by omega) (by omega)]; exact iR
  · rw [h0, zz _ (by omega) (by omega) (by omega)]; rfl
  · obtain rfl | rfl | rfl : k = 0 ∨ k = 1 ∨ k = 2 := by omega
    · rw [h50]; exact z9.symm
    · rw [h51]; exact z10.symm
    · rw [h52]; exact z11.symm
  · rw [h3, zz _ (by omega) (by omega) (by omega)]; rfl
  · rw [h4, zz _ (by omega) (by omega) (by omega)]; rfl
  · rw [zz _ (by omega) (by omega) (by omega)]; rfl
theorem start {xs : Scr} {μ : Mem} (hb : xs.1 ≤ 1536) (hN : mN μ = 0) (hX : mX μ = 0) : Ev xs 209 0 [.ref SCR, .null, .null, .null, .null, .null, .null, .null, .null] [] μ Qe := by
  apply w_L_law_0
  have c0 := gn_o (kd := 3) hN hX (by decide) rfl
  have g0 : gO (newM μ) (mN μ) 3 = true := gO_i (by rw [mN_newM]; omega) (by rw [hN]; rfl)
  simp only [c0, g0, cond_true]
  rw [hN]
  refine k_clsA (by rw [mN_newM, hN]) hX fun u n1 x1 i1 m1 r00 r01 r02 q1 q31 qs => ?_
  refine k_clsB n1 x1 r02 fun v n2 x2 i2 z242 r242 r03 r04 r2 => ?_
  rw [QV_v]
  have c2 := gn_o (kd := 4) n2 x2 (by decide) rfl
  have g2 : gO (newM v) (mN v) 4 = true := gO_i (by rw [mN_newM]; omega) (by rw [n2]; rfl)
  simp only [c2, g2, cond_true]
  rw [n2]
  refine e_cons (by rw [mN_newM, n2]) x2 fun y n3 x3 i3 z246 r245 r3 => ?_
  rw [QV_v]
  have c3 := gn_a (kd := 9) (n := 1) n3 x3 (by decide) rfl
  simp only [c3, cond_true]
  rw [n3]
  have iy : ∀ a k, a < 242 → mI (newM y) a k = mI u a k := fun a k ha => by
    rw [mInM, if_neg (by omega), i3 a k (by omega), mInM, if_neg (by omega), i2 a k ha]
  have i245 : ∀ k, mI (newM y) 245 k = 0 := fun k => by rw [mInM, if_neg (by omega), i3 _ k (by decide), mInM, if_pos n2.symm]
  have i242 : ∀ k, mI (newM y) 242 k = 0 := fun k => by rw [mInM, if_neg (by omega), i3 _ k (by decide), mInM, if_neg (by omega), z242]
  have i246 : ∀ k, mI (newM y) 246 k = if k = 9 then nI 4 else if k = 10 then nI 2 else if k = 11 then nI 2 else 0 := fun k => by rw [mInM, if_neg (by omega), z246]
  have i0 : ∀ k, mI (newM y) 0 k = 0 := fun k => by rw [iy _ k (by decide), i1, mInM, if_pos hN.symm]
  have ry : ∀ a k, a < 245 → mR (newM y) a k = mR v a k := fun a k ha => by rw [mRnM, if_neg (by omega), r3 a k ha, mRnM, if_neg (by omega)]
  have ru : ∀ a k, a < 242 → ¬ a = 0 → mR (newM y) a k = mR u a k := fun a k ha h => by rw [ry a k (by omega), r2 a k ha (by omega)]
  obtain ⟨m10, m14, m15, s0, s1, s2⟩ := m1
  have hW : Rw (newM y).2 := by
    refine ⟨?_, ⟨?_, ?_, ?_, ?_, ?_⟩, ?_, fun k hk => ?_, fun m hm => ?_⟩
    · show mN (newM y) = 258
      rw [mN_newM, n3]
    · show mR (newM y) 0 0 = _
      rw [ry _ _ (by decide), r2 _ _ (by decide) (by omega), r00]
    · show mR (newM y) 0 1 = _
      rw [ry _ _ (by decide), r2 _ _ (by decide) (by omega), r01]
    · show mR (newM y) 0 2 = _
      rw [ry _ _ (by decide), r2 _ _ (by decide) (by omega), r02]
    · show mR (newM y) 0 3 = _
      rw [ry _ _ (by decide), r03]
    · show mR (newM y) 0 4 = _
      rw [ry _ _ (by decide), r04]
    · show mR (newM y) 242 0 = _
      rw [ry _ _ (by decide), r242]
    · show mR (newM y) 245 k = _
      rw [mRnM, if_neg (by omega), r245 k hk]
    · have hl := Bs_lt hm
      have h1 := Bs_0 hm
      have hMR : MR m u := by
        rcases hm with h | h | h | h | h | h | h | h <;> subst h
        · exact q1
        · exact q31
        · exact (qs 0 (by decide)).2
        · exact (qs 1 (by decide)).2
        · exact (qs 2 (by decide)).2
        · exact (qs 3 (by decide)).2
        · exact (qs 4 (by decide)).2
        · exact (qs 5 (by decide)).2
      exact hMR.fr (fun k => ru _ k (by omega) (by omega)) fun k => ru _ k (by omega) (by omega)
  have hL : LI 0 (newM y).1 (newM y).2 := by
    refine ⟨hW, Nat.le_of_eq x3, (newM y).1 246, 0, fun _ _ => 0, (0, fun _ => 0), ⟨?_, i0 5, Nat.zero_le _, ⟨fun j => j, ⟨fun j hj => hj, fun i j _ _ e => e, fun j hj => ?_⟩, fun j hj => absurd hj (Nat.not_lt_zero j)⟩, i242 1, ⟨Nat.zero_le _, fun k hk => absurd hk (Nat.not_lt_zero k)⟩, fun k hk => absurd hk (Nat.not_lt_zero k)⟩, rfl, i245 14, fun j k hj => absurd hj (Nat.not_lt_zero j), i245 15, fun k hk => absurd hk (Nat.not_lt_zero k)⟩
    · exact Good_0 i246 (fun k => (iy 1 k (by decide)).trans (m10 k)) (fun k => (iy 4 k (by decide)).trans (m14 k)) (fun k => (iy 5 k (by decide)).trans (m15 k)) ((iy 6 0 (by decide)).trans s0) ((iy 6 1 (by decide)).trans s1) ((iy 6 2 (by decide)).trans s2)
    · show mR (newM y) 61 j = _
      rw [ru _ _ (by decide) (by decide)]; exact (qs j hj).1
  have := law_loop (v5 := .null) (v6 := .null) (v7 := .null) (v8 := .null) hb (d := xs.1) (j := 0) (Nat.zero_le _) (by omega) hL
  exact this
