/-! the start -/
def z00 : Zt := fun k => if k = 9 then nI 4 else if k = 10 then nI 2 else if k = 11 then nI 2 else 0
theorem LG_0 {d : In2} {z : Zt} {a b n : Nat} (hi : Inv0 z a b n) (hz : z = z00) (h5 : ∀ k, d 5 k = 0) (h40 : d 4 0 = nI 4) (h41 : d 4 1 = nI 2) (h42 : d 4 2 = nI 2) (h2 : ∀ k, d 2 k = 0) (h3 : ∀ k, d 3 k = 0) : LG d z 0 0 0 := by
  have zz : ∀ k, ¬ k = 9 → ¬ k = 10 → ¬ k = 11 → z k = nI 0 := fun k a b c => by rw [hz]; unfold z00; rw [if_neg a, if_neg b, if_neg c]; rfl
  have hb := hi.bnd
  have e3 := hi.h3; have e2 := hi.h2; have e1 := hi.h1
  rw [zz 3 (by decide) (by decide) (by decide), nI_eqI (by omega) (by omega)] at e3
  rw [zz 2 (by decide) (by decide) (by decide), nI_eqI (by omega) (by omega)] at e2
  rw [zz 1 (by decide) (by decide) (by decide), nI_eqI (by omega) (by omega)] at e1
  subst e3; subst e2; subst e1
  refine ⟨hi, Rdy_00, ⟨fun k hk => ?_, fun k hk => ?_, fun k hk => ?_, fun k hk => ?_, fun i f hi => absurd hi (Nat.not_lt_zero i), fun i a b => by omega⟩, fun i hi => absurd hi (Nat.not_lt_zero i), by decide⟩
  · rw [h5, zz k (by omega) (by omega) (by omega)]; rfl
  · obtain rfl | rfl | rfl : k = 0 ∨ k = 1 ∨ k = 2 := by omega
    · rw [h40, hz]; rfl
    · rw [h41, hz]; rfl
    · rw [h42, hz]; rfl
  · rw [h2, zz _ (by omega) (by omega) (by omega)]; exact VV_0
  · rw [h3, zz _ (by omega) (by omega) (by omega)]; exact VV_0
/-- behind the constructors: the six arrays, a first look -/
theorem start2 {xs : Scr} (hb : xs.1 ≤ 260) {I : In2} {ρ : Rh} (hW : Rw ρ) (hN : ρ.2.2.1 = 245) (hX : ρ.2.2.2 = 0) (hC : Cst I ρ z00 0 (fun _ _ => 0) (0, fun _ => 0)) :
    bif (Nat.blt (mN (I, ρ)) NN && (Nat.beq (mX (I, ρ)) 0 && (Nat.beq (shp (mN (I, ρ))).1 6 && decide ((nI 64) = nI (shp (mN (I, ρ))).2)))) then ((fun u3 : Mem => bif (Nat.blt (mN u3) NN && (Nat.beq (mX u3) 0 && (Nat.beq (shp (mN u3)).1 6 && decide ((nI 40) = nI (shp (mN u3)).2)))) then ((fun u4 : Mem => bif (Nat.blt (mN u4) NN && (Nat.beq (mX u4) 0 && (Nat.beq (shp (mN u4)).1 6 && decide ((nI 8) = nI (shp (mN u4)).2)))) then ((fun u5 : Mem => bif (Nat.blt (mN u5) NN && (Nat.beq (mX u5) 0 && (Nat.beq (shp (mN u5)).1 6 && decide ((nI 16) = nI (shp (mN u5)).2)))) then ((fun u6 : Mem => bif (Nat.blt (mN u6) NN && (Nat.beq (mX u6) 0 && (Nat.beq (shp (mN u6)).1 6 && decide ((nI 3) = nI (shp (mN u6)).2)))) then ((fun u7 : Mem => bif (Nat.blt (mN u7) NN && (Nat.beq (mX u7) 0 && (Nat.beq (shp (mN u7)).1 6 && decide ((nI 9) = nI (shp (mN u7)).2)))) then ((fun u8 : Mem => bif gA u8 (mN u6) 6 (nI 0) then ((fun u9 : Mem => bif gA u9 (mN u6) 6 (nI 1) then ((fun u10 : Mem => bif gA u10 (mN u6) 6 (nI 2) then ((fun u11 : Mem => Ev xs 118 0 [.ref 0, .ref (mN (I, ρ)), .ref (mN u3), .ref (mN u4), .ref (mN u5), .ref (mN u6), .ref (mN u7), .null, .null, .null, .null, .null, .null, .null, .null] [] u11 (QI (fun x13 μ12 => bif icB .eq x13 (nI 0) then (Qe (.inl (some (.int (nI 0)))) μ12) else (Ev xs 119 0 [.ref 0, .int (nI 9), .ref (mN (I, ρ)), .ref (mN u3), .ref (mN u4), .ref (mN u5), .ref (mN u6), .ref (mN u7), .null, .null, .null, .null, .null, .null, .null, .null, .null, .null, .null, .null, .null] [] μ12 (QI (fun x15 μ14 => bif icB .ne x15 (nI 0) then (Ev xs 209 97 [.ref SCR, .ref 0, .ref (mN (I, ρ)), .ref (mN u3), .ref (mN u4), .ref (mN u5), .ref (mN u6), .ref (mN u7), .int (nI 0), .null, .null, .null] [] μ14 Qe) else (Qe (.inl (some (.int (nI 0)))) μ14)) (KX xs 209 86 [.ref SCR, .ref 0, .ref (mN (I, ρ)), .ref (mN u3), .ref (mN u4), .ref (mN u5), .ref (mN u6), .ref (mN u7), .null, .null, .null, .null] Qe)))) (KX xs 209 67 [.ref SCR, .ref 0, .ref (mN (I, ρ)), .ref (mN u3), .ref (mN u4), .ref (mN u5), .ref (mN u6), .ref (mN u7), .null, .null, .null, .null] Qe))) (setI u10 (mN u6) (idx (nI 2)) (nI 2))) else False) (setI u9 (mN u6) (idx (nI 1)) (nI 2))) else False) (setI u8 (mN u6) (idx (nI 0)) (nI 4))) else False) (newM u7)) else False) (newM u6)) else False) (newM u5)) else False) (newM u4)) else False) (newM u3)) else False) (newM (I, ρ))) else False := by
  have em0 : mN (I, ρ) = 245 := hN
  have sh : ∀ j, j < 6 → shp (245 + j) = shpT j := (LB_245 (ρ := ((fun _ _ => none), (fun _ _ => 0), 251, 0)) (Nat.le_refl _)).2.2
  obtain ⟨ρ1, g1⟩ : ∃ ρ1, ρ1 = nwR ρ := ⟨_, rfl⟩
  have n1 : ρ1.2.2.1 = 246 := by rw [g1, nwR_N, hN]
  have x1 : ρ1.2.2.2 = 0 := by rw [g1]; exact hX
  obtain ⟨ρ2, g2⟩ : ∃ ρ2, ρ2 = nwR ρ1 := ⟨_, rfl⟩
  have n2 : ρ2.2.2.1 = 247 := by rw [g2, nwR_N, n1]
  have x2 : ρ2.2.2.2 = 0 := by rw [g2]; exact x1
  obtain ⟨ρ3, g3⟩ : ∃ ρ3, ρ3 = nwR ρ2 := ⟨_, rfl⟩
  have n3 : ρ3.2.2.1 = 248 := by rw [g3, nwR_N, n2]
  have x3 : ρ3.2.2.2 = 0 := by rw [g3]; exact x2
  obtain ⟨ρ4, g4⟩ : ∃ ρ4, ρ4 = nwR ρ3 := ⟨_, rfl⟩
  have n4 : ρ4.2.2.1 = 249 := by rw [g4, nwR_N, n3]
  have x4 : ρ4.2.2.2 = 0 := by rw [g4]; exact x3
  obtain ⟨ρ5, g5⟩ : ∃ ρ5, ρ5 = nwR ρ4 := ⟨_, rfl⟩
  have n5 : ρ5.2.2.1 = 250 := by rw [g5, nwR_N, n4]
  have x5 : ρ5.2.2.2 = 0 := by rw [g5]; exact x4
  obtain ⟨ρ6, g6⟩ : ∃ ρ6, ρ6 = nwR ρ5 := ⟨_, rfl⟩
  have n6 : ρ6.2.2.1 = 251 := by rw [g6, nwR_N, n5]
  have x6 : ρ6.2.2.2 = 0 := by rw [g6]; exact x5
  have W6 : Rw ρ6 := by rw [g6, g5, g4, g3, g2, g1]; exact hW.nw.nw.nw.nw.nw.nw
  have r6 : ∀ j, ρ6.1 61 j = ρ.1 61 j := fun j => by
    rw [g6, nwR_r (by omega), g5, nwR_r (by omega), g4, nwR_r (by omega), g3, nwR_r (by omega), g2, nwR_r (by omega), g1, nwR_r (by omega)]
  obtain ⟨I6, hI6⟩ : ∃ I6, I6 = nwI (nwI (nwI (nwI (nwI (nwI I 245) 246) 247) 248) 249) 250 := ⟨_, rfl⟩
  have I6e : ∀ c k, c < 245 → I6 c k = I c k := fun c k hc => by
    rw [hI6, nwI_ne (by omega), nwI_ne (by omega), nwI_ne (by omega), nwI_ne (by omega), nwI_ne (by omega), nwI_ne (by omega)]
  have I6z : ∀ o k, o < 6 → I6 (245 + o) k = 0 := fun o k ho => by
    obtain rfl | rfl | rfl | rfl | rfl | rfl : o = 0 ∨ o = 1 ∨ o = 2 ∨ o = 3 ∨ o = 4 ∨ o = 5 := by omega
    · rw [hI6, nwI_ne (by omega), nwI_ne (by omega), nwI_ne (by omega), nwI_ne (by omega), nwI_ne (by omega)]; exact nwI_at
    · rw [hI6, nwI_ne (by omega), nwI_ne (by omega), nwI_ne (by omega), nwI_ne (by omega)]; exact nwI_at
    · rw [hI6, nwI_ne (by omega), nwI_ne (by omega), nwI_ne (by omega)]; exact nwI_at
    · rw [hI6, nwI_ne (by omega), nwI_ne (by omega)]; exact nwI_at
    · rw [hI6, nwI_ne (by omega)]; exact nwI_at
    · rw [hI6]; exact nwI_at
  have m1 : ∀ I : In2, mN (I, ρ1) = 246 := fun _ => n1
  have m2 : ∀ I : In2, mN (I, ρ2) = 247 := fun _ => n2
  have m3 : ∀ I : In2, mN (I, ρ3) = 248 := fun _ => n3
  have m4 : ∀ I : In2, mN (I, ρ4) = 249 := fun _ => n4
  have m5 : ∀ I : In2, mN (I, ρ5) = 250 := fun _ => n5
  have L6 : LB 245 ρ6 := LB_245 (by omega)
  rw [gnw (n := 64) hX (by omega) (by rw [hN]; exact sh 0 (by decide)), cond_true, em0, newM_def, hN, ← g1]
  show bif _ then _ else _
  rw [gnw (n := 40) x1 (by omega) (by rw [n1]; exact sh 1 (by decide)), cond_true, m1, newM_def, n1, ← g2]
  show bif _ then _ else _
  rw [gnw (n := 8) x2 (by omega) (by rw [n2]; exact sh 2 (by decide)), cond_true, m2, newM_def, n2, ← g3]
  show bif _ then _ else _
  rw [gnw (n := 16) x3 (by omega) (by rw [n3]; exact sh 3 (by decide)), cond_true, m3, newM_def, n3, ← g4]
  show bif _ then _ else _
  rw [gnw (n := 3) x4 (by omega) (by rw [n4]; exact sh 4 (by decide)), cond_true, m4, newM_def, n4, ← g5]
  show bif _ then _ else _
  rw [gnw (n := 9) x5 (by omega) (by rw [n5]; exact sh 5 (by decide)), cond_true, m5, newM_def, n5, ← g6]
  show bif _ then _ else _
  rw [← hI6, gl_4 (B := 245) L6 (by decide), cond_true]
  show bif gA (setI _ _ _ _) _ _ _ then _ else _
  rw [setI_def, gl_4 (B := 245) L6 (by decide), cond_true]
  show bif gA (setI _ _ _ _) _ _ _ then _ else _
  rw [setI_def, gl_4 (B := 245) L6 (by decide), cond_true]
  show Ev xs 118 0 _ _ (setI _ _ _ _) _
  rw [setI_def, idx_nI (by decide), idx_nI (by decide), idx_nI (by decide)]
  obtain ⟨I7, hI7⟩ : ∃ I7, I7 = up2 (up2 (up2 I6 249 0 (nI 4)) 249 1 (nI 2)) 249 2 (nI 2) := ⟨_, rfl⟩
  rw [← hI7]
  have I7e : ∀ c k, c < 245 → I7 c k = I c k := fun c k hc => by rw [hI7, up2_ne (by omega), up2_ne (by omega), up2_ne (by omega)]; exact I6e c k hc
  have C7 : Cst I7 ρ6 z00 0 (fun _ _ => 0) (0, fun _ => 0) := hC.lo (fun c k hc => I7e c k hc) r6
  have I7z : ∀ o k, o < 6 → ¬ o = 4 → I7 (245 + o) k = 0 := fun o k ho h4 => by rw [hI7, up2_ne (by omega), up2_ne (by omega), up2_ne (by omega)]; exact I6z o k ho
  have G7 : LG (bl I7 245) z00 0 0 0 := by
    obtain ⟨⟨a, b, n, cy, hBig, -⟩, -⟩ := hC
    refine LG_0 hBig.1 rfl (fun k => I7z 5 k (by decide) (by decide)) ?_ ?_ ?_ (fun k => I7z 2 k (by decide) (by decide)) fun k => I7z 3 k (by decide) (by decide)
    · show I7 249 0 = _
      rw [hI7, up2_ne (by decide), up2_ne (by decide), up2_at]
    · show I7 249 1 = _
      rw [hI7, up2_ne (by decide), up2_at]
    · show I7 249 2 = _
      rw [hI7, up2_at]
  refine l_told (B := 245) W6 x6 C7 L6 G7 Ent_0 (by rw [n6]; decide) (by rw [n6]; decide +kernel) (by rw [n6]; decide +kernel) fun I8 ρ8 W8 N8 X8 C8 f8 => ?_
  rw [n6] at N8 f8
  have G8 : LG (bl I8 245) z00 0 0 0 := G7.ext fun o j ho => f8 _ _ (by omega) (by omega)
  rw [QI_i, show icB .eq (nI 1) (nI 0) = false by decide, cond_false]
  refine l_ahead (B := 245) W8 X8 C8 (LB_245 (by omega)) G8 Ent_0 (by rw [N8]; decide) (fun j hj => ?_) fun I9 ρ9 W9 N9 X9 C9 f9 => ?_
  · rw [N8]
    have : ∀ j : Fin 6, shp (251 + 2 + j.1) = shpT j.1 := by decide +kernel
    exact this ⟨j, hj⟩
  · rw [N8] at N9 f9
    rw [QI_i, show icB .ne (nI 1) (nI 0) = true by decide, cond_true]
    exact law_loop hb (e := 40) (t := 0) rfl ⟨W9, N9, X9, z00, 0, _, _, 0, 0, 0, 0, C9, G8.ext fun o j ho => f9 _ _ (by omega) (by omega), Ent_0, rfl, Nat.le_refl _, fun q => absurd q (Nat.lt_irrefl 0)⟩
theorem start {xs : Scr} {μ : Mem} (hb : xs.1 ≤ 260) (hN : mN μ = 0) (hX : mX μ = 0) : Ev xs 209 0 [.ref SCR, .null, .null, .null, .null, .null, .null, .null, .null, .null, .null, .null] [] μ Qe := by
  apply w_L_law_0
  have c0 := gn_o (kd := 3) hN hX (by decide) rfl
  have g0 : gO (newM μ) (mN μ) 3 = true := gO_i (by rw [mN_newM]; omega) (by rw [hN]; rfl)
  rw [c0, cond_true]
  show bif gO (newM μ) (mN μ) 3 then _ else _
  rw [g0, cond_true, hN]
  refine k_clsA (by rw [mN_newM, hN]) hX fun u n1 x1 i1 m1 r00 r01 r02 q1 q31 qs => ?_
  refine k_clsB n1 x1 r02 fun v n2 x2 i2 z242 r242 r03 r04 r2 => ?_
  rw [QV_v]
  obtain ⟨I, ρ⟩ := v
  have iy : ∀ a k, a < 242 → I a k = mI u a k := fun a k ha => i2 a k ha
  have i0 : ∀ k, I 0 k = 0 := fun k => by rw [iy _ k (by decide), i1, mI_newM, if_pos hN.symm]
  have ru : ∀ a k, a < 242 → ¬ a = 0 → ρ.1 a k = mR u a k := fun a k ha h => r2 a k ha (by omega)
  obtain ⟨m10, m14, m15, s0, s1, s2⟩ := m1
  have hW : Rw ρ := by
    refine ⟨?_, ⟨?_, ?_, ?_, ?_, ?_⟩, ?_, trivial, fun m hm => ?_⟩
    · exact Nat.le_of_eq n2.symm
    · exact (r2 _ _ (by decide) (by omega)).trans r00
    · exact (r2 _ _ (by decide) (by omega)).trans r01
    · exact (r2 _ _ (by decide) (by omega)).trans r02
    · exact r03
    · exact r04
    · exact r242
    · have hl := Bs_lt hm
      have h1 := Bs_0 hm
      have hMR : MR m u := by
        rcases hm with h | h | h | h | h | h | h | h <;> subst h
        · exact q1
        · exact q31
        · exact (qs 0 (by decide)).2
        · exact (qs 1 (by decide)).2
        · exact (qs 2 (by decide)).2
        · exact (qs 3 (by decide)).2
        · exact (qs 4 (by decide)).2
        · exact (qs 5 (by decide)).2
      exact ⟨fun k hk => (ru _ k (by omega) (by omega)).trans (hMR.1 k hk), fun k hk => (ru _ k (by omega) (by omega)).trans (hMR.2 k hk)⟩
  have hC : Cst I ρ z00 0 (fun _ _ => 0) (0, fun _ => 0) := by
    refine ⟨?_, i0 5, Nat.zero_le _, ⟨fun j => j, ⟨fun j hj => hj, fun i j _ _ e => e, fun j hj => ?_⟩, fun j hj => absurd hj (Nat.not_lt_zero j)⟩, z242 1, ⟨Nat.zero_le _, fun k hk => absurd hk (Nat.not_lt_zero k)⟩, fun k hk => absurd hk (Nat.not_lt_zero k)⟩
    · exact Good_0 (fun k => rfl) (fun k => (iy 1 k (by decide)).trans (m10 k)) (fun k => (iy 4 k (by decide)).trans (m14 k)) (fun k => (iy 5 k (by decide)).trans (m15 k)) ((iy 6 0 (by decide)).trans s0) ((iy 6 1 (by decide)).trans s1) ((iy 6 2 (by decide)).trans s2)
    · exact (ru _ _ (by decide) (by decide)).trans (qs j hj).1
  exact start2 hb hW n2 x2 hC
