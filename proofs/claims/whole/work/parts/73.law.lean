/-! the law's cases -/
theorem cd_le {a b c : Nat} : ∀ E, cd a b c E ≤ 3 := fun E => by
  unfold cd; split
  · decide
  · split
    · decide
    · split
      · decide
      · split <;> decide
theorem law_0 {xs : Scr} {I : In2} {ρ : Rh} {Q : Post} {w : Int32} {v5 v6 v7 v8 : Value} {j : Nat} (hL : LI j I ρ) (g1 : (Nat.beq SCR SCR && decide (0 ≤ (w + nI 1).toInt ∧ (w + nI 1).toInt < (xs.1 : Int))) = true) (g2 : (Nat.beq SCR SCR && decide (0 ≤ (w + nI 2).toInt ∧ (w + nI 2).toInt < (xs.1 : Int))) = true) (hN : ∀ I' ρ' v5 v6 v7 v8, LI (j + 1) I' ρ' → Ev xs 209 23 [.ref SCR, .ref 0, .ref 245, .ref 257, .int (w + nI 3), v5, v6, v7, v8] [] (I', ρ') Q) : Ev xs 209 148 [.ref SCR, .ref 0, .ref 245, .ref 257, .int w, v5, v6, v7, v8] [] (I, ρ) Q := by
  obtain ⟨hW, hj, z, s, zs, tl, hC, hR⟩ := hL
  obtain ⟨r, hr, hk, he⟩ := c_set (xs := xs) (p := (xs.2 (idx (w + nI 1)))) (q := (xs.2 (idx (w + nI 2)))) hW hC
  apply w_law_0
  rw [g1, g2, cond_true, cond_true]
  apply L_set hW
  apply case2 (EvC := fun P => Ev xs 63 0 [.ref 0, .int (xs.2 (idx (w + nI 1))), .int (xs.2 (idx (w + nI 2))), .null] [] (I, ρ) P) (EvR := fun I' ρ' P => Ev xs 112 0 [.ref 245, .int (xs.2 (idx (w + nI 1))), .int (xs.2 (idx (w + nI 2))), .null] [] (I', ρ') P) hW hj hC hR hr cd_le hk he
  · intro x I' ρ' hW' h
    simp only [cond_true, gz_O hW']
    exact h
  · exact fun I' ρ' v5 v6 h => hN I' ρ' v5 v6 v7 v8 h
theorem law_1 {xs : Scr} {I : In2} {ρ : Rh} {Q : Post} {w : Int32} {v5 v6 v7 v8 : Value} {j : Nat} (hL : LI j I ρ) (g1 : (Nat.beq SCR SCR && decide (0 ≤ (w + nI 1).toInt ∧ (w + nI 1).toInt < (xs.1 : Int))) = true) (g2 : (Nat.beq SCR SCR && decide (0 ≤ (w + nI 2).toInt ∧ (w + nI 2).toInt < (xs.1 : Int))) = true) (hN : ∀ I' ρ' v5 v6 v7 v8, LI (j + 1) I' ρ' → Ev xs 209 23 [.ref SCR, .ref 0, .ref 245, .ref 257, .int (w + nI 3), v5, v6, v7, v8] [] (I', ρ') Q) : Ev xs 209 216 [.ref SCR, .ref 0, .ref 245, .ref 257, .int w, v5, v6, v7, v8] [] (I, ρ) Q := by
  obtain ⟨hW, hj, z, s, zs, tl, hC, hR⟩ := hL
  obtain ⟨r, hr, hk, he⟩ := c_putReg (xs := xs) (p := (xs.2 (idx (w + nI 1)))) (q := (xs.2 (idx (w + nI 2)))) hW hC
  apply w_law_1
  rw [g1, g2, cond_true, cond_true]
  apply L_putRegister hW
  apply case2 (EvC := fun P => Ev xs 64 0 [.ref 0, .int (xs.2 (idx (w + nI 1))), .int (xs.2 (idx (w + nI 2)))] [] (I, ρ) P) (EvR := fun I' ρ' P => Ev xs 115 0 [.ref 245, .int (xs.2 (idx (w + nI 1))), .int (xs.2 (idx (w + nI 2)))] [] (I', ρ') P) hW hj hC hR hr cd_le hk he
  · intro x I' ρ' hW' h
    simp only [cond_true, gz_O hW']
    exact h
  · exact fun I' ρ' v5 v6 h => hN I' ρ' v5 v6 v7 v8 h
theorem law_2 {xs : Scr} {I : In2} {ρ : Rh} {Q : Post} {w : Int32} {v5 v6 v7 v8 : Value} {j : Nat} (hL : LI j I ρ) (g1 : (Nat.beq SCR SCR && decide (0 ≤ (w + nI 1).toInt ∧ (w + nI 1).toInt < (xs.1 : Int))) = true) (g2 : (Nat.beq SCR SCR && decide (0 ≤ (w + nI 2).toInt ∧ (w + nI 2).toInt < (xs.1 : Int))) = true) (hN : ∀ I' ρ' v5 v6 v7 v8, LI (j + 1) I' ρ' → Ev xs 209 23 [.ref SCR, .ref 0, .ref 245, .ref 257, .int (w + nI 3), v5, v6, v7, v8] [] (I', ρ') Q) : Ev xs 209 284 [.ref SCR, .ref 0, .ref 245, .ref 257, .int w, v5, v6, v7, v8] [] (I, ρ) Q := by
  obtain ⟨hW, hj, z, s, zs, tl, hC, hR⟩ := hL
  obtain ⟨r, hr, hk, he⟩ := c_putCell (xs := xs) (p := (xs.2 (idx (w + nI 1)))) (q := (xs.2 (idx (w + nI 2)))) hW hC
  apply w_law_2
  rw [g1, g2, cond_true, cond_true]
  apply L_putCell hW
  apply case2 (EvC := fun P => Ev xs 65 0 [.ref 0, .int (xs.2 (idx (w + nI 1))), .int (xs.2 (idx (w + nI 2)))] [] (I, ρ) P) (EvR := fun I' ρ' P => Ev xs 116 0 [.ref 245, .int (xs.2 (idx (w + nI 1))), .int (xs.2 (idx (w + nI 2)))] [] (I', ρ') P) hW hj hC hR hr cd_le hk he
  · intro x I' ρ' hW' h
    simp only [cond_true, gz_O hW']
    exact h
  · exact fun I' ρ' v5 v6 h => hN I' ρ' v5 v6 v7 v8 h
theorem law_3 {xs : Scr} {I : In2} {ρ : Rh} {Q : Post} {w : Int32} {v5 v6 v7 v8 : Value} {j : Nat} (hL : LI j I ρ) (g1 : (Nat.beq SCR SCR && decide (0 ≤ (w + nI 1).toInt ∧ (w + nI 1).toInt < (xs.1 : Int))) = true) (g2 : (Nat.beq SCR SCR && decide (0 ≤ (w + nI 2).toInt ∧ (w + nI 2).toInt < (xs.1 : Int))) = true) (hN : ∀ I' ρ' v5 v6 v7 v8, LI (j + 1) I' ρ' → Ev xs 209 23 [.ref SCR, .ref 0, .ref 245, .ref 257, .int (w + nI 3), v5, v6, v7, v8] [] (I', ρ') Q) : Ev xs 209 352 [.ref SCR, .ref 0, .ref 245, .ref 257, .int w, v5, v6, v7, v8] [] (I, ρ) Q := by
  obtain ⟨hW, hj, z, s, zs, tl, hC, hR⟩ := hL
  obtain ⟨r, hr, hk, he⟩ := c_run (xs := xs) (p := (xs.2 (idx (w + nI 1)))) hW hC
  apply w_law_3
  rw [g1, cond_true]
  apply L_run hW
  apply case2 (EvC := fun P => Ev xs 67 0 [.ref 0, .int (xs.2 (idx (w + nI 1))), .null] [] (I, ρ) P) (EvR := fun I' ρ' P => Ev xs 136 0 [.ref 245, .int (xs.2 (idx (w + nI 1))), .null, .null] [] (I', ρ') P) hW hj hC hR hr cd_le hk he
  · intro x I' ρ' hW' h
    simp only [cond_true, gz_O hW']
    exact h
  · exact fun I' ρ' v5 v6 h => hN I' ρ' v5 v6 v7 v8 h
theorem law_6 {xs : Scr} {I : In2} {ρ : Rh} {Q : Post} {w : Int32} {v5 v6 v7 v8 : Value} {j : Nat} (hL : LI j I ρ) (g1 : (Nat.beq SCR SCR && decide (0 ≤ (w + nI 1).toInt ∧ (w + nI 1).toInt < (xs.1 : Int))) = true) (g2 : (Nat.beq SCR SCR && decide (0 ≤ (w + nI 2).toInt ∧ (w + nI 2).toInt < (xs.1 : Int))) = true) (hN : ∀ I' ρ' v5 v6 v7 v8, LI (j + 1) I' ρ' → Ev xs 209 23 [.ref SCR, .ref 0, .ref 245, .ref 257, .int (w + nI 3), v5, v6, v7, v8] [] (I', ρ') Q) : Ev xs 209 434 [.ref SCR, .ref 0, .ref 245, .ref 257, .int w, v5, v6, v7, v8] [] (I, ρ) Q := by
  obtain ⟨hW, hj, z, s, zs, tl, hC, hR⟩ := hL
  obtain ⟨r, hr, hk, he⟩ := c_append (xs := xs) (p := (xs.2 (idx (w + nI 1)))) hW hC
  apply w_law_6
  rw [g1, cond_true]
  apply L_append hW
  apply case2 (EvC := fun P => Ev xs 71 0 [.ref 0, .int (xs.2 (idx (w + nI 1)))] [] (I, ρ) P) (EvR := fun I' ρ' P => Ev xs 140 0 [.ref 245, .int (xs.2 (idx (w + nI 1)))] [] (I', ρ') P) hW hj hC hR hr cd_le hk he
  · intro x I' ρ' hW' h
    simp only [cond_true, gz_O hW']
    exact h
  · exact fun I' ρ' v5 v6 h => hN I' ρ' v5 v6 v7 v8 h
theorem law_9 {xs : Scr} {I : In2} {ρ : Rh} {Q : Post} {w : Int32} {v5 v6 v7 v8 : Value} {j : Nat} (hL : LI j I ρ) (g1 : (Nat.beq SCR SCR && decide (0 ≤ (w + nI 1).toInt ∧ (w + nI 1).toInt < (xs.1 : Int))) = true) (g2 : (Nat.beq SCR SCR && decide (0 ≤ (w + nI 2).toInt ∧ (w + nI 2).toInt < (xs.1 : Int))) = true) (hN : ∀ I' ρ' v5 v6 v7 v8, LI (j + 1) I' ρ' → Ev xs 209 23 [.ref SCR, .ref 0, .ref 245, .ref 257, .int (w + nI 3), v5, v6, v7, v8] [] (I', ρ') Q) : Ev xs 209 516 [.ref SCR, .ref 0, .ref 245, .ref 257, .int w, v5, v6, v7, v8] [] (I, ρ) Q := by
  obtain ⟨hW, hj, z, s, zs, tl, hC, hR⟩ := hL
  obtain ⟨r, hr, hk, he⟩ := c_load (xs := xs) hW hC
  apply w_law_9
  apply L_load hW
  apply case2 (EvC := fun P => Ev xs 74 0 [.ref 0, .null, .null, .null] [] (I, ρ) P) (EvR := fun I' ρ' P => Ev xs 157 0 [.ref 245, .null] [] (I', ρ') P) hW hj hC hR hr cd_le hk he
  · intro x I' ρ' hW' h
    simp only [cond_true, gz_O hW']
    exact h
  · exact fun I' ρ' v5 v6 h => hN I' ρ' v5 v6 v7 v8 h
theorem law_10 {xs : Scr} {I : In2} {ρ : Rh} {Q : Post} {w : Int32} {v5 v6 v7 v8 : Value} {j : Nat} (hL : LI j I ρ) (g1 : (Nat.beq SCR SCR && decide (0 ≤ (w + nI 1).toInt ∧ (w + nI 1).toInt < (xs.1 : Int))) = true) (g2 : (Nat.beq SCR SCR && decide (0 ≤ (w + nI 2).toInt ∧ (w + nI 2).toInt < (xs.1 : Int))) = true) (hN : ∀ I' ρ' v5 v6 v7 v8, LI (j + 1) I' ρ' → Ev xs 209 23 [.ref SCR, .ref 0, .ref 245, .ref 257, .int (w + nI 3), v5, v6, v7, v8] [] (I', ρ') Q) : Ev xs 209 560 [.ref SCR, .ref 0, .ref 245, .ref 257, .int w, v5, v6, v7, v8] [] (I, ρ) Q := by
  obtain ⟨hW, hj, z, s, zs, tl, hC, hR⟩ := hL
  obtain ⟨r, hr, hk, he⟩ := c_undo (xs := xs) hW hC
  apply w_law_10
  apply L_undo hW
  apply case2 (EvC := fun P => Ev xs 75 0 [.ref 0] [] (I, ρ) P) (EvR := fun I' ρ' P => Ev xs 158 0 [.ref 245, .null] [] (I', ρ') P) hW hj hC hR hr cd_le hk he
  · intro x I' ρ' hW' h
    simp only [cond_true, gz_O hW']
    exact h
  · exact fun I' ρ' v5 v6 h => hN I' ρ' v5 v6 v7 v8 h
theorem law_11 {xs : Scr} {I : In2} {ρ : Rh} {Q : Post} {w : Int32} {v5 v6 v7 v8 : Value} {j : Nat} (hL : LI j I ρ) (g1 : (Nat.beq SCR SCR && decide (0 ≤ (w + nI 1).toInt ∧ (w + nI 1).toInt < (xs.1 : Int))) = true) (g2 : (Nat.beq SCR SCR && decide (0 ≤ (w + nI 2).toInt ∧ (w + nI 2).toInt < (xs.1 : Int))) = true) (hN : ∀ I' ρ' v5 v6 v7 v8, LI (j + 1) I' ρ' → Ev xs 209 23 [.ref SCR, .ref 0, .ref 245, .ref 257, .int (w + nI 3), v5, v6, v7, v8] [] (I', ρ') Q) : Ev xs 209 604 [.ref SCR, .ref 0, .ref 245, .ref 257, .int w, v5, v6, v7, v8] [] (I, ρ) Q := by
  obtain ⟨hW, hj, z, s, zs, tl, hC, hR⟩ := hL
  obtain ⟨r, hr, hk, he⟩ := c_instruction (xs := xs) (p := (xs.2 (idx (w + nI 1)))) (q := (xs.2 (idx (w + nI 2)))) hW hC
  apply w_law_11
  rw [g1, g2, cond_true, cond_true]
  apply L_instruction hW
  apply case2 (EvC := fun P => Ev xs 77 0 [.ref 0, .int (xs.2 (idx (w + nI 1))), .int (xs.2 (idx (w + nI 2)))] [] (I, ρ) P) (EvR := fun I' ρ' P => Ev xs 160 0 [.ref 245, .int (xs.2 (idx (w + nI 1))), .int (xs.2 (idx (w + nI 2)))] [] (I', ρ') P) hW hj hC hR hr cd_le hk he
  · intro x I' ρ' hW' h
    simp only [cond_true, gz_O hW']
    exact h
  · exact fun I' ρ' v5 v6 h => hN I' ρ' v5 v6 v7 v8 h
theorem law_12 {xs : Scr} {I : In2} {ρ : Rh} {Q : Post} {w : Int32} {v5 v6 v7 v8 : Value} {j : Nat} (hL : LI j I ρ) (g1 : (Nat.beq SCR SCR && decide (0 ≤ (w + nI 1).toInt ∧ (w + nI 1).toInt < (xs.1 : Int))) = true) (g2 : (Nat.beq SCR SCR && decide (0 ≤ (w + nI 2).toInt ∧ (w + nI 2).toInt < (xs.1 : Int))) = true) (hN : ∀ I' ρ' v5 v6 v7 v8, LI (j + 1) I' ρ' → Ev xs 209 23 [.ref SCR, .ref 0, .ref 245, .ref 257, .int (w + nI 3), v5, v6, v7, v8] [] (I', ρ') Q) : Ev xs 209 672 [.ref SCR, .ref 0, .ref 245, .ref 257, .int w, v5, v6, v7, v8] [] (I, ρ) Q := by
  obtain ⟨hW, hj, z, s, zs, tl, hC, hR⟩ := hL
  obtain ⟨r, hr, hk, he⟩ := c_entry (xs := xs) (p := (xs.2 (idx (w + nI 1)))) (q := (xs.2 (idx (w + nI 2)))) hW hC
  apply w_law_12
  rw [g1, g2, cond_true, cond_true]
  apply L_entry hW
  apply case2 (EvC := fun P => Ev xs 78 0 [.ref 0, .int (xs.2 (idx (w + nI 1))), .int (xs.2 (idx (w + nI 2)))] [] (I, ρ) P) (EvR := fun I' ρ' P => Ev xs 163 0 [.ref 245, .int (xs.2 (idx (w + nI 1))), .int (xs.2 (idx (w + nI 2)))] [] (I', ρ') P) hW hj hC hR hr cd_le hk he
  · intro x I' ρ' hW' h
    simp only [cond_true, gz_O hW']
    exact h
  · exact fun I' ρ' v5 v6 h => hN I' ρ' v5 v6 v7 v8 h
theorem law_13 {xs : Scr} {I : In2} {ρ : Rh} {Q : Post} {w : Int32} {v5 v6 v7 v8 : Value} {j : Nat} (hL : LI j I ρ) (g1 : (Nat.beq SCR SCR && decide (0 ≤ (w + nI 1).toInt ∧ (w + nI 1).toInt < (xs.1 : Int))) = true) (g2 : (Nat.beq SCR SCR && decide (0 ≤ (w + nI 2).toInt ∧ (w + nI 2).toInt < (xs.1 : Int))) = true) (hN : ∀ I' ρ' v5 v6 v7 v8, LI (j + 1) I' ρ' → Ev xs 209 23 [.ref SCR, .ref 0, .ref 245, .ref 257, .int (w + nI 3), v5, v6, v7, v8] [] (I', ρ') Q) : Ev xs 209 740 [.ref SCR, .ref 0, .ref 245, .ref 257, .int w, v5, v6, v7, v8] [] (I, ρ) Q := by
  obtain ⟨hW, hj, z, s, zs, tl, hC, hR⟩ := hL
  obtain ⟨r, hr, hk, he⟩ := c_whyNot (xs := xs) (p := (xs.2 (idx (w + nI 1)))) hW hC
  apply w_law_13
  rw [g1, cond_true]
  apply L_whyNot hW
  apply case2 (EvC := fun P => Ev xs 79 0 [.ref 0, .int (xs.2 (idx (w + nI 1)))] [] (I, ρ) P) (EvR := fun I' ρ' P => Ev xs 164 0 [.ref 245, .int (xs.2 (idx (w + nI 1)))] [] (I', ρ') P) hW hj hC hR hr cd_le hk he
  · intro x I' ρ' hW' h
    simp only [cond_true, gz_O hW']
    exact h
  · exact fun I' ρ' v5 v6 h => hN I' ρ' v5 v6 v7 v8 h
theorem law_14 {xs : Scr} {I : In2} {ρ : Rh} {Q : Post} {w : Int32} {v5 v6 v7 v8 : Value} {j : Nat} (hL : LI j I ρ) (g1 : (Nat.beq SCR SCR && decide (0 ≤ (w + nI 1).toInt ∧ (w + nI 1).toInt < (xs.1 : Int))) = true) (g2 : (Nat.beq SCR SCR && decide (0 ≤ (w + nI 2).toInt ∧ (w + nI 2).toInt < (xs.1 : Int))) = true) (hN : ∀ I' ρ' v5 v6 v7 v8, LI (j + 1) I' ρ' → Ev xs 209 23 [.ref SCR, .ref 0, .ref 245, .ref 257, .int (w + nI 3), v5, v6, v7, v8] [] (I', ρ') Q) : Ev xs 209 796 [.ref SCR, .ref 0, .ref 245, .ref 257, .int w, v5, v6, v7, v8] [] (I, ρ) Q := by
  obtain ⟨hW, hj, z, s, zs, tl, hC, hR⟩ := hL
  obtain ⟨r, hr, hk, he⟩ := c_register (xs := xs) (p := (xs.2 (idx (w + nI 1)))) (q := (xs.2 (idx (w + nI 2)))) hW hC
  apply w_law_14
  rw [g1, g2, cond_true, cond_true]
  apply L_register hW
  apply case2 (EvC := fun P => Ev xs 80 0 [.ref 0, .int (xs.2 (idx (w + nI 1))), .int (xs.2 (idx (w + nI 2)))] [] (I, ρ) P) (EvR := fun I' ρ' P => Ev xs 167 0 [.ref 245, .int (xs.2 (idx (w + nI 1))), .int (xs.2 (idx (w + nI 2)))] [] (I', ρ') P) hW hj hC hR hr cd_le hk he
  · intro x I' ρ' hW' h
    simp only [cond_true, gz_O hW']
    exact h
  · exact fun I' ρ' v5 v6 h => hN I' ρ' v5 v6 v7 v8 h
theorem law_15 {xs : Scr} {I : In2} {ρ : Rh} {Q : Post} {w : Int32} {v5 v6 v7 v8 : Value} {j : Nat} (hL : LI j I ρ) (g1 : (Nat.beq SCR SCR && decide (0 ≤ (w + nI 1).toInt ∧ (w + nI 1).toInt < (xs.1 : Int))) = true) (g2 : (Nat.beq SCR SCR && decide (0 ≤ (w + nI 2).toInt ∧ (w + nI 2).toInt < (xs.1 : Int))) = true) (hN : ∀ I' ρ' v5 v6 v7 v8, LI (j + 1) I' ρ' → Ev xs 209 23 [.ref SCR, .ref 0, .ref 245, .ref 257, .int (w + nI 3), v5, v6, v7, v8] [] (I', ρ') Q) : Ev xs 209 864 [.ref SCR, .ref 0, .ref 245, .ref 257, .int w, v5, v6, v7, v8] [] (I, ρ) Q := by
  obtain ⟨hW, hj, z, s, zs, tl, hC, hR⟩ := hL
  obtain ⟨r, hr, hk, he⟩ := c_cell (xs := xs) (p := (xs.2 (idx (w + nI 1)))) (q := (xs.2 (idx (w + nI 2)))) hW hC
  apply w_law_15
  rw [g1, g2, cond_true, cond_true]
  apply L_cell hW
  apply case2 (EvC := fun P => Ev xs 81 0 [.ref 0, .int (xs.2 (idx (w + nI 1))), .int (xs.2 (idx (w + nI 2)))] [] (I, ρ) P) (EvR := fun I' ρ' P => Ev xs 169 0 [.ref 245, .int (xs.2 (idx (w + nI 1))), .int (xs.2 (idx (w + nI 2)))] [] (I', ρ') P) hW hj hC hR hr cd_le hk he
  · intro x I' ρ' hW' h
    simp only [cond_true, gz_O hW']
    exact h
  · exact fun I' ρ' v5 v6 h => hN I' ρ' v5 v6 v7 v8 h
theorem law_16 {xs : Scr} {I : In2} {ρ : Rh} {Q : Post} {w : Int32} {v5 v6 v7 v8 : Value} {j : Nat} (hL : LI j I ρ) (g1 : (Nat.beq SCR SCR && decide (0 ≤ (w + nI 1).toInt ∧ (w + nI 1).toInt < (xs.1 : Int))) = true) (g2 : (Nat.beq SCR SCR && decide (0 ≤ (w + nI 2).toInt ∧ (w + nI 2).toInt < (xs.1 : Int))) = true) (hN : ∀ I' ρ' v5 v6 v7 v8, LI (j + 1) I' ρ' → Ev xs 209 23 [.ref SCR, .ref 0, .ref 245, .ref 257, .int (w + nI 3), v5, v6, v7, v8] [] (I', ρ') Q) : Ev xs 209 932 [.ref SCR, .ref 0, .ref 245, .ref 257, .int w, v5, v6, v7, v8] [] (I, ρ) Q := by
  obtain ⟨hW, hj, z, s, zs, tl, hC, hR⟩ := hL
  obtain ⟨r, hr, hk, he⟩ := c_count (xs := xs) (p := (xs.2 (idx (w + nI 1)))) hW hC
  apply w_law_16
  rw [g1, cond_true]
  apply L_count hW
  apply case2 (EvC := fun P => Ev xs 82 0 [.ref 0, .int (xs.2 (idx (w + nI 1)))] [] (I, ρ) P) (EvR := fun I' ρ' P => Ev xs 172 0 [.ref 245, .int (xs.2 (idx (w + nI 1)))] [] (I', ρ') P) hW hj hC hR hr cd_le hk he
  · intro x I' ρ' hW' h
    simp only [cond_true, gz_O hW']
    exact h
  · exact fun I' ρ' v5 v6 h => hN I' ρ' v5 v6 v7 v8 h
theorem law_17 {xs : Scr} {I : In2} {ρ : Rh} {Q : Post} {w : Int32} {v5 v6 v7 v8 : Value} {j : Nat} (hL : LI j I ρ) (g1 : (Nat.beq SCR SCR && decide (0 ≤ (w + nI 1).toInt ∧ (w + nI 1).toInt < (xs.1 : Int))) = true) (g2 : (Nat.beq SCR SCR && decide (0 ≤ (w + nI 2).toInt ∧ (w + nI 2).toInt < (xs.1 : Int))) = true) (hN : ∀ I' ρ' v5 v6 v7 v8, LI (j + 1) I' ρ' → Ev xs 209 23 [.ref SCR, .ref 0, .ref 245, .ref 257, .int (w + nI 3), v5, v6, v7, v8] [] (I', ρ') Q) : Ev xs 209 988 [.ref SCR, .ref 0, .ref 245, .ref 257, .int w, v5, v6, v7, v8] [] (I, ρ) Q := by
  obtain ⟨hW, hj, z, s, zs, tl, hC, hR⟩ := hL
  obtain ⟨r, hr, hk, he⟩ := c_setting (xs := xs) (p := (xs.2 (idx (w + nI 1)))) hW hC
  apply w_law_17
  rw [g1, cond_true]
  apply L_setting hW
  apply case2 (EvC := fun P => Ev xs 83 0 [.ref 0, .int (xs.2 (idx (w + nI 1)))] [] (I, ρ) P) (EvR := fun I' ρ' P => Ev xs 173 0 [.ref 245, .int (xs.2 (idx (w + nI 1)))] [] (I', ρ') P) hW hj hC hR hr cd_le hk he
  · intro x I' ρ' hW' h
    simp only [cond_true, gz_O hW']
    exact h
  · exact fun I' ρ' v5 v6 h => hN I' ρ' v5 v6 v7 v8 h
theorem law_18 {xs : Scr} {I : In2} {ρ : Rh} {Q : Post} {w : Int32} {v5 v6 v7 v8 : Value} {j : Nat} (hL : LI j I ρ) (g1 : (Nat.beq SCR SCR && decide (0 ≤ (w + nI 1).toInt ∧ (w + nI 1).toInt < (xs.1 : Int))) = true) (g2 : (Nat.beq SCR SCR && decide (0 ≤ (w + nI 2).toInt ∧ (w + nI 2).toInt < (xs.1 : Int))) = true) (hN : ∀ I' ρ' v5 v6 v7 v8, LI (j + 1) I' ρ' → Ev xs 209 23 [.ref SCR, .ref 0, .ref 245, .ref 257, .int (w + nI 3), v5, v6, v7, v8] [] (I', ρ') Q) : Ev xs 209 1044 [.ref SCR, .ref 0, .ref 245, .ref 257, .int w, v5, v6, v7, v8] [] (I, ρ) Q := by
  obtain ⟨hW, hj, z, s, zs, tl, hC, hR⟩ := hL
  obtain ⟨r, hr, hk, he⟩ := c_ifRun (xs := xs) (p := (xs.2 (idx (w + nI 1)))) (q := (xs.2 (idx (w + nI 2)))) hW hC
  apply w_law_18
  rw [g1, g2, cond_true, cond_true]
  apply L_ifRun hW
  apply case2 (EvC := fun P => Ev xs 88 0 [.ref 0, .int (xs.2 (idx (w + nI 1))), .int (xs.2 (idx (w + nI 2)))] [] (I, ρ) P) (EvR := fun I' ρ' P => Ev xs 175 0 [.ref 245, .int (xs.2 (idx (w + nI 1))), .int (xs.2 (idx (w + nI 2)))] [] (I', ρ') P) hW hj hC hR hr cd_le hk he
  · intro x I' ρ' hW' h
    simp only [cond_true, gz_O hW']
    exact h
  · exact fun I' ρ' v5 v6 h => hN I' ρ' v5 v6 v7 v8 h
theorem law_20 {xs : Scr} {I : In2} {ρ : Rh} {Q : Post} {w : Int32} {v5 v6 v7 v8 : Value} {j : Nat} (hL : LI j I ρ) (g1 : (Nat.beq SCR SCR && decide (0 ≤ (w + nI 1).toInt ∧ (w + nI 1).toInt < (xs.1 : Int))) = true) (g2 : (Nat.beq SCR SCR && decide (0 ≤ (w + nI 2).toInt ∧ (w + nI 2).toInt < (xs.1 : Int))) = true) (hN : ∀ I' ρ' v5 v6 v7 v8, LI (j + 1) I' ρ' → Ev xs 209 23 [.ref SCR, .ref 0, .ref 245, .ref 257, .int (w + nI 3), v5, v6, v7, v8] [] (I', ρ') Q) : Ev xs 209 1125 [.ref SCR, .ref 0, .ref 245, .ref 257, .int w, v5, v6, v7, v8] [] (I, ρ) Q := by
  obtain ⟨hW, hj, z, s, zs, tl, hC, hR⟩ := hL
  obtain ⟨r, hr, hk, he⟩ := c_bestWindow (xs := xs) (p := (xs.2 (idx (w + nI 1)))) hW hC
  apply w_law_20
  rw [g1, cond_true]
  apply L_bestWindow hW
  apply case2 (EvC := fun P => Ev xs 90 0 [.ref 0, .int (xs.2 (idx (w + nI 1)))] [] (I, ρ) P) (EvR := fun I' ρ' P => Ev xs 180 0 [.ref 245, .int (xs.2 (idx (w + nI 1)))] [] (I', ρ') P) hW hj hC hR hr cd_le hk he
  · intro x I' ρ' hW' h
    simp only [cond_true, gz_O hW']
    exact h
  · exact fun I' ρ' v5 v6 h => hN I' ρ' v5 v6 v7 v8 h
theorem law_4 {xs : Scr} {I : In2} {ρ : Rh} {Q : Post} {w : Int32} {v5 v6 v7 v8 : Value} {j : Nat} (hL : LI j I ρ) (g1 : (Nat.beq SCR SCR && decide (0 ≤ (w + nI 1).toInt ∧ (w + nI 1).toInt < (xs.1 : Int))) = true) (g2 : (Nat.beq SCR SCR && decide (0 ≤ (w + nI 2).toInt ∧ (w + nI 2).toInt < (xs.1 : Int))) = true) (hN : ∀ I' ρ' v5 v6 v7 v8, LI (j + 1) I' ρ' → Ev xs 209 23 [.ref SCR, .ref 0, .ref 245, .ref 257, .int (w + nI 3), v5, v6, v7, v8] [] (I', ρ') Q) : Ev xs 209 408 [.ref SCR, .ref 0, .ref 245, .ref 257, .int w, v5, v6, v7, v8] [] (I, ρ) Q := by
  obtain ⟨hW, hj, z, s, zs, tl, hC, hR⟩ := hL
  apply w_law_4
  rw [gc_O hW, cond_true]
  refine k_flush hW hC fun I' ρ' hW' hρ' hC' hfr => ?_
  rw [QI_i, gz_O hW', cond_true]
  refine e_flush hW' (hR.ge hfr) hC.2.2.1 fun I'' hR'' h16 hlo => ?_
  rw [QI_i, icB_eq, decide_eq_true rfl, cond_true]
  refine hN _ _ _ _ _ _ ⟨hW', ?_, _, _, _, _, hC'.fr rfl fun a k h1 _ => hlo a k (by omega), hR''⟩
  rw [hρ']; omega
theorem law_5 {xs : Scr} {I : In2} {ρ : Rh} {Q : Post} {w : Int32} {v5 v6 v7 v8 : Value} {j : Nat} (hL : LI j I ρ) (g1 : (Nat.beq SCR SCR && decide (0 ≤ (w + nI 1).toInt ∧ (w + nI 1).toInt < (xs.1 : Int))) = true) (g2 : (Nat.beq SCR SCR && decide (0 ≤ (w + nI 2).toInt ∧ (w + nI 2).toInt < (xs.1 : Int))) = true) (hN : ∀ I' ρ' v5 v6 v7 v8, LI (j + 1) I' ρ' → Ev xs 209 23 [.ref SCR, .ref 0, .ref 245, .ref 257, .int (w + nI 3), v5, v6, v7, v8] [] (I', ρ') Q) : Ev xs 209 421 [.ref SCR, .ref 0, .ref 245, .ref 257, .int w, v5, v6, v7, v8] [] (I, ρ) Q := by
  obtain ⟨hW, hj, z, s, zs, tl, hC, hR⟩ := hL
  apply w_law_5
  rw [gc_O hW, cond_true]
  refine k_again hW hC fun I' ρ' hW' hρ' hC' hfr => ?_
  rw [QI_i, gz_O hW', cond_true]
  refine e_again hW' (hR.ge hfr) hC.2.2.1 fun I'' hR'' h16 hlo => ?_
  rw [QI_i, icB_eq, decide_eq_true rfl, cond_true]
  refine hN _ _ _ _ _ _ ⟨hW', ?_, _, _, _, _, hC'.fr rfl fun a k h1 _ => hlo a k (by omega), hR''⟩
  rw [hρ']; omega
theorem law_7 {xs : Scr} {I : In2} {ρ : Rh} {Q : Post} {w : Int32} {v5 v6 v7 v8 : Value} {j : Nat} (hL : LI j I ρ) (g1 : (Nat.beq SCR SCR && decide (0 ≤ (w + nI 1).toInt ∧ (w + nI 1).toInt < (xs.1 : Int))) = true) (g2 : (Nat.beq SCR SCR && decide (0 ≤ (w + nI 2).toInt ∧ (w + nI 2).toInt < (xs.1 : Int))) = true) (hN : ∀ I' ρ' v5 v6 v7 v8, LI (j + 1) I' ρ' → Ev xs 209 23 [.ref SCR, .ref 0, .ref 245, .ref 257, .int (w + nI 3), v5, v6, v7, v8] [] (I', ρ') Q) : Ev xs 209 490 [.ref SCR, .ref 0, .ref 245, .ref 257, .int w, v5, v6, v7, v8] [] (I, ρ) Q := by
  obtain ⟨hW, hj, z, s, zs, tl, hC, hR⟩ := hL
  apply w_law_7
  rw [gc_O hW, cond_true]
  refine k_clear hW hC fun I' ρ' hW' hρ' hC' hfr => ?_
  rw [QI_i, gz_O hW', cond_true]
  refine e_clear hW' (hR.ge hfr) fun I'' hR'' h16 hlo => ?_
  rw [QI_i, icB_eq, decide_eq_true rfl, cond_true]
  refine hN _ _ _ _ _ _ ⟨hW', ?_, _, _, _, _, hC'.fr rfl fun a k h1 _ => hlo a k (by omega), hR''⟩
  rw [hρ']; omega
theorem law_8 {xs : Scr} {I : In2} {ρ : Rh} {Q : Post} {w : Int32} {v5 v6 v7 v8 : Value} {j : Nat} (hL : LI j I ρ) (g1 : (Nat.beq SCR SCR && decide (0 ≤ (w + nI 1).toInt ∧ (w + nI 1).toInt < (xs.1 : Int))) = true) (g2 : (Nat.beq SCR SCR && decide (0 ≤ (w + nI 2).toInt ∧ (w + nI 2).toInt < (xs.1 : Int))) = true) (hN : ∀ I' ρ' v5 v6 v7 v8, LI (j + 1) I' ρ' → Ev xs 209 23 [.ref SCR, .ref 0, .ref 245, .ref 257, .int (w + nI 3), v5, v6, v7, v8] [] (I', ρ') Q) : Ev xs 209 503 [.ref SCR, .ref 0, .ref 245, .ref 257, .int w, v5, v6, v7, v8] [] (I, ρ) Q := by
  obtain ⟨hW, hj, z, s, zs, tl, hC, hR⟩ := hL
  apply w_law_8
  rw [gc_O hW, cond_true]
  refine k_first hW hC fun I' ρ' hW' hρ' hC' hfr => ?_
  rw [QI_i, gz_O hW', cond_true]
  refine e_first hW' hC.tx.2.1 (hR.ge hfr) fun I'' hR'' h16 hlo => ?_
  rw [QI_i, icB_eq, decide_eq_true rfl, cond_true]
  refine hN _ _ _ _ _ _ ⟨hW', ?_, _, _, _, _, hC'.fr rfl fun a k h1 _ => hlo a k (by omega), hR''⟩
  rw [hρ']; omega
theorem law_19 {xs : Scr} {I : In2} {ρ : Rh} {Q : Post} {w : Int32} {v5 v6 v7 v8 : Value} {j : Nat} (hL : LI j I ρ) (g1 : (Nat.beq SCR SCR && decide (0 ≤ (w + nI 1).toInt ∧ (w + nI 1).toInt < (xs.1 : Int))) = true) (g2 : (Nat.beq SCR SCR && decide (0 ≤ (w + nI 2).toInt ∧ (w + nI 2).toInt < (xs.1 : Int))) = true) (hN : ∀ I' ρ' v5 v6 v7 v8, LI (j + 1) I' ρ' → Ev xs 209 23 [.ref SCR, .ref 0, .ref 245, .ref 257, .int (w + nI 3), v5, v6, v7, v8] [] (I', ρ') Q) : Ev xs 209 1112 [.ref SCR, .ref 0, .ref 245, .ref 257, .int w, v5, v6, v7, v8] [] (I, ρ) Q := by
  obtain ⟨hW, hj, z, s, zs, tl, hC, hR⟩ := hL
  apply w_law_19
  rw [gc_O hW, cond_true]
  refine k_cyclesLeft hW hC fun I' ρ' hW' hρ' hC' hfr => ?_
  rw [QI_i, gz_O hW', cond_true]
  refine e_cyclesLeft hW' hC.1 (hR.ge hfr) fun I'' hR'' h16 hlo => ?_
  rw [QI_i, icB_eq, decide_eq_true rfl, cond_true]
  refine hN _ _ _ _ _ _ ⟨hW', ?_, _, _, _, _, hC'.fr rfl fun a k h1 _ => hlo a k (by omega), hR''⟩
  rw [hρ']; omega
theorem law_21 {xs : Scr} {I : In2} {ρ : Rh} {Q : Post} {w : Int32} {v5 v6 v7 v8 : Value} {j : Nat} (hL : LI j I ρ) (g1 : (Nat.beq SCR SCR && decide (0 ≤ (w + nI 1).toInt ∧ (w + nI 1).toInt < (xs.1 : Int))) = true) (g2 : (Nat.beq SCR SCR && decide (0 ≤ (w + nI 2).toInt ∧ (w + nI 2).toInt < (xs.1 : Int))) = true) (hN : ∀ I' ρ' v5 v6 v7 v8, LI (j + 1) I' ρ' → Ev xs 209 23 [.ref SCR, .ref 0, .ref 245, .ref 257, .int (w + nI 3), v5, v6, v7, v8] [] (I', ρ') Q) : Ev xs 209 1181 [.ref SCR, .ref 0, .ref 245, .ref 257, .int w, v5, v6, v7, v8] [] (I, ρ) Q := by
  obtain ⟨hW, hj, z, s, zs, tl, hC, hR⟩ := hL
  apply w_law_21
  rw [gc_O hW, cond_true]
  refine k_worst hW hC fun I' ρ' hW' hρ' hC' hfr => ?_
  rw [QI_i, gz_O hW', cond_true]
  refine e_worst hW' hC.1 (hR.ge hfr) fun I'' hR'' h16 hlo => ?_
  rw [QI_i, icB_eq, decide_eq_true rfl, cond_true]
  refine hN _ _ _ _ _ _ ⟨hW', ?_, _, _, _, _, hC'.fr rfl fun a k h1 _ => hlo a k (by omega), hR''⟩
  rw [hρ']; omega
theorem law_22 {xs : Scr} {I : In2} {ρ : Rh} {Q : Post} {w : Int32} {v5 v6 v7 v8 : Value} {j : Nat} (hL : LI j I ρ) (g1 : (Nat.beq SCR SCR && decide (0 ≤ (w + nI 1).toInt ∧ (w + nI 1).toInt < (xs.1 : Int))) = true) (g2 : (Nat.beq SCR SCR && decide (0 ≤ (w + nI 2).toInt ∧ (w + nI 2).toInt < (xs.1 : Int))) = true) (hN : ∀ I' ρ' v5 v6 v7 v8, LI (j + 1) I' ρ' → Ev xs 209 23 [.ref SCR, .ref 0, .ref 245, .ref 257, .int (w + nI 3), v5, v6, v7, v8] [] (I', ρ') Q) : Ev xs 209 1194 [.ref SCR, .ref 0, .ref 245, .ref 257, .int w, v5, v6, v7, v8] [] (I, ρ) Q := by
  obtain ⟨hW, hj, z, s, zs, tl, hC, hR⟩ := hL
  apply w_law_22
  rw [gc_O hW, cond_true, k_share hW hC.1, QD_d, gz_O hW, cond_true]
  refine e_share hW hC.1 hR ?_
  rw [QD_d, icB_eq, icB_ne]
  have hl : LI (j + 1) (up2 I 245 16 (nI 0)) ρ := ⟨hW, by omega, z, s, zs, tl, hC.fr rfl fun a k h1 _ => fr_t (by omega), hR.t⟩
  by_cases e : Op.cmpValue (FP.dcmp (shZ z) (shZ z)) .l = nI 0
  · rw [decide_eq_true e, cond_true]; exact hN _ _ _ _ _ _ hl
  · rw [decide_eq_false e, cond_false, cond_false, decide_eq_true e, cond_true]; exact hN _ _ _ _ _ _ hl
theorem law_23 {xs : Scr} {I : In2} {ρ : Rh} {Q : Post} {w : Int32} {v5 v6 v7 v8 : Value} {j : Nat} (hL : LI j I ρ) (g1 : (Nat.beq SCR SCR && decide (0 ≤ (w + nI 1).toInt ∧ (w + nI 1).toInt < (xs.1 : Int))) = true) (g2 : (Nat.beq SCR SCR && decide (0 ≤ (w + nI 2).toInt ∧ (w + nI 2).toInt < (xs.1 : Int))) = true) (hN : ∀ I' ρ' v5 v6 v7 v8, LI (j + 1) I' ρ' → Ev xs 209 23 [.ref SCR, .ref 0, .ref 245, .ref 257, .int (w + nI 3), v5, v6, v7, v8] [] (I', ρ') Q) : Ev xs 209 1235 [.ref SCR, .ref 0, .ref 245, .ref 257, .int w, v5, v6, v7, v8] [] (I, ρ) Q := by
  obtain ⟨hW, hj, z, s, zs, tl, hC, hR⟩ := hL
  apply w_law_23
  rw [gc_O hW, cond_true]
  refine k_digest hW hC fun I' ρ' hD => ?_
  obtain ⟨hW', hρ', hC', hfr⟩ := hD
  rw [QL_l, gz_O hW', cond_true]
  refine e_digest hW' hC.1 hC.tx.2.1.1 (hR.ge hfr) fun I'' hE => ?_
  rw [QL_l, lg_self, cond_true]
  refine hN _ _ _ _ _ _ ⟨hW'.l, ?_, _, _, _, _, hC'.fr rfl fun a k h1 _ => hE.2.2 a k (by omega), hE.1⟩
  show ρ'.2.2.2 ≤ j + 1
  rw [hρ']; omega
theorem law_24 {xs : Scr} {I : In2} {ρ : Rh} {Q : Post} {w : Int32} {v5 v6 v7 v8 : Value} {j : Nat} (hL : LI j I ρ) (g1 : (Nat.beq SCR SCR && decide (0 ≤ (w + nI 1).toInt ∧ (w + nI 1).toInt < (xs.1 : Int))) = true) (g2 : (Nat.beq SCR SCR && decide (0 ≤ (w + nI 2).toInt ∧ (w + nI 2).toInt < (xs.1 : Int))) = true) (hN : ∀ I' ρ' v5 v6 v7 v8, LI (j + 1) I' ρ' → Ev xs 209 23 [.ref SCR, .ref 0, .ref 245, .ref 257, .int (w + nI 3), v5, v6, v7, v8] [] (I', ρ') Q) : Ev xs 209 1249 [.ref SCR, .ref 0, .ref 245, .ref 257, .int w, v5, v6, v7, v8] [] (I, ρ) Q := by
  obtain ⟨hW, hj, z, s, zs, tl, hC, hR⟩ := hL
  apply w_law_24
  exact hN _ _ _ _ _ _ ⟨hW, by omega, z, s, zs, tl, hC, hR⟩
