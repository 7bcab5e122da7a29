/-! load -/
theorem ldZ_lo {tl : Nat × Zt} {z : Zt} {k : Nat} (hk : k < 36) (e1 : ¬ k = 1) (e2 : ¬ k = 2) (e3 : ¬ k = 3) : ldZ tl z k = z k := by unfold ldZ; rw [bgF_lo hk e2 e3, ldL_lo hk, uz_ne e1]
theorem ldZ_123 {tl : Nat × Zt} {z : Zt} : ldZ tl z 1 = nI (txK tl tl.1 + 1) ∧ ldZ tl z 2 = nI 0 ∧ ldZ tl z 3 = nI 0 := ⟨by unfold ldZ; rw [bgF_lo (by decide) (by decide) (by decide), ldL_lo (by decide), uz_at], by unfold ldZ bgF; rw [bgL_lo (by decide), uz_ne (by decide), uz_at], by unfold ldZ bgF; rw [bgL_lo (by decide), uz_at]⟩
theorem ldZ_pt {tl : Nat × Zt} {z : Zt} {i f : Nat} (hi : i < txK tl tl.1 + 1) (h24 : i < 24) (hf : f < 7) : pt (ldZ tl z) i f = if f < 5 then txW tl (txB tl i) f else nI 0 := by
  unfold ldZ
  rw [bgF_pt h24 (by omega), pt_ldL (by omega)]
  by_cases h5 : f < 5
  · rw [if_neg (by omega), if_pos (by omega), if_pos h5]
  · rw [if_pos (by omega), if_neg h5]
theorem RowL.cg {w w' : Nat → Int32} (h : RowL w) (he : ∀ f, f < 5 → w' f = w f) : RowL w' := by
  unfold RowL at h ⊢
  rw [he 0 (by decide), he 1 (by decide), he 2 (by decide), he 3 (by decide), he 4 (by decide)]; exact h
def r5 (w0 w1 w2 w3 w4 : Int32) (f : Nat) : Int32 := match f with | 0 => w0 | 1 => w1 | 2 => w2 | 3 => w3 | _ => w4
/-- while lines are written -/
def LD (I0 : In2) (ρ0 : Rh) (I : In2) (ρ : Rh) (z : Zt) (s : Nat) (zs : Nat → Zt) (tl : Nat × Zt) (B i n : Nat) : Prop := Rw ρ ∧ ρ.2 = ρ0.2 ∧ Cst I ρ z s zs tl ∧ (∀ c k, 245 ≤ c → ¬ c = B → ¬ (c = B + 5 ∧ k = 1) → I c k = I0 c k) ∧ I (B + 5) 1 = nI n ∧ (i = 0 → tl.1 = 0) ∧ TX tl i (fun j f => I B (8 * j + f)) ∧ ∀ j, j < i → RowL (fun f => I B (8 * j + f))
section LLoad
variable {xs : Scr} {I0 I : In2} {ρ0 ρ : Rh} {Q : Post} {z : Zt} {s : Nat} {zs : Nat → Zt} {tl : Nat × Zt} {B i n : Nat} {x y v7 : Int32}
theorem LD.up {f : Nat} {v : Int32} (h : LD I0 ρ0 I ρ z s zs tl B i n) (hB : 245 ≤ B) (hf : f < 8) : LD I0 ρ0 (up2 I B (8 * i + f) v) ρ z s zs tl B i n := by
  obtain ⟨h1, h2, h3, h4, h5, h6, h7, h8⟩ := h
  refine ⟨h1, h2, h3.lo (fun c k hc => up2_ne (by omega)) (fun _ => rfl), fun c k a1 a2 a3 => by rw [up2_ne (by omega)]; exact h4 c k a1 a2 a3, by rw [up2_ne (by omega)]; exact h5, h6, h7.cg fun j g hj hg => up2_ne (by omega), fun j hj => (h8 j hj).cg fun g hg => up2_ne (by omega)⟩
theorem LD.L (h : LD I0 ρ0 I ρ z s zs tl B i n) (hL : LB B ρ0) : LB B ρ := ⟨hL.1, by rw [h.2.1]; exact hL.2.1, hL.2.2⟩
theorem ld_256 {v4 : Int32} (hL : LB B ρ0) (hi : i < 7) (hD : LD I0 ρ0 I ρ z s zs tl B i n) (hR : RowL (r5 (I B (8 * i)) (I B (8 * i + 1)) (I B (8 * i + 2)) (I B (8 * i + 3)) v4))
    (next : ∀ I' ρ' tl', LD I0 ρ0 I' ρ' z s zs tl' B (i + 1) n → Ev xs 121 22 [.ref 0, .int x, .int y, .ref B, .ref (B + 5), .int (nI (i + 1)), .int (nI (8 * i)), .int v7] [] (I', ρ') Q) :
    Ev xs 121 256 [.ref 0, .int x, .int y, .ref B, .ref (B + 5), .int (nI i), .int (nI (8 * i)), .int v7] [.int v4, .int (nI (8 * i + 4)), .ref B] (I, ρ) Q := by
  have hB := hL.1
  have L := hD.L hL
  have hD' := hD.up (f := 4) (v := v4) hB (by decide)
  have hR' : RowL (fun f => up2 I B (8 * i + 4) v4 B (8 * i + f)) := hR.cg fun f hf => by
    have : f = 0 ∨ f = 1 ∨ f = 2 ∨ f = 3 ∨ f = 4 := by omega
    rcases this with rfl | rfl | rfl | rfl | rfl
    · exact up2_ne (by omega)
    · exact up2_ne (by omega)
    · exact up2_ne (by omega)
    · exact up2_ne (by omega)
    · exact up2_at
  apply w_L_load_256
  simp (disch := omega) only [gl_0 L, cond_true, idx_nI, setI_def]
  obtain ⟨h1, h2, h3, h4, h5, h6, h7, h8⟩ := hD'
  refine l_line (I0 := up2 I B (8 * i + 4) v4) (ρ0 := ρ) L ⟨h1, rfl, h3, fun _ _ _ => rfl⟩ hi h6 h7 hR' fun I' ρ' tl' hT' _ hX' => ?_
  rw [QI_i, icB_ne, decide_eq_true (by decide), cond_true, nI_add]
  have e : ∀ k, I' B k = up2 I B (8 * i + 4) v4 B k := fun k => hT'.2.2.2 B k hB
  refine next I' ρ' tl' ⟨hT'.1, hT'.2.1.trans h2, hT'.2.2.1, fun c k a1 a2 a3 => (hT'.2.2.2 c k a1).trans (h4 c k a1 a2 a3), by rw [hT'.2.2.2 _ _ (by omega)]; exact h5, fun q => absurd q (by omega), hX'.cg fun j g _ _ => e _, fun j hj => ?_⟩
  by_cases ej : j = i
  · subst ej; exact hR'.cg fun g _ => e _
  · exact (h8 j (by omega)).cg fun g _ => e _
def F4 (K : Nat) (v : Int32) : Prop := (K = 0 → (∃ v' : Int32, -24 ≤ v'.toInt ∧ v'.toInt ≤ 24 ∧ v = Int32.ofInt (4 * v'.toInt)) ∧ ((∃ m, m < 100 ∧ v = nI m) ∨ (∃ m, 1 ≤ m ∧ m < 100 ∧ v = - nI m))) ∧ (1 ≤ K → K < 3 → v = nI 0) ∧ (3 ≤ K → ∃ o, o < 3 ∧ v = nI o)
def F3 (K : Nat) (v : Int32) : Prop := (K = 0 ∨ K = 3 → v = nM) ∧ (¬ (K = 0 ∨ K = 3) → ∃ q, q < 4 ∧ v = nI q)
def F2 (K : Nat) (v : Int32) : Prop := (K = 0 → v = nM) ∧ (¬ K = 0 → ∃ q, q < 4 ∧ v = nI q)
def F1 (K : Nat) (v : Int32) : Prop := (K = 4 → v = nM) ∧ (¬ K = 4 → ∃ q, q < 4 ∧ v = nI q)
theorem F_row {K : Nat} {v1 v2 v3 v4 : Int32} (hK : K < 5) (h1 : F1 K v1) (h2 : F2 K v2) (h3 : F3 K v3) (h4 : F4 K v4) : RowL (r5 (nI K) v1 v2 v3 v4) := by
  obtain rfl | rfl | rfl | rfl | rfl : K = 0 ∨ K = 1 ∨ K = 2 ∨ K = 3 ∨ K = 4 := by omega
  · exact Or.inl ⟨rfl, h1.2 (by decide), h2.1 rfl, h3.1 (Or.inl rfl), (h4.1 rfl).1, (h4.1 rfl).2⟩
  · exact Or.inr (Or.inl ⟨Or.inl rfl, h1.2 (by decide), h2.2 (by decide), h3.2 (by decide), h4.2.1 (by decide) (by decide)⟩)
  · exact Or.inr (Or.inl ⟨Or.inr rfl, h1.2 (by decide), h2.2 (by decide), h3.2 (by decide), h4.2.1 (by decide) (by decide)⟩)
  · exact Or.inr (Or.inr (Or.inl ⟨rfl, h1.2 (by decide), h2.2 (by decide), h3.1 (Or.inr rfl), h4.2.2 (by decide)⟩))
  · exact Or.inr (Or.inr (Or.inr ⟨rfl, h1.1 rfl, h2.2 (by decide), h3.2 (by decide), h4.2.2 (by decide)⟩))
theorem F4_num {u : Nat} (hu : u < 49) : F4 0 (nI 4 * (nI u - nI 24)) := by
  have : ∀ u : Fin 49, (-24 ≤ (nI u.1 - nI 24).toInt ∧ (nI u.1 - nI 24).toInt ≤ 24 ∧ nI 4 * (nI u.1 - nI 24) = Int32.ofInt (4 * (nI u.1 - nI 24).toInt)) ∧ (24 ≤ u.1 → nI 4 * (nI u.1 - nI 24) = nI (4 * (u.1 - 24))) ∧ (u.1 < 24 → nI 4 * (nI u.1 - nI 24) = - nI (4 * (24 - u.1))) := by decide
  obtain ⟨h1, h2, h3⟩ := this ⟨u, hu⟩
  refine ⟨fun _ => ⟨⟨_, h1⟩, ?_⟩, fun q => absurd q (by decide), fun q => absurd q (by decide)⟩
  by_cases hc : 24 ≤ u
  · exact Or.inl ⟨4 * (u - 24), by omega, h2 hc⟩
  · exact Or.inr ⟨4 * (24 - u), by omega, by omega, h3 (Nat.not_le.mp hc)⟩
theorem ld_196 {K : Nat} {v3 : Int32} (hL : LB B ρ0) (hi : i < 7) (hK : K < 5) (hD : LD I0 ρ0 I ρ z s zs tl B i n) (e0 : I B (8 * i) = nI K) (hR : ∀ v4, F4 K v4 → RowL (r5 (I B (8 * i)) (I B (8 * i + 1)) (I B (8 * i + 2)) v3 v4))
    (next : ∀ I' ρ' tl', LD I0 ρ0 I' ρ' z s zs tl' B (i + 1) n → Ev xs 121 22 [.ref 0, .int x, .int y, .ref B, .ref (B + 5), .int (nI (i + 1)), .int (nI (8 * i)), .int v7] [] (I', ρ') Q) :
    Ev xs 121 196 [.ref 0, .int x, .int y, .ref B, .ref (B + 5), .int (nI i), .int (nI (8 * i)), .int v7] [.int v3, .int (nI (8 * i + 3)), .ref B] (I, ρ) Q := by
  have hB := hL.1
  have L := hD.L hL
  have hD' := hD.up (f := 3) (v := v3) hB (by decide)
  have go : ∀ v4, F4 K v4 → Ev xs 121 256 [.ref 0, .int x, .int y, .ref B, .ref (B + 5), .int (nI i), .int (nI (8 * i)), .int v7] [.int v4, .int (nI (8 * i + 4)), .ref B] (up2 I B (8 * i + 3) v3, ρ) Q := fun v4 h4 => ld_256 hL hi hD' (by
    rw [up2_ne (by omega), up2_ne (by omega), up2_ne (by omega), up2_at]; exact hR v4 h4) next
  apply w_L_load_196
  by_cases k0 : K = 0
  · subst k0
    simp (disch := omega) only [gl_0 L, cond_true, cond_false, idx_nI, setI_def, mI_def, up2_ne, e0, icB_ne, not_true_eq_false, decide_false, nI_add]
    rw [l_at (by decide) (by decide), QI_i]
    exact go _ (F4_num (atF_lt (by decide)))
  by_cases k3 : 3 ≤ K
  · simp (disch := omega) only [gl_0 L, cond_true, cond_false, idx_nI, setI_def, mI_def, up2_ne, e0, icB_ne, icB_ge, nI_eqI, k0, k3, not_false_eq_true, decide_true, nI_add]
    rw [l_at (by decide) (by decide), QI_i]
    exact go _ ⟨fun q => absurd q k0, fun _ q => by omega, fun _ => ⟨_, atF_lt (by decide), rfl⟩⟩
  · simp (disch := omega) only [gl_0 L, cond_true, cond_false, idx_nI, setI_def, mI_def, up2_ne, e0, icB_ne, icB_ge, nI_eqI, k0, k3, not_false_eq_true, decide_true, decide_false, nI_add]
    exact go _ ⟨fun q => absurd q k0, fun _ _ => rfl, fun q => absurd q k3⟩
theorem ld_158 {K : Nat} {v2 : Int32} (hL : LB B ρ0) (hi : i < 7) (hK : K < 5) (hD : LD I0 ρ0 I ρ z s zs tl B i n) (e0 : I B (8 * i) = nI K) (hR : ∀ v3 v4, F3 K v3 → F4 K v4 → RowL (r5 (I B (8 * i)) (I B (8 * i + 1)) v2 v3 v4))
    (next : ∀ I' ρ' tl', LD I0 ρ0 I' ρ' z s zs tl' B (i + 1) n → Ev xs 121 22 [.ref 0, .int x, .int y, .ref B, .ref (B + 5), .int (nI (i + 1)), .int (nI (8 * i)), .int v7] [] (I', ρ') Q) :
    Ev xs 121 158 [.ref 0, .int x, .int y, .ref B, .ref (B + 5), .int (nI i), .int (nI (8 * i)), .int v7] [.int v2, .int (nI (8 * i + 2)), .ref B] (I, ρ) Q := by
  have hB := hL.1
  have L := hD.L hL
  have hD' := hD.up (f := 2) (v := v2) hB (by decide)
  have go : ∀ v3, F3 K v3 → Ev xs 121 196 [.ref 0, .int x, .int y, .ref B, .ref (B + 5), .int (nI i), .int (nI (8 * i)), .int v7] [.int v3, .int (nI (8 * i + 3)), .ref B] (up2 I B (8 * i + 2) v2, ρ) Q := fun v3 h3 => ld_196 hL hi hK hD' (by rw [up2_ne (by omega)]; exact e0) (fun v4 h4 => by
    rw [up2_ne (by omega), up2_ne (by omega), up2_at]; exact hR v3 v4 h3 h4) next
  apply w_L_load_158
  by_cases k0 : K = 0
  · subst k0
    simp (disch := omega) only [gl_0 L, cond_true, cond_false, idx_nI, setI_def, mI_def, up2_ne, e0, icB_eq, decide_true, nI_add]
    exact go _ ⟨fun _ => rfl, fun q => absurd (Or.inl rfl) q⟩
  by_cases k3 : K = 3
  · subst k3
    simp (disch := omega) only [gl_0 L, cond_true, cond_false, idx_nI, setI_def, mI_def, up2_ne, e0, icB_eq, icB_ne, nI_eqI, k0, not_true_eq_false, decide_false, nI_add]
    exact go _ ⟨fun _ => rfl, fun q => absurd (Or.inr rfl) q⟩
  · simp (disch := omega) only [gl_0 L, cond_true, cond_false, idx_nI, setI_def, mI_def, up2_ne, e0, icB_eq, icB_ne, nI_eqI, k0, k3, not_false_eq_true, decide_true, decide_false, nI_add]
    rw [l_at (by decide) (by decide), QI_i]
    exact go _ ⟨fun q => absurd q (by omega), fun _ => ⟨_, atF_lt (by decide), rfl⟩⟩
theorem ld_128 {K : Nat} {v1 : Int32} (hL : LB B ρ0) (hi : i < 7) (hK : K < 5) (hD : LD I0 ρ0 I ρ z s zs tl B i n) (e0 : I B (8 * i) = nI K) (hR : ∀ v2 v3 v4, F2 K v2 → F3 K v3 → F4 K v4 → RowL (r5 (I B (8 * i)) v1 v2 v3 v4))
    (next : ∀ I' ρ' tl', LD I0 ρ0 I' ρ' z s zs tl' B (i + 1) n → Ev xs 121 22 [.ref 0, .int x, .int y, .ref B, .ref (B + 5), .int (nI (i + 1)), .int (nI (8 * i)), .int v7] [] (I', ρ') Q) :
    Ev xs 121 128 [.ref 0, .int x, .int y, .ref B, .ref (B + 5), .int (nI i), .int (nI (8 * i)), .int v7] [.int v1, .int (nI (8 * i + 1)), .ref B] (I, ρ) Q := by
  have hB := hL.1
  have L := hD.L hL
  have hD' := hD.up (f := 1) (v := v1) hB (by decide)
  have go : ∀ v2, F2 K v2 → Ev xs 121 158 [.ref 0, .int x, .int y, .ref B, .ref (B + 5), .int (nI i), .int (nI (8 * i)), .int v7] [.int v2, .int (nI (8 * i + 2)), .ref B] (up2 I B (8 * i + 1) v1, ρ) Q := fun v2 h2 => ld_158 hL hi hK hD' (by rw [up2_ne (by omega)]; exact e0) (fun v3 v4 h3 h4 => by
    rw [up2_ne (by omega), up2_at]; exact hR v2 v3 v4 h2 h3 h4) next
  apply w_L_load_128
  by_cases k0 : K = 0
  · subst k0
    simp (disch := omega) only [gl_0 L, cond_true, cond_false, idx_nI, setI_def, mI_def, up2_ne, e0, icB_ne, not_true_eq_false, decide_false, nI_add]
    exact go _ ⟨fun _ => rfl, fun q => absurd rfl q⟩
  · simp (disch := omega) only [gl_0 L, cond_true, cond_false, idx_nI, setI_def, mI_def, up2_ne, e0, icB_ne, nI_eqI, k0, not_false_eq_true, decide_true, nI_add]
    rw [l_at (by decide) (by decide), QI_i]
    exact go _ ⟨fun q => absurd q k0, fun _ => ⟨_, atF_lt (by decide), rfl⟩⟩
theorem ld_99 {K : Nat} (hL : LB B ρ0) (hi : i < 7) (hK : K < 5) (hD : LD I0 ρ0 I ρ z s zs tl B i n)
    (next : ∀ I' ρ' tl', LD I0 ρ0 I' ρ' z s zs tl' B (i + 1) n → Ev xs 121 22 [.ref 0, .int x, .int y, .ref B, .ref (B + 5), .int (nI (i + 1)), .int (nI (8 * i)), .int v7] [] (I', ρ') Q) :
    Ev xs 121 99 [.ref 0, .int x, .int y, .ref B, .ref (B + 5), .int (nI i), .int (nI (8 * i)), .int v7] [.int (nI K), .int (nI (8 * i)), .ref B] (I, ρ) Q := by
  have hB := hL.1
  have L := hD.L hL
  have hD' := hD.up (f := 0) (v := nI K) hB (by decide)
  rw [Nat.add_zero] at hD'
  have go : ∀ v1, F1 K v1 → Ev xs 121 128 [.ref 0, .int x, .int y, .ref B, .ref (B + 5), .int (nI i), .int (nI (8 * i)), .int v7] [.int v1, .int (nI (8 * i + 1)), .ref B] (up2 I B (8 * i) (nI K), ρ) Q := fun v1 h1 => ld_128 hL hi hK hD' up2_at (fun v2 v3 v4 h2 h3 h4 => by
    rw [up2_at]; exact F_row hK h1 h2 h3 h4) next
  apply w_L_load_99
  by_cases k4 : K = 4
  · subst k4
    simp (disch := omega) only [gl_0 L, cond_true, cond_false, idx_nI, setI_def, mI_def, up2_at, icB_ne, not_true_eq_false, decide_false, nI_add]
    exact go _ ⟨fun _ => rfl, fun q => absurd rfl q⟩
  · simp (disch := omega) only [gl_0 L, cond_true, cond_false, idx_nI, setI_def, mI_def, up2_at, icB_ne, nI_eqI, k4, not_false_eq_true, decide_true, nI_add]
    rw [l_at (by decide) (by decide), QI_i]
    exact go _ ⟨fun q => absurd q k4, fun _ => ⟨_, atF_lt (by decide), rfl⟩⟩
theorem ld_22 (hL : LB B ρ0) (hn : n ≤ 7) (hend : ∀ I ρ tl v6 v7, LD I0 ρ0 I ρ z s zs tl B n n → Ev xs 121 22 [.ref 0, .int x, .int y, .ref B, .ref (B + 5), .int (nI n), v6, v7] [] (I, ρ) Q) : ∀ {e i : Nat} {I : In2} {ρ : Rh} {tl : Nat × Zt} {v6 v7 : Value}, i + e = n → LD I0 ρ0 I ρ z s zs tl B i n → Ev xs 121 22 [.ref 0, .int x, .int y, .ref B, .ref (B + 5), .int (nI i), v6, v7] [] (I, ρ) Q := by
  intro e
  induction e with
  | zero =>
    intro i I ρ tl v6 v7 hi hD
    obtain rfl : i = n := hi
    exact hend I ρ tl v6 v7 hD
  | succ e ih =>
    intro i I ρ tl v6 v7 hi hD
    have L := hD.L hL
    have h1 := hD.2.2.2.2.1
    have hin : ¬ n ≤ i := by omega
    have go : ∀ K v7, K < 5 → Ev xs 121 99 [.ref 0, .int x, .int y, .ref B, .ref (B + 5), .int (nI i), .int (nI (8 * i)), .int v7] [.int (nI K), .int (nI (8 * i)), .ref B] (I, ρ) Q := fun K v7 hK => ld_99 hL (by omega) hK hD fun I' ρ' tl' hD' => ih (by omega) hD'
    apply w_L_load_22
    simp (disch := omega) only [gl_5 L, cond_true, cond_false, mI_def, idx_nI, h1, icB_ge, hin, decide_false, pk_mul]
    rw [l_at (by decide) (by decide), QI_i]
    have hk := atF_lt (x := x >>> (nI i &&& 31) + nI (3 * i)) (n := 10) (by decide)
    generalize atF (x >>> (nI i &&& 31) + nI (3 * i)) 10 = kk at hk
    by_cases c2 : 2 ≤ kk
    · by_cases c4 : 4 ≤ kk
      · by_cases c5 : kk = 4
        · subst c5
          simp (disch := omega) only [icB_ge, icB_ne, Nat.reduceLeDiff, decide_true, cond_true, cond_false, not_true_eq_false, decide_false]
          exact go 2 _ (by decide)
        · by_cases c7 : 7 ≤ kk
          · simp (disch := omega) only [icB_ge, icB_ne, nI_eqI, c2, c4, c5, c7, decide_true, cond_true, not_false_eq_true]
            exact go 4 _ (by decide)
          · simp (disch := omega) only [icB_ge, icB_ne, nI_eqI, c2, c4, c5, c7, decide_true, decide_false, cond_true, cond_false, not_false_eq_true]
            exact go 3 _ (by decide)
      · simp (disch := omega) only [icB_ge, c2, c4, decide_true, decide_false, cond_true, cond_false]
        exact go 1 _ (by decide)
    · simp (disch := omega) only [icB_ge, c2, decide_false, cond_false]
      exact go 0 _ (by decide)
theorem I_begin0 (hL : LB B ρ) (hn : n ≤ 7) (h1 : I (B + 5) 1 = nI n) (h : ∀ I', (∀ c k, ¬ (B ≤ c ∧ c < B + 6) → I' c k = I c k) → (∀ o k, o < 6 → I' (B + o) k = if o = 0 ∧ k < 8 * n ∧ (k % 8 = 5 ∨ k % 8 = 6) then nI 0 else if o = 5 ∧ (k = 2 ∨ k = 3) then nI 0 else I (B + o) k) → Q (.inl none) (I', ρ)) : Ev xs 115 0 [.ref B, .ref (B + 5), .null] [] (I, ρ) Q := by
  have := l_begin (xs := xs) (I := I) (Q := Q) (d := bl I B) hL hn h1 fun d' hd' => h _ (fun c k hc => pl_ne hc) fun o k ho => by
    rw [pl_at ho, hd']; rfl
  rw [pl_self] at this; exact this
/-- the program stands: both begin it -/
theorem ld_end {a0 b0 n0 : Nat} {v6 v7 : Value} (hL : LB B ρ0) (h1n : 1 ≤ n) (hn : n ≤ 7) (hG : LG (bl I0 B) z a0 b0 n0) (hD : LD I0 ρ0 I ρ z s zs tl B n n)
    (h : ∀ I' ρ' tl', Rw ρ' → ρ'.2 = ρ0.2 → Cst I' ρ' (ldZ tl z) (svN s) (svZ s zs z) tl' → LG (bl I' B) (ldZ tl z) 0 0 n → (∀ c k, 245 ≤ c → ¬ (B ≤ c ∧ c < B + 6) → I' c k = I0 c k) → Q (.inl (some (.int (nI 1)))) (I', ρ')) : Ev xs 121 22 [.ref 0, .int x, .int y, .ref B, .ref (B + 5), .int (nI n), v6, v7] [] (I, ρ) Q := by
  have hB := hL.1
  have L := hD.L hL
  obtain ⟨d1, d2, d3, d4, d5, d6, d7, d8⟩ := hD
  obtain ⟨hF, hK, hw⟩ := d7.fin h1n
  apply w_L_load_22
  simp (disch := omega) only [gl_5 L, cond_true, mI_def, idx_nI, d5, icB_ge, Nat.le_refl, decide_true]
  refine I_begin0 L hn d5 fun I1 f1 f2 => ?_
  have hC1 : Cst I1 ρ z s zs tl := d3.lo (fun c k hc => f1 c k (by omega)) (fun _ => rfl)
  rw [QV_v, gc_O d1, cond_true]
  have hwf : ∀ i, i ≤ txK tl tl.1 → WfR (txW tl (txB tl i) 0) (txW tl (txB tl i) 1) (txW tl (txB tl i) 2) (txW tl (txB tl i) 3) (txW tl (txB tl i) 4) := fun i hi => by
    rw [hw i (by omega) 0 (by decide), hw i (by omega) 1 (by decide), hw i (by omega) 2 (by decide), hw i (by omega) 3 (by decide), hw i (by omega) 4 (by decide)]
    exact (d8 i (by omega)).wf
  refine T_load (I0 := I1) (ρ0 := ρ) ⟨d1, rfl, hC1, fun _ _ _ => rfl⟩ hF (by omega) hwf fun I2 ρ2 hT2 => ?_
  have L2 := hT2.LB L
  obtain ⟨z1, z2, z3⟩ := ldZ_123 (tl := tl) (z := z)
  have e51 : I2 (B + 5) 1 = nI n := by
    rw [hT2.2.2.2 _ _ (by omega), f2 5 1 (by decide), if_neg (by omega), if_neg (by omega)]; exact d5
  rw [QI_i]
  simp (disch := omega) only [gl_5 L2, cond_true, mI_def, idx_nI, e51, hK, icB_ne, not_true_eq_false, decide_false, cond_false]
  refine h I2 ρ2 _ hT2.1 (hT2.2.1.trans d2) hT2.2.2.1 ?_ fun c k hc hne => (hT2.2.2.2 c k hc).trans ((f1 c k hne).trans (d4 c k hc (by omega) (by omega)))
  have hbl : ∀ o k, o < 6 → bl I2 B o k = if o = 0 ∧ k < 8 * n ∧ (k % 8 = 5 ∨ k % 8 = 6) then nI 0 else if o = 5 ∧ (k = 2 ∨ k = 3) then nI 0 else I (B + o) k := fun o k ho => (hT2.2.2.2 _ _ (by omega)).trans (f2 o k ho)
  have hI0 : Inv0 (ldZ tl z) 0 0 n := by
    obtain ⟨⟨a, b, m, cy, hBig, -⟩, -⟩ := hT2.2.2.1
    have hi := hBig.1
    have hb := hi.bnd
    have e3 := hi.h3; have e2 := hi.h2; have e1 := hi.h1
    rw [z3, nI_eqI (by omega) (by omega)] at e3
    rw [z2, nI_eqI (by omega) (by omega)] at e2
    rw [z1, hK, nI_eqI (by omega) (by omega)] at e1
    subst e3; subst e2; subst e1; exact hi
  have hR := hG.2.2.1
  have hrow : ∀ j f, j < n → f < 5 → pt (ldZ tl z) j f = I B (8 * j + f) := fun j f hj hf => by
    rw [ldZ_pt (by omega) (by omega) (by omega), if_pos hf]; exact hw j hj f hf
  refine ⟨hI0, Rdy_00, ⟨fun k hk => ?_, fun k hk => ?_, fun k hk => ?_, fun k hk => ?_, fun j f hj hf => ?_, fun j a1 a2 => by omega⟩, fun j hj hk0 => ?_, hn⟩
  · rw [hbl _ _ (by decide), if_neg (by omega)]
    by_cases c : k = 2 ∨ k = 3
    · rw [if_pos ⟨rfl, c⟩]
      rcases c with rfl | rfl
      · exact z2.symm
      · exact z3.symm
    · rw [if_neg (by omega)]
      by_cases c1 : k = 1
      · rw [c1, z1, hK]; exact d5
      · rw [d4 _ _ (by omega) (by omega) (by omega), ldZ_lo (by omega) c1 (by omega) (by omega)]; exact hR.c hk
  · rw [hbl _ _ (by decide), if_neg (by omega), if_neg (by omega), d4 _ _ (by omega) (by omega) (by omega), ldZ_lo (by omega) (by omega) (by omega) (by omega)]; exact hR.s hk
  · rw [hbl _ _ (by decide), if_neg (by omega), if_neg (by omega), d4 _ _ (by omega) (by omega) (by omega), ldZ_lo (by omega) (by omega) (by omega) (by omega)]; exact hR.reg hk
  · rw [hbl _ _ (by decide), if_neg (by omega), if_neg (by omega), d4 _ _ (by omega) (by omega) (by omega), ldZ_lo (by omega) (by omega) (by omega) (by omega)]; exact hR.mem hk
  · rw [hbl _ _ (by decide)]
    by_cases c : f = 5 ∨ f = 6
    · rw [if_pos (by omega), ldZ_pt (by omega) (by omega) hf, if_neg (by omega)]
    · rw [if_neg (by omega), if_neg (by omega), hrow j f hj (by omega)]; rfl
  · rw [hrow j 4 hj (by decide)]
    rw [hrow j 0 hj (by decide)] at hk0
    have hk0' : I B (8 * j + 0) = nI 0 := hk0
    rcases d8 j hj with ⟨-, -, -, -, hv, -⟩ | ⟨h0, -⟩ | ⟨h0, -⟩ | ⟨h0, -⟩
    · exact hv
    · rcases h0 with h0 | h0 <;> exact absurd (hk0'.symm.trans h0) (by decide)
    · exact absurd (hk0'.symm.trans h0) (by decide)
    · exact absurd (hk0'.symm.trans h0) (by decide)
theorem l_load {a0 b0 n0 : Nat} (hW : Rw ρ) (hC : Cst I ρ z s zs tl) (hL : LB B ρ) (hG : LG (bl I B) z a0 b0 n0)
    (h : ∀ I' ρ' z' tl' n, Rw ρ' → ρ'.2 = ρ.2 → Cst I' ρ' z' (svN s) (svZ s zs z) tl' → LG (bl I' B) z' 0 0 n → z' 0 = z 0 → (∀ c k, 245 ≤ c → ¬ (B ≤ c ∧ c < B + 6) → I' c k = I c k) → Q (.inl (some (.int (nI 1)))) (I', ρ')) : Ev xs 121 0 [.ref 0, .int x, .int y, .ref B, .ref (B + 5), .null, .null, .null] [] (I, ρ) Q := by
  have hB := hL.1
  apply w_L_load_0
  rw [l_at (by decide) (by decide), QI_i, nI_add, gl_5 hL (by decide), cond_true]
  have hk := atF_lt (x := x >>> (nI 9 &&& 31)) (n := 4) (by decide)
  generalize atF (x >>> (nI 9 &&& 31)) 4 = u at hk
  show bif gO (setI _ _ _ _) 0 3 then _ else _
  rw [setI_def, idx_nI (by decide), gc_O hW, cond_true]
  have hC1 : Cst (up2 I (B + 5) 1 (nI (4 + u))) ρ z s zs tl := hC.lo (fun c k hc => up2_ne (by omega)) (fun _ => rfl)
  refine T_clear (I0 := up2 I (B + 5) 1 (nI (4 + u))) (ρ0 := ρ) ⟨hW, rfl, hC1, fun _ _ _ => rfl⟩ fun I1 ρ1 hT1 => ?_
  rw [QI_i]
  have hD : LD I ρ I1 ρ1 z s zs (0, tl.2) B 0 (4 + u) := ⟨hT1.1, hT1.2.1, hT1.2.2.1, fun c k a1 a2 a3 => by rw [hT1.2.2.2 c k a1, up2_ne a3], by rw [hT1.2.2.2 _ _ (by omega), up2_at], fun _ => rfl, TX_0 rfl, fun j hj => absurd hj (Nat.not_lt_zero j)⟩
  exact ld_22 hL (by omega) (fun I2 ρ2 tl2 v6 v7 hD2 => ld_end hL (by omega) (by omega) hG hD2 fun I' ρ' tl' g1 g2 g3 g4 g5 => h I' ρ' _ tl' _ g1 g2 g3 g4 (ldZ_lo (by decide) (by decide) (by decide) (by decide)) g5) (e := 4 + u) (i := 0) (by omega) hD
end LLoad
