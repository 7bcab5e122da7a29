/-! the pure side: memory of ints over fixed references -/
abbrev Rh : Type := (Nat → Nat → Option Nat) × (Nat → Nat → Int64) × Nat × Nat
abbrev In2 : Type := Nat → Nat → Int32
abbrev Zt : Type := Nat → Int32
/-- where a machine may lie -/
def Bs (m : Nat) : Prop := m = 1 ∨ m = 31 ∨ m = 62 ∨ m = 92 ∨ m = 122 ∨ m = 152 ∨ m = 182 ∨ m = 212
/-- the fixed references -/
def Rw (ρ : Rh) : Prop := 245 ≤ ρ.2.2.1 ∧ (ρ.1 0 0 = some 1 ∧ ρ.1 0 1 = some 31 ∧ ρ.1 0 2 = some 61 ∧ ρ.1 0 3 = some 242 ∧ ρ.1 0 4 = some 244) ∧ ρ.1 242 0 = some 243 ∧ True ∧ (∀ m, Bs m → (∀ k, k < 5 → ρ.1 m k = some (m + (1 + k))) ∧ ∀ i, i < 24 → ρ.1 (m + 1) i = some (m + (6 + i)))
/-- the model's numbers -/
def pz (I : In2) (z : Zt) : In2 := fun a k => if a = 246 then z k else I a k
/-- a machine's numbers -/
def pc (I : In2) (m : Nat) (c : In2) : In2 := fun a k => if m ≤ a ∧ a < m + 30 then c (a - m) k else I a k
def uz (z : Zt) (k : Nat) (v : Int32) : Zt := fun j => if j = k then v else z j
def pt (z : Zt) (i f : Nat) : Int32 := z (36 + 12 * i + f)
def lay (z : Zt) (i f : Nat) (v : Int32) : Zt := uz z (36 + 12 * i + f) v
theorem idx_nI {k : Nat} (h : k < 2147483648) : idx (nI k) = k := nI_clamp h
theorem icB_lt {a b : Nat} (ha : a < 2147483648) (hb : b < 2147483648) : icB .lt (nI a) (nI b) = decide (a < b) := by
  show decide (nI a < nI b) = decide (a < b)
  rw [decide_eq_decide]; exact nI_ltI ha hb
theorem icB_gt {a b : Nat} (ha : a < 2147483648) (hb : b < 2147483648) : icB .gt (nI a) (nI b) = decide (b < a) := by
  show decide (nI b < nI a) = decide (b < a)
  rw [decide_eq_decide]; exact nI_ltI hb ha
theorem icB_le {a b : Nat} (ha : a < 2147483648) (hb : b < 2147483648) : icB .le (nI a) (nI b) = decide (a ≤ b) := by
  show decide (nI a ≤ nI b) = decide (a ≤ b)
  rw [decide_eq_decide]; exact nI_leI ha hb
theorem icB_ge {a b : Nat} (ha : a < 2147483648) (hb : b < 2147483648) : icB .ge (nI a) (nI b) = decide (b ≤ a) := by
  show decide (nI b ≤ nI a) = decide (b ≤ a)
  rw [decide_eq_decide]; exact nI_leI hb ha
theorem icB_eq {x y : Int32} : icB .eq x y = decide (x = y) := rfl
theorem icB_ne {x y : Int32} : icB .ne x y = decide (¬ x = y) := rfl
theorem nI_eqI {a b : Nat} (ha : a < 2147483648) (hb : b < 2147483648) : (nI a = nI b) = (a = b) := propext (nI_eq ha hb)
theorem nM_ne {a : Nat} (ha : a < 2147483648) : ¬ nI a = nM := by
  intro h
  have h1 := congrArg Int32.toInt h
  rw [nI_toInt ha] at h1
  have h2 : nM.toInt = -1 := by decide
  omega
theorem nM_ne' {a : Nat} (ha : a < 2147483648) : (nI a = nM) = False := eq_false (nM_ne ha)
theorem icB_lt_M {a : Nat} (ha : a < 2147483648) : icB .lt nM (nI a) = true := by
  show decide (nM < nI a) = true
  rw [decide_eq_true_iff, Int32.lt_iff_toInt_lt, nI_toInt ha, show nM.toInt = -1 from by decide]
  omega
theorem icB_ge_M {a : Nat} (ha : a < 2147483648) : icB .ge nM (nI a) = false := by
  show decide (nI a ≤ nM) = false
  rw [decide_eq_false_iff_not, Int32.le_iff_toInt_le, nI_toInt ha, show nM.toInt = -1 from by decide]
  omega
theorem nI_sub1 (a : Nat) : nI (a + 1) - nI 1 = nI a := by rw [pk_sub (Nat.le_add_left 1 a), Nat.add_sub_cancel]
theorem nI_sub1' (a : Nat) : nI (a + 1) + nM = nI a := by
  rw [show nM = -1 from by decide]; exact pk_m1 a
theorem nI_M : nI 0 - nI 1 = nM := by decide
theorem nI_M' : nI 0 + nM = nM := by decide
/-! the guards -/
theorem setI_def {I : In2} {ρ : Rh} {a k : Nat} {v : Int32} : setI (I, ρ) a k v = (up2 I a k v, ρ) := rfl
theorem mI_def {I : In2} {ρ : Rh} {a k : Nat} : mI (I, ρ) a k = I a k := rfl
theorem up2_pz {I : In2} {z : Zt} {k : Nat} {v : Int32} : up2 (pz I z) 246 k v = pz I (uz z k v) := by
  funext b j
  unfold up2 pz uz
  by_cases h : b = 246
  · simp [h]
  · simp [h]
theorem up2_pc {I c : In2} {m o k : Nat} {v : Int32} (ho : o < 30) : up2 (pc I m c) (m + o) k v = pc I m (up2 c o k v) := by
  funext b j
  unfold up2 pc
  by_cases h : b = m + o
  · subst h; simp [ho]
  · by_cases hb : m ≤ b ∧ b < m + 30
    · have : b - m ≠ o := by omega
      simp [h, hb, this]
    · simp [h, hb]
theorem up2_pc0 {I c : In2} {m k : Nat} {v : Int32} : up2 (pc I m c) m k v = pc I m (up2 c 0 k v) := up2_pc (o := 0) (by decide)
theorem pz_at {I : In2} {z : Zt} {k : Nat} : pz I z 246 k = z k := rfl
theorem pz_ne {I : In2} {z : Zt} {a k : Nat} (h : ¬ a = 246) : pz I z a k = I a k := if_neg h
theorem pz_pz {I : In2} {z z' : Zt} : pz (pz I z) z' = pz I z' := by
  funext b j; unfold pz; split <;> rfl
theorem pz_self {I : In2} : pz I (I 246) = I := by
  funext b j; unfold pz; split
  · rename_i h; rw [h]
  · rfl
theorem pc_at {I c : In2} {m o k : Nat} (ho : o < 30) : pc I m c (m + o) k = c o k := by
  unfold pc; rw [if_pos (by omega), Nat.add_sub_cancel_left]
theorem pc_at0 {I c : In2} {m k : Nat} : pc I m c m k = c 0 k := pc_at (o := 0) (by decide)
theorem pc_ne {I c : In2} {m a k : Nat} (h : ¬ (m ≤ a ∧ a < m + 30)) : pc I m c a k = I a k := if_neg h
theorem pc_pc {I c c' : In2} {m : Nat} : pc (pc I m c) m c' = pc I m c' := by
  funext b j; unfold pc; split <;> rfl
/-- the numbers of a machine, out of the memory -/
def bk (I : In2) (m : Nat) : In2 := fun o k => I (m + o) k
theorem pc_self {I : In2} {m : Nat} : pc I m (bk I m) = I := by
  funext b j; unfold pc bk; split
  · rename_i h; rw [Nat.add_sub_cancel' h.1]
  · rfl
theorem bk_pc {I c : In2} {m o k : Nat} (ho : o < 30) : bk (pc I m c) m o k = c o k := pc_at ho
theorem uz_at {z : Zt} {k : Nat} {v : Int32} : uz z k v k = v := if_pos rfl
theorem uz_ne {z : Zt} {k j : Nat} {v : Int32} (h : ¬ j = k) : uz z k v j = z j := if_neg h
theorem pt_lay {z : Zt} {i j f g : Nat} {v : Int32} (hf : f < 12) (hg : g < 12) : pt (lay z i f v) j g = if j = i ∧ g = f then v else pt z j g := by
  unfold pt lay uz
  by_cases h : j = i ∧ g = f
  · rw [if_pos h, if_pos (by omega)]
  · rw [if_neg h, if_neg (by omega)]
theorem pt_le {z : Zt} {i f : Nat} {v : Int32} : pt (lay z i f v) i f = v := if_pos rfl
theorem pt_ln {z : Zt} {i j f g : Nat} {v : Int32} (h : ¬ g = f ∧ f < 12 ∧ g < 12) : pt (lay z i f v) j g = pt z j g := by
  rw [pt_lay h.2.1 h.2.2, if_neg (fun e => h.1 e.2)]
theorem pt_lj {z : Zt} {i j f g : Nat} {v : Int32} (h : ¬ j = i ∧ f < 12 ∧ g < 12) : pt (lay z i f v) j g = pt z j g := by
  rw [pt_lay h.2.1 h.2.2, if_neg (fun e => h.1 e.1)]
theorem lay_lo {z : Zt} {i f k : Nat} {v : Int32} (hk : k < 36) : lay z i f v k = z k := if_neg (by omega)
theorem pt_uz {z : Zt} {i f k : Nat} {v : Int32} (hk : k < 36) : pt (uz z k v) i f = pt z i f := if_neg (by omega)
theorem mR_def {I : In2} {ρ : Rh} {a k : Nat} : mR (I, ρ) a k = ρ.1 a k := rfl
theorem mN_def {I : In2} {ρ : Rh} : mN (I, ρ) = ρ.2.2.1 := rfl
theorem gO_of {I : In2} {ρ : Rh} (hW : Rw ρ) {a ci : Nat} (ha : a < 245) (hs : (shp a).1 = ci) : gO (I, ρ) a ci = true := by
  unfold gO
  rw [mN_def, Bool.and_eq_true, Nat.blt_eq]
  exact ⟨Nat.lt_of_lt_of_le ha hW.1, Nat.beq_eq.mpr hs⟩
/-- the guard of an array that is there -/
theorem gA_ge {I : In2} {ρ : Rh} {a kd k n : Nat} (ha : a < ρ.2.2.1) (hs : shp a = (kd, n)) (hn : n < 2147483648) (hk : k < n) : gA (I, ρ) a kd (nI k) = true := by
  unfold gA
  rw [mN_def, hs, show Nat.blt a ρ.2.2.1 = true from Nat.blt_eq.mpr ha, show Nat.beq (kd, n).1 kd = true from Nat.beq_eq.mpr rfl, Bool.true_and, Bool.true_and]
  refine decide_eq_true ?_
  rw [nI_toInt (by omega)]
  exact ⟨by omega, by exact_mod_cast hk⟩
theorem gA_of {I : In2} {ρ : Rh} (hW : Rw ρ) {a kd k n : Nat} (ha : a < 245) (hs : shp a = (kd, n)) (hn : n < 2147483648) : gA (I, ρ) a kd (nI k) = decide (k % 4294967296 < n) := by
  unfold gA
  rw [mN_def, hs]
  rw [show Nat.blt a ρ.2.2.1 = true from Nat.blt_eq.mpr (Nat.lt_of_lt_of_le ha hW.1), show Nat.beq (kd, n).1 kd = true from Nat.beq_eq.mpr rfl, Bool.true_and, Bool.true_and, decide_eq_decide]
  have hm : k % 4294967296 < 4294967296 := Nat.mod_lt _ (by decide)
  have he : nI k = nI (k % 4294967296) := by
    show Int32.ofNat k = Int32.ofNat (k % 4294967296)
    apply Int32.toBitVec_inj.mp
    apply BitVec.eq_of_toNat_eq
    show (BitVec.ofNat 32 k).toNat = (BitVec.ofNat 32 (k % 4294967296)).toNat
    rw [BitVec.toNat_ofNat, BitVec.toNat_ofNat]
    omega
  rw [he]
  generalize k % 4294967296 = j at hm
  by_cases hj : j < 2147483648
  · rw [nI_toInt hj]
    constructor
    · rintro ⟨-, h⟩; exact_mod_cast h
    · intro h; exact ⟨by omega, by exact_mod_cast h⟩
  · constructor
    · rintro ⟨h, -⟩
      exfalso
      have : (nI j).toInt < 0 := by
        show (Int32.ofNat j).toInt < 0
        rw [Int32.toInt_ofNat']
        rw [Int.bmod_def]
        have hz : Int32.size = 4294967296 := rfl
        rw [hz]
        omega
      omega
    · intro h; omega
theorem gA_in {I : In2} {ρ : Rh} (hW : Rw ρ) {a kd k n : Nat} (ha : a < 245) (hs : shp a = (kd, n)) (hn : n < 2147483648) (hk : k < n) : gA (I, ρ) a kd (nI k) = true := by
  rw [gA_of hW ha hs hn, Nat.mod_eq_of_lt (by omega)]
  exact decide_eq_true hk
theorem gR_some {a : Nat} : gR (some a) = true := rfl
theorem Bs_lt {m : Nat} (h : Bs m) : m + 30 ≤ 242 := by
  rcases h with h | h | h | h | h | h | h | h <;> omega
theorem Bs_0 {m : Nat} (h : Bs m) : 1 ≤ m := by
  rcases h with h | h | h | h | h | h | h | h <;> omega
theorem Bs_shp {m : Nat} (h : Bs m) : shp m = (1, 14) ∧ shp (m + 1) = (7, 24) ∧ shp (m + 2) = (0, 14) ∧ shp (m + 3) = (6, 8) ∧ shp (m + 4) = (6, 16) ∧ shp (m + 5) = (6, 3) ∧ ∀ i, i < 24 → shp (m + (6 + i)) = (0, 14) := by
  rcases h with h | h | h | h | h | h | h | h <;> subst h <;> exact ⟨rfl, rfl, rfl, rfl, rfl, rfl, by decide⟩
theorem QI_i {K : Int32 → Mem → Prop} {X : Nat → Mem → Prop} {x : Int32} {μ : Mem} : QI K X (.inl (some (.int x))) μ = K x μ := rfl
theorem QV_v {K : Mem → Prop} {X : Nat → Mem → Prop} {μ : Mem} : QV K X (.inl none) μ = K μ := rfl
theorem QA_a {K : Nat → Mem → Prop} {X : Nat → Mem → Prop} {x : Nat} {μ : Mem} : QA K X (.inl (some (.ref x))) μ = K x μ := rfl
theorem QF_f {K : UInt32 → Mem → Prop} {X : Nat → Mem → Prop} {x : UInt32} {μ : Mem} : QF K X (.inl (some (.float x))) μ = K x μ := rfl
theorem QD_d {K : UInt64 → Mem → Prop} {X : Nat → Mem → Prop} {x : UInt64} {μ : Mem} : QD K X (.inl (some (.double x))) μ = K x μ := rfl
theorem QL_l {K : Int64 → Mem → Prop} {X : Nat → Mem → Prop} {x : Int64} {μ : Mem} : QL K X (.inl (some (.long x))) μ = K x μ := rfl
theorem QI_e {K : Int32 → Mem → Prop} {X : Nat → Mem → Prop} {E : Nat} {μ : Mem} : QI K X (.inr E) μ = X E μ := rfl
theorem QV_e {K : Mem → Prop} {X : Nat → Mem → Prop} {E : Nat} {μ : Mem} : QV K X (.inr E) μ = X E μ := rfl
theorem QA_e {K : Nat → Mem → Prop} {X : Nat → Mem → Prop} {E : Nat} {μ : Mem} : QA K X (.inr E) μ = X E μ := rfl
theorem Ev.dt {xs : Scr} {m pc : Nat} {L st : List Value} {μ μ' : Mem} {o : Out} (h : ∀ Q : Post, Q o μ' → Ev xs m pc L st μ Q) {Q : Post} : Ev xs m pc L st μ Q ↔ Q o μ' := Ev.det (h _ ⟨rfl, rfl⟩) Q
/-! the model's guards -/
/-! a machine's guards -/
theorem gm_O {I : In2} {ρ : Rh} {m : Nat} (hW : Rw ρ) (hB : Bs m) : gO (I, ρ) m 1 = true := gO_of hW (by have := Bs_lt hB; omega) (by rw [(Bs_shp hB).1])
theorem gm_N {I : In2} {ρ : Rh} {m : Nat} (hW : Rw ρ) (hB : Bs m) : gO (I, ρ) (m + 2) 0 = true := gO_of hW (by have := Bs_lt hB; omega) (by rw [(Bs_shp hB).2.2.1])
theorem gm_P {I : In2} {ρ : Rh} {m i : Nat} (hW : Rw ρ) (hB : Bs m) (hi : i < 24) : gO (I, ρ) (m + (6 + i)) 0 = true := gO_of hW (by have := Bs_lt hB; omega) (by rw [(Bs_shp hB).2.2.2.2.2.2 i hi])
theorem gm_R {ρ : Rh} {m i : Nat} (hW : Rw ρ) (hB : Bs m) (hi : i < 24) : ρ.1 (m + 1) i = some (m + (6 + i)) := (hW.2.2.2.2 m hB).2 i hi
theorem gm_0 {ρ : Rh} {m : Nat} (hW : Rw ρ) (hB : Bs m) : ρ.1 m 0 = some (m + 1) := (hW.2.2.2.2 m hB).1 0 (by decide)
theorem gm_1 {ρ : Rh} {m : Nat} (hW : Rw ρ) (hB : Bs m) : ρ.1 m 1 = some (m + 2) := (hW.2.2.2.2 m hB).1 1 (by decide)
theorem gm_2 {ρ : Rh} {m : Nat} (hW : Rw ρ) (hB : Bs m) : ρ.1 m 2 = some (m + 3) := (hW.2.2.2.2 m hB).1 2 (by decide)
theorem gm_3 {ρ : Rh} {m : Nat} (hW : Rw ρ) (hB : Bs m) : ρ.1 m 3 = some (m + 4) := (hW.2.2.2.2 m hB).1 3 (by decide)
theorem gm_4 {ρ : Rh} {m : Nat} (hW : Rw ρ) (hB : Bs m) : ρ.1 m 4 = some (m + 5) := (hW.2.2.2.2 m hB).1 4 (by decide)
theorem gm_A {I : In2} {ρ : Rh} {m k : Nat} (hW : Rw ρ) (hB : Bs m) (hk : k < 24) : gA (I, ρ) (m + 1) 7 (nI k) = true := gA_in hW (by have := Bs_lt hB; omega) (Bs_shp hB).2.1 (by decide) hk
theorem gm_B {I : In2} {ρ : Rh} {m k : Nat} (hW : Rw ρ) (hB : Bs m) (hk : k < 8) : gA (I, ρ) (m + 3) 6 (nI k) = true := gA_in hW (by have := Bs_lt hB; omega) (Bs_shp hB).2.2.2.1 (by decide) hk
theorem gm_C {I : In2} {ρ : Rh} {m k : Nat} (hW : Rw ρ) (hB : Bs m) (hk : k < 16) : gA (I, ρ) (m + 4) 6 (nI k) = true := gA_in hW (by have := Bs_lt hB; omega) (Bs_shp hB).2.2.2.2.1 (by decide) hk
theorem gm_D {I : In2} {ρ : Rh} {m k : Nat} (hW : Rw ρ) (hB : Bs m) (hk : k < 3) : gA (I, ρ) (m + 5) 6 (nI k) = true := gA_in hW (by have := Bs_lt hB; omega) (Bs_shp hB).2.2.2.2.2.1 (by decide) hk
theorem gm_L {I : In2} {ρ : Rh} {m o : Nat} (hW : Rw ρ) (hB : Bs m) (h1 : 1 ≤ o) (h2 : o ≤ 5) (h3 : ¬ o = 2) : (Nat.blt (m + o) (mN (I, ρ)) && (Nat.ble 5 (shp (m + o)).1 && Nat.ble (shp (m + o)).1 9)) = true := by
  have hl := Bs_lt hB
  obtain ⟨-, s1, -, s3, s4, s5, -⟩ := Bs_shp hB
  rw [mN_def, show Nat.blt (m + o) ρ.2.2.1 = true from Nat.blt_eq.mpr (by have := hW.1; omega), Bool.true_and]
  match o, h1, h2, h3 with
  | 1, _, _, _ => rw [s1]; rfl
  | 2, _, _, h => exact absurd rfl h
  | 3, _, _, _ => rw [s3]; rfl
  | 4, _, _, _ => rw [s4]; rfl
  | 5, _, _, _ => rw [s5]; rfl
theorem gm_l1 {m : Nat} (hB : Bs m) : (shp (m + 1)).2 = 24 := by rw [(Bs_shp hB).2.1]
theorem gm_l3 {m : Nat} (hB : Bs m) : (shp (m + 3)).2 = 8 := by rw [(Bs_shp hB).2.2.2.1]
theorem gm_l4 {m : Nat} (hB : Bs m) : (shp (m + 4)).2 = 16 := by rw [(Bs_shp hB).2.2.2.2.1]
theorem gm_l5 {m : Nat} (hB : Bs m) : (shp (m + 5)).2 = 3 := by rw [(Bs_shp hB).2.2.2.2.2.1]
/-! searching -/
def lat (P : Nat → Bool) (lo : Nat) : Nat → Option Nat
  | 0 => none
  | k + 1 => if lo ≤ k then (if P k = true then some k else lat P lo k) else none
def oI (r : Option Nat) : Int32 := match r with | none => nM | some k => nI k
def bI (b : Bool) : Int32 := if b = true then nI 1 else nI 0
def anyB (P : Nat → Bool) : Nat → Nat → Bool
  | 0, _ => false
  | n + 1, i => P i || anyB P n (i + 1)
def fstF (P : Nat → Bool) : Nat → Nat → Option Nat
  | 0, _ => none
  | n + 1, i => if P i = true then some i else fstF P n (i + 1)
theorem lat_some {P : Nat → Bool} {lo k : Nat} : ∀ {i : Nat}, lat P lo i = some k → lo ≤ k ∧ k < i ∧ P k = true ∧ ∀ j, k < j → j < i → P j = false := by
  intro i
  induction i with
  | zero => intro h; cases h
  | succ i ih =>
    intro h
    unfold lat at h
    split at h
    · rename_i hl
      split at h
      · rename_i hp
        cases h
        exact ⟨hl, Nat.lt_succ_self _, hp, fun j h1 h2 => by omega⟩
      · rename_i hp
        obtain ⟨h1, h2, h3, h4⟩ := ih h
        refine ⟨h1, by omega, h3, fun j hj1 hj2 => ?_⟩
        by_cases hji : j = i
        · rw [hji]; exact Bool.eq_false_iff.mpr hp
        · exact h4 j hj1 (by omega)
    · cases h
theorem lat_none {P : Nat → Bool} {lo : Nat} : ∀ {i : Nat}, lat P lo i = none → ∀ j, lo ≤ j → j < i → P j = false := by
  intro i
  induction i with
  | zero => intro _ j _ h; omega
  | succ i ih =>
    intro h j h1 h2
    unfold lat at h
    split at h
    · split at h
      · cases h
      · rename_i hp
        by_cases hji : j = i
        · rw [hji]; exact Bool.eq_false_iff.mpr hp
        · exact ih h j h1 (by omega)
    · omega
theorem lat_eq_some {P : Nat → Bool} {lo k i : Nat} (h1 : lo ≤ k) (h2 : k < i) (h3 : P k = true) (h4 : ∀ j, k < j → j < i → P j = false) : lat P lo i = some k := by
  cases h : lat P lo i with
  | none => have := lat_none h k h1 h2; rw [h3] at this; cases this
  | some k' =>
    obtain ⟨a1, a2, a3, a4⟩ := lat_some h
    by_cases hk : k' = k
    · rw [hk]
    · by_cases hlt : k' < k
      · have := a4 k hlt h2; rw [h3] at this; cases this
      · have := h4 k' (by omega) a2; rw [a3] at this; cases this
theorem lat_eq_none {P : Nat → Bool} {lo i : Nat} (h : ∀ j, lo ≤ j → j < i → P j = false) : lat P lo i = none := by
  cases h' : lat P lo i with
  | none => rfl
  | some k =>
    obtain ⟨a1, a2, a3, a4⟩ := lat_some h'
    rw [h k a1 a2] at a3; cases a3
theorem lat_congr {P P' : Nat → Bool} {lo i : Nat} (h : ∀ j, lo ≤ j → j < i → P j = P' j) : lat P lo i = lat P' lo i := by
  cases h' : lat P lo i with
  | none => exact (lat_eq_none fun j h1 h2 => by rw [← h j h1 h2]; exact lat_none h' j h1 h2).symm
  | some k =>
    obtain ⟨a1, a2, a3, a4⟩ := lat_some h'
    exact (lat_eq_some a1 a2 (by rw [← h k a1 a2]; exact a3) fun j h1 h2 => by rw [← h j (by omega) h2]; exact a4 j h1 h2).symm
theorem anyB_congr {P P' : Nat → Bool} : ∀ {n i : Nat}, (∀ j, i ≤ j → j < i + n → P j = P' j) → anyB P n i = anyB P' n i := by
  intro n
  induction n with
  | zero => intro i _; rfl
  | succ n ih => intro i h; unfold anyB; rw [h i (Nat.le_refl _) (by omega), ih fun j h1 h2 => h j (by omega) (by omega)]
theorem fstF_congr {P P' : Nat → Bool} : ∀ {n i : Nat}, (∀ j, i ≤ j → j < i + n → P j = P' j) → fstF P n i = fstF P' n i := by
  intro n
  induction n with
  | zero => intro i _; rfl
  | succ n ih => intro i h; unfold fstF; rw [h i (Nat.le_refl _) (by omega), ih fun j h1 h2 => h j (by omega) (by omega)]
theorem fstF_some {P : Nat → Bool} {k : Nat} : ∀ {n i : Nat}, fstF P n i = some k → i ≤ k ∧ k < i + n ∧ P k = true := by
  intro n
  induction n with
  | zero => intro i h; cases h
  | succ n ih =>
    intro i h
    unfold fstF at h
    split at h
    · rename_i hp; cases h; exact ⟨Nat.le_refl _, by omega, hp⟩
    · obtain ⟨h1, h2, h3⟩ := ih h; exact ⟨by omega, by omega, h3⟩
theorem icB_eq_b {b : Bool} : icB .eq (bI b) (nI 0) = !b := by cases b <;> rfl
theorem icB_ne_b {b : Bool} : icB .ne (bI b) (nI 0) = b := by cases b <;> rfl
theorem bI_ne (b : Bool) : (bI b = nI 0) = (b = false) := by
  cases b
  · simp [bI]
  · simp [bI]; decide
theorem bI_t : bI true = nI 1 := rfl
theorem bI_f : bI false = nI 0 := rfl
theorem oI_none : oI none = nM := rfl
theorem oI_some {k : Nat} : oI (some k) = nI k := rfl

