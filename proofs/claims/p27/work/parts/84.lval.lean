/-! the law's own arithmetic -/
def atF (x : Int32) (n : Nat) : Nat := x.toUInt32.toNat / 2 % n
theorem atF_lt {x : Int32} {n : Nat} (h : 0 < n) : atF x n < n := Nat.mod_lt _ h
theorem l_at {xs : Scr} {μ : Mem} {Q : Post} {x : Int32} {n : Nat} (h0 : 0 < n) (hn : n < 2147483648) : Ev xs 102 0 [.int x, .int (nI n)] [] μ Q ↔ Q (.inl (some (.int (nI (atF x n))))) μ := by
  apply Ev.dt; intro Q h
  apply w_L_at_0
  have hlt := x.toUInt32.toNat_lt
  have e1 : (x.toUInt32 >>> ((nI 1).toUInt32 &&& Int32.toUInt32 31)).toInt32 = nI (x.toUInt32.toNat / 2) := by
    apply q_u32
    rw [UInt32.toUInt32_toInt32, UInt32.toNat_shiftRight, q_nU (by omega), show ((nI 1).toUInt32 &&& Int32.toUInt32 31).toNat % 32 = 1 by decide, Nat.shiftRight_eq_div_pow]
  rw [e1, pk_rem (by omega) h0 hn, decide_eq_true (not_nI hn (by decide) (by omega)), cond_true]
  exact h
def pvL (v : Int32) : Int32 := if v = mnZ then nI 0 else v
theorem pvL_i (v : Int32) : (pvL v).toInt = vN v := by
  unfold pvL vN
  split <;> rfl
theorem l_plain {xs : Scr} {μ : Mem} {Q : Post} {v : Int32} : Ev xs 104 0 [.int v] [] μ Q ↔ Q (.inl (some (.int (pvL v)))) μ := by
  apply Ev.dt; intro Q h
  apply w_L_plain_0
  unfold pvL mnZ at h
  by_cases e : v = nI 4292967296
  · rw [if_pos e] at h
    rw [icB_ne, decide_eq_false (fun q => q e), cond_false]; exact h
  · rw [if_neg e] at h
    rw [icB_ne, decide_eq_true e, cond_true]; exact h
theorem l_held {xs : Scr} {μ : Mem} {Q : Post} {p : Int64} : Ev xs 105 0 [.long p, .null] [] μ Q ↔ Q (.inl (some (.int (Int32.ofInt (clI p.toInt))))) μ := by
  apply Ev.dt; intro Q h
  apply w_L_held_0
  have h1 : icB .le (lg_cmp p (Int64.ofNat 1000000)) (nI 0) = decide (p.toInt ≤ 1000000) := by
    show decide (lg_cmp p (Int64.ofNat 1000000) ≤ 0) = _
    rw [decide_eq_decide, lg_cmp_le, Int64.le_iff_toInt_le, show (Int64.ofNat 1000000).toInt = 1000000 by decide]
  have h2 : icB .ge (lg_cmp p (Int64.ofNat 18446744073708551616)) (nI 0) = decide (-1000000 ≤ p.toInt) := by
    show decide (0 ≤ lg_cmp p (Int64.ofNat 18446744073708551616)) = _
    rw [decide_eq_decide, lg_cmp_ge, Int64.le_iff_toInt_le, show (Int64.ofNat 18446744073708551616).toInt = -1000000 by decide]
  rw [h1, h2]
  unfold clI at h
  by_cases a1 : 1000000 < p.toInt
  · rw [if_pos a1] at h
    rw [decide_eq_false (by omega), cond_false]; exact h
  · rw [if_neg a1] at h
    rw [decide_eq_true (by omega), cond_true]
    by_cases a2 : p.toInt < -1000000
    · rw [if_pos a2] at h
      rw [decide_eq_false (by omega), cond_false]; exact h
    · rw [if_neg a2] at h
      rw [decide_eq_true (by omega), cond_true]
      have e : p.toInt32 = Int32.ofInt p.toInt := by
        apply Int32.toInt_inj.mp
        rw [ofI_toInt (by omega) (by omega), Int64.toInt_toInt32]
        exact Int.bmod_eq_of_le (by omega) (by omega)
      rw [e]; exact h
theorem lA_sum {x y : Int32} (h1 : -1000000 ≤ x.toInt) (h2 : x.toInt ≤ 1000000) (h3 : -1000000 ≤ y.toInt) (h4 : y.toInt ≤ 1000000) : ((Int64.ofNat 1) * x.toInt64 + y.toInt64).toInt = x.toInt + y.toInt ∧ (((Int64.ofNat 1) * x.toInt64) * y.toInt64).toInt = x.toInt * y.toInt := by
  have e1 : (Int64.ofNat 1 * x.toInt64).toInt = x.toInt := by
    rw [Int64.toInt_mul, Int32.toInt_toInt64, show (Int64.ofNat 1).toInt = 1 by decide, Int.one_mul]
    exact Int.bmod_eq_of_le (by omega) (by omega)
  refine ⟨?_, ?_⟩
  · rw [Int64.toInt_add, e1, Int32.toInt_toInt64]
    exact Int.bmod_eq_of_le (by omega) (by omega)
  · rw [Int64.toInt_mul, e1, Int32.toInt_toInt64]
    have hb : (x.toInt * y.toInt).natAbs ≤ 1000000 * 1000000 := by
      rw [Int.natAbs_mul]; exact Nat.mul_le_mul (by omega) (by omega)
    exact Int.bmod_eq_of_le (by omega) (by omega)
theorem l_add {xs : Scr} {μ : Mem} {Q : Post} {a b p q : Int32} (ha : VV a p) (hb : VV b q) : Ev xs 106 0 [.int a, .int b] [] μ Q ↔ Q (.inl (some (.int (addL a b)))) μ := by
  have b1 := ha.b
  have b2 := hb.b
  rw [← pvL_i] at b1 b2
  apply Ev.dt; intro Q h
  have main : ¬ (a = mnZ ∧ b = mnZ) → Ev xs 106 17 [.int a, .int b] [] μ Q := fun hn => by
    apply w_L_add_17
    rw [l_plain, QI_i, l_plain, QI_i, l_held, QI_i, (lA_sum b1.1 b1.2 b2.1 b2.2).1, pvL_i, pvL_i]
    unfold addL at h
    rw [if_neg hn] at h
    exact h
  apply w_L_add_0
  by_cases e1 : a = mnZ
  · have e1' : a = nI 4292967296 := e1
    rw [icB_ne, decide_eq_false (fun q => q e1'), cond_false]
    by_cases e2 : b = mnZ
    · have e2' : b = nI 4292967296 := e2
      rw [icB_ne, decide_eq_false (fun q => q e2'), cond_false]
      unfold addL at h
      rw [if_pos ⟨e1, e2⟩] at h
      exact h
    · have e2' : ¬ b = nI 4292967296 := e2
      rw [icB_ne, decide_eq_true e2', cond_true]
      exact main fun q => e2 q.2
  · have e1' : ¬ a = nI 4292967296 := e1
    rw [icB_ne, decide_eq_true e1', cond_true]
    exact main fun q => e1 q.1
theorem q_ge0' {x : Int32} : icB .ge x (nI 0) = !decide (x.toInt < 0) := by
  rw [q_ge0]
  by_cases h : x.toInt < 0
  · rw [decide_eq_true h, decide_eq_false (by omega)]; rfl
  · rw [decide_eq_false h, decide_eq_true (by omega)]; rfl
theorem l_mul {xs : Scr} {μ : Mem} {Q : Post} {a b p q : Int32} (ha : VV a p) (hb : VV b q) : Ev xs 107 0 [.int a, .int b, .null] [] μ Q ↔ Q (.inl (some (.int (mulL a b)))) μ := by
  have b1 := ha.b
  have b2 := hb.b
  rw [← pvL_i] at b1 b2
  apply Ev.dt; intro Q h
  apply w_L_mul_0
  rw [l_plain, QI_i, l_plain, QI_i, l_held, QI_i, (lA_sum b1.1 b1.2 b2.1 b2.2).2, pvL_i, pvL_i]
  obtain ⟨c1, c2, c3⟩ := clI_b (vN a * vN b)
  unfold mulL at h
  have e0 : Int32.ofInt (clI (vN a * vN b)) = nI 0 ↔ clI (vN a * vN b) = 0 := by
    constructor
    · intro e
      rw [← ofI_toInt (i := clI (vN a * vN b)) (by omega) (by omega), e]; rfl
    · intro e; rw [e]; rfl
  by_cases hz : clI (vN a * vN b) = 0
  · have hz' := e0.mpr hz
    rw [icB_ne, decide_eq_false (fun q => q hz'), cond_false]
    have hz2 : Int32.ofInt 0 = nI 0 := rfl
    cases sa : decide (a.toInt < 0) <;> cases sb : decide (b.toInt < 0) <;> rw [sa, sb] at h <;> rw [q_ge0', sa] <;>
      (first | rw [Bool.not_false, cond_true] | rw [Bool.not_true, cond_false]) <;>
      (apply w_L_mul_30; rw [q_ge0', sb]) <;>
      (first | rw [Bool.not_false, cond_true] | rw [Bool.not_true, cond_false])
    · rw [if_neg (fun q => q.2 rfl)] at h
      exact h
    · rw [if_pos ⟨hz, by decide⟩] at h
      exact h
    · rw [if_pos ⟨hz, by decide⟩] at h
      exact h
    · rw [if_neg (fun q => q.2 rfl)] at h
      exact h
  · have hz' : ¬ Int32.ofInt (clI (vN a * vN b)) = nI 0 := fun q => hz (e0.mp q)
    rw [icB_ne, decide_eq_true hz', cond_true]
    rw [if_neg (fun q => hz q.1)] at h
    exact h
theorem l_place {xs : Scr} {μ : Mem} {Q : Post} {v w : Int32} {o : Nat} (hv : VV v w) (ho : o < 10) : Ev xs 108 0 [.int v, .int (nI o), .null] [] μ Q ↔ Q (.inl (some (.int (nI (cellF w o))))) μ := by
  have hb := hv.b
  have hc := hv.cell o
  apply Ev.dt; intro Q h
  apply w_L_place_0
  rw [l_plain, QI_i, show decide (¬ nI 16 = nI 0) = true by decide, cond_true]
  have hx : (pvL v + nI o).toInt = vN v + o := by
    rw [Int32.toInt_add, pvL_i, nI_toInt (by omega)]
    exact Int.bmod_eq_of_le (by omega) (by omega)
  have hm := q_fm (x := pvL v + nI o) hx (by omega) (by omega)
  obtain ⟨r, hr⟩ : ∃ r, r = pvL v + nI o - (pvL v + nI o) / nI 16 * nI 16 := ⟨_, rfl⟩
  rw [← hr] at hm ⊢
  have hlt := cellF_lt w o
  have hcI : (nI (cellF w o)).toInt = (vN v + o) % 16 := by
    rw [nI_toInt (by omega), hc]
    omega
  rw [q_ge0']
  by_cases hy : 0 ≤ vN v + o
  · rw [if_pos hy] at hm
    rw [decide_eq_false (by omega), Bool.not_false, cond_true, show r = nI (cellF w o) from Int32.toInt_inj.mp (by omega)]
    exact h
  · rw [if_neg hy] at hm
    by_cases hz : (vN v + o) % 16 = 0
    · rw [if_pos hz] at hm
      rw [decide_eq_false (by omega), Bool.not_false, cond_true, show r = nI (cellF w o) from Int32.toInt_inj.mp (by omega)]
      exact h
    · rw [if_neg hz] at hm
      have e : r + nI 16 = nI (cellF w o) := by
        apply Int32.toInt_inj.mp
        rw [Int32.toInt_add, hm, show (nI 16).toInt = 16 by decide, hcI]
        rw [show (vN v + o) % 16 - 16 + 16 = (vN v + (o : Int)) % 16 by omega]
        exact Int.bmod_eq_of_le (by omega) (by omega)
      rw [decide_eq_true (by omega), Bool.not_true, cond_false, e]
      exact h
/-! the bits of a value -/
theorem s31 : ∀ k : Fin 32, ((nI k.1 &&& 31).toBitVec.smod 32).toNat = k.1 := by decide
theorem shrN {m k : Nat} (hm : m < 2147483648) (hk : k < 32) : nI m >>> (nI k &&& 31) = nI (m / 2 ^ k) := pk_shrN hm _ k (s31 ⟨k, hk⟩)
theorem shlN {m k : Nat} (hk : k < 32) (h : m * 2 ^ k < 4294967296) : nI m <<< (nI k &&& 31) = nI (m * 2 ^ k) := pk_shlN _ k (s31 ⟨k, hk⟩) h
def bsN (m e : Nat) : Nat := (126 + e) * 2 ^ 23 + m * 2 ^ (23 - e)
theorem bs_or {m e : Nat} (h1 : 2 ^ e ≤ m) (h2 : m < 2 ^ (e + 1)) (he : e ≤ 19) : ((nI 127 + nI e) <<< (nI 23 &&& 31)) ||| ((nI m <<< ((nI 23 - nI e) &&& 31)) &&& nI 8388607) = nI (bsN m e) := by
  have hP : 2 ^ e * 2 ^ (23 - e) = 2 ^ 23 := by rw [← Nat.pow_add]; congr 1; omega
  have hP1 : 2 ^ (e + 1) * 2 ^ (23 - e) = 2 ^ 24 := by rw [← Nat.pow_add]; congr 1; omega
  have hp := Nat.two_pow_pos (23 - e)
  have g1 : 2 ^ 23 ≤ m * 2 ^ (23 - e) := by rw [← hP]; exact Nat.mul_le_mul_right _ h1
  have g2 : m * 2 ^ (23 - e) < 2 ^ 24 := by rw [← hP1]; exact Nat.mul_lt_mul_of_pos_right h2 hp
  rw [nI_add, pk_sub (by omega), shlN (by omega) (by omega), shlN (by omega) (by omega)]
  unfold bsN
  generalize m * 2 ^ (23 - e) = c at g1 g2
  have ho := b_or (s := 0) (e := 127 + e) (r := c - 2 ^ 23) (Or.inl rfl) (by omega) (by omega)
  rw [Nat.zero_or, Nat.zero_add] at ho
  apply q_u32
  rw [Int32.toUInt32_or, UInt32.toNat_or, q_nU (by omega), Int32.toUInt32_and, UInt32.toNat_and, q_nU (by omega), q_nU (by decide), q_nU (by omega), show (8388607 : Nat) = 2 ^ 23 - 1 by decide, Nat.and_two_pow_sub_one_eq_mod, show c % 2 ^ 23 = c - 2 ^ 23 by omega, ho]
  omega
theorem bs_int {m e : Nat} (h1 : 2 ^ e ≤ m) (h2 : m < 2 ^ (e + 1)) (he : e ≤ 19) (hm : m ≤ 1000000) : bsN m e ≤ 1232348160 ∧ Jvm.FP.Core.FInt (m : Int) (UInt32.ofNat (bsN m e)) := by
  have hP : 2 ^ e * 2 ^ (23 - e) = 2 ^ 23 := by rw [← Nat.pow_add]; congr 1; omega
  have hP1 : 2 ^ (e + 1) * 2 ^ (23 - e) = 2 ^ 24 := by rw [← Nat.pow_add]; congr 1; omega
  have hp := Nat.two_pow_pos (23 - e)
  have g1 : 2 ^ 23 ≤ m * 2 ^ (23 - e) := by rw [← hP]; exact Nat.mul_le_mul_right _ h1
  have g2 : m * 2 ^ (23 - e) < 2 ^ 24 := by rw [← hP1]; exact Nat.mul_lt_mul_of_pos_right h2 hp
  have hb : bsN m e ≤ 1232348160 := by
    unfold bsN
    by_cases e19 : e = 19
    · subst e19; omega
    · omega
  refine ⟨hb, ?_⟩
  have hn : (UInt32.ofNat (bsN m e)).toNat = bsN m e := by rw [UInt32.toNat_ofNat']; exact Nat.mod_eq_of_lt (by omega)
  unfold Jvm.FP.Core.FInt
  rw [val32_bits (by rw [hn]; exact hb), hn]
  have d1 : bsN m e / 2 ^ 23 = 127 + e := by unfold bsN; omega
  have d2 : bsN m e % 2 ^ 23 = m * 2 ^ (23 - e) - 2 ^ 23 := by unfold bsN; omega
  have c1 : fC (bsN m e) = m * 2 ^ (23 - e) := by unfold fC; rw [d1, if_neg (by omega), d2]; omega
  have c2 : fH (bsN m e) = 23 - e := by unfold fH; rw [d1, if_neg (by omega)]; omega
  rw [c1, c2]
  show Jvm.FP.Core.signed false (m * 2 ^ (23 - e) * 2 ^ (-((23 - e : Nat) : Int)).toNat) = (m : Int) * ((2 ^ (- -((23 - e : Nat) : Int)).toNat : Nat) : Int)
  rw [show (-((23 - e : Nat) : Int)).toNat = 0 by omega, show (- -((23 - e : Nat) : Int)).toNat = 23 - e by omega, Nat.pow_zero, Nat.mul_one]
  exact Int.natCast_mul _ _
theorem l_bits28 {xs : Scr} {μ : Mem} {v w : Int32} {m : Nat} (hv : VV v w) (h0 : v.toInt.natAbs = m) (hm : 0 < m) (hne : ¬ v = mnZ) : ∀ {k e : Nat} {v3 : Value} {Q : Post}, e + k = 19 → 2 ^ e ≤ m → Q (.inl (some (.int w))) μ → Ev xs 103 28 [.int v, .int (nI m), .int (nI e), v3] [] μ Q := by
  have hb := hv.b
  rw [vN_ne hne] at hb
  have hm6 : m ≤ 1000000 := by omega
  have fin : ∀ {e : Nat} {v3 : Value} {Q : Post}, e ≤ 19 → 2 ^ e ≤ m → m < 2 ^ (e + 1) → Q (.inl (some (.int w))) μ → Ev xs 103 28 [.int v, .int (nI m), .int (nI e), v3] [] μ Q := by
    intro e v3 Q he h1 h2 h
    obtain ⟨n1, n2⟩ := bs_int h1 h2 he hm6
    have hd : m / 2 ^ (e + 1) = 0 := Nat.div_eq_of_lt h2
    apply w_L_bits_28
    rw [nI_add, shrN (by omega) (by omega), hd, show icB .le (nI 0) (nI 0) = true by decide, cond_true, bs_or h1 h2 he, q_ge0']
    have hnU : (UInt32.ofNat (bsN m e)).toNat = bsN m e := by rw [UInt32.toNat_ofNat']; exact Nat.mod_eq_of_lt (by omega)
    by_cases hs : v.toInt < 0
    · rw [decide_eq_true hs, Bool.not_true, cond_false]
      have hf := Jvm.FP.Core.fneg_int n2
      rw [fneg_bits (by rw [hnU]; exact n1), show -(m : Int) = v.toInt by omega] at hf
      have hV : VV v (nI (bsN m e) ||| nI 2147483648) := Or.inr ⟨by omega, by omega, by rw [Int32.toUInt32_or]; exact hf, fun h => by rw [h] at hs; exact absurd hs (by decide)⟩
      rw [hV.det hv]; exact h
    · rw [decide_eq_false hs, Bool.not_false, cond_true]
      rw [show (m : Int) = v.toInt by omega] at n2
      have hV : VV v (nI (bsN m e)) := Or.inr ⟨by omega, by omega, n2, fun h => by rw [h] at h0; exact absurd h0 (by show ¬ 0 = m; omega)⟩
      rw [hV.det hv]; exact h
  intro k
  induction k with
  | zero =>
    intro e v3 Q he h1 h
    obtain rfl : e = 19 := by omega
    exact fin (by decide) h1 (by omega) h
  | succ k ih =>
    intro e v3 Q he h1 h
    by_cases h2 : m < 2 ^ (e + 1)
    · exact fin (by omega) h1 h2 h
    · have hd : 0 < m / 2 ^ (e + 1) := Nat.div_pos (by omega) (Nat.two_pow_pos _)
      have hd2 : m / 2 ^ (e + 1) ≤ m := Nat.div_le_self _ _
      apply w_L_bits_28
      rw [nI_add, shrN (by omega) (by omega), icB_le (by omega) (by decide), decide_eq_false (by omega), cond_false]
      exact ih (by omega) (by omega) h
theorem l_bits {xs : Scr} {μ : Mem} {Q : Post} {v w : Int32} (hv : VV v w) : Ev xs 103 0 [.int v, .null, .null, .null] [] μ Q ↔ Q (.inl (some (.int w))) μ := by
  have hb := hv.b
  apply Ev.dt; intro Q h
  apply w_L_bits_0
  by_cases h0 : v = nI 0
  · rw [icB_ne, decide_eq_false (fun q => q h0), cond_false]
    rw [h0] at hv
    rw [hv.det VV_0] at h; exact h
  · rw [icB_ne, decide_eq_true h0, cond_true]
    by_cases hm : v = mnZ
    · have hm' : v = nI 4292967296 := hm
      rw [icB_ne, decide_eq_false (fun q => q hm'), cond_false]
      rw [hm] at hv
      rw [hv.det (Or.inl ⟨rfl, rfl⟩)] at h; exact h
    · have hm' : ¬ v = nI 4292967296 := hm
      rw [icB_ne, decide_eq_true hm', cond_true, q_ge0']
      rw [vN_ne hm] at hb
      have hne : v.toInt ≠ 0 := fun e => h0 (Int32.toInt.inj (by rw [e]; rfl))
      by_cases hs : v.toInt < 0
      · rw [decide_eq_true hs, Bool.not_true, cond_false]
        have e : -v = nI v.toInt.natAbs := by
          apply Int32.toInt_inj.mp
          rw [Int32.toInt_neg, nI_toInt (by omega), Int.bmod_eq_of_le (by omega) (by omega)]
          omega
        rw [e]
        exact l_bits28 hv rfl (by omega) hm (k := 19) (e := 0) (by decide) (by show 1 ≤ _; omega) h
      · rw [decide_eq_false hs, Bool.not_false, cond_true]
        have e : v = nI v.toInt.natAbs := by
          apply Int32.toInt_inj.mp
          rw [nI_toInt (by omega)]
          omega
        have := l_bits28 (xs := xs) (μ := μ) (Q := Q) (v3 := .null) hv rfl (by omega) hm (k := 19) (e := 0) (by decide) (by show 1 ≤ _; omega) h
        rw [← e] at this
        exact this
