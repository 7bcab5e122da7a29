/-! the bits out of a float -/
def bR (v2 : Int32) (n : Nat) : Int32 := if 2 ^ 23 ≤ fC n then (v2 ||| ((nI 150 - nI (fH n)) <<< (nI 23 &&& 31))) ||| (nI (fC n) &&& nI 8388607) else v2 ||| nI (fC n)
theorem b_sh : ∀ e : Fin 147, nI e.1 <<< (nI 23 &&& 31) = nI (e.1 * 2 ^ 23) := by decide +kernel
theorem b_s {e : Nat} (h : e < 147) : nI e <<< (nI 23 &&& 31) = nI (e * 2 ^ 23) := b_sh ⟨e, h⟩
theorem b_or {s e r : Nat} (hs : s = 0 ∨ s = 2 ^ 31) (he : e ≤ 146) (hr : r < 2 ^ 23) : s ||| (e * 2 ^ 23) ||| r = s + (e * 2 ^ 23 + r) := by
  have h1 : e * 2 ^ 23 ||| r = e * 2 ^ 23 + r := by
    rw [Nat.mul_comm]; exact (Nat.two_pow_add_eq_or_of_lt hr e).symm
  rw [Nat.or_assoc, h1]
  rcases hs with h | h
  · rw [h, Nat.zero_or, Nat.zero_add]
  · rw [h, Nat.or_comm, Nat.or_two_pow_eq_add_of_lt (show e * 2 ^ 23 + r < 2 ^ 31 by omega), Nat.add_comm]
theorem bR_bits {n s : Nat} (hn : n ≤ 1232348160) (hs : s = 0 ∨ s = 2 ^ 31) : bR (nI s) n = nI (s + n) := by
  have hc := fC_lt n
  have hH := fH_b hn
  have hb := f_bits hn
  have hl : s < 4294967296 := by omega
  unfold bR
  by_cases h : 2 ^ 23 ≤ fC n
  · rw [if_neg (by omega)] at hb
    have hH2 : 150 - fH n ≤ 146 := by omega
    rw [if_pos h, pk_sub (show fH n ≤ 150 by omega), b_s (e := 150 - fH n) (by omega)]
    apply q_u32
    rw [Int32.toUInt32_or, UInt32.toNat_or, Int32.toUInt32_or, UInt32.toNat_or, Int32.toUInt32_and, UInt32.toNat_and, q_nU hl, q_nU (by omega), q_nU (by omega), q_nU (by decide), q_nU (by omega), show (8388607 : Nat) = 2 ^ 23 - 1 by decide, Nat.and_two_pow_sub_one_eq_mod, b_or hs hH2 (Nat.mod_lt _ (by decide))]
    omega
  · rw [if_pos (by omega)] at hb
    rw [if_neg h]
    apply q_u32
    rw [Int32.toUInt32_or, UInt32.toNat_or, q_nU hl, q_nU (by omega), q_nU (by omega)]
    have := b_or (e := 0) hs (by decide) (show fC n < 2 ^ 23 by omega)
    rw [Nat.zero_mul, Nat.or_zero, Nat.zero_add] at this
    rw [this, ← hb]
theorem b_c23 {c h : Nat} (h0 : 0 < c) (hc : c < 2 ^ 24) (hh : h ≤ 800) : FP.dcmp (xD c (-(h : Int))) (UInt64.ofNat 4710765210229538816) = some (compare (c : Int) ((2 ^ (23 + h) : Nat) : Int)) := by
  rw [k_2p23]; exact cmp_xD h0 (by omega) hh (by decide)
theorem b_c8 {c h : Nat} (h0 : 0 < c) (hc : c < 2 ^ 24) (hh : h ≤ 800) : FP.dcmp (xD c (-(h : Int))) (UInt64.ofNat 4643211215818981376) = some (compare (c : Int) ((2 ^ (8 + h) : Nat) : Int)) := by
  rw [k_256]; exact cmp_xD h0 (by omega) hh (by decide)
theorem b_m1 {c h : Nat} (hc : c < 2 ^ 24) (hh : h ≤ 800) : FP.dmul (xD c (-((h + 1 : Nat) : Int))) (UInt64.ofNat 4611686018427387904) = xD c (-(h : Int)) := by
  rw [k_2]; exact (mul_xD (j := 1) (by decide) (by omega) (by omega) (by omega)).trans (congrArg (xD c) (by omega))
theorem b_m16 {c h : Nat} (hc : c < 2 ^ 24) (hh : h ≤ 800) : FP.dmul (xD c (-((h + 16 : Nat) : Int))) (UInt64.ofNat 4679240012837945344) = xD c (-(h : Int)) := by
  rw [k_65536]; exact (mul_xD (j := 16) (by decide) (by omega) (by omega) (by omega)).trans (congrArg (xD c) (by omega))
theorem b_loop {xs : Scr} {μ : Mem} {p0 : UInt32} {p1 v2 : Int32} {v6 : Value} {n : Nat} (hn : n ≤ 1232348160) (h0 : 0 < fC n) : ∀ {k t : Nat} {Q : Post}, t + k = fH n → Q (.inl (some (.int (bR v2 n)))) μ → Ev xs 2 67 [.float p0, .int p1, .int v2, .double (xD (fC n) (-(k : Int))), .null, .int (nI t), v6] [] μ Q := by
  have hc := fC_lt n
  have hH := fH_b hn
  have hcc := fC_cases hn
  intro k
  induction k with
  | zero =>
    intro t Q ht hq
    have ht' : t = fH n := by omega
    subst ht'
    apply w_X0_bitsOf_67
    have hd : FP.d2i (xD (fC n) (-((0 : Nat) : Int))) = nI (fC n) := d2i_xD (nI_toInt (by omega))
    rw [hd, icB_ge (by omega) (by decide), icB_ge (by omega) (by decide), q_ge (b_c23 h0 hc (by omega))]
    have hR : (bif decide (8388608 ≤ fC n) then (Q (.inl (some (.int (((v2 ||| (((((nI 150) - nI (fH n))) <<< ((nI 23) &&& 31))))) ||| (((nI (fC n)) &&& (nI 8388607))))))) μ) else (Q (.inl (some (.int (v2 ||| (nI (fC n)))))) μ)) := by
      unfold bR at hq
      by_cases h : 2 ^ 23 ≤ fC n
      · rw [if_pos h] at hq; rw [decide_eq_true (show 8388608 ≤ fC n from h)]; exact hq
      · rw [if_neg h] at hq; rw [decide_eq_false (show ¬ 8388608 ≤ fC n from h)]; exact hq
    by_cases h149 : 149 ≤ fH n
    · rw [decide_eq_true h149, cond_true]; exact hR
    · rw [decide_eq_false h149, cond_false, decide_eq_true (show ((2 ^ (23 + 0) : Nat) : Int) ≤ (fC n : Int) by rcases hcc with h | h <;> omega), cond_true]; exact hR
  | succ k ih =>
    intro t Q ht hq
    apply w_X0_bitsOf_67
    have hp : 2 ^ 24 ≤ 2 ^ (23 + (k + 1)) := Nat.pow_le_pow_right (by decide) (by omega)
    rw [icB_ge (by omega) (by decide), q_ge (b_c23 h0 hc (by omega)), decide_eq_false (show ¬ 149 ≤ t by omega), cond_false, decide_eq_false (show ¬ ((2 ^ (23 + (k + 1)) : Nat) : Int) ≤ (fC n : Int) by omega), cond_false, b_m1 hc (by omega), q_nn64 nn_xD, cond_true, nI_add]
    exact ih (by omega) hq
theorem b_fast {xs : Scr} {μ : Mem} {p0 : UInt32} {p1 v2 : Int32} {v6 : Value} {n : Nat} (hn : n ≤ 1232348160) (h0 : 0 < fC n) : ∀ {m k t : Nat} {Q : Post}, k ≤ 16 * m → t + k = fH n → Q (.inl (some (.int (bR v2 n)))) μ → Ev xs 2 39 [.float p0, .int p1, .int v2, .double (xD (fC n) (-(k : Int))), .null, .int (nI t), v6] [] μ Q := by
  have hc := fC_lt n
  have hH := fH_b hn
  have hcc := fC_cases hn
  intro m
  induction m with
  | zero =>
    intro k t Q hk ht hq
    have hk0 : k = 0 := by omega
    subst hk0
    apply w_X0_bitsOf_39
    rw [icB_ge (by omega) (by decide), q_ge (b_c8 h0 hc (by omega))]
    by_cases h133 : 133 ≤ t
    · rw [decide_eq_true h133, cond_true]; exact b_loop hn h0 ht hq
    · rw [decide_eq_false h133, cond_false, decide_eq_true (show ((2 ^ (8 + 0) : Nat) : Int) ≤ (fC n : Int) by rcases hcc with h | h <;> omega), cond_true]; exact b_loop hn h0 ht hq
  | succ m ih =>
    intro k t Q hk ht hq
    apply w_X0_bitsOf_39
    rw [icB_ge (by omega) (by decide), q_ge (b_c8 h0 hc (by omega))]
    by_cases h133 : 133 ≤ t
    · rw [decide_eq_true h133, cond_true]; exact b_loop hn h0 ht hq
    · rw [decide_eq_false h133, cond_false]
      by_cases hb : ((2 ^ (8 + k) : Nat) : Int) ≤ (fC n : Int)
      · rw [decide_eq_true hb, cond_true]; exact b_loop hn h0 ht hq
      · have hk16 : 16 ≤ k := by
          rcases hcc with h | h
          · have h1 : 2 ^ 23 < 2 ^ (8 + k) := by omega
            have := (Nat.pow_lt_pow_iff_right (by decide : 1 < 2)).mp h1
            omega
          · omega
        obtain ⟨j, rfl⟩ : ∃ j, k = j + 16 := ⟨k - 16, by omega⟩
        rw [decide_eq_false hb, cond_false, b_m16 hc (by omega), q_nn64 nn_xD, cond_true, nI_add]
        exact ih (by omega) (by omega) hq
theorem e_bitsOf {xs : Scr} {μ : Mem} {Q : Post} {v : UInt32} {zr : Int32} (hv : magF v ≤ 1232348160) : Ev xs 2 0 [.float v, .int zr, .null, .null, .null, .null, .null] [] μ Q ↔ Q (.inl (some (.int (if magF v = 0 then zr else v.toInt32)))) μ := by
  have nv := nn_of_mag hv
  have n0 : Jvm.FP.Core.val32 FP.fconst0 ≠ .nan := by decide +kernel
  have k0 : Jvm.FP.Core.fkey FP.fconst0 = 0 := by decide +kernel
  have ck := Jvm.FP.Core.fcmp_key nv n0
  rw [k0] at ck
  obtain ⟨b1, b2, b3⟩ := split_bits v
  have hl := v.toNat_lt
  have hH := fH_b hv
  have hi : v.toInt32 = nI v.toNat := q_u32 (by rw [UInt32.toUInt32_toInt32, q_nU (by omega)])
  apply Ev.dt; intro Q h; apply w_X0_bitsOf_0
  rw [q_ne ck, q_ge ck]
  by_cases hz : magF v = 0
  · have hk : Jvm.FP.Core.fkey v = 0 := by
      unfold magF at hz; unfold Jvm.FP.Core.fkey; split <;> omega
    rw [if_pos hz] at h
    rw [decide_eq_false (fun hh => hh hk), cond_false]; exact h
  · have hne : ¬ Jvm.FP.Core.fkey v = 0 := by
      unfold magF at hz; unfold Jvm.FP.Core.fkey; split <;> omega
    have hc : 0 < fC (magF v) := by
      have := f_bits hv
      split at this <;> omega
    rw [if_neg hz] at h
    rw [decide_eq_true hne, cond_true]
    by_cases hs : v.toNat < 2 ^ 31
    · have hk : 0 ≤ Jvm.FP.Core.fkey v := by unfold Jvm.FP.Core.fkey; split <;> omega
      have hm : v.toNat = magF v := by unfold magF; omega
      have e : FP.f2d v = xD (fC (magF v)) (-(fH (magF v) : Int)) := by
        rw [q_f2d nv, ← hm]; exact f2d_bits (by omega)
      rw [decide_eq_true hk, cond_true, cond_true, e, q_nn64 nn_xD, cond_true]
      refine b_fast hv hc (m := 10) (by omega) (by omega) ?_
      rw [bR_bits hv (Or.inl rfl), Nat.zero_add, ← hm, ← hi]; exact h
    · have hk : ¬ 0 ≤ Jvm.FP.Core.fkey v := by unfold magF at hz; unfold Jvm.FP.Core.fkey; split <;> omega
      have hm : v.toNat = 2147483648 + magF v := by unfold magF; omega
      have hb : (v &&& 2147483647).toNat ≤ 1232348160 := by rw [b3]; exact hv
      have e : FP.f2d (FP.fneg v) = xD (fC (magF v)) (-(fH (magF v) : Int)) := by
        rw [(q_negs (by omega)).1, q_f2d (fl_nn hb), ← b3]; exact f2d_bits hb
      rw [decide_eq_false hk, cond_false, cond_false, e, q_nn64 nn_xD, cond_true]
      refine b_fast hv hc (m := 10) (by omega) (by omega) ?_
      rw [bR_bits hv (Or.inr rfl), ← hm, ← hi]; exact h

