/-! the law's values beside the floats -/
def mnZ : Int32 := nI 4292967296
def sgZ : Int32 := nI 2147483648
def vN (v : Int32) : Int := if v = mnZ then 0 else v.toInt
/-- a value of the law and the bits that it stands for -/
def VV (v w : Int32) : Prop := (v = mnZ ∧ w = sgZ) ∨ (-1000000 ≤ v.toInt ∧ v.toInt ≤ 1000000 ∧ Jvm.FP.Core.FInt v.toInt w.toUInt32 ∧ (v = nI 0 → w = nI 0))
def clI (i : Int) : Int := if 1000000 < i then 1000000 else if i < -1000000 then -1000000 else i
def addL (a b : Int32) : Int32 := if a = mnZ ∧ b = mnZ then mnZ else Int32.ofInt (clI (vN a + vN b))
def mulL (a b : Int32) : Int32 := if clI (vN a * vN b) = 0 ∧ ¬ (decide (a.toInt < 0) = decide (b.toInt < 0)) then mnZ else Int32.ofInt (clI (vN a * vN b))
theorem mnZ_i : mnZ.toInt = -2000000 := by decide
theorem vN_mn : vN mnZ = 0 := if_pos rfl
theorem vN_ne {v : Int32} (h : ¬ v = mnZ) : vN v = v.toInt := if_neg h
theorem ofI_toInt {i : Int} (h1 : -2147483648 ≤ i) (h2 : i < 2147483648) : (Int32.ofInt i).toInt = i := by
  rw [Int32.toInt_ofInt, Int.bmod_def]
  have hz : Int32.size = 4294967296 := rfl
  rw [hz]
  omega
theorem FI_L : Jvm.FP.Core.FInt 1000000 1232348160 := by
  have h := Jvm.FP.Core.i2f_int (a := 1000000) (by decide)
  have e : Jvm.FP.Core.i2f 1000000 = 1232348160 := by decide +kernel
  rw [e] at h
  exact h
theorem FI_M : Jvm.FP.Core.FInt (-1000000) 3379831808 := by
  have h := Jvm.FP.Core.i2f_int (a := -1000000) (by decide)
  have e : Jvm.FP.Core.i2f (-1000000) = 3379831808 := by decide +kernel
  rw [e] at h
  exact h
theorem FI_0 : Jvm.FP.Core.FInt 0 0 := by
  have h := Jvm.FP.Core.i2f_int (a := 0) (by decide)
  have e : Jvm.FP.Core.i2f 0 = 0 := by decide +kernel
  rw [e] at h
  exact h
theorem FI_S : Jvm.FP.Core.FInt 0 2147483648 := by
  show Jvm.FP.Core.Whole 0 (Jvm.FP.Core.val32 2147483648)
  rw [show (2147483648 : UInt32) = Jvm.FP.Core.fzeroNeg from rfl, Jvm.FP.Core.val32_fzeroNeg]
  show Jvm.FP.Core.signed true (0 * _) = 0 * _
  rw [Nat.zero_mul, Int.zero_mul]; rfl
theorem FI_nn {i : Int} {v : UInt32} (h : Jvm.FP.Core.FInt i v) : Jvm.FP.Core.val32 v ≠ .nan := fun e => by
  unfold Jvm.FP.Core.FInt at h
  rw [e] at h
  exact h
theorem FI_key {i : Int} {v : UInt32} (h : Jvm.FP.Core.FInt i v) : (1232348160 < Jvm.FP.Core.fkey v ↔ 1000000 < i) ∧ (Jvm.FP.Core.fkey v < -1232348160 ↔ i < -1000000) := by
  have nv := FI_nn h
  have e1 : some (compare i 1000000) = some (compare (Jvm.FP.Core.fkey v) 1232348160) := (Jvm.FP.Core.fcmp_int h FI_L).symm.trans (c_L nv)
  have e2 : some (compare i (-1000000)) = some (compare (Jvm.FP.Core.fkey v) (-1232348160)) := (Jvm.FP.Core.fcmp_int h FI_M).symm.trans (c_M nv)
  have e1 := Option.some.inj e1
  have e2 := Option.some.inj e2
  constructor
  · rw [← Jvm.FP.Core.compare_gt_iff i 1000000, ← Jvm.FP.Core.compare_gt_iff (Jvm.FP.Core.fkey v) 1232348160, e1]
  · rw [← Jvm.FP.Core.compare_lt_iff i (-1000000), ← Jvm.FP.Core.compare_lt_iff (Jvm.FP.Core.fkey v) (-1232348160), e2]
theorem FI_lim {i : Int} {v : UInt32} (h : Jvm.FP.Core.FInt i v) : Jvm.FP.Core.FInt (clI i) (limF v) ∧ (-1000000 ≤ i → i ≤ 1000000 → limF v = v) := by
  obtain ⟨k1, k2⟩ := FI_key h
  rw [lim_key (FI_nn h)]
  unfold clI
  by_cases a1 : 1000000 < i
  · rw [if_pos a1, if_pos (k1.mpr a1)]; exact ⟨FI_L, fun _ _ => by omega⟩
  · rw [if_neg a1, if_neg (fun q => a1 (k1.mp q))]
    by_cases a2 : i < -1000000
    · rw [if_pos a2, if_pos (k2.mpr a2)]; exact ⟨FI_M, fun _ _ => by omega⟩
    · rw [if_neg a2, if_neg (fun q => a2 (k2.mp q))]; exact ⟨h, fun _ _ => rfl⟩
theorem FI_mag {i : Int} {v : UInt32} (h : Jvm.FP.Core.FInt i v) (h1 : -1000000 ≤ i) (h2 : i ≤ 1000000) : magF v ≤ 1232348160 := by
  obtain ⟨k1, k2⟩ := FI_key h
  refine key_mag.mp ⟨Int.not_lt.mp fun q => ?_, Int.not_lt.mp fun q => ?_⟩
  · have := k2.mp q; omega
  · have := k1.mp q; omega
theorem FI_sg {i : Int} {v : UInt32} (h : Jvm.FP.Core.FInt i v) (hm : magF v ≤ 1232348160) : (i ≠ 0 → decide (2 ^ 31 ≤ v.toNat) = decide (i < 0)) ∧ (i = 0 → magF v = 0) := by
  have e := val32_all hm
  unfold Jvm.FP.Core.FInt at h
  rw [e] at h
  refine ⟨fun hi => Jvm.FP.Core.whole_sign h hi, fun hi => ?_⟩
  have hc := (Jvm.FP.Core.whole_zero h).mpr hi
  have hb := f_bits hm
  rw [hc, if_pos (by decide)] at hb
  exact hb
theorem VV.fi {v w : Int32} (h : VV v w) : Jvm.FP.Core.FInt (vN v) w.toUInt32 := by
  rcases h with ⟨h1, h2⟩ | ⟨h1, h2, h3, h4⟩
  · rw [h1, h2, vN_mn]; exact FI_S
  · rw [vN_ne (fun e => by rw [e, mnZ_i] at h1; omega)]; exact h3
theorem VV.b {v w : Int32} (h : VV v w) : -1000000 ≤ vN v ∧ vN v ≤ 1000000 := by
  rcases h with ⟨h1, h2⟩ | ⟨h1, h2, h3, h4⟩
  · rw [h1, vN_mn]; omega
  · rw [vN_ne (fun e => by rw [e, mnZ_i] at h1; omega)]; exact ⟨h1, h2⟩
theorem VV.mag {v w : Int32} (h : VV v w) : magF w.toUInt32 ≤ 1232348160 := FI_mag h.fi h.b.1 h.b.2
theorem VV.inr {v w : Int32} (h : VV v w) : InR w := InR_iff.mpr h.mag
theorem VV.sg {v w : Int32} (h : VV v w) : decide (2 ^ 31 ≤ w.toUInt32.toNat) = decide (v.toInt < 0) := by
  have hm := h.mag
  have hf := h.fi
  rcases h with ⟨h1, h2⟩ | ⟨h1, h2, h3, h4⟩
  · rw [h1, h2]; decide
  · by_cases hz : v = nI 0
    · rw [h4 hz, hz]; decide
    · exact (FI_sg h3 hm).1 fun e => hz (Int32.toInt.inj (by rw [e]; rfl))
theorem VV_of {i : Int} {u : UInt32} (h : Jvm.FP.Core.FInt i u) (h1 : -1000000 ≤ i) (h2 : i ≤ 1000000) (hz : i = 0 → u.toNat < 2 ^ 31) : VV (Int32.ofInt i) u.toInt32 := by
  have e := ofI_toInt (i := i) (by omega) (by omega)
  refine Or.inr ⟨by omega, by omega, by rw [e, UInt32.toUInt32_toInt32]; exact h, fun h0 => ?_⟩
  have hi : i = 0 := by rw [← e, h0]; rfl
  have hm := (FI_sg h (FI_mag h h1 h2)).2 hi
  have hl := hz hi
  unfold magF at hm
  have : u = 0 := UInt32.toNat.inj (by show u.toNat = 0; omega)
  rw [this]; rfl
theorem VV_neg {u : UInt32} (h : magF u = 0) (hs : 2 ^ 31 ≤ u.toNat) : VV mnZ u.toInt32 := by
  refine Or.inl ⟨rfl, ?_⟩
  have := u.toNat_lt
  unfold magF at h
  have : u = 2147483648 := UInt32.toNat.inj (by show u.toNat = 2147483648; omega)
  rw [this]; rfl
theorem VV.det {v w w' : Int32} (h : VV v w) (h' : VV v w') : w = w' := by
  rcases h with ⟨h1, h2⟩ | ⟨h1, h2, h3, h4⟩
  · rcases h' with ⟨g1, g2⟩ | ⟨g1, g2, g3, g4⟩
    · rw [h2, g2]
    · rw [h1, mnZ_i] at g1; omega
  · rcases h' with ⟨g1, g2⟩ | ⟨g1, g2, g3, g4⟩
    · rw [g1, mnZ_i] at h1; omega
    · by_cases hz : v = nI 0
      · rw [h4 hz, g4 hz]
      · have := Jvm.FP.Core.fint_unique (fun e => hz (Int32.toInt.inj (by rw [e]; rfl))) h3 g3
        rw [← Int32.toInt32_toUInt32 w, this, Int32.toInt32_toUInt32]
theorem clI_b (i : Int) : -1000000 ≤ clI i ∧ clI i ≤ 1000000 ∧ (clI i = 0 ↔ i = 0) := by unfold clI; split <;> (try split) <;> omega
theorem VV_add {a b p q : Int32} (ha : VV a p) (hb : VV b q) : VV (addL a b) (resF (nI 1) p q) := by
  have er : resF (nI 1) p q = (limF (FP.fadd p.toUInt32 q.toUInt32)).toInt32 := by unfold resF rawF; rw [if_pos rfl]
  rw [er]
  have b1 := ha.b
  have b2 := hb.b
  have hf : Jvm.FP.Core.FInt (vN a + vN b) (FP.fadd p.toUInt32 q.toUInt32) := Jvm.FP.Core.fadd_int ha.fi hb.fi (by omega)
  obtain ⟨l1, l2⟩ := FI_lim hf
  obtain ⟨c1, c2, c3⟩ := clI_b (vN a + vN b)
  by_cases h0 : vN a + vN b = 0
  · have e := l2 (by omega) (by omega)
    rw [e]
    have hm := FI_mag hf (by omega) (by omega)
    have hz := (FI_sg hf hm).2 h0
    have hs := fadd_zs (FFin_mag ha.mag) (FFin_mag hb.mag) hz
    rw [ha.sg, hb.sg] at hs
    unfold addL
    by_cases hab : a = mnZ ∧ b = mnZ
    · rw [if_pos hab]
      rw [hab.1, hab.2] at hs
      exact VV_neg hz (of_decide_eq_true (hs.trans (by decide)))
    · rw [if_neg hab, c3.mpr h0]
      refine VV_of (h0 ▸ hf) (by omega) (by omega) fun _ => Nat.not_le.mp fun hh => ?_
      have hh' : decide (2 ^ 31 ≤ (Jvm.FP.Core.fadd p.toUInt32 q.toUInt32).toNat) = true := decide_eq_true hh
      rw [hs, Bool.and_eq_true, decide_eq_true_eq, decide_eq_true_eq] at hh'
      have z1 : a = mnZ := Decidable.byContradiction fun h => by
        rw [vN_ne h] at h0
        by_cases hb' : b = mnZ
        · rw [hb', vN_mn] at h0; omega
        · rw [vN_ne hb'] at h0; omega
      have z2 : b = mnZ := Decidable.byContradiction fun h => by
        rw [vN_ne h, z1, vN_mn] at h0; omega
      exact hab ⟨z1, z2⟩
  · unfold addL
    rw [if_neg (fun hab => h0 (by rw [hab.1, hab.2, vN_mn]; rfl))]
    exact VV_of l1 c1 c2 fun q => absurd (c3.mp q) h0
theorem big_key {i j : Int} {p q : UInt32} (hp : Jvm.FP.Core.FInt i p) (hq : Jvm.FP.Core.FInt j q) (fp : Jvm.FP.Core.FFin p) (fq : Jvm.FP.Core.FFin q) : (16777216 < i * j → 1232348160 < Jvm.FP.Core.fkey (Jvm.FP.Core.fmul p q)) ∧ (i * j < -16777216 → Jvm.FP.Core.fkey (Jvm.FP.Core.fmul p q) < -1232348160) := by
  have nr := fmul_nn fp fq
  have hw := Jvm.FP.Core.whole_product hp hq
  obtain ⟨s, c, x, e1⟩ := fp
  obtain ⟨t, d, y, e2⟩ := fq
  have hv := Jvm.FP.Core.val32_fmul p q
  rw [e1, e2] at hw hv
  have hv : Jvm.FP.Core.val32 (Jvm.FP.Core.fmul p q) = Jvm.FP.Core.round Jvm.FP.Core.b32 (.fin (s != t) (c * d) (x + y)) := hv
  have hw : Jvm.FP.Core.Whole (i * j) (.fin (s != t) (c * d) (x + y)) := hw
  obtain ⟨e0, he⟩ : ∃ e0 : Int, e0 = min (-149) (x + y) := ⟨_, rfl⟩
  have hu := Jvm.FP.Core.whole_units hw (e := e0) (by omega)
  have ht : (e0.toNat) = 0 := by omega
  rw [ht] at hu
  have hpw : (2 : Nat) ^ (-e0).toNat = 2 ^ 149 * 2 ^ (-149 - e0).toNat := by rw [← Nat.pow_add]; congr 1; omega
  have hP := Nat.two_pow_pos (-149 - e0).toNat
  have key : ∀ {B : UInt32} {V : Int}, Jvm.FP.Core.val32 B ≠ .nan → Jvm.FP.Core.zval Jvm.FP.Core.b32 (Jvm.FP.Core.val32 B) = V → (V ≤ Jvm.FP.Core.zval Jvm.FP.Core.b32 (Jvm.FP.Core.val32 (Jvm.FP.Core.fmul p q)) → Jvm.FP.Core.fkey B ≤ Jvm.FP.Core.fkey (Jvm.FP.Core.fmul p q)) ∧ (Jvm.FP.Core.zval Jvm.FP.Core.b32 (Jvm.FP.Core.val32 (Jvm.FP.Core.fmul p q)) ≤ V → Jvm.FP.Core.fkey (Jvm.FP.Core.fmul p q) ≤ Jvm.FP.Core.fkey B) := by
    intro B V nB hV
    have o1 : Jvm.FP.Core.cmp Jvm.FP.Core.b32 B.toNat (Jvm.FP.Core.fmul p q).toNat = some (compare (Jvm.FP.Core.zval Jvm.FP.Core.b32 (Jvm.FP.Core.val32 B)) (Jvm.FP.Core.zval Jvm.FP.Core.b32 (Jvm.FP.Core.val32 (Jvm.FP.Core.fmul p q)))) := Jvm.FP.Core.order_zval Jvm.FP.Core.good_b32 (Jvm.FP.Core.val32_fits B) (Jvm.FP.Core.val32_fits _) nB nr
    have o2 : Jvm.FP.Core.cmp Jvm.FP.Core.b32 B.toNat (Jvm.FP.Core.fmul p q).toNat = some (compare (Jvm.FP.Core.fkey B) (Jvm.FP.Core.fkey (Jvm.FP.Core.fmul p q))) := Jvm.FP.Core.fcmp_key nB nr
    have o3 := Option.some.inj (o1.symm.trans o2)
    rw [hV] at o3
    refine ⟨fun h => Int.not_lt.mp fun g => ?_, fun h => Int.not_lt.mp fun g => ?_⟩
    · rw [(Jvm.FP.Core.compare_gt_iff _ _).mpr g] at o3
      have := (Jvm.FP.Core.compare_gt_iff _ _).mp o3
      omega
    · rw [(Jvm.FP.Core.compare_lt_iff _ _).mpr g] at o3
      have := (Jvm.FP.Core.compare_lt_iff _ _).mp o3
      omega
  have hs : Jvm.FP.Core.signed (s != t) (Jvm.FP.Core.inUnits (c * d) (x + y) e0) = i * j * ((2 ^ 149 * 2 ^ (-149 - e0).toNat : Nat) : Int) := by
    rw [← hpw, ← hu]; omega
  refine ⟨fun h => ?_, fun h => ?_⟩
  · have hz : Jvm.FP.Core.zval Jvm.FP.Core.b32 (Jvm.FP.Core.val32 1266679808) = 16777216 * ((2 ^ 149 : Nat) : Int) := by decide +kernel
    have nB : Jvm.FP.Core.val32 1266679808 ≠ .nan := by decide +kernel
    have kB : Jvm.FP.Core.fkey 1266679808 = 1266679808 := by decide +kernel
    have hr := Jvm.FP.Core.zval_round_ge Jvm.FP.Core.good_b32 (s := (s != t)) (c := c * d) (q := x + y) (e0 := e0) (Jvm.FP.Core.val32_fits 1266679808) nB (by rw [Jvm.FP.Core.qmin_b32]; omega) (by omega) (by
      rw [hz, hs, Jvm.FP.Core.qmin_b32, Int.natCast_mul, ← Int.mul_assoc]
      refine Int.mul_le_mul_of_nonneg_right (Int.mul_le_mul_of_nonneg_right (by omega) (Int.natCast_nonneg _)) (Int.natCast_nonneg _))
    rw [← hv, hz] at hr
    have := (key nB hz).1 hr
    rw [kB] at this
    omega
  · have hz : Jvm.FP.Core.zval Jvm.FP.Core.b32 (Jvm.FP.Core.val32 3414163456) = -16777216 * ((2 ^ 149 : Nat) : Int) := by decide +kernel
    have nB : Jvm.FP.Core.val32 3414163456 ≠ .nan := by decide +kernel
    have kB : Jvm.FP.Core.fkey 3414163456 = -1266679808 := by decide +kernel
    have hr := Jvm.FP.Core.zval_round_le Jvm.FP.Core.good_b32 (s := (s != t)) (c := c * d) (q := x + y) (e0 := e0) (Jvm.FP.Core.val32_fits 3414163456) nB (by rw [Jvm.FP.Core.qmin_b32]; omega) (by omega) (by
      rw [hz, hs, Jvm.FP.Core.qmin_b32, Int.natCast_mul, ← Int.mul_assoc]
      refine Int.mul_le_mul_of_nonneg_right (Int.mul_le_mul_of_nonneg_right (by omega) (Int.natCast_nonneg _)) (Int.natCast_nonneg _))
    rw [← hv, hz] at hr
    have := (key nB hz).2 hr
    rw [kB] at this
    omega
theorem VV_mul {a b p q : Int32} (ha : VV a p) (hb : VV b q) : VV (mulL a b) (resF (nI 2) p q) := by
  have er : resF (nI 2) p q = (limF (FP.fmul p.toUInt32 q.toUInt32)).toInt32 := by unfold resF rawF; rw [if_neg (by decide)]
  rw [er]
  have b1 := ha.b
  have b2 := hb.b
  obtain ⟨c1, c2, c3⟩ := clI_b (vN a * vN b)
  have fin : Jvm.FP.Core.FInt (clI (vN a * vN b)) (limF (FP.fmul p.toUInt32 q.toUInt32)) := by
    by_cases g1 : 16777216 < vN a * vN b
    · have k := (big_key ha.fi hb.fi (FFin_mag ha.mag) (FFin_mag hb.mag)).1 g1
      rw [lim_key (fmul_nn (FFin_mag ha.mag) (FFin_mag hb.mag)), if_pos k]
      unfold clI; rw [if_pos (by omega)]; exact FI_L
    · by_cases g2 : vN a * vN b < -16777216
      · have k := (big_key ha.fi hb.fi (FFin_mag ha.mag) (FFin_mag hb.mag)).2 g2
        have k' : ¬ 1232348160 < Jvm.FP.Core.fkey (Jvm.FP.Core.fmul p.toUInt32 q.toUInt32) := by omega
        rw [lim_key (fmul_nn (FFin_mag ha.mag) (FFin_mag hb.mag)), if_neg k', if_pos k]
        unfold clI; rw [if_neg (by omega), if_pos (by omega)]; exact FI_M
      · exact (FI_lim (Jvm.FP.Core.fmul_int ha.fi hb.fi (by omega))).1
  by_cases h0 : vN a * vN b = 0
  · have hf : Jvm.FP.Core.FInt (vN a * vN b) (FP.fmul p.toUInt32 q.toUInt32) := Jvm.FP.Core.fmul_int ha.fi hb.fi (by omega)
    have e := (FI_lim hf).2 (by omega) (by omega)
    rw [e]
    have hm := FI_mag hf (by omega) (by omega)
    have hz := (FI_sg hf hm).2 h0
    have hs := fmul_s (FFin_mag ha.mag) (FFin_mag hb.mag)
    rw [ha.sg, hb.sg] at hs
    unfold mulL
    by_cases hab : decide (a.toInt < 0) = decide (b.toInt < 0)
    · rw [if_neg (fun q => q.2 hab), c3.mpr h0]
      refine VV_of (h0 ▸ hf) (by omega) (by omega) fun _ => Nat.not_le.mp fun hh => ?_
      have hh' : decide (2 ^ 31 ≤ (Jvm.FP.Core.fmul p.toUInt32 q.toUInt32).toNat) = true := decide_eq_true hh
      rw [hs, hab] at hh'
      simp at hh'
    · rw [if_pos ⟨c3.mpr h0, hab⟩]
      refine VV_neg hz (of_decide_eq_true (hs.trans ?_))
      revert hab
      cases decide (a.toInt < 0) <;> cases decide (b.toInt < 0) <;> simp
  · unfold mulL
    rw [if_neg (fun q => h0 (c3.mp q.1))]
    exact VV_of fin c1 c2 fun q => absurd (c3.mp q) h0
/-- the whole part -/
theorem VV.f2i {v w : Int32} (h : VV v w) : (FP.f2i w.toUInt32).toInt = vN v := by
  have hb := h.b
  have e := ofI_toInt (i := vN v) (by omega) (by omega)
  have := Jvm.FP.Core.f2i_int (a := Int32.ofInt (vN v)) (b := w.toUInt32) (by rw [e]; exact h.fi)
  rw [show FP.f2i w.toUInt32 = Jvm.FP.Core.f2i w.toUInt32 from rfl, this, e]
theorem VV.cell {v w : Int32} (h : VV v w) (o : Nat) : cellF w o = ((vN v + o) % 16).toNat := by unfold cellF; rw [h.f2i]
theorem VV_0 : VV (nI 0) (nI 0) := Or.inr ⟨by decide, by decide, FI_0, fun _ => rfl⟩
theorem set_v : ∀ k : Fin 49, FP.fdiv (FP.i2f (Int32.ofInt (4 * ((k.1 : Int) - 24)))) (UInt32.ofNat 1082130432) = FP.i2f (Int32.ofInt ((k.1 : Int) - 24)) := by decide +kernel
theorem VV_set {v : Int32} (h1 : -24 ≤ v.toInt) (h2 : v.toInt ≤ 24) : VV v (setF (Int32.ofInt (4 * v.toInt))) := by
  have e := set_v ⟨(v.toInt + 24).toNat, by omega⟩
  have e2 : (((v.toInt + 24).toNat : Nat) : Int) - 24 = v.toInt := by omega
  dsimp only at e
  rw [e2] at e
  have ev : Int32.ofInt v.toInt = v := Int32.ofInt_toInt v
  unfold setF
  rw [e, ev]
  have hf := Jvm.FP.Core.i2f_int (a := v) (by omega)
  have := VV_of hf (by omega) (by omega) fun h0 => ?_
  · rw [ev] at this; exact this
  · have : v = 0 := Int32.toInt.inj (by rw [h0]; rfl)
    rw [this]; decide +kernel
