/-! the law's relation kept -/
theorem LR.chg {d d' : In2} {z z' : Zt} {a b n i : Nat} (h : LR d z a b n) (h2 : ∀ o k, 2 ≤ o → d' o k = d o k) (h1 : ∀ k, ¬ (5 * i ≤ k ∧ k < 5 * i + 5) → d' 1 k = d 1 k) (h0 : ∀ k, ¬ (8 * i ≤ k ∧ k < 8 * i + 8) → d' 0 k = d 0 k)
    (hz : ∀ k, k < 36 → z' k = z k) (hzr : ∀ j f, ¬ j = i → f < 12 → pt z' j f = pt z j f) (hr : i < n → ∀ f, f < 7 → d' 0 (8 * i + f) = pt z' i f) (he : a ≤ i → i < b → Lrl (fun f => d' 1 (5 * i + f)) (pt z' i)) : LR d' z' a b n := by
  obtain ⟨k1, k2, k3, k4, k5, k6⟩ := h
  refine ⟨fun k hk => by rw [h2 _ _ (by decide), hz _ (by omega)]; exact k1 k hk, fun k hk => by rw [h2 _ _ (by decide), hz _ (by omega)]; exact k2 k hk, fun k hk => by rw [h2 _ _ (by decide), hz _ (by omega)]; exact k3 k hk, fun k hk => by rw [h2 _ _ (by decide), hz _ (by omega)]; exact k4 k hk, fun j f hj hf => ?_, fun j a1 a2 => ?_⟩
  · by_cases e : j = i
    · subst e; exact hr hj f hf
    · rw [h0 _ (by omega), hzr _ _ e (by omega)]; exact k5 j f hj hf
  · by_cases e : j = i
    · subst e; exact he a1 a2
    · have := k6 j a1 a2
      unfold Lrl at this ⊢
      dsimp only at this ⊢
      rw [h1 _ (by omega), h1 _ (by omega), h1 _ (by omega), h1 _ (by omega), h1 _ (by omega), hzr _ _ e (by decide), hzr _ _ e (by decide), hzr _ _ e (by decide), hzr _ _ e (by decide), hzr _ _ e (by decide), hzr _ _ e (by decide)]
      exact this
/-- a count -/
theorem LR.cnt {d : In2} {z : Zt} {a b n k : Nat} {v : Int32} (h : LR d z a b n) (hk : k < 9) : LR (up2 d 5 k v) (uz z k v) a b n := by
  obtain ⟨k1, k2, k3, k4, k5, k6⟩ := h
  refine ⟨fun j hj => ?_, fun j hj => ?_, fun j hj => ?_, fun j hj => ?_, fun j f hj hf => ?_, fun j a1 a2 => ?_⟩
  · by_cases e : j = k
    · subst e; rw [up2_at, uz_at]
    · rw [up2_ne (by omega), uz_ne e]; exact k1 j hj
  · rw [up2_ne (by omega), uz_ne (by omega)]; exact k2 j hj
  · rw [up2_ne (by omega), uz_ne (by omega)]; exact k3 j hj
  · rw [up2_ne (by omega), uz_ne (by omega)]; exact k4 j hj
  · rw [up2_ne (by omega), pt_uz (by omega)]; exact k5 j f hj hf
  · have := k6 j a1 a2
    unfold Lrl at this ⊢
    dsimp only at this ⊢
    simp only [pt_uz (show k < 36 by omega)]
    rw [up2_ne (by omega), up2_ne (by omega), up2_ne (by omega), up2_ne (by omega), up2_ne (by omega)]
    exact this
/-- fewer entries -/
theorem LR.less {d : In2} {z : Zt} {a b n a' b' : Nat} (h : LR d z a b n) (ha : a ≤ a') (hb : b' ≤ b) : LR d z a' b' n := ⟨h.1, h.2.1, h.2.2.1, h.2.2.2.1, h.2.2.2.2.1, fun j h1 h2 => h.2.2.2.2.2 j (by omega) (by omega)⟩
theorem LR.ext {d d' : In2} {z : Zt} {a b n : Nat} (h : LR d z a b n) (he : ∀ o k, o < 6 → d' o k = d o k) : LR d' z a b n := by
  obtain ⟨k1, k2, k3, k4, k5, k6⟩ := h
  refine ⟨fun k hk => by rw [he _ _ (by decide)]; exact k1 k hk, fun k hk => by rw [he _ _ (by decide)]; exact k2 k hk, fun k hk => by rw [he _ _ (by decide)]; exact k3 k hk, fun k hk => by rw [he _ _ (by decide)]; exact k4 k hk, fun j f hj hf => by rw [he _ _ (by decide)]; exact k5 j f hj hf, fun j a1 a2 => ?_⟩
  have := k6 j a1 a2
  unfold Lrl at this ⊢
  dsimp only at this ⊢
  simp only [he 1 _ (by decide)]
  exact this
/-- entries wait again -/
theorem LR.wz {z : Zt} {a b n l : Nat} {d : In2} (h : LR d z a b n) (hl : l ≤ b) {d' : In2} (hd : ∀ o k, d' o k = if o = 1 ∧ 5 * l ≤ k ∧ k < 5 * b ∧ k % 5 = 0 then nI 0 else d o k) : LR d' (zap (b - l) l z) a b n := by
  obtain ⟨k1, k2, k3, k4, k5, k6⟩ := h
  have eo : ∀ o k, ¬ o = 1 → d' o k = d o k := fun o k ho => by rw [hd, if_neg (fun q => ho q.1)]
  have e : ∀ k g, g < 12 → ¬ g = 7 → pt (zap (b - l) l z) k g = pt z k g := fun k g hg hgf => by rw [pt_zap hg, if_neg (by omega)]
  refine ⟨fun k hk => by rw [eo _ _ (by decide), zap_lo (by omega)]; exact k1 k hk, fun k hk => by rw [eo _ _ (by decide), zap_lo (by omega)]; exact k2 k hk, fun k hk => by rw [eo _ _ (by decide), zap_lo (by omega)]; exact k3 k hk, fun k hk => by rw [eo _ _ (by decide), zap_lo (by omega)]; exact k4 k hk, fun j f hj hf => by rw [eo _ _ (by decide), e _ _ (by omega) (by omega)]; exact k5 j f hj hf, fun j a1 a2 => ?_⟩
  by_cases hjl : l ≤ j
  · unfold Lrl
    dsimp only
    rw [hd, if_pos (by omega), pt_zap (by decide), if_pos (by omega)]
    exact ⟨rfl, fun h => absurd h (not_nI (by decide) (by decide) (by decide)), fun h => absurd h (not_nI (by decide) (by decide) (by decide))⟩
  · have := k6 j a1 a2
    unfold Lrl at this ⊢
    dsimp only at this ⊢
    rw [hd, if_neg (by omega), hd, if_neg (by omega), hd, if_neg (by omega), hd, if_neg (by omega), hd, if_neg (by omega), show pt (zap (b - l) l z) j 7 = pt z j 7 by rw [pt_zap (by decide), if_neg (by omega)], e _ 8 (by decide) (by decide), e _ 11 (by decide) (by decide), e _ 0 (by decide) (by decide), e _ 9 (by decide) (by decide), e _ 10 (by decide) (by decide)]
    exact this
/-! the program's own parts stay -/
theorem rpl_p {z : Zt} {b l j f : Nat} (hf : f < 5) : pt (rpl z b l) j f = pt z j f := by
  unfold rpl
  rw [pt_zap (by omega), if_neg (by omega), pt_ln ⟨by omega, by decide, by omega⟩, pt_ln ⟨by omega, by decide, by omega⟩, pt_uz (by decide), pt_uz (by decide)]
theorem fnF_p {z : Zt} {a b i j f : Nat} (hf : f < 5) : pt (fnF z a b i) j f = pt z j f := by
  have e : ∀ (z : Zt) (g : Nat) (v : Int32), 7 ≤ g → g < 12 → pt (lay z i g v) j f = pt z j f := fun z g v h1 h2 => pt_ln ⟨by omega, h2, by omega⟩
  unfold fnF
  split
  · rw [e _ _ _ (by decide) (by decide), e _ _ _ (by decide) (by decide)]
  · split
    · unfold fnL fnE
      dsimp only
      rw [pt_uz (by decide), pt_uz (by decide), e _ _ _ (by decide) (by decide), e _ _ _ (by decide) (by decide), e _ _ _ (by decide) (by decide), e _ _ _ (by decide) (by decide)]
    · split
      · unfold fnS
        dsimp only
        split
        · rw [e _ _ _ (by decide) (by decide), e _ _ _ (by decide) (by decide), e _ _ _ (by decide) (by decide)]
        · rw [rpl_p hf, e _ _ _ (by decide) (by decide), e _ _ _ (by decide) (by decide), e _ _ _ (by decide) (by decide)]
      · rw [e _ _ _ (by decide) (by decide), e _ _ _ (by decide) (by decide)]
theorem Lp.of {z z' : Zt} {n : Nat} (h : Lp z n) (h0 : ∀ i, i < n → pt z' i 0 = pt z i 0 ∧ pt z' i 4 = pt z i 4) : Lp z' n := fun i hi hk => by
  rw [(h0 i hi).1] at hk
  rw [(h0 i hi).2]
  exact h i hi hk
theorem lvO_up {d : In2} {z : Zt} {a i k : Nat} {r v : Int32} (hk : 5 * i ≤ k) : lvO (up2 d 1 k v) z a i r = lvO d z a i r := by
  unfold lvO
  cases hm : mkr z a i r with
  | none => dsimp only; rw [up2_ne (by omega)]
  | some j => dsimp only; have := mkr_lt hm; rw [up2_ne (by omega)]
theorem lvO_z {d : In2} {z z' : Zt} {a i : Nat} {r : Int32} (h : mkr z' a i r = mkr z a i r) : lvO d z' a i r = lvO d z a i r := by unfold lvO; rw [h]
theorem LN.up {d : In2} {z z' : Zt} {a n k : Nat} {v : Int32} (h : LN d z a n) (hz : ∀ i f, f < 7 → pt z' i f = pt z i f) : LN (up2 d 1 k v) z' a n := ⟨by rw [up2_ne (by omega)]; exact h.1, fun i f hi hf => by rw [up2_ne (by omega), hz i f hf]; exact h.2.1 i f hi hf, h.2.2.1, h.2.2.2⟩
/-- 4 times a small number, divided -/
theorem div4 {v : Int32} (h1 : -24 ≤ v.toInt) (h2 : v.toInt ≤ 24) : Int32.ofInt (4 * v.toInt) / nI 4 = v := by
  have h : ∀ k : Fin 49, Int32.ofInt (4 * ((k.1 : Int) - 24)) / nI 4 = Int32.ofInt ((k.1 : Int) - 24) := by decide +kernel
  have := h ⟨(v.toInt + 24).toNat, by omega⟩
  have e2 : (((v.toInt + 24).toNat : Nat) : Int) - 24 = v.toInt := by omega
  dsimp only at this
  rw [e2, Int32.ofInt_toInt] at this
  exact this
