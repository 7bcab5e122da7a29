/-! the reference's starts, issues, the cycle -/
theorem nds_ok (k : Int32) : ∃ x, 1 ≤ x ∧ x ≤ 3 ∧ nds k = nI x := by
  unfold nds
  by_cases h2 : k = nI 2
  · exact ⟨3, by decide, by decide, by rw [if_pos h2]⟩
  · by_cases h3 : k = nI 3
    · exact ⟨2, by decide, by decide, by rw [if_neg h2, if_pos h3]⟩
    · exact ⟨1, by decide, by decide, by rw [if_neg h2, if_neg h3]⟩
theorem rsn_0 {z : Zt} {a i : Nat} (h : rsn z a i = nI 0) : pt z i 7 = nI 0 := by
  unfold rsn at h
  by_cases h7 : pt z i 7 = nI 0
  · exact h7
  · rw [if_neg h7] at h; exact absurd h (not_nI (by decide) (by decide) (by decide))
def stF (z : Zt) (i : Nat) : Zt := lay (lay z i 7 (nI 1)) i 8 (nds (pt z i 0))
theorem stL_s {a k i w : Nat} {z : Zt} : stL a (k + 1) i (w + 1) z = if rsn z a i = nI 0 then stL a k (i + 1) w (stF z i) else stL a k (i + 1) (w + 1) z := rfl
theorem stL_0 {a k i : Nat} {z : Zt} : stL a k i 0 z = z := by cases k <;> rfl
theorem stL_n {a i w : Nat} {z : Zt} : stL a 0 i w z = z := by cases w <;> rfl
theorem Inv_stF {z : Zt} {a b n i : Nat} (h : Inv z a b n) : Inv (stF z i) a b n := by
  unfold stF
  refine ⟨(h.1.wl (by decide) (fun h => by cases h) (fun h => by cases h)).wl (by decide) (fun h => by cases h) (fun h => by cases h), EntX.w2 h.2.x rfl (Or.inl rfl) fun _ _ => Or.inr (Or.inl ⟨rfl, ?_⟩)⟩
  rw [if_pos rfl]; exact nds_ok _
theorem Inv_stL {a b n : Nat} : ∀ {k i w : Nat} {z : Zt}, Inv z a b n → Inv (stL a k i w z) a b n := by
  intro k
  induction k with
  | zero => intro i w z h; rw [stL_n]; exact h
  | succ k ih =>
    intro i w z h
    rcases w with _ | w
    · rw [stL_0]; exact h
    · rw [stL_s]
      by_cases hr : rsn z a i = nI 0
      · rw [if_pos hr]; exact ih (Inv_stF h)
      · rw [if_neg hr]; exact ih h
def isF (z : Zt) (b : Nat) : Zt := uz (lay z b 7 (nI 0)) 2 (nI (b + 1))
theorem isL_s {a n w k b : Nat} {z : Zt} : isL a n w (k + 1) b z = if b - a < w ∧ b < n then isL a n w k (b + 1) (isF z b) else z := rfl
theorem Inv_isF {z : Zt} {a b n : Nat} (h : Inv z a b n) (hb : b < n) : Inv (isF z b) a (b + 1) n := by
  have hbn := h.1.bnd
  unfold isF
  refine ⟨(h.1.wl (by decide) (fun h => by cases h) (fun h => by cases h)).w2 (by omega) (by omega), Ent.wu (fun j h1 h2 => ?_) (by decide)⟩
  by_cases hj : j = b
  · subst hj; left; exact pt_le
  · rw [pt_lj ⟨hj, by decide, by decide⟩, pt_lj ⟨hj, by decide, by decide⟩, pt_lj ⟨hj, by decide, by decide⟩, pt_lj ⟨hj, by decide, by decide⟩]
    exact h.2 j h1 (by omega)
theorem Inv_isL {a n w : Nat} : ∀ {k b : Nat} {z : Zt}, Inv z a b n → ∃ b', b ≤ b' ∧ Inv (isL a n w k b z) a b' n := by
  intro k
  induction k with
  | zero => intro b z h; exact ⟨b, Nat.le_refl b, h⟩
  | succ k ih =>
    intro b z h
    rw [isL_s]
    by_cases hc : b - a < w ∧ b < n
    · rw [if_pos hc]; obtain ⟨b', h1, h2⟩ := ih (Inv_isF h hc.2); exact ⟨b', by omega, h2⟩
    · rw [if_neg hc]; exact ⟨b, Nat.le_refl b, h⟩
/-! what the cycle leaves alone -/
def Fx (k : Nat) : Prop := k < 36 ∧ ¬ (k = 4 ∨ k = 5 ∨ k = 7 ∨ k = 8)
theorem rpl_lo {z : Zt} {b l k : Nat} (hk : Fx k) : (rpl z b l) k = z k := by
  obtain ⟨h1, h2⟩ := hk
  unfold rpl
  rw [zap_lo h1, lay_lo h1, lay_lo h1, uz_ne (by omega), uz_ne (by omega)]
theorem fnF_lo {z : Zt} {a b i k : Nat} (hk : Fx k) : (fnF z a b i) k = z k := by
  obtain ⟨h1, h2⟩ := hk
  unfold fnF
  split
  · rw [lay_lo h1, lay_lo h1]
  · split
    · unfold fnL fnE
      rw [uz_ne (by omega), uz_ne (by omega), lay_lo h1, lay_lo h1, lay_lo h1, lay_lo h1]
    · split
      · unfold fnS
        generalize fstF _ _ _ = o
        rcases o with _ | l
        · show (lay (lay (lay z i 7 (nI 2)) i 9 _) i 11 _) k = z k
          rw [lay_lo h1, lay_lo h1, lay_lo h1]
        · show (rpl (lay (lay (lay z i 7 (nI 2)) i 9 _) i 11 _) b l) k = z k
          rw [rpl_lo ⟨h1, h2⟩, lay_lo h1, lay_lo h1, lay_lo h1]
      · rw [lay_lo h1, lay_lo h1]
theorem wkS_lo {z : Zt} {a b i k : Nat} (hk : Fx k) : (wkS z a b i) k = z k := by
  unfold wkS
  split
  · split
    · rw [fnF_lo hk, lay_lo hk.1]
    · rw [lay_lo hk.1]
  · rfl
theorem wkL_lo {a b k : Nat} (hk : Fx k) : ∀ {c i : Nat} {z : Zt}, (wkL a b c i z) k = z k := by
  intro c
  induction c with
  | zero => intro i z; rfl
  | succ c ih => intro i z; rw [wkL, ih, wkS_lo hk]
theorem cy2_lo {z : Zt} {k : Nat} (hk : Fx k) : (cy2 z) k = z k := wkL_lo hk
theorem stL_lo {a k : Nat} (hk : k < 36) : ∀ {c i w : Nat} {z : Zt}, (stL a c i w z) k = z k := by
  intro c
  induction c with
  | zero => intro i w z; rw [stL_n]
  | succ c ih =>
    intro i w z
    rcases w with _ | w
    · rw [stL_0]
    · rw [stL_s]
      split
      · rw [ih]; unfold stF; rw [lay_lo hk, lay_lo hk]
      · exact ih
theorem cy3_lo {z : Zt} {k : Nat} (hk : k < 36) : (cy3 z) k = z k := stL_lo hk
theorem isL_lo {a n w k : Nat} (hk : k < 36 ∧ ¬ k = 2) : ∀ {c b : Nat} {z : Zt}, (isL a n w c b z) k = z k := by
  intro c
  induction c with
  | zero => intro b z; rfl
  | succ c ih =>
    intro b z
    rw [isL_s]
    split
    · rw [ih]; unfold isF; rw [uz_ne hk.2, lay_lo hk.1]
    · rfl
theorem cy4_lo {z : Zt} {k : Nat} (hk : k < 36 ∧ ¬ k = 2) : (cy4 z) k = z k := isL_lo hk
theorem rtF_lo {z : Zt} {a b n k : Nat} (h0 : Inv z a b n) (hab : a < b) (hk : k < 12 ∧ ¬ k = 3 ∧ ¬ k = 6) : (rtF z a) k = z k := by
  have hb := h0.1.bnd
  unfold rtF
  rw [uz_ne hk.2.2, uz_ne hk.2.1, lay_lo (by omega)]
  split
  · rw [uz_ne (by omega)]
  · rw [uz_ne (by omega)]
theorem retL_lo {b n k : Nat} (hk : k < 12 ∧ ¬ k = 3 ∧ ¬ k = 6) : ∀ {c a : Nat} {z : Zt}, Inv z a b n → (retL c z) k = z k := by
  intro c
  induction c with
  | zero => intro a z _; rfl
  | succ c ih =>
    intro a z h
    unfold retL
    rw [h.1.i3, h.1.i2]
    by_cases hc : a < b ∧ pt z a 7 = nI 2
    · rw [if_pos hc, ih (Inv_rtF h hc.1 hc.2), rtF_lo h hc.1 hk]
    · rw [if_neg hc]
/-- the cycle's steps keep the numbers fit -/
theorem Inv_cyF {z : Zt} {a b n : Nat} (h0 : Inv z a b n) : ∃ a' b', a ≤ a' ∧ Inv (cy1 z) a' b n ∧ Inv (cy2 (cy1 z)) a' b n ∧ Inv (cy3 (cy2 (cy1 z))) a' b n ∧ b ≤ b' ∧ Inv (cyF z) a' b' n := by
  obtain ⟨a', ha, h1⟩ := Inv_retL (k := idx (z 11)) h0
  have h2 := Inv_cy2 h1
  have h3 : Inv (cy3 (cy2 (retL (idx (z 11)) z))) a' b n := by unfold cy3; rw [h2.1.i3]; exact Inv_stL h2
  obtain ⟨b', hb, h4⟩ := Inv_isL (w := idx ((cy3 (cy2 (retL (idx (z 11)) z))) 9)) (k := idx ((cy3 (cy2 (retL (idx (z 11)) z))) 10)) h3
  refine ⟨a', b', ha, h1, h2, h3, hb, ?_⟩
  unfold cyF cy4
  have e3 : idx ((cy3 (cy2 (cy1 z))) 3) = a' := h3.1.i3
  have e2 : idx ((cy3 (cy2 (cy1 z))) 2) = b := h3.1.i2
  have e1 : idx ((cy3 (cy2 (cy1 z))) 1) = n := h3.1.i1
  dsimp only
  rw [e3, e2, e1]
  exact ⟨h4.1.wc (by decide), h4.2.wu (by decide)⟩
theorem Wid.spec {v : Int32} {n : Nat} (h : Wid v n) (hn : n < 2147483648) : v = nI (idx v) ∧ 1 ≤ idx v ∧ idx v ≤ n := by
  obtain ⟨w, h1, h2, rfl⟩ := h
  rw [idx_nI (by omega)]; exact ⟨rfl, h1, h2⟩
theorem Inv0.w9 {z : Zt} {a b n : Nat} (h : Inv0 z a b n) : z 9 = nI (idx (z 9)) ∧ 1 ≤ idx (z 9) ∧ idx (z 9) ≤ 8 := h.2.2.2.2.1.1.spec (by decide)
theorem Inv0.w10 {z : Zt} {a b n : Nat} (h : Inv0 z a b n) : z 10 = nI (idx (z 10)) ∧ 1 ≤ idx (z 10) ∧ idx (z 10) ≤ 4 := h.2.2.2.2.1.2.1.spec (by decide)
theorem Inv0.w11 {z : Zt} {a b n : Nat} (h : Inv0 z a b n) : z 11 = nI (idx (z 11)) ∧ 1 ≤ idx (z 11) ∧ idx (z 11) ≤ 4 := h.2.2.2.2.1.2.2.spec (by decide)
theorem cyF_6 {z : Zt} : (cyF z) 6 = (cy1 z) 6 := by
  unfold cyF
  rw [uz_ne (by decide), cy4_lo (by decide), cy3_lo (by decide), cy2_lo ⟨by decide, by decide⟩]
