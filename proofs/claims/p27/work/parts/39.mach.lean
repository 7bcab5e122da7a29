/-! the class's machine beside the reference's numbers: what keeps them beside each other -/
theorem up2_at {c : In2} {o k : Nat} {v : Int32} : up2 c o k v o k = v := if_pos ⟨rfl, rfl⟩
theorem up2_ne {c : In2} {o k p j : Nat} {v : Int32} (h : ¬ (p = o ∧ j = k)) : up2 c o k v p j = c p j := if_neg h
theorem uz_self {z : Zt} {k : Nat} {v : Int32} (h : v = z k) : uz z k v = z := by
  funext j; unfold uz; split
  · rename_i e; rw [e, h]
  · rfl
theorem mkP_congr {z z' : Zt} {p : Int32} {k : Nat} (h0 : pt z' k 0 = pt z k 0) (h1 : pt z' k 1 = pt z k 1) : mkP z' p k = mkP z p k := by unfold mkP; rw [h0, h1]
theorem Nm.cg {c c' : In2} {z z' : Zt} {a i : Nat} {nm p : Int32} (h : Nm c z a i nm p) (hm : ∀ k, k < i → mkP z' p k = mkP z p k) (hc : ∀ j, j < a → c' (6 + j) 13 = c (6 + j) 13) (hz : ∀ q, q < 8 → z' (12 + q) = z (12 + q)) : Nm c' z' a i nm p := by
  rcases h with h | ⟨q, hq, hp, ⟨hn, hno⟩ | ⟨j, hj, hn, hno, hmk, hmade⟩⟩
  · exact Or.inl h
  · exact Or.inr ⟨q, hq, hp, Or.inl ⟨hn, fun k h1 h2 => by rw [hm k h2]; exact hno k h1 h2⟩⟩
  · exact Or.inr ⟨q, hq, hp, Or.inr ⟨j, hj, hn, fun k h1 h2 h3 => by rw [hm k h3]; exact hno k h1 h2 h3, fun h => by rw [hm j hj]; exact hmk h, fun h => by rw [hc j h, hz q hq]; exact hmade h⟩⟩
theorem Rel.chg {c c' : In2} {z z' : Zt} {a b n i : Nat} (h : Rel c z a b n) (ha : a ≤ i) (hc : ∀ o k, ¬ o = 6 + i → c' o k = c o k) (hz : ∀ k, k < 36 → z' k = z k) (hzr : ∀ j f, ¬ j = i → f < 12 → pt z' j f = pt z j f)
    (h4 : ∀ f, f < 5 → c' (6 + i) f = c (6 + i) f ∧ pt z' i f = pt z i f) (h56 : i < n → c' (6 + i) 5 = pt z' i 5 ∧ c' (6 + i) 6 = pt z' i 6)
    (h910 : c' (6 + i) 9 = c (6 + i) 9 ∧ c' (6 + i) 10 = c (6 + i) 10) (hE : i < b → Erl (c' (6 + i)) (pt z' i)) : Rel c' z' a b n := by
  obtain ⟨k1, k2, k3, k4, k5, k6, k7⟩ := h
  have hp : ∀ j f, f < 5 → pt z' j f = pt z j f := fun j f hf => by
    by_cases hj : j = i
    · rw [hj]; exact (h4 f hf).2
    · exact hzr j f hj (by omega)
  refine ⟨fun k hk => by rw [hc _ _ (by omega), hz _ (by omega)]; exact k1 k hk, fun k hk => by rw [hc _ _ (by omega), hz _ (by omega)]; exact k2 k hk, fun k hk => by rw [hc _ _ (by omega), hz _ (by omega)]; exact k3 k hk, fun k hk => by rw [hc _ _ (by omega), hz _ (by omega)]; exact k4 k hk, fun j f hj hf => ?_, fun j h1 h2 => ?_, fun j h1 h2 => ?_⟩
  · by_cases hji : j = i
    · subst hji
      by_cases hf5 : f < 5
      · rw [(h4 f hf5).1, (h4 f hf5).2]; exact k5 j f hj hf
      · by_cases hf6 : f = 5
        · rw [hf6]; exact (h56 hj).1
        · rw [show f = 6 by omega]; exact (h56 hj).2
    · rw [hc _ _ (by omega), hzr j f hji (by omega)]; exact k5 j f hj hf
  · by_cases hji : j = i
    · subst hji; exact hE h2
    · have e1 : ∀ k, c' (6 + j) k = c (6 + j) k := fun k => hc _ _ (by omega)
      have := k6 j h1 h2
      unfold Erl at this ⊢
      simp only [e1, hzr j 7 hji (by decide), hzr j 8 hji (by decide), hzr j 11 hji (by decide), hzr j 0 hji (by decide), hzr j 9 hji (by decide), hzr j 10 hji (by decide)]
      exact this
  · have hmm : ∀ p, ∀ k, k < j → mkP z' p k = mkP z p k := fun p k _ => mkP_congr (hp k 0 (by decide)) (hp k 1 (by decide))
    have hcc : ∀ k, k < a → c' (6 + k) 13 = c (6 + k) 13 := fun k hk => hc _ _ (by omega)
    have hzz : ∀ q, q < 8 → z' (12 + q) = z (12 + q) := fun q hq => hz _ (by omega)
    have e9 : c' (6 + j) 9 = c (6 + j) 9 ∧ c' (6 + j) 10 = c (6 + j) 10 := by
      by_cases hji : j = i
      · rw [hji]; exact h910
      · exact ⟨hc _ _ (by omega), hc _ _ (by omega)⟩
    rw [e9.1, e9.2, hp j 2 (by decide), hp j 3 (by decide)]
    exact ⟨(k7 j h1 h2).1.cg (hmm _) hcc hzz, (k7 j h1 h2).2.cg (hmm _) hcc hzz⟩
theorem Rel.cnt {c : In2} {z : Zt} {a b n k o : Nat} {v : Int32} (h : Rel c z a b n) (hk : k < 9 ∧ o = 5 + k) : Rel (up2 c 0 o v) (uz z k v) a b n := by
  obtain ⟨hk, rfl⟩ := hk
  obtain ⟨k1, k2, k3, k4, k5, k6, k7⟩ := h
  have e : ∀ p j, ¬ p = 0 → up2 c 0 (5 + k) v p j = c p j := fun p j hp => up2_ne (fun h => hp h.1)
  have ez : ∀ j, 9 ≤ j → uz z k v j = z j := fun j hj => uz_ne (by omega)
  have ep : ∀ i f, pt (uz z k v) i f = pt z i f := fun i f => pt_uz (by omega)
  refine ⟨fun j hj => ?_, fun j hj => by rw [e _ _ (by decide), ez _ (by omega)]; exact k2 j hj, fun j hj => by rw [e _ _ (by decide), ez _ (by omega)]; exact k3 j hj, fun j hj => by rw [e _ _ (by decide), ez _ (by omega)]; exact k4 j hj, fun i f hi hf => by rw [e _ _ (by omega), ep]; exact k5 i f hi hf, fun i h1 h2 => ?_, fun i h1 h2 => ?_⟩
  · by_cases hjk : j = k
    · rw [hjk, up2_at, uz_at]
    · rw [up2_ne (by omega), uz_ne hjk]; exact k1 j hj
  · have e1 : ∀ k', up2 c 0 (5 + k) v (6 + i) k' = c (6 + i) k' := fun k' => e _ _ (by omega)
    have := k6 i h1 h2
    unfold Erl at this ⊢
    simp only [e1, ep]
    exact this
  · rw [e _ _ (by omega), e _ _ (by omega), ep, ep]
    exact ⟨(k7 i h1 h2).1.cg (fun k' _ => mkP_congr (ep _ _) (ep _ _)) (fun j _ => e _ _ (by omega)) (fun q hq => ez _ (by omega)), (k7 i h1 h2).2.cg (fun k' _ => mkP_congr (ep _ _) (ep _ _)) (fun j _ => e _ _ (by omega)) (fun q hq => ez _ (by omega))⟩
/-- fewer entries, the row behind them changed -/
theorem Rel.shr {c c' : In2} {z : Zt} {a b n i : Nat} (h : Rel c z a b n) (ha : a ≤ i) (hi : i ≤ b) (hc : ∀ o k, ¬ o = 6 + i → c' o k = c o k) (h7 : ∀ f, f < 7 → c' (6 + i) f = c (6 + i) f) : Rel c' z a i n := by
  obtain ⟨k1, k2, k3, k4, k5, k6, k7⟩ := h
  refine ⟨fun k hk => by rw [hc _ _ (by omega)]; exact k1 k hk, fun k hk => by rw [hc _ _ (by omega)]; exact k2 k hk, fun k hk => by rw [hc _ _ (by omega)]; exact k3 k hk, fun k hk => by rw [hc _ _ (by omega)]; exact k4 k hk, fun j f hj hf => ?_, fun j h1 h2 => ?_, fun j h1 h2 => ?_⟩
  · by_cases hji : j = i
    · rw [hji, h7 f hf]; exact k5 i f (hji ▸ hj) hf
    · rw [hc _ _ (by omega)]; exact k5 j f hj hf
  · have e1 : ∀ k, c' (6 + j) k = c (6 + j) k := fun k => hc _ _ (by omega)
    have := k6 j h1 (by omega)
    unfold Erl at this ⊢
    simp only [e1]
    exact this
  · rw [hc _ _ (by omega), hc _ _ (by omega)]
    exact ⟨(k7 j h1 (by omega)).1.cg (fun _ _ => rfl) (fun k hk => hc _ _ (by omega)) (fun _ _ => rfl), (k7 j h1 (by omega)).2.cg (fun _ _ => rfl) (fun k hk => hc _ _ (by omega)) (fun _ _ => rfl)⟩
theorem mkr_cg {z z' : Zt} {a i : Nat} {r : Int32} (h : ∀ k, a ≤ k → k < i → pt z' k 0 = pt z k 0 ∧ pt z' k 1 = pt z k 1) : mkr z' a i r = mkr z a i r := lat_congr fun k h1 h2 => mkP_congr (h k h1 h2).1 (h k h1 h2).2
theorem mkr_lay {z : Zt} {a i j f : Nat} {r v : Int32} (hf : 2 ≤ f ∧ f < 12) : mkr (lay z j f v) a i r = mkr z a i r := mkr_cg fun k _ _ => ⟨pt_ln ⟨by omega, hf.2, by decide⟩, pt_ln ⟨by omega, hf.2, by decide⟩⟩
theorem vlO_lay {z : Zt} {a i j f : Nat} {r v : Int32} (hf : 2 ≤ f ∧ f < 11) (hr : idx r < 8) : vlO (lay z j f v) a i r = vlO z a i r := by
  unfold vlO
  rw [mkr_lay (by omega)]
  cases mkr z a i r with
  | none => exact lay_lo (by omega)
  | some k => exact pt_ln ⟨by omega, by omega, by decide⟩
theorem rdy_iff {z : Zt} {a i : Nat} {r : Int32} : rdy z a i r = true ↔ ∀ k, mkr z a i r = some k → pt z k 7 = nI 2 := by
  unfold rdy
  cases mkr z a i r with
  | none => simp
  | some k => simp
theorem Rdy.wl {z : Zt} {a b i f : Nat} {v : Int32} (h : Rdy z a b) (hf : 4 ≤ f ∧ f < 12 ∧ ¬ f = 7) : Rdy (lay z i f v) a b := by
  intro j h1 h2 h3
  have e : ∀ k g, g < 12 → ¬ g = f → pt (lay z i f v) k g = pt z k g := fun k g hg hgf => pt_ln ⟨hgf, by omega, hg⟩
  rw [e _ _ (by decide) (by omega)] at h3
  obtain ⟨r1, r2⟩ := h j h1 h2 h3
  rw [e _ _ (by decide) (by omega), e _ _ (by decide) (by omega)]
  rw [rdy_iff] at r1 r2 ⊢
  rw [rdy_iff]
  refine ⟨fun k hk => ?_, fun k hk => ?_⟩
  · rw [mkr_lay (by omega)] at hk; rw [e _ _ (by decide) (by omega)]; exact r1 k hk
  · rw [mkr_lay (by omega)] at hk; rw [e _ _ (by decide) (by omega)]; exact r2 k hk
theorem Rdy.wu {z : Zt} {a b k : Nat} {v : Int32} (h : Rdy z a b) (hk : k < 36) : Rdy (uz z k v) a b := by
  have e : ∀ i f, pt (uz z k v) i f = pt z i f := fun i f => pt_uz hk
  have em : ∀ i r, mkr (uz z k v) a i r = mkr z a i r := fun i r => mkr_cg fun _ _ _ => ⟨e _ _, e _ _⟩
  intro j h1 h2 h3
  rw [e] at h3
  obtain ⟨r1, r2⟩ := h j h1 h2 h3
  rw [e, e]
  rw [rdy_iff] at r1 r2 ⊢
  rw [rdy_iff]
  exact ⟨fun k hk => by rw [em] at hk; rw [e]; exact r1 k hk, fun k hk => by rw [em] at hk; rw [e]; exact r2 k hk⟩
/-- an entry's state changes: what depends on it still waits, or it is done now -/
theorem Rdy.w7 {z : Zt} {a b i : Nat} {v : Int32} (h : Rdy z a b) (hv : v = nI 2 ∨ ¬ pt z i 7 = nI 2) (hi : ¬ v = nI 0 → ¬ pt z i 7 = nI 0 ∨ (rdy z a i (pt z i 2) = true ∧ rdy z a i (pt z i 3) = true)) : Rdy (lay z i 7 v) a b := by
  intro j h1 h2 h3
  have e : ∀ k g, g < 12 → ¬ g = 7 → pt (lay z i 7 v) k g = pt z k g := fun k g hg hgf => pt_ln ⟨hgf, by decide, hg⟩
  have key : rdy z a j (pt z j 2) = true ∧ rdy z a j (pt z j 3) = true := by
    by_cases hj : j = i
    · subst hj
      rw [pt_le] at h3
      rcases hi h3 with h4 | h4
      · exact h j h1 h2 h4
      · exact h4
    · rw [pt_lj ⟨hj, by decide, by decide⟩] at h3
      exact h j h1 h2 h3
  obtain ⟨r1, r2⟩ := key
  rw [e _ _ (by decide) (by decide), e _ _ (by decide) (by decide)]
  rw [rdy_iff] at r1 r2 ⊢
  rw [rdy_iff]
  have fin : ∀ k, pt z k 7 = nI 2 → pt (lay z i 7 v) k 7 = nI 2 := fun k hk => by
    by_cases hki : k = i
    · subst hki
      rw [pt_le]
      rcases hv with hv | hv
      · exact hv
      · exact absurd hk hv
    · rw [pt_lj ⟨hki, by decide, by decide⟩]; exact hk
  exact ⟨fun k hk => by rw [mkr_lay (by decide)] at hk; exact fin k (r1 k hk), fun k hk => by rw [mkr_lay (by decide)] at hk; exact fin k (r2 k hk)⟩
theorem pt_zap {f : Nat} (hf : f < 12) : ∀ {d l : Nat} {z : Zt} {j : Nat}, pt (zap d l z) j f = if l ≤ j ∧ j < l + d ∧ f = 7 then nI 0 else pt z j f := by
  intro d
  induction d with
  | zero => intro l z j; rw [if_neg (by omega)]; rfl
  | succ d ih =>
    intro l z j
    rw [zap, ih]
    by_cases h1 : l + 1 ≤ j ∧ j < l + 1 + d ∧ f = 7
    · rw [if_pos h1, if_pos (by omega)]
    · rw [if_neg h1, pt_lay (by decide) hf]
      by_cases h2 : j = l ∧ f = 7
      · rw [if_pos h2, if_pos (by omega)]
      · rw [if_neg h2, if_neg (by omega)]
/-- all entries from one on wait again -/
theorem Rdy.wz {z : Zt} {a b l : Nat} (h : Rdy z a b) (hl : l ≤ b) : Rdy (zap (b - l) l z) a b := by
  intro j h1 h2 h3
  have e : ∀ k g, g < 12 → ¬ g = 7 → pt (zap (b - l) l z) k g = pt z k g := fun k g hg hgf => by rw [pt_zap hg, if_neg (by omega)]
  have em : ∀ i r, mkr (zap (b - l) l z) a i r = mkr z a i r := fun i r => mkr_cg fun _ _ _ => ⟨e _ _ (by decide) (by decide), e _ _ (by decide) (by decide)⟩
  have hjl : j < l := by
    by_cases hjl : j < l
    · exact hjl
    · exfalso; exact h3 (by rw [pt_zap (by decide), if_pos (by omega)])
  rw [pt_zap (by decide), if_neg (by omega)] at h3
  obtain ⟨r1, r2⟩ := h j h1 h2 h3
  rw [e _ _ (by decide) (by decide), e _ _ (by decide) (by decide)]
  rw [rdy_iff] at r1 r2 ⊢
  rw [rdy_iff]
  have fin : ∀ k r, mkr z a j r = some k → pt z k 7 = nI 2 → pt (zap (b - l) l z) k 7 = nI 2 := fun k r hk hs => by
    have := mkr_lt hk
    rw [pt_zap (by decide), if_neg (by omega)]; exact hs
  exact ⟨fun k hk => by rw [em] at hk; exact fin k _ hk (r1 k hk), fun k hk => by rw [em] at hk; exact fin k _ hk (r2 k hk)⟩

