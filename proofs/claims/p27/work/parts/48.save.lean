/-! saving in the reference; undo of both -/
def KOk (Q : Post) (I : In2) (ρ : Rh) (v : Int32) (z : Zt) (s : Nat) (zs : Nat → Zt) (tl : Nat × Zt) : Prop := ∀ I' ρ', Rw ρ' → ρ'.2 = ρ.2 → Cst I' ρ' z s zs tl → (∀ a k, 245 ≤ a → I' a k = I a k) → Q (.inl (some (.int v))) (I', ρ')
def ROk (Q : Post) (I : In2) (ρ : Rh) (v : Int32) (z : Zt) (s : Nat) (zs : Nat → Zt) (tl : Nat × Zt) (t : Nat) : Prop := ∀ I', Rst I' z s zs tl → I' 245 16 = nI t → (∀ a k, a < 245 → I' a k = I a k) → Q (.inl (some (.int v))) (I', ρ)
theorem Rst.eq {I : In2} {z : Zt} {s : Nat} {zs : Nat → Zt} {tl : Nat × Zt} (h : Rst I z s zs tl) : pz I z = I := by rw [← h.1]; exact pz_self
theorem up2_pn {I : In2} {z : Zt} {a k : Nat} {v : Int32} (ha : ¬ a = 246) : up2 (pz I z) a k v = pz (up2 I a k v) z := by
  funext b j; unfold up2 pz; dsimp only
  by_cases e : b = a ∧ j = k
  · rw [if_pos e, if_neg (by omega), if_pos e]
  · rw [if_neg e]
    by_cases e2 : b = 246
    · rw [if_pos e2, if_pos e2]
    · rw [if_neg e2, if_neg e2, if_neg e]
theorem Rst.z {I : In2} {z z' : Zt} {s : Nat} {zs : Nat → Zt} {tl : Nat × Zt} (h : Rst I z s zs tl) : Rst (pz I z') z' s zs tl := by
  obtain ⟨h1, h2, h3, h4, h5⟩ := h
  exact ⟨rfl, h2, h3, h4, h5⟩
/-- what lies elsewhere doesn't matter -/
theorem Rst.fr {I I' : In2} {z : Zt} {s : Nat} {zs : Nat → Zt} {tl : Nat × Zt} (h : Rst I z s zs tl) (h6 : I' 246 = I 246) (hs : I' 245 14 = I 245 14) (hl : I' 245 15 = I 245 15) (h8 : ∀ k, I' 248 k = I 248 k) (h9 : ∀ k, k < tl.1 → I' 249 k = I 249 k) : Rst I' z s zs tl := by
  obtain ⟨g1, g2, g3, g4, g5⟩ := h
  exact ⟨h6.trans g1, hs.trans g2, fun j k hj hk => (h8 _).trans (g3 j k hj hk), hl.trans g4, fun k hk => (h9 k hk).trans (g5 k hk)⟩
def w8 (I : In2) (f : Zt) : In2 := fun a k => if a = 248 then f k else I a k
theorem w8_self {I : In2} : w8 I (I 248) = I := by
  funext b j; unfold w8; split
  · rename_i h; rw [h]
  · rfl
theorem up2_w8 {I : In2} {z f : Zt} {k : Nat} {v : Int32} : up2 (pz (w8 I f) z) 248 k v = pz (w8 I (uz f k v)) z := by
  rw [up2_pn (by decide)]
  congr 1
  funext b j; unfold up2 w8 uz
  by_cases e : b = 248
  · rw [if_pos e, if_pos e]
    by_cases e2 : j = k
    · rw [if_pos ⟨e, e2⟩, if_pos e2]
    · rw [if_neg (fun h => e2 h.2), if_neg e2]
  · rw [if_neg (fun h => e h.1), if_neg e, if_neg e]
theorem w8_at {I : In2} {z f : Zt} {k : Nat} : pz (w8 I f) z 248 k = f k := rfl
/-! undo -/
theorem Rst.t {I : In2} {z : Zt} {s : Nat} {zs : Nat → Zt} {tl : Nat × Zt} {t : Int32} (h : Rst I z s zs tl) : Rst (up2 I 245 16 t) z s zs tl :=
  h.fr (by funext k; exact up2_ne (by omega)) (up2_ne (by decide)) (up2_ne (by decide)) (fun k => up2_ne (by omega)) (fun k _ => up2_ne (by omega))
theorem fr_t {I : In2} {t : Int32} {a k : Nat} (ha : a < 245) : up2 I 245 16 t a k = I a k := up2_ne (by omega)
