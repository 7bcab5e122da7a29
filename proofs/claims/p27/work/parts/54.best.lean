/-! the best window, in the reference -/
theorem Rst.w {I I' : In2} {z : Zt} {s : Nat} {zs : Nat → Zt} {tl : Nat × Zt} (h : Rst I z s zs tl) (he : ∀ a k, ¬ a = 247 → ¬ (a = 245 ∧ (k = 17 ∨ k = 18)) → I' a k = I a k) : Rst (pz I' z) z s zs tl := by
  have h' : Rst I' z s zs tl := h.fr (by funext k; exact he _ _ (by decide) (by omega)) (he _ _ (by decide) (by decide)) (he _ _ (by decide) (by decide)) (fun k => he _ _ (by decide) (by omega)) (fun k _ => he _ _ (by decide) (by omega))
  exact h'.z
