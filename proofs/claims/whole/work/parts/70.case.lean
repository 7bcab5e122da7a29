/-! a case of the law: a call of the class, a call of the reference, the comparison -/
abbrev Re : Type := (Int32 × Zt × Nat × (Nat → Zt) × (Nat × Zt)) ⊕ Nat
def KR (Q : Post) (I : In2) (ρ : Rh) (c : Nat → Nat) : Re → Prop
  | .inl (v, z', s', zs', tl') => KOk Q I ρ v z' s' zs' tl'
  | .inr t => ∀ E, c E = t → Q (.inr E) (I, xR ρ)
def RR (Q : Post) (I : In2) (ρ : Rh) (z : Zt) (s : Nat) (zs : Nat → Zt) (tl : Nat × Zt) : Re → Prop
  | .inl (v, z', s', zs', tl') => ROk Q I ρ v z' s' zs' tl' 0
  | .inr t => ROk Q I ρ (nI 0) z s zs tl t
def okRe : Re → Prop
  | .inl _ => True
  | .inr t => 1 ≤ t ∧ t ≤ 3
/-- at the head of the law's loop -/
def LI (j : Nat) (I : In2) (ρ : Rh) : Prop := Rw ρ ∧ ρ.2.2.2 ≤ j ∧ ∃ z s zs tl, Cst I ρ z s zs tl ∧ Rst I z s zs tl
def TLf (xs : Scr) (w x v : Int32) (v7 v8 : Value) (Q : Post) (X : Nat → Mem → Prop) (μ : Mem) : Prop :=
  bif gO μ 245 4 then Ev xs 102 0 [.ref 245] [] μ (QI (fun t μ1 => bif icB .eq t x then (bif icB .ne x (nI 0) then Ev xs 209 23 [.ref SCR, .ref 0, .ref 245, .ref 257, .int (w + nI 3), .int x, .int v, v7, v8] [] μ1 Q else (bif gA μ1 257 9 (nI 0) then (bif icB .eq (lg_cmp (mL μ1 257 (idx (nI 0))) v.toInt64) (nI 0) then Ev xs 209 23 [.ref SCR, .ref 0, .ref 245, .ref 257, .int (w + nI 3), .int x, .int v, v7, v8] [] μ1 Q else Q (.inl (some (.int (nI 0)))) μ1) else False)) else Q (.inl (some (.int (nI 0)))) μ1) X) else False
theorem e_thrown {xs : Scr} {I : In2} {ρ : Rh} {Q : Post} (hW : Rw ρ) : Ev xs 102 0 [.ref 245] [] (I, ρ) Q ↔ Q (.inl (some (.int (I 245 16)))) (I, ρ) := by
  apply Ev.dt; intro Q h; apply w_X5_thrown_0
  rw [gz_O hW, cond_true]; exact h
theorem lg_self {x : Int64} : icB .eq (lg_cmp x x) (nI 0) = true := by
  unfold lg_cmp
  simp
  decide
def oL (ρ : Rh) (x : Int64) : Rh := (ρ.1, up2 ρ.2.1 257 0 x, ρ.2.2)
theorem Rw.o {ρ : Rh} {x : Int64} (h : Rw ρ) : Rw (oL ρ x) := h
theorem oL_at {I : In2} {ρ : Rh} {x : Int64} : mL (I, oL ρ x) 257 (idx (nI 0)) = x := by
  show up2 ρ.2.1 257 0 x 257 0 = x
  unfold up2; exact if_pos ⟨rfl, rfl⟩
theorem TL_ok {xs : Scr} {w v : Int32} {v7 v8 : Value} {Q : Post} {X : Nat → Mem → Prop} {I : In2} {ρ : Rh} (hW : Rw ρ) (h16 : I 245 16 = nI 0) (h : Ev xs 209 23 [.ref SCR, .ref 0, .ref 245, .ref 257, .int (w + nI 3), .int (nI 0), .int v, v7, v8] [] (I, oL ρ v.toInt64) Q) : TLf xs w (nI 0) v v7 v8 Q X (I, oL ρ v.toInt64) := by
  have g : gA (I, oL ρ v.toInt64) 257 9 (nI 0) = true := by unfold gA; rw [show mN (I, oL ρ v.toInt64) = 258 from hW.1]; decide
  unfold TLf
  rw [gz_O hW.o, cond_true, e_thrown hW.o, QI_i, h16, show icB .eq (nI 0) (nI 0) = true by decide, cond_true, show icB .ne (nI 0) (nI 0) = false by decide, cond_false, g, cond_true, oL_at, lg_self, cond_true]
  exact h
theorem TL_ex {xs : Scr} {w v : Int32} {v7 v8 : Value} {Q : Post} {X : Nat → Mem → Prop} {I : In2} {ρ : Rh} {t : Nat} (hW : Rw ρ) (h1 : 1 ≤ t) (h2 : t ≤ 3) (h16 : I 245 16 = nI t) (h : Ev xs 209 23 [.ref SCR, .ref 0, .ref 245, .ref 257, .int (w + nI 3), .int (nI t), .int v, v7, v8] [] (I, ρ) Q) : TLf xs w (nI t) v v7 v8 Q X (I, ρ) := by
  unfold TLf
  rw [gz_O hW, cond_true, e_thrown hW, QI_i, h16, show icB .eq (nI t) (nI t) = true from decide_eq_true rfl, cond_true, txn (by omega) (by decide), decide_eq_true (by omega : ¬ t = 0), cond_true]
  exact h
theorem Rst.ge {I I' : In2} {z : Zt} {s : Nat} {zs : Nat → Zt} {tl : Nat × Zt} (h : Rst I z s zs tl) (he : ∀ a k, 245 ≤ a → I' a k = I a k) : Rst I' z s zs tl :=
  h.fr (funext fun k => he _ _ (by decide)) (he _ _ (by decide)) (he _ _ (by decide)) (fun k => he _ _ (by decide)) fun k _ => he _ _ (by decide)
theorem case2 {xs : Scr} {I : In2} {ρ : Rh} {Q : Post} {z : Zt} {s : Nat} {zs : Nat → Zt} {tl : Nat × Zt} {c : Nat → Nat} {r : Re} {EvC : Post → Prop} {EvR : In2 → Rh → Post → Prop} {G : Int32 → Mem → Prop} {X : Nat → Mem → Prop} {X1 : Int32 → Nat → Mem → Prop} {X2 : Int32 → Int32 → Nat → Mem → Prop} {w : Int32} {v7 v8 : Value} {j : Nat} (hW : Rw ρ) (hj : ρ.2.2.2 ≤ j) (hC : Cst I ρ z s zs tl) (hR : Rst I z s zs tl) (hr : okRe r) (hc : ∀ E, c E ≤ 3)
    (hk : ∀ Q, KR Q I ρ c r → EvC Q) (he : ∀ I' ρ' Q, Rw ρ' → Rst I' z s zs tl → RR Q I' ρ' z s zs tl r → EvR I' ρ' Q)
    (hG : ∀ x I' ρ', Rw ρ' → EvR I' ρ' (QI (fun v μ => TLf xs w x v v7 v8 Q (X2 x v) μ) (X1 x)) → G x (I', ρ'))
    (hN : ∀ I' ρ' v5 v6, LI (j + 1) I' ρ' → Ev xs 209 23 [.ref SCR, .ref 0, .ref 245, .ref 257, .int (w + nI 3), v5, v6, v7, v8] [] (I', ρ') Q) : EvC (PL (QI G X) c) := by
  apply hk
  rcases r with ⟨v, z', s', zs', tl'⟩ | t
  · intro I' ρ' hW' hρ' hC' hfr
    refine PL_i hW' ?_
    show QI G X _ (I', oL ρ' v.toInt64)
    rw [QI_i]
    refine hG _ _ _ hW'.o (he _ _ _ hW'.o (hR.ge hfr) fun I'' hR'' h16 hlo => ?_)
    rw [QI_i]
    refine TL_ok hW' h16 (hN _ _ _ _ ⟨hW'.o, ?_, z', s', zs', tl', hC'.fr rfl fun a k h1 _ => hlo a k (by omega), hR''⟩)
    show ρ'.2.2.2 ≤ j + 1
    rw [hρ']; omega
  · obtain ⟨t1, t3⟩ := hr
    intro E hE
    refine PL_e (by rw [hE]; omega) ?_
    rw [hE, QI_i]
    refine hG _ _ _ hW.x (he _ _ _ hW.x hR fun I'' hR'' h16 hlo => ?_)
    rw [QI_i]
    refine TL_ex hW.x t1 t3 h16 (hN _ _ _ _ ⟨hW.x, ?_, z, s, zs, tl, hC.fr rfl fun a k h1 _ => hlo a k (by omega), hR''⟩)
    show ρ.2.2.2 + 1 ≤ j + 1
    omega
