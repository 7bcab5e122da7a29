/-! new arrays -/
def nwI (I : In2) (N : Nat) : In2 := fun a k => if a = N then 0 else I a k
def nwR (ρ : Rh) : Rh := (fun a k => if a = ρ.2.2.1 then none else ρ.1 a k, fun a k => if a = ρ.2.2.1 then 0 else ρ.2.1 a k, ρ.2.2.1 + 1, ρ.2.2.2)
theorem newM_def {I : In2} {ρ : Rh} : newM (I, ρ) = (nwI I ρ.2.2.1, nwR ρ) := rfl
theorem nwI_ne {I : In2} {N a k : Nat} (h : ¬ a = N) : nwI I N a k = I a k := if_neg h
theorem nwI_at {I : In2} {N k : Nat} : nwI I N N k = 0 := if_pos rfl
theorem nwR_N {ρ : Rh} : (nwR ρ).2.2.1 = ρ.2.2.1 + 1 := rfl
theorem nwR_X {ρ : Rh} : (nwR ρ).2.2.2 = ρ.2.2.2 := rfl
theorem nwR_r {ρ : Rh} {a k : Nat} (h : a < ρ.2.2.1) : (nwR ρ).1 a k = ρ.1 a k := if_neg (by omega)
theorem Rw.nw {ρ : Rh} (h : Rw ρ) : Rw (nwR ρ) := by
  obtain ⟨h1, ⟨a0, a1, a2, a3, a4⟩, h3, -, h5⟩ := h
  have e : ∀ a k, a < 245 → (nwR ρ).1 a k = ρ.1 a k := fun a k ha => nwR_r (by omega)
  refine ⟨by rw [nwR_N]; omega, ⟨?_, ?_, ?_, ?_, ?_⟩, ?_, trivial, fun m hm => ⟨fun j hj => ?_, fun i hi => ?_⟩⟩
  · rw [e _ _ (by decide)]; exact a0
  · rw [e _ _ (by decide)]; exact a1
  · rw [e _ _ (by decide)]; exact a2
  · rw [e _ _ (by decide)]; exact a3
  · rw [e _ _ (by decide)]; exact a4
  · rw [e _ _ (by decide)]; exact h3
  · rw [e _ _ (by have := Bs_lt hm; omega)]; exact (h5 m hm).1 j hj
  · rw [e _ _ (by have := Bs_lt hm; omega)]; exact (h5 m hm).2 i hi
/-- the class's state minds its own part of the memory alone -/
theorem Cst.lo {I I' : In2} {ρ ρ' : Rh} {z : Zt} {s : Nat} {zs : Nat → Zt} {tl : Nat × Zt} (h : Cst I ρ z s zs tl) (hI : ∀ a k, a < 245 → I' a k = I a k) (hr : ∀ j, ρ'.1 61 j = ρ.1 61 j) : Cst I' ρ' z s zs tl := by
  obtain ⟨g, h5, hs, ⟨σ, ⟨s1, s2, s3⟩, hz⟩, h1, hc, ht⟩ := h
  refine ⟨g.fr fun o k ho => hI _ _ (by omega), by rw [hI _ _ (by decide)]; exact h5, hs, ⟨σ, ⟨s1, s2, fun j hj => by rw [hr]; exact s3 j hj⟩, fun j hj => (hz j hj).fr fun o k ho => hI _ _ ?_⟩, by rw [hI _ _ (by decide)]; exact h1, hc, fun k hk => by rw [hI _ _ (by decide)]; exact ht k hk⟩
  have := s1 j (by omega)
  omega
theorem gnw {I : In2} {ρ : Rh} {n : Nat} (hX : ρ.2.2.2 = 0) (hl : ρ.2.2.1 < 387) (hs : shp ρ.2.2.1 = (6, n)) : (Nat.blt (mN (I, ρ)) NN && (Nat.beq (mX (I, ρ)) 0 && (Nat.beq (shp (mN (I, ρ))).1 6 && decide (nI n = nI (shp (mN (I, ρ))).2)))) = true := by
  rw [mN_def, hs, show mX (I, ρ) = ρ.2.2.2 from rfl, hX, Nat.blt_eq.mpr (show ρ.2.2.1 < NN from hl)]
  simp
theorem LG.ext {d d' : In2} {z : Zt} {a b n : Nat} (h : LG d z a b n) (he : ∀ o k, o < 6 → d' o k = d o k) : LG d' z a b n := ⟨h.1, h.2.1, h.2.2.1.ext he, h.2.2.2⟩
/-- told is true where class and law agree -/
theorem l_told {xs : Scr} {I : In2} {ρ : Rh} {Q : Post} {z : Zt} {s : Nat} {zs : Nat → Zt} {tl : Nat × Zt} {B a b n : Nat} (hW : Rw ρ) (hX : ρ.2.2.2 = 0) (hC : Cst I ρ z s zs tl) (hL : LB B ρ) (hG : LG (bl I B) z a b n) (hE : Ent z a b) (hl : ρ.2.2.1 + 2 ≤ 387) (h1 : shp ρ.2.2.1 = (6, 8)) (h2 : shp (ρ.2.2.1 + 1) = (6, 16))
    (h : ∀ I' ρ', Rw ρ' → ρ'.2.2.1 = ρ.2.2.1 + 2 → ρ'.2.2.2 = 0 → Cst I' ρ' z s zs tl → (∀ c k, 245 ≤ c → c < ρ.2.2.1 → I' c k = I c k) → Q (.inl (some (.int (nI 1)))) (I', ρ')) :
    Ev xs 118 0 [.ref 0, .ref B, .ref (B + 1), .ref (B + 2), .ref (B + 3), .ref (B + 4), .ref (B + 5), .null, .null, .null, .null, .null, .null, .null, .null] [] (I, ρ) Q := by
  have hB := hL.1
  have hB6 := hL.2.1
  have hb := hG.1.bnd
  obtain ⟨N, hN⟩ : ∃ N, N = ρ.2.2.1 := ⟨_, rfl⟩
  have hNr : N = ρ.2.2.1 := hN
  rw [← hN] at hl h1 h2 hB6
  have hρ1 : (nwR ρ).2.2.1 = N + 1 := by rw [nwR_N, ← hN]
  have hρ2 : (nwR (nwR ρ)).2.2.1 = N + 2 := by rw [nwR_N, hρ1]
  obtain ⟨ρ2, hρ2e⟩ : ∃ ρ2, ρ2 = nwR (nwR ρ) := ⟨_, rfl⟩
  have hW2 : Rw ρ2 := by rw [hρ2e]; exact hW.nw.nw
  have hN2 : ρ2.2.2.1 = N + 2 := by rw [hρ2e]; exact hρ2
  have hX2 : ρ2.2.2.2 = 0 := by rw [hρ2e]; exact hX
  have hr2 : ∀ j, ρ2.1 61 j = ρ.1 61 j := fun j => by rw [hρ2e, nwR_r (by rw [hρ1]; omega), nwR_r (by omega)]
  have hL2 : LB B ρ2 := ⟨hB, by rw [hN2]; omega, hL.2.2⟩
  obtain ⟨I2, hI2⟩ : ∃ I2, I2 = nwI (nwI I N) (N + 1) := ⟨_, rfl⟩
  have hI2e : ∀ c k, c < N → I2 c k = I c k := fun c k hc => by rw [hI2, nwI_ne (by omega), nwI_ne (by omega)]
  apply w_L_told_0
  rw [gnw (n := 8) hX (by omega) (by rw [← hNr]; exact h1), cond_true]
  show bif _ then _ else _
  rw [newM_def, ← hNr, gnw (n := 16) (ρ := nwR ρ) hX (by rw [hρ1]; omega) (by rw [hρ1]; exact h2), cond_true]
  show Ev xs 116 0 _ _ _ _
  rw [newM_def, hρ1, ← hI2, ← hρ2e]
  have em1 : mN (nwI I N, nwR ρ) = N + 1 := hρ1
  have em0 : mN (I, ρ) = N := hNr.symm
  rw [em0, em1]
  refine l_same (n := 8) (m := 8) (by rw [hN2]; omega) (by rw [hN2]; omega) (hL.2.2 2 (by decide)) h1 (Nat.le_refl 8) (by decide) (by omega) fun I3 hI3 => ?_
  rw [QV_v]
  refine l_same (n := 16) (m := 16) (by rw [hN2]; omega) (by rw [hN2]; omega) (hL.2.2 3 (by decide)) h2 (Nat.le_refl 16) (by decide) (by omega) fun I4 hI4 => ?_
  rw [QV_v]
  have hI4e : ∀ c k, c < N → I4 c k = I c k := fun c k hc => by rw [hI4, if_neg (by omega), hI3, if_neg (by omega), hI2e c k hc]
  refine l_order hL2 hG.1 hG.2.2.2.1 hG.2.2.2.2 (by rw [hN2]; omega) (by rw [hN2]; omega) h1 h2 hB6 (by omega) (by omega) (w := pl0 z w00) (a := a) ?_ ?_ (fun j f hj hf => ?_) ⟨fun k hk => ?_, fun k hk => ?_⟩ fun I5 hI5 hO5 => ?_
  · rw [hI4e _ _ (by omega)]; exact (hG.2.2.1.c (k := 1) (by decide)).trans hG.1.h1
  · rw [hI4e _ _ (by omega)]; exact (hG.2.2.1.c (k := 3) (by decide)).trans hG.1.h3
  · rw [hI4e _ _ (by omega)]; exact hG.2.2.1.row hj hf
  · rw [hI4, if_neg (by omega), hI3, if_pos ⟨rfl, hk⟩, hI2e _ _ (by omega)]
    show VV _ (if 0 ≤ k ∧ k < 8 then z (12 + k) else _)
    rw [if_pos ⟨Nat.zero_le k, hk⟩]
    exact hG.2.2.1.reg hk
  · rw [hI4, if_pos ⟨rfl, hk⟩, hI3, if_neg (by omega), hI2e _ _ (by omega)]
    show VV _ (if 0 ≤ k ∧ k < 16 then z (20 + k) else _)
    rw [if_pos ⟨Nat.zero_le k, hk⟩]
    exact hG.2.2.1.mem hk
  · rw [QV_v]
    have hI5e : ∀ c k, c < N → I5 c k = I c k := fun c k hc => by rw [hI5 _ _ (by omega), hI4e c k hc]
    have hpl : plL z (n - a) a (pl0 z w00) = plV z := by unfold plV; rw [hG.1.i1, hG.1.i3]
    rw [hpl] at hO5
    have hC5 : TC I5 ρ2 z B N (N + 1) a b n := ⟨hL2, hG.ext fun o k ho => hI5e _ _ (by omega), hE, ⟨by rw [hN2]; omega, by rw [hN2]; omega, h1, h2, hB6, by omega⟩, hO5⟩
    have hT5 : Tg I5 ρ2 z s zs tl I5 ρ2 := ⟨hW2, rfl, hC.lo (fun c k hc => hI5e c k (by omega)) hr2, fun _ _ _ => rfl⟩
    refine t_41 hC5 (fun I' ρ' hT' => ?_) (e := n) (i := 0) (w := none) hT5 (Nat.zero_add n) (fun k hk => by cases hk) rfl
    exact h I' ρ' hT'.1 (by rw [hT'.2.1, ← hNr]; exact hN2) (by rw [hT'.2.1]; exact hX2) hT'.2.2.1 fun c k hc hcN => (hT'.2.2.2 c k hc).trans (hI5e c k (by omega))
