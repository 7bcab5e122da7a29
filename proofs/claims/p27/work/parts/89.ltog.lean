/-! class and law together: what a class's call leaves to the law -/
/-- since the memory (I0, ρ0): the class's state is as it says, the law's arrays are as they were -/
def Tg (I0 : In2) (ρ0 : Rh) (z : Zt) (s : Nat) (zs : Nat → Zt) (tl : Nat × Zt) (I : In2) (ρ : Rh) : Prop := Rw ρ ∧ ρ.2 = ρ0.2 ∧ Cst I ρ z s zs tl ∧ ∀ a k, 245 ≤ a → I a k = I0 a k
theorem Tg.next {I0 I I' : In2} {ρ0 ρ ρ' : Rh} {z z' : Zt} {s s' : Nat} {zs zs' : Nat → Zt} {tl tl' : Nat × Zt} (h : Tg I0 ρ0 z s zs tl I ρ) (h1 : Rw ρ') (h2 : ρ'.2 = ρ.2) (h3 : Cst I' ρ' z' s' zs' tl') (h4 : ∀ a k, 245 ≤ a → I' a k = I a k) : Tg I0 ρ0 z' s' zs' tl' I' ρ' :=
  ⟨h1, h2.trans h.2.1, h3, fun a k ha => (h4 a k ha).trans (h.2.2.2 a k ha)⟩
theorem Tg.ok {I0 I : In2} {ρ0 ρ : Rh} {z z' : Zt} {s s' : Nat} {zs zs' : Nat → Zt} {tl tl' : Nat × Zt} {Q : Post} {v : Int32} (hT : Tg I0 ρ0 z s zs tl I ρ) (h : ∀ I' ρ', Tg I0 ρ0 z' s' zs' tl' I' ρ' → Q (.inl (some (.int v))) (I', ρ')) : KOk Q I ρ v z' s' zs' tl' :=
  fun _ _ h1 h2 h3 h4 => h _ _ (hT.next h1 h2 h3 h4)
section Tog
variable {xs : Scr} {I0 I : In2} {ρ0 ρ : Rh} {Q : Post} {z : Zt} {s : Nat} {zs : Nat → Zt} {tl : Nat × Zt}
theorem Tg.W (hT : Tg I0 ρ0 z s zs tl I ρ) : Rw ρ := hT.1
theorem Tg.bl (hT : Tg I0 ρ0 z s zs tl I ρ) {B : Nat} (hB : 245 ≤ B) : bl I B = bl I0 B := by
  funext o k; exact hT.2.2.2 _ _ (by omega)
theorem Tg.LB (hT : Tg I0 ρ0 z s zs tl I ρ) {B : Nat} (hL : LB B ρ0) : Jvm.Pilot.CAlibiWindowLaw_law_r2562_ce93eb.LB B ρ := ⟨hL.1, by rw [hT.2.1]; exact hL.2.1, hL.2.2⟩
theorem T_instruction {i w : Nat} (hT : Tg I0 ρ0 z s zs tl I ρ) (hi : i < inN z) (hn : inN z < 2147483648) (hw : w < 7) (h : ∀ I' ρ', Tg I0 ρ0 z s zs tl I' ρ' → Q (.inl (some (.int (pt z i w)))) (I', ρ')) : Ev xs 77 0 [.ref 0, .int (nI i), .int (nI w)] [] (I, ρ) Q := by
  refine k_instruction hT.1 hT.2.2.1 (fun i' w' h1 h2 e1 e2 => ?_) (fun e => ?_) (fun _ e => ?_)
  · rw [nI_eqI (by omega) (by omega)] at e1 e2
    subst e1; subst e2
    exact hT.ok h
  · rw [inB_n hn hi] at e; cases e
  · rw [inB_n (by decide) hw] at e; cases e
theorem T_entry {i w a b : Nat} (hT : Tg I0 ρ0 z s zs tl I ρ) (h3 : z 3 = nI a) (h2 : z 2 = nI b) (ha : a ≤ i) (hi : i < b) (hb : b ≤ 24) (hw : w < 9) (h : ∀ I' ρ', Tg I0 ρ0 z s zs tl I' ρ' → Q (.inl (some (.int (epV z a i w)))) (I', ρ')) : Ev xs 78 0 [.ref 0, .int (nI (i - a)), .int (nI w)] [] (I, ρ) Q := by
  have e3 : idx (z 3) = a := by rw [h3, idx_nI (by omega)]
  have hen : enN z = b - a := by unfold enN; rw [e3, h2, idx_nI (by omega)]
  refine k_entry hT.1 hT.2.2.1 (fun i' w' h1 h2 e1 e2 => ?_) (fun e => ?_) (fun _ e => ?_)
  · rw [hen] at h1
    rw [nI_eqI (by omega) (by omega)] at e1 e2
    subst e1; subst e2
    rw [e3, show a + (i - a) = i by omega]
    exact hT.ok h
  · rw [inB_n (by rw [hen]; omega) (by rw [hen]; omega)] at e; cases e
  · rw [inB_n (by decide) hw] at e; cases e
theorem T_whyNot {i a b : Nat} (hT : Tg I0 ρ0 z s zs tl I ρ) (h3 : z 3 = nI a) (h2 : z 2 = nI b) (ha : a ≤ i) (hi : i < b) (hb : b ≤ 24) (h : ∀ I' ρ', Tg I0 ρ0 z s zs tl I' ρ' → Q (.inl (some (.int (rsn z a i)))) (I', ρ')) : Ev xs 79 0 [.ref 0, .int (nI (i - a))] [] (I, ρ) Q := by
  have e3 : idx (z 3) = a := by rw [h3, idx_nI (by omega)]
  have hen : enN z = b - a := by unfold enN; rw [e3, h2, idx_nI (by omega)]
  refine k_whyNot hT.1 hT.2.2.1 (fun i' h1 e1 => ?_) (fun e => ?_)
  · rw [hen] at h1
    rw [nI_eqI (by omega) (by omega)] at e1
    subst e1
    rw [e3, show a + (i - a) = i by omega]
    exact hT.ok h
  · rw [inB_n (by rw [hen]; omega) (by rw [hen]; omega)] at e; cases e
theorem T_register {i w : Nat} (hT : Tg I0 ρ0 z s zs tl I ρ) (hi : i < 8) (hw : w < 3) (h : ∀ I' ρ', Tg I0 ρ0 z s zs tl I' ρ' → Q (.inl (some (.int (rgV z i w)))) (I', ρ')) : Ev xs 80 0 [.ref 0, .int (nI i), .int (nI w)] [] (I, ρ) Q := by
  refine k_register hT.1 hT.2.2.1 (fun i' w' h1 h2 e1 e2 => ?_) (fun e => ?_) (fun _ e => ?_)
  · rw [nI_eqI (by omega) (by omega)] at e1 e2
    subst e1; subst e2
    exact hT.ok h
  · rw [inB_n (by decide) hi] at e; cases e
  · rw [inB_n (by decide) hw] at e; cases e
theorem T_cell {i w : Nat} (hT : Tg I0 ρ0 z s zs tl I ρ) (hi : i < 16) (hw : w < 2) (h : ∀ I' ρ', Tg I0 ρ0 z s zs tl I' ρ' → Q (.inl (some (.int (clV z i w)))) (I', ρ')) : Ev xs 81 0 [.ref 0, .int (nI i), .int (nI w)] [] (I, ρ) Q := by
  refine k_cell hT.1 hT.2.2.1 (fun i' w' h1 h2 e1 e2 => ?_) (fun e => ?_) (fun _ e => ?_)
  · rw [nI_eqI (by omega) (by omega)] at e1 e2
    subst e1; subst e2
    exact hT.ok h
  · rw [inB_n (by decide) hi] at e; cases e
  · rw [inB_n (by decide) hw] at e; cases e
theorem T_count {w : Nat} (hT : Tg I0 ρ0 z s zs tl I ρ) (hw : w < 12) (h : ∀ I' ρ', Tg I0 ρ0 z s zs tl I' ρ' → Q (.inl (some (.int (cnV z (idx (z 3)) (idx (z 2)) (idx (z 1)) s w)))) (I', ρ')) : Ev xs 82 0 [.ref 0, .int (nI w)] [] (I, ρ) Q := by
  refine k_count hT.1 hT.2.2.1 (fun w' h2 e2 => ?_) (fun e => ?_)
  · rw [nI_eqI (by omega) (by omega)] at e2
    subst e2
    exact hT.ok h
  · rw [inB_n (by decide) hw] at e; cases e
theorem T_setting {w : Nat} (hT : Tg I0 ρ0 z s zs tl I ρ) (hw : w < 3) (h : ∀ I' ρ', Tg I0 ρ0 z s zs tl I' ρ' → Q (.inl (some (.int (z (9 + w))))) (I', ρ')) : Ev xs 83 0 [.ref 0, .int (nI w)] [] (I, ρ) Q := by
  refine k_setting hT.1 hT.2.2.1 (fun w' h2 e2 => ?_) (fun e => ?_)
  · rw [nI_eqI (by omega) (by omega)] at e2
    subst e2
    exact hT.ok h
  · rw [inB_n (by decide) hw] at e; cases e
theorem T_worst (hT : Tg I0 ρ0 z s zs tl I ρ) (h : ∀ I' ρ', Tg I0 ρ0 z s zs tl I' ρ' → Q (.inl (some (.int (wsF z (inN z) 0 nM (nI 0))))) (I', ρ')) : Ev xs 91 0 [.ref 0, .null, .null, .null, .null] [] (I, ρ) Q := k_worst hT.1 hT.2.2.1 (hT.ok h)
theorem T_ifRun {N w : Nat} (hT : Tg I0 ρ0 z s zs tl I ρ) (h1 : 1 ≤ N) (h2 : N ≤ 100) (hw : w < 3) (h : ∀ I' ρ', Tg I0 ρ0 z s zs tl I' ρ' → Q (.inl (some (.int (irV z N w)))) (I', ρ')) : Ev xs 88 0 [.ref 0, .int (nI N), .int (nI w)] [] (I, ρ) Q := by
  refine k_ifRun hT.1 hT.2.2.1 (fun N' w' a1 a2 a3 e1 e2 => ?_) (fun e => ?_)
  · rw [nI_eqI (by omega) (by omega)] at e1 e2
    subst e1; subst e2
    exact hT.ok h
  · rw [inB_n (by decide) hw, Bool.and_true] at e
    unfold okN at e
    rw [icB_lt (by omega) (by decide), icB_gt (by omega) (by decide), decide_eq_false (by omega), decide_eq_false (by omega)] at e
    cases e
theorem T_cyclesLeft (hT : Tg I0 ρ0 z s zs tl I ρ) (h : ∀ I' ρ', Tg I0 ρ0 z s zs tl I' ρ' → Q (.inl (some (.int (nI (goN 144 z))))) (I', ρ')) : Ev xs 89 0 [.ref 0] [] (I, ρ) Q := k_cyclesLeft hT.1 hT.2.2.1 (hT.ok h)
theorem T_bestWindow {w : Nat} (hT : Tg I0 ρ0 z s zs tl I ρ) (hw : w < 3) (h : ∀ I' ρ', Tg I0 ρ0 z s zs tl I' ρ' → Q (.inl (some (.int (bwV z w)))) (I', ρ')) : Ev xs 90 0 [.ref 0, .int (nI w)] [] (I, ρ) Q := by
  refine k_bestWindow hT.1 hT.2.2.1 (fun w' a3 e2 => ?_) (fun e => ?_)
  · rw [nI_eqI (by omega) (by omega)] at e2
    subst e2
    exact hT.ok h
  · rw [inB_n (by decide) hw] at e; cases e
theorem T_share (hT : Tg I0 ρ0 z s zs tl I ρ) (h : Q (.inl (some (.double (shZ z)))) (I, ρ)) : Ev xs 92 0 [.ref 0] [] (I, ρ) Q := (k_share hT.1 hT.2.2.1.1).mpr h
theorem T_run {w cy : Nat} (hT : Tg I0 ρ0 z s zs tl I ρ) (h1 : 1 ≤ w) (h2 : w ≤ 100) (h0 : z 0 = nI cy) (hc : cy + w ≤ 10000) (h : ∀ I' ρ', Tg I0 ρ0 (itC w z) (svN s) (svZ s zs z) tl I' ρ' → Q (.inl (some (.int ((itC w z) 6 - z 6)))) (I', ρ')) : Ev xs 67 0 [.ref 0, .int (nI w), .null] [] (I, ρ) Q := by
  refine k_run hT.1 hT.2.2.1 (fun w' cy' a1 a2 e1 e2 a3 => ?_) (fun e => ?_) (fun w' cy' a1 e1 e2 a2 a3 => ?_)
  · rw [nI_eqI (by omega) (by omega)] at e1
    subst e1
    exact hT.ok h
  · unfold okN at e
    rw [icB_lt (by omega) (by decide), icB_gt (by omega) (by decide), decide_eq_false (by omega), decide_eq_false (by omega)] at e
    cases e
  · rw [nI_eqI (by omega) (by omega)] at e1
    rw [h0, nI_eqI (by omega) (by omega)] at e2
    omega
theorem T_flush (hT : Tg I0 ρ0 z s zs tl I ρ) (h : ∀ I' ρ', Tg I0 ρ0 (uz z 2 (z 3)) (svN s) (svZ s zs z) tl I' ρ' → Q (.inl (some (.int (z 2 - z 3)))) (I', ρ')) : Ev xs 69 0 [.ref 0, .null] [] (I, ρ) Q := k_flush hT.1 hT.2.2.1 (hT.ok h)
theorem T_again (hT : Tg I0 ρ0 z s zs tl I ρ) (h : ∀ I' ρ', Tg I0 ρ0 (bgF z) (svN s) (svZ s zs z) tl I' ρ' → Q (.inl (some (.int (z 3)))) (I', ρ')) : Ev xs 70 0 [.ref 0, .null] [] (I, ρ) Q := k_again hT.1 hT.2.2.1 (hT.ok h)
theorem T_clear (hT : Tg I0 ρ0 z s zs tl I ρ) (h : ∀ I' ρ', Tg I0 ρ0 z s zs (0, tl.2) I' ρ' → Q (.inl (some (.int (nI tl.1)))) (I', ρ')) : Ev xs 72 0 [.ref 0, .null] [] (I, ρ) Q := k_clear hT.1 hT.2.2.1 (hT.ok h)
theorem T_set {j v : Nat} (hT : Tg I0 ρ0 z s zs tl I ρ) (hj : j < 3) (h1 : 1 ≤ v) (h2 : v ≤ if j = 0 then 8 else 4) (h : ∀ I' ρ', Tg I0 ρ0 (uz z (9 + j) (nI v)) (svN s) (svZ s zs z) tl I' ρ' → Q (.inl (some (.int (z (9 + j))))) (I', ρ')) : Ev xs 63 0 [.ref 0, .int (nI j), .int (nI v), .null] [] (I, ρ) Q := by
  refine k_set hT.1 hT.2.2.1 (fun j' a1 e1 _ => ?_) (fun e => ?_) (fun _ e => ?_)
  · rw [nI_eqI (by omega) (by omega)] at e1
    subst e1
    exact hT.ok h
  · rw [inB_n (by decide) hj] at e; cases e
  · exfalso
    have hv8 : v ≤ 8 := by split at h2 <;> omega
    unfold okV at e
    rw [icB_lt (by omega) (by decide), decide_eq_false (by omega)] at e
    by_cases hj0 : j = 0
    · subst hj0
      rw [if_pos rfl] at e h2
      rw [icB_gt (by omega) (by decide), decide_eq_false (by omega)] at e; cases e
    · rw [if_neg hj0] at h2
      rw [if_neg (not_nI (by omega) (by decide) hj0)] at e
      rw [icB_gt (by omega) (by decide), decide_eq_false (by omega)] at e; cases e
theorem okR_of {v : Int32} (h : InR v) : okR v = true := by unfold okR; unfold InR at h; rw [h]; rfl
theorem T_putReg {j : Nat} {v : Int32} (hT : Tg I0 ρ0 z s zs tl I ρ) (hj : j < 8) (hv : InR v) (h23 : z 2 = z 3) (h : ∀ I' ρ', Tg I0 ρ0 (uz z (12 + j) v) (svN s) (svZ s zs z) tl I' ρ' → Q (.inl (some (.int (z (12 + j))))) (I', ρ')) : Ev xs 64 0 [.ref 0, .int (nI j), .int v] [] (I, ρ) Q := by
  refine k_putReg hT.1 hT.2.2.1 (fun j' a1 e1 _ _ => ?_) (fun e => ?_) (fun _ e => ?_) (fun _ _ e => absurd h23 e)
  · rw [nI_eqI (by omega) (by omega)] at e1
    subst e1
    exact hT.ok h
  · rw [inB_n (by decide) hj] at e; cases e
  · rw [okR_of hv] at e; cases e
theorem T_putCell {j : Nat} {v : Int32} (hT : Tg I0 ρ0 z s zs tl I ρ) (hj : j < 16) (hv : InR v) (h23 : z 2 = z 3) (h : ∀ I' ρ', Tg I0 ρ0 (uz z (20 + j) v) (svN s) (svZ s zs z) tl I' ρ' → Q (.inl (some (.int (z (20 + j))))) (I', ρ')) : Ev xs 65 0 [.ref 0, .int (nI j), .int v] [] (I, ρ) Q := by
  refine k_putCell hT.1 hT.2.2.1 (fun j' a1 e1 _ _ => ?_) (fun e => ?_) (fun _ e => ?_) (fun _ _ e => absurd h23 e)
  · rw [nI_eqI (by omega) (by omega)] at e1
    subst e1
    exact hT.ok h
  · rw [inB_n (by decide) hj] at e; cases e
  · rw [okR_of hv] at e; cases e
theorem T_append {w : Nat} (hT : Tg I0 ρ0 z s zs tl I ρ) (h1 : 33 ≤ w) (h2 : w ≤ 126) (hl : tl.1 < 120) (h : ∀ I' ρ', Tg I0 ρ0 z s zs (apT tl (nI w)) I' ρ' → Q (.inl (some (.int (nI (tl.1 + 1))))) (I', ρ')) : Ev xs 71 0 [.ref 0, .int (nI w)] [] (I, ρ) Q := by
  refine k_append hT.1 hT.2.2.1 (fun w' a1 a2 e1 a3 => hT.ok h) (fun e => ?_) (fun _ e => absurd hl e)
  exfalso
  unfold okA at e
  rw [icB_lt (by omega) (by decide), icB_gt (by omega) (by decide), decide_eq_false (by omega), decide_eq_false (by omega)] at e
  cases e
theorem T_load (hT : Tg I0 ρ0 z s zs tl I ρ) (hF : txF tl = true) (hK : txK tl tl.1 + 1 ≤ 24) (hwf : ∀ i, i ≤ txK tl tl.1 → WfR (txW tl (txB tl i) 0) (txW tl (txB tl i) 1) (txW tl (txB tl i) 2) (txW tl (txB tl i) 3) (txW tl (txB tl i) 4)) (h : ∀ I' ρ', Tg I0 ρ0 (ldZ tl z) (svN s) (svZ s zs z) (0, tl.2) I' ρ' → Q (.inl (some (.int (nI (txK tl tl.1 + 1))))) (I', ρ')) : Ev xs 74 0 [.ref 0, .null, .null, .null] [] (I, ρ) Q :=
  k_load hT.1 hT.2.2.1 (fun _ _ => hT.ok h) (fun _ => hwf) (fun e => by rw [hF] at e; cases e) (fun _ e => absurd hK e)
end Tog
