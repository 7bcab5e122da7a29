/-! the law's calls of the class, with their handlers -/
def cd (e1 e2 e3 E : Nat) : Nat := if E = 0 then 0 else if E = e1 then 1 else if E = e2 then 2 else if E = e3 then 3 else 0
/-- what a call must come to, for the law's wrapper of it -/
def PL (Q : Post) (c : Nat → Nat) : Post := QI (fun x μ => mN μ = 258 ∧ Q (.inl (some (.int (nI 0)))) (setL μ 257 0 x.toInt64)) (fun E μ => ¬ c E = 0 ∧ Q (.inl (some (.int (nI (c E))))) μ)
theorem PL_i {Q : Post} {c : Nat → Nat} {x : Int32} {I : In2} {ρ : Rh} (hW : Rw ρ) (h : Q (.inl (some (.int (nI 0)))) (setL (I, ρ) 257 0 x.toInt64)) : PL Q c (.inl (some (.int x))) (I, ρ) := ⟨hW.1, h⟩
theorem PL_e {Q : Post} {c : Nat → Nat} {E : Nat} {μ : Mem} (hc : ¬ c E = 0) (h : Q (.inl (some (.int (nI (c E))))) μ) : PL Q c (.inr E) μ := ⟨hc, h⟩
theorem PL_ok {Q : Post} {c : Nat → Nat} {X : Nat → Mem → Prop} (hX : ∀ E μ, ¬ c E = 0 → Q (.inl (some (.int (nI (c E))))) μ → X E μ) (o : Out) (μ : Mem) (h : PL Q c o μ) : QI (fun x μ1 => bif gA μ1 257 9 (nI 0) then ((fun u3 : Mem => Q (.inl (some (.int (nI 0)))) u3) (setL μ1 257 (idx (nI 0)) x.toInt64)) else False) X o μ := by
  have g : ∀ {μ : Mem}, mN μ = 258 → gA μ 257 9 (nI 0) = true := fun h => by unfold gA; rw [h]; decide
  rcases o with (_ | v) | E
  · exact h
  · cases v with
    | int x => rw [QI_i, g h.1, cond_true]; exact h.2
    | _ => exact h
  · exact hX E μ h.1 h.2
theorem L_set {xs : Scr} {I : In2} {ρ : Rh} {Q : Post} {p1 p2 : Int32} (hW : Rw ρ) (h : Ev xs 63 0 [.ref 0, .int p1, .int p2, .null] [] (I, ρ) (PL Q (cd 1 2 0))) : Ev xs 193 0 [.ref 0, .int p1, .int p2, .ref 257, .null] [] (I, ρ) Q := by
  apply w_L_set_0
  rw [gc_O hW, cond_true]
  refine h.imp (PL_ok fun E μ hc hq => ?_)
  by_cases e1 : E = 1
  · subst e1
    unfold KX; rw [show hnd 193 5 1 = some (15, 4) by decide]
    show Ev xs 193 15 [.ref 0, .int p1, .int p2, .ref 257, .null] [] μ Q
    exact wp [] 2000 hq
  by_cases e2 : E = 2
  · subst e2
    unfold KX; rw [show hnd 193 5 2 = some (19, 4) by decide]
    show Ev xs 193 19 [.ref 0, .int p1, .int p2, .ref 257, .null] [] μ Q
    exact wp [] 2000 hq
  by_cases e9 : E = 0
  · subst e9; exact absurd (by unfold cd; rfl) hc
  exact absurd (show cd 1 2 0 E = 0 by unfold cd; rw [if_neg e9, if_neg e1, if_neg e2, if_neg e9]) hc
theorem L_putRegister {xs : Scr} {I : In2} {ρ : Rh} {Q : Post} {p1 p2 : Int32} (hW : Rw ρ) (h : Ev xs 64 0 [.ref 0, .int p1, .int p2] [] (I, ρ) (PL Q (cd 1 2 3))) : Ev xs 194 0 [.ref 0, .int p1, .int p2, .ref 257, .null] [] (I, ρ) Q := by
  apply w_L_putRegister_0
  rw [gc_O hW, cond_true]
  refine h.imp (PL_ok fun E μ hc hq => ?_)
  by_cases e1 : E = 1
  · subst e1
    unfold KX; rw [show hnd 194 5 1 = some (15, 4) by decide]
    show Ev xs 194 15 [.ref 0, .int p1, .int p2, .ref 257, .null] [] μ Q
    exact wp [] 2000 hq
  by_cases e2 : E = 2
  · subst e2
    unfold KX; rw [show hnd 194 5 2 = some (19, 4) by decide]
    show Ev xs 194 19 [.ref 0, .int p1, .int p2, .ref 257, .null] [] μ Q
    exact wp [] 2000 hq
  by_cases e3 : E = 3
  · subst e3
    unfold KX; rw [show hnd 194 5 3 = some (23, 4) by decide]
    show Ev xs 194 23 [.ref 0, .int p1, .int p2, .ref 257, .null] [] μ Q
    exact wp [] 2000 hq
  by_cases e9 : E = 0
  · subst e9; exact absurd (by unfold cd; rfl) hc
  exact absurd (show cd 1 2 3 E = 0 by unfold cd; rw [if_neg e9, if_neg e1, if_neg e2, if_neg e3]) hc
theorem L_putCell {xs : Scr} {I : In2} {ρ : Rh} {Q : Post} {p1 p2 : Int32} (hW : Rw ρ) (h : Ev xs 65 0 [.ref 0, .int p1, .int p2] [] (I, ρ) (PL Q (cd 1 2 3))) : Ev xs 195 0 [.ref 0, .int p1, .int p2, .ref 257, .null] [] (I, ρ) Q := by
  apply w_L_putCell_0
  rw [gc_O hW, cond_true]
  refine h.imp (PL_ok fun E μ hc hq => ?_)
  by_cases e1 : E = 1
  · subst e1
    unfold KX; rw [show hnd 195 5 1 = some (15, 4) by decide]
    show Ev xs 195 15 [.ref 0, .int p1, .int p2, .ref 257, .null] [] μ Q
    exact wp [] 2000 hq
  by_cases e2 : E = 2
  · subst e2
    unfold KX; rw [show hnd 195 5 2 = some (19, 4) by decide]
    show Ev xs 195 19 [.ref 0, .int p1, .int p2, .ref 257, .null] [] μ Q
    exact wp [] 2000 hq
  by_cases e3 : E = 3
  · subst e3
    unfold KX; rw [show hnd 195 5 3 = some (23, 4) by decide]
    show Ev xs 195 23 [.ref 0, .int p1, .int p2, .ref 257, .null] [] μ Q
    exact wp [] 2000 hq
  by_cases e9 : E = 0
  · subst e9; exact absurd (by unfold cd; rfl) hc
  exact absurd (show cd 1 2 3 E = 0 by unfold cd; rw [if_neg e9, if_neg e1, if_neg e2, if_neg e3]) hc
theorem L_run {xs : Scr} {I : In2} {ρ : Rh} {Q : Post} {p1 : Int32} (hW : Rw ρ) (h : Ev xs 67 0 [.ref 0, .int p1, .null] [] (I, ρ) (PL Q (cd 2 3 0))) : Ev xs 196 0 [.ref 0, .int p1, .ref 257, .null] [] (I, ρ) Q := by
  apply w_L_run_0
  rw [gc_O hW, cond_true]
  refine h.imp (PL_ok fun E μ hc hq => ?_)
  by_cases e2 : E = 2
  · subst e2
    unfold KX; rw [show hnd 196 4 2 = some (13, 3) by decide]
    show Ev xs 196 13 [.ref 0, .int p1, .ref 257, .null] [] μ Q
    exact wp [] 2000 hq
  by_cases e3 : E = 3
  · subst e3
    unfold KX; rw [show hnd 196 4 3 = some (16, 3) by decide]
    show Ev xs 196 16 [.ref 0, .int p1, .ref 257, .null] [] μ Q
    exact wp [] 2000 hq
  by_cases e9 : E = 0
  · subst e9; exact absurd (by unfold cd; rfl) hc
  exact absurd (show cd 2 3 0 E = 0 by unfold cd; rw [if_neg e9, if_neg e2, if_neg e3, if_neg e9]) hc
theorem L_append {xs : Scr} {I : In2} {ρ : Rh} {Q : Post} {p1 : Int32} (hW : Rw ρ) (h : Ev xs 71 0 [.ref 0, .int p1] [] (I, ρ) (PL Q (cd 2 3 0))) : Ev xs 197 0 [.ref 0, .int p1, .ref 257, .null] [] (I, ρ) Q := by
  apply w_L_append_0
  rw [gc_O hW, cond_true]
  refine h.imp (PL_ok fun E μ hc hq => ?_)
  by_cases e2 : E = 2
  · subst e2
    unfold KX; rw [show hnd 197 4 2 = some (13, 3) by decide]
    show Ev xs 197 13 [.ref 0, .int p1, .ref 257, .null] [] μ Q
    exact wp [] 2000 hq
  by_cases e3 : E = 3
  · subst e3
    unfold KX; rw [show hnd 197 4 3 = some (16, 3) by decide]
    show Ev xs 197 16 [.ref 0, .int p1, .ref 257, .null] [] μ Q
    exact wp [] 2000 hq
  by_cases e9 : E = 0
  · subst e9; exact absurd (by unfold cd; rfl) hc
  exact absurd (show cd 2 3 0 E = 0 by unfold cd; rw [if_neg e9, if_neg e2, if_neg e3, if_neg e9]) hc
theorem L_load {xs : Scr} {I : In2} {ρ : Rh} {Q : Post} (hW : Rw ρ) (h : Ev xs 74 0 [.ref 0, .null, .null, .null] [] (I, ρ) (PL Q (cd 2 3 0))) : Ev xs 198 0 [.ref 0, .ref 257, .null] [] (I, ρ) Q := by
  apply w_L_load_0
  rw [gc_O hW, cond_true]
  refine h.imp (PL_ok fun E μ hc hq => ?_)
  by_cases e2 : E = 2
  · subst e2
    unfold KX; rw [show hnd 198 3 2 = some (12, 2) by decide]
    show Ev xs 198 12 [.ref 0, .ref 257, .null] [] μ Q
    exact wp [] 2000 hq
  by_cases e3 : E = 3
  · subst e3
    unfold KX; rw [show hnd 198 3 3 = some (15, 2) by decide]
    show Ev xs 198 15 [.ref 0, .ref 257, .null] [] μ Q
    exact wp [] 2000 hq
  by_cases e9 : E = 0
  · subst e9; exact absurd (by unfold cd; rfl) hc
  exact absurd (show cd 2 3 0 E = 0 by unfold cd; rw [if_neg e9, if_neg e2, if_neg e3, if_neg e9]) hc
theorem L_undo {xs : Scr} {I : In2} {ρ : Rh} {Q : Post} (hW : Rw ρ) (h : Ev xs 75 0 [.ref 0] [] (I, ρ) (PL Q (cd 3 0 0))) : Ev xs 199 0 [.ref 0, .ref 257, .null] [] (I, ρ) Q := by
  apply w_L_undo_0
  rw [gc_O hW, cond_true]
  refine h.imp (PL_ok fun E μ hc hq => ?_)
  by_cases e3 : E = 3
  · subst e3
    unfold KX; rw [show hnd 199 3 3 = some (12, 2) by decide]
    show Ev xs 199 12 [.ref 0, .ref 257, .null] [] μ Q
    exact wp [] 2000 hq
  by_cases e9 : E = 0
  · subst e9; exact absurd (by unfold cd; rfl) hc
  exact absurd (show cd 3 0 0 E = 0 by unfold cd; rw [if_neg e9, if_neg e3, if_neg e9, if_neg e9]) hc
theorem L_instruction {xs : Scr} {I : In2} {ρ : Rh} {Q : Post} {p1 p2 : Int32} (hW : Rw ρ) (h : Ev xs 77 0 [.ref 0, .int p1, .int p2] [] (I, ρ) (PL Q (cd 1 2 0))) : Ev xs 200 0 [.ref 0, .int p1, .int p2, .ref 257, .null] [] (I, ρ) Q := by
  apply w_L_instruction_0
  rw [gc_O hW, cond_true]
  refine h.imp (PL_ok fun E μ hc hq => ?_)
  by_cases e1 : E = 1
  · subst e1
    unfold KX; rw [show hnd 200 5 1 = some (15, 4) by decide]
    show Ev xs 200 15 [.ref 0, .int p1, .int p2, .ref 257, .null] [] μ Q
    exact wp [] 2000 hq
  by_cases e2 : E = 2
  · subst e2
    unfold KX; rw [show hnd 200 5 2 = some (19, 4) by decide]
    show Ev xs 200 19 [.ref 0, .int p1, .int p2, .ref 257, .null] [] μ Q
    exact wp [] 2000 hq
  by_cases e9 : E = 0
  · subst e9; exact absurd (by unfold cd; rfl) hc
  exact absurd (show cd 1 2 0 E = 0 by unfold cd; rw [if_neg e9, if_neg e1, if_neg e2, if_neg e9]) hc
theorem L_entry {xs : Scr} {I : In2} {ρ : Rh} {Q : Post} {p1 p2 : Int32} (hW : Rw ρ) (h : Ev xs 78 0 [.ref 0, .int p1, .int p2] [] (I, ρ) (PL Q (cd 1 2 0))) : Ev xs 201 0 [.ref 0, .int p1, .int p2, .ref 257, .null] [] (I, ρ) Q := by
  apply w_L_entry_0
  rw [gc_O hW, cond_true]
  refine h.imp (PL_ok fun E μ hc hq => ?_)
  by_cases e1 : E = 1
  · subst e1
    unfold KX; rw [show hnd 201 5 1 = some (15, 4) by decide]
    show Ev xs 201 15 [.ref 0, .int p1, .int p2, .ref 257, .null] [] μ Q
    exact wp [] 2000 hq
  by_cases e2 : E = 2
  · subst e2
    unfold KX; rw [show hnd 201 5 2 = some (19, 4) by decide]
    show Ev xs 201 19 [.ref 0, .int p1, .int p2, .ref 257, .null] [] μ Q
    exact wp [] 2000 hq
  by_cases e9 : E = 0
  · subst e9; exact absurd (by unfold cd; rfl) hc
  exact absurd (show cd 1 2 0 E = 0 by unfold cd; rw [if_neg e9, if_neg e1, if_neg e2, if_neg e9]) hc
theorem L_whyNot {xs : Scr} {I : In2} {ρ : Rh} {Q : Post} {p1 : Int32} (hW : Rw ρ) (h : Ev xs 79 0 [.ref 0, .int p1] [] (I, ρ) (PL Q (cd 1 0 0))) : Ev xs 202 0 [.ref 0, .int p1, .ref 257, .null] [] (I, ρ) Q := by
  apply w_L_whyNot_0
  rw [gc_O hW, cond_true]
  refine h.imp (PL_ok fun E μ hc hq => ?_)
  by_cases e1 : E = 1
  · subst e1
    unfold KX; rw [show hnd 202 4 1 = some (13, 3) by decide]
    show Ev xs 202 13 [.ref 0, .int p1, .ref 257, .null] [] μ Q
    exact wp [] 2000 hq
  by_cases e9 : E = 0
  · subst e9; exact absurd (by unfold cd; rfl) hc
  exact absurd (show cd 1 0 0 E = 0 by unfold cd; rw [if_neg e9, if_neg e1, if_neg e9, if_neg e9]) hc
theorem L_register {xs : Scr} {I : In2} {ρ : Rh} {Q : Post} {p1 p2 : Int32} (hW : Rw ρ) (h : Ev xs 80 0 [.ref 0, .int p1, .int p2] [] (I, ρ) (PL Q (cd 1 2 0))) : Ev xs 203 0 [.ref 0, .int p1, .int p2, .ref 257, .null] [] (I, ρ) Q := by
  apply w_L_register_0
  rw [gc_O hW, cond_true]
  refine h.imp (PL_ok fun E μ hc hq => ?_)
  by_cases e1 : E = 1
  · subst e1
    unfold KX; rw [show hnd 203 5 1 = some (15, 4) by decide]
    show Ev xs 203 15 [.ref 0, .int p1, .int p2, .ref 257, .null] [] μ Q
    exact wp [] 2000 hq
  by_cases e2 : E = 2
  · subst e2
    unfold KX; rw [show hnd 203 5 2 = some (19, 4) by decide]
    show Ev xs 203 19 [.ref 0, .int p1, .int p2, .ref 257, .null] [] μ Q
    exact wp [] 2000 hq
  by_cases e9 : E = 0
  · subst e9; exact absurd (by unfold cd; rfl) hc
  exact absurd (show cd 1 2 0 E = 0 by unfold cd; rw [if_neg e9, if_neg e1, if_neg e2, if_neg e9]) hc
theorem L_cell {xs : Scr} {I : In2} {ρ : Rh} {Q : Post} {p1 p2 : Int32} (hW : Rw ρ) (h : Ev xs 81 0 [.ref 0, .int p1, .int p2] [] (I, ρ) (PL Q (cd 1 2 0))) : Ev xs 204 0 [.ref 0, .int p1, .int p2, .ref 257, .null] [] (I, ρ) Q := by
  apply w_L_cell_0
  rw [gc_O hW, cond_true]
  refine h.imp (PL_ok fun E μ hc hq => ?_)
  by_cases e1 : E = 1
  · subst e1
    unfold KX; rw [show hnd 204 5 1 = some (15, 4) by decide]
    show Ev xs 204 15 [.ref 0, .int p1, .int p2, .ref 257, .null] [] μ Q
    exact wp [] 2000 hq
  by_cases e2 : E = 2
  · subst e2
    unfold KX; rw [show hnd 204 5 2 = some (19, 4) by decide]
    show Ev xs 204 19 [.ref 0, .int p1, .int p2, .ref 257, .null] [] μ Q
    exact wp [] 2000 hq
  by_cases e9 : E = 0
  · subst e9; exact absurd (by unfold cd; rfl) hc
  exact absurd (show cd 1 2 0 E = 0 by unfold cd; rw [if_neg e9, if_neg e1, if_neg e2, if_neg e9]) hc
theorem L_count {xs : Scr} {I : In2} {ρ : Rh} {Q : Post} {p1 : Int32} (hW : Rw ρ) (h : Ev xs 82 0 [.ref 0, .int p1] [] (I, ρ) (PL Q (cd 2 0 0))) : Ev xs 205 0 [.ref 0, .int p1, .ref 257, .null] [] (I, ρ) Q := by
  apply w_L_count_0
  rw [gc_O hW, cond_true]
  refine h.imp (PL_ok fun E μ hc hq => ?_)
  by_cases e2 : E = 2
  · subst e2
    unfold KX; rw [show hnd 205 4 2 = some (13, 3) by decide]
    show Ev xs 205 13 [.ref 0, .int p1, .ref 257, .null] [] μ Q
    exact wp [] 2000 hq
  by_cases e9 : E = 0
  · subst e9; exact absurd (by unfold cd; rfl) hc
  exact absurd (show cd 2 0 0 E = 0 by unfold cd; rw [if_neg e9, if_neg e2, if_neg e9, if_neg e9]) hc
theorem L_setting {xs : Scr} {I : In2} {ρ : Rh} {Q : Post} {p1 : Int32} (hW : Rw ρ) (h : Ev xs 83 0 [.ref 0, .int p1] [] (I, ρ) (PL Q (cd 1 0 0))) : Ev xs 206 0 [.ref 0, .int p1, .ref 257, .null] [] (I, ρ) Q := by
  apply w_L_setting_0
  rw [gc_O hW, cond_true]
  refine h.imp (PL_ok fun E μ hc hq => ?_)
  by_cases e1 : E = 1
  · subst e1
    unfold KX; rw [show hnd 206 4 1 = some (13, 3) by decide]
    show Ev xs 206 13 [.ref 0, .int p1, .ref 257, .null] [] μ Q
    exact wp [] 2000 hq
  by_cases e9 : E = 0
  · subst e9; exact absurd (by unfold cd; rfl) hc
  exact absurd (show cd 1 0 0 E = 0 by unfold cd; rw [if_neg e9, if_neg e1, if_neg e9, if_neg e9]) hc
theorem L_ifRun {xs : Scr} {I : In2} {ρ : Rh} {Q : Post} {p1 p2 : Int32} (hW : Rw ρ) (h : Ev xs 88 0 [.ref 0, .int p1, .int p2] [] (I, ρ) (PL Q (cd 2 0 0))) : Ev xs 207 0 [.ref 0, .int p1, .int p2, .ref 257, .null] [] (I, ρ) Q := by
  apply w_L_ifRun_0
  rw [gc_O hW, cond_true]
  refine h.imp (PL_ok fun E μ hc hq => ?_)
  by_cases e2 : E = 2
  · subst e2
    unfold KX; rw [show hnd 207 5 2 = some (15, 4) by decide]
    show Ev xs 207 15 [.ref 0, .int p1, .int p2, .ref 257, .null] [] μ Q
    exact wp [] 2000 hq
  by_cases e9 : E = 0
  · subst e9; exact absurd (by unfold cd; rfl) hc
  exact absurd (show cd 2 0 0 E = 0 by unfold cd; rw [if_neg e9, if_neg e2, if_neg e9, if_neg e9]) hc
theorem L_bestWindow {xs : Scr} {I : In2} {ρ : Rh} {Q : Post} {p1 : Int32} (hW : Rw ρ) (h : Ev xs 90 0 [.ref 0, .int p1] [] (I, ρ) (PL Q (cd 2 0 0))) : Ev xs 208 0 [.ref 0, .int p1, .ref 257, .null] [] (I, ρ) Q := by
  apply w_L_bestWindow_0
  rw [gc_O hW, cond_true]
  refine h.imp (PL_ok fun E μ hc hq => ?_)
  by_cases e2 : E = 2
  · subst e2
    unfold KX; rw [show hnd 208 4 2 = some (13, 3) by decide]
    show Ev xs 208 13 [.ref 0, .int p1, .ref 257, .null] [] μ Q
    exact wp [] 2000 hq
  by_cases e9 : E = 0
  · subst e9; exact absurd (by unfold cd; rfl) hc
  exact absurd (show cd 2 0 0 E = 0 by unfold cd; rw [if_neg e9, if_neg e2, if_neg e9, if_neg e9]) hc
