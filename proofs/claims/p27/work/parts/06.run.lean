def hL : List (Nat × Nat × Nat × Nat × Nat × Nat) := []
def hRow (m : Nat) : List (Nat × Nat × Nat × Nat × Nat × Nat) := bif Nat.blt m 193 then [] else hL.filter (fun r => Nat.beq m r.1)
def hnd (m pc E : Nat) : Option (Nat × Nat) := match (hRow m).find? (fun r => Nat.ble r.2.1 pc && (Nat.blt pc r.2.2.1 && Nat.beq r.2.2.2.1 E)) with
  | some r => some (r.2.2.2.2.1, r.2.2.2.2.2)
  | none => none
abbrev Out : Type := Option Value ⊕ Nat
abbrev Scr : Type := Nat × (Nat → Int32)
def run (xs : Scr) : Nat → Nat → Nat → List Value → List Value → Mem → Option (Out × Mem)
  | 0, _, _, _, _, _ => none
  | f + 1, m, pc, L, st, μ => match step xs m pc L st μ with
    | none => none
    | some (g, r) => bif g then (match r with
      | .inl (n, L', s', μ') => run xs f m n L' s' μ'
      | .inr (.inl (b, t, n, L', s', μ')) => bif b then run xs f m t L' s' μ' else run xs f m n L' s' μ'
      | .inr (.inr (.inl (x, ps, d, L', s', μ'))) => run xs f m (swt x d ps) L' s' μ'
      | .inr (.inr (.inr (.inl v))) => some (.inl v, μ)
      | .inr (.inr (.inr (.inr (.inl E)))) => some (.inr E, excM μ)
      | .inr (.inr (.inr (.inr (.inr (y, Lc, n, L', s', μ'))))) => match run xs f y 0 Lc [] μ' with
        | none => none
        | some (.inl v, μ2) => run xs f m n L' (v.toList ++ s') μ2
        | some (.inr E, μ2) => match hnd m pc E with
          | none => some (.inr E, μ2)
          | some (p', k) => run xs f m p' (st1 L' k .null) [] μ2) else none
abbrev Post : Type := Out → Mem → Prop
def Ev (xs : Scr) (m pc : Nat) (L st : List Value) (μ : Mem) (Q : Post) : Prop := ∃ (f : Nat) (o : Out × Mem), run xs f m pc L st μ = some o ∧ Q o.1 o.2
theorem run_mono {xs : Scr} : ∀ {f m pc : Nat} {L st : List Value} {μ : Mem} {o : Out × Mem}, run xs f m pc L st μ = some o → run xs (f + 1) m pc L st μ = some o := by
  intro f
  induction f with
  | zero => intro m pc L st μ o h; simp [run] at h
  | succ f ih =>
    intro m pc L st μ o h
    rw [run] at h ⊢
    cases hs : step xs m pc L st μ with
    | none => rw [hs] at h; simp at h
    | some q =>
      obtain ⟨g, r⟩ := q
      rw [hs] at h
      cases g with
      | false => simp at h
      | true =>
        simp only [cond_true] at h ⊢
        rcases r with ⟨n, L', s', μ'⟩ | ⟨b, t, n, L', s', μ'⟩ | ⟨x, ps, d, L', s', μ'⟩ | v | E | ⟨y, Lc, n, L', s', μ'⟩
        · exact ih h
        · cases b
          · exact ih h
          · exact ih h
        · exact ih h
        · exact h
        · exact h
        · dsimp only at h ⊢
          cases hc : run xs f y 0 Lc [] μ' with
          | none => rw [hc] at h; simp at h
          | some q =>
            rw [hc] at h
            rw [ih hc]
            obtain ⟨ov, μ2⟩ := q
            cases ov with
            | inl v => exact ih h
            | inr E =>
              dsimp only at h ⊢
              cases hh : hnd m pc E with
              | none => rw [hh] at h; exact h
              | some z => rw [hh] at h; exact ih h
theorem run_le {xs : Scr} {f g m pc : Nat} {L st : List Value} {μ : Mem} {o : Out × Mem} (hfg : f ≤ g) (h : run xs f m pc L st μ = some o) : run xs g m pc L st μ = some o := by
  obtain ⟨k, rfl⟩ := Nat.exists_eq_add_of_le hfg
  induction k with
  | zero => exact h
  | succ k ih => exact run_mono (ih (Nat.le_add_right f k))
theorem run_det {xs : Scr} {f g m pc : Nat} {L st : List Value} {μ : Mem} {o o' : Out × Mem} (h : run xs f m pc L st μ = some o) (h' : run xs g m pc L st μ = some o') : o = o' := by
  have h1 := run_le (Nat.le_max_left f g) h
  have h2 := run_le (Nat.le_max_right f g) h'
  exact Option.some.inj (h1.symm.trans h2)
theorem Ev.imp {xs : Scr} {m pc : Nat} {L st : List Value} {μ : Mem} {Q Q' : Post} (h : Ev xs m pc L st μ Q) (hQ : ∀ o μ', Q o μ' → Q' o μ') : Ev xs m pc L st μ Q' := by
  obtain ⟨f, o, h1, h2⟩ := h
  exact ⟨f, o, h1, hQ _ _ h2⟩
/-- a contract with one answer, as an equivalence -/
theorem Ev.det {xs : Scr} {m pc : Nat} {L st : List Value} {μ : Mem} {o : Out} {μ' : Mem} (h : Ev xs m pc L st μ (fun o' u => o' = o ∧ u = μ')) (Q : Post) : Ev xs m pc L st μ Q ↔ Q o μ' := by
  obtain ⟨f, o1, h1, h2, h3⟩ := h
  constructor
  · rintro ⟨g, o2, h4, h5⟩
    have := run_det h1 h4
    rw [← this, h2, h3] at h5
    exact h5
  · intro hQ
    exact ⟨f, o1, h1, by rw [h2, h3]; exact hQ⟩
def CB (K : Option Value → Mem → Prop) (X : Nat → Mem → Prop) : Post := fun o μ => match o with | .inl v => K v μ | .inr E => X E μ
def KX (xs : Scr) (m pc : Nat) (L : List Value) (Q : Post) : Nat → Mem → Prop := fun E μ => match hnd m pc E with
  | none => Q (.inr E) μ
  | some (p', k) => Ev xs m p' (st1 L k .null) [] μ Q
/-- what one step says -/
def stE (xs : Scr) (m pc : Nat) (μ : Mem) (Q : Post) (C : Nat → List Value → List Value → Mem → Prop) (r : Res) : Prop := match r with
  | none => False
  | some (g, r) => bif g then (match r with
    | .inl (n, L', s', μ') => C n L' s' μ'
    | .inr (.inl (b, t, n, L', s', μ')) => bif b then C t L' s' μ' else C n L' s' μ'
    | .inr (.inr (.inl (x, ps, d, L', s', μ'))) => C (swt x d ps) L' s' μ'
    | .inr (.inr (.inr (.inl v))) => Q (.inl v) μ
    | .inr (.inr (.inr (.inr (.inl E)))) => Q (.inr E) (excM μ)
    | .inr (.inr (.inr (.inr (.inr (y, Lc, n, L', s', μ'))))) => Ev xs y 0 Lc [] μ' (CB (fun v μ2 => C n L' (v.toList ++ s') μ2) (KX xs m pc L' Q))) else False
theorem Ev.one {xs : Scr} {m pc : Nat} {L st : List Value} {μ : Mem} {Q : Post} (h : stE xs m pc μ Q (fun n L' s' μ' => Ev xs m n L' s' μ' Q) (step xs m pc L st μ)) : Ev xs m pc L st μ Q := by
  have key : ∀ {n : Nat} {L' s' : List Value} {μ' : Mem}, (∀ f, run xs (f + 1) m pc L st μ = run xs f m n L' s' μ') → Ev xs m n L' s' μ' Q → Ev xs m pc L st μ Q := fun hr ⟨f, o, h1, h2⟩ => ⟨f + 1, o, by rw [hr]; exact h1, h2⟩
  cases hs : step xs m pc L st μ with
  | none => rw [hs] at h; exact h.elim
  | some q =>
    obtain ⟨g, r⟩ := q
    rw [hs] at h
    cases g with
    | false => exact h.elim
    | true =>
      rcases r with ⟨n, L', s', μ'⟩ | ⟨b, t, n, L', s', μ'⟩ | ⟨x, ps, d, L', s', μ'⟩ | v | E | ⟨y, Lc, n, L', s', μ'⟩
      · exact key (fun f => by rw [run, hs]; rfl) h
      · cases b
        · exact key (fun f => by rw [run, hs]; rfl) h
        · exact key (fun f => by rw [run, hs]; rfl) h
      · exact key (fun f => by rw [run, hs]; rfl) h
      · exact ⟨1, (.inl v, μ), by rw [run, hs]; rfl, h⟩
      · exact ⟨1, (.inr E, excM μ), by rw [run, hs]; rfl, h⟩
      · obtain ⟨f, ⟨o, μ2⟩, h1, h2⟩ := h
        cases o with
        | inl v =>
          obtain ⟨f', o', h3, h4⟩ := h2
          refine ⟨max f f' + 1, o', ?_, h4⟩
          rw [run, hs]
          dsimp only [cond_true]
          rw [run_le (Nat.le_max_left f f') h1]
          exact run_le (Nat.le_max_right f f') h3
        | inr E =>
          have h2 : KX xs m pc L' Q E μ2 := h2
          unfold KX at h2
          cases hh : hnd m pc E with
          | none =>
            rw [hh] at h2
            refine ⟨f + 1, (.inr E, μ2), ?_, h2⟩
            rw [run, hs]
            dsimp only [cond_true]
            rw [h1]
            dsimp only
            rw [hh]
          | some z =>
            obtain ⟨p', k⟩ := z
            rw [hh] at h2
            obtain ⟨f', o', h3, h4⟩ := h2
            refine ⟨max f f' + 1, o', ?_, h4⟩
            rw [run, hs]
            dsimp only [cond_true]
            rw [run_le (Nat.le_max_left f f') h1]
            dsimp only
            rw [hh]
            exact run_le (Nat.le_max_right f f') h3
/-! typed ends of calls -/
def QV (K : Mem → Prop) (X : Nat → Mem → Prop) : Post := fun o μ => match o with | .inl none => K μ | .inr E => X E μ | _ => False
def QI (K : Int32 → Mem → Prop) (X : Nat → Mem → Prop) : Post := fun o μ => match o with | .inl (some (.int x)) => K x μ | .inr E => X E μ | _ => False
def QL (K : Int64 → Mem → Prop) (X : Nat → Mem → Prop) : Post := fun o μ => match o with | .inl (some (.long x)) => K x μ | .inr E => X E μ | _ => False
def QF (K : UInt32 → Mem → Prop) (X : Nat → Mem → Prop) : Post := fun o μ => match o with | .inl (some (.float x)) => K x μ | .inr E => X E μ | _ => False
def QD (K : UInt64 → Mem → Prop) (X : Nat → Mem → Prop) : Post := fun o μ => match o with | .inl (some (.double x)) => K x μ | .inr E => X E μ | _ => False
def QA (K : Nat → Mem → Prop) (X : Nat → Mem → Prop) : Post := fun o μ => match o with | .inl (some (.ref x)) => K x μ | .inr E => X E μ | _ => False
def CBt (t : Nat) (K : List Value → Mem → Prop) (X : Nat → Mem → Prop) : Post := match t with
  | 0 => QV (fun μ => K [] μ) X
  | 1 => QI (fun x μ => K [.int x] μ) X
  | 2 => QL (fun x μ => K [.long x] μ) X
  | 3 => QF (fun x μ => K [.float x] μ) X
  | 4 => QD (fun x μ => K [.double x] μ) X
  | _ => QA (fun x μ => K [.ref x] μ) X
theorem CBt_CB {t : Nat} {K : List Value → Mem → Prop} {X : Nat → Mem → Prop} {o : Out} {μ : Mem} (h : CBt t K X o μ) : CB (fun v μ => K v.toList μ) X o μ := by
  rcases o with v | E
  · rcases v with _ | v
    · match t, h with
      | 0, h => exact h
      | 1, h => exact h.elim
      | 2, h => exact h.elim
      | 3, h => exact h.elim
      | 4, h => exact h.elim
      | t + 5, h => exact h.elim
    · cases v <;> (match t, h with
      | 0, h => first | exact h | exact h.elim
      | 1, h => first | exact h | exact h.elim
      | 2, h => first | exact h | exact h.elim
      | 3, h => first | exact h | exact h.elim
      | 4, h => first | exact h | exact h.elim
      | t + 5, h => first | exact h | exact h.elim)
  · match t, h with
    | 0, h => exact h
    | 1, h => exact h
    | 2, h => exact h
    | 3, h => exact h
    | 4, h => exact h
    | t + 5, h => exact h
def rtag (m pc : Nat) : Nat := match I m pc with | some e => e.2.2.getD 6 0 | none => 0
def swp (x : Int32) (d : Nat) (P : Nat → Prop) : List Nat → Prop
  | k :: t :: r => bif decide (x = Int32.ofNat k) then P t else swp x d P r
  | _ => P d
theorem swp_swt {x : Int32} {d : Nat} {P : Nat → Prop} : ∀ (ps : List Nat), swp x d P ps → P (swt x d ps)
  | k :: t :: r => fun h => by
    unfold swp at h
    unfold swt
    cases hb : decide (x = Int32.ofNat k)
    · rw [hb] at h; exact swp_swt r h
    · rw [hb] at h; exact h
  | [] => fun h => h
  | [_] => fun h => h
/-- the condition under which a stretch of code (up to the stops S) ends well -/
def wpn (xs : Scr) (S : List Nat) : Nat → Nat → Nat → List Value → List Value → Mem → Post → Prop
  | 0, m, pc, L, st, μ, Q => Ev xs m pc L st μ Q
  | f + 1, m, pc, L, st, μ, Q => match step xs m pc L st μ with
    | none => False
    | some (g, r) => bif g then (match r with
      | .inl (n, L', s', μ') => bif S.elem n then Ev xs m n L' s' μ' Q else wpn xs S f m n L' s' μ' Q
      | .inr (.inl (b, t, n, L', s', μ')) => bif b then (bif S.elem t then Ev xs m t L' s' μ' Q else wpn xs S f m t L' s' μ' Q) else (bif S.elem n then Ev xs m n L' s' μ' Q else wpn xs S f m n L' s' μ' Q)
      | .inr (.inr (.inl (x, ps, d, L', s', μ'))) => swp x d (fun t => bif S.elem t then Ev xs m t L' s' μ' Q else wpn xs S f m t L' s' μ' Q) ps
      | .inr (.inr (.inr (.inl v))) => Q (.inl v) μ
      | .inr (.inr (.inr (.inr (.inl E)))) => Q (.inr E) (excM μ)
      | .inr (.inr (.inr (.inr (.inr (y, Lc, n, L', s', μ'))))) => Ev xs y 0 Lc [] μ' (CBt (rtag m pc) (fun v μ2 => bif S.elem n then Ev xs m n L' (v ++ s') μ2 Q else wpn xs S f m n L' (v ++ s') μ2 Q) (KX xs m pc L' Q))) else False
theorem wp {xs : Scr} (S : List Nat) : ∀ (f : Nat) {m pc : Nat} {L st : List Value} {μ : Mem} {Q : Post}, wpn xs S f m pc L st μ Q → Ev xs m pc L st μ Q := by
  intro f
  induction f with
  | zero => intro m pc L st μ Q h; exact h
  | succ f ih =>
    intro m pc L st μ Q h
    have nx : ∀ {n : Nat} {L' s' : List Value} {μ' : Mem}, (bif S.elem n then Ev xs m n L' s' μ' Q else wpn xs S f m n L' s' μ' Q) → Ev xs m n L' s' μ' Q := by
      intro n L' s' μ' h
      cases hb : S.elem n
      · rw [hb] at h; exact ih h
      · rw [hb] at h; exact h
    refine Ev.one ?_
    rw [wpn] at h
    cases hs : step xs m pc L st μ with
    | none => rw [hs] at h; exact h
    | some q =>
      obtain ⟨g, r⟩ := q
      rw [hs] at h
      cases g with
      | false => exact h
      | true =>
        rcases r with ⟨n, L', s', μ'⟩ | ⟨b, t, n, L', s', μ'⟩ | ⟨x, ps, d, L', s', μ'⟩ | v | E | ⟨y, Lc, n, L', s', μ'⟩
        · exact nx h
        · cases b
          · exact nx h
          · exact nx h
        · exact nx (swp_swt (P := fun t => bif S.elem t then Ev xs m t L' s' μ' Q else wpn xs S f m t L' s' μ' Q) ps h)
        · exact h
        · exact h
        · refine Ev.imp (Q := CBt (rtag m pc) (fun v μ2 => bif S.elem n then Ev xs m n L' (v ++ s') μ2 Q else wpn xs S f m n L' (v ++ s') μ2 Q) (KX xs m pc L' Q)) h fun o μ2 h2 => ?_
          have h3 := CBt_CB h2
          rcases o with v | E
          · exact nx h3
          · exact h3
