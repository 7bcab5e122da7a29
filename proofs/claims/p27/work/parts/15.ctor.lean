/-! constructors don't throw -/
def ctor (y : Nat) : Bool := Nat.beq y 6 || (Nat.beq y 13 || (Nat.beq y 43 || (Nat.beq y 62 || Nat.beq y 101)))
def cR (aux : List Nat) (r : Res) : Prop := match r with
  | none => True
  | some (_, r) => match r with
    | .inr (.inr (.inr (.inr (.inl _)))) => aux.getD 0 0 = 9
    | .inr (.inr (.inr (.inr (.inr q)))) => aux.getD 1 0 = q.1
    | _ => True
theorem cr_none {aux : List Nat} : cR aux none := trivial
theorem cr_bif {aux : List Nat} {b : Bool} {r : Res} (h : cR aux r) : cR aux (bif b then r else none) := by cases b <;> first | exact cr_none | exact h
theorem cr_go {aux : List Nat} {n : Nat} {L st : List Value} {μ : Mem} : cR aux (go n L st μ) := trivial
theorem cr_gg {aux : List Nat} {g : Bool} {n : Nat} {L st : List Value} {μ : Mem} : cR aux (gg g n L st μ) := trivial
theorem cr_ld {aux : List Nat} {t i n : Nat} {L st : List Value} {μ : Mem} : cR aux (sLd t i n L st μ) := by
  unfold sLd; split
  · exact cr_bif cr_go
  · exact cr_none
theorem cr_s1 {aux : List Nat} {t i n : Nat} {L st : List Value} {μ : Mem} : cR aux (sS1 t i n L st μ) := by
  unfold sS1; split
  · exact cr_bif cr_go
  · exact cr_none
theorem cr_s2 {aux : List Nat} {t i n : Nat} {L st : List Value} {μ : Mem} : cR aux (sS2 t i n L st μ) := by
  unfold sS2; split
  · exact cr_bif cr_go
  · exact cr_none
theorem cr_ii1 {aux : List Nat} {f : Int32 → Int32} {n : Nat} {L st : List Value} {μ : Mem} : cR aux (ii1 f n L st μ) := by unfold ii1; split <;> first | exact cr_go | exact cr_none
theorem cr_ii2 {aux : List Nat} {f : Int32 → Int32 → Int32} {n : Nat} {L st : List Value} {μ : Mem} : cR aux (ii2 f n L st μ) := by unfold ii2; split <;> first | exact cr_go | exact cr_none
theorem cr_ll2 {aux : List Nat} {f : Int64 → Int64 → Int64} {n : Nat} {L st : List Value} {μ : Mem} : cR aux (ll2 f n L st μ) := by unfold ll2; split <;> first | exact cr_go | exact cr_none
theorem cr_ff2 {aux : List Nat} {f : UInt32 → UInt32 → UInt32} {n : Nat} {L st : List Value} {μ : Mem} : cR aux (ff2 f n L st μ) := by unfold ff2; split <;> first | exact cr_gg | exact cr_none
theorem cr_dd2 {aux : List Nat} {f : UInt64 → UInt64 → UInt64} {n : Nat} {L st : List Value} {μ : Mem} : cR aux (dd2 f n L st μ) := by unfold dd2; split <;> first | exact cr_gg | exact cr_none
theorem cr_get {aux : List Nat} {n : Nat} {L st : List Value} {μ : Mem} : cR aux (sGet aux n L st μ) := by unfold sGet; split <;> first | exact cr_gg | exact cr_none
theorem cr_put {aux : List Nat} {n : Nat} {L st : List Value} {μ : Mem} : cR aux (sPut aux n L st μ) := by unfold sPut; split <;> first | exact cr_gg | exact cr_none
theorem cr_call {aux : List Nat} {n : Nat} {L st : List Value} {μ : Mem} : cR aux (sCall aux n L st μ) := by
  unfold sCall
  repeat' split
  all_goals first | exact cr_none | exact cr_bif cr_gg | exact cr_bif rfl
theorem cr_stp {xs : Scr} {ins : Instr} {n : Nat} {aux : List Nat} {L st : List Value} {μ : Mem} : cR aux (stp xs ins n aux L st μ) := by
  cases ins
  all_goals first
    | exact cr_none
    | exact cr_ld
    | exact cr_s1
    | exact cr_s2
    | exact cr_ii1
    | exact cr_ii2
    | exact cr_ll2
    | exact cr_ff2
    | exact cr_dd2
    | exact cr_get
    | exact cr_put
    | exact cr_call
    | exact cr_go
    | (unfold stp; dsimp only; (repeat' split) <;> first | exact cr_none | exact cr_go | exact cr_gg | exact trivial | exact cr_bif trivial | exact cr_bif rfl)
def okC (m pc : Nat) : Bool := match I m pc with
  | some e => !(Nat.beq (e.2.2.getD 0 0) 9) && (match e.1 with | .invokevirtual _ => false | .invokestatic _ => false | .invokespecial _ => Nat.beq (e.2.2.getD 0 0) 3 || ctor (e.2.2.getD 1 0) | _ => true)
  | none => true
theorem okC_ge {m pc : Nat} (h : (J m).1 ≤ pc) : okC m pc = true := by
  unfold okC I
  have h1 : Nat.blt pc (J m).1 = false := by
    cases hb : Nat.blt pc (J m).1
    · rfl
    · have := Nat.le_of_ble_eq_true hb; omega
  rw [h1]
  cases Nat.blt m 210 <;> rfl
def okCM (m : Nat) : Bool := (List.range (J m).1).all (okC m)
theorem okC1 : okCM 6 = true := by decide +kernel
theorem okC2 : okCM 13 = true := by decide +kernel
theorem okC3 : okCM 43 = true := by decide +kernel
theorem okC4 : okCM 62 = true := by decide +kernel
theorem okC5 : okCM 101 = true := by decide +kernel
theorem ctor_ok {m : Nat} (h : ctor m = true) (pc : Nat) : okC m pc = true := by
  have lift : okCM m = true → okC m pc = true := fun h => by
    by_cases h1 : (J m).1 ≤ pc
    · exact okC_ge h1
    · exact List.all_eq_true.mp h pc (List.mem_range.mpr (by omega))
  unfold ctor at h
  simp only [Bool.or_eq_true] at h
  rcases h with h | h | h | h | h <;> (have h := Nat.eq_of_beq_eq_true h; subst h)
  · exact lift okC1
  · exact lift okC2
  · exact lift okC3
  · exact lift okC4
  · exact lift okC5
theorem run_ctor {xs : Scr} : ∀ {f m pc : Nat} {L st : List Value} {μ μ' : Mem} {E : Nat}, ctor m = true → run xs f m pc L st μ = some (.inr E, μ') → False := by
  intro f
  induction f with
  | zero => intro m pc L st μ μ' E _ h; simp [run] at h
  | succ f ih =>
    intro m pc L st μ μ' E hm h
    have hok := ctor_ok hm pc
    rw [run] at h
    unfold step at h
    unfold okC at hok
    cases hI : I m pc with
    | none => rw [hI] at h; simp at h
    | some en =>
      obtain ⟨ins, len, aux⟩ := en
      rw [hI] at h hok
      dsimp only at h hok
      have hc := cr_stp (xs := xs) (ins := ins) (n := pc + len) (aux := aux) (L := L) (st := st) (μ := μ)
      have hk := kr_stp (xs := xs) (ins := ins) (n := pc + len) (aux := aux) (L := L) (st := st) (μ := μ)
      cases hs : stp xs ins (pc + len) aux L st μ with
      | none => rw [hs] at h; simp at h
      | some q =>
        obtain ⟨g, r⟩ := q
        rw [hs] at h hc hk
        cases g with
        | false => simp at h
        | true =>
          simp only [cond_true] at h
          rw [Bool.and_eq_true] at hok
          rcases r with ⟨n, L', s', μ'⟩ | ⟨b, t, n, L', s', μ'⟩ | ⟨x, ps, d, L', s', μ'⟩ | v | E' | ⟨y, Lc, n, L', s', μ'⟩
          · exact ih hm h
          · cases b
            · exact ih hm h
            · exact ih hm h
          · exact ih hm h
          · cases h
          · have hc : aux.getD 0 0 = 9 := hc
            have := hok.1
            rw [hc] at this
            cases this
          · have hc : aux.getD 1 0 = y := hc
            have hk : isCl ins := hk
            have hy : ctor y = true := by
              have h2 := hok.2
              cases ins <;> first | exact hk.elim | skip
              · dsimp only at h2
                rw [Bool.or_eq_true] at h2
                rcases h2 with h2 | h2
                · have h3 := Nat.eq_of_beq_eq_true h2
                  exfalso
                  have hs : sCall aux (pc + len) L st μ = _ := hs
                  cases aux with
                  | nil => cases hs
                  | cons kd r =>
                    have h3 : kd = 3 := h3
                    subst h3
                    have hs : (match st with | .ref a :: r => g8 r (Nat.blt a (mN μ)) (pc + len) L r μ | _ => none) = some (true, .inr (.inr (.inr (.inr (.inr (y, Lc, n, L', s', μ')))))) := hs
                    split at hs
                    · have := (inv_bif hs).2
                      unfold gg at this
                      simp only [Option.some.injEq, Prod.mk.injEq, reduceCtorEq, and_false] at this
                    · cases hs
                · rw [hc] at h2; exact h2
              · cases h2
              · cases h2
            dsimp only at h
            cases hr : run xs f y 0 Lc [] μ' with
            | none => rw [hr] at h; simp at h
            | some q =>
              rw [hr] at h
              obtain ⟨ov, μ2⟩ := q
              cases ov with
              | inl v => exact ih hm h
              | inr E2 => exact ih hy hr
theorem hM_static : ∀ y, y < 209 → wM y 4 ≠ 1 → hM y = [] := by decide +kernel
theorem init_ctor : ∀ y, y < 209 → wM y 4 = 2 → ctor y = true := by decide +kernel
