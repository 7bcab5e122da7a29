/-! what a step does to the counts -/
theorem mN_setI {μ : Mem} {a k : Nat} {v : Int32} : mN (setI μ a k v) = mN μ := rfl
theorem mX_setI {μ : Mem} {a k : Nat} {v : Int32} : mX (setI μ a k v) = mX μ := rfl
theorem mN_setR {μ : Mem} {a k : Nat} {v : Nat} : mN (setR μ a k v) = mN μ := rfl
theorem mX_setR {μ : Mem} {a k : Nat} {v : Nat} : mX (setR μ a k v) = mX μ := rfl
theorem mN_setL {μ : Mem} {a k : Nat} {v : Int64} : mN (setL μ a k v) = mN μ := rfl
theorem mX_setL {μ : Mem} {a k : Nat} {v : Int64} : mX (setL μ a k v) = mX μ := rfl
theorem mN_newM {μ : Mem} : mN (newM μ) = mN μ + 1 := rfl
theorem mX_newM {μ : Mem} : mX (newM μ) = mX μ := rfl
theorem mN_excM {μ : Mem} : mN (excM μ) = mN μ := rfl
theorem mX_excM {μ : Mem} : mX (excM μ) = mX μ + 1 := rfl
theorem mN_cpyM {μ : Mem} {a0 sp a dp n : Nat} : mN (cpyM μ a0 sp a dp n) = mN μ := rfl
theorem mX_cpyM {μ : Mem} {a0 sp a dp n : Nat} : mX (cpyM μ a0 sp a dp n) = mX μ := rfl
/-- the counts behind a step -/
def grw (μ μ' : Mem) : Prop := mX μ' = mX μ ∧ (mN μ' = mN μ ∨ (mN μ' = mN μ + 1 ∧ mN μ < NN ∧ mX μ = 0))
theorem grw.rf {μ : Mem} : grw μ μ := ⟨rfl, Or.inl rfl⟩
/-- every way on from a step keeps the counts so -/
def grR (μ : Mem) (r : Res) : Prop := match r with
  | none => True
  | some (g, r) => g = true → (match r with
    | .inl q => grw μ q.2.2.2
    | .inr (.inl q) => grw μ q.2.2.2.2.2
    | .inr (.inr (.inl q)) => grw μ q.2.2.2.2.2
    | .inr (.inr (.inr (.inl _))) => True
    | .inr (.inr (.inr (.inr (.inl _)))) => True
    | .inr (.inr (.inr (.inr (.inr q)))) => grw μ q.2.2.2.2.2)
theorem gq_none {μ : Mem} : grR μ none := trivial
theorem gq_go {n : Nat} {L st : List Value} {μ μ' : Mem} (h : grw μ μ') : grR μ (go n L st μ') := fun _ => h
theorem gq_gg {g : Bool} {n : Nat} {L st : List Value} {μ μ' : Mem} (h : grw μ μ') : grR μ (gg g n L st μ') := fun _ => h
theorem gq_br {b : Bool} {t n : Nat} {L st : List Value} {μ μ' : Mem} (h : grw μ μ') : grR μ (br b t n L st μ') := fun _ => h
theorem gq_ld {t i n : Nat} {L st : List Value} {μ : Mem} : grR μ (sLd t i n L st μ) := by
  unfold sLd; split
  · rename_i v _
    cases Nat.beq (vtag v) t <;> first | exact gq_none | exact gq_go grw.rf
  · exact gq_none
theorem gq_s1 {t i n : Nat} {L st : List Value} {μ : Mem} : grR μ (sS1 t i n L st μ) := by
  unfold sS1; split
  · rename_i v _
    cases Nat.beq (vtag v) t <;> first | exact gq_none | exact gq_go grw.rf
  · exact gq_none
theorem gq_s2 {t i n : Nat} {L st : List Value} {μ : Mem} : grR μ (sS2 t i n L st μ) := by
  unfold sS2; split
  · rename_i v _
    cases Nat.beq (vtag v) t <;> first | exact gq_none | exact gq_go grw.rf
  · exact gq_none
theorem gq_ii1 {f : Int32 → Int32} {n : Nat} {L st : List Value} {μ : Mem} : grR μ (ii1 f n L st μ) := by
  unfold ii1; split <;> first | exact gq_go grw.rf | exact gq_none
theorem gq_ii2 {f : Int32 → Int32 → Int32} {n : Nat} {L st : List Value} {μ : Mem} : grR μ (ii2 f n L st μ) := by
  unfold ii2; split <;> first | exact gq_go grw.rf | exact gq_none
theorem gq_ll2 {f : Int64 → Int64 → Int64} {n : Nat} {L st : List Value} {μ : Mem} : grR μ (ll2 f n L st μ) := by
  unfold ll2; split <;> first | exact gq_go grw.rf | exact gq_none
theorem gq_ff2 {f : UInt32 → UInt32 → UInt32} {n : Nat} {L st : List Value} {μ : Mem} : grR μ (ff2 f n L st μ) := by
  unfold ff2; split <;> first | exact gq_gg grw.rf | exact gq_none
theorem gq_dd2 {f : UInt64 → UInt64 → UInt64} {n : Nat} {L st : List Value} {μ : Mem} : grR μ (dd2 f n L st μ) := by
  unfold dd2; split <;> first | exact gq_gg grw.rf | exact gq_none
theorem gq_get {aux : List Nat} {n : Nat} {L st : List Value} {μ : Mem} : grR μ (sGet aux n L st μ) := by
  unfold sGet; split <;> first | exact gq_gg grw.rf | exact gq_none
theorem gq_put {aux : List Nat} {n : Nat} {L st : List Value} {μ : Mem} : grR μ (sPut aux n L st μ) := by
  unfold sPut; split <;> first | exact gq_gg ⟨rfl, Or.inl rfl⟩ | exact gq_none
theorem gq_bif {b : Bool} {μ : Mem} {r : Res} (h : grR μ r) : grR μ (bif b then r else none) := by cases b <;> first | exact gq_none | exact h
theorem gq_call {aux : List Nat} {n : Nat} {L st : List Value} {μ : Mem} : grR μ (sCall aux n L st μ) := by
  unfold sCall
  repeat' split
  all_goals first | exact gq_none | exact gq_bif (gq_gg ⟨rfl, Or.inl rfl⟩) | exact gq_bif (fun _ => grw.rf)
theorem gq_new {g : Bool} {n : Nat} {L st : List Value} {μ : Mem} (h : g = true → mN μ < NN ∧ mX μ = 0) : grR μ (gg g n L st (newM μ)) := fun hg => ⟨rfl, Or.inr ⟨rfl, h hg⟩⟩
theorem gq_stp {xs : Scr} {ins : Instr} {n : Nat} {aux : List Nat} {L st : List Value} {μ : Mem} : grR μ (stp xs ins n aux L st μ) := by
  have hn : ∀ {b : Bool}, (Nat.blt (mN μ) NN && (Nat.beq (mX μ) 0 && b)) = true → mN μ < NN ∧ mX μ = 0 := by
    intro b h
    simp only [Bool.and_eq_true] at h
    exact ⟨Nat.le_of_ble_eq_true h.1, Nat.eq_of_beq_eq_true h.2.1⟩
  cases ins
  case tableswitch => unfold stp; dsimp only; split <;> first | exact gq_none | exact fun _ => grw.rf
  case lookupswitch => unfold stp; dsimp only; split <;> first | exact gq_none | exact fun _ => grw.rf
  case new =>
    unfold stp
    dsimp only
    split
    · exact gq_bif (fun _ => trivial)
    · exact gq_new hn
    · exact gq_none
  case newarray => unfold stp; dsimp only; split <;> first | exact gq_none | exact gq_new hn
  case anewarray => unfold stp; dsimp only; split <;> first | exact gq_none | exact gq_new hn
  all_goals first
    | exact gq_none
    | exact gq_ld
    | exact gq_s1
    | exact gq_s2
    | exact gq_ii1
    | exact gq_ii2
    | exact gq_ll2
    | exact gq_ff2
    | exact gq_dd2
    | exact gq_get
    | exact gq_put
    | exact gq_call
    | exact gq_go grw.rf
    | (unfold stp; dsimp only; (repeat' split) <;> first | exact gq_none | exact gq_go grw.rf | exact gq_gg grw.rf | exact gq_gg ⟨rfl, Or.inl rfl⟩ | exact gq_br grw.rf | exact fun _ => trivial)
theorem gq_step {xs : Scr} {m pc : Nat} {L st : List Value} {μ : Mem} : grR μ (step xs m pc L st μ) := by
  unfold step
  split
  · exact gq_none
  · exact gq_stp
/-- the counts of a run grow -/
theorem run_grow {xs : Scr} : ∀ {f m pc : Nat} {L st : List Value} {μ : Mem} {o : Out × Mem}, run xs f m pc L st μ = some o → mN μ ≤ NN → mN μ ≤ mN o.2 ∧ mX μ ≤ mX o.2 ∧ mN o.2 ≤ NN ∧ (mN μ < mN o.2 → mX μ = 0) := by
  intro f
  induction f with
  | zero => intro m pc L st μ o h; simp [run] at h
  | succ f ih =>
    intro m pc L st μ o h hN
    have key : ∀ {μ' : Mem}, grw μ μ' → (mN μ' ≤ NN → mN μ' ≤ mN o.2 ∧ mX μ' ≤ mX o.2 ∧ mN o.2 ≤ NN ∧ (mN μ' < mN o.2 → mX μ' = 0)) → mN μ ≤ mN o.2 ∧ mX μ ≤ mX o.2 ∧ mN o.2 ≤ NN ∧ (mN μ < mN o.2 → mX μ = 0) := by
      rintro μ' ⟨h1, h2⟩ h3
      rw [h1] at h3
      rcases h2 with h2 | ⟨h2, h4, h5⟩
      · rw [h2] at h3; exact h3 hN
      · rw [h2] at h3
        obtain ⟨q1, q2, q3, q5⟩ := h3 (by omega)
        exact ⟨by omega, q2, q3, fun _ => h5⟩
    have hg := gq_step (xs := xs) (m := m) (pc := pc) (L := L) (st := st) (μ := μ)
    rw [run] at h
    cases hs : step xs m pc L st μ with
    | none => rw [hs] at h; simp at h
    | some q =>
      obtain ⟨g, r⟩ := q
      rw [hs] at h hg
      cases g with
      | false => simp at h
      | true =>
        simp only [cond_true] at h
        have hg := hg rfl
        rcases r with ⟨n, L', s', μ'⟩ | ⟨b, t, n, L', s', μ'⟩ | ⟨x, ps, d, L', s', μ'⟩ | v | E | ⟨y, Lc, n, L', s', μ'⟩
        · exact key hg (ih h)
        · cases b
          · exact key hg (ih h)
          · exact key hg (ih h)
        · exact key hg (ih h)
        · cases h; exact ⟨Nat.le_refl _, Nat.le_refl _, hN, fun h => absurd h (Nat.lt_irrefl _)⟩
        · cases h
          exact ⟨Nat.le_refl _, Nat.le_succ _, hN, fun h => absurd h (Nat.lt_irrefl _)⟩
        · dsimp only at h hg
          cases hc : run xs f y 0 Lc [] μ' with
          | none => rw [hc] at h; simp at h
          | some q =>
            rw [hc] at h
            obtain ⟨ov, μ2⟩ := q
            refine key hg fun hN' => ?_
            obtain ⟨a1, a2, a3, a5⟩ := ih hc hN'
            dsimp only at a1 a2 a3 a5
            have fin : (mN μ2 ≤ mN o.2 ∧ mX μ2 ≤ mX o.2 ∧ mN o.2 ≤ NN ∧ (mN μ2 < mN o.2 → mX μ2 = 0)) → mN μ' ≤ mN o.2 ∧ mX μ' ≤ mX o.2 ∧ mN o.2 ≤ NN ∧ (mN μ' < mN o.2 → mX μ' = 0) := by
              rintro ⟨b1, b2, b3, b5⟩
              exact ⟨by omega, by omega, b3, fun h => by
                by_cases hh : mN μ' < mN μ2
                · exact a5 hh
                · have := b5 (by omega); omega⟩
            cases ov with
            | inl v => exact fin (ih h a3)
            | inr E =>
              dsimp only at h
              cases hh : hnd m pc E with
              | none => rw [hh] at h; cases h; exact ⟨a1, a2, a3, a5⟩
              | some z => rw [hh] at h; exact fin (ih h a3)
