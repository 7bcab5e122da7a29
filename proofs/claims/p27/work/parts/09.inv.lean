/-! which instructions give which kind of step -/
def isBr (i : Instr) : Prop := match i with | .ifCond _ _ => True | .if_icmp _ _ => True | _ => False
def isSw (i : Instr) : Prop := match i with | .tableswitch _ _ _ _ => True | .lookupswitch _ _ => True | _ => False
def isRt (i : Instr) : Prop := match i with | .ireturn => True | .lreturn => True | .freturn => True | .dreturn => True | .areturn => True | .return_ => True | _ => False
def isNw (i : Instr) : Prop := match i with | .new _ => True | _ => False
def isCl (i : Instr) : Prop := match i with | .invokevirtual _ => True | .invokestatic _ => True | .invokespecial _ => True | _ => False
def kR (i : Instr) (r : Res) : Prop := match r with
  | none => True
  | some (_, r) => match r with
    | .inl _ => True
    | .inr (.inl _) => isBr i
    | .inr (.inr (.inl _)) => isSw i
    | .inr (.inr (.inr (.inl _))) => isRt i
    | .inr (.inr (.inr (.inr (.inl _)))) => isNw i
    | .inr (.inr (.inr (.inr (.inr _)))) => isCl i
theorem kr_none {i : Instr} : kR i none := trivial
theorem kr_go {i : Instr} {n : Nat} {L st : List Value} {μ : Mem} : kR i (go n L st μ) := trivial
theorem kr_gg {i : Instr} {g : Bool} {n : Nat} {L st : List Value} {μ : Mem} : kR i (gg g n L st μ) := trivial
theorem kr_ld {j : Instr} {t i n : Nat} {L st : List Value} {μ : Mem} : kR j (sLd t i n L st μ) := by
  unfold sLd; split
  · rename_i v _
    cases Nat.beq (vtag v) t <;> first | exact kr_none | exact kr_go
  · exact kr_none
theorem kr_s1 {j : Instr} {t i n : Nat} {L st : List Value} {μ : Mem} : kR j (sS1 t i n L st μ) := by
  unfold sS1; split
  · rename_i v _
    cases Nat.beq (vtag v) t <;> first | exact kr_none | exact kr_go
  · exact kr_none
theorem kr_s2 {j : Instr} {t i n : Nat} {L st : List Value} {μ : Mem} : kR j (sS2 t i n L st μ) := by
  unfold sS2; split
  · rename_i v _
    cases Nat.beq (vtag v) t <;> first | exact kr_none | exact kr_go
  · exact kr_none
theorem kr_ii1 {j : Instr} {f : Int32 → Int32} {n : Nat} {L st : List Value} {μ : Mem} : kR j (ii1 f n L st μ) := by unfold ii1; split <;> first | exact kr_go | exact kr_none
theorem kr_ii2 {j : Instr} {f : Int32 → Int32 → Int32} {n : Nat} {L st : List Value} {μ : Mem} : kR j (ii2 f n L st μ) := by unfold ii2; split <;> first | exact kr_go | exact kr_none
theorem kr_ll2 {j : Instr} {f : Int64 → Int64 → Int64} {n : Nat} {L st : List Value} {μ : Mem} : kR j (ll2 f n L st μ) := by unfold ll2; split <;> first | exact kr_go | exact kr_none
theorem kr_ff2 {j : Instr} {f : UInt32 → UInt32 → UInt32} {n : Nat} {L st : List Value} {μ : Mem} : kR j (ff2 f n L st μ) := by unfold ff2; split <;> first | exact kr_gg | exact kr_none
theorem kr_dd2 {j : Instr} {f : UInt64 → UInt64 → UInt64} {n : Nat} {L st : List Value} {μ : Mem} : kR j (dd2 f n L st μ) := by unfold dd2; split <;> first | exact kr_gg | exact kr_none
theorem kr_get {j : Instr} {aux : List Nat} {n : Nat} {L st : List Value} {μ : Mem} : kR j (sGet aux n L st μ) := by unfold sGet; split <;> first | exact kr_gg | exact kr_none
theorem kr_put {j : Instr} {aux : List Nat} {n : Nat} {L st : List Value} {μ : Mem} : kR j (sPut aux n L st μ) := by unfold sPut; split <;> first | exact kr_gg | exact kr_none
theorem kr_bif {i : Instr} {b : Bool} {r : Res} (h : kR i r) : kR i (bif b then r else none) := by cases b <;> first | exact kr_none | exact h
theorem kr_call {j : Instr} {aux : List Nat} {n : Nat} {L st : List Value} {μ : Mem} (h : isCl j) : kR j (sCall aux n L st μ) := by
  unfold sCall
  repeat' split
  all_goals first | exact kr_none | exact kr_bif kr_gg | exact kr_bif h
theorem kr_stp {xs : Scr} {ins : Instr} {n : Nat} {aux : List Nat} {L st : List Value} {μ : Mem} : kR ins (stp xs ins n aux L st μ) := by
  cases ins
  all_goals first
    | exact kr_none
    | exact kr_ld
    | exact kr_s1
    | exact kr_s2
    | exact kr_ii1
    | exact kr_ii2
    | exact kr_ll2
    | exact kr_ff2
    | exact kr_dd2
    | exact kr_get
    | exact kr_put
    | exact kr_call trivial
    | exact kr_go
    | (unfold stp; dsimp only; (repeat' split) <;> first | exact kr_none | exact kr_go | exact kr_gg | exact trivial | exact kr_bif trivial)
/-! what a step says, read -/
theorem inv_go {n n' : Nat} {L L' st st' : List Value} {μ μ' : Mem} (h : go n L st μ = some (true, .inl (n', L', st', μ'))) : n' = n ∧ L' = L ∧ st' = st ∧ μ' = μ := by
  unfold go at h; cases h; exact ⟨rfl, rfl, rfl, rfl⟩
theorem inv_gg {g : Bool} {n n' : Nat} {L L' st st' : List Value} {μ μ' : Mem} (h : gg g n L st μ = some (true, .inl (n', L', st', μ'))) : g = true ∧ n' = n ∧ L' = L ∧ st' = st ∧ μ' = μ := by
  unfold gg at h
  simp only [Option.some.injEq, Prod.mk.injEq, Sum.inl.injEq] at h
  obtain ⟨h1, h2, h3, h4, h5⟩ := h
  exact ⟨h1, h2.symm, h3.symm, h4.symm, h5.symm⟩
theorem inv_bif {b : Bool} {r : Res} {x : Bool × (Go ⊕ (Bool × Nat × Go) ⊕ (Int32 × List Nat × Go) ⊕ Option Value ⊕ Nat ⊕ (Nat × List Value × Go))} (h : (bif b then r else none) = some x) : b = true ∧ r = some x := by
  cases b
  · cases h
  · exact ⟨rfl, h⟩
theorem inv_ld {t i n n' : Nat} {L L' st st' : List Value} {μ μ' : Mem} (h : sLd t i n L st μ = some (true, .inl (n', L', st', μ'))) : ∃ v, L[i]? = some v ∧ vtag v = t ∧ n' = n ∧ L' = L ∧ st' = v :: st ∧ μ' = μ := by
  unfold sLd at h
  split at h
  · rename_i v hv
    cases hb : Nat.beq (vtag v) t
    · rw [hb] at h; cases h
    · rw [hb] at h
      obtain ⟨h1, h2, h3, h4⟩ := inv_go h
      exact ⟨v, hv, Nat.eq_of_beq_eq_true hb, h1, h2, h3, h4⟩
  · cases h
theorem inv_s1 {t i n n' : Nat} {L L' st st' : List Value} {μ μ' : Mem} (h : sS1 t i n L st μ = some (true, .inl (n', L', st', μ'))) : ∃ v r, st = v :: r ∧ vtag v = t ∧ n' = n ∧ L' = st1 L i v ∧ st' = r ∧ μ' = μ := by
  unfold sS1 at h
  split at h
  · rename_i v r
    cases hb : Nat.beq (vtag v) t
    · rw [hb] at h; cases h
    · rw [hb] at h
      obtain ⟨h1, h2, h3, h4⟩ := inv_go h
      exact ⟨v, r, rfl, Nat.eq_of_beq_eq_true hb, h1, h2, h3, h4⟩
  · cases h
theorem inv_s2 {t i n n' : Nat} {L L' st st' : List Value} {μ μ' : Mem} (h : sS2 t i n L st μ = some (true, .inl (n', L', st', μ'))) : ∃ v r, st = v :: r ∧ vtag v = t ∧ n' = n ∧ L' = st2 L i v ∧ st' = r ∧ μ' = μ := by
  unfold sS2 at h
  split at h
  · rename_i v r
    cases hb : Nat.beq (vtag v) t
    · rw [hb] at h; cases h
    · rw [hb] at h
      obtain ⟨h1, h2, h3, h4⟩ := inv_go h
      exact ⟨v, r, rfl, Nat.eq_of_beq_eq_true hb, h1, h2, h3, h4⟩
  · cases h
theorem tag0 {v : Value} (h : vtag v = 0) : ∃ x, v = .int x := by cases v <;> first | exact ⟨_, rfl⟩ | exact absurd h (by simp [vtag])
theorem tag1 {v : Value} (h : vtag v = 1) : ∃ x, v = .long x := by cases v <;> first | exact ⟨_, rfl⟩ | exact absurd h (by simp [vtag])
theorem tag2 {v : Value} (h : vtag v = 2) : ∃ x, v = .float x := by cases v <;> first | exact ⟨_, rfl⟩ | exact absurd h (by simp [vtag])
theorem tag3 {v : Value} (h : vtag v = 3) : ∃ x, v = .double x := by cases v <;> first | exact ⟨_, rfl⟩ | exact absurd h (by simp [vtag])
theorem tag4 {v : Value} (h : vtag v = 4) : ∃ x, v = .ref x := by cases v <;> first | exact ⟨_, rfl⟩ | exact absurd h (by simp [vtag])
theorem inv_ii1 {f : Int32 → Int32} {n n' : Nat} {L L' st st' : List Value} {μ μ' : Mem} (h : ii1 f n L st μ = some (true, .inl (n', L', st', μ'))) : ∃ x r, st = .int x :: r ∧ n' = n ∧ L' = L ∧ st' = .int (f x) :: r ∧ μ' = μ := by
  unfold ii1 at h
  split at h
  · obtain ⟨h1, h2, h3, h4⟩ := inv_go h; exact ⟨_, _, rfl, h1, h2, h3, h4⟩
  · cases h
theorem inv_ii2 {f : Int32 → Int32 → Int32} {n n' : Nat} {L L' st st' : List Value} {μ μ' : Mem} (h : ii2 f n L st μ = some (true, .inl (n', L', st', μ'))) : ∃ y x r, st = .int y :: .int x :: r ∧ n' = n ∧ L' = L ∧ st' = .int (f x y) :: r ∧ μ' = μ := by
  unfold ii2 at h
  split at h
  · obtain ⟨h1, h2, h3, h4⟩ := inv_go h; exact ⟨_, _, _, rfl, h1, h2, h3, h4⟩
  · cases h
theorem inv_ll2 {f : Int64 → Int64 → Int64} {n n' : Nat} {L L' st st' : List Value} {μ μ' : Mem} (h : ll2 f n L st μ = some (true, .inl (n', L', st', μ'))) : ∃ y x r, st = .long y :: .long x :: r ∧ n' = n ∧ L' = L ∧ st' = .long (f x y) :: r ∧ μ' = μ := by
  unfold ll2 at h
  split at h
  · obtain ⟨h1, h2, h3, h4⟩ := inv_go h; exact ⟨_, _, _, rfl, h1, h2, h3, h4⟩
  · cases h
theorem gN32_s {r : UInt32} (h : gN32 r = true) : vf_n32 r := by unfold gN32 at h; rw [decide_eq_true_eq] at h; exact h
theorem gN64_s {r : UInt64} (h : gN64 r = true) : vf_n64 r := by unfold gN64 at h; rw [decide_eq_true_eq] at h; exact h
theorem inv_ff2 {f : UInt32 → UInt32 → UInt32} {n n' : Nat} {L L' st st' : List Value} {μ μ' : Mem} (h : ff2 f n L st μ = some (true, .inl (n', L', st', μ'))) : ∃ y x r, st = .float y :: .float x :: r ∧ vf_n32 (f x y) ∧ n' = n ∧ L' = L ∧ st' = .float (f x y) :: r ∧ μ' = μ := by
  unfold ff2 at h
  split at h
  · obtain ⟨hg, h1, h2, h3, h4⟩ := inv_gg h; exact ⟨_, _, _, rfl, gN32_s hg, h1, h2, h3, h4⟩
  · cases h
theorem inv_dd2 {f : UInt64 → UInt64 → UInt64} {n n' : Nat} {L L' st st' : List Value} {μ μ' : Mem} (h : dd2 f n L st μ = some (true, .inl (n', L', st', μ'))) : ∃ y x r, st = .double y :: .double x :: r ∧ vf_n64 (f x y) ∧ n' = n ∧ L' = L ∧ st' = .double (f x y) :: r ∧ μ' = μ := by
  unfold dd2 at h
  split at h
  · obtain ⟨hg, h1, h2, h3, h4⟩ := inv_gg h; exact ⟨_, _, _, rfl, gN64_s hg, h1, h2, h3, h4⟩
  · cases h
