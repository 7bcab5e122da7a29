/-! the world that a heap of ours is, and the frame's values -/
def adr (n0 b a : Nat) : Nat := if a = SCR then b else n0 + a
def rv (n0 b : Nat) (v : Value) : Value := match v with | .ref a => .ref (adr n0 b a) | w => w
theorem adr_lt {n0 b a : Nat} (h : a < NN) : adr n0 b a = n0 + a := by
  unfold adr
  rw [if_neg (by unfold NN at h; unfold SCR; omega)]
theorem adr_scr {n0 b a : Nat} (h : a = SCR) : adr n0 b a = b := by unfold adr; rw [if_pos h]
theorem rv_cat {n0 b : Nat} (v : Value) : (rv n0 b v).category = v.category := by cases v <;> rfl
def fvl (n0 b : Nat) (μ : Mem) (ci a k : Nat) : Value := match fty ci k with
  | 0 => .int (mI μ a k)
  | 1 => va_rf ((mR μ a k).map (adr n0 b))
  | _ => .long (mL μ a k)
def cel (n0 b : Nat) (cA : Nat → ClassId) (μ : Mem) (a : Nat) : va_E := match (shp a).1 with
  | 5 => .inl (cA 5, (shp a).2, .inl (mI μ a))
  | 6 => .inl (cA 6, (shp a).2, .inl (mI μ a))
  | 7 => .inl (cA 7, (shp a).2, .inr (.inr (.inr (.inr (fun i => (mR μ a i).map (adr n0 b))))))
  | 8 => .inl (cA 8, (shp a).2, .inr (.inr (.inr (.inr (fun i => (mR μ a i).map (adr n0 b))))))
  | 9 => .inl (cA 9, (shp a).2, .inr (.inl (mL μ a)))
  | ci => .inr (ci, (List.range (shp a).2).map (fvl n0 b μ ci a))
def wld (n0 b : Nat) (cA : Nat → ClassId) (μ : Mem) : va_W := (List.range (mN μ)).map (fun a => (n0 + a, cel n0 b cA μ a))
def tysOf (cA : Nat → ClassId) : List (ClassId × FieldType) := [(cA 5, .char), (cA 6, .int), (cA 7, .object RX1), (cA 8, .object RX2)]
def AA (n0 : Nat) : Nat → Prop := fun q => n0 ≤ q
section World
variable {n0 b : Nat} {cA : Nat → ClassId} {μ μ' : Mem} {a ci : Nat}
theorem cel_O (h : (shp a).1 = ci) (hc : ci < 4) : cel n0 b cA μ a = .inr (ci, (List.range (shp a).2).map (fvl n0 b μ ci a)) := by
  unfold cel
  rw [h]
  match ci, hc with
  | 0, _ => rfl
  | 1, _ => rfl
  | 2, _ => rfl
  | 3, _ => rfl
theorem cel_5 (h : (shp a).1 = 5) : cel n0 b cA μ a = .inl (cA 5, (shp a).2, .inl (mI μ a)) := by unfold cel; rw [h]; rfl
theorem cel_6 (h : (shp a).1 = 6) : cel n0 b cA μ a = .inl (cA 6, (shp a).2, .inl (mI μ a)) := by unfold cel; rw [h]; rfl
theorem cel_7 (h : (shp a).1 = 7) : cel n0 b cA μ a = .inl (cA 7, (shp a).2, .inr (.inr (.inr (.inr (fun i => (mR μ a i).map (adr n0 b)))))) := by unfold cel; rw [h]; rfl
theorem cel_8 (h : (shp a).1 = 8) : cel n0 b cA μ a = .inl (cA 8, (shp a).2, .inr (.inr (.inr (.inr (fun i => (mR μ a i).map (adr n0 b)))))) := by unfold cel; rw [h]; rfl
theorem cel_9 (h : (shp a).1 = 9) : cel n0 b cA μ a = .inl (cA 9, (shp a).2, .inr (.inl (mL μ a))) := by unfold cel; rw [h]; rfl
/-- the same content, the same cell -/
theorem cel_cong (h1 : mI μ' a = mI μ a) (h2 : mR μ' a = mR μ a) (h3 : mL μ' a = mL μ a) : cel n0 b cA μ' a = cel n0 b cA μ a := by
  have hf : ∀ ci, fvl n0 b μ' ci a = fvl n0 b μ ci a := by
    intro ci
    funext k
    unfold fvl
    rw [h1, h2, h3]
  unfold cel
  rw [h1, h2, h3]
  simp only [hf]
theorem wld_get (h : a < mN μ) : (wld n0 b cA μ)[a]? = some (n0 + a, cel n0 b cA μ a) := by
  unfold wld
  rw [List.getElem?_map, List.getElem?_range h]
  rfl
theorem wld_len : (wld n0 b cA μ).length = mN μ := by unfold wld; rw [List.length_map, List.length_range]
theorem wld_none (h : ¬ a < mN μ) : (wld n0 b cA μ)[a]? = none := List.getElem?_eq_none (by rw [wld_len]; omega)
theorem wld_D : va_D (AA n0) (wld n0 b cA μ) := by
  have key : ∀ {i : Nat} {p : Nat × va_E}, (wld n0 b cA μ)[i]? = some p → p.1 = n0 + i := by
    intro i p h
    by_cases hi : i < mN μ
    · rw [wld_get hi] at h; cases h; rfl
    · rw [wld_none hi] at h; cases h
  refine ⟨fun i j p q hi hj hpq => ?_, fun k q hk => ?_⟩
  · have h1 := key hi
    have h2 := key hj
    omega
  · show n0 ≤ q.1
    rw [key hk]
    exact Nat.le_add_right _ _
theorem wld_set (h : a < mN μ) (hn : mN μ' = mN μ) (hc : ∀ c, c ≠ a → cel n0 b cA μ' c = cel n0 b cA μ c) {x : va_E} (hx : cel n0 b cA μ' a = x) : (wld n0 b cA μ).set a (n0 + a, x) = wld n0 b cA μ' := by
  subst hx
  apply List.ext_getElem?
  intro i
  by_cases hi : i = a
  · subst hi
    rw [List.getElem?_set_self (by rw [wld_len]; exact h), wld_get (by rw [hn]; exact h)]
  · rw [List.getElem?_set_ne (fun q => hi q.symm)]
    by_cases hl : i < mN μ
    · rw [wld_get hl, wld_get (by rw [hn]; exact hl), hc i hi]
    · rw [wld_none hl, wld_none (by rw [hn]; exact hl)]
theorem wld_push (hn : mN μ' = mN μ + 1) (hc : ∀ c, c < mN μ → cel n0 b cA μ' c = cel n0 b cA μ c) {x : va_E} (hx : cel n0 b cA μ' (mN μ) = x) : wld n0 b cA μ ++ [(n0 + mN μ, x)] = wld n0 b cA μ' := by
  subst hx
  apply List.ext_getElem?
  intro i
  rw [List.getElem?_append, wld_len]
  by_cases hl : i < mN μ
  · rw [if_pos hl, wld_get hl, wld_get (by omega), hc i hl]
  · rw [if_neg hl]
    by_cases he : i = mN μ
    · subst he
      rw [Nat.sub_self, wld_get (by omega)]
      rfl
    · rw [wld_none (by omega)]
      exact List.getElem?_eq_none (by simp; omega)
theorem wld_get' (h : a < mN μ) {q : va_E} (hq : cel n0 b cA μ a = q) : (wld n0 b cA μ)[a]? = some (n0 + a, q) := by rw [wld_get h, hq]
end World
/-! the guards, read -/
theorem gO_spec {μ : Mem} {a ci : Nat} (h : gO μ a ci = true) : a < mN μ ∧ (shp a).1 = ci := by
  unfold gO at h
  rw [Bool.and_eq_true] at h
  exact ⟨Nat.le_of_ble_eq_true h.1, Nat.eq_of_beq_eq_true h.2⟩
theorem clampInt {i : Int32} (h : 0 ≤ i.toInt) : (i.toNatClampNeg : Int) = i.toInt := Int.toNat_of_nonneg h
theorem vpin_of {i : Int32} {n : Nat} (h1 : 0 ≤ i.toInt) (h2 : i.toInt < (n : Int)) : vp_in i n := by
  have h3 := clampInt h1
  rintro (h | h)
  · rw [Int32.lt_iff_toInt_lt, Int32.toInt_zero] at h
    omega
  · omega
theorem gA_spec {μ : Mem} {a kd : Nat} {i : Int32} (h : gA μ a kd i = true) : a < mN μ ∧ (shp a).1 = kd ∧ vp_in i (shp a).2 := by
  unfold gA at h
  rw [Bool.and_eq_true, Bool.and_eq_true, decide_eq_true_eq] at h
  exact ⟨Nat.le_of_ble_eq_true h.1, Nat.eq_of_beq_eq_true h.2.1, vpin_of h.2.2.1 h.2.2.2⟩
theorem shp_obj : ∀ a, a < 387 → (shp a).1 < 4 → (shp a).2 = (clsOf (shp a).1).2.2 := by decide +kernel
theorem shp_len : ∀ a, a < 387 → (shp a).2 ≤ 1944 := by decide +kernel
theorem shp_lt {a : Nat} (h : a < NN) : (shp a).1 ≤ 8 := (by decide +kernel : ∀ a, a < 387 → (shp a).1 ≤ 8) a h
/-! the locals -/
def lvx (n0 b : Nat) (ls : Array Slot) (n : Nat) (L : List Value) : Prop := ls.size = n ∧ L.length = n ∧ lv_wf ls ∧ ∀ (i : Nat) (v : Value), L[i]? = some v → v ≠ .null → ls[i]? = some (.val (rv n0 b v))
def asl (n0 b : Nat) (L : List Value) : List (Nat × Value) := (List.range L.length).filterMap (fun i => match L[i]? with | some v => if v = .null then none else some (i, rv n0 b v) | none => none)
theorem asl_mem {n0 b : Nat} {L : List Value} {q : Nat × Value} : q ∈ asl n0 b L ↔ ∃ v, L[q.1]? = some v ∧ v ≠ .null ∧ q.2 = rv n0 b v := by
  unfold asl
  rw [List.mem_filterMap]
  constructor
  · rintro ⟨i, -, h⟩
    cases hv : L[i]? with
    | none => rw [hv] at h; cases h
    | some v =>
      rw [hv] at h
      dsimp only at h
      split at h
      · cases h
      · rename_i hn
        cases h
        exact ⟨v, hv, hn, rfl⟩
  · rintro ⟨v, h1, h2, h3⟩
    refine ⟨q.1, List.mem_range.mpr (List.getElem?_eq_some_iff.mp h1).1, ?_⟩
    rw [h1]
    dsimp only
    rw [if_neg h2, ← h3]
theorem lvx_has {n0 b n : Nat} {ls : Array Slot} {L : List Value} (h : lvx n0 b ls n L) : lv_has ls n (asl n0 b L) := by
  refine ⟨h.1, h.2.2.1, fun q hq => ?_⟩
  obtain ⟨v, h1, h2, h3⟩ := asl_mem.mp hq
  rw [h3]
  exact h.2.2.2 _ _ h1 h2
theorem lvx_at {n0 b n : Nat} {ls : Array Slot} {L : List Value} (h : lvx n0 b ls n L) {i : Nat} {v : Value} (hi : L[i]? = some v) (hv : v ≠ .null) : ls[i]? = some (.val (rv n0 b v)) := h.2.2.2 i v hi hv
theorem st1_len {L : List Value} {i : Nat} {v : Value} : (st1 L i v).length = L.length := by
  unfold st1
  split
  · rw [List.length_set]
  · rw [List.length_set, List.length_modify]
theorem st1_get {L : List Value} {i j : Nat} {v w : Value} (h : (st1 L i v)[j]? = some w) (hw : w ≠ .null) : (j = i ∧ w = v) ∨ (j ≠ i ∧ L[j]? = some w ∧ ¬ (j + 1 = i ∧ w.category = 2)) := by
  unfold st1 at h
  split at h
  · rw [List.getElem?_set] at h
    split at h
    · split at h
      · cases h; exact Or.inl ⟨by omega, rfl⟩
      · cases h
    · exact Or.inr ⟨by omega, h, by omega⟩
  · rename_i k
    rw [List.getElem?_set] at h
    split at h
    · split at h
      · cases h; exact Or.inl ⟨by omega, rfl⟩
      · cases h
    · refine Or.inr ⟨by omega, ?_⟩
      rw [List.getElem?_modify] at h
      by_cases hk : k = j
      · subst hk
        cases hL : L[k]? with
        | none => rw [hL] at h; cases h
        | some u =>
          rw [hL] at h
          have h : nl2 u = w := by simpa using h
          cases u <;> simp only [nl2] at h <;> subst h <;> first | exact absurd rfl hw | exact ⟨rfl, fun q => by simp [Value.category] at q⟩
      · cases hL : L[j]? with
        | none => rw [hL] at h; cases h
        | some u =>
          rw [hL] at h
          have h : u = w := by simpa [hk] using h
          subst h
          exact ⟨rfl, by omega⟩
theorem lvx_st1 {n0 b n : Nat} {ls ls' : Array Slot} {L : List Value} {i : Nat} {v : Value} (h : lvx n0 b ls n L) (h' : lv_has ls' n ((i, rv n0 b v) :: (asl n0 b L).filter (fun q => !(q.1 == i) && !(q.1 + 1 == i && q.2.category == 2)))) : lvx n0 b ls' n (st1 L i v) := by
  refine ⟨h'.1, by rw [st1_len]; exact h.2.1, h'.2.1, fun j w hj hw => ?_⟩
  rcases st1_get hj hw with ⟨rfl, rfl⟩ | ⟨h1, h2, h3⟩
  · exact h'.2.2 _ List.mem_cons_self
  · refine h'.2.2 (j, rv n0 b w) (List.mem_cons_of_mem _ (List.mem_filter.mpr ⟨asl_mem.mpr ⟨w, h2, hw, rfl⟩, ?_⟩))
    simp only [Bool.and_eq_true, Bool.not_eq_true', beq_eq_false_iff_ne, ne_eq, Bool.and_eq_false_iff, rv_cat]
    refine ⟨h1, ?_⟩
    by_cases hh : j + 1 = i
    · exact Or.inr fun q => h3 ⟨hh, q⟩
    · exact Or.inl hh
theorem lvx_st2 {n0 b n : Nat} {ls ls' : Array Slot} {L : List Value} {i : Nat} {v : Value} (h : lvx n0 b ls n L) (h' : lv_has ls' n ((i, rv n0 b v) :: (asl n0 b L).filter (fun q => !(q.1 == i) && (!(q.1 == i + 1) && !(q.1 + 1 == i && q.2.category == 2))))) : lvx n0 b ls' n (st2 L i v) := by
  refine ⟨h'.1, by unfold st2; rw [List.length_set, st1_len]; exact h.2.1, h'.2.1, fun j w hj hw => ?_⟩
  unfold st2 at hj
  rw [List.getElem?_set] at hj
  split at hj
  · split at hj
    · cases hj; exact absurd rfl hw
    · cases hj
  · rename_i hne
    rcases st1_get hj hw with ⟨rfl, rfl⟩ | ⟨h1, h2, h3⟩
    · exact h'.2.2 _ List.mem_cons_self
    · refine h'.2.2 (j, rv n0 b w) (List.mem_cons_of_mem _ (List.mem_filter.mpr ⟨asl_mem.mpr ⟨w, h2, hw, rfl⟩, ?_⟩))
      simp only [Bool.and_eq_true, Bool.not_eq_true', beq_eq_false_iff_ne, ne_eq, Bool.and_eq_false_iff, rv_cat]
      refine ⟨h1, fun q => hne q.symm, ?_⟩
      by_cases hh : j + 1 = i
      · exact Or.inr fun q => h3 ⟨hh, q⟩
      · exact Or.inl hh
/-- a place in the list of the known locals -/
theorem asl_at {n0 b : Nat} {L : List Value} {i : Nat} {v : Value} (h : L[i]? = some v) (hv : v ≠ .null) : ∃ k : Nat, (asl n0 b L)[k]? = some (i, rv n0 b v) := by
  have := List.getElem?_of_mem (asl_mem (n0 := n0) (b := b) (q := (i, rv n0 b v)).mpr ⟨v, h, hv, rfl⟩)
  exact this
