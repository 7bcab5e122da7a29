/-! the machine's side of a step: what holds of a method's body while it runs -/
def ssum : Nat → Nat
  | 0 => 0
  | n + 1 => ssum n + (shp n).2
theorem ssum_mono {a k : Nat} : ssum a ≤ ssum (a + k) := by
  induction k with
  | zero => exact Nat.le_refl _
  | succ k ih => exact Nat.le_trans ih (Nat.le_add_right _ _)
theorem ssum_le {a c : Nat} (h : a ≤ c) : ssum a ≤ ssum c := by
  obtain ⟨k, rfl⟩ := Nat.exists_eq_add_of_le h
  exact ssum_mono
/-- what the tables and the heap below say, beside the words and the classes -/
def Vmf (b : Nat) (xs : Scr) (n0 : Nat) (U : State) (H : Heap) : Prop := (va_X b xs.1 xs.2 U H ∧ b < n0 ∧ xs.1 ≤ 260) ∧ (∀ w ∈ nestW, va_Nw w U) ∧ vx_Zq Bundle.tN "UNASSIGNED_STACK" Bundle.steD (AA n0) U H ∧ vx_Zq Bundle.tN "SUPPRESSED_SENTINEL" Bundle.listD (AA n0) U H ∧ (∀ (i k : Nat) (t : String), lw_tbl[i]? = some (.stringRef RX4 k t) → ∃ sa, vk_R RX4 k t sa U) ∧ ((∃ m, hRow m ≠ []) → ∀ E E' : Nat, 0 < E → E < 4 → 0 < E' → E' < 4 → E ≠ E' → va_Nc (excN E) (excN E') U) ∧ (∀ E : Nat, 0 < E → E < 4 → va_Nw (.castable (excN E) (excN E)) U) ∧ ∀ x : MethodName, Cond.declares x ∈ lw_tbl → va_Nw (.declares x) U
def Cx (p : Program) (l : Launch) (s : State) (mid : MethodId) (args : Array Value) (meth : Method) (c : Code) (D : va_G) (cA : Nat → ClassId) (n0 b : Nat) (xs : Scr) (m : Nat) : Prop :=
  p.tables.exec = Jvm.exec ∧ c.code = cM m ∧ c.maxLocals = xM m ∧ s.vm.findClass (ownM m) = some mid.cls ∧ (∀ w ∈ lw_all, w.before args s = true) ∧ va_K D vwCl (tysOf cA) s ∧ n0 ≤ s.heap.size ∧ meth.name = (yM m).name ∧ meth.locks = false ∧ l.stackTraces = false ∧ Vmf b xs n0 s s.heap ∧ (m = 101 → va_X b xs.1 xs.2 s s.heap ∧ b < n0 ∧ xs.1 ≤ 260) ∧ c.exceptionTable.toList = tableOf (hM m) ∧ meth.sig.returnType = rM m
def Iv (s : State) (D : va_G) (cA : Nat → ClassId) (n0 b k0 : Nat) (μ : Mem) (H : Heap) (locs : List Loc) : Prop :=
  mN μ ≤ NN ∧ va_P D vwCl (wld n0 b cA μ) H ∧ va_S (AA n0) s.heap H locs ∧ (mX μ = 0 → s.heap.size = n0 + k0 ∧ k0 ≤ mN μ)
def Gd (p : Program) (l : Launch) (e : Env) (R : Room) (s : State) (mid : MethodId) (args : Array Value) (below : List Frame) (meth : Method) (c : Code) (D : va_G) (cA : Nat → ClassId) (n0 b k0 d0 m : Nat) (Q : State → Prop) (pc : Nat) (L st : List Value) (μ : Mem) : Prop :=
  ∀ (H : Heap) (locs : List Loc) (ls : Array Slot), Iv s D cA n0 b k0 μ H locs → lvx n0 b ls (xM m) L → W p l e R s mid args below meth c H locs (mN μ + mX μ - k0) (ssum (mN μ) + 6 * mX μ - d0) Q (F0 mid pc ls (st.map (rv n0 b)))
theorem in_code {w : Jvm.Cond} {args : Array Value} {s : State} (h : ∀ w ∈ lw_all, w.before args s = true) {i : Nat} (hg : gw i w = true) : w.before args s = true := h w (gw_in hg)
theorem cls_ws {ci : Nat} (h : ci < 4) : ∀ w ∈ u_ws (clsOf ci).1 (clsOf ci).2.1 (clsOf ci).2.2, w ∈ lw_all := by
  have key : ∀ ci, ci < 4 → (u_ws (clsOf ci).1 (clsOf ci).2.1 (clsOf ci).2.2).all (fun w => hasW w) = true := by decide +kernel
  intro w hw
  have := List.all_eq_true.mp (key ci h) w hw
  unfold hasW at this
  rw [Bool.and_eq_true, decide_eq_true_eq] at this
  exact List.mem_filter.mpr this
theorem cls_at {ci : Nat} (h : ci < 4) : vwCl[ci]? = some ((clsOf ci).1, (clsOf ci).2.1, (clsOf ci).2.2) := by
  match ci, h with
  | 0, _ => rfl
  | 1, _ => rfl
  | 2, _ => rfl
  | 3, _ => rfl
theorem cls_nm {ci : Nat} (h : ci < 4) : ∀ a, a < (clsOf ci).2.2 → ∀ b, b < (clsOf ci).2.2 → a ≠ b → ((clsOf ci).2.1 a).2.1 ≠ ((clsOf ci).2.1 b).2.1 := by
  match ci, h with
  | 0, _ => exact nmX1
  | 1, _ => exact nmX2
  | 2, _ => exact nmX3
  | 3, _ => exact nmX4
def clsTy (ci : Nat) : Nat → FieldType := match ci with | 0 => tyX1 | 1 => tyX2 | 2 => tyX3 | _ => tyX4
theorem cls_ty {ci : Nat} (h : ci < 4) : ∀ k, k < (clsOf ci).2.2 → parseFieldDescriptor ((clsOf ci).2.1 k).2.2.1 = some (clsTy ci k) := by
  match ci, h with
  | 0, _ => exact tyX1_ok
  | 1, _ => exact tyX2_ok
  | 2, _ => exact tyX3_ok
  | 3, _ => exact tyX4_ok
/-- the kind of a field, and its type -/
def refTy (t : FieldType) : Bool := match t with | .object _ => true | .array _ => true | _ => false
theorem cls_f0 : ∀ ci, ci < 4 → ∀ k, k < (clsOf ci).2.2 → fty ci k = 0 → clsTy ci k = .int := by decide +kernel
theorem cls_f1 : ∀ ci, ci < 4 → ∀ k, k < (clsOf ci).2.2 → fty ci k = 1 → refTy (clsTy ci k) = true := by decide +kernel
theorem cls_f2 : ∀ ci, ci < 4 → ∀ k, k < (clsOf ci).2.2 → fty ci k = 2 → clsTy ci k = .long := by decide +kernel
theorem cls_fr : ∀ ci, ci < 4 → ∀ k, k < (clsOf ci).2.2 → fty ci k = 0 ∨ fty ci k = 1 ∨ fty ci k = 2 := by decide +kernel
theorem ref_fit {t : FieldType} (h : refTy t = true) (a : Nat) : narrow t (.ref a) = .ref a ∧ fits t (.ref a) = true := by
  cases t <;> first | exact ⟨rfl, rfl⟩ | exact absurd h (by simp [refTy])
section Snd
variable {p : Program} {l : Launch} {e : Env} {R : Room} {s : State} {mid : MethodId} {args : Array Value} {below : List Frame} {meth : Method} {c : Code} {D : va_G} {cA : Nat → ClassId} {n0 b k0 d0 : Nat} {xs : Scr} {m : Nat} {Q : State → Prop}
/-- the room still there -/
def Rm (R : Room) (k0 d0 : Nat) (μ : Mem) : Prop := mN μ + mX μ - k0 ≤ R.cells ∧ ssum (mN μ) + 6 * mX μ - d0 ≤ R.slots ∧ k0 ≤ mN μ + mX μ ∧ d0 ≤ ssum (mN μ) + 6 * mX μ
/-- reading a field -/
theorem g_get (C : Cx p l s mid args meth c D cA n0 b xs m) {pc idx : Nat} {aux : List Nat} {L st L' st' : List Value} {μ μ' : Mem} {n' : Nat} {len : Nat} (hI : I m pc = some (.getfield idx, len, aux))
    (hs : sGet aux (pc + len) L st μ = some (true, .inl (n', L', st', μ'))) (k : Gd p l e R s mid args below meth c D cA n0 b k0 d0 m Q n' L' st' μ') : Gd p l e R s mid args below meth c D cA n0 b k0 d0 m Q pc L st μ := by
  obtain ⟨hd, hc, -⟩ := I_ok hI
  obtain ⟨hx, hb, -, hown, hts, hK, -⟩ := C
  have hd : decode (cM m) pc = .ok (.getfield idx, len) := hd
  unfold chk at hc
  dsimp only at hc
  rw [Bool.and_eq_true] at hc
  obtain ⟨hlen, hc⟩ := hc
  have hlen := Nat.eq_of_beq_eq_true hlen
  subst hlen
  have main : ∀ {ci k0' tag wl : Nat} {r : List Nat} {a : Nat} {rs : List Value} {v : Value}, aux = ci :: k0' :: tag :: wl :: r → gO μ a ci = true → mN μ ≤ NN → st = .ref a :: rs → rv n0 b v = fvl n0 b μ ci a k0' →
      (∀ (H : Heap) (locs : List Loc) (ls : Array Slot), Iv s D cA n0 b k0 μ H locs → lvx n0 b ls (xM m) L → W p l e R s mid args below meth c H locs (mN μ + mX μ - k0) (ssum (mN μ) + 6 * mX μ - d0) Q (F0 mid (pc + 3) ls (rv n0 b v :: rs.map (rv n0 b)))) → Gd p l e R s mid args below meth c D cA n0 b k0 d0 m Q pc L st μ := by
    intro ci kk tag wl r a rs v haux hg hN hst hv kk2 H locs ls hi hl
    subst haux; subst hst
    dsimp only at hc
    simp only [Bool.and_eq_true] at hc
    obtain ⟨h1, h2, h3, h4⟩ := hc
    have h1 := Nat.le_of_ble_eq_true h1
    have h2 := Nat.le_of_ble_eq_true h2
    obtain ⟨ha, hsh⟩ := gO_spec hg
    have haN : a < NN := Nat.lt_of_lt_of_le ha hN
    have hob := shp_obj a haN (by rw [hsh]; exact h1)
    rw [hsh] at hob
    have hw := wld_get' (n0 := n0) (b := b) (cA := cA) ha (cel_O hsh h1)
    show W p l e R s mid args below meth c H locs _ _ Q (F0 mid pc ls (.ref (adr n0 b a) :: rs.map (rv n0 b)))
    rw [adr_lt haN]
    refine va_get (D := D) (ci := ci) (v := rv n0 b v) (C := (clsOf ci).1) (T := (clsOf ci).2.1) (N := (clsOf ci).2.2) hx hb hts (cls_ws h1) hown hK hi.2.1 a hw (cls_at h1) kk h2 (in_code hts h4) (fun _ h9 => h9) ?_ hd (kk2 H locs ls hi hl)
    rw [List.getElem?_map, List.getElem?_range (by rw [hob]; exact h2), hv]
    rfl
  unfold sGet at hs
  intro H locs ls hi hl
  have hN := hi.1
  split at hs
  · obtain ⟨hg, h1, h2, h3, h4⟩ := inv_gg hs
    subst h1; subst h2; subst h3; subst h4
    rename_i ci kk r a rs
    cases r with
    | nil => dsimp only at hc; exact absurd hc (by simp)
    | cons wl r =>
      refine main (v := .int (mI μ' a kk)) rfl hg hN rfl ?_ (fun H locs ls hi hl => k H locs ls hi hl) H locs ls hi hl
      have hc' := hc
      dsimp only at hc'
      simp only [Bool.and_eq_true] at hc'
      unfold fvl
      rw [← Nat.eq_of_beq_eq_true hc'.2.2.1]
      rfl
  · obtain ⟨hg, h1, h2, h3, h4⟩ := inv_gg hs
    subst h1; subst h2; subst h3; subst h4
    rename_i ci kk r a rs
    rw [Bool.and_eq_true] at hg
    cases r with
    | nil => dsimp only at hc; exact absurd hc (by simp)
    | cons wl r =>
      refine main (v := vR (mR μ' a kk)) rfl hg.1 hN rfl ?_ (fun H locs ls hi hl => k H locs ls hi hl) H locs ls hi hl
      have hc' := hc
      dsimp only at hc'
      simp only [Bool.and_eq_true] at hc'
      unfold fvl
      rw [← Nat.eq_of_beq_eq_true hc'.2.2.1]
      have hr := hg.2
      unfold gR at hr
      cases hm : mR μ' a kk with
      | none => rw [hm] at hr; cases hr
      | some z => rfl
  · obtain ⟨hg, h1, h2, h3, h4⟩ := inv_gg hs
    subst h1; subst h2; subst h3; subst h4
    rename_i ci kk r a rs
    cases r with
    | nil => dsimp only at hc; exact absurd hc (by simp)
    | cons wl r =>
      refine main (v := .long (mL μ' a kk)) rfl hg hN rfl ?_ (fun H locs ls hi hl => k H locs ls hi hl) H locs ls hi hl
      have hc' := hc
      dsimp only at hc'
      simp only [Bool.and_eq_true] at hc'
      unfold fvl
      rw [← Nat.eq_of_beq_eq_true hc'.2.2.1]
      rfl
  · cases hs
end Snd
