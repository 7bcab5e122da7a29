/-! contracts -/
def wsY (y : Nat) : List Jvm.Cond := (match hM y with | [] => Jvm.Cond.code (yM y) (cM y) (xM y) (rM y) | h :: r => Jvm.Cond.codeWith (yM y) (cM y) (xM y) (rM y) (h :: r)) :: lw_all
def rmY (y mc ms : Nat) : Room := { frames := fM y, cells := mc, slots := ms, locals := 40 * fM y }
def Wd (D : va_G) (cA : Nat → ClassId) (n0 b : Nat) (xs : Scr) (μ : Mem) (U : State) : Prop := mN μ ≤ NN ∧ va_P D vwCl (wld n0 b cA μ) U.heap ∧ va_K D vwCl (tysOf cA) U ∧ n0 ≤ U.heap.size ∧ Vmf b xs n0 U U.heap ∧ (mX μ = 0 → U.heap.size = n0 + mN μ)
def QcY (D : va_G) (cA : Nat → ClassId) (n0 b : Nat) (o : Out × Mem) : Array Value → State → Outcome → State → Prop := fun _ st oc t => ∃ v, o.1 = .inl v ∧ oc = .returned (v.map (rv n0 b)) ∧ va_P D vwCl (wld n0 b cA o.2) t.heap ∧ va_F (AA n0) st t
def XcY (D : va_G) (cA : Nat → ClassId) (n0 b : Nat) (o : Out × Mem) : String → State → State → Prop := fun E st t => ∃ k, o.1 = .inr k ∧ 0 < k ∧ k < 4 ∧ E = excN k ∧ va_P D vwCl (wld n0 b cA o.2) t.heap ∧ va_F (AA n0) st t
def mcY (μ μ' : Mem) : Nat := mN μ' + mX μ' - (mN μ + mX μ)
def msY (μ μ' : Mem) : Nat := ssum (mN μ') + 6 * mX μ' - (ssum (mN μ) + 6 * mX μ)
def Ctr (l : Launch) (D : va_G) (cA : Nat → ClassId) (n0 b : Nat) (xs : Scr) (y : Nat) (as : List Value) (μ : Mem) (o : Out × Mem) : Prop := vx_Met l (yM y) (wsY y) (rmY y (mcY μ o.2) (msY μ o.2)) (va_Pc (as.map (rv n0 b)) (Wd D cA n0 b xs μ)) (QcY D cA n0 b o) (XcY D cA n0 b o) (mcY μ o.2) (msY μ o.2) (AA n0)
theorem nest_warm {w : Jvm.Cond} (hw : w ∈ nestW) {s U : State} (hW : s.WarmedH U.vm) (h : va_Nw w s) : va_Nw w U := by
  unfold nestW at hw
  simp only [List.mem_cons, List.not_mem_nil, or_false] at hw
  rcases hw with rfl | rfl | rfl | rfl
  · exact va_Nw.warmM hW h
  · exact va_Nw.warmM hW h
  · exact va_AO.moved hW.alike h
  · exact va_AO.moved hW.alike h
theorem Vmf.to {b : Nat} {xs : Scr} {n0 : Nat} {s U : State} {H H1 : Heap} (hW : s.WarmedH U.vm) (h : Vmf b xs n0 s H) (hq : ∀ a : Nat, a < H.size → ¬ AA n0 a → H1[a]? = H[a]?) : Vmf b xs n0 U H1 := by
  obtain ⟨⟨hX, hbn, hx3⟩, h1, h2, h3, h4, h5, h6, h7⟩ := h
  have hbl : b < H.size := by obtain ⟨scr, hs, -⟩ := hX; exact (Array.getElem?_eq_some_iff.mp hs).1
  refine ⟨⟨(hX.moved hW.alike).kept (hq b hbl (show ¬ n0 ≤ b by omega)), hbn, hx3⟩, fun w hw => nest_warm hw hW (h1 w hw), vx_Zq.moved hW.alike (h2.kept hq), vx_Zq.moved hW.alike (h3.kept hq), fun i k t hi => ?_, fun a0 E E' a1 a2 a3 a4 a5 => va_Nc.moved hW.alike (h5 a0 E E' a1 a2 a3 a4 a5), fun E a1 a2 => va_Nw.warmC hW (h6 E a1 a2), fun x hx => va_Nw.warmD hW (h7 x hx)⟩
  obtain ⟨sa, hs⟩ := h4 i k t hi
  exact ⟨sa, hs.warm hW⟩
theorem Vmf.same {b : Nat} {xs : Scr} {n0 : Nat} {s U : State} {H : Heap} (hv : U.vm = s.vm) (h : Vmf b xs n0 s H) : Vmf b xs n0 U H := h.to (by rw [hv]; exact State.WarmedH.refl s) (fun _ _ _ => rfl)
theorem vy_ofW {l : Launch} {y : MethodName} {ws ws' : List Jvm.Cond} {rm : Room} {Pc : Array Value → State → Prop} {Qc : Array Value → State → Outcome → State → Prop} {XC : String → State → State → Prop} {mc ms : Nat} {free : Addr → Prop} {cc : ByteArray} {maxL : Nat} {ret : Option FieldType}
    (hy : plainFor y = true) (hw : ws = Cond.code y cc maxL ret :: ws')
    (body : ∀ p e s m args below meth c s₁, BodyLoose p l y (headSpec ws rm) cc maxL ret e s m args below meth c s₁ → c.maxLocals = maxL → c.exceptionTable.toList = [] → Pc args s →
      W p l e (headSpec ws rm).room s m args below meth c s.heap [] 0 0 (vx_MQ below Qc XC args s mc ms free) (entryFrame m args maxL)) : vx_Met l y ws rm Pc Qc XC mc ms free := by
  refine MetFree.of_bodySF (code := cc) (maxLocals := maxL) (ret := ret) hy ?_ ?_
  · intro args s m h hn
    obtain ⟨meth, c, h1, h2, h3, h4, h5, h6, -, -⟩ := Cond.code_spec hn (atoms_spec (ws := ws) h _ (by rw [hw]; exact List.mem_cons_self))
    exact ⟨meth, c, h1, h2, h3, h4, h5, h6⟩
  · intro p e s m args below meth c s₁ B hml hP _
    have hh0 : s₁.heap = s.heap := by rw [B.state]; rfl
    have ht : c.exceptionTable.toList = [] := by
      obtain ⟨meth9, c9, h1, h2, -, -, -, -, h7, -⟩ := Cond.code_spec B.named (atoms_spec (ws := ws) B.pre _ (by rw [hw]; exact List.mem_cons_self))
      cases Option.some.inj (h1.symm.trans B.method)
      cases Option.some.inj (h2.symm.trans (Stand.of_body B).code)
      rw [Array.isEmpty_iff.mp h7]
    obtain ⟨t, a1, o, b1, b2, b3⟩ := body p e s m args below meth c s₁ B hml ht hP s₁ hh0 (Stand.of_body B)
    exact ⟨t, o, a1, b1, b2, b3⟩
theorem vy_ofWH {l : Launch} {y : MethodName} {ws ws' : List Jvm.Cond} {rm : Room} {Pc : Array Value → State → Prop} {Qc : Array Value → State → Outcome → State → Prop} {XC : String → State → State → Prop} {mc ms : Nat} {free : Addr → Prop} {cc : ByteArray} {maxL : Nat} {ret : Option FieldType} {hh : List (Nat × Nat × Nat × Nat)}
    (hy : plainFor y = true) (hw : ws = Cond.codeWith y cc maxL ret hh :: ws')
    (body : ∀ p e s m args below meth c s₁, BodyLoose p l y (headSpec ws rm) cc maxL ret e s m args below meth c s₁ → c.maxLocals = maxL → c.exceptionTable.toList = tableOf hh → Pc args s →
      W p l e (headSpec ws rm).room s m args below meth c s.heap [] 0 0 (vx_MQ below Qc XC args s mc ms free) (entryFrame m args maxL)) : vx_Met l y ws rm Pc Qc XC mc ms free := by
  refine MetFree.of_bodySF (code := cc) (maxLocals := maxL) (ret := ret) hy ?_ ?_
  · intro args s m h hn
    obtain ⟨m9, meth, c, hn9, h1, h2, h3, h4, -, h5, h6, -⟩ := Cond.codeWith_spec (atoms_spec (ws := ws) h _ (by rw [hw]; exact List.mem_cons_self))
    cases hn.symm.trans hn9
    exact ⟨meth, c, h1, h2, h3, h4, h5, h6⟩
  · intro p e s m args below meth c s₁ B hml hP _
    have hh0 : s₁.heap = s.heap := by rw [B.state]; rfl
    have ht := vx_table (x := y) B (atoms_spec (ws := ws) B.pre _ (by rw [hw]; exact List.mem_cons_self) : (Cond.codeWith y cc maxL ret hh).before args s = true)
    obtain ⟨t, a1, o, b1, b2, b3⟩ := body p e s m args below meth c s₁ B hml ht hP s₁ hh0 (Stand.of_body B)
    exact ⟨t, o, a1, b1, b2, b3⟩
/-- a method's own word -/
theorem okY_spec {y : Nat} (h : y < 209) : plainFor (yM y) = true ∧ (∀ w ∈ wsY y, w ∈ lw_all) ∧ Cond.initialized (yM y).cls ∈ lw_all ∧ (wM y 4 = 0 → Cond.instanceMethod (yM y) ∈ lw_all ∧ Cond.selects (yM y).cls (yM y) (yM y) ∈ lw_all) ∧ (wM y 4 = 1 → Cond.static (yM y) ∈ lw_all) ∧ (wM y 4 = 2 → Cond.instanceMethod (yM y) ∈ lw_all ∧ (yM y).name = "<init>" ∧ rM y = none) ∧ (yM y).cls ≠ "java/lang/invoke/MethodHandle" ∧ (yM y).cls ≠ "java/lang/invoke/VarHandle" ∧ xM y ≤ 21 := by
  have h1 := (okMY (Nat.lt_succ_of_lt h)).2 h
  unfold okY at h1
  obtain ⟨h1, hr⟩ := Bool.and_eq_true_iff.mp h1
  obtain ⟨h2, hr⟩ := Bool.and_eq_true_iff.mp hr
  obtain ⟨h34, hr⟩ := Bool.and_eq_true_iff.mp hr
  obtain ⟨h3, h4⟩ := Bool.and_eq_true_iff.mp h34
  obtain ⟨h5, hr⟩ := Bool.and_eq_true_iff.mp hr
  obtain ⟨h6, h7⟩ := Bool.and_eq_true_iff.mp hr
  have h5 := of_decide_eq_true h5
  have h6 := of_decide_eq_true h6
  refine ⟨h1, fun w hw => ?_, gw_in h3, fun q => ?_, fun q => ?_, fun q => ?_, h5, h6, Nat.le_of_ble_eq_true h7⟩
  · unfold wsY at hw
    rcases List.mem_cons.mp hw with hw | hw
    · rw [hw]
      cases hh : hM y with
      | nil => rw [hh] at h2; exact gw_in h2
      | cons a r => rw [hh] at h2; exact gw_in h2
    · exact hw
  · rw [q] at h4
    simp only [Bool.and_eq_true] at h4
    exact ⟨gw_in h4.1, gw_in h4.2⟩
  · rw [q] at h4
    exact gw_in h4
  · rw [q] at h4
    simp only [Bool.and_eq_true, decide_eq_true_eq] at h4
    exact ⟨gw_in h4.1, h4.2.1, h4.2.2⟩
theorem lw_good {w : Jvm.Cond} (h : w ∈ lw_all) : (w.onTables && w.keeps) = true ∨ ∃ ty, w = .arrayClass ty := good_of_word (List.mem_filter.mp h).2
theorem lw_goodIn {ws : List Jvm.Cond} (h : ∀ w ∈ ws, w ∈ lw_all) : GoodIn lw_all ws := fun w hw => ⟨h w hw, lw_good (h w hw)⟩
/-- the locals at the start -/
theorem argL_at {n0 b : Nat} : ∀ (as : List Value) (k i : Nat) (v : Value), (argL as)[i]? = some v → v ≠ .null → (k + i, rv n0 b v) ∈ lv_args k (as.map (rv n0 b))
  | [], _, _, _, h, _ => by cases h
  | a :: as, k, i, v, h, hv => by
    have go1 : ∀ {a : Value}, a.category ≠ 2 → (argL (a :: as)) = a :: argL as → (argL (a :: as))[i]? = some v → (k + i, rv n0 b v) ∈ lv_args k ((a :: as).map (rv n0 b)) := by
      intro a ha he h
      rw [he] at h
      show _ ∈ (k, rv n0 b a) :: lv_args (if (rv n0 b a).category = 2 then k + 2 else k + 1) (as.map (rv n0 b))
      rw [rv_cat, if_neg ha]
      cases i with
      | zero => cases h; exact List.mem_cons_self
      | succ i => exact List.mem_cons_of_mem _ (by have := argL_at (n0 := n0) (b := b) as (k + 1) i v h hv; rw [show k + (i + 1) = k + 1 + i by omega]; exact this)
    have go2 : ∀ {a : Value}, a.category = 2 → (argL (a :: as)) = a :: .null :: argL as → (argL (a :: as))[i]? = some v → (k + i, rv n0 b v) ∈ lv_args k ((a :: as).map (rv n0 b)) := by
      intro a ha he h
      rw [he] at h
      show _ ∈ (k, rv n0 b a) :: lv_args (if (rv n0 b a).category = 2 then k + 2 else k + 1) (as.map (rv n0 b))
      rw [rv_cat, if_pos ha]
      cases i with
      | zero => cases h; exact List.mem_cons_self
      | succ i => cases i with
        | zero => cases h; exact absurd rfl hv
        | succ i => exact List.mem_cons_of_mem _ (by have := argL_at (n0 := n0) (b := b) as (k + 2) i v h hv; rw [show k + (i + 1 + 1) = k + 2 + i by omega]; exact this)
    cases a with
    | int x => exact go1 (by simp [Value.category]) rfl h
    | float x => exact go1 (by simp [Value.category]) rfl h
    | ref x => exact go1 (by simp [Value.category]) rfl h
    | null => exact go1 (by simp [Value.category]) rfl h
    | retAddr x => exact go1 (by simp [Value.category]) rfl h
    | long x => exact go2 rfl rfl h
    | double x => exact go2 rfl rfl h
theorem argL_len {n0 b : Nat} : ∀ as : List Value, (argL as).length = (lg_sl (as.map (rv n0 b))).length
  | [] => rfl
  | a :: as => by
    have ih := argL_len (n0 := n0) (b := b) as
    have e : lg_sl ((a :: as).map (rv n0 b)) = (if (rv n0 b a).category = 2 then [Slot.val (rv n0 b a), .second] else [.val (rv n0 b a)]) ++ lg_sl (as.map (rv n0 b)) := rfl
    rw [e, rv_cat, List.length_append, ← ih]
    cases a <;> simp [argL, Value.category] <;> omega
theorem lvx_entry {n0 b n : Nat} {as : List Value} (h : (argL as).length ≤ n) : lvx n0 b ((lg_sl (as.map (rv n0 b)) ++ List.replicate (n - (lg_sl (as.map (rv n0 b))).length) Slot.unset).toArray) n (pad (argL as) n) := by
  have hl := lv_entry (as.map (rv n0 b)) (n := n) (by rw [← argL_len]; exact h)
  refine ⟨hl.1, ?_, hl.2.1, fun i v hi hv => ?_⟩
  · unfold pad
    rw [List.length_append, List.length_replicate]
    omega
  · unfold pad at hi
    by_cases hlt : i < (argL as).length
    · rw [List.getElem?_append_left hlt] at hi
      have := argL_at (n0 := n0) (b := b) as 0 i v hi hv
      rw [Nat.zero_add] at this
      exact hl.2.2 _ this
    · rw [List.getElem?_append_right (by omega)] at hi
      have := List.mem_of_getElem? hi
      rw [List.mem_replicate] at this
      exact absurd this.2 hv
