/-! the law's walk out of its run -/
def R_law : String := "AlibiWindowLaw"
def lw_P (b : Addr) (xs : List Int32) (args : Array Value) (s : State) : Prop := args = #[.ref b] ∧ s.IntsAt b xs ∧ xs.length ≤ 260 ∧ (Jvm.Cond.and given_1 narrow_1).before args s = true
/-- what a walk over the start with the record d0 says of its end, said of the start itself -/
theorem lw_closed {s t : State} {o : Outcome} {d0 : Drawn} {L : List Loc} {k n : Nat} (hd0 : s.drawn.sameBut d0 lw_cs) (hv : ∃ v, o = .returned v) (hW : (s.setDrawn d0).WarmedH t.vm) (hs : (s.setDrawn d0).sameButNew ({ t with vm := s.vm } : State) L k n) : State.butDraws s t lw_cs (fun t1 => Framed s o t1 L k n) := by
  have h2 : t.drawn = d0 := congrArg State.drawn hs.1
  refine ⟨⟨hv, hW, State.sameButNew.setDrawn hs s.drawn⟩, ?_, by decide⟩
  rw [h2]
  exact hd0
def lw_Q (_ : Array Value) (s : State) (o : Outcome) (t : State) : Prop := o = .returned (some (.int 1)) ∧ State.butDraws s t lw_cs (fun t1 => Framed s o t1 [] 600172 7300668)
def lw_Z (below : List Frame) (a : Array Value) (s : State) : State → Prop := fun t => ∃ o, t.status = .running ∧ Ended t below o ∧ lw_Q a s o t
/-- the law's own end -/
theorem lw_ret {p : Program} {l : Launch} {e : Env} {s : State} {m : MethodId} {below : List Frame} {meth : Method} {c : Code} {b : Nat} {d0 : Drawn} (hd0 : s.drawn.sameBut d0 lw_cs) (hx : p.tables.exec = Jvm.exec) (hb : c.code = code) (hr : meth.sig.returnType = ret) (hlocks : meth.locks = false) {pc : Nat} {H : Heap} {ls : Array Slot} {rest : List Value} (hdg : decode code pc = .ok (.ireturn, 1)) : W p l e room_1 (s.setDrawn d0) m #[Value.ref b] below meth c H [] 600172 7300668 (lw_Z below #[Value.ref b] s) (F0 m pc ls (.int 1 :: rest)) := by
  intro T hT X
  obtain ⟨fs, hret, hrun, hended, hW, hframe⟩ := X.leave (v := some (.int 1)) (hlocks := hlocks) (fun h => by rw [hr] at h; cases h)
  have hmeth' : T.vm.method? m = some meth := X.method'
  refine ⟨T.setFrames fs, ?_, .returned (some (.int 1)), hrun, hended, rfl, lw_closed hd0 ⟨_, rfl⟩ hW hframe⟩
  jvm_step X.here [X.here.top, hx, hb, hdg, hmeth', hr, ret, narrow_b1]
  (try refine ⟨rfl, ?_⟩); (try refine ⟨rfl, ?_⟩)
  first | (intro acts; rw [hret _ acts rfl rfl rfl]) | rw [hret _ _ rfl rfl rfl]
  exact Steps.refl _
def lw_At (p : Program) (s : State) (m : MethodId) (meth : Method) (c : Code) (b L : Nat) (xs : Nat → Int32) : Prop :=
  p.tables.exec = Jvm.exec ∧ c.code = code ∧ meth.sig.returnType = ret ∧ c.maxLocals = 12 ∧ s.vm.findClass R_law = some m.cls ∧ (∀ w ∈ lw_tbl, w.before #[Value.ref b] s = true) ∧ va_X b L xs s s.heap ∧ b < s.heap.size ∧ meth.locks = false ∧ (Jvm.Cond.and given_1 narrow_1).before #[Value.ref b] s = true ∧ meth.name = "law" ∧ c.exceptionTable.toList = []
/-- the words that the law's world begins with -/
abbrev lwG : List Jvm.Cond := flatC (Jvm.Cond.and given_1 narrow_1)
theorem lw_g1 : decide (Jvm.Cond.isRef (.static Bundle.tN "UNASSIGNED_STACK" Bundle.steD) ∈ lwG) = true := by decide +kernel
theorem lw_g2 : decide (Jvm.Cond.isRef (.static Bundle.tN "SUPPRESSED_SENTINEL" Bundle.listD) ∈ lwG) = true := by decide +kernel
theorem lw_g3 : lw_tbl.all (fun w => match w with | .stringRef o k _ => !(decide (o = RX4)) || decide (Jvm.Cond.exactly (.string RX4 k) "java/lang/String" ∈ lwG) | _ => true) = true := by decide +kernel
theorem lw_t1 : [Jvm.Cond.castable (excN 1) (excN 1), .castable (excN 2) (excN 2), .castable (excN 3) (excN 3), .laysStatic Bundle.tN "UNASSIGNED_STACK" Bundle.steD, .laysStatic Bundle.tN "SUPPRESSED_SENTINEL" Bundle.listD, .initialized Bundle.tN, .arrayClass .char, .arrayClass .int, .arrayOver (.object RX1), .arrayOver (.object RX2), .methodLinkNest RX2 17 yX1_init "AlibiWindow", .methodLinkNest RX4 25 yX3_init "AlibiWindow"].all (fun w => decide (w ∈ lw_tbl)) = true := by decide +kernel
theorem lw_cls : [((RX1, 14), 0), ((RX2, 14), 1), ((RX3, 2), 2), ((RX4, 6), 3)].all (fun q : (String × Nat) × Nat => hasW (.instantiable q.1.1 q.1.2)) = true := by decide +kernel
theorem lw_nest : nestW.all (fun w => decide (w ∈ lw_tbl)) = true := by decide +kernel
theorem lw_in {w : Jvm.Cond} {ws : List Jvm.Cond} (h : ws.all (fun w => decide (w ∈ lw_tbl)) = true) (hw : w ∈ ws) : w ∈ lw_tbl := of_decide_eq_true (List.all_eq_true.mp h w hw)
theorem arr_prim {s : State} {args : Array Value} {ty : FieldType} (hp : ∀ C, ty ≠ .object C) (h : (Cond.arrayClass ty).before args s = true) : ∃ cA, ArrOfT s cA ty ∧ va_RA s cA ty := by
  obtain ⟨c, k, comp, h1, h2, h3⟩ := Cond.arrayClass_spec h
  refine ⟨c, fun n z => ⟨fun k h => (by cases h), k, h2, comp, h3⟩, ?_⟩
  cases ty <;> first | exact h1 | exact absurd rfl (hp _)
theorem arr_obj {s : State} {args : Array Value} {C : String} (h : (Cond.arrayOver (.object C)).before args s = true) : ∃ cA, ArrOfT s cA (.object C) ∧ va_RA s cA (.object C) := by
  obtain ⟨comp, c, k, h1, h2, h3, h4, h5⟩ := Cond.arrayOver_spec h
  exact ⟨c, fun n z => ⟨fun k h => (by cases h), k, h3, comp, h4⟩, k, comp, h3, h4, h1, h5⟩
theorem lw_K {s : State} {args : Array Value} (hts : ∀ w ∈ lw_tbl, w.before args s = true) : ∃ (D : va_G) (cA : Nat → ClassId), va_K D vwCl (tysOf cA) s := by
  have hta : ∀ w ∈ lw_all, w.before args s = true := fun w hw => hts w (lw_all_tbl hw)
  have hk : ∀ ci, ci < 4 → ∃ (cC : ClassId) (iS : Nat → Nat), u_Kn s (clsOf ci).1 (clsOf ci).2.1 (clsOf ci).2.2 cC iS := by
    intro ci hci
    have hi : hasW (.instantiable (clsOf ci).1 (clsOf ci).2.2) = true := by
      match ci, hci with
      | 0, _ => exact List.all_eq_true.mp lw_cls ((RX1, 14), 0) (by decide)
      | 1, _ => exact List.all_eq_true.mp lw_cls ((RX2, 14), 1) (by decide)
      | 2, _ => exact List.all_eq_true.mp lw_cls ((RX3, 2), 2) (by decide)
      | 3, _ => exact List.all_eq_true.mp lw_cls ((RX4, 6), 3) (by decide)
    exact u_known (n := (clsOf ci).2.2) hta (cls_ws hci) (hta _ (hasW_in hi))
  obtain ⟨a5, h5⟩ := arr_prim (ty := .char) (fun _ h => by cases h) (hts _ (lw_in lw_t1 (w := .arrayClass .char) (by decide)))
  obtain ⟨a6, h6⟩ := arr_prim (ty := .int) (fun _ h => by cases h) (hts _ (lw_in lw_t1 (w := .arrayClass .int) (by decide)))
  obtain ⟨a7, h7⟩ := arr_obj (C := RX1) (hts _ (lw_in lw_t1 (w := .arrayOver (.object RX1)) (by decide)))
  obtain ⟨a8, h8⟩ := arr_obj (C := RX2) (hts _ (lw_in lw_t1 (w := .arrayOver (.object RX2)) (by decide)))
  obtain ⟨cC, hC⟩ : ∃ cC : Nat → ClassId, ∀ ci, ci < 4 → ∃ iS, u_Kn s (clsOf ci).1 (clsOf ci).2.1 (clsOf ci).2.2 (cC ci) iS := by
    obtain ⟨c0, z0⟩ := hk 0 (by decide)
    obtain ⟨c1, z1⟩ := hk 1 (by decide)
    obtain ⟨c2, z2⟩ := hk 2 (by decide)
    obtain ⟨c3, z3⟩ := hk 3 (by decide)
    refine ⟨fun ci => match ci with | 0 => c0 | 1 => c1 | 2 => c2 | _ => c3, fun ci hci => ?_⟩
    match ci, hci with
    | 0, _ => exact z0
    | 1, _ => exact z1
    | 2, _ => exact z2
    | 3, _ => exact z3
  obtain ⟨iS, hS⟩ : ∃ iS : Nat → Nat → Nat, ∀ ci, ci < 4 → u_Kn s (clsOf ci).1 (clsOf ci).2.1 (clsOf ci).2.2 (cC ci) (iS ci) := by
    obtain ⟨i0, z0⟩ := hC 0 (by decide)
    obtain ⟨i1, z1⟩ := hC 1 (by decide)
    obtain ⟨i2, z2⟩ := hC 2 (by decide)
    obtain ⟨i3, z3⟩ := hC 3 (by decide)
    refine ⟨fun ci => match ci with | 0 => i0 | 1 => i1 | 2 => i2 | _ => i3, fun ci hci => ?_⟩
    match ci, hci with
    | 0, _ => exact z0
    | 1, _ => exact z1
    | 2, _ => exact z2
    | 3, _ => exact z3
  refine ⟨(cC, iS), fun k => match k with | 5 => a5 | 6 => a6 | 7 => a7 | _ => a8, fun k q hq => ?_, fun k q hq => ?_⟩
  · have hlt : k < 4 := by
      have := (List.getElem?_eq_some_iff.mp hq).1
      exact this
    have h1 := cls_at hlt
    rw [h1] at hq
    cases hq
    exact hS k hlt
  · have hlt : k < 4 := (List.getElem?_eq_some_iff.mp hq).1
    match k, hlt, hq with
    | 0, _, hq => cases hq; exact h5
    | 1, _, hq => cases hq; exact h6
    | 2, _, hq => cases hq; exact h7
    | 3, _, hq => cases hq; exact h8

theorem hRow_nil (m : Nat) : hRow m = [] := by
  unfold hRow hL
  rw [List.filter_nil]
  cases Nat.blt m 193 <;> rfl
theorem lw_V {s : State} {b L : Nat} {xs : Nat → Int32} (hXb : va_X b L xs s s.heap ∧ b < s.heap.size ∧ L ≤ 260) (hts : ∀ w ∈ lw_tbl, w.before #[Value.ref b] s = true) (hg : (Jvm.Cond.and given_1 narrow_1).before #[Value.ref b] s = true) : Vmf b (L, xs) s.heap.size s s.heap := by
  have hfl := flat_of_before _ hg
  have hA : ∀ a : Nat, a < s.heap.size → ¬ AA s.heap.size a := fun a h1 h2 => absurd h1 (Nat.not_lt.mpr h2)
  refine ⟨hXb, fun w hw => ?_, vx_Zqof (hts _ (lw_in lw_t1 (w := .laysStatic Bundle.tN "UNASSIGNED_STACK" Bundle.steD) (by decide))) (hts _ (lw_in lw_t1 (w := .initialized Bundle.tN) (by decide))) (hfl _ (of_decide_eq_true lw_g1)) hA, vx_Zqof (hts _ (lw_in lw_t1 (w := .laysStatic Bundle.tN "SUPPRESSED_SENTINEL" Bundle.listD) (by decide))) (hts _ (lw_in lw_t1 (w := .initialized Bundle.tN) (by decide))) (hfl _ (of_decide_eq_true lw_g2)) hA, fun i k t hi => ?_, fun ⟨m, hm⟩ => absurd (hRow_nil m) hm, fun E h0 h4 => ?_, fun x hx => va_Nw.of rfl (hts _ hx)⟩
  · have hw' := hts w (lw_in lw_nest hw)
    unfold nestW at hw
    simp only [List.mem_cons, List.not_mem_nil, or_false] at hw
    rcases hw with rfl | rfl | rfl | rfl
    · exact va_Nw.of rfl hw'
    · exact va_Nw.of rfl hw'
    · exact va_AO.of hw'
    · exact va_AO.of hw'
  · have hm := List.mem_of_getElem? hi
    have h1 := List.all_eq_true.mp lw_g3 _ hm
    simp only [decide_true, Bool.not_true, Bool.false_or, decide_eq_true_eq] at h1
    obtain ⟨a, c, cell, kk, h2, -⟩ := Cond.exactly_spec (hfl _ h1)
    exact ⟨a, vk_R.of (hts _ hm) h2⟩
  · match E, h0, h4 with
    | 1, _, _ => exact va_Nw.of rfl (hts _ (lw_in lw_t1 (w := .castable (excN 1) (excN 1)) (by decide)))
    | 2, _, _ => exact va_Nw.of rfl (hts _ (lw_in lw_t1 (w := .castable (excN 2) (excN 2)) (by decide)))
    | 3, _, _ => exact va_Nw.of rfl (hts _ (lw_in lw_t1 (w := .castable (excN 3) (excN 3)) (by decide)))
/-- the law comes to its end with true, if its run does -/
theorem law_ends {p : Program} {e : Env} {s : State} {m : MethodId} {below : List Frame} {meth : Method} {c : Code} (l : Launch) (hflags : l.flags = flags0) {b L : Nat} {xs : Nat → Int32} (hL : L ≤ 260) (C0 : lw_At p s m meth c b L xs) {f : Nat} {μ' : Mem} (hrun : run (L, xs) f 209 0 (pad [.ref SCR] 12) [] ((fun _ _ => 0), (fun _ _ => none), (fun _ _ => 0), 0, 0) = some (.inl (some (.int 1)), μ')) (h1 : mN μ' + mX μ' ≤ 600172) (h2 : ssum (mN μ') + 6 * mX μ' ≤ 7300668) :
    W p l e room_1 s m #[Value.ref b] below meth c s.heap [] 0 0 (lw_Z below #[Value.ref b] s) (entryFrame m ([Value.ref b] : List Value).toArray 12) := by
  obtain ⟨hx, hb, hr, hml, hown, hts, hX, hbl, hlocks, hgv, hname, htab⟩ := C0
  obtain ⟨D, cA, hK⟩ := lw_K hts
  have hst : l.stackTraces = false := by
    unfold Launch.stackTraces
    rw [hflags]
    decide
  have C : Cx p l s m #[Value.ref b] meth c D cA s.heap.size b (L, xs) 209 := ⟨hx, hb, hml, hown, fun w hw => hts w (lw_all_tbl hw), hK, Nat.le_refl _, hname, hlocks, hst, lw_V ⟨hX, hbl, hL⟩ hts hgv, fun _ => ⟨hX, hbl, hL⟩, htab, hr⟩
  have hE : EndOK p l e room_1 s m #[Value.ref b] below meth c D cA s.heap.size b 0 0 (L, xs) 209 (lw_Z below #[Value.ref b] s) (.inl (some (.int 1)), μ') := by
    intro pc len ins aux L1 st v H locs ls hI hs ho hi hl
    cases ho
    have hd : decode (cM 209) pc = .ok (ins, len) := (I_ok hI).1
    have hc : chk 209 pc len ins aux = true := (I_ok hI).2.1
    have hkk := kr_stp (xs := (L, xs)) (ins := ins) (n := pc + len) (aux := aux) (L := L1) (st := st) (μ := μ')
    rw [hs] at hkk
    have hk : isRt ins := hkk
    clear hkk
    have hf := hi.2.2.1.2.2
    have hW : ∀ (rest : List Value), decode (cM 209) pc = .ok (.ireturn, 1) → W p l e room_1 s m #[Value.ref b] below meth c H locs (mN μ' + mX μ' - 0) (ssum (mN μ') + 6 * mX μ' - 0) (lw_Z below #[Value.ref b] s) (F0 m pc ls (.int 1 :: rest)) := by
      intro rest hdg
      refine va_forget (fun q hq => hf q hq) ?_
      refine W.widen (k := 600172) (n := 7300668) (by omega) (by omega) ?_
      exact lw_ret (Drawn.sameBut.refl s.drawn lw_cs) hx hb hr hlocks hdg
    cases ins <;> first | exact hk.elim | skip
    case ireturn =>
      unfold chk at hc; dsimp only at hc; rw [Bool.and_eq_true] at hc
      have hlen : len = 1 := Nat.eq_of_beq_eq_true hc.1
      subst hlen
      unfold stp at hs; dsimp only at hs
      split at hs
      · simp only [Option.some.injEq, Prod.mk.injEq, Sum.inr.injEq, Sum.inl.injEq, Value.int.injEq] at hs
        obtain ⟨-, hv⟩ := hs
        subst hv
        exact hW _ hd
      · cases hs
    all_goals (unfold stp at hs; dsimp only at hs; first | (split at hs <;> simp at hs; done) | simp at hs)
  have hG := run_snd (R := room_1) (p := p) (e := e) (below := below) (k0 := 0) (d0 := 0) (f := f) (Q := lw_Z below #[Value.ref b] s) (ctr_run hst f) C (by omega) ⟨by decide, by decide⟩ (Nat.le_succ _) hrun (Nat.zero_le _) (Nat.zero_le _) (Nat.zero_le _) ⟨by show mN μ' + mX μ' - 0 ≤ 600172; omega, by show ssum (mN μ') + 6 * mX μ' - 0 ≤ 7300668; omega, Nat.zero_le _, Nat.zero_le _⟩ hE (fun pc len ins aux L st E μ H locs ls _ _ ho => by cases ho) (fun pc E st H locs ls q ce ho => by cases ho)
  rw [lg_entry_eq]
  exact hG s.heap [] _ ⟨Nat.zero_le _, fun k q hk => absurd (show ([] : va_W)[k]? = some q from hk) (by simp), va_S.rf, fun _ => ⟨rfl, Nat.le_refl _⟩⟩ (lvx_entry (n0 := s.heap.size) (b := b) (as := [.ref SCR]) (n := 12) (by decide))
