section
/-! ===== BEGIN words of one list among another's, by their places ===== -/
theorem goodIn_r {big : List Cond} (ws : List Cond) (ps : List Nat) (hp : ws = ps.filterMap (fun i => big[i]?)) (h : ws.all goodWord = true) : GoodIn big ws := by
  intro w hw
  have h1 := List.all_eq_true.mp h w hw
  rw [hp] at hw
  obtain ⟨i, -, hi⟩ := List.mem_filterMap.mp hw
  have hm : w ∈ big := by first | exact List.mem_of_getElem? hi | exact List.getElem?_mem hi
  exact ⟨hm, good_of_word h1⟩
theorem goodIn_app {big a b : List Cond} (ha : GoodIn big a) (hb : GoodIn big b) : GoodIn big (a ++ b) := fun w h => (List.mem_append.mp h).elim (ha w) (hb w)
theorem goodIn_ca {big a b : List Cond} {c : Cond} (ha : GoodIn big (c :: a)) (hb : GoodIn big b) : GoodIn big (c :: (a ++ b)) := fun w h => (List.mem_cons.mp h).elim (fun e => ha w (List.mem_cons.mpr (Or.inl e))) (fun h => (List.mem_append.mp h).elim (fun h => ha w (List.mem_cons.mpr (Or.inr h))) (hb w))
theorem goodIn_sub {big ws : List Cond} (hm : ∀ w ∈ ws, w ∈ big) (h : ws.all goodWord = true) : GoodIn big ws := fun w hw => ⟨hm w hw, good_of_word (List.all_eq_true.mp h w hw)⟩
/-! ===== END ===== -/

/-! ===== BEGIN exceptions that leave a method, and their catching by the caller (launches without stack traces) ===== -/
section VXA
/-! The laws vx_back, vx_callV, vx_callS, vx_callSW, vx_throw0, vx_throwS follow proofs of the library, with one case more: JvmDerived/Free/Laws.lean (Back.of_free), Shelf42/LK1.lean (callV, callS), Shelf/KitTraced.lean (throwNew0V, throwNewS). -/
/-- where a method has thrown q: the class by its name, the cell, what was written, the world -/
def vx_T (XC : String → State → State → Prop) (st : State) (q : Addr) (t : State) (mc ms : Nat) (free : Addr → Prop) : Prop :=
  ∃ (E : String) (ce : Cell) (L : List Loc), XC E st t ∧ t.heap[q]? = some ce ∧ ce.vm = .none ∧ st.vm.findClass E = some ce.cls ∧ st.WarmedH t.vm ∧ st.sameButNew ({ t with vm := st.vm } : State) L mc ms ∧ ∀ z ∈ L, free z.base
def vx_Q (Qc : Array Value → State → Outcome → State → Prop) (XC : String → State → State → Prop) (mc ms : Nat) (free : Addr → Prop) : Array Value → State → Outcome → State → Prop := fun a st o t =>
  (Qc a st o t ∧ ∃ L, FrameEnd st o t L mc ms ∧ ∀ q ∈ L, free q.base) ∨ ∃ q, o = .threw q ∧ vx_T XC st q t mc ms free
/-- a callee that returns or throws -/
def vx_Met (l : Launch) (y : MethodName) (ws : List Cond) (rm : Room) (Pc : Array Value → State → Prop) (Qc : Array Value → State → Outcome → State → Prop) (XC : String → State → State → Prop) (mc ms : Nat) (free : Addr → Prop) : Prop :=
  MetFree l y (headSpec ws rm) Pc (fun _ _ _ _ _ => True) (vx_Q Qc XC mc ms free)
def vx_Post (XC : String → State → State → Prop) (mc ms : Nat) (free : Addr → Prop) : Pt → Array Value → Addr → Pt → Prop := fun A a q B =>
  ∃ (g : JFrame) (mk : MethodId) (t : State) (L : List Loc) (E : String) (ce : Cell), B.U.heap = t.heap ∧ B.U.vm = t.vm ∧ XC E (A.U.calling g mk a) t ∧ t.heap[q]? = some ce ∧ ce.vm = .none ∧ A.U.vm.findClass E = some ce.cls ∧ B.locs = A.locs ++ L ∧ (∀ z ∈ L, free z.base) ∧ B.cells = A.cells + mc ∧ B.slots = A.slots + ms
def vx_Back (l : Launch) (R : Room) (p : Program) (e : Env) (below : List Frame) (s : State) (sargs : Array Value) (y : MethodName) (len W9 : Nat)
    (Pre : Pt → Array Value → Prop) (Post : Pt → Array Value → Option Value → Pt → Prop) (PostX : Pt → Array Value → Addr → Pt → Prop) : Prop :=
  ∀ (m : MethodId) (meth : Method) (c : Code) (A : Pt) (g : JFrame) (ig : Instr) (mk : MethodId) (a : Array Value),
    Stand p l e R s m sargs below meth c A.U A.locs A.cells A.slots → g.method = m → g.locals.size = c.maxLocals → decode c.code g.pc = .ok (ig, len) →
    2 * g.monitorRoom + (g.stack.map fun v => v.category).sum ≤ W9 → A.U.methodNamed? y = some mk → Pre A a →
    (∃ (v : Option Value) (B : Pt), Stand p l e R s m sargs below meth c B.U B.locs B.cells B.slots ∧ Post A a v B ∧
      Steps p.tables e below (doInvoke e (A.U.setTop g) [] mk a).1 (B.U.setTop { g with pc := g.pc + len, stack := v.toList ++ g.stack })) ∨
    (∃ (q : Addr) (B : Pt), Stand p l e R s m sargs below meth c B.U B.locs B.cells B.slots ∧ PostX A a q B ∧
      Steps p.tables e below (doInvoke e (A.U.setTop g) [] mk a).1 ((B.U.setTop g).pushFrame (.throwing q)))
section Payer
variable {l : Launch} {R : Room} {p : Program} {e : Env} {below : List Frame} {s : State} {sargs : Array Value} {y : MethodName} {len W9 : Nat}
theorem vx_back {ws : List Cond} {rm : Room} {Pc : Array Value → State → Prop} {Qc : Array Value → State → Outcome → State → Prop} {XC : String → State → State → Prop} {mc ms : Nat} {free : Addr → Prop} {bytes : ByteArray} {maxL : Nat} {ret : Option FieldType}
    (hM : vx_Met l y ws rm Pc Qc XC mc ms free) (hblind : FrameBlind Pc) (hrc : rm.cells = mc) (hrs : rm.slots = ms)
    (hframes : rm.frames + 1 ≤ R.frames) (hlocals : W9 + (maxL + 11) + rm.locals ≤ R.locals)
    (hws : ∀ w ∈ ws, ∀ a' U, s.WarmedH U.vm → w.before a' U = true) (hcode : Cond.code y bytes maxL ret ∈ ws) (hinit : ∀ a' U, s.WarmedH U.vm → (Cond.initialized y.cls).before a' U = true) :
    vx_Back l R p e below s sargs y len W9 (PreOf R mc ms Pc) (PostOf Qc mc ms free) (vx_Post XC mc ms free) := by
  intro m meth c A g ig mk a X hg hsize hdg hW hn hp
  have h1 : (headSpec ws rm).pre.before a A.U = true := atoms_intro fun w hw => hws w hw _ _ X.warmed
  have h2 : (Cond.code y bytes maxL ret).before a A.U = true := hws _ hcode _ _ X.warmed
  have h3 : (Cond.initialized y.cls).before a A.U = true := hinit _ _ X.warmed
  have h4 : A.cells + (headSpec ws rm).room.cells ≤ R.cells := by rw [show (headSpec ws rm).room.cells = mc from hrc]; exact hp.1
  have h5 : A.slots + (headSpec ws rm).room.slots ≤ R.slots := by rw [show (headSpec ws rm).room.slots = ms from hrs]; exact hp.2.1
  have hPc : Pc a (A.U.calling g mk a) := hblind _ _ _ _ hp.2.2
  obtain ⟨U, Ls, c0, s0⟩ := A
  dsimp only [Pt.U, Pt.locs, Pt.cells, Pt.slots] at h1 h2 h3 h4 h5 X hn hPc ⊢
  obtain ⟨methY, cY, hmY, hcY, -, hlY, -, -, -, -⟩ := Cond.code_spec hn h2
  obtain ⟨kY, hkY, -⟩ := className_of_methodNamed hn
  have hinitY : kY.init = .initialized := Cond.initialized_spec (findClass_of_methodNamed hn) hkY h3
  have h : At U g.method c below := by rw [hg]; exact X.here
  have hlocals9 : W9 + (maxL + 11) + (headSpec ws rm).room.locals ≤ R.locals := hlocals
  have happ : (headSpec ws rm).appliesLoose y e.platform (U.calling g mk a) = true :=
    Spec.appliesLoose_calling (g := g) h hdg hn hkY hinitY
      (X.room_calling (g := g) (R' := (headSpec ws rm).room) hsize hmY hcY hframes (by rw [hlY]; omega) h4 h5) h1
  obtain ⟨mid, hmid⟩ := h.above
  have hfr : (U.setTop g).frames = (.java g :: mid) ++ below := by rw [State.frames_setTop' g h.top, hmid]; rfl
  obtain ⟨o, s₂, hsteps, -, hend, hq⟩ := Steps.callFree hM p X.admits X.cas X.clock (acts := []) hfr happ hPc trivial
  have hq' : vx_Q Qc XC mc ms free a (U.calling g mk a) o s₂ := hq
  rw [State.frames_setTop' g h.top] at hend
  obtain ⟨g₀, hg0⟩ := Option.isSome_iff_exists.mp h.top
  obtain ⟨r, hr⟩ := State.topJava?_eq_some.mp hg0
  have hr' : (({ U with heap := s₂.heap, slotsUsed := s₂.slotsUsed } : State).setVm s₂.vm).frames = .java g₀ :: r := hr
  rcases hq' with ⟨hqc, L, hfe, hL⟩ | ⟨q, rfl, E, ce, L, hx, hce, hcv, hcl, hW₂, hsm, hL⟩
  · obtain ⟨⟨v, rfl⟩, hW₂, e2, q2, q3, q4, q5, q6⟩ := id hfe
    have e3 : s₂ = ({ (U.calling g mk a).setFrames s₂.frames with heap := s₂.heap, slotsUsed := s₂.slotsUsed } : State).setVm s₂.vm := by
      have : s₂ = ({ s₂ with vm := (U.calling g mk a).vm } : State).setVm s₂.vm := rfl
      rw [e2] at this
      exact this
    obtain ⟨c₂, i₂, len₂, hc₂, hd₂, hf₂⟩ := hend
    have hW' : U.WarmedH s₂.vm := hW₂
    have hcc : c₂ = c := by
      have h1 : s₂.code? g.method = U.code? g.method := by
        rw [State.code?_eq, State.code?_eq, hW'.alike.method?]
      exact Option.some.inj (hc₂.symm.trans (h1.trans h.code))
    subst hcc
    have hlen : len₂ = len := by rw [hdg] at hd₂; cases hd₂; rfl
    subst hlen
    have hs₂ : s₂ = (({ U with heap := s₂.heap, slotsUsed := s₂.slotsUsed } : State).setVm s₂.vm).setTop { g with pc := g.pc + len₂, stack := v.toList ++ g.stack } := by
      refine e3.trans ?_
      rw [hf₂, State.calling_eq h.top, State.setFrames_setFrames, State.setTop_of_frames _ hr', hr]
      rfl
    have hsame : U.sameButNew ({ U with heap := s₂.heap, slotsUsed := s₂.slotsUsed } : State) L mc ms := by
      refine ⟨?_, q2, q3, q4, q5, q6⟩
      obtain ⟨t, ht, -⟩ := State.frames_cons hr
      show ({ U with heap := s₂.heap, slotsUsed := s₂.slotsUsed } : State) = { U.setFrames U.frames with heap := s₂.heap, slotsUsed := s₂.slotsUsed }
      rw [State.setFrames_self ht]
    subst hg
    refine Or.inl ⟨v, ⟨(({ U with heap := s₂.heap, slotsUsed := s₂.slotsUsed } : State).setVm s₂.vm), Ls ++ L, c0 + mc, s0 + ms⟩,
      ⟨X.admits, X.cas, X.clock, X.frames, X.room, X.hears, X.method, X.code, (X.here.setHeapUsed s₂.heap s₂.slotsUsed).setVm hW'.alike, X.tail, State.WarmedH.trans X.warmed hW', X.limits, X.bytes, X.same.trans (hsame.setVm s.vm)⟩,
      ⟨g, mk, s₂, L, rfl, rfl, hqc, rfl, hL, rfl, rfl⟩, ?_⟩
    show Steps p.tables e below _ ((({ U with heap := s₂.heap, slotsUsed := s₂.slotsUsed } : State).setVm s₂.vm).setTop { g with pc := g.pc + len₂, stack := v.toList ++ g.stack })
    rw [← hs₂]
    exact hsteps
  · obtain ⟨e2, q2, q3, q4, q5, q6⟩ := id hsm
    have e3 : s₂ = ({ (U.calling g mk a).setFrames s₂.frames with heap := s₂.heap, slotsUsed := s₂.slotsUsed } : State).setVm s₂.vm := by
      have : s₂ = ({ s₂ with vm := (U.calling g mk a).vm } : State).setVm s₂.vm := rfl
      rw [e2] at this
      exact this
    have hf₂ : s₂.frames = .throwing q :: .java g :: U.frames.tail := hend
    have hW' : U.WarmedH s₂.vm := hW₂
    have hs₂ : s₂ = ((({ U with heap := s₂.heap, slotsUsed := s₂.slotsUsed } : State).setVm s₂.vm).setTop g).pushFrame (.throwing q) := by
      refine e3.trans ?_
      rw [hf₂, State.calling_eq h.top, State.setFrames_setFrames, State.pushFrame, State.frames_setTop _ hr', State.setTop_of_frames _ hr', State.setFrames_setFrames, hr]
      rfl
    have hsame : U.sameButNew ({ U with heap := s₂.heap, slotsUsed := s₂.slotsUsed } : State) L mc ms := by
      refine ⟨?_, q2, q3, q4, q5, q6⟩
      obtain ⟨t, ht, -⟩ := State.frames_cons hr
      show ({ U with heap := s₂.heap, slotsUsed := s₂.slotsUsed } : State) = { U.setFrames U.frames with heap := s₂.heap, slotsUsed := s₂.slotsUsed }
      rw [State.setFrames_self ht]
    subst hg
    refine Or.inr ⟨q, ⟨(({ U with heap := s₂.heap, slotsUsed := s₂.slotsUsed } : State).setVm s₂.vm), Ls ++ L, c0 + mc, s0 + ms⟩,
      ⟨X.admits, X.cas, X.clock, X.frames, X.room, X.hears, X.method, X.code, (X.here.setHeapUsed s₂.heap s₂.slotsUsed).setVm hW'.alike, X.tail, State.WarmedH.trans X.warmed hW', X.limits, X.bytes, X.same.trans (hsame.setVm s.vm)⟩,
      ⟨g, mk, s₂, L, E, ce, rfl, rfl, hx, hce, hcv, hcl, rfl, hL, rfl, rfl⟩, ?_⟩
    show Steps p.tables e below _ (((({ U with heap := s₂.heap, slotsUsed := s₂.slotsUsed } : State).setVm s₂.vm).setTop g).pushFrame (.throwing q))
    rw [← hs₂]
    exact hsteps
end Payer
section Calls
variable {p : Program} {l : Launch} {e : Env} {R : Room} {s : State} {m : MethodId} {args : Array Value} {below : List Frame} {meth : Method} {c : Code} {T : State} {locs : List Loc} {cells slots : Nat}
theorem vx_callV (X : Stand p l e R s m args below meth c T locs cells slots) (hexec : p.tables.exec = Jvm.exec) {own C : String} {index : Nat} {y : MethodName} {bytes : ByteArray} {maxL : Nat} {ret : Option FieldType}
    (hown : s.vm.findClass own = some m.cls) (hlink : (Cond.methodLink own index y).before args s = true) (hinst : (Cond.instanceMethod y).before args s = true) (hsel : (Cond.selects C y y).before args s = true)
    (hcode : (Cond.code y bytes maxL ret).before args s = true) (hy : y.cls ≠ "java/lang/invoke/MethodHandle" ∧ y.cls ≠ "java/lang/invoke/VarHandle")
    {W9 : Nat} {Pre : Pt → Array Value → Prop} {Post : Pt → Array Value → Option Value → Pt → Prop} {PostX : Pt → Array Value → Addr → Pt → Prop} (hK : vx_Back l R p e below s args y 3 W9 Pre Post PostX)
    {b : Addr} {cellB : Cell} (hcell : T.heap[b]? = some cellB) (hobj : cellB.vm.isStatics = false) (hcls : s.vm.findClass C = some cellB.cls)
    {g : JFrame} (hg : g.method = m) (hsize : g.locals.size = c.maxLocals) {argsL rest : List Value} (hlen : ∀ sig, parseMethodDescriptor y.desc = some sig → argsL.length = sig.parameters.length)
    (hstack : g.stack = argsL.reverse ++ .ref b :: rest) (hW : 2 * g.monitorRoom + (rest.map fun v => v.category).sum ≤ W9) (hdg : decode c.code g.pc = .ok (.invokevirtual index, 3))
    (hpre : ∀ vm₁, s.WarmedH vm₁ → Pre ⟨T.setVm vm₁, locs, cells, slots⟩ (Value.ref b :: argsL).toArray) :
    (∃ (v : Option Value) (vm₁ : Vm) (B : Pt), s.WarmedH vm₁ ∧ Stand p l e R s m args below meth c B.U B.locs B.cells B.slots ∧ Post ⟨T.setVm vm₁, locs, cells, slots⟩ (Value.ref b :: argsL).toArray v B ∧
      ∀ target, Steps p.tables e below (B.U.setTop { g with pc := g.pc + 3, stack := v.toList ++ rest }) target → Steps p.tables e below (T.setTop g) target) ∨
    (∃ (q : Addr) (vm₁ : Vm) (B : Pt), s.WarmedH vm₁ ∧ Stand p l e R s m args below meth c B.U B.locs B.cells B.slots ∧ PostX ⟨T.setVm vm₁, locs, cells, slots⟩ (Value.ref b :: argsL).toArray q B ∧
      Steps p.tables e below (T.setTop g) ((B.U.setTop { g with stack := rest }).pushFrame (.throwing q))) := by
  obtain ⟨mk, methM, hnamed, hmethM, hstM, habM⟩ := Cond.instanceMethod_spec hinst
  obtain ⟨methM', cM, hmethM', -, -, -, -, -, -, hsigM⟩ := Cond.code_spec hnamed hcode
  cases hmethM.symm.trans hmethM'
  obtain ⟨c2, r2, m2, q1, q2, q3, q4, kP, hkP, hkPi⟩ := Cond.selects_spec hsel
  cases hcls.symm.trans q1
  cases (State.methodFound?_of_named hnamed hy).symm.trans q2
  cases hnamed.symm.trans q3
  have hselP : selectMethod e.platform s.vm cellB.cls mk = .method mk := by rw [Launch.admits_selectMethod X.admits]; exact q4
  obtain ⟨vm₁, X₁, hstep₁⟩ := X.invokevirtual hexec hown hlink hnamed hmethM hstM hkP hkPi hy (a := b) (cell := cellB) hcell
    (fun z h => by rw [h] at hobj; cases hobj) hselP hmethM habM hkP hkPi (g := g) hg (argsL := argsL) (rest := rest) (hlen _ hsigM) hstack hdg
  rcases hK m meth c ⟨T.setVm vm₁, locs, cells, slots⟩ { g with stack := rest } (.invokevirtual index) mk (Value.ref b :: argsL).toArray X₁ hg hsize hdg hW (X₁.named hnamed) (hpre vm₁ X₁.warmed) with ⟨v, B, X', hpost, hsteps⟩ | ⟨q, B, X', hpost, hsteps⟩
  · exact Or.inl ⟨v, vm₁, B, X₁.warmed, X', hpost, fun target h => hstep₁ _ fun acts => by rw [doInvoke_state]; exact hsteps.trans h⟩
  · exact Or.inr ⟨q, vm₁, B, X₁.warmed, X', hpost, hstep₁ _ fun acts => by rw [doInvoke_state]; exact hsteps⟩
theorem vx_callS (X : Stand p l e R s m args below meth c T locs cells slots) (hexec : p.tables.exec = Jvm.exec) {own : String} {index : Nat} {y : MethodName} {bytes : ByteArray} {maxL : Nat} {ret : Option FieldType}
    (hown : s.vm.findClass own = some m.cls) (hlink : (Cond.methodLink own index y).before args s = true) (hstat : (Cond.static y).before args s = true) (hinit : (Cond.initialized y.cls).before args s = true)
    (hcode : (Cond.code y bytes maxL ret).before args s = true) (hy : y.cls ≠ "java/lang/invoke/MethodHandle" ∧ y.cls ≠ "java/lang/invoke/VarHandle")
    {W9 : Nat} {Pre : Pt → Array Value → Prop} {Post : Pt → Array Value → Option Value → Pt → Prop} {PostX : Pt → Array Value → Addr → Pt → Prop} (hK : vx_Back l R p e below s args y 3 W9 Pre Post PostX)
    {g : JFrame} (hg : g.method = m) (hsize : g.locals.size = c.maxLocals) {argsL rest : List Value} (hlen : ∀ sig, parseMethodDescriptor y.desc = some sig → argsL.length = sig.parameters.length)
    (hstack : g.stack = argsL.reverse ++ rest) (hW : 2 * g.monitorRoom + (rest.map fun v => v.category).sum ≤ W9) (hdg : decode c.code g.pc = .ok (.invokestatic index, 3))
    (hpre : ∀ vm₁, s.WarmedH vm₁ → Pre ⟨T.setVm vm₁, locs, cells, slots⟩ argsL.toArray) :
    (∃ (v : Option Value) (vm₁ : Vm) (B : Pt), s.WarmedH vm₁ ∧ Stand p l e R s m args below meth c B.U B.locs B.cells B.slots ∧ Post ⟨T.setVm vm₁, locs, cells, slots⟩ argsL.toArray v B ∧
      ∀ target, Steps p.tables e below (B.U.setTop { g with pc := g.pc + 3, stack := v.toList ++ rest }) target → Steps p.tables e below (T.setTop g) target) ∨
    (∃ (q : Addr) (vm₁ : Vm) (B : Pt), s.WarmedH vm₁ ∧ Stand p l e R s m args below meth c B.U B.locs B.cells B.slots ∧ PostX ⟨T.setVm vm₁, locs, cells, slots⟩ argsL.toArray q B ∧
      Steps p.tables e below (T.setTop g) ((B.U.setTop { g with stack := rest }).pushFrame (.throwing q))) := by
  obtain ⟨mk, hnamed⟩ := Cond.code_named hcode
  obtain ⟨methM, cM, hmethM, -, -, -, -, -, -, hsigM⟩ := Cond.code_spec hnamed hcode
  have hstatic : methM.isStatic = true := Cond.static_spec hnamed hmethM hstat
  obtain ⟨kP, hkP, -⟩ := className_of_methodNamed hnamed
  have hinitP : kP.init = .initialized := Cond.initialized_spec (findClass_of_methodNamed hnamed) hkP hinit
  obtain ⟨vm₁, X₁, hstep₁⟩ := X.invokestatic hexec hown hlink hnamed hmethM hstatic hkP hinitP hy (g := g) hg (argsL := argsL) (rest := rest) (hlen _ hsigM) hstack hdg
  rcases hK m meth c ⟨T.setVm vm₁, locs, cells, slots⟩ { g with stack := rest } (.invokestatic index) mk argsL.toArray X₁ hg hsize hdg hW (X₁.named hnamed) (hpre vm₁ X₁.warmed) with ⟨v, B, X', hpost, hsteps⟩ | ⟨q, B, X', hpost, hsteps⟩
  · exact Or.inl ⟨v, vm₁, B, X₁.warmed, X', hpost, fun target h => hstep₁ _ fun acts => by rw [doInvoke_state]; exact hsteps.trans h⟩
  · exact Or.inr ⟨q, vm₁, B, X₁.warmed, X', hpost, hstep₁ _ fun acts => by rw [doInvoke_state]; exact hsteps⟩
end Calls
theorem vx_cls {s : State} {T : State} {vm₁ : Vm} {E : String} {k : ClassId} (hW : s.WarmedH vm₁) (h : (T.setVm vm₁).vm.findClass E = some k) : s.vm.findClass E = some k := by
  have h1 : vm₁.findClass E = some k := h
  rw [hW.alike.findClass] at h1
  exact h1
/-- the method's frame g, with q thrown over it -/
def vx_W (p : Program) (l : Launch) (e : Env) (R : Room) (s : State) (m : MethodId) (args : Array Value) (below : List Frame) (meth : Method) (c : Code) (H : Heap) (locs : List Loc) (cells slots : Nat) (Q : State → Prop) (g : JFrame) (q : Addr) : Prop :=
  ∀ T : State, T.heap = H → Stand p l e R s m args below meth c T locs cells slots → ∃ t, Steps p.tables e below ((T.setTop g).pushFrame (.throwing q)) t ∧ Q t
def vx_Run (p : Program) (l : Launch) (e : Env) (R : Room) (s : State) (m : MethodId) (args : Array Value) (below : List Frame) (meth : Method) (c : Code) (H : Heap) (locs : List Loc) (cells slots mc ms : Nat) (g : JFrame) (rest : List Value) (Qa : State → Outcome → State → Prop) (XC : String → State → State → Prop) (free : Addr → Prop) : Prop :=
  ∀ T : State, T.heap = H → Stand p l e R s m args below meth c T locs cells slots →
    (∃ (v : Option Value) (st₀ t T' : State) (L : List Loc), st₀.heap = H ∧ Stand p l e R s m args below meth c T' (locs ++ L) (cells + mc) (slots + ms) ∧ (∀ q ∈ L, free q.base) ∧ T'.heap = t.heap ∧ T'.vm = t.vm ∧ Qa st₀ (.returned v) t ∧
      Goes p e below T g T' { g with pc := g.pc + 3, stack := v.toList ++ rest }) ∨
    (∃ (q : Addr) (st₀ t T' : State) (L : List Loc) (E : String) (ce : Cell), st₀.heap = H ∧ Stand p l e R s m args below meth c T' (locs ++ L) (cells + mc) (slots + ms) ∧ (∀ z ∈ L, free z.base) ∧ T'.heap = t.heap ∧ T'.vm = t.vm ∧ XC E st₀ t ∧ t.heap[q]? = some ce ∧ ce.vm = .none ∧ s.vm.findClass E = some ce.cls ∧
      Steps p.tables e below (T.setTop g) ((T'.setTop { g with stack := rest }).pushFrame (.throwing q)))
def vx_X {S : Type} (px : S → Prop) (B : String → S → State → Prop) (A : Nat → Prop) : String → State → State → Prop := fun E st t => ∃ u : S, px u ∧ B E u t ∧ va_F A st t
section Runs
variable {p : Program} {l : Launch} {e : Env} {R : Room} {s : State} {m : MethodId} {args : Array Value} {below : List Frame} {meth : Method} {c : Code} {H : Heap} {locs : List Loc} {cells slots : Nat}
variable {y : MethodName} {bytes cc : ByteArray} {maxL nL mc ms n index : Nat} {ret : Option FieldType} {ws : List Cond} {rm : Room} {Pc : Array Value → State → Prop} {Qc : Array Value → State → Outcome → State → Prop} {XC : String → State → State → Prop} {free : Addr → Prop} {Ts : List Cond} {own C : String} {b : Addr} {As rest : List Value} {g : JFrame}
theorem vx_callBack (cb : CallB R s args own index y bytes maxL ret ws rm mc ms n) (hM : vx_Met l y ws rm Pc Qc XC mc ms free) (hbl : FrameBlind Pc) : vx_Back l R p e below s args y 3 8 (PreOf R mc ms Pc) (PostOf Qc mc ms free) (vx_Post XC mc ms free) := by
  obtain ⟨hrc, hrs, hfr, hlo, hws, hcw, -, hini, -⟩ := cb
  exact vx_back (bytes := bytes) (maxL := maxL) (ret := ret) hM hbl hrc hrs hfr hlo hws hcw (fun a' U hW => word_at hW (Or.inl (by first | rfl | simp [Cond.onTables, Cond.keeps, Cond.steady])) hini)
theorem vx_runV (S : CallFix p m c cc nL s args Ts own) (hM : vx_Met l y ws rm Pc Qc XC mc ms free) (cw : CallW R s args own C index y bytes maxL ret ws rm mc ms n) (hp : PreV s H C b Pc As)
    (hg : g.method = m) (hn : As.length = n) (hsize : g.locals.size = nL) (hstack : g.stack = As.reverse ++ .ref b :: rest) (hW : 2 * g.monitorRoom + (rest.map fun v => v.category).sum ≤ 8) (hdg : decode cc g.pc = .ok (.invokevirtual index, 3)) (hf : cells + mc ≤ R.cells ∧ slots + ms ≤ R.slots) :
    vx_Run p l e R s m args below meth c H locs cells slots mc ms g rest (Qc (Value.ref b :: As).toArray) XC free := by
  have hK : vx_Back l R p e below s args y 3 8 (PreOf R mc ms Pc) (PostOf Qc mc ms free) (vx_Post XC mc ms free) := vx_callBack cw.1 hM hp.1
  obtain ⟨⟨-, -, -, -, -, -, hcode, -, hy, hlen, hl⟩, hin, hse⟩ := cw
  obtain ⟨hx, hb, hml, ho, -⟩ := S
  obtain ⟨-, ⟨cellB, hcB, hoB, hclB⟩, hPc⟩ := hp
  intro T hT X
  rcases vx_callV X hx (C := C) (bytes := bytes) (maxL := maxL) (ret := ret) ho hl hin hse hcode hy hK (by rw [hT]; exact hcB) hoB hclB hg (hsize.trans hml.symm) (argsL := As) (rest := rest) (fun sig h => hn.trans (hlen sig h)) hstack hW (by rw [hb]; exact hdg)
    (fun vm₁ hW₁ => ⟨hf.1, hf.2, hPc (T.setVm vm₁) hT hW₁⟩) with ⟨v, vm₁, ⟨U', l2, c2, s2⟩, hW₁, X', ⟨g', mk, t, L, e1, e2, hq, h1, hL, h2, h3⟩, st⟩ | ⟨q, vm₁, ⟨U', l2, c2, s2⟩, hW₁, X', ⟨g', mk, t, L, E, ce, e1, e2, hq, hce, hcv, hcl, h1, hL, h2, h3⟩, st⟩
  · dsimp only [Pt.U, Pt.locs, Pt.cells, Pt.slots] at X' e1 e2 h1 h2 h3 st
    subst h1; subst h2; subst h3
    exact Or.inl ⟨v, (T.setVm vm₁).calling g' mk (Value.ref b :: As).toArray, t, U', L, hT, X', hL, e1, e2, hq, st⟩
  · dsimp only [Pt.U, Pt.locs, Pt.cells, Pt.slots] at X' e1 e2 h1 h2 h3 st hcl
    subst h1; subst h2; subst h3
    exact Or.inr ⟨q, (T.setVm vm₁).calling g' mk (Value.ref b :: As).toArray, t, U', L, E, ce, hT, X', hL, e1, e2, hq, hce, hcv, vx_cls hW₁ hcl, st⟩
theorem vx_runS (S : CallFix p m c cc nL s args Ts own) (hM : vx_Met l y ws rm Pc Qc XC mc ms free) (cw : CallB R s args own index y bytes maxL ret ws rm mc ms n ∧ (Cond.static y).before args s = true) (hp : PreS s H Pc As)
    (hg : g.method = m) (hn : As.length = n) (hsize : g.locals.size = nL) (hstack : g.stack = As.reverse ++ rest) (hW : 2 * g.monitorRoom + (rest.map fun v => v.category).sum ≤ 8) (hdg : decode cc g.pc = .ok (.invokestatic index, 3)) (hf : cells + mc ≤ R.cells ∧ slots + ms ≤ R.slots) :
    vx_Run p l e R s m args below meth c H locs cells slots mc ms g rest (Qc As.toArray) XC free := by
  have hK : vx_Back l R p e below s args y 3 8 (PreOf R mc ms Pc) (PostOf Qc mc ms free) (vx_Post XC mc ms free) := vx_callBack cw.1 hM hp.1
  obtain ⟨⟨-, -, -, -, -, -, hcode, hini, hy, hlen, hl⟩, hstt⟩ := cw
  obtain ⟨hx, hb, hml, ho, -⟩ := S
  intro T hT X
  rcases vx_callS X hx (bytes := bytes) (maxL := maxL) (ret := ret) ho hl hstt hini hcode hy hK hg (hsize.trans hml.symm) (argsL := As) (rest := rest) (fun sig h => hn.trans (hlen sig h)) hstack hW (by rw [hb]; exact hdg)
    (fun vm₁ hW₁ => ⟨hf.1, hf.2, hp.2 (T.setVm vm₁) hT hW₁⟩) with ⟨v, vm₁, ⟨U', l2, c2, s2⟩, hW₁, X', ⟨g', mk, t, L, e1, e2, hq, h1, hL, h2, h3⟩, st⟩ | ⟨q, vm₁, ⟨U', l2, c2, s2⟩, hW₁, X', ⟨g', mk, t, L, E, ce, e1, e2, hq, hce, hcv, hcl, h1, hL, h2, h3⟩, st⟩
  · dsimp only [Pt.U, Pt.locs, Pt.cells, Pt.slots] at X' e1 e2 h1 h2 h3 st
    subst h1; subst h2; subst h3
    exact Or.inl ⟨v, (T.setVm vm₁).calling g' mk As.toArray, t, U', L, hT, X', hL, e1, e2, hq, st⟩
  · dsimp only [Pt.U, Pt.locs, Pt.cells, Pt.slots] at X' e1 e2 h1 h2 h3 st hcl
    subst h1; subst h2; subst h3
    exact Or.inr ⟨q, (T.setVm vm₁).calling g' mk As.toArray, t, U', L, E, ce, hT, X', hL, e1, e2, hq, hce, hcv, vx_cls hW₁ hcl, st⟩
end Runs
section Rows
variable {p : Program} {l : Launch} {e : Env} {R : Room} {s : State} {m : MethodId} {args : Array Value} {below : List Frame} {meth : Method} {c : Code} {H : Heap} {locs : List Loc} {cells slots : Nat} {Q : State → Prop}
variable {mc ms : Nat} {free : Addr → Prop} {A0 A1 : Nat → Prop} {H0 : Heap} {a : Array Value} {pc : Nat} {ls : Array Slot} {st0 rest : List Value}
theorem vx_keep {st₀ t T' : State} {L : List Loc} (h0 : st₀.heap = H) (e1 : T'.heap = t.heap) (hS : va_S A0 H0 H locs) (hA : ∀ q, q < H.size → A1 q → A0 q) (hf : ∀ q, free q → A0 q) (hL : ∀ q ∈ L, free q.base) (hF : va_F A1 st₀ t) :
    H.size ≤ T'.heap.size ∧ (∀ q : Nat, q < H.size → ¬ A1 q → T'.heap[q]? = H[q]?) ∧ va_S A0 H0 T'.heap (locs ++ L) := by
  obtain ⟨hz, hk⟩ := hF
  rw [h0] at hz hk
  exact ⟨by rw [e1]; exact hz, fun q h1 h2 => by rw [e1]; exact hk q h1 h2,
    ⟨Nat.le_trans hS.1 (by rw [e1]; exact hz), fun q h1 h2 => by rw [e1, hk q (Nat.lt_of_lt_of_le h1 hS.1) (fun z => h2 (hA q (Nat.lt_of_lt_of_le h1 hS.1) z))]; exact hS.2.1 q h1 h2, fun q hq => by
      rcases List.mem_append.mp hq with h | h
      · exact hS.2.2 q h
      · exact hf _ (hL q h)⟩⟩
theorem vx_calli {S SX : Type} {post : Int32 → S → Prop} {px : SX → Prop} {B : S → State → Prop} {BX : String → SX → State → Prop} {AX : Nat → Prop} (hr : vx_Run p l e R s m args below meth c H locs cells slots mc ms (F0 m pc ls st0) rest (va_Qi post B A1 a) (vx_X px BX AX) free) (hS : va_S A0 H0 H locs) (hA : ∀ q, q < H.size → A1 q → A0 q) (hf : ∀ q, free q → A0 q) (hAX : ∀ q, q < H.size → AX q → A0 q)
    (kx : ∀ (E : String) (ce : Cell) (q9 : Addr) (u : SX) (t : State) (H1 : Heap) (locs1 : List Loc), t.heap = H1 → s.vm.Alike t.vm → px u → BX E u t → H.size ≤ H1.size → (∀ q : Nat, q < H.size → ¬ AX q → H1[q]? = H[q]?) → va_S A0 H0 H1 locs1 → H1[q9]? = some ce → ce.vm = .none → s.vm.findClass E = some ce.cls → vx_W p l e R s m args below meth c H1 locs1 (cells + mc) (slots + ms) Q (F0 m pc ls rest) q9)
    (kk : ∀ (r : Int32) (u : S) (t : State) (H1 : Heap) (locs1 : List Loc), t.heap = H1 → s.vm.Alike t.vm → post r u → B u t → H.size ≤ H1.size → (∀ q : Nat, q < H.size → ¬ A1 q → H1[q]? = H[q]?) → va_S A0 H0 H1 locs1 → W p l e R s m args below meth c H1 locs1 (cells + mc) (slots + ms) Q (F0 m (pc + 3) ls (.int r :: rest))) : W p l e R s m args below meth c H locs cells slots Q (F0 m pc ls st0) := by
  intro T hT X
  rcases hr T hT X with ⟨v, st₀, t, T', L, h0, X', hL, e1, e2, ⟨⟨r, u, hv, hp, hb⟩, hF⟩, st⟩ | ⟨q, st₀, t, T', L, E, ce, h0, X', hL, e1, e2, ⟨u, hp, hb, hF⟩, hce, hcv, hcl, st⟩
  · cases hv
    obtain ⟨k1, k2, k3⟩ := vx_keep h0 e1 hS hA hf hL hF
    obtain ⟨t2, a1, b1⟩ := kk r u t T'.heap (locs ++ L) e1.symm (by rw [← e2]; exact X'.warmed.alike) hp hb k1 k2 k3 T' rfl X'
    exact ⟨t2, st t2 a1, b1⟩
  · obtain ⟨k1, k2, k3⟩ := vx_keep h0 e1 hS hAX hf hL hF
    obtain ⟨t2, a1, b1⟩ := kx E ce q u t T'.heap (locs ++ L) e1.symm (by rw [← e2]; exact X'.warmed.alike) hp hb k1 k2 k3 (by rw [e1]; exact hce) hcv hcl T' rfl X'
    exact ⟨t2, st.trans a1, b1⟩
theorem vx_calll {S SX : Type} {post : Int64 → S → Prop} {px : SX → Prop} {B : S → State → Prop} {BX : String → SX → State → Prop} {AX : Nat → Prop} (hr : vx_Run p l e R s m args below meth c H locs cells slots mc ms (F0 m pc ls st0) rest (va_Ql post B A1 a) (vx_X px BX AX) free) (hS : va_S A0 H0 H locs) (hA : ∀ q, q < H.size → A1 q → A0 q) (hf : ∀ q, free q → A0 q) (hAX : ∀ q, q < H.size → AX q → A0 q)
    (kx : ∀ (E : String) (ce : Cell) (q9 : Addr) (u : SX) (t : State) (H1 : Heap) (locs1 : List Loc), t.heap = H1 → s.vm.Alike t.vm → px u → BX E u t → H.size ≤ H1.size → (∀ q : Nat, q < H.size → ¬ AX q → H1[q]? = H[q]?) → va_S A0 H0 H1 locs1 → H1[q9]? = some ce → ce.vm = .none → s.vm.findClass E = some ce.cls → vx_W p l e R s m args below meth c H1 locs1 (cells + mc) (slots + ms) Q (F0 m pc ls rest) q9)
    (kk : ∀ (r : Int64) (u : S) (t : State) (H1 : Heap) (locs1 : List Loc), t.heap = H1 → s.vm.Alike t.vm → post r u → B u t → H.size ≤ H1.size → (∀ q : Nat, q < H.size → ¬ A1 q → H1[q]? = H[q]?) → va_S A0 H0 H1 locs1 → W p l e R s m args below meth c H1 locs1 (cells + mc) (slots + ms) Q (F0 m (pc + 3) ls (.long r :: rest))) : W p l e R s m args below meth c H locs cells slots Q (F0 m pc ls st0) := by
  intro T hT X
  rcases hr T hT X with ⟨v, st₀, t, T', L, h0, X', hL, e1, e2, ⟨⟨r, u, hv, hp, hb⟩, hF⟩, st⟩ | ⟨q, st₀, t, T', L, E, ce, h0, X', hL, e1, e2, ⟨u, hp, hb, hF⟩, hce, hcv, hcl, st⟩
  · cases hv
    obtain ⟨k1, k2, k3⟩ := vx_keep h0 e1 hS hA hf hL hF
    obtain ⟨t2, a1, b1⟩ := kk r u t T'.heap (locs ++ L) e1.symm (by rw [← e2]; exact X'.warmed.alike) hp hb k1 k2 k3 T' rfl X'
    exact ⟨t2, st t2 a1, b1⟩
  · obtain ⟨k1, k2, k3⟩ := vx_keep h0 e1 hS hAX hf hL hF
    obtain ⟨t2, a1, b1⟩ := kx E ce q u t T'.heap (locs ++ L) e1.symm (by rw [← e2]; exact X'.warmed.alike) hp hb k1 k2 k3 (by rw [e1]; exact hce) hcv hcl T' rfl X'
    exact ⟨t2, st.trans a1, b1⟩
theorem vx_callf {S SX : Type} {post : UInt32 → S → Prop} {px : SX → Prop} {B : S → State → Prop} {BX : String → SX → State → Prop} {AX : Nat → Prop} (hr : vx_Run p l e R s m args below meth c H locs cells slots mc ms (F0 m pc ls st0) rest (va_Qf post B A1 a) (vx_X px BX AX) free) (hS : va_S A0 H0 H locs) (hA : ∀ q, q < H.size → A1 q → A0 q) (hf : ∀ q, free q → A0 q) (hAX : ∀ q, q < H.size → AX q → A0 q)
    (kx : ∀ (E : String) (ce : Cell) (q9 : Addr) (u : SX) (t : State) (H1 : Heap) (locs1 : List Loc), t.heap = H1 → s.vm.Alike t.vm → px u → BX E u t → H.size ≤ H1.size → (∀ q : Nat, q < H.size → ¬ AX q → H1[q]? = H[q]?) → va_S A0 H0 H1 locs1 → H1[q9]? = some ce → ce.vm = .none → s.vm.findClass E = some ce.cls → vx_W p l e R s m args below meth c H1 locs1 (cells + mc) (slots + ms) Q (F0 m pc ls rest) q9)
    (kk : ∀ (r : UInt32) (u : S) (t : State) (H1 : Heap) (locs1 : List Loc), t.heap = H1 → s.vm.Alike t.vm → post r u → B u t → H.size ≤ H1.size → (∀ q : Nat, q < H.size → ¬ A1 q → H1[q]? = H[q]?) → va_S A0 H0 H1 locs1 → W p l e R s m args below meth c H1 locs1 (cells + mc) (slots + ms) Q (F0 m (pc + 3) ls (.float r :: rest))) : W p l e R s m args below meth c H locs cells slots Q (F0 m pc ls st0) := by
  intro T hT X
  rcases hr T hT X with ⟨v, st₀, t, T', L, h0, X', hL, e1, e2, ⟨⟨r, u, hv, hp, hb⟩, hF⟩, st⟩ | ⟨q, st₀, t, T', L, E, ce, h0, X', hL, e1, e2, ⟨u, hp, hb, hF⟩, hce, hcv, hcl, st⟩
  · cases hv
    obtain ⟨k1, k2, k3⟩ := vx_keep h0 e1 hS hA hf hL hF
    obtain ⟨t2, a1, b1⟩ := kk r u t T'.heap (locs ++ L) e1.symm (by rw [← e2]; exact X'.warmed.alike) hp hb k1 k2 k3 T' rfl X'
    exact ⟨t2, st t2 a1, b1⟩
  · obtain ⟨k1, k2, k3⟩ := vx_keep h0 e1 hS hAX hf hL hF
    obtain ⟨t2, a1, b1⟩ := kx E ce q u t T'.heap (locs ++ L) e1.symm (by rw [← e2]; exact X'.warmed.alike) hp hb k1 k2 k3 (by rw [e1]; exact hce) hcv hcl T' rfl X'
    exact ⟨t2, st.trans a1, b1⟩
theorem vx_calld {S SX : Type} {post : UInt64 → S → Prop} {px : SX → Prop} {B : S → State → Prop} {BX : String → SX → State → Prop} {AX : Nat → Prop} (hr : vx_Run p l e R s m args below meth c H locs cells slots mc ms (F0 m pc ls st0) rest (va_Qd post B A1 a) (vx_X px BX AX) free) (hS : va_S A0 H0 H locs) (hA : ∀ q, q < H.size → A1 q → A0 q) (hf : ∀ q, free q → A0 q) (hAX : ∀ q, q < H.size → AX q → A0 q)
    (kx : ∀ (E : String) (ce : Cell) (q9 : Addr) (u : SX) (t : State) (H1 : Heap) (locs1 : List Loc), t.heap = H1 → s.vm.Alike t.vm → px u → BX E u t → H.size ≤ H1.size → (∀ q : Nat, q < H.size → ¬ AX q → H1[q]? = H[q]?) → va_S A0 H0 H1 locs1 → H1[q9]? = some ce → ce.vm = .none → s.vm.findClass E = some ce.cls → vx_W p l e R s m args below meth c H1 locs1 (cells + mc) (slots + ms) Q (F0 m pc ls rest) q9)
    (kk : ∀ (r : UInt64) (u : S) (t : State) (H1 : Heap) (locs1 : List Loc), t.heap = H1 → s.vm.Alike t.vm → post r u → B u t → H.size ≤ H1.size → (∀ q : Nat, q < H.size → ¬ A1 q → H1[q]? = H[q]?) → va_S A0 H0 H1 locs1 → W p l e R s m args below meth c H1 locs1 (cells + mc) (slots + ms) Q (F0 m (pc + 3) ls (.double r :: rest))) : W p l e R s m args below meth c H locs cells slots Q (F0 m pc ls st0) := by
  intro T hT X
  rcases hr T hT X with ⟨v, st₀, t, T', L, h0, X', hL, e1, e2, ⟨⟨r, u, hv, hp, hb⟩, hF⟩, st⟩ | ⟨q, st₀, t, T', L, E, ce, h0, X', hL, e1, e2, ⟨u, hp, hb, hF⟩, hce, hcv, hcl, st⟩
  · cases hv
    obtain ⟨k1, k2, k3⟩ := vx_keep h0 e1 hS hA hf hL hF
    obtain ⟨t2, a1, b1⟩ := kk r u t T'.heap (locs ++ L) e1.symm (by rw [← e2]; exact X'.warmed.alike) hp hb k1 k2 k3 T' rfl X'
    exact ⟨t2, st t2 a1, b1⟩
  · obtain ⟨k1, k2, k3⟩ := vx_keep h0 e1 hS hAX hf hL hF
    obtain ⟨t2, a1, b1⟩ := kx E ce q u t T'.heap (locs ++ L) e1.symm (by rw [← e2]; exact X'.warmed.alike) hp hb k1 k2 k3 (by rw [e1]; exact hce) hcv hcl T' rfl X'
    exact ⟨t2, st.trans a1, b1⟩
theorem vx_callv {S SX : Type} {post : S → Prop} {px : SX → Prop} {B : S → State → Prop} {BX : String → SX → State → Prop} {AX : Nat → Prop} (hr : vx_Run p l e R s m args below meth c H locs cells slots mc ms (F0 m pc ls st0) rest (va_Qv post B A1 a) (vx_X px BX AX) free) (hS : va_S A0 H0 H locs) (hA : ∀ q, q < H.size → A1 q → A0 q) (hf : ∀ q, free q → A0 q) (hAX : ∀ q, q < H.size → AX q → A0 q)
    (kx : ∀ (E : String) (ce : Cell) (q9 : Addr) (u : SX) (t : State) (H1 : Heap) (locs1 : List Loc), t.heap = H1 → s.vm.Alike t.vm → px u → BX E u t → H.size ≤ H1.size → (∀ q : Nat, q < H.size → ¬ AX q → H1[q]? = H[q]?) → va_S A0 H0 H1 locs1 → H1[q9]? = some ce → ce.vm = .none → s.vm.findClass E = some ce.cls → vx_W p l e R s m args below meth c H1 locs1 (cells + mc) (slots + ms) Q (F0 m pc ls rest) q9)
    (kk : ∀ (u : S) (t : State) (H1 : Heap) (locs1 : List Loc), t.heap = H1 → s.vm.Alike t.vm → post u → B u t → H.size ≤ H1.size → (∀ q : Nat, q < H.size → ¬ A1 q → H1[q]? = H[q]?) → va_S A0 H0 H1 locs1 → W p l e R s m args below meth c H1 locs1 (cells + mc) (slots + ms) Q (F0 m (pc + 3) ls (rest))) : W p l e R s m args below meth c H locs cells slots Q (F0 m pc ls st0) := by
  intro T hT X
  rcases hr T hT X with ⟨v, st₀, t, T', L, h0, X', hL, e1, e2, ⟨⟨u, hv, hp, hb⟩, hF⟩, st⟩ | ⟨q, st₀, t, T', L, E, ce, h0, X', hL, e1, e2, ⟨u, hp, hb, hF⟩, hce, hcv, hcl, st⟩
  · cases hv
    obtain ⟨k1, k2, k3⟩ := vx_keep h0 e1 hS hA hf hL hF
    obtain ⟨t2, a1, b1⟩ := kk u t T'.heap (locs ++ L) e1.symm (by rw [← e2]; exact X'.warmed.alike) hp hb k1 k2 k3 T' rfl X'
    exact ⟨t2, st t2 a1, b1⟩
  · obtain ⟨k1, k2, k3⟩ := vx_keep h0 e1 hS hAX hf hL hF
    obtain ⟨t2, a1, b1⟩ := kx E ce q u t T'.heap (locs ++ L) e1.symm (by rw [← e2]; exact X'.warmed.alike) hp hb k1 k2 k3 (by rw [e1]; exact hce) hcv hcl T' rfl X'
    exact ⟨t2, st.trans a1, b1⟩
/-- caught by the row x of this method's table; the rows ahead don't take it -/
theorem vx_catch {own name : String} {E : String} {ce : Cell} {q : Addr} (hown : s.vm.findClass own = some m.cls) (pre : List ExceptionTableEntry) (x : ExceptionTableEntry) (suf : List ExceptionTableEntry) (hsplit : c.exceptionTable.toList = pre ++ x :: suf)
    (hpass : ∀ z ∈ pre, covers z pc = false ∨ (z.catchType ≠ 0 ∧ ∃ nm : String, (Cond.classLink own z.catchType nm).before args s = true ∧ va_Nc E nm s)) (hx : covers x pc = true) (h0 : x.catchType ≠ 0)
    (hlink : (Cond.classLink own x.catchType name).before args s = true) (hcast : (Cond.castable E name).before args s = true) (hcell : H[q]? = some ce) (hv : ce.vm = .none) (hcl : s.vm.findClass E = some ce.cls)
    (kk : W p l e R s m args below meth c H locs cells slots Q (F0 m x.handlerPc ls [.ref q])) : vx_W p l e R s m args below meth c H locs cells slots Q (F0 m pc ls rest) q := by
  intro T hT X
  have hpl : e.platform.magicAccessors = ({} : Platform).magicAccessors := by rw [X.admits.platform]
  obtain ⟨c3, c4, hc3, hc4, hasg⟩ := Cond.castable_spec hcast
  cases Option.some.inj (hc3.symm.trans hcl)
  obtain ⟨c5, hc5, hcl5⟩ := Cond.classLink_spec hown hlink e.platform hpl
  cases Option.some.inj (hc4.symm.trans hc5)
  obtain ⟨vm', X', st⟩ := X.thenCaughtThrough q (g := F0 m pc ls rest) rfl (Steps.refl _) (by rw [hT]; exact hcell) (by rw [hv]; rfl) (by obtain ⟨k9, h9, -⟩ := Vm.findClass_spec hcl; exact ⟨k9, h9⟩) pre x suf hsplit
    (fun z hz => by
      rcases hpass z hz with h | ⟨hz0, nm, hl1, hn1⟩
      · exact Or.inl h
      · obtain ⟨c6, hc6, hcl6⟩ := Cond.classLink_spec hown hl1 e.platform hpl
        obtain ⟨a8, b8, h1, h2, h3⟩ := hn1
        cases Option.some.inj (h1.symm.trans hcl)
        cases Option.some.inj (h2.symm.trans hc6)
        exact Or.inr ⟨hz0, _, hcl6, h3⟩) hx (Or.inr ⟨h0, c4, hcl5, hasg⟩)
  obtain ⟨t, a1, b1⟩ := kk (T.setVm vm') hT X'
  exact ⟨t, st.trans a1, b1⟩
end Rows
section Ends
variable {p : Program} {l : Launch} {e : Env} {R : Room} {s : State} {m : MethodId} {args : Array Value} {below : List Frame} {meth : Method} {c : Code} {H : Heap} {locs : List Loc} {cells slots : Nat} {Q : State → Prop}
variable {mc ms : Nat} {free : Addr → Prop} {A0 A1 : Nat → Prop} {H0 : Heap} {a : Array Value} {ls : Array Slot} {st0 rest : List Value}
variable {Qc : Array Value → State → Outcome → State → Prop} {XC : String → State → State → Prop}
/-- what a body that may throw owes at its end -/
def vx_MQ (below : List Frame) (Qc : Array Value → State → Outcome → State → Prop) (XC : String → State → State → Prop) (a : Array Value) (s : State) (mc ms : Nat) (free : Addr → Prop) : State → Prop := fun t =>
  ∃ o, t.status = .running ∧ Ended t below o ∧ vx_Q Qc XC mc ms free a s o t
theorem vx_ret {g : JFrame} {mc ms : Nat} (k : W p l e R s m args below meth c H locs cells slots (MQ below Qc args s mc ms free) g) : W p l e R s m args below meth c H locs cells slots (vx_MQ below Qc XC args s mc ms free) g := by
  intro T hT X
  obtain ⟨t, a1, o, b1, b2, b3, b4⟩ := k T hT X
  exact ⟨t, a1, o, b1, b2, Or.inl ⟨b3, b4⟩⟩
/-- not caught here: it goes on to the caller -/
theorem vx_widen {g : JFrame} {q : Addr} {k n : Nat} (h1 : cells ≤ k) (h2 : slots ≤ n) (kk : vx_W p l e R s m args below meth c H locs k n Q g q) : vx_W p l e R s m args below meth c H locs cells slots Q g q := fun T hT X => kk T hT (stand_widen X h1 h2)
theorem vx_out {pc : Nat} {E : String} {ce : Cell} {q : Addr} {mc ms : Nat} (hout : ∀ x ∈ c.exceptionTable.toList, covers x pc = false) (hlocks : meth.locks = false) (hcell : H[q]? = some ce) (hv : ce.vm = .none) (hcl : s.vm.findClass E = some ce.cls)
    (hx : ∀ t : State, t.heap = H → s.vm.Alike t.vm → XC E s t) (hf : ∀ z ∈ locs, free z.base) (hc : cells ≤ mc) (hs : slots ≤ ms) :
    vx_W p l e R s m args below meth c H locs cells slots (vx_MQ below Qc XC args s mc ms free) (F0 m pc ls rest) q := by
  intro T hT X
  obtain ⟨st1, hrun, hend, hW, hsm⟩ := X.leaveThrown q (g := F0 m pc ls rest) rfl rfl rfl hout hlocks
  have hcell9 : (T.setFrames (.throwing q :: below)).heap[q]? = some ce := by
    show T.heap[q]? = some ce
    rw [hT]; exact hcell
  exact ⟨_, st1, .threw q, hrun, hend, Or.inr ⟨q, rfl, E, ce, locs, hx _ hT hW.alike, hcell9, hv, hcl, hW, hsm.mono hc hs, hf⟩⟩
theorem vx_frame {U : State} {k n : Nat} (h : s.sameButNew ({ U with vm := s.vm } : State) locs k n) : s.heap.size ≤ U.heap.size ∧ ∀ q : Nat, q < s.heap.size → (∀ z ∈ locs, z.base ≠ q) → U.heap[q]? = s.heap[q]? := by
  obtain ⟨-, h2, -, -, -, h6⟩ := h
  refine ⟨h2, fun q hq hz => ?_⟩
  obtain ⟨c9, e1, e2, e3, e4⟩ := h6 q _ (Array.getElem?_eq_getElem hq)
  have hs : c9.slots = (s.heap[q]).slots := Array.ext_getElem? fun i => e4 i fun hm => hz _ hm rfl
  have h9 : c9 = s.heap[q] := by
    rw [hs] at e2
    exact e2
  have e5 : U.heap[q]? = some c9 := e1
  rw [e5, h9, Array.getElem?_eq_getElem hq]
/-- the words of a throw but the four that speak of the heap -/
def vx_no (w : Cond) : Bool := decide (w ≠ .isRef (.static Bundle.tN "UNASSIGNED_STACK" Bundle.steD)) && decide (w ≠ .isRef (.static Bundle.tN "SUPPRESSED_SENTINEL" Bundle.listD)) && decide (w ≠ .laysStatic Bundle.tN "UNASSIGNED_STACK" Bundle.steD) && decide (w ≠ .laysStatic Bundle.tN "SUPPRESSED_SENTINEL" Bundle.listD)
def vx_at0 (own : String) (ic : Nat) (X : String) (names : List String) : List Cond := (Bundle.ownAtoms0 own ic X names).filter vx_no
def vx_atS (own : String) (ic : Nat) (X : String) (names : List String) : List Cond := (Bundle.ownAtoms own ic X names).filter vx_no
/-- a word that the tables alone decide, or a good one -/
def vx_ot (w : Cond) : Bool := w.onTables || goodWord w
theorem vx_ot_at {args a' : Array Value} {s U : State} {w : Cond} (hW : s.WarmedH U.vm) (hvm : s.vm = U.vm) (hg : vx_ot w = true) (h : w.before args s = true) : w.before a' U = true := by
  simp only [vx_ot, Bool.or_eq_true] at hg
  rcases hg with hg | hg
  · exact va_tabs hg hvm h
  · exact word_at hW (good_of_word hg) h
/-- a list's words: the good ones out of the method's own list, the others by premises of their own -/
theorem vx_hat {args : Array Value} {s : State} {L B : List Cond} (h1 : ∀ w ∈ L.filter goodWord, w.before args s = true) (h2 : ∀ w ∈ L.filter (fun w => !goodWord w), w ∈ B) (h3 : ∀ w ∈ B, w.before args s = true) : ∀ w ∈ L, w.before args s = true := by
  intro w hw
  by_cases g : goodWord w = true
  · exact h1 w (List.mem_filter.mpr ⟨hw, g⟩)
  · refine h3 w (h2 w (List.mem_filter.mpr ⟨hw, ?_⟩))
    show (!goodWord w) = true
    cases hgw : goodWord w
    · rfl
    · exact absurd hgw g
theorem vx_c {args : Array Value} {s : State} {w : Cond} {B : List Cond} (h : w.before args s = true) (t : ∀ w ∈ B, w.before args s = true) : ∀ w' ∈ w :: B, w'.before args s = true := fun w' h' => (List.mem_cons.mp h').elim (fun e => by rw [e]; exact h) (t w')
theorem vx_n {args : Array Value} {s : State} : ∀ w ∈ ([] : List Cond), w.before args s = true := fun _ h => nomatch h
theorem vx_own {args : Array Value} {s : State} {L : List Cond} (h1 : ∀ w ∈ L.filter vx_no, w.before args s = true)
    (hU : (Cond.isRef (.static Bundle.tN "UNASSIGNED_STACK" Bundle.steD)).before args s = true) (hN : (Cond.isRef (.static Bundle.tN "SUPPRESSED_SENTINEL" Bundle.listD)).before args s = true)
    (lU : (Cond.laysStatic Bundle.tN "UNASSIGNED_STACK" Bundle.steD).before args s = true) (lN : (Cond.laysStatic Bundle.tN "SUPPRESSED_SENTINEL" Bundle.listD).before args s = true) : ∀ w ∈ L, w.before args s = true := by
  intro w hw
  by_cases e1 : w = .isRef (.static Bundle.tN "UNASSIGNED_STACK" Bundle.steD)
  · rw [e1]; exact hU
  · by_cases e2 : w = .isRef (.static Bundle.tN "SUPPRESSED_SENTINEL" Bundle.listD)
    · rw [e2]; exact hN
    · by_cases e3 : w = .laysStatic Bundle.tN "UNASSIGNED_STACK" Bundle.steD
      · rw [e3]; exact lU
      · by_cases e4 : w = .laysStatic Bundle.tN "SUPPRESSED_SENTINEL" Bundle.listD
        · rw [e4]; exact lN
        · exact h1 w (List.mem_filter.mpr ⟨hw, by unfold vx_no; rw [decide_eq_true e1, decide_eq_true e2, decide_eq_true e3, decide_eq_true e4]; rfl⟩)
/-- where a static field lies, its class's statics cell in H -/
def vx_L (C n d : String) (A : Nat → Prop) (U : State) (H : Heap) : Prop := ∃ (c : ClassId) (k : Class) (i : Nat) (f : Field) (a : Nat) (cell : Cell), U.vm.findClass C = some c ∧ U.fieldFound? C n d = some (c, k, i, f) ∧ f.isStatic = true ∧ k.statics = some a ∧ H[a]? = some cell ∧ cell.vm.isStatics = true ∧ cell.cls = c ∧ f.slot < cell.slots.size ∧ k.staticTypes[f.slot]? = some f.type ∧ ¬ A a
theorem vx_L.moved {C n d : String} {A : Nat → Prop} {u U : State} {H : Heap} (hvm : u.vm.Alike U.vm) (h : vx_L C n d A u H) : vx_L C n d A U H := by
  obtain ⟨c, k, i, f, a, cell, h1, h2, h3, h4, h5, h6, h7, h8, h9, h10⟩ := h
  obtain ⟨k', hi', he⟩ := State.fieldFound?_setVm hvm h2
  exact ⟨c, k', i, f, a, cell, by rw [hvm.findClass]; exact h1, hi', h3, by rw [he]; exact h4, h5, h6, h7, h8, by rw [he]; exact h9, h10⟩
theorem vx_L.kept {C n d : String} {A : Nat → Prop} {U : State} {H H1 : Heap} (h : vx_L C n d A U H) (hq : ∀ a : Nat, a < H.size → ¬ A a → H1[a]? = H[a]?) : vx_L C n d A U H1 := by
  obtain ⟨c, k, i, f, a, cell, h1, h2, h3, h4, h5, h6, h7, h8, h9, h10⟩ := h
  exact ⟨c, k, i, f, a, cell, h1, h2, h3, h4, by rw [hq a (Array.getElem?_eq_some_iff.mp h5).1 h10]; exact h5, h6, h7, h8, h9, h10⟩
theorem vx_L.narrow {C n d : String} {A B : Nat → Prop} {U : State} {H : Heap} (h : vx_L C n d A U H) (hAB : ∀ q, B q → A q) : vx_L C n d B U H := by
  obtain ⟨c, k, i, f, a, cell, h1, h2, h3, h4, h5, h6, h7, h8, h9, h10⟩ := h
  exact ⟨c, k, i, f, a, cell, h1, h2, h3, h4, h5, h6, h7, h8, h9, fun z => h10 (hAB _ z)⟩
theorem vx_L.word {C n d : String} {A : Nat → Prop} {s : State} {args : Array Value} (h : vx_L C n d A s s.heap) : (Cond.laysStatic C n d).before args s = true := by
  obtain ⟨c, k, i, f, a, cell, h1, h2, h3, h4, h5, h6, h7, h8, h9, -⟩ := h
  show (Cond.laysStatic C n d).holds args s none s [] = true
  exact Cond.laysStatic_of h1 h2 h3 h4 h5 h6 h7 h8 h9
/-- .. and what it holds: null or some reference -/
def vx_Zq (C n d : String) (A : Nat → Prop) (U : State) (H : Heap) : Prop := va_Zq C n d A U H ∧ vx_L C n d A U H
theorem vx_Zq.moved {C n d : String} {A : Nat → Prop} {u U : State} {H : Heap} (hvm : u.vm.Alike U.vm) (h : vx_Zq C n d A u H) : vx_Zq C n d A U H := ⟨va_Zq.moved hvm h.1, vx_L.moved hvm h.2⟩
theorem vx_Zq.kept {C n d : String} {A : Nat → Prop} {U : State} {H H1 : Heap} (h : vx_Zq C n d A U H) (hq : ∀ a : Nat, a < H.size → ¬ A a → H1[a]? = H[a]?) : vx_Zq C n d A U H1 := ⟨va_Zq.kept h.1 hq, vx_L.kept h.2 hq⟩
theorem vx_Zq.narrow {C n d : String} {A B : Nat → Prop} {U : State} {H : Heap} (h : vx_Zq C n d A U H) (hAB : ∀ q, B q → A q) : vx_Zq C n d B U H := ⟨va_Zq.narrow h.1 hAB, vx_L.narrow h.2 hAB⟩
theorem vx_Zqof {args : Array Value} {s : State} {C n d : String} {A : Nat → Prop} (hl : (Cond.laysStatic C n d).before args s = true) (hini : (Cond.initialized C).before args s = true) (h : (Cond.isRef (.static C n d)).before args s = true) (hA : ∀ a : Nat, a < s.heap.size → ¬ A a) : vx_Zq C n d A s s.heap := by
  refine ⟨va_Zqof hl hini h hA, ?_⟩
  obtain ⟨c, k, i, f, a, cell, h1, h2, h3, h4, h5, h6, h7, h8, h9⟩ := Cond.laysStatic_spec hl
  exact ⟨c, k, i, f, a, cell, h1, h2, h3, h4, h5, h6, h7, h8, h9, hA a (Array.getElem?_eq_some_iff.mp h5).1⟩
theorem vx_isRef {C n d : String} {v : Value} {A : Nat → Prop} {s : State} {args : Array Value} (h : va_Z C n d v A s s.heap) (hv : v.isRef = true) : (Cond.isRef (.static C n d)).before args s = true := by
  obtain ⟨cf, kf, fi, f, a, cell, h1, h2, h3, h4, h5, h6, h7, -⟩ := h
  have he : (Term.static C n d).eval args s none [] s = some v := by
    simp [Term.eval, State.fieldNamed?, h1, h2, h4, h5, h6, h7]
  simp only [Cond.before, Cond.holds, Cond.value, he]
  cases v <;> simp_all [Value.isRef]
theorem vx_isRefq {C n d : String} {A : Nat → Prop} {s : State} {args : Array Value} (h : va_Zq C n d A s s.heap) : (Cond.isRef (.static C n d)).before args s = true := by
  rcases h with h | ⟨t, h⟩
  · exact vx_isRef h rfl
  · exact vx_isRef h rfl
/-- the same frame, seen from here: as if the method were called anew in this heap -/
theorem vx_rebase {T : State} (X : Stand p l e R s m args below meth c T locs cells slots) {R' : Room} (hf : R'.frames ≤ R.frames) (hl : R'.locals ≤ R.locals) (hc : cells + R'.cells ≤ R.cells) (hs : slots + R'.slots ≤ R.slots) :
    Stand p l e R' ((T.setVm s.vm).setFrames (.invoking m args :: below)) m args below meth c T [] 0 0 := by
  have htop : (T.setVm s.vm).topJava?.isSome := X.here.top
  have hF : ((T.setVm s.vm).setFrames (.invoking m args :: below)).frames = .invoking m args :: below := State.frames_setFrames _ (State.cur_lt_of_top htop)
  obtain ⟨g₀, hg0⟩ := Option.isSome_iff_exists.mp htop
  obtain ⟨r, hr⟩ := State.topJava?_eq_some.mp hg0
  have hl9 : e.platform.stackLimits (T.setVm s.vm).me = e.platform.stackLimits s.me := X.limits
  have hb9 : (T.setVm s.vm).me.stackBytes = s.me.stackBytes := X.bytes
  refine ⟨X.admits, X.cas, X.clock, hF, ?_, X.hears, X.method, X.code, X.here, X.tail, X.warmed, ?_, ?_, ?_⟩
  · have h := X.room
    have hU : ((T.setVm s.vm).setFrames (.invoking m args :: below)).localsInUse = s.localsInUse := by
      rw [State.localsInUse_invoking hF (meth := meth) (c := c) X.method X.code, State.localsInUse_invoking X.frames X.method X.code]
    simp only [State.hasRoom, Bool.and_eq_true, decide_eq_true_eq] at h ⊢
    obtain ⟨⟨⟨⟨h1, h2, h3, h4, h5, h6⟩, h7⟩, h8⟩, h9⟩ := h
    rw [X.frames, List.length_cons] at h2 h3
    have q1 := X.heapSize
    have q2 := X.used
    simp only [hF, hU, List.length_cons, State.stackLimits_setFrames, State.stackBytes_setFrames, hl9, hb9]
    refine ⟨⟨⟨⟨by omega, by omega, by omega, by omega, by omega, h6⟩, ?_⟩, ?_⟩, X.book⟩
    · show T.heap.size + R'.cells ≤ e.platform.maxCells
      omega
    · show T.slotsUsed + R'.slots ≤ e.platform.maxSlots
      omega
  · rw [State.stackLimits_setFrames]; rfl
  · rw [State.stackBytes_setFrames]; rfl
  · refine ⟨?_, Nat.le_refl _, Nat.le_refl _, ?_, ?_, fun a c9 h9 => ⟨c9, h9, rfl, rfl, fun _ _ => rfl⟩⟩
    · obtain ⟨t, ht, -⟩ := State.frames_cons hr
      show T.setVm s.vm = { ((T.setVm s.vm).setFrames (.invoking m args :: below)).setFrames (T.setVm s.vm).frames with heap := T.heap, slotsUsed := T.slotsUsed }
      rw [State.setFrames_setFrames, State.setFrames_self ht]
      rfl
    · show T.slotsUsed = T.slotsUsed + ((T.heap.toList.drop T.heap.size).map (·.slots.size)).sum
      rw [List.drop_eq_nil_of_le (Nat.le_of_eq Array.length_toList)]
      rfl
    · show ((T.heap.toList.drop T.heap.size).map (·.slots.size)).sum ≤ 0
      rw [List.drop_eq_nil_of_le (Nat.le_of_eq Array.length_toList)]
      exact Nat.le_refl _
/-- 'throw new E()': new; dup; invokespecial; athrow -/
theorem vx_throw0 {cc : ByteArray} {pc : Nat} (hexec : p.tables.exec = Jvm.exec) (hb : c.code = cc) (hl : l.stackTraces = false) {own cls : String} {names : List String} {ik ic mc ms : Nat} {A : Nat → Prop}
    (hown : s.vm.findClass own = some m.cls) (hcls : Bundle.fit cls = true) (hnames : ∀ n ∈ names, Bundle.fit n = true)
    (hk : (Cond.classLink own ik cls).before args s = true) (hini : (Cond.initialized cls).before args s = true) (hat : ∀ w ∈ vx_at0 own ic cls names, w.before args s = true)
    (hgood : ∀ w ∈ Cond.classLink own ik cls :: Cond.initialized cls :: vx_at0 own ic cls names, vx_ot w = true)
    (hU : vx_Zq Bundle.tN "UNASSIGNED_STACK" Bundle.steD A s s.heap) (hN : vx_Zq Bundle.tN "SUPPRESSED_SENTINEL" Bundle.listD A s s.heap) (hS : va_S A s.heap H locs) (hsize : ls.size = c.maxLocals)
    (d0 : decode cc pc = .ok (.new ik, 3)) (d3 : decode cc (pc + 3) = .ok (.dup, 1)) (d4 : decode cc (pc + 4) = .ok (.invokespecial ic, 3)) (d7 : decode cc (pc + 7) = .ok (.athrow, 1))
    (hout : ∀ x ∈ c.exceptionTable.toList, covers x (pc + 7) = false)
    (hRframes : names.length + 3 < R.frames) (hRlocals : (rest.map fun v => v.category).sum + (13 * (names.length + 1) + 42) ≤ R.locals) (hRcells : cells + 1 ≤ R.cells) (hRslots : slots + 6 ≤ R.slots) (hlocks : meth.locks = false)
    (hx : ∀ t : State, s.vm.Alike t.vm → H.size ≤ t.heap.size → (∀ q : Nat, q < H.size → t.heap[q]? = H[q]?) → XC cls s t)
    (hf : ∀ z ∈ locs, free z.base) (hc : cells + 1 ≤ mc) (hs : slots + 6 ≤ ms) :
    W p l e R s m args below meth c H locs cells slots (vx_MQ below Qc XC args s mc ms free) (F0 m pc ls rest) := by
  intro T hT X
  have htr : e.platform.stackTraces = false := (show e.platform.stackTraces = l.stackTraces by rw [X.admits.platform]).trans hl
  have Y := vx_rebase X (R' := { frames := R.frames, locals := R.locals, cells := 1, slots := 6 }) (Nat.le_refl _) (Nat.le_refl _) hRcells hRslots
  obtain ⟨s', hA⟩ : ∃ z, z = (T.setVm s.vm).setFrames (.invoking m args :: below) := ⟨_, rfl⟩
  rw [← hA] at Y
  have hvm : s'.vm = s.vm := by rw [hA]; rfl
  have hhp : s'.heap = H := by rw [hA]; exact hT
  have hW0 : s.WarmedH s'.vm := by rw [hvm]; exact State.WarmedH.refl s
  have hat' : ∀ w ∈ vx_at0 own ic cls names, w.before args s' = true := fun w hw => vx_ot_at hW0 hvm.symm (hgood w (List.mem_cons_of_mem _ (List.mem_cons_of_mem _ hw))) (hat w hw)
  have hk' : (Cond.classLink own ik cls).before args s' = true := vx_ot_at hW0 hvm.symm (hgood _ List.mem_cons_self) hk
  have hini' : (Cond.initialized cls).before args s' = true := vx_ot_at hW0 hvm.symm (hgood _ (List.mem_cons_of_mem _ List.mem_cons_self)) hini
  have hU' : vx_Zq Bundle.tN "UNASSIGNED_STACK" Bundle.steD A s' s'.heap := by rw [hhp]; exact vx_Zq.moved hW0.alike (hU.kept hS.2.1)
  have hN' : vx_Zq Bundle.tN "SUPPRESSED_SENTINEL" Bundle.listD A s' s'.heap := by rw [hhp]; exact vx_Zq.moved hW0.alike (hN.kept hS.2.1)
  have h : ∀ w ∈ Bundle.ownAtoms0 own ic cls names, w.before args s' = true := vx_own hat' (vx_isRefq hU'.1) (vx_isRefq hN'.1) hU'.2.word hN'.2.word
  have hown' : s'.vm.findClass own = some m.cls := by rw [hvm]; exact hown
  have hins : (Cond.instantiable cls 6).before args s' = true := h _ (by simp [Bundle.ownAtoms0])
  obtain ⟨vm₁, cX, kX, hfX, hkX, -, -, X₁, st1⟩ := Y.newCold hexec (own := own) (C := cls) (index := ik) (n := 6) hown' hk' hins hini'
    (g := F0 m pc ls rest) rfl (by rw [hb]; exact d0) (Nat.le_refl _) (Nat.le_refl _)
  generalize hT1 : (T.setVm vm₁).pushCell { cls := cX, slots := kX.instanceTypes.map defaultValue, vm := .none } = T1 at X₁ st1
  have hcat : (Value.ref T.heap.size).category = 1 := rfl
  have hcellA : T1.heap[T.heap.size]? = some (freshCell cX kX) := by rw [← hT1]; exact State.heap_pushCell_size _ _
  have d3' : decode c.code (pc + 3) = .ok (.dup, 1) := by rw [hb]; exact d3
  obtain ⟨U, hsteps, hrun, hend, hW, hsame, ce, hce, hO⟩ := X₁.ctorThrow0 hexec htr (own := own) (cls := cls) (names := names) (ic := ic) hown' hcls hnames h (fun x hx => nomatch hx) hfX hkX hcellA (by rw [hhp, hT]; exact Nat.le_refl _)
    (g := { method := m, pc := pc + 4, locals := ls, stack := .ref T.heap.size :: .ref T.heap.size :: rest, locked := none }) rfl hsize rfl rfl (rest := rest) rfl
    (by rw [hb]; exact d4) (by rw [hb]; exact d7) hout hRframes (by simp only [List.map_cons, List.sum_cons, hcat]; omega) hlocks
  obtain ⟨f1, f2⟩ := vx_frame hsame
  rw [hhp] at f1 f2
  have hWs : s.WarmedH U.vm := State.WarmedH.trans hW0 hW
  have hcl : s.vm.findClass cls = some ce.cls := by
    have h9 := hO.cls
    rw [hvm] at h9
    exact h9
  have hall : s.sameButNew ({ U with vm := s.vm } : State) locs mc ms := by
    subst hA
    obtain ⟨e1, e2⟩ := hsame
    rw [State.setFrames_setFrames] at e1
    have h2 : (T.setVm s.vm).sameButNew ({ U with vm := s.vm } : State) [] (0 + 1) (0 + 6) := ⟨e1, e2⟩
    have h3 := X.same.trans h2
    rw [List.append_nil] at h3
    exact h3.mono hc hs
  refine ⟨U, ?_, .threw T.heap.size, hrun, hend, Or.inr ⟨T.heap.size, rfl, cls, ce, locs, hx U hWs.alike f1 (fun q hq => f2 q hq (fun z hz => nomatch hz)), hce, hO.vm, hcl, hWs, hall, hf⟩⟩
  refine st1 _ ?_
  show Steps p.tables e below (T1.setTop { method := m, pc := pc + 3, locals := ls, stack := .ref T.heap.size :: rest, locked := none }) _
  jvm_step X₁.here [X₁.here.top, hexec, d3', Value.category]
  exact hsteps
/-- 'throw new E("text")': new; dup; ldc; invokespecial; athrow -/
theorem vx_throwS {cc : ByteArray} {pc : Nat} (hexec : p.tables.exec = Jvm.exec) (hb : c.code = cc) (hl : l.stackTraces = false) {own cls text : String} {names : List String} {ik is ic mc ms sa : Nat} {A : Nat → Prop}
    (hown : s.vm.findClass own = some m.cls) (hcls : Bundle.fit cls = true) (hnames : ∀ n ∈ names, Bundle.fit n = true)
    (hk : (Cond.classLink own ik cls).before args s = true) (hini : (Cond.initialized cls).before args s = true) (hstr : vk_R own is text sa s) (hat : ∀ w ∈ vx_atS own ic cls names, w.before args s = true)
    (hgood : ∀ w ∈ Cond.classLink own ik cls :: Cond.initialized cls :: vx_atS own ic cls names, vx_ot w = true)
    (hU : vx_Zq Bundle.tN "UNASSIGNED_STACK" Bundle.steD A s s.heap) (hN : vx_Zq Bundle.tN "SUPPRESSED_SENTINEL" Bundle.listD A s s.heap) (hS : va_S A s.heap H locs) (hsize : ls.size = c.maxLocals)
    (d0 : decode cc pc = .ok (.new ik, 3)) (d3 : decode cc (pc + 3) = .ok (.dup, 1)) (d4 : decode cc (pc + 4) = .ok (.ldc is, 2)) (d6 : decode cc (pc + 6) = .ok (.invokespecial ic, 3)) (d9 : decode cc (pc + 9) = .ok (.athrow, 1))
    (hout : ∀ x ∈ c.exceptionTable.toList, covers x (pc + 9) = false)
    (hRframes : names.length + 3 < R.frames) (hRlocals : (rest.map fun v => v.category).sum + (13 * (names.length + 1) + 43) ≤ R.locals) (hRcells : cells + 1 ≤ R.cells) (hRslots : slots + 6 ≤ R.slots) (hlocks : meth.locks = false)
    (hx : ∀ t : State, s.vm.Alike t.vm → H.size ≤ t.heap.size → (∀ q : Nat, q < H.size → t.heap[q]? = H[q]?) → XC cls s t)
    (hf : ∀ z ∈ locs, free z.base) (hc : cells + 1 ≤ mc) (hs : slots + 6 ≤ ms) :
    W p l e R s m args below meth c H locs cells slots (vx_MQ below Qc XC args s mc ms free) (F0 m pc ls rest) := by
  intro T hT X
  have htr : e.platform.stackTraces = false := (show e.platform.stackTraces = l.stackTraces by rw [X.admits.platform]).trans hl
  have Y := vx_rebase X (R' := { frames := R.frames, locals := R.locals, cells := 1, slots := 6 }) (Nat.le_refl _) (Nat.le_refl _) hRcells hRslots
  obtain ⟨s', hA⟩ : ∃ z, z = (T.setVm s.vm).setFrames (.invoking m args :: below) := ⟨_, rfl⟩
  rw [← hA] at Y
  have hvm : s'.vm = s.vm := by rw [hA]; rfl
  have hhp : s'.heap = H := by rw [hA]; exact hT
  have hW0 : s.WarmedH s'.vm := by rw [hvm]; exact State.WarmedH.refl s
  have hat' : ∀ w ∈ vx_atS own ic cls names, w.before args s' = true := fun w hw => vx_ot_at hW0 hvm.symm (hgood w (List.mem_cons_of_mem _ (List.mem_cons_of_mem _ hw))) (hat w hw)
  have hk' : (Cond.classLink own ik cls).before args s' = true := vx_ot_at hW0 hvm.symm (hgood _ List.mem_cons_self) hk
  have hini' : (Cond.initialized cls).before args s' = true := vx_ot_at hW0 hvm.symm (hgood _ (List.mem_cons_of_mem _ List.mem_cons_self)) hini
  have hU' : vx_Zq Bundle.tN "UNASSIGNED_STACK" Bundle.steD A s' s'.heap := by rw [hhp]; exact vx_Zq.moved hW0.alike (hU.kept hS.2.1)
  have hN' : vx_Zq Bundle.tN "SUPPRESSED_SENTINEL" Bundle.listD A s' s'.heap := by rw [hhp]; exact vx_Zq.moved hW0.alike (hN.kept hS.2.1)
  have h : ∀ w ∈ Bundle.ownAtoms own ic cls names, w.before args s' = true := vx_own hat' (vx_isRefq hU'.1) (vx_isRefq hN'.1) hU'.2.word hN'.2.word
  have hown' : s'.vm.findClass own = some m.cls := by rw [hvm]; exact hown
  have hins : (Cond.instantiable cls 6).before args s' = true := h _ (by simp [Bundle.ownAtoms])
  obtain ⟨vm₁, cX, kX, hfX, hkX, -, -, X₁, st1⟩ := Y.newCold hexec (own := own) (C := cls) (index := ik) (n := 6) hown' hk' hins hini'
    (g := F0 m pc ls rest) rfl (by rw [hb]; exact d0) (Nat.le_refl _) (Nat.le_refl _)
  generalize hT1 : (T.setVm vm₁).pushCell { cls := cX, slots := kX.instanceTypes.map defaultValue, vm := .none } = T1 at X₁ st1
  have hcat : (Value.ref T.heap.size).category = 1 := rfl
  have hcellA : T1.heap[T.heap.size]? = some (freshCell cX kX) := by rw [← hT1]; exact State.heap_pushCell_size _ _
  have d3' : decode c.code (pc + 3) = .ok (.dup, 1) := by rw [hb]; exact d3
  have d4' : decode c.code (pc + 4) = .ok (.ldc is, 2) := by rw [hb]; exact d4
  have hstr' : vk_R own is text sa s' := vk_R.warm hW0 hstr
  obtain ⟨U, hsteps, hrun, hend, hW, hsame, ce, hce, hO⟩ := X₁.ctorThrowS hexec htr (own := own) (cls := cls) (names := names) (ic := ic) hown' hcls hnames h (fun x hx => nomatch hx) hfX hkX hcellA (by rw [hhp, hT]; exact Nat.le_refl _) (msg := .ref sa) rfl
    (g := { method := m, pc := pc + 6, locals := ls, stack := .ref sa :: .ref T.heap.size :: .ref T.heap.size :: rest, locked := none }) rfl hsize rfl rfl (rest := rest) rfl
    (by rw [hb]; exact d6) (by rw [hb]; exact d9) hout hRframes (by simp only [List.map_cons, List.sum_cons, hcat]; omega) hlocks
  obtain ⟨f1, f2⟩ := vx_frame hsame
  rw [hhp] at f1 f2
  have hWs : s.WarmedH U.vm := State.WarmedH.trans hW0 hW
  have hcl : s.vm.findClass cls = some ce.cls := by
    have h9 := hO.cls
    rw [hvm] at h9
    exact h9
  have hall : s.sameButNew ({ U with vm := s.vm } : State) locs mc ms := by
    subst hA
    obtain ⟨e1, e2⟩ := hsame
    rw [State.setFrames_setFrames] at e1
    have h2 : (T.setVm s.vm).sameButNew ({ U with vm := s.vm } : State) [] (0 + 1) (0 + 6) := ⟨e1, e2⟩
    have h3 := X.same.trans h2
    rw [List.append_nil] at h3
    exact h3.mono hc hs
  refine ⟨U, ?_, .threw T.heap.size, hrun, hend, Or.inr ⟨T.heap.size, rfl, cls, ce, locs, hx U hWs.alike f1 (fun q hq => f2 q hq (fun z hz => nomatch hz)), hce, hO.vm, hcl, hWs, hall, hf⟩⟩
  refine st1 _ ?_
  show Steps p.tables e below (T1.setTop { method := m, pc := pc + 3, locals := ls, stack := .ref T.heap.size :: rest, locked := none }) _
  jvm_step X₁.here [X₁.here.top, hexec, d3', Value.category]
  exact X₁.ldcString hexec (own := own) (text := text) (index := is) (a := sa) hown' hstr'.1 hstr'.2
    (g := { method := m, pc := pc + 4, locals := ls, stack := .ref T.heap.size :: .ref T.heap.size :: rest, locked := none }) rfl d4' _ hsteps
/-- 'throw new E("text")', the text by a wide index -/
theorem vx_throwSW {cc : ByteArray} {pc : Nat} (hexec : p.tables.exec = Jvm.exec) (hb : c.code = cc) (hl : l.stackTraces = false) {own cls text : String} {names : List String} {ik is ic mc ms sa : Nat} {A : Nat → Prop}
    (hown : s.vm.findClass own = some m.cls) (hcls : Bundle.fit cls = true) (hnames : ∀ n ∈ names, Bundle.fit n = true)
    (hk : (Cond.classLink own ik cls).before args s = true) (hini : (Cond.initialized cls).before args s = true) (hstr : vk_R own is text sa s) (hat : ∀ w ∈ vx_atS own ic cls names, w.before args s = true)
    (hgood : ∀ w ∈ Cond.classLink own ik cls :: Cond.initialized cls :: vx_atS own ic cls names, vx_ot w = true)
    (hU : vx_Zq Bundle.tN "UNASSIGNED_STACK" Bundle.steD A s s.heap) (hN : vx_Zq Bundle.tN "SUPPRESSED_SENTINEL" Bundle.listD A s s.heap) (hS : va_S A s.heap H locs) (hsize : ls.size = c.maxLocals)
    (d0 : decode cc pc = .ok (.new ik, 3)) (d3 : decode cc (pc + 3) = .ok (.dup, 1)) (d4 : decode cc (pc + 4) = .ok (.ldc_w is, 3)) (d7 : decode cc (pc + 7) = .ok (.invokespecial ic, 3)) (d10 : decode cc (pc + 10) = .ok (.athrow, 1))
    (hout : ∀ x ∈ c.exceptionTable.toList, covers x (pc + 10) = false)
    (hRframes : names.length + 3 < R.frames) (hRlocals : (rest.map fun v => v.category).sum + (13 * (names.length + 1) + 43) ≤ R.locals) (hRcells : cells + 1 ≤ R.cells) (hRslots : slots + 6 ≤ R.slots) (hlocks : meth.locks = false)
    (hx : ∀ t : State, s.vm.Alike t.vm → H.size ≤ t.heap.size → (∀ q : Nat, q < H.size → t.heap[q]? = H[q]?) → XC cls s t)
    (hf : ∀ z ∈ locs, free z.base) (hc : cells + 1 ≤ mc) (hs : slots + 6 ≤ ms) :
    W p l e R s m args below meth c H locs cells slots (vx_MQ below Qc XC args s mc ms free) (F0 m pc ls rest) := by
  intro T hT X
  have htr : e.platform.stackTraces = false := (show e.platform.stackTraces = l.stackTraces by rw [X.admits.platform]).trans hl
  have Y := vx_rebase X (R' := { frames := R.frames, locals := R.locals, cells := 1, slots := 6 }) (Nat.le_refl _) (Nat.le_refl _) hRcells hRslots
  obtain ⟨s', hA⟩ : ∃ z, z = (T.setVm s.vm).setFrames (.invoking m args :: below) := ⟨_, rfl⟩
  rw [← hA] at Y
  have hvm : s'.vm = s.vm := by rw [hA]; rfl
  have hhp : s'.heap = H := by rw [hA]; exact hT
  have hW0 : s.WarmedH s'.vm := by rw [hvm]; exact State.WarmedH.refl s
  have hat' : ∀ w ∈ vx_atS own ic cls names, w.before args s' = true := fun w hw => vx_ot_at hW0 hvm.symm (hgood w (List.mem_cons_of_mem _ (List.mem_cons_of_mem _ hw))) (hat w hw)
  have hk' : (Cond.classLink own ik cls).before args s' = true := vx_ot_at hW0 hvm.symm (hgood _ List.mem_cons_self) hk
  have hini' : (Cond.initialized cls).before args s' = true := vx_ot_at hW0 hvm.symm (hgood _ (List.mem_cons_of_mem _ List.mem_cons_self)) hini
  have hU' : vx_Zq Bundle.tN "UNASSIGNED_STACK" Bundle.steD A s' s'.heap := by rw [hhp]; exact vx_Zq.moved hW0.alike (hU.kept hS.2.1)
  have hN' : vx_Zq Bundle.tN "SUPPRESSED_SENTINEL" Bundle.listD A s' s'.heap := by rw [hhp]; exact vx_Zq.moved hW0.alike (hN.kept hS.2.1)
  have h : ∀ w ∈ Bundle.ownAtoms own ic cls names, w.before args s' = true := vx_own hat' (vx_isRefq hU'.1) (vx_isRefq hN'.1) hU'.2.word hN'.2.word
  have hown' : s'.vm.findClass own = some m.cls := by rw [hvm]; exact hown
  have hins : (Cond.instantiable cls 6).before args s' = true := h _ (by simp [Bundle.ownAtoms])
  obtain ⟨vm₁, cX, kX, hfX, hkX, -, -, X₁, st1⟩ := Y.newCold hexec (own := own) (C := cls) (index := ik) (n := 6) hown' hk' hins hini'
    (g := F0 m pc ls rest) rfl (by rw [hb]; exact d0) (Nat.le_refl _) (Nat.le_refl _)
  generalize hT1 : (T.setVm vm₁).pushCell { cls := cX, slots := kX.instanceTypes.map defaultValue, vm := .none } = T1 at X₁ st1
  have hcat : (Value.ref T.heap.size).category = 1 := rfl
  have hcellA : T1.heap[T.heap.size]? = some (freshCell cX kX) := by rw [← hT1]; exact State.heap_pushCell_size _ _
  have d3' : decode c.code (pc + 3) = .ok (.dup, 1) := by rw [hb]; exact d3
  have d4' : decode c.code (pc + 4) = .ok (.ldc_w is, 3) := by rw [hb]; exact d4
  have hstr' : vk_R own is text sa s' := vk_R.warm hW0 hstr
  obtain ⟨U, hsteps, hrun, hend, hW, hsame, ce, hce, hO⟩ := X₁.ctorThrowS hexec htr (own := own) (cls := cls) (names := names) (ic := ic) hown' hcls hnames h (fun x hx => nomatch hx) hfX hkX hcellA (by rw [hhp, hT]; exact Nat.le_refl _) (msg := .ref sa) rfl
    (g := { method := m, pc := pc + 7, locals := ls, stack := .ref sa :: .ref T.heap.size :: .ref T.heap.size :: rest, locked := none }) rfl hsize rfl rfl (rest := rest) rfl
    (by rw [hb]; exact d7) (by rw [hb]; exact d10) hout hRframes (by simp only [List.map_cons, List.sum_cons, hcat]; omega) hlocks
  obtain ⟨f1, f2⟩ := vx_frame hsame
  rw [hhp] at f1 f2
  have hWs : s.WarmedH U.vm := State.WarmedH.trans hW0 hW
  have hcl : s.vm.findClass cls = some ce.cls := by
    have h9 := hO.cls
    rw [hvm] at h9
    exact h9
  have hall : s.sameButNew ({ U with vm := s.vm } : State) locs mc ms := by
    subst hA
    obtain ⟨e1, e2⟩ := hsame
    rw [State.setFrames_setFrames] at e1
    have h2 : (T.setVm s.vm).sameButNew ({ U with vm := s.vm } : State) [] (0 + 1) (0 + 6) := ⟨e1, e2⟩
    have h3 := X.same.trans h2
    rw [List.append_nil] at h3
    exact h3.mono hc hs
  refine ⟨U, ?_, .threw T.heap.size, hrun, hend, Or.inr ⟨T.heap.size, rfl, cls, ce, locs, hx U hWs.alike f1 (fun q hq => f2 q hq (fun z hz => nomatch hz)), hce, hO.vm, hcl, hWs, hall, hf⟩⟩
  refine st1 _ ?_
  show Steps p.tables e below (T1.setTop { method := m, pc := pc + 3, locals := ls, stack := .ref T.heap.size :: rest, locked := none }) _
  jvm_step X₁.here [X₁.here.top, hexec, d3', Value.category]
  exact X₁.ldcStringW hexec (own := own) (text := text) (index := is) (a := sa) hown' hstr'.1 hstr'.2
    (g := { method := m, pc := pc + 4, locals := ls, stack := .ref T.heap.size :: .ref T.heap.size :: rest, locked := none }) rfl d4' _ hsteps
end Ends
section Bodies
variable {l : Launch}
theorem vx_ofW {y : MethodName} {ws ws' : List Cond} {rm : Room} {Pc : Array Value → State → Prop} {Qc : Array Value → State → Outcome → State → Prop} {XC : String → State → State → Prop} {mc ms : Nat} {free : Addr → Prop} {cc : ByteArray} {maxL : Nat} {ret : Option FieldType}
    (hy : plainName y.cls = true) (hw : ws = Cond.code y cc maxL ret :: ws')
    (body : ∀ p e s m args below meth c s₁, BodyLoose p l y (headSpec ws rm) cc maxL ret e s m args below meth c s₁ → c.maxLocals = maxL → (∀ x ∈ c.exceptionTable.toList, False) → Pc args s →
      W p l e (headSpec ws rm).room s m args below meth c s.heap [] 0 0 (vx_MQ below Qc XC args s mc ms free) (entryFrame m args maxL)) : vx_Met l y ws rm Pc Qc XC mc ms free := by
  refine MetFree.of_bodyS (code := cc) (maxLocals := maxL) (ret := ret) hy ?_ ?_
  · intro args s m h hn
    obtain ⟨meth, c, h1, h2, h3, h4, h5, h6, -, -⟩ := Cond.code_spec hn (atoms_spec (ws := ws) h _ (by rw [hw]; exact List.mem_cons_self))
    exact ⟨meth, c, h1, h2, h3, h4, h5, h6⟩
  · intro p e s m args below meth c s₁ B hml hP _
    have hh0 : s₁.heap = s.heap := by rw [B.state]; rfl
    have ht : ∀ x ∈ c.exceptionTable.toList, False := by
      obtain ⟨meth9, c9, h1, h2, -, -, -, -, h7, -⟩ := Cond.code_spec B.named (atoms_spec (ws := ws) B.pre _ (by rw [hw]; exact List.mem_cons_self))
      cases Option.some.inj (h1.symm.trans B.method)
      cases Option.some.inj (h2.symm.trans (Stand.of_body B).code)
      intro x hx
      rw [Array.isEmpty_iff.mp h7] at hx
      cases hx
    obtain ⟨t, a1, o, b1, b2, b3⟩ := body p e s m args below meth c s₁ B hml ht hP s₁ hh0 (Stand.of_body B)
    exact ⟨t, o, a1, b1, b2, b3⟩
/-- the table of a body with handlers -/
theorem vx_table {p : Program} {x y : MethodName} {S : Spec} {cc bytes : ByteArray} {maxL maxL' : Nat} {ret ret' : Option FieldType} {e : Env} {s s₁ : State} {m : MethodId} {args : Array Value} {below : List Frame} {meth : Method} {c : Code} {hh : List (Nat × Nat × Nat × Nat)}
    (B : BodyLoose p l y S cc maxL ret e s m args below meth c s₁) (h : (Cond.codeWith y bytes maxL' ret' hh).before args s = true) : c.exceptionTable.toList = tableOf hh := by
  obtain ⟨m9, meth9, c9, hn9, h1, h2, -, -, h6, -⟩ := Cond.codeWith_spec h
  cases Option.some.inj (hn9.symm.trans B.named)
  cases Option.some.inj (h1.symm.trans B.method)
  cases Option.some.inj (h2.symm.trans (Stand.of_body B).code)
  rw [← h6, table_eq]
end Bodies
end VXA
/-! ===== END ===== -/
/-! ===== BEGIN a static call of a method with an exception table ===== -/
section VXS
variable {p : Program} {l : Launch} {e : Env} {R : Room} {s : State} {m : MethodId} {args : Array Value} {below : List Frame} {meth : Method} {c : Code} {T : State} {H : Heap} {locs : List Loc} {cells slots : Nat}
abbrev vx_CSW (R : Room) (s : State) (args : Array Value) (own : String) (index : Nat) (y : MethodName) (bytes : ByteArray) (maxL : Nat) (ret : Option FieldType) (hh : List (Nat × Nat × Nat × Nat)) (ws : List Cond) (rm : Room) (mc ms n : Nat) : Prop :=
  (rm.cells = mc ∧ rm.slots = ms ∧ rm.frames + 1 ≤ R.frames ∧ 8 + (maxL + 11) + rm.locals ≤ R.locals ∧ (∀ w ∈ ws, ∀ (a' : Array Value) (U : State), s.WarmedH U.vm → w.before a' U = true) ∧ Cond.codeWith y bytes maxL ret hh ∈ ws) ∧
  (Cond.codeWith y bytes maxL ret hh).before args s = true ∧ (Cond.initialized y.cls).before args s = true ∧ (y.cls ≠ "java/lang/invoke/MethodHandle" ∧ y.cls ≠ "java/lang/invoke/VarHandle") ∧
  (∀ sig, parseMethodDescriptor y.desc = some sig → n = sig.parameters.length) ∧ (Cond.methodLink own index y).before args s = true ∧ (Cond.static y).before args s = true
theorem vx_cwSW {own : String} {index maxL mc ms : Nat} {y : MethodName} {bytes : ByteArray} {ret : Option FieldType} {hh : List (Nat × Nat × Nat × Nat)} {Ts ws ws' : List Cond} {rm : Room} (n : Nat) (ht : ∀ w ∈ Ts, w.before args s = true) (hT : GoodIn Ts (va_wsS own index y ws)) (hw : ws = Cond.codeWith y bytes maxL ret hh :: ws') (hrc : rm.cells = mc) (hrs : rm.slots = ms)
    (hd : y.cls ≠ "java/lang/invoke/MethodHandle" ∧ y.cls ≠ "java/lang/invoke/VarHandle" ∧ (parseMethodDescriptor y.desc).map (fun d => d.parameters.length) = some n) (hR : rm.frames + 1 ≤ R.frames ∧ 8 + (maxL + 11) + rm.locals ≤ R.locals) :
    vx_CSW R s args own index y bytes maxL ret hh ws rm mc ms n := by
  have ok : ∀ w ∈ va_wsS own index y ws, w.before args s = true := fun w h => ht w (hT w h).1
  have hG : GoodIn Ts ws := fun w h => hT w (by unfold va_wsS; exact List.mem_append_right _ h)
  have hc : Cond.codeWith y bytes maxL ret hh ∈ ws := by rw [hw]; exact List.mem_cons_self
  refine ⟨⟨hrc, hrs, hR.1, hR.2, pay_in ht hG, hc⟩, ht _ (hG _ hc).1, ok _ (by simp [va_wsS]), ⟨hd.1, hd.2.1⟩, fun sig h => ?_, ok _ (by simp [va_wsS]), ok _ (by simp [va_wsS])⟩
  have h2 := hd.2.2
  rw [h] at h2
  exact (Option.some.inj h2).symm
theorem vx_callSW (X : Stand p l e R s m args below meth c T locs cells slots) (hexec : p.tables.exec = Jvm.exec) {own : String} {index : Nat} {y : MethodName} {bytes : ByteArray} {maxL : Nat} {ret : Option FieldType} {hh : List (Nat × Nat × Nat × Nat)}
    (hown : s.vm.findClass own = some m.cls) (hlink : (Cond.methodLink own index y).before args s = true) (hstat : (Cond.static y).before args s = true) (hinit : (Cond.initialized y.cls).before args s = true)
    (hcode : (Cond.codeWith y bytes maxL ret hh).before args s = true) (hy : y.cls ≠ "java/lang/invoke/MethodHandle" ∧ y.cls ≠ "java/lang/invoke/VarHandle")
    {W9 : Nat} {Pre : Pt → Array Value → Prop} {Post : Pt → Array Value → Option Value → Pt → Prop} (hK : Back l R p e below s args y 3 W9 Pre Post)
    {g : JFrame} (hg : g.method = m) (hsize : g.locals.size = c.maxLocals) {argsL rest : List Value} (hlen : ∀ sig, parseMethodDescriptor y.desc = some sig → argsL.length = sig.parameters.length)
    (hstack : g.stack = argsL.reverse ++ rest) (hW : 2 * g.monitorRoom + (rest.map fun v => v.category).sum ≤ W9) (hdg : decode c.code g.pc = .ok (.invokestatic index, 3))
    (hpre : ∀ vm₁, s.WarmedH vm₁ → Pre ⟨T.setVm vm₁, locs, cells, slots⟩ argsL.toArray) :
    ∃ (v : Option Value) (vm₁ : Vm) (B : Pt), s.WarmedH vm₁ ∧ Stand p l e R s m args below meth c B.U B.locs B.cells B.slots ∧ Post ⟨T.setVm vm₁, locs, cells, slots⟩ argsL.toArray v B ∧
      ∀ target, Steps p.tables e below (B.U.setTop { g with pc := g.pc + 3, stack := v.toList ++ rest }) target → Steps p.tables e below (T.setTop g) target := by
  obtain ⟨mk, methM, cM, hnamed, hmethM, -, -, -, -, -, -, hsigM⟩ := Cond.codeWith_spec hcode
  have hstatic : methM.isStatic = true := Cond.static_spec hnamed hmethM hstat
  obtain ⟨kP, hkP, -⟩ := className_of_methodNamed hnamed
  have hinitP : kP.init = .initialized := Cond.initialized_spec (findClass_of_methodNamed hnamed) hkP hinit
  obtain ⟨vm₁, X₁, hstep₁⟩ := X.invokestatic hexec hown hlink hnamed hmethM hstatic hkP hinitP hy (g := g) hg (argsL := argsL) (rest := rest) (hlen _ hsigM) hstack hdg
  obtain ⟨v, B, X', hpost, hsteps⟩ := hK m meth c ⟨T.setVm vm₁, locs, cells, slots⟩ { g with stack := rest } (.invokestatic index) mk argsL.toArray X₁ hg hsize hdg hW (X₁.named hnamed) (hpre vm₁ X₁.warmed)
  exact ⟨v, vm₁, B, X₁.warmed, X', hpost, fun target h => hstep₁ _ fun acts => by rw [doInvoke_state]; exact hsteps.trans h⟩
theorem vx_runSW {y : MethodName} {bytes cc : ByteArray} {maxL nL mc ms n index : Nat} {ret : Option FieldType} {hh : List (Nat × Nat × Nat × Nat)} {ws : List Cond} {rm : Room} {Pc : Array Value → State → Prop} {Qc : Array Value → State → Outcome → State → Prop} {free : Addr → Prop} {Ts : List Cond} {own : String} {As rest : List Value} {g : JFrame}
    (S : CallFix p m c cc nL s args Ts own) (hM : Met l y ws rm Pc Qc mc ms free) (cw : vx_CSW R s args own index y bytes maxL ret hh ws rm mc ms n) (hp : PreS s H Pc As)
    (hg : g.method = m) (hn : As.length = n) (hsize : g.locals.size = nL) (hstack : g.stack = As.reverse ++ rest) (hW : 2 * g.monitorRoom + (rest.map fun v => v.category).sum ≤ 8) (hdg : decode cc g.pc = .ok (.invokestatic index, 3)) (hf : cells + mc ≤ R.cells ∧ slots + ms ≤ R.slots) :
    va_Run p l e R s m args below meth c H locs cells slots mc ms g rest (Qc As.toArray) (free) := by
  obtain ⟨⟨hrc, hrs, hfr, hlo, hws, hcw⟩, hcode, hini, hy, hlen, hl, hstt⟩ := cw
  have hK : Back l R p e below s args y 3 8 (PreOf R mc ms Pc) (PostOf Qc mc ms free) := va_backW (hh := hh) (bytes := bytes) (maxL := maxL) (ret := ret) hM hp.1 hrc hrs hfr hlo hws hcw (fun a' U hW => word_at hW (Or.inl (by first | rfl | simp [Cond.onTables, Cond.keeps, Cond.steady])) hini)
  obtain ⟨hx, hb, hml, ho, -⟩ := S
  intro T hT X
  obtain ⟨v, vm₁, ⟨U', l2, c2, s2⟩, hW₁, X', ⟨g', mk, t, L, e1, e2, hq, h1, hL, h2, h3⟩, st⟩ := vx_callSW X hx (hh := hh) (bytes := bytes) (maxL := maxL) (ret := ret) ho hl hstt hini hcode hy hK hg (hsize.trans hml.symm) (argsL := As) (rest := rest) (fun sig h => hn.trans (hlen sig h)) hstack hW (by rw [hb]; exact hdg)
    (fun vm₁ hW₁ => ⟨hf.1, hf.2, hp.2 (T.setVm vm₁) hT hW₁⟩)
  dsimp only [Pt.U, Pt.locs, Pt.cells, Pt.slots] at X' e1 e2 h1 h2 h3 st
  subst h1; subst h2; subst h3
  exact ⟨v, (T.setVm vm₁).calling g' mk As.toArray, t, U', L, hT, X', hL, e1, e2, hq, st⟩
/-- not caught here, past rows that name other classes: it goes on to the caller -/
theorem vx_outP {p : Program} {l : Launch} {e : Env} {R : Room} {s : State} {m : MethodId} {args : Array Value} {below : List Frame} {meth : Method} {c : Code} {H : Heap} {locs : List Loc} {cells slots : Nat} {free : Addr → Prop} {ls : Array Slot} {rest : List Value} {Qc : Array Value → State → Outcome → State → Prop} {XC : String → State → State → Prop}
    {pc : Nat} {own E : String} {ce : Cell} {q : Addr} {mc ms : Nat} (hown : s.vm.findClass own = some m.cls) (hlocks : meth.locks = false)
    (hpass : ∀ z ∈ c.exceptionTable.toList, covers z pc = false ∨ (z.catchType ≠ 0 ∧ ∃ nm : String, (Cond.classLink own z.catchType nm).before args s = true ∧ va_Nc E nm s)) (hcell : H[q]? = some ce) (hv : ce.vm = .none) (hcl : s.vm.findClass E = some ce.cls)
    (hx : ∀ t : State, t.heap = H → s.vm.Alike t.vm → XC E s t) (hf : ∀ z ∈ locs, free z.base) (hc : cells ≤ mc) (hs : slots ≤ ms) :
    vx_W p l e R s m args below meth c H locs cells slots (vx_MQ below Qc XC args s mc ms free) (F0 m pc ls rest) q := by
  intro T hT X
  have hpl : e.platform.magicAccessors = ({} : Platform).magicAccessors := by rw [X.admits.platform]
  obtain ⟨vm', hW', X', st⟩ := X.outThrough hlocks q (g := F0 m pc ls rest) rfl rfl rfl (cell := ce) (by rw [hT]; exact hcell) (by rw [hv]; rfl)
    (by obtain ⟨k9, h9, -⟩ := Vm.findClass_spec hcl; exact ⟨k9, h9⟩) (fun z hz => by
      rcases hpass z hz with h | ⟨hz0, nm, hl1, hn1⟩
      · exact Or.inl h
      · obtain ⟨c6, hc6, hcl6⟩ := Cond.classLink_spec hown hl1 e.platform hpl
        obtain ⟨a8, b8, h1, h2, h3⟩ := hn1
        cases Option.some.inj (h1.symm.trans hcl)
        cases Option.some.inj (h2.symm.trans hc6)
        exact Or.inr ⟨hz0, _, hcl6, h3⟩)
  obtain ⟨g₀, hfr⟩ := X'.frames_eq
  have hcell9 : ((T.setVm vm').setFrames (.throwing q :: below)).heap[q]? = some ce := by
    show T.heap[q]? = some ce
    rw [hT]; exact hcell
  have hend : Ended ((T.setVm vm').setFrames (.throwing q :: below)) below (.threw q) := State.frames_setFrames _ (State.cur_lt_of_frames hfr)
  refine ⟨(T.setVm vm').setFrames (.throwing q :: below), ?_, .threw q, X'.here.running, hend, Or.inr ⟨q, rfl, E, ce, locs, hx _ hT (X'.ends _).1.alike, hcell9, hv, hcl, (X'.ends _).1, (X'.ends _).2.mono hc hs, hf⟩⟩
  rw [X.pushThrowing_eq]
  exact st
/-- a thing of a world lies in the heap -/
theorem vx_lt {D : va_G} {cl : List vw_C} {ws : va_W} {H1 : Heap} (h : va_P D cl ws H1) {k : Nat} {q : Nat × va_E} (hk : ws[k]? = some q) : q.1 < H1.size := (h k q hk).lt
end VXS
/-! ===== END ===== -/
/-! ===== BEGIN methods with a table of their own: called by a name, returning or throwing ===== -/
section VXH
/-! vx_backW, vx_callVX, vx_callSX, vx_callVW, vx_runVW, vx_runVX, vx_runSX, vx_ofWH follow the same proofs as their sisters above (Free/Laws.lean, Shelf42/LK1.lean); vx_outP calls Shelf42/NT130.lean (outThrough). -/
section
variable {l : Launch} {R : Room} {p : Program} {e : Env} {below : List Frame} {s : State} {sargs : Array Value} {y : MethodName} {len W9 : Nat}
theorem vx_backW {ws : List Cond} {rm : Room} {Pc : Array Value → State → Prop} {Qc : Array Value → State → Outcome → State → Prop} {XC : String → State → State → Prop} {mc ms : Nat} {free : Addr → Prop} {bytes : ByteArray} {maxL : Nat} {ret : Option FieldType} {hh : List (Nat × Nat × Nat × Nat)}
    (hM : vx_Met l y ws rm Pc Qc XC mc ms free) (hblind : FrameBlind Pc) (hrc : rm.cells = mc) (hrs : rm.slots = ms)
    (hframes : rm.frames + 1 ≤ R.frames) (hlocals : W9 + (maxL + 11) + rm.locals ≤ R.locals)
    (hws : ∀ w ∈ ws, ∀ a' U, s.WarmedH U.vm → w.before a' U = true) (hcode : Cond.codeWith y bytes maxL ret hh ∈ ws) (hinit : ∀ a' U, s.WarmedH U.vm → (Cond.initialized y.cls).before a' U = true) :
    vx_Back l R p e below s sargs y len W9 (PreOf R mc ms Pc) (PostOf Qc mc ms free) (vx_Post XC mc ms free) := by
  intro m meth c A g ig mk a X hg hsize hdg hW hn hp
  have h1 : (headSpec ws rm).pre.before a A.U = true := atoms_intro fun w hw => hws w hw _ _ X.warmed
  have h2 : (Cond.codeWith y bytes maxL ret hh).before a A.U = true := hws _ hcode _ _ X.warmed
  have h3 : (Cond.initialized y.cls).before a A.U = true := hinit _ _ X.warmed
  have h4 : A.cells + (headSpec ws rm).room.cells ≤ R.cells := by rw [show (headSpec ws rm).room.cells = mc from hrc]; exact hp.1
  have h5 : A.slots + (headSpec ws rm).room.slots ≤ R.slots := by rw [show (headSpec ws rm).room.slots = ms from hrs]; exact hp.2.1
  have hPc : Pc a (A.U.calling g mk a) := hblind _ _ _ _ hp.2.2
  obtain ⟨U, Ls, c0, s0⟩ := A
  dsimp only [Pt.U, Pt.locs, Pt.cells, Pt.slots] at h1 h2 h3 h4 h5 X hn hPc ⊢
  obtain ⟨m9, methY, cY, hn9, hmY, hcY, -, hlY, -⟩ := Cond.codeWith_spec h2
  cases Option.some.inj (hn9.symm.trans hn)
  obtain ⟨kY, hkY, -⟩ := className_of_methodNamed hn
  have hinitY : kY.init = .initialized := Cond.initialized_spec (findClass_of_methodNamed hn) hkY h3
  have h : At U g.method c below := by rw [hg]; exact X.here
  have hlocals9 : W9 + (maxL + 11) + (headSpec ws rm).room.locals ≤ R.locals := hlocals
  have happ : (headSpec ws rm).appliesLoose y e.platform (U.calling g mk a) = true :=
    Spec.appliesLoose_calling (g := g) h hdg hn hkY hinitY
      (X.room_calling (g := g) (R' := (headSpec ws rm).room) hsize hmY hcY hframes (by rw [hlY]; omega) h4 h5) h1
  obtain ⟨mid, hmid⟩ := h.above
  have hfr : (U.setTop g).frames = (.java g :: mid) ++ below := by rw [State.frames_setTop' g h.top, hmid]; rfl
  obtain ⟨o, s₂, hsteps, -, hend, hq⟩ := Steps.callFree hM p X.admits X.cas X.clock (acts := []) hfr happ hPc trivial
  have hq' : vx_Q Qc XC mc ms free a (U.calling g mk a) o s₂ := hq
  rw [State.frames_setTop' g h.top] at hend
  obtain ⟨g₀, hg0⟩ := Option.isSome_iff_exists.mp h.top
  obtain ⟨r, hr⟩ := State.topJava?_eq_some.mp hg0
  have hr' : (({ U with heap := s₂.heap, slotsUsed := s₂.slotsUsed } : State).setVm s₂.vm).frames = .java g₀ :: r := hr
  rcases hq' with ⟨hqc, L, hfe, hL⟩ | ⟨q, rfl, E, ce, L, hx, hce, hcv, hcl, hW₂, hsm, hL⟩
  · obtain ⟨⟨v, rfl⟩, hW₂, e2, q2, q3, q4, q5, q6⟩ := id hfe
    have e3 : s₂ = ({ (U.calling g mk a).setFrames s₂.frames with heap := s₂.heap, slotsUsed := s₂.slotsUsed } : State).setVm s₂.vm := by
      have : s₂ = ({ s₂ with vm := (U.calling g mk a).vm } : State).setVm s₂.vm := rfl
      rw [e2] at this
      exact this
    obtain ⟨c₂, i₂, len₂, hc₂, hd₂, hf₂⟩ := hend
    have hW' : U.WarmedH s₂.vm := hW₂
    have hcc : c₂ = c := by
      have h1 : s₂.code? g.method = U.code? g.method := by
        rw [State.code?_eq, State.code?_eq, hW'.alike.method?]
      exact Option.some.inj (hc₂.symm.trans (h1.trans h.code))
    subst hcc
    have hlen : len₂ = len := by rw [hdg] at hd₂; cases hd₂; rfl
    subst hlen
    have hs₂ : s₂ = (({ U with heap := s₂.heap, slotsUsed := s₂.slotsUsed } : State).setVm s₂.vm).setTop { g with pc := g.pc + len₂, stack := v.toList ++ g.stack } := by
      refine e3.trans ?_
      rw [hf₂, State.calling_eq h.top, State.setFrames_setFrames, State.setTop_of_frames _ hr', hr]
      rfl
    have hsame : U.sameButNew ({ U with heap := s₂.heap, slotsUsed := s₂.slotsUsed } : State) L mc ms := by
      refine ⟨?_, q2, q3, q4, q5, q6⟩
      obtain ⟨t, ht, -⟩ := State.frames_cons hr
      show ({ U with heap := s₂.heap, slotsUsed := s₂.slotsUsed } : State) = { U.setFrames U.frames with heap := s₂.heap, slotsUsed := s₂.slotsUsed }
      rw [State.setFrames_self ht]
    subst hg
    refine Or.inl ⟨v, ⟨(({ U with heap := s₂.heap, slotsUsed := s₂.slotsUsed } : State).setVm s₂.vm), Ls ++ L, c0 + mc, s0 + ms⟩,
      ⟨X.admits, X.cas, X.clock, X.frames, X.room, X.hears, X.method, X.code, (X.here.setHeapUsed s₂.heap s₂.slotsUsed).setVm hW'.alike, X.tail, State.WarmedH.trans X.warmed hW', X.limits, X.bytes, X.same.trans (hsame.setVm s.vm)⟩,
      ⟨g, mk, s₂, L, rfl, rfl, hqc, rfl, hL, rfl, rfl⟩, ?_⟩
    show Steps p.tables e below _ ((({ U with heap := s₂.heap, slotsUsed := s₂.slotsUsed } : State).setVm s₂.vm).setTop { g with pc := g.pc + len₂, stack := v.toList ++ g.stack })
    rw [← hs₂]
    exact hsteps
  · obtain ⟨e2, q2, q3, q4, q5, q6⟩ := id hsm
    have e3 : s₂ = ({ (U.calling g mk a).setFrames s₂.frames with heap := s₂.heap, slotsUsed := s₂.slotsUsed } : State).setVm s₂.vm := by
      have : s₂ = ({ s₂ with vm := (U.calling g mk a).vm } : State).setVm s₂.vm := rfl
      rw [e2] at this
      exact this
    have hf₂ : s₂.frames = .throwing q :: .java g :: U.frames.tail := hend
    have hW' : U.WarmedH s₂.vm := hW₂
    have hs₂ : s₂ = ((({ U with heap := s₂.heap, slotsUsed := s₂.slotsUsed } : State).setVm s₂.vm).setTop g).pushFrame (.throwing q) := by
      refine e3.trans ?_
      rw [hf₂, State.calling_eq h.top, State.setFrames_setFrames, State.pushFrame, State.frames_setTop _ hr', State.setTop_of_frames _ hr', State.setFrames_setFrames, hr]
      rfl
    have hsame : U.sameButNew ({ U with heap := s₂.heap, slotsUsed := s₂.slotsUsed } : State) L mc ms := by
      refine ⟨?_, q2, q3, q4, q5, q6⟩
      obtain ⟨t, ht, -⟩ := State.frames_cons hr
      show ({ U with heap := s₂.heap, slotsUsed := s₂.slotsUsed } : State) = { U.setFrames U.frames with heap := s₂.heap, slotsUsed := s₂.slotsUsed }
      rw [State.setFrames_self ht]
    subst hg
    refine Or.inr ⟨q, ⟨(({ U with heap := s₂.heap, slotsUsed := s₂.slotsUsed } : State).setVm s₂.vm), Ls ++ L, c0 + mc, s0 + ms⟩,
      ⟨X.admits, X.cas, X.clock, X.frames, X.room, X.hears, X.method, X.code, (X.here.setHeapUsed s₂.heap s₂.slotsUsed).setVm hW'.alike, X.tail, State.WarmedH.trans X.warmed hW', X.limits, X.bytes, X.same.trans (hsame.setVm s.vm)⟩,
      ⟨g, mk, s₂, L, E, ce, rfl, rfl, hx, hce, hcv, hcl, rfl, hL, rfl, rfl⟩, ?_⟩
    show Steps p.tables e below _ (((({ U with heap := s₂.heap, slotsUsed := s₂.slotsUsed } : State).setVm s₂.vm).setTop g).pushFrame (.throwing q))
    rw [← hs₂]
    exact hsteps
end
variable {p : Program} {l : Launch} {e : Env} {R : Room} {s : State} {m : MethodId} {args : Array Value} {below : List Frame} {meth : Method} {c : Code} {T : State} {H : Heap} {locs : List Loc} {cells slots : Nat}
theorem vx_callVX (X : Stand p l e R s m args below meth c T locs cells slots) (hexec : p.tables.exec = Jvm.exec) {own C : String} {index : Nat} {y : MethodName} {bytes : ByteArray} {maxL : Nat} {ret : Option FieldType} {hh : List (Nat × Nat × Nat × Nat)}
    (hown : s.vm.findClass own = some m.cls) (hlink : (Cond.methodLink own index y).before args s = true) (hinst : (Cond.instanceMethod y).before args s = true) (hsel : (Cond.selects C y y).before args s = true)
    (hcode : (Cond.codeWith y bytes maxL ret hh).before args s = true) (hy : y.cls ≠ "java/lang/invoke/MethodHandle" ∧ y.cls ≠ "java/lang/invoke/VarHandle")
    {W9 : Nat} {Pre : Pt → Array Value → Prop} {Post : Pt → Array Value → Option Value → Pt → Prop} {PostX : Pt → Array Value → Addr → Pt → Prop} (hK : vx_Back l R p e below s args y 3 W9 Pre Post PostX)
    {b : Addr} {cellB : Cell} (hcell : T.heap[b]? = some cellB) (hobj : cellB.vm.isStatics = false) (hcls : s.vm.findClass C = some cellB.cls)
    {g : JFrame} (hg : g.method = m) (hsize : g.locals.size = c.maxLocals) {argsL rest : List Value} (hlen : ∀ sig, parseMethodDescriptor y.desc = some sig → argsL.length = sig.parameters.length)
    (hstack : g.stack = argsL.reverse ++ .ref b :: rest) (hW : 2 * g.monitorRoom + (rest.map fun v => v.category).sum ≤ W9) (hdg : decode c.code g.pc = .ok (.invokevirtual index, 3))
    (hpre : ∀ vm₁, s.WarmedH vm₁ → Pre ⟨T.setVm vm₁, locs, cells, slots⟩ (Value.ref b :: argsL).toArray) :
    (∃ (v : Option Value) (vm₁ : Vm) (B : Pt), s.WarmedH vm₁ ∧ Stand p l e R s m args below meth c B.U B.locs B.cells B.slots ∧ Post ⟨T.setVm vm₁, locs, cells, slots⟩ (Value.ref b :: argsL).toArray v B ∧
      ∀ target, Steps p.tables e below (B.U.setTop { g with pc := g.pc + 3, stack := v.toList ++ rest }) target → Steps p.tables e below (T.setTop g) target) ∨
    (∃ (q : Addr) (vm₁ : Vm) (B : Pt), s.WarmedH vm₁ ∧ Stand p l e R s m args below meth c B.U B.locs B.cells B.slots ∧ PostX ⟨T.setVm vm₁, locs, cells, slots⟩ (Value.ref b :: argsL).toArray q B ∧
      Steps p.tables e below (T.setTop g) ((B.U.setTop { g with stack := rest }).pushFrame (.throwing q))) := by
  obtain ⟨mk, methM, hnamed, hmethM, hstM, habM⟩ := Cond.instanceMethod_spec hinst
  obtain ⟨m8, methM', cM, hn8, hmethM', -, -, -, -, -, -, hsigM⟩ := Cond.codeWith_spec hcode
  cases Option.some.inj (hn8.symm.trans hnamed)
  cases hmethM.symm.trans hmethM'
  obtain ⟨c2, r2, m2, q1, q2, q3, q4, kP, hkP, hkPi⟩ := Cond.selects_spec hsel
  cases hcls.symm.trans q1
  cases (State.methodFound?_of_named hnamed hy).symm.trans q2
  cases hnamed.symm.trans q3
  have hselP : selectMethod e.platform s.vm cellB.cls mk = .method mk := by rw [Launch.admits_selectMethod X.admits]; exact q4
  obtain ⟨vm₁, X₁, hstep₁⟩ := X.invokevirtual hexec hown hlink hnamed hmethM hstM hkP hkPi hy (a := b) (cell := cellB) hcell
    (fun z h => by rw [h] at hobj; cases hobj) hselP hmethM habM hkP hkPi (g := g) hg (argsL := argsL) (rest := rest) (hlen _ hsigM) hstack hdg
  rcases hK m meth c ⟨T.setVm vm₁, locs, cells, slots⟩ { g with stack := rest } (.invokevirtual index) mk (Value.ref b :: argsL).toArray X₁ hg hsize hdg hW (X₁.named hnamed) (hpre vm₁ X₁.warmed) with ⟨v, B, X', hpost, hsteps⟩ | ⟨q, B, X', hpost, hsteps⟩
  · exact Or.inl ⟨v, vm₁, B, X₁.warmed, X', hpost, fun target h => hstep₁ _ fun acts => by rw [doInvoke_state]; exact hsteps.trans h⟩
  · exact Or.inr ⟨q, vm₁, B, X₁.warmed, X', hpost, hstep₁ _ fun acts => by rw [doInvoke_state]; exact hsteps⟩
theorem vx_callSX (X : Stand p l e R s m args below meth c T locs cells slots) (hexec : p.tables.exec = Jvm.exec) {own : String} {index : Nat} {y : MethodName} {bytes : ByteArray} {maxL : Nat} {ret : Option FieldType} {hh : List (Nat × Nat × Nat × Nat)}
    (hown : s.vm.findClass own = some m.cls) (hlink : (Cond.methodLink own index y).before args s = true) (hstat : (Cond.static y).before args s = true) (hinit : (Cond.initialized y.cls).before args s = true)
    (hcode : (Cond.codeWith y bytes maxL ret hh).before args s = true) (hy : y.cls ≠ "java/lang/invoke/MethodHandle" ∧ y.cls ≠ "java/lang/invoke/VarHandle")
    {W9 : Nat} {Pre : Pt → Array Value → Prop} {Post : Pt → Array Value → Option Value → Pt → Prop} {PostX : Pt → Array Value → Addr → Pt → Prop} (hK : vx_Back l R p e below s args y 3 W9 Pre Post PostX)
    {g : JFrame} (hg : g.method = m) (hsize : g.locals.size = c.maxLocals) {argsL rest : List Value} (hlen : ∀ sig, parseMethodDescriptor y.desc = some sig → argsL.length = sig.parameters.length)
    (hstack : g.stack = argsL.reverse ++ rest) (hW : 2 * g.monitorRoom + (rest.map fun v => v.category).sum ≤ W9) (hdg : decode c.code g.pc = .ok (.invokestatic index, 3))
    (hpre : ∀ vm₁, s.WarmedH vm₁ → Pre ⟨T.setVm vm₁, locs, cells, slots⟩ argsL.toArray) :
    (∃ (v : Option Value) (vm₁ : Vm) (B : Pt), s.WarmedH vm₁ ∧ Stand p l e R s m args below meth c B.U B.locs B.cells B.slots ∧ Post ⟨T.setVm vm₁, locs, cells, slots⟩ argsL.toArray v B ∧
      ∀ target, Steps p.tables e below (B.U.setTop { g with pc := g.pc + 3, stack := v.toList ++ rest }) target → Steps p.tables e below (T.setTop g) target) ∨
    (∃ (q : Addr) (vm₁ : Vm) (B : Pt), s.WarmedH vm₁ ∧ Stand p l e R s m args below meth c B.U B.locs B.cells B.slots ∧ PostX ⟨T.setVm vm₁, locs, cells, slots⟩ argsL.toArray q B ∧
      Steps p.tables e below (T.setTop g) ((B.U.setTop { g with stack := rest }).pushFrame (.throwing q))) := by
  obtain ⟨mk, methM, cM, hnamed, hmethM, -, -, -, -, -, -, hsigM⟩ := Cond.codeWith_spec hcode
  have hstatic : methM.isStatic = true := Cond.static_spec hnamed hmethM hstat
  obtain ⟨kP, hkP, -⟩ := className_of_methodNamed hnamed
  have hinitP : kP.init = .initialized := Cond.initialized_spec (findClass_of_methodNamed hnamed) hkP hinit
  obtain ⟨vm₁, X₁, hstep₁⟩ := X.invokestatic hexec hown hlink hnamed hmethM hstatic hkP hinitP hy (g := g) hg (argsL := argsL) (rest := rest) (hlen _ hsigM) hstack hdg
  rcases hK m meth c ⟨T.setVm vm₁, locs, cells, slots⟩ { g with stack := rest } (.invokestatic index) mk argsL.toArray X₁ hg hsize hdg hW (X₁.named hnamed) (hpre vm₁ X₁.warmed) with ⟨v, B, X', hpost, hsteps⟩ | ⟨q, B, X', hpost, hsteps⟩
  · exact Or.inl ⟨v, vm₁, B, X₁.warmed, X', hpost, fun target h => hstep₁ _ fun acts => by rw [doInvoke_state]; exact hsteps.trans h⟩
  · exact Or.inr ⟨q, vm₁, B, X₁.warmed, X', hpost, hstep₁ _ fun acts => by rw [doInvoke_state]; exact hsteps⟩
theorem vx_callVW (X : Stand p l e R s m args below meth c T locs cells slots) (hexec : p.tables.exec = Jvm.exec) {own C : String} {index : Nat} {y : MethodName} {bytes : ByteArray} {maxL : Nat} {ret : Option FieldType} {hh : List (Nat × Nat × Nat × Nat)}
    (hown : s.vm.findClass own = some m.cls) (hlink : (Cond.methodLink own index y).before args s = true) (hinst : (Cond.instanceMethod y).before args s = true) (hsel : (Cond.selects C y y).before args s = true)
    (hcode : (Cond.codeWith y bytes maxL ret hh).before args s = true) (hy : y.cls ≠ "java/lang/invoke/MethodHandle" ∧ y.cls ≠ "java/lang/invoke/VarHandle")
    {W9 : Nat} {Pre : Pt → Array Value → Prop} {Post : Pt → Array Value → Option Value → Pt → Prop} (hK : Back l R p e below s args y 3 W9 Pre Post)
    {b : Addr} {cellB : Cell} (hcell : T.heap[b]? = some cellB) (hobj : cellB.vm.isStatics = false) (hcls : s.vm.findClass C = some cellB.cls)
    {g : JFrame} (hg : g.method = m) (hsize : g.locals.size = c.maxLocals) {argsL rest : List Value} (hlen : ∀ sig, parseMethodDescriptor y.desc = some sig → argsL.length = sig.parameters.length)
    (hstack : g.stack = argsL.reverse ++ .ref b :: rest) (hW : 2 * g.monitorRoom + (rest.map fun v => v.category).sum ≤ W9) (hdg : decode c.code g.pc = .ok (.invokevirtual index, 3))
    (hpre : ∀ vm₁, s.WarmedH vm₁ → Pre ⟨T.setVm vm₁, locs, cells, slots⟩ (Value.ref b :: argsL).toArray) :
    ∃ (v : Option Value) (vm₁ : Vm) (B : Pt), s.WarmedH vm₁ ∧ Stand p l e R s m args below meth c B.U B.locs B.cells B.slots ∧ Post ⟨T.setVm vm₁, locs, cells, slots⟩ (Value.ref b :: argsL).toArray v B ∧
      ∀ target, Steps p.tables e below (B.U.setTop { g with pc := g.pc + 3, stack := v.toList ++ rest }) target → Steps p.tables e below (T.setTop g) target := by
  obtain ⟨mk, methM, hnamed, hmethM, hstM, habM⟩ := Cond.instanceMethod_spec hinst
  obtain ⟨m8, methM', cM, hn8, hmethM', -, -, -, -, -, -, hsigM⟩ := Cond.codeWith_spec hcode
  cases Option.some.inj (hn8.symm.trans hnamed)
  cases hmethM.symm.trans hmethM'
  obtain ⟨c2, r2, m2, q1, q2, q3, q4, kP, hkP, hkPi⟩ := Cond.selects_spec hsel
  cases hcls.symm.trans q1
  cases (State.methodFound?_of_named hnamed hy).symm.trans q2
  cases hnamed.symm.trans q3
  have hselP : selectMethod e.platform s.vm cellB.cls mk = .method mk := by rw [Launch.admits_selectMethod X.admits]; exact q4
  obtain ⟨vm₁, X₁, hstep₁⟩ := X.invokevirtual hexec hown hlink hnamed hmethM hstM hkP hkPi hy (a := b) (cell := cellB) hcell
    (fun z h => by rw [h] at hobj; cases hobj) hselP hmethM habM hkP hkPi (g := g) hg (argsL := argsL) (rest := rest) (hlen _ hsigM) hstack hdg
  obtain ⟨v, B, X', hpost, hsteps⟩ := hK m meth c ⟨T.setVm vm₁, locs, cells, slots⟩ { g with stack := rest } (.invokevirtual index) mk (Value.ref b :: argsL).toArray X₁ hg hsize hdg hW (X₁.named hnamed) (hpre vm₁ X₁.warmed)
  exact ⟨v, vm₁, B, X₁.warmed, X', hpost, fun target h => hstep₁ _ fun acts => by rw [doInvoke_state]; exact hsteps.trans h⟩
abbrev vx_CVW (R : Room) (s : State) (args : Array Value) (own C : String) (index : Nat) (y : MethodName) (bytes : ByteArray) (maxL : Nat) (ret : Option FieldType) (hh : List (Nat × Nat × Nat × Nat)) (ws : List Cond) (rm : Room) (mc ms n : Nat) : Prop :=
  (rm.cells = mc ∧ rm.slots = ms ∧ rm.frames + 1 ≤ R.frames ∧ 8 + (maxL + 11) + rm.locals ≤ R.locals ∧ (∀ w ∈ ws, ∀ (a' : Array Value) (U : State), s.WarmedH U.vm → w.before a' U = true) ∧ Cond.codeWith y bytes maxL ret hh ∈ ws) ∧
  (Cond.codeWith y bytes maxL ret hh).before args s = true ∧ (Cond.initialized y.cls).before args s = true ∧ (y.cls ≠ "java/lang/invoke/MethodHandle" ∧ y.cls ≠ "java/lang/invoke/VarHandle") ∧
  (∀ sig, parseMethodDescriptor y.desc = some sig → n = sig.parameters.length) ∧ (Cond.methodLink own index y).before args s = true ∧ (Cond.instanceMethod y).before args s = true ∧ (Cond.selects C y y).before args s = true
theorem vx_cwVW {own C : String} {index maxL mc ms : Nat} {y : MethodName} {bytes : ByteArray} {ret : Option FieldType} {hh : List (Nat × Nat × Nat × Nat)} {Ts ws ws' : List Cond} {rm : Room} (n : Nat) (ht : ∀ w ∈ Ts, w.before args s = true) (hT : GoodIn Ts (wsV own index C y ws)) (hw : ws = Cond.codeWith y bytes maxL ret hh :: ws') (hrc : rm.cells = mc) (hrs : rm.slots = ms)
    (hd : y.cls = C ∧ y.cls ≠ "java/lang/invoke/MethodHandle" ∧ y.cls ≠ "java/lang/invoke/VarHandle" ∧ (parseMethodDescriptor y.desc).map (fun d => d.parameters.length) = some n) (hR : rm.frames + 1 ≤ R.frames ∧ 8 + (maxL + 11) + rm.locals ≤ R.locals) :
    vx_CVW R s args own C index y bytes maxL ret hh ws rm mc ms n := by
  obtain ⟨hC, hd⟩ := hd
  subst hC
  have ok : ∀ w ∈ wsV own index y.cls y ws, w.before args s = true := fun w h => ht w (hT w h).1
  have hG : GoodIn Ts ws := fun w h => hT w (by unfold wsV; exact List.mem_append_right _ h)
  have hc : Cond.codeWith y bytes maxL ret hh ∈ ws := by rw [hw]; exact List.mem_cons_self
  refine ⟨⟨hrc, hrs, hR.1, hR.2, pay_in ht hG, hc⟩, ht _ (hG _ hc).1, ok _ (by simp [wsV]), ⟨hd.1, hd.2.1⟩, fun sig h => ?_, ok _ (by simp [wsV]), ok _ (by simp [wsV]), ok _ (by simp [wsV])⟩
  have h2 := hd.2.2
  rw [h] at h2
  exact (Option.some.inj h2).symm
theorem vx_runVW {y : MethodName} {bytes cc : ByteArray} {maxL nL mc ms n index : Nat} {ret : Option FieldType} {hh : List (Nat × Nat × Nat × Nat)} {ws : List Cond} {rm : Room} {Pc : Array Value → State → Prop} {Qc : Array Value → State → Outcome → State → Prop} {free : Addr → Prop} {Ts : List Cond} {own C : String} {b : Addr} {As rest : List Value} {g : JFrame}
    (S : CallFix p m c cc nL s args Ts own) (hM : Met l y ws rm Pc Qc mc ms free) (cw : vx_CVW R s args own C index y bytes maxL ret hh ws rm mc ms n) (hp : PreV s H C b Pc As)
    (hg : g.method = m) (hn : As.length = n) (hsize : g.locals.size = nL) (hstack : g.stack = As.reverse ++ .ref b :: rest) (hW : 2 * g.monitorRoom + (rest.map fun v => v.category).sum ≤ 8) (hdg : decode cc g.pc = .ok (.invokevirtual index, 3)) (hf : cells + mc ≤ R.cells ∧ slots + ms ≤ R.slots) :
    va_Run p l e R s m args below meth c H locs cells slots mc ms g rest (Qc (Value.ref b :: As).toArray) free := by
  obtain ⟨⟨hrc, hrs, hfr, hlo, hws, hcw⟩, hcode, hini, hy, hlen, hl, hin, hse⟩ := cw
  have hK : Back l R p e below s args y 3 8 (PreOf R mc ms Pc) (PostOf Qc mc ms free) := va_backW (hh := hh) (bytes := bytes) (maxL := maxL) (ret := ret) hM hp.1 hrc hrs hfr hlo hws hcw (fun a' U hW => word_at hW (Or.inl (by first | rfl | simp [Cond.onTables, Cond.keeps, Cond.steady])) hini)
  obtain ⟨hx, hb, hml, ho, -⟩ := S
  obtain ⟨-, ⟨cellB, hcB, hoB, hclB⟩, hPc⟩ := hp
  intro T hT X
  obtain ⟨v, vm₁, ⟨U', l2, c2, s2⟩, hW₁, X', ⟨g', mk, t, L, e1, e2, hq, h1, hL, h2, h3⟩, st⟩ := vx_callVW X hx (C := C) (hh := hh) (bytes := bytes) (maxL := maxL) (ret := ret) ho hl hin hse hcode hy hK (by rw [hT]; exact hcB) hoB hclB hg (hsize.trans hml.symm) (argsL := As) (rest := rest) (fun sig h => hn.trans (hlen sig h)) hstack hW (by rw [hb]; exact hdg)
    (fun vm₁ hW₁ => ⟨hf.1, hf.2, hPc (T.setVm vm₁) hT hW₁⟩)
  dsimp only [Pt.U, Pt.locs, Pt.cells, Pt.slots] at X' e1 e2 h1 h2 h3 st
  subst h1; subst h2; subst h3
  exact ⟨v, (T.setVm vm₁).calling g' mk (Value.ref b :: As).toArray, t, U', L, hT, X', hL, e1, e2, hq, st⟩
section
variable {y : MethodName} {bytes cc : ByteArray} {maxL nL mc ms n index : Nat} {ret : Option FieldType} {ws : List Cond} {rm : Room} {Pc : Array Value → State → Prop} {Qc : Array Value → State → Outcome → State → Prop} {XC : String → State → State → Prop} {free : Addr → Prop} {Ts : List Cond} {own C : String} {b : Addr} {As rest : List Value} {g : JFrame}
theorem vx_runVX {hh : List (Nat × Nat × Nat × Nat)} (S : CallFix p m c cc nL s args Ts own) (hM : vx_Met l y ws rm Pc Qc XC mc ms free) (cw : vx_CVW R s args own C index y bytes maxL ret hh ws rm mc ms n) (hp : PreV s H C b Pc As)
    (hg : g.method = m) (hn : As.length = n) (hsize : g.locals.size = nL) (hstack : g.stack = As.reverse ++ .ref b :: rest) (hW : 2 * g.monitorRoom + (rest.map fun v => v.category).sum ≤ 8) (hdg : decode cc g.pc = .ok (.invokevirtual index, 3)) (hf : cells + mc ≤ R.cells ∧ slots + ms ≤ R.slots) :
    vx_Run p l e R s m args below meth c H locs cells slots mc ms g rest (Qc (Value.ref b :: As).toArray) XC free := by
  obtain ⟨⟨hrc, hrs, hfr, hlo, hws, hcw⟩, hcode, hini, hy, hlen, hl, hin, hse⟩ := cw
  have hK : vx_Back l R p e below s args y 3 8 (PreOf R mc ms Pc) (PostOf Qc mc ms free) (vx_Post XC mc ms free) := vx_backW (hh := hh) (bytes := bytes) (maxL := maxL) (ret := ret) hM hp.1 hrc hrs hfr hlo hws hcw (fun a' U hW => word_at hW (Or.inl (by first | rfl | simp [Cond.onTables, Cond.keeps, Cond.steady])) hini)
  obtain ⟨hx, hb, hml, ho, -⟩ := S
  obtain ⟨-, ⟨cellB, hcB, hoB, hclB⟩, hPc⟩ := hp
  intro T hT X
  rcases vx_callVX X hx (C := C) (hh := hh) (bytes := bytes) (maxL := maxL) (ret := ret) ho hl hin hse hcode hy hK (by rw [hT]; exact hcB) hoB hclB hg (hsize.trans hml.symm) (argsL := As) (rest := rest) (fun sig h => hn.trans (hlen sig h)) hstack hW (by rw [hb]; exact hdg)
    (fun vm₁ hW₁ => ⟨hf.1, hf.2, hPc (T.setVm vm₁) hT hW₁⟩) with ⟨v, vm₁, ⟨U', l2, c2, s2⟩, hW₁, X', ⟨g', mk, t, L, e1, e2, hq, h1, hL, h2, h3⟩, st⟩ | ⟨q, vm₁, ⟨U', l2, c2, s2⟩, hW₁, X', ⟨g', mk, t, L, E, ce, e1, e2, hq, hce, hcv, hcl, h1, hL, h2, h3⟩, st⟩
  · dsimp only [Pt.U, Pt.locs, Pt.cells, Pt.slots] at X' e1 e2 h1 h2 h3 st
    subst h1; subst h2; subst h3
    exact Or.inl ⟨v, (T.setVm vm₁).calling g' mk (Value.ref b :: As).toArray, t, U', L, hT, X', hL, e1, e2, hq, st⟩
  · dsimp only [Pt.U, Pt.locs, Pt.cells, Pt.slots] at X' e1 e2 h1 h2 h3 st hcl
    subst h1; subst h2; subst h3
    exact Or.inr ⟨q, (T.setVm vm₁).calling g' mk (Value.ref b :: As).toArray, t, U', L, E, ce, hT, X', hL, e1, e2, hq, hce, hcv, vx_cls hW₁ hcl, st⟩
theorem vx_runSX {hh : List (Nat × Nat × Nat × Nat)} (S : CallFix p m c cc nL s args Ts own) (hM : vx_Met l y ws rm Pc Qc XC mc ms free) (cw : vx_CSW R s args own index y bytes maxL ret hh ws rm mc ms n) (hp : PreS s H Pc As)
    (hg : g.method = m) (hn : As.length = n) (hsize : g.locals.size = nL) (hstack : g.stack = As.reverse ++ rest) (hW : 2 * g.monitorRoom + (rest.map fun v => v.category).sum ≤ 8) (hdg : decode cc g.pc = .ok (.invokestatic index, 3)) (hf : cells + mc ≤ R.cells ∧ slots + ms ≤ R.slots) :
    vx_Run p l e R s m args below meth c H locs cells slots mc ms g rest (Qc As.toArray) XC free := by
  obtain ⟨⟨hrc, hrs, hfr, hlo, hws, hcw⟩, hcode, hini, hy, hlen, hl, hstt⟩ := cw
  have hK : vx_Back l R p e below s args y 3 8 (PreOf R mc ms Pc) (PostOf Qc mc ms free) (vx_Post XC mc ms free) := vx_backW (hh := hh) (bytes := bytes) (maxL := maxL) (ret := ret) hM hp.1 hrc hrs hfr hlo hws hcw (fun a' U hW => word_at hW (Or.inl (by first | rfl | simp [Cond.onTables, Cond.keeps, Cond.steady])) hini)
  obtain ⟨hx, hb, hml, ho, -⟩ := S
  intro T hT X
  rcases vx_callSX X hx (hh := hh) (bytes := bytes) (maxL := maxL) (ret := ret) ho hl hstt hini hcode hy hK hg (hsize.trans hml.symm) (argsL := As) (rest := rest) (fun sig h => hn.trans (hlen sig h)) hstack hW (by rw [hb]; exact hdg)
    (fun vm₁ hW₁ => ⟨hf.1, hf.2, hp.2 (T.setVm vm₁) hT hW₁⟩) with ⟨v, vm₁, ⟨U', l2, c2, s2⟩, hW₁, X', ⟨g', mk, t, L, e1, e2, hq, h1, hL, h2, h3⟩, st⟩ | ⟨q, vm₁, ⟨U', l2, c2, s2⟩, hW₁, X', ⟨g', mk, t, L, E, ce, e1, e2, hq, hce, hcv, hcl, h1, hL, h2, h3⟩, st⟩
  · dsimp only [Pt.U, Pt.locs, Pt.cells, Pt.slots] at X' e1 e2 h1 h2 h3 st
    subst h1; subst h2; subst h3
    exact Or.inl ⟨v, (T.setVm vm₁).calling g' mk As.toArray, t, U', L, hT, X', hL, e1, e2, hq, st⟩
  · dsimp only [Pt.U, Pt.locs, Pt.cells, Pt.slots] at X' e1 e2 h1 h2 h3 st hcl
    subst h1; subst h2; subst h3
    exact Or.inr ⟨q, (T.setVm vm₁).calling g' mk As.toArray, t, U', L, E, ce, hT, X', hL, e1, e2, hq, hce, hcv, vx_cls hW₁ hcl, st⟩
end
end VXH
theorem vx_ofWH {l : Launch} {y : MethodName} {ws ws' : List Cond} {rm : Room} {Pc : Array Value → State → Prop} {Qc : Array Value → State → Outcome → State → Prop} {XC : String → State → State → Prop} {mc ms : Nat} {free : Addr → Prop} {cc : ByteArray} {maxL : Nat} {ret : Option FieldType} {hh : List (Nat × Nat × Nat × Nat)}
    (hy : plainName y.cls = true) (hw : ws = Cond.codeWith y cc maxL ret hh :: ws')
    (body : ∀ p e s m args below meth c s₁, BodyLoose p l y (headSpec ws rm) cc maxL ret e s m args below meth c s₁ → c.maxLocals = maxL → Pc args s →
      W p l e (headSpec ws rm).room s m args below meth c s.heap [] 0 0 (vx_MQ below Qc XC args s mc ms free) (entryFrame m args maxL)) : vx_Met l y ws rm Pc Qc XC mc ms free := by
  refine MetFree.of_bodyS (code := cc) (maxLocals := maxL) (ret := ret) hy ?_ ?_
  · intro args s m h hn
    obtain ⟨m9, meth, c, hn9, h1, h2, h3, h4, -, h5, h6, -⟩ := Cond.codeWith_spec (atoms_spec (ws := ws) h _ (by rw [hw]; exact List.mem_cons_self))
    cases hn.symm.trans hn9
    exact ⟨meth, c, h1, h2, h3, h4, h5, h6⟩
  · intro p e s m args below meth c s₁ B hml hP _
    have hh0 : s₁.heap = s.heap := by rw [B.state]; rfl
    obtain ⟨t, a1, o, b1, b2, b3⟩ := body p e s m args below meth c s₁ B hml hP s₁ hh0 (Stand.of_body B)
    exact ⟨t, o, a1, b1, b2, b3⟩
/-! ===== END ===== -/
end
section
-- ===== PART A: goes FIRST, ahead of the names: the tables' words, and 'selects' of the private methods out of them =====
/-- a private method of a class that the tables say can be made, by its rows of tables_1 -/
def lw_okq (q : MethodName × Nat) : Prop := (q.1.cls ≠ "java/lang/invoke/MethodHandle" ∧ q.1.cls ≠ "java/lang/invoke/VarHandle") ∧ Cond.instantiable q.1.cls q.2 ∈ tables_1 ∧ Cond.privateMethod q.1 ∈ tables_1 ∧ Cond.instanceMethod q.1 ∈ tables_1
theorem lw_p0 : lw_okq (⟨"AlibiWindow", "saveState", "()V"⟩, 6) := ⟨⟨by decide +kernel, by decide +kernel⟩, List.mem_of_getElem? (i := 18) (by decide +kernel), List.mem_of_getElem? (i := 191) (by decide +kernel), List.mem_of_getElem? (i := 192) (by decide +kernel)⟩
theorem lw_p1 : lw_okq (⟨"AlibiWindow", "hashNumbers", "(J)J"⟩, 6) := ⟨⟨by decide +kernel, by decide +kernel⟩, List.mem_of_getElem? (i := 18) (by decide +kernel), List.mem_of_getElem? (i := 401) (by decide +kernel), List.mem_of_getElem? (i := 402) (by decide +kernel)⟩
theorem lw_p2 : lw_okq (⟨"AlibiWindow", "checkWhat", "(II)V"⟩, 6) := ⟨⟨by decide +kernel, by decide +kernel⟩, List.mem_of_getElem? (i := 18) (by decide +kernel), List.mem_of_getElem? (i := 410) (by decide +kernel), List.mem_of_getElem? (i := 411) (by decide +kernel)⟩
theorem lw_p3 : lw_okq (⟨"java/lang/Throwable", "fillInStackTrace", "(I)Ljava/lang/Throwable;"⟩, 6) := ⟨⟨by decide +kernel, by decide +kernel⟩, List.mem_of_getElem? (i := 452) (by decide +kernel), List.mem_of_getElem? (i := 450) (by decide +kernel), List.mem_of_getElem? (i := 451) (by decide +kernel)⟩
theorem lw_p4 : lw_okq (⟨"AlibiWindow", "checkPlace", "(II)V"⟩, 6) := ⟨⟨by decide +kernel, by decide +kernel⟩, List.mem_of_getElem? (i := 18) (by decide +kernel), List.mem_of_getElem? (i := 490) (by decide +kernel), List.mem_of_getElem? (i := 491) (by decide +kernel)⟩
theorem lw_p5 : lw_okq (⟨"AlibiWindow", "hashProgram", "(J)J"⟩, 6) := ⟨⟨by decide +kernel, by decide +kernel⟩, List.mem_of_getElem? (i := 18) (by decide +kernel), List.mem_of_getElem? (i := 510) (by decide +kernel), List.mem_of_getElem? (i := 511) (by decide +kernel)⟩
theorem lw_p6 : lw_okq (⟨"AlibiWindow", "rehearsePlainOrder", "()V"⟩, 6) := ⟨⟨by decide +kernel, by decide +kernel⟩, List.mem_of_getElem? (i := 18) (by decide +kernel), List.mem_of_getElem? (i := 522) (by decide +kernel), List.mem_of_getElem? (i := 523) (by decide +kernel)⟩
theorem lw_p7 : lw_okq (⟨"AlibiWindow", "hashValues", "(J)J"⟩, 6) := ⟨⟨by decide +kernel, by decide +kernel⟩, List.mem_of_getElem? (i := 18) (by decide +kernel), List.mem_of_getElem? (i := 530) (by decide +kernel), List.mem_of_getElem? (i := 531) (by decide +kernel)⟩
theorem lw_p8 : lw_okq (⟨"AlibiWindow", "registerFact", "(II)I"⟩, 6) := ⟨⟨by decide +kernel, by decide +kernel⟩, List.mem_of_getElem? (i := 18) (by decide +kernel), List.mem_of_getElem? (i := 534) (by decide +kernel), List.mem_of_getElem? (i := 535) (by decide +kernel)⟩
theorem lw_p9 : lw_okq (⟨"AlibiWindow", "cellFact", "(II)I"⟩, 6) := ⟨⟨by decide +kernel, by decide +kernel⟩, List.mem_of_getElem? (i := 18) (by decide +kernel), List.mem_of_getElem? (i := 540) (by decide +kernel), List.mem_of_getElem? (i := 541) (by decide +kernel)⟩
theorem lw_p10 : lw_okq (⟨"AlibiWindow", "rehearseCycles", "(I)V"⟩, 6) := ⟨⟨by decide +kernel, by decide +kernel⟩, List.mem_of_getElem? (i := 18) (by decide +kernel), List.mem_of_getElem? (i := 545) (by decide +kernel), List.mem_of_getElem? (i := 546) (by decide +kernel)⟩
theorem lw_p11 : lw_okq (⟨"AlibiWindow", "rehearsed", "(I)I"⟩, 6) := ⟨⟨by decide +kernel, by decide +kernel⟩, List.mem_of_getElem? (i := 18) (by decide +kernel), List.mem_of_getElem? (i := 553) (by decide +kernel), List.mem_of_getElem? (i := 554) (by decide +kernel)⟩
theorem lw_p12 : lw_okq (⟨"AlibiWindow", "rehearseWindows", "()V"⟩, 6) := ⟨⟨by decide +kernel, by decide +kernel⟩, List.mem_of_getElem? (i := 18) (by decide +kernel), List.mem_of_getElem? (i := 558) (by decide +kernel), List.mem_of_getElem? (i := 559) (by decide +kernel)⟩
theorem lw_p13 : lw_okq (⟨"AlibiWindow", "putValue", "([III)I"⟩, 6) := ⟨⟨by decide +kernel, by decide +kernel⟩, List.mem_of_getElem? (i := 18) (by decide +kernel), List.mem_of_getElem? (i := 595) (by decide +kernel), List.mem_of_getElem? (i := 596) (by decide +kernel)⟩
theorem lw_p14 : lw_okq (⟨"AlibiWindow", "checkCycles", "(I)V"⟩, 6) := ⟨⟨by decide +kernel, by decide +kernel⟩, List.mem_of_getElem? (i := 18) (by decide +kernel), List.mem_of_getElem? (i := 634) (by decide +kernel), List.mem_of_getElem? (i := 635) (by decide +kernel)⟩
theorem lw_p15 : lw_okq (⟨"AlibiWindowModel", "fails", "(I)I"⟩, 20) := ⟨⟨by decide +kernel, by decide +kernel⟩, List.mem_of_getElem? (i := 757) (by decide +kernel), List.mem_of_getElem? (i := 835) (by decide +kernel), List.mem_of_getElem? (i := 836) (by decide +kernel)⟩
def lw_privs_1 : List (MethodName × Nat) := [(⟨"AlibiWindow", "saveState", "()V"⟩, 6), (⟨"AlibiWindow", "hashNumbers", "(J)J"⟩, 6), (⟨"AlibiWindow", "checkWhat", "(II)V"⟩, 6), (⟨"java/lang/Throwable", "fillInStackTrace", "(I)Ljava/lang/Throwable;"⟩, 6), (⟨"AlibiWindow", "checkPlace", "(II)V"⟩, 6), (⟨"AlibiWindow", "hashProgram", "(J)J"⟩, 6), (⟨"AlibiWindow", "rehearsePlainOrder", "()V"⟩, 6), (⟨"AlibiWindow", "hashValues", "(J)J"⟩, 6), (⟨"AlibiWindow", "registerFact", "(II)I"⟩, 6), (⟨"AlibiWindow", "cellFact", "(II)I"⟩, 6), (⟨"AlibiWindow", "rehearseCycles", "(I)V"⟩, 6), (⟨"AlibiWindow", "rehearsed", "(I)I"⟩, 6), (⟨"AlibiWindow", "rehearseWindows", "()V"⟩, 6), (⟨"AlibiWindow", "putValue", "([III)I"⟩, 6), (⟨"AlibiWindow", "checkCycles", "(I)V"⟩, 6), (⟨"AlibiWindowModel", "fails", "(I)I"⟩, 20)]
theorem lw_r1 : ∀ q ∈ lw_privs_1, lw_okq q := List.forall_mem_cons.mpr ⟨lw_p0, List.forall_mem_cons.mpr ⟨lw_p1, List.forall_mem_cons.mpr ⟨lw_p2, List.forall_mem_cons.mpr ⟨lw_p3, List.forall_mem_cons.mpr ⟨lw_p4, List.forall_mem_cons.mpr ⟨lw_p5, List.forall_mem_cons.mpr ⟨lw_p6, List.forall_mem_cons.mpr ⟨lw_p7, List.forall_mem_cons.mpr ⟨lw_p8, List.forall_mem_cons.mpr ⟨lw_p9, List.forall_mem_cons.mpr ⟨lw_p10, List.forall_mem_cons.mpr ⟨lw_p11, List.forall_mem_cons.mpr ⟨lw_p12, List.forall_mem_cons.mpr ⟨lw_p13, List.forall_mem_cons.mpr ⟨lw_p14, List.forall_mem_cons.mpr ⟨lw_p15, fun _ h => absurd h List.not_mem_nil⟩⟩⟩⟩⟩⟩⟩⟩⟩⟩⟩⟩⟩⟩⟩⟩
theorem lw_p16 : lw_okq (⟨"AlibiWindowModel", "save", "()V"⟩, 20) := ⟨⟨by decide +kernel, by decide +kernel⟩, List.mem_of_getElem? (i := 757) (by decide +kernel), List.mem_of_getElem? (i := 839) (by decide +kernel), List.mem_of_getElem? (i := 840) (by decide +kernel)⟩
theorem lw_p17 : lw_okq (⟨"AlibiWindowModel", "rule", "(I)I"⟩, 20) := ⟨⟨by decide +kernel, by decide +kernel⟩, List.mem_of_getElem? (i := 757) (by decide +kernel), List.mem_of_getElem? (i := 843) (by decide +kernel), List.mem_of_getElem? (i := 844) (by decide +kernel)⟩
theorem lw_p18 : lw_okq (⟨"AlibiWindowModel", "puts", "(II)I"⟩, 20) := ⟨⟨by decide +kernel, by decide +kernel⟩, List.mem_of_getElem? (i := 757) (by decide +kernel), List.mem_of_getElem? (i := 851) (by decide +kernel), List.mem_of_getElem? (i := 852) (by decide +kernel)⟩
theorem lw_p19 : lw_okq (⟨"AlibiWindowModel", "entries", "()I"⟩, 20) := ⟨⟨by decide +kernel, by decide +kernel⟩, List.mem_of_getElem? (i := 757) (by decide +kernel), List.mem_of_getElem? (i := 865) (by decide +kernel), List.mem_of_getElem? (i := 866) (by decide +kernel)⟩
theorem lw_p20 : lw_okq (⟨"AlibiWindowModel", "cycle", "()I"⟩, 20) := ⟨⟨by decide +kernel, by decide +kernel⟩, List.mem_of_getElem? (i := 757) (by decide +kernel), List.mem_of_getElem? (i := 877) (by decide +kernel), List.mem_of_getElem? (i := 878) (by decide +kernel)⟩
theorem lw_p21 : lw_okq (⟨"AlibiWindowModel", "of", "(II)I"⟩, 20) := ⟨⟨by decide +kernel, by decide +kernel⟩, List.mem_of_getElem? (i := 757) (by decide +kernel), List.mem_of_getElem? (i := 881) (by decide +kernel), List.mem_of_getElem? (i := 882) (by decide +kernel)⟩
theorem lw_p22 : lw_okq (⟨"AlibiWindowModel", "retire", "()V"⟩, 20) := ⟨⟨by decide +kernel, by decide +kernel⟩, List.mem_of_getElem? (i := 757) (by decide +kernel), List.mem_of_getElem? (i := 885) (by decide +kernel), List.mem_of_getElem? (i := 886) (by decide +kernel)⟩
theorem lw_p23 : lw_okq (⟨"AlibiWindowModel", "lay", "(III)V"⟩, 20) := ⟨⟨by decide +kernel, by decide +kernel⟩, List.mem_of_getElem? (i := 757) (by decide +kernel), List.mem_of_getElem? (i := 889) (by decide +kernel), List.mem_of_getElem? (i := 890) (by decide +kernel)⟩
theorem lw_p24 : lw_okq (⟨"AlibiWindowModel", "work", "()V"⟩, 20) := ⟨⟨by decide +kernel, by decide +kernel⟩, List.mem_of_getElem? (i := 757) (by decide +kernel), List.mem_of_getElem? (i := 893) (by decide +kernel), List.mem_of_getElem? (i := 894) (by decide +kernel)⟩
theorem lw_p25 : lw_okq (⟨"AlibiWindowModel", "finish", "(I)V"⟩, 20) := ⟨⟨by decide +kernel, by decide +kernel⟩, List.mem_of_getElem? (i := 757) (by decide +kernel), List.mem_of_getElem? (i := 897) (by decide +kernel), List.mem_of_getElem? (i := 898) (by decide +kernel)⟩
theorem lw_p26 : lw_okq (⟨"AlibiWindowModel", "finishLoad", "(I)V"⟩, 20) := ⟨⟨by decide +kernel, by decide +kernel⟩, List.mem_of_getElem? (i := 757) (by decide +kernel), List.mem_of_getElem? (i := 915) (by decide +kernel), List.mem_of_getElem? (i := 916) (by decide +kernel)⟩
theorem lw_p27 : lw_okq (⟨"AlibiWindowModel", "valueOf", "(II)I"⟩, 20) := ⟨⟨by decide +kernel, by decide +kernel⟩, List.mem_of_getElem? (i := 757) (by decide +kernel), List.mem_of_getElem? (i := 919) (by decide +kernel), List.mem_of_getElem? (i := 920) (by decide +kernel)⟩
theorem lw_p28 : lw_okq (⟨"AlibiWindowModel", "maker", "(II)I"⟩, 20) := ⟨⟨by decide +kernel, by decide +kernel⟩, List.mem_of_getElem? (i := 757) (by decide +kernel), List.mem_of_getElem? (i := 923) (by decide +kernel), List.mem_of_getElem? (i := 924) (by decide +kernel)⟩
theorem lw_p29 : lw_okq (⟨"AlibiWindowModel", "makes", "(II)Z"⟩, 20) := ⟨⟨by decide +kernel, by decide +kernel⟩, List.mem_of_getElem? (i := 757) (by decide +kernel), List.mem_of_getElem? (i := 927) (by decide +kernel), List.mem_of_getElem? (i := 928) (by decide +kernel)⟩
theorem lw_p30 : lw_okq (⟨"AlibiWindowModel", "finishStore", "(I)V"⟩, 20) := ⟨⟨by decide +kernel, by decide +kernel⟩, List.mem_of_getElem? (i := 757) (by decide +kernel), List.mem_of_getElem? (i := 934) (by decide +kernel), List.mem_of_getElem? (i := 935) (by decide +kernel)⟩
theorem lw_p31 : lw_okq (⟨"AlibiWindowModel", "isBroken", "(II)Z"⟩, 20) := ⟨⟨by decide +kernel, by decide +kernel⟩, List.mem_of_getElem? (i := 757) (by decide +kernel), List.mem_of_getElem? (i := 938) (by decide +kernel), List.mem_of_getElem? (i := 939) (by decide +kernel)⟩
def lw_privs_2 : List (MethodName × Nat) := [(⟨"AlibiWindowModel", "save", "()V"⟩, 20), (⟨"AlibiWindowModel", "rule", "(I)I"⟩, 20), (⟨"AlibiWindowModel", "puts", "(II)I"⟩, 20), (⟨"AlibiWindowModel", "entries", "()I"⟩, 20), (⟨"AlibiWindowModel", "cycle", "()I"⟩, 20), (⟨"AlibiWindowModel", "of", "(II)I"⟩, 20), (⟨"AlibiWindowModel", "retire", "()V"⟩, 20), (⟨"AlibiWindowModel", "lay", "(III)V"⟩, 20), (⟨"AlibiWindowModel", "work", "()V"⟩, 20), (⟨"AlibiWindowModel", "finish", "(I)V"⟩, 20), (⟨"AlibiWindowModel", "finishLoad", "(I)V"⟩, 20), (⟨"AlibiWindowModel", "valueOf", "(II)I"⟩, 20), (⟨"AlibiWindowModel", "maker", "(II)I"⟩, 20), (⟨"AlibiWindowModel", "makes", "(II)Z"⟩, 20), (⟨"AlibiWindowModel", "finishStore", "(I)V"⟩, 20), (⟨"AlibiWindowModel", "isBroken", "(II)Z"⟩, 20)]
theorem lw_r2 : ∀ q ∈ lw_privs_2, lw_okq q := List.forall_mem_cons.mpr ⟨lw_p16, List.forall_mem_cons.mpr ⟨lw_p17, List.forall_mem_cons.mpr ⟨lw_p18, List.forall_mem_cons.mpr ⟨lw_p19, List.forall_mem_cons.mpr ⟨lw_p20, List.forall_mem_cons.mpr ⟨lw_p21, List.forall_mem_cons.mpr ⟨lw_p22, List.forall_mem_cons.mpr ⟨lw_p23, List.forall_mem_cons.mpr ⟨lw_p24, List.forall_mem_cons.mpr ⟨lw_p25, List.forall_mem_cons.mpr ⟨lw_p26, List.forall_mem_cons.mpr ⟨lw_p27, List.forall_mem_cons.mpr ⟨lw_p28, List.forall_mem_cons.mpr ⟨lw_p29, List.forall_mem_cons.mpr ⟨lw_p30, List.forall_mem_cons.mpr ⟨lw_p31, fun _ h => absurd h List.not_mem_nil⟩⟩⟩⟩⟩⟩⟩⟩⟩⟩⟩⟩⟩⟩⟩⟩
theorem lw_p32 : lw_okq (⟨"AlibiWindowModel", "reason", "(I)I"⟩, 20) := ⟨⟨by decide +kernel, by decide +kernel⟩, List.mem_of_getElem? (i := 757) (by decide +kernel), List.mem_of_getElem? (i := 945) (by decide +kernel), List.mem_of_getElem? (i := 946) (by decide +kernel)⟩
theorem lw_p33 : lw_okq (⟨"AlibiWindowModel", "hasOne", "(I)Z"⟩, 20) := ⟨⟨by decide +kernel, by decide +kernel⟩, List.mem_of_getElem? (i := 757) (by decide +kernel), List.mem_of_getElem? (i := 949) (by decide +kernel), List.mem_of_getElem? (i := 950) (by decide +kernel)⟩
theorem lw_p34 : lw_okq (⟨"AlibiWindowModel", "isReady", "(II)Z"⟩, 20) := ⟨⟨by decide +kernel, by decide +kernel⟩, List.mem_of_getElem? (i := 757) (by decide +kernel), List.mem_of_getElem? (i := 953) (by decide +kernel), List.mem_of_getElem? (i := 954) (by decide +kernel)⟩
theorem lw_p35 : lw_okq (⟨"AlibiWindowModel", "hasOther", "(I)Z"⟩, 20) := ⟨⟨by decide +kernel, by decide +kernel⟩, List.mem_of_getElem? (i := 757) (by decide +kernel), List.mem_of_getElem? (i := 957) (by decide +kernel), List.mem_of_getElem? (i := 958) (by decide +kernel)⟩
theorem lw_p36 : lw_okq (⟨"AlibiWindowModel", "isOpenStore", "(I)Z"⟩, 20) := ⟨⟨by decide +kernel, by decide +kernel⟩, List.mem_of_getElem? (i := 757) (by decide +kernel), List.mem_of_getElem? (i := 961) (by decide +kernel), List.mem_of_getElem? (i := 962) (by decide +kernel)⟩
theorem lw_p37 : lw_okq (⟨"AlibiWindowModel", "begin", "()V"⟩, 20) := ⟨⟨by decide +kernel, by decide +kernel⟩, List.mem_of_getElem? (i := 757) (by decide +kernel), List.mem_of_getElem? (i := 976) (by decide +kernel), List.mem_of_getElem? (i := 977) (by decide +kernel)⟩
theorem lw_p38 : lw_okq (⟨"AlibiWindowModel", "scan", "()I"⟩, 20) := ⟨⟨by decide +kernel, by decide +kernel⟩, List.mem_of_getElem? (i := 757) (by decide +kernel), List.mem_of_getElem? (i := 992) (by decide +kernel), List.mem_of_getElem? (i := 993) (by decide +kernel)⟩
theorem lw_p39 : lw_okq (⟨"AlibiWindowModel", "takes", "(I)Z"⟩, 20) := ⟨⟨by decide +kernel, by decide +kernel⟩, List.mem_of_getElem? (i := 757) (by decide +kernel), List.mem_of_getElem? (i := 996) (by decide +kernel), List.mem_of_getElem? (i := 997) (by decide +kernel)⟩
theorem lw_p40 : lw_okq (⟨"AlibiWindowModel", "begins", "(I)Z"⟩, 20) := ⟨⟨by decide +kernel, by decide +kernel⟩, List.mem_of_getElem? (i := 757) (by decide +kernel), List.mem_of_getElem? (i := 1000) (by decide +kernel), List.mem_of_getElem? (i := 1001) (by decide +kernel)⟩
theorem lw_p41 : lw_okq (⟨"AlibiWindowModel", "goes", "(ZI)Z"⟩, 20) := ⟨⟨by decide +kernel, by decide +kernel⟩, List.mem_of_getElem? (i := 757) (by decide +kernel), List.mem_of_getElem? (i := 1004) (by decide +kernel), List.mem_of_getElem? (i := 1005) (by decide +kernel)⟩
theorem lw_p42 : lw_okq (⟨"AlibiWindowModel", "takesRight", "(I)Z"⟩, 20) := ⟨⟨by decide +kernel, by decide +kernel⟩, List.mem_of_getElem? (i := 757) (by decide +kernel), List.mem_of_getElem? (i := 1011) (by decide +kernel), List.mem_of_getElem? (i := 1012) (by decide +kernel)⟩
theorem lw_p43 : lw_okq (⟨"AlibiWindowModel", "takesFigure", "(I)Z"⟩, 20) := ⟨⟨by decide +kernel, by decide +kernel⟩, List.mem_of_getElem? (i := 757) (by decide +kernel), List.mem_of_getElem? (i := 1015) (by decide +kernel), List.mem_of_getElem? (i := 1016) (by decide +kernel)⟩
theorem lw_p44 : lw_okq (⟨"AlibiWindowModel", "takesSecond", "(I)Z"⟩, 20) := ⟨⟨by decide +kernel, by decide +kernel⟩, List.mem_of_getElem? (i := 757) (by decide +kernel), List.mem_of_getElem? (i := 1022) (by decide +kernel), List.mem_of_getElem? (i := 1023) (by decide +kernel)⟩
theorem lw_p45 : lw_okq (⟨"AlibiWindowModel", "ends", "(I)Z"⟩, 20) := ⟨⟨by decide +kernel, by decide +kernel⟩, List.mem_of_getElem? (i := 757) (by decide +kernel), List.mem_of_getElem? (i := 1026) (by decide +kernel), List.mem_of_getElem? (i := 1027) (by decide +kernel)⟩
theorem lw_p46 : lw_okq (⟨"AlibiWindowModel", "takesSign", "(I)Z"⟩, 20) := ⟨⟨by decide +kernel, by decide +kernel⟩, List.mem_of_getElem? (i := 757) (by decide +kernel), List.mem_of_getElem? (i := 1030) (by decide +kernel), List.mem_of_getElem? (i := 1031) (by decide +kernel)⟩
theorem lw_p47 : lw_okq (⟨"AlibiWindowModel", "takesOther", "(I)Z"⟩, 20) := ⟨⟨by decide +kernel, by decide +kernel⟩, List.mem_of_getElem? (i := 757) (by decide +kernel), List.mem_of_getElem? (i := 1034) (by decide +kernel), List.mem_of_getElem? (i := 1035) (by decide +kernel)⟩
def lw_privs_3 : List (MethodName × Nat) := [(⟨"AlibiWindowModel", "reason", "(I)I"⟩, 20), (⟨"AlibiWindowModel", "hasOne", "(I)Z"⟩, 20), (⟨"AlibiWindowModel", "isReady", "(II)Z"⟩, 20), (⟨"AlibiWindowModel", "hasOther", "(I)Z"⟩, 20), (⟨"AlibiWindowModel", "isOpenStore", "(I)Z"⟩, 20), (⟨"AlibiWindowModel", "begin", "()V"⟩, 20), (⟨"AlibiWindowModel", "scan", "()I"⟩, 20), (⟨"AlibiWindowModel", "takes", "(I)Z"⟩, 20), (⟨"AlibiWindowModel", "begins", "(I)Z"⟩, 20), (⟨"AlibiWindowModel", "goes", "(ZI)Z"⟩, 20), (⟨"AlibiWindowModel", "takesRight", "(I)Z"⟩, 20), (⟨"AlibiWindowModel", "takesFigure", "(I)Z"⟩, 20), (⟨"AlibiWindowModel", "takesSecond", "(I)Z"⟩, 20), (⟨"AlibiWindowModel", "ends", "(I)Z"⟩, 20), (⟨"AlibiWindowModel", "takesSign", "(I)Z"⟩, 20), (⟨"AlibiWindowModel", "takesOther", "(I)Z"⟩, 20)]
theorem lw_r3 : ∀ q ∈ lw_privs_3, lw_okq q := List.forall_mem_cons.mpr ⟨lw_p32, List.forall_mem_cons.mpr ⟨lw_p33, List.forall_mem_cons.mpr ⟨lw_p34, List.forall_mem_cons.mpr ⟨lw_p35, List.forall_mem_cons.mpr ⟨lw_p36, List.forall_mem_cons.mpr ⟨lw_p37, List.forall_mem_cons.mpr ⟨lw_p38, List.forall_mem_cons.mpr ⟨lw_p39, List.forall_mem_cons.mpr ⟨lw_p40, List.forall_mem_cons.mpr ⟨lw_p41, List.forall_mem_cons.mpr ⟨lw_p42, List.forall_mem_cons.mpr ⟨lw_p43, List.forall_mem_cons.mpr ⟨lw_p44, List.forall_mem_cons.mpr ⟨lw_p45, List.forall_mem_cons.mpr ⟨lw_p46, List.forall_mem_cons.mpr ⟨lw_p47, fun _ h => absurd h List.not_mem_nil⟩⟩⟩⟩⟩⟩⟩⟩⟩⟩⟩⟩⟩⟩⟩⟩
theorem lw_p48 : lw_okq (⟨"AlibiWindowModel", "takesOne", "(II)Z"⟩, 20) := ⟨⟨by decide +kernel, by decide +kernel⟩, List.mem_of_getElem? (i := 757) (by decide +kernel), List.mem_of_getElem? (i := 1038) (by decide +kernel), List.mem_of_getElem? (i := 1039) (by decide +kernel)⟩
theorem lw_p49 : lw_okq (⟨"AlibiWindowModel", "takesOffset", "(II)Z"⟩, 20) := ⟨⟨by decide +kernel, by decide +kernel⟩, List.mem_of_getElem? (i := 757) (by decide +kernel), List.mem_of_getElem? (i := 1042) (by decide +kernel), List.mem_of_getElem? (i := 1043) (by decide +kernel)⟩
theorem lw_p50 : lw_okq (⟨"AlibiWindowModel", "isInstruction", "(I)Z"⟩, 20) := ⟨⟨by decide +kernel, by decide +kernel⟩, List.mem_of_getElem? (i := 757) (by decide +kernel), List.mem_of_getElem? (i := 1058) (by decide +kernel), List.mem_of_getElem? (i := 1059) (by decide +kernel)⟩
theorem lw_p51 : lw_okq (⟨"AlibiWindowModel", "isEntry", "(I)Z"⟩, 20) := ⟨⟨by decide +kernel, by decide +kernel⟩, List.mem_of_getElem? (i := 757) (by decide +kernel), List.mem_of_getElem? (i := 1066) (by decide +kernel), List.mem_of_getElem? (i := 1067) (by decide +kernel)⟩
theorem lw_p52 : lw_okq (⟨"AlibiWindowModel", "entryNow", "(II)I"⟩, 20) := ⟨⟨by decide +kernel, by decide +kernel⟩, List.mem_of_getElem? (i := 757) (by decide +kernel), List.mem_of_getElem? (i := 1070) (by decide +kernel), List.mem_of_getElem? (i := 1071) (by decide +kernel)⟩
theorem lw_p53 : lw_okq (⟨"AlibiWindowModel", "registerNow", "(II)I"⟩, 20) := ⟨⟨by decide +kernel, by decide +kernel⟩, List.mem_of_getElem? (i := 757) (by decide +kernel), List.mem_of_getElem? (i := 1082) (by decide +kernel), List.mem_of_getElem? (i := 1083) (by decide +kernel)⟩
theorem lw_p54 : lw_okq (⟨"AlibiWindowModel", "goPlain", "()V"⟩, 20) := ⟨⟨by decide +kernel, by decide +kernel⟩, List.mem_of_getElem? (i := 757) (by decide +kernel), List.mem_of_getElem? (i := 1086) (by decide +kernel), List.mem_of_getElem? (i := 1087) (by decide +kernel)⟩
theorem lw_p55 : lw_okq (⟨"AlibiWindowModel", "cellNow", "(II)I"⟩, 20) := ⟨⟨by decide +kernel, by decide +kernel⟩, List.mem_of_getElem? (i := 757) (by decide +kernel), List.mem_of_getElem? (i := 1094) (by decide +kernel), List.mem_of_getElem? (i := 1095) (by decide +kernel)⟩
theorem lw_p56 : lw_okq (⟨"AlibiWindowModel", "counted", "(I)I"⟩, 20) := ⟨⟨by decide +kernel, by decide +kernel⟩, List.mem_of_getElem? (i := 757) (by decide +kernel), List.mem_of_getElem? (i := 1102) (by decide +kernel), List.mem_of_getElem? (i := 1103) (by decide +kernel)⟩
theorem lw_p57 : lw_okq (⟨"AlibiWindowModel", "isFinished", "()Z"⟩, 20) := ⟨⟨by decide +kernel, by decide +kernel⟩, List.mem_of_getElem? (i := 757) (by decide +kernel), List.mem_of_getElem? (i := 1106) (by decide +kernel), List.mem_of_getElem? (i := 1107) (by decide +kernel)⟩
theorem lw_p58 : lw_okq (⟨"AlibiWindowModel", "runNow", "(II)I"⟩, 20) := ⟨⟨by decide +kernel, by decide +kernel⟩, List.mem_of_getElem? (i := 757) (by decide +kernel), List.mem_of_getElem? (i := 1118) (by decide +kernel), List.mem_of_getElem? (i := 1119) (by decide +kernel)⟩
theorem lw_p59 : lw_okq (⟨"AlibiWindowModel", "keep", "()V"⟩, 20) := ⟨⟨by decide +kernel, by decide +kernel⟩, List.mem_of_getElem? (i := 757) (by decide +kernel), List.mem_of_getElem? (i := 1122) (by decide +kernel), List.mem_of_getElem? (i := 1123) (by decide +kernel)⟩
theorem lw_p60 : lw_okq (⟨"AlibiWindowModel", "bring", "()V"⟩, 20) := ⟨⟨by decide +kernel, by decide +kernel⟩, List.mem_of_getElem? (i := 757) (by decide +kernel), List.mem_of_getElem? (i := 1126) (by decide +kernel), List.mem_of_getElem? (i := 1127) (by decide +kernel)⟩
theorem lw_p61 : lw_okq (⟨"AlibiWindowModel", "leftNow", "()I"⟩, 20) := ⟨⟨by decide +kernel, by decide +kernel⟩, List.mem_of_getElem? (i := 757) (by decide +kernel), List.mem_of_getElem? (i := 1134) (by decide +kernel), List.mem_of_getElem? (i := 1135) (by decide +kernel)⟩
theorem lw_p62 : lw_okq (⟨"AlibiWindowModel", "goOn", "()I"⟩, 20) := ⟨⟨by decide +kernel, by decide +kernel⟩, List.mem_of_getElem? (i := 757) (by decide +kernel), List.mem_of_getElem? (i := 1138) (by decide +kernel), List.mem_of_getElem? (i := 1139) (by decide +kernel)⟩
theorem lw_p63 : lw_okq (⟨"AlibiWindowModel", "windowNow", "(I)I"⟩, 20) := ⟨⟨by decide +kernel, by decide +kernel⟩, List.mem_of_getElem? (i := 757) (by decide +kernel), List.mem_of_getElem? (i := 1146) (by decide +kernel), List.mem_of_getElem? (i := 1147) (by decide +kernel)⟩
def lw_privs_4 : List (MethodName × Nat) := [(⟨"AlibiWindowModel", "takesOne", "(II)Z"⟩, 20), (⟨"AlibiWindowModel", "takesOffset", "(II)Z"⟩, 20), (⟨"AlibiWindowModel", "isInstruction", "(I)Z"⟩, 20), (⟨"AlibiWindowModel", "isEntry", "(I)Z"⟩, 20), (⟨"AlibiWindowModel", "entryNow", "(II)I"⟩, 20), (⟨"AlibiWindowModel", "registerNow", "(II)I"⟩, 20), (⟨"AlibiWindowModel", "goPlain", "()V"⟩, 20), (⟨"AlibiWindowModel", "cellNow", "(II)I"⟩, 20), (⟨"AlibiWindowModel", "counted", "(I)I"⟩, 20), (⟨"AlibiWindowModel", "isFinished", "()Z"⟩, 20), (⟨"AlibiWindowModel", "runNow", "(II)I"⟩, 20), (⟨"AlibiWindowModel", "keep", "()V"⟩, 20), (⟨"AlibiWindowModel", "bring", "()V"⟩, 20), (⟨"AlibiWindowModel", "leftNow", "()I"⟩, 20), (⟨"AlibiWindowModel", "goOn", "()I"⟩, 20), (⟨"AlibiWindowModel", "windowNow", "(I)I"⟩, 20)]
theorem lw_r4 : ∀ q ∈ lw_privs_4, lw_okq q := List.forall_mem_cons.mpr ⟨lw_p48, List.forall_mem_cons.mpr ⟨lw_p49, List.forall_mem_cons.mpr ⟨lw_p50, List.forall_mem_cons.mpr ⟨lw_p51, List.forall_mem_cons.mpr ⟨lw_p52, List.forall_mem_cons.mpr ⟨lw_p53, List.forall_mem_cons.mpr ⟨lw_p54, List.forall_mem_cons.mpr ⟨lw_p55, List.forall_mem_cons.mpr ⟨lw_p56, List.forall_mem_cons.mpr ⟨lw_p57, List.forall_mem_cons.mpr ⟨lw_p58, List.forall_mem_cons.mpr ⟨lw_p59, List.forall_mem_cons.mpr ⟨lw_p60, List.forall_mem_cons.mpr ⟨lw_p61, List.forall_mem_cons.mpr ⟨lw_p62, List.forall_mem_cons.mpr ⟨lw_p63, fun _ h => absurd h List.not_mem_nil⟩⟩⟩⟩⟩⟩⟩⟩⟩⟩⟩⟩⟩⟩⟩⟩
theorem lw_p64 : lw_okq (⟨"AlibiWindowModel", "worstNow", "()I"⟩, 20) := ⟨⟨by decide +kernel, by decide +kernel⟩, List.mem_of_getElem? (i := 757) (by decide +kernel), List.mem_of_getElem? (i := 1154) (by decide +kernel), List.mem_of_getElem? (i := 1155) (by decide +kernel)⟩
theorem lw_p65 : lw_okq (⟨"AlibiWindowModel", "shareNow", "()D"⟩, 20) := ⟨⟨by decide +kernel, by decide +kernel⟩, List.mem_of_getElem? (i := 757) (by decide +kernel), List.mem_of_getElem? (i := 1162) (by decide +kernel), List.mem_of_getElem? (i := 1163) (by decide +kernel)⟩
theorem lw_p66 : lw_okq (⟨"AlibiWindowModel", "mix", "(J)V"⟩, 20) := ⟨⟨by decide +kernel, by decide +kernel⟩, List.mem_of_getElem? (i := 757) (by decide +kernel), List.mem_of_getElem? (i := 1171) (by decide +kernel), List.mem_of_getElem? (i := 1172) (by decide +kernel)⟩
theorem lw_p67 : lw_okq (⟨"AlibiWindowModel", "mixProgram", "()V"⟩, 20) := ⟨⟨by decide +kernel, by decide +kernel⟩, List.mem_of_getElem? (i := 757) (by decide +kernel), List.mem_of_getElem? (i := 1176) (by decide +kernel), List.mem_of_getElem? (i := 1177) (by decide +kernel)⟩
def lw_privs_5 : List (MethodName × Nat) := [(⟨"AlibiWindowModel", "worstNow", "()I"⟩, 20), (⟨"AlibiWindowModel", "shareNow", "()D"⟩, 20), (⟨"AlibiWindowModel", "mix", "(J)V"⟩, 20), (⟨"AlibiWindowModel", "mixProgram", "()V"⟩, 20)]
theorem lw_r5 : ∀ q ∈ lw_privs_5, lw_okq q := List.forall_mem_cons.mpr ⟨lw_p64, List.forall_mem_cons.mpr ⟨lw_p65, List.forall_mem_cons.mpr ⟨lw_p66, List.forall_mem_cons.mpr ⟨lw_p67, fun _ h => absurd h List.not_mem_nil⟩⟩⟩⟩
def lw_privs : List (MethodName × Nat) := lw_privs_1 ++ (lw_privs_2 ++ (lw_privs_3 ++ (lw_privs_4 ++ (lw_privs_5))))
def lw_tbl : List Cond := k2_sels lw_privs ++ tables_1
theorem lw_privs_ok : ∀ q ∈ lw_privs, lw_okq q := by
  show ∀ q ∈ lw_privs_1 ++ (lw_privs_2 ++ (lw_privs_3 ++ (lw_privs_4 ++ (lw_privs_5)))), lw_okq q
  exact List.forall_mem_append.mpr ⟨lw_r1, List.forall_mem_append.mpr ⟨lw_r2, List.forall_mem_append.mpr ⟨lw_r3, List.forall_mem_append.mpr ⟨lw_r4, lw_r5⟩⟩⟩⟩
/-- the streams that the claim lets the run draw from -/
abbrev lw_cs : List Choice := [Jvm.Choice.named "NaN.bits", Jvm.Choice.named "NaN.copy"]
theorem lw_bits : nanBits ∈ lw_cs := by first | decide | exact List.mem_cons_self | simp [lw_cs, nanBits]
def RX0 : String := "AlibiWindow$Floats"
def TX0 : u_T := fun k => match k with
  | _ => ("", "", "", false)
def tyX0 : Nat → FieldType := fun k => match k with
  | _ => .int
abbrev wsX00 : List Cond := u_ws RX0 TX0 0
theorem nmX0 : ∀ a, a < 0 → ∀ b, b < 0 → a ≠ b → (TX0 a).2.1 ≠ (TX0 b).2.1 := by decide +kernel
theorem tyX0_ok : ∀ k, k < 0 → parseFieldDescriptor (TX0 k).2.2.1 = some (tyX0 k) := by decide +kernel
abbrev cX0_isInRange : ByteArray := prog_2_method_2_code
def yX0_isInRange : MethodName := ⟨RX0, "isInRange", "(I)Z"⟩
abbrev cX0_valueOf : ByteArray := prog_2_method_3_code
def yX0_valueOf : MethodName := ⟨RX0, "valueOf", "(I)F"⟩
abbrev cX0_bitsOf : ByteArray := prog_2_method_4_code
def yX0_bitsOf : MethodName := ⟨RX0, "bitsOf", "(FI)I"⟩
abbrev cX0_result : ByteArray := prog_2_method_5_code
def yX0_result : MethodName := ⟨RX0, "result", "(IIII)I"⟩
abbrev cX0_limited : ByteArray := prog_2_method_6_code
def yX0_limited : MethodName := ⟨RX0, "limited", "(F)F"⟩
abbrev cX0_bitsOfShare : ByteArray := prog_2_method_7_code
def yX0_bitsOfShare : MethodName := ⟨RX0, "bitsOfShare", "(D)J"⟩
def RX1 : String := "AlibiWindow$Instruction"
def TX1 : u_T := fun k => match k with
  | 0 => ("AlibiWindow$Instruction", "kind", "I", false)
  | 1 => ("AlibiWindow$Instruction", "r", "I", false)
  | 2 => ("AlibiWindow$Instruction", "p", "I", false)
  | 3 => ("AlibiWindow$Instruction", "q", "I", false)
  | 4 => ("AlibiWindow$Instruction", "number", "I", false)
  | 5 => ("AlibiWindow$Instruction", "distrust", "I", false)
  | 6 => ("AlibiWindow$Instruction", "replays", "I", false)
  | 7 => ("AlibiWindow$Instruction", "stage", "I", false)
  | 8 => ("AlibiWindow$Instruction", "workLeft", "I", false)
  | 9 => ("AlibiWindow$Instruction", "nameOfP", "I", false)
  | 10 => ("AlibiWindow$Instruction", "nameOfQ", "I", false)
  | 11 => ("AlibiWindow$Instruction", "place", "I", false)
  | 12 => ("AlibiWindow$Instruction", "alibi", "I", false)
  | _ => ("AlibiWindow$Instruction", "made", "I", false)
def tyX1 : Nat → FieldType := fun k => match k with
  | 0 => .int
  | 1 => .int
  | 2 => .int
  | 3 => .int
  | 4 => .int
  | 5 => .int
  | 6 => .int
  | 7 => .int
  | 8 => .int
  | 9 => .int
  | 10 => .int
  | 11 => .int
  | 12 => .int
  | _ => .int
abbrev wsX10 : List Cond := u_ws RX1 TX1 14
theorem nmX1 : ∀ a, a < 14 → ∀ b, b < 14 → a ≠ b → (TX1 a).2.1 ≠ (TX1 b).2.1 := by decide +kernel
theorem tyX1_ok : ∀ k, k < 14 → parseFieldDescriptor (TX1 k).2.2.1 = some (tyX1 k) := by decide +kernel
abbrev cX1_init : ByteArray := prog_3_method_1_code
def yX1_init : MethodName := ⟨RX1, "<init>", "()V"⟩
abbrev cX1_become : ByteArray := prog_3_method_2_code
def yX1_become : MethodName := ⟨RX1, "become", "(IIIII)V"⟩
abbrev cX1_becomeLike : ByteArray := prog_3_method_3_code
def yX1_becomeLike : MethodName := ⟨RX1, "becomeLike", "(LAlibiWindow$Instruction;)V"⟩
abbrev cX1_isDone : ByteArray := prog_3_method_4_code
def yX1_isDone : MethodName := ⟨RX1, "isDone", "(I)Z"⟩
abbrev cX1_endsItsWork : ByteArray := prog_3_method_5_code
def yX1_endsItsWork : MethodName := ⟨RX1, "endsItsWork", "()Z"⟩
abbrev cX1_cyclesNeeded : ByteArray := prog_3_method_6_code
def yX1_cyclesNeeded : MethodName := ⟨RX1, "cyclesNeeded", "()I"⟩
abbrev cX1_part : ByteArray := prog_3_method_7_code
def yX1_part : MethodName := ⟨RX1, "part", "(I)I"⟩
def RX2 : String := "AlibiWindow$Machine"
def TX2 : u_T := fun k => match k with
  | 0 => ("AlibiWindow$Machine", "rows", "[LAlibiWindow$Instruction;", true)
  | 1 => ("AlibiWindow$Machine", "nothing", "LAlibiWindow$Instruction;", true)
  | 2 => ("AlibiWindow$Machine", "registers", "[I", true)
  | 3 => ("AlibiWindow$Machine", "memory", "[I", true)
  | 4 => ("AlibiWindow$Machine", "settings", "[I", true)
  | 5 => ("AlibiWindow$Machine", "cycle", "I", false)
  | 6 => ("AlibiWindow$Machine", "length", "I", false)
  | 7 => ("AlibiWindow$Machine", "issued", "I", false)
  | 8 => ("AlibiWindow$Machine", "retired", "I", false)
  | 9 => ("AlibiWindow$Machine", "replays", "I", false)
  | 10 => ("AlibiWindow$Machine", "madeWaiting", "I", false)
  | 11 => ("AlibiWindow$Machine", "retiredEver", "I", false)
  | 12 => ("AlibiWindow$Machine", "loadsMade", "I", false)
  | _ => ("AlibiWindow$Machine", "earlyLoads", "I", false)
def tyX2 : Nat → FieldType := fun k => match k with
  | 0 => .array (.object "AlibiWindow$Instruction")
  | 1 => .object "AlibiWindow$Instruction"
  | 2 => .array .int
  | 3 => .array .int
  | 4 => .array .int
  | 5 => .int
  | 6 => .int
  | 7 => .int
  | 8 => .int
  | 9 => .int
  | 10 => .int
  | 11 => .int
  | 12 => .int
  | _ => .int
abbrev wsX20 : List Cond := u_ws RX2 TX2 14
theorem nmX2 : ∀ a, a < 14 → ∀ b, b < 14 → a ≠ b → (TX2 a).2.1 ≠ (TX2 b).2.1 := by decide +kernel
theorem tyX2_ok : ∀ k, k < 14 → parseFieldDescriptor (TX2 k).2.2.1 = some (tyX2 k) := by decide +kernel
abbrev cX2_init : ByteArray := prog_4_method_1_code
def yX2_init : MethodName := ⟨RX2, "<init>", "()V"⟩
abbrev cX2_greatest : ByteArray := prog_4_method_2_code
def yX2_greatest : MethodName := ⟨RX2, "greatest", "(I)I"⟩
abbrev cX2_becomeLike : ByteArray := prog_4_method_3_code
def yX2_becomeLike : MethodName := ⟨RX2, "becomeLike", "(LAlibiWindow$Machine;)V"⟩
abbrev cX2_beginAnew : ByteArray := prog_4_method_4_code
def yX2_beginAnew : MethodName := ⟨RX2, "beginAnew", "()V"⟩
abbrev cX2_at : ByteArray := prog_4_method_5_code
def yX2_at : MethodName := ⟨RX2, "at", "(I)LAlibiWindow$Instruction;"⟩
abbrev cX2_registerBits : ByteArray := prog_4_method_6_code
def yX2_registerBits : MethodName := ⟨RX2, "registerBits", "(I)I"⟩
abbrev cX2_cellBits : ByteArray := prog_4_method_7_code
def yX2_cellBits : MethodName := ⟨RX2, "cellBits", "(I)I"⟩
abbrev cX2_put : ByteArray := prog_4_method_8_code
def yX2_put : MethodName := ⟨RX2, "put", "(LAlibiWindow$Instruction;)V"⟩
abbrev cX2_entries : ByteArray := prog_4_method_9_code
def yX2_entries : MethodName := ⟨RX2, "entries", "()I"⟩
abbrev cX2_isFinished : ByteArray := prog_4_method_10_code
def yX2_isFinished : MethodName := ⟨RX2, "isFinished", "()Z"⟩
abbrev cX2_number : ByteArray := prog_4_method_11_code
def yX2_number : MethodName := ⟨RX2, "number", "(I)I"⟩
abbrev cX2_property : ByteArray := prog_4_method_12_code
def yX2_property : MethodName := ⟨RX2, "property", "(II)I"⟩
abbrev cX2_hindrance : ByteArray := prog_4_method_13_code
def yX2_hindrance : MethodName := ⟨RX2, "hindrance", "(I)I"⟩
abbrev cX2_isReady : ByteArray := prog_4_method_14_code
def yX2_isReady : MethodName := ⟨RX2, "isReady", "(I)Z"⟩
abbrev cX2_hasOpenStoreAhead : ByteArray := prog_4_method_15_code
def yX2_hasOpenStoreAhead : MethodName := ⟨RX2, "hasOpenStoreAhead", "(I)Z"⟩
abbrev cX2_latestMaker : ByteArray := prog_4_method_16_code
def yX2_latestMaker : MethodName := ⟨RX2, "latestMaker", "(II)I"⟩
abbrev cX2_latestStore : ByteArray := prog_4_method_17_code
def yX2_latestStore : MethodName := ⟨RX2, "latestStore", "(II)I"⟩
abbrev cX2_passCycles : ByteArray := prog_4_method_18_code
def yX2_passCycles : MethodName := ⟨RX2, "passCycles", "(I)V"⟩
abbrev cX2_cyclesToEnd : ByteArray := prog_4_method_19_code
def yX2_cyclesToEnd : MethodName := ⟨RX2, "cyclesToEnd", "(I)I"⟩
abbrev cX2_passCycle : ByteArray := prog_4_method_20_code
def yX2_passCycle : MethodName := ⟨RX2, "passCycle", "()V"⟩
abbrev cX2_retireEntries : ByteArray := prog_4_method_21_code
def yX2_retireEntries : MethodName := ⟨RX2, "retireEntries", "()V"⟩
abbrev cX2_finish : ByteArray := prog_4_method_22_code
def yX2_finish : MethodName := ⟨RX2, "finish", "(ILAlibiWindow$Instruction;)V"⟩
abbrev cX2_operand : ByteArray := prog_4_method_23_code
def yX2_operand : MethodName := ⟨RX2, "operand", "(II)I"⟩
abbrev cX2_finishLoad : ByteArray := prog_4_method_24_code
def yX2_finishLoad : MethodName := ⟨RX2, "finishLoad", "(ILAlibiWindow$Instruction;I)V"⟩
abbrev cX2_breakAlibis : ByteArray := prog_4_method_25_code
def yX2_breakAlibis : MethodName := ⟨RX2, "breakAlibis", "(II)V"⟩
abbrev cX2_replay : ByteArray := prog_4_method_26_code
def yX2_replay : MethodName := ⟨RX2, "replay", "(ILAlibiWindow$Instruction;)V"⟩
abbrev cX2_startEntries : ByteArray := prog_4_method_27_code
def yX2_startEntries : MethodName := ⟨RX2, "startEntries", "()V"⟩
abbrev cX2_issueInstructions : ByteArray := prog_4_method_28_code
def yX2_issueInstructions : MethodName := ⟨RX2, "issueInstructions", "()V"⟩
abbrev cX2_carryOutPlainly : ByteArray := prog_4_method_29_code
def yX2_carryOutPlainly : MethodName := ⟨RX2, "carryOutPlainly", "()V"⟩
abbrev cX2_placeOf : ByteArray := prog_4_method_30_code
def yX2_placeOf : MethodName := ⟨RX2, "placeOf", "(II)I"⟩
def RX3 : String := "AlibiWindow$Text"
def TX3 : u_T := fun k => match k with
  | 0 => ("AlibiWindow$Text", "signs", "[C", true)
  | _ => ("AlibiWindow$Text", "length", "I", false)
def tyX3 : Nat → FieldType := fun k => match k with
  | 0 => .array .char
  | _ => .int
abbrev wsX30 : List Cond := u_ws RX3 TX3 2
theorem nmX3 : ∀ a, a < 2 → ∀ b, b < 2 → a ≠ b → (TX3 a).2.1 ≠ (TX3 b).2.1 := by decide +kernel
theorem tyX3_ok : ∀ k, k < 2 → parseFieldDescriptor (TX3 k).2.2.1 = some (tyX3 k) := by decide +kernel
abbrev cX3_init : ByteArray := prog_5_method_1_code
def yX3_init : MethodName := ⟨RX3, "<init>", "()V"⟩
abbrev cX3_add : ByteArray := prog_5_method_2_code
def yX3_add : MethodName := ⟨RX3, "add", "(C)V"⟩
abbrev cX3_signAt : ByteArray := prog_5_method_3_code
def yX3_signAt : MethodName := ⟨RX3, "signAt", "(I)C"⟩
abbrev cX3_rightSigns : ByteArray := prog_5_method_4_code
def yX3_rightSigns : MethodName := ⟨RX3, "rightSigns", "()I"⟩
abbrev cX3_isComplete : ByteArray := prog_5_method_5_code
def yX3_isComplete : MethodName := ⟨RX3, "isComplete", "()Z"⟩
abbrev cX3_instructions : ByteArray := prog_5_method_6_code
def yX3_instructions : MethodName := ⟨RX3, "instructions", "()I"⟩
abbrev cX3_nextInstruction : ByteArray := prog_5_method_7_code
def yX3_nextInstruction : MethodName := ⟨RX3, "nextInstruction", "(I)I"⟩
abbrev cX3_readInstruction : ByteArray := prog_5_method_8_code
def yX3_readInstruction : MethodName := ⟨RX3, "readInstruction", "(ILAlibiWindow$Instruction;)V"⟩
abbrev cX3_registerAt : ByteArray := prog_5_method_9_code
def yX3_registerAt : MethodName := ⟨RX3, "registerAt", "(I)I"⟩
abbrev cX3_digitAt : ByteArray := prog_5_method_10_code
def yX3_digitAt : MethodName := ⟨RX3, "digitAt", "(I)I"⟩
abbrev cX3_numberAt : ByteArray := prog_5_method_11_code
def yX3_numberAt : MethodName := ⟨RX3, "numberAt", "(I)I"⟩
abbrev cX3_hashAll : ByteArray := prog_5_method_12_code
def yX3_hashAll : MethodName := ⟨RX3, "hashAll", "(J)J"⟩
abbrev cX3_isRegister : ByteArray := prog_5_method_13_code
def yX3_isRegister : MethodName := ⟨RX3, "isRegister", "(C)Z"⟩
abbrev cX3_isDigit : ByteArray := prog_5_method_14_code
def yX3_isDigit : MethodName := ⟨RX3, "isDigit", "(C)Z"⟩
abbrev cX3_next : ByteArray := prog_5_method_15_code
def yX3_next : MethodName := ⟨RX3, "next", "(IC)I"⟩
abbrev cX3_ifRegister : ByteArray := prog_5_method_16_code
def yX3_ifRegister : MethodName := ⟨RX3, "ifRegister", "(CI)I"⟩
abbrev cX3_nextOfRightSide : ByteArray := prog_5_method_17_code
def yX3_nextOfRightSide : MethodName := ⟨RX3, "nextOfRightSide", "(C)I"⟩
abbrev cX3_nextOfNumber : ByteArray := prog_5_method_18_code
def yX3_nextOfNumber : MethodName := ⟨RX3, "nextOfNumber", "(C)I"⟩
abbrev cX3_nextOfEnd : ByteArray := prog_5_method_19_code
def yX3_nextOfEnd : MethodName := ⟨RX3, "nextOfEnd", "(C)I"⟩
def RX4 : String := "AlibiWindow"
def TX4 : u_T := fun k => match k with
  | 0 => ("AlibiWindow", "now", "LAlibiWindow$Machine;", true)
  | 1 => ("AlibiWindow", "rehearsal", "LAlibiWindow$Machine;", true)
  | 2 => ("AlibiWindow", "saved", "[LAlibiWindow$Machine;", true)
  | 3 => ("AlibiWindow", "buffer", "LAlibiWindow$Text;", true)
  | 4 => ("AlibiWindow", "best", "[I", true)
  | _ => ("AlibiWindow", "savedStates", "I", false)
def tyX4 : Nat → FieldType := fun k => match k with
  | 0 => .object "AlibiWindow$Machine"
  | 1 => .object "AlibiWindow$Machine"
  | 2 => .array (.object "AlibiWindow$Machine")
  | 3 => .object "AlibiWindow$Text"
  | 4 => .array .int
  | _ => .int
abbrev wsX40 : List Cond := u_ws RX4 TX4 6
theorem nmX4 : ∀ a, a < 6 → ∀ b, b < 6 → a ≠ b → (TX4 a).2.1 ≠ (TX4 b).2.1 := by decide +kernel
theorem tyX4_ok : ∀ k, k < 6 → parseFieldDescriptor (TX4 k).2.2.1 = some (tyX4 k) := by decide +kernel
abbrev cX4_init : ByteArray := prog_1_method_1_code
def yX4_init : MethodName := ⟨RX4, "<init>", "()V"⟩
abbrev cX4_set : ByteArray := prog_1_method_2_code
def yX4_set : MethodName := ⟨RX4, "set", "(II)I"⟩
abbrev cX4_putRegister : ByteArray := prog_1_method_3_code
def yX4_putRegister : MethodName := ⟨RX4, "putRegister", "(II)I"⟩
abbrev cX4_putCell : ByteArray := prog_1_method_4_code
def yX4_putCell : MethodName := ⟨RX4, "putCell", "(II)I"⟩
abbrev cX4_putValue : ByteArray := prog_1_method_5_code
def yX4_putValue : MethodName := ⟨RX4, "putValue", "([III)I"⟩
abbrev cX4_run : ByteArray := prog_1_method_6_code
def yX4_run : MethodName := ⟨RX4, "run", "(I)I"⟩
abbrev cX4_checkCycles : ByteArray := prog_1_method_7_code
def yX4_checkCycles : MethodName := ⟨RX4, "checkCycles", "(I)V"⟩
abbrev cX4_flush : ByteArray := prog_1_method_8_code
def yX4_flush : MethodName := ⟨RX4, "flush", "()I"⟩
abbrev cX4_again : ByteArray := prog_1_method_9_code
def yX4_again : MethodName := ⟨RX4, "again", "()I"⟩
abbrev cX4_append : ByteArray := prog_1_method_10_code
def yX4_append : MethodName := ⟨RX4, "append", "(I)I"⟩
abbrev cX4_clearBuffer : ByteArray := prog_1_method_11_code
def yX4_clearBuffer : MethodName := ⟨RX4, "clearBuffer", "()I"⟩
abbrev cX4_firstError : ByteArray := prog_1_method_12_code
def yX4_firstError : MethodName := ⟨RX4, "firstError", "()I"⟩
abbrev cX4_load : ByteArray := prog_1_method_13_code
def yX4_load : MethodName := ⟨RX4, "load", "()I"⟩
abbrev cX4_undo : ByteArray := prog_1_method_14_code
def yX4_undo : MethodName := ⟨RX4, "undo", "()I"⟩
abbrev cX4_saveState : ByteArray := prog_1_method_15_code
def yX4_saveState : MethodName := ⟨RX4, "saveState", "()V"⟩
abbrev cX4_instruction : ByteArray := prog_1_method_16_code
def yX4_instruction : MethodName := ⟨RX4, "instruction", "(II)I"⟩
abbrev cX4_entry : ByteArray := prog_1_method_17_code
def yX4_entry : MethodName := ⟨RX4, "entry", "(II)I"⟩
abbrev cX4_whyNot : ByteArray := prog_1_method_18_code
def yX4_whyNot : MethodName := ⟨RX4, "whyNot", "(I)I"⟩
abbrev cX4_register : ByteArray := prog_1_method_19_code
def yX4_register : MethodName := ⟨RX4, "register", "(II)I"⟩
abbrev cX4_cell : ByteArray := prog_1_method_20_code
def yX4_cell : MethodName := ⟨RX4, "cell", "(II)I"⟩
abbrev cX4_count : ByteArray := prog_1_method_21_code
def yX4_count : MethodName := ⟨RX4, "count", "(I)I"⟩
abbrev cX4_setting : ByteArray := prog_1_method_22_code
def yX4_setting : MethodName := ⟨RX4, "setting", "(I)I"⟩
abbrev cX4_checkPlace : ByteArray := prog_1_method_23_code
def yX4_checkPlace : MethodName := ⟨RX4, "checkPlace", "(II)V"⟩
abbrev cX4_checkWhat : ByteArray := prog_1_method_24_code
def yX4_checkWhat : MethodName := ⟨RX4, "checkWhat", "(II)V"⟩
abbrev cX4_registerFact : ByteArray := prog_1_method_25_code
def yX4_registerFact : MethodName := ⟨RX4, "registerFact", "(II)I"⟩
abbrev cX4_cellFact : ByteArray := prog_1_method_26_code
def yX4_cellFact : MethodName := ⟨RX4, "cellFact", "(II)I"⟩
abbrev cX4_ifRun : ByteArray := prog_1_method_27_code
def yX4_ifRun : MethodName := ⟨RX4, "ifRun", "(II)I"⟩
abbrev cX4_cyclesLeft : ByteArray := prog_1_method_28_code
def yX4_cyclesLeft : MethodName := ⟨RX4, "cyclesLeft", "()I"⟩
abbrev cX4_bestWindow : ByteArray := prog_1_method_29_code
def yX4_bestWindow : MethodName := ⟨RX4, "bestWindow", "(I)I"⟩
abbrev cX4_worstLoad : ByteArray := prog_1_method_30_code
def yX4_worstLoad : MethodName := ⟨RX4, "worstLoad", "()I"⟩
abbrev cX4_earlyShare : ByteArray := prog_1_method_31_code
def yX4_earlyShare : MethodName := ⟨RX4, "earlyShare", "()D"⟩
abbrev cX4_digest : ByteArray := prog_1_method_32_code
def yX4_digest : MethodName := ⟨RX4, "digest", "()J"⟩
abbrev cX4_hashNumbers : ByteArray := prog_1_method_33_code
def yX4_hashNumbers : MethodName := ⟨RX4, "hashNumbers", "(J)J"⟩
abbrev cX4_hashProgram : ByteArray := prog_1_method_34_code
def yX4_hashProgram : MethodName := ⟨RX4, "hashProgram", "(J)J"⟩
abbrev cX4_hashValues : ByteArray := prog_1_method_35_code
def yX4_hashValues : MethodName := ⟨RX4, "hashValues", "(J)J"⟩
abbrev cX4_rehearsePlainOrder : ByteArray := prog_1_method_36_code
def yX4_rehearsePlainOrder : MethodName := ⟨RX4, "rehearsePlainOrder", "()V"⟩
abbrev cX4_rehearseCycles : ByteArray := prog_1_method_37_code
def yX4_rehearseCycles : MethodName := ⟨RX4, "rehearseCycles", "(I)V"⟩
abbrev cX4_rehearsed : ByteArray := prog_1_method_38_code
def yX4_rehearsed : MethodName := ⟨RX4, "rehearsed", "(I)I"⟩
abbrev cX4_rehearseWindows : ByteArray := prog_1_method_39_code
def yX4_rehearseWindows : MethodName := ⟨RX4, "rehearseWindows", "()V"⟩
def RX5 : String := "AlibiWindowModel"
def TX5 : u_T := fun k => match k with
  | 0 => ("AlibiWindowModel", "z", "[I", true)
  | 1 => ("AlibiWindowModel", "aside", "[I", true)
  | 2 => ("AlibiWindowModel", "rows", "[I", true)
  | 3 => ("AlibiWindowModel", "text", "[I", true)
  | 4 => ("AlibiWindowModel", "kinds", "[I", true)
  | 5 => ("AlibiWindowModel", "targets", "[I", true)
  | 6 => ("AlibiWindowModel", "ones", "[I", true)
  | 7 => ("AlibiWindowModel", "others", "[I", true)
  | 8 => ("AlibiWindowModel", "numbers", "[I", true)
  | 9 => ("AlibiWindowModel", "registers", "[I", true)
  | 10 => ("AlibiWindowModel", "cells", "[I", true)
  | 11 => ("AlibiWindowModel", "read", "I", false)
  | 12 => ("AlibiWindowModel", "sign", "I", false)
  | 13 => ("AlibiWindowModel", "state", "I", false)
  | 14 => ("AlibiWindowModel", "saved", "I", false)
  | 15 => ("AlibiWindowModel", "length", "I", false)
  | 16 => ("AlibiWindowModel", "thrown", "I", false)
  | 17 => ("AlibiWindowModel", "bestCycles", "I", false)
  | 18 => ("AlibiWindowModel", "bestReplays", "I", false)
  | _ => ("AlibiWindowModel", "h", "J", false)
def tyX5 : Nat → FieldType := fun k => match k with
  | 0 => .array .int
  | 1 => .array .int
  | 2 => .array .int
  | 3 => .array .int
  | 4 => .array .int
  | 5 => .array .int
  | 6 => .array .int
  | 7 => .array .int
  | 8 => .array .int
  | 9 => .array .int
  | 10 => .array .int
  | 11 => .int
  | 12 => .int
  | 13 => .int
  | 14 => .int
  | 15 => .int
  | 16 => .int
  | 17 => .int
  | 18 => .int
  | _ => .long
abbrev wsX50 : List Cond := u_ws RX5 TX5 20
theorem nmX5 : ∀ a, a < 20 → ∀ b, b < 20 → a ≠ b → (TX5 a).2.1 ≠ (TX5 b).2.1 := by decide +kernel
theorem tyX5_ok : ∀ k, k < 20 → parseFieldDescriptor (TX5 k).2.2.1 = some (tyX5 k) := by decide +kernel
abbrev cX5_init : ByteArray := prog_7_method_1_code
def yX5_init : MethodName := ⟨RX5, "<init>", "()V"⟩
abbrev cX5_thrown : ByteArray := prog_7_method_2_code
def yX5_thrown : MethodName := ⟨RX5, "thrown", "()I"⟩
abbrev cX5_fails : ByteArray := prog_7_method_3_code
def yX5_fails : MethodName := ⟨RX5, "fails", "(I)I"⟩
abbrev cX5_within : ByteArray := prog_7_method_4_code
def yX5_within : MethodName := ⟨RX5, "within", "(III)Z"⟩
abbrev cX5_of : ByteArray := prog_7_method_5_code
def yX5_of : MethodName := ⟨RX5, "of", "(II)I"⟩
abbrev cX5_lay : ByteArray := prog_7_method_6_code
def yX5_lay : MethodName := ⟨RX5, "lay", "(III)V"⟩
abbrev cX5_rule : ByteArray := prog_7_method_7_code
def yX5_rule : MethodName := ⟨RX5, "rule", "(I)I"⟩
abbrev cX5_save : ByteArray := prog_7_method_8_code
def yX5_save : MethodName := ⟨RX5, "save", "()V"⟩
abbrev cX5_keep : ByteArray := prog_7_method_9_code
def yX5_keep : MethodName := ⟨RX5, "keep", "()V"⟩
abbrev cX5_bring : ByteArray := prog_7_method_10_code
def yX5_bring : MethodName := ⟨RX5, "bring", "()V"⟩
abbrev cX5_entries : ByteArray := prog_7_method_11_code
def yX5_entries : MethodName := ⟨RX5, "entries", "()I"⟩
abbrev cX5_set : ByteArray := prog_7_method_12_code
def yX5_set : MethodName := ⟨RX5, "set", "(II)I"⟩
abbrev cX5_isValue : ByteArray := prog_7_method_13_code
def yX5_isValue : MethodName := ⟨RX5, "isValue", "(I)Z"⟩
abbrev cX5_puts : ByteArray := prog_7_method_14_code
def yX5_puts : MethodName := ⟨RX5, "puts", "(II)I"⟩
abbrev cX5_putRegister : ByteArray := prog_7_method_15_code
def yX5_putRegister : MethodName := ⟨RX5, "putRegister", "(II)I"⟩
abbrev cX5_putCell : ByteArray := prog_7_method_16_code
def yX5_putCell : MethodName := ⟨RX5, "putCell", "(II)I"⟩
abbrev cX5_makes : ByteArray := prog_7_method_17_code
def yX5_makes : MethodName := ⟨RX5, "makes", "(II)Z"⟩
abbrev cX5_maker : ByteArray := prog_7_method_18_code
def yX5_maker : MethodName := ⟨RX5, "maker", "(II)I"⟩
abbrev cX5_hasOne : ByteArray := prog_7_method_19_code
def yX5_hasOne : MethodName := ⟨RX5, "hasOne", "(I)Z"⟩
abbrev cX5_hasOther : ByteArray := prog_7_method_20_code
def yX5_hasOther : MethodName := ⟨RX5, "hasOther", "(I)Z"⟩
abbrev cX5_isReady : ByteArray := prog_7_method_21_code
def yX5_isReady : MethodName := ⟨RX5, "isReady", "(II)Z"⟩
abbrev cX5_valueOf : ByteArray := prog_7_method_22_code
def yX5_valueOf : MethodName := ⟨RX5, "valueOf", "(II)I"⟩
abbrev cX5_cellOf : ByteArray := prog_7_method_23_code
def yX5_cellOf : MethodName := ⟨RX5, "cellOf", "(II)I"⟩
abbrev cX5_result : ByteArray := prog_7_method_24_code
def yX5_result : MethodName := ⟨RX5, "result", "(III)I"⟩
abbrev cX5_setTo : ByteArray := prog_7_method_25_code
def yX5_setTo : MethodName := ⟨RX5, "setTo", "(I)I"⟩
abbrev cX5_retire : ByteArray := prog_7_method_26_code
def yX5_retire : MethodName := ⟨RX5, "retire", "()V"⟩
abbrev cX5_finishLoad : ByteArray := prog_7_method_27_code
def yX5_finishLoad : MethodName := ⟨RX5, "finishLoad", "(I)V"⟩
abbrev cX5_isBroken : ByteArray := prog_7_method_28_code
def yX5_isBroken : MethodName := ⟨RX5, "isBroken", "(II)Z"⟩
abbrev cX5_finishStore : ByteArray := prog_7_method_29_code
def yX5_finishStore : MethodName := ⟨RX5, "finishStore", "(I)V"⟩
abbrev cX5_finish : ByteArray := prog_7_method_30_code
def yX5_finish : MethodName := ⟨RX5, "finish", "(I)V"⟩
abbrev cX5_work : ByteArray := prog_7_method_31_code
def yX5_work : MethodName := ⟨RX5, "work", "()V"⟩
abbrev cX5_isOpenStore : ByteArray := prog_7_method_32_code
def yX5_isOpenStore : MethodName := ⟨RX5, "isOpenStore", "(I)Z"⟩
abbrev cX5_reason : ByteArray := prog_7_method_33_code
def yX5_reason : MethodName := ⟨RX5, "reason", "(I)I"⟩
abbrev cX5_needs : ByteArray := prog_7_method_34_code
def yX5_needs : MethodName := ⟨RX5, "needs", "(I)I"⟩
abbrev cX5_cycle : ByteArray := prog_7_method_35_code
def yX5_cycle : MethodName := ⟨RX5, "cycle", "()I"⟩
abbrev cX5_run : ByteArray := prog_7_method_36_code
def yX5_run : MethodName := ⟨RX5, "run", "(I)I"⟩
abbrev cX5_flush : ByteArray := prog_7_method_37_code
def yX5_flush : MethodName := ⟨RX5, "flush", "()I"⟩
abbrev cX5_begin : ByteArray := prog_7_method_38_code
def yX5_begin : MethodName := ⟨RX5, "begin", "()V"⟩
abbrev cX5_again : ByteArray := prog_7_method_39_code
def yX5_again : MethodName := ⟨RX5, "again", "()I"⟩
abbrev cX5_append : ByteArray := prog_7_method_40_code
def yX5_append : MethodName := ⟨RX5, "append", "(I)I"⟩
abbrev cX5_clearBuffer : ByteArray := prog_7_method_41_code
def yX5_clearBuffer : MethodName := ⟨RX5, "clearBuffer", "()I"⟩
abbrev cX5_goes : ByteArray := prog_7_method_42_code
def yX5_goes : MethodName := ⟨RX5, "goes", "(ZI)Z"⟩
abbrev cX5_isRegister : ByteArray := prog_7_method_43_code
def yX5_isRegister : MethodName := ⟨RX5, "isRegister", "(I)Z"⟩
abbrev cX5_isFigure : ByteArray := prog_7_method_44_code
def yX5_isFigure : MethodName := ⟨RX5, "isFigure", "(I)Z"⟩
abbrev cX5_begins : ByteArray := prog_7_method_45_code
def yX5_begins : MethodName := ⟨RX5, "begins", "(I)Z"⟩
abbrev cX5_takesRight : ByteArray := prog_7_method_46_code
def yX5_takesRight : MethodName := ⟨RX5, "takesRight", "(I)Z"⟩
abbrev cX5_takesFigure : ByteArray := prog_7_method_47_code
def yX5_takesFigure : MethodName := ⟨RX5, "takesFigure", "(I)Z"⟩
abbrev cX5_takesSign : ByteArray := prog_7_method_48_code
def yX5_takesSign : MethodName := ⟨RX5, "takesSign", "(I)Z"⟩
abbrev cX5_takesSecond : ByteArray := prog_7_method_49_code
def yX5_takesSecond : MethodName := ⟨RX5, "takesSecond", "(I)Z"⟩
abbrev cX5_ends : ByteArray := prog_7_method_50_code
def yX5_ends : MethodName := ⟨RX5, "ends", "(I)Z"⟩
abbrev cX5_takesOne : ByteArray := prog_7_method_51_code
def yX5_takesOne : MethodName := ⟨RX5, "takesOne", "(II)Z"⟩
abbrev cX5_takesOther : ByteArray := prog_7_method_52_code
def yX5_takesOther : MethodName := ⟨RX5, "takesOther", "(I)Z"⟩
abbrev cX5_takesOffset : ByteArray := prog_7_method_53_code
def yX5_takesOffset : MethodName := ⟨RX5, "takesOffset", "(II)Z"⟩
abbrev cX5_takes : ByteArray := prog_7_method_54_code
def yX5_takes : MethodName := ⟨RX5, "takes", "(I)Z"⟩
abbrev cX5_scan : ByteArray := prog_7_method_55_code
def yX5_scan : MethodName := ⟨RX5, "scan", "()I"⟩
abbrev cX5_firstError : ByteArray := prog_7_method_56_code
def yX5_firstError : MethodName := ⟨RX5, "firstError", "()I"⟩
abbrev cX5_load : ByteArray := prog_7_method_57_code
def yX5_load : MethodName := ⟨RX5, "load", "()I"⟩
abbrev cX5_undo : ByteArray := prog_7_method_58_code
def yX5_undo : MethodName := ⟨RX5, "undo", "()I"⟩
abbrev cX5_isInstruction : ByteArray := prog_7_method_59_code
def yX5_isInstruction : MethodName := ⟨RX5, "isInstruction", "(I)Z"⟩
abbrev cX5_instruction : ByteArray := prog_7_method_60_code
def yX5_instruction : MethodName := ⟨RX5, "instruction", "(II)I"⟩
abbrev cX5_entryNow : ByteArray := prog_7_method_61_code
def yX5_entryNow : MethodName := ⟨RX5, "entryNow", "(II)I"⟩
abbrev cX5_isEntry : ByteArray := prog_7_method_62_code
def yX5_isEntry : MethodName := ⟨RX5, "isEntry", "(I)Z"⟩
abbrev cX5_entry : ByteArray := prog_7_method_63_code
def yX5_entry : MethodName := ⟨RX5, "entry", "(II)I"⟩
abbrev cX5_whyNot : ByteArray := prog_7_method_64_code
def yX5_whyNot : MethodName := ⟨RX5, "whyNot", "(I)I"⟩
abbrev cX5_goPlain : ByteArray := prog_7_method_65_code
def yX5_goPlain : MethodName := ⟨RX5, "goPlain", "()V"⟩
abbrev cX5_registerNow : ByteArray := prog_7_method_66_code
def yX5_registerNow : MethodName := ⟨RX5, "registerNow", "(II)I"⟩
abbrev cX5_register : ByteArray := prog_7_method_67_code
def yX5_register : MethodName := ⟨RX5, "register", "(II)I"⟩
abbrev cX5_cellNow : ByteArray := prog_7_method_68_code
def yX5_cellNow : MethodName := ⟨RX5, "cellNow", "(II)I"⟩
abbrev cX5_cell : ByteArray := prog_7_method_69_code
def yX5_cell : MethodName := ⟨RX5, "cell", "(II)I"⟩
abbrev cX5_isFinished : ByteArray := prog_7_method_70_code
def yX5_isFinished : MethodName := ⟨RX5, "isFinished", "()Z"⟩
abbrev cX5_counted : ByteArray := prog_7_method_71_code
def yX5_counted : MethodName := ⟨RX5, "counted", "(I)I"⟩
abbrev cX5_count : ByteArray := prog_7_method_72_code
def yX5_count : MethodName := ⟨RX5, "count", "(I)I"⟩
abbrev cX5_setting : ByteArray := prog_7_method_73_code
def yX5_setting : MethodName := ⟨RX5, "setting", "(I)I"⟩
abbrev cX5_runNow : ByteArray := prog_7_method_74_code
def yX5_runNow : MethodName := ⟨RX5, "runNow", "(II)I"⟩
abbrev cX5_ifRun : ByteArray := prog_7_method_75_code
def yX5_ifRun : MethodName := ⟨RX5, "ifRun", "(II)I"⟩
abbrev cX5_goOn : ByteArray := prog_7_method_76_code
def yX5_goOn : MethodName := ⟨RX5, "goOn", "()I"⟩
abbrev cX5_leftNow : ByteArray := prog_7_method_77_code
def yX5_leftNow : MethodName := ⟨RX5, "leftNow", "()I"⟩
abbrev cX5_cyclesLeft : ByteArray := prog_7_method_78_code
def yX5_cyclesLeft : MethodName := ⟨RX5, "cyclesLeft", "()I"⟩
abbrev cX5_windowNow : ByteArray := prog_7_method_79_code
def yX5_windowNow : MethodName := ⟨RX5, "windowNow", "(I)I"⟩
abbrev cX5_bestWindow : ByteArray := prog_7_method_80_code
def yX5_bestWindow : MethodName := ⟨RX5, "bestWindow", "(I)I"⟩
abbrev cX5_worstNow : ByteArray := prog_7_method_81_code
def yX5_worstNow : MethodName := ⟨RX5, "worstNow", "()I"⟩
abbrev cX5_worstLoad : ByteArray := prog_7_method_82_code
def yX5_worstLoad : MethodName := ⟨RX5, "worstLoad", "()I"⟩
abbrev cX5_shareNow : ByteArray := prog_7_method_83_code
def yX5_shareNow : MethodName := ⟨RX5, "shareNow", "()D"⟩
abbrev cX5_earlyShare : ByteArray := prog_7_method_84_code
def yX5_earlyShare : MethodName := ⟨RX5, "earlyShare", "()D"⟩
abbrev cX5_mix : ByteArray := prog_7_method_85_code
def yX5_mix : MethodName := ⟨RX5, "mix", "(J)V"⟩
abbrev cX5_mixProgram : ByteArray := prog_7_method_86_code
def yX5_mixProgram : MethodName := ⟨RX5, "mixProgram", "()V"⟩
abbrev cX5_digest : ByteArray := prog_7_method_87_code
def yX5_digest : MethodName := ⟨RX5, "digest", "()J"⟩
def RJxe99ae : String := "java/lang/Double"
def TJxe99ae : u_T := fun k => match k with
  | _ => ("", "", "", false)
def tyJxe99ae : Nat → FieldType := fun k => match k with
  | _ => .int
abbrev wsJxe99ae0 : List Cond := u_ws RJxe99ae TJxe99ae 0
theorem nmJxe99ae : ∀ a, a < 0 → ∀ b, b < 0 → a ≠ b → (TJxe99ae a).2.1 ≠ (TJxe99ae b).2.1 := by decide +kernel
theorem tyJxe99ae_ok : ∀ k, k < 0 → parseFieldDescriptor (TJxe99ae k).2.2.1 = some (tyJxe99ae k) := by decide +kernel
abbrev cJxe99ae_isNaN_b9ae7 : ByteArray := prog_8_method_6_code
def yJxe99ae_isNaN_b9ae7 : MethodName := ⟨RJxe99ae, "isNaN", "(D)Z"⟩
abbrev cJxe99ae_doubleToLongBits_ccdee : ByteArray := prog_8_method_23_code
def yJxe99ae_doubleToLongBits_ccdee : MethodName := ⟨RJxe99ae, "doubleToLongBits", "(D)J"⟩
def RJxf58ca : String := "java/lang/Float"
def TJxf58ca : u_T := fun k => match k with
  | _ => ("", "", "", false)
def tyJxf58ca : Nat → FieldType := fun k => match k with
  | _ => .int
abbrev wsJxf58ca0 : List Cond := u_ws RJxf58ca TJxf58ca 0
theorem nmJxf58ca : ∀ a, a < 0 → ∀ b, b < 0 → a ≠ b → (TJxf58ca a).2.1 ≠ (TJxf58ca b).2.1 := by decide +kernel
theorem tyJxf58ca_ok : ∀ k, k < 0 → parseFieldDescriptor (TJxf58ca k).2.2.1 = some (tyJxf58ca k) := by decide +kernel
abbrev cJxf58ca_isNaN_12338 : ByteArray := prog_10_method_6_code
def yJxf58ca_isNaN_12338 : MethodName := ⟨RJxf58ca, "isNaN", "(F)Z"⟩
abbrev cJxf58ca_floatToIntBits_5c35a : ByteArray := prog_10_method_24_code
def yJxf58ca_floatToIntBits_5c35a : MethodName := ⟨RJxf58ca, "floatToIntBits", "(F)I"⟩
def RJ9 : String := "java/lang/Math"
def TJ9 : u_T := fun k => match k with
  | _ => ("", "", "", false)
def tyJ9 : Nat → FieldType := fun k => match k with
  | _ => .int
abbrev wsJ90 : List Cond := u_ws RJ9 TJ9 0
theorem nmJ9 : ∀ a, a < 0 → ∀ b, b < 0 → a ≠ b → (TJ9 a).2.1 ≠ (TJ9 b).2.1 := by decide +kernel
theorem tyJ9_ok : ∀ k, k < 0 → parseFieldDescriptor (TJ9 k).2.2.1 = some (tyJ9 k) := by decide +kernel
abbrev cJ9_floorMod_7cf53 : ByteArray := prog_14_method_50_code
def yJ9_floorMod_7cf53 : MethodName := ⟨RJ9, "floorMod", "(II)I"⟩
def RJ0 : String := "java/lang/String"
def TJ0 : u_T := fun k => match k with
  | _ => ("", "", "", false)
def tyJ0 : Nat → FieldType := fun k => match k with
  | _ => .int
abbrev wsJ00 : List Cond := u_ws RJ0 TJ0 0
theorem nmJ0 : ∀ a, a < 0 → ∀ b, b < 0 → a ≠ b → (TJ0 a).2.1 ≠ (TJ0 b).2.1 := by decide +kernel
theorem tyJ0_ok : ∀ k, k < 0 → parseFieldDescriptor (TJ0 k).2.2.1 = some (tyJ0 k) := by decide +kernel
def RJ10 : String := "java/lang/System"
def TJ10 : u_T := fun k => match k with
  | _ => ("", "", "", false)
def tyJ10 : Nat → FieldType := fun k => match k with
  | _ => .int
abbrev wsJ100 : List Cond := u_ws RJ10 TJ10 0
theorem nmJ10 : ∀ a, a < 0 → ∀ b, b < 0 → a ≠ b → (TJ10 a).2.1 ≠ (TJ10 b).2.1 := by decide +kernel
theorem tyJ10_ok : ∀ k, k < 0 → parseFieldDescriptor (TJ10 k).2.2.1 = some (tyJ10 k) := by decide +kernel
def RL : String := "AlibiWindowLaw"
abbrev cL_set : ByteArray := method_3_code
def yL_set : MethodName := ⟨RL, "set", "(LAlibiWindow;II[J)I"⟩
abbrev cL_putRegister : ByteArray := method_4_code
def yL_putRegister : MethodName := ⟨RL, "putRegister", "(LAlibiWindow;II[J)I"⟩
abbrev cL_putCell : ByteArray := method_5_code
def yL_putCell : MethodName := ⟨RL, "putCell", "(LAlibiWindow;II[J)I"⟩
abbrev cL_run : ByteArray := method_6_code
def yL_run : MethodName := ⟨RL, "run", "(LAlibiWindow;I[J)I"⟩
abbrev cL_append : ByteArray := method_7_code
def yL_append : MethodName := ⟨RL, "append", "(LAlibiWindow;I[J)I"⟩
abbrev cL_load : ByteArray := method_8_code
def yL_load : MethodName := ⟨RL, "load", "(LAlibiWindow;[J)I"⟩
abbrev cL_undo : ByteArray := method_9_code
def yL_undo : MethodName := ⟨RL, "undo", "(LAlibiWindow;[J)I"⟩
abbrev cL_instruction : ByteArray := method_10_code
def yL_instruction : MethodName := ⟨RL, "instruction", "(LAlibiWindow;II[J)I"⟩
abbrev cL_entry : ByteArray := method_11_code
def yL_entry : MethodName := ⟨RL, "entry", "(LAlibiWindow;II[J)I"⟩
abbrev cL_whyNot : ByteArray := method_12_code
def yL_whyNot : MethodName := ⟨RL, "whyNot", "(LAlibiWindow;I[J)I"⟩
abbrev cL_register : ByteArray := method_13_code
def yL_register : MethodName := ⟨RL, "register", "(LAlibiWindow;II[J)I"⟩
abbrev cL_cell : ByteArray := method_14_code
def yL_cell : MethodName := ⟨RL, "cell", "(LAlibiWindow;II[J)I"⟩
abbrev cL_count : ByteArray := method_15_code
def yL_count : MethodName := ⟨RL, "count", "(LAlibiWindow;I[J)I"⟩
abbrev cL_setting : ByteArray := method_16_code
def yL_setting : MethodName := ⟨RL, "setting", "(LAlibiWindow;I[J)I"⟩
abbrev cL_ifRun : ByteArray := method_17_code
def yL_ifRun : MethodName := ⟨RL, "ifRun", "(LAlibiWindow;II[J)I"⟩
abbrev cL_bestWindow : ByteArray := method_18_code
def yL_bestWindow : MethodName := ⟨RL, "bestWindow", "(LAlibiWindow;I[J)I"⟩
abbrev cL_law : ByteArray := code
def yL_law : MethodName := ⟨RL, "law", "([I)Z"⟩
abbrev vwCl : List vw_C := [(RX1, TX1, 14), (RX2, TX2, 14), (RX3, TX3, 2), (RX4, TX4, 6), (RX5, TX5, 20)]
end
section
abbrev IE : Type := Instr × Nat × List Nat
/-- X0_isInRange -/
def I_X0_isInRange (pc : Nat) : Option IE := bif Nat.blt pc 6 then (bif Nat.blt pc 3 then (bif Nat.blt pc 1 then (bif Nat.beq pc 0 then some (.iload_n 0, 1, []) else none) else (bif Nat.beq pc 1 then some (.ldc 11, 2, [0, 2147483647, 381]) else none)) else (bif Nat.blt pc 4 then (bif Nat.beq pc 3 then some (.iand, 1, []) else none) else (bif Nat.beq pc 4 then some (.ldc 12, 2, [0, 1232348160, 669]) else none))) else (bif Nat.blt pc 10 then (bif Nat.blt pc 9 then (bif Nat.beq pc 6 then some (.if_icmp .gt 7, 3, [13]) else none) else (bif Nat.beq pc 9 then some (.iconst 1, 1, []) else none)) else (bif Nat.blt pc 13 then (bif Nat.beq pc 10 then some (.goto 4, 3, [14]) else none) else (bif Nat.blt pc 14 then (bif Nat.beq pc 13 then some (.iconst 0, 1, []) else none) else (bif Nat.beq pc 14 then some (.ireturn, 1, [1]) else none))))
/-- X0_valueOf -/
def I_X0_valueOf (pc : Nat) : Option IE := bif Nat.blt pc 43 then (bif Nat.blt pc 19 then (bif Nat.blt pc 9 then (bif Nat.blt pc 4 then (bif Nat.blt pc 1 then (bif Nat.beq pc 0 then some (.iload_n 0, 1, []) else none) else (bif Nat.blt pc 3 then (bif Nat.beq pc 1 then some (.ldc 11, 2, [0, 2147483647, 381]) else none) else (bif Nat.beq pc 3 then some (.iand, 1, []) else none))) else (bif Nat.blt pc 7 then (bif Nat.blt pc 6 then (bif Nat.beq pc 4 then some (.bipush 23, 2, []) else none) else (bif Nat.beq pc 6 then some (.iushr, 1, []) else none)) else (bif Nat.blt pc 8 then (bif Nat.beq pc 7 then some (.istore_n 1, 1, []) else none) else (bif Nat.beq pc 8 then some (.iload_n 0, 1, []) else none)))) else (bif Nat.blt pc 13 then (bif Nat.blt pc 11 then (bif Nat.beq pc 9 then some (.ldc 13, 2, [0, 8388607, 382]) else none) else (bif Nat.blt pc 12 then (bif Nat.beq pc 11 then some (.iand, 1, []) else none) else (bif Nat.beq pc 12 then some (.istore_n 2, 1, []) else none))) else (bif Nat.blt pc 17 then (bif Nat.blt pc 14 then (bif Nat.beq pc 13 then some (.iload_n 1, 1, []) else none) else (bif Nat.beq pc 14 then some (.ifCond .ne 8, 3, [22]) else none)) else (bif Nat.blt pc 18 then (bif Nat.beq pc 17 then some (.iload_n 2, 1, []) else none) else (bif Nat.beq pc 18 then some (.i2d, 1, []) else none))))) else (bif Nat.blt pc 31 then (bif Nat.blt pc 25 then (bif Nat.blt pc 22 then (bif Nat.beq pc 19 then some (.goto 8, 3, [27]) else none) else (bif Nat.blt pc 23 then (bif Nat.beq pc 22 then some (.iload_n 2, 1, []) else none) else (bif Nat.beq pc 23 then some (.ldc 14, 2, [0, 8388608, 383]) else none))) else (bif Nat.blt pc 27 then (bif Nat.blt pc 26 then (bif Nat.beq pc 25 then some (.iadd, 1, []) else none) else (bif Nat.beq pc 26 then some (.i2d, 1, []) else none)) else (bif Nat.blt pc 28 then (bif Nat.beq pc 27 then some (.dstore_n 3, 1, []) else none) else (bif Nat.beq pc 28 then some (.sipush 150, 3, []) else none)))) else (bif Nat.blt pc 36 then (bif Nat.blt pc 32 then (bif Nat.beq pc 31 then some (.iload_n 1, 1, []) else none) else (bif Nat.blt pc 35 then (bif Nat.beq pc 32 then some (.ifCond .ne 7, 3, [39]) else none) else (bif Nat.beq pc 35 then some (.iconst 1, 1, []) else none))) else (bif Nat.blt pc 40 then (bif Nat.blt pc 39 then (bif Nat.beq pc 36 then some (.goto 4, 3, [40]) else none) else (bif Nat.beq pc 39 then some (.iload_n 1, 1, []) else none)) else (bif Nat.blt pc 41 then (bif Nat.beq pc 40 then some (.isub, 1, []) else none) else (bif Nat.beq pc 41 then some (.istore 5, 2, []) else none)))))) else (bif Nat.blt pc 70 then (bif Nat.blt pc 56 then (bif Nat.blt pc 49 then (bif Nat.blt pc 45 then (bif Nat.beq pc 43 then some (.iload 5, 2, []) else none) else (bif Nat.blt pc 47 then (bif Nat.beq pc 45 then some (.istore 6, 2, []) else none) else (bif Nat.beq pc 47 then some (.iload 6, 2, []) else none))) else (bif Nat.blt pc 53 then (bif Nat.blt pc 52 then (bif Nat.beq pc 49 then some (.ifCond .le 29, 3, [78]) else none) else (bif Nat.beq pc 52 then some (.dload_n 3, 1, []) else none)) else (bif Nat.blt pc 54 then (bif Nat.beq pc 53 then some (.iconst 1, 1, []) else none) else (bif Nat.beq pc 54 then some (.iload 6, 2, []) else none)))) else (bif Nat.blt pc 63 then (bif Nat.blt pc 58 then (bif Nat.beq pc 56 then some (.bipush 30, 2, []) else none) else (bif Nat.blt pc 61 then (bif Nat.beq pc 58 then some (.if_icmp .ge 8, 3, [66]) else none) else (bif Nat.beq pc 61 then some (.iload 6, 2, []) else none))) else (bif Nat.blt pc 68 then (bif Nat.blt pc 66 then (bif Nat.beq pc 63 then some (.goto 5, 3, [68]) else none) else (bif Nat.beq pc 66 then some (.bipush 30, 2, []) else none)) else (bif Nat.blt pc 69 then (bif Nat.beq pc 68 then some (.ishl, 1, []) else none) else (bif Nat.beq pc 69 then some (.i2d, 1, []) else none))))) else (bif Nat.blt pc 82 then (bif Nat.blt pc 75 then (bif Nat.blt pc 71 then (bif Nat.beq pc 70 then some (.ddiv, 1, []) else none) else (bif Nat.blt pc 72 then (bif Nat.beq pc 71 then some (.dstore_n 3, 1, []) else none) else (bif Nat.beq pc 72 then some (.iinc 6 (-30), 3, []) else none))) else (bif Nat.blt pc 79 then (bif Nat.blt pc 78 then (bif Nat.beq pc 75 then some (.goto (-28), 3, [47]) else none) else (bif Nat.beq pc 78 then some (.dload_n 3, 1, []) else none)) else (bif Nat.blt pc 80 then (bif Nat.beq pc 79 then some (.d2f, 1, []) else none) else (bif Nat.beq pc 80 then some (.fstore 6, 2, []) else none)))) else (bif Nat.blt pc 88 then (bif Nat.blt pc 83 then (bif Nat.beq pc 82 then some (.iload_n 0, 1, []) else none) else (bif Nat.blt pc 86 then (bif Nat.beq pc 83 then some (.ifCond .ge 9, 3, [92]) else none) else (bif Nat.beq pc 86 then some (.fload 6, 2, []) else none))) else (bif Nat.blt pc 92 then (bif Nat.blt pc 89 then (bif Nat.beq pc 88 then some (.fneg, 1, []) else none) else (bif Nat.beq pc 89 then some (.goto 5, 3, [94]) else none)) else (bif Nat.blt pc 94 then (bif Nat.beq pc 92 then some (.fload 6, 2, []) else none) else (bif Nat.beq pc 94 then some (.freturn, 1, []) else none))))))
/-- X0_bitsOf -/
def I_X0_bitsOf (pc : Nat) : Option IE := bif Nat.blt pc 60 then (bif Nat.blt pc 27 then (bif Nat.blt pc 11 then (bif Nat.blt pc 6 then (bif Nat.blt pc 2 then (bif Nat.blt pc 1 then (bif Nat.beq pc 0 then some (.fload_n 0, 1, []) else none) else (bif Nat.beq pc 1 then some (.fconst 0, 1, []) else none)) else (bif Nat.blt pc 3 then (bif Nat.beq pc 2 then some (.fcmp .l, 1, []) else none) else (bif Nat.beq pc 3 then some (.ifCond .ne 5, 3, [8]) else none))) else (bif Nat.blt pc 8 then (bif Nat.blt pc 7 then (bif Nat.beq pc 6 then some (.iload_n 1, 1, []) else none) else (bif Nat.beq pc 7 then some (.ireturn, 1, [0]) else none)) else (bif Nat.blt pc 9 then (bif Nat.beq pc 8 then some (.fload_n 0, 1, []) else none) else (bif Nat.blt pc 10 then (bif Nat.beq pc 9 then some (.fconst 0, 1, []) else none) else (bif Nat.beq pc 10 then some (.fcmp .g, 1, []) else none))))) else (bif Nat.blt pc 20 then (bif Nat.blt pc 16 then (bif Nat.blt pc 14 then (bif Nat.beq pc 11 then some (.ifCond .ge 8, 3, [19]) else none) else (bif Nat.beq pc 14 then some (.ldc 15, 2, [0, 2147483648, 420]) else none)) else (bif Nat.blt pc 19 then (bif Nat.beq pc 16 then some (.goto 4, 3, [20]) else none) else (bif Nat.beq pc 19 then some (.iconst 0, 1, []) else none))) else (bif Nat.blt pc 22 then (bif Nat.blt pc 21 then (bif Nat.beq pc 20 then some (.istore_n 2, 1, []) else none) else (bif Nat.beq pc 21 then some (.fload_n 0, 1, []) else none)) else (bif Nat.blt pc 23 then (bif Nat.beq pc 22 then some (.fconst 0, 1, []) else none) else (bif Nat.blt pc 24 then (bif Nat.beq pc 23 then some (.fcmp .g, 1, []) else none) else (bif Nat.beq pc 24 then some (.ifCond .ge 9, 3, [33]) else none)))))) else (bif Nat.blt pc 39 then (bif Nat.blt pc 33 then (bif Nat.blt pc 29 then (bif Nat.blt pc 28 then (bif Nat.beq pc 27 then some (.fload_n 0, 1, []) else none) else (bif Nat.beq pc 28 then some (.fneg, 1, []) else none)) else (bif Nat.blt pc 30 then (bif Nat.beq pc 29 then some (.f2d, 1, []) else none) else (bif Nat.beq pc 30 then some (.goto 5, 3, [35]) else none))) else (bif Nat.blt pc 35 then (bif Nat.blt pc 34 then (bif Nat.beq pc 33 then some (.fload_n 0, 1, []) else none) else (bif Nat.beq pc 34 then some (.f2d, 1, []) else none)) else (bif Nat.blt pc 36 then (bif Nat.beq pc 35 then some (.dstore_n 3, 1, []) else none) else (bif Nat.blt pc 37 then (bif Nat.beq pc 36 then some (.iconst 0, 1, []) else none) else (bif Nat.beq pc 37 then some (.istore 5, 2, []) else none))))) else (bif Nat.blt pc 51 then (bif Nat.blt pc 44 then (bif Nat.blt pc 41 then (bif Nat.beq pc 39 then some (.iload 5, 2, []) else none) else (bif Nat.beq pc 41 then some (.sipush 133, 3, []) else none)) else (bif Nat.blt pc 47 then (bif Nat.beq pc 44 then some (.if_icmp .ge 23, 3, [67]) else none) else (bif Nat.blt pc 48 then (bif Nat.beq pc 47 then some (.dload_n 3, 1, []) else none) else (bif Nat.beq pc 48 then some (.ldc2_w 16, 3, [3, 4643211215818981376, 424]) else none)))) else (bif Nat.blt pc 55 then (bif Nat.blt pc 52 then (bif Nat.beq pc 51 then some (.dcmp .g, 1, []) else none) else (bif Nat.beq pc 52 then some (.ifCond .ge 15, 3, [67]) else none)) else (bif Nat.blt pc 56 then (bif Nat.beq pc 55 then some (.dload_n 3, 1, []) else none) else (bif Nat.blt pc 59 then (bif Nat.beq pc 56 then some (.ldc2_w 18, 3, [3, 4679240012837945344, 425]) else none) else (bif Nat.beq pc 59 then some (.dmul, 1, []) else none))))))) else (bif Nat.blt pc 99 then (bif Nat.blt pc 80 then (bif Nat.blt pc 69 then (bif Nat.blt pc 64 then (bif Nat.blt pc 61 then (bif Nat.beq pc 60 then some (.dstore_n 3, 1, []) else none) else (bif Nat.beq pc 61 then some (.iinc 5 16, 3, []) else none)) else (bif Nat.blt pc 67 then (bif Nat.beq pc 64 then some (.goto (-25), 3, [39]) else none) else (bif Nat.beq pc 67 then some (.iload 5, 2, []) else none))) else (bif Nat.blt pc 75 then (bif Nat.blt pc 72 then (bif Nat.beq pc 69 then some (.sipush 149, 3, []) else none) else (bif Nat.beq pc 72 then some (.if_icmp .ge 23, 3, [95]) else none)) else (bif Nat.blt pc 76 then (bif Nat.beq pc 75 then some (.dload_n 3, 1, []) else none) else (bif Nat.blt pc 79 then (bif Nat.beq pc 76 then some (.ldc2_w 20, 3, [3, 4710765210229538816, 426]) else none) else (bif Nat.beq pc 79 then some (.dcmp .g, 1, []) else none))))) else (bif Nat.blt pc 89 then (bif Nat.blt pc 84 then (bif Nat.blt pc 83 then (bif Nat.beq pc 80 then some (.ifCond .ge 15, 3, [95]) else none) else (bif Nat.beq pc 83 then some (.dload_n 3, 1, []) else none)) else (bif Nat.blt pc 87 then (bif Nat.beq pc 84 then some (.ldc2_w 22, 3, [3, 4611686018427387904, 427]) else none) else (bif Nat.blt pc 88 then (bif Nat.beq pc 87 then some (.dmul, 1, []) else none) else (bif Nat.beq pc 88 then some (.dstore_n 3, 1, []) else none)))) else (bif Nat.blt pc 95 then (bif Nat.blt pc 92 then (bif Nat.beq pc 89 then some (.iinc 5 1, 3, []) else none) else (bif Nat.beq pc 92 then some (.goto (-25), 3, [67]) else none)) else (bif Nat.blt pc 96 then (bif Nat.beq pc 95 then some (.dload_n 3, 1, []) else none) else (bif Nat.blt pc 97 then (bif Nat.beq pc 96 then some (.d2i, 1, []) else none) else (bif Nat.beq pc 97 then some (.istore 6, 2, []) else none)))))) else (bif Nat.blt pc 115 then (bif Nat.blt pc 107 then (bif Nat.blt pc 103 then (bif Nat.blt pc 101 then (bif Nat.beq pc 99 then some (.iload 6, 2, []) else none) else (bif Nat.beq pc 101 then some (.ldc 14, 2, [0, 8388608, 383]) else none)) else (bif Nat.blt pc 106 then (bif Nat.beq pc 103 then some (.if_icmp .ge 8, 3, [111]) else none) else (bif Nat.beq pc 106 then some (.iload_n 2, 1, []) else none))) else (bif Nat.blt pc 110 then (bif Nat.blt pc 109 then (bif Nat.beq pc 107 then some (.iload 6, 2, []) else none) else (bif Nat.beq pc 109 then some (.ior, 1, []) else none)) else (bif Nat.blt pc 111 then (bif Nat.beq pc 110 then some (.ireturn, 1, [0]) else none) else (bif Nat.blt pc 112 then (bif Nat.beq pc 111 then some (.iload_n 2, 1, []) else none) else (bif Nat.beq pc 112 then some (.sipush 150, 3, []) else none))))) else (bif Nat.blt pc 122 then (bif Nat.blt pc 118 then (bif Nat.blt pc 117 then (bif Nat.beq pc 115 then some (.iload 5, 2, []) else none) else (bif Nat.beq pc 117 then some (.isub, 1, []) else none)) else (bif Nat.blt pc 120 then (bif Nat.beq pc 118 then some (.bipush 23, 2, []) else none) else (bif Nat.blt pc 121 then (bif Nat.beq pc 120 then some (.ishl, 1, []) else none) else (bif Nat.beq pc 121 then some (.ior, 1, []) else none)))) else (bif Nat.blt pc 126 then (bif Nat.blt pc 124 then (bif Nat.beq pc 122 then some (.iload 6, 2, []) else none) else (bif Nat.beq pc 124 then some (.ldc 13, 2, [0, 8388607, 382]) else none)) else (bif Nat.blt pc 127 then (bif Nat.beq pc 126 then some (.iand, 1, []) else none) else (bif Nat.blt pc 128 then (bif Nat.beq pc 127 then some (.ior, 1, []) else none) else (bif Nat.beq pc 128 then some (.ireturn, 1, [0]) else none)))))))
/-- X0_result -/
def I_X0_result (pc : Nat) : Option IE := bif Nat.blt pc 54 then (bif Nat.blt pc 40 then (bif Nat.blt pc 32 then (bif Nat.blt pc 28 then (bif Nat.blt pc 1 then (bif Nat.beq pc 0 then some (.iload_n 0, 1, []) else none) else (bif Nat.beq pc 1 then some (.lookupswitch 71 #[(1, 27), (2, 49)], 27, [72, 1, 28, 2, 50]) else none)) else (bif Nat.blt pc 29 then (bif Nat.beq pc 28 then some (.iload_n 1, 1, []) else none) else (bif Nat.beq pc 29 then some (.invokestatic 24, 3, [1, 1, 1, 414, 9, 7, 3]) else none))) else (bif Nat.blt pc 36 then (bif Nat.blt pc 33 then (bif Nat.beq pc 32 then some (.iload_n 2, 1, []) else none) else (bif Nat.beq pc 33 then some (.invokestatic 24, 3, [1, 1, 1, 414, 9, 7, 3]) else none)) else (bif Nat.blt pc 37 then (bif Nat.beq pc 36 then some (.fadd, 1, []) else none) else (bif Nat.beq pc 37 then some (.invokestatic 28, 3, [1, 4, 1, 415, 9, 1, 3]) else none)))) else (bif Nat.blt pc 45 then (bif Nat.blt pc 42 then (bif Nat.blt pc 41 then (bif Nat.beq pc 40 then some (.iload_n 1, 1, []) else none) else (bif Nat.beq pc 41 then some (.iload_n 2, 1, []) else none)) else (bif Nat.blt pc 43 then (bif Nat.beq pc 42 then some (.iand, 1, []) else none) else (bif Nat.beq pc 43 then some (.ldc 15, 2, [0, 2147483648, 420]) else none))) else (bif Nat.blt pc 49 then (bif Nat.blt pc 46 then (bif Nat.beq pc 45 then some (.iand, 1, []) else none) else (bif Nat.beq pc 46 then some (.invokestatic 32, 3, [1, 2, 2, 421, 9, 7, 1]) else none)) else (bif Nat.blt pc 50 then (bif Nat.beq pc 49 then some (.ireturn, 1, [0]) else none) else (bif Nat.blt pc 51 then (bif Nat.beq pc 50 then some (.iload_n 1, 1, []) else none) else (bif Nat.beq pc 51 then some (.invokestatic 24, 3, [1, 1, 1, 414, 9, 7, 3]) else none)))))) else (bif Nat.blt pc 68 then (bif Nat.blt pc 62 then (bif Nat.blt pc 58 then (bif Nat.blt pc 55 then (bif Nat.beq pc 54 then some (.iload_n 2, 1, []) else none) else (bif Nat.beq pc 55 then some (.invokestatic 24, 3, [1, 1, 1, 414, 9, 7, 3]) else none)) else (bif Nat.blt pc 59 then (bif Nat.beq pc 58 then some (.fmul, 1, []) else none) else (bif Nat.beq pc 59 then some (.invokestatic 28, 3, [1, 4, 1, 415, 9, 1, 3]) else none))) else (bif Nat.blt pc 64 then (bif Nat.blt pc 63 then (bif Nat.beq pc 62 then some (.iload_n 1, 1, []) else none) else (bif Nat.beq pc 63 then some (.iload_n 2, 1, []) else none)) else (bif Nat.blt pc 65 then (bif Nat.beq pc 64 then some (.ixor, 1, []) else none) else (bif Nat.blt pc 67 then (bif Nat.beq pc 65 then some (.ldc 15, 2, [0, 2147483648, 420]) else none) else (bif Nat.beq pc 67 then some (.iand, 1, []) else none))))) else (bif Nat.blt pc 74 then (bif Nat.blt pc 72 then (bif Nat.blt pc 71 then (bif Nat.beq pc 68 then some (.invokestatic 32, 3, [1, 2, 2, 421, 9, 7, 1]) else none) else (bif Nat.beq pc 71 then some (.ireturn, 1, [0]) else none)) else (bif Nat.blt pc 73 then (bif Nat.beq pc 72 then some (.iload_n 3, 1, []) else none) else (bif Nat.beq pc 73 then some (.i2f, 1, []) else none))) else (bif Nat.blt pc 77 then (bif Nat.blt pc 76 then (bif Nat.beq pc 74 then some (.ldc 36, 2, [1, 1082130432, 428]) else none) else (bif Nat.beq pc 76 then some (.fdiv, 1, []) else none)) else (bif Nat.blt pc 78 then (bif Nat.beq pc 77 then some (.iconst 0, 1, []) else none) else (bif Nat.blt pc 81 then (bif Nat.beq pc 78 then some (.invokestatic 32, 3, [1, 2, 2, 421, 9, 7, 1]) else none) else (bif Nat.beq pc 81 then some (.ireturn, 1, [0]) else none))))))
/-- X0_limited -/
def I_X0_limited (pc : Nat) : Option IE := bif Nat.blt pc 11 then (bif Nat.blt pc 4 then (bif Nat.blt pc 1 then (bif Nat.beq pc 0 then some (.fload_n 0, 1, []) else none) else (bif Nat.blt pc 3 then (bif Nat.beq pc 1 then some (.ldc 37, 2, [1, 1232348160, 418]) else none) else (bif Nat.beq pc 3 then some (.fcmp .l, 1, []) else none))) else (bif Nat.blt pc 9 then (bif Nat.blt pc 7 then (bif Nat.beq pc 4 then some (.ifCond .le 6, 3, [10]) else none) else (bif Nat.beq pc 7 then some (.ldc 37, 2, [1, 1232348160, 418]) else none)) else (bif Nat.blt pc 10 then (bif Nat.beq pc 9 then some (.freturn, 1, []) else none) else (bif Nat.beq pc 10 then some (.fload_n 0, 1, []) else none)))) else (bif Nat.blt pc 17 then (bif Nat.blt pc 13 then (bif Nat.beq pc 11 then some (.ldc 38, 2, [1, 3379831808, 419]) else none) else (bif Nat.blt pc 14 then (bif Nat.beq pc 13 then some (.fcmp .g, 1, []) else none) else (bif Nat.beq pc 14 then some (.ifCond .ge 8, 3, [22]) else none))) else (bif Nat.blt pc 22 then (bif Nat.blt pc 19 then (bif Nat.beq pc 17 then some (.ldc 38, 2, [1, 3379831808, 419]) else none) else (bif Nat.beq pc 19 then some (.goto 4, 3, [23]) else none)) else (bif Nat.blt pc 23 then (bif Nat.beq pc 22 then some (.fload_n 0, 1, []) else none) else (bif Nat.beq pc 23 then some (.freturn, 1, []) else none))))
/-- X0_bitsOfShare -/
def I_X0_bitsOfShare (pc : Nat) : Option IE := bif Nat.blt pc 29 then (bif Nat.blt pc 10 then (bif Nat.blt pc 6 then (bif Nat.blt pc 2 then (bif Nat.blt pc 1 then (bif Nat.beq pc 0 then some (.dload_n 0, 1, []) else none) else (bif Nat.beq pc 1 then some (.dconst 0, 1, []) else none)) else (bif Nat.blt pc 3 then (bif Nat.beq pc 2 then some (.dcmp .g, 1, []) else none) else (bif Nat.beq pc 3 then some (.ifCond .gt 5, 3, [8]) else none))) else (bif Nat.blt pc 8 then (bif Nat.blt pc 7 then (bif Nat.beq pc 6 then some (.lconst 0, 1, []) else none) else (bif Nat.beq pc 7 then some (.lreturn, 1, []) else none)) else (bif Nat.blt pc 9 then (bif Nat.beq pc 8 then some (.dload_n 0, 1, []) else none) else (bif Nat.beq pc 9 then some (.dstore_n 2, 1, []) else none)))) else (bif Nat.blt pc 18 then (bif Nat.blt pc 13 then (bif Nat.blt pc 11 then (bif Nat.beq pc 10 then some (.iconst 0, 1, []) else none) else (bif Nat.beq pc 11 then some (.istore 4, 2, []) else none)) else (bif Nat.blt pc 15 then (bif Nat.beq pc 13 then some (.iload 4, 2, []) else none) else (bif Nat.beq pc 15 then some (.sipush 1074, 3, []) else none))) else (bif Nat.blt pc 22 then (bif Nat.blt pc 21 then (bif Nat.beq pc 18 then some (.if_icmp .ge 23, 3, [41]) else none) else (bif Nat.beq pc 21 then some (.dload_n 2, 1, []) else none)) else (bif Nat.blt pc 25 then (bif Nat.beq pc 22 then some (.ldc2_w 39, 3, [3, 4841369599423283200, 634]) else none) else (bif Nat.blt pc 26 then (bif Nat.beq pc 25 then some (.dcmp .g, 1, []) else none) else (bif Nat.beq pc 26 then some (.ifCond .ge 15, 3, [41]) else none)))))) else (bif Nat.blt pc 47 then (bif Nat.blt pc 35 then (bif Nat.blt pc 33 then (bif Nat.blt pc 30 then (bif Nat.beq pc 29 then some (.dload_n 2, 1, []) else none) else (bif Nat.beq pc 30 then some (.ldc2_w 22, 3, [3, 4611686018427387904, 427]) else none)) else (bif Nat.blt pc 34 then (bif Nat.beq pc 33 then some (.dmul, 1, []) else none) else (bif Nat.beq pc 34 then some (.dstore_n 2, 1, []) else none))) else (bif Nat.blt pc 41 then (bif Nat.blt pc 38 then (bif Nat.beq pc 35 then some (.iinc 4 1, 3, []) else none) else (bif Nat.beq pc 38 then some (.goto (-25), 3, [13]) else none)) else (bif Nat.blt pc 44 then (bif Nat.beq pc 41 then some (.sipush 1075, 3, []) else none) else (bif Nat.blt pc 46 then (bif Nat.beq pc 44 then some (.iload 4, 2, []) else none) else (bif Nat.beq pc 46 then some (.isub, 1, []) else none))))) else (bif Nat.blt pc 52 then (bif Nat.blt pc 50 then (bif Nat.blt pc 48 then (bif Nat.beq pc 47 then some (.i2l, 1, []) else none) else (bif Nat.beq pc 48 then some (.bipush 52, 2, []) else none)) else (bif Nat.blt pc 51 then (bif Nat.beq pc 50 then some (.lshl, 1, []) else none) else (bif Nat.beq pc 51 then some (.dload_n 2, 1, []) else none))) else (bif Nat.blt pc 56 then (bif Nat.blt pc 53 then (bif Nat.beq pc 52 then some (.d2l, 1, []) else none) else (bif Nat.beq pc 53 then some (.ldc2_w 41, 3, [2, 4503599627370495, 635]) else none)) else (bif Nat.blt pc 57 then (bif Nat.beq pc 56 then some (.land, 1, []) else none) else (bif Nat.blt pc 58 then (bif Nat.beq pc 57 then some (.lor, 1, []) else none) else (bif Nat.beq pc 58 then some (.lreturn, 1, []) else none))))))
/-- X1_init -/
def I_X1_init (pc : Nat) : Option IE := bif Nat.blt pc 16 then (bif Nat.blt pc 9 then (bif Nat.blt pc 4 then (bif Nat.blt pc 1 then (bif Nat.beq pc 0 then some (.aload_n 0, 1, []) else none) else (bif Nat.beq pc 1 then some (.invokespecial 3, 3, [3, 0, 0, 105]) else none)) else (bif Nat.blt pc 5 then (bif Nat.beq pc 4 then some (.aload_n 0, 1, []) else none) else (bif Nat.blt pc 6 then (bif Nat.beq pc 5 then some (.iconst (-1), 1, []) else none) else (bif Nat.beq pc 6 then some (.putfield 9, 3, [0, 1, 0, 108]) else none)))) else (bif Nat.blt pc 11 then (bif Nat.blt pc 10 then (bif Nat.beq pc 9 then some (.aload_n 0, 1, []) else none) else (bif Nat.beq pc 10 then some (.iconst (-1), 1, []) else none)) else (bif Nat.blt pc 14 then (bif Nat.beq pc 11 then some (.putfield 15, 3, [0, 2, 0, 110]) else none) else (bif Nat.blt pc 15 then (bif Nat.beq pc 14 then some (.aload_n 0, 1, []) else none) else (bif Nat.beq pc 15 then some (.iconst (-1), 1, []) else none))))) else (bif Nat.blt pc 25 then (bif Nat.blt pc 20 then (bif Nat.blt pc 19 then (bif Nat.beq pc 16 then some (.putfield 18, 3, [0, 3, 0, 112]) else none) else (bif Nat.beq pc 19 then some (.aload_n 0, 1, []) else none)) else (bif Nat.blt pc 21 then (bif Nat.beq pc 20 then some (.iconst (-1), 1, []) else none) else (bif Nat.blt pc 24 then (bif Nat.beq pc 21 then some (.putfield 21, 3, [0, 9, 0, 125]) else none) else (bif Nat.beq pc 24 then some (.aload_n 0, 1, []) else none)))) else (bif Nat.blt pc 30 then (bif Nat.blt pc 26 then (bif Nat.beq pc 25 then some (.iconst (-1), 1, []) else none) else (bif Nat.blt pc 29 then (bif Nat.beq pc 26 then some (.putfield 24, 3, [0, 10, 0, 127]) else none) else (bif Nat.beq pc 29 then some (.aload_n 0, 1, []) else none))) else (bif Nat.blt pc 31 then (bif Nat.beq pc 30 then some (.iconst (-1), 1, []) else none) else (bif Nat.blt pc 34 then (bif Nat.beq pc 31 then some (.putfield 27, 3, [0, 12, 0, 131]) else none) else (bif Nat.beq pc 34 then some (.return_, 1, []) else none)))))
/-- X1_become -/
def I_X1_become (pc : Nat) : Option IE := bif Nat.blt pc 12 then (bif Nat.blt pc 6 then (bif Nat.blt pc 2 then (bif Nat.blt pc 1 then (bif Nat.beq pc 0 then some (.aload_n 0, 1, []) else none) else (bif Nat.beq pc 1 then some (.iload_n 1, 1, []) else none)) else (bif Nat.blt pc 5 then (bif Nat.beq pc 2 then some (.putfield 30, 3, [0, 0, 0, 106]) else none) else (bif Nat.beq pc 5 then some (.aload_n 0, 1, []) else none))) else (bif Nat.blt pc 10 then (bif Nat.blt pc 7 then (bif Nat.beq pc 6 then some (.iload_n 2, 1, []) else none) else (bif Nat.beq pc 7 then some (.putfield 9, 3, [0, 1, 0, 108]) else none)) else (bif Nat.blt pc 11 then (bif Nat.beq pc 10 then some (.aload_n 0, 1, []) else none) else (bif Nat.beq pc 11 then some (.iload_n 3, 1, []) else none)))) else (bif Nat.blt pc 21 then (bif Nat.blt pc 16 then (bif Nat.blt pc 15 then (bif Nat.beq pc 12 then some (.putfield 15, 3, [0, 2, 0, 110]) else none) else (bif Nat.beq pc 15 then some (.aload_n 0, 1, []) else none)) else (bif Nat.blt pc 18 then (bif Nat.beq pc 16 then some (.iload 4, 2, []) else none) else (bif Nat.beq pc 18 then some (.putfield 18, 3, [0, 3, 0, 112]) else none))) else (bif Nat.blt pc 24 then (bif Nat.blt pc 22 then (bif Nat.beq pc 21 then some (.aload_n 0, 1, []) else none) else (bif Nat.beq pc 22 then some (.iload 5, 2, []) else none)) else (bif Nat.blt pc 27 then (bif Nat.beq pc 24 then some (.putfield 33, 3, [0, 4, 0, 114]) else none) else (bif Nat.beq pc 27 then some (.return_, 1, []) else none))))
/-- X1_becomeLike -/
def I_X1_becomeLike (pc : Nat) : Option IE := bif Nat.blt pc 48 then (bif Nat.blt pc 24 then (bif Nat.blt pc 10 then (bif Nat.blt pc 5 then (bif Nat.blt pc 1 then (bif Nat.beq pc 0 then some (.aload_n 0, 1, []) else none) else (bif Nat.blt pc 2 then (bif Nat.beq pc 1 then some (.aload_n 1, 1, []) else none) else (bif Nat.beq pc 2 then some (.getfield 30, 3, [0, 0, 0, 106]) else none))) else (bif Nat.blt pc 6 then (bif Nat.beq pc 5 then some (.aload_n 1, 1, []) else none) else (bif Nat.blt pc 9 then (bif Nat.beq pc 6 then some (.getfield 9, 3, [0, 1, 0, 108]) else none) else (bif Nat.beq pc 9 then some (.aload_n 1, 1, []) else none)))) else (bif Nat.blt pc 17 then (bif Nat.blt pc 13 then (bif Nat.beq pc 10 then some (.getfield 15, 3, [0, 2, 0, 110]) else none) else (bif Nat.blt pc 14 then (bif Nat.beq pc 13 then some (.aload_n 1, 1, []) else none) else (bif Nat.beq pc 14 then some (.getfield 18, 3, [0, 3, 0, 112]) else none))) else (bif Nat.blt pc 18 then (bif Nat.beq pc 17 then some (.aload_n 1, 1, []) else none) else (bif Nat.blt pc 21 then (bif Nat.beq pc 18 then some (.getfield 33, 3, [0, 4, 0, 114]) else none) else (bif Nat.beq pc 21 then some (.invokevirtual 36, 3, [0, 7, 5, 274, 0, 6, 0]) else none))))) else (bif Nat.blt pc 34 then (bif Nat.blt pc 29 then (bif Nat.blt pc 25 then (bif Nat.beq pc 24 then some (.aload_n 0, 1, []) else none) else (bif Nat.blt pc 26 then (bif Nat.beq pc 25 then some (.aload_n 1, 1, []) else none) else (bif Nat.beq pc 26 then some (.getfield 40, 3, [0, 5, 0, 116]) else none))) else (bif Nat.blt pc 32 then (bif Nat.beq pc 29 then some (.putfield 40, 3, [0, 5, 0, 116]) else none) else (bif Nat.blt pc 33 then (bif Nat.beq pc 32 then some (.aload_n 0, 1, []) else none) else (bif Nat.beq pc 33 then some (.aload_n 1, 1, []) else none)))) else (bif Nat.blt pc 41 then (bif Nat.blt pc 37 then (bif Nat.beq pc 34 then some (.getfield 43, 3, [0, 6, 0, 118]) else none) else (bif Nat.blt pc 40 then (bif Nat.beq pc 37 then some (.putfield 43, 3, [0, 6, 0, 118]) else none) else (bif Nat.beq pc 40 then some (.aload_n 0, 1, []) else none))) else (bif Nat.blt pc 42 then (bif Nat.beq pc 41 then some (.aload_n 1, 1, []) else none) else (bif Nat.blt pc 45 then (bif Nat.beq pc 42 then some (.getfield 46, 3, [0, 7, 0, 121]) else none) else (bif Nat.beq pc 45 then some (.putfield 46, 3, [0, 7, 0, 121]) else none)))))) else (bif Nat.blt pc 72 then (bif Nat.blt pc 58 then (bif Nat.blt pc 53 then (bif Nat.blt pc 49 then (bif Nat.beq pc 48 then some (.aload_n 0, 1, []) else none) else (bif Nat.blt pc 50 then (bif Nat.beq pc 49 then some (.aload_n 1, 1, []) else none) else (bif Nat.beq pc 50 then some (.getfield 49, 3, [0, 8, 0, 123]) else none))) else (bif Nat.blt pc 56 then (bif Nat.beq pc 53 then some (.putfield 49, 3, [0, 8, 0, 123]) else none) else (bif Nat.blt pc 57 then (bif Nat.beq pc 56 then some (.aload_n 0, 1, []) else none) else (bif Nat.beq pc 57 then some (.aload_n 1, 1, []) else none)))) else (bif Nat.blt pc 65 then (bif Nat.blt pc 61 then (bif Nat.beq pc 58 then some (.getfield 21, 3, [0, 9, 0, 125]) else none) else (bif Nat.blt pc 64 then (bif Nat.beq pc 61 then some (.putfield 21, 3, [0, 9, 0, 125]) else none) else (bif Nat.beq pc 64 then some (.aload_n 0, 1, []) else none))) else (bif Nat.blt pc 66 then (bif Nat.beq pc 65 then some (.aload_n 1, 1, []) else none) else (bif Nat.blt pc 69 then (bif Nat.beq pc 66 then some (.getfield 24, 3, [0, 10, 0, 127]) else none) else (bif Nat.beq pc 69 then some (.putfield 24, 3, [0, 10, 0, 127]) else none))))) else (bif Nat.blt pc 82 then (bif Nat.blt pc 77 then (bif Nat.blt pc 73 then (bif Nat.beq pc 72 then some (.aload_n 0, 1, []) else none) else (bif Nat.blt pc 74 then (bif Nat.beq pc 73 then some (.aload_n 1, 1, []) else none) else (bif Nat.beq pc 74 then some (.getfield 52, 3, [0, 11, 0, 129]) else none))) else (bif Nat.blt pc 80 then (bif Nat.beq pc 77 then some (.putfield 52, 3, [0, 11, 0, 129]) else none) else (bif Nat.blt pc 81 then (bif Nat.beq pc 80 then some (.aload_n 0, 1, []) else none) else (bif Nat.beq pc 81 then some (.aload_n 1, 1, []) else none)))) else (bif Nat.blt pc 89 then (bif Nat.blt pc 85 then (bif Nat.beq pc 82 then some (.getfield 27, 3, [0, 12, 0, 131]) else none) else (bif Nat.blt pc 88 then (bif Nat.beq pc 85 then some (.putfield 27, 3, [0, 12, 0, 131]) else none) else (bif Nat.beq pc 88 then some (.aload_n 0, 1, []) else none))) else (bif Nat.blt pc 93 then (bif Nat.blt pc 90 then (bif Nat.beq pc 89 then some (.aload_n 1, 1, []) else none) else (bif Nat.beq pc 90 then some (.getfield 55, 3, [0, 13, 0, 133]) else none)) else (bif Nat.blt pc 96 then (bif Nat.beq pc 93 then some (.putfield 55, 3, [0, 13, 0, 133]) else none) else (bif Nat.beq pc 96 then some (.return_, 1, []) else none))))))
/-- X1_isDone -/
def I_X1_isDone (pc : Nat) : Option IE := bif Nat.blt pc 12 then (bif Nat.blt pc 5 then (bif Nat.blt pc 1 then (bif Nat.beq pc 0 then some (.aload_n 0, 1, []) else none) else (bif Nat.blt pc 4 then (bif Nat.beq pc 1 then some (.getfield 30, 3, [0, 0, 0, 106]) else none) else (bif Nat.beq pc 4 then some (.iload_n 1, 1, []) else none))) else (bif Nat.blt pc 8 then (bif Nat.beq pc 5 then some (.if_icmp .ne 15, 3, [20]) else none) else (bif Nat.blt pc 9 then (bif Nat.beq pc 8 then some (.aload_n 0, 1, []) else none) else (bif Nat.beq pc 9 then some (.getfield 46, 3, [0, 7, 0, 121]) else none)))) else (bif Nat.blt pc 17 then (bif Nat.blt pc 13 then (bif Nat.beq pc 12 then some (.iconst 2, 1, []) else none) else (bif Nat.blt pc 16 then (bif Nat.beq pc 13 then some (.if_icmp .ne 7, 3, [20]) else none) else (bif Nat.beq pc 16 then some (.iconst 1, 1, []) else none))) else (bif Nat.blt pc 20 then (bif Nat.beq pc 17 then some (.goto 4, 3, [21]) else none) else (bif Nat.blt pc 21 then (bif Nat.beq pc 20 then some (.iconst 0, 1, []) else none) else (bif Nat.beq pc 21 then some (.ireturn, 1, [1]) else none))))
/-- X1_endsItsWork -/
def I_X1_endsItsWork (pc : Nat) : Option IE := bif Nat.blt pc 15 then (bif Nat.blt pc 8 then (bif Nat.blt pc 4 then (bif Nat.blt pc 1 then (bif Nat.beq pc 0 then some (.aload_n 0, 1, []) else none) else (bif Nat.beq pc 1 then some (.getfield 46, 3, [0, 7, 0, 121]) else none)) else (bif Nat.blt pc 5 then (bif Nat.beq pc 4 then some (.iconst 1, 1, []) else none) else (bif Nat.beq pc 5 then some (.if_icmp .eq 5, 3, [10]) else none))) else (bif Nat.blt pc 10 then (bif Nat.blt pc 9 then (bif Nat.beq pc 8 then some (.iconst 0, 1, []) else none) else (bif Nat.beq pc 9 then some (.ireturn, 1, [1]) else none)) else (bif Nat.blt pc 11 then (bif Nat.beq pc 10 then some (.aload_n 0, 1, []) else none) else (bif Nat.blt pc 12 then (bif Nat.beq pc 11 then some (.dup, 1, []) else none) else (bif Nat.beq pc 12 then some (.getfield 49, 3, [0, 8, 0, 123]) else none))))) else (bif Nat.blt pc 24 then (bif Nat.blt pc 17 then (bif Nat.blt pc 16 then (bif Nat.beq pc 15 then some (.iconst 1, 1, []) else none) else (bif Nat.beq pc 16 then some (.isub, 1, []) else none)) else (bif Nat.blt pc 20 then (bif Nat.beq pc 17 then some (.putfield 49, 3, [0, 8, 0, 123]) else none) else (bif Nat.blt pc 21 then (bif Nat.beq pc 20 then some (.aload_n 0, 1, []) else none) else (bif Nat.beq pc 21 then some (.getfield 49, 3, [0, 8, 0, 123]) else none)))) else (bif Nat.blt pc 28 then (bif Nat.blt pc 27 then (bif Nat.beq pc 24 then some (.ifCond .gt 7, 3, [31]) else none) else (bif Nat.beq pc 27 then some (.iconst 1, 1, []) else none)) else (bif Nat.blt pc 31 then (bif Nat.beq pc 28 then some (.goto 4, 3, [32]) else none) else (bif Nat.blt pc 32 then (bif Nat.beq pc 31 then some (.iconst 0, 1, []) else none) else (bif Nat.beq pc 32 then some (.ireturn, 1, [1]) else none)))))
/-- X1_cyclesNeeded -/
def I_X1_cyclesNeeded (pc : Nat) : Option IE := bif Nat.blt pc 33 then (bif Nat.blt pc 4 then (bif Nat.blt pc 1 then (bif Nat.beq pc 0 then some (.aload_n 0, 1, []) else none) else (bif Nat.beq pc 1 then some (.getfield 30, 3, [0, 0, 0, 106]) else none)) else (bif Nat.blt pc 32 then (bif Nat.beq pc 4 then some (.lookupswitch 32 #[(2, 28), (3, 30)], 28, [36, 2, 32, 3, 34]) else none) else (bif Nat.beq pc 32 then some (.iconst 3, 1, []) else none))) else (bif Nat.blt pc 35 then (bif Nat.blt pc 34 then (bif Nat.beq pc 33 then some (.ireturn, 1, [0]) else none) else (bif Nat.beq pc 34 then some (.iconst 2, 1, []) else none)) else (bif Nat.blt pc 36 then (bif Nat.beq pc 35 then some (.ireturn, 1, [0]) else none) else (bif Nat.blt pc 37 then (bif Nat.beq pc 36 then some (.iconst 1, 1, []) else none) else (bif Nat.beq pc 37 then some (.ireturn, 1, [0]) else none))))
/-- X1_part -/
def I_X1_part (pc : Nat) : Option IE := bif Nat.blt pc 55 then (bif Nat.blt pc 45 then (bif Nat.blt pc 40 then (bif Nat.blt pc 1 then (bif Nat.beq pc 0 then some (.iload_n 1, 1, []) else none) else (bif Nat.beq pc 1 then some (.tableswitch 69 0 5 #[39, 44, 49, 54, 59, 64], 39, [70, 0, 40, 1, 45, 2, 50, 3, 55, 4, 60, 5, 65]) else none)) else (bif Nat.blt pc 41 then (bif Nat.beq pc 40 then some (.aload_n 0, 1, []) else none) else (bif Nat.blt pc 44 then (bif Nat.beq pc 41 then some (.getfield 30, 3, [0, 0, 0, 106]) else none) else (bif Nat.beq pc 44 then some (.ireturn, 1, [0]) else none)))) else (bif Nat.blt pc 50 then (bif Nat.blt pc 46 then (bif Nat.beq pc 45 then some (.aload_n 0, 1, []) else none) else (bif Nat.blt pc 49 then (bif Nat.beq pc 46 then some (.getfield 9, 3, [0, 1, 0, 108]) else none) else (bif Nat.beq pc 49 then some (.ireturn, 1, [0]) else none))) else (bif Nat.blt pc 51 then (bif Nat.beq pc 50 then some (.aload_n 0, 1, []) else none) else (bif Nat.blt pc 54 then (bif Nat.beq pc 51 then some (.getfield 15, 3, [0, 2, 0, 110]) else none) else (bif Nat.beq pc 54 then some (.ireturn, 1, [0]) else none))))) else (bif Nat.blt pc 65 then (bif Nat.blt pc 60 then (bif Nat.blt pc 56 then (bif Nat.beq pc 55 then some (.aload_n 0, 1, []) else none) else (bif Nat.blt pc 59 then (bif Nat.beq pc 56 then some (.getfield 18, 3, [0, 3, 0, 112]) else none) else (bif Nat.beq pc 59 then some (.ireturn, 1, [0]) else none))) else (bif Nat.blt pc 61 then (bif Nat.beq pc 60 then some (.aload_n 0, 1, []) else none) else (bif Nat.blt pc 64 then (bif Nat.beq pc 61 then some (.getfield 33, 3, [0, 4, 0, 114]) else none) else (bif Nat.beq pc 64 then some (.ireturn, 1, [0]) else none)))) else (bif Nat.blt pc 70 then (bif Nat.blt pc 66 then (bif Nat.beq pc 65 then some (.aload_n 0, 1, []) else none) else (bif Nat.blt pc 69 then (bif Nat.beq pc 66 then some (.getfield 40, 3, [0, 5, 0, 116]) else none) else (bif Nat.beq pc 69 then some (.ireturn, 1, [0]) else none))) else (bif Nat.blt pc 71 then (bif Nat.beq pc 70 then some (.aload_n 0, 1, []) else none) else (bif Nat.blt pc 74 then (bif Nat.beq pc 71 then some (.getfield 43, 3, [0, 6, 0, 118]) else none) else (bif Nat.beq pc 74 then some (.ireturn, 1, [0]) else none)))))
/-- X2_init -/
def I_X2_init (pc : Nat) : Option IE := bif Nat.blt pc 51 then (bif Nat.blt pc 27 then (bif Nat.blt pc 13 then (bif Nat.blt pc 5 then (bif Nat.blt pc 1 then (bif Nat.beq pc 0 then some (.aload_n 0, 1, []) else none) else (bif Nat.blt pc 4 then (bif Nat.beq pc 1 then some (.invokespecial 3, 3, [3, 0, 0, 98]) else none) else (bif Nat.beq pc 4 then some (.aload_n 0, 1, []) else none))) else (bif Nat.blt pc 7 then (bif Nat.beq pc 5 then some (.bipush 24, 2, []) else none) else (bif Nat.blt pc 10 then (bif Nat.beq pc 7 then some (.anewarray 9, 3, [7, 99, 100]) else none) else (bif Nat.beq pc 10 then some (.putfield 11, 3, [1, 0, 1, 164]) else none)))) else (bif Nat.blt pc 18 then (bif Nat.blt pc 14 then (bif Nat.beq pc 13 then some (.aload_n 0, 1, []) else none) else (bif Nat.blt pc 17 then (bif Nat.beq pc 14 then some (.new 9, 3, [0, 99, 101]) else none) else (bif Nat.beq pc 17 then some (.dup, 1, []) else none))) else (bif Nat.blt pc 24 then (bif Nat.blt pc 21 then (bif Nat.beq pc 18 then some (.invokespecial 17, 3, [4, 6, 0, 102, 0, 1, 0]) else none) else (bif Nat.beq pc 21 then some (.putfield 18, 3, [1, 1, 1, 165]) else none)) else (bif Nat.blt pc 25 then (bif Nat.beq pc 24 then some (.aload_n 0, 1, []) else none) else (bif Nat.beq pc 25 then some (.bipush 8, 2, []) else none))))) else (bif Nat.blt pc 41 then (bif Nat.blt pc 33 then (bif Nat.blt pc 29 then (bif Nat.beq pc 27 then some (.newarray .int, 2, [6, 218]) else none) else (bif Nat.blt pc 32 then (bif Nat.beq pc 29 then some (.putfield 22, 3, [1, 2, 1, 166]) else none) else (bif Nat.beq pc 32 then some (.aload_n 0, 1, []) else none))) else (bif Nat.blt pc 37 then (bif Nat.blt pc 35 then (bif Nat.beq pc 33 then some (.bipush 16, 2, []) else none) else (bif Nat.beq pc 35 then some (.newarray .int, 2, [6, 218]) else none)) else (bif Nat.blt pc 40 then (bif Nat.beq pc 37 then some (.putfield 26, 3, [1, 3, 1, 168]) else none) else (bif Nat.beq pc 40 then some (.aload_n 0, 1, []) else none)))) else (bif Nat.blt pc 47 then (bif Nat.blt pc 42 then (bif Nat.beq pc 41 then some (.iconst 3, 1, []) else none) else (bif Nat.blt pc 44 then (bif Nat.beq pc 42 then some (.newarray .int, 2, [6, 218]) else none) else (bif Nat.beq pc 44 then some (.putfield 29, 3, [1, 4, 1, 170]) else none))) else (bif Nat.blt pc 49 then (bif Nat.blt pc 48 then (bif Nat.beq pc 47 then some (.iconst 0, 1, []) else none) else (bif Nat.beq pc 48 then some (.istore_n 1, 1, []) else none)) else (bif Nat.blt pc 50 then (bif Nat.beq pc 49 then some (.iload_n 1, 1, []) else none) else (bif Nat.beq pc 50 then some (.aload_n 0, 1, []) else none)))))) else (bif Nat.blt pc 81 then (bif Nat.blt pc 66 then (bif Nat.blt pc 58 then (bif Nat.blt pc 54 then (bif Nat.beq pc 51 then some (.getfield 11, 3, [1, 0, 1, 164]) else none) else (bif Nat.blt pc 55 then (bif Nat.beq pc 54 then some (.arraylength, 1, []) else none) else (bif Nat.beq pc 55 then some (.if_icmp .ge 22, 3, [77]) else none))) else (bif Nat.blt pc 62 then (bif Nat.blt pc 59 then (bif Nat.beq pc 58 then some (.aload_n 0, 1, []) else none) else (bif Nat.beq pc 59 then some (.getfield 11, 3, [1, 0, 1, 164]) else none)) else (bif Nat.blt pc 63 then (bif Nat.beq pc 62 then some (.iload_n 1, 1, []) else none) else (bif Nat.beq pc 63 then some (.new 9, 3, [0, 99, 101]) else none)))) else (bif Nat.blt pc 71 then (bif Nat.blt pc 67 then (bif Nat.beq pc 66 then some (.dup, 1, []) else none) else (bif Nat.blt pc 70 then (bif Nat.beq pc 67 then some (.invokespecial 17, 3, [4, 6, 0, 102, 0, 1, 0]) else none) else (bif Nat.beq pc 70 then some (.aastore, 1, []) else none))) else (bif Nat.blt pc 77 then (bif Nat.blt pc 74 then (bif Nat.beq pc 71 then some (.iinc 1 1, 3, []) else none) else (bif Nat.beq pc 74 then some (.goto (-25), 3, [49]) else none)) else (bif Nat.blt pc 78 then (bif Nat.beq pc 77 then some (.aload_n 0, 1, []) else none) else (bif Nat.beq pc 78 then some (.getfield 29, 3, [1, 4, 1, 170]) else none))))) else (bif Nat.blt pc 90 then (bif Nat.blt pc 84 then (bif Nat.blt pc 82 then (bif Nat.beq pc 81 then some (.iconst 0, 1, []) else none) else (bif Nat.blt pc 83 then (bif Nat.beq pc 82 then some (.iconst 4, 1, []) else none) else (bif Nat.beq pc 83 then some (.iastore, 1, []) else none))) else (bif Nat.blt pc 88 then (bif Nat.blt pc 85 then (bif Nat.beq pc 84 then some (.aload_n 0, 1, []) else none) else (bif Nat.beq pc 85 then some (.getfield 29, 3, [1, 4, 1, 170]) else none)) else (bif Nat.blt pc 89 then (bif Nat.beq pc 88 then some (.iconst 1, 1, []) else none) else (bif Nat.beq pc 89 then some (.iconst 2, 1, []) else none)))) else (bif Nat.blt pc 95 then (bif Nat.blt pc 91 then (bif Nat.beq pc 90 then some (.iastore, 1, []) else none) else (bif Nat.blt pc 92 then (bif Nat.beq pc 91 then some (.aload_n 0, 1, []) else none) else (bif Nat.beq pc 92 then some (.getfield 29, 3, [1, 4, 1, 170]) else none))) else (bif Nat.blt pc 97 then (bif Nat.blt pc 96 then (bif Nat.beq pc 95 then some (.iconst 2, 1, []) else none) else (bif Nat.beq pc 96 then some (.iconst 2, 1, []) else none)) else (bif Nat.blt pc 98 then (bif Nat.beq pc 97 then some (.iastore, 1, []) else none) else (bif Nat.beq pc 98 then some (.return_, 1, []) else none))))))
/-- X2_greatest -/
def I_X2_greatest (pc : Nat) : Option IE := bif Nat.blt pc 6 then (bif Nat.blt pc 1 then (bif Nat.beq pc 0 then some (.iload_n 0, 1, []) else none) else (bif Nat.blt pc 4 then (bif Nat.beq pc 1 then some (.ifCond .ne 8, 3, [9]) else none) else (bif Nat.beq pc 4 then some (.bipush 8, 2, []) else none))) else (bif Nat.blt pc 9 then (bif Nat.beq pc 6 then some (.goto 4, 3, [10]) else none) else (bif Nat.blt pc 10 then (bif Nat.beq pc 9 then some (.iconst 4, 1, []) else none) else (bif Nat.beq pc 10 then some (.ireturn, 1, [0]) else none)))
/-- X2_becomeLike -/
def I_X2_becomeLike (pc : Nat) : Option IE := bif Nat.blt pc 70 then (bif Nat.blt pc 35 then (bif Nat.blt pc 15 then (bif Nat.blt pc 4 then (bif Nat.blt pc 2 then (bif Nat.blt pc 1 then (bif Nat.beq pc 0 then some (.iconst 0, 1, []) else none) else (bif Nat.beq pc 1 then some (.istore_n 2, 1, []) else none)) else (bif Nat.blt pc 3 then (bif Nat.beq pc 2 then some (.iload_n 2, 1, []) else none) else (bif Nat.beq pc 3 then some (.aload_n 1, 1, []) else none))) else (bif Nat.blt pc 10 then (bif Nat.blt pc 7 then (bif Nat.beq pc 4 then some (.getfield 32, 3, [1, 6, 0, 174]) else none) else (bif Nat.beq pc 7 then some (.if_icmp .ge 22, 3, [29]) else none)) else (bif Nat.blt pc 11 then (bif Nat.beq pc 10 then some (.aload_n 0, 1, []) else none) else (bif Nat.blt pc 12 then (bif Nat.beq pc 11 then some (.iload_n 2, 1, []) else none) else (bif Nat.beq pc 12 then some (.invokevirtual 36, 3, [0, 17, 1, 266, 1, 2, 5]) else none))))) else (bif Nat.blt pc 26 then (bif Nat.blt pc 17 then (bif Nat.blt pc 16 then (bif Nat.beq pc 15 then some (.aload_n 1, 1, []) else none) else (bif Nat.beq pc 16 then some (.iload_n 2, 1, []) else none)) else (bif Nat.blt pc 20 then (bif Nat.beq pc 17 then some (.invokevirtual 36, 3, [0, 17, 1, 266, 1, 2, 5]) else none) else (bif Nat.blt pc 23 then (bif Nat.beq pc 20 then some (.invokevirtual 40, 3, [0, 8, 1, 270, 0, 2, 0]) else none) else (bif Nat.beq pc 23 then some (.iinc 2 1, 3, []) else none)))) else (bif Nat.blt pc 30 then (bif Nat.blt pc 29 then (bif Nat.beq pc 26 then some (.goto (-24), 3, [2]) else none) else (bif Nat.beq pc 29 then some (.aload_n 1, 1, []) else none)) else (bif Nat.blt pc 33 then (bif Nat.beq pc 30 then some (.getfield 22, 3, [1, 2, 1, 166]) else none) else (bif Nat.blt pc 34 then (bif Nat.beq pc 33 then some (.iconst 0, 1, []) else none) else (bif Nat.beq pc 34 then some (.aload_n 0, 1, []) else none)))))) else (bif Nat.blt pc 53 then (bif Nat.blt pc 44 then (bif Nat.blt pc 39 then (bif Nat.blt pc 38 then (bif Nat.beq pc 35 then some (.getfield 22, 3, [1, 2, 1, 166]) else none) else (bif Nat.beq pc 38 then some (.iconst 0, 1, []) else none)) else (bif Nat.blt pc 41 then (bif Nat.beq pc 39 then some (.bipush 8, 2, []) else none) else (bif Nat.beq pc 41 then some (.invokestatic 44, 3, [5, 0, 5, 278]) else none))) else (bif Nat.blt pc 48 then (bif Nat.blt pc 45 then (bif Nat.beq pc 44 then some (.aload_n 1, 1, []) else none) else (bif Nat.beq pc 45 then some (.getfield 26, 3, [1, 3, 1, 168]) else none)) else (bif Nat.blt pc 49 then (bif Nat.beq pc 48 then some (.iconst 0, 1, []) else none) else (bif Nat.blt pc 50 then (bif Nat.beq pc 49 then some (.aload_n 0, 1, []) else none) else (bif Nat.beq pc 50 then some (.getfield 26, 3, [1, 3, 1, 168]) else none))))) else (bif Nat.blt pc 63 then (bif Nat.blt pc 56 then (bif Nat.blt pc 54 then (bif Nat.beq pc 53 then some (.iconst 0, 1, []) else none) else (bif Nat.beq pc 54 then some (.bipush 16, 2, []) else none)) else (bif Nat.blt pc 59 then (bif Nat.beq pc 56 then some (.invokestatic 44, 3, [5, 0, 5, 278]) else none) else (bif Nat.blt pc 60 then (bif Nat.beq pc 59 then some (.aload_n 1, 1, []) else none) else (bif Nat.beq pc 60 then some (.getfield 29, 3, [1, 4, 1, 170]) else none)))) else (bif Nat.blt pc 65 then (bif Nat.blt pc 64 then (bif Nat.beq pc 63 then some (.iconst 0, 1, []) else none) else (bif Nat.beq pc 64 then some (.aload_n 0, 1, []) else none)) else (bif Nat.blt pc 68 then (bif Nat.beq pc 65 then some (.getfield 29, 3, [1, 4, 1, 170]) else none) else (bif Nat.blt pc 69 then (bif Nat.beq pc 68 then some (.iconst 0, 1, []) else none) else (bif Nat.beq pc 69 then some (.iconst 3, 1, []) else none))))))) else (bif Nat.blt pc 107 then (bif Nat.blt pc 89 then (bif Nat.blt pc 78 then (bif Nat.blt pc 74 then (bif Nat.blt pc 73 then (bif Nat.beq pc 70 then some (.invokestatic 44, 3, [5, 0, 5, 278]) else none) else (bif Nat.beq pc 73 then some (.aload_n 0, 1, []) else none)) else (bif Nat.blt pc 75 then (bif Nat.beq pc 74 then some (.aload_n 1, 1, []) else none) else (bif Nat.beq pc 75 then some (.getfield 50, 3, [1, 5, 0, 172]) else none))) else (bif Nat.blt pc 82 then (bif Nat.blt pc 81 then (bif Nat.beq pc 78 then some (.putfield 50, 3, [1, 5, 0, 172]) else none) else (bif Nat.beq pc 81 then some (.aload_n 0, 1, []) else none)) else (bif Nat.blt pc 83 then (bif Nat.beq pc 82 then some (.aload_n 1, 1, []) else none) else (bif Nat.blt pc 86 then (bif Nat.beq pc 83 then some (.getfield 32, 3, [1, 6, 0, 174]) else none) else (bif Nat.beq pc 86 then some (.putfield 32, 3, [1, 6, 0, 174]) else none))))) else (bif Nat.blt pc 98 then (bif Nat.blt pc 91 then (bif Nat.blt pc 90 then (bif Nat.beq pc 89 then some (.aload_n 0, 1, []) else none) else (bif Nat.beq pc 90 then some (.aload_n 1, 1, []) else none)) else (bif Nat.blt pc 94 then (bif Nat.beq pc 91 then some (.getfield 53, 3, [1, 7, 0, 176]) else none) else (bif Nat.blt pc 97 then (bif Nat.beq pc 94 then some (.putfield 53, 3, [1, 7, 0, 176]) else none) else (bif Nat.beq pc 97 then some (.aload_n 0, 1, []) else none)))) else (bif Nat.blt pc 102 then (bif Nat.blt pc 99 then (bif Nat.beq pc 98 then some (.aload_n 1, 1, []) else none) else (bif Nat.beq pc 99 then some (.getfield 56, 3, [1, 8, 0, 178]) else none)) else (bif Nat.blt pc 105 then (bif Nat.beq pc 102 then some (.putfield 56, 3, [1, 8, 0, 178]) else none) else (bif Nat.blt pc 106 then (bif Nat.beq pc 105 then some (.aload_n 0, 1, []) else none) else (bif Nat.beq pc 106 then some (.aload_n 1, 1, []) else none)))))) else (bif Nat.blt pc 126 then (bif Nat.blt pc 115 then (bif Nat.blt pc 113 then (bif Nat.blt pc 110 then (bif Nat.beq pc 107 then some (.getfield 59, 3, [1, 9, 0, 180]) else none) else (bif Nat.beq pc 110 then some (.putfield 59, 3, [1, 9, 0, 180]) else none)) else (bif Nat.blt pc 114 then (bif Nat.beq pc 113 then some (.aload_n 0, 1, []) else none) else (bif Nat.beq pc 114 then some (.aload_n 1, 1, []) else none))) else (bif Nat.blt pc 121 then (bif Nat.blt pc 118 then (bif Nat.beq pc 115 then some (.getfield 62, 3, [1, 10, 0, 182]) else none) else (bif Nat.beq pc 118 then some (.putfield 62, 3, [1, 10, 0, 182]) else none)) else (bif Nat.blt pc 122 then (bif Nat.beq pc 121 then some (.aload_n 0, 1, []) else none) else (bif Nat.blt pc 123 then (bif Nat.beq pc 122 then some (.aload_n 1, 1, []) else none) else (bif Nat.beq pc 123 then some (.getfield 65, 3, [1, 11, 0, 183]) else none))))) else (bif Nat.blt pc 137 then (bif Nat.blt pc 130 then (bif Nat.blt pc 129 then (bif Nat.beq pc 126 then some (.putfield 65, 3, [1, 11, 0, 183]) else none) else (bif Nat.beq pc 129 then some (.aload_n 0, 1, []) else none)) else (bif Nat.blt pc 131 then (bif Nat.beq pc 130 then some (.aload_n 1, 1, []) else none) else (bif Nat.blt pc 134 then (bif Nat.beq pc 131 then some (.getfield 68, 3, [1, 12, 0, 185]) else none) else (bif Nat.beq pc 134 then some (.putfield 68, 3, [1, 12, 0, 185]) else none)))) else (bif Nat.blt pc 139 then (bif Nat.blt pc 138 then (bif Nat.beq pc 137 then some (.aload_n 0, 1, []) else none) else (bif Nat.beq pc 138 then some (.aload_n 1, 1, []) else none)) else (bif Nat.blt pc 142 then (bif Nat.beq pc 139 then some (.getfield 71, 3, [1, 13, 0, 187]) else none) else (bif Nat.blt pc 145 then (bif Nat.beq pc 142 then some (.putfield 71, 3, [1, 13, 0, 187]) else none) else (bif Nat.beq pc 145 then some (.return_, 1, []) else none)))))))
/-- X2_beginAnew -/
def I_X2_beginAnew (pc : Nat) : Option IE := bif Nat.blt pc 20 then (bif Nat.blt pc 10 then (bif Nat.blt pc 5 then (bif Nat.blt pc 1 then (bif Nat.beq pc 0 then some (.aload_n 0, 1, []) else none) else (bif Nat.blt pc 2 then (bif Nat.beq pc 1 then some (.iconst 0, 1, []) else none) else (bif Nat.beq pc 2 then some (.putfield 53, 3, [1, 7, 0, 176]) else none))) else (bif Nat.blt pc 6 then (bif Nat.beq pc 5 then some (.aload_n 0, 1, []) else none) else (bif Nat.blt pc 7 then (bif Nat.beq pc 6 then some (.iconst 0, 1, []) else none) else (bif Nat.beq pc 7 then some (.putfield 56, 3, [1, 8, 0, 178]) else none)))) else (bif Nat.blt pc 13 then (bif Nat.blt pc 11 then (bif Nat.beq pc 10 then some (.iconst 0, 1, []) else none) else (bif Nat.blt pc 12 then (bif Nat.beq pc 11 then some (.istore_n 1, 1, []) else none) else (bif Nat.beq pc 12 then some (.iload_n 1, 1, []) else none))) else (bif Nat.blt pc 14 then (bif Nat.beq pc 13 then some (.aload_n 0, 1, []) else none) else (bif Nat.blt pc 17 then (bif Nat.beq pc 14 then some (.getfield 32, 3, [1, 6, 0, 174]) else none) else (bif Nat.beq pc 17 then some (.if_icmp .ge 25, 3, [42]) else none))))) else (bif Nat.blt pc 28 then (bif Nat.blt pc 25 then (bif Nat.blt pc 21 then (bif Nat.beq pc 20 then some (.aload_n 0, 1, []) else none) else (bif Nat.blt pc 22 then (bif Nat.beq pc 21 then some (.iload_n 1, 1, []) else none) else (bif Nat.beq pc 22 then some (.invokevirtual 36, 3, [0, 17, 1, 266, 1, 2, 5]) else none))) else (bif Nat.blt pc 26 then (bif Nat.beq pc 25 then some (.astore_n 2, 1, []) else none) else (bif Nat.blt pc 27 then (bif Nat.beq pc 26 then some (.aload_n 2, 1, []) else none) else (bif Nat.beq pc 27 then some (.iconst 0, 1, []) else none)))) else (bif Nat.blt pc 33 then (bif Nat.blt pc 31 then (bif Nat.beq pc 28 then some (.putfield 74, 3, [0, 5, 0, 117]) else none) else (bif Nat.blt pc 32 then (bif Nat.beq pc 31 then some (.aload_n 2, 1, []) else none) else (bif Nat.beq pc 32 then some (.iconst 0, 1, []) else none))) else (bif Nat.blt pc 39 then (bif Nat.blt pc 36 then (bif Nat.beq pc 33 then some (.putfield 77, 3, [0, 6, 0, 119]) else none) else (bif Nat.beq pc 36 then some (.iinc 1 1, 3, []) else none)) else (bif Nat.blt pc 42 then (bif Nat.beq pc 39 then some (.goto (-27), 3, [12]) else none) else (bif Nat.beq pc 42 then some (.return_, 1, []) else none)))))
/-- X2_at -/
def I_X2_at (pc : Nat) : Option IE := bif Nat.blt pc 13 then (bif Nat.blt pc 5 then (bif Nat.blt pc 1 then (bif Nat.beq pc 0 then some (.iload_n 1, 1, []) else none) else (bif Nat.blt pc 4 then (bif Nat.beq pc 1 then some (.ifCond .lt 21, 3, [22]) else none) else (bif Nat.beq pc 4 then some (.iload_n 1, 1, []) else none))) else (bif Nat.blt pc 9 then (bif Nat.blt pc 6 then (bif Nat.beq pc 5 then some (.aload_n 0, 1, []) else none) else (bif Nat.beq pc 6 then some (.getfield 11, 3, [1, 0, 1, 164]) else none)) else (bif Nat.blt pc 10 then (bif Nat.beq pc 9 then some (.arraylength, 1, []) else none) else (bif Nat.beq pc 10 then some (.if_icmp .ge 12, 3, [22]) else none)))) else (bif Nat.blt pc 19 then (bif Nat.blt pc 17 then (bif Nat.blt pc 14 then (bif Nat.beq pc 13 then some (.aload_n 0, 1, []) else none) else (bif Nat.beq pc 14 then some (.getfield 11, 3, [1, 0, 1, 164]) else none)) else (bif Nat.blt pc 18 then (bif Nat.beq pc 17 then some (.iload_n 1, 1, []) else none) else (bif Nat.beq pc 18 then some (.aaload, 1, []) else none))) else (bif Nat.blt pc 23 then (bif Nat.blt pc 22 then (bif Nat.beq pc 19 then some (.goto 7, 3, [26]) else none) else (bif Nat.beq pc 22 then some (.aload_n 0, 1, []) else none)) else (bif Nat.blt pc 26 then (bif Nat.beq pc 23 then some (.getfield 18, 3, [1, 1, 1, 165]) else none) else (bif Nat.beq pc 26 then some (.areturn, 1, []) else none))))
/-- X2_registerBits -/
def I_X2_registerBits (pc : Nat) : Option IE := bif Nat.blt pc 13 then (bif Nat.blt pc 5 then (bif Nat.blt pc 1 then (bif Nat.beq pc 0 then some (.iload_n 1, 1, []) else none) else (bif Nat.blt pc 4 then (bif Nat.beq pc 1 then some (.ifCond .lt 21, 3, [22]) else none) else (bif Nat.beq pc 4 then some (.iload_n 1, 1, []) else none))) else (bif Nat.blt pc 9 then (bif Nat.blt pc 6 then (bif Nat.beq pc 5 then some (.aload_n 0, 1, []) else none) else (bif Nat.beq pc 6 then some (.getfield 22, 3, [1, 2, 1, 166]) else none)) else (bif Nat.blt pc 10 then (bif Nat.beq pc 9 then some (.arraylength, 1, []) else none) else (bif Nat.beq pc 10 then some (.if_icmp .ge 12, 3, [22]) else none)))) else (bif Nat.blt pc 18 then (bif Nat.blt pc 14 then (bif Nat.beq pc 13 then some (.aload_n 0, 1, []) else none) else (bif Nat.blt pc 17 then (bif Nat.beq pc 14 then some (.getfield 22, 3, [1, 2, 1, 166]) else none) else (bif Nat.beq pc 17 then some (.iload_n 1, 1, []) else none))) else (bif Nat.blt pc 22 then (bif Nat.blt pc 19 then (bif Nat.beq pc 18 then some (.iaload, 1, []) else none) else (bif Nat.beq pc 19 then some (.goto 4, 3, [23]) else none)) else (bif Nat.blt pc 23 then (bif Nat.beq pc 22 then some (.iconst 0, 1, []) else none) else (bif Nat.beq pc 23 then some (.ireturn, 1, [0]) else none))))
/-- X2_cellBits -/
def I_X2_cellBits (pc : Nat) : Option IE := bif Nat.blt pc 13 then (bif Nat.blt pc 5 then (bif Nat.blt pc 1 then (bif Nat.beq pc 0 then some (.iload_n 1, 1, []) else none) else (bif Nat.blt pc 4 then (bif Nat.beq pc 1 then some (.ifCond .lt 21, 3, [22]) else none) else (bif Nat.beq pc 4 then some (.iload_n 1, 1, []) else none))) else (bif Nat.blt pc 9 then (bif Nat.blt pc 6 then (bif Nat.beq pc 5 then some (.aload_n 0, 1, []) else none) else (bif Nat.beq pc 6 then some (.getfield 26, 3, [1, 3, 1, 168]) else none)) else (bif Nat.blt pc 10 then (bif Nat.beq pc 9 then some (.arraylength, 1, []) else none) else (bif Nat.beq pc 10 then some (.if_icmp .ge 12, 3, [22]) else none)))) else (bif Nat.blt pc 18 then (bif Nat.blt pc 14 then (bif Nat.beq pc 13 then some (.aload_n 0, 1, []) else none) else (bif Nat.blt pc 17 then (bif Nat.beq pc 14 then some (.getfield 26, 3, [1, 3, 1, 168]) else none) else (bif Nat.beq pc 17 then some (.iload_n 1, 1, []) else none))) else (bif Nat.blt pc 22 then (bif Nat.blt pc 19 then (bif Nat.beq pc 18 then some (.iaload, 1, []) else none) else (bif Nat.beq pc 19 then some (.goto 4, 3, [23]) else none)) else (bif Nat.blt pc 23 then (bif Nat.beq pc 22 then some (.iconst 0, 1, []) else none) else (bif Nat.beq pc 23 then some (.ireturn, 1, [0]) else none))))
/-- X2_put -/
def I_X2_put (pc : Nat) : Option IE := bif Nat.blt pc 39 then (bif Nat.blt pc 19 then (bif Nat.blt pc 8 then (bif Nat.blt pc 4 then (bif Nat.blt pc 1 then (bif Nat.beq pc 0 then some (.aload_n 1, 1, []) else none) else (bif Nat.beq pc 1 then some (.getfield 78, 3, [0, 0, 0, 107]) else none)) else (bif Nat.blt pc 5 then (bif Nat.beq pc 4 then some (.iconst 4, 1, []) else none) else (bif Nat.beq pc 5 then some (.if_icmp .ne 38, 3, [43]) else none))) else (bif Nat.blt pc 12 then (bif Nat.blt pc 9 then (bif Nat.beq pc 8 then some (.aload_n 1, 1, []) else none) else (bif Nat.beq pc 9 then some (.getfield 81, 3, [0, 11, 0, 130]) else none)) else (bif Nat.blt pc 15 then (bif Nat.beq pc 12 then some (.ifCond .lt 63, 3, [75]) else none) else (bif Nat.blt pc 16 then (bif Nat.beq pc 15 then some (.aload_n 1, 1, []) else none) else (bif Nat.beq pc 16 then some (.getfield 81, 3, [0, 11, 0, 130]) else none))))) else (bif Nat.blt pc 28 then (bif Nat.blt pc 23 then (bif Nat.blt pc 20 then (bif Nat.beq pc 19 then some (.aload_n 0, 1, []) else none) else (bif Nat.beq pc 20 then some (.getfield 26, 3, [1, 3, 1, 168]) else none)) else (bif Nat.blt pc 24 then (bif Nat.beq pc 23 then some (.arraylength, 1, []) else none) else (bif Nat.blt pc 27 then (bif Nat.beq pc 24 then some (.if_icmp .ge 51, 3, [75]) else none) else (bif Nat.beq pc 27 then some (.aload_n 0, 1, []) else none)))) else (bif Nat.blt pc 32 then (bif Nat.blt pc 31 then (bif Nat.beq pc 28 then some (.getfield 26, 3, [1, 3, 1, 168]) else none) else (bif Nat.beq pc 31 then some (.aload_n 1, 1, []) else none)) else (bif Nat.blt pc 35 then (bif Nat.beq pc 32 then some (.getfield 81, 3, [0, 11, 0, 130]) else none) else (bif Nat.blt pc 36 then (bif Nat.beq pc 35 then some (.aload_n 1, 1, []) else none) else (bif Nat.beq pc 36 then some (.getfield 84, 3, [0, 13, 0, 134]) else none)))))) else (bif Nat.blt pc 58 then (bif Nat.blt pc 47 then (bif Nat.blt pc 43 then (bif Nat.blt pc 40 then (bif Nat.beq pc 39 then some (.iastore, 1, []) else none) else (bif Nat.beq pc 40 then some (.goto 35, 3, [75]) else none)) else (bif Nat.blt pc 44 then (bif Nat.beq pc 43 then some (.aload_n 1, 1, []) else none) else (bif Nat.beq pc 44 then some (.getfield 87, 3, [0, 1, 0, 109]) else none))) else (bif Nat.blt pc 51 then (bif Nat.blt pc 50 then (bif Nat.beq pc 47 then some (.ifCond .lt 28, 3, [75]) else none) else (bif Nat.beq pc 50 then some (.aload_n 1, 1, []) else none)) else (bif Nat.blt pc 54 then (bif Nat.beq pc 51 then some (.getfield 87, 3, [0, 1, 0, 109]) else none) else (bif Nat.blt pc 55 then (bif Nat.beq pc 54 then some (.aload_n 0, 1, []) else none) else (bif Nat.beq pc 55 then some (.getfield 22, 3, [1, 2, 1, 166]) else none))))) else (bif Nat.blt pc 67 then (bif Nat.blt pc 62 then (bif Nat.blt pc 59 then (bif Nat.beq pc 58 then some (.arraylength, 1, []) else none) else (bif Nat.beq pc 59 then some (.if_icmp .ge 16, 3, [75]) else none)) else (bif Nat.blt pc 63 then (bif Nat.beq pc 62 then some (.aload_n 0, 1, []) else none) else (bif Nat.blt pc 66 then (bif Nat.beq pc 63 then some (.getfield 22, 3, [1, 2, 1, 166]) else none) else (bif Nat.beq pc 66 then some (.aload_n 1, 1, []) else none)))) else (bif Nat.blt pc 71 then (bif Nat.blt pc 70 then (bif Nat.beq pc 67 then some (.getfield 87, 3, [0, 1, 0, 109]) else none) else (bif Nat.beq pc 70 then some (.aload_n 1, 1, []) else none)) else (bif Nat.blt pc 74 then (bif Nat.beq pc 71 then some (.getfield 84, 3, [0, 13, 0, 134]) else none) else (bif Nat.blt pc 75 then (bif Nat.beq pc 74 then some (.iastore, 1, []) else none) else (bif Nat.beq pc 75 then some (.return_, 1, []) else none))))))
/-- X2_entries -/
def I_X2_entries (pc : Nat) : Option IE := bif Nat.blt pc 5 then (bif Nat.blt pc 1 then (bif Nat.beq pc 0 then some (.aload_n 0, 1, []) else none) else (bif Nat.blt pc 4 then (bif Nat.beq pc 1 then some (.getfield 53, 3, [1, 7, 0, 176]) else none) else (bif Nat.beq pc 4 then some (.aload_n 0, 1, []) else none))) else (bif Nat.blt pc 8 then (bif Nat.beq pc 5 then some (.getfield 56, 3, [1, 8, 0, 178]) else none) else (bif Nat.blt pc 9 then (bif Nat.beq pc 8 then some (.isub, 1, []) else none) else (bif Nat.beq pc 9 then some (.ireturn, 1, [0]) else none)))
/-- X2_isFinished -/
def I_X2_isFinished (pc : Nat) : Option IE := bif Nat.blt pc 8 then (bif Nat.blt pc 4 then (bif Nat.blt pc 1 then (bif Nat.beq pc 0 then some (.aload_n 0, 1, []) else none) else (bif Nat.beq pc 1 then some (.getfield 56, 3, [1, 8, 0, 178]) else none)) else (bif Nat.blt pc 5 then (bif Nat.beq pc 4 then some (.aload_n 0, 1, []) else none) else (bif Nat.beq pc 5 then some (.getfield 32, 3, [1, 6, 0, 174]) else none))) else (bif Nat.blt pc 12 then (bif Nat.blt pc 11 then (bif Nat.beq pc 8 then some (.if_icmp .lt 7, 3, [15]) else none) else (bif Nat.beq pc 11 then some (.iconst 1, 1, []) else none)) else (bif Nat.blt pc 15 then (bif Nat.beq pc 12 then some (.goto 4, 3, [16]) else none) else (bif Nat.blt pc 16 then (bif Nat.beq pc 15 then some (.iconst 0, 1, []) else none) else (bif Nat.beq pc 16 then some (.ireturn, 1, [1]) else none))))
/-- X2_number -/
def I_X2_number (pc : Nat) : Option IE := bif Nat.blt pc 85 then (bif Nat.blt pc 67 then (bif Nat.blt pc 60 then (bif Nat.blt pc 56 then (bif Nat.blt pc 1 then (bif Nat.beq pc 0 then some (.iload_n 1, 1, []) else none) else (bif Nat.beq pc 1 then some (.tableswitch 105 0 9 #[55, 60, 65, 70, 75, 80, 85, 90, 95, 100], 55, [106, 0, 56, 1, 61, 2, 66, 3, 71, 4, 76, 5, 81, 6, 86, 7, 91, 8, 96, 9, 101]) else none)) else (bif Nat.blt pc 57 then (bif Nat.beq pc 56 then some (.aload_n 0, 1, []) else none) else (bif Nat.beq pc 57 then some (.getfield 50, 3, [1, 5, 0, 172]) else none))) else (bif Nat.blt pc 62 then (bif Nat.blt pc 61 then (bif Nat.beq pc 60 then some (.ireturn, 1, [0]) else none) else (bif Nat.beq pc 61 then some (.aload_n 0, 1, []) else none)) else (bif Nat.blt pc 65 then (bif Nat.beq pc 62 then some (.getfield 32, 3, [1, 6, 0, 174]) else none) else (bif Nat.blt pc 66 then (bif Nat.beq pc 65 then some (.ireturn, 1, [0]) else none) else (bif Nat.beq pc 66 then some (.aload_n 0, 1, []) else none))))) else (bif Nat.blt pc 76 then (bif Nat.blt pc 71 then (bif Nat.blt pc 70 then (bif Nat.beq pc 67 then some (.invokevirtual 90, 3, [0, 21, 0, 449, 1, 1, 1]) else none) else (bif Nat.beq pc 70 then some (.ireturn, 1, [0]) else none)) else (bif Nat.blt pc 72 then (bif Nat.beq pc 71 then some (.aload_n 0, 1, []) else none) else (bif Nat.blt pc 75 then (bif Nat.beq pc 72 then some (.getfield 53, 3, [1, 7, 0, 176]) else none) else (bif Nat.beq pc 75 then some (.ireturn, 1, [0]) else none)))) else (bif Nat.blt pc 80 then (bif Nat.blt pc 77 then (bif Nat.beq pc 76 then some (.aload_n 0, 1, []) else none) else (bif Nat.beq pc 77 then some (.getfield 56, 3, [1, 8, 0, 178]) else none)) else (bif Nat.blt pc 81 then (bif Nat.beq pc 80 then some (.ireturn, 1, [0]) else none) else (bif Nat.blt pc 82 then (bif Nat.beq pc 81 then some (.aload_n 0, 1, []) else none) else (bif Nat.beq pc 82 then some (.getfield 59, 3, [1, 9, 0, 180]) else none)))))) else (bif Nat.blt pc 101 then (bif Nat.blt pc 92 then (bif Nat.blt pc 87 then (bif Nat.blt pc 86 then (bif Nat.beq pc 85 then some (.ireturn, 1, [0]) else none) else (bif Nat.beq pc 86 then some (.aload_n 0, 1, []) else none)) else (bif Nat.blt pc 90 then (bif Nat.beq pc 87 then some (.getfield 62, 3, [1, 10, 0, 182]) else none) else (bif Nat.blt pc 91 then (bif Nat.beq pc 90 then some (.ireturn, 1, [0]) else none) else (bif Nat.beq pc 91 then some (.aload_n 0, 1, []) else none)))) else (bif Nat.blt pc 96 then (bif Nat.blt pc 95 then (bif Nat.beq pc 92 then some (.getfield 65, 3, [1, 11, 0, 183]) else none) else (bif Nat.beq pc 95 then some (.ireturn, 1, [0]) else none)) else (bif Nat.blt pc 97 then (bif Nat.beq pc 96 then some (.aload_n 0, 1, []) else none) else (bif Nat.blt pc 100 then (bif Nat.beq pc 97 then some (.getfield 68, 3, [1, 12, 0, 185]) else none) else (bif Nat.beq pc 100 then some (.ireturn, 1, [0]) else none))))) else (bif Nat.blt pc 110 then (bif Nat.blt pc 105 then (bif Nat.blt pc 102 then (bif Nat.beq pc 101 then some (.aload_n 0, 1, []) else none) else (bif Nat.beq pc 102 then some (.getfield 71, 3, [1, 13, 0, 187]) else none)) else (bif Nat.blt pc 106 then (bif Nat.beq pc 105 then some (.ireturn, 1, [0]) else none) else (bif Nat.blt pc 107 then (bif Nat.beq pc 106 then some (.aload_n 0, 1, []) else none) else (bif Nat.beq pc 107 then some (.invokevirtual 94, 3, [0, 22, 0, 339, 1, 1, 1]) else none)))) else (bif Nat.blt pc 114 then (bif Nat.blt pc 113 then (bif Nat.beq pc 110 then some (.ifCond .eq 7, 3, [117]) else none) else (bif Nat.beq pc 113 then some (.iconst 1, 1, []) else none)) else (bif Nat.blt pc 117 then (bif Nat.beq pc 114 then some (.goto 4, 3, [118]) else none) else (bif Nat.blt pc 118 then (bif Nat.beq pc 117 then some (.iconst 0, 1, []) else none) else (bif Nat.beq pc 118 then some (.ireturn, 1, [0]) else none))))))
/-- X2_property -/
def I_X2_property (pc : Nat) : Option IE := bif Nat.blt pc 116 then (bif Nat.blt pc 76 then (bif Nat.blt pc 18 then (bif Nat.blt pc 7 then (bif Nat.blt pc 2 then (bif Nat.blt pc 1 then (bif Nat.beq pc 0 then some (.aload_n 0, 1, []) else none) else (bif Nat.beq pc 1 then some (.iload_n 1, 1, []) else none)) else (bif Nat.blt pc 5 then (bif Nat.beq pc 2 then some (.invokevirtual 36, 3, [0, 17, 1, 266, 1, 2, 5]) else none) else (bif Nat.blt pc 6 then (bif Nat.beq pc 5 then some (.astore_n 3, 1, []) else none) else (bif Nat.beq pc 6 then some (.aload_n 3, 1, []) else none)))) else (bif Nat.blt pc 11 then (bif Nat.blt pc 10 then (bif Nat.beq pc 7 then some (.getfield 98, 3, [0, 7, 0, 122]) else none) else (bif Nat.beq pc 10 then some (.iconst 2, 1, []) else none)) else (bif Nat.blt pc 14 then (bif Nat.beq pc 11 then some (.if_icmp .ne 7, 3, [18]) else none) else (bif Nat.blt pc 15 then (bif Nat.beq pc 14 then some (.iconst 1, 1, []) else none) else (bif Nat.beq pc 15 then some (.goto 4, 3, [19]) else none))))) else (bif Nat.blt pc 69 then (bif Nat.blt pc 21 then (bif Nat.blt pc 19 then (bif Nat.beq pc 18 then some (.iconst 0, 1, []) else none) else (bif Nat.beq pc 19 then some (.istore 4, 2, []) else none)) else (bif Nat.blt pc 22 then (bif Nat.beq pc 21 then some (.iload_n 2, 1, []) else none) else (bif Nat.blt pc 68 then (bif Nat.beq pc 22 then some (.tableswitch 166 0 7 #[46, 48, 53, 70, 90, 110, 135, 152], 46, [188, 0, 68, 1, 70, 2, 75, 3, 92, 4, 112, 5, 132, 6, 157, 7, 174]) else none) else (bif Nat.beq pc 68 then some (.iload_n 1, 1, []) else none)))) else (bif Nat.blt pc 71 then (bif Nat.blt pc 70 then (bif Nat.beq pc 69 then some (.ireturn, 1, [0]) else none) else (bif Nat.beq pc 70 then some (.aload_n 3, 1, []) else none)) else (bif Nat.blt pc 74 then (bif Nat.beq pc 71 then some (.getfield 98, 3, [0, 7, 0, 122]) else none) else (bif Nat.blt pc 75 then (bif Nat.beq pc 74 then some (.ireturn, 1, [0]) else none) else (bif Nat.beq pc 75 then some (.aload_n 3, 1, []) else none)))))) else (bif Nat.blt pc 96 then (bif Nat.blt pc 87 then (bif Nat.blt pc 80 then (bif Nat.blt pc 79 then (bif Nat.beq pc 76 then some (.getfield 98, 3, [0, 7, 0, 122]) else none) else (bif Nat.beq pc 79 then some (.iconst 1, 1, []) else none)) else (bif Nat.blt pc 83 then (bif Nat.beq pc 80 then some (.if_icmp .ne 10, 3, [90]) else none) else (bif Nat.blt pc 84 then (bif Nat.beq pc 83 then some (.aload_n 3, 1, []) else none) else (bif Nat.beq pc 84 then some (.getfield 101, 3, [0, 8, 0, 124]) else none)))) else (bif Nat.blt pc 91 then (bif Nat.blt pc 90 then (bif Nat.beq pc 87 then some (.goto 4, 3, [91]) else none) else (bif Nat.beq pc 90 then some (.iconst 0, 1, []) else none)) else (bif Nat.blt pc 92 then (bif Nat.beq pc 91 then some (.ireturn, 1, [0]) else none) else (bif Nat.blt pc 93 then (bif Nat.beq pc 92 then some (.aload_n 3, 1, []) else none) else (bif Nat.beq pc 93 then some (.getfield 104, 3, [0, 9, 0, 126]) else none))))) else (bif Nat.blt pc 107 then (bif Nat.blt pc 100 then (bif Nat.blt pc 97 then (bif Nat.beq pc 96 then some (.aload_n 0, 1, []) else none) else (bif Nat.beq pc 97 then some (.getfield 56, 3, [1, 8, 0, 178]) else none)) else (bif Nat.blt pc 103 then (bif Nat.beq pc 100 then some (.if_icmp .ge 7, 3, [107]) else none) else (bif Nat.blt pc 104 then (bif Nat.beq pc 103 then some (.iconst (-1), 1, []) else none) else (bif Nat.beq pc 104 then some (.goto 7, 3, [111]) else none)))) else (bif Nat.blt pc 111 then (bif Nat.blt pc 108 then (bif Nat.beq pc 107 then some (.aload_n 3, 1, []) else none) else (bif Nat.beq pc 108 then some (.getfield 104, 3, [0, 9, 0, 126]) else none)) else (bif Nat.blt pc 112 then (bif Nat.beq pc 111 then some (.ireturn, 1, [0]) else none) else (bif Nat.blt pc 113 then (bif Nat.beq pc 112 then some (.aload_n 3, 1, []) else none) else (bif Nat.beq pc 113 then some (.getfield 107, 3, [0, 10, 0, 128]) else none))))))) else (bif Nat.blt pc 156 then (bif Nat.blt pc 134 then (bif Nat.blt pc 127 then (bif Nat.blt pc 120 then (bif Nat.blt pc 117 then (bif Nat.beq pc 116 then some (.aload_n 0, 1, []) else none) else (bif Nat.beq pc 117 then some (.getfield 56, 3, [1, 8, 0, 178]) else none)) else (bif Nat.blt pc 123 then (bif Nat.beq pc 120 then some (.if_icmp .ge 7, 3, [127]) else none) else (bif Nat.blt pc 124 then (bif Nat.beq pc 123 then some (.iconst (-1), 1, []) else none) else (bif Nat.beq pc 124 then some (.goto 7, 3, [131]) else none)))) else (bif Nat.blt pc 131 then (bif Nat.blt pc 128 then (bif Nat.beq pc 127 then some (.aload_n 3, 1, []) else none) else (bif Nat.beq pc 128 then some (.getfield 107, 3, [0, 10, 0, 128]) else none)) else (bif Nat.blt pc 132 then (bif Nat.beq pc 131 then some (.ireturn, 1, [0]) else none) else (bif Nat.blt pc 133 then (bif Nat.beq pc 132 then some (.aload_n 3, 1, []) else none) else (bif Nat.beq pc 133 then some (.iconst 3, 1, []) else none))))) else (bif Nat.blt pc 145 then (bif Nat.blt pc 140 then (bif Nat.blt pc 137 then (bif Nat.beq pc 134 then some (.invokevirtual 110, 3, [0, 9, 1, 391, 0, 2, 1]) else none) else (bif Nat.beq pc 137 then some (.ifCond .ne 11, 3, [148]) else none)) else (bif Nat.blt pc 141 then (bif Nat.beq pc 140 then some (.aload_n 3, 1, []) else none) else (bif Nat.blt pc 142 then (bif Nat.beq pc 141 then some (.iconst 4, 1, []) else none) else (bif Nat.beq pc 142 then some (.invokevirtual 110, 3, [0, 9, 1, 391, 0, 2, 1]) else none)))) else (bif Nat.blt pc 149 then (bif Nat.blt pc 148 then (bif Nat.beq pc 145 then some (.ifCond .eq 10, 3, [155]) else none) else (bif Nat.beq pc 148 then some (.aload_n 3, 1, []) else none)) else (bif Nat.blt pc 152 then (bif Nat.beq pc 149 then some (.getfield 81, 3, [0, 11, 0, 130]) else none) else (bif Nat.blt pc 155 then (bif Nat.beq pc 152 then some (.goto 4, 3, [156]) else none) else (bif Nat.beq pc 155 then some (.iconst (-1), 1, []) else none)))))) else (bif Nat.blt pc 174 then (bif Nat.blt pc 165 then (bif Nat.blt pc 158 then (bif Nat.blt pc 157 then (bif Nat.beq pc 156 then some (.ireturn, 1, [0]) else none) else (bif Nat.beq pc 157 then some (.aload_n 3, 1, []) else none)) else (bif Nat.blt pc 159 then (bif Nat.beq pc 158 then some (.iconst 3, 1, []) else none) else (bif Nat.blt pc 162 then (bif Nat.beq pc 159 then some (.invokevirtual 110, 3, [0, 9, 1, 391, 0, 2, 1]) else none) else (bif Nat.beq pc 162 then some (.ifCond .eq 10, 3, [172]) else none)))) else (bif Nat.blt pc 169 then (bif Nat.blt pc 166 then (bif Nat.beq pc 165 then some (.aload_n 3, 1, []) else none) else (bif Nat.beq pc 166 then some (.getfield 114, 3, [0, 12, 0, 132]) else none)) else (bif Nat.blt pc 172 then (bif Nat.beq pc 169 then some (.goto 4, 3, [173]) else none) else (bif Nat.blt pc 173 then (bif Nat.beq pc 172 then some (.iconst (-1), 1, []) else none) else (bif Nat.beq pc 173 then some (.ireturn, 1, [0]) else none))))) else (bif Nat.blt pc 186 then (bif Nat.blt pc 179 then (bif Nat.blt pc 176 then (bif Nat.beq pc 174 then some (.iload 4, 2, []) else none) else (bif Nat.beq pc 176 then some (.ifCond .eq 10, 3, [186]) else none)) else (bif Nat.blt pc 180 then (bif Nat.beq pc 179 then some (.aload_n 3, 1, []) else none) else (bif Nat.blt pc 183 then (bif Nat.beq pc 180 then some (.getfield 84, 3, [0, 13, 0, 134]) else none) else (bif Nat.beq pc 183 then some (.goto 4, 3, [187]) else none)))) else (bif Nat.blt pc 189 then (bif Nat.blt pc 187 then (bif Nat.beq pc 186 then some (.iconst 0, 1, []) else none) else (bif Nat.blt pc 188 then (bif Nat.beq pc 187 then some (.ireturn, 1, [0]) else none) else (bif Nat.beq pc 188 then some (.aload_n 0, 1, []) else none))) else (bif Nat.blt pc 190 then (bif Nat.beq pc 189 then some (.iload_n 1, 1, []) else none) else (bif Nat.blt pc 193 then (bif Nat.beq pc 190 then some (.invokevirtual 117, 3, [0, 25, 1, 433, 1, 3, 1]) else none) else (bif Nat.beq pc 193 then some (.ireturn, 1, [0]) else none)))))))
/-- X2_hindrance -/
def I_X2_hindrance (pc : Nat) : Option IE := bif Nat.blt pc 33 then (bif Nat.blt pc 15 then (bif Nat.blt pc 6 then (bif Nat.blt pc 2 then (bif Nat.blt pc 1 then (bif Nat.beq pc 0 then some (.aload_n 0, 1, []) else none) else (bif Nat.beq pc 1 then some (.iload_n 1, 1, []) else none)) else (bif Nat.blt pc 5 then (bif Nat.beq pc 2 then some (.invokevirtual 36, 3, [0, 17, 1, 266, 1, 2, 5]) else none) else (bif Nat.beq pc 5 then some (.astore_n 2, 1, []) else none))) else (bif Nat.blt pc 10 then (bif Nat.blt pc 7 then (bif Nat.beq pc 6 then some (.aload_n 2, 1, []) else none) else (bif Nat.beq pc 7 then some (.getfield 98, 3, [0, 7, 0, 122]) else none)) else (bif Nat.blt pc 13 then (bif Nat.beq pc 10 then some (.ifCond .eq 5, 3, [15]) else none) else (bif Nat.blt pc 14 then (bif Nat.beq pc 13 then some (.iconst 1, 1, []) else none) else (bif Nat.beq pc 14 then some (.ireturn, 1, [0]) else none))))) else (bif Nat.blt pc 26 then (bif Nat.blt pc 17 then (bif Nat.blt pc 16 then (bif Nat.beq pc 15 then some (.aload_n 0, 1, []) else none) else (bif Nat.beq pc 16 then some (.aload_n 2, 1, []) else none)) else (bif Nat.blt pc 20 then (bif Nat.beq pc 17 then some (.getfield 104, 3, [0, 9, 0, 126]) else none) else (bif Nat.blt pc 23 then (bif Nat.beq pc 20 then some (.invokevirtual 121, 3, [0, 26, 1, 437, 1, 2, 1]) else none) else (bif Nat.beq pc 23 then some (.ifCond .ne 5, 3, [28]) else none)))) else (bif Nat.blt pc 28 then (bif Nat.blt pc 27 then (bif Nat.beq pc 26 then some (.iconst 2, 1, []) else none) else (bif Nat.beq pc 27 then some (.ireturn, 1, [0]) else none)) else (bif Nat.blt pc 29 then (bif Nat.beq pc 28 then some (.aload_n 0, 1, []) else none) else (bif Nat.blt pc 30 then (bif Nat.beq pc 29 then some (.aload_n 2, 1, []) else none) else (bif Nat.beq pc 30 then some (.getfield 107, 3, [0, 10, 0, 128]) else none)))))) else (bif Nat.blt pc 50 then (bif Nat.blt pc 41 then (bif Nat.blt pc 39 then (bif Nat.blt pc 36 then (bif Nat.beq pc 33 then some (.invokevirtual 121, 3, [0, 26, 1, 437, 1, 2, 1]) else none) else (bif Nat.beq pc 36 then some (.ifCond .ne 5, 3, [41]) else none)) else (bif Nat.blt pc 40 then (bif Nat.beq pc 39 then some (.iconst 3, 1, []) else none) else (bif Nat.beq pc 40 then some (.ireturn, 1, [0]) else none))) else (bif Nat.blt pc 45 then (bif Nat.blt pc 42 then (bif Nat.beq pc 41 then some (.aload_n 2, 1, []) else none) else (bif Nat.beq pc 42 then some (.getfield 78, 3, [0, 0, 0, 107]) else none)) else (bif Nat.blt pc 46 then (bif Nat.beq pc 45 then some (.iconst 3, 1, []) else none) else (bif Nat.blt pc 49 then (bif Nat.beq pc 46 then some (.if_icmp .ne 22, 3, [68]) else none) else (bif Nat.beq pc 49 then some (.aload_n 2, 1, []) else none))))) else (bif Nat.blt pc 61 then (bif Nat.blt pc 56 then (bif Nat.blt pc 53 then (bif Nat.beq pc 50 then some (.getfield 74, 3, [0, 5, 0, 117]) else none) else (bif Nat.beq pc 53 then some (.ifCond .le 15, 3, [68]) else none)) else (bif Nat.blt pc 57 then (bif Nat.beq pc 56 then some (.aload_n 0, 1, []) else none) else (bif Nat.blt pc 58 then (bif Nat.beq pc 57 then some (.iload_n 1, 1, []) else none) else (bif Nat.beq pc 58 then some (.invokevirtual 124, 3, [0, 27, 1, 399, 1, 4, 1]) else none)))) else (bif Nat.blt pc 65 then (bif Nat.blt pc 64 then (bif Nat.beq pc 61 then some (.ifCond .eq 7, 3, [68]) else none) else (bif Nat.beq pc 64 then some (.iconst 4, 1, []) else none)) else (bif Nat.blt pc 68 then (bif Nat.beq pc 65 then some (.goto 4, 3, [69]) else none) else (bif Nat.blt pc 69 then (bif Nat.beq pc 68 then some (.iconst 0, 1, []) else none) else (bif Nat.beq pc 69 then some (.ireturn, 1, [0]) else none))))))
/-- X2_isReady -/
def I_X2_isReady (pc : Nat) : Option IE := bif Nat.blt pc 13 then (bif Nat.blt pc 5 then (bif Nat.blt pc 1 then (bif Nat.beq pc 0 then some (.iload_n 1, 1, []) else none) else (bif Nat.blt pc 2 then (bif Nat.beq pc 1 then some (.aload_n 0, 1, []) else none) else (bif Nat.beq pc 2 then some (.getfield 56, 3, [1, 8, 0, 178]) else none))) else (bif Nat.blt pc 9 then (bif Nat.blt pc 8 then (bif Nat.beq pc 5 then some (.if_icmp .lt 15, 3, [20]) else none) else (bif Nat.beq pc 8 then some (.aload_n 0, 1, []) else none)) else (bif Nat.blt pc 10 then (bif Nat.beq pc 9 then some (.iload_n 1, 1, []) else none) else (bif Nat.beq pc 10 then some (.invokevirtual 36, 3, [0, 17, 1, 266, 1, 2, 5]) else none)))) else (bif Nat.blt pc 20 then (bif Nat.blt pc 16 then (bif Nat.beq pc 13 then some (.getfield 98, 3, [0, 7, 0, 122]) else none) else (bif Nat.blt pc 17 then (bif Nat.beq pc 16 then some (.iconst 2, 1, []) else none) else (bif Nat.beq pc 17 then some (.if_icmp .ne 7, 3, [24]) else none))) else (bif Nat.blt pc 24 then (bif Nat.blt pc 21 then (bif Nat.beq pc 20 then some (.iconst 1, 1, []) else none) else (bif Nat.beq pc 21 then some (.goto 4, 3, [25]) else none)) else (bif Nat.blt pc 25 then (bif Nat.beq pc 24 then some (.iconst 0, 1, []) else none) else (bif Nat.beq pc 25 then some (.ireturn, 1, [1]) else none))))
/-- X2_hasOpenStoreAhead -/
def I_X2_hasOpenStoreAhead (pc : Nat) : Option IE := bif Nat.blt pc 20 then (bif Nat.blt pc 10 then (bif Nat.blt pc 5 then (bif Nat.blt pc 1 then (bif Nat.beq pc 0 then some (.aload_n 0, 1, []) else none) else (bif Nat.blt pc 4 then (bif Nat.beq pc 1 then some (.getfield 56, 3, [1, 8, 0, 178]) else none) else (bif Nat.beq pc 4 then some (.istore_n 2, 1, []) else none))) else (bif Nat.blt pc 6 then (bif Nat.beq pc 5 then some (.iload_n 2, 1, []) else none) else (bif Nat.blt pc 7 then (bif Nat.beq pc 6 then some (.iload_n 1, 1, []) else none) else (bif Nat.beq pc 7 then some (.if_icmp .ge 33, 3, [40]) else none)))) else (bif Nat.blt pc 15 then (bif Nat.blt pc 11 then (bif Nat.beq pc 10 then some (.aload_n 0, 1, []) else none) else (bif Nat.blt pc 12 then (bif Nat.beq pc 11 then some (.iload_n 2, 1, []) else none) else (bif Nat.beq pc 12 then some (.invokevirtual 36, 3, [0, 17, 1, 266, 1, 2, 5]) else none))) else (bif Nat.blt pc 16 then (bif Nat.beq pc 15 then some (.astore_n 3, 1, []) else none) else (bif Nat.blt pc 17 then (bif Nat.beq pc 16 then some (.aload_n 3, 1, []) else none) else (bif Nat.beq pc 17 then some (.getfield 78, 3, [0, 0, 0, 107]) else none))))) else (bif Nat.blt pc 32 then (bif Nat.blt pc 25 then (bif Nat.blt pc 21 then (bif Nat.beq pc 20 then some (.iconst 4, 1, []) else none) else (bif Nat.blt pc 24 then (bif Nat.beq pc 21 then some (.if_icmp .ne 13, 3, [34]) else none) else (bif Nat.beq pc 24 then some (.aload_n 3, 1, []) else none))) else (bif Nat.blt pc 28 then (bif Nat.beq pc 25 then some (.getfield 98, 3, [0, 7, 0, 122]) else none) else (bif Nat.blt pc 29 then (bif Nat.beq pc 28 then some (.iconst 2, 1, []) else none) else (bif Nat.beq pc 29 then some (.if_icmp .eq 5, 3, [34]) else none)))) else (bif Nat.blt pc 37 then (bif Nat.blt pc 33 then (bif Nat.beq pc 32 then some (.iconst 1, 1, []) else none) else (bif Nat.blt pc 34 then (bif Nat.beq pc 33 then some (.ireturn, 1, [1]) else none) else (bif Nat.beq pc 34 then some (.iinc 2 1, 3, []) else none))) else (bif Nat.blt pc 40 then (bif Nat.beq pc 37 then some (.goto (-32), 3, [5]) else none) else (bif Nat.blt pc 41 then (bif Nat.beq pc 40 then some (.iconst 0, 1, []) else none) else (bif Nat.beq pc 41 then some (.ireturn, 1, [1]) else none)))))
/-- X2_latestMaker -/
def I_X2_latestMaker (pc : Nat) : Option IE := bif Nat.blt pc 17 then (bif Nat.blt pc 5 then (bif Nat.blt pc 2 then (bif Nat.blt pc 1 then (bif Nat.beq pc 0 then some (.iload_n 2, 1, []) else none) else (bif Nat.beq pc 1 then some (.iconst 1, 1, []) else none)) else (bif Nat.blt pc 3 then (bif Nat.beq pc 2 then some (.isub, 1, []) else none) else (bif Nat.blt pc 4 then (bif Nat.beq pc 3 then some (.istore_n 3, 1, []) else none) else (bif Nat.beq pc 4 then some (.iload_n 3, 1, []) else none)))) else (bif Nat.blt pc 12 then (bif Nat.blt pc 6 then (bif Nat.beq pc 5 then some (.aload_n 0, 1, []) else none) else (bif Nat.blt pc 9 then (bif Nat.beq pc 6 then some (.getfield 56, 3, [1, 8, 0, 178]) else none) else (bif Nat.beq pc 9 then some (.if_icmp .lt 28, 3, [37]) else none))) else (bif Nat.blt pc 13 then (bif Nat.beq pc 12 then some (.iload_n 1, 1, []) else none) else (bif Nat.blt pc 14 then (bif Nat.beq pc 13 then some (.iconst (-1), 1, []) else none) else (bif Nat.beq pc 14 then some (.if_icmp .eq 23, 3, [37]) else none))))) else (bif Nat.blt pc 29 then (bif Nat.blt pc 22 then (bif Nat.blt pc 18 then (bif Nat.beq pc 17 then some (.aload_n 0, 1, []) else none) else (bif Nat.blt pc 19 then (bif Nat.beq pc 18 then some (.iload_n 3, 1, []) else none) else (bif Nat.beq pc 19 then some (.invokevirtual 36, 3, [0, 17, 1, 266, 1, 2, 5]) else none))) else (bif Nat.blt pc 25 then (bif Nat.beq pc 22 then some (.getfield 87, 3, [0, 1, 0, 109]) else none) else (bif Nat.blt pc 26 then (bif Nat.beq pc 25 then some (.iload_n 1, 1, []) else none) else (bif Nat.beq pc 26 then some (.if_icmp .ne 5, 3, [31]) else none)))) else (bif Nat.blt pc 34 then (bif Nat.blt pc 30 then (bif Nat.beq pc 29 then some (.iload_n 3, 1, []) else none) else (bif Nat.blt pc 31 then (bif Nat.beq pc 30 then some (.ireturn, 1, [0]) else none) else (bif Nat.beq pc 31 then some (.iinc 3 (-1), 3, []) else none))) else (bif Nat.blt pc 37 then (bif Nat.beq pc 34 then some (.goto (-30), 3, [4]) else none) else (bif Nat.blt pc 38 then (bif Nat.beq pc 37 then some (.iconst (-1), 1, []) else none) else (bif Nat.beq pc 38 then some (.ireturn, 1, [0]) else none)))))
/-- X2_latestStore -/
def I_X2_latestStore (pc : Nat) : Option IE := bif Nat.blt pc 21 then (bif Nat.blt pc 6 then (bif Nat.blt pc 3 then (bif Nat.blt pc 1 then (bif Nat.beq pc 0 then some (.iload_n 2, 1, []) else none) else (bif Nat.blt pc 2 then (bif Nat.beq pc 1 then some (.iconst 1, 1, []) else none) else (bif Nat.beq pc 2 then some (.isub, 1, []) else none))) else (bif Nat.blt pc 4 then (bif Nat.beq pc 3 then some (.istore_n 3, 1, []) else none) else (bif Nat.blt pc 5 then (bif Nat.beq pc 4 then some (.iload_n 3, 1, []) else none) else (bif Nat.beq pc 5 then some (.aload_n 0, 1, []) else none)))) else (bif Nat.blt pc 13 then (bif Nat.blt pc 9 then (bif Nat.beq pc 6 then some (.getfield 56, 3, [1, 8, 0, 178]) else none) else (bif Nat.blt pc 12 then (bif Nat.beq pc 9 then some (.if_icmp .lt 36, 3, [45]) else none) else (bif Nat.beq pc 12 then some (.aload_n 0, 1, []) else none))) else (bif Nat.blt pc 17 then (bif Nat.blt pc 14 then (bif Nat.beq pc 13 then some (.iload_n 3, 1, []) else none) else (bif Nat.beq pc 14 then some (.invokevirtual 36, 3, [0, 17, 1, 266, 1, 2, 5]) else none)) else (bif Nat.blt pc 19 then (bif Nat.beq pc 17 then some (.astore 4, 2, []) else none) else (bif Nat.beq pc 19 then some (.aload 4, 2, []) else none))))) else (bif Nat.blt pc 34 then (bif Nat.blt pc 28 then (bif Nat.blt pc 22 then (bif Nat.beq pc 21 then some (.iconst 4, 1, []) else none) else (bif Nat.blt pc 25 then (bif Nat.beq pc 22 then some (.invokevirtual 110, 3, [0, 9, 1, 391, 0, 2, 1]) else none) else (bif Nat.beq pc 25 then some (.ifCond .eq 14, 3, [39]) else none))) else (bif Nat.blt pc 30 then (bif Nat.beq pc 28 then some (.aload 4, 2, []) else none) else (bif Nat.blt pc 33 then (bif Nat.beq pc 30 then some (.getfield 81, 3, [0, 11, 0, 130]) else none) else (bif Nat.beq pc 33 then some (.iload_n 1, 1, []) else none)))) else (bif Nat.blt pc 39 then (bif Nat.blt pc 37 then (bif Nat.beq pc 34 then some (.if_icmp .ne 5, 3, [39]) else none) else (bif Nat.blt pc 38 then (bif Nat.beq pc 37 then some (.iload_n 3, 1, []) else none) else (bif Nat.beq pc 38 then some (.ireturn, 1, [0]) else none))) else (bif Nat.blt pc 45 then (bif Nat.blt pc 42 then (bif Nat.beq pc 39 then some (.iinc 3 (-1), 3, []) else none) else (bif Nat.beq pc 42 then some (.goto (-38), 3, [4]) else none)) else (bif Nat.blt pc 46 then (bif Nat.beq pc 45 then some (.iconst (-1), 1, []) else none) else (bif Nat.beq pc 46 then some (.ireturn, 1, [0]) else none)))))
/-- X2_passCycles -/
def I_X2_passCycles (pc : Nat) : Option IE := bif Nat.blt pc 7 then (bif Nat.blt pc 2 then (bif Nat.blt pc 1 then (bif Nat.beq pc 0 then some (.iconst 0, 1, []) else none) else (bif Nat.beq pc 1 then some (.istore_n 2, 1, []) else none)) else (bif Nat.blt pc 3 then (bif Nat.beq pc 2 then some (.iload_n 2, 1, []) else none) else (bif Nat.blt pc 4 then (bif Nat.beq pc 3 then some (.iload_n 1, 1, []) else none) else (bif Nat.beq pc 4 then some (.if_icmp .ge 13, 3, [17]) else none)))) else (bif Nat.blt pc 11 then (bif Nat.blt pc 8 then (bif Nat.beq pc 7 then some (.aload_n 0, 1, []) else none) else (bif Nat.beq pc 8 then some (.invokevirtual 127, 3, [0, 32, 0, 343, 1, 2, 0]) else none)) else (bif Nat.blt pc 14 then (bif Nat.beq pc 11 then some (.iinc 2 1, 3, []) else none) else (bif Nat.blt pc 17 then (bif Nat.beq pc 14 then some (.goto (-12), 3, [2]) else none) else (bif Nat.beq pc 17 then some (.return_, 1, []) else none))))
/-- X2_cyclesToEnd -/
def I_X2_cyclesToEnd (pc : Nat) : Option IE := bif Nat.blt pc 11 then (bif Nat.blt pc 3 then (bif Nat.blt pc 1 then (bif Nat.beq pc 0 then some (.iconst 0, 1, []) else none) else (bif Nat.blt pc 2 then (bif Nat.beq pc 1 then some (.istore_n 2, 1, []) else none) else (bif Nat.beq pc 2 then some (.iload_n 2, 1, []) else none))) else (bif Nat.blt pc 7 then (bif Nat.blt pc 4 then (bif Nat.beq pc 3 then some (.iload_n 1, 1, []) else none) else (bif Nat.beq pc 4 then some (.if_icmp .ge 20, 3, [24]) else none)) else (bif Nat.blt pc 8 then (bif Nat.beq pc 7 then some (.aload_n 0, 1, []) else none) else (bif Nat.beq pc 8 then some (.invokevirtual 94, 3, [0, 22, 0, 339, 1, 1, 1]) else none)))) else (bif Nat.blt pc 18 then (bif Nat.blt pc 14 then (bif Nat.beq pc 11 then some (.ifCond .ne 13, 3, [24]) else none) else (bif Nat.blt pc 15 then (bif Nat.beq pc 14 then some (.aload_n 0, 1, []) else none) else (bif Nat.beq pc 15 then some (.invokevirtual 127, 3, [0, 32, 0, 343, 1, 2, 0]) else none))) else (bif Nat.blt pc 24 then (bif Nat.blt pc 21 then (bif Nat.beq pc 18 then some (.iinc 2 1, 3, []) else none) else (bif Nat.beq pc 21 then some (.goto (-19), 3, [2]) else none)) else (bif Nat.blt pc 25 then (bif Nat.beq pc 24 then some (.iload_n 2, 1, []) else none) else (bif Nat.beq pc 25 then some (.ireturn, 1, [0]) else none))))
/-- X2_passCycle -/
def I_X2_passCycle (pc : Nat) : Option IE := bif Nat.blt pc 30 then (bif Nat.blt pc 14 then (bif Nat.blt pc 8 then (bif Nat.blt pc 4 then (bif Nat.blt pc 1 then (bif Nat.beq pc 0 then some (.aload_n 0, 1, []) else none) else (bif Nat.beq pc 1 then some (.invokevirtual 130, 3, [0, 33, 0, 347, 1, 3, 0]) else none)) else (bif Nat.blt pc 5 then (bif Nat.beq pc 4 then some (.aload_n 0, 1, []) else none) else (bif Nat.beq pc 5 then some (.getfield 56, 3, [1, 8, 0, 178]) else none))) else (bif Nat.blt pc 10 then (bif Nat.blt pc 9 then (bif Nat.beq pc 8 then some (.istore_n 1, 1, []) else none) else (bif Nat.beq pc 9 then some (.iload_n 1, 1, []) else none)) else (bif Nat.blt pc 11 then (bif Nat.beq pc 10 then some (.aload_n 0, 1, []) else none) else (bif Nat.beq pc 11 then some (.getfield 53, 3, [1, 7, 0, 176]) else none)))) else (bif Nat.blt pc 22 then (bif Nat.blt pc 18 then (bif Nat.blt pc 17 then (bif Nat.beq pc 14 then some (.if_icmp .ge 30, 3, [44]) else none) else (bif Nat.beq pc 17 then some (.aload_n 0, 1, []) else none)) else (bif Nat.blt pc 19 then (bif Nat.beq pc 18 then some (.iload_n 1, 1, []) else none) else (bif Nat.beq pc 19 then some (.invokevirtual 36, 3, [0, 17, 1, 266, 1, 2, 5]) else none))) else (bif Nat.blt pc 28 then (bif Nat.blt pc 25 then (bif Nat.beq pc 22 then some (.invokevirtual 133, 3, [0, 10, 0, 355, 0, 1, 1]) else none) else (bif Nat.beq pc 25 then some (.ifCond .eq 13, 3, [38]) else none)) else (bif Nat.blt pc 29 then (bif Nat.beq pc 28 then some (.aload_n 0, 1, []) else none) else (bif Nat.beq pc 29 then some (.iload_n 1, 1, []) else none))))) else (bif Nat.blt pc 48 then (bif Nat.blt pc 38 then (bif Nat.blt pc 32 then (bif Nat.blt pc 31 then (bif Nat.beq pc 30 then some (.aload_n 0, 1, []) else none) else (bif Nat.beq pc 31 then some (.iload_n 1, 1, []) else none)) else (bif Nat.blt pc 35 then (bif Nat.beq pc 32 then some (.invokevirtual 36, 3, [0, 17, 1, 266, 1, 2, 5]) else none) else (bif Nat.beq pc 35 then some (.invokevirtual 136, 3, [0, 34, 2, 359, 1, 5, 0]) else none))) else (bif Nat.blt pc 44 then (bif Nat.blt pc 41 then (bif Nat.beq pc 38 then some (.iinc 1 1, 3, []) else none) else (bif Nat.beq pc 41 then some (.goto (-32), 3, [9]) else none)) else (bif Nat.blt pc 45 then (bif Nat.beq pc 44 then some (.aload_n 0, 1, []) else none) else (bif Nat.beq pc 45 then some (.invokevirtual 140, 3, [0, 39, 0, 429, 1, 4, 0]) else none)))) else (bif Nat.blt pc 54 then (bif Nat.blt pc 52 then (bif Nat.blt pc 49 then (bif Nat.beq pc 48 then some (.aload_n 0, 1, []) else none) else (bif Nat.beq pc 49 then some (.invokevirtual 143, 3, [0, 40, 0, 445, 1, 3, 0]) else none)) else (bif Nat.blt pc 53 then (bif Nat.beq pc 52 then some (.aload_n 0, 1, []) else none) else (bif Nat.beq pc 53 then some (.dup, 1, []) else none))) else (bif Nat.blt pc 58 then (bif Nat.blt pc 57 then (bif Nat.beq pc 54 then some (.getfield 50, 3, [1, 5, 0, 172]) else none) else (bif Nat.beq pc 57 then some (.iconst 1, 1, []) else none)) else (bif Nat.blt pc 59 then (bif Nat.beq pc 58 then some (.iadd, 1, []) else none) else (bif Nat.blt pc 62 then (bif Nat.beq pc 59 then some (.putfield 50, 3, [1, 5, 0, 172]) else none) else (bif Nat.beq pc 62 then some (.return_, 1, []) else none))))))
/-- X2_retireEntries -/
def I_X2_retireEntries (pc : Nat) : Option IE := bif Nat.blt pc 46 then (bif Nat.blt pc 23 then (bif Nat.blt pc 8 then (bif Nat.blt pc 5 then (bif Nat.blt pc 1 then (bif Nat.beq pc 0 then some (.aload_n 0, 1, []) else none) else (bif Nat.blt pc 4 then (bif Nat.beq pc 1 then some (.getfield 29, 3, [1, 4, 1, 170]) else none) else (bif Nat.beq pc 4 then some (.iconst 2, 1, []) else none))) else (bif Nat.blt pc 6 then (bif Nat.beq pc 5 then some (.iaload, 1, []) else none) else (bif Nat.blt pc 7 then (bif Nat.beq pc 6 then some (.istore_n 1, 1, []) else none) else (bif Nat.beq pc 7 then some (.iload_n 1, 1, []) else none)))) else (bif Nat.blt pc 15 then (bif Nat.blt pc 11 then (bif Nat.beq pc 8 then some (.ifCond .le 88, 3, [96]) else none) else (bif Nat.blt pc 12 then (bif Nat.beq pc 11 then some (.aload_n 0, 1, []) else none) else (bif Nat.beq pc 12 then some (.getfield 56, 3, [1, 8, 0, 178]) else none))) else (bif Nat.blt pc 19 then (bif Nat.blt pc 16 then (bif Nat.beq pc 15 then some (.aload_n 0, 1, []) else none) else (bif Nat.beq pc 16 then some (.getfield 53, 3, [1, 7, 0, 176]) else none)) else (bif Nat.blt pc 22 then (bif Nat.beq pc 19 then some (.if_icmp .ge 77, 3, [96]) else none) else (bif Nat.beq pc 22 then some (.aload_n 0, 1, []) else none))))) else (bif Nat.blt pc 35 then (bif Nat.blt pc 30 then (bif Nat.blt pc 24 then (bif Nat.beq pc 23 then some (.aload_n 0, 1, []) else none) else (bif Nat.blt pc 27 then (bif Nat.beq pc 24 then some (.getfield 56, 3, [1, 8, 0, 178]) else none) else (bif Nat.beq pc 27 then some (.invokevirtual 36, 3, [0, 17, 1, 266, 1, 2, 5]) else none))) else (bif Nat.blt pc 31 then (bif Nat.beq pc 30 then some (.astore_n 2, 1, []) else none) else (bif Nat.blt pc 32 then (bif Nat.beq pc 31 then some (.aload_n 2, 1, []) else none) else (bif Nat.beq pc 32 then some (.getfield 98, 3, [0, 7, 0, 122]) else none)))) else (bif Nat.blt pc 40 then (bif Nat.blt pc 36 then (bif Nat.beq pc 35 then some (.iconst 2, 1, []) else none) else (bif Nat.blt pc 39 then (bif Nat.beq pc 36 then some (.if_icmp .eq 4, 3, [40]) else none) else (bif Nat.beq pc 39 then some (.return_, 1, []) else none))) else (bif Nat.blt pc 42 then (bif Nat.blt pc 41 then (bif Nat.beq pc 40 then some (.aload_n 0, 1, []) else none) else (bif Nat.beq pc 41 then some (.aload_n 2, 1, []) else none)) else (bif Nat.blt pc 45 then (bif Nat.beq pc 42 then some (.invokevirtual 146, 3, [0, 20, 1, 351, 1, 2, 0]) else none) else (bif Nat.beq pc 45 then some (.aload_n 2, 1, []) else none)))))) else (bif Nat.blt pc 71 then (bif Nat.blt pc 60 then (bif Nat.blt pc 53 then (bif Nat.blt pc 49 then (bif Nat.beq pc 46 then some (.getfield 78, 3, [0, 0, 0, 107]) else none) else (bif Nat.blt pc 50 then (bif Nat.beq pc 49 then some (.iconst 3, 1, []) else none) else (bif Nat.beq pc 50 then some (.if_icmp .ne 20, 3, [70]) else none))) else (bif Nat.blt pc 54 then (bif Nat.beq pc 53 then some (.aload_n 2, 1, []) else none) else (bif Nat.blt pc 57 then (bif Nat.beq pc 54 then some (.getfield 74, 3, [0, 5, 0, 117]) else none) else (bif Nat.beq pc 57 then some (.ifCond .le 13, 3, [70]) else none)))) else (bif Nat.blt pc 65 then (bif Nat.blt pc 61 then (bif Nat.beq pc 60 then some (.aload_n 2, 1, []) else none) else (bif Nat.blt pc 62 then (bif Nat.beq pc 61 then some (.dup, 1, []) else none) else (bif Nat.beq pc 62 then some (.getfield 74, 3, [0, 5, 0, 117]) else none))) else (bif Nat.blt pc 67 then (bif Nat.blt pc 66 then (bif Nat.beq pc 65 then some (.iconst 1, 1, []) else none) else (bif Nat.beq pc 66 then some (.isub, 1, []) else none)) else (bif Nat.blt pc 70 then (bif Nat.beq pc 67 then some (.putfield 74, 3, [0, 5, 0, 117]) else none) else (bif Nat.beq pc 70 then some (.aload_n 0, 1, []) else none))))) else (bif Nat.blt pc 82 then (bif Nat.blt pc 76 then (bif Nat.blt pc 72 then (bif Nat.beq pc 71 then some (.dup, 1, []) else none) else (bif Nat.blt pc 75 then (bif Nat.beq pc 72 then some (.getfield 56, 3, [1, 8, 0, 178]) else none) else (bif Nat.beq pc 75 then some (.iconst 1, 1, []) else none))) else (bif Nat.blt pc 80 then (bif Nat.blt pc 77 then (bif Nat.beq pc 76 then some (.iadd, 1, []) else none) else (bif Nat.beq pc 77 then some (.putfield 56, 3, [1, 8, 0, 178]) else none)) else (bif Nat.blt pc 81 then (bif Nat.beq pc 80 then some (.aload_n 0, 1, []) else none) else (bif Nat.beq pc 81 then some (.dup, 1, []) else none)))) else (bif Nat.blt pc 87 then (bif Nat.blt pc 85 then (bif Nat.beq pc 82 then some (.getfield 65, 3, [1, 11, 0, 183]) else none) else (bif Nat.blt pc 86 then (bif Nat.beq pc 85 then some (.iconst 1, 1, []) else none) else (bif Nat.beq pc 86 then some (.iadd, 1, []) else none))) else (bif Nat.blt pc 93 then (bif Nat.blt pc 90 then (bif Nat.beq pc 87 then some (.putfield 65, 3, [1, 11, 0, 183]) else none) else (bif Nat.beq pc 90 then some (.iinc 1 (-1), 3, []) else none)) else (bif Nat.blt pc 96 then (bif Nat.beq pc 93 then some (.goto (-86), 3, [7]) else none) else (bif Nat.beq pc 96 then some (.return_, 1, []) else none))))))
/-- X2_finish -/
def I_X2_finish (pc : Nat) : Option IE := bif Nat.blt pc 51 then (bif Nat.blt pc 27 then (bif Nat.blt pc 13 then (bif Nat.blt pc 5 then (bif Nat.blt pc 1 then (bif Nat.beq pc 0 then some (.aload_n 0, 1, []) else none) else (bif Nat.blt pc 2 then (bif Nat.beq pc 1 then some (.aload_n 2, 1, []) else none) else (bif Nat.beq pc 2 then some (.getfield 149, 3, [0, 2, 0, 111]) else none))) else (bif Nat.blt pc 9 then (bif Nat.blt pc 6 then (bif Nat.beq pc 5 then some (.aload_n 2, 1, []) else none) else (bif Nat.beq pc 6 then some (.getfield 104, 3, [0, 9, 0, 126]) else none)) else (bif Nat.blt pc 12 then (bif Nat.beq pc 9 then some (.invokevirtual 152, 3, [0, 35, 2, 363, 1, 3, 1]) else none) else (bif Nat.beq pc 12 then some (.istore_n 3, 1, []) else none)))) else (bif Nat.blt pc 18 then (bif Nat.blt pc 14 then (bif Nat.beq pc 13 then some (.aload_n 0, 1, []) else none) else (bif Nat.blt pc 15 then (bif Nat.beq pc 14 then some (.aload_n 2, 1, []) else none) else (bif Nat.beq pc 15 then some (.getfield 156, 3, [0, 3, 0, 113]) else none))) else (bif Nat.blt pc 22 then (bif Nat.blt pc 19 then (bif Nat.beq pc 18 then some (.aload_n 2, 1, []) else none) else (bif Nat.beq pc 19 then some (.getfield 107, 3, [0, 10, 0, 128]) else none)) else (bif Nat.blt pc 25 then (bif Nat.beq pc 22 then some (.invokevirtual 152, 3, [0, 35, 2, 363, 1, 3, 1]) else none) else (bif Nat.beq pc 25 then some (.istore 4, 2, []) else none))))) else (bif Nat.blt pc 40 then (bif Nat.blt pc 32 then (bif Nat.blt pc 28 then (bif Nat.beq pc 27 then some (.aload_n 2, 1, []) else none) else (bif Nat.blt pc 29 then (bif Nat.beq pc 28 then some (.iconst 2, 1, []) else none) else (bif Nat.beq pc 29 then some (.putfield 98, 3, [0, 7, 0, 122]) else none))) else (bif Nat.blt pc 36 then (bif Nat.blt pc 33 then (bif Nat.beq pc 32 then some (.aload_n 2, 1, []) else none) else (bif Nat.beq pc 33 then some (.getfield 78, 3, [0, 0, 0, 107]) else none)) else (bif Nat.blt pc 37 then (bif Nat.beq pc 36 then some (.iconst 3, 1, []) else none) else (bif Nat.beq pc 37 then some (.if_icmp .ne 13, 3, [50]) else none)))) else (bif Nat.blt pc 43 then (bif Nat.blt pc 41 then (bif Nat.beq pc 40 then some (.aload_n 0, 1, []) else none) else (bif Nat.blt pc 42 then (bif Nat.beq pc 41 then some (.iload_n 1, 1, []) else none) else (bif Nat.beq pc 42 then some (.aload_n 2, 1, []) else none))) else (bif Nat.blt pc 47 then (bif Nat.blt pc 44 then (bif Nat.beq pc 43 then some (.iload_n 3, 1, []) else none) else (bif Nat.beq pc 44 then some (.invokevirtual 159, 3, [0, 36, 3, 371, 1, 4, 0]) else none)) else (bif Nat.blt pc 50 then (bif Nat.beq pc 47 then some (.goto 59, 3, [106]) else none) else (bif Nat.beq pc 50 then some (.aload_n 2, 1, []) else none)))))) else (bif Nat.blt pc 78 then (bif Nat.blt pc 64 then (bif Nat.blt pc 58 then (bif Nat.blt pc 54 then (bif Nat.beq pc 51 then some (.getfield 78, 3, [0, 0, 0, 107]) else none) else (bif Nat.blt pc 55 then (bif Nat.beq pc 54 then some (.iconst 4, 1, []) else none) else (bif Nat.beq pc 55 then some (.if_icmp .ne 33, 3, [88]) else none))) else (bif Nat.blt pc 60 then (bif Nat.blt pc 59 then (bif Nat.beq pc 58 then some (.aload_n 2, 1, []) else none) else (bif Nat.beq pc 59 then some (.iload_n 3, 1, []) else none)) else (bif Nat.blt pc 61 then (bif Nat.beq pc 60 then some (.aload_n 2, 1, []) else none) else (bif Nat.beq pc 61 then some (.getfield 163, 3, [0, 4, 0, 115]) else none)))) else (bif Nat.blt pc 71 then (bif Nat.blt pc 67 then (bif Nat.beq pc 64 then some (.invokestatic 166, 3, [1, 42, 2, 375, 1, 2, 1]) else none) else (bif Nat.blt pc 70 then (bif Nat.beq pc 67 then some (.putfield 81, 3, [0, 11, 0, 130]) else none) else (bif Nat.beq pc 70 then some (.aload_n 2, 1, []) else none))) else (bif Nat.blt pc 76 then (bif Nat.blt pc 73 then (bif Nat.beq pc 71 then some (.iload 4, 2, []) else none) else (bif Nat.beq pc 73 then some (.putfield 84, 3, [0, 13, 0, 134]) else none)) else (bif Nat.blt pc 77 then (bif Nat.beq pc 76 then some (.aload_n 0, 1, []) else none) else (bif Nat.beq pc 77 then some (.iload_n 1, 1, []) else none))))) else (bif Nat.blt pc 93 then (bif Nat.blt pc 85 then (bif Nat.blt pc 79 then (bif Nat.beq pc 78 then some (.aload_n 2, 1, []) else none) else (bif Nat.blt pc 82 then (bif Nat.beq pc 79 then some (.getfield 81, 3, [0, 11, 0, 130]) else none) else (bif Nat.beq pc 82 then some (.invokevirtual 169, 3, [0, 37, 2, 403, 1, 5, 0]) else none))) else (bif Nat.blt pc 89 then (bif Nat.blt pc 88 then (bif Nat.beq pc 85 then some (.goto 21, 3, [106]) else none) else (bif Nat.beq pc 88 then some (.aload_n 2, 1, []) else none)) else (bif Nat.blt pc 90 then (bif Nat.beq pc 89 then some (.aload_n 2, 1, []) else none) else (bif Nat.beq pc 90 then some (.getfield 78, 3, [0, 0, 0, 107]) else none)))) else (bif Nat.blt pc 97 then (bif Nat.blt pc 94 then (bif Nat.beq pc 93 then some (.iload_n 3, 1, []) else none) else (bif Nat.blt pc 96 then (bif Nat.beq pc 94 then some (.iload 4, 2, []) else none) else (bif Nat.beq pc 96 then some (.aload_n 2, 1, []) else none))) else (bif Nat.blt pc 103 then (bif Nat.blt pc 100 then (bif Nat.beq pc 97 then some (.getfield 163, 3, [0, 4, 0, 115]) else none) else (bif Nat.beq pc 100 then some (.invokestatic 173, 3, [1, 3, 4, 411, 9, 4, 1]) else none)) else (bif Nat.blt pc 106 then (bif Nat.beq pc 103 then some (.putfield 84, 3, [0, 13, 0, 134]) else none) else (bif Nat.beq pc 106 then some (.return_, 1, []) else none))))))
/-- X2_operand -/
def I_X2_operand (pc : Nat) : Option IE := bif Nat.blt pc 10 then (bif Nat.blt pc 5 then (bif Nat.blt pc 1 then (bif Nat.beq pc 0 then some (.iload_n 2, 1, []) else none) else (bif Nat.blt pc 2 then (bif Nat.beq pc 1 then some (.iconst (-1), 1, []) else none) else (bif Nat.beq pc 2 then some (.if_icmp .ne 11, 3, [13]) else none))) else (bif Nat.blt pc 6 then (bif Nat.beq pc 5 then some (.aload_n 0, 1, []) else none) else (bif Nat.blt pc 7 then (bif Nat.beq pc 6 then some (.iload_n 1, 1, []) else none) else (bif Nat.beq pc 7 then some (.invokevirtual 179, 3, [0, 18, 1, 367, 1, 2, 1]) else none)))) else (bif Nat.blt pc 15 then (bif Nat.blt pc 13 then (bif Nat.beq pc 10 then some (.goto 11, 3, [21]) else none) else (bif Nat.blt pc 14 then (bif Nat.beq pc 13 then some (.aload_n 0, 1, []) else none) else (bif Nat.beq pc 14 then some (.iload_n 2, 1, []) else none))) else (bif Nat.blt pc 18 then (bif Nat.beq pc 15 then some (.invokevirtual 36, 3, [0, 17, 1, 266, 1, 2, 5]) else none) else (bif Nat.blt pc 21 then (bif Nat.beq pc 18 then some (.getfield 84, 3, [0, 13, 0, 134]) else none) else (bif Nat.beq pc 21 then some (.ireturn, 1, [0]) else none))))
/-- X2_finishLoad -/
def I_X2_finishLoad (pc : Nat) : Option IE := bif Nat.blt pc 45 then (bif Nat.blt pc 19 then (bif Nat.blt pc 9 then (bif Nat.blt pc 2 then (bif Nat.blt pc 1 then (bif Nat.beq pc 0 then some (.aload_n 2, 1, []) else none) else (bif Nat.beq pc 1 then some (.iload_n 3, 1, []) else none)) else (bif Nat.blt pc 3 then (bif Nat.beq pc 2 then some (.aload_n 2, 1, []) else none) else (bif Nat.blt pc 6 then (bif Nat.beq pc 3 then some (.getfield 163, 3, [0, 4, 0, 115]) else none) else (bif Nat.beq pc 6 then some (.invokestatic 166, 3, [1, 42, 2, 375, 1, 2, 1]) else none)))) else (bif Nat.blt pc 14 then (bif Nat.blt pc 12 then (bif Nat.beq pc 9 then some (.putfield 81, 3, [0, 11, 0, 130]) else none) else (bif Nat.blt pc 13 then (bif Nat.beq pc 12 then some (.aload_n 2, 1, []) else none) else (bif Nat.beq pc 13 then some (.aload_n 0, 1, []) else none))) else (bif Nat.blt pc 15 then (bif Nat.beq pc 14 then some (.aload_n 2, 1, []) else none) else (bif Nat.blt pc 18 then (bif Nat.beq pc 15 then some (.getfield 81, 3, [0, 11, 0, 130]) else none) else (bif Nat.beq pc 18 then some (.iload_n 1, 1, []) else none))))) else (bif Nat.blt pc 31 then (bif Nat.blt pc 26 then (bif Nat.blt pc 22 then (bif Nat.beq pc 19 then some (.invokevirtual 182, 3, [0, 29, 2, 387, 1, 5, 1]) else none) else (bif Nat.blt pc 25 then (bif Nat.beq pc 22 then some (.putfield 114, 3, [0, 12, 0, 132]) else none) else (bif Nat.beq pc 25 then some (.aload_n 2, 1, []) else none))) else (bif Nat.blt pc 27 then (bif Nat.beq pc 26 then some (.aload_n 2, 1, []) else none) else (bif Nat.blt pc 30 then (bif Nat.beq pc 27 then some (.getfield 114, 3, [0, 12, 0, 132]) else none) else (bif Nat.beq pc 30 then some (.iconst (-1), 1, []) else none)))) else (bif Nat.blt pc 36 then (bif Nat.blt pc 34 then (bif Nat.beq pc 31 then some (.if_icmp .ne 14, 3, [45]) else none) else (bif Nat.blt pc 35 then (bif Nat.beq pc 34 then some (.aload_n 0, 1, []) else none) else (bif Nat.beq pc 35 then some (.aload_n 2, 1, []) else none))) else (bif Nat.blt pc 39 then (bif Nat.beq pc 36 then some (.getfield 81, 3, [0, 11, 0, 130]) else none) else (bif Nat.blt pc 42 then (bif Nat.beq pc 39 then some (.invokevirtual 185, 3, [0, 19, 1, 395, 1, 2, 1]) else none) else (bif Nat.beq pc 42 then some (.goto 14, 3, [56]) else none)))))) else (bif Nat.blt pc 66 then (bif Nat.blt pc 56 then (bif Nat.blt pc 47 then (bif Nat.blt pc 46 then (bif Nat.beq pc 45 then some (.aload_n 0, 1, []) else none) else (bif Nat.beq pc 46 then some (.aload_n 2, 1, []) else none)) else (bif Nat.blt pc 50 then (bif Nat.beq pc 47 then some (.getfield 114, 3, [0, 12, 0, 132]) else none) else (bif Nat.blt pc 53 then (bif Nat.beq pc 50 then some (.invokevirtual 36, 3, [0, 17, 1, 266, 1, 2, 5]) else none) else (bif Nat.beq pc 53 then some (.getfield 84, 3, [0, 13, 0, 134]) else none)))) else (bif Nat.blt pc 61 then (bif Nat.blt pc 59 then (bif Nat.beq pc 56 then some (.putfield 84, 3, [0, 13, 0, 134]) else none) else (bif Nat.blt pc 60 then (bif Nat.beq pc 59 then some (.aload_n 0, 1, []) else none) else (bif Nat.beq pc 60 then some (.dup, 1, []) else none))) else (bif Nat.blt pc 64 then (bif Nat.beq pc 61 then some (.getfield 68, 3, [1, 12, 0, 185]) else none) else (bif Nat.blt pc 65 then (bif Nat.beq pc 64 then some (.iconst 1, 1, []) else none) else (bif Nat.beq pc 65 then some (.iadd, 1, []) else none))))) else (bif Nat.blt pc 78 then (bif Nat.blt pc 71 then (bif Nat.blt pc 69 then (bif Nat.beq pc 66 then some (.putfield 68, 3, [1, 12, 0, 185]) else none) else (bif Nat.blt pc 70 then (bif Nat.beq pc 69 then some (.aload_n 0, 1, []) else none) else (bif Nat.beq pc 70 then some (.iload_n 1, 1, []) else none))) else (bif Nat.blt pc 74 then (bif Nat.beq pc 71 then some (.invokevirtual 124, 3, [0, 27, 1, 399, 1, 4, 1]) else none) else (bif Nat.blt pc 77 then (bif Nat.beq pc 74 then some (.ifCond .eq 13, 3, [87]) else none) else (bif Nat.beq pc 77 then some (.aload_n 0, 1, []) else none)))) else (bif Nat.blt pc 83 then (bif Nat.blt pc 79 then (bif Nat.beq pc 78 then some (.dup, 1, []) else none) else (bif Nat.blt pc 82 then (bif Nat.beq pc 79 then some (.getfield 71, 3, [1, 13, 0, 187]) else none) else (bif Nat.beq pc 82 then some (.iconst 1, 1, []) else none))) else (bif Nat.blt pc 84 then (bif Nat.beq pc 83 then some (.iadd, 1, []) else none) else (bif Nat.blt pc 87 then (bif Nat.beq pc 84 then some (.putfield 71, 3, [1, 13, 0, 187]) else none) else (bif Nat.beq pc 87 then some (.return_, 1, []) else none))))))
/-- X2_breakAlibis -/
def I_X2_breakAlibis (pc : Nat) : Option IE := bif Nat.blt pc 28 then (bif Nat.blt pc 12 then (bif Nat.blt pc 4 then (bif Nat.blt pc 2 then (bif Nat.blt pc 1 then (bif Nat.beq pc 0 then some (.iload_n 1, 1, []) else none) else (bif Nat.beq pc 1 then some (.iconst 1, 1, []) else none)) else (bif Nat.blt pc 3 then (bif Nat.beq pc 2 then some (.iadd, 1, []) else none) else (bif Nat.beq pc 3 then some (.istore_n 3, 1, []) else none))) else (bif Nat.blt pc 6 then (bif Nat.blt pc 5 then (bif Nat.beq pc 4 then some (.iload_n 3, 1, []) else none) else (bif Nat.beq pc 5 then some (.aload_n 0, 1, []) else none)) else (bif Nat.blt pc 9 then (bif Nat.beq pc 6 then some (.getfield 53, 3, [1, 7, 0, 176]) else none) else (bif Nat.beq pc 9 then some (.if_icmp .ge 51, 3, [60]) else none)))) else (bif Nat.blt pc 19 then (bif Nat.blt pc 14 then (bif Nat.blt pc 13 then (bif Nat.beq pc 12 then some (.aload_n 0, 1, []) else none) else (bif Nat.beq pc 13 then some (.iload_n 3, 1, []) else none)) else (bif Nat.blt pc 17 then (bif Nat.beq pc 14 then some (.invokevirtual 36, 3, [0, 17, 1, 266, 1, 2, 5]) else none) else (bif Nat.beq pc 17 then some (.astore 4, 2, []) else none))) else (bif Nat.blt pc 22 then (bif Nat.blt pc 21 then (bif Nat.beq pc 19 then some (.aload 4, 2, []) else none) else (bif Nat.beq pc 21 then some (.iconst 3, 1, []) else none)) else (bif Nat.blt pc 25 then (bif Nat.beq pc 22 then some (.invokevirtual 110, 3, [0, 9, 1, 391, 0, 2, 1]) else none) else (bif Nat.beq pc 25 then some (.ifCond .eq 29, 3, [54]) else none))))) else (bif Nat.blt pc 46 then (bif Nat.blt pc 37 then (bif Nat.blt pc 33 then (bif Nat.blt pc 30 then (bif Nat.beq pc 28 then some (.aload 4, 2, []) else none) else (bif Nat.beq pc 30 then some (.getfield 81, 3, [0, 11, 0, 130]) else none)) else (bif Nat.blt pc 34 then (bif Nat.beq pc 33 then some (.iload_n 2, 1, []) else none) else (bif Nat.beq pc 34 then some (.if_icmp .ne 20, 3, [54]) else none))) else (bif Nat.blt pc 42 then (bif Nat.blt pc 39 then (bif Nat.beq pc 37 then some (.aload 4, 2, []) else none) else (bif Nat.beq pc 39 then some (.getfield 114, 3, [0, 12, 0, 132]) else none)) else (bif Nat.blt pc 43 then (bif Nat.beq pc 42 then some (.iload_n 1, 1, []) else none) else (bif Nat.beq pc 43 then some (.if_icmp .ge 11, 3, [54]) else none)))) else (bif Nat.blt pc 53 then (bif Nat.blt pc 48 then (bif Nat.blt pc 47 then (bif Nat.beq pc 46 then some (.aload_n 0, 1, []) else none) else (bif Nat.beq pc 47 then some (.iload_n 3, 1, []) else none)) else (bif Nat.blt pc 50 then (bif Nat.beq pc 48 then some (.aload 4, 2, []) else none) else (bif Nat.beq pc 50 then some (.invokevirtual 188, 3, [0, 38, 2, 407, 1, 4, 0]) else none))) else (bif Nat.blt pc 57 then (bif Nat.blt pc 54 then (bif Nat.beq pc 53 then some (.return_, 1, []) else none) else (bif Nat.beq pc 54 then some (.iinc 3 1, 3, []) else none)) else (bif Nat.blt pc 60 then (bif Nat.beq pc 57 then some (.goto (-53), 3, [4]) else none) else (bif Nat.beq pc 60 then some (.return_, 1, []) else none)))))
/-- X2_replay -/
def I_X2_replay (pc : Nat) : Option IE := bif Nat.blt pc 31 then (bif Nat.blt pc 15 then (bif Nat.blt pc 6 then (bif Nat.blt pc 2 then (bif Nat.blt pc 1 then (bif Nat.beq pc 0 then some (.aload_n 2, 1, []) else none) else (bif Nat.beq pc 1 then some (.iconst 3, 1, []) else none)) else (bif Nat.blt pc 5 then (bif Nat.beq pc 2 then some (.putfield 74, 3, [0, 5, 0, 117]) else none) else (bif Nat.beq pc 5 then some (.aload_n 2, 1, []) else none))) else (bif Nat.blt pc 10 then (bif Nat.blt pc 7 then (bif Nat.beq pc 6 then some (.dup, 1, []) else none) else (bif Nat.beq pc 7 then some (.getfield 77, 3, [0, 6, 0, 119]) else none)) else (bif Nat.blt pc 11 then (bif Nat.beq pc 10 then some (.iconst 1, 1, []) else none) else (bif Nat.blt pc 12 then (bif Nat.beq pc 11 then some (.iadd, 1, []) else none) else (bif Nat.beq pc 12 then some (.putfield 77, 3, [0, 6, 0, 119]) else none))))) else (bif Nat.blt pc 22 then (bif Nat.blt pc 17 then (bif Nat.blt pc 16 then (bif Nat.beq pc 15 then some (.aload_n 0, 1, []) else none) else (bif Nat.beq pc 16 then some (.dup, 1, []) else none)) else (bif Nat.blt pc 20 then (bif Nat.beq pc 17 then some (.getfield 59, 3, [1, 9, 0, 180]) else none) else (bif Nat.blt pc 21 then (bif Nat.beq pc 20 then some (.iconst 1, 1, []) else none) else (bif Nat.beq pc 21 then some (.iadd, 1, []) else none)))) else (bif Nat.blt pc 26 then (bif Nat.blt pc 25 then (bif Nat.beq pc 22 then some (.putfield 59, 3, [1, 9, 0, 180]) else none) else (bif Nat.beq pc 25 then some (.aload_n 0, 1, []) else none)) else (bif Nat.blt pc 27 then (bif Nat.beq pc 26 then some (.dup, 1, []) else none) else (bif Nat.blt pc 30 then (bif Nat.beq pc 27 then some (.getfield 62, 3, [1, 10, 0, 182]) else none) else (bif Nat.beq pc 30 then some (.aload_n 0, 1, []) else none)))))) else (bif Nat.blt pc 44 then (bif Nat.blt pc 37 then (bif Nat.blt pc 35 then (bif Nat.blt pc 34 then (bif Nat.beq pc 31 then some (.getfield 53, 3, [1, 7, 0, 176]) else none) else (bif Nat.beq pc 34 then some (.iload_n 1, 1, []) else none)) else (bif Nat.blt pc 36 then (bif Nat.beq pc 35 then some (.isub, 1, []) else none) else (bif Nat.beq pc 36 then some (.iadd, 1, []) else none))) else (bif Nat.blt pc 41 then (bif Nat.blt pc 40 then (bif Nat.beq pc 37 then some (.putfield 62, 3, [1, 10, 0, 182]) else none) else (bif Nat.beq pc 40 then some (.iload_n 1, 1, []) else none)) else (bif Nat.blt pc 42 then (bif Nat.beq pc 41 then some (.istore_n 3, 1, []) else none) else (bif Nat.blt pc 43 then (bif Nat.beq pc 42 then some (.iload_n 3, 1, []) else none) else (bif Nat.beq pc 43 then some (.aload_n 0, 1, []) else none))))) else (bif Nat.blt pc 55 then (bif Nat.blt pc 50 then (bif Nat.blt pc 47 then (bif Nat.beq pc 44 then some (.getfield 53, 3, [1, 7, 0, 176]) else none) else (bif Nat.beq pc 47 then some (.if_icmp .ge 18, 3, [65]) else none)) else (bif Nat.blt pc 51 then (bif Nat.beq pc 50 then some (.aload_n 0, 1, []) else none) else (bif Nat.blt pc 52 then (bif Nat.beq pc 51 then some (.iload_n 3, 1, []) else none) else (bif Nat.beq pc 52 then some (.invokevirtual 36, 3, [0, 17, 1, 266, 1, 2, 5]) else none)))) else (bif Nat.blt pc 59 then (bif Nat.blt pc 56 then (bif Nat.beq pc 55 then some (.iconst 0, 1, []) else none) else (bif Nat.beq pc 56 then some (.putfield 98, 3, [0, 7, 0, 122]) else none)) else (bif Nat.blt pc 62 then (bif Nat.beq pc 59 then some (.iinc 3 1, 3, []) else none) else (bif Nat.blt pc 65 then (bif Nat.beq pc 62 then some (.goto (-20), 3, [42]) else none) else (bif Nat.beq pc 65 then some (.return_, 1, []) else none))))))
/-- X2_startEntries -/
def I_X2_startEntries (pc : Nat) : Option IE := bif Nat.blt pc 26 then (bif Nat.blt pc 12 then (bif Nat.blt pc 6 then (bif Nat.blt pc 4 then (bif Nat.blt pc 1 then (bif Nat.beq pc 0 then some (.aload_n 0, 1, []) else none) else (bif Nat.beq pc 1 then some (.getfield 29, 3, [1, 4, 1, 170]) else none)) else (bif Nat.blt pc 5 then (bif Nat.beq pc 4 then some (.iconst 1, 1, []) else none) else (bif Nat.beq pc 5 then some (.iaload, 1, []) else none))) else (bif Nat.blt pc 8 then (bif Nat.blt pc 7 then (bif Nat.beq pc 6 then some (.istore_n 1, 1, []) else none) else (bif Nat.beq pc 7 then some (.aload_n 0, 1, []) else none)) else (bif Nat.blt pc 11 then (bif Nat.beq pc 8 then some (.getfield 56, 3, [1, 8, 0, 178]) else none) else (bif Nat.beq pc 11 then some (.istore_n 2, 1, []) else none)))) else (bif Nat.blt pc 20 then (bif Nat.blt pc 14 then (bif Nat.blt pc 13 then (bif Nat.beq pc 12 then some (.iload_n 2, 1, []) else none) else (bif Nat.beq pc 13 then some (.aload_n 0, 1, []) else none)) else (bif Nat.blt pc 17 then (bif Nat.beq pc 14 then some (.getfield 53, 3, [1, 7, 0, 176]) else none) else (bif Nat.beq pc 17 then some (.if_icmp .ge 43, 3, [60]) else none))) else (bif Nat.blt pc 24 then (bif Nat.blt pc 21 then (bif Nat.beq pc 20 then some (.iload_n 1, 1, []) else none) else (bif Nat.beq pc 21 then some (.ifCond .le 39, 3, [60]) else none)) else (bif Nat.blt pc 25 then (bif Nat.beq pc 24 then some (.aload_n 0, 1, []) else none) else (bif Nat.beq pc 25 then some (.iload_n 2, 1, []) else none))))) else (bif Nat.blt pc 40 then (bif Nat.blt pc 34 then (bif Nat.blt pc 32 then (bif Nat.blt pc 29 then (bif Nat.beq pc 26 then some (.invokevirtual 117, 3, [0, 25, 1, 433, 1, 3, 1]) else none) else (bif Nat.beq pc 29 then some (.ifCond .ne 25, 3, [54]) else none)) else (bif Nat.blt pc 33 then (bif Nat.beq pc 32 then some (.aload_n 0, 1, []) else none) else (bif Nat.beq pc 33 then some (.iload_n 2, 1, []) else none))) else (bif Nat.blt pc 38 then (bif Nat.blt pc 37 then (bif Nat.beq pc 34 then some (.invokevirtual 36, 3, [0, 17, 1, 266, 1, 2, 5]) else none) else (bif Nat.beq pc 37 then some (.astore_n 3, 1, []) else none)) else (bif Nat.blt pc 39 then (bif Nat.beq pc 38 then some (.aload_n 3, 1, []) else none) else (bif Nat.beq pc 39 then some (.iconst 1, 1, []) else none)))) else (bif Nat.blt pc 48 then (bif Nat.blt pc 44 then (bif Nat.blt pc 43 then (bif Nat.beq pc 40 then some (.putfield 98, 3, [0, 7, 0, 122]) else none) else (bif Nat.beq pc 43 then some (.aload_n 3, 1, []) else none)) else (bif Nat.blt pc 45 then (bif Nat.beq pc 44 then some (.aload_n 3, 1, []) else none) else (bif Nat.beq pc 45 then some (.invokevirtual 191, 3, [0, 11, 0, 441, 0, 1, 1]) else none))) else (bif Nat.blt pc 54 then (bif Nat.blt pc 51 then (bif Nat.beq pc 48 then some (.putfield 101, 3, [0, 8, 0, 124]) else none) else (bif Nat.beq pc 51 then some (.iinc 1 (-1), 3, []) else none)) else (bif Nat.blt pc 57 then (bif Nat.beq pc 54 then some (.iinc 2 1, 3, []) else none) else (bif Nat.blt pc 60 then (bif Nat.beq pc 57 then some (.goto (-45), 3, [12]) else none) else (bif Nat.beq pc 60 then some (.return_, 1, []) else none))))))
/-- X2_issueInstructions -/
def I_X2_issueInstructions (pc : Nat) : Option IE := bif Nat.blt pc 46 then (bif Nat.blt pc 21 then (bif Nat.blt pc 8 then (bif Nat.blt pc 5 then (bif Nat.blt pc 1 then (bif Nat.beq pc 0 then some (.aload_n 0, 1, []) else none) else (bif Nat.blt pc 4 then (bif Nat.beq pc 1 then some (.getfield 29, 3, [1, 4, 1, 170]) else none) else (bif Nat.beq pc 4 then some (.iconst 1, 1, []) else none))) else (bif Nat.blt pc 6 then (bif Nat.beq pc 5 then some (.iaload, 1, []) else none) else (bif Nat.blt pc 7 then (bif Nat.beq pc 6 then some (.istore_n 1, 1, []) else none) else (bif Nat.beq pc 7 then some (.iload_n 1, 1, []) else none)))) else (bif Nat.blt pc 15 then (bif Nat.blt pc 11 then (bif Nat.beq pc 8 then some (.ifCond .le 89, 3, [97]) else none) else (bif Nat.blt pc 12 then (bif Nat.beq pc 11 then some (.aload_n 0, 1, []) else none) else (bif Nat.beq pc 12 then some (.invokevirtual 90, 3, [0, 21, 0, 449, 1, 1, 1]) else none))) else (bif Nat.blt pc 19 then (bif Nat.blt pc 16 then (bif Nat.beq pc 15 then some (.aload_n 0, 1, []) else none) else (bif Nat.beq pc 16 then some (.getfield 29, 3, [1, 4, 1, 170]) else none)) else (bif Nat.blt pc 20 then (bif Nat.beq pc 19 then some (.iconst 0, 1, []) else none) else (bif Nat.beq pc 20 then some (.iaload, 1, []) else none))))) else (bif Nat.blt pc 35 then (bif Nat.blt pc 28 then (bif Nat.blt pc 24 then (bif Nat.beq pc 21 then some (.if_icmp .ge 76, 3, [97]) else none) else (bif Nat.blt pc 25 then (bif Nat.beq pc 24 then some (.aload_n 0, 1, []) else none) else (bif Nat.beq pc 25 then some (.getfield 53, 3, [1, 7, 0, 176]) else none))) else (bif Nat.blt pc 29 then (bif Nat.beq pc 28 then some (.aload_n 0, 1, []) else none) else (bif Nat.blt pc 32 then (bif Nat.beq pc 29 then some (.getfield 32, 3, [1, 6, 0, 174]) else none) else (bif Nat.beq pc 32 then some (.if_icmp .ge 65, 3, [97]) else none)))) else (bif Nat.blt pc 40 then (bif Nat.blt pc 36 then (bif Nat.beq pc 35 then some (.aload_n 0, 1, []) else none) else (bif Nat.blt pc 37 then (bif Nat.beq pc 36 then some (.aload_n 0, 1, []) else none) else (bif Nat.beq pc 37 then some (.getfield 53, 3, [1, 7, 0, 176]) else none))) else (bif Nat.blt pc 44 then (bif Nat.blt pc 43 then (bif Nat.beq pc 40 then some (.invokevirtual 36, 3, [0, 17, 1, 266, 1, 2, 5]) else none) else (bif Nat.beq pc 43 then some (.astore_n 2, 1, []) else none)) else (bif Nat.blt pc 45 then (bif Nat.beq pc 44 then some (.aload_n 2, 1, []) else none) else (bif Nat.beq pc 45 then some (.iconst 0, 1, []) else none)))))) else (bif Nat.blt pc 71 then (bif Nat.blt pc 56 then (bif Nat.blt pc 51 then (bif Nat.blt pc 49 then (bif Nat.beq pc 46 then some (.putfield 98, 3, [0, 7, 0, 122]) else none) else (bif Nat.blt pc 50 then (bif Nat.beq pc 49 then some (.aload_n 2, 1, []) else none) else (bif Nat.beq pc 50 then some (.aload_n 0, 1, []) else none))) else (bif Nat.blt pc 52 then (bif Nat.beq pc 51 then some (.aload_n 2, 1, []) else none) else (bif Nat.blt pc 55 then (bif Nat.beq pc 52 then some (.getfield 149, 3, [0, 2, 0, 111]) else none) else (bif Nat.beq pc 55 then some (.aload_n 0, 1, []) else none)))) else (bif Nat.blt pc 65 then (bif Nat.blt pc 59 then (bif Nat.beq pc 56 then some (.getfield 53, 3, [1, 7, 0, 176]) else none) else (bif Nat.blt pc 62 then (bif Nat.beq pc 59 then some (.invokevirtual 194, 3, [0, 28, 2, 450, 1, 4, 1]) else none) else (bif Nat.beq pc 62 then some (.putfield 104, 3, [0, 9, 0, 126]) else none))) else (bif Nat.blt pc 67 then (bif Nat.blt pc 66 then (bif Nat.beq pc 65 then some (.aload_n 2, 1, []) else none) else (bif Nat.beq pc 66 then some (.aload_n 0, 1, []) else none)) else (bif Nat.blt pc 68 then (bif Nat.beq pc 67 then some (.aload_n 2, 1, []) else none) else (bif Nat.beq pc 68 then some (.getfield 156, 3, [0, 3, 0, 113]) else none))))) else (bif Nat.blt pc 83 then (bif Nat.blt pc 78 then (bif Nat.blt pc 72 then (bif Nat.beq pc 71 then some (.aload_n 0, 1, []) else none) else (bif Nat.blt pc 75 then (bif Nat.beq pc 72 then some (.getfield 53, 3, [1, 7, 0, 176]) else none) else (bif Nat.beq pc 75 then some (.invokevirtual 194, 3, [0, 28, 2, 450, 1, 4, 1]) else none))) else (bif Nat.blt pc 81 then (bif Nat.beq pc 78 then some (.putfield 107, 3, [0, 10, 0, 128]) else none) else (bif Nat.blt pc 82 then (bif Nat.beq pc 81 then some (.aload_n 0, 1, []) else none) else (bif Nat.beq pc 82 then some (.dup, 1, []) else none)))) else (bif Nat.blt pc 88 then (bif Nat.blt pc 86 then (bif Nat.beq pc 83 then some (.getfield 53, 3, [1, 7, 0, 176]) else none) else (bif Nat.blt pc 87 then (bif Nat.beq pc 86 then some (.iconst 1, 1, []) else none) else (bif Nat.beq pc 87 then some (.iadd, 1, []) else none))) else (bif Nat.blt pc 94 then (bif Nat.blt pc 91 then (bif Nat.beq pc 88 then some (.putfield 53, 3, [1, 7, 0, 176]) else none) else (bif Nat.beq pc 91 then some (.iinc 1 (-1), 3, []) else none)) else (bif Nat.blt pc 97 then (bif Nat.beq pc 94 then some (.goto (-87), 3, [7]) else none) else (bif Nat.beq pc 97 then some (.return_, 1, []) else none))))))
/-- X2_carryOutPlainly -/
def I_X2_carryOutPlainly (pc : Nat) : Option IE := bif Nat.blt pc 58 then (bif Nat.blt pc 27 then (bif Nat.blt pc 13 then (bif Nat.blt pc 5 then (bif Nat.blt pc 1 then (bif Nat.beq pc 0 then some (.aload_n 0, 1, []) else none) else (bif Nat.blt pc 4 then (bif Nat.beq pc 1 then some (.getfield 56, 3, [1, 8, 0, 178]) else none) else (bif Nat.beq pc 4 then some (.istore_n 1, 1, []) else none))) else (bif Nat.blt pc 7 then (bif Nat.blt pc 6 then (bif Nat.beq pc 5 then some (.iload_n 1, 1, []) else none) else (bif Nat.beq pc 6 then some (.aload_n 0, 1, []) else none)) else (bif Nat.blt pc 10 then (bif Nat.beq pc 7 then some (.getfield 32, 3, [1, 6, 0, 174]) else none) else (bif Nat.beq pc 10 then some (.if_icmp .ge 113, 3, [123]) else none)))) else (bif Nat.blt pc 19 then (bif Nat.blt pc 15 then (bif Nat.blt pc 14 then (bif Nat.beq pc 13 then some (.aload_n 0, 1, []) else none) else (bif Nat.beq pc 14 then some (.iload_n 1, 1, []) else none)) else (bif Nat.blt pc 18 then (bif Nat.beq pc 15 then some (.invokevirtual 36, 3, [0, 17, 1, 266, 1, 2, 5]) else none) else (bif Nat.beq pc 18 then some (.astore_n 2, 1, []) else none))) else (bif Nat.blt pc 21 then (bif Nat.blt pc 20 then (bif Nat.beq pc 19 then some (.aload_n 0, 1, []) else none) else (bif Nat.beq pc 20 then some (.aload_n 2, 1, []) else none)) else (bif Nat.blt pc 24 then (bif Nat.beq pc 21 then some (.getfield 149, 3, [0, 2, 0, 111]) else none) else (bif Nat.beq pc 24 then some (.invokevirtual 179, 3, [0, 18, 1, 367, 1, 2, 1]) else none))))) else (bif Nat.blt pc 42 then (bif Nat.blt pc 33 then (bif Nat.blt pc 29 then (bif Nat.blt pc 28 then (bif Nat.beq pc 27 then some (.istore_n 3, 1, []) else none) else (bif Nat.beq pc 28 then some (.aload_n 0, 1, []) else none)) else (bif Nat.blt pc 30 then (bif Nat.beq pc 29 then some (.aload_n 2, 1, []) else none) else (bif Nat.beq pc 30 then some (.getfield 156, 3, [0, 3, 0, 113]) else none))) else (bif Nat.blt pc 38 then (bif Nat.blt pc 36 then (bif Nat.beq pc 33 then some (.invokevirtual 179, 3, [0, 18, 1, 367, 1, 2, 1]) else none) else (bif Nat.beq pc 36 then some (.istore 4, 2, []) else none)) else (bif Nat.blt pc 39 then (bif Nat.beq pc 38 then some (.aload_n 2, 1, []) else none) else (bif Nat.beq pc 39 then some (.getfield 78, 3, [0, 0, 0, 107]) else none)))) else (bif Nat.blt pc 48 then (bif Nat.blt pc 46 then (bif Nat.blt pc 43 then (bif Nat.beq pc 42 then some (.iconst 4, 1, []) else none) else (bif Nat.beq pc 43 then some (.if_icmp .ne 24, 3, [67]) else none)) else (bif Nat.blt pc 47 then (bif Nat.beq pc 46 then some (.aload_n 2, 1, []) else none) else (bif Nat.beq pc 47 then some (.iload_n 3, 1, []) else none))) else (bif Nat.blt pc 52 then (bif Nat.blt pc 49 then (bif Nat.beq pc 48 then some (.aload_n 2, 1, []) else none) else (bif Nat.beq pc 49 then some (.getfield 163, 3, [0, 4, 0, 115]) else none)) else (bif Nat.blt pc 55 then (bif Nat.beq pc 52 then some (.invokestatic 166, 3, [1, 42, 2, 375, 1, 2, 1]) else none) else (bif Nat.beq pc 55 then some (.putfield 81, 3, [0, 11, 0, 130]) else none)))))) else (bif Nat.blt pc 91 then (bif Nat.blt pc 75 then (bif Nat.blt pc 67 then (bif Nat.blt pc 61 then (bif Nat.blt pc 59 then (bif Nat.beq pc 58 then some (.aload_n 2, 1, []) else none) else (bif Nat.beq pc 59 then some (.iload 4, 2, []) else none)) else (bif Nat.blt pc 64 then (bif Nat.beq pc 61 then some (.putfield 84, 3, [0, 13, 0, 134]) else none) else (bif Nat.beq pc 64 then some (.goto 48, 3, [112]) else none))) else (bif Nat.blt pc 71 then (bif Nat.blt pc 68 then (bif Nat.beq pc 67 then some (.aload_n 2, 1, []) else none) else (bif Nat.beq pc 68 then some (.getfield 78, 3, [0, 0, 0, 107]) else none)) else (bif Nat.blt pc 72 then (bif Nat.beq pc 71 then some (.iconst 3, 1, []) else none) else (bif Nat.beq pc 72 then some (.if_icmp .ne 22, 3, [94]) else none)))) else (bif Nat.blt pc 79 then (bif Nat.blt pc 77 then (bif Nat.blt pc 76 then (bif Nat.beq pc 75 then some (.aload_n 2, 1, []) else none) else (bif Nat.beq pc 76 then some (.aload_n 0, 1, []) else none)) else (bif Nat.blt pc 78 then (bif Nat.beq pc 77 then some (.iload_n 3, 1, []) else none) else (bif Nat.beq pc 78 then some (.aload_n 2, 1, []) else none))) else (bif Nat.blt pc 85 then (bif Nat.blt pc 82 then (bif Nat.beq pc 79 then some (.getfield 163, 3, [0, 4, 0, 115]) else none) else (bif Nat.beq pc 82 then some (.invokestatic 166, 3, [1, 42, 2, 375, 1, 2, 1]) else none)) else (bif Nat.blt pc 88 then (bif Nat.beq pc 85 then some (.invokevirtual 185, 3, [0, 19, 1, 395, 1, 2, 1]) else none) else (bif Nat.beq pc 88 then some (.putfield 84, 3, [0, 13, 0, 134]) else none))))) else (bif Nat.blt pc 106 then (bif Nat.blt pc 99 then (bif Nat.blt pc 95 then (bif Nat.blt pc 94 then (bif Nat.beq pc 91 then some (.goto 21, 3, [112]) else none) else (bif Nat.beq pc 94 then some (.aload_n 2, 1, []) else none)) else (bif Nat.blt pc 96 then (bif Nat.beq pc 95 then some (.aload_n 2, 1, []) else none) else (bif Nat.beq pc 96 then some (.getfield 78, 3, [0, 0, 0, 107]) else none))) else (bif Nat.blt pc 102 then (bif Nat.blt pc 100 then (bif Nat.beq pc 99 then some (.iload_n 3, 1, []) else none) else (bif Nat.beq pc 100 then some (.iload 4, 2, []) else none)) else (bif Nat.blt pc 103 then (bif Nat.beq pc 102 then some (.aload_n 2, 1, []) else none) else (bif Nat.beq pc 103 then some (.getfield 163, 3, [0, 4, 0, 115]) else none)))) else (bif Nat.blt pc 114 then (bif Nat.blt pc 112 then (bif Nat.blt pc 109 then (bif Nat.beq pc 106 then some (.invokestatic 173, 3, [1, 3, 4, 411, 9, 4, 1]) else none) else (bif Nat.beq pc 109 then some (.putfield 84, 3, [0, 13, 0, 134]) else none)) else (bif Nat.blt pc 113 then (bif Nat.beq pc 112 then some (.aload_n 0, 1, []) else none) else (bif Nat.beq pc 113 then some (.aload_n 2, 1, []) else none))) else (bif Nat.blt pc 120 then (bif Nat.blt pc 117 then (bif Nat.beq pc 114 then some (.invokevirtual 146, 3, [0, 20, 1, 351, 1, 2, 0]) else none) else (bif Nat.beq pc 117 then some (.iinc 1 1, 3, []) else none)) else (bif Nat.blt pc 123 then (bif Nat.beq pc 120 then some (.goto (-115), 3, [5]) else none) else (bif Nat.beq pc 123 then some (.return_, 1, []) else none))))))
/-- X2_placeOf -/
def I_X2_placeOf (pc : Nat) : Option IE := bif Nat.blt pc 6 then (bif Nat.blt pc 4 then (bif Nat.blt pc 1 then (bif Nat.beq pc 0 then some (.iload_n 0, 1, []) else none) else (bif Nat.beq pc 1 then some (.invokestatic 197, 3, [1, 1, 1, 378, 9, 7, 3]) else none)) else (bif Nat.blt pc 5 then (bif Nat.beq pc 4 then some (.f2i, 1, []) else none) else (bif Nat.beq pc 5 then some (.iload_n 1, 1, []) else none))) else (bif Nat.blt pc 9 then (bif Nat.blt pc 7 then (bif Nat.beq pc 6 then some (.iadd, 1, []) else none) else (bif Nat.beq pc 7 then some (.bipush 16, 2, []) else none)) else (bif Nat.blt pc 12 then (bif Nat.beq pc 9 then some (.invokestatic 201, 3, [1, 192, 2, 384, 9, 3, 1]) else none) else (bif Nat.beq pc 12 then some (.ireturn, 1, [0]) else none)))
/-- X3_init -/
def I_X3_init (pc : Nat) : Option IE := bif Nat.blt pc 5 then (bif Nat.blt pc 1 then (bif Nat.beq pc 0 then some (.aload_n 0, 1, []) else none) else (bif Nat.blt pc 4 then (bif Nat.beq pc 1 then some (.invokespecial 3, 3, [3, 0, 0, 225]) else none) else (bif Nat.beq pc 4 then some (.aload_n 0, 1, []) else none))) else (bif Nat.blt pc 9 then (bif Nat.blt pc 7 then (bif Nat.beq pc 5 then some (.bipush 120, 2, []) else none) else (bif Nat.beq pc 7 then some (.newarray .char, 2, [5, 234]) else none)) else (bif Nat.blt pc 12 then (bif Nat.beq pc 9 then some (.putfield 9, 3, [2, 0, 1, 226]) else none) else (bif Nat.beq pc 12 then some (.return_, 1, []) else none)))
/-- X3_add -/
def I_X3_add (pc : Nat) : Option IE := bif Nat.blt pc 23 then (bif Nat.blt pc 11 then (bif Nat.blt pc 4 then (bif Nat.blt pc 1 then (bif Nat.beq pc 0 then some (.aload_n 0, 1, []) else none) else (bif Nat.beq pc 1 then some (.getfield 15, 3, [2, 1, 0, 227]) else none)) else (bif Nat.blt pc 7 then (bif Nat.beq pc 4 then some (.ifCond .lt 35, 3, [39]) else none) else (bif Nat.blt pc 8 then (bif Nat.beq pc 7 then some (.aload_n 0, 1, []) else none) else (bif Nat.beq pc 8 then some (.getfield 15, 3, [2, 1, 0, 227]) else none)))) else (bif Nat.blt pc 16 then (bif Nat.blt pc 12 then (bif Nat.beq pc 11 then some (.aload_n 0, 1, []) else none) else (bif Nat.blt pc 15 then (bif Nat.beq pc 12 then some (.getfield 9, 3, [2, 0, 1, 226]) else none) else (bif Nat.beq pc 15 then some (.arraylength, 1, []) else none))) else (bif Nat.blt pc 19 then (bif Nat.beq pc 16 then some (.if_icmp .ge 23, 3, [39]) else none) else (bif Nat.blt pc 20 then (bif Nat.beq pc 19 then some (.aload_n 0, 1, []) else none) else (bif Nat.beq pc 20 then some (.getfield 9, 3, [2, 0, 1, 226]) else none))))) else (bif Nat.blt pc 30 then (bif Nat.blt pc 27 then (bif Nat.blt pc 24 then (bif Nat.beq pc 23 then some (.aload_n 0, 1, []) else none) else (bif Nat.beq pc 24 then some (.getfield 15, 3, [2, 1, 0, 227]) else none)) else (bif Nat.blt pc 28 then (bif Nat.beq pc 27 then some (.iload_n 1, 1, []) else none) else (bif Nat.blt pc 29 then (bif Nat.beq pc 28 then some (.castore, 1, []) else none) else (bif Nat.beq pc 29 then some (.aload_n 0, 1, []) else none)))) else (bif Nat.blt pc 35 then (bif Nat.blt pc 31 then (bif Nat.beq pc 30 then some (.dup, 1, []) else none) else (bif Nat.blt pc 34 then (bif Nat.beq pc 31 then some (.getfield 15, 3, [2, 1, 0, 227]) else none) else (bif Nat.beq pc 34 then some (.iconst 1, 1, []) else none))) else (bif Nat.blt pc 36 then (bif Nat.beq pc 35 then some (.iadd, 1, []) else none) else (bif Nat.blt pc 39 then (bif Nat.beq pc 36 then some (.putfield 15, 3, [2, 1, 0, 227]) else none) else (bif Nat.beq pc 39 then some (.return_, 1, []) else none)))))
/-- X3_signAt -/
def I_X3_signAt (pc : Nat) : Option IE := bif Nat.blt pc 17 then (bif Nat.blt pc 6 then (bif Nat.blt pc 4 then (bif Nat.blt pc 1 then (bif Nat.beq pc 0 then some (.iload_n 1, 1, []) else none) else (bif Nat.beq pc 1 then some (.ifCond .lt 29, 3, [30]) else none)) else (bif Nat.blt pc 5 then (bif Nat.beq pc 4 then some (.iload_n 1, 1, []) else none) else (bif Nat.beq pc 5 then some (.aload_n 0, 1, []) else none))) else (bif Nat.blt pc 12 then (bif Nat.blt pc 9 then (bif Nat.beq pc 6 then some (.getfield 15, 3, [2, 1, 0, 227]) else none) else (bif Nat.beq pc 9 then some (.if_icmp .ge 21, 3, [30]) else none)) else (bif Nat.blt pc 13 then (bif Nat.beq pc 12 then some (.iload_n 1, 1, []) else none) else (bif Nat.blt pc 14 then (bif Nat.beq pc 13 then some (.aload_n 0, 1, []) else none) else (bif Nat.beq pc 14 then some (.getfield 9, 3, [2, 0, 1, 226]) else none))))) else (bif Nat.blt pc 25 then (bif Nat.blt pc 21 then (bif Nat.blt pc 18 then (bif Nat.beq pc 17 then some (.arraylength, 1, []) else none) else (bif Nat.beq pc 18 then some (.if_icmp .ge 12, 3, [30]) else none)) else (bif Nat.blt pc 22 then (bif Nat.beq pc 21 then some (.aload_n 0, 1, []) else none) else (bif Nat.beq pc 22 then some (.getfield 9, 3, [2, 0, 1, 226]) else none))) else (bif Nat.blt pc 27 then (bif Nat.blt pc 26 then (bif Nat.beq pc 25 then some (.iload_n 1, 1, []) else none) else (bif Nat.beq pc 26 then some (.caload, 1, []) else none)) else (bif Nat.blt pc 30 then (bif Nat.beq pc 27 then some (.goto 4, 3, [31]) else none) else (bif Nat.blt pc 31 then (bif Nat.beq pc 30 then some (.iconst 0, 1, []) else none) else (bif Nat.beq pc 31 then some (.ireturn, 1, [2]) else none)))))
/-- X3_rightSigns -/
def I_X3_rightSigns (pc : Nat) : Option IE := bif Nat.blt pc 15 then (bif Nat.blt pc 5 then (bif Nat.blt pc 2 then (bif Nat.blt pc 1 then (bif Nat.beq pc 0 then some (.iconst 1, 1, []) else none) else (bif Nat.beq pc 1 then some (.istore_n 1, 1, []) else none)) else (bif Nat.blt pc 3 then (bif Nat.beq pc 2 then some (.iconst 0, 1, []) else none) else (bif Nat.blt pc 4 then (bif Nat.beq pc 3 then some (.istore_n 2, 1, []) else none) else (bif Nat.beq pc 4 then some (.iload_n 2, 1, []) else none)))) else (bif Nat.blt pc 12 then (bif Nat.blt pc 6 then (bif Nat.beq pc 5 then some (.aload_n 0, 1, []) else none) else (bif Nat.blt pc 9 then (bif Nat.beq pc 6 then some (.getfield 15, 3, [2, 1, 0, 227]) else none) else (bif Nat.beq pc 9 then some (.if_icmp .ge 25, 3, [34]) else none))) else (bif Nat.blt pc 13 then (bif Nat.beq pc 12 then some (.iload_n 1, 1, []) else none) else (bif Nat.blt pc 14 then (bif Nat.beq pc 13 then some (.aload_n 0, 1, []) else none) else (bif Nat.beq pc 14 then some (.iload_n 2, 1, []) else none))))) else (bif Nat.blt pc 27 then (bif Nat.blt pc 22 then (bif Nat.blt pc 18 then (bif Nat.beq pc 15 then some (.invokevirtual 19, 3, [0, 45, 1, 305, 2, 2, 1]) else none) else (bif Nat.blt pc 21 then (bif Nat.beq pc 18 then some (.invokestatic 23, 3, [1, 57, 2, 309, 2, 2, 1]) else none) else (bif Nat.beq pc 21 then some (.istore_n 1, 1, []) else none))) else (bif Nat.blt pc 23 then (bif Nat.beq pc 22 then some (.iload_n 1, 1, []) else none) else (bif Nat.blt pc 26 then (bif Nat.beq pc 23 then some (.ifCond .ne 5, 3, [28]) else none) else (bif Nat.beq pc 26 then some (.iload_n 2, 1, []) else none)))) else (bif Nat.blt pc 34 then (bif Nat.blt pc 28 then (bif Nat.beq pc 27 then some (.ireturn, 1, [0]) else none) else (bif Nat.blt pc 31 then (bif Nat.beq pc 28 then some (.iinc 2 1, 3, []) else none) else (bif Nat.beq pc 31 then some (.goto (-27), 3, [4]) else none))) else (bif Nat.blt pc 35 then (bif Nat.beq pc 34 then some (.aload_n 0, 1, []) else none) else (bif Nat.blt pc 38 then (bif Nat.beq pc 35 then some (.getfield 15, 3, [2, 1, 0, 227]) else none) else (bif Nat.beq pc 38 then some (.ireturn, 1, [0]) else none)))))
/-- X3_isComplete -/
def I_X3_isComplete (pc : Nat) : Option IE := bif Nat.blt pc 21 then (bif Nat.blt pc 6 then (bif Nat.blt pc 3 then (bif Nat.blt pc 1 then (bif Nat.beq pc 0 then some (.iconst 1, 1, []) else none) else (bif Nat.blt pc 2 then (bif Nat.beq pc 1 then some (.istore_n 1, 1, []) else none) else (bif Nat.beq pc 2 then some (.iconst 0, 1, []) else none))) else (bif Nat.blt pc 4 then (bif Nat.beq pc 3 then some (.istore_n 2, 1, []) else none) else (bif Nat.blt pc 5 then (bif Nat.beq pc 4 then some (.iload_n 2, 1, []) else none) else (bif Nat.beq pc 5 then some (.aload_n 0, 1, []) else none)))) else (bif Nat.blt pc 13 then (bif Nat.blt pc 9 then (bif Nat.beq pc 6 then some (.getfield 15, 3, [2, 1, 0, 227]) else none) else (bif Nat.blt pc 12 then (bif Nat.beq pc 9 then some (.if_icmp .ge 19, 3, [28]) else none) else (bif Nat.beq pc 12 then some (.iload_n 1, 1, []) else none))) else (bif Nat.blt pc 15 then (bif Nat.blt pc 14 then (bif Nat.beq pc 13 then some (.aload_n 0, 1, []) else none) else (bif Nat.beq pc 14 then some (.iload_n 2, 1, []) else none)) else (bif Nat.blt pc 18 then (bif Nat.beq pc 15 then some (.invokevirtual 19, 3, [0, 45, 1, 305, 2, 2, 1]) else none) else (bif Nat.beq pc 18 then some (.invokestatic 23, 3, [1, 57, 2, 309, 2, 2, 1]) else none))))) else (bif Nat.blt pc 33 then (bif Nat.blt pc 28 then (bif Nat.blt pc 22 then (bif Nat.beq pc 21 then some (.istore_n 1, 1, []) else none) else (bif Nat.blt pc 25 then (bif Nat.beq pc 22 then some (.iinc 2 1, 3, []) else none) else (bif Nat.beq pc 25 then some (.goto (-21), 3, [4]) else none))) else (bif Nat.blt pc 29 then (bif Nat.beq pc 28 then some (.iload_n 1, 1, []) else none) else (bif Nat.blt pc 30 then (bif Nat.beq pc 29 then some (.iconst 5, 1, []) else none) else (bif Nat.beq pc 30 then some (.if_icmp .eq 9, 3, [39]) else none)))) else (bif Nat.blt pc 39 then (bif Nat.blt pc 34 then (bif Nat.beq pc 33 then some (.iload_n 1, 1, []) else none) else (bif Nat.blt pc 36 then (bif Nat.beq pc 34 then some (.bipush 6, 2, []) else none) else (bif Nat.beq pc 36 then some (.if_icmp .ne 7, 3, [43]) else none))) else (bif Nat.blt pc 43 then (bif Nat.blt pc 40 then (bif Nat.beq pc 39 then some (.iconst 1, 1, []) else none) else (bif Nat.beq pc 40 then some (.goto 4, 3, [44]) else none)) else (bif Nat.blt pc 44 then (bif Nat.beq pc 43 then some (.iconst 0, 1, []) else none) else (bif Nat.beq pc 44 then some (.ireturn, 1, [1]) else none)))))
/-- X3_instructions -/
def I_X3_instructions (pc : Nat) : Option IE := bif Nat.blt pc 14 then (bif Nat.blt pc 5 then (bif Nat.blt pc 2 then (bif Nat.blt pc 1 then (bif Nat.beq pc 0 then some (.iconst 0, 1, []) else none) else (bif Nat.beq pc 1 then some (.istore_n 1, 1, []) else none)) else (bif Nat.blt pc 3 then (bif Nat.beq pc 2 then some (.iconst 0, 1, []) else none) else (bif Nat.blt pc 4 then (bif Nat.beq pc 3 then some (.istore_n 2, 1, []) else none) else (bif Nat.beq pc 4 then some (.iload_n 2, 1, []) else none)))) else (bif Nat.blt pc 9 then (bif Nat.blt pc 6 then (bif Nat.beq pc 5 then some (.aload_n 0, 1, []) else none) else (bif Nat.beq pc 6 then some (.getfield 15, 3, [2, 1, 0, 227]) else none)) else (bif Nat.blt pc 12 then (bif Nat.beq pc 9 then some (.if_icmp .ge 22, 3, [31]) else none) else (bif Nat.blt pc 13 then (bif Nat.beq pc 12 then some (.aload_n 0, 1, []) else none) else (bif Nat.beq pc 13 then some (.iload_n 2, 1, []) else none))))) else (bif Nat.blt pc 28 then (bif Nat.blt pc 19 then (bif Nat.blt pc 17 then (bif Nat.beq pc 14 then some (.invokevirtual 19, 3, [0, 45, 1, 305, 2, 2, 1]) else none) else (bif Nat.beq pc 17 then some (.bipush 59, 2, []) else none)) else (bif Nat.blt pc 22 then (bif Nat.beq pc 19 then some (.if_icmp .ne 6, 3, [25]) else none) else (bif Nat.blt pc 25 then (bif Nat.beq pc 22 then some (.iinc 1 1, 3, []) else none) else (bif Nat.beq pc 25 then some (.iinc 2 1, 3, []) else none)))) else (bif Nat.blt pc 32 then (bif Nat.blt pc 31 then (bif Nat.beq pc 28 then some (.goto (-24), 3, [4]) else none) else (bif Nat.beq pc 31 then some (.iload_n 1, 1, []) else none)) else (bif Nat.blt pc 33 then (bif Nat.beq pc 32 then some (.iconst 1, 1, []) else none) else (bif Nat.blt pc 34 then (bif Nat.beq pc 33 then some (.iadd, 1, []) else none) else (bif Nat.beq pc 34 then some (.ireturn, 1, [0]) else none)))))
/-- X3_nextInstruction -/
def I_X3_nextInstruction (pc : Nat) : Option IE := bif Nat.blt pc 17 then (bif Nat.blt pc 7 then (bif Nat.blt pc 2 then (bif Nat.blt pc 1 then (bif Nat.beq pc 0 then some (.iload_n 1, 1, []) else none) else (bif Nat.beq pc 1 then some (.istore_n 2, 1, []) else none)) else (bif Nat.blt pc 3 then (bif Nat.beq pc 2 then some (.iload_n 2, 1, []) else none) else (bif Nat.blt pc 4 then (bif Nat.beq pc 3 then some (.aload_n 0, 1, []) else none) else (bif Nat.beq pc 4 then some (.getfield 15, 3, [2, 1, 0, 227]) else none)))) else (bif Nat.blt pc 11 then (bif Nat.blt pc 10 then (bif Nat.beq pc 7 then some (.if_icmp .ge 23, 3, [30]) else none) else (bif Nat.beq pc 10 then some (.aload_n 0, 1, []) else none)) else (bif Nat.blt pc 12 then (bif Nat.beq pc 11 then some (.iload_n 2, 1, []) else none) else (bif Nat.blt pc 15 then (bif Nat.beq pc 12 then some (.invokevirtual 19, 3, [0, 45, 1, 305, 2, 2, 1]) else none) else (bif Nat.beq pc 15 then some (.bipush 59, 2, []) else none))))) else (bif Nat.blt pc 24 then (bif Nat.blt pc 21 then (bif Nat.blt pc 20 then (bif Nat.beq pc 17 then some (.if_icmp .ne 7, 3, [24]) else none) else (bif Nat.beq pc 20 then some (.iload_n 2, 1, []) else none)) else (bif Nat.blt pc 22 then (bif Nat.beq pc 21 then some (.iconst 1, 1, []) else none) else (bif Nat.blt pc 23 then (bif Nat.beq pc 22 then some (.iadd, 1, []) else none) else (bif Nat.beq pc 23 then some (.ireturn, 1, [0]) else none)))) else (bif Nat.blt pc 30 then (bif Nat.blt pc 27 then (bif Nat.beq pc 24 then some (.iinc 2 1, 3, []) else none) else (bif Nat.beq pc 27 then some (.goto (-25), 3, [2]) else none)) else (bif Nat.blt pc 31 then (bif Nat.beq pc 30 then some (.aload_n 0, 1, []) else none) else (bif Nat.blt pc 34 then (bif Nat.beq pc 31 then some (.getfield 15, 3, [2, 1, 0, 227]) else none) else (bif Nat.beq pc 34 then some (.ireturn, 1, [0]) else none)))))
/-- X3_readInstruction -/
def I_X3_readInstruction (pc : Nat) : Option IE := bif Nat.blt pc 80 then (bif Nat.blt pc 40 then (bif Nat.blt pc 17 then (bif Nat.blt pc 11 then (bif Nat.blt pc 5 then (bif Nat.blt pc 1 then (bif Nat.beq pc 0 then some (.aload_n 0, 1, []) else none) else (bif Nat.blt pc 2 then (bif Nat.beq pc 1 then some (.iload_n 1, 1, []) else none) else (bif Nat.beq pc 2 then some (.invokevirtual 19, 3, [0, 45, 1, 305, 2, 2, 1]) else none))) else (bif Nat.blt pc 7 then (bif Nat.beq pc 5 then some (.bipush 91, 2, []) else none) else (bif Nat.blt pc 10 then (bif Nat.beq pc 7 then some (.if_icmp .ne 33, 3, [40]) else none) else (bif Nat.beq pc 10 then some (.aload_n 2, 1, []) else none)))) else (bif Nat.blt pc 14 then (bif Nat.blt pc 12 then (bif Nat.beq pc 11 then some (.iconst 4, 1, []) else none) else (bif Nat.blt pc 13 then (bif Nat.beq pc 12 then some (.iconst (-1), 1, []) else none) else (bif Nat.beq pc 13 then some (.aload_n 0, 1, []) else none))) else (bif Nat.blt pc 15 then (bif Nat.beq pc 14 then some (.iload_n 1, 1, []) else none) else (bif Nat.blt pc 16 then (bif Nat.beq pc 15 then some (.iconst 1, 1, []) else none) else (bif Nat.beq pc 16 then some (.iadd, 1, []) else none))))) else (bif Nat.blt pc 27 then (bif Nat.blt pc 22 then (bif Nat.blt pc 20 then (bif Nat.beq pc 17 then some (.invokevirtual 27, 3, [0, 51, 1, 741, 2, 2, 1]) else none) else (bif Nat.blt pc 21 then (bif Nat.beq pc 20 then some (.aload_n 0, 1, []) else none) else (bif Nat.beq pc 21 then some (.iload_n 1, 1, []) else none))) else (bif Nat.blt pc 23 then (bif Nat.beq pc 22 then some (.iconst 5, 1, []) else none) else (bif Nat.blt pc 24 then (bif Nat.beq pc 23 then some (.iadd, 1, []) else none) else (bif Nat.beq pc 24 then some (.invokevirtual 27, 3, [0, 51, 1, 741, 2, 2, 1]) else none)))) else (bif Nat.blt pc 30 then (bif Nat.blt pc 28 then (bif Nat.beq pc 27 then some (.aload_n 0, 1, []) else none) else (bif Nat.blt pc 29 then (bif Nat.beq pc 28 then some (.iload_n 1, 1, []) else none) else (bif Nat.beq pc 29 then some (.iconst 2, 1, []) else none))) else (bif Nat.blt pc 34 then (bif Nat.blt pc 31 then (bif Nat.beq pc 30 then some (.iadd, 1, []) else none) else (bif Nat.beq pc 31 then some (.invokevirtual 31, 3, [0, 52, 1, 745, 2, 2, 1]) else none)) else (bif Nat.blt pc 37 then (bif Nat.beq pc 34 then some (.invokevirtual 34, 3, [0, 7, 5, 749, 0, 6, 0]) else none) else (bif Nat.beq pc 37 then some (.goto 121, 3, [158]) else none)))))) else (bif Nat.blt pc 59 then (bif Nat.blt pc 49 then (bif Nat.blt pc 43 then (bif Nat.blt pc 41 then (bif Nat.beq pc 40 then some (.aload_n 0, 1, []) else none) else (bif Nat.blt pc 42 then (bif Nat.beq pc 41 then some (.iload_n 1, 1, []) else none) else (bif Nat.beq pc 42 then some (.iconst 2, 1, []) else none))) else (bif Nat.blt pc 44 then (bif Nat.beq pc 43 then some (.iadd, 1, []) else none) else (bif Nat.blt pc 47 then (bif Nat.beq pc 44 then some (.invokevirtual 19, 3, [0, 45, 1, 305, 2, 2, 1]) else none) else (bif Nat.beq pc 47 then some (.bipush 91, 2, []) else none)))) else (bif Nat.blt pc 54 then (bif Nat.blt pc 52 then (bif Nat.beq pc 49 then some (.if_icmp .ne 31, 3, [80]) else none) else (bif Nat.blt pc 53 then (bif Nat.beq pc 52 then some (.aload_n 2, 1, []) else none) else (bif Nat.beq pc 53 then some (.iconst 3, 1, []) else none))) else (bif Nat.blt pc 55 then (bif Nat.beq pc 54 then some (.aload_n 0, 1, []) else none) else (bif Nat.blt pc 56 then (bif Nat.beq pc 55 then some (.iload_n 1, 1, []) else none) else (bif Nat.beq pc 56 then some (.invokevirtual 27, 3, [0, 51, 1, 741, 2, 2, 1]) else none))))) else (bif Nat.blt pc 67 then (bif Nat.blt pc 62 then (bif Nat.blt pc 60 then (bif Nat.beq pc 59 then some (.aload_n 0, 1, []) else none) else (bif Nat.blt pc 61 then (bif Nat.beq pc 60 then some (.iload_n 1, 1, []) else none) else (bif Nat.beq pc 61 then some (.iconst 3, 1, []) else none))) else (bif Nat.blt pc 63 then (bif Nat.beq pc 62 then some (.iadd, 1, []) else none) else (bif Nat.blt pc 66 then (bif Nat.beq pc 63 then some (.invokevirtual 27, 3, [0, 51, 1, 741, 2, 2, 1]) else none) else (bif Nat.beq pc 66 then some (.iconst (-1), 1, []) else none)))) else (bif Nat.blt pc 70 then (bif Nat.blt pc 68 then (bif Nat.beq pc 67 then some (.aload_n 0, 1, []) else none) else (bif Nat.blt pc 69 then (bif Nat.beq pc 68 then some (.iload_n 1, 1, []) else none) else (bif Nat.beq pc 69 then some (.iconst 4, 1, []) else none))) else (bif Nat.blt pc 74 then (bif Nat.blt pc 71 then (bif Nat.beq pc 70 then some (.iadd, 1, []) else none) else (bif Nat.beq pc 71 then some (.invokevirtual 31, 3, [0, 52, 1, 745, 2, 2, 1]) else none)) else (bif Nat.blt pc 77 then (bif Nat.beq pc 74 then some (.invokevirtual 34, 3, [0, 7, 5, 749, 0, 6, 0]) else none) else (bif Nat.beq pc 77 then some (.goto 81, 3, [158]) else none))))))) else (bif Nat.blt pc 120 then (bif Nat.blt pc 100 then (bif Nat.blt pc 90 then (bif Nat.blt pc 83 then (bif Nat.blt pc 81 then (bif Nat.beq pc 80 then some (.aload_n 0, 1, []) else none) else (bif Nat.blt pc 82 then (bif Nat.beq pc 81 then some (.iload_n 1, 1, []) else none) else (bif Nat.beq pc 82 then some (.iconst 2, 1, []) else none))) else (bif Nat.blt pc 84 then (bif Nat.beq pc 83 then some (.iadd, 1, []) else none) else (bif Nat.blt pc 87 then (bif Nat.beq pc 84 then some (.invokevirtual 19, 3, [0, 45, 1, 305, 2, 2, 1]) else none) else (bif Nat.beq pc 87 then some (.invokestatic 40, 3, [1, 55, 1, 315, 2, 1, 1]) else none)))) else (bif Nat.blt pc 95 then (bif Nat.blt pc 93 then (bif Nat.beq pc 90 then some (.ifCond .eq 49, 3, [139]) else none) else (bif Nat.blt pc 94 then (bif Nat.beq pc 93 then some (.aload_n 0, 1, []) else none) else (bif Nat.beq pc 94 then some (.iload_n 1, 1, []) else none))) else (bif Nat.blt pc 96 then (bif Nat.beq pc 95 then some (.iconst 3, 1, []) else none) else (bif Nat.blt pc 97 then (bif Nat.beq pc 96 then some (.iadd, 1, []) else none) else (bif Nat.beq pc 97 then some (.invokevirtual 19, 3, [0, 45, 1, 305, 2, 2, 1]) else none))))) else (bif Nat.blt pc 111 then (bif Nat.blt pc 106 then (bif Nat.blt pc 102 then (bif Nat.beq pc 100 then some (.bipush 43, 2, []) else none) else (bif Nat.blt pc 105 then (bif Nat.beq pc 102 then some (.if_icmp .ne 7, 3, [109]) else none) else (bif Nat.beq pc 105 then some (.iconst 1, 1, []) else none))) else (bif Nat.blt pc 109 then (bif Nat.beq pc 106 then some (.goto 4, 3, [110]) else none) else (bif Nat.blt pc 110 then (bif Nat.beq pc 109 then some (.iconst 2, 1, []) else none) else (bif Nat.beq pc 110 then some (.istore_n 3, 1, []) else none)))) else (bif Nat.blt pc 114 then (bif Nat.blt pc 112 then (bif Nat.beq pc 111 then some (.aload_n 2, 1, []) else none) else (bif Nat.blt pc 113 then (bif Nat.beq pc 112 then some (.iload_n 3, 1, []) else none) else (bif Nat.beq pc 113 then some (.aload_n 0, 1, []) else none))) else (bif Nat.blt pc 118 then (bif Nat.blt pc 115 then (bif Nat.beq pc 114 then some (.iload_n 1, 1, []) else none) else (bif Nat.beq pc 115 then some (.invokevirtual 27, 3, [0, 51, 1, 741, 2, 2, 1]) else none)) else (bif Nat.blt pc 119 then (bif Nat.beq pc 118 then some (.aload_n 0, 1, []) else none) else (bif Nat.beq pc 119 then some (.iload_n 1, 1, []) else none)))))) else (bif Nat.blt pc 140 then (bif Nat.blt pc 128 then (bif Nat.blt pc 125 then (bif Nat.blt pc 121 then (bif Nat.beq pc 120 then some (.iconst 2, 1, []) else none) else (bif Nat.blt pc 122 then (bif Nat.beq pc 121 then some (.iadd, 1, []) else none) else (bif Nat.beq pc 122 then some (.invokevirtual 27, 3, [0, 51, 1, 741, 2, 2, 1]) else none))) else (bif Nat.blt pc 126 then (bif Nat.beq pc 125 then some (.aload_n 0, 1, []) else none) else (bif Nat.blt pc 127 then (bif Nat.beq pc 126 then some (.iload_n 1, 1, []) else none) else (bif Nat.beq pc 127 then some (.iconst 4, 1, []) else none)))) else (bif Nat.blt pc 133 then (bif Nat.blt pc 129 then (bif Nat.beq pc 128 then some (.iadd, 1, []) else none) else (bif Nat.blt pc 132 then (bif Nat.beq pc 129 then some (.invokevirtual 27, 3, [0, 51, 1, 741, 2, 2, 1]) else none) else (bif Nat.beq pc 132 then some (.iconst 0, 1, []) else none))) else (bif Nat.blt pc 136 then (bif Nat.beq pc 133 then some (.invokevirtual 34, 3, [0, 7, 5, 749, 0, 6, 0]) else none) else (bif Nat.blt pc 139 then (bif Nat.beq pc 136 then some (.goto 22, 3, [158]) else none) else (bif Nat.beq pc 139 then some (.aload_n 2, 1, []) else none))))) else (bif Nat.blt pc 148 then (bif Nat.blt pc 143 then (bif Nat.blt pc 141 then (bif Nat.beq pc 140 then some (.iconst 0, 1, []) else none) else (bif Nat.blt pc 142 then (bif Nat.beq pc 141 then some (.aload_n 0, 1, []) else none) else (bif Nat.beq pc 142 then some (.iload_n 1, 1, []) else none))) else (bif Nat.blt pc 146 then (bif Nat.beq pc 143 then some (.invokevirtual 27, 3, [0, 51, 1, 741, 2, 2, 1]) else none) else (bif Nat.blt pc 147 then (bif Nat.beq pc 146 then some (.iconst (-1), 1, []) else none) else (bif Nat.beq pc 147 then some (.iconst (-1), 1, []) else none)))) else (bif Nat.blt pc 151 then (bif Nat.blt pc 149 then (bif Nat.beq pc 148 then some (.aload_n 0, 1, []) else none) else (bif Nat.blt pc 150 then (bif Nat.beq pc 149 then some (.iload_n 1, 1, []) else none) else (bif Nat.beq pc 150 then some (.iconst 2, 1, []) else none))) else (bif Nat.blt pc 155 then (bif Nat.blt pc 152 then (bif Nat.beq pc 151 then some (.iadd, 1, []) else none) else (bif Nat.beq pc 152 then some (.invokevirtual 44, 3, [0, 53, 1, 750, 2, 4, 1]) else none)) else (bif Nat.blt pc 158 then (bif Nat.beq pc 155 then some (.invokevirtual 34, 3, [0, 7, 5, 749, 0, 6, 0]) else none) else (bif Nat.beq pc 158 then some (.return_, 1, []) else none)))))))
/-- X3_registerAt -/
def I_X3_registerAt (pc : Nat) : Option IE := bif Nat.blt pc 5 then (bif Nat.blt pc 1 then (bif Nat.beq pc 0 then some (.aload_n 0, 1, []) else none) else (bif Nat.blt pc 2 then (bif Nat.beq pc 1 then some (.iload_n 1, 1, []) else none) else (bif Nat.beq pc 2 then some (.invokevirtual 19, 3, [0, 45, 1, 305, 2, 2, 1]) else none))) else (bif Nat.blt pc 7 then (bif Nat.beq pc 5 then some (.bipush 97, 2, []) else none) else (bif Nat.blt pc 8 then (bif Nat.beq pc 7 then some (.isub, 1, []) else none) else (bif Nat.beq pc 8 then some (.ireturn, 1, [0]) else none)))
/-- X3_digitAt -/
def I_X3_digitAt (pc : Nat) : Option IE := bif Nat.blt pc 5 then (bif Nat.blt pc 1 then (bif Nat.beq pc 0 then some (.aload_n 0, 1, []) else none) else (bif Nat.blt pc 2 then (bif Nat.beq pc 1 then some (.iload_n 1, 1, []) else none) else (bif Nat.beq pc 2 then some (.invokevirtual 19, 3, [0, 45, 1, 305, 2, 2, 1]) else none))) else (bif Nat.blt pc 7 then (bif Nat.beq pc 5 then some (.bipush 48, 2, []) else none) else (bif Nat.blt pc 8 then (bif Nat.beq pc 7 then some (.isub, 1, []) else none) else (bif Nat.beq pc 8 then some (.ireturn, 1, [0]) else none)))
/-- X3_numberAt -/
def I_X3_numberAt (pc : Nat) : Option IE := bif Nat.blt pc 31 then (bif Nat.blt pc 17 then (bif Nat.blt pc 10 then (bif Nat.blt pc 2 then (bif Nat.blt pc 1 then (bif Nat.beq pc 0 then some (.aload_n 0, 1, []) else none) else (bif Nat.beq pc 1 then some (.iload_n 1, 1, []) else none)) else (bif Nat.blt pc 5 then (bif Nat.beq pc 2 then some (.invokevirtual 19, 3, [0, 45, 1, 305, 2, 2, 1]) else none) else (bif Nat.blt pc 7 then (bif Nat.beq pc 5 then some (.bipush 45, 2, []) else none) else (bif Nat.beq pc 7 then some (.if_icmp .ne 9, 3, [16]) else none)))) else (bif Nat.blt pc 12 then (bif Nat.blt pc 11 then (bif Nat.beq pc 10 then some (.iload_n 1, 1, []) else none) else (bif Nat.beq pc 11 then some (.iconst 1, 1, []) else none)) else (bif Nat.blt pc 13 then (bif Nat.beq pc 12 then some (.iadd, 1, []) else none) else (bif Nat.blt pc 16 then (bif Nat.beq pc 13 then some (.goto 4, 3, [17]) else none) else (bif Nat.beq pc 16 then some (.iload_n 1, 1, []) else none))))) else (bif Nat.blt pc 24 then (bif Nat.blt pc 19 then (bif Nat.blt pc 18 then (bif Nat.beq pc 17 then some (.istore_n 2, 1, []) else none) else (bif Nat.beq pc 18 then some (.aload_n 0, 1, []) else none)) else (bif Nat.blt pc 20 then (bif Nat.beq pc 19 then some (.iload_n 2, 1, []) else none) else (bif Nat.blt pc 23 then (bif Nat.beq pc 20 then some (.invokevirtual 31, 3, [0, 52, 1, 745, 2, 2, 1]) else none) else (bif Nat.beq pc 23 then some (.istore_n 3, 1, []) else none)))) else (bif Nat.blt pc 26 then (bif Nat.blt pc 25 then (bif Nat.beq pc 24 then some (.aload_n 0, 1, []) else none) else (bif Nat.beq pc 25 then some (.iload_n 2, 1, []) else none)) else (bif Nat.blt pc 27 then (bif Nat.beq pc 26 then some (.iconst 1, 1, []) else none) else (bif Nat.blt pc 28 then (bif Nat.beq pc 27 then some (.iadd, 1, []) else none) else (bif Nat.beq pc 28 then some (.invokevirtual 19, 3, [0, 45, 1, 305, 2, 2, 1]) else none)))))) else (bif Nat.blt pc 48 then (bif Nat.blt pc 41 then (bif Nat.blt pc 37 then (bif Nat.blt pc 34 then (bif Nat.beq pc 31 then some (.invokestatic 47, 3, [1, 56, 1, 324, 2, 1, 1]) else none) else (bif Nat.beq pc 34 then some (.ifCond .eq 16, 3, [50]) else none)) else (bif Nat.blt pc 39 then (bif Nat.beq pc 37 then some (.bipush 10, 2, []) else none) else (bif Nat.blt pc 40 then (bif Nat.beq pc 39 then some (.iload_n 3, 1, []) else none) else (bif Nat.beq pc 40 then some (.imul, 1, []) else none)))) else (bif Nat.blt pc 43 then (bif Nat.blt pc 42 then (bif Nat.beq pc 41 then some (.aload_n 0, 1, []) else none) else (bif Nat.beq pc 42 then some (.iload_n 2, 1, []) else none)) else (bif Nat.blt pc 44 then (bif Nat.beq pc 43 then some (.iconst 1, 1, []) else none) else (bif Nat.blt pc 45 then (bif Nat.beq pc 44 then some (.iadd, 1, []) else none) else (bif Nat.beq pc 45 then some (.invokevirtual 31, 3, [0, 52, 1, 745, 2, 2, 1]) else none))))) else (bif Nat.blt pc 55 then (bif Nat.blt pc 50 then (bif Nat.blt pc 49 then (bif Nat.beq pc 48 then some (.iadd, 1, []) else none) else (bif Nat.beq pc 49 then some (.istore_n 3, 1, []) else none)) else (bif Nat.blt pc 51 then (bif Nat.beq pc 50 then some (.iload_n 2, 1, []) else none) else (bif Nat.blt pc 52 then (bif Nat.beq pc 51 then some (.iload_n 1, 1, []) else none) else (bif Nat.beq pc 52 then some (.if_icmp .le 8, 3, [60]) else none)))) else (bif Nat.blt pc 57 then (bif Nat.blt pc 56 then (bif Nat.beq pc 55 then some (.iload_n 3, 1, []) else none) else (bif Nat.beq pc 56 then some (.ineg, 1, []) else none)) else (bif Nat.blt pc 60 then (bif Nat.beq pc 57 then some (.goto 4, 3, [61]) else none) else (bif Nat.blt pc 61 then (bif Nat.beq pc 60 then some (.iload_n 3, 1, []) else none) else (bif Nat.beq pc 61 then some (.ireturn, 1, [0]) else none))))))
/-- X3_hashAll -/
def I_X3_hashAll (pc : Nat) : Option IE := bif Nat.blt pc 21 then (bif Nat.blt pc 10 then (bif Nat.blt pc 5 then (bif Nat.blt pc 3 then (bif Nat.beq pc 0 then some (.ldc2_w 50, 3, [2, 31, 640]) else none) else (bif Nat.blt pc 4 then (bif Nat.beq pc 3 then some (.lload_n 1, 1, []) else none) else (bif Nat.beq pc 4 then some (.lmul, 1, []) else none))) else (bif Nat.blt pc 6 then (bif Nat.beq pc 5 then some (.aload_n 0, 1, []) else none) else (bif Nat.blt pc 9 then (bif Nat.beq pc 6 then some (.getfield 15, 3, [2, 1, 0, 227]) else none) else (bif Nat.beq pc 9 then some (.i2l, 1, []) else none)))) else (bif Nat.blt pc 13 then (bif Nat.blt pc 11 then (bif Nat.beq pc 10 then some (.ladd, 1, []) else none) else (bif Nat.blt pc 12 then (bif Nat.beq pc 11 then some (.lstore_n 3, 1, []) else none) else (bif Nat.beq pc 12 then some (.iconst 0, 1, []) else none))) else (bif Nat.blt pc 17 then (bif Nat.blt pc 15 then (bif Nat.beq pc 13 then some (.istore 5, 2, []) else none) else (bif Nat.beq pc 15 then some (.iload 5, 2, []) else none)) else (bif Nat.blt pc 18 then (bif Nat.beq pc 17 then some (.aload_n 0, 1, []) else none) else (bif Nat.beq pc 18 then some (.getfield 15, 3, [2, 1, 0, 227]) else none))))) else (bif Nat.blt pc 35 then (bif Nat.blt pc 28 then (bif Nat.blt pc 24 then (bif Nat.beq pc 21 then some (.if_icmp .ge 23, 3, [44]) else none) else (bif Nat.blt pc 27 then (bif Nat.beq pc 24 then some (.ldc2_w 50, 3, [2, 31, 640]) else none) else (bif Nat.beq pc 27 then some (.lload_n 3, 1, []) else none))) else (bif Nat.blt pc 30 then (bif Nat.blt pc 29 then (bif Nat.beq pc 28 then some (.lmul, 1, []) else none) else (bif Nat.beq pc 29 then some (.aload_n 0, 1, []) else none)) else (bif Nat.blt pc 32 then (bif Nat.beq pc 30 then some (.iload 5, 2, []) else none) else (bif Nat.beq pc 32 then some (.invokevirtual 19, 3, [0, 45, 1, 305, 2, 2, 1]) else none)))) else (bif Nat.blt pc 38 then (bif Nat.blt pc 36 then (bif Nat.beq pc 35 then some (.i2l, 1, []) else none) else (bif Nat.blt pc 37 then (bif Nat.beq pc 36 then some (.ladd, 1, []) else none) else (bif Nat.beq pc 37 then some (.lstore_n 3, 1, []) else none))) else (bif Nat.blt pc 44 then (bif Nat.blt pc 41 then (bif Nat.beq pc 38 then some (.iinc 5 1, 3, []) else none) else (bif Nat.beq pc 41 then some (.goto (-26), 3, [15]) else none)) else (bif Nat.blt pc 45 then (bif Nat.beq pc 44 then some (.lload_n 3, 1, []) else none) else (bif Nat.beq pc 45 then some (.lreturn, 1, []) else none)))))
/-- X3_isRegister -/
def I_X3_isRegister (pc : Nat) : Option IE := bif Nat.blt pc 9 then (bif Nat.blt pc 3 then (bif Nat.blt pc 1 then (bif Nat.beq pc 0 then some (.iload_n 0, 1, []) else none) else (bif Nat.beq pc 1 then some (.bipush 97, 2, []) else none)) else (bif Nat.blt pc 6 then (bif Nat.beq pc 3 then some (.if_icmp .lt 13, 3, [16]) else none) else (bif Nat.blt pc 7 then (bif Nat.beq pc 6 then some (.iload_n 0, 1, []) else none) else (bif Nat.beq pc 7 then some (.bipush 104, 2, []) else none)))) else (bif Nat.blt pc 13 then (bif Nat.blt pc 12 then (bif Nat.beq pc 9 then some (.if_icmp .gt 7, 3, [16]) else none) else (bif Nat.beq pc 12 then some (.iconst 1, 1, []) else none)) else (bif Nat.blt pc 16 then (bif Nat.beq pc 13 then some (.goto 4, 3, [17]) else none) else (bif Nat.blt pc 17 then (bif Nat.beq pc 16 then some (.iconst 0, 1, []) else none) else (bif Nat.beq pc 17 then some (.ireturn, 1, [1]) else none))))
/-- X3_isDigit -/
def I_X3_isDigit (pc : Nat) : Option IE := bif Nat.blt pc 9 then (bif Nat.blt pc 3 then (bif Nat.blt pc 1 then (bif Nat.beq pc 0 then some (.iload_n 0, 1, []) else none) else (bif Nat.beq pc 1 then some (.bipush 48, 2, []) else none)) else (bif Nat.blt pc 6 then (bif Nat.beq pc 3 then some (.if_icmp .lt 13, 3, [16]) else none) else (bif Nat.blt pc 7 then (bif Nat.beq pc 6 then some (.iload_n 0, 1, []) else none) else (bif Nat.beq pc 7 then some (.bipush 57, 2, []) else none)))) else (bif Nat.blt pc 13 then (bif Nat.blt pc 12 then (bif Nat.beq pc 9 then some (.if_icmp .gt 7, 3, [16]) else none) else (bif Nat.beq pc 12 then some (.iconst 1, 1, []) else none)) else (bif Nat.blt pc 16 then (bif Nat.beq pc 13 then some (.goto 4, 3, [17]) else none) else (bif Nat.blt pc 17 then (bif Nat.beq pc 16 then some (.iconst 0, 1, []) else none) else (bif Nat.beq pc 17 then some (.ireturn, 1, [1]) else none))))
/-- X3_next -/
def I_X3_next (pc : Nat) : Option IE := bif Nat.blt pc 159 then (bif Nat.blt pc 114 then (bif Nat.blt pc 93 then (bif Nat.blt pc 82 then (bif Nat.blt pc 76 then (bif Nat.blt pc 1 then (bif Nat.beq pc 0 then some (.iload_n 0, 1, []) else none) else (bif Nat.beq pc 1 then some (.tableswitch 243 1 15 #[75, 92, 104, 109, 114, 131, 136, 155, 162, 169, 183, 196, 203, 217, 230], 75, [244, 1, 76, 2, 93, 3, 105, 4, 110, 5, 115, 6, 132, 7, 137, 8, 156, 9, 163, 10, 170, 11, 184, 12, 197, 13, 204, 14, 218, 15, 231]) else none)) else (bif Nat.blt pc 77 then (bif Nat.beq pc 76 then some (.iload_n 1, 1, []) else none) else (bif Nat.blt pc 79 then (bif Nat.beq pc 77 then some (.bipush 91, 2, []) else none) else (bif Nat.beq pc 79 then some (.if_icmp .ne 8, 3, [87]) else none)))) else (bif Nat.blt pc 88 then (bif Nat.blt pc 84 then (bif Nat.beq pc 82 then some (.bipush 12, 2, []) else none) else (bif Nat.blt pc 87 then (bif Nat.beq pc 84 then some (.goto 8, 3, [92]) else none) else (bif Nat.beq pc 87 then some (.iload_n 1, 1, []) else none))) else (bif Nat.blt pc 89 then (bif Nat.beq pc 88 then some (.iconst 2, 1, []) else none) else (bif Nat.blt pc 92 then (bif Nat.beq pc 89 then some (.invokestatic 52, 3, [1, 58, 2, 312, 2, 2, 1]) else none) else (bif Nat.beq pc 92 then some (.ireturn, 1, [0]) else none))))) else (bif Nat.blt pc 104 then (bif Nat.blt pc 99 then (bif Nat.blt pc 94 then (bif Nat.beq pc 93 then some (.iload_n 1, 1, []) else none) else (bif Nat.blt pc 96 then (bif Nat.beq pc 94 then some (.bipush 61, 2, []) else none) else (bif Nat.beq pc 96 then some (.if_icmp .ne 7, 3, [103]) else none))) else (bif Nat.blt pc 100 then (bif Nat.beq pc 99 then some (.iconst 3, 1, []) else none) else (bif Nat.blt pc 103 then (bif Nat.beq pc 100 then some (.goto 4, 3, [104]) else none) else (bif Nat.beq pc 103 then some (.iconst 0, 1, []) else none)))) else (bif Nat.blt pc 109 then (bif Nat.blt pc 105 then (bif Nat.beq pc 104 then some (.ireturn, 1, [0]) else none) else (bif Nat.blt pc 106 then (bif Nat.beq pc 105 then some (.iload_n 1, 1, []) else none) else (bif Nat.beq pc 106 then some (.invokestatic 56, 3, [1, 59, 1, 318, 2, 1, 1]) else none))) else (bif Nat.blt pc 110 then (bif Nat.beq pc 109 then some (.ireturn, 1, [0]) else none) else (bif Nat.blt pc 111 then (bif Nat.beq pc 110 then some (.iload_n 1, 1, []) else none) else (bif Nat.beq pc 111 then some (.invokestatic 60, 3, [1, 60, 1, 321, 2, 1, 1]) else none)))))) else (bif Nat.blt pc 137 then (bif Nat.blt pc 127 then (bif Nat.blt pc 119 then (bif Nat.blt pc 115 then (bif Nat.beq pc 114 then some (.ireturn, 1, [0]) else none) else (bif Nat.blt pc 116 then (bif Nat.beq pc 115 then some (.iload_n 1, 1, []) else none) else (bif Nat.beq pc 116 then some (.invokestatic 47, 3, [1, 56, 1, 324, 2, 1, 1]) else none))) else (bif Nat.blt pc 122 then (bif Nat.beq pc 119 then some (.ifCond .eq 8, 3, [127]) else none) else (bif Nat.blt pc 124 then (bif Nat.beq pc 122 then some (.bipush 6, 2, []) else none) else (bif Nat.beq pc 124 then some (.goto 7, 3, [131]) else none)))) else (bif Nat.blt pc 132 then (bif Nat.blt pc 128 then (bif Nat.beq pc 127 then some (.iload_n 1, 1, []) else none) else (bif Nat.blt pc 131 then (bif Nat.beq pc 128 then some (.invokestatic 63, 3, [1, 61, 1, 327, 2, 1, 1]) else none) else (bif Nat.beq pc 131 then some (.ireturn, 1, [0]) else none))) else (bif Nat.blt pc 133 then (bif Nat.beq pc 132 then some (.iload_n 1, 1, []) else none) else (bif Nat.blt pc 136 then (bif Nat.beq pc 133 then some (.invokestatic 63, 3, [1, 61, 1, 327, 2, 1, 1]) else none) else (bif Nat.beq pc 136 then some (.ireturn, 1, [0]) else none))))) else (bif Nat.blt pc 149 then (bif Nat.blt pc 143 then (bif Nat.blt pc 138 then (bif Nat.beq pc 137 then some (.iload_n 1, 1, []) else none) else (bif Nat.blt pc 140 then (bif Nat.beq pc 138 then some (.bipush 43, 2, []) else none) else (bif Nat.beq pc 140 then some (.if_icmp .eq 9, 3, [149]) else none))) else (bif Nat.blt pc 144 then (bif Nat.beq pc 143 then some (.iload_n 1, 1, []) else none) else (bif Nat.blt pc 146 then (bif Nat.beq pc 144 then some (.bipush 42, 2, []) else none) else (bif Nat.beq pc 146 then some (.if_icmp .ne 8, 3, [154]) else none)))) else (bif Nat.blt pc 155 then (bif Nat.blt pc 151 then (bif Nat.beq pc 149 then some (.bipush 8, 2, []) else none) else (bif Nat.blt pc 154 then (bif Nat.beq pc 151 then some (.goto 4, 3, [155]) else none) else (bif Nat.beq pc 154 then some (.iconst 0, 1, []) else none))) else (bif Nat.blt pc 156 then (bif Nat.beq pc 155 then some (.ireturn, 1, [0]) else none) else (bif Nat.blt pc 157 then (bif Nat.beq pc 156 then some (.iload_n 1, 1, []) else none) else (bif Nat.beq pc 157 then some (.bipush 6, 2, []) else none))))))) else (bif Nat.blt pc 203 then (bif Nat.blt pc 182 then (bif Nat.blt pc 169 then (bif Nat.blt pc 163 then (bif Nat.blt pc 162 then (bif Nat.beq pc 159 then some (.invokestatic 52, 3, [1, 58, 2, 312, 2, 2, 1]) else none) else (bif Nat.beq pc 162 then some (.ireturn, 1, [0]) else none)) else (bif Nat.blt pc 164 then (bif Nat.beq pc 163 then some (.iload_n 1, 1, []) else none) else (bif Nat.blt pc 166 then (bif Nat.beq pc 164 then some (.bipush 10, 2, []) else none) else (bif Nat.beq pc 166 then some (.invokestatic 52, 3, [1, 58, 2, 312, 2, 2, 1]) else none)))) else (bif Nat.blt pc 174 then (bif Nat.blt pc 170 then (bif Nat.beq pc 169 then some (.ireturn, 1, [0]) else none) else (bif Nat.blt pc 171 then (bif Nat.beq pc 170 then some (.iload_n 1, 1, []) else none) else (bif Nat.beq pc 171 then some (.invokestatic 47, 3, [1, 56, 1, 324, 2, 1, 1]) else none))) else (bif Nat.blt pc 177 then (bif Nat.beq pc 174 then some (.ifCond .eq 8, 3, [182]) else none) else (bif Nat.blt pc 179 then (bif Nat.beq pc 177 then some (.bipush 11, 2, []) else none) else (bif Nat.beq pc 179 then some (.goto 4, 3, [183]) else none))))) else (bif Nat.blt pc 192 then (bif Nat.blt pc 185 then (bif Nat.blt pc 183 then (bif Nat.beq pc 182 then some (.iconst 0, 1, []) else none) else (bif Nat.blt pc 184 then (bif Nat.beq pc 183 then some (.ireturn, 1, [0]) else none) else (bif Nat.beq pc 184 then some (.iload_n 1, 1, []) else none))) else (bif Nat.blt pc 187 then (bif Nat.beq pc 185 then some (.bipush 93, 2, []) else none) else (bif Nat.blt pc 190 then (bif Nat.beq pc 187 then some (.if_icmp .ne 8, 3, [195]) else none) else (bif Nat.beq pc 190 then some (.bipush 6, 2, []) else none)))) else (bif Nat.blt pc 197 then (bif Nat.blt pc 195 then (bif Nat.beq pc 192 then some (.goto 4, 3, [196]) else none) else (bif Nat.blt pc 196 then (bif Nat.beq pc 195 then some (.iconst 0, 1, []) else none) else (bif Nat.beq pc 196 then some (.ireturn, 1, [0]) else none))) else (bif Nat.blt pc 198 then (bif Nat.beq pc 197 then some (.iload_n 1, 1, []) else none) else (bif Nat.blt pc 200 then (bif Nat.beq pc 198 then some (.bipush 13, 2, []) else none) else (bif Nat.beq pc 200 then some (.invokestatic 52, 3, [1, 58, 2, 312, 2, 2, 1]) else none)))))) else (bif Nat.blt pc 226 then (bif Nat.blt pc 216 then (bif Nat.blt pc 208 then (bif Nat.blt pc 204 then (bif Nat.beq pc 203 then some (.ireturn, 1, [0]) else none) else (bif Nat.blt pc 205 then (bif Nat.beq pc 204 then some (.iload_n 1, 1, []) else none) else (bif Nat.beq pc 205 then some (.invokestatic 47, 3, [1, 56, 1, 324, 2, 1, 1]) else none))) else (bif Nat.blt pc 211 then (bif Nat.beq pc 208 then some (.ifCond .eq 8, 3, [216]) else none) else (bif Nat.blt pc 213 then (bif Nat.beq pc 211 then some (.bipush 14, 2, []) else none) else (bif Nat.beq pc 213 then some (.goto 4, 3, [217]) else none)))) else (bif Nat.blt pc 219 then (bif Nat.blt pc 217 then (bif Nat.beq pc 216 then some (.iconst 0, 1, []) else none) else (bif Nat.blt pc 218 then (bif Nat.beq pc 217 then some (.ireturn, 1, [0]) else none) else (bif Nat.beq pc 218 then some (.iload_n 1, 1, []) else none))) else (bif Nat.blt pc 221 then (bif Nat.beq pc 219 then some (.bipush 93, 2, []) else none) else (bif Nat.blt pc 224 then (bif Nat.beq pc 221 then some (.if_icmp .ne 8, 3, [229]) else none) else (bif Nat.beq pc 224 then some (.bipush 15, 2, []) else none))))) else (bif Nat.blt pc 237 then (bif Nat.blt pc 231 then (bif Nat.blt pc 229 then (bif Nat.beq pc 226 then some (.goto 4, 3, [230]) else none) else (bif Nat.blt pc 230 then (bif Nat.beq pc 229 then some (.iconst 0, 1, []) else none) else (bif Nat.beq pc 230 then some (.ireturn, 1, [0]) else none))) else (bif Nat.blt pc 232 then (bif Nat.beq pc 231 then some (.iload_n 1, 1, []) else none) else (bif Nat.blt pc 234 then (bif Nat.beq pc 232 then some (.bipush 61, 2, []) else none) else (bif Nat.beq pc 234 then some (.if_icmp .ne 8, 3, [242]) else none)))) else (bif Nat.blt pc 243 then (bif Nat.blt pc 239 then (bif Nat.beq pc 237 then some (.bipush 8, 2, []) else none) else (bif Nat.blt pc 242 then (bif Nat.beq pc 239 then some (.goto 4, 3, [243]) else none) else (bif Nat.beq pc 242 then some (.iconst 0, 1, []) else none))) else (bif Nat.blt pc 244 then (bif Nat.beq pc 243 then some (.ireturn, 1, [0]) else none) else (bif Nat.blt pc 245 then (bif Nat.beq pc 244 then some (.iconst 0, 1, []) else none) else (bif Nat.beq pc 245 then some (.ireturn, 1, [0]) else none)))))))
/-- X3_ifRegister -/
def I_X3_ifRegister (pc : Nat) : Option IE := bif Nat.blt pc 7 then (bif Nat.blt pc 1 then (bif Nat.beq pc 0 then some (.iload_n 0, 1, []) else none) else (bif Nat.blt pc 4 then (bif Nat.beq pc 1 then some (.invokestatic 40, 3, [1, 55, 1, 315, 2, 1, 1]) else none) else (bif Nat.beq pc 4 then some (.ifCond .eq 7, 3, [11]) else none))) else (bif Nat.blt pc 11 then (bif Nat.blt pc 8 then (bif Nat.beq pc 7 then some (.iload_n 1, 1, []) else none) else (bif Nat.beq pc 8 then some (.goto 4, 3, [12]) else none)) else (bif Nat.blt pc 12 then (bif Nat.beq pc 11 then some (.iconst 0, 1, []) else none) else (bif Nat.beq pc 12 then some (.ireturn, 1, [0]) else none)))
/-- X3_nextOfRightSide -/
def I_X3_nextOfRightSide (pc : Nat) : Option IE := bif Nat.blt pc 16 then (bif Nat.blt pc 7 then (bif Nat.blt pc 3 then (bif Nat.blt pc 1 then (bif Nat.beq pc 0 then some (.iload_n 0, 1, []) else none) else (bif Nat.beq pc 1 then some (.bipush 45, 2, []) else none)) else (bif Nat.blt pc 6 then (bif Nat.beq pc 3 then some (.if_icmp .ne 5, 3, [8]) else none) else (bif Nat.beq pc 6 then some (.iconst 4, 1, []) else none))) else (bif Nat.blt pc 9 then (bif Nat.blt pc 8 then (bif Nat.beq pc 7 then some (.ireturn, 1, [0]) else none) else (bif Nat.beq pc 8 then some (.iload_n 0, 1, []) else none)) else (bif Nat.blt pc 11 then (bif Nat.beq pc 9 then some (.bipush 91, 2, []) else none) else (bif Nat.blt pc 14 then (bif Nat.beq pc 11 then some (.if_icmp .ne 6, 3, [17]) else none) else (bif Nat.beq pc 14 then some (.bipush 9, 2, []) else none))))) else (bif Nat.blt pc 24 then (bif Nat.blt pc 18 then (bif Nat.blt pc 17 then (bif Nat.beq pc 16 then some (.ireturn, 1, [0]) else none) else (bif Nat.beq pc 17 then some (.iload_n 0, 1, []) else none)) else (bif Nat.blt pc 21 then (bif Nat.beq pc 18 then some (.invokestatic 40, 3, [1, 55, 1, 315, 2, 1, 1]) else none) else (bif Nat.beq pc 21 then some (.ifCond .eq 8, 3, [29]) else none))) else (bif Nat.blt pc 29 then (bif Nat.blt pc 26 then (bif Nat.beq pc 24 then some (.bipush 7, 2, []) else none) else (bif Nat.beq pc 26 then some (.goto 7, 3, [33]) else none)) else (bif Nat.blt pc 30 then (bif Nat.beq pc 29 then some (.iload_n 0, 1, []) else none) else (bif Nat.blt pc 33 then (bif Nat.beq pc 30 then some (.invokestatic 60, 3, [1, 60, 1, 321, 2, 1, 1]) else none) else (bif Nat.beq pc 33 then some (.ireturn, 1, [0]) else none)))))
/-- X3_nextOfNumber -/
def I_X3_nextOfNumber (pc : Nat) : Option IE := bif Nat.blt pc 10 then (bif Nat.blt pc 6 then (bif Nat.blt pc 1 then (bif Nat.beq pc 0 then some (.iload_n 0, 1, []) else none) else (bif Nat.blt pc 3 then (bif Nat.beq pc 1 then some (.bipush 48, 2, []) else none) else (bif Nat.beq pc 3 then some (.if_icmp .ne 6, 3, [9]) else none))) else (bif Nat.blt pc 8 then (bif Nat.beq pc 6 then some (.bipush 6, 2, []) else none) else (bif Nat.blt pc 9 then (bif Nat.beq pc 8 then some (.ireturn, 1, [0]) else none) else (bif Nat.beq pc 9 then some (.iload_n 0, 1, []) else none)))) else (bif Nat.blt pc 17 then (bif Nat.blt pc 13 then (bif Nat.beq pc 10 then some (.invokestatic 47, 3, [1, 56, 1, 324, 2, 1, 1]) else none) else (bif Nat.blt pc 16 then (bif Nat.beq pc 13 then some (.ifCond .eq 7, 3, [20]) else none) else (bif Nat.beq pc 16 then some (.iconst 5, 1, []) else none))) else (bif Nat.blt pc 20 then (bif Nat.beq pc 17 then some (.goto 4, 3, [21]) else none) else (bif Nat.blt pc 21 then (bif Nat.beq pc 20 then some (.iconst 0, 1, []) else none) else (bif Nat.beq pc 21 then some (.ireturn, 1, [0]) else none))))
/-- X3_nextOfEnd -/
def I_X3_nextOfEnd (pc : Nat) : Option IE := bif Nat.blt pc 6 then (bif Nat.blt pc 1 then (bif Nat.beq pc 0 then some (.iload_n 0, 1, []) else none) else (bif Nat.blt pc 3 then (bif Nat.beq pc 1 then some (.bipush 59, 2, []) else none) else (bif Nat.beq pc 3 then some (.if_icmp .ne 7, 3, [10]) else none))) else (bif Nat.blt pc 10 then (bif Nat.blt pc 7 then (bif Nat.beq pc 6 then some (.iconst 1, 1, []) else none) else (bif Nat.beq pc 7 then some (.goto 4, 3, [11]) else none)) else (bif Nat.blt pc 11 then (bif Nat.beq pc 10 then some (.iconst 0, 1, []) else none) else (bif Nat.beq pc 11 then some (.ireturn, 1, [0]) else none)))
/-- X4_init -/
def I_X4_init (pc : Nat) : Option IE := bif Nat.blt pc 42 then (bif Nat.blt pc 20 then (bif Nat.blt pc 9 then (bif Nat.blt pc 4 then (bif Nat.blt pc 1 then (bif Nat.beq pc 0 then some (.aload_n 0, 1, []) else none) else (bif Nat.beq pc 1 then some (.invokespecial 1, 3, [3, 0, 0, 90]) else none)) else (bif Nat.blt pc 5 then (bif Nat.beq pc 4 then some (.aload_n 0, 1, []) else none) else (bif Nat.blt pc 8 then (bif Nat.beq pc 5 then some (.new 7, 3, [1, 93, 94]) else none) else (bif Nat.beq pc 8 then some (.dup, 1, []) else none)))) else (bif Nat.blt pc 15 then (bif Nat.blt pc 12 then (bif Nat.beq pc 9 then some (.invokespecial 9, 3, [2, 13, 0, 95, 1, 2, 0]) else none) else (bif Nat.beq pc 12 then some (.putfield 10, 3, [3, 0, 1, 235]) else none)) else (bif Nat.blt pc 16 then (bif Nat.beq pc 15 then some (.aload_n 0, 1, []) else none) else (bif Nat.blt pc 19 then (bif Nat.beq pc 16 then some (.new 7, 3, [1, 93, 94]) else none) else (bif Nat.beq pc 19 then some (.dup, 1, []) else none))))) else (bif Nat.blt pc 32 then (bif Nat.blt pc 26 then (bif Nat.blt pc 23 then (bif Nat.beq pc 20 then some (.invokespecial 9, 3, [2, 13, 0, 95, 1, 2, 0]) else none) else (bif Nat.beq pc 23 then some (.putfield 16, 3, [3, 1, 1, 236]) else none)) else (bif Nat.blt pc 27 then (bif Nat.beq pc 26 then some (.aload_n 0, 1, []) else none) else (bif Nat.blt pc 29 then (bif Nat.beq pc 27 then some (.bipush 6, 2, []) else none) else (bif Nat.beq pc 29 then some (.anewarray 7, 3, [8, 93, 219]) else none)))) else (bif Nat.blt pc 37 then (bif Nat.blt pc 35 then (bif Nat.beq pc 32 then some (.putfield 19, 3, [3, 2, 1, 237]) else none) else (bif Nat.blt pc 36 then (bif Nat.beq pc 35 then some (.iconst 0, 1, []) else none) else (bif Nat.beq pc 36 then some (.istore_n 1, 1, []) else none))) else (bif Nat.blt pc 38 then (bif Nat.beq pc 37 then some (.iload_n 1, 1, []) else none) else (bif Nat.blt pc 39 then (bif Nat.beq pc 38 then some (.aload_n 0, 1, []) else none) else (bif Nat.beq pc 39 then some (.getfield 19, 3, [3, 2, 1, 237]) else none)))))) else (bif Nat.blt pc 62 then (bif Nat.blt pc 51 then (bif Nat.blt pc 46 then (bif Nat.blt pc 43 then (bif Nat.beq pc 42 then some (.arraylength, 1, []) else none) else (bif Nat.beq pc 43 then some (.if_icmp .ge 22, 3, [65]) else none)) else (bif Nat.blt pc 47 then (bif Nat.beq pc 46 then some (.aload_n 0, 1, []) else none) else (bif Nat.blt pc 50 then (bif Nat.beq pc 47 then some (.getfield 19, 3, [3, 2, 1, 237]) else none) else (bif Nat.beq pc 50 then some (.iload_n 1, 1, []) else none)))) else (bif Nat.blt pc 55 then (bif Nat.blt pc 54 then (bif Nat.beq pc 51 then some (.new 7, 3, [1, 93, 94]) else none) else (bif Nat.beq pc 54 then some (.dup, 1, []) else none)) else (bif Nat.blt pc 58 then (bif Nat.beq pc 55 then some (.invokespecial 9, 3, [2, 13, 0, 95, 1, 2, 0]) else none) else (bif Nat.blt pc 59 then (bif Nat.beq pc 58 then some (.aastore, 1, []) else none) else (bif Nat.beq pc 59 then some (.iinc 1 1, 3, []) else none))))) else (bif Nat.blt pc 73 then (bif Nat.blt pc 66 then (bif Nat.blt pc 65 then (bif Nat.beq pc 62 then some (.goto (-25), 3, [37]) else none) else (bif Nat.beq pc 65 then some (.aload_n 0, 1, []) else none)) else (bif Nat.blt pc 69 then (bif Nat.beq pc 66 then some (.new 23, 3, [2, 220, 221]) else none) else (bif Nat.blt pc 70 then (bif Nat.beq pc 69 then some (.dup, 1, []) else none) else (bif Nat.beq pc 70 then some (.invokespecial 25, 3, [4, 43, 0, 222, 2, 1, 0]) else none)))) else (bif Nat.blt pc 78 then (bif Nat.blt pc 76 then (bif Nat.beq pc 73 then some (.putfield 26, 3, [3, 3, 1, 238]) else none) else (bif Nat.blt pc 77 then (bif Nat.beq pc 76 then some (.aload_n 0, 1, []) else none) else (bif Nat.beq pc 77 then some (.iconst 3, 1, []) else none))) else (bif Nat.blt pc 80 then (bif Nat.beq pc 78 then some (.newarray .int, 2, [6, 218]) else none) else (bif Nat.blt pc 83 then (bif Nat.beq pc 80 then some (.putfield 30, 3, [3, 4, 1, 239]) else none) else (bif Nat.beq pc 83 then some (.return_, 1, []) else none))))))
/-- X4_set -/
def I_X4_set (pc : Nat) : Option IE := bif Nat.blt pc 29 then (bif Nat.blt pc 12 then (bif Nat.blt pc 6 then (bif Nat.blt pc 2 then (bif Nat.blt pc 1 then (bif Nat.beq pc 0 then some (.aload_n 0, 1, []) else none) else (bif Nat.beq pc 1 then some (.iload_n 1, 1, []) else none)) else (bif Nat.blt pc 3 then (bif Nat.beq pc 2 then some (.iconst 3, 1, []) else none) else (bif Nat.beq pc 3 then some (.invokevirtual 34, 3, [0, 84, 2, 557, 3, 3, 0]) else none))) else (bif Nat.blt pc 8 then (bif Nat.blt pc 7 then (bif Nat.beq pc 6 then some (.iload_n 2, 1, []) else none) else (bif Nat.beq pc 7 then some (.iconst 1, 1, []) else none)) else (bif Nat.blt pc 11 then (bif Nat.beq pc 8 then some (.if_icmp .lt 11, 3, [19]) else none) else (bif Nat.beq pc 11 then some (.iload_n 2, 1, []) else none)))) else (bif Nat.blt pc 22 then (bif Nat.blt pc 16 then (bif Nat.blt pc 13 then (bif Nat.beq pc 12 then some (.iload_n 1, 1, []) else none) else (bif Nat.beq pc 13 then some (.invokestatic 38, 3, [1, 14, 1, 650, 1, 1, 1]) else none)) else (bif Nat.blt pc 19 then (bif Nat.beq pc 16 then some (.if_icmp .le 13, 3, [29]) else none) else (bif Nat.beq pc 19 then some (.new 42, 3, [9, 2, 481, 44, 46, 653]) else none))) else (bif Nat.blt pc 25 then (bif Nat.blt pc 23 then (bif Nat.beq pc 22 then some (.dup, 1, []) else none) else (bif Nat.beq pc 23 then some (.ldc 44, 2, []) else none)) else (bif Nat.blt pc 28 then (bif Nat.beq pc 25 then some (.invokespecial 46, 3, []) else none) else (bif Nat.beq pc 28 then some (.athrow, 1, []) else none))))) else (bif Nat.blt pc 43 then (bif Nat.blt pc 37 then (bif Nat.blt pc 33 then (bif Nat.blt pc 30 then (bif Nat.beq pc 29 then some (.aload_n 0, 1, []) else none) else (bif Nat.beq pc 30 then some (.invokevirtual 49, 3, [0, 76, 0, 258, 3, 3, 0]) else none)) else (bif Nat.blt pc 34 then (bif Nat.beq pc 33 then some (.aload_n 0, 1, []) else none) else (bif Nat.beq pc 34 then some (.getfield 10, 3, [3, 0, 1, 235]) else none))) else (bif Nat.blt pc 41 then (bif Nat.blt pc 40 then (bif Nat.beq pc 37 then some (.getfield 52, 3, [1, 4, 1, 171]) else none) else (bif Nat.beq pc 40 then some (.iload_n 1, 1, []) else none)) else (bif Nat.blt pc 42 then (bif Nat.beq pc 41 then some (.iaload, 1, []) else none) else (bif Nat.beq pc 42 then some (.istore_n 3, 1, []) else none)))) else (bif Nat.blt pc 51 then (bif Nat.blt pc 47 then (bif Nat.blt pc 44 then (bif Nat.beq pc 43 then some (.aload_n 0, 1, []) else none) else (bif Nat.beq pc 44 then some (.getfield 10, 3, [3, 0, 1, 235]) else none)) else (bif Nat.blt pc 50 then (bif Nat.beq pc 47 then some (.getfield 52, 3, [1, 4, 1, 171]) else none) else (bif Nat.beq pc 50 then some (.iload_n 1, 1, []) else none))) else (bif Nat.blt pc 53 then (bif Nat.blt pc 52 then (bif Nat.beq pc 51 then some (.iload_n 2, 1, []) else none) else (bif Nat.beq pc 52 then some (.iastore, 1, []) else none)) else (bif Nat.blt pc 54 then (bif Nat.beq pc 53 then some (.iload_n 3, 1, []) else none) else (bif Nat.beq pc 54 then some (.ireturn, 1, [0]) else none)))))
/-- X4_putRegister -/
def I_X4_putRegister (pc : Nat) : Option IE := bif Nat.blt pc 8 then (bif Nat.blt pc 2 then (bif Nat.blt pc 1 then (bif Nat.beq pc 0 then some (.aload_n 0, 1, []) else none) else (bif Nat.beq pc 1 then some (.aload_n 0, 1, []) else none)) else (bif Nat.blt pc 5 then (bif Nat.beq pc 2 then some (.getfield 10, 3, [3, 0, 1, 235]) else none) else (bif Nat.beq pc 5 then some (.getfield 55, 3, [1, 2, 1, 167]) else none))) else (bif Nat.blt pc 10 then (bif Nat.blt pc 9 then (bif Nat.beq pc 8 then some (.iload_n 1, 1, []) else none) else (bif Nat.beq pc 9 then some (.iload_n 2, 1, []) else none)) else (bif Nat.blt pc 13 then (bif Nat.beq pc 10 then some (.invokevirtual 58, 3, [0, 66, 3, 662, 3, 5, 1]) else none) else (bif Nat.beq pc 13 then some (.ireturn, 1, [0]) else none)))
/-- X4_putCell -/
def I_X4_putCell (pc : Nat) : Option IE := bif Nat.blt pc 8 then (bif Nat.blt pc 2 then (bif Nat.blt pc 1 then (bif Nat.beq pc 0 then some (.aload_n 0, 1, []) else none) else (bif Nat.beq pc 1 then some (.aload_n 0, 1, []) else none)) else (bif Nat.blt pc 5 then (bif Nat.beq pc 2 then some (.getfield 10, 3, [3, 0, 1, 235]) else none) else (bif Nat.beq pc 5 then some (.getfield 62, 3, [1, 3, 1, 169]) else none))) else (bif Nat.blt pc 10 then (bif Nat.blt pc 9 then (bif Nat.beq pc 8 then some (.iload_n 1, 1, []) else none) else (bif Nat.beq pc 9 then some (.iload_n 2, 1, []) else none)) else (bif Nat.blt pc 13 then (bif Nat.beq pc 10 then some (.invokevirtual 58, 3, [0, 66, 3, 662, 3, 5, 1]) else none) else (bif Nat.beq pc 13 then some (.ireturn, 1, [0]) else none)))
/-- X4_putValue -/
def I_X4_putValue (pc : Nat) : Option IE := bif Nat.blt pc 34 then (bif Nat.blt pc 14 then (bif Nat.blt pc 4 then (bif Nat.blt pc 2 then (bif Nat.blt pc 1 then (bif Nat.beq pc 0 then some (.aload_n 0, 1, []) else none) else (bif Nat.beq pc 1 then some (.iload_n 2, 1, []) else none)) else (bif Nat.blt pc 3 then (bif Nat.beq pc 2 then some (.aload_n 1, 1, []) else none) else (bif Nat.beq pc 3 then some (.arraylength, 1, []) else none))) else (bif Nat.blt pc 8 then (bif Nat.blt pc 7 then (bif Nat.beq pc 4 then some (.invokevirtual 34, 3, [0, 84, 2, 557, 3, 3, 0]) else none) else (bif Nat.beq pc 7 then some (.iload_n 3, 1, []) else none)) else (bif Nat.blt pc 11 then (bif Nat.beq pc 8 then some (.invokestatic 65, 3, [1, 0, 1, 666, 9, 1, 1]) else none) else (bif Nat.beq pc 11 then some (.ifCond .ne 13, 3, [24]) else none)))) else (bif Nat.blt pc 23 then (bif Nat.blt pc 18 then (bif Nat.blt pc 17 then (bif Nat.beq pc 14 then some (.new 42, 3, [9, 2, 481, 71, 46, 670]) else none) else (bif Nat.beq pc 17 then some (.dup, 1, []) else none)) else (bif Nat.blt pc 20 then (bif Nat.beq pc 18 then some (.ldc 71, 2, []) else none) else (bif Nat.beq pc 20 then some (.invokespecial 46, 3, []) else none))) else (bif Nat.blt pc 25 then (bif Nat.blt pc 24 then (bif Nat.beq pc 23 then some (.athrow, 1, []) else none) else (bif Nat.beq pc 24 then some (.aload_n 0, 1, []) else none)) else (bif Nat.blt pc 28 then (bif Nat.beq pc 25 then some (.getfield 10, 3, [3, 0, 1, 235]) else none) else (bif Nat.blt pc 31 then (bif Nat.beq pc 28 then some (.invokevirtual 73, 3, [0, 21, 0, 281, 1, 1, 1]) else none) else (bif Nat.beq pc 31 then some (.ifCond .le 13, 3, [44]) else none)))))) else (bif Nat.blt pc 49 then (bif Nat.blt pc 43 then (bif Nat.blt pc 38 then (bif Nat.blt pc 37 then (bif Nat.beq pc 34 then some (.new 77, 3, [9, 3, 671, 79, 81, 680]) else none) else (bif Nat.beq pc 37 then some (.dup, 1, []) else none)) else (bif Nat.blt pc 40 then (bif Nat.beq pc 38 then some (.ldc 79, 2, []) else none) else (bif Nat.beq pc 40 then some (.invokespecial 81, 3, []) else none))) else (bif Nat.blt pc 45 then (bif Nat.blt pc 44 then (bif Nat.beq pc 43 then some (.athrow, 1, []) else none) else (bif Nat.beq pc 44 then some (.aload_n 0, 1, []) else none)) else (bif Nat.blt pc 48 then (bif Nat.beq pc 45 then some (.invokevirtual 49, 3, [0, 76, 0, 258, 3, 3, 0]) else none) else (bif Nat.beq pc 48 then some (.aload_n 1, 1, []) else none)))) else (bif Nat.blt pc 54 then (bif Nat.blt pc 51 then (bif Nat.blt pc 50 then (bif Nat.beq pc 49 then some (.iload_n 2, 1, []) else none) else (bif Nat.beq pc 50 then some (.iaload, 1, []) else none)) else (bif Nat.blt pc 53 then (bif Nat.beq pc 51 then some (.istore 4, 2, []) else none) else (bif Nat.beq pc 53 then some (.aload_n 1, 1, []) else none))) else (bif Nat.blt pc 56 then (bif Nat.blt pc 55 then (bif Nat.beq pc 54 then some (.iload_n 2, 1, []) else none) else (bif Nat.beq pc 55 then some (.iload_n 3, 1, []) else none)) else (bif Nat.blt pc 57 then (bif Nat.beq pc 56 then some (.iastore, 1, []) else none) else (bif Nat.blt pc 59 then (bif Nat.beq pc 57 then some (.iload 4, 2, []) else none) else (bif Nat.beq pc 59 then some (.ireturn, 1, [0]) else none))))))
/-- X4_run -/
def I_X4_run (pc : Nat) : Option IE := bif Nat.blt pc 30 then (bif Nat.blt pc 13 then (bif Nat.blt pc 5 then (bif Nat.blt pc 1 then (bif Nat.beq pc 0 then some (.aload_n 0, 1, []) else none) else (bif Nat.blt pc 2 then (bif Nat.beq pc 1 then some (.iload_n 1, 1, []) else none) else (bif Nat.beq pc 2 then some (.invokevirtual 82, 3, [0, 68, 1, 701, 3, 2, 0]) else none))) else (bif Nat.blt pc 9 then (bif Nat.blt pc 6 then (bif Nat.beq pc 5 then some (.aload_n 0, 1, []) else none) else (bif Nat.beq pc 6 then some (.getfield 10, 3, [3, 0, 1, 235]) else none)) else (bif Nat.blt pc 12 then (bif Nat.beq pc 9 then some (.getfield 86, 3, [1, 5, 0, 173]) else none) else (bif Nat.beq pc 12 then some (.iload_n 1, 1, []) else none)))) else (bif Nat.blt pc 23 then (bif Nat.blt pc 17 then (bif Nat.blt pc 14 then (bif Nat.beq pc 13 then some (.iadd, 1, []) else none) else (bif Nat.beq pc 14 then some (.sipush 10000, 3, []) else none)) else (bif Nat.blt pc 20 then (bif Nat.beq pc 17 then some (.if_icmp .le 13, 3, [30]) else none) else (bif Nat.beq pc 20 then some (.new 77, 3, [9, 3, 671, 90, 81, 706]) else none))) else (bif Nat.blt pc 26 then (bif Nat.blt pc 24 then (bif Nat.beq pc 23 then some (.dup, 1, []) else none) else (bif Nat.beq pc 24 then some (.ldc 90, 2, []) else none)) else (bif Nat.blt pc 29 then (bif Nat.beq pc 26 then some (.invokespecial 81, 3, []) else none) else (bif Nat.beq pc 29 then some (.athrow, 1, []) else none))))) else (bif Nat.blt pc 46 then (bif Nat.blt pc 38 then (bif Nat.blt pc 34 then (bif Nat.blt pc 31 then (bif Nat.beq pc 30 then some (.aload_n 0, 1, []) else none) else (bif Nat.beq pc 31 then some (.invokevirtual 49, 3, [0, 76, 0, 258, 3, 3, 0]) else none)) else (bif Nat.blt pc 35 then (bif Nat.beq pc 34 then some (.aload_n 0, 1, []) else none) else (bif Nat.beq pc 35 then some (.getfield 10, 3, [3, 0, 1, 235]) else none))) else (bif Nat.blt pc 42 then (bif Nat.blt pc 41 then (bif Nat.beq pc 38 then some (.getfield 92, 3, [1, 11, 0, 184]) else none) else (bif Nat.beq pc 41 then some (.istore_n 2, 1, []) else none)) else (bif Nat.blt pc 43 then (bif Nat.beq pc 42 then some (.aload_n 0, 1, []) else none) else (bif Nat.beq pc 43 then some (.getfield 10, 3, [3, 0, 1, 235]) else none)))) else (bif Nat.blt pc 54 then (bif Nat.blt pc 50 then (bif Nat.blt pc 47 then (bif Nat.beq pc 46 then some (.iload_n 1, 1, []) else none) else (bif Nat.beq pc 47 then some (.invokevirtual 95, 3, [0, 30, 1, 616, 1, 3, 0]) else none)) else (bif Nat.blt pc 51 then (bif Nat.beq pc 50 then some (.aload_n 0, 1, []) else none) else (bif Nat.beq pc 51 then some (.getfield 10, 3, [3, 0, 1, 235]) else none))) else (bif Nat.blt pc 58 then (bif Nat.blt pc 57 then (bif Nat.beq pc 54 then some (.getfield 92, 3, [1, 11, 0, 184]) else none) else (bif Nat.beq pc 57 then some (.iload_n 2, 1, []) else none)) else (bif Nat.blt pc 59 then (bif Nat.beq pc 58 then some (.isub, 1, []) else none) else (bif Nat.beq pc 59 then some (.ireturn, 1, [0]) else none)))))
/-- X4_checkCycles -/
def I_X4_checkCycles (pc : Nat) : Option IE := bif Nat.blt pc 11 then (bif Nat.blt pc 5 then (bif Nat.blt pc 1 then (bif Nat.beq pc 0 then some (.iload_n 1, 1, []) else none) else (bif Nat.blt pc 2 then (bif Nat.beq pc 1 then some (.iconst 1, 1, []) else none) else (bif Nat.beq pc 2 then some (.if_icmp .lt 9, 3, [11]) else none))) else (bif Nat.blt pc 6 then (bif Nat.beq pc 5 then some (.iload_n 1, 1, []) else none) else (bif Nat.blt pc 8 then (bif Nat.beq pc 6 then some (.bipush 100, 2, []) else none) else (bif Nat.beq pc 8 then some (.if_icmp .le 13, 3, [21]) else none)))) else (bif Nat.blt pc 17 then (bif Nat.blt pc 14 then (bif Nat.beq pc 11 then some (.new 42, 3, [9, 2, 481, 98, 46, 705]) else none) else (bif Nat.blt pc 15 then (bif Nat.beq pc 14 then some (.dup, 1, []) else none) else (bif Nat.beq pc 15 then some (.ldc 98, 2, []) else none))) else (bif Nat.blt pc 20 then (bif Nat.beq pc 17 then some (.invokespecial 46, 3, []) else none) else (bif Nat.blt pc 21 then (bif Nat.beq pc 20 then some (.athrow, 1, []) else none) else (bif Nat.beq pc 21 then some (.return_, 1, []) else none))))
/-- X4_flush -/
def I_X4_flush (pc : Nat) : Option IE := bif Nat.blt pc 13 then (bif Nat.blt pc 5 then (bif Nat.blt pc 1 then (bif Nat.beq pc 0 then some (.aload_n 0, 1, []) else none) else (bif Nat.blt pc 4 then (bif Nat.beq pc 1 then some (.invokevirtual 49, 3, [0, 76, 0, 258, 3, 3, 0]) else none) else (bif Nat.beq pc 4 then some (.aload_n 0, 1, []) else none))) else (bif Nat.blt pc 11 then (bif Nat.blt pc 8 then (bif Nat.beq pc 5 then some (.getfield 10, 3, [3, 0, 1, 235]) else none) else (bif Nat.beq pc 8 then some (.invokevirtual 73, 3, [0, 21, 0, 281, 1, 1, 1]) else none)) else (bif Nat.blt pc 12 then (bif Nat.beq pc 11 then some (.istore_n 1, 1, []) else none) else (bif Nat.beq pc 12 then some (.aload_n 0, 1, []) else none)))) else (bif Nat.blt pc 20 then (bif Nat.blt pc 16 then (bif Nat.beq pc 13 then some (.getfield 10, 3, [3, 0, 1, 235]) else none) else (bif Nat.blt pc 17 then (bif Nat.beq pc 16 then some (.aload_n 0, 1, []) else none) else (bif Nat.beq pc 17 then some (.getfield 10, 3, [3, 0, 1, 235]) else none))) else (bif Nat.blt pc 26 then (bif Nat.blt pc 23 then (bif Nat.beq pc 20 then some (.getfield 100, 3, [1, 8, 0, 179]) else none) else (bif Nat.beq pc 23 then some (.putfield 103, 3, [1, 7, 0, 177]) else none)) else (bif Nat.blt pc 27 then (bif Nat.beq pc 26 then some (.iload_n 1, 1, []) else none) else (bif Nat.beq pc 27 then some (.ireturn, 1, [0]) else none))))
/-- X4_again -/
def I_X4_again (pc : Nat) : Option IE := bif Nat.blt pc 11 then (bif Nat.blt pc 4 then (bif Nat.blt pc 1 then (bif Nat.beq pc 0 then some (.aload_n 0, 1, []) else none) else (bif Nat.beq pc 1 then some (.invokevirtual 49, 3, [0, 76, 0, 258, 3, 3, 0]) else none)) else (bif Nat.blt pc 5 then (bif Nat.beq pc 4 then some (.aload_n 0, 1, []) else none) else (bif Nat.blt pc 8 then (bif Nat.beq pc 5 then some (.getfield 10, 3, [3, 0, 1, 235]) else none) else (bif Nat.beq pc 8 then some (.getfield 100, 3, [1, 8, 0, 179]) else none)))) else (bif Nat.blt pc 16 then (bif Nat.blt pc 12 then (bif Nat.beq pc 11 then some (.istore_n 1, 1, []) else none) else (bif Nat.blt pc 13 then (bif Nat.beq pc 12 then some (.aload_n 0, 1, []) else none) else (bif Nat.beq pc 13 then some (.getfield 10, 3, [3, 0, 1, 235]) else none))) else (bif Nat.blt pc 19 then (bif Nat.beq pc 16 then some (.invokevirtual 106, 3, [0, 16, 0, 289, 1, 3, 0]) else none) else (bif Nat.blt pc 20 then (bif Nat.beq pc 19 then some (.iload_n 1, 1, []) else none) else (bif Nat.beq pc 20 then some (.ireturn, 1, [0]) else none))))
/-- X4_append -/
def I_X4_append (pc : Nat) : Option IE := bif Nat.blt pc 31 then (bif Nat.blt pc 15 then (bif Nat.blt pc 6 then (bif Nat.blt pc 1 then (bif Nat.beq pc 0 then some (.iload_n 1, 1, []) else none) else (bif Nat.blt pc 3 then (bif Nat.beq pc 1 then some (.bipush 33, 2, []) else none) else (bif Nat.beq pc 3 then some (.if_icmp .lt 9, 3, [12]) else none))) else (bif Nat.blt pc 9 then (bif Nat.blt pc 7 then (bif Nat.beq pc 6 then some (.iload_n 1, 1, []) else none) else (bif Nat.beq pc 7 then some (.bipush 126, 2, []) else none)) else (bif Nat.blt pc 12 then (bif Nat.beq pc 9 then some (.if_icmp .le 13, 3, [22]) else none) else (bif Nat.beq pc 12 then some (.new 42, 3, [9, 2, 481, 109, 46, 714]) else none)))) else (bif Nat.blt pc 22 then (bif Nat.blt pc 18 then (bif Nat.blt pc 16 then (bif Nat.beq pc 15 then some (.dup, 1, []) else none) else (bif Nat.beq pc 16 then some (.ldc 109, 2, []) else none)) else (bif Nat.blt pc 21 then (bif Nat.beq pc 18 then some (.invokespecial 46, 3, []) else none) else (bif Nat.beq pc 21 then some (.athrow, 1, []) else none))) else (bif Nat.blt pc 26 then (bif Nat.blt pc 23 then (bif Nat.beq pc 22 then some (.aload_n 0, 1, []) else none) else (bif Nat.beq pc 23 then some (.getfield 26, 3, [3, 3, 1, 238]) else none)) else (bif Nat.blt pc 29 then (bif Nat.beq pc 26 then some (.getfield 111, 3, [2, 1, 0, 228]) else none) else (bif Nat.beq pc 29 then some (.bipush 120, 2, []) else none))))) else (bif Nat.blt pc 45 then (bif Nat.blt pc 38 then (bif Nat.blt pc 34 then (bif Nat.beq pc 31 then some (.if_icmp .lt 13, 3, [44]) else none) else (bif Nat.blt pc 37 then (bif Nat.beq pc 34 then some (.new 77, 3, [9, 3, 671, 114, 81, 715]) else none) else (bif Nat.beq pc 37 then some (.dup, 1, []) else none))) else (bif Nat.blt pc 43 then (bif Nat.blt pc 40 then (bif Nat.beq pc 38 then some (.ldc 114, 2, []) else none) else (bif Nat.beq pc 40 then some (.invokespecial 81, 3, []) else none)) else (bif Nat.blt pc 44 then (bif Nat.beq pc 43 then some (.athrow, 1, []) else none) else (bif Nat.beq pc 44 then some (.aload_n 0, 1, []) else none)))) else (bif Nat.blt pc 53 then (bif Nat.blt pc 49 then (bif Nat.blt pc 48 then (bif Nat.beq pc 45 then some (.getfield 26, 3, [3, 3, 1, 238]) else none) else (bif Nat.beq pc 48 then some (.iload_n 1, 1, []) else none)) else (bif Nat.blt pc 50 then (bif Nat.beq pc 49 then some (.i2c, 1, []) else none) else (bif Nat.beq pc 50 then some (.invokevirtual 116, 3, [0, 44, 1, 716, 2, 2, 0]) else none))) else (bif Nat.blt pc 57 then (bif Nat.blt pc 54 then (bif Nat.beq pc 53 then some (.aload_n 0, 1, []) else none) else (bif Nat.beq pc 54 then some (.getfield 26, 3, [3, 3, 1, 238]) else none)) else (bif Nat.blt pc 60 then (bif Nat.beq pc 57 then some (.getfield 111, 3, [2, 1, 0, 228]) else none) else (bif Nat.beq pc 60 then some (.ireturn, 1, [0]) else none)))))
/-- X4_clearBuffer -/
def I_X4_clearBuffer (pc : Nat) : Option IE := bif Nat.blt pc 9 then (bif Nat.blt pc 4 then (bif Nat.blt pc 1 then (bif Nat.beq pc 0 then some (.aload_n 0, 1, []) else none) else (bif Nat.beq pc 1 then some (.getfield 26, 3, [3, 3, 1, 238]) else none)) else (bif Nat.blt pc 7 then (bif Nat.beq pc 4 then some (.getfield 111, 3, [2, 1, 0, 228]) else none) else (bif Nat.blt pc 8 then (bif Nat.beq pc 7 then some (.istore_n 1, 1, []) else none) else (bif Nat.beq pc 8 then some (.aload_n 0, 1, []) else none)))) else (bif Nat.blt pc 13 then (bif Nat.blt pc 12 then (bif Nat.beq pc 9 then some (.getfield 26, 3, [3, 3, 1, 238]) else none) else (bif Nat.beq pc 12 then some (.iconst 0, 1, []) else none)) else (bif Nat.blt pc 16 then (bif Nat.beq pc 13 then some (.putfield 111, 3, [2, 1, 0, 228]) else none) else (bif Nat.blt pc 17 then (bif Nat.beq pc 16 then some (.iload_n 1, 1, []) else none) else (bif Nat.beq pc 17 then some (.ireturn, 1, [0]) else none))))
/-- X4_firstError -/
def I_X4_firstError (pc : Nat) : Option IE := bif Nat.blt pc 4 then (bif Nat.blt pc 1 then (bif Nat.beq pc 0 then some (.aload_n 0, 1, []) else none) else (bif Nat.beq pc 1 then some (.getfield 26, 3, [3, 3, 1, 238]) else none)) else (bif Nat.blt pc 7 then (bif Nat.beq pc 4 then some (.invokevirtual 120, 3, [0, 46, 0, 301, 2, 3, 1]) else none) else (bif Nat.beq pc 7 then some (.ireturn, 1, [0]) else none))
/-- X4_load -/
def I_X4_load (pc : Nat) : Option IE := bif Nat.blt pc 58 then (bif Nat.blt pc 29 then (bif Nat.blt pc 16 then (bif Nat.blt pc 7 then (bif Nat.blt pc 1 then (bif Nat.beq pc 0 then some (.aload_n 0, 1, []) else none) else (bif Nat.blt pc 4 then (bif Nat.beq pc 1 then some (.getfield 26, 3, [3, 3, 1, 238]) else none) else (bif Nat.beq pc 4 then some (.invokevirtual 123, 3, [0, 47, 0, 727, 2, 3, 1]) else none))) else (bif Nat.blt pc 13 then (bif Nat.blt pc 10 then (bif Nat.beq pc 7 then some (.ifCond .ne 13, 3, [20]) else none) else (bif Nat.beq pc 10 then some (.new 42, 3, [9, 2, 481, 127, 46, 731]) else none)) else (bif Nat.blt pc 14 then (bif Nat.beq pc 13 then some (.dup, 1, []) else none) else (bif Nat.beq pc 14 then some (.ldc 127, 2, []) else none)))) else (bif Nat.blt pc 21 then (bif Nat.blt pc 19 then (bif Nat.beq pc 16 then some (.invokespecial 46, 3, []) else none) else (bif Nat.blt pc 20 then (bif Nat.beq pc 19 then some (.athrow, 1, []) else none) else (bif Nat.beq pc 20 then some (.aload_n 0, 1, []) else none))) else (bif Nat.blt pc 27 then (bif Nat.blt pc 24 then (bif Nat.beq pc 21 then some (.getfield 26, 3, [3, 3, 1, 238]) else none) else (bif Nat.beq pc 24 then some (.invokevirtual 129, 3, [0, 48, 0, 732, 2, 3, 1]) else none)) else (bif Nat.blt pc 28 then (bif Nat.beq pc 27 then some (.istore_n 1, 1, []) else none) else (bif Nat.beq pc 28 then some (.iload_n 1, 1, []) else none))))) else (bif Nat.blt pc 44 then (bif Nat.blt pc 37 then (bif Nat.blt pc 31 then (bif Nat.beq pc 29 then some (.bipush 24, 2, []) else none) else (bif Nat.blt pc 34 then (bif Nat.beq pc 31 then some (.if_icmp .le 13, 3, [44]) else none) else (bif Nat.beq pc 34 then some (.new 77, 3, [9, 3, 671, 132, 81, 736]) else none))) else (bif Nat.blt pc 40 then (bif Nat.blt pc 38 then (bif Nat.beq pc 37 then some (.dup, 1, []) else none) else (bif Nat.beq pc 38 then some (.ldc 132, 2, []) else none)) else (bif Nat.blt pc 43 then (bif Nat.beq pc 40 then some (.invokespecial 81, 3, []) else none) else (bif Nat.beq pc 43 then some (.athrow, 1, []) else none)))) else (bif Nat.blt pc 52 then (bif Nat.blt pc 48 then (bif Nat.blt pc 45 then (bif Nat.beq pc 44 then some (.aload_n 0, 1, []) else none) else (bif Nat.beq pc 45 then some (.invokevirtual 49, 3, [0, 76, 0, 258, 3, 3, 0]) else none)) else (bif Nat.blt pc 49 then (bif Nat.beq pc 48 then some (.aload_n 0, 1, []) else none) else (bif Nat.beq pc 49 then some (.getfield 10, 3, [3, 0, 1, 235]) else none))) else (bif Nat.blt pc 56 then (bif Nat.blt pc 53 then (bif Nat.beq pc 52 then some (.iload_n 1, 1, []) else none) else (bif Nat.beq pc 53 then some (.putfield 134, 3, [1, 6, 0, 175]) else none)) else (bif Nat.blt pc 57 then (bif Nat.beq pc 56 then some (.iconst 0, 1, []) else none) else (bif Nat.beq pc 57 then some (.istore_n 2, 1, []) else none)))))) else (bif Nat.blt pc 82 then (bif Nat.blt pc 69 then (bif Nat.blt pc 61 then (bif Nat.blt pc 59 then (bif Nat.beq pc 58 then some (.iconst 0, 1, []) else none) else (bif Nat.blt pc 60 then (bif Nat.beq pc 59 then some (.istore_n 3, 1, []) else none) else (bif Nat.beq pc 60 then some (.iload_n 3, 1, []) else none))) else (bif Nat.blt pc 65 then (bif Nat.blt pc 62 then (bif Nat.beq pc 61 then some (.iload_n 1, 1, []) else none) else (bif Nat.beq pc 62 then some (.if_icmp .ge 34, 3, [96]) else none)) else (bif Nat.blt pc 66 then (bif Nat.beq pc 65 then some (.aload_n 0, 1, []) else none) else (bif Nat.beq pc 66 then some (.getfield 26, 3, [3, 3, 1, 238]) else none)))) else (bif Nat.blt pc 74 then (bif Nat.blt pc 70 then (bif Nat.beq pc 69 then some (.iload_n 2, 1, []) else none) else (bif Nat.blt pc 71 then (bif Nat.beq pc 70 then some (.aload_n 0, 1, []) else none) else (bif Nat.beq pc 71 then some (.getfield 10, 3, [3, 0, 1, 235]) else none))) else (bif Nat.blt pc 78 then (bif Nat.blt pc 75 then (bif Nat.beq pc 74 then some (.iload_n 3, 1, []) else none) else (bif Nat.beq pc 75 then some (.invokevirtual 135, 3, [0, 17, 1, 458, 1, 2, 5]) else none)) else (bif Nat.blt pc 81 then (bif Nat.beq pc 78 then some (.invokevirtual 139, 3, [0, 50, 2, 737, 2, 4, 0]) else none) else (bif Nat.beq pc 81 then some (.aload_n 0, 1, []) else none))))) else (bif Nat.blt pc 97 then (bif Nat.blt pc 89 then (bif Nat.blt pc 85 then (bif Nat.beq pc 82 then some (.getfield 26, 3, [3, 3, 1, 238]) else none) else (bif Nat.blt pc 86 then (bif Nat.beq pc 85 then some (.iload_n 2, 1, []) else none) else (bif Nat.beq pc 86 then some (.invokevirtual 143, 3, [0, 49, 1, 754, 2, 3, 1]) else none))) else (bif Nat.blt pc 93 then (bif Nat.blt pc 90 then (bif Nat.beq pc 89 then some (.istore_n 2, 1, []) else none) else (bif Nat.beq pc 90 then some (.iinc 3 1, 3, []) else none)) else (bif Nat.blt pc 96 then (bif Nat.beq pc 93 then some (.goto (-33), 3, [60]) else none) else (bif Nat.beq pc 96 then some (.aload_n 0, 1, []) else none)))) else (bif Nat.blt pc 107 then (bif Nat.blt pc 103 then (bif Nat.blt pc 100 then (bif Nat.beq pc 97 then some (.getfield 10, 3, [3, 0, 1, 235]) else none) else (bif Nat.beq pc 100 then some (.invokevirtual 106, 3, [0, 16, 0, 289, 1, 3, 0]) else none)) else (bif Nat.blt pc 104 then (bif Nat.beq pc 103 then some (.aload_n 0, 1, []) else none) else (bif Nat.beq pc 104 then some (.getfield 26, 3, [3, 3, 1, 238]) else none))) else (bif Nat.blt pc 111 then (bif Nat.blt pc 108 then (bif Nat.beq pc 107 then some (.iconst 0, 1, []) else none) else (bif Nat.beq pc 108 then some (.putfield 111, 3, [2, 1, 0, 228]) else none)) else (bif Nat.blt pc 112 then (bif Nat.beq pc 111 then some (.iload_n 1, 1, []) else none) else (bif Nat.beq pc 112 then some (.ireturn, 1, [0]) else none))))))
/-- X4_undo -/
def I_X4_undo (pc : Nat) : Option IE := bif Nat.blt pc 31 then (bif Nat.blt pc 16 then (bif Nat.blt pc 8 then (bif Nat.blt pc 4 then (bif Nat.blt pc 1 then (bif Nat.beq pc 0 then some (.aload_n 0, 1, []) else none) else (bif Nat.beq pc 1 then some (.getfield 146, 3, [3, 5, 0, 240]) else none)) else (bif Nat.blt pc 5 then (bif Nat.beq pc 4 then some (.iconst 1, 1, []) else none) else (bif Nat.beq pc 5 then some (.if_icmp .lt 15, 3, [20]) else none))) else (bif Nat.blt pc 12 then (bif Nat.blt pc 9 then (bif Nat.beq pc 8 then some (.aload_n 0, 1, []) else none) else (bif Nat.beq pc 9 then some (.getfield 146, 3, [3, 5, 0, 240]) else none)) else (bif Nat.blt pc 13 then (bif Nat.beq pc 12 then some (.aload_n 0, 1, []) else none) else (bif Nat.beq pc 13 then some (.getfield 19, 3, [3, 2, 1, 237]) else none)))) else (bif Nat.blt pc 24 then (bif Nat.blt pc 20 then (bif Nat.blt pc 17 then (bif Nat.beq pc 16 then some (.arraylength, 1, []) else none) else (bif Nat.beq pc 17 then some (.if_icmp .le 13, 3, [30]) else none)) else (bif Nat.blt pc 23 then (bif Nat.beq pc 20 then some (.new 77, 3, [9, 3, 671, 149, 81, 765]) else none) else (bif Nat.beq pc 23 then some (.dup, 1, []) else none))) else (bif Nat.blt pc 29 then (bif Nat.blt pc 26 then (bif Nat.beq pc 24 then some (.ldc 149, 2, []) else none) else (bif Nat.beq pc 26 then some (.invokespecial 81, 3, []) else none)) else (bif Nat.blt pc 30 then (bif Nat.beq pc 29 then some (.athrow, 1, []) else none) else (bif Nat.beq pc 30 then some (.aload_n 0, 1, []) else none))))) else (bif Nat.blt pc 45 then (bif Nat.blt pc 37 then (bif Nat.blt pc 35 then (bif Nat.blt pc 32 then (bif Nat.beq pc 31 then some (.dup, 1, []) else none) else (bif Nat.beq pc 32 then some (.getfield 146, 3, [3, 5, 0, 240]) else none)) else (bif Nat.blt pc 36 then (bif Nat.beq pc 35 then some (.iconst 1, 1, []) else none) else (bif Nat.beq pc 36 then some (.isub, 1, []) else none))) else (bif Nat.blt pc 41 then (bif Nat.blt pc 40 then (bif Nat.beq pc 37 then some (.putfield 146, 3, [3, 5, 0, 240]) else none) else (bif Nat.beq pc 40 then some (.aload_n 0, 1, []) else none)) else (bif Nat.blt pc 44 then (bif Nat.beq pc 41 then some (.getfield 10, 3, [3, 0, 1, 235]) else none) else (bif Nat.beq pc 44 then some (.aload_n 0, 1, []) else none)))) else (bif Nat.blt pc 53 then (bif Nat.blt pc 49 then (bif Nat.blt pc 48 then (bif Nat.beq pc 45 then some (.getfield 19, 3, [3, 2, 1, 237]) else none) else (bif Nat.beq pc 48 then some (.aload_n 0, 1, []) else none)) else (bif Nat.blt pc 52 then (bif Nat.beq pc 49 then some (.getfield 146, 3, [3, 5, 0, 240]) else none) else (bif Nat.beq pc 52 then some (.aaload, 1, []) else none))) else (bif Nat.blt pc 57 then (bif Nat.blt pc 56 then (bif Nat.beq pc 53 then some (.invokevirtual 151, 3, [0, 15, 1, 262, 1, 3, 0]) else none) else (bif Nat.beq pc 56 then some (.aload_n 0, 1, []) else none)) else (bif Nat.blt pc 60 then (bif Nat.beq pc 57 then some (.getfield 146, 3, [3, 5, 0, 240]) else none) else (bif Nat.beq pc 60 then some (.ireturn, 1, [0]) else none)))))
/-- X4_saveState -/
def I_X4_saveState (pc : Nat) : Option IE := bif Nat.blt pc 47 then (bif Nat.blt pc 22 then (bif Nat.blt pc 13 then (bif Nat.blt pc 5 then (bif Nat.blt pc 1 then (bif Nat.beq pc 0 then some (.aload_n 0, 1, []) else none) else (bif Nat.blt pc 4 then (bif Nat.beq pc 1 then some (.getfield 146, 3, [3, 5, 0, 240]) else none) else (bif Nat.beq pc 4 then some (.aload_n 0, 1, []) else none))) else (bif Nat.blt pc 9 then (bif Nat.blt pc 8 then (bif Nat.beq pc 5 then some (.getfield 19, 3, [3, 2, 1, 237]) else none) else (bif Nat.beq pc 8 then some (.arraylength, 1, []) else none)) else (bif Nat.blt pc 12 then (bif Nat.beq pc 9 then some (.if_icmp .lt 62, 3, [71]) else none) else (bif Nat.beq pc 12 then some (.aload_n 0, 1, []) else none)))) else (bif Nat.blt pc 18 then (bif Nat.blt pc 16 then (bif Nat.beq pc 13 then some (.getfield 19, 3, [3, 2, 1, 237]) else none) else (bif Nat.blt pc 17 then (bif Nat.beq pc 16 then some (.iconst 0, 1, []) else none) else (bif Nat.beq pc 17 then some (.aaload, 1, []) else none))) else (bif Nat.blt pc 20 then (bif Nat.blt pc 19 then (bif Nat.beq pc 18 then some (.astore_n 1, 1, []) else none) else (bif Nat.beq pc 19 then some (.iconst 1, 1, []) else none)) else (bif Nat.blt pc 21 then (bif Nat.beq pc 20 then some (.istore_n 2, 1, []) else none) else (bif Nat.beq pc 21 then some (.iload_n 2, 1, []) else none))))) else (bif Nat.blt pc 35 then (bif Nat.blt pc 27 then (bif Nat.blt pc 23 then (bif Nat.beq pc 22 then some (.aload_n 0, 1, []) else none) else (bif Nat.blt pc 26 then (bif Nat.beq pc 23 then some (.getfield 19, 3, [3, 2, 1, 237]) else none) else (bif Nat.beq pc 26 then some (.arraylength, 1, []) else none))) else (bif Nat.blt pc 31 then (bif Nat.blt pc 30 then (bif Nat.beq pc 27 then some (.if_icmp .ge 23, 3, [50]) else none) else (bif Nat.beq pc 30 then some (.aload_n 0, 1, []) else none)) else (bif Nat.blt pc 34 then (bif Nat.beq pc 31 then some (.getfield 19, 3, [3, 2, 1, 237]) else none) else (bif Nat.beq pc 34 then some (.iload_n 2, 1, []) else none)))) else (bif Nat.blt pc 41 then (bif Nat.blt pc 37 then (bif Nat.blt pc 36 then (bif Nat.beq pc 35 then some (.iconst 1, 1, []) else none) else (bif Nat.beq pc 36 then some (.isub, 1, []) else none)) else (bif Nat.blt pc 38 then (bif Nat.beq pc 37 then some (.aload_n 0, 1, []) else none) else (bif Nat.beq pc 38 then some (.getfield 19, 3, [3, 2, 1, 237]) else none))) else (bif Nat.blt pc 43 then (bif Nat.blt pc 42 then (bif Nat.beq pc 41 then some (.iload_n 2, 1, []) else none) else (bif Nat.beq pc 42 then some (.aaload, 1, []) else none)) else (bif Nat.blt pc 44 then (bif Nat.beq pc 43 then some (.aastore, 1, []) else none) else (bif Nat.beq pc 44 then some (.iinc 2 1, 3, []) else none)))))) else (bif Nat.blt pc 71 then (bif Nat.blt pc 58 then (bif Nat.blt pc 52 then (bif Nat.blt pc 50 then (bif Nat.beq pc 47 then some (.goto (-26), 3, [21]) else none) else (bif Nat.blt pc 51 then (bif Nat.beq pc 50 then some (.aload_n 0, 1, []) else none) else (bif Nat.beq pc 51 then some (.aload_n 0, 1, []) else none))) else (bif Nat.blt pc 56 then (bif Nat.blt pc 55 then (bif Nat.beq pc 52 then some (.getfield 19, 3, [3, 2, 1, 237]) else none) else (bif Nat.beq pc 55 then some (.arraylength, 1, []) else none)) else (bif Nat.blt pc 57 then (bif Nat.beq pc 56 then some (.iconst 1, 1, []) else none) else (bif Nat.beq pc 57 then some (.isub, 1, []) else none)))) else (bif Nat.blt pc 65 then (bif Nat.blt pc 61 then (bif Nat.beq pc 58 then some (.putfield 146, 3, [3, 5, 0, 240]) else none) else (bif Nat.blt pc 62 then (bif Nat.beq pc 61 then some (.aload_n 0, 1, []) else none) else (bif Nat.beq pc 62 then some (.getfield 19, 3, [3, 2, 1, 237]) else none))) else (bif Nat.blt pc 69 then (bif Nat.blt pc 66 then (bif Nat.beq pc 65 then some (.aload_n 0, 1, []) else none) else (bif Nat.beq pc 66 then some (.getfield 146, 3, [3, 5, 0, 240]) else none)) else (bif Nat.blt pc 70 then (bif Nat.beq pc 69 then some (.aload_n 1, 1, []) else none) else (bif Nat.beq pc 70 then some (.aastore, 1, []) else none))))) else (bif Nat.blt pc 84 then (bif Nat.blt pc 76 then (bif Nat.blt pc 72 then (bif Nat.beq pc 71 then some (.aload_n 0, 1, []) else none) else (bif Nat.blt pc 75 then (bif Nat.beq pc 72 then some (.getfield 19, 3, [3, 2, 1, 237]) else none) else (bif Nat.beq pc 75 then some (.aload_n 0, 1, []) else none))) else (bif Nat.blt pc 80 then (bif Nat.blt pc 79 then (bif Nat.beq pc 76 then some (.getfield 146, 3, [3, 5, 0, 240]) else none) else (bif Nat.beq pc 79 then some (.aaload, 1, []) else none)) else (bif Nat.blt pc 81 then (bif Nat.beq pc 80 then some (.aload_n 0, 1, []) else none) else (bif Nat.beq pc 81 then some (.getfield 10, 3, [3, 0, 1, 235]) else none)))) else (bif Nat.blt pc 92 then (bif Nat.blt pc 88 then (bif Nat.blt pc 87 then (bif Nat.beq pc 84 then some (.invokevirtual 151, 3, [0, 15, 1, 262, 1, 3, 0]) else none) else (bif Nat.beq pc 87 then some (.aload_n 0, 1, []) else none)) else (bif Nat.blt pc 89 then (bif Nat.beq pc 88 then some (.dup, 1, []) else none) else (bif Nat.beq pc 89 then some (.getfield 146, 3, [3, 5, 0, 240]) else none))) else (bif Nat.blt pc 94 then (bif Nat.blt pc 93 then (bif Nat.beq pc 92 then some (.iconst 1, 1, []) else none) else (bif Nat.beq pc 93 then some (.iadd, 1, []) else none)) else (bif Nat.blt pc 97 then (bif Nat.beq pc 94 then some (.putfield 146, 3, [3, 5, 0, 240]) else none) else (bif Nat.beq pc 97 then some (.return_, 1, []) else none))))))
/-- X4_instruction -/
def I_X4_instruction (pc : Nat) : Option IE := bif Nat.blt pc 14 then (bif Nat.blt pc 6 then (bif Nat.blt pc 2 then (bif Nat.blt pc 1 then (bif Nat.beq pc 0 then some (.aload_n 0, 1, []) else none) else (bif Nat.beq pc 1 then some (.iload_n 1, 1, []) else none)) else (bif Nat.blt pc 3 then (bif Nat.beq pc 2 then some (.aload_n 0, 1, []) else none) else (bif Nat.beq pc 3 then some (.getfield 10, 3, [3, 0, 1, 235]) else none))) else (bif Nat.blt pc 12 then (bif Nat.blt pc 9 then (bif Nat.beq pc 6 then some (.getfield 134, 3, [1, 6, 0, 175]) else none) else (bif Nat.beq pc 9 then some (.invokevirtual 34, 3, [0, 84, 2, 557, 3, 3, 0]) else none)) else (bif Nat.blt pc 13 then (bif Nat.beq pc 12 then some (.aload_n 0, 1, []) else none) else (bif Nat.beq pc 13 then some (.iload_n 2, 1, []) else none)))) else (bif Nat.blt pc 23 then (bif Nat.blt pc 19 then (bif Nat.blt pc 16 then (bif Nat.beq pc 14 then some (.bipush 7, 2, []) else none) else (bif Nat.beq pc 16 then some (.invokevirtual 155, 3, [0, 85, 2, 477, 3, 3, 0]) else none)) else (bif Nat.blt pc 20 then (bif Nat.beq pc 19 then some (.aload_n 0, 1, []) else none) else (bif Nat.beq pc 20 then some (.getfield 10, 3, [3, 0, 1, 235]) else none))) else (bif Nat.blt pc 27 then (bif Nat.blt pc 24 then (bif Nat.beq pc 23 then some (.iload_n 1, 1, []) else none) else (bif Nat.beq pc 24 then some (.invokevirtual 135, 3, [0, 17, 1, 458, 1, 2, 5]) else none)) else (bif Nat.blt pc 28 then (bif Nat.beq pc 27 then some (.iload_n 2, 1, []) else none) else (bif Nat.blt pc 31 then (bif Nat.beq pc 28 then some (.invokevirtual 158, 3, [0, 12, 1, 581, 0, 2, 1]) else none) else (bif Nat.beq pc 31 then some (.ireturn, 1, [0]) else none)))))
/-- X4_entry -/
def I_X4_entry (pc : Nat) : Option IE := bif Nat.blt pc 19 then (bif Nat.blt pc 9 then (bif Nat.blt pc 2 then (bif Nat.blt pc 1 then (bif Nat.beq pc 0 then some (.aload_n 0, 1, []) else none) else (bif Nat.beq pc 1 then some (.iload_n 1, 1, []) else none)) else (bif Nat.blt pc 3 then (bif Nat.beq pc 2 then some (.aload_n 0, 1, []) else none) else (bif Nat.blt pc 6 then (bif Nat.beq pc 3 then some (.getfield 10, 3, [3, 0, 1, 235]) else none) else (bif Nat.beq pc 6 then some (.invokevirtual 73, 3, [0, 21, 0, 281, 1, 1, 1]) else none)))) else (bif Nat.blt pc 13 then (bif Nat.blt pc 12 then (bif Nat.beq pc 9 then some (.invokevirtual 34, 3, [0, 84, 2, 557, 3, 3, 0]) else none) else (bif Nat.beq pc 12 then some (.aload_n 0, 1, []) else none)) else (bif Nat.blt pc 14 then (bif Nat.beq pc 13 then some (.iload_n 2, 1, []) else none) else (bif Nat.blt pc 16 then (bif Nat.beq pc 14 then some (.bipush 9, 2, []) else none) else (bif Nat.beq pc 16 then some (.invokevirtual 155, 3, [0, 85, 2, 477, 3, 3, 0]) else none))))) else (bif Nat.blt pc 30 then (bif Nat.blt pc 23 then (bif Nat.blt pc 20 then (bif Nat.beq pc 19 then some (.aload_n 0, 1, []) else none) else (bif Nat.beq pc 20 then some (.getfield 10, 3, [3, 0, 1, 235]) else none)) else (bif Nat.blt pc 24 then (bif Nat.beq pc 23 then some (.aload_n 0, 1, []) else none) else (bif Nat.blt pc 27 then (bif Nat.beq pc 24 then some (.getfield 10, 3, [3, 0, 1, 235]) else none) else (bif Nat.beq pc 27 then some (.getfield 100, 3, [1, 8, 0, 179]) else none)))) else (bif Nat.blt pc 32 then (bif Nat.blt pc 31 then (bif Nat.beq pc 30 then some (.iload_n 1, 1, []) else none) else (bif Nat.beq pc 31 then some (.iadd, 1, []) else none)) else (bif Nat.blt pc 33 then (bif Nat.beq pc 32 then some (.iload_n 2, 1, []) else none) else (bif Nat.blt pc 36 then (bif Nat.beq pc 33 then some (.invokevirtual 163, 3, [0, 24, 2, 585, 1, 5, 1]) else none) else (bif Nat.beq pc 36 then some (.ireturn, 1, [0]) else none)))))
/-- X4_whyNot -/
def I_X4_whyNot (pc : Nat) : Option IE := bif Nat.blt pc 13 then (bif Nat.blt pc 3 then (bif Nat.blt pc 1 then (bif Nat.beq pc 0 then some (.aload_n 0, 1, []) else none) else (bif Nat.blt pc 2 then (bif Nat.beq pc 1 then some (.iload_n 1, 1, []) else none) else (bif Nat.beq pc 2 then some (.aload_n 0, 1, []) else none))) else (bif Nat.blt pc 9 then (bif Nat.blt pc 6 then (bif Nat.beq pc 3 then some (.getfield 10, 3, [3, 0, 1, 235]) else none) else (bif Nat.beq pc 6 then some (.invokevirtual 73, 3, [0, 21, 0, 281, 1, 1, 1]) else none)) else (bif Nat.blt pc 12 then (bif Nat.beq pc 9 then some (.invokevirtual 34, 3, [0, 84, 2, 557, 3, 3, 0]) else none) else (bif Nat.beq pc 12 then some (.aload_n 0, 1, []) else none)))) else (bif Nat.blt pc 23 then (bif Nat.blt pc 17 then (bif Nat.blt pc 16 then (bif Nat.beq pc 13 then some (.getfield 10, 3, [3, 0, 1, 235]) else none) else (bif Nat.beq pc 16 then some (.aload_n 0, 1, []) else none)) else (bif Nat.blt pc 20 then (bif Nat.beq pc 17 then some (.getfield 10, 3, [3, 0, 1, 235]) else none) else (bif Nat.beq pc 20 then some (.getfield 100, 3, [1, 8, 0, 179]) else none))) else (bif Nat.blt pc 25 then (bif Nat.blt pc 24 then (bif Nat.beq pc 23 then some (.iload_n 1, 1, []) else none) else (bif Nat.beq pc 24 then some (.iadd, 1, []) else none)) else (bif Nat.blt pc 28 then (bif Nat.beq pc 25 then some (.invokevirtual 167, 3, [0, 25, 1, 787, 1, 3, 1]) else none) else (bif Nat.beq pc 28 then some (.ireturn, 1, [0]) else none))))
/-- X4_register -/
def I_X4_register (pc : Nat) : Option IE := bif Nat.blt pc 14 then (bif Nat.blt pc 7 then (bif Nat.blt pc 2 then (bif Nat.blt pc 1 then (bif Nat.beq pc 0 then some (.aload_n 0, 1, []) else none) else (bif Nat.beq pc 1 then some (.iload_n 1, 1, []) else none)) else (bif Nat.blt pc 4 then (bif Nat.beq pc 2 then some (.bipush 8, 2, []) else none) else (bif Nat.beq pc 4 then some (.invokevirtual 34, 3, [0, 84, 2, 557, 3, 3, 0]) else none))) else (bif Nat.blt pc 9 then (bif Nat.blt pc 8 then (bif Nat.beq pc 7 then some (.aload_n 0, 1, []) else none) else (bif Nat.beq pc 8 then some (.iload_n 2, 1, []) else none)) else (bif Nat.blt pc 10 then (bif Nat.beq pc 9 then some (.iconst 3, 1, []) else none) else (bif Nat.blt pc 13 then (bif Nat.beq pc 10 then some (.invokevirtual 155, 3, [0, 85, 2, 477, 3, 3, 0]) else none) else (bif Nat.beq pc 13 then some (.iload_n 2, 1, []) else none))))) else (bif Nat.blt pc 22 then (bif Nat.blt pc 18 then (bif Nat.blt pc 15 then (bif Nat.beq pc 14 then some (.iconst 2, 1, []) else none) else (bif Nat.beq pc 15 then some (.if_icmp .ne 7, 3, [22]) else none)) else (bif Nat.blt pc 19 then (bif Nat.beq pc 18 then some (.aload_n 0, 1, []) else none) else (bif Nat.beq pc 19 then some (.invokevirtual 170, 3, [0, 97, 0, 589, 3, 1, 0]) else none))) else (bif Nat.blt pc 24 then (bif Nat.blt pc 23 then (bif Nat.beq pc 22 then some (.aload_n 0, 1, []) else none) else (bif Nat.beq pc 23 then some (.iload_n 1, 1, []) else none)) else (bif Nat.blt pc 25 then (bif Nat.beq pc 24 then some (.iload_n 2, 1, []) else none) else (bif Nat.blt pc 28 then (bif Nat.beq pc 25 then some (.invokevirtual 173, 3, [0, 86, 2, 601, 3, 3, 1]) else none) else (bif Nat.beq pc 28 then some (.ireturn, 1, [0]) else none)))))
/-- X4_cell -/
def I_X4_cell (pc : Nat) : Option IE := bif Nat.blt pc 14 then (bif Nat.blt pc 7 then (bif Nat.blt pc 2 then (bif Nat.blt pc 1 then (bif Nat.beq pc 0 then some (.aload_n 0, 1, []) else none) else (bif Nat.beq pc 1 then some (.iload_n 1, 1, []) else none)) else (bif Nat.blt pc 4 then (bif Nat.beq pc 2 then some (.bipush 16, 2, []) else none) else (bif Nat.beq pc 4 then some (.invokevirtual 34, 3, [0, 84, 2, 557, 3, 3, 0]) else none))) else (bif Nat.blt pc 9 then (bif Nat.blt pc 8 then (bif Nat.beq pc 7 then some (.aload_n 0, 1, []) else none) else (bif Nat.beq pc 8 then some (.iload_n 2, 1, []) else none)) else (bif Nat.blt pc 10 then (bif Nat.beq pc 9 then some (.iconst 2, 1, []) else none) else (bif Nat.blt pc 13 then (bif Nat.beq pc 10 then some (.invokevirtual 155, 3, [0, 85, 2, 477, 3, 3, 0]) else none) else (bif Nat.beq pc 13 then some (.iload_n 2, 1, []) else none))))) else (bif Nat.blt pc 22 then (bif Nat.blt pc 18 then (bif Nat.blt pc 15 then (bif Nat.beq pc 14 then some (.iconst 1, 1, []) else none) else (bif Nat.beq pc 15 then some (.if_icmp .ne 7, 3, [22]) else none)) else (bif Nat.blt pc 19 then (bif Nat.beq pc 18 then some (.aload_n 0, 1, []) else none) else (bif Nat.beq pc 19 then some (.invokevirtual 170, 3, [0, 97, 0, 589, 3, 1, 0]) else none))) else (bif Nat.blt pc 24 then (bif Nat.blt pc 23 then (bif Nat.beq pc 22 then some (.aload_n 0, 1, []) else none) else (bif Nat.beq pc 23 then some (.iload_n 1, 1, []) else none)) else (bif Nat.blt pc 25 then (bif Nat.beq pc 24 then some (.iload_n 2, 1, []) else none) else (bif Nat.blt pc 28 then (bif Nat.beq pc 25 then some (.invokevirtual 176, 3, [0, 87, 2, 607, 3, 3, 1]) else none) else (bif Nat.beq pc 28 then some (.ireturn, 1, [0]) else none)))))
/-- X4_count -/
def I_X4_count (pc : Nat) : Option IE := bif Nat.blt pc 13 then (bif Nat.blt pc 4 then (bif Nat.blt pc 1 then (bif Nat.beq pc 0 then some (.aload_n 0, 1, []) else none) else (bif Nat.blt pc 2 then (bif Nat.beq pc 1 then some (.iload_n 1, 1, []) else none) else (bif Nat.beq pc 2 then some (.bipush 12, 2, []) else none))) else (bif Nat.blt pc 8 then (bif Nat.blt pc 7 then (bif Nat.beq pc 4 then some (.invokevirtual 155, 3, [0, 85, 2, 477, 3, 3, 0]) else none) else (bif Nat.beq pc 7 then some (.iload_n 1, 1, []) else none)) else (bif Nat.blt pc 10 then (bif Nat.beq pc 8 then some (.bipush 11, 2, []) else none) else (bif Nat.beq pc 10 then some (.if_icmp .ne 10, 3, [20]) else none)))) else (bif Nat.blt pc 21 then (bif Nat.blt pc 17 then (bif Nat.blt pc 14 then (bif Nat.beq pc 13 then some (.aload_n 0, 1, []) else none) else (bif Nat.beq pc 14 then some (.getfield 146, 3, [3, 5, 0, 240]) else none)) else (bif Nat.blt pc 20 then (bif Nat.beq pc 17 then some (.goto 11, 3, [28]) else none) else (bif Nat.beq pc 20 then some (.aload_n 0, 1, []) else none))) else (bif Nat.blt pc 25 then (bif Nat.blt pc 24 then (bif Nat.beq pc 21 then some (.getfield 10, 3, [3, 0, 1, 235]) else none) else (bif Nat.beq pc 24 then some (.iload_n 1, 1, []) else none)) else (bif Nat.blt pc 28 then (bif Nat.beq pc 25 then some (.invokevirtual 179, 3, [0, 23, 1, 549, 1, 2, 1]) else none) else (bif Nat.beq pc 28 then some (.ireturn, 1, [0]) else none))))
/-- X4_setting -/
def I_X4_setting (pc : Nat) : Option IE := bif Nat.blt pc 7 then (bif Nat.blt pc 2 then (bif Nat.blt pc 1 then (bif Nat.beq pc 0 then some (.aload_n 0, 1, []) else none) else (bif Nat.beq pc 1 then some (.iload_n 1, 1, []) else none)) else (bif Nat.blt pc 3 then (bif Nat.beq pc 2 then some (.iconst 3, 1, []) else none) else (bif Nat.blt pc 6 then (bif Nat.beq pc 3 then some (.invokevirtual 34, 3, [0, 84, 2, 557, 3, 3, 0]) else none) else (bif Nat.beq pc 6 then some (.aload_n 0, 1, []) else none)))) else (bif Nat.blt pc 13 then (bif Nat.blt pc 10 then (bif Nat.beq pc 7 then some (.getfield 10, 3, [3, 0, 1, 235]) else none) else (bif Nat.beq pc 10 then some (.getfield 52, 3, [1, 4, 1, 171]) else none)) else (bif Nat.blt pc 14 then (bif Nat.beq pc 13 then some (.iload_n 1, 1, []) else none) else (bif Nat.blt pc 15 then (bif Nat.beq pc 14 then some (.iaload, 1, []) else none) else (bif Nat.beq pc 15 then some (.ireturn, 1, [0]) else none))))
/-- X4_checkPlace -/
def I_X4_checkPlace (pc : Nat) : Option IE := bif Nat.blt pc 9 then (bif Nat.blt pc 4 then (bif Nat.blt pc 1 then (bif Nat.beq pc 0 then some (.iload_n 1, 1, []) else none) else (bif Nat.beq pc 1 then some (.ifCond .lt 8, 3, [9]) else none)) else (bif Nat.blt pc 5 then (bif Nat.beq pc 4 then some (.iload_n 1, 1, []) else none) else (bif Nat.blt pc 6 then (bif Nat.beq pc 5 then some (.iload_n 2, 1, []) else none) else (bif Nat.beq pc 6 then some (.if_icmp .lt 13, 3, [19]) else none)))) else (bif Nat.blt pc 15 then (bif Nat.blt pc 12 then (bif Nat.beq pc 9 then some (.new 182, 3, [9, 1, 561, 184, 186, 570]) else none) else (bif Nat.blt pc 13 then (bif Nat.beq pc 12 then some (.dup, 1, []) else none) else (bif Nat.beq pc 13 then some (.ldc 184, 2, []) else none))) else (bif Nat.blt pc 18 then (bif Nat.beq pc 15 then some (.invokespecial 186, 3, []) else none) else (bif Nat.blt pc 19 then (bif Nat.beq pc 18 then some (.athrow, 1, []) else none) else (bif Nat.beq pc 19 then some (.return_, 1, []) else none))))
/-- X4_checkWhat -/
def I_X4_checkWhat (pc : Nat) : Option IE := bif Nat.blt pc 9 then (bif Nat.blt pc 4 then (bif Nat.blt pc 1 then (bif Nat.beq pc 0 then some (.iload_n 1, 1, []) else none) else (bif Nat.beq pc 1 then some (.ifCond .lt 8, 3, [9]) else none)) else (bif Nat.blt pc 5 then (bif Nat.beq pc 4 then some (.iload_n 1, 1, []) else none) else (bif Nat.blt pc 6 then (bif Nat.beq pc 5 then some (.iload_n 2, 1, []) else none) else (bif Nat.beq pc 6 then some (.if_icmp .lt 13, 3, [19]) else none)))) else (bif Nat.blt pc 15 then (bif Nat.blt pc 12 then (bif Nat.beq pc 9 then some (.new 42, 3, [9, 2, 481, 187, 46, 522]) else none) else (bif Nat.blt pc 13 then (bif Nat.beq pc 12 then some (.dup, 1, []) else none) else (bif Nat.beq pc 13 then some (.ldc 187, 2, []) else none))) else (bif Nat.blt pc 18 then (bif Nat.beq pc 15 then some (.invokespecial 46, 3, []) else none) else (bif Nat.blt pc 19 then (bif Nat.beq pc 18 then some (.athrow, 1, []) else none) else (bif Nat.beq pc 19 then some (.return_, 1, []) else none))))
/-- X4_registerFact -/
def I_X4_registerFact (pc : Nat) : Option IE := bif Nat.blt pc 42 then (bif Nat.blt pc 33 then (bif Nat.blt pc 28 then (bif Nat.blt pc 1 then (bif Nat.beq pc 0 then some (.iload_n 2, 1, []) else none) else (bif Nat.beq pc 1 then some (.lookupswitch 52 #[(0, 27), (1, 36)], 27, [53, 0, 28, 1, 37]) else none)) else (bif Nat.blt pc 29 then (bif Nat.beq pc 28 then some (.aload_n 0, 1, []) else none) else (bif Nat.blt pc 32 then (bif Nat.beq pc 29 then some (.getfield 10, 3, [3, 0, 1, 235]) else none) else (bif Nat.beq pc 32 then some (.iload_n 1, 1, []) else none)))) else (bif Nat.blt pc 37 then (bif Nat.blt pc 36 then (bif Nat.beq pc 33 then some (.invokevirtual 189, 3, [0, 18, 1, 605, 1, 2, 1]) else none) else (bif Nat.beq pc 36 then some (.ireturn, 1, [0]) else none)) else (bif Nat.blt pc 38 then (bif Nat.beq pc 37 then some (.aload_n 0, 1, []) else none) else (bif Nat.blt pc 41 then (bif Nat.beq pc 38 then some (.getfield 10, 3, [3, 0, 1, 235]) else none) else (bif Nat.beq pc 41 then some (.iload_n 1, 1, []) else none))))) else (bif Nat.blt pc 53 then (bif Nat.blt pc 46 then (bif Nat.blt pc 43 then (bif Nat.beq pc 42 then some (.aload_n 0, 1, []) else none) else (bif Nat.beq pc 43 then some (.getfield 10, 3, [3, 0, 1, 235]) else none)) else (bif Nat.blt pc 49 then (bif Nat.beq pc 46 then some (.getfield 103, 3, [1, 7, 0, 177]) else none) else (bif Nat.blt pc 52 then (bif Nat.beq pc 49 then some (.invokevirtual 192, 3, [0, 28, 2, 606, 1, 4, 1]) else none) else (bif Nat.beq pc 52 then some (.ireturn, 1, [0]) else none)))) else (bif Nat.blt pc 57 then (bif Nat.blt pc 54 then (bif Nat.beq pc 53 then some (.aload_n 0, 1, []) else none) else (bif Nat.beq pc 54 then some (.getfield 16, 3, [3, 1, 1, 236]) else none)) else (bif Nat.blt pc 58 then (bif Nat.beq pc 57 then some (.iload_n 1, 1, []) else none) else (bif Nat.blt pc 61 then (bif Nat.beq pc 58 then some (.invokevirtual 189, 3, [0, 18, 1, 605, 1, 2, 1]) else none) else (bif Nat.beq pc 61 then some (.ireturn, 1, [0]) else none)))))
/-- X4_cellFact -/
def I_X4_cellFact (pc : Nat) : Option IE := bif Nat.blt pc 12 then (bif Nat.blt pc 5 then (bif Nat.blt pc 1 then (bif Nat.beq pc 0 then some (.iload_n 2, 1, []) else none) else (bif Nat.blt pc 4 then (bif Nat.beq pc 1 then some (.ifCond .ne 14, 3, [15]) else none) else (bif Nat.beq pc 4 then some (.aload_n 0, 1, []) else none))) else (bif Nat.blt pc 8 then (bif Nat.beq pc 5 then some (.getfield 10, 3, [3, 0, 1, 235]) else none) else (bif Nat.blt pc 9 then (bif Nat.beq pc 8 then some (.iload_n 1, 1, []) else none) else (bif Nat.beq pc 9 then some (.invokevirtual 195, 3, [0, 19, 1, 611, 1, 2, 1]) else none)))) else (bif Nat.blt pc 19 then (bif Nat.blt pc 15 then (bif Nat.beq pc 12 then some (.goto 11, 3, [23]) else none) else (bif Nat.blt pc 16 then (bif Nat.beq pc 15 then some (.aload_n 0, 1, []) else none) else (bif Nat.beq pc 16 then some (.getfield 16, 3, [3, 1, 1, 236]) else none))) else (bif Nat.blt pc 20 then (bif Nat.beq pc 19 then some (.iload_n 1, 1, []) else none) else (bif Nat.blt pc 23 then (bif Nat.beq pc 20 then some (.invokevirtual 195, 3, [0, 19, 1, 611, 1, 2, 1]) else none) else (bif Nat.beq pc 23 then some (.ireturn, 1, [0]) else none))))
/-- X4_ifRun -/
def I_X4_ifRun (pc : Nat) : Option IE := bif Nat.blt pc 11 then (bif Nat.blt pc 5 then (bif Nat.blt pc 1 then (bif Nat.beq pc 0 then some (.aload_n 0, 1, []) else none) else (bif Nat.blt pc 2 then (bif Nat.beq pc 1 then some (.iload_n 1, 1, []) else none) else (bif Nat.beq pc 2 then some (.invokevirtual 82, 3, [0, 68, 1, 701, 3, 2, 0]) else none))) else (bif Nat.blt pc 7 then (bif Nat.blt pc 6 then (bif Nat.beq pc 5 then some (.aload_n 0, 1, []) else none) else (bif Nat.beq pc 6 then some (.iload_n 2, 1, []) else none)) else (bif Nat.blt pc 8 then (bif Nat.beq pc 7 then some (.iconst 3, 1, []) else none) else (bif Nat.beq pc 8 then some (.invokevirtual 155, 3, [0, 85, 2, 477, 3, 3, 0]) else none)))) else (bif Nat.blt pc 16 then (bif Nat.blt pc 12 then (bif Nat.beq pc 11 then some (.aload_n 0, 1, []) else none) else (bif Nat.blt pc 13 then (bif Nat.beq pc 12 then some (.iload_n 1, 1, []) else none) else (bif Nat.beq pc 13 then some (.invokevirtual 198, 3, [0, 98, 1, 612, 3, 2, 0]) else none))) else (bif Nat.blt pc 18 then (bif Nat.blt pc 17 then (bif Nat.beq pc 16 then some (.aload_n 0, 1, []) else none) else (bif Nat.beq pc 17 then some (.iload_n 2, 1, []) else none)) else (bif Nat.blt pc 21 then (bif Nat.beq pc 18 then some (.invokevirtual 201, 3, [0, 99, 1, 620, 3, 2, 1]) else none) else (bif Nat.beq pc 21 then some (.ireturn, 1, [0]) else none))))
/-- X4_cyclesLeft -/
def I_X4_cyclesLeft (pc : Nat) : Option IE := bif Nat.blt pc 11 then (bif Nat.blt pc 4 then (bif Nat.blt pc 1 then (bif Nat.beq pc 0 then some (.aload_n 0, 1, []) else none) else (bif Nat.beq pc 1 then some (.getfield 16, 3, [3, 1, 1, 236]) else none)) else (bif Nat.blt pc 5 then (bif Nat.beq pc 4 then some (.aload_n 0, 1, []) else none) else (bif Nat.blt pc 8 then (bif Nat.beq pc 5 then some (.getfield 10, 3, [3, 0, 1, 235]) else none) else (bif Nat.beq pc 8 then some (.invokevirtual 151, 3, [0, 15, 1, 262, 1, 3, 0]) else none)))) else (bif Nat.blt pc 15 then (bif Nat.blt pc 12 then (bif Nat.beq pc 11 then some (.aload_n 0, 1, []) else none) else (bif Nat.beq pc 12 then some (.getfield 16, 3, [3, 1, 1, 236]) else none)) else (bif Nat.blt pc 17 then (bif Nat.beq pc 15 then some (.ldc 204, 2, [0, 1000000, 334]) else none) else (bif Nat.blt pc 20 then (bif Nat.beq pc 17 then some (.invokevirtual 205, 3, [0, 31, 1, 335, 1, 3, 1]) else none) else (bif Nat.beq pc 20 then some (.ireturn, 1, [0]) else none))))
/-- X4_bestWindow -/
def I_X4_bestWindow (pc : Nat) : Option IE := bif Nat.blt pc 7 then (bif Nat.blt pc 2 then (bif Nat.blt pc 1 then (bif Nat.beq pc 0 then some (.aload_n 0, 1, []) else none) else (bif Nat.beq pc 1 then some (.iload_n 1, 1, []) else none)) else (bif Nat.blt pc 3 then (bif Nat.beq pc 2 then some (.iconst 3, 1, []) else none) else (bif Nat.blt pc 6 then (bif Nat.beq pc 3 then some (.invokevirtual 155, 3, [0, 85, 2, 477, 3, 3, 0]) else none) else (bif Nat.beq pc 6 then some (.aload_n 0, 1, []) else none)))) else (bif Nat.blt pc 14 then (bif Nat.blt pc 10 then (bif Nat.beq pc 7 then some (.invokevirtual 208, 3, [0, 100, 0, 625, 3, 4, 0]) else none) else (bif Nat.blt pc 11 then (bif Nat.beq pc 10 then some (.aload_n 0, 1, []) else none) else (bif Nat.beq pc 11 then some (.getfield 30, 3, [3, 4, 1, 239]) else none))) else (bif Nat.blt pc 15 then (bif Nat.beq pc 14 then some (.iload_n 1, 1, []) else none) else (bif Nat.blt pc 16 then (bif Nat.beq pc 15 then some (.iaload, 1, []) else none) else (bif Nat.beq pc 16 then some (.ireturn, 1, [0]) else none))))
/-- X4_worstLoad -/
def I_X4_worstLoad (pc : Nat) : Option IE := bif Nat.blt pc 22 then (bif Nat.blt pc 7 then (bif Nat.blt pc 3 then (bif Nat.blt pc 1 then (bif Nat.beq pc 0 then some (.iconst (-1), 1, []) else none) else (bif Nat.blt pc 2 then (bif Nat.beq pc 1 then some (.istore_n 1, 1, []) else none) else (bif Nat.beq pc 2 then some (.iconst 0, 1, []) else none))) else (bif Nat.blt pc 5 then (bif Nat.blt pc 4 then (bif Nat.beq pc 3 then some (.istore_n 2, 1, []) else none) else (bif Nat.beq pc 4 then some (.iconst 0, 1, []) else none)) else (bif Nat.blt pc 6 then (bif Nat.beq pc 5 then some (.istore_n 3, 1, []) else none) else (bif Nat.beq pc 6 then some (.iload_n 3, 1, []) else none)))) else (bif Nat.blt pc 14 then (bif Nat.blt pc 8 then (bif Nat.beq pc 7 then some (.aload_n 0, 1, []) else none) else (bif Nat.blt pc 11 then (bif Nat.beq pc 8 then some (.getfield 10, 3, [3, 0, 1, 235]) else none) else (bif Nat.beq pc 11 then some (.getfield 134, 3, [1, 6, 0, 175]) else none))) else (bif Nat.blt pc 18 then (bif Nat.blt pc 17 then (bif Nat.beq pc 14 then some (.if_icmp .ge 33, 3, [47]) else none) else (bif Nat.beq pc 17 then some (.aload_n 0, 1, []) else none)) else (bif Nat.blt pc 21 then (bif Nat.beq pc 18 then some (.getfield 10, 3, [3, 0, 1, 235]) else none) else (bif Nat.beq pc 21 then some (.iload_n 3, 1, []) else none))))) else (bif Nat.blt pc 38 then (bif Nat.blt pc 30 then (bif Nat.blt pc 25 then (bif Nat.beq pc 22 then some (.invokevirtual 135, 3, [0, 17, 1, 458, 1, 2, 5]) else none) else (bif Nat.blt pc 28 then (bif Nat.beq pc 25 then some (.getfield 211, 3, [0, 6, 0, 120]) else none) else (bif Nat.beq pc 28 then some (.istore 4, 2, []) else none))) else (bif Nat.blt pc 33 then (bif Nat.blt pc 32 then (bif Nat.beq pc 30 then some (.iload 4, 2, []) else none) else (bif Nat.beq pc 32 then some (.iload_n 2, 1, []) else none)) else (bif Nat.blt pc 36 then (bif Nat.beq pc 33 then some (.if_icmp .le 8, 3, [41]) else none) else (bif Nat.beq pc 36 then some (.iload 4, 2, []) else none)))) else (bif Nat.blt pc 41 then (bif Nat.blt pc 39 then (bif Nat.beq pc 38 then some (.istore_n 2, 1, []) else none) else (bif Nat.blt pc 40 then (bif Nat.beq pc 39 then some (.iload_n 3, 1, []) else none) else (bif Nat.beq pc 40 then some (.istore_n 1, 1, []) else none))) else (bif Nat.blt pc 47 then (bif Nat.blt pc 44 then (bif Nat.beq pc 41 then some (.iinc 3 1, 3, []) else none) else (bif Nat.beq pc 44 then some (.goto (-38), 3, [6]) else none)) else (bif Nat.blt pc 48 then (bif Nat.beq pc 47 then some (.iload_n 1, 1, []) else none) else (bif Nat.beq pc 48 then some (.ireturn, 1, [0]) else none)))))
/-- X4_earlyShare -/
def I_X4_earlyShare (pc : Nat) : Option IE := bif Nat.blt pc 18 then (bif Nat.blt pc 10 then (bif Nat.blt pc 4 then (bif Nat.blt pc 1 then (bif Nat.beq pc 0 then some (.aload_n 0, 1, []) else none) else (bif Nat.beq pc 1 then some (.getfield 10, 3, [3, 0, 1, 235]) else none)) else (bif Nat.blt pc 7 then (bif Nat.beq pc 4 then some (.getfield 214, 3, [1, 12, 0, 186]) else none) else (bif Nat.beq pc 7 then some (.ifCond .le 23, 3, [30]) else none))) else (bif Nat.blt pc 14 then (bif Nat.blt pc 11 then (bif Nat.beq pc 10 then some (.aload_n 0, 1, []) else none) else (bif Nat.beq pc 11 then some (.getfield 10, 3, [3, 0, 1, 235]) else none)) else (bif Nat.blt pc 17 then (bif Nat.beq pc 14 then some (.getfield 217, 3, [1, 13, 0, 188]) else none) else (bif Nat.beq pc 17 then some (.i2d, 1, []) else none)))) else (bif Nat.blt pc 26 then (bif Nat.blt pc 22 then (bif Nat.blt pc 19 then (bif Nat.beq pc 18 then some (.aload_n 0, 1, []) else none) else (bif Nat.beq pc 19 then some (.getfield 10, 3, [3, 0, 1, 235]) else none)) else (bif Nat.blt pc 25 then (bif Nat.beq pc 22 then some (.getfield 214, 3, [1, 12, 0, 186]) else none) else (bif Nat.beq pc 25 then some (.i2d, 1, []) else none))) else (bif Nat.blt pc 30 then (bif Nat.blt pc 27 then (bif Nat.beq pc 26 then some (.ddiv, 1, []) else none) else (bif Nat.beq pc 27 then some (.goto 4, 3, [31]) else none)) else (bif Nat.blt pc 31 then (bif Nat.beq pc 30 then some (.dconst 0, 1, []) else none) else (bif Nat.beq pc 31 then some (.dreturn, 1, []) else none))))
/-- X4_digest -/
def I_X4_digest (pc : Nat) : Option IE := bif Nat.blt pc 68 then (bif Nat.blt pc 33 then (bif Nat.blt pc 18 then (bif Nat.blt pc 9 then (bif Nat.blt pc 4 then (bif Nat.blt pc 1 then (bif Nat.beq pc 0 then some (.aload_n 0, 1, []) else none) else (bif Nat.beq pc 1 then some (.ldc2_w 220, 3, [2, 2371, 467]) else none)) else (bif Nat.blt pc 7 then (bif Nat.beq pc 4 then some (.invokevirtual 222, 3, [0, 94, 1, 468, 3, 6, 2]) else none) else (bif Nat.blt pc 8 then (bif Nat.beq pc 7 then some (.lstore_n 1, 1, []) else none) else (bif Nat.beq pc 8 then some (.aload_n 0, 1, []) else none)))) else (bif Nat.blt pc 13 then (bif Nat.blt pc 10 then (bif Nat.beq pc 9 then some (.lload_n 1, 1, []) else none) else (bif Nat.beq pc 10 then some (.invokevirtual 226, 3, [0, 95, 1, 577, 3, 7, 2]) else none)) else (bif Nat.blt pc 14 then (bif Nat.beq pc 13 then some (.lstore_n 1, 1, []) else none) else (bif Nat.blt pc 15 then (bif Nat.beq pc 14 then some (.aload_n 0, 1, []) else none) else (bif Nat.beq pc 15 then some (.invokevirtual 170, 3, [0, 97, 0, 589, 3, 1, 0]) else none))))) else (bif Nat.blt pc 25 then (bif Nat.blt pc 20 then (bif Nat.blt pc 19 then (bif Nat.beq pc 18 then some (.aload_n 0, 1, []) else none) else (bif Nat.beq pc 19 then some (.lload_n 1, 1, []) else none)) else (bif Nat.blt pc 23 then (bif Nat.beq pc 20 then some (.invokevirtual 229, 3, [0, 96, 1, 597, 3, 7, 2]) else none) else (bif Nat.blt pc 24 then (bif Nat.beq pc 23 then some (.lstore_n 1, 1, []) else none) else (bif Nat.beq pc 24 then some (.aload_n 0, 1, []) else none)))) else (bif Nat.blt pc 30 then (bif Nat.blt pc 27 then (bif Nat.beq pc 25 then some (.bipush 10, 2, []) else none) else (bif Nat.beq pc 27 then some (.invokevirtual 198, 3, [0, 98, 1, 612, 3, 2, 0]) else none)) else (bif Nat.blt pc 31 then (bif Nat.beq pc 30 then some (.iconst 0, 1, []) else none) else (bif Nat.blt pc 32 then (bif Nat.beq pc 31 then some (.istore_n 3, 1, []) else none) else (bif Nat.beq pc 32 then some (.iload_n 3, 1, []) else none)))))) else (bif Nat.blt pc 49 then (bif Nat.blt pc 42 then (bif Nat.blt pc 37 then (bif Nat.blt pc 34 then (bif Nat.beq pc 33 then some (.iconst 3, 1, []) else none) else (bif Nat.beq pc 34 then some (.if_icmp .ge 22, 3, [56]) else none)) else (bif Nat.blt pc 40 then (bif Nat.beq pc 37 then some (.ldc2_w 232, 3, [2, 31, 472]) else none) else (bif Nat.blt pc 41 then (bif Nat.beq pc 40 then some (.lload_n 1, 1, []) else none) else (bif Nat.beq pc 41 then some (.lmul, 1, []) else none)))) else (bif Nat.blt pc 44 then (bif Nat.blt pc 43 then (bif Nat.beq pc 42 then some (.aload_n 0, 1, []) else none) else (bif Nat.beq pc 43 then some (.iload_n 3, 1, []) else none)) else (bif Nat.blt pc 47 then (bif Nat.beq pc 44 then some (.invokevirtual 201, 3, [0, 99, 1, 620, 3, 2, 1]) else none) else (bif Nat.blt pc 48 then (bif Nat.beq pc 47 then some (.i2l, 1, []) else none) else (bif Nat.beq pc 48 then some (.ladd, 1, []) else none))))) else (bif Nat.blt pc 60 then (bif Nat.blt pc 53 then (bif Nat.blt pc 50 then (bif Nat.beq pc 49 then some (.lstore_n 1, 1, []) else none) else (bif Nat.beq pc 50 then some (.iinc 3 1, 3, []) else none)) else (bif Nat.blt pc 56 then (bif Nat.beq pc 53 then some (.goto (-21), 3, [32]) else none) else (bif Nat.blt pc 59 then (bif Nat.beq pc 56 then some (.ldc2_w 232, 3, [2, 31, 472]) else none) else (bif Nat.beq pc 59 then some (.lload_n 1, 1, []) else none)))) else (bif Nat.blt pc 65 then (bif Nat.blt pc 61 then (bif Nat.beq pc 60 then some (.lmul, 1, []) else none) else (bif Nat.blt pc 62 then (bif Nat.beq pc 61 then some (.aload_n 0, 1, []) else none) else (bif Nat.beq pc 62 then some (.invokevirtual 234, 3, [0, 89, 0, 624, 3, 1, 1]) else none))) else (bif Nat.blt pc 66 then (bif Nat.beq pc 65 then some (.i2l, 1, []) else none) else (bif Nat.blt pc 67 then (bif Nat.beq pc 66 then some (.ladd, 1, []) else none) else (bif Nat.beq pc 67 then some (.lstore_n 1, 1, []) else none))))))) else (bif Nat.blt pc 103 then (bif Nat.blt pc 86 then (bif Nat.blt pc 75 then (bif Nat.blt pc 72 then (bif Nat.blt pc 69 then (bif Nat.beq pc 68 then some (.aload_n 0, 1, []) else none) else (bif Nat.beq pc 69 then some (.invokevirtual 208, 3, [0, 100, 0, 625, 3, 4, 0]) else none)) else (bif Nat.blt pc 73 then (bif Nat.beq pc 72 then some (.iconst 0, 1, []) else none) else (bif Nat.blt pc 74 then (bif Nat.beq pc 73 then some (.istore_n 3, 1, []) else none) else (bif Nat.beq pc 74 then some (.iload_n 3, 1, []) else none)))) else (bif Nat.blt pc 79 then (bif Nat.blt pc 76 then (bif Nat.beq pc 75 then some (.aload_n 0, 1, []) else none) else (bif Nat.beq pc 76 then some (.getfield 30, 3, [3, 4, 1, 239]) else none)) else (bif Nat.blt pc 80 then (bif Nat.beq pc 79 then some (.arraylength, 1, []) else none) else (bif Nat.blt pc 83 then (bif Nat.beq pc 80 then some (.if_icmp .ge 23, 3, [103]) else none) else (bif Nat.beq pc 83 then some (.ldc2_w 232, 3, [2, 31, 472]) else none))))) else (bif Nat.blt pc 93 then (bif Nat.blt pc 88 then (bif Nat.blt pc 87 then (bif Nat.beq pc 86 then some (.lload_n 1, 1, []) else none) else (bif Nat.beq pc 87 then some (.lmul, 1, []) else none)) else (bif Nat.blt pc 89 then (bif Nat.beq pc 88 then some (.aload_n 0, 1, []) else none) else (bif Nat.blt pc 92 then (bif Nat.beq pc 89 then some (.getfield 30, 3, [3, 4, 1, 239]) else none) else (bif Nat.beq pc 92 then some (.iload_n 3, 1, []) else none)))) else (bif Nat.blt pc 96 then (bif Nat.blt pc 94 then (bif Nat.beq pc 93 then some (.iaload, 1, []) else none) else (bif Nat.blt pc 95 then (bif Nat.beq pc 94 then some (.i2l, 1, []) else none) else (bif Nat.beq pc 95 then some (.ladd, 1, []) else none))) else (bif Nat.blt pc 97 then (bif Nat.beq pc 96 then some (.lstore_n 1, 1, []) else none) else (bif Nat.blt pc 100 then (bif Nat.beq pc 97 then some (.iinc 3 1, 3, []) else none) else (bif Nat.beq pc 100 then some (.goto (-26), 3, [74]) else none)))))) else (bif Nat.blt pc 119 then (bif Nat.blt pc 112 then (bif Nat.blt pc 107 then (bif Nat.blt pc 106 then (bif Nat.beq pc 103 then some (.ldc2_w 232, 3, [2, 31, 472]) else none) else (bif Nat.beq pc 106 then some (.lload_n 1, 1, []) else none)) else (bif Nat.blt pc 108 then (bif Nat.beq pc 107 then some (.lmul, 1, []) else none) else (bif Nat.blt pc 109 then (bif Nat.beq pc 108 then some (.aload_n 0, 1, []) else none) else (bif Nat.beq pc 109 then some (.invokevirtual 237, 3, [0, 91, 0, 629, 3, 5, 1]) else none)))) else (bif Nat.blt pc 114 then (bif Nat.blt pc 113 then (bif Nat.beq pc 112 then some (.i2l, 1, []) else none) else (bif Nat.beq pc 113 then some (.ladd, 1, []) else none)) else (bif Nat.blt pc 115 then (bif Nat.beq pc 114 then some (.lstore_n 1, 1, []) else none) else (bif Nat.blt pc 118 then (bif Nat.beq pc 115 then some (.ldc2_w 232, 3, [2, 31, 472]) else none) else (bif Nat.beq pc 118 then some (.lload_n 1, 1, []) else none))))) else (bif Nat.blt pc 128 then (bif Nat.blt pc 121 then (bif Nat.blt pc 120 then (bif Nat.beq pc 119 then some (.lmul, 1, []) else none) else (bif Nat.beq pc 120 then some (.aload_n 0, 1, []) else none)) else (bif Nat.blt pc 124 then (bif Nat.beq pc 121 then some (.invokevirtual 240, 3, [0, 92, 0, 630, 3, 1, 4]) else none) else (bif Nat.blt pc 127 then (bif Nat.beq pc 124 then some (.invokestatic 244, 3, [1, 5, 1, 631, 9, 5, 2]) else none) else (bif Nat.beq pc 127 then some (.ladd, 1, []) else none)))) else (bif Nat.blt pc 133 then (bif Nat.blt pc 129 then (bif Nat.beq pc 128 then some (.lstore_n 1, 1, []) else none) else (bif Nat.blt pc 130 then (bif Nat.beq pc 129 then some (.aload_n 0, 1, []) else none) else (bif Nat.beq pc 130 then some (.getfield 26, 3, [3, 3, 1, 238]) else none))) else (bif Nat.blt pc 134 then (bif Nat.beq pc 133 then some (.lload_n 1, 1, []) else none) else (bif Nat.blt pc 137 then (bif Nat.beq pc 134 then some (.invokevirtual 248, 3, [0, 54, 1, 636, 2, 6, 2]) else none) else (bif Nat.beq pc 137 then some (.lreturn, 1, []) else none)))))))
/-- X4_hashNumbers -/
def I_X4_hashNumbers (pc : Nat) : Option IE := bif Nat.blt pc 32 then (bif Nat.blt pc 16 then (bif Nat.blt pc 5 then (bif Nat.blt pc 2 then (bif Nat.blt pc 1 then (bif Nat.beq pc 0 then some (.lload_n 1, 1, []) else none) else (bif Nat.beq pc 1 then some (.lstore_n 3, 1, []) else none)) else (bif Nat.blt pc 3 then (bif Nat.beq pc 2 then some (.iconst 0, 1, []) else none) else (bif Nat.beq pc 3 then some (.istore 5, 2, []) else none))) else (bif Nat.blt pc 9 then (bif Nat.blt pc 7 then (bif Nat.beq pc 5 then some (.iload 5, 2, []) else none) else (bif Nat.beq pc 7 then some (.bipush 12, 2, []) else none)) else (bif Nat.blt pc 12 then (bif Nat.beq pc 9 then some (.if_icmp .ge 23, 3, [32]) else none) else (bif Nat.blt pc 15 then (bif Nat.beq pc 12 then some (.ldc2_w 232, 3, [2, 31, 472]) else none) else (bif Nat.beq pc 15 then some (.lload_n 3, 1, []) else none))))) else (bif Nat.blt pc 23 then (bif Nat.blt pc 18 then (bif Nat.blt pc 17 then (bif Nat.beq pc 16 then some (.lmul, 1, []) else none) else (bif Nat.beq pc 17 then some (.aload_n 0, 1, []) else none)) else (bif Nat.blt pc 20 then (bif Nat.beq pc 18 then some (.iload 5, 2, []) else none) else (bif Nat.beq pc 20 then some (.invokevirtual 251, 3, [0, 82, 1, 473, 3, 2, 1]) else none))) else (bif Nat.blt pc 25 then (bif Nat.blt pc 24 then (bif Nat.beq pc 23 then some (.i2l, 1, []) else none) else (bif Nat.beq pc 24 then some (.ladd, 1, []) else none)) else (bif Nat.blt pc 26 then (bif Nat.beq pc 25 then some (.lstore_n 3, 1, []) else none) else (bif Nat.blt pc 29 then (bif Nat.beq pc 26 then some (.iinc 5 1, 3, []) else none) else (bif Nat.beq pc 29 then some (.goto (-24), 3, [5]) else none)))))) else (bif Nat.blt pc 47 then (bif Nat.blt pc 38 then (bif Nat.blt pc 35 then (bif Nat.blt pc 33 then (bif Nat.beq pc 32 then some (.iconst 0, 1, []) else none) else (bif Nat.beq pc 33 then some (.istore 5, 2, []) else none)) else (bif Nat.blt pc 37 then (bif Nat.beq pc 35 then some (.iload 5, 2, []) else none) else (bif Nat.beq pc 37 then some (.iconst 3, 1, []) else none))) else (bif Nat.blt pc 44 then (bif Nat.blt pc 41 then (bif Nat.beq pc 38 then some (.if_icmp .ge 23, 3, [61]) else none) else (bif Nat.beq pc 41 then some (.ldc2_w 232, 3, [2, 31, 472]) else none)) else (bif Nat.blt pc 45 then (bif Nat.beq pc 44 then some (.lload_n 3, 1, []) else none) else (bif Nat.blt pc 46 then (bif Nat.beq pc 45 then some (.lmul, 1, []) else none) else (bif Nat.beq pc 46 then some (.aload_n 0, 1, []) else none))))) else (bif Nat.blt pc 54 then (bif Nat.blt pc 52 then (bif Nat.blt pc 49 then (bif Nat.beq pc 47 then some (.iload 5, 2, []) else none) else (bif Nat.beq pc 49 then some (.invokevirtual 254, 3, [0, 83, 1, 553, 3, 2, 1]) else none)) else (bif Nat.blt pc 53 then (bif Nat.beq pc 52 then some (.i2l, 1, []) else none) else (bif Nat.beq pc 53 then some (.ladd, 1, []) else none))) else (bif Nat.blt pc 58 then (bif Nat.blt pc 55 then (bif Nat.beq pc 54 then some (.lstore_n 3, 1, []) else none) else (bif Nat.beq pc 55 then some (.iinc 5 1, 3, []) else none)) else (bif Nat.blt pc 61 then (bif Nat.beq pc 58 then some (.goto (-23), 3, [35]) else none) else (bif Nat.blt pc 62 then (bif Nat.beq pc 61 then some (.lload_n 3, 1, []) else none) else (bif Nat.beq pc 62 then some (.lreturn, 1, []) else none))))))
/-- X4_hashProgram -/
def I_X4_hashProgram (pc : Nat) : Option IE := bif Nat.blt pc 61 then (bif Nat.blt pc 30 then (bif Nat.blt pc 11 then (bif Nat.blt pc 3 then (bif Nat.blt pc 1 then (bif Nat.beq pc 0 then some (.lload_n 1, 1, []) else none) else (bif Nat.blt pc 2 then (bif Nat.beq pc 1 then some (.lstore_n 3, 1, []) else none) else (bif Nat.beq pc 2 then some (.iconst 0, 1, []) else none))) else (bif Nat.blt pc 7 then (bif Nat.blt pc 5 then (bif Nat.beq pc 3 then some (.istore 5, 2, []) else none) else (bif Nat.beq pc 5 then some (.iload 5, 2, []) else none)) else (bif Nat.blt pc 8 then (bif Nat.beq pc 7 then some (.aload_n 0, 1, []) else none) else (bif Nat.beq pc 8 then some (.getfield 10, 3, [3, 0, 1, 235]) else none)))) else (bif Nat.blt pc 20 then (bif Nat.blt pc 17 then (bif Nat.blt pc 14 then (bif Nat.beq pc 11 then some (.getfield 134, 3, [1, 6, 0, 175]) else none) else (bif Nat.beq pc 14 then some (.if_icmp .ge 47, 3, [61]) else none)) else (bif Nat.blt pc 18 then (bif Nat.beq pc 17 then some (.iconst 0, 1, []) else none) else (bif Nat.beq pc 18 then some (.istore 6, 2, []) else none))) else (bif Nat.blt pc 24 then (bif Nat.blt pc 22 then (bif Nat.beq pc 20 then some (.iload 6, 2, []) else none) else (bif Nat.beq pc 22 then some (.bipush 7, 2, []) else none)) else (bif Nat.blt pc 27 then (bif Nat.beq pc 24 then some (.if_icmp .ge 31, 3, [55]) else none) else (bif Nat.beq pc 27 then some (.ldc2_w 232, 3, [2, 31, 472]) else none))))) else (bif Nat.blt pc 43 then (bif Nat.blt pc 33 then (bif Nat.blt pc 31 then (bif Nat.beq pc 30 then some (.lload_n 3, 1, []) else none) else (bif Nat.blt pc 32 then (bif Nat.beq pc 31 then some (.lmul, 1, []) else none) else (bif Nat.beq pc 32 then some (.aload_n 0, 1, []) else none))) else (bif Nat.blt pc 38 then (bif Nat.blt pc 36 then (bif Nat.beq pc 33 then some (.getfield 10, 3, [3, 0, 1, 235]) else none) else (bif Nat.beq pc 36 then some (.iload 5, 2, []) else none)) else (bif Nat.blt pc 41 then (bif Nat.beq pc 38 then some (.invokevirtual 135, 3, [0, 17, 1, 458, 1, 2, 5]) else none) else (bif Nat.beq pc 41 then some (.iload 6, 2, []) else none)))) else (bif Nat.blt pc 49 then (bif Nat.blt pc 47 then (bif Nat.blt pc 46 then (bif Nat.beq pc 43 then some (.invokevirtual 158, 3, [0, 12, 1, 581, 0, 2, 1]) else none) else (bif Nat.beq pc 46 then some (.i2l, 1, []) else none)) else (bif Nat.blt pc 48 then (bif Nat.beq pc 47 then some (.ladd, 1, []) else none) else (bif Nat.beq pc 48 then some (.lstore_n 3, 1, []) else none))) else (bif Nat.blt pc 55 then (bif Nat.blt pc 52 then (bif Nat.beq pc 49 then some (.iinc 6 1, 3, []) else none) else (bif Nat.beq pc 52 then some (.goto (-32), 3, [20]) else none)) else (bif Nat.blt pc 58 then (bif Nat.beq pc 55 then some (.iinc 5 1, 3, []) else none) else (bif Nat.beq pc 58 then some (.goto (-53), 3, [5]) else none)))))) else (bif Nat.blt pc 95 then (bif Nat.blt pc 76 then (bif Nat.blt pc 68 then (bif Nat.blt pc 62 then (bif Nat.beq pc 61 then some (.aload_n 0, 1, []) else none) else (bif Nat.blt pc 65 then (bif Nat.beq pc 62 then some (.getfield 10, 3, [3, 0, 1, 235]) else none) else (bif Nat.beq pc 65 then some (.getfield 100, 3, [1, 8, 0, 179]) else none))) else (bif Nat.blt pc 72 then (bif Nat.blt pc 70 then (bif Nat.beq pc 68 then some (.istore 5, 2, []) else none) else (bif Nat.beq pc 70 then some (.iload 5, 2, []) else none)) else (bif Nat.blt pc 73 then (bif Nat.beq pc 72 then some (.aload_n 0, 1, []) else none) else (bif Nat.beq pc 73 then some (.getfield 10, 3, [3, 0, 1, 235]) else none)))) else (bif Nat.blt pc 85 then (bif Nat.blt pc 82 then (bif Nat.blt pc 79 then (bif Nat.beq pc 76 then some (.getfield 103, 3, [1, 7, 0, 177]) else none) else (bif Nat.beq pc 79 then some (.if_icmp .ge 44, 3, [123]) else none)) else (bif Nat.blt pc 83 then (bif Nat.beq pc 82 then some (.iconst 0, 1, []) else none) else (bif Nat.beq pc 83 then some (.istore 6, 2, []) else none))) else (bif Nat.blt pc 89 then (bif Nat.blt pc 87 then (bif Nat.beq pc 85 then some (.iload 6, 2, []) else none) else (bif Nat.beq pc 87 then some (.bipush 9, 2, []) else none)) else (bif Nat.blt pc 92 then (bif Nat.beq pc 89 then some (.if_icmp .ge 28, 3, [117]) else none) else (bif Nat.beq pc 92 then some (.ldc2_w 232, 3, [2, 31, 472]) else none))))) else (bif Nat.blt pc 109 then (bif Nat.blt pc 101 then (bif Nat.blt pc 97 then (bif Nat.blt pc 96 then (bif Nat.beq pc 95 then some (.lload_n 3, 1, []) else none) else (bif Nat.beq pc 96 then some (.lmul, 1, []) else none)) else (bif Nat.blt pc 98 then (bif Nat.beq pc 97 then some (.aload_n 0, 1, []) else none) else (bif Nat.beq pc 98 then some (.getfield 10, 3, [3, 0, 1, 235]) else none))) else (bif Nat.blt pc 105 then (bif Nat.blt pc 103 then (bif Nat.beq pc 101 then some (.iload 5, 2, []) else none) else (bif Nat.beq pc 103 then some (.iload 6, 2, []) else none)) else (bif Nat.blt pc 108 then (bif Nat.beq pc 105 then some (.invokevirtual 163, 3, [0, 24, 2, 585, 1, 5, 1]) else none) else (bif Nat.beq pc 108 then some (.i2l, 1, []) else none)))) else (bif Nat.blt pc 117 then (bif Nat.blt pc 111 then (bif Nat.blt pc 110 then (bif Nat.beq pc 109 then some (.ladd, 1, []) else none) else (bif Nat.beq pc 110 then some (.lstore_n 3, 1, []) else none)) else (bif Nat.blt pc 114 then (bif Nat.beq pc 111 then some (.iinc 6 1, 3, []) else none) else (bif Nat.beq pc 114 then some (.goto (-29), 3, [85]) else none))) else (bif Nat.blt pc 123 then (bif Nat.blt pc 120 then (bif Nat.beq pc 117 then some (.iinc 5 1, 3, []) else none) else (bif Nat.beq pc 120 then some (.goto (-50), 3, [70]) else none)) else (bif Nat.blt pc 124 then (bif Nat.beq pc 123 then some (.lload_n 3, 1, []) else none) else (bif Nat.beq pc 124 then some (.lreturn, 1, []) else none))))))
/-- X4_hashValues -/
def I_X4_hashValues (pc : Nat) : Option IE := bif Nat.blt pc 49 then (bif Nat.blt pc 24 then (bif Nat.blt pc 9 then (bif Nat.blt pc 3 then (bif Nat.blt pc 1 then (bif Nat.beq pc 0 then some (.lload_n 1, 1, []) else none) else (bif Nat.blt pc 2 then (bif Nat.beq pc 1 then some (.lstore_n 3, 1, []) else none) else (bif Nat.beq pc 2 then some (.iconst 0, 1, []) else none))) else (bif Nat.blt pc 5 then (bif Nat.beq pc 3 then some (.istore 5, 2, []) else none) else (bif Nat.blt pc 7 then (bif Nat.beq pc 5 then some (.iload 5, 2, []) else none) else (bif Nat.beq pc 7 then some (.bipush 8, 2, []) else none)))) else (bif Nat.blt pc 15 then (bif Nat.blt pc 12 then (bif Nat.beq pc 9 then some (.if_icmp .ge 40, 3, [49]) else none) else (bif Nat.blt pc 13 then (bif Nat.beq pc 12 then some (.iconst 0, 1, []) else none) else (bif Nat.beq pc 13 then some (.istore 6, 2, []) else none))) else (bif Nat.blt pc 18 then (bif Nat.blt pc 17 then (bif Nat.beq pc 15 then some (.iload 6, 2, []) else none) else (bif Nat.beq pc 17 then some (.iconst 3, 1, []) else none)) else (bif Nat.blt pc 21 then (bif Nat.beq pc 18 then some (.if_icmp .ge 25, 3, [43]) else none) else (bif Nat.beq pc 21 then some (.ldc2_w 232, 3, [2, 31, 472]) else none))))) else (bif Nat.blt pc 34 then (bif Nat.blt pc 27 then (bif Nat.blt pc 25 then (bif Nat.beq pc 24 then some (.lload_n 3, 1, []) else none) else (bif Nat.blt pc 26 then (bif Nat.beq pc 25 then some (.lmul, 1, []) else none) else (bif Nat.beq pc 26 then some (.aload_n 0, 1, []) else none))) else (bif Nat.blt pc 29 then (bif Nat.beq pc 27 then some (.iload 5, 2, []) else none) else (bif Nat.blt pc 31 then (bif Nat.beq pc 29 then some (.iload 6, 2, []) else none) else (bif Nat.beq pc 31 then some (.invokevirtual 173, 3, [0, 86, 2, 601, 3, 3, 1]) else none)))) else (bif Nat.blt pc 37 then (bif Nat.blt pc 35 then (bif Nat.beq pc 34 then some (.i2l, 1, []) else none) else (bif Nat.blt pc 36 then (bif Nat.beq pc 35 then some (.ladd, 1, []) else none) else (bif Nat.beq pc 36 then some (.lstore_n 3, 1, []) else none))) else (bif Nat.blt pc 43 then (bif Nat.blt pc 40 then (bif Nat.beq pc 37 then some (.iinc 6 1, 3, []) else none) else (bif Nat.beq pc 40 then some (.goto (-25), 3, [15]) else none)) else (bif Nat.blt pc 46 then (bif Nat.beq pc 43 then some (.iinc 5 1, 3, []) else none) else (bif Nat.beq pc 46 then some (.goto (-41), 3, [5]) else none)))))) else (bif Nat.blt pc 73 then (bif Nat.blt pc 60 then (bif Nat.blt pc 54 then (bif Nat.blt pc 50 then (bif Nat.beq pc 49 then some (.iconst 0, 1, []) else none) else (bif Nat.blt pc 52 then (bif Nat.beq pc 50 then some (.istore 5, 2, []) else none) else (bif Nat.beq pc 52 then some (.iload 5, 2, []) else none))) else (bif Nat.blt pc 56 then (bif Nat.beq pc 54 then some (.bipush 16, 2, []) else none) else (bif Nat.blt pc 59 then (bif Nat.beq pc 56 then some (.if_icmp .ge 40, 3, [96]) else none) else (bif Nat.beq pc 59 then some (.iconst 0, 1, []) else none)))) else (bif Nat.blt pc 65 then (bif Nat.blt pc 62 then (bif Nat.beq pc 60 then some (.istore 6, 2, []) else none) else (bif Nat.blt pc 64 then (bif Nat.beq pc 62 then some (.iload 6, 2, []) else none) else (bif Nat.beq pc 64 then some (.iconst 2, 1, []) else none))) else (bif Nat.blt pc 71 then (bif Nat.blt pc 68 then (bif Nat.beq pc 65 then some (.if_icmp .ge 25, 3, [90]) else none) else (bif Nat.beq pc 68 then some (.ldc2_w 232, 3, [2, 31, 472]) else none)) else (bif Nat.blt pc 72 then (bif Nat.beq pc 71 then some (.lload_n 3, 1, []) else none) else (bif Nat.beq pc 72 then some (.lmul, 1, []) else none))))) else (bif Nat.blt pc 83 then (bif Nat.blt pc 78 then (bif Nat.blt pc 74 then (bif Nat.beq pc 73 then some (.aload_n 0, 1, []) else none) else (bif Nat.blt pc 76 then (bif Nat.beq pc 74 then some (.iload 5, 2, []) else none) else (bif Nat.beq pc 76 then some (.iload 6, 2, []) else none))) else (bif Nat.blt pc 81 then (bif Nat.beq pc 78 then some (.invokevirtual 176, 3, [0, 87, 2, 607, 3, 3, 1]) else none) else (bif Nat.blt pc 82 then (bif Nat.beq pc 81 then some (.i2l, 1, []) else none) else (bif Nat.beq pc 82 then some (.ladd, 1, []) else none)))) else (bif Nat.blt pc 90 then (bif Nat.blt pc 84 then (bif Nat.beq pc 83 then some (.lstore_n 3, 1, []) else none) else (bif Nat.blt pc 87 then (bif Nat.beq pc 84 then some (.iinc 6 1, 3, []) else none) else (bif Nat.beq pc 87 then some (.goto (-25), 3, [62]) else none))) else (bif Nat.blt pc 96 then (bif Nat.blt pc 93 then (bif Nat.beq pc 90 then some (.iinc 5 1, 3, []) else none) else (bif Nat.beq pc 93 then some (.goto (-41), 3, [52]) else none)) else (bif Nat.blt pc 97 then (bif Nat.beq pc 96 then some (.lload_n 3, 1, []) else none) else (bif Nat.beq pc 97 then some (.lreturn, 1, []) else none))))))
/-- X4_rehearsePlainOrder -/
def I_X4_rehearsePlainOrder (pc : Nat) : Option IE := bif Nat.blt pc 8 then (bif Nat.blt pc 4 then (bif Nat.blt pc 1 then (bif Nat.beq pc 0 then some (.aload_n 0, 1, []) else none) else (bif Nat.beq pc 1 then some (.getfield 16, 3, [3, 1, 1, 236]) else none)) else (bif Nat.blt pc 5 then (bif Nat.beq pc 4 then some (.aload_n 0, 1, []) else none) else (bif Nat.beq pc 5 then some (.getfield 10, 3, [3, 0, 1, 235]) else none))) else (bif Nat.blt pc 12 then (bif Nat.blt pc 11 then (bif Nat.beq pc 8 then some (.invokevirtual 151, 3, [0, 15, 1, 262, 1, 3, 0]) else none) else (bif Nat.beq pc 11 then some (.aload_n 0, 1, []) else none)) else (bif Nat.blt pc 15 then (bif Nat.beq pc 12 then some (.getfield 16, 3, [3, 1, 1, 236]) else none) else (bif Nat.blt pc 18 then (bif Nat.beq pc 15 then some (.invokevirtual 257, 3, [0, 41, 0, 593, 1, 5, 0]) else none) else (bif Nat.beq pc 18 then some (.return_, 1, []) else none))))
/-- X4_rehearseCycles -/
def I_X4_rehearseCycles (pc : Nat) : Option IE := bif Nat.blt pc 11 then (bif Nat.blt pc 4 then (bif Nat.blt pc 1 then (bif Nat.beq pc 0 then some (.aload_n 0, 1, []) else none) else (bif Nat.beq pc 1 then some (.getfield 16, 3, [3, 1, 1, 236]) else none)) else (bif Nat.blt pc 5 then (bif Nat.beq pc 4 then some (.aload_n 0, 1, []) else none) else (bif Nat.blt pc 8 then (bif Nat.beq pc 5 then some (.getfield 10, 3, [3, 0, 1, 235]) else none) else (bif Nat.beq pc 8 then some (.invokevirtual 151, 3, [0, 15, 1, 262, 1, 3, 0]) else none)))) else (bif Nat.blt pc 15 then (bif Nat.blt pc 12 then (bif Nat.beq pc 11 then some (.aload_n 0, 1, []) else none) else (bif Nat.beq pc 12 then some (.getfield 16, 3, [3, 1, 1, 236]) else none)) else (bif Nat.blt pc 16 then (bif Nat.beq pc 15 then some (.iload_n 1, 1, []) else none) else (bif Nat.blt pc 19 then (bif Nat.beq pc 16 then some (.invokevirtual 95, 3, [0, 30, 1, 616, 1, 3, 0]) else none) else (bif Nat.beq pc 19 then some (.return_, 1, []) else none))))
/-- X4_rehearsed -/
def I_X4_rehearsed (pc : Nat) : Option IE := bif Nat.blt pc 45 then (bif Nat.blt pc 35 then (bif Nat.blt pc 28 then (bif Nat.blt pc 1 then (bif Nat.beq pc 0 then some (.iload_n 1, 1, []) else none) else (bif Nat.beq pc 1 then some (.lookupswitch 59 #[(0, 27), (1, 43)], 27, [60, 0, 28, 1, 44]) else none)) else (bif Nat.blt pc 29 then (bif Nat.beq pc 28 then some (.aload_n 0, 1, []) else none) else (bif Nat.blt pc 32 then (bif Nat.beq pc 29 then some (.getfield 16, 3, [3, 1, 1, 236]) else none) else (bif Nat.beq pc 32 then some (.getfield 92, 3, [1, 11, 0, 184]) else none)))) else (bif Nat.blt pc 42 then (bif Nat.blt pc 36 then (bif Nat.beq pc 35 then some (.aload_n 0, 1, []) else none) else (bif Nat.blt pc 39 then (bif Nat.beq pc 36 then some (.getfield 10, 3, [3, 0, 1, 235]) else none) else (bif Nat.beq pc 39 then some (.getfield 92, 3, [1, 11, 0, 184]) else none))) else (bif Nat.blt pc 43 then (bif Nat.beq pc 42 then some (.isub, 1, []) else none) else (bif Nat.blt pc 44 then (bif Nat.beq pc 43 then some (.ireturn, 1, [0]) else none) else (bif Nat.beq pc 44 then some (.aload_n 0, 1, []) else none))))) else (bif Nat.blt pc 58 then (bif Nat.blt pc 51 then (bif Nat.blt pc 48 then (bif Nat.beq pc 45 then some (.getfield 16, 3, [3, 1, 1, 236]) else none) else (bif Nat.beq pc 48 then some (.getfield 260, 3, [1, 9, 0, 181]) else none)) else (bif Nat.blt pc 52 then (bif Nat.beq pc 51 then some (.aload_n 0, 1, []) else none) else (bif Nat.blt pc 55 then (bif Nat.beq pc 52 then some (.getfield 10, 3, [3, 0, 1, 235]) else none) else (bif Nat.beq pc 55 then some (.getfield 260, 3, [1, 9, 0, 181]) else none)))) else (bif Nat.blt pc 61 then (bif Nat.blt pc 59 then (bif Nat.beq pc 58 then some (.isub, 1, []) else none) else (bif Nat.blt pc 60 then (bif Nat.beq pc 59 then some (.ireturn, 1, [0]) else none) else (bif Nat.beq pc 60 then some (.aload_n 0, 1, []) else none))) else (bif Nat.blt pc 64 then (bif Nat.beq pc 61 then some (.getfield 16, 3, [3, 1, 1, 236]) else none) else (bif Nat.blt pc 67 then (bif Nat.beq pc 64 then some (.invokevirtual 73, 3, [0, 21, 0, 281, 1, 1, 1]) else none) else (bif Nat.beq pc 67 then some (.ireturn, 1, [0]) else none)))))
/-- X4_rehearseWindows -/
def I_X4_rehearseWindows (pc : Nat) : Option IE := bif Nat.blt pc 49 then (bif Nat.blt pc 23 then (bif Nat.blt pc 8 then (bif Nat.blt pc 4 then (bif Nat.blt pc 2 then (bif Nat.beq pc 0 then some (.ldc 204, 2, [0, 1000000, 334]) else none) else (bif Nat.blt pc 3 then (bif Nat.beq pc 2 then some (.istore_n 1, 1, []) else none) else (bif Nat.beq pc 3 then some (.iconst 1, 1, []) else none))) else (bif Nat.blt pc 5 then (bif Nat.beq pc 4 then some (.istore_n 2, 1, []) else none) else (bif Nat.blt pc 6 then (bif Nat.beq pc 5 then some (.iload_n 2, 1, []) else none) else (bif Nat.beq pc 6 then some (.bipush 8, 2, []) else none)))) else (bif Nat.blt pc 15 then (bif Nat.blt pc 11 then (bif Nat.beq pc 8 then some (.if_icmp .gt 88, 3, [96]) else none) else (bif Nat.blt pc 12 then (bif Nat.beq pc 11 then some (.aload_n 0, 1, []) else none) else (bif Nat.beq pc 12 then some (.getfield 16, 3, [3, 1, 1, 236]) else none))) else (bif Nat.blt pc 19 then (bif Nat.blt pc 16 then (bif Nat.beq pc 15 then some (.aload_n 0, 1, []) else none) else (bif Nat.beq pc 16 then some (.getfield 10, 3, [3, 0, 1, 235]) else none)) else (bif Nat.blt pc 22 then (bif Nat.beq pc 19 then some (.invokevirtual 151, 3, [0, 15, 1, 262, 1, 3, 0]) else none) else (bif Nat.beq pc 22 then some (.aload_n 0, 1, []) else none))))) else (bif Nat.blt pc 38 then (bif Nat.blt pc 30 then (bif Nat.blt pc 26 then (bif Nat.beq pc 23 then some (.getfield 16, 3, [3, 1, 1, 236]) else none) else (bif Nat.blt pc 29 then (bif Nat.beq pc 26 then some (.invokevirtual 106, 3, [0, 16, 0, 289, 1, 3, 0]) else none) else (bif Nat.beq pc 29 then some (.aload_n 0, 1, []) else none))) else (bif Nat.blt pc 36 then (bif Nat.blt pc 33 then (bif Nat.beq pc 30 then some (.getfield 16, 3, [3, 1, 1, 236]) else none) else (bif Nat.beq pc 33 then some (.getfield 52, 3, [1, 4, 1, 171]) else none)) else (bif Nat.blt pc 37 then (bif Nat.beq pc 36 then some (.iconst 0, 1, []) else none) else (bif Nat.beq pc 37 then some (.iload_n 2, 1, []) else none)))) else (bif Nat.blt pc 43 then (bif Nat.blt pc 39 then (bif Nat.beq pc 38 then some (.iastore, 1, []) else none) else (bif Nat.blt pc 40 then (bif Nat.beq pc 39 then some (.aload_n 0, 1, []) else none) else (bif Nat.beq pc 40 then some (.getfield 16, 3, [3, 1, 1, 236]) else none))) else (bif Nat.blt pc 47 then (bif Nat.blt pc 44 then (bif Nat.beq pc 43 then some (.iload_n 1, 1, []) else none) else (bif Nat.beq pc 44 then some (.invokevirtual 205, 3, [0, 31, 1, 335, 1, 3, 1]) else none)) else (bif Nat.blt pc 48 then (bif Nat.beq pc 47 then some (.istore_n 3, 1, []) else none) else (bif Nat.beq pc 48 then some (.iload_n 3, 1, []) else none)))))) else (bif Nat.blt pc 69 then (bif Nat.blt pc 60 then (bif Nat.blt pc 54 then (bif Nat.blt pc 50 then (bif Nat.beq pc 49 then some (.iload_n 1, 1, []) else none) else (bif Nat.blt pc 53 then (bif Nat.beq pc 50 then some (.if_icmp .ge 40, 3, [90]) else none) else (bif Nat.beq pc 53 then some (.iload_n 3, 1, []) else none))) else (bif Nat.blt pc 56 then (bif Nat.blt pc 55 then (bif Nat.beq pc 54 then some (.istore_n 1, 1, []) else none) else (bif Nat.beq pc 55 then some (.aload_n 0, 1, []) else none)) else (bif Nat.blt pc 59 then (bif Nat.beq pc 56 then some (.getfield 30, 3, [3, 4, 1, 239]) else none) else (bif Nat.beq pc 59 then some (.iconst 0, 1, []) else none)))) else (bif Nat.blt pc 63 then (bif Nat.blt pc 61 then (bif Nat.beq pc 60 then some (.iload_n 2, 1, []) else none) else (bif Nat.blt pc 62 then (bif Nat.beq pc 61 then some (.iastore, 1, []) else none) else (bif Nat.beq pc 62 then some (.aload_n 0, 1, []) else none))) else (bif Nat.blt pc 67 then (bif Nat.blt pc 66 then (bif Nat.beq pc 63 then some (.getfield 30, 3, [3, 4, 1, 239]) else none) else (bif Nat.beq pc 66 then some (.iconst 1, 1, []) else none)) else (bif Nat.blt pc 68 then (bif Nat.beq pc 67 then some (.iload_n 3, 1, []) else none) else (bif Nat.beq pc 68 then some (.iastore, 1, []) else none))))) else (bif Nat.blt pc 82 then (bif Nat.blt pc 74 then (bif Nat.blt pc 70 then (bif Nat.beq pc 69 then some (.aload_n 0, 1, []) else none) else (bif Nat.blt pc 73 then (bif Nat.beq pc 70 then some (.getfield 30, 3, [3, 4, 1, 239]) else none) else (bif Nat.beq pc 73 then some (.iconst 2, 1, []) else none))) else (bif Nat.blt pc 78 then (bif Nat.blt pc 75 then (bif Nat.beq pc 74 then some (.aload_n 0, 1, []) else none) else (bif Nat.beq pc 75 then some (.getfield 16, 3, [3, 1, 1, 236]) else none)) else (bif Nat.blt pc 81 then (bif Nat.beq pc 78 then some (.getfield 260, 3, [1, 9, 0, 181]) else none) else (bif Nat.beq pc 81 then some (.aload_n 0, 1, []) else none)))) else (bif Nat.blt pc 89 then (bif Nat.blt pc 85 then (bif Nat.beq pc 82 then some (.getfield 10, 3, [3, 0, 1, 235]) else none) else (bif Nat.blt pc 88 then (bif Nat.beq pc 85 then some (.getfield 260, 3, [1, 9, 0, 181]) else none) else (bif Nat.beq pc 88 then some (.isub, 1, []) else none))) else (bif Nat.blt pc 93 then (bif Nat.blt pc 90 then (bif Nat.beq pc 89 then some (.iastore, 1, []) else none) else (bif Nat.beq pc 90 then some (.iinc 2 1, 3, []) else none)) else (bif Nat.blt pc 96 then (bif Nat.beq pc 93 then some (.goto (-88), 3, [5]) else none) else (bif Nat.beq pc 96 then some (.return_, 1, []) else none))))))
/-- X5_init -/
def I_X5_init (pc : Nat) : Option IE := bif Nat.blt pc 64 then (bif Nat.blt pc 32 then (bif Nat.blt pc 14 then (bif Nat.blt pc 5 then (bif Nat.blt pc 1 then (bif Nat.beq pc 0 then some (.aload_n 0, 1, []) else none) else (bif Nat.blt pc 4 then (bif Nat.beq pc 1 then some (.invokespecial 1, 3, [3, 0, 0, 829]) else none) else (bif Nat.beq pc 4 then some (.aload_n 0, 1, []) else none))) else (bif Nat.blt pc 10 then (bif Nat.blt pc 8 then (bif Nat.beq pc 5 then some (.sipush 324, 3, []) else none) else (bif Nat.beq pc 8 then some (.newarray .int, 2, [6, 218]) else none)) else (bif Nat.blt pc 13 then (bif Nat.beq pc 10 then some (.putfield 7, 3, [4, 0, 1, 830]) else none) else (bif Nat.beq pc 13 then some (.aload_n 0, 1, []) else none)))) else (bif Nat.blt pc 23 then (bif Nat.blt pc 19 then (bif Nat.blt pc 17 then (bif Nat.beq pc 14 then some (.sipush 324, 3, []) else none) else (bif Nat.beq pc 17 then some (.newarray .int, 2, [6, 218]) else none)) else (bif Nat.blt pc 22 then (bif Nat.beq pc 19 then some (.putfield 13, 3, [4, 1, 1, 831]) else none) else (bif Nat.beq pc 22 then some (.aload_n 0, 1, []) else none))) else (bif Nat.blt pc 28 then (bif Nat.blt pc 26 then (bif Nat.beq pc 23 then some (.sipush 1944, 3, []) else none) else (bif Nat.beq pc 26 then some (.newarray .int, 2, [6, 218]) else none)) else (bif Nat.blt pc 31 then (bif Nat.beq pc 28 then some (.putfield 16, 3, [4, 2, 1, 832]) else none) else (bif Nat.beq pc 31 then some (.aload_n 0, 1, []) else none))))) else (bif Nat.blt pc 48 then (bif Nat.blt pc 40 then (bif Nat.blt pc 36 then (bif Nat.blt pc 34 then (bif Nat.beq pc 32 then some (.bipush 120, 2, []) else none) else (bif Nat.beq pc 34 then some (.newarray .int, 2, [6, 218]) else none)) else (bif Nat.blt pc 39 then (bif Nat.beq pc 36 then some (.putfield 19, 3, [4, 3, 1, 833]) else none) else (bif Nat.beq pc 39 then some (.aload_n 0, 1, []) else none))) else (bif Nat.blt pc 44 then (bif Nat.blt pc 42 then (bif Nat.beq pc 40 then some (.bipush 32, 2, []) else none) else (bif Nat.beq pc 42 then some (.newarray .int, 2, [6, 218]) else none)) else (bif Nat.blt pc 47 then (bif Nat.beq pc 44 then some (.putfield 22, 3, [4, 4, 1, 834]) else none) else (bif Nat.beq pc 47 then some (.aload_n 0, 1, []) else none)))) else (bif Nat.blt pc 56 then (bif Nat.blt pc 52 then (bif Nat.blt pc 50 then (bif Nat.beq pc 48 then some (.bipush 32, 2, []) else none) else (bif Nat.beq pc 50 then some (.newarray .int, 2, [6, 218]) else none)) else (bif Nat.blt pc 55 then (bif Nat.beq pc 52 then some (.putfield 25, 3, [4, 5, 1, 835]) else none) else (bif Nat.beq pc 55 then some (.aload_n 0, 1, []) else none))) else (bif Nat.blt pc 60 then (bif Nat.blt pc 58 then (bif Nat.beq pc 56 then some (.bipush 32, 2, []) else none) else (bif Nat.beq pc 58 then some (.newarray .int, 2, [6, 218]) else none)) else (bif Nat.blt pc 63 then (bif Nat.beq pc 60 then some (.putfield 28, 3, [4, 6, 1, 836]) else none) else (bif Nat.beq pc 63 then some (.aload_n 0, 1, []) else none)))))) else (bif Nat.blt pc 95 then (bif Nat.blt pc 79 then (bif Nat.blt pc 71 then (bif Nat.blt pc 66 then (bif Nat.beq pc 64 then some (.bipush 32, 2, []) else none) else (bif Nat.blt pc 68 then (bif Nat.beq pc 66 then some (.newarray .int, 2, [6, 218]) else none) else (bif Nat.beq pc 68 then some (.putfield 31, 3, [4, 7, 1, 837]) else none))) else (bif Nat.blt pc 74 then (bif Nat.blt pc 72 then (bif Nat.beq pc 71 then some (.aload_n 0, 1, []) else none) else (bif Nat.beq pc 72 then some (.bipush 32, 2, []) else none)) else (bif Nat.blt pc 76 then (bif Nat.beq pc 74 then some (.newarray .int, 2, [6, 218]) else none) else (bif Nat.beq pc 76 then some (.putfield 34, 3, [4, 8, 1, 838]) else none)))) else (bif Nat.blt pc 87 then (bif Nat.blt pc 82 then (bif Nat.blt pc 80 then (bif Nat.beq pc 79 then some (.aload_n 0, 1, []) else none) else (bif Nat.beq pc 80 then some (.bipush 8, 2, []) else none)) else (bif Nat.blt pc 84 then (bif Nat.beq pc 82 then some (.newarray .int, 2, [6, 218]) else none) else (bif Nat.beq pc 84 then some (.putfield 37, 3, [4, 9, 1, 839]) else none))) else (bif Nat.blt pc 90 then (bif Nat.blt pc 88 then (bif Nat.beq pc 87 then some (.aload_n 0, 1, []) else none) else (bif Nat.beq pc 88 then some (.bipush 16, 2, []) else none)) else (bif Nat.blt pc 92 then (bif Nat.beq pc 90 then some (.newarray .int, 2, [6, 218]) else none) else (bif Nat.beq pc 92 then some (.putfield 40, 3, [4, 10, 1, 840]) else none))))) else (bif Nat.blt pc 109 then (bif Nat.blt pc 102 then (bif Nat.blt pc 99 then (bif Nat.blt pc 96 then (bif Nat.beq pc 95 then some (.aload_n 0, 1, []) else none) else (bif Nat.beq pc 96 then some (.getfield 7, 3, [4, 0, 1, 830]) else none)) else (bif Nat.blt pc 101 then (bif Nat.beq pc 99 then some (.bipush 9, 2, []) else none) else (bif Nat.beq pc 101 then some (.iconst 4, 1, []) else none))) else (bif Nat.blt pc 104 then (bif Nat.blt pc 103 then (bif Nat.beq pc 102 then some (.iastore, 1, []) else none) else (bif Nat.beq pc 103 then some (.aload_n 0, 1, []) else none)) else (bif Nat.blt pc 107 then (bif Nat.beq pc 104 then some (.getfield 7, 3, [4, 0, 1, 830]) else none) else (bif Nat.beq pc 107 then some (.bipush 10, 2, []) else none)))) else (bif Nat.blt pc 115 then (bif Nat.blt pc 111 then (bif Nat.blt pc 110 then (bif Nat.beq pc 109 then some (.iconst 2, 1, []) else none) else (bif Nat.beq pc 110 then some (.iastore, 1, []) else none)) else (bif Nat.blt pc 112 then (bif Nat.beq pc 111 then some (.aload_n 0, 1, []) else none) else (bif Nat.beq pc 112 then some (.getfield 7, 3, [4, 0, 1, 830]) else none))) else (bif Nat.blt pc 118 then (bif Nat.blt pc 117 then (bif Nat.beq pc 115 then some (.bipush 11, 2, []) else none) else (bif Nat.beq pc 117 then some (.iconst 2, 1, []) else none)) else (bif Nat.blt pc 119 then (bif Nat.beq pc 118 then some (.iastore, 1, []) else none) else (bif Nat.beq pc 119 then some (.return_, 1, []) else none))))))
/-- X5_thrown -/
def I_X5_thrown (pc : Nat) : Option IE := bif Nat.blt pc 1 then (bif Nat.beq pc 0 then some (.aload_n 0, 1, []) else none) else (bif Nat.blt pc 4 then (bif Nat.beq pc 1 then some (.getfield 43, 3, [4, 16, 0, 846]) else none) else (bif Nat.beq pc 4 then some (.ireturn, 1, [0]) else none))
/-- X5_fails -/
def I_X5_fails (pc : Nat) : Option IE := bif Nat.blt pc 2 then (bif Nat.blt pc 1 then (bif Nat.beq pc 0 then some (.aload_n 0, 1, []) else none) else (bif Nat.beq pc 1 then some (.iload_n 1, 1, []) else none)) else (bif Nat.blt pc 5 then (bif Nat.beq pc 2 then some (.putfield 43, 3, [4, 16, 0, 846]) else none) else (bif Nat.blt pc 6 then (bif Nat.beq pc 5 then some (.iconst 0, 1, []) else none) else (bif Nat.beq pc 6 then some (.ireturn, 1, [0]) else none)))
/-- X5_within -/
def I_X5_within (pc : Nat) : Option IE := bif Nat.blt pc 7 then (bif Nat.blt pc 2 then (bif Nat.blt pc 1 then (bif Nat.beq pc 0 then some (.iload_n 0, 1, []) else none) else (bif Nat.beq pc 1 then some (.iload_n 1, 1, []) else none)) else (bif Nat.blt pc 5 then (bif Nat.beq pc 2 then some (.if_icmp .lt 12, 3, [14]) else none) else (bif Nat.blt pc 6 then (bif Nat.beq pc 5 then some (.iload_n 0, 1, []) else none) else (bif Nat.beq pc 6 then some (.iload_n 2, 1, []) else none)))) else (bif Nat.blt pc 11 then (bif Nat.blt pc 10 then (bif Nat.beq pc 7 then some (.if_icmp .gt 7, 3, [14]) else none) else (bif Nat.beq pc 10 then some (.iconst 1, 1, []) else none)) else (bif Nat.blt pc 14 then (bif Nat.beq pc 11 then some (.goto 4, 3, [15]) else none) else (bif Nat.blt pc 15 then (bif Nat.beq pc 14 then some (.iconst 0, 1, []) else none) else (bif Nat.beq pc 15 then some (.ireturn, 1, [1]) else none))))
/-- X5_of -/
def I_X5_of (pc : Nat) : Option IE := bif Nat.blt pc 9 then (bif Nat.blt pc 4 then (bif Nat.blt pc 1 then (bif Nat.beq pc 0 then some (.aload_n 0, 1, []) else none) else (bif Nat.beq pc 1 then some (.getfield 7, 3, [4, 0, 1, 830]) else none)) else (bif Nat.blt pc 6 then (bif Nat.beq pc 4 then some (.bipush 36, 2, []) else none) else (bif Nat.blt pc 8 then (bif Nat.beq pc 6 then some (.bipush 12, 2, []) else none) else (bif Nat.beq pc 8 then some (.iload_n 1, 1, []) else none)))) else (bif Nat.blt pc 12 then (bif Nat.blt pc 10 then (bif Nat.beq pc 9 then some (.imul, 1, []) else none) else (bif Nat.blt pc 11 then (bif Nat.beq pc 10 then some (.iadd, 1, []) else none) else (bif Nat.beq pc 11 then some (.iload_n 2, 1, []) else none))) else (bif Nat.blt pc 13 then (bif Nat.beq pc 12 then some (.iadd, 1, []) else none) else (bif Nat.blt pc 14 then (bif Nat.beq pc 13 then some (.iaload, 1, []) else none) else (bif Nat.beq pc 14 then some (.ireturn, 1, [0]) else none))))
/-- X5_lay -/
def I_X5_lay (pc : Nat) : Option IE := bif Nat.blt pc 10 then (bif Nat.blt pc 6 then (bif Nat.blt pc 1 then (bif Nat.beq pc 0 then some (.aload_n 0, 1, []) else none) else (bif Nat.blt pc 4 then (bif Nat.beq pc 1 then some (.getfield 7, 3, [4, 0, 1, 830]) else none) else (bif Nat.beq pc 4 then some (.bipush 36, 2, []) else none))) else (bif Nat.blt pc 8 then (bif Nat.beq pc 6 then some (.bipush 12, 2, []) else none) else (bif Nat.blt pc 9 then (bif Nat.beq pc 8 then some (.iload_n 1, 1, []) else none) else (bif Nat.beq pc 9 then some (.imul, 1, []) else none)))) else (bif Nat.blt pc 13 then (bif Nat.blt pc 11 then (bif Nat.beq pc 10 then some (.iadd, 1, []) else none) else (bif Nat.blt pc 12 then (bif Nat.beq pc 11 then some (.iload_n 2, 1, []) else none) else (bif Nat.beq pc 12 then some (.iadd, 1, []) else none))) else (bif Nat.blt pc 14 then (bif Nat.beq pc 13 then some (.iload_n 3, 1, []) else none) else (bif Nat.blt pc 15 then (bif Nat.beq pc 14 then some (.iastore, 1, []) else none) else (bif Nat.beq pc 15 then some (.return_, 1, []) else none))))
/-- X5_rule -/
def I_X5_rule (pc : Nat) : Option IE := bif Nat.blt pc 6 then (bif Nat.blt pc 1 then (bif Nat.beq pc 0 then some (.aload_n 0, 1, []) else none) else (bif Nat.blt pc 4 then (bif Nat.beq pc 1 then some (.getfield 7, 3, [4, 0, 1, 830]) else none) else (bif Nat.beq pc 4 then some (.bipush 9, 2, []) else none))) else (bif Nat.blt pc 8 then (bif Nat.blt pc 7 then (bif Nat.beq pc 6 then some (.iload_n 1, 1, []) else none) else (bif Nat.beq pc 7 then some (.iadd, 1, []) else none)) else (bif Nat.blt pc 9 then (bif Nat.beq pc 8 then some (.iaload, 1, []) else none) else (bif Nat.beq pc 9 then some (.ireturn, 1, [0]) else none)))
/-- X5_save -/
def I_X5_save (pc : Nat) : Option IE := bif Nat.blt pc 50 then (bif Nat.blt pc 24 then (bif Nat.blt pc 11 then (bif Nat.blt pc 6 then (bif Nat.blt pc 1 then (bif Nat.beq pc 0 then some (.aload_n 0, 1, []) else none) else (bif Nat.blt pc 4 then (bif Nat.beq pc 1 then some (.getfield 47, 3, [4, 14, 0, 844]) else none) else (bif Nat.beq pc 4 then some (.bipush 6, 2, []) else none))) else (bif Nat.blt pc 9 then (bif Nat.beq pc 6 then some (.if_icmp .ne 44, 3, [50]) else none) else (bif Nat.blt pc 10 then (bif Nat.beq pc 9 then some (.iconst 0, 1, []) else none) else (bif Nat.beq pc 10 then some (.istore_n 1, 1, []) else none)))) else (bif Nat.blt pc 18 then (bif Nat.blt pc 12 then (bif Nat.beq pc 11 then some (.iload_n 1, 1, []) else none) else (bif Nat.blt pc 15 then (bif Nat.beq pc 12 then some (.sipush 1620, 3, []) else none) else (bif Nat.beq pc 15 then some (.if_icmp .ge 25, 3, [40]) else none))) else (bif Nat.blt pc 22 then (bif Nat.blt pc 19 then (bif Nat.beq pc 18 then some (.aload_n 0, 1, []) else none) else (bif Nat.beq pc 19 then some (.getfield 16, 3, [4, 2, 1, 832]) else none)) else (bif Nat.blt pc 23 then (bif Nat.beq pc 22 then some (.iload_n 1, 1, []) else none) else (bif Nat.beq pc 23 then some (.aload_n 0, 1, []) else none))))) else (bif Nat.blt pc 37 then (bif Nat.blt pc 31 then (bif Nat.blt pc 27 then (bif Nat.beq pc 24 then some (.getfield 16, 3, [4, 2, 1, 832]) else none) else (bif Nat.blt pc 30 then (bif Nat.beq pc 27 then some (.sipush 324, 3, []) else none) else (bif Nat.beq pc 30 then some (.iload_n 1, 1, []) else none))) else (bif Nat.blt pc 33 then (bif Nat.blt pc 32 then (bif Nat.beq pc 31 then some (.iadd, 1, []) else none) else (bif Nat.beq pc 32 then some (.iaload, 1, []) else none)) else (bif Nat.blt pc 34 then (bif Nat.beq pc 33 then some (.iastore, 1, []) else none) else (bif Nat.beq pc 34 then some (.iinc 1 1, 3, []) else none)))) else (bif Nat.blt pc 42 then (bif Nat.blt pc 40 then (bif Nat.beq pc 37 then some (.goto (-26), 3, [11]) else none) else (bif Nat.blt pc 41 then (bif Nat.beq pc 40 then some (.aload_n 0, 1, []) else none) else (bif Nat.beq pc 41 then some (.dup, 1, []) else none))) else (bif Nat.blt pc 46 then (bif Nat.blt pc 45 then (bif Nat.beq pc 42 then some (.getfield 47, 3, [4, 14, 0, 844]) else none) else (bif Nat.beq pc 45 then some (.iconst 1, 1, []) else none)) else (bif Nat.blt pc 47 then (bif Nat.beq pc 46 then some (.isub, 1, []) else none) else (bif Nat.beq pc 47 then some (.putfield 47, 3, [4, 14, 0, 844]) else none)))))) else (bif Nat.blt pc 73 then (bif Nat.blt pc 60 then (bif Nat.blt pc 53 then (bif Nat.blt pc 51 then (bif Nat.beq pc 50 then some (.iconst 0, 1, []) else none) else (bif Nat.blt pc 52 then (bif Nat.beq pc 51 then some (.istore_n 1, 1, []) else none) else (bif Nat.beq pc 52 then some (.iload_n 1, 1, []) else none))) else (bif Nat.blt pc 56 then (bif Nat.beq pc 53 then some (.sipush 324, 3, []) else none) else (bif Nat.blt pc 59 then (bif Nat.beq pc 56 then some (.if_icmp .ge 30, 3, [86]) else none) else (bif Nat.beq pc 59 then some (.aload_n 0, 1, []) else none)))) else (bif Nat.blt pc 67 then (bif Nat.blt pc 63 then (bif Nat.beq pc 60 then some (.getfield 16, 3, [4, 2, 1, 832]) else none) else (bif Nat.blt pc 66 then (bif Nat.beq pc 63 then some (.sipush 324, 3, []) else none) else (bif Nat.beq pc 66 then some (.aload_n 0, 1, []) else none))) else (bif Nat.blt pc 71 then (bif Nat.blt pc 70 then (bif Nat.beq pc 67 then some (.getfield 47, 3, [4, 14, 0, 844]) else none) else (bif Nat.beq pc 70 then some (.imul, 1, []) else none)) else (bif Nat.blt pc 72 then (bif Nat.beq pc 71 then some (.iload_n 1, 1, []) else none) else (bif Nat.beq pc 72 then some (.iadd, 1, []) else none))))) else (bif Nat.blt pc 86 then (bif Nat.blt pc 78 then (bif Nat.blt pc 74 then (bif Nat.beq pc 73 then some (.aload_n 0, 1, []) else none) else (bif Nat.blt pc 77 then (bif Nat.beq pc 74 then some (.getfield 7, 3, [4, 0, 1, 830]) else none) else (bif Nat.beq pc 77 then some (.iload_n 1, 1, []) else none))) else (bif Nat.blt pc 80 then (bif Nat.blt pc 79 then (bif Nat.beq pc 78 then some (.iaload, 1, []) else none) else (bif Nat.beq pc 79 then some (.iastore, 1, []) else none)) else (bif Nat.blt pc 83 then (bif Nat.beq pc 80 then some (.iinc 1 1, 3, []) else none) else (bif Nat.beq pc 83 then some (.goto (-31), 3, [52]) else none)))) else (bif Nat.blt pc 91 then (bif Nat.blt pc 87 then (bif Nat.beq pc 86 then some (.aload_n 0, 1, []) else none) else (bif Nat.blt pc 88 then (bif Nat.beq pc 87 then some (.dup, 1, []) else none) else (bif Nat.beq pc 88 then some (.getfield 47, 3, [4, 14, 0, 844]) else none))) else (bif Nat.blt pc 93 then (bif Nat.blt pc 92 then (bif Nat.beq pc 91 then some (.iconst 1, 1, []) else none) else (bif Nat.beq pc 92 then some (.iadd, 1, []) else none)) else (bif Nat.blt pc 96 then (bif Nat.beq pc 93 then some (.putfield 47, 3, [4, 14, 0, 844]) else none) else (bif Nat.beq pc 96 then some (.return_, 1, []) else none))))))
/-- X5_keep -/
def I_X5_keep (pc : Nat) : Option IE := bif Nat.blt pc 14 then (bif Nat.blt pc 6 then (bif Nat.blt pc 2 then (bif Nat.blt pc 1 then (bif Nat.beq pc 0 then some (.iconst 0, 1, []) else none) else (bif Nat.beq pc 1 then some (.istore_n 1, 1, []) else none)) else (bif Nat.blt pc 3 then (bif Nat.beq pc 2 then some (.iload_n 1, 1, []) else none) else (bif Nat.beq pc 3 then some (.sipush 324, 3, []) else none))) else (bif Nat.blt pc 10 then (bif Nat.blt pc 9 then (bif Nat.beq pc 6 then some (.if_icmp .ge 21, 3, [27]) else none) else (bif Nat.beq pc 9 then some (.aload_n 0, 1, []) else none)) else (bif Nat.blt pc 13 then (bif Nat.beq pc 10 then some (.getfield 13, 3, [4, 1, 1, 831]) else none) else (bif Nat.beq pc 13 then some (.iload_n 1, 1, []) else none)))) else (bif Nat.blt pc 20 then (bif Nat.blt pc 18 then (bif Nat.blt pc 15 then (bif Nat.beq pc 14 then some (.aload_n 0, 1, []) else none) else (bif Nat.beq pc 15 then some (.getfield 7, 3, [4, 0, 1, 830]) else none)) else (bif Nat.blt pc 19 then (bif Nat.beq pc 18 then some (.iload_n 1, 1, []) else none) else (bif Nat.beq pc 19 then some (.iaload, 1, []) else none))) else (bif Nat.blt pc 24 then (bif Nat.blt pc 21 then (bif Nat.beq pc 20 then some (.iastore, 1, []) else none) else (bif Nat.beq pc 21 then some (.iinc 1 1, 3, []) else none)) else (bif Nat.blt pc 27 then (bif Nat.beq pc 24 then some (.goto (-22), 3, [2]) else none) else (bif Nat.beq pc 27 then some (.return_, 1, []) else none))))
/-- X5_bring -/
def I_X5_bring (pc : Nat) : Option IE := bif Nat.blt pc 14 then (bif Nat.blt pc 6 then (bif Nat.blt pc 2 then (bif Nat.blt pc 1 then (bif Nat.beq pc 0 then some (.iconst 0, 1, []) else none) else (bif Nat.beq pc 1 then some (.istore_n 1, 1, []) else none)) else (bif Nat.blt pc 3 then (bif Nat.beq pc 2 then some (.iload_n 1, 1, []) else none) else (bif Nat.beq pc 3 then some (.sipush 324, 3, []) else none))) else (bif Nat.blt pc 10 then (bif Nat.blt pc 9 then (bif Nat.beq pc 6 then some (.if_icmp .ge 21, 3, [27]) else none) else (bif Nat.beq pc 9 then some (.aload_n 0, 1, []) else none)) else (bif Nat.blt pc 13 then (bif Nat.beq pc 10 then some (.getfield 7, 3, [4, 0, 1, 830]) else none) else (bif Nat.beq pc 13 then some (.iload_n 1, 1, []) else none)))) else (bif Nat.blt pc 20 then (bif Nat.blt pc 18 then (bif Nat.blt pc 15 then (bif Nat.beq pc 14 then some (.aload_n 0, 1, []) else none) else (bif Nat.beq pc 15 then some (.getfield 13, 3, [4, 1, 1, 831]) else none)) else (bif Nat.blt pc 19 then (bif Nat.beq pc 18 then some (.iload_n 1, 1, []) else none) else (bif Nat.beq pc 19 then some (.iaload, 1, []) else none))) else (bif Nat.blt pc 24 then (bif Nat.blt pc 21 then (bif Nat.beq pc 20 then some (.iastore, 1, []) else none) else (bif Nat.beq pc 21 then some (.iinc 1 1, 3, []) else none)) else (bif Nat.blt pc 27 then (bif Nat.beq pc 24 then some (.goto (-22), 3, [2]) else none) else (bif Nat.beq pc 27 then some (.return_, 1, []) else none))))
/-- X5_entries -/
def I_X5_entries (pc : Nat) : Option IE := bif Nat.blt pc 7 then (bif Nat.blt pc 4 then (bif Nat.blt pc 1 then (bif Nat.beq pc 0 then some (.aload_n 0, 1, []) else none) else (bif Nat.beq pc 1 then some (.getfield 7, 3, [4, 0, 1, 830]) else none)) else (bif Nat.blt pc 5 then (bif Nat.beq pc 4 then some (.iconst 2, 1, []) else none) else (bif Nat.blt pc 6 then (bif Nat.beq pc 5 then some (.iaload, 1, []) else none) else (bif Nat.beq pc 6 then some (.aload_n 0, 1, []) else none)))) else (bif Nat.blt pc 11 then (bif Nat.blt pc 10 then (bif Nat.beq pc 7 then some (.getfield 7, 3, [4, 0, 1, 830]) else none) else (bif Nat.beq pc 10 then some (.iconst 3, 1, []) else none)) else (bif Nat.blt pc 12 then (bif Nat.beq pc 11 then some (.iaload, 1, []) else none) else (bif Nat.blt pc 13 then (bif Nat.beq pc 12 then some (.isub, 1, []) else none) else (bif Nat.beq pc 13 then some (.ireturn, 1, [0]) else none))))
/-- X5_set -/
def I_X5_set (pc : Nat) : Option IE := bif Nat.blt pc 35 then (bif Nat.blt pc 16 then (bif Nat.blt pc 7 then (bif Nat.blt pc 2 then (bif Nat.blt pc 1 then (bif Nat.beq pc 0 then some (.aload_n 0, 1, []) else none) else (bif Nat.beq pc 1 then some (.iconst 0, 1, []) else none)) else (bif Nat.blt pc 5 then (bif Nat.beq pc 2 then some (.putfield 43, 3, [4, 16, 0, 846]) else none) else (bif Nat.blt pc 6 then (bif Nat.beq pc 5 then some (.iload_n 1, 1, []) else none) else (bif Nat.beq pc 6 then some (.iconst 0, 1, []) else none)))) else (bif Nat.blt pc 11 then (bif Nat.blt pc 8 then (bif Nat.beq pc 7 then some (.iconst 2, 1, []) else none) else (bif Nat.beq pc 8 then some (.invokestatic 50, 3, [1, 104, 3, 899, 4, 3, 1]) else none)) else (bif Nat.blt pc 14 then (bif Nat.beq pc 11 then some (.ifCond .ne 9, 3, [20]) else none) else (bif Nat.blt pc 15 then (bif Nat.beq pc 14 then some (.aload_n 0, 1, []) else none) else (bif Nat.beq pc 15 then some (.iconst 1, 1, []) else none))))) else (bif Nat.blt pc 23 then (bif Nat.blt pc 20 then (bif Nat.blt pc 19 then (bif Nat.beq pc 16 then some (.invokevirtual 54, 3, [0, 103, 1, 902, 4, 2, 1]) else none) else (bif Nat.beq pc 19 then some (.ireturn, 1, [0]) else none)) else (bif Nat.blt pc 21 then (bif Nat.beq pc 20 then some (.iload_n 2, 1, []) else none) else (bif Nat.blt pc 22 then (bif Nat.beq pc 21 then some (.iconst 1, 1, []) else none) else (bif Nat.beq pc 22 then some (.iload_n 1, 1, []) else none)))) else (bif Nat.blt pc 28 then (bif Nat.blt pc 26 then (bif Nat.beq pc 23 then some (.ifCond .ne 8, 3, [31]) else none) else (bif Nat.beq pc 26 then some (.bipush 8, 2, []) else none)) else (bif Nat.blt pc 31 then (bif Nat.beq pc 28 then some (.goto 4, 3, [32]) else none) else (bif Nat.blt pc 32 then (bif Nat.beq pc 31 then some (.iconst 4, 1, []) else none) else (bif Nat.beq pc 32 then some (.invokestatic 50, 3, [1, 104, 3, 899, 4, 3, 1]) else none)))))) else (bif Nat.blt pc 53 then (bif Nat.blt pc 44 then (bif Nat.blt pc 39 then (bif Nat.blt pc 38 then (bif Nat.beq pc 35 then some (.ifCond .ne 9, 3, [44]) else none) else (bif Nat.beq pc 38 then some (.aload_n 0, 1, []) else none)) else (bif Nat.blt pc 40 then (bif Nat.beq pc 39 then some (.iconst 2, 1, []) else none) else (bif Nat.blt pc 43 then (bif Nat.beq pc 40 then some (.invokevirtual 54, 3, [0, 103, 1, 902, 4, 2, 1]) else none) else (bif Nat.beq pc 43 then some (.ireturn, 1, [0]) else none)))) else (bif Nat.blt pc 48 then (bif Nat.blt pc 45 then (bif Nat.beq pc 44 then some (.aload_n 0, 1, []) else none) else (bif Nat.beq pc 45 then some (.invokevirtual 58, 3, [0, 108, 0, 906, 4, 2, 0]) else none)) else (bif Nat.blt pc 49 then (bif Nat.beq pc 48 then some (.aload_n 0, 1, []) else none) else (bif Nat.blt pc 50 then (bif Nat.beq pc 49 then some (.iload_n 1, 1, []) else none) else (bif Nat.beq pc 50 then some (.invokevirtual 61, 3, [0, 107, 1, 910, 4, 2, 1]) else none))))) else (bif Nat.blt pc 61 then (bif Nat.blt pc 55 then (bif Nat.blt pc 54 then (bif Nat.beq pc 53 then some (.istore_n 3, 1, []) else none) else (bif Nat.beq pc 54 then some (.aload_n 0, 1, []) else none)) else (bif Nat.blt pc 58 then (bif Nat.beq pc 55 then some (.getfield 7, 3, [4, 0, 1, 830]) else none) else (bif Nat.blt pc 60 then (bif Nat.beq pc 58 then some (.bipush 9, 2, []) else none) else (bif Nat.beq pc 60 then some (.iload_n 1, 1, []) else none)))) else (bif Nat.blt pc 63 then (bif Nat.blt pc 62 then (bif Nat.beq pc 61 then some (.iadd, 1, []) else none) else (bif Nat.beq pc 62 then some (.iload_n 2, 1, []) else none)) else (bif Nat.blt pc 64 then (bif Nat.beq pc 63 then some (.iastore, 1, []) else none) else (bif Nat.blt pc 65 then (bif Nat.beq pc 64 then some (.iload_n 3, 1, []) else none) else (bif Nat.beq pc 65 then some (.ireturn, 1, [0]) else none))))))
/-- X5_isValue -/
def I_X5_isValue (pc : Nat) : Option IE := bif Nat.blt pc 17 then (bif Nat.blt pc 9 then (bif Nat.blt pc 3 then (bif Nat.blt pc 1 then (bif Nat.beq pc 0 then some (.iload_n 0, 1, []) else none) else (bif Nat.beq pc 1 then some (.ldc 64, 2, [0, 2147483647, 925]) else none)) else (bif Nat.blt pc 4 then (bif Nat.beq pc 3 then some (.iand, 1, []) else none) else (bif Nat.blt pc 6 then (bif Nat.beq pc 4 then some (.ldc 65, 2, [0, 2139095040, 926]) else none) else (bif Nat.beq pc 6 then some (.if_icmp .le 5, 3, [11]) else none)))) else (bif Nat.blt pc 12 then (bif Nat.blt pc 10 then (bif Nat.beq pc 9 then some (.iconst 0, 1, []) else none) else (bif Nat.blt pc 11 then (bif Nat.beq pc 10 then some (.ireturn, 1, [1]) else none) else (bif Nat.beq pc 11 then some (.iload_n 0, 1, []) else none))) else (bif Nat.blt pc 15 then (bif Nat.beq pc 12 then some (.invokestatic 66, 3, [6, 0, 1, 927]) else none) else (bif Nat.blt pc 16 then (bif Nat.beq pc 15 then some (.fstore_n 1, 1, []) else none) else (bif Nat.beq pc 16 then some (.fload_n 1, 1, []) else none))))) else (bif Nat.blt pc 26 then (bif Nat.blt pc 20 then (bif Nat.blt pc 19 then (bif Nat.beq pc 17 then some (.ldc 72, 2, [1, 3379831808, 930]) else none) else (bif Nat.beq pc 19 then some (.fcmp .l, 1, []) else none)) else (bif Nat.blt pc 23 then (bif Nat.beq pc 20 then some (.ifCond .lt 14, 3, [34]) else none) else (bif Nat.blt pc 24 then (bif Nat.beq pc 23 then some (.fload_n 1, 1, []) else none) else (bif Nat.beq pc 24 then some (.ldc 73, 2, [1, 1232348160, 931]) else none)))) else (bif Nat.blt pc 31 then (bif Nat.blt pc 27 then (bif Nat.beq pc 26 then some (.fcmp .g, 1, []) else none) else (bif Nat.blt pc 30 then (bif Nat.beq pc 27 then some (.ifCond .gt 7, 3, [34]) else none) else (bif Nat.beq pc 30 then some (.iconst 1, 1, []) else none))) else (bif Nat.blt pc 34 then (bif Nat.beq pc 31 then some (.goto 4, 3, [35]) else none) else (bif Nat.blt pc 35 then (bif Nat.beq pc 34 then some (.iconst 0, 1, []) else none) else (bif Nat.beq pc 35 then some (.ireturn, 1, [1]) else none)))))
/-- X5_puts -/
def I_X5_puts (pc : Nat) : Option IE := bif Nat.blt pc 26 then (bif Nat.blt pc 13 then (bif Nat.blt pc 7 then (bif Nat.blt pc 1 then (bif Nat.beq pc 0 then some (.iload_n 2, 1, []) else none) else (bif Nat.blt pc 4 then (bif Nat.beq pc 1 then some (.invokestatic 74, 3, [1, 113, 1, 922, 4, 2, 1]) else none) else (bif Nat.beq pc 4 then some (.ifCond .ne 9, 3, [13]) else none))) else (bif Nat.blt pc 9 then (bif Nat.blt pc 8 then (bif Nat.beq pc 7 then some (.aload_n 0, 1, []) else none) else (bif Nat.beq pc 8 then some (.iconst 2, 1, []) else none)) else (bif Nat.blt pc 12 then (bif Nat.beq pc 9 then some (.invokevirtual 54, 3, [0, 103, 1, 902, 4, 2, 1]) else none) else (bif Nat.beq pc 12 then some (.ireturn, 1, [0]) else none)))) else (bif Nat.blt pc 20 then (bif Nat.blt pc 14 then (bif Nat.beq pc 13 then some (.aload_n 0, 1, []) else none) else (bif Nat.blt pc 17 then (bif Nat.beq pc 14 then some (.invokevirtual 78, 3, [0, 111, 0, 932, 4, 1, 1]) else none) else (bif Nat.beq pc 17 then some (.ifCond .le 9, 3, [26]) else none))) else (bif Nat.blt pc 22 then (bif Nat.blt pc 21 then (bif Nat.beq pc 20 then some (.aload_n 0, 1, []) else none) else (bif Nat.beq pc 21 then some (.iconst 3, 1, []) else none)) else (bif Nat.blt pc 25 then (bif Nat.beq pc 22 then some (.invokevirtual 54, 3, [0, 103, 1, 902, 4, 2, 1]) else none) else (bif Nat.beq pc 25 then some (.ireturn, 1, [0]) else none))))) else (bif Nat.blt pc 37 then (bif Nat.blt pc 31 then (bif Nat.blt pc 27 then (bif Nat.beq pc 26 then some (.aload_n 0, 1, []) else none) else (bif Nat.blt pc 30 then (bif Nat.beq pc 27 then some (.invokevirtual 58, 3, [0, 108, 0, 906, 4, 2, 0]) else none) else (bif Nat.beq pc 30 then some (.aload_n 0, 1, []) else none))) else (bif Nat.blt pc 35 then (bif Nat.blt pc 34 then (bif Nat.beq pc 31 then some (.getfield 7, 3, [4, 0, 1, 830]) else none) else (bif Nat.beq pc 34 then some (.iload_n 1, 1, []) else none)) else (bif Nat.blt pc 36 then (bif Nat.beq pc 35 then some (.iaload, 1, []) else none) else (bif Nat.beq pc 36 then some (.istore_n 3, 1, []) else none)))) else (bif Nat.blt pc 42 then (bif Nat.blt pc 38 then (bif Nat.beq pc 37 then some (.aload_n 0, 1, []) else none) else (bif Nat.blt pc 41 then (bif Nat.beq pc 38 then some (.getfield 7, 3, [4, 0, 1, 830]) else none) else (bif Nat.beq pc 41 then some (.iload_n 1, 1, []) else none))) else (bif Nat.blt pc 44 then (bif Nat.blt pc 43 then (bif Nat.beq pc 42 then some (.iload_n 2, 1, []) else none) else (bif Nat.beq pc 43 then some (.iastore, 1, []) else none)) else (bif Nat.blt pc 45 then (bif Nat.beq pc 44 then some (.iload_n 3, 1, []) else none) else (bif Nat.beq pc 45 then some (.ireturn, 1, [0]) else none)))))
/-- X5_putRegister -/
def I_X5_putRegister (pc : Nat) : Option IE := bif Nat.blt pc 16 then (bif Nat.blt pc 6 then (bif Nat.blt pc 2 then (bif Nat.blt pc 1 then (bif Nat.beq pc 0 then some (.aload_n 0, 1, []) else none) else (bif Nat.beq pc 1 then some (.iconst 0, 1, []) else none)) else (bif Nat.blt pc 5 then (bif Nat.beq pc 2 then some (.putfield 43, 3, [4, 16, 0, 846]) else none) else (bif Nat.beq pc 5 then some (.iload_n 1, 1, []) else none))) else (bif Nat.blt pc 9 then (bif Nat.blt pc 7 then (bif Nat.beq pc 6 then some (.iconst 0, 1, []) else none) else (bif Nat.beq pc 7 then some (.bipush 7, 2, []) else none)) else (bif Nat.blt pc 12 then (bif Nat.beq pc 9 then some (.invokestatic 50, 3, [1, 104, 3, 899, 4, 3, 1]) else none) else (bif Nat.blt pc 15 then (bif Nat.beq pc 12 then some (.ifCond .eq 15, 3, [27]) else none) else (bif Nat.beq pc 15 then some (.aload_n 0, 1, []) else none))))) else (bif Nat.blt pc 24 then (bif Nat.blt pc 19 then (bif Nat.blt pc 18 then (bif Nat.beq pc 16 then some (.bipush 12, 2, []) else none) else (bif Nat.beq pc 18 then some (.iload_n 1, 1, []) else none)) else (bif Nat.blt pc 20 then (bif Nat.beq pc 19 then some (.iadd, 1, []) else none) else (bif Nat.blt pc 21 then (bif Nat.beq pc 20 then some (.iload_n 2, 1, []) else none) else (bif Nat.beq pc 21 then some (.invokevirtual 82, 3, [0, 114, 2, 918, 4, 4, 1]) else none)))) else (bif Nat.blt pc 28 then (bif Nat.blt pc 27 then (bif Nat.beq pc 24 then some (.goto 8, 3, [32]) else none) else (bif Nat.beq pc 27 then some (.aload_n 0, 1, []) else none)) else (bif Nat.blt pc 29 then (bif Nat.beq pc 28 then some (.iconst 1, 1, []) else none) else (bif Nat.blt pc 32 then (bif Nat.beq pc 29 then some (.invokevirtual 54, 3, [0, 103, 1, 902, 4, 2, 1]) else none) else (bif Nat.beq pc 32 then some (.ireturn, 1, [0]) else none)))))
/-- X5_putCell -/
def I_X5_putCell (pc : Nat) : Option IE := bif Nat.blt pc 16 then (bif Nat.blt pc 6 then (bif Nat.blt pc 2 then (bif Nat.blt pc 1 then (bif Nat.beq pc 0 then some (.aload_n 0, 1, []) else none) else (bif Nat.beq pc 1 then some (.iconst 0, 1, []) else none)) else (bif Nat.blt pc 5 then (bif Nat.beq pc 2 then some (.putfield 43, 3, [4, 16, 0, 846]) else none) else (bif Nat.beq pc 5 then some (.iload_n 1, 1, []) else none))) else (bif Nat.blt pc 9 then (bif Nat.blt pc 7 then (bif Nat.beq pc 6 then some (.iconst 0, 1, []) else none) else (bif Nat.beq pc 7 then some (.bipush 15, 2, []) else none)) else (bif Nat.blt pc 12 then (bif Nat.beq pc 9 then some (.invokestatic 50, 3, [1, 104, 3, 899, 4, 3, 1]) else none) else (bif Nat.blt pc 15 then (bif Nat.beq pc 12 then some (.ifCond .eq 15, 3, [27]) else none) else (bif Nat.beq pc 15 then some (.aload_n 0, 1, []) else none))))) else (bif Nat.blt pc 24 then (bif Nat.blt pc 19 then (bif Nat.blt pc 18 then (bif Nat.beq pc 16 then some (.bipush 20, 2, []) else none) else (bif Nat.beq pc 18 then some (.iload_n 1, 1, []) else none)) else (bif Nat.blt pc 20 then (bif Nat.beq pc 19 then some (.iadd, 1, []) else none) else (bif Nat.blt pc 21 then (bif Nat.beq pc 20 then some (.iload_n 2, 1, []) else none) else (bif Nat.beq pc 21 then some (.invokevirtual 82, 3, [0, 114, 2, 918, 4, 4, 1]) else none)))) else (bif Nat.blt pc 28 then (bif Nat.blt pc 27 then (bif Nat.beq pc 24 then some (.goto 8, 3, [32]) else none) else (bif Nat.beq pc 27 then some (.aload_n 0, 1, []) else none)) else (bif Nat.blt pc 29 then (bif Nat.beq pc 28 then some (.iconst 1, 1, []) else none) else (bif Nat.blt pc 32 then (bif Nat.beq pc 29 then some (.invokevirtual 54, 3, [0, 103, 1, 902, 4, 2, 1]) else none) else (bif Nat.beq pc 32 then some (.ireturn, 1, [0]) else none)))))
/-- X5_makes -/
def I_X5_makes (pc : Nat) : Option IE := bif Nat.blt pc 12 then (bif Nat.blt pc 6 then (bif Nat.blt pc 2 then (bif Nat.blt pc 1 then (bif Nat.beq pc 0 then some (.aload_n 0, 1, []) else none) else (bif Nat.beq pc 1 then some (.iload_n 1, 1, []) else none)) else (bif Nat.blt pc 3 then (bif Nat.beq pc 2 then some (.iconst 0, 1, []) else none) else (bif Nat.beq pc 3 then some (.invokevirtual 86, 3, [0, 105, 2, 948, 4, 3, 1]) else none))) else (bif Nat.blt pc 10 then (bif Nat.blt pc 7 then (bif Nat.beq pc 6 then some (.iconst 4, 1, []) else none) else (bif Nat.beq pc 7 then some (.if_icmp .eq 17, 3, [24]) else none)) else (bif Nat.blt pc 11 then (bif Nat.beq pc 10 then some (.aload_n 0, 1, []) else none) else (bif Nat.beq pc 11 then some (.iload_n 1, 1, []) else none)))) else (bif Nat.blt pc 20 then (bif Nat.blt pc 16 then (bif Nat.blt pc 13 then (bif Nat.beq pc 12 then some (.iconst 1, 1, []) else none) else (bif Nat.beq pc 13 then some (.invokevirtual 86, 3, [0, 105, 2, 948, 4, 3, 1]) else none)) else (bif Nat.blt pc 17 then (bif Nat.beq pc 16 then some (.iload_n 2, 1, []) else none) else (bif Nat.beq pc 17 then some (.if_icmp .ne 7, 3, [24]) else none))) else (bif Nat.blt pc 24 then (bif Nat.blt pc 21 then (bif Nat.beq pc 20 then some (.iconst 1, 1, []) else none) else (bif Nat.beq pc 21 then some (.goto 4, 3, [25]) else none)) else (bif Nat.blt pc 25 then (bif Nat.beq pc 24 then some (.iconst 0, 1, []) else none) else (bif Nat.beq pc 25 then some (.ireturn, 1, [1]) else none))))
/-- X5_maker -/
def I_X5_maker (pc : Nat) : Option IE := bif Nat.blt pc 17 then (bif Nat.blt pc 6 then (bif Nat.blt pc 3 then (bif Nat.blt pc 1 then (bif Nat.beq pc 0 then some (.iload_n 1, 1, []) else none) else (bif Nat.blt pc 2 then (bif Nat.beq pc 1 then some (.iconst 1, 1, []) else none) else (bif Nat.beq pc 2 then some (.isub, 1, []) else none))) else (bif Nat.blt pc 4 then (bif Nat.beq pc 3 then some (.istore_n 3, 1, []) else none) else (bif Nat.blt pc 5 then (bif Nat.beq pc 4 then some (.iload_n 3, 1, []) else none) else (bif Nat.beq pc 5 then some (.aload_n 0, 1, []) else none)))) else (bif Nat.blt pc 11 then (bif Nat.blt pc 9 then (bif Nat.beq pc 6 then some (.getfield 7, 3, [4, 0, 1, 830]) else none) else (bif Nat.blt pc 10 then (bif Nat.beq pc 9 then some (.iconst 3, 1, []) else none) else (bif Nat.beq pc 10 then some (.iaload, 1, []) else none))) else (bif Nat.blt pc 15 then (bif Nat.blt pc 14 then (bif Nat.beq pc 11 then some (.if_icmp .lt 18, 3, [29]) else none) else (bif Nat.beq pc 14 then some (.aload_n 0, 1, []) else none)) else (bif Nat.blt pc 16 then (bif Nat.beq pc 15 then some (.iload_n 3, 1, []) else none) else (bif Nat.beq pc 16 then some (.iload_n 2, 1, []) else none))))) else (bif Nat.blt pc 34 then (bif Nat.blt pc 26 then (bif Nat.blt pc 20 then (bif Nat.beq pc 17 then some (.invokevirtual 89, 3, [0, 117, 2, 994, 4, 3, 1]) else none) else (bif Nat.blt pc 23 then (bif Nat.beq pc 20 then some (.ifCond .ne 9, 3, [29]) else none) else (bif Nat.beq pc 23 then some (.iinc 3 (-1), 3, []) else none))) else (bif Nat.blt pc 30 then (bif Nat.blt pc 29 then (bif Nat.beq pc 26 then some (.goto (-22), 3, [4]) else none) else (bif Nat.beq pc 29 then some (.iload_n 3, 1, []) else none)) else (bif Nat.blt pc 31 then (bif Nat.beq pc 30 then some (.aload_n 0, 1, []) else none) else (bif Nat.beq pc 31 then some (.getfield 7, 3, [4, 0, 1, 830]) else none)))) else (bif Nat.blt pc 39 then (bif Nat.blt pc 35 then (bif Nat.beq pc 34 then some (.iconst 3, 1, []) else none) else (bif Nat.blt pc 36 then (bif Nat.beq pc 35 then some (.iaload, 1, []) else none) else (bif Nat.beq pc 36 then some (.if_icmp .ge 7, 3, [43]) else none))) else (bif Nat.blt pc 43 then (bif Nat.blt pc 40 then (bif Nat.beq pc 39 then some (.iconst (-1), 1, []) else none) else (bif Nat.beq pc 40 then some (.goto 4, 3, [44]) else none)) else (bif Nat.blt pc 44 then (bif Nat.beq pc 43 then some (.iload_n 3, 1, []) else none) else (bif Nat.beq pc 44 then some (.ireturn, 1, [0]) else none)))))
/-- X5_hasOne -/
def I_X5_hasOne (pc : Nat) : Option IE := bif Nat.blt pc 6 then (bif Nat.blt pc 2 then (bif Nat.blt pc 1 then (bif Nat.beq pc 0 then some (.aload_n 0, 1, []) else none) else (bif Nat.beq pc 1 then some (.iload_n 1, 1, []) else none)) else (bif Nat.blt pc 3 then (bif Nat.beq pc 2 then some (.iconst 0, 1, []) else none) else (bif Nat.beq pc 3 then some (.invokevirtual 86, 3, [0, 105, 2, 948, 4, 3, 1]) else none))) else (bif Nat.blt pc 10 then (bif Nat.blt pc 9 then (bif Nat.beq pc 6 then some (.ifCond .eq 7, 3, [13]) else none) else (bif Nat.beq pc 9 then some (.iconst 1, 1, []) else none)) else (bif Nat.blt pc 13 then (bif Nat.beq pc 10 then some (.goto 4, 3, [14]) else none) else (bif Nat.blt pc 14 then (bif Nat.beq pc 13 then some (.iconst 0, 1, []) else none) else (bif Nat.beq pc 14 then some (.ireturn, 1, [1]) else none))))
/-- X5_hasOther -/
def I_X5_hasOther (pc : Nat) : Option IE := bif Nat.blt pc 11 then (bif Nat.blt pc 3 then (bif Nat.blt pc 1 then (bif Nat.beq pc 0 then some (.aload_n 0, 1, []) else none) else (bif Nat.blt pc 2 then (bif Nat.beq pc 1 then some (.iload_n 1, 1, []) else none) else (bif Nat.beq pc 2 then some (.iconst 0, 1, []) else none))) else (bif Nat.blt pc 9 then (bif Nat.blt pc 6 then (bif Nat.beq pc 3 then some (.invokevirtual 86, 3, [0, 105, 2, 948, 4, 3, 1]) else none) else (bif Nat.beq pc 6 then some (.ifCond .eq 17, 3, [23]) else none)) else (bif Nat.blt pc 10 then (bif Nat.beq pc 9 then some (.aload_n 0, 1, []) else none) else (bif Nat.beq pc 10 then some (.iload_n 1, 1, []) else none)))) else (bif Nat.blt pc 19 then (bif Nat.blt pc 15 then (bif Nat.blt pc 12 then (bif Nat.beq pc 11 then some (.iconst 0, 1, []) else none) else (bif Nat.beq pc 12 then some (.invokevirtual 86, 3, [0, 105, 2, 948, 4, 3, 1]) else none)) else (bif Nat.blt pc 16 then (bif Nat.beq pc 15 then some (.iconst 3, 1, []) else none) else (bif Nat.beq pc 16 then some (.if_icmp .eq 7, 3, [23]) else none))) else (bif Nat.blt pc 23 then (bif Nat.blt pc 20 then (bif Nat.beq pc 19 then some (.iconst 1, 1, []) else none) else (bif Nat.beq pc 20 then some (.goto 4, 3, [24]) else none)) else (bif Nat.blt pc 24 then (bif Nat.beq pc 23 then some (.iconst 0, 1, []) else none) else (bif Nat.beq pc 24 then some (.ireturn, 1, [1]) else none))))
/-- X5_isReady -/
def I_X5_isReady (pc : Nat) : Option IE := bif Nat.blt pc 13 then (bif Nat.blt pc 6 then (bif Nat.blt pc 2 then (bif Nat.blt pc 1 then (bif Nat.beq pc 0 then some (.aload_n 0, 1, []) else none) else (bif Nat.beq pc 1 then some (.iload_n 1, 1, []) else none)) else (bif Nat.blt pc 3 then (bif Nat.beq pc 2 then some (.iload_n 2, 1, []) else none) else (bif Nat.beq pc 3 then some (.invokevirtual 93, 3, [0, 118, 2, 990, 4, 4, 1]) else none))) else (bif Nat.blt pc 8 then (bif Nat.blt pc 7 then (bif Nat.beq pc 6 then some (.istore_n 3, 1, []) else none) else (bif Nat.beq pc 7 then some (.iload_n 3, 1, []) else none)) else (bif Nat.blt pc 9 then (bif Nat.beq pc 8 then some (.iconst (-1), 1, []) else none) else (bif Nat.blt pc 12 then (bif Nat.beq pc 9 then some (.if_icmp .eq 14, 3, [23]) else none) else (bif Nat.beq pc 12 then some (.aload_n 0, 1, []) else none))))) else (bif Nat.blt pc 20 then (bif Nat.blt pc 16 then (bif Nat.blt pc 14 then (bif Nat.beq pc 13 then some (.iload_n 3, 1, []) else none) else (bif Nat.beq pc 14 then some (.bipush 7, 2, []) else none)) else (bif Nat.blt pc 19 then (bif Nat.beq pc 16 then some (.invokevirtual 86, 3, [0, 105, 2, 948, 4, 3, 1]) else none) else (bif Nat.beq pc 19 then some (.iconst 2, 1, []) else none))) else (bif Nat.blt pc 24 then (bif Nat.blt pc 23 then (bif Nat.beq pc 20 then some (.if_icmp .ne 7, 3, [27]) else none) else (bif Nat.beq pc 23 then some (.iconst 1, 1, []) else none)) else (bif Nat.blt pc 27 then (bif Nat.beq pc 24 then some (.goto 4, 3, [28]) else none) else (bif Nat.blt pc 28 then (bif Nat.beq pc 27 then some (.iconst 0, 1, []) else none) else (bif Nat.beq pc 28 then some (.ireturn, 1, [1]) else none)))))
/-- X5_valueOf -/
def I_X5_valueOf (pc : Nat) : Option IE := bif Nat.blt pc 16 then (bif Nat.blt pc 7 then (bif Nat.blt pc 2 then (bif Nat.blt pc 1 then (bif Nat.beq pc 0 then some (.aload_n 0, 1, []) else none) else (bif Nat.beq pc 1 then some (.iload_n 1, 1, []) else none)) else (bif Nat.blt pc 3 then (bif Nat.beq pc 2 then some (.iload_n 2, 1, []) else none) else (bif Nat.blt pc 6 then (bif Nat.beq pc 3 then some (.invokevirtual 93, 3, [0, 118, 2, 990, 4, 4, 1]) else none) else (bif Nat.beq pc 6 then some (.istore_n 3, 1, []) else none)))) else (bif Nat.blt pc 9 then (bif Nat.blt pc 8 then (bif Nat.beq pc 7 then some (.iload_n 3, 1, []) else none) else (bif Nat.beq pc 8 then some (.iconst (-1), 1, []) else none)) else (bif Nat.blt pc 12 then (bif Nat.beq pc 9 then some (.if_icmp .ne 15, 3, [24]) else none) else (bif Nat.blt pc 13 then (bif Nat.beq pc 12 then some (.aload_n 0, 1, []) else none) else (bif Nat.beq pc 13 then some (.getfield 7, 3, [4, 0, 1, 830]) else none))))) else (bif Nat.blt pc 24 then (bif Nat.blt pc 19 then (bif Nat.blt pc 18 then (bif Nat.beq pc 16 then some (.bipush 12, 2, []) else none) else (bif Nat.beq pc 18 then some (.iload_n 2, 1, []) else none)) else (bif Nat.blt pc 20 then (bif Nat.beq pc 19 then some (.iadd, 1, []) else none) else (bif Nat.blt pc 21 then (bif Nat.beq pc 20 then some (.iaload, 1, []) else none) else (bif Nat.beq pc 21 then some (.goto 10, 3, [31]) else none)))) else (bif Nat.blt pc 26 then (bif Nat.blt pc 25 then (bif Nat.beq pc 24 then some (.aload_n 0, 1, []) else none) else (bif Nat.beq pc 25 then some (.iload_n 3, 1, []) else none)) else (bif Nat.blt pc 28 then (bif Nat.beq pc 26 then some (.bipush 11, 2, []) else none) else (bif Nat.blt pc 31 then (bif Nat.beq pc 28 then some (.invokevirtual 86, 3, [0, 105, 2, 948, 4, 3, 1]) else none) else (bif Nat.beq pc 31 then some (.ireturn, 1, [0]) else none)))))
/-- X5_cellOf -/
def I_X5_cellOf (pc : Nat) : Option IE := bif Nat.blt pc 11 then (bif Nat.blt pc 6 then (bif Nat.blt pc 4 then (bif Nat.blt pc 1 then (bif Nat.beq pc 0 then some (.iload_n 0, 1, []) else none) else (bif Nat.beq pc 1 then some (.invokestatic 66, 3, [6, 0, 1, 927]) else none)) else (bif Nat.blt pc 5 then (bif Nat.beq pc 4 then some (.f2i, 1, []) else none) else (bif Nat.beq pc 5 then some (.iload_n 1, 1, []) else none))) else (bif Nat.blt pc 9 then (bif Nat.blt pc 7 then (bif Nat.beq pc 6 then some (.iadd, 1, []) else none) else (bif Nat.beq pc 7 then some (.bipush 16, 2, []) else none)) else (bif Nat.blt pc 10 then (bif Nat.beq pc 9 then some (.irem, 1, []) else none) else (bif Nat.beq pc 10 then some (.istore_n 2, 1, []) else none)))) else (bif Nat.blt pc 18 then (bif Nat.blt pc 15 then (bif Nat.blt pc 12 then (bif Nat.beq pc 11 then some (.iload_n 2, 1, []) else none) else (bif Nat.beq pc 12 then some (.ifCond .ge 10, 3, [22]) else none)) else (bif Nat.blt pc 16 then (bif Nat.beq pc 15 then some (.iload_n 2, 1, []) else none) else (bif Nat.beq pc 16 then some (.bipush 16, 2, []) else none))) else (bif Nat.blt pc 22 then (bif Nat.blt pc 19 then (bif Nat.beq pc 18 then some (.iadd, 1, []) else none) else (bif Nat.beq pc 19 then some (.goto 4, 3, [23]) else none)) else (bif Nat.blt pc 23 then (bif Nat.beq pc 22 then some (.iload_n 2, 1, []) else none) else (bif Nat.beq pc 23 then some (.ireturn, 1, [0]) else none))))
/-- X5_result -/
def I_X5_result (pc : Nat) : Option IE := bif Nat.blt pc 27 then (bif Nat.blt pc 13 then (bif Nat.blt pc 6 then (bif Nat.blt pc 4 then (bif Nat.blt pc 1 then (bif Nat.beq pc 0 then some (.iload_n 1, 1, []) else none) else (bif Nat.beq pc 1 then some (.invokestatic 66, 3, [6, 0, 1, 927]) else none)) else (bif Nat.blt pc 5 then (bif Nat.beq pc 4 then some (.fstore_n 3, 1, []) else none) else (bif Nat.beq pc 5 then some (.iload_n 2, 1, []) else none))) else (bif Nat.blt pc 11 then (bif Nat.blt pc 9 then (bif Nat.beq pc 6 then some (.invokestatic 66, 3, [6, 0, 1, 927]) else none) else (bif Nat.beq pc 9 then some (.fstore 4, 2, []) else none)) else (bif Nat.blt pc 12 then (bif Nat.beq pc 11 then some (.iload_n 0, 1, []) else none) else (bif Nat.beq pc 12 then some (.iconst 1, 1, []) else none)))) else (bif Nat.blt pc 20 then (bif Nat.blt pc 17 then (bif Nat.blt pc 16 then (bif Nat.beq pc 13 then some (.if_icmp .ne 10, 3, [23]) else none) else (bif Nat.beq pc 16 then some (.fload_n 3, 1, []) else none)) else (bif Nat.blt pc 19 then (bif Nat.beq pc 17 then some (.fload 4, 2, []) else none) else (bif Nat.beq pc 19 then some (.fadd, 1, []) else none))) else (bif Nat.blt pc 24 then (bif Nat.blt pc 23 then (bif Nat.beq pc 20 then some (.goto 7, 3, [27]) else none) else (bif Nat.beq pc 23 then some (.fload_n 3, 1, []) else none)) else (bif Nat.blt pc 26 then (bif Nat.beq pc 24 then some (.fload 4, 2, []) else none) else (bif Nat.beq pc 26 then some (.fmul, 1, []) else none))))) else (bif Nat.blt pc 44 then (bif Nat.blt pc 34 then (bif Nat.blt pc 31 then (bif Nat.blt pc 29 then (bif Nat.beq pc 27 then some (.fstore 5, 2, []) else none) else (bif Nat.beq pc 29 then some (.fload 5, 2, []) else none)) else (bif Nat.blt pc 33 then (bif Nat.beq pc 31 then some (.ldc 73, 2, [1, 1232348160, 931]) else none) else (bif Nat.beq pc 33 then some (.fcmp .l, 1, []) else none))) else (bif Nat.blt pc 39 then (bif Nat.blt pc 37 then (bif Nat.beq pc 34 then some (.ifCond .le 8, 3, [42]) else none) else (bif Nat.beq pc 37 then some (.ldc 73, 2, [1, 1232348160, 931]) else none)) else (bif Nat.blt pc 42 then (bif Nat.beq pc 39 then some (.goto 18, 3, [57]) else none) else (bif Nat.beq pc 42 then some (.fload 5, 2, []) else none)))) else (bif Nat.blt pc 52 then (bif Nat.blt pc 47 then (bif Nat.blt pc 46 then (bif Nat.beq pc 44 then some (.ldc 72, 2, [1, 3379831808, 930]) else none) else (bif Nat.beq pc 46 then some (.fcmp .g, 1, []) else none)) else (bif Nat.blt pc 50 then (bif Nat.beq pc 47 then some (.ifCond .ge 8, 3, [55]) else none) else (bif Nat.beq pc 50 then some (.ldc 72, 2, [1, 3379831808, 930]) else none))) else (bif Nat.blt pc 57 then (bif Nat.blt pc 55 then (bif Nat.beq pc 52 then some (.goto 5, 3, [57]) else none) else (bif Nat.beq pc 55 then some (.fload 5, 2, []) else none)) else (bif Nat.blt pc 60 then (bif Nat.beq pc 57 then some (.invokestatic 96, 3, [1, 191, 1, 972, 9, 1, 1]) else none) else (bif Nat.beq pc 60 then some (.ireturn, 1, [0]) else none)))))
/-- X5_setTo -/
def I_X5_setTo (pc : Nat) : Option IE := bif Nat.blt pc 4 then (bif Nat.blt pc 1 then (bif Nat.beq pc 0 then some (.iload_n 0, 1, []) else none) else (bif Nat.blt pc 2 then (bif Nat.beq pc 1 then some (.i2f, 1, []) else none) else (bif Nat.beq pc 2 then some (.ldc 100, 2, [1, 1082130432, 971]) else none))) else (bif Nat.blt pc 5 then (bif Nat.beq pc 4 then some (.fdiv, 1, []) else none) else (bif Nat.blt pc 8 then (bif Nat.beq pc 5 then some (.invokestatic 96, 3, [1, 191, 1, 972, 9, 1, 1]) else none) else (bif Nat.beq pc 8 then some (.ireturn, 1, [0]) else none)))
/-- X5_retire -/
def I_X5_retire (pc : Nat) : Option IE := bif Nat.blt pc 59 then (bif Nat.blt pc 30 then (bif Nat.blt pc 13 then (bif Nat.blt pc 6 then (bif Nat.blt pc 4 then (bif Nat.blt pc 1 then (bif Nat.beq pc 0 then some (.aload_n 0, 1, []) else none) else (bif Nat.beq pc 1 then some (.getfield 7, 3, [4, 0, 1, 830]) else none)) else (bif Nat.blt pc 5 then (bif Nat.beq pc 4 then some (.iconst 3, 1, []) else none) else (bif Nat.beq pc 5 then some (.iaload, 1, []) else none))) else (bif Nat.blt pc 8 then (bif Nat.blt pc 7 then (bif Nat.beq pc 6 then some (.istore_n 1, 1, []) else none) else (bif Nat.beq pc 7 then some (.aload_n 0, 1, []) else none)) else (bif Nat.blt pc 9 then (bif Nat.beq pc 8 then some (.iload_n 1, 1, []) else none) else (bif Nat.blt pc 10 then (bif Nat.beq pc 9 then some (.iconst 0, 1, []) else none) else (bif Nat.beq pc 10 then some (.invokevirtual 86, 3, [0, 105, 2, 948, 4, 3, 1]) else none))))) else (bif Nat.blt pc 21 then (bif Nat.blt pc 17 then (bif Nat.blt pc 14 then (bif Nat.beq pc 13 then some (.iconst 4, 1, []) else none) else (bif Nat.beq pc 14 then some (.if_icmp .ne 28, 3, [42]) else none)) else (bif Nat.blt pc 18 then (bif Nat.beq pc 17 then some (.aload_n 0, 1, []) else none) else (bif Nat.beq pc 18 then some (.getfield 7, 3, [4, 0, 1, 830]) else none))) else (bif Nat.blt pc 24 then (bif Nat.blt pc 23 then (bif Nat.beq pc 21 then some (.bipush 20, 2, []) else none) else (bif Nat.beq pc 23 then some (.aload_n 0, 1, []) else none)) else (bif Nat.blt pc 25 then (bif Nat.beq pc 24 then some (.iload_n 1, 1, []) else none) else (bif Nat.blt pc 27 then (bif Nat.beq pc 25 then some (.bipush 9, 2, []) else none) else (bif Nat.beq pc 27 then some (.invokevirtual 86, 3, [0, 105, 2, 948, 4, 3, 1]) else none)))))) else (bif Nat.blt pc 46 then (bif Nat.blt pc 35 then (bif Nat.blt pc 32 then (bif Nat.blt pc 31 then (bif Nat.beq pc 30 then some (.iadd, 1, []) else none) else (bif Nat.beq pc 31 then some (.aload_n 0, 1, []) else none)) else (bif Nat.blt pc 33 then (bif Nat.beq pc 32 then some (.iload_n 1, 1, []) else none) else (bif Nat.beq pc 33 then some (.bipush 11, 2, []) else none))) else (bif Nat.blt pc 39 then (bif Nat.blt pc 38 then (bif Nat.beq pc 35 then some (.invokevirtual 86, 3, [0, 105, 2, 948, 4, 3, 1]) else none) else (bif Nat.beq pc 38 then some (.iastore, 1, []) else none)) else (bif Nat.blt pc 42 then (bif Nat.beq pc 39 then some (.goto 24, 3, [63]) else none) else (bif Nat.blt pc 43 then (bif Nat.beq pc 42 then some (.aload_n 0, 1, []) else none) else (bif Nat.beq pc 43 then some (.getfield 7, 3, [4, 0, 1, 830]) else none))))) else (bif Nat.blt pc 51 then (bif Nat.blt pc 49 then (bif Nat.blt pc 48 then (bif Nat.beq pc 46 then some (.bipush 12, 2, []) else none) else (bif Nat.beq pc 48 then some (.aload_n 0, 1, []) else none)) else (bif Nat.blt pc 50 then (bif Nat.beq pc 49 then some (.iload_n 1, 1, []) else none) else (bif Nat.beq pc 50 then some (.iconst 1, 1, []) else none))) else (bif Nat.blt pc 55 then (bif Nat.blt pc 54 then (bif Nat.beq pc 51 then some (.invokevirtual 86, 3, [0, 105, 2, 948, 4, 3, 1]) else none) else (bif Nat.beq pc 54 then some (.iadd, 1, []) else none)) else (bif Nat.blt pc 56 then (bif Nat.beq pc 55 then some (.aload_n 0, 1, []) else none) else (bif Nat.blt pc 57 then (bif Nat.beq pc 56 then some (.iload_n 1, 1, []) else none) else (bif Nat.beq pc 57 then some (.bipush 11, 2, []) else none))))))) else (bif Nat.blt pc 87 then (bif Nat.blt pc 72 then (bif Nat.blt pc 65 then (bif Nat.blt pc 63 then (bif Nat.blt pc 62 then (bif Nat.beq pc 59 then some (.invokevirtual 86, 3, [0, 105, 2, 948, 4, 3, 1]) else none) else (bif Nat.beq pc 62 then some (.iastore, 1, []) else none)) else (bif Nat.blt pc 64 then (bif Nat.beq pc 63 then some (.aload_n 0, 1, []) else none) else (bif Nat.beq pc 64 then some (.iload_n 1, 1, []) else none))) else (bif Nat.blt pc 67 then (bif Nat.blt pc 66 then (bif Nat.beq pc 65 then some (.iconst 5, 1, []) else none) else (bif Nat.beq pc 66 then some (.aload_n 0, 1, []) else none)) else (bif Nat.blt pc 68 then (bif Nat.beq pc 67 then some (.iload_n 1, 1, []) else none) else (bif Nat.blt pc 69 then (bif Nat.beq pc 68 then some (.iconst 5, 1, []) else none) else (bif Nat.beq pc 69 then some (.invokevirtual 86, 3, [0, 105, 2, 948, 4, 3, 1]) else none))))) else (bif Nat.blt pc 78 then (bif Nat.blt pc 76 then (bif Nat.blt pc 75 then (bif Nat.beq pc 72 then some (.ifCond .le 14, 3, [86]) else none) else (bif Nat.beq pc 75 then some (.aload_n 0, 1, []) else none)) else (bif Nat.blt pc 77 then (bif Nat.beq pc 76 then some (.iload_n 1, 1, []) else none) else (bif Nat.beq pc 77 then some (.iconst 5, 1, []) else none))) else (bif Nat.blt pc 82 then (bif Nat.blt pc 81 then (bif Nat.beq pc 78 then some (.invokevirtual 86, 3, [0, 105, 2, 948, 4, 3, 1]) else none) else (bif Nat.beq pc 81 then some (.iconst 1, 1, []) else none)) else (bif Nat.blt pc 83 then (bif Nat.beq pc 82 then some (.isub, 1, []) else none) else (bif Nat.blt pc 86 then (bif Nat.beq pc 83 then some (.goto 4, 3, [87]) else none) else (bif Nat.beq pc 86 then some (.iconst 0, 1, []) else none)))))) else (bif Nat.blt pc 100 then (bif Nat.blt pc 95 then (bif Nat.blt pc 91 then (bif Nat.blt pc 90 then (bif Nat.beq pc 87 then some (.invokevirtual 101, 3, [0, 106, 3, 956, 4, 4, 0]) else none) else (bif Nat.beq pc 90 then some (.aload_n 0, 1, []) else none)) else (bif Nat.blt pc 94 then (bif Nat.beq pc 91 then some (.getfield 7, 3, [4, 0, 1, 830]) else none) else (bif Nat.beq pc 94 then some (.iconst 3, 1, []) else none))) else (bif Nat.blt pc 97 then (bif Nat.blt pc 96 then (bif Nat.beq pc 95 then some (.dup2, 1, []) else none) else (bif Nat.beq pc 96 then some (.iaload, 1, []) else none)) else (bif Nat.blt pc 98 then (bif Nat.beq pc 97 then some (.iconst 1, 1, []) else none) else (bif Nat.blt pc 99 then (bif Nat.beq pc 98 then some (.iadd, 1, []) else none) else (bif Nat.beq pc 99 then some (.iastore, 1, []) else none))))) else (bif Nat.blt pc 107 then (bif Nat.blt pc 104 then (bif Nat.blt pc 101 then (bif Nat.beq pc 100 then some (.aload_n 0, 1, []) else none) else (bif Nat.beq pc 101 then some (.getfield 7, 3, [4, 0, 1, 830]) else none)) else (bif Nat.blt pc 106 then (bif Nat.beq pc 104 then some (.bipush 6, 2, []) else none) else (bif Nat.beq pc 106 then some (.dup2, 1, []) else none))) else (bif Nat.blt pc 109 then (bif Nat.blt pc 108 then (bif Nat.beq pc 107 then some (.iaload, 1, []) else none) else (bif Nat.beq pc 108 then some (.iconst 1, 1, []) else none)) else (bif Nat.blt pc 110 then (bif Nat.beq pc 109 then some (.iadd, 1, []) else none) else (bif Nat.blt pc 111 then (bif Nat.beq pc 110 then some (.iastore, 1, []) else none) else (bif Nat.beq pc 111 then some (.return_, 1, []) else none)))))))
/-- X5_finishLoad -/
def I_X5_finishLoad (pc : Nat) : Option IE := bif Nat.blt pc 106 then (bif Nat.blt pc 48 then (bif Nat.blt pc 22 then (bif Nat.blt pc 11 then (bif Nat.blt pc 3 then (bif Nat.blt pc 1 then (bif Nat.beq pc 0 then some (.aload_n 0, 1, []) else none) else (bif Nat.blt pc 2 then (bif Nat.beq pc 1 then some (.iload_n 1, 1, []) else none) else (bif Nat.beq pc 2 then some (.aload_n 0, 1, []) else none))) else (bif Nat.blt pc 5 then (bif Nat.blt pc 4 then (bif Nat.beq pc 3 then some (.iload_n 1, 1, []) else none) else (bif Nat.beq pc 4 then some (.iconst 2, 1, []) else none)) else (bif Nat.blt pc 8 then (bif Nat.beq pc 5 then some (.invokevirtual 86, 3, [0, 105, 2, 948, 4, 3, 1]) else none) else (bif Nat.beq pc 8 then some (.invokevirtual 105, 3, [0, 122, 2, 986, 4, 4, 1]) else none)))) else (bif Nat.blt pc 14 then (bif Nat.blt pc 12 then (bif Nat.beq pc 11 then some (.aload_n 0, 1, []) else none) else (bif Nat.blt pc 13 then (bif Nat.beq pc 12 then some (.iload_n 1, 1, []) else none) else (bif Nat.beq pc 13 then some (.iconst 4, 1, []) else none))) else (bif Nat.blt pc 20 then (bif Nat.blt pc 17 then (bif Nat.beq pc 14 then some (.invokevirtual 86, 3, [0, 105, 2, 948, 4, 3, 1]) else none) else (bif Nat.beq pc 17 then some (.invokestatic 108, 3, [1, 123, 2, 998, 4, 3, 1]) else none)) else (bif Nat.blt pc 21 then (bif Nat.beq pc 20 then some (.istore_n 2, 1, []) else none) else (bif Nat.beq pc 21 then some (.iconst (-1), 1, []) else none))))) else (bif Nat.blt pc 32 then (bif Nat.blt pc 26 then (bif Nat.blt pc 23 then (bif Nat.beq pc 22 then some (.istore_n 3, 1, []) else none) else (bif Nat.blt pc 24 then (bif Nat.beq pc 23 then some (.iconst 0, 1, []) else none) else (bif Nat.beq pc 24 then some (.istore 4, 2, []) else none))) else (bif Nat.blt pc 30 then (bif Nat.blt pc 27 then (bif Nat.beq pc 26 then some (.aload_n 0, 1, []) else none) else (bif Nat.beq pc 27 then some (.getfield 7, 3, [4, 0, 1, 830]) else none)) else (bif Nat.blt pc 31 then (bif Nat.beq pc 30 then some (.iconst 3, 1, []) else none) else (bif Nat.beq pc 31 then some (.iaload, 1, []) else none)))) else (bif Nat.blt pc 40 then (bif Nat.blt pc 36 then (bif Nat.blt pc 34 then (bif Nat.beq pc 32 then some (.istore 5, 2, []) else none) else (bif Nat.beq pc 34 then some (.iload 5, 2, []) else none)) else (bif Nat.blt pc 37 then (bif Nat.beq pc 36 then some (.iload_n 1, 1, []) else none) else (bif Nat.beq pc 37 then some (.if_icmp .ge 91, 3, [128]) else none))) else (bif Nat.blt pc 43 then (bif Nat.blt pc 41 then (bif Nat.beq pc 40 then some (.aload_n 0, 1, []) else none) else (bif Nat.beq pc 41 then some (.iload 5, 2, []) else none)) else (bif Nat.blt pc 45 then (bif Nat.beq pc 43 then some (.bipush 7, 2, []) else none) else (bif Nat.beq pc 45 then some (.invokevirtual 86, 3, [0, 105, 2, 948, 4, 3, 1]) else none)))))) else (bif Nat.blt pc 77 then (bif Nat.blt pc 61 then (bif Nat.blt pc 53 then (bif Nat.blt pc 49 then (bif Nat.beq pc 48 then some (.iconst 2, 1, []) else none) else (bif Nat.blt pc 52 then (bif Nat.beq pc 49 then some (.if_icmp .ne 7, 3, [56]) else none) else (bif Nat.beq pc 52 then some (.iconst 1, 1, []) else none))) else (bif Nat.blt pc 57 then (bif Nat.blt pc 56 then (bif Nat.beq pc 53 then some (.goto 4, 3, [57]) else none) else (bif Nat.beq pc 56 then some (.iconst 0, 1, []) else none)) else (bif Nat.blt pc 59 then (bif Nat.beq pc 57 then some (.istore 6, 2, []) else none) else (bif Nat.beq pc 59 then some (.iload 4, 2, []) else none)))) else (bif Nat.blt pc 68 then (bif Nat.blt pc 65 then (bif Nat.blt pc 64 then (bif Nat.beq pc 61 then some (.ifCond .ne 19, 3, [80]) else none) else (bif Nat.beq pc 64 then some (.aload_n 0, 1, []) else none)) else (bif Nat.blt pc 67 then (bif Nat.beq pc 65 then some (.iload 5, 2, []) else none) else (bif Nat.beq pc 67 then some (.iconst 0, 1, []) else none))) else (bif Nat.blt pc 72 then (bif Nat.blt pc 71 then (bif Nat.beq pc 68 then some (.invokevirtual 86, 3, [0, 105, 2, 948, 4, 3, 1]) else none) else (bif Nat.beq pc 71 then some (.iconst 4, 1, []) else none)) else (bif Nat.blt pc 75 then (bif Nat.beq pc 72 then some (.if_icmp .ne 12, 3, [84]) else none) else (bif Nat.beq pc 75 then some (.iload 6, 2, []) else none))))) else (bif Nat.blt pc 90 then (bif Nat.blt pc 84 then (bif Nat.blt pc 80 then (bif Nat.beq pc 77 then some (.ifCond .ne 7, 3, [84]) else none) else (bif Nat.blt pc 81 then (bif Nat.beq pc 80 then some (.iconst 1, 1, []) else none) else (bif Nat.beq pc 81 then some (.goto 4, 3, [85]) else none))) else (bif Nat.blt pc 87 then (bif Nat.blt pc 85 then (bif Nat.beq pc 84 then some (.iconst 0, 1, []) else none) else (bif Nat.beq pc 85 then some (.istore 4, 2, []) else none)) else (bif Nat.blt pc 88 then (bif Nat.beq pc 87 then some (.aload_n 0, 1, []) else none) else (bif Nat.beq pc 88 then some (.iload 5, 2, []) else none)))) else (bif Nat.blt pc 98 then (bif Nat.blt pc 94 then (bif Nat.blt pc 91 then (bif Nat.beq pc 90 then some (.iconst 0, 1, []) else none) else (bif Nat.beq pc 91 then some (.invokevirtual 86, 3, [0, 105, 2, 948, 4, 3, 1]) else none)) else (bif Nat.blt pc 95 then (bif Nat.beq pc 94 then some (.iconst 4, 1, []) else none) else (bif Nat.beq pc 95 then some (.if_icmp .ne 25, 3, [120]) else none))) else (bif Nat.blt pc 103 then (bif Nat.blt pc 100 then (bif Nat.beq pc 98 then some (.iload 6, 2, []) else none) else (bif Nat.beq pc 100 then some (.ifCond .eq 20, 3, [120]) else none)) else (bif Nat.blt pc 104 then (bif Nat.beq pc 103 then some (.aload_n 0, 1, []) else none) else (bif Nat.beq pc 104 then some (.iload 5, 2, []) else none))))))) else (bif Nat.blt pc 159 then (bif Nat.blt pc 133 then (bif Nat.blt pc 121 then (bif Nat.blt pc 112 then (bif Nat.blt pc 108 then (bif Nat.beq pc 106 then some (.bipush 9, 2, []) else none) else (bif Nat.blt pc 111 then (bif Nat.beq pc 108 then some (.invokevirtual 86, 3, [0, 105, 2, 948, 4, 3, 1]) else none) else (bif Nat.beq pc 111 then some (.iload_n 2, 1, []) else none))) else (bif Nat.blt pc 117 then (bif Nat.blt pc 115 then (bif Nat.beq pc 112 then some (.if_icmp .ne 8, 3, [120]) else none) else (bif Nat.beq pc 115 then some (.iload 5, 2, []) else none)) else (bif Nat.blt pc 120 then (bif Nat.beq pc 117 then some (.goto 4, 3, [121]) else none) else (bif Nat.beq pc 120 then some (.iload_n 3, 1, []) else none)))) else (bif Nat.blt pc 128 then (bif Nat.blt pc 122 then (bif Nat.beq pc 121 then some (.istore_n 3, 1, []) else none) else (bif Nat.blt pc 125 then (bif Nat.beq pc 122 then some (.iinc 5 1, 3, []) else none) else (bif Nat.beq pc 125 then some (.goto (-91), 3, [34]) else none))) else (bif Nat.blt pc 130 then (bif Nat.blt pc 129 then (bif Nat.beq pc 128 then some (.aload_n 0, 1, []) else none) else (bif Nat.beq pc 129 then some (.iload_n 1, 1, []) else none)) else (bif Nat.blt pc 132 then (bif Nat.beq pc 130 then some (.bipush 9, 2, []) else none) else (bif Nat.beq pc 132 then some (.iload_n 2, 1, []) else none))))) else (bif Nat.blt pc 145 then (bif Nat.blt pc 138 then (bif Nat.blt pc 136 then (bif Nat.beq pc 133 then some (.invokevirtual 101, 3, [0, 106, 3, 956, 4, 4, 0]) else none) else (bif Nat.blt pc 137 then (bif Nat.beq pc 136 then some (.aload_n 0, 1, []) else none) else (bif Nat.beq pc 137 then some (.iload_n 1, 1, []) else none))) else (bif Nat.blt pc 141 then (bif Nat.blt pc 140 then (bif Nat.beq pc 138 then some (.bipush 10, 2, []) else none) else (bif Nat.beq pc 140 then some (.iload_n 3, 1, []) else none)) else (bif Nat.blt pc 144 then (bif Nat.beq pc 141 then some (.invokevirtual 101, 3, [0, 106, 3, 956, 4, 4, 0]) else none) else (bif Nat.beq pc 144 then some (.aload_n 0, 1, []) else none)))) else (bif Nat.blt pc 150 then (bif Nat.blt pc 148 then (bif Nat.blt pc 146 then (bif Nat.beq pc 145 then some (.iload_n 1, 1, []) else none) else (bif Nat.beq pc 146 then some (.bipush 11, 2, []) else none)) else (bif Nat.blt pc 149 then (bif Nat.beq pc 148 then some (.iload_n 3, 1, []) else none) else (bif Nat.beq pc 149 then some (.iconst (-1), 1, []) else none))) else (bif Nat.blt pc 154 then (bif Nat.blt pc 153 then (bif Nat.beq pc 150 then some (.if_icmp .ne 15, 3, [165]) else none) else (bif Nat.beq pc 153 then some (.aload_n 0, 1, []) else none)) else (bif Nat.blt pc 157 then (bif Nat.beq pc 154 then some (.getfield 7, 3, [4, 0, 1, 830]) else none) else (bif Nat.beq pc 157 then some (.bipush 20, 2, []) else none)))))) else (bif Nat.blt pc 184 then (bif Nat.blt pc 169 then (bif Nat.blt pc 162 then (bif Nat.blt pc 160 then (bif Nat.beq pc 159 then some (.iload_n 2, 1, []) else none) else (bif Nat.blt pc 161 then (bif Nat.beq pc 160 then some (.iadd, 1, []) else none) else (bif Nat.beq pc 161 then some (.iaload, 1, []) else none))) else (bif Nat.blt pc 166 then (bif Nat.blt pc 165 then (bif Nat.beq pc 162 then some (.goto 10, 3, [172]) else none) else (bif Nat.beq pc 165 then some (.aload_n 0, 1, []) else none)) else (bif Nat.blt pc 167 then (bif Nat.beq pc 166 then some (.iload_n 3, 1, []) else none) else (bif Nat.beq pc 167 then some (.bipush 11, 2, []) else none)))) else (bif Nat.blt pc 179 then (bif Nat.blt pc 175 then (bif Nat.blt pc 172 then (bif Nat.beq pc 169 then some (.invokevirtual 86, 3, [0, 105, 2, 948, 4, 3, 1]) else none) else (bif Nat.beq pc 172 then some (.invokevirtual 101, 3, [0, 106, 3, 956, 4, 4, 0]) else none)) else (bif Nat.blt pc 176 then (bif Nat.beq pc 175 then some (.aload_n 0, 1, []) else none) else (bif Nat.beq pc 176 then some (.getfield 7, 3, [4, 0, 1, 830]) else none))) else (bif Nat.blt pc 182 then (bif Nat.blt pc 181 then (bif Nat.beq pc 179 then some (.bipush 7, 2, []) else none) else (bif Nat.beq pc 181 then some (.dup2, 1, []) else none)) else (bif Nat.blt pc 183 then (bif Nat.beq pc 182 then some (.iaload, 1, []) else none) else (bif Nat.beq pc 183 then some (.iconst 1, 1, []) else none))))) else (bif Nat.blt pc 194 then (bif Nat.blt pc 187 then (bif Nat.blt pc 185 then (bif Nat.beq pc 184 then some (.iadd, 1, []) else none) else (bif Nat.blt pc 186 then (bif Nat.beq pc 185 then some (.iastore, 1, []) else none) else (bif Nat.beq pc 186 then some (.aload_n 0, 1, []) else none))) else (bif Nat.blt pc 192 then (bif Nat.blt pc 190 then (bif Nat.beq pc 187 then some (.getfield 7, 3, [4, 0, 1, 830]) else none) else (bif Nat.beq pc 190 then some (.bipush 8, 2, []) else none)) else (bif Nat.blt pc 193 then (bif Nat.beq pc 192 then some (.dup2, 1, []) else none) else (bif Nat.beq pc 193 then some (.iaload, 1, []) else none)))) else (bif Nat.blt pc 203 then (bif Nat.blt pc 199 then (bif Nat.blt pc 196 then (bif Nat.beq pc 194 then some (.iload 4, 2, []) else none) else (bif Nat.beq pc 196 then some (.ifCond .eq 7, 3, [203]) else none)) else (bif Nat.blt pc 200 then (bif Nat.beq pc 199 then some (.iconst 1, 1, []) else none) else (bif Nat.beq pc 200 then some (.goto 4, 3, [204]) else none))) else (bif Nat.blt pc 205 then (bif Nat.blt pc 204 then (bif Nat.beq pc 203 then some (.iconst 0, 1, []) else none) else (bif Nat.beq pc 204 then some (.iadd, 1, []) else none)) else (bif Nat.blt pc 206 then (bif Nat.beq pc 205 then some (.iastore, 1, []) else none) else (bif Nat.beq pc 206 then some (.return_, 1, []) else none)))))))
/-- X5_isBroken -/
def I_X5_isBroken (pc : Nat) : Option IE := bif Nat.blt pc 30 then (bif Nat.blt pc 14 then (bif Nat.blt pc 6 then (bif Nat.blt pc 2 then (bif Nat.blt pc 1 then (bif Nat.beq pc 0 then some (.aload_n 0, 1, []) else none) else (bif Nat.beq pc 1 then some (.iload_n 1, 1, []) else none)) else (bif Nat.blt pc 3 then (bif Nat.beq pc 2 then some (.iconst 0, 1, []) else none) else (bif Nat.beq pc 3 then some (.invokevirtual 86, 3, [0, 105, 2, 948, 4, 3, 1]) else none))) else (bif Nat.blt pc 10 then (bif Nat.blt pc 7 then (bif Nat.beq pc 6 then some (.iconst 3, 1, []) else none) else (bif Nat.beq pc 7 then some (.if_icmp .ne 35, 3, [42]) else none)) else (bif Nat.blt pc 11 then (bif Nat.beq pc 10 then some (.aload_n 0, 1, []) else none) else (bif Nat.blt pc 12 then (bif Nat.beq pc 11 then some (.iload_n 1, 1, []) else none) else (bif Nat.beq pc 12 then some (.bipush 7, 2, []) else none))))) else (bif Nat.blt pc 22 then (bif Nat.blt pc 18 then (bif Nat.blt pc 17 then (bif Nat.beq pc 14 then some (.invokevirtual 86, 3, [0, 105, 2, 948, 4, 3, 1]) else none) else (bif Nat.beq pc 17 then some (.iconst 2, 1, []) else none)) else (bif Nat.blt pc 21 then (bif Nat.beq pc 18 then some (.if_icmp .ne 24, 3, [42]) else none) else (bif Nat.beq pc 21 then some (.aload_n 0, 1, []) else none))) else (bif Nat.blt pc 25 then (bif Nat.blt pc 23 then (bif Nat.beq pc 22 then some (.iload_n 1, 1, []) else none) else (bif Nat.beq pc 23 then some (.bipush 9, 2, []) else none)) else (bif Nat.blt pc 28 then (bif Nat.beq pc 25 then some (.invokevirtual 86, 3, [0, 105, 2, 948, 4, 3, 1]) else none) else (bif Nat.blt pc 29 then (bif Nat.beq pc 28 then some (.aload_n 0, 1, []) else none) else (bif Nat.beq pc 29 then some (.iload_n 2, 1, []) else none)))))) else (bif Nat.blt pc 48 then (bif Nat.blt pc 39 then (bif Nat.blt pc 35 then (bif Nat.blt pc 32 then (bif Nat.beq pc 30 then some (.bipush 9, 2, []) else none) else (bif Nat.beq pc 32 then some (.invokevirtual 86, 3, [0, 105, 2, 948, 4, 3, 1]) else none)) else (bif Nat.blt pc 38 then (bif Nat.beq pc 35 then some (.if_icmp .ne 7, 3, [42]) else none) else (bif Nat.beq pc 38 then some (.iconst 1, 1, []) else none))) else (bif Nat.blt pc 43 then (bif Nat.blt pc 42 then (bif Nat.beq pc 39 then some (.goto 4, 3, [43]) else none) else (bif Nat.beq pc 42 then some (.iconst 0, 1, []) else none)) else (bif Nat.blt pc 44 then (bif Nat.beq pc 43 then some (.istore_n 3, 1, []) else none) else (bif Nat.blt pc 45 then (bif Nat.beq pc 44 then some (.iload_n 3, 1, []) else none) else (bif Nat.beq pc 45 then some (.ifCond .eq 18, 3, [63]) else none))))) else (bif Nat.blt pc 56 then (bif Nat.blt pc 50 then (bif Nat.blt pc 49 then (bif Nat.beq pc 48 then some (.aload_n 0, 1, []) else none) else (bif Nat.beq pc 49 then some (.iload_n 1, 1, []) else none)) else (bif Nat.blt pc 52 then (bif Nat.beq pc 50 then some (.bipush 10, 2, []) else none) else (bif Nat.blt pc 55 then (bif Nat.beq pc 52 then some (.invokevirtual 86, 3, [0, 105, 2, 948, 4, 3, 1]) else none) else (bif Nat.beq pc 55 then some (.iload_n 2, 1, []) else none)))) else (bif Nat.blt pc 60 then (bif Nat.blt pc 59 then (bif Nat.beq pc 56 then some (.if_icmp .ge 7, 3, [63]) else none) else (bif Nat.beq pc 59 then some (.iconst 1, 1, []) else none)) else (bif Nat.blt pc 63 then (bif Nat.beq pc 60 then some (.goto 4, 3, [64]) else none) else (bif Nat.blt pc 64 then (bif Nat.beq pc 63 then some (.iconst 0, 1, []) else none) else (bif Nat.beq pc 64 then some (.ireturn, 1, [1]) else none))))))
/-- X5_finishStore -/
def I_X5_finishStore (pc : Nat) : Option IE := bif Nat.blt pc 85 then (bif Nat.blt pc 39 then (bif Nat.blt pc 17 then (bif Nat.blt pc 7 then (bif Nat.blt pc 4 then (bif Nat.blt pc 1 then (bif Nat.beq pc 0 then some (.aload_n 0, 1, []) else none) else (bif Nat.blt pc 2 then (bif Nat.beq pc 1 then some (.iload_n 1, 1, []) else none) else (bif Nat.beq pc 2 then some (.bipush 9, 2, []) else none))) else (bif Nat.blt pc 5 then (bif Nat.beq pc 4 then some (.aload_n 0, 1, []) else none) else (bif Nat.blt pc 6 then (bif Nat.beq pc 5 then some (.iload_n 1, 1, []) else none) else (bif Nat.beq pc 6 then some (.aload_n 0, 1, []) else none)))) else (bif Nat.blt pc 12 then (bif Nat.blt pc 8 then (bif Nat.beq pc 7 then some (.iload_n 1, 1, []) else none) else (bif Nat.blt pc 9 then (bif Nat.beq pc 8 then some (.iconst 2, 1, []) else none) else (bif Nat.beq pc 9 then some (.invokevirtual 86, 3, [0, 105, 2, 948, 4, 3, 1]) else none))) else (bif Nat.blt pc 15 then (bif Nat.beq pc 12 then some (.invokevirtual 105, 3, [0, 122, 2, 986, 4, 4, 1]) else none) else (bif Nat.blt pc 16 then (bif Nat.beq pc 15 then some (.aload_n 0, 1, []) else none) else (bif Nat.beq pc 16 then some (.iload_n 1, 1, []) else none))))) else (bif Nat.blt pc 29 then (bif Nat.blt pc 24 then (bif Nat.blt pc 18 then (bif Nat.beq pc 17 then some (.iconst 4, 1, []) else none) else (bif Nat.blt pc 21 then (bif Nat.beq pc 18 then some (.invokevirtual 86, 3, [0, 105, 2, 948, 4, 3, 1]) else none) else (bif Nat.beq pc 21 then some (.invokestatic 108, 3, [1, 123, 2, 998, 4, 3, 1]) else none))) else (bif Nat.blt pc 27 then (bif Nat.beq pc 24 then some (.invokevirtual 101, 3, [0, 106, 3, 956, 4, 4, 0]) else none) else (bif Nat.blt pc 28 then (bif Nat.beq pc 27 then some (.aload_n 0, 1, []) else none) else (bif Nat.beq pc 28 then some (.iload_n 1, 1, []) else none)))) else (bif Nat.blt pc 33 then (bif Nat.blt pc 31 then (bif Nat.beq pc 29 then some (.bipush 11, 2, []) else none) else (bif Nat.blt pc 32 then (bif Nat.beq pc 31 then some (.aload_n 0, 1, []) else none) else (bif Nat.beq pc 32 then some (.iload_n 1, 1, []) else none))) else (bif Nat.blt pc 35 then (bif Nat.blt pc 34 then (bif Nat.beq pc 33 then some (.aload_n 0, 1, []) else none) else (bif Nat.beq pc 34 then some (.iload_n 1, 1, []) else none)) else (bif Nat.blt pc 36 then (bif Nat.beq pc 35 then some (.iconst 3, 1, []) else none) else (bif Nat.beq pc 36 then some (.invokevirtual 86, 3, [0, 105, 2, 948, 4, 3, 1]) else none)))))) else (bif Nat.blt pc 60 then (bif Nat.blt pc 49 then (bif Nat.blt pc 46 then (bif Nat.blt pc 42 then (bif Nat.beq pc 39 then some (.invokevirtual 105, 3, [0, 122, 2, 986, 4, 4, 1]) else none) else (bif Nat.blt pc 45 then (bif Nat.beq pc 42 then some (.invokevirtual 101, 3, [0, 106, 3, 956, 4, 4, 0]) else none) else (bif Nat.beq pc 45 then some (.iload_n 1, 1, []) else none))) else (bif Nat.blt pc 47 then (bif Nat.beq pc 46 then some (.iconst 1, 1, []) else none) else (bif Nat.blt pc 48 then (bif Nat.beq pc 47 then some (.iadd, 1, []) else none) else (bif Nat.beq pc 48 then some (.istore_n 2, 1, []) else none)))) else (bif Nat.blt pc 54 then (bif Nat.blt pc 50 then (bif Nat.beq pc 49 then some (.iload_n 2, 1, []) else none) else (bif Nat.blt pc 51 then (bif Nat.beq pc 50 then some (.aload_n 0, 1, []) else none) else (bif Nat.beq pc 51 then some (.getfield 7, 3, [4, 0, 1, 830]) else none))) else (bif Nat.blt pc 56 then (bif Nat.blt pc 55 then (bif Nat.beq pc 54 then some (.iconst 2, 1, []) else none) else (bif Nat.beq pc 55 then some (.iaload, 1, []) else none)) else (bif Nat.blt pc 59 then (bif Nat.beq pc 56 then some (.if_icmp .ge 18, 3, [74]) else none) else (bif Nat.beq pc 59 then some (.aload_n 0, 1, []) else none))))) else (bif Nat.blt pc 74 then (bif Nat.blt pc 65 then (bif Nat.blt pc 61 then (bif Nat.beq pc 60 then some (.iload_n 2, 1, []) else none) else (bif Nat.blt pc 62 then (bif Nat.beq pc 61 then some (.iload_n 1, 1, []) else none) else (bif Nat.beq pc 62 then some (.invokevirtual 111, 3, [0, 128, 2, 1005, 4, 4, 1]) else none))) else (bif Nat.blt pc 68 then (bif Nat.beq pc 65 then some (.ifCond .ne 9, 3, [74]) else none) else (bif Nat.blt pc 71 then (bif Nat.beq pc 68 then some (.iinc 2 1, 3, []) else none) else (bif Nat.beq pc 71 then some (.goto (-22), 3, [49]) else none)))) else (bif Nat.blt pc 79 then (bif Nat.blt pc 75 then (bif Nat.beq pc 74 then some (.iload_n 2, 1, []) else none) else (bif Nat.blt pc 76 then (bif Nat.beq pc 75 then some (.aload_n 0, 1, []) else none) else (bif Nat.beq pc 76 then some (.getfield 7, 3, [4, 0, 1, 830]) else none))) else (bif Nat.blt pc 81 then (bif Nat.blt pc 80 then (bif Nat.beq pc 79 then some (.iconst 2, 1, []) else none) else (bif Nat.beq pc 80 then some (.iaload, 1, []) else none)) else (bif Nat.blt pc 84 then (bif Nat.beq pc 81 then some (.if_icmp .ge 79, 3, [160]) else none) else (bif Nat.beq pc 84 then some (.aload_n 0, 1, []) else none))))))) else (bif Nat.blt pc 118 then (bif Nat.blt pc 101 then (bif Nat.blt pc 93 then (bif Nat.blt pc 90 then (bif Nat.blt pc 88 then (bif Nat.beq pc 85 then some (.getfield 7, 3, [4, 0, 1, 830]) else none) else (bif Nat.blt pc 89 then (bif Nat.beq pc 88 then some (.iconst 4, 1, []) else none) else (bif Nat.beq pc 89 then some (.dup2, 1, []) else none))) else (bif Nat.blt pc 91 then (bif Nat.beq pc 90 then some (.iaload, 1, []) else none) else (bif Nat.blt pc 92 then (bif Nat.beq pc 91 then some (.iconst 1, 1, []) else none) else (bif Nat.beq pc 92 then some (.iadd, 1, []) else none)))) else (bif Nat.blt pc 98 then (bif Nat.blt pc 94 then (bif Nat.beq pc 93 then some (.iastore, 1, []) else none) else (bif Nat.blt pc 95 then (bif Nat.beq pc 94 then some (.aload_n 0, 1, []) else none) else (bif Nat.beq pc 95 then some (.getfield 7, 3, [4, 0, 1, 830]) else none))) else (bif Nat.blt pc 99 then (bif Nat.beq pc 98 then some (.iconst 5, 1, []) else none) else (bif Nat.blt pc 100 then (bif Nat.beq pc 99 then some (.dup2, 1, []) else none) else (bif Nat.beq pc 100 then some (.iaload, 1, []) else none))))) else (bif Nat.blt pc 109 then (bif Nat.blt pc 106 then (bif Nat.blt pc 102 then (bif Nat.beq pc 101 then some (.aload_n 0, 1, []) else none) else (bif Nat.blt pc 105 then (bif Nat.beq pc 102 then some (.getfield 7, 3, [4, 0, 1, 830]) else none) else (bif Nat.beq pc 105 then some (.iconst 2, 1, []) else none))) else (bif Nat.blt pc 107 then (bif Nat.beq pc 106 then some (.iaload, 1, []) else none) else (bif Nat.blt pc 108 then (bif Nat.beq pc 107 then some (.iload_n 2, 1, []) else none) else (bif Nat.beq pc 108 then some (.isub, 1, []) else none)))) else (bif Nat.blt pc 112 then (bif Nat.blt pc 110 then (bif Nat.beq pc 109 then some (.iadd, 1, []) else none) else (bif Nat.blt pc 111 then (bif Nat.beq pc 110 then some (.iastore, 1, []) else none) else (bif Nat.beq pc 111 then some (.aload_n 0, 1, []) else none))) else (bif Nat.blt pc 114 then (bif Nat.blt pc 113 then (bif Nat.beq pc 112 then some (.iload_n 2, 1, []) else none) else (bif Nat.beq pc 113 then some (.iconst 5, 1, []) else none)) else (bif Nat.blt pc 115 then (bif Nat.beq pc 114 then some (.iconst 3, 1, []) else none) else (bif Nat.beq pc 115 then some (.invokevirtual 101, 3, [0, 106, 3, 956, 4, 4, 0]) else none)))))) else (bif Nat.blt pc 137 then (bif Nat.blt pc 126 then (bif Nat.blt pc 122 then (bif Nat.blt pc 119 then (bif Nat.beq pc 118 then some (.aload_n 0, 1, []) else none) else (bif Nat.blt pc 120 then (bif Nat.beq pc 119 then some (.iload_n 2, 1, []) else none) else (bif Nat.beq pc 120 then some (.bipush 6, 2, []) else none))) else (bif Nat.blt pc 123 then (bif Nat.beq pc 122 then some (.aload_n 0, 1, []) else none) else (bif Nat.blt pc 124 then (bif Nat.beq pc 123 then some (.iload_n 2, 1, []) else none) else (bif Nat.beq pc 124 then some (.bipush 6, 2, []) else none)))) else (bif Nat.blt pc 131 then (bif Nat.blt pc 129 then (bif Nat.beq pc 126 then some (.invokevirtual 86, 3, [0, 105, 2, 948, 4, 3, 1]) else none) else (bif Nat.blt pc 130 then (bif Nat.beq pc 129 then some (.iconst 1, 1, []) else none) else (bif Nat.beq pc 130 then some (.iadd, 1, []) else none))) else (bif Nat.blt pc 135 then (bif Nat.blt pc 134 then (bif Nat.beq pc 131 then some (.invokevirtual 101, 3, [0, 106, 3, 956, 4, 4, 0]) else none) else (bif Nat.beq pc 134 then some (.iload_n 2, 1, []) else none)) else (bif Nat.blt pc 136 then (bif Nat.beq pc 135 then some (.istore_n 3, 1, []) else none) else (bif Nat.beq pc 136 then some (.iload_n 3, 1, []) else none))))) else (bif Nat.blt pc 147 then (bif Nat.blt pc 142 then (bif Nat.blt pc 138 then (bif Nat.beq pc 137 then some (.aload_n 0, 1, []) else none) else (bif Nat.blt pc 141 then (bif Nat.beq pc 138 then some (.getfield 7, 3, [4, 0, 1, 830]) else none) else (bif Nat.beq pc 141 then some (.iconst 2, 1, []) else none))) else (bif Nat.blt pc 143 then (bif Nat.beq pc 142 then some (.iaload, 1, []) else none) else (bif Nat.blt pc 146 then (bif Nat.beq pc 143 then some (.if_icmp .ge 17, 3, [160]) else none) else (bif Nat.beq pc 146 then some (.aload_n 0, 1, []) else none)))) else (bif Nat.blt pc 151 then (bif Nat.blt pc 148 then (bif Nat.beq pc 147 then some (.iload_n 3, 1, []) else none) else (bif Nat.blt pc 150 then (bif Nat.beq pc 148 then some (.bipush 7, 2, []) else none) else (bif Nat.beq pc 150 then some (.iconst 0, 1, []) else none))) else (bif Nat.blt pc 157 then (bif Nat.blt pc 154 then (bif Nat.beq pc 151 then some (.invokevirtual 101, 3, [0, 106, 3, 956, 4, 4, 0]) else none) else (bif Nat.beq pc 154 then some (.iinc 3 1, 3, []) else none)) else (bif Nat.blt pc 160 then (bif Nat.beq pc 157 then some (.goto (-21), 3, [136]) else none) else (bif Nat.beq pc 160 then some (.return_, 1, []) else none)))))))
/-- X5_finish -/
def I_X5_finish (pc : Nat) : Option IE := bif Nat.blt pc 48 then (bif Nat.blt pc 21 then (bif Nat.blt pc 10 then (bif Nat.blt pc 4 then (bif Nat.blt pc 1 then (bif Nat.beq pc 0 then some (.aload_n 0, 1, []) else none) else (bif Nat.blt pc 2 then (bif Nat.beq pc 1 then some (.iload_n 1, 1, []) else none) else (bif Nat.beq pc 2 then some (.bipush 7, 2, []) else none))) else (bif Nat.blt pc 8 then (bif Nat.blt pc 5 then (bif Nat.beq pc 4 then some (.iconst 2, 1, []) else none) else (bif Nat.beq pc 5 then some (.invokevirtual 101, 3, [0, 106, 3, 956, 4, 4, 0]) else none)) else (bif Nat.blt pc 9 then (bif Nat.beq pc 8 then some (.aload_n 0, 1, []) else none) else (bif Nat.beq pc 9 then some (.iload_n 1, 1, []) else none)))) else (bif Nat.blt pc 15 then (bif Nat.blt pc 11 then (bif Nat.beq pc 10 then some (.iconst 0, 1, []) else none) else (bif Nat.blt pc 14 then (bif Nat.beq pc 11 then some (.invokevirtual 86, 3, [0, 105, 2, 948, 4, 3, 1]) else none) else (bif Nat.beq pc 14 then some (.istore_n 2, 1, []) else none))) else (bif Nat.blt pc 19 then (bif Nat.blt pc 16 then (bif Nat.beq pc 15 then some (.iload_n 2, 1, []) else none) else (bif Nat.beq pc 16 then some (.ifCond .ne 22, 3, [38]) else none)) else (bif Nat.blt pc 20 then (bif Nat.beq pc 19 then some (.aload_n 0, 1, []) else none) else (bif Nat.beq pc 20 then some (.iload_n 1, 1, []) else none))))) else (bif Nat.blt pc 35 then (bif Nat.blt pc 25 then (bif Nat.blt pc 23 then (bif Nat.beq pc 21 then some (.bipush 11, 2, []) else none) else (bif Nat.blt pc 24 then (bif Nat.beq pc 23 then some (.aload_n 0, 1, []) else none) else (bif Nat.beq pc 24 then some (.iload_n 1, 1, []) else none))) else (bif Nat.blt pc 29 then (bif Nat.blt pc 26 then (bif Nat.beq pc 25 then some (.iconst 4, 1, []) else none) else (bif Nat.beq pc 26 then some (.invokevirtual 86, 3, [0, 105, 2, 948, 4, 3, 1]) else none)) else (bif Nat.blt pc 32 then (bif Nat.beq pc 29 then some (.invokestatic 114, 3, [1, 125, 1, 968, 4, 1, 1]) else none) else (bif Nat.beq pc 32 then some (.invokevirtual 101, 3, [0, 106, 3, 956, 4, 4, 0]) else none)))) else (bif Nat.blt pc 40 then (bif Nat.blt pc 38 then (bif Nat.beq pc 35 then some (.goto 62, 3, [97]) else none) else (bif Nat.blt pc 39 then (bif Nat.beq pc 38 then some (.iload_n 2, 1, []) else none) else (bif Nat.beq pc 39 then some (.iconst 3, 1, []) else none))) else (bif Nat.blt pc 44 then (bif Nat.blt pc 43 then (bif Nat.beq pc 40 then some (.if_icmp .ne 11, 3, [51]) else none) else (bif Nat.beq pc 43 then some (.aload_n 0, 1, []) else none)) else (bif Nat.blt pc 45 then (bif Nat.beq pc 44 then some (.iload_n 1, 1, []) else none) else (bif Nat.beq pc 45 then some (.invokevirtual 117, 3, [0, 127, 1, 982, 4, 7, 0]) else none)))))) else (bif Nat.blt pc 71 then (bif Nat.blt pc 61 then (bif Nat.blt pc 53 then (bif Nat.blt pc 51 then (bif Nat.beq pc 48 then some (.goto 49, 3, [97]) else none) else (bif Nat.blt pc 52 then (bif Nat.beq pc 51 then some (.iload_n 2, 1, []) else none) else (bif Nat.beq pc 52 then some (.iconst 4, 1, []) else none))) else (bif Nat.blt pc 57 then (bif Nat.blt pc 56 then (bif Nat.beq pc 53 then some (.if_icmp .ne 11, 3, [64]) else none) else (bif Nat.beq pc 56 then some (.aload_n 0, 1, []) else none)) else (bif Nat.blt pc 58 then (bif Nat.beq pc 57 then some (.iload_n 1, 1, []) else none) else (bif Nat.beq pc 58 then some (.invokevirtual 121, 3, [0, 129, 1, 1001, 4, 4, 0]) else none)))) else (bif Nat.blt pc 66 then (bif Nat.blt pc 64 then (bif Nat.beq pc 61 then some (.goto 36, 3, [97]) else none) else (bif Nat.blt pc 65 then (bif Nat.beq pc 64 then some (.aload_n 0, 1, []) else none) else (bif Nat.beq pc 65 then some (.iload_n 1, 1, []) else none))) else (bif Nat.blt pc 69 then (bif Nat.blt pc 68 then (bif Nat.beq pc 66 then some (.bipush 11, 2, []) else none) else (bif Nat.beq pc 68 then some (.iload_n 2, 1, []) else none)) else (bif Nat.blt pc 70 then (bif Nat.beq pc 69 then some (.aload_n 0, 1, []) else none) else (bif Nat.beq pc 70 then some (.iload_n 1, 1, []) else none))))) else (bif Nat.blt pc 82 then (bif Nat.blt pc 74 then (bif Nat.blt pc 72 then (bif Nat.beq pc 71 then some (.aload_n 0, 1, []) else none) else (bif Nat.blt pc 73 then (bif Nat.beq pc 72 then some (.iload_n 1, 1, []) else none) else (bif Nat.beq pc 73 then some (.iconst 2, 1, []) else none))) else (bif Nat.blt pc 80 then (bif Nat.blt pc 77 then (bif Nat.beq pc 74 then some (.invokevirtual 86, 3, [0, 105, 2, 948, 4, 3, 1]) else none) else (bif Nat.beq pc 77 then some (.invokevirtual 105, 3, [0, 122, 2, 986, 4, 4, 1]) else none)) else (bif Nat.blt pc 81 then (bif Nat.beq pc 80 then some (.aload_n 0, 1, []) else none) else (bif Nat.beq pc 81 then some (.iload_n 1, 1, []) else none)))) else (bif Nat.blt pc 88 then (bif Nat.blt pc 84 then (bif Nat.blt pc 83 then (bif Nat.beq pc 82 then some (.aload_n 0, 1, []) else none) else (bif Nat.beq pc 83 then some (.iload_n 1, 1, []) else none)) else (bif Nat.blt pc 85 then (bif Nat.beq pc 84 then some (.iconst 3, 1, []) else none) else (bif Nat.beq pc 85 then some (.invokevirtual 86, 3, [0, 105, 2, 948, 4, 3, 1]) else none))) else (bif Nat.blt pc 94 then (bif Nat.blt pc 91 then (bif Nat.beq pc 88 then some (.invokevirtual 105, 3, [0, 122, 2, 986, 4, 4, 1]) else none) else (bif Nat.beq pc 91 then some (.invokestatic 124, 3, [1, 124, 3, 1009, 4, 6, 1]) else none)) else (bif Nat.blt pc 97 then (bif Nat.beq pc 94 then some (.invokevirtual 101, 3, [0, 106, 3, 956, 4, 4, 0]) else none) else (bif Nat.beq pc 97 then some (.return_, 1, []) else none))))))
/-- X5_work -/
def I_X5_work (pc : Nat) : Option IE := bif Nat.blt pc 30 then (bif Nat.blt pc 13 then (bif Nat.blt pc 6 then (bif Nat.blt pc 4 then (bif Nat.blt pc 1 then (bif Nat.beq pc 0 then some (.aload_n 0, 1, []) else none) else (bif Nat.beq pc 1 then some (.getfield 7, 3, [4, 0, 1, 830]) else none)) else (bif Nat.blt pc 5 then (bif Nat.beq pc 4 then some (.iconst 3, 1, []) else none) else (bif Nat.beq pc 5 then some (.iaload, 1, []) else none))) else (bif Nat.blt pc 8 then (bif Nat.blt pc 7 then (bif Nat.beq pc 6 then some (.istore_n 1, 1, []) else none) else (bif Nat.beq pc 7 then some (.iload_n 1, 1, []) else none)) else (bif Nat.blt pc 9 then (bif Nat.beq pc 8 then some (.aload_n 0, 1, []) else none) else (bif Nat.blt pc 12 then (bif Nat.beq pc 9 then some (.getfield 7, 3, [4, 0, 1, 830]) else none) else (bif Nat.beq pc 12 then some (.iconst 2, 1, []) else none))))) else (bif Nat.blt pc 21 then (bif Nat.blt pc 17 then (bif Nat.blt pc 14 then (bif Nat.beq pc 13 then some (.iaload, 1, []) else none) else (bif Nat.beq pc 14 then some (.if_icmp .ge 51, 3, [65]) else none)) else (bif Nat.blt pc 18 then (bif Nat.beq pc 17 then some (.aload_n 0, 1, []) else none) else (bif Nat.blt pc 19 then (bif Nat.beq pc 18 then some (.iload_n 1, 1, []) else none) else (bif Nat.beq pc 19 then some (.bipush 7, 2, []) else none)))) else (bif Nat.blt pc 25 then (bif Nat.blt pc 24 then (bif Nat.beq pc 21 then some (.invokevirtual 86, 3, [0, 105, 2, 948, 4, 3, 1]) else none) else (bif Nat.beq pc 24 then some (.iconst 1, 1, []) else none)) else (bif Nat.blt pc 28 then (bif Nat.beq pc 25 then some (.if_icmp .ne 34, 3, [59]) else none) else (bif Nat.blt pc 29 then (bif Nat.beq pc 28 then some (.aload_n 0, 1, []) else none) else (bif Nat.beq pc 29 then some (.iload_n 1, 1, []) else none)))))) else (bif Nat.blt pc 45 then (bif Nat.blt pc 36 then (bif Nat.blt pc 33 then (bif Nat.blt pc 32 then (bif Nat.beq pc 30 then some (.bipush 8, 2, []) else none) else (bif Nat.beq pc 32 then some (.aload_n 0, 1, []) else none)) else (bif Nat.blt pc 34 then (bif Nat.beq pc 33 then some (.iload_n 1, 1, []) else none) else (bif Nat.beq pc 34 then some (.bipush 8, 2, []) else none))) else (bif Nat.blt pc 40 then (bif Nat.blt pc 39 then (bif Nat.beq pc 36 then some (.invokevirtual 86, 3, [0, 105, 2, 948, 4, 3, 1]) else none) else (bif Nat.beq pc 39 then some (.iconst 1, 1, []) else none)) else (bif Nat.blt pc 41 then (bif Nat.beq pc 40 then some (.isub, 1, []) else none) else (bif Nat.blt pc 44 then (bif Nat.beq pc 41 then some (.invokevirtual 101, 3, [0, 106, 3, 956, 4, 4, 0]) else none) else (bif Nat.beq pc 44 then some (.aload_n 0, 1, []) else none))))) else (bif Nat.blt pc 55 then (bif Nat.blt pc 48 then (bif Nat.blt pc 46 then (bif Nat.beq pc 45 then some (.iload_n 1, 1, []) else none) else (bif Nat.beq pc 46 then some (.bipush 8, 2, []) else none)) else (bif Nat.blt pc 51 then (bif Nat.beq pc 48 then some (.invokevirtual 86, 3, [0, 105, 2, 948, 4, 3, 1]) else none) else (bif Nat.blt pc 54 then (bif Nat.beq pc 51 then some (.ifCond .ne 8, 3, [59]) else none) else (bif Nat.beq pc 54 then some (.aload_n 0, 1, []) else none)))) else (bif Nat.blt pc 59 then (bif Nat.blt pc 56 then (bif Nat.beq pc 55 then some (.iload_n 1, 1, []) else none) else (bif Nat.beq pc 56 then some (.invokevirtual 128, 3, [0, 130, 1, 964, 4, 3, 0]) else none)) else (bif Nat.blt pc 62 then (bif Nat.beq pc 59 then some (.iinc 1 1, 3, []) else none) else (bif Nat.blt pc 65 then (bif Nat.beq pc 62 then some (.goto (-55), 3, [7]) else none) else (bif Nat.beq pc 65 then some (.return_, 1, []) else none))))))
/-- X5_isOpenStore -/
def I_X5_isOpenStore (pc : Nat) : Option IE := bif Nat.blt pc 24 then (bif Nat.blt pc 10 then (bif Nat.blt pc 6 then (bif Nat.blt pc 2 then (bif Nat.blt pc 1 then (bif Nat.beq pc 0 then some (.iconst 0, 1, []) else none) else (bif Nat.beq pc 1 then some (.istore_n 2, 1, []) else none)) else (bif Nat.blt pc 3 then (bif Nat.beq pc 2 then some (.aload_n 0, 1, []) else none) else (bif Nat.beq pc 3 then some (.getfield 7, 3, [4, 0, 1, 830]) else none))) else (bif Nat.blt pc 8 then (bif Nat.blt pc 7 then (bif Nat.beq pc 6 then some (.iconst 3, 1, []) else none) else (bif Nat.beq pc 7 then some (.iaload, 1, []) else none)) else (bif Nat.blt pc 9 then (bif Nat.beq pc 8 then some (.istore_n 3, 1, []) else none) else (bif Nat.beq pc 9 then some (.iload_n 3, 1, []) else none)))) else (bif Nat.blt pc 18 then (bif Nat.blt pc 14 then (bif Nat.blt pc 11 then (bif Nat.beq pc 10 then some (.iload_n 1, 1, []) else none) else (bif Nat.beq pc 11 then some (.if_icmp .ge 40, 3, [51]) else none)) else (bif Nat.blt pc 15 then (bif Nat.beq pc 14 then some (.iload_n 2, 1, []) else none) else (bif Nat.beq pc 15 then some (.ifCond .ne 24, 3, [39]) else none))) else (bif Nat.blt pc 20 then (bif Nat.blt pc 19 then (bif Nat.beq pc 18 then some (.aload_n 0, 1, []) else none) else (bif Nat.beq pc 19 then some (.iload_n 3, 1, []) else none)) else (bif Nat.blt pc 21 then (bif Nat.beq pc 20 then some (.iconst 0, 1, []) else none) else (bif Nat.beq pc 21 then some (.invokevirtual 86, 3, [0, 105, 2, 948, 4, 3, 1]) else none))))) else (bif Nat.blt pc 39 then (bif Nat.blt pc 30 then (bif Nat.blt pc 28 then (bif Nat.blt pc 25 then (bif Nat.beq pc 24 then some (.iconst 4, 1, []) else none) else (bif Nat.beq pc 25 then some (.if_icmp .ne 18, 3, [43]) else none)) else (bif Nat.blt pc 29 then (bif Nat.beq pc 28 then some (.aload_n 0, 1, []) else none) else (bif Nat.beq pc 29 then some (.iload_n 3, 1, []) else none))) else (bif Nat.blt pc 35 then (bif Nat.blt pc 32 then (bif Nat.beq pc 30 then some (.bipush 7, 2, []) else none) else (bif Nat.beq pc 32 then some (.invokevirtual 86, 3, [0, 105, 2, 948, 4, 3, 1]) else none)) else (bif Nat.blt pc 36 then (bif Nat.beq pc 35 then some (.iconst 2, 1, []) else none) else (bif Nat.beq pc 36 then some (.if_icmp .eq 7, 3, [43]) else none)))) else (bif Nat.blt pc 45 then (bif Nat.blt pc 43 then (bif Nat.blt pc 40 then (bif Nat.beq pc 39 then some (.iconst 1, 1, []) else none) else (bif Nat.beq pc 40 then some (.goto 4, 3, [44]) else none)) else (bif Nat.blt pc 44 then (bif Nat.beq pc 43 then some (.iconst 0, 1, []) else none) else (bif Nat.beq pc 44 then some (.istore_n 2, 1, []) else none))) else (bif Nat.blt pc 51 then (bif Nat.blt pc 48 then (bif Nat.beq pc 45 then some (.iinc 3 1, 3, []) else none) else (bif Nat.beq pc 48 then some (.goto (-39), 3, [9]) else none)) else (bif Nat.blt pc 52 then (bif Nat.beq pc 51 then some (.iload_n 2, 1, []) else none) else (bif Nat.beq pc 52 then some (.ireturn, 1, [1]) else none)))))
/-- X5_reason -/
def I_X5_reason (pc : Nat) : Option IE := bif Nat.blt pc 46 then (bif Nat.blt pc 22 then (bif Nat.blt pc 11 then (bif Nat.blt pc 4 then (bif Nat.blt pc 1 then (bif Nat.beq pc 0 then some (.aload_n 0, 1, []) else none) else (bif Nat.blt pc 2 then (bif Nat.beq pc 1 then some (.iload_n 1, 1, []) else none) else (bif Nat.beq pc 2 then some (.bipush 7, 2, []) else none))) else (bif Nat.blt pc 7 then (bif Nat.beq pc 4 then some (.invokevirtual 86, 3, [0, 105, 2, 948, 4, 3, 1]) else none) else (bif Nat.blt pc 10 then (bif Nat.beq pc 7 then some (.ifCond .eq 5, 3, [12]) else none) else (bif Nat.beq pc 10 then some (.iconst 1, 1, []) else none)))) else (bif Nat.blt pc 14 then (bif Nat.blt pc 12 then (bif Nat.beq pc 11 then some (.ireturn, 1, [0]) else none) else (bif Nat.blt pc 13 then (bif Nat.beq pc 12 then some (.aload_n 0, 1, []) else none) else (bif Nat.beq pc 13 then some (.iload_n 1, 1, []) else none))) else (bif Nat.blt pc 20 then (bif Nat.blt pc 17 then (bif Nat.beq pc 14 then some (.invokevirtual 131, 3, [0, 119, 1, 1016, 4, 2, 1]) else none) else (bif Nat.beq pc 17 then some (.ifCond .eq 19, 3, [36]) else none)) else (bif Nat.blt pc 21 then (bif Nat.beq pc 20 then some (.aload_n 0, 1, []) else none) else (bif Nat.beq pc 21 then some (.iload_n 1, 1, []) else none))))) else (bif Nat.blt pc 35 then (bif Nat.blt pc 25 then (bif Nat.blt pc 23 then (bif Nat.beq pc 22 then some (.aload_n 0, 1, []) else none) else (bif Nat.blt pc 24 then (bif Nat.beq pc 23 then some (.iload_n 1, 1, []) else none) else (bif Nat.beq pc 24 then some (.iconst 2, 1, []) else none))) else (bif Nat.blt pc 31 then (bif Nat.blt pc 28 then (bif Nat.beq pc 25 then some (.invokevirtual 86, 3, [0, 105, 2, 948, 4, 3, 1]) else none) else (bif Nat.beq pc 28 then some (.invokevirtual 134, 3, [0, 121, 2, 1020, 4, 4, 1]) else none)) else (bif Nat.blt pc 34 then (bif Nat.beq pc 31 then some (.ifCond .ne 5, 3, [36]) else none) else (bif Nat.beq pc 34 then some (.iconst 2, 1, []) else none)))) else (bif Nat.blt pc 38 then (bif Nat.blt pc 36 then (bif Nat.beq pc 35 then some (.ireturn, 1, [0]) else none) else (bif Nat.blt pc 37 then (bif Nat.beq pc 36 then some (.aload_n 0, 1, []) else none) else (bif Nat.beq pc 37 then some (.iload_n 1, 1, []) else none))) else (bif Nat.blt pc 44 then (bif Nat.blt pc 41 then (bif Nat.beq pc 38 then some (.invokevirtual 137, 3, [0, 120, 1, 1024, 4, 2, 1]) else none) else (bif Nat.beq pc 41 then some (.ifCond .eq 19, 3, [60]) else none)) else (bif Nat.blt pc 45 then (bif Nat.beq pc 44 then some (.aload_n 0, 1, []) else none) else (bif Nat.beq pc 45 then some (.iload_n 1, 1, []) else none)))))) else (bif Nat.blt pc 67 then (bif Nat.blt pc 58 then (bif Nat.blt pc 49 then (bif Nat.blt pc 47 then (bif Nat.beq pc 46 then some (.aload_n 0, 1, []) else none) else (bif Nat.blt pc 48 then (bif Nat.beq pc 47 then some (.iload_n 1, 1, []) else none) else (bif Nat.beq pc 48 then some (.iconst 3, 1, []) else none))) else (bif Nat.blt pc 52 then (bif Nat.beq pc 49 then some (.invokevirtual 86, 3, [0, 105, 2, 948, 4, 3, 1]) else none) else (bif Nat.blt pc 55 then (bif Nat.beq pc 52 then some (.invokevirtual 134, 3, [0, 121, 2, 1020, 4, 4, 1]) else none) else (bif Nat.beq pc 55 then some (.ifCond .ne 5, 3, [60]) else none)))) else (bif Nat.blt pc 61 then (bif Nat.blt pc 59 then (bif Nat.beq pc 58 then some (.iconst 3, 1, []) else none) else (bif Nat.blt pc 60 then (bif Nat.beq pc 59 then some (.ireturn, 1, [0]) else none) else (bif Nat.beq pc 60 then some (.aload_n 0, 1, []) else none))) else (bif Nat.blt pc 63 then (bif Nat.blt pc 62 then (bif Nat.beq pc 61 then some (.iload_n 1, 1, []) else none) else (bif Nat.beq pc 62 then some (.iconst 0, 1, []) else none)) else (bif Nat.blt pc 66 then (bif Nat.beq pc 63 then some (.invokevirtual 86, 3, [0, 105, 2, 948, 4, 3, 1]) else none) else (bif Nat.beq pc 66 then some (.iconst 3, 1, []) else none))))) else (bif Nat.blt pc 80 then (bif Nat.blt pc 72 then (bif Nat.blt pc 70 then (bif Nat.beq pc 67 then some (.if_icmp .ne 24, 3, [91]) else none) else (bif Nat.blt pc 71 then (bif Nat.beq pc 70 then some (.aload_n 0, 1, []) else none) else (bif Nat.beq pc 71 then some (.iload_n 1, 1, []) else none))) else (bif Nat.blt pc 76 then (bif Nat.blt pc 73 then (bif Nat.beq pc 72 then some (.iconst 5, 1, []) else none) else (bif Nat.beq pc 73 then some (.invokevirtual 86, 3, [0, 105, 2, 948, 4, 3, 1]) else none)) else (bif Nat.blt pc 79 then (bif Nat.beq pc 76 then some (.ifCond .le 15, 3, [91]) else none) else (bif Nat.beq pc 79 then some (.aload_n 0, 1, []) else none)))) else (bif Nat.blt pc 87 then (bif Nat.blt pc 81 then (bif Nat.beq pc 80 then some (.iload_n 1, 1, []) else none) else (bif Nat.blt pc 84 then (bif Nat.beq pc 81 then some (.invokevirtual 140, 3, [0, 132, 1, 1028, 4, 4, 1]) else none) else (bif Nat.beq pc 84 then some (.ifCond .eq 7, 3, [91]) else none))) else (bif Nat.blt pc 91 then (bif Nat.blt pc 88 then (bif Nat.beq pc 87 then some (.iconst 4, 1, []) else none) else (bif Nat.beq pc 88 then some (.goto 4, 3, [92]) else none)) else (bif Nat.blt pc 92 then (bif Nat.beq pc 91 then some (.iconst 0, 1, []) else none) else (bif Nat.beq pc 92 then some (.ireturn, 1, [0]) else none))))))
/-- X5_needs -/
def I_X5_needs (pc : Nat) : Option IE := bif Nat.blt pc 10 then (bif Nat.blt pc 5 then (bif Nat.blt pc 1 then (bif Nat.beq pc 0 then some (.iload_n 0, 1, []) else none) else (bif Nat.blt pc 2 then (bif Nat.beq pc 1 then some (.iconst 2, 1, []) else none) else (bif Nat.beq pc 2 then some (.if_icmp .ne 7, 3, [9]) else none))) else (bif Nat.blt pc 6 then (bif Nat.beq pc 5 then some (.iconst 3, 1, []) else none) else (bif Nat.blt pc 9 then (bif Nat.beq pc 6 then some (.goto 13, 3, [19]) else none) else (bif Nat.beq pc 9 then some (.iload_n 0, 1, []) else none)))) else (bif Nat.blt pc 15 then (bif Nat.blt pc 11 then (bif Nat.beq pc 10 then some (.iconst 3, 1, []) else none) else (bif Nat.blt pc 14 then (bif Nat.beq pc 11 then some (.if_icmp .ne 7, 3, [18]) else none) else (bif Nat.beq pc 14 then some (.iconst 2, 1, []) else none))) else (bif Nat.blt pc 18 then (bif Nat.beq pc 15 then some (.goto 4, 3, [19]) else none) else (bif Nat.blt pc 19 then (bif Nat.beq pc 18 then some (.iconst 1, 1, []) else none) else (bif Nat.beq pc 19 then some (.ireturn, 1, [0]) else none))))
/-- X5_cycle -/
def I_X5_cycle (pc : Nat) : Option IE := bif Nat.blt pc 98 then (bif Nat.blt pc 51 then (bif Nat.blt pc 25 then (bif Nat.blt pc 11 then (bif Nat.blt pc 3 then (bif Nat.blt pc 1 then (bif Nat.beq pc 0 then some (.iconst 0, 1, []) else none) else (bif Nat.blt pc 2 then (bif Nat.beq pc 1 then some (.istore_n 1, 1, []) else none) else (bif Nat.beq pc 2 then some (.aload_n 0, 1, []) else none))) else (bif Nat.blt pc 9 then (bif Nat.blt pc 6 then (bif Nat.beq pc 3 then some (.invokevirtual 78, 3, [0, 111, 0, 932, 4, 1, 1]) else none) else (bif Nat.beq pc 6 then some (.ifCond .le 38, 3, [44]) else none)) else (bif Nat.blt pc 10 then (bif Nat.beq pc 9 then some (.aload_n 0, 1, []) else none) else (bif Nat.beq pc 10 then some (.aload_n 0, 1, []) else none)))) else (bif Nat.blt pc 16 then (bif Nat.blt pc 14 then (bif Nat.beq pc 11 then some (.getfield 7, 3, [4, 0, 1, 830]) else none) else (bif Nat.blt pc 15 then (bif Nat.beq pc 14 then some (.iconst 3, 1, []) else none) else (bif Nat.beq pc 15 then some (.iaload, 1, []) else none))) else (bif Nat.blt pc 21 then (bif Nat.blt pc 18 then (bif Nat.beq pc 16 then some (.bipush 7, 2, []) else none) else (bif Nat.beq pc 18 then some (.invokevirtual 86, 3, [0, 105, 2, 948, 4, 3, 1]) else none)) else (bif Nat.blt pc 22 then (bif Nat.beq pc 21 then some (.iconst 2, 1, []) else none) else (bif Nat.beq pc 22 then some (.if_icmp .ne 22, 3, [44]) else none))))) else (bif Nat.blt pc 38 then (bif Nat.blt pc 28 then (bif Nat.blt pc 26 then (bif Nat.beq pc 25 then some (.iload_n 1, 1, []) else none) else (bif Nat.blt pc 27 then (bif Nat.beq pc 26 then some (.aload_n 0, 1, []) else none) else (bif Nat.beq pc 27 then some (.iconst 2, 1, []) else none))) else (bif Nat.blt pc 34 then (bif Nat.blt pc 31 then (bif Nat.beq pc 28 then some (.invokevirtual 61, 3, [0, 107, 1, 910, 4, 2, 1]) else none) else (bif Nat.beq pc 31 then some (.if_icmp .ge 13, 3, [44]) else none)) else (bif Nat.blt pc 35 then (bif Nat.beq pc 34 then some (.aload_n 0, 1, []) else none) else (bif Nat.beq pc 35 then some (.invokevirtual 143, 3, [0, 126, 0, 952, 4, 2, 0]) else none)))) else (bif Nat.blt pc 45 then (bif Nat.blt pc 41 then (bif Nat.beq pc 38 then some (.iinc 1 1, 3, []) else none) else (bif Nat.blt pc 44 then (bif Nat.beq pc 41 then some (.goto (-39), 3, [2]) else none) else (bif Nat.beq pc 44 then some (.aload_n 0, 1, []) else none))) else (bif Nat.blt pc 49 then (bif Nat.blt pc 48 then (bif Nat.beq pc 45 then some (.invokevirtual 146, 3, [0, 131, 0, 960, 4, 2, 0]) else none) else (bif Nat.beq pc 48 then some (.iconst 0, 1, []) else none)) else (bif Nat.blt pc 50 then (bif Nat.beq pc 49 then some (.istore_n 2, 1, []) else none) else (bif Nat.beq pc 50 then some (.aload_n 0, 1, []) else none)))))) else (bif Nat.blt pc 73 then (bif Nat.blt pc 62 then (bif Nat.blt pc 56 then (bif Nat.blt pc 54 then (bif Nat.beq pc 51 then some (.getfield 7, 3, [4, 0, 1, 830]) else none) else (bif Nat.blt pc 55 then (bif Nat.beq pc 54 then some (.iconst 3, 1, []) else none) else (bif Nat.beq pc 55 then some (.iaload, 1, []) else none))) else (bif Nat.blt pc 58 then (bif Nat.blt pc 57 then (bif Nat.beq pc 56 then some (.istore_n 3, 1, []) else none) else (bif Nat.beq pc 57 then some (.iload_n 3, 1, []) else none)) else (bif Nat.blt pc 59 then (bif Nat.beq pc 58 then some (.aload_n 0, 1, []) else none) else (bif Nat.beq pc 59 then some (.getfield 7, 3, [4, 0, 1, 830]) else none)))) else (bif Nat.blt pc 67 then (bif Nat.blt pc 63 then (bif Nat.beq pc 62 then some (.iconst 2, 1, []) else none) else (bif Nat.blt pc 64 then (bif Nat.beq pc 63 then some (.iaload, 1, []) else none) else (bif Nat.beq pc 64 then some (.if_icmp .ge 53, 3, [117]) else none))) else (bif Nat.blt pc 69 then (bif Nat.blt pc 68 then (bif Nat.beq pc 67 then some (.iload_n 2, 1, []) else none) else (bif Nat.beq pc 68 then some (.aload_n 0, 1, []) else none)) else (bif Nat.blt pc 70 then (bif Nat.beq pc 69 then some (.iconst 1, 1, []) else none) else (bif Nat.beq pc 70 then some (.invokevirtual 61, 3, [0, 107, 1, 910, 4, 2, 1]) else none))))) else (bif Nat.blt pc 86 then (bif Nat.blt pc 78 then (bif Nat.blt pc 76 then (bif Nat.beq pc 73 then some (.if_icmp .ge 44, 3, [117]) else none) else (bif Nat.blt pc 77 then (bif Nat.beq pc 76 then some (.aload_n 0, 1, []) else none) else (bif Nat.beq pc 77 then some (.iload_n 3, 1, []) else none))) else (bif Nat.blt pc 84 then (bif Nat.blt pc 81 then (bif Nat.beq pc 78 then some (.invokevirtual 149, 3, [0, 133, 1, 1012, 4, 2, 1]) else none) else (bif Nat.beq pc 81 then some (.ifCond .ne 30, 3, [111]) else none)) else (bif Nat.blt pc 85 then (bif Nat.beq pc 84 then some (.aload_n 0, 1, []) else none) else (bif Nat.beq pc 85 then some (.iload_n 3, 1, []) else none)))) else (bif Nat.blt pc 93 then (bif Nat.blt pc 89 then (bif Nat.blt pc 88 then (bif Nat.beq pc 86 then some (.bipush 7, 2, []) else none) else (bif Nat.beq pc 88 then some (.iconst 1, 1, []) else none)) else (bif Nat.blt pc 92 then (bif Nat.beq pc 89 then some (.invokevirtual 101, 3, [0, 106, 3, 956, 4, 4, 0]) else none) else (bif Nat.beq pc 92 then some (.aload_n 0, 1, []) else none))) else (bif Nat.blt pc 96 then (bif Nat.blt pc 94 then (bif Nat.beq pc 93 then some (.iload_n 3, 1, []) else none) else (bif Nat.beq pc 94 then some (.bipush 8, 2, []) else none)) else (bif Nat.blt pc 97 then (bif Nat.beq pc 96 then some (.aload_n 0, 1, []) else none) else (bif Nat.beq pc 97 then some (.iload_n 3, 1, []) else none))))))) else (bif Nat.blt pc 152 then (bif Nat.blt pc 128 then (bif Nat.blt pc 117 then (bif Nat.blt pc 105 then (bif Nat.blt pc 99 then (bif Nat.beq pc 98 then some (.iconst 0, 1, []) else none) else (bif Nat.blt pc 102 then (bif Nat.beq pc 99 then some (.invokevirtual 86, 3, [0, 105, 2, 948, 4, 3, 1]) else none) else (bif Nat.beq pc 102 then some (.invokestatic 152, 3, [1, 134, 1, 1032, 4, 1, 1]) else none))) else (bif Nat.blt pc 111 then (bif Nat.blt pc 108 then (bif Nat.beq pc 105 then some (.invokevirtual 101, 3, [0, 106, 3, 956, 4, 4, 0]) else none) else (bif Nat.beq pc 108 then some (.iinc 2 1, 3, []) else none)) else (bif Nat.blt pc 114 then (bif Nat.beq pc 111 then some (.iinc 3 1, 3, []) else none) else (bif Nat.beq pc 114 then some (.goto (-57), 3, [57]) else none)))) else (bif Nat.blt pc 120 then (bif Nat.blt pc 118 then (bif Nat.beq pc 117 then some (.iconst 0, 1, []) else none) else (bif Nat.blt pc 119 then (bif Nat.beq pc 118 then some (.istore_n 3, 1, []) else none) else (bif Nat.beq pc 119 then some (.aload_n 0, 1, []) else none))) else (bif Nat.blt pc 124 then (bif Nat.blt pc 123 then (bif Nat.beq pc 120 then some (.invokevirtual 78, 3, [0, 111, 0, 932, 4, 1, 1]) else none) else (bif Nat.beq pc 123 then some (.aload_n 0, 1, []) else none)) else (bif Nat.blt pc 125 then (bif Nat.beq pc 124 then some (.iconst 0, 1, []) else none) else (bif Nat.beq pc 125 then some (.invokevirtual 61, 3, [0, 107, 1, 910, 4, 2, 1]) else none))))) else (bif Nat.blt pc 141 then (bif Nat.blt pc 133 then (bif Nat.blt pc 131 then (bif Nat.beq pc 128 then some (.if_icmp .ge 56, 3, [184]) else none) else (bif Nat.blt pc 132 then (bif Nat.beq pc 131 then some (.iload_n 3, 1, []) else none) else (bif Nat.beq pc 132 then some (.aload_n 0, 1, []) else none))) else (bif Nat.blt pc 137 then (bif Nat.blt pc 134 then (bif Nat.beq pc 133 then some (.iconst 1, 1, []) else none) else (bif Nat.beq pc 134 then some (.invokevirtual 61, 3, [0, 107, 1, 910, 4, 2, 1]) else none)) else (bif Nat.blt pc 140 then (bif Nat.beq pc 137 then some (.if_icmp .ge 47, 3, [184]) else none) else (bif Nat.beq pc 140 then some (.aload_n 0, 1, []) else none)))) else (bif Nat.blt pc 146 then (bif Nat.blt pc 144 then (bif Nat.beq pc 141 then some (.getfield 7, 3, [4, 0, 1, 830]) else none) else (bif Nat.blt pc 145 then (bif Nat.beq pc 144 then some (.iconst 2, 1, []) else none) else (bif Nat.beq pc 145 then some (.iaload, 1, []) else none))) else (bif Nat.blt pc 150 then (bif Nat.blt pc 147 then (bif Nat.beq pc 146 then some (.aload_n 0, 1, []) else none) else (bif Nat.beq pc 147 then some (.getfield 7, 3, [4, 0, 1, 830]) else none)) else (bif Nat.blt pc 151 then (bif Nat.beq pc 150 then some (.iconst 1, 1, []) else none) else (bif Nat.beq pc 151 then some (.iaload, 1, []) else none)))))) else (bif Nat.blt pc 175 then (bif Nat.blt pc 164 then (bif Nat.blt pc 157 then (bif Nat.blt pc 155 then (bif Nat.beq pc 152 then some (.if_icmp .ge 32, 3, [184]) else none) else (bif Nat.blt pc 156 then (bif Nat.beq pc 155 then some (.aload_n 0, 1, []) else none) else (bif Nat.beq pc 156 then some (.aload_n 0, 1, []) else none))) else (bif Nat.blt pc 161 then (bif Nat.blt pc 160 then (bif Nat.beq pc 157 then some (.getfield 7, 3, [4, 0, 1, 830]) else none) else (bif Nat.beq pc 160 then some (.iconst 2, 1, []) else none)) else (bif Nat.blt pc 162 then (bif Nat.beq pc 161 then some (.iaload, 1, []) else none) else (bif Nat.beq pc 162 then some (.bipush 7, 2, []) else none)))) else (bif Nat.blt pc 169 then (bif Nat.blt pc 165 then (bif Nat.beq pc 164 then some (.iconst 0, 1, []) else none) else (bif Nat.blt pc 168 then (bif Nat.beq pc 165 then some (.invokevirtual 101, 3, [0, 106, 3, 956, 4, 4, 0]) else none) else (bif Nat.beq pc 168 then some (.aload_n 0, 1, []) else none))) else (bif Nat.blt pc 173 then (bif Nat.blt pc 172 then (bif Nat.beq pc 169 then some (.getfield 7, 3, [4, 0, 1, 830]) else none) else (bif Nat.beq pc 172 then some (.iconst 2, 1, []) else none)) else (bif Nat.blt pc 174 then (bif Nat.beq pc 173 then some (.dup2, 1, []) else none) else (bif Nat.beq pc 174 then some (.iaload, 1, []) else none))))) else (bif Nat.blt pc 188 then (bif Nat.blt pc 178 then (bif Nat.blt pc 176 then (bif Nat.beq pc 175 then some (.iconst 1, 1, []) else none) else (bif Nat.blt pc 177 then (bif Nat.beq pc 176 then some (.iadd, 1, []) else none) else (bif Nat.beq pc 177 then some (.iastore, 1, []) else none))) else (bif Nat.blt pc 184 then (bif Nat.blt pc 181 then (bif Nat.beq pc 178 then some (.iinc 3 1, 3, []) else none) else (bif Nat.beq pc 181 then some (.goto (-62), 3, [119]) else none)) else (bif Nat.blt pc 185 then (bif Nat.beq pc 184 then some (.aload_n 0, 1, []) else none) else (bif Nat.beq pc 185 then some (.getfield 7, 3, [4, 0, 1, 830]) else none)))) else (bif Nat.blt pc 192 then (bif Nat.blt pc 190 then (bif Nat.blt pc 189 then (bif Nat.beq pc 188 then some (.iconst 0, 1, []) else none) else (bif Nat.beq pc 189 then some (.dup2, 1, []) else none)) else (bif Nat.blt pc 191 then (bif Nat.beq pc 190 then some (.iaload, 1, []) else none) else (bif Nat.beq pc 191 then some (.iconst 1, 1, []) else none))) else (bif Nat.blt pc 194 then (bif Nat.blt pc 193 then (bif Nat.beq pc 192 then some (.iadd, 1, []) else none) else (bif Nat.beq pc 193 then some (.iastore, 1, []) else none)) else (bif Nat.blt pc 195 then (bif Nat.beq pc 194 then some (.iload_n 1, 1, []) else none) else (bif Nat.beq pc 195 then some (.ireturn, 1, [0]) else none)))))))
/-- X5_run -/
def I_X5_run (pc : Nat) : Option IE := bif Nat.blt pc 36 then (bif Nat.blt pc 17 then (bif Nat.blt pc 7 then (bif Nat.blt pc 2 then (bif Nat.blt pc 1 then (bif Nat.beq pc 0 then some (.aload_n 0, 1, []) else none) else (bif Nat.beq pc 1 then some (.iconst 0, 1, []) else none)) else (bif Nat.blt pc 5 then (bif Nat.beq pc 2 then some (.putfield 43, 3, [4, 16, 0, 846]) else none) else (bif Nat.blt pc 6 then (bif Nat.beq pc 5 then some (.iload_n 1, 1, []) else none) else (bif Nat.beq pc 6 then some (.iconst 1, 1, []) else none)))) else (bif Nat.blt pc 12 then (bif Nat.blt pc 9 then (bif Nat.beq pc 7 then some (.bipush 100, 2, []) else none) else (bif Nat.beq pc 9 then some (.invokestatic 50, 3, [1, 104, 3, 899, 4, 3, 1]) else none)) else (bif Nat.blt pc 15 then (bif Nat.beq pc 12 then some (.ifCond .ne 9, 3, [21]) else none) else (bif Nat.blt pc 16 then (bif Nat.beq pc 15 then some (.aload_n 0, 1, []) else none) else (bif Nat.beq pc 16 then some (.iconst 1, 1, []) else none))))) else (bif Nat.blt pc 26 then (bif Nat.blt pc 21 then (bif Nat.blt pc 20 then (bif Nat.beq pc 17 then some (.invokevirtual 54, 3, [0, 103, 1, 902, 4, 2, 1]) else none) else (bif Nat.beq pc 20 then some (.ireturn, 1, [0]) else none)) else (bif Nat.blt pc 22 then (bif Nat.beq pc 21 then some (.aload_n 0, 1, []) else none) else (bif Nat.blt pc 25 then (bif Nat.beq pc 22 then some (.getfield 7, 3, [4, 0, 1, 830]) else none) else (bif Nat.beq pc 25 then some (.iconst 0, 1, []) else none)))) else (bif Nat.blt pc 29 then (bif Nat.blt pc 27 then (bif Nat.beq pc 26 then some (.iaload, 1, []) else none) else (bif Nat.blt pc 28 then (bif Nat.beq pc 27 then some (.iload_n 1, 1, []) else none) else (bif Nat.beq pc 28 then some (.iadd, 1, []) else none))) else (bif Nat.blt pc 32 then (bif Nat.beq pc 29 then some (.sipush 10000, 3, []) else none) else (bif Nat.blt pc 35 then (bif Nat.beq pc 32 then some (.if_icmp .le 9, 3, [41]) else none) else (bif Nat.beq pc 35 then some (.aload_n 0, 1, []) else none)))))) else (bif Nat.blt pc 50 then (bif Nat.blt pc 45 then (bif Nat.blt pc 40 then (bif Nat.blt pc 37 then (bif Nat.beq pc 36 then some (.iconst 2, 1, []) else none) else (bif Nat.beq pc 37 then some (.invokevirtual 54, 3, [0, 103, 1, 902, 4, 2, 1]) else none)) else (bif Nat.blt pc 41 then (bif Nat.beq pc 40 then some (.ireturn, 1, [0]) else none) else (bif Nat.blt pc 42 then (bif Nat.beq pc 41 then some (.aload_n 0, 1, []) else none) else (bif Nat.beq pc 42 then some (.invokevirtual 58, 3, [0, 108, 0, 906, 4, 2, 0]) else none)))) else (bif Nat.blt pc 47 then (bif Nat.blt pc 46 then (bif Nat.beq pc 45 then some (.iconst 0, 1, []) else none) else (bif Nat.beq pc 46 then some (.istore_n 2, 1, []) else none)) else (bif Nat.blt pc 48 then (bif Nat.beq pc 47 then some (.iconst 0, 1, []) else none) else (bif Nat.blt pc 49 then (bif Nat.beq pc 48 then some (.istore_n 3, 1, []) else none) else (bif Nat.beq pc 49 then some (.iload_n 3, 1, []) else none))))) else (bif Nat.blt pc 59 then (bif Nat.blt pc 54 then (bif Nat.blt pc 51 then (bif Nat.beq pc 50 then some (.iload_n 1, 1, []) else none) else (bif Nat.beq pc 51 then some (.if_icmp .ge 16, 3, [67]) else none)) else (bif Nat.blt pc 55 then (bif Nat.beq pc 54 then some (.iload_n 2, 1, []) else none) else (bif Nat.blt pc 56 then (bif Nat.beq pc 55 then some (.aload_n 0, 1, []) else none) else (bif Nat.beq pc 56 then some (.invokevirtual 155, 3, [0, 135, 0, 944, 4, 4, 1]) else none)))) else (bif Nat.blt pc 64 then (bif Nat.blt pc 60 then (bif Nat.beq pc 59 then some (.iadd, 1, []) else none) else (bif Nat.blt pc 61 then (bif Nat.beq pc 60 then some (.istore_n 2, 1, []) else none) else (bif Nat.beq pc 61 then some (.iinc 3 1, 3, []) else none))) else (bif Nat.blt pc 67 then (bif Nat.beq pc 64 then some (.goto (-15), 3, [49]) else none) else (bif Nat.blt pc 68 then (bif Nat.beq pc 67 then some (.iload_n 2, 1, []) else none) else (bif Nat.beq pc 68 then some (.ireturn, 1, [0]) else none))))))
/-- X5_flush -/
def I_X5_flush (pc : Nat) : Option IE := bif Nat.blt pc 15 then (bif Nat.blt pc 6 then (bif Nat.blt pc 2 then (bif Nat.blt pc 1 then (bif Nat.beq pc 0 then some (.aload_n 0, 1, []) else none) else (bif Nat.beq pc 1 then some (.iconst 0, 1, []) else none)) else (bif Nat.blt pc 5 then (bif Nat.beq pc 2 then some (.putfield 43, 3, [4, 16, 0, 846]) else none) else (bif Nat.beq pc 5 then some (.aload_n 0, 1, []) else none))) else (bif Nat.blt pc 10 then (bif Nat.blt pc 9 then (bif Nat.beq pc 6 then some (.invokevirtual 58, 3, [0, 108, 0, 906, 4, 2, 0]) else none) else (bif Nat.beq pc 9 then some (.aload_n 0, 1, []) else none)) else (bif Nat.blt pc 13 then (bif Nat.beq pc 10 then some (.invokevirtual 78, 3, [0, 111, 0, 932, 4, 1, 1]) else none) else (bif Nat.blt pc 14 then (bif Nat.beq pc 13 then some (.istore_n 1, 1, []) else none) else (bif Nat.beq pc 14 then some (.aload_n 0, 1, []) else none))))) else (bif Nat.blt pc 23 then (bif Nat.blt pc 19 then (bif Nat.blt pc 18 then (bif Nat.beq pc 15 then some (.getfield 7, 3, [4, 0, 1, 830]) else none) else (bif Nat.beq pc 18 then some (.iconst 2, 1, []) else none)) else (bif Nat.blt pc 20 then (bif Nat.beq pc 19 then some (.aload_n 0, 1, []) else none) else (bif Nat.beq pc 20 then some (.getfield 7, 3, [4, 0, 1, 830]) else none))) else (bif Nat.blt pc 25 then (bif Nat.blt pc 24 then (bif Nat.beq pc 23 then some (.iconst 3, 1, []) else none) else (bif Nat.beq pc 24 then some (.iaload, 1, []) else none)) else (bif Nat.blt pc 26 then (bif Nat.beq pc 25 then some (.iastore, 1, []) else none) else (bif Nat.blt pc 27 then (bif Nat.beq pc 26 then some (.iload_n 1, 1, []) else none) else (bif Nat.beq pc 27 then some (.ireturn, 1, [0]) else none)))))
/-- X5_begin -/
def I_X5_begin (pc : Nat) : Option IE := bif Nat.blt pc 19 then (bif Nat.blt pc 11 then (bif Nat.blt pc 5 then (bif Nat.blt pc 1 then (bif Nat.beq pc 0 then some (.aload_n 0, 1, []) else none) else (bif Nat.blt pc 4 then (bif Nat.beq pc 1 then some (.getfield 7, 3, [4, 0, 1, 830]) else none) else (bif Nat.beq pc 4 then some (.iconst 2, 1, []) else none))) else (bif Nat.blt pc 7 then (bif Nat.blt pc 6 then (bif Nat.beq pc 5 then some (.iconst 0, 1, []) else none) else (bif Nat.beq pc 6 then some (.iastore, 1, []) else none)) else (bif Nat.blt pc 8 then (bif Nat.beq pc 7 then some (.aload_n 0, 1, []) else none) else (bif Nat.beq pc 8 then some (.getfield 7, 3, [4, 0, 1, 830]) else none)))) else (bif Nat.blt pc 14 then (bif Nat.blt pc 12 then (bif Nat.beq pc 11 then some (.iconst 3, 1, []) else none) else (bif Nat.blt pc 13 then (bif Nat.beq pc 12 then some (.iconst 0, 1, []) else none) else (bif Nat.beq pc 13 then some (.iastore, 1, []) else none))) else (bif Nat.blt pc 16 then (bif Nat.blt pc 15 then (bif Nat.beq pc 14 then some (.iconst 0, 1, []) else none) else (bif Nat.beq pc 15 then some (.istore_n 1, 1, []) else none)) else (bif Nat.blt pc 17 then (bif Nat.beq pc 16 then some (.iload_n 1, 1, []) else none) else (bif Nat.beq pc 17 then some (.bipush 24, 2, []) else none))))) else (bif Nat.blt pc 30 then (bif Nat.blt pc 24 then (bif Nat.blt pc 22 then (bif Nat.beq pc 19 then some (.if_icmp .ge 24, 3, [43]) else none) else (bif Nat.blt pc 23 then (bif Nat.beq pc 22 then some (.aload_n 0, 1, []) else none) else (bif Nat.beq pc 23 then some (.iload_n 1, 1, []) else none))) else (bif Nat.blt pc 26 then (bif Nat.blt pc 25 then (bif Nat.beq pc 24 then some (.iconst 5, 1, []) else none) else (bif Nat.beq pc 25 then some (.iconst 0, 1, []) else none)) else (bif Nat.blt pc 29 then (bif Nat.beq pc 26 then some (.invokevirtual 101, 3, [0, 106, 3, 956, 4, 4, 0]) else none) else (bif Nat.beq pc 29 then some (.aload_n 0, 1, []) else none)))) else (bif Nat.blt pc 34 then (bif Nat.blt pc 31 then (bif Nat.beq pc 30 then some (.iload_n 1, 1, []) else none) else (bif Nat.blt pc 33 then (bif Nat.beq pc 31 then some (.bipush 6, 2, []) else none) else (bif Nat.beq pc 33 then some (.iconst 0, 1, []) else none))) else (bif Nat.blt pc 40 then (bif Nat.blt pc 37 then (bif Nat.beq pc 34 then some (.invokevirtual 101, 3, [0, 106, 3, 956, 4, 4, 0]) else none) else (bif Nat.beq pc 37 then some (.iinc 1 1, 3, []) else none)) else (bif Nat.blt pc 43 then (bif Nat.beq pc 40 then some (.goto (-24), 3, [16]) else none) else (bif Nat.beq pc 43 then some (.return_, 1, []) else none)))))
/-- X5_again -/
def I_X5_again (pc : Nat) : Option IE := bif Nat.blt pc 13 then (bif Nat.blt pc 5 then (bif Nat.blt pc 1 then (bif Nat.beq pc 0 then some (.aload_n 0, 1, []) else none) else (bif Nat.blt pc 2 then (bif Nat.beq pc 1 then some (.iconst 0, 1, []) else none) else (bif Nat.beq pc 2 then some (.putfield 43, 3, [4, 16, 0, 846]) else none))) else (bif Nat.blt pc 9 then (bif Nat.blt pc 6 then (bif Nat.beq pc 5 then some (.aload_n 0, 1, []) else none) else (bif Nat.beq pc 6 then some (.invokevirtual 58, 3, [0, 108, 0, 906, 4, 2, 0]) else none)) else (bif Nat.blt pc 10 then (bif Nat.beq pc 9 then some (.aload_n 0, 1, []) else none) else (bif Nat.beq pc 10 then some (.getfield 7, 3, [4, 0, 1, 830]) else none)))) else (bif Nat.blt pc 16 then (bif Nat.blt pc 14 then (bif Nat.beq pc 13 then some (.iconst 3, 1, []) else none) else (bif Nat.blt pc 15 then (bif Nat.beq pc 14 then some (.iaload, 1, []) else none) else (bif Nat.beq pc 15 then some (.istore_n 1, 1, []) else none))) else (bif Nat.blt pc 20 then (bif Nat.blt pc 17 then (bif Nat.beq pc 16 then some (.aload_n 0, 1, []) else none) else (bif Nat.beq pc 17 then some (.invokevirtual 158, 3, [0, 138, 0, 1043, 4, 2, 0]) else none)) else (bif Nat.blt pc 21 then (bif Nat.beq pc 20 then some (.iload_n 1, 1, []) else none) else (bif Nat.beq pc 21 then some (.ireturn, 1, [0]) else none))))
/-- X5_append -/
def I_X5_append (pc : Nat) : Option IE := bif Nat.blt pc 32 then (bif Nat.blt pc 16 then (bif Nat.blt pc 6 then (bif Nat.blt pc 2 then (bif Nat.blt pc 1 then (bif Nat.beq pc 0 then some (.aload_n 0, 1, []) else none) else (bif Nat.beq pc 1 then some (.iconst 0, 1, []) else none)) else (bif Nat.blt pc 5 then (bif Nat.beq pc 2 then some (.putfield 43, 3, [4, 16, 0, 846]) else none) else (bif Nat.beq pc 5 then some (.iload_n 1, 1, []) else none))) else (bif Nat.blt pc 10 then (bif Nat.blt pc 8 then (bif Nat.beq pc 6 then some (.bipush 33, 2, []) else none) else (bif Nat.beq pc 8 then some (.bipush 126, 2, []) else none)) else (bif Nat.blt pc 13 then (bif Nat.beq pc 10 then some (.invokestatic 50, 3, [1, 104, 3, 899, 4, 3, 1]) else none) else (bif Nat.beq pc 13 then some (.ifCond .ne 9, 3, [22]) else none)))) else (bif Nat.blt pc 22 then (bif Nat.blt pc 18 then (bif Nat.blt pc 17 then (bif Nat.beq pc 16 then some (.aload_n 0, 1, []) else none) else (bif Nat.beq pc 17 then some (.iconst 1, 1, []) else none)) else (bif Nat.blt pc 21 then (bif Nat.beq pc 18 then some (.invokevirtual 54, 3, [0, 103, 1, 902, 4, 2, 1]) else none) else (bif Nat.beq pc 21 then some (.ireturn, 1, [0]) else none))) else (bif Nat.blt pc 26 then (bif Nat.blt pc 23 then (bif Nat.beq pc 22 then some (.aload_n 0, 1, []) else none) else (bif Nat.beq pc 23 then some (.getfield 161, 3, [4, 15, 0, 845]) else none)) else (bif Nat.blt pc 28 then (bif Nat.beq pc 26 then some (.bipush 120, 2, []) else none) else (bif Nat.blt pc 31 then (bif Nat.beq pc 28 then some (.if_icmp .ne 9, 3, [37]) else none) else (bif Nat.beq pc 31 then some (.aload_n 0, 1, []) else none)))))) else (bif Nat.blt pc 47 then (bif Nat.blt pc 38 then (bif Nat.blt pc 36 then (bif Nat.blt pc 33 then (bif Nat.beq pc 32 then some (.iconst 2, 1, []) else none) else (bif Nat.beq pc 33 then some (.invokevirtual 54, 3, [0, 103, 1, 902, 4, 2, 1]) else none)) else (bif Nat.blt pc 37 then (bif Nat.beq pc 36 then some (.ireturn, 1, [0]) else none) else (bif Nat.beq pc 37 then some (.aload_n 0, 1, []) else none))) else (bif Nat.blt pc 42 then (bif Nat.blt pc 41 then (bif Nat.beq pc 38 then some (.getfield 19, 3, [4, 3, 1, 833]) else none) else (bif Nat.beq pc 41 then some (.aload_n 0, 1, []) else none)) else (bif Nat.blt pc 45 then (bif Nat.beq pc 42 then some (.getfield 161, 3, [4, 15, 0, 845]) else none) else (bif Nat.blt pc 46 then (bif Nat.beq pc 45 then some (.iload_n 1, 1, []) else none) else (bif Nat.beq pc 46 then some (.iastore, 1, []) else none))))) else (bif Nat.blt pc 53 then (bif Nat.blt pc 49 then (bif Nat.blt pc 48 then (bif Nat.beq pc 47 then some (.aload_n 0, 1, []) else none) else (bif Nat.beq pc 48 then some (.dup, 1, []) else none)) else (bif Nat.blt pc 52 then (bif Nat.beq pc 49 then some (.getfield 161, 3, [4, 15, 0, 845]) else none) else (bif Nat.beq pc 52 then some (.iconst 1, 1, []) else none))) else (bif Nat.blt pc 57 then (bif Nat.blt pc 54 then (bif Nat.beq pc 53 then some (.iadd, 1, []) else none) else (bif Nat.beq pc 54 then some (.putfield 161, 3, [4, 15, 0, 845]) else none)) else (bif Nat.blt pc 58 then (bif Nat.beq pc 57 then some (.aload_n 0, 1, []) else none) else (bif Nat.blt pc 61 then (bif Nat.beq pc 58 then some (.getfield 161, 3, [4, 15, 0, 845]) else none) else (bif Nat.beq pc 61 then some (.ireturn, 1, [0]) else none))))))
/-- X5_clearBuffer -/
def I_X5_clearBuffer (pc : Nat) : Option IE := bif Nat.blt pc 9 then (bif Nat.blt pc 2 then (bif Nat.blt pc 1 then (bif Nat.beq pc 0 then some (.aload_n 0, 1, []) else none) else (bif Nat.beq pc 1 then some (.iconst 0, 1, []) else none)) else (bif Nat.blt pc 5 then (bif Nat.beq pc 2 then some (.putfield 43, 3, [4, 16, 0, 846]) else none) else (bif Nat.blt pc 6 then (bif Nat.beq pc 5 then some (.aload_n 0, 1, []) else none) else (bif Nat.beq pc 6 then some (.getfield 161, 3, [4, 15, 0, 845]) else none)))) else (bif Nat.blt pc 12 then (bif Nat.blt pc 10 then (bif Nat.beq pc 9 then some (.istore_n 1, 1, []) else none) else (bif Nat.blt pc 11 then (bif Nat.beq pc 10 then some (.aload_n 0, 1, []) else none) else (bif Nat.beq pc 11 then some (.iconst 0, 1, []) else none))) else (bif Nat.blt pc 15 then (bif Nat.beq pc 12 then some (.putfield 161, 3, [4, 15, 0, 845]) else none) else (bif Nat.blt pc 16 then (bif Nat.beq pc 15 then some (.iload_n 1, 1, []) else none) else (bif Nat.beq pc 16 then some (.ireturn, 1, [0]) else none))))
/-- X5_goes -/
def I_X5_goes (pc : Nat) : Option IE := bif Nat.blt pc 9 then (bif Nat.blt pc 2 then (bif Nat.blt pc 1 then (bif Nat.beq pc 0 then some (.aload_n 0, 1, []) else none) else (bif Nat.beq pc 1 then some (.iload_n 1, 1, []) else none)) else (bif Nat.blt pc 5 then (bif Nat.beq pc 2 then some (.ifCond .eq 7, 3, [9]) else none) else (bif Nat.blt pc 6 then (bif Nat.beq pc 5 then some (.iload_n 2, 1, []) else none) else (bif Nat.beq pc 6 then some (.goto 7, 3, [13]) else none)))) else (bif Nat.blt pc 13 then (bif Nat.blt pc 10 then (bif Nat.beq pc 9 then some (.aload_n 0, 1, []) else none) else (bif Nat.beq pc 10 then some (.getfield 164, 3, [4, 13, 0, 843]) else none)) else (bif Nat.blt pc 16 then (bif Nat.beq pc 13 then some (.putfield 164, 3, [4, 13, 0, 843]) else none) else (bif Nat.blt pc 17 then (bif Nat.beq pc 16 then some (.iload_n 1, 1, []) else none) else (bif Nat.beq pc 17 then some (.ireturn, 1, [1]) else none))))
/-- X5_isRegister -/
def I_X5_isRegister (pc : Nat) : Option IE := bif Nat.blt pc 3 then (bif Nat.blt pc 1 then (bif Nat.beq pc 0 then some (.iload_n 0, 1, []) else none) else (bif Nat.beq pc 1 then some (.bipush 97, 2, []) else none)) else (bif Nat.blt pc 5 then (bif Nat.beq pc 3 then some (.bipush 104, 2, []) else none) else (bif Nat.blt pc 8 then (bif Nat.beq pc 5 then some (.invokestatic 50, 3, [1, 104, 3, 899, 4, 3, 1]) else none) else (bif Nat.beq pc 8 then some (.ireturn, 1, [1]) else none)))
/-- X5_isFigure -/
def I_X5_isFigure (pc : Nat) : Option IE := bif Nat.blt pc 3 then (bif Nat.blt pc 1 then (bif Nat.beq pc 0 then some (.iload_n 0, 1, []) else none) else (bif Nat.beq pc 1 then some (.bipush 48, 2, []) else none)) else (bif Nat.blt pc 5 then (bif Nat.beq pc 3 then some (.bipush 57, 2, []) else none) else (bif Nat.blt pc 8 then (bif Nat.beq pc 5 then some (.invokestatic 50, 3, [1, 104, 3, 899, 4, 3, 1]) else none) else (bif Nat.beq pc 8 then some (.ireturn, 1, [1]) else none)))
/-- X5_begins -/
def I_X5_begins (pc : Nat) : Option IE := bif Nat.blt pc 47 then (bif Nat.blt pc 24 then (bif Nat.blt pc 11 then (bif Nat.blt pc 5 then (bif Nat.blt pc 1 then (bif Nat.beq pc 0 then some (.aload_n 0, 1, []) else none) else (bif Nat.blt pc 4 then (bif Nat.beq pc 1 then some (.getfield 22, 3, [4, 4, 1, 834]) else none) else (bif Nat.beq pc 4 then some (.aload_n 0, 1, []) else none))) else (bif Nat.blt pc 8 then (bif Nat.beq pc 5 then some (.getfield 167, 3, [4, 11, 0, 841]) else none) else (bif Nat.blt pc 9 then (bif Nat.beq pc 8 then some (.iload_n 1, 1, []) else none) else (bif Nat.beq pc 9 then some (.bipush 91, 2, []) else none)))) else (bif Nat.blt pc 18 then (bif Nat.blt pc 14 then (bif Nat.beq pc 11 then some (.if_icmp .ne 7, 3, [18]) else none) else (bif Nat.blt pc 15 then (bif Nat.beq pc 14 then some (.iconst 4, 1, []) else none) else (bif Nat.beq pc 15 then some (.goto 4, 3, [19]) else none))) else (bif Nat.blt pc 20 then (bif Nat.blt pc 19 then (bif Nat.beq pc 18 then some (.iconst 0, 1, []) else none) else (bif Nat.beq pc 19 then some (.iastore, 1, []) else none)) else (bif Nat.blt pc 21 then (bif Nat.beq pc 20 then some (.aload_n 0, 1, []) else none) else (bif Nat.beq pc 21 then some (.getfield 25, 3, [4, 5, 1, 835]) else none))))) else (bif Nat.blt pc 34 then (bif Nat.blt pc 29 then (bif Nat.blt pc 25 then (bif Nat.beq pc 24 then some (.aload_n 0, 1, []) else none) else (bif Nat.blt pc 28 then (bif Nat.beq pc 25 then some (.getfield 167, 3, [4, 11, 0, 841]) else none) else (bif Nat.beq pc 28 then some (.iload_n 1, 1, []) else none))) else (bif Nat.blt pc 32 then (bif Nat.blt pc 31 then (bif Nat.beq pc 29 then some (.bipush 97, 2, []) else none) else (bif Nat.beq pc 31 then some (.isub, 1, []) else none)) else (bif Nat.blt pc 33 then (bif Nat.beq pc 32 then some (.iastore, 1, []) else none) else (bif Nat.beq pc 33 then some (.aload_n 0, 1, []) else none)))) else (bif Nat.blt pc 41 then (bif Nat.blt pc 37 then (bif Nat.beq pc 34 then some (.getfield 28, 3, [4, 6, 1, 836]) else none) else (bif Nat.blt pc 38 then (bif Nat.beq pc 37 then some (.aload_n 0, 1, []) else none) else (bif Nat.beq pc 38 then some (.getfield 167, 3, [4, 11, 0, 841]) else none))) else (bif Nat.blt pc 43 then (bif Nat.blt pc 42 then (bif Nat.beq pc 41 then some (.iconst (-1), 1, []) else none) else (bif Nat.beq pc 42 then some (.iastore, 1, []) else none)) else (bif Nat.blt pc 44 then (bif Nat.beq pc 43 then some (.aload_n 0, 1, []) else none) else (bif Nat.beq pc 44 then some (.getfield 31, 3, [4, 7, 1, 837]) else none)))))) else (bif Nat.blt pc 68 then (bif Nat.blt pc 57 then (bif Nat.blt pc 52 then (bif Nat.blt pc 48 then (bif Nat.beq pc 47 then some (.aload_n 0, 1, []) else none) else (bif Nat.blt pc 51 then (bif Nat.beq pc 48 then some (.getfield 167, 3, [4, 11, 0, 841]) else none) else (bif Nat.beq pc 51 then some (.iconst (-1), 1, []) else none))) else (bif Nat.blt pc 53 then (bif Nat.beq pc 52 then some (.iastore, 1, []) else none) else (bif Nat.blt pc 54 then (bif Nat.beq pc 53 then some (.aload_n 0, 1, []) else none) else (bif Nat.beq pc 54 then some (.getfield 34, 3, [4, 8, 1, 838]) else none)))) else (bif Nat.blt pc 62 then (bif Nat.blt pc 58 then (bif Nat.beq pc 57 then some (.aload_n 0, 1, []) else none) else (bif Nat.blt pc 61 then (bif Nat.beq pc 58 then some (.getfield 167, 3, [4, 11, 0, 841]) else none) else (bif Nat.beq pc 61 then some (.iconst 0, 1, []) else none))) else (bif Nat.blt pc 64 then (bif Nat.blt pc 63 then (bif Nat.beq pc 62 then some (.iastore, 1, []) else none) else (bif Nat.beq pc 63 then some (.aload_n 0, 1, []) else none)) else (bif Nat.blt pc 65 then (bif Nat.beq pc 64 then some (.iconst 1, 1, []) else none) else (bif Nat.beq pc 65 then some (.putfield 170, 3, [4, 12, 0, 842]) else none))))) else (bif Nat.blt pc 81 then (bif Nat.blt pc 74 then (bif Nat.blt pc 69 then (bif Nat.beq pc 68 then some (.iload_n 1, 1, []) else none) else (bif Nat.blt pc 71 then (bif Nat.beq pc 69 then some (.bipush 91, 2, []) else none) else (bif Nat.beq pc 71 then some (.if_icmp .ne 13, 3, [84]) else none))) else (bif Nat.blt pc 76 then (bif Nat.blt pc 75 then (bif Nat.beq pc 74 then some (.aload_n 0, 1, []) else none) else (bif Nat.beq pc 75 then some (.iconst 1, 1, []) else none)) else (bif Nat.blt pc 78 then (bif Nat.beq pc 76 then some (.bipush 20, 2, []) else none) else (bif Nat.beq pc 78 then some (.invokevirtual 173, 3, [0, 142, 2, 1071, 4, 3, 1]) else none)))) else (bif Nat.blt pc 86 then (bif Nat.blt pc 84 then (bif Nat.beq pc 81 then some (.goto 12, 3, [93]) else none) else (bif Nat.blt pc 85 then (bif Nat.beq pc 84 then some (.aload_n 0, 1, []) else none) else (bif Nat.beq pc 85 then some (.iload_n 1, 1, []) else none))) else (bif Nat.blt pc 90 then (bif Nat.blt pc 89 then (bif Nat.beq pc 86 then some (.invokestatic 177, 3, [1, 143, 1, 1075, 4, 1, 1]) else none) else (bif Nat.beq pc 89 then some (.iconst 1, 1, []) else none)) else (bif Nat.blt pc 93 then (bif Nat.beq pc 90 then some (.invokevirtual 173, 3, [0, 142, 2, 1071, 4, 3, 1]) else none) else (bif Nat.beq pc 93 then some (.ireturn, 1, [1]) else none))))))
/-- X5_takesRight -/
def I_X5_takesRight (pc : Nat) : Option IE := bif Nat.blt pc 36 then (bif Nat.blt pc 18 then (bif Nat.blt pc 8 then (bif Nat.blt pc 3 then (bif Nat.blt pc 1 then (bif Nat.beq pc 0 then some (.iload_n 1, 1, []) else none) else (bif Nat.beq pc 1 then some (.bipush 45, 2, []) else none)) else (bif Nat.blt pc 6 then (bif Nat.beq pc 3 then some (.if_icmp .ne 15, 3, [18]) else none) else (bif Nat.blt pc 7 then (bif Nat.beq pc 6 then some (.aload_n 0, 1, []) else none) else (bif Nat.beq pc 7 then some (.iconst (-1), 1, []) else none)))) else (bif Nat.blt pc 13 then (bif Nat.blt pc 11 then (bif Nat.beq pc 8 then some (.putfield 170, 3, [4, 12, 0, 842]) else none) else (bif Nat.blt pc 12 then (bif Nat.beq pc 11 then some (.aload_n 0, 1, []) else none) else (bif Nat.beq pc 12 then some (.iconst 1, 1, []) else none))) else (bif Nat.blt pc 14 then (bif Nat.beq pc 13 then some (.iconst 3, 1, []) else none) else (bif Nat.blt pc 17 then (bif Nat.beq pc 14 then some (.invokevirtual 173, 3, [0, 142, 2, 1071, 4, 3, 1]) else none) else (bif Nat.beq pc 17 then some (.ireturn, 1, [1]) else none))))) else (bif Nat.blt pc 28 then (bif Nat.blt pc 21 then (bif Nat.blt pc 19 then (bif Nat.beq pc 18 then some (.iload_n 1, 1, []) else none) else (bif Nat.beq pc 19 then some (.bipush 91, 2, []) else none)) else (bif Nat.blt pc 24 then (bif Nat.beq pc 21 then some (.if_icmp .ne 21, 3, [42]) else none) else (bif Nat.blt pc 25 then (bif Nat.beq pc 24 then some (.aload_n 0, 1, []) else none) else (bif Nat.beq pc 25 then some (.getfield 22, 3, [4, 4, 1, 834]) else none)))) else (bif Nat.blt pc 33 then (bif Nat.blt pc 29 then (bif Nat.beq pc 28 then some (.aload_n 0, 1, []) else none) else (bif Nat.blt pc 32 then (bif Nat.beq pc 29 then some (.getfield 167, 3, [4, 11, 0, 841]) else none) else (bif Nat.beq pc 32 then some (.iconst 3, 1, []) else none))) else (bif Nat.blt pc 34 then (bif Nat.beq pc 33 then some (.iastore, 1, []) else none) else (bif Nat.blt pc 35 then (bif Nat.beq pc 34 then some (.aload_n 0, 1, []) else none) else (bif Nat.beq pc 35 then some (.iconst 1, 1, []) else none)))))) else (bif Nat.blt pc 58 then (bif Nat.blt pc 46 then (bif Nat.blt pc 41 then (bif Nat.blt pc 38 then (bif Nat.beq pc 36 then some (.bipush 10, 2, []) else none) else (bif Nat.beq pc 38 then some (.invokevirtual 173, 3, [0, 142, 2, 1071, 4, 3, 1]) else none)) else (bif Nat.blt pc 42 then (bif Nat.beq pc 41 then some (.ireturn, 1, [1]) else none) else (bif Nat.blt pc 43 then (bif Nat.beq pc 42 then some (.iload_n 1, 1, []) else none) else (bif Nat.beq pc 43 then some (.invokestatic 177, 3, [1, 143, 1, 1075, 4, 1, 1]) else none)))) else (bif Nat.blt pc 53 then (bif Nat.blt pc 49 then (bif Nat.beq pc 46 then some (.ifCond .eq 24, 3, [70]) else none) else (bif Nat.blt pc 50 then (bif Nat.beq pc 49 then some (.aload_n 0, 1, []) else none) else (bif Nat.beq pc 50 then some (.getfield 28, 3, [4, 6, 1, 836]) else none))) else (bif Nat.blt pc 54 then (bif Nat.beq pc 53 then some (.aload_n 0, 1, []) else none) else (bif Nat.blt pc 57 then (bif Nat.beq pc 54 then some (.getfield 167, 3, [4, 11, 0, 841]) else none) else (bif Nat.beq pc 57 then some (.iload_n 1, 1, []) else none))))) else (bif Nat.blt pc 66 then (bif Nat.blt pc 62 then (bif Nat.blt pc 60 then (bif Nat.beq pc 58 then some (.bipush 97, 2, []) else none) else (bif Nat.blt pc 61 then (bif Nat.beq pc 60 then some (.isub, 1, []) else none) else (bif Nat.beq pc 61 then some (.iastore, 1, []) else none))) else (bif Nat.blt pc 63 then (bif Nat.beq pc 62 then some (.aload_n 0, 1, []) else none) else (bif Nat.blt pc 64 then (bif Nat.beq pc 63 then some (.iconst 1, 1, []) else none) else (bif Nat.beq pc 64 then some (.bipush 6, 2, []) else none)))) else (bif Nat.blt pc 71 then (bif Nat.blt pc 69 then (bif Nat.beq pc 66 then some (.invokevirtual 173, 3, [0, 142, 2, 1071, 4, 3, 1]) else none) else (bif Nat.blt pc 70 then (bif Nat.beq pc 69 then some (.ireturn, 1, [1]) else none) else (bif Nat.beq pc 70 then some (.aload_n 0, 1, []) else none))) else (bif Nat.blt pc 72 then (bif Nat.beq pc 71 then some (.iload_n 1, 1, []) else none) else (bif Nat.blt pc 75 then (bif Nat.beq pc 72 then some (.invokevirtual 180, 3, [0, 147, 1, 1082, 4, 2, 1]) else none) else (bif Nat.beq pc 75 then some (.ireturn, 1, [1]) else none))))))
/-- X5_takesFigure -/
def I_X5_takesFigure (pc : Nat) : Option IE := bif Nat.blt pc 15 then (bif Nat.blt pc 8 then (bif Nat.blt pc 4 then (bif Nat.blt pc 1 then (bif Nat.beq pc 0 then some (.aload_n 0, 1, []) else none) else (bif Nat.beq pc 1 then some (.getfield 34, 3, [4, 8, 1, 838]) else none)) else (bif Nat.blt pc 5 then (bif Nat.beq pc 4 then some (.aload_n 0, 1, []) else none) else (bif Nat.beq pc 5 then some (.getfield 167, 3, [4, 11, 0, 841]) else none))) else (bif Nat.blt pc 12 then (bif Nat.blt pc 9 then (bif Nat.beq pc 8 then some (.aload_n 0, 1, []) else none) else (bif Nat.beq pc 9 then some (.getfield 170, 3, [4, 12, 0, 842]) else none)) else (bif Nat.blt pc 13 then (bif Nat.beq pc 12 then some (.iload_n 1, 1, []) else none) else (bif Nat.beq pc 13 then some (.bipush 48, 2, []) else none)))) else (bif Nat.blt pc 19 then (bif Nat.blt pc 17 then (bif Nat.blt pc 16 then (bif Nat.beq pc 15 then some (.isub, 1, []) else none) else (bif Nat.beq pc 16 then some (.imul, 1, []) else none)) else (bif Nat.blt pc 18 then (bif Nat.beq pc 17 then some (.iastore, 1, []) else none) else (bif Nat.beq pc 18 then some (.aload_n 0, 1, []) else none))) else (bif Nat.blt pc 23 then (bif Nat.blt pc 20 then (bif Nat.beq pc 19 then some (.iload_n 1, 1, []) else none) else (bif Nat.beq pc 20 then some (.invokestatic 183, 3, [1, 144, 1, 1086, 4, 1, 1]) else none)) else (bif Nat.blt pc 24 then (bif Nat.beq pc 23 then some (.iconst 4, 1, []) else none) else (bif Nat.blt pc 27 then (bif Nat.beq pc 24 then some (.invokevirtual 173, 3, [0, 142, 2, 1071, 4, 3, 1]) else none) else (bif Nat.beq pc 27 then some (.ireturn, 1, [1]) else none)))))
/-- X5_takesSign -/
def I_X5_takesSign (pc : Nat) : Option IE := bif Nat.blt pc 21 then (bif Nat.blt pc 11 then (bif Nat.blt pc 5 then (bif Nat.blt pc 1 then (bif Nat.beq pc 0 then some (.aload_n 0, 1, []) else none) else (bif Nat.blt pc 4 then (bif Nat.beq pc 1 then some (.getfield 22, 3, [4, 4, 1, 834]) else none) else (bif Nat.beq pc 4 then some (.aload_n 0, 1, []) else none))) else (bif Nat.blt pc 8 then (bif Nat.beq pc 5 then some (.getfield 167, 3, [4, 11, 0, 841]) else none) else (bif Nat.blt pc 9 then (bif Nat.beq pc 8 then some (.iload_n 1, 1, []) else none) else (bif Nat.beq pc 9 then some (.bipush 43, 2, []) else none)))) else (bif Nat.blt pc 18 then (bif Nat.blt pc 14 then (bif Nat.beq pc 11 then some (.if_icmp .ne 7, 3, [18]) else none) else (bif Nat.blt pc 15 then (bif Nat.beq pc 14 then some (.iconst 1, 1, []) else none) else (bif Nat.beq pc 15 then some (.goto 4, 3, [19]) else none))) else (bif Nat.blt pc 19 then (bif Nat.beq pc 18 then some (.iconst 2, 1, []) else none) else (bif Nat.blt pc 20 then (bif Nat.beq pc 19 then some (.iastore, 1, []) else none) else (bif Nat.beq pc 20 then some (.aload_n 0, 1, []) else none))))) else (bif Nat.blt pc 33 then (bif Nat.blt pc 27 then (bif Nat.blt pc 22 then (bif Nat.beq pc 21 then some (.iload_n 1, 1, []) else none) else (bif Nat.blt pc 24 then (bif Nat.beq pc 22 then some (.bipush 43, 2, []) else none) else (bif Nat.beq pc 24 then some (.if_icmp .eq 9, 3, [33]) else none))) else (bif Nat.blt pc 28 then (bif Nat.beq pc 27 then some (.iload_n 1, 1, []) else none) else (bif Nat.blt pc 30 then (bif Nat.beq pc 28 then some (.bipush 42, 2, []) else none) else (bif Nat.beq pc 30 then some (.if_icmp .ne 7, 3, [37]) else none)))) else (bif Nat.blt pc 38 then (bif Nat.blt pc 34 then (bif Nat.beq pc 33 then some (.iconst 1, 1, []) else none) else (bif Nat.blt pc 37 then (bif Nat.beq pc 34 then some (.goto 4, 3, [38]) else none) else (bif Nat.beq pc 37 then some (.iconst 0, 1, []) else none))) else (bif Nat.blt pc 40 then (bif Nat.beq pc 38 then some (.bipush 7, 2, []) else none) else (bif Nat.blt pc 43 then (bif Nat.beq pc 40 then some (.invokevirtual 173, 3, [0, 142, 2, 1071, 4, 3, 1]) else none) else (bif Nat.beq pc 43 then some (.ireturn, 1, [1]) else none)))))
/-- X5_takesSecond -/
def I_X5_takesSecond (pc : Nat) : Option IE := bif Nat.blt pc 48 then (bif Nat.blt pc 24 then (bif Nat.blt pc 12 then (bif Nat.blt pc 7 then (bif Nat.blt pc 1 then (bif Nat.beq pc 0 then some (.iload_n 1, 1, []) else none) else (bif Nat.blt pc 4 then (bif Nat.beq pc 1 then some (.invokestatic 183, 3, [1, 144, 1, 1086, 4, 1, 1]) else none) else (bif Nat.beq pc 4 then some (.ifCond .eq 19, 3, [23]) else none))) else (bif Nat.blt pc 8 then (bif Nat.beq pc 7 then some (.aload_n 0, 1, []) else none) else (bif Nat.blt pc 11 then (bif Nat.beq pc 8 then some (.getfield 34, 3, [4, 8, 1, 838]) else none) else (bif Nat.beq pc 11 then some (.aload_n 0, 1, []) else none)))) else (bif Nat.blt pc 19 then (bif Nat.blt pc 15 then (bif Nat.beq pc 12 then some (.getfield 167, 3, [4, 11, 0, 841]) else none) else (bif Nat.blt pc 16 then (bif Nat.beq pc 15 then some (.iaload, 1, []) else none) else (bif Nat.beq pc 16 then some (.ifCond .eq 7, 3, [23]) else none))) else (bif Nat.blt pc 20 then (bif Nat.beq pc 19 then some (.iconst 1, 1, []) else none) else (bif Nat.blt pc 23 then (bif Nat.beq pc 20 then some (.goto 4, 3, [24]) else none) else (bif Nat.beq pc 23 then some (.iconst 0, 1, []) else none))))) else (bif Nat.blt pc 34 then (bif Nat.blt pc 29 then (bif Nat.blt pc 25 then (bif Nat.beq pc 24 then some (.istore_n 2, 1, []) else none) else (bif Nat.blt pc 26 then (bif Nat.beq pc 25 then some (.aload_n 0, 1, []) else none) else (bif Nat.beq pc 26 then some (.getfield 34, 3, [4, 8, 1, 838]) else none))) else (bif Nat.blt pc 30 then (bif Nat.beq pc 29 then some (.aload_n 0, 1, []) else none) else (bif Nat.blt pc 33 then (bif Nat.beq pc 30 then some (.getfield 167, 3, [4, 11, 0, 841]) else none) else (bif Nat.beq pc 33 then some (.iload_n 2, 1, []) else none)))) else (bif Nat.blt pc 40 then (bif Nat.blt pc 37 then (bif Nat.beq pc 34 then some (.ifCond .eq 28, 3, [62]) else none) else (bif Nat.blt pc 39 then (bif Nat.beq pc 37 then some (.bipush 10, 2, []) else none) else (bif Nat.beq pc 39 then some (.aload_n 0, 1, []) else none))) else (bif Nat.blt pc 44 then (bif Nat.blt pc 43 then (bif Nat.beq pc 40 then some (.getfield 34, 3, [4, 8, 1, 838]) else none) else (bif Nat.beq pc 43 then some (.aload_n 0, 1, []) else none)) else (bif Nat.blt pc 47 then (bif Nat.beq pc 44 then some (.getfield 167, 3, [4, 11, 0, 841]) else none) else (bif Nat.beq pc 47 then some (.iaload, 1, []) else none)))))) else (bif Nat.blt pc 70 then (bif Nat.blt pc 57 then (bif Nat.blt pc 53 then (bif Nat.blt pc 49 then (bif Nat.beq pc 48 then some (.imul, 1, []) else none) else (bif Nat.blt pc 50 then (bif Nat.beq pc 49 then some (.aload_n 0, 1, []) else none) else (bif Nat.beq pc 50 then some (.getfield 170, 3, [4, 12, 0, 842]) else none))) else (bif Nat.blt pc 54 then (bif Nat.beq pc 53 then some (.iload_n 1, 1, []) else none) else (bif Nat.blt pc 56 then (bif Nat.beq pc 54 then some (.bipush 48, 2, []) else none) else (bif Nat.beq pc 56 then some (.isub, 1, []) else none)))) else (bif Nat.blt pc 62 then (bif Nat.blt pc 58 then (bif Nat.beq pc 57 then some (.imul, 1, []) else none) else (bif Nat.blt pc 59 then (bif Nat.beq pc 58 then some (.iadd, 1, []) else none) else (bif Nat.beq pc 59 then some (.goto 12, 3, [71]) else none))) else (bif Nat.blt pc 66 then (bif Nat.blt pc 63 then (bif Nat.beq pc 62 then some (.aload_n 0, 1, []) else none) else (bif Nat.beq pc 63 then some (.getfield 34, 3, [4, 8, 1, 838]) else none)) else (bif Nat.blt pc 67 then (bif Nat.beq pc 66 then some (.aload_n 0, 1, []) else none) else (bif Nat.beq pc 67 then some (.getfield 167, 3, [4, 11, 0, 841]) else none))))) else (bif Nat.blt pc 78 then (bif Nat.blt pc 73 then (bif Nat.blt pc 71 then (bif Nat.beq pc 70 then some (.iaload, 1, []) else none) else (bif Nat.blt pc 72 then (bif Nat.beq pc 71 then some (.iastore, 1, []) else none) else (bif Nat.beq pc 72 then some (.iload_n 2, 1, []) else none))) else (bif Nat.blt pc 76 then (bif Nat.beq pc 73 then some (.ifCond .eq 12, 3, [85]) else none) else (bif Nat.blt pc 77 then (bif Nat.beq pc 76 then some (.aload_n 0, 1, []) else none) else (bif Nat.beq pc 77 then some (.iconst 1, 1, []) else none)))) else (bif Nat.blt pc 85 then (bif Nat.blt pc 79 then (bif Nat.beq pc 78 then some (.iconst 5, 1, []) else none) else (bif Nat.blt pc 82 then (bif Nat.beq pc 79 then some (.invokevirtual 173, 3, [0, 142, 2, 1071, 4, 3, 1]) else none) else (bif Nat.beq pc 82 then some (.goto 8, 3, [90]) else none))) else (bif Nat.blt pc 87 then (bif Nat.blt pc 86 then (bif Nat.beq pc 85 then some (.aload_n 0, 1, []) else none) else (bif Nat.beq pc 86 then some (.iload_n 1, 1, []) else none)) else (bif Nat.blt pc 90 then (bif Nat.beq pc 87 then some (.invokevirtual 186, 3, [0, 150, 1, 1093, 4, 3, 1]) else none) else (bif Nat.beq pc 90 then some (.ireturn, 1, [1]) else none))))))
/-- X5_ends -/
def I_X5_ends (pc : Nat) : Option IE := bif Nat.blt pc 18 then (bif Nat.blt pc 10 then (bif Nat.blt pc 3 then (bif Nat.blt pc 1 then (bif Nat.beq pc 0 then some (.iload_n 1, 1, []) else none) else (bif Nat.beq pc 1 then some (.bipush 59, 2, []) else none)) else (bif Nat.blt pc 6 then (bif Nat.beq pc 3 then some (.if_icmp .ne 7, 3, [10]) else none) else (bif Nat.blt pc 7 then (bif Nat.beq pc 6 then some (.iconst 1, 1, []) else none) else (bif Nat.beq pc 7 then some (.goto 4, 3, [11]) else none)))) else (bif Nat.blt pc 13 then (bif Nat.blt pc 11 then (bif Nat.beq pc 10 then some (.iconst 0, 1, []) else none) else (bif Nat.blt pc 12 then (bif Nat.beq pc 11 then some (.istore_n 2, 1, []) else none) else (bif Nat.beq pc 12 then some (.aload_n 0, 1, []) else none))) else (bif Nat.blt pc 14 then (bif Nat.beq pc 13 then some (.dup, 1, []) else none) else (bif Nat.blt pc 17 then (bif Nat.beq pc 14 then some (.getfield 167, 3, [4, 11, 0, 841]) else none) else (bif Nat.beq pc 17 then some (.iload_n 2, 1, []) else none))))) else (bif Nat.blt pc 27 then (bif Nat.blt pc 22 then (bif Nat.blt pc 21 then (bif Nat.beq pc 18 then some (.ifCond .eq 7, 3, [25]) else none) else (bif Nat.beq pc 21 then some (.iconst 1, 1, []) else none)) else (bif Nat.blt pc 25 then (bif Nat.beq pc 22 then some (.goto 4, 3, [26]) else none) else (bif Nat.blt pc 26 then (bif Nat.beq pc 25 then some (.iconst 0, 1, []) else none) else (bif Nat.beq pc 26 then some (.iadd, 1, []) else none)))) else (bif Nat.blt pc 32 then (bif Nat.blt pc 30 then (bif Nat.beq pc 27 then some (.putfield 167, 3, [4, 11, 0, 841]) else none) else (bif Nat.blt pc 31 then (bif Nat.beq pc 30 then some (.aload_n 0, 1, []) else none) else (bif Nat.beq pc 31 then some (.iload_n 2, 1, []) else none))) else (bif Nat.blt pc 33 then (bif Nat.beq pc 32 then some (.iconst 0, 1, []) else none) else (bif Nat.blt pc 36 then (bif Nat.beq pc 33 then some (.invokevirtual 173, 3, [0, 142, 2, 1071, 4, 3, 1]) else none) else (bif Nat.beq pc 36 then some (.ireturn, 1, [1]) else none)))))
/-- X5_takesOne -/
def I_X5_takesOne (pc : Nat) : Option IE := bif Nat.blt pc 12 then (bif Nat.blt pc 5 then (bif Nat.blt pc 1 then (bif Nat.beq pc 0 then some (.aload_n 0, 1, []) else none) else (bif Nat.blt pc 4 then (bif Nat.beq pc 1 then some (.getfield 28, 3, [4, 6, 1, 836]) else none) else (bif Nat.beq pc 4 then some (.aload_n 0, 1, []) else none))) else (bif Nat.blt pc 9 then (bif Nat.blt pc 8 then (bif Nat.beq pc 5 then some (.getfield 167, 3, [4, 11, 0, 841]) else none) else (bif Nat.beq pc 8 then some (.iload_n 1, 1, []) else none)) else (bif Nat.blt pc 11 then (bif Nat.beq pc 9 then some (.bipush 97, 2, []) else none) else (bif Nat.beq pc 11 then some (.isub, 1, []) else none)))) else (bif Nat.blt pc 15 then (bif Nat.blt pc 13 then (bif Nat.beq pc 12 then some (.iastore, 1, []) else none) else (bif Nat.blt pc 14 then (bif Nat.beq pc 13 then some (.aload_n 0, 1, []) else none) else (bif Nat.beq pc 14 then some (.iload_n 1, 1, []) else none))) else (bif Nat.blt pc 19 then (bif Nat.blt pc 18 then (bif Nat.beq pc 15 then some (.invokestatic 177, 3, [1, 143, 1, 1075, 4, 1, 1]) else none) else (bif Nat.beq pc 18 then some (.iload_n 2, 1, []) else none)) else (bif Nat.blt pc 22 then (bif Nat.beq pc 19 then some (.invokevirtual 173, 3, [0, 142, 2, 1071, 4, 3, 1]) else none) else (bif Nat.beq pc 22 then some (.ireturn, 1, [1]) else none))))
/-- X5_takesOther -/
def I_X5_takesOther (pc : Nat) : Option IE := bif Nat.blt pc 12 then (bif Nat.blt pc 5 then (bif Nat.blt pc 1 then (bif Nat.beq pc 0 then some (.aload_n 0, 1, []) else none) else (bif Nat.blt pc 4 then (bif Nat.beq pc 1 then some (.getfield 31, 3, [4, 7, 1, 837]) else none) else (bif Nat.beq pc 4 then some (.aload_n 0, 1, []) else none))) else (bif Nat.blt pc 9 then (bif Nat.blt pc 8 then (bif Nat.beq pc 5 then some (.getfield 167, 3, [4, 11, 0, 841]) else none) else (bif Nat.beq pc 8 then some (.iload_n 1, 1, []) else none)) else (bif Nat.blt pc 11 then (bif Nat.beq pc 9 then some (.bipush 97, 2, []) else none) else (bif Nat.beq pc 11 then some (.isub, 1, []) else none)))) else (bif Nat.blt pc 15 then (bif Nat.blt pc 13 then (bif Nat.beq pc 12 then some (.iastore, 1, []) else none) else (bif Nat.blt pc 14 then (bif Nat.beq pc 13 then some (.aload_n 0, 1, []) else none) else (bif Nat.beq pc 14 then some (.iload_n 1, 1, []) else none))) else (bif Nat.blt pc 20 then (bif Nat.blt pc 18 then (bif Nat.beq pc 15 then some (.invokestatic 177, 3, [1, 143, 1, 1075, 4, 1, 1]) else none) else (bif Nat.beq pc 18 then some (.bipush 30, 2, []) else none)) else (bif Nat.blt pc 23 then (bif Nat.beq pc 20 then some (.invokevirtual 173, 3, [0, 142, 2, 1071, 4, 3, 1]) else none) else (bif Nat.beq pc 23 then some (.ireturn, 1, [1]) else none))))
/-- X5_takesOffset -/
def I_X5_takesOffset (pc : Nat) : Option IE := bif Nat.blt pc 12 then (bif Nat.blt pc 5 then (bif Nat.blt pc 1 then (bif Nat.beq pc 0 then some (.aload_n 0, 1, []) else none) else (bif Nat.blt pc 4 then (bif Nat.beq pc 1 then some (.getfield 34, 3, [4, 8, 1, 838]) else none) else (bif Nat.beq pc 4 then some (.aload_n 0, 1, []) else none))) else (bif Nat.blt pc 9 then (bif Nat.blt pc 8 then (bif Nat.beq pc 5 then some (.getfield 167, 3, [4, 11, 0, 841]) else none) else (bif Nat.beq pc 8 then some (.iload_n 1, 1, []) else none)) else (bif Nat.blt pc 11 then (bif Nat.beq pc 9 then some (.bipush 48, 2, []) else none) else (bif Nat.beq pc 11 then some (.isub, 1, []) else none)))) else (bif Nat.blt pc 15 then (bif Nat.blt pc 13 then (bif Nat.beq pc 12 then some (.iastore, 1, []) else none) else (bif Nat.blt pc 14 then (bif Nat.beq pc 13 then some (.aload_n 0, 1, []) else none) else (bif Nat.beq pc 14 then some (.iload_n 1, 1, []) else none))) else (bif Nat.blt pc 19 then (bif Nat.blt pc 18 then (bif Nat.beq pc 15 then some (.invokestatic 183, 3, [1, 144, 1, 1086, 4, 1, 1]) else none) else (bif Nat.beq pc 18 then some (.iload_n 2, 1, []) else none)) else (bif Nat.blt pc 22 then (bif Nat.beq pc 19 then some (.invokevirtual 173, 3, [0, 142, 2, 1071, 4, 3, 1]) else none) else (bif Nat.beq pc 22 then some (.ireturn, 1, [1]) else none))))
/-- X5_takes -/
def I_X5_takes (pc : Nat) : Option IE := bif Nat.blt pc 181 then (bif Nat.blt pc 149 then (bif Nat.blt pc 130 then (bif Nat.blt pc 122 then (bif Nat.blt pc 4 then (bif Nat.blt pc 1 then (bif Nat.beq pc 0 then some (.aload_n 0, 1, []) else none) else (bif Nat.beq pc 1 then some (.getfield 164, 3, [4, 13, 0, 843]) else none)) else (bif Nat.blt pc 120 then (bif Nat.beq pc 4 then some (.tableswitch 247 0 24 #[116, 122, 139, 145, 151, 247, 157, 163, 247, 247, 169, 181, 193, 247, 247, 247, 247, 247, 247, 247, 169, 181, 211, 229, 163], 116, [251, 0, 120, 1, 126, 2, 143, 3, 149, 4, 155, 5, 251, 6, 161, 7, 167, 8, 251, 9, 251, 10, 173, 11, 185, 12, 197, 13, 251, 14, 251, 15, 251, 16, 251, 17, 251, 18, 251, 19, 251, 20, 173, 21, 185, 22, 215, 23, 233, 24, 167]) else none) else (bif Nat.blt pc 121 then (bif Nat.beq pc 120 then some (.aload_n 0, 1, []) else none) else (bif Nat.beq pc 121 then some (.iload_n 1, 1, []) else none)))) else (bif Nat.blt pc 126 then (bif Nat.blt pc 125 then (bif Nat.beq pc 122 then some (.invokevirtual 189, 3, [0, 145, 1, 1067, 4, 2, 1]) else none) else (bif Nat.beq pc 125 then some (.ireturn, 1, [1]) else none)) else (bif Nat.blt pc 127 then (bif Nat.beq pc 126 then some (.aload_n 0, 1, []) else none) else (bif Nat.blt pc 128 then (bif Nat.beq pc 127 then some (.iload_n 1, 1, []) else none) else (bif Nat.beq pc 128 then some (.bipush 61, 2, []) else none))))) else (bif Nat.blt pc 139 then (bif Nat.blt pc 134 then (bif Nat.blt pc 133 then (bif Nat.beq pc 130 then some (.if_icmp .ne 7, 3, [137]) else none) else (bif Nat.beq pc 133 then some (.iconst 1, 1, []) else none)) else (bif Nat.blt pc 137 then (bif Nat.beq pc 134 then some (.goto 4, 3, [138]) else none) else (bif Nat.blt pc 138 then (bif Nat.beq pc 137 then some (.iconst 0, 1, []) else none) else (bif Nat.beq pc 138 then some (.iconst 2, 1, []) else none)))) else (bif Nat.blt pc 144 then (bif Nat.blt pc 142 then (bif Nat.beq pc 139 then some (.invokevirtual 173, 3, [0, 142, 2, 1071, 4, 3, 1]) else none) else (bif Nat.blt pc 143 then (bif Nat.beq pc 142 then some (.ireturn, 1, [1]) else none) else (bif Nat.beq pc 143 then some (.aload_n 0, 1, []) else none))) else (bif Nat.blt pc 145 then (bif Nat.beq pc 144 then some (.iload_n 1, 1, []) else none) else (bif Nat.blt pc 148 then (bif Nat.beq pc 145 then some (.invokevirtual 192, 3, [0, 146, 1, 1078, 4, 2, 1]) else none) else (bif Nat.beq pc 148 then some (.ireturn, 1, [1]) else none)))))) else (bif Nat.blt pc 166 then (bif Nat.blt pc 156 then (bif Nat.blt pc 151 then (bif Nat.blt pc 150 then (bif Nat.beq pc 149 then some (.aload_n 0, 1, []) else none) else (bif Nat.beq pc 150 then some (.iload_n 1, 1, []) else none)) else (bif Nat.blt pc 154 then (bif Nat.beq pc 151 then some (.invokevirtual 180, 3, [0, 147, 1, 1082, 4, 2, 1]) else none) else (bif Nat.blt pc 155 then (bif Nat.beq pc 154 then some (.ireturn, 1, [1]) else none) else (bif Nat.beq pc 155 then some (.aload_n 0, 1, []) else none)))) else (bif Nat.blt pc 161 then (bif Nat.blt pc 157 then (bif Nat.beq pc 156 then some (.iload_n 1, 1, []) else none) else (bif Nat.blt pc 160 then (bif Nat.beq pc 157 then some (.invokevirtual 195, 3, [0, 149, 1, 1089, 4, 3, 1]) else none) else (bif Nat.beq pc 160 then some (.ireturn, 1, [1]) else none))) else (bif Nat.blt pc 162 then (bif Nat.beq pc 161 then some (.aload_n 0, 1, []) else none) else (bif Nat.blt pc 163 then (bif Nat.beq pc 162 then some (.iload_n 1, 1, []) else none) else (bif Nat.beq pc 163 then some (.invokevirtual 198, 3, [0, 148, 1, 1097, 4, 2, 1]) else none))))) else (bif Nat.blt pc 173 then (bif Nat.blt pc 168 then (bif Nat.blt pc 167 then (bif Nat.beq pc 166 then some (.ireturn, 1, [1]) else none) else (bif Nat.beq pc 167 then some (.aload_n 0, 1, []) else none)) else (bif Nat.blt pc 169 then (bif Nat.beq pc 168 then some (.iload_n 1, 1, []) else none) else (bif Nat.blt pc 172 then (bif Nat.beq pc 169 then some (.invokevirtual 201, 3, [0, 152, 1, 1101, 4, 2, 1]) else none) else (bif Nat.beq pc 172 then some (.ireturn, 1, [1]) else none)))) else (bif Nat.blt pc 176 then (bif Nat.blt pc 174 then (bif Nat.beq pc 173 then some (.aload_n 0, 1, []) else none) else (bif Nat.blt pc 175 then (bif Nat.beq pc 174 then some (.iload_n 1, 1, []) else none) else (bif Nat.beq pc 175 then some (.aload_n 0, 1, []) else none))) else (bif Nat.blt pc 179 then (bif Nat.beq pc 176 then some (.getfield 164, 3, [4, 13, 0, 843]) else none) else (bif Nat.blt pc 180 then (bif Nat.beq pc 179 then some (.iconst 1, 1, []) else none) else (bif Nat.beq pc 180 then some (.iadd, 1, []) else none))))))) else (bif Nat.blt pc 217 then (bif Nat.blt pc 198 then (bif Nat.blt pc 188 then (bif Nat.blt pc 185 then (bif Nat.blt pc 184 then (bif Nat.beq pc 181 then some (.invokevirtual 204, 3, [0, 151, 2, 1105, 4, 3, 1]) else none) else (bif Nat.beq pc 184 then some (.ireturn, 1, [1]) else none)) else (bif Nat.blt pc 186 then (bif Nat.beq pc 185 then some (.aload_n 0, 1, []) else none) else (bif Nat.blt pc 187 then (bif Nat.beq pc 186 then some (.iload_n 1, 1, []) else none) else (bif Nat.beq pc 187 then some (.aload_n 0, 1, []) else none)))) else (bif Nat.blt pc 193 then (bif Nat.blt pc 191 then (bif Nat.beq pc 188 then some (.getfield 164, 3, [4, 13, 0, 843]) else none) else (bif Nat.blt pc 192 then (bif Nat.beq pc 191 then some (.iconst 1, 1, []) else none) else (bif Nat.beq pc 192 then some (.iadd, 1, []) else none))) else (bif Nat.blt pc 196 then (bif Nat.beq pc 193 then some (.invokevirtual 207, 3, [0, 153, 2, 1109, 4, 3, 1]) else none) else (bif Nat.blt pc 197 then (bif Nat.beq pc 196 then some (.ireturn, 1, [1]) else none) else (bif Nat.beq pc 197 then some (.aload_n 0, 1, []) else none))))) else (bif Nat.blt pc 208 then (bif Nat.blt pc 201 then (bif Nat.blt pc 199 then (bif Nat.beq pc 198 then some (.iload_n 1, 1, []) else none) else (bif Nat.beq pc 199 then some (.bipush 93, 2, []) else none)) else (bif Nat.blt pc 204 then (bif Nat.beq pc 201 then some (.if_icmp .ne 7, 3, [208]) else none) else (bif Nat.blt pc 205 then (bif Nat.beq pc 204 then some (.iconst 1, 1, []) else none) else (bif Nat.beq pc 205 then some (.goto 4, 3, [209]) else none)))) else (bif Nat.blt pc 214 then (bif Nat.blt pc 209 then (bif Nat.beq pc 208 then some (.iconst 0, 1, []) else none) else (bif Nat.blt pc 211 then (bif Nat.beq pc 209 then some (.bipush 30, 2, []) else none) else (bif Nat.beq pc 211 then some (.invokevirtual 173, 3, [0, 142, 2, 1071, 4, 3, 1]) else none))) else (bif Nat.blt pc 215 then (bif Nat.beq pc 214 then some (.ireturn, 1, [1]) else none) else (bif Nat.blt pc 216 then (bif Nat.beq pc 215 then some (.aload_n 0, 1, []) else none) else (bif Nat.beq pc 216 then some (.iload_n 1, 1, []) else none)))))) else (bif Nat.blt pc 237 then (bif Nat.blt pc 227 then (bif Nat.blt pc 222 then (bif Nat.blt pc 219 then (bif Nat.beq pc 217 then some (.bipush 93, 2, []) else none) else (bif Nat.beq pc 219 then some (.if_icmp .ne 7, 3, [226]) else none)) else (bif Nat.blt pc 223 then (bif Nat.beq pc 222 then some (.iconst 1, 1, []) else none) else (bif Nat.blt pc 226 then (bif Nat.beq pc 223 then some (.goto 4, 3, [227]) else none) else (bif Nat.beq pc 226 then some (.iconst 0, 1, []) else none)))) else (bif Nat.blt pc 233 then (bif Nat.blt pc 229 then (bif Nat.beq pc 227 then some (.bipush 23, 2, []) else none) else (bif Nat.blt pc 232 then (bif Nat.beq pc 229 then some (.invokevirtual 173, 3, [0, 142, 2, 1071, 4, 3, 1]) else none) else (bif Nat.beq pc 232 then some (.ireturn, 1, [1]) else none))) else (bif Nat.blt pc 234 then (bif Nat.beq pc 233 then some (.aload_n 0, 1, []) else none) else (bif Nat.blt pc 235 then (bif Nat.beq pc 234 then some (.iload_n 1, 1, []) else none) else (bif Nat.beq pc 235 then some (.bipush 61, 2, []) else none))))) else (bif Nat.blt pc 247 then (bif Nat.blt pc 241 then (bif Nat.blt pc 240 then (bif Nat.beq pc 237 then some (.if_icmp .ne 7, 3, [244]) else none) else (bif Nat.beq pc 240 then some (.iconst 1, 1, []) else none)) else (bif Nat.blt pc 244 then (bif Nat.beq pc 241 then some (.goto 4, 3, [245]) else none) else (bif Nat.blt pc 245 then (bif Nat.beq pc 244 then some (.iconst 0, 1, []) else none) else (bif Nat.beq pc 245 then some (.bipush 24, 2, []) else none)))) else (bif Nat.blt pc 252 then (bif Nat.blt pc 250 then (bif Nat.beq pc 247 then some (.invokevirtual 173, 3, [0, 142, 2, 1071, 4, 3, 1]) else none) else (bif Nat.blt pc 251 then (bif Nat.beq pc 250 then some (.ireturn, 1, [1]) else none) else (bif Nat.beq pc 251 then some (.aload_n 0, 1, []) else none))) else (bif Nat.blt pc 253 then (bif Nat.beq pc 252 then some (.iload_n 1, 1, []) else none) else (bif Nat.blt pc 256 then (bif Nat.beq pc 253 then some (.invokevirtual 186, 3, [0, 150, 1, 1093, 4, 3, 1]) else none) else (bif Nat.beq pc 256 then some (.ireturn, 1, [1]) else none)))))))
/-- X5_scan -/
def I_X5_scan (pc : Nat) : Option IE := bif Nat.blt pc 17 then (bif Nat.blt pc 7 then (bif Nat.blt pc 2 then (bif Nat.blt pc 1 then (bif Nat.beq pc 0 then some (.aload_n 0, 1, []) else none) else (bif Nat.beq pc 1 then some (.iconst 0, 1, []) else none)) else (bif Nat.blt pc 5 then (bif Nat.beq pc 2 then some (.putfield 164, 3, [4, 13, 0, 843]) else none) else (bif Nat.blt pc 6 then (bif Nat.beq pc 5 then some (.aload_n 0, 1, []) else none) else (bif Nat.beq pc 6 then some (.iconst 0, 1, []) else none)))) else (bif Nat.blt pc 12 then (bif Nat.blt pc 10 then (bif Nat.beq pc 7 then some (.putfield 167, 3, [4, 11, 0, 841]) else none) else (bif Nat.blt pc 11 then (bif Nat.beq pc 10 then some (.iconst 0, 1, []) else none) else (bif Nat.beq pc 11 then some (.istore_n 1, 1, []) else none))) else (bif Nat.blt pc 13 then (bif Nat.beq pc 12 then some (.iload_n 1, 1, []) else none) else (bif Nat.blt pc 14 then (bif Nat.beq pc 13 then some (.aload_n 0, 1, []) else none) else (bif Nat.beq pc 14 then some (.getfield 161, 3, [4, 15, 0, 845]) else none))))) else (bif Nat.blt pc 27 then (bif Nat.blt pc 22 then (bif Nat.blt pc 20 then (bif Nat.beq pc 17 then some (.if_icmp .ge 22, 3, [39]) else none) else (bif Nat.blt pc 21 then (bif Nat.beq pc 20 then some (.aload_n 0, 1, []) else none) else (bif Nat.beq pc 21 then some (.aload_n 0, 1, []) else none))) else (bif Nat.blt pc 25 then (bif Nat.beq pc 22 then some (.getfield 19, 3, [4, 3, 1, 833]) else none) else (bif Nat.blt pc 26 then (bif Nat.beq pc 25 then some (.iload_n 1, 1, []) else none) else (bif Nat.beq pc 26 then some (.iaload, 1, []) else none)))) else (bif Nat.blt pc 36 then (bif Nat.blt pc 30 then (bif Nat.beq pc 27 then some (.invokevirtual 210, 3, [0, 154, 1, 1063, 4, 2, 1]) else none) else (bif Nat.blt pc 33 then (bif Nat.beq pc 30 then some (.ifCond .eq 9, 3, [39]) else none) else (bif Nat.beq pc 33 then some (.iinc 1 1, 3, []) else none))) else (bif Nat.blt pc 39 then (bif Nat.beq pc 36 then some (.goto (-24), 3, [12]) else none) else (bif Nat.blt pc 40 then (bif Nat.beq pc 39 then some (.iload_n 1, 1, []) else none) else (bif Nat.beq pc 40 then some (.ireturn, 1, [0]) else none)))))
/-- X5_firstError -/
def I_X5_firstError (pc : Nat) : Option IE := bif Nat.blt pc 5 then (bif Nat.blt pc 1 then (bif Nat.beq pc 0 then some (.aload_n 0, 1, []) else none) else (bif Nat.blt pc 2 then (bif Nat.beq pc 1 then some (.iconst 0, 1, []) else none) else (bif Nat.beq pc 2 then some (.putfield 43, 3, [4, 16, 0, 846]) else none))) else (bif Nat.blt pc 6 then (bif Nat.beq pc 5 then some (.aload_n 0, 1, []) else none) else (bif Nat.blt pc 9 then (bif Nat.beq pc 6 then some (.invokevirtual 213, 3, [0, 155, 0, 1059, 4, 2, 1]) else none) else (bif Nat.beq pc 9 then some (.ireturn, 1, [0]) else none)))
/-- X5_load -/
def I_X5_load (pc : Nat) : Option IE := bif Nat.blt pc 97 then (bif Nat.blt pc 52 then (bif Nat.blt pc 25 then (bif Nat.blt pc 10 then (bif Nat.blt pc 5 then (bif Nat.blt pc 1 then (bif Nat.beq pc 0 then some (.aload_n 0, 1, []) else none) else (bif Nat.blt pc 2 then (bif Nat.beq pc 1 then some (.iconst 0, 1, []) else none) else (bif Nat.beq pc 2 then some (.putfield 43, 3, [4, 16, 0, 846]) else none))) else (bif Nat.blt pc 6 then (bif Nat.beq pc 5 then some (.aload_n 0, 1, []) else none) else (bif Nat.blt pc 9 then (bif Nat.beq pc 6 then some (.invokevirtual 213, 3, [0, 155, 0, 1059, 4, 2, 1]) else none) else (bif Nat.beq pc 9 then some (.aload_n 0, 1, []) else none)))) else (bif Nat.blt pc 17 then (bif Nat.blt pc 13 then (bif Nat.beq pc 10 then some (.getfield 161, 3, [4, 15, 0, 845]) else none) else (bif Nat.blt pc 16 then (bif Nat.beq pc 13 then some (.if_icmp .lt 28, 3, [41]) else none) else (bif Nat.beq pc 16 then some (.aload_n 0, 1, []) else none))) else (bif Nat.blt pc 21 then (bif Nat.blt pc 20 then (bif Nat.beq pc 17 then some (.getfield 164, 3, [4, 13, 0, 843]) else none) else (bif Nat.beq pc 20 then some (.iconst 4, 1, []) else none)) else (bif Nat.blt pc 24 then (bif Nat.beq pc 21 then some (.if_icmp .eq 26, 3, [47]) else none) else (bif Nat.beq pc 24 then some (.aload_n 0, 1, []) else none))))) else (bif Nat.blt pc 41 then (bif Nat.blt pc 32 then (bif Nat.blt pc 28 then (bif Nat.beq pc 25 then some (.getfield 164, 3, [4, 13, 0, 843]) else none) else (bif Nat.blt pc 29 then (bif Nat.beq pc 28 then some (.iconst 5, 1, []) else none) else (bif Nat.beq pc 29 then some (.if_icmp .eq 18, 3, [47]) else none))) else (bif Nat.blt pc 36 then (bif Nat.blt pc 33 then (bif Nat.beq pc 32 then some (.aload_n 0, 1, []) else none) else (bif Nat.beq pc 33 then some (.getfield 164, 3, [4, 13, 0, 843]) else none)) else (bif Nat.blt pc 38 then (bif Nat.beq pc 36 then some (.bipush 30, 2, []) else none) else (bif Nat.beq pc 38 then some (.if_icmp .eq 9, 3, [47]) else none)))) else (bif Nat.blt pc 46 then (bif Nat.blt pc 42 then (bif Nat.beq pc 41 then some (.aload_n 0, 1, []) else none) else (bif Nat.blt pc 43 then (bif Nat.beq pc 42 then some (.iconst 1, 1, []) else none) else (bif Nat.beq pc 43 then some (.invokevirtual 54, 3, [0, 103, 1, 902, 4, 2, 1]) else none))) else (bif Nat.blt pc 48 then (bif Nat.blt pc 47 then (bif Nat.beq pc 46 then some (.ireturn, 1, [0]) else none) else (bif Nat.beq pc 47 then some (.aload_n 0, 1, []) else none)) else (bif Nat.blt pc 51 then (bif Nat.beq pc 48 then some (.getfield 167, 3, [4, 11, 0, 841]) else none) else (bif Nat.beq pc 51 then some (.iconst 1, 1, []) else none)))))) else (bif Nat.blt pc 77 then (bif Nat.blt pc 64 then (bif Nat.blt pc 58 then (bif Nat.blt pc 53 then (bif Nat.beq pc 52 then some (.iadd, 1, []) else none) else (bif Nat.blt pc 55 then (bif Nat.beq pc 53 then some (.bipush 24, 2, []) else none) else (bif Nat.beq pc 55 then some (.if_icmp .le 9, 3, [64]) else none))) else (bif Nat.blt pc 60 then (bif Nat.blt pc 59 then (bif Nat.beq pc 58 then some (.aload_n 0, 1, []) else none) else (bif Nat.beq pc 59 then some (.iconst 2, 1, []) else none)) else (bif Nat.blt pc 63 then (bif Nat.beq pc 60 then some (.invokevirtual 54, 3, [0, 103, 1, 902, 4, 2, 1]) else none) else (bif Nat.beq pc 63 then some (.ireturn, 1, [0]) else none)))) else (bif Nat.blt pc 69 then (bif Nat.blt pc 65 then (bif Nat.beq pc 64 then some (.aload_n 0, 1, []) else none) else (bif Nat.blt pc 68 then (bif Nat.beq pc 65 then some (.invokevirtual 58, 3, [0, 108, 0, 906, 4, 2, 0]) else none) else (bif Nat.beq pc 68 then some (.aload_n 0, 1, []) else none))) else (bif Nat.blt pc 73 then (bif Nat.blt pc 72 then (bif Nat.beq pc 69 then some (.getfield 7, 3, [4, 0, 1, 830]) else none) else (bif Nat.beq pc 72 then some (.iconst 1, 1, []) else none)) else (bif Nat.blt pc 74 then (bif Nat.beq pc 73 then some (.aload_n 0, 1, []) else none) else (bif Nat.beq pc 74 then some (.getfield 167, 3, [4, 11, 0, 841]) else none))))) else (bif Nat.blt pc 84 then (bif Nat.blt pc 80 then (bif Nat.blt pc 78 then (bif Nat.beq pc 77 then some (.iconst 1, 1, []) else none) else (bif Nat.blt pc 79 then (bif Nat.beq pc 78 then some (.iadd, 1, []) else none) else (bif Nat.beq pc 79 then some (.iastore, 1, []) else none))) else (bif Nat.blt pc 82 then (bif Nat.blt pc 81 then (bif Nat.beq pc 80 then some (.iconst 0, 1, []) else none) else (bif Nat.beq pc 81 then some (.istore_n 1, 1, []) else none)) else (bif Nat.blt pc 83 then (bif Nat.beq pc 82 then some (.iload_n 1, 1, []) else none) else (bif Nat.beq pc 83 then some (.aload_n 0, 1, []) else none)))) else (bif Nat.blt pc 91 then (bif Nat.blt pc 87 then (bif Nat.beq pc 84 then some (.getfield 167, 3, [4, 11, 0, 841]) else none) else (bif Nat.blt pc 90 then (bif Nat.beq pc 87 then some (.if_icmp .gt 83, 3, [170]) else none) else (bif Nat.beq pc 90 then some (.aload_n 0, 1, []) else none))) else (bif Nat.blt pc 93 then (bif Nat.blt pc 92 then (bif Nat.beq pc 91 then some (.iload_n 1, 1, []) else none) else (bif Nat.beq pc 92 then some (.iconst 0, 1, []) else none)) else (bif Nat.blt pc 94 then (bif Nat.beq pc 93 then some (.aload_n 0, 1, []) else none) else (bif Nat.beq pc 94 then some (.getfield 22, 3, [4, 4, 1, 834]) else none))))))) else (bif Nat.blt pc 140 then (bif Nat.blt pc 116 then (bif Nat.blt pc 105 then (bif Nat.blt pc 102 then (bif Nat.blt pc 98 then (bif Nat.beq pc 97 then some (.iload_n 1, 1, []) else none) else (bif Nat.blt pc 99 then (bif Nat.beq pc 98 then some (.iaload, 1, []) else none) else (bif Nat.beq pc 99 then some (.invokevirtual 101, 3, [0, 106, 3, 956, 4, 4, 0]) else none))) else (bif Nat.blt pc 103 then (bif Nat.beq pc 102 then some (.aload_n 0, 1, []) else none) else (bif Nat.blt pc 104 then (bif Nat.beq pc 103 then some (.iload_n 1, 1, []) else none) else (bif Nat.beq pc 104 then some (.iconst 1, 1, []) else none)))) else (bif Nat.blt pc 110 then (bif Nat.blt pc 106 then (bif Nat.beq pc 105 then some (.aload_n 0, 1, []) else none) else (bif Nat.blt pc 109 then (bif Nat.beq pc 106 then some (.getfield 22, 3, [4, 4, 1, 834]) else none) else (bif Nat.beq pc 109 then some (.iload_n 1, 1, []) else none))) else (bif Nat.blt pc 112 then (bif Nat.blt pc 111 then (bif Nat.beq pc 110 then some (.iaload, 1, []) else none) else (bif Nat.beq pc 111 then some (.iconst 4, 1, []) else none)) else (bif Nat.blt pc 115 then (bif Nat.beq pc 112 then some (.if_icmp .ne 7, 3, [119]) else none) else (bif Nat.beq pc 115 then some (.iconst (-1), 1, []) else none))))) else (bif Nat.blt pc 129 then (bif Nat.blt pc 123 then (bif Nat.blt pc 119 then (bif Nat.beq pc 116 then some (.goto 9, 3, [125]) else none) else (bif Nat.blt pc 120 then (bif Nat.beq pc 119 then some (.aload_n 0, 1, []) else none) else (bif Nat.beq pc 120 then some (.getfield 25, 3, [4, 5, 1, 835]) else none))) else (bif Nat.blt pc 125 then (bif Nat.blt pc 124 then (bif Nat.beq pc 123 then some (.iload_n 1, 1, []) else none) else (bif Nat.beq pc 124 then some (.iaload, 1, []) else none)) else (bif Nat.blt pc 128 then (bif Nat.beq pc 125 then some (.invokevirtual 101, 3, [0, 106, 3, 956, 4, 4, 0]) else none) else (bif Nat.beq pc 128 then some (.aload_n 0, 1, []) else none)))) else (bif Nat.blt pc 132 then (bif Nat.blt pc 130 then (bif Nat.beq pc 129 then some (.iload_n 1, 1, []) else none) else (bif Nat.blt pc 131 then (bif Nat.beq pc 130 then some (.iconst 2, 1, []) else none) else (bif Nat.beq pc 131 then some (.aload_n 0, 1, []) else none))) else (bif Nat.blt pc 136 then (bif Nat.blt pc 135 then (bif Nat.beq pc 132 then some (.getfield 28, 3, [4, 6, 1, 836]) else none) else (bif Nat.beq pc 135 then some (.iload_n 1, 1, []) else none)) else (bif Nat.blt pc 137 then (bif Nat.beq pc 136 then some (.iaload, 1, []) else none) else (bif Nat.beq pc 137 then some (.invokevirtual 101, 3, [0, 106, 3, 956, 4, 4, 0]) else none)))))) else (bif Nat.blt pc 160 then (bif Nat.blt pc 149 then (bif Nat.blt pc 143 then (bif Nat.blt pc 141 then (bif Nat.beq pc 140 then some (.aload_n 0, 1, []) else none) else (bif Nat.blt pc 142 then (bif Nat.beq pc 141 then some (.iload_n 1, 1, []) else none) else (bif Nat.beq pc 142 then some (.iconst 3, 1, []) else none))) else (bif Nat.blt pc 147 then (bif Nat.blt pc 144 then (bif Nat.beq pc 143 then some (.aload_n 0, 1, []) else none) else (bif Nat.beq pc 144 then some (.getfield 31, 3, [4, 7, 1, 837]) else none)) else (bif Nat.blt pc 148 then (bif Nat.beq pc 147 then some (.iload_n 1, 1, []) else none) else (bif Nat.beq pc 148 then some (.iaload, 1, []) else none)))) else (bif Nat.blt pc 154 then (bif Nat.blt pc 152 then (bif Nat.beq pc 149 then some (.invokevirtual 101, 3, [0, 106, 3, 956, 4, 4, 0]) else none) else (bif Nat.blt pc 153 then (bif Nat.beq pc 152 then some (.aload_n 0, 1, []) else none) else (bif Nat.beq pc 153 then some (.iload_n 1, 1, []) else none))) else (bif Nat.blt pc 156 then (bif Nat.blt pc 155 then (bif Nat.beq pc 154 then some (.iconst 4, 1, []) else none) else (bif Nat.beq pc 155 then some (.aload_n 0, 1, []) else none)) else (bif Nat.blt pc 159 then (bif Nat.beq pc 156 then some (.getfield 34, 3, [4, 8, 1, 838]) else none) else (bif Nat.beq pc 159 then some (.iload_n 1, 1, []) else none))))) else (bif Nat.blt pc 175 then (bif Nat.blt pc 167 then (bif Nat.blt pc 161 then (bif Nat.beq pc 160 then some (.iaload, 1, []) else none) else (bif Nat.blt pc 164 then (bif Nat.beq pc 161 then some (.invokevirtual 101, 3, [0, 106, 3, 956, 4, 4, 0]) else none) else (bif Nat.beq pc 164 then some (.iinc 1 1, 3, []) else none))) else (bif Nat.blt pc 171 then (bif Nat.blt pc 170 then (bif Nat.beq pc 167 then some (.goto (-85), 3, [82]) else none) else (bif Nat.beq pc 170 then some (.aload_n 0, 1, []) else none)) else (bif Nat.blt pc 174 then (bif Nat.beq pc 171 then some (.invokevirtual 158, 3, [0, 138, 0, 1043, 4, 2, 0]) else none) else (bif Nat.beq pc 174 then some (.aload_n 0, 1, []) else none)))) else (bif Nat.blt pc 180 then (bif Nat.blt pc 176 then (bif Nat.beq pc 175 then some (.iconst 0, 1, []) else none) else (bif Nat.blt pc 179 then (bif Nat.beq pc 176 then some (.putfield 161, 3, [4, 15, 0, 845]) else none) else (bif Nat.beq pc 179 then some (.aload_n 0, 1, []) else none))) else (bif Nat.blt pc 184 then (bif Nat.blt pc 183 then (bif Nat.beq pc 180 then some (.getfield 7, 3, [4, 0, 1, 830]) else none) else (bif Nat.beq pc 183 then some (.iconst 1, 1, []) else none)) else (bif Nat.blt pc 185 then (bif Nat.beq pc 184 then some (.iaload, 1, []) else none) else (bif Nat.beq pc 185 then some (.ireturn, 1, [0]) else none)))))))
/-- X5_undo -/
def I_X5_undo (pc : Nat) : Option IE := bif Nat.blt pc 31 then (bif Nat.blt pc 17 then (bif Nat.blt pc 6 then (bif Nat.blt pc 2 then (bif Nat.blt pc 1 then (bif Nat.beq pc 0 then some (.aload_n 0, 1, []) else none) else (bif Nat.beq pc 1 then some (.iconst 0, 1, []) else none)) else (bif Nat.blt pc 5 then (bif Nat.beq pc 2 then some (.putfield 43, 3, [4, 16, 0, 846]) else none) else (bif Nat.beq pc 5 then some (.aload_n 0, 1, []) else none))) else (bif Nat.blt pc 12 then (bif Nat.blt pc 9 then (bif Nat.beq pc 6 then some (.getfield 47, 3, [4, 14, 0, 844]) else none) else (bif Nat.beq pc 9 then some (.ifCond .ne 9, 3, [18]) else none)) else (bif Nat.blt pc 13 then (bif Nat.beq pc 12 then some (.aload_n 0, 1, []) else none) else (bif Nat.blt pc 14 then (bif Nat.beq pc 13 then some (.iconst 1, 1, []) else none) else (bif Nat.beq pc 14 then some (.invokevirtual 54, 3, [0, 103, 1, 902, 4, 2, 1]) else none))))) else (bif Nat.blt pc 24 then (bif Nat.blt pc 19 then (bif Nat.blt pc 18 then (bif Nat.beq pc 17 then some (.ireturn, 1, [0]) else none) else (bif Nat.beq pc 18 then some (.aload_n 0, 1, []) else none)) else (bif Nat.blt pc 20 then (bif Nat.beq pc 19 then some (.dup, 1, []) else none) else (bif Nat.blt pc 23 then (bif Nat.beq pc 20 then some (.getfield 47, 3, [4, 14, 0, 844]) else none) else (bif Nat.beq pc 23 then some (.iconst 1, 1, []) else none)))) else (bif Nat.blt pc 28 then (bif Nat.blt pc 25 then (bif Nat.beq pc 24 then some (.isub, 1, []) else none) else (bif Nat.beq pc 25 then some (.putfield 47, 3, [4, 14, 0, 844]) else none)) else (bif Nat.blt pc 29 then (bif Nat.beq pc 28 then some (.iconst 0, 1, []) else none) else (bif Nat.blt pc 30 then (bif Nat.beq pc 29 then some (.istore_n 1, 1, []) else none) else (bif Nat.beq pc 30 then some (.iload_n 1, 1, []) else none)))))) else (bif Nat.blt pc 53 then (bif Nat.blt pc 42 then (bif Nat.blt pc 37 then (bif Nat.blt pc 34 then (bif Nat.beq pc 31 then some (.sipush 324, 3, []) else none) else (bif Nat.beq pc 34 then some (.if_icmp .ge 30, 3, [64]) else none)) else (bif Nat.blt pc 38 then (bif Nat.beq pc 37 then some (.aload_n 0, 1, []) else none) else (bif Nat.blt pc 41 then (bif Nat.beq pc 38 then some (.getfield 7, 3, [4, 0, 1, 830]) else none) else (bif Nat.beq pc 41 then some (.iload_n 1, 1, []) else none)))) else (bif Nat.blt pc 46 then (bif Nat.blt pc 43 then (bif Nat.beq pc 42 then some (.aload_n 0, 1, []) else none) else (bif Nat.beq pc 43 then some (.getfield 16, 3, [4, 2, 1, 832]) else none)) else (bif Nat.blt pc 49 then (bif Nat.beq pc 46 then some (.sipush 324, 3, []) else none) else (bif Nat.blt pc 50 then (bif Nat.beq pc 49 then some (.aload_n 0, 1, []) else none) else (bif Nat.beq pc 50 then some (.getfield 47, 3, [4, 14, 0, 844]) else none))))) else (bif Nat.blt pc 58 then (bif Nat.blt pc 55 then (bif Nat.blt pc 54 then (bif Nat.beq pc 53 then some (.imul, 1, []) else none) else (bif Nat.beq pc 54 then some (.iload_n 1, 1, []) else none)) else (bif Nat.blt pc 56 then (bif Nat.beq pc 55 then some (.iadd, 1, []) else none) else (bif Nat.blt pc 57 then (bif Nat.beq pc 56 then some (.iaload, 1, []) else none) else (bif Nat.beq pc 57 then some (.iastore, 1, []) else none)))) else (bif Nat.blt pc 64 then (bif Nat.blt pc 61 then (bif Nat.beq pc 58 then some (.iinc 1 1, 3, []) else none) else (bif Nat.beq pc 61 then some (.goto (-31), 3, [30]) else none)) else (bif Nat.blt pc 65 then (bif Nat.beq pc 64 then some (.aload_n 0, 1, []) else none) else (bif Nat.blt pc 68 then (bif Nat.beq pc 65 then some (.getfield 47, 3, [4, 14, 0, 844]) else none) else (bif Nat.beq pc 68 then some (.ireturn, 1, [0]) else none))))))
/-- X5_isInstruction -/
def I_X5_isInstruction (pc : Nat) : Option IE := bif Nat.blt pc 7 then (bif Nat.blt pc 2 then (bif Nat.blt pc 1 then (bif Nat.beq pc 0 then some (.iload_n 1, 1, []) else none) else (bif Nat.beq pc 1 then some (.iconst 0, 1, []) else none)) else (bif Nat.blt pc 3 then (bif Nat.beq pc 2 then some (.aload_n 0, 1, []) else none) else (bif Nat.blt pc 6 then (bif Nat.beq pc 3 then some (.getfield 7, 3, [4, 0, 1, 830]) else none) else (bif Nat.beq pc 6 then some (.iconst 1, 1, []) else none)))) else (bif Nat.blt pc 9 then (bif Nat.blt pc 8 then (bif Nat.beq pc 7 then some (.iaload, 1, []) else none) else (bif Nat.beq pc 8 then some (.iconst 1, 1, []) else none)) else (bif Nat.blt pc 10 then (bif Nat.beq pc 9 then some (.isub, 1, []) else none) else (bif Nat.blt pc 13 then (bif Nat.beq pc 10 then some (.invokestatic 50, 3, [1, 104, 3, 899, 4, 3, 1]) else none) else (bif Nat.beq pc 13 then some (.ireturn, 1, [1]) else none))))
/-- X5_instruction -/
def I_X5_instruction (pc : Nat) : Option IE := bif Nat.blt pc 20 then (bif Nat.blt pc 10 then (bif Nat.blt pc 5 then (bif Nat.blt pc 1 then (bif Nat.beq pc 0 then some (.aload_n 0, 1, []) else none) else (bif Nat.blt pc 2 then (bif Nat.beq pc 1 then some (.iconst 0, 1, []) else none) else (bif Nat.beq pc 2 then some (.putfield 43, 3, [4, 16, 0, 846]) else none))) else (bif Nat.blt pc 6 then (bif Nat.beq pc 5 then some (.aload_n 0, 1, []) else none) else (bif Nat.blt pc 7 then (bif Nat.beq pc 6 then some (.iload_n 1, 1, []) else none) else (bif Nat.beq pc 7 then some (.invokevirtual 216, 3, [0, 159, 1, 1125, 4, 2, 1]) else none)))) else (bif Nat.blt pc 15 then (bif Nat.blt pc 13 then (bif Nat.beq pc 10 then some (.ifCond .ne 9, 3, [19]) else none) else (bif Nat.blt pc 14 then (bif Nat.beq pc 13 then some (.aload_n 0, 1, []) else none) else (bif Nat.beq pc 14 then some (.iconst 1, 1, []) else none))) else (bif Nat.blt pc 18 then (bif Nat.beq pc 15 then some (.invokevirtual 54, 3, [0, 103, 1, 902, 4, 2, 1]) else none) else (bif Nat.blt pc 19 then (bif Nat.beq pc 18 then some (.ireturn, 1, [0]) else none) else (bif Nat.beq pc 19 then some (.iload_n 2, 1, []) else none))))) else (bif Nat.blt pc 31 then (bif Nat.blt pc 26 then (bif Nat.blt pc 21 then (bif Nat.beq pc 20 then some (.iconst 0, 1, []) else none) else (bif Nat.blt pc 23 then (bif Nat.beq pc 21 then some (.bipush 6, 2, []) else none) else (bif Nat.beq pc 23 then some (.invokestatic 50, 3, [1, 104, 3, 899, 4, 3, 1]) else none))) else (bif Nat.blt pc 29 then (bif Nat.beq pc 26 then some (.ifCond .eq 12, 3, [38]) else none) else (bif Nat.blt pc 30 then (bif Nat.beq pc 29 then some (.aload_n 0, 1, []) else none) else (bif Nat.beq pc 30 then some (.iload_n 1, 1, []) else none)))) else (bif Nat.blt pc 38 then (bif Nat.blt pc 32 then (bif Nat.beq pc 31 then some (.iload_n 2, 1, []) else none) else (bif Nat.blt pc 35 then (bif Nat.beq pc 32 then some (.invokevirtual 86, 3, [0, 105, 2, 948, 4, 3, 1]) else none) else (bif Nat.beq pc 35 then some (.goto 8, 3, [43]) else none))) else (bif Nat.blt pc 40 then (bif Nat.blt pc 39 then (bif Nat.beq pc 38 then some (.aload_n 0, 1, []) else none) else (bif Nat.beq pc 39 then some (.iconst 2, 1, []) else none)) else (bif Nat.blt pc 43 then (bif Nat.beq pc 40 then some (.invokevirtual 54, 3, [0, 103, 1, 902, 4, 2, 1]) else none) else (bif Nat.beq pc 43 then some (.ireturn, 1, [0]) else none)))))
/-- X5_entryNow -/
def I_X5_entryNow (pc : Nat) : Option IE := bif Nat.blt pc 130 then (bif Nat.blt pc 84 then (bif Nat.blt pc 20 then (bif Nat.blt pc 11 then (bif Nat.blt pc 4 then (bif Nat.blt pc 1 then (bif Nat.beq pc 0 then some (.aload_n 0, 1, []) else none) else (bif Nat.blt pc 2 then (bif Nat.beq pc 1 then some (.iload_n 1, 1, []) else none) else (bif Nat.beq pc 2 then some (.bipush 7, 2, []) else none))) else (bif Nat.blt pc 7 then (bif Nat.beq pc 4 then some (.invokevirtual 86, 3, [0, 105, 2, 948, 4, 3, 1]) else none) else (bif Nat.blt pc 8 then (bif Nat.beq pc 7 then some (.iconst 2, 1, []) else none) else (bif Nat.beq pc 8 then some (.if_icmp .ne 7, 3, [15]) else none)))) else (bif Nat.blt pc 16 then (bif Nat.blt pc 12 then (bif Nat.beq pc 11 then some (.iconst 1, 1, []) else none) else (bif Nat.blt pc 15 then (bif Nat.beq pc 12 then some (.goto 4, 3, [16]) else none) else (bif Nat.beq pc 15 then some (.iconst 0, 1, []) else none))) else (bif Nat.blt pc 18 then (bif Nat.blt pc 17 then (bif Nat.beq pc 16 then some (.istore_n 3, 1, []) else none) else (bif Nat.beq pc 17 then some (.aload_n 0, 1, []) else none)) else (bif Nat.blt pc 19 then (bif Nat.beq pc 18 then some (.iload_n 1, 1, []) else none) else (bif Nat.beq pc 19 then some (.iconst 0, 1, []) else none))))) else (bif Nat.blt pc 74 then (bif Nat.blt pc 26 then (bif Nat.blt pc 23 then (bif Nat.beq pc 20 then some (.invokevirtual 86, 3, [0, 105, 2, 948, 4, 3, 1]) else none) else (bif Nat.blt pc 25 then (bif Nat.beq pc 23 then some (.istore 4, 2, []) else none) else (bif Nat.beq pc 25 then some (.iload_n 2, 1, []) else none))) else (bif Nat.blt pc 72 then (bif Nat.beq pc 26 then some (.tableswitch 193 0 7 #[46, 48, 56, 79, 103, 127, 155, 177], 46, [219, 0, 72, 1, 74, 2, 82, 3, 105, 4, 129, 5, 153, 6, 181, 7, 203]) else none) else (bif Nat.blt pc 73 then (bif Nat.beq pc 72 then some (.iload_n 1, 1, []) else none) else (bif Nat.beq pc 73 then some (.ireturn, 1, [0]) else none)))) else (bif Nat.blt pc 78 then (bif Nat.blt pc 75 then (bif Nat.beq pc 74 then some (.aload_n 0, 1, []) else none) else (bif Nat.blt pc 76 then (bif Nat.beq pc 75 then some (.iload_n 1, 1, []) else none) else (bif Nat.beq pc 76 then some (.bipush 7, 2, []) else none))) else (bif Nat.blt pc 82 then (bif Nat.blt pc 81 then (bif Nat.beq pc 78 then some (.invokevirtual 86, 3, [0, 105, 2, 948, 4, 3, 1]) else none) else (bif Nat.beq pc 81 then some (.ireturn, 1, [0]) else none)) else (bif Nat.blt pc 83 then (bif Nat.beq pc 82 then some (.aload_n 0, 1, []) else none) else (bif Nat.beq pc 83 then some (.iload_n 1, 1, []) else none)))))) else (bif Nat.blt pc 107 then (bif Nat.blt pc 95 then (bif Nat.blt pc 90 then (bif Nat.blt pc 86 then (bif Nat.beq pc 84 then some (.bipush 7, 2, []) else none) else (bif Nat.blt pc 89 then (bif Nat.beq pc 86 then some (.invokevirtual 86, 3, [0, 105, 2, 948, 4, 3, 1]) else none) else (bif Nat.beq pc 89 then some (.iconst 1, 1, []) else none))) else (bif Nat.blt pc 93 then (bif Nat.beq pc 90 then some (.if_icmp .ne 13, 3, [103]) else none) else (bif Nat.blt pc 94 then (bif Nat.beq pc 93 then some (.aload_n 0, 1, []) else none) else (bif Nat.beq pc 94 then some (.iload_n 1, 1, []) else none)))) else (bif Nat.blt pc 103 then (bif Nat.blt pc 97 then (bif Nat.beq pc 95 then some (.bipush 8, 2, []) else none) else (bif Nat.blt pc 100 then (bif Nat.beq pc 97 then some (.invokevirtual 86, 3, [0, 105, 2, 948, 4, 3, 1]) else none) else (bif Nat.beq pc 100 then some (.goto 4, 3, [104]) else none))) else (bif Nat.blt pc 105 then (bif Nat.blt pc 104 then (bif Nat.beq pc 103 then some (.iconst 0, 1, []) else none) else (bif Nat.beq pc 104 then some (.ireturn, 1, [0]) else none)) else (bif Nat.blt pc 106 then (bif Nat.beq pc 105 then some (.aload_n 0, 1, []) else none) else (bif Nat.beq pc 106 then some (.iload_n 1, 1, []) else none))))) else (bif Nat.blt pc 117 then (bif Nat.blt pc 114 then (bif Nat.blt pc 110 then (bif Nat.beq pc 107 then some (.invokevirtual 131, 3, [0, 119, 1, 1016, 4, 2, 1]) else none) else (bif Nat.blt pc 113 then (bif Nat.beq pc 110 then some (.ifCond .eq 17, 3, [127]) else none) else (bif Nat.beq pc 113 then some (.aload_n 0, 1, []) else none))) else (bif Nat.blt pc 115 then (bif Nat.beq pc 114 then some (.iload_n 1, 1, []) else none) else (bif Nat.blt pc 116 then (bif Nat.beq pc 115 then some (.aload_n 0, 1, []) else none) else (bif Nat.beq pc 116 then some (.iload_n 1, 1, []) else none)))) else (bif Nat.blt pc 124 then (bif Nat.blt pc 118 then (bif Nat.beq pc 117 then some (.iconst 2, 1, []) else none) else (bif Nat.blt pc 121 then (bif Nat.beq pc 118 then some (.invokevirtual 86, 3, [0, 105, 2, 948, 4, 3, 1]) else none) else (bif Nat.beq pc 121 then some (.invokevirtual 93, 3, [0, 118, 2, 990, 4, 4, 1]) else none))) else (bif Nat.blt pc 128 then (bif Nat.blt pc 127 then (bif Nat.beq pc 124 then some (.goto 4, 3, [128]) else none) else (bif Nat.beq pc 127 then some (.iconst (-1), 1, []) else none)) else (bif Nat.blt pc 129 then (bif Nat.beq pc 128 then some (.ireturn, 1, [0]) else none) else (bif Nat.beq pc 129 then some (.aload_n 0, 1, []) else none))))))) else (bif Nat.blt pc 179 then (bif Nat.blt pc 153 then (bif Nat.blt pc 140 then (bif Nat.blt pc 137 then (bif Nat.blt pc 131 then (bif Nat.beq pc 130 then some (.iload_n 1, 1, []) else none) else (bif Nat.blt pc 134 then (bif Nat.beq pc 131 then some (.invokevirtual 137, 3, [0, 120, 1, 1024, 4, 2, 1]) else none) else (bif Nat.beq pc 134 then some (.ifCond .eq 17, 3, [151]) else none))) else (bif Nat.blt pc 138 then (bif Nat.beq pc 137 then some (.aload_n 0, 1, []) else none) else (bif Nat.blt pc 139 then (bif Nat.beq pc 138 then some (.iload_n 1, 1, []) else none) else (bif Nat.beq pc 139 then some (.aload_n 0, 1, []) else none)))) else (bif Nat.blt pc 145 then (bif Nat.blt pc 141 then (bif Nat.beq pc 140 then some (.iload_n 1, 1, []) else none) else (bif Nat.blt pc 142 then (bif Nat.beq pc 141 then some (.iconst 3, 1, []) else none) else (bif Nat.beq pc 142 then some (.invokevirtual 86, 3, [0, 105, 2, 948, 4, 3, 1]) else none))) else (bif Nat.blt pc 151 then (bif Nat.blt pc 148 then (bif Nat.beq pc 145 then some (.invokevirtual 93, 3, [0, 118, 2, 990, 4, 4, 1]) else none) else (bif Nat.beq pc 148 then some (.goto 4, 3, [152]) else none)) else (bif Nat.blt pc 152 then (bif Nat.beq pc 151 then some (.iconst (-1), 1, []) else none) else (bif Nat.beq pc 152 then some (.ireturn, 1, [0]) else none))))) else (bif Nat.blt pc 165 then (bif Nat.blt pc 159 then (bif Nat.blt pc 154 then (bif Nat.beq pc 153 then some (.iload_n 3, 1, []) else none) else (bif Nat.blt pc 157 then (bif Nat.beq pc 154 then some (.ifCond .eq 25, 3, [179]) else none) else (bif Nat.beq pc 157 then some (.iload 4, 2, []) else none))) else (bif Nat.blt pc 160 then (bif Nat.beq pc 159 then some (.iconst 3, 1, []) else none) else (bif Nat.blt pc 163 then (bif Nat.beq pc 160 then some (.if_icmp .eq 9, 3, [169]) else none) else (bif Nat.beq pc 163 then some (.iload 4, 2, []) else none)))) else (bif Nat.blt pc 170 then (bif Nat.blt pc 166 then (bif Nat.beq pc 165 then some (.iconst 4, 1, []) else none) else (bif Nat.blt pc 169 then (bif Nat.beq pc 166 then some (.if_icmp .ne 13, 3, [179]) else none) else (bif Nat.beq pc 169 then some (.aload_n 0, 1, []) else none))) else (bif Nat.blt pc 173 then (bif Nat.blt pc 171 then (bif Nat.beq pc 170 then some (.iload_n 1, 1, []) else none) else (bif Nat.beq pc 171 then some (.bipush 9, 2, []) else none)) else (bif Nat.blt pc 176 then (bif Nat.beq pc 173 then some (.invokevirtual 86, 3, [0, 105, 2, 948, 4, 3, 1]) else none) else (bif Nat.beq pc 176 then some (.goto 4, 3, [180]) else none)))))) else (bif Nat.blt pc 202 then (bif Nat.blt pc 188 then (bif Nat.blt pc 182 then (bif Nat.blt pc 180 then (bif Nat.beq pc 179 then some (.iconst (-1), 1, []) else none) else (bif Nat.blt pc 181 then (bif Nat.beq pc 180 then some (.ireturn, 1, [0]) else none) else (bif Nat.beq pc 181 then some (.iload_n 3, 1, []) else none))) else (bif Nat.blt pc 185 then (bif Nat.beq pc 182 then some (.ifCond .eq 19, 3, [201]) else none) else (bif Nat.blt pc 187 then (bif Nat.beq pc 185 then some (.iload 4, 2, []) else none) else (bif Nat.beq pc 187 then some (.iconst 3, 1, []) else none)))) else (bif Nat.blt pc 193 then (bif Nat.blt pc 191 then (bif Nat.beq pc 188 then some (.if_icmp .ne 13, 3, [201]) else none) else (bif Nat.blt pc 192 then (bif Nat.beq pc 191 then some (.aload_n 0, 1, []) else none) else (bif Nat.beq pc 192 then some (.iload_n 1, 1, []) else none))) else (bif Nat.blt pc 198 then (bif Nat.blt pc 195 then (bif Nat.beq pc 193 then some (.bipush 10, 2, []) else none) else (bif Nat.beq pc 195 then some (.invokevirtual 86, 3, [0, 105, 2, 948, 4, 3, 1]) else none)) else (bif Nat.blt pc 201 then (bif Nat.beq pc 198 then some (.goto 4, 3, [202]) else none) else (bif Nat.beq pc 201 then some (.iconst (-1), 1, []) else none))))) else (bif Nat.blt pc 214 then (bif Nat.blt pc 207 then (bif Nat.blt pc 203 then (bif Nat.beq pc 202 then some (.ireturn, 1, [0]) else none) else (bif Nat.blt pc 204 then (bif Nat.beq pc 203 then some (.iload_n 3, 1, []) else none) else (bif Nat.beq pc 204 then some (.ifCond .eq 13, 3, [217]) else none))) else (bif Nat.blt pc 209 then (bif Nat.blt pc 208 then (bif Nat.beq pc 207 then some (.aload_n 0, 1, []) else none) else (bif Nat.beq pc 208 then some (.iload_n 1, 1, []) else none)) else (bif Nat.blt pc 211 then (bif Nat.beq pc 209 then some (.bipush 11, 2, []) else none) else (bif Nat.beq pc 211 then some (.invokevirtual 86, 3, [0, 105, 2, 948, 4, 3, 1]) else none)))) else (bif Nat.blt pc 219 then (bif Nat.blt pc 217 then (bif Nat.beq pc 214 then some (.goto 4, 3, [218]) else none) else (bif Nat.blt pc 218 then (bif Nat.beq pc 217 then some (.iconst 0, 1, []) else none) else (bif Nat.beq pc 218 then some (.ireturn, 1, [0]) else none))) else (bif Nat.blt pc 221 then (bif Nat.blt pc 220 then (bif Nat.beq pc 219 then some (.aload_n 0, 1, []) else none) else (bif Nat.beq pc 220 then some (.iload_n 1, 1, []) else none)) else (bif Nat.blt pc 224 then (bif Nat.beq pc 221 then some (.invokevirtual 149, 3, [0, 133, 1, 1012, 4, 2, 1]) else none) else (bif Nat.beq pc 224 then some (.ireturn, 1, [0]) else none)))))))
/-- X5_isEntry -/
def I_X5_isEntry (pc : Nat) : Option IE := bif Nat.blt pc 6 then (bif Nat.blt pc 2 then (bif Nat.blt pc 1 then (bif Nat.beq pc 0 then some (.iload_n 1, 1, []) else none) else (bif Nat.beq pc 1 then some (.iconst 0, 1, []) else none)) else (bif Nat.blt pc 3 then (bif Nat.beq pc 2 then some (.aload_n 0, 1, []) else none) else (bif Nat.beq pc 3 then some (.invokevirtual 78, 3, [0, 111, 0, 932, 4, 1, 1]) else none))) else (bif Nat.blt pc 8 then (bif Nat.blt pc 7 then (bif Nat.beq pc 6 then some (.iconst 1, 1, []) else none) else (bif Nat.beq pc 7 then some (.isub, 1, []) else none)) else (bif Nat.blt pc 11 then (bif Nat.beq pc 8 then some (.invokestatic 50, 3, [1, 104, 3, 899, 4, 3, 1]) else none) else (bif Nat.beq pc 11 then some (.ireturn, 1, [1]) else none)))
/-- X5_entry -/
def I_X5_entry (pc : Nat) : Option IE := bif Nat.blt pc 26 then (bif Nat.blt pc 13 then (bif Nat.blt pc 5 then (bif Nat.blt pc 1 then (bif Nat.beq pc 0 then some (.aload_n 0, 1, []) else none) else (bif Nat.blt pc 2 then (bif Nat.beq pc 1 then some (.iconst 0, 1, []) else none) else (bif Nat.beq pc 2 then some (.putfield 43, 3, [4, 16, 0, 846]) else none))) else (bif Nat.blt pc 7 then (bif Nat.blt pc 6 then (bif Nat.beq pc 5 then some (.aload_n 0, 1, []) else none) else (bif Nat.beq pc 6 then some (.iload_n 1, 1, []) else none)) else (bif Nat.blt pc 10 then (bif Nat.beq pc 7 then some (.invokevirtual 219, 3, [0, 162, 1, 1133, 4, 2, 1]) else none) else (bif Nat.beq pc 10 then some (.ifCond .ne 9, 3, [19]) else none)))) else (bif Nat.blt pc 19 then (bif Nat.blt pc 15 then (bif Nat.blt pc 14 then (bif Nat.beq pc 13 then some (.aload_n 0, 1, []) else none) else (bif Nat.beq pc 14 then some (.iconst 1, 1, []) else none)) else (bif Nat.blt pc 18 then (bif Nat.beq pc 15 then some (.invokevirtual 54, 3, [0, 103, 1, 902, 4, 2, 1]) else none) else (bif Nat.beq pc 18 then some (.ireturn, 1, [0]) else none))) else (bif Nat.blt pc 21 then (bif Nat.blt pc 20 then (bif Nat.beq pc 19 then some (.iload_n 2, 1, []) else none) else (bif Nat.beq pc 20 then some (.iconst 0, 1, []) else none)) else (bif Nat.blt pc 23 then (bif Nat.beq pc 21 then some (.bipush 8, 2, []) else none) else (bif Nat.beq pc 23 then some (.invokestatic 50, 3, [1, 104, 3, 899, 4, 3, 1]) else none))))) else (bif Nat.blt pc 37 then (bif Nat.blt pc 31 then (bif Nat.blt pc 29 then (bif Nat.beq pc 26 then some (.ifCond .eq 19, 3, [45]) else none) else (bif Nat.blt pc 30 then (bif Nat.beq pc 29 then some (.aload_n 0, 1, []) else none) else (bif Nat.beq pc 30 then some (.aload_n 0, 1, []) else none))) else (bif Nat.blt pc 35 then (bif Nat.blt pc 34 then (bif Nat.beq pc 31 then some (.getfield 7, 3, [4, 0, 1, 830]) else none) else (bif Nat.beq pc 34 then some (.iconst 3, 1, []) else none)) else (bif Nat.blt pc 36 then (bif Nat.beq pc 35 then some (.iaload, 1, []) else none) else (bif Nat.beq pc 36 then some (.iload_n 1, 1, []) else none)))) else (bif Nat.blt pc 45 then (bif Nat.blt pc 39 then (bif Nat.blt pc 38 then (bif Nat.beq pc 37 then some (.iadd, 1, []) else none) else (bif Nat.beq pc 38 then some (.iload_n 2, 1, []) else none)) else (bif Nat.blt pc 42 then (bif Nat.beq pc 39 then some (.invokevirtual 222, 3, [0, 161, 2, 1137, 4, 5, 1]) else none) else (bif Nat.beq pc 42 then some (.goto 8, 3, [50]) else none))) else (bif Nat.blt pc 47 then (bif Nat.blt pc 46 then (bif Nat.beq pc 45 then some (.aload_n 0, 1, []) else none) else (bif Nat.beq pc 46 then some (.iconst 2, 1, []) else none)) else (bif Nat.blt pc 50 then (bif Nat.beq pc 47 then some (.invokevirtual 54, 3, [0, 103, 1, 902, 4, 2, 1]) else none) else (bif Nat.beq pc 50 then some (.ireturn, 1, [0]) else none)))))
/-- X5_whyNot -/
def I_X5_whyNot (pc : Nat) : Option IE := bif Nat.blt pc 18 then (bif Nat.blt pc 7 then (bif Nat.blt pc 2 then (bif Nat.blt pc 1 then (bif Nat.beq pc 0 then some (.aload_n 0, 1, []) else none) else (bif Nat.beq pc 1 then some (.iconst 0, 1, []) else none)) else (bif Nat.blt pc 5 then (bif Nat.beq pc 2 then some (.putfield 43, 3, [4, 16, 0, 846]) else none) else (bif Nat.blt pc 6 then (bif Nat.beq pc 5 then some (.aload_n 0, 1, []) else none) else (bif Nat.beq pc 6 then some (.iload_n 1, 1, []) else none)))) else (bif Nat.blt pc 13 then (bif Nat.blt pc 10 then (bif Nat.beq pc 7 then some (.invokevirtual 219, 3, [0, 162, 1, 1133, 4, 2, 1]) else none) else (bif Nat.beq pc 10 then some (.ifCond .eq 18, 3, [28]) else none)) else (bif Nat.blt pc 14 then (bif Nat.beq pc 13 then some (.aload_n 0, 1, []) else none) else (bif Nat.blt pc 15 then (bif Nat.beq pc 14 then some (.aload_n 0, 1, []) else none) else (bif Nat.beq pc 15 then some (.getfield 7, 3, [4, 0, 1, 830]) else none))))) else (bif Nat.blt pc 25 then (bif Nat.blt pc 20 then (bif Nat.blt pc 19 then (bif Nat.beq pc 18 then some (.iconst 3, 1, []) else none) else (bif Nat.beq pc 19 then some (.iaload, 1, []) else none)) else (bif Nat.blt pc 21 then (bif Nat.beq pc 20 then some (.iload_n 1, 1, []) else none) else (bif Nat.blt pc 22 then (bif Nat.beq pc 21 then some (.iadd, 1, []) else none) else (bif Nat.beq pc 22 then some (.invokevirtual 149, 3, [0, 133, 1, 1012, 4, 2, 1]) else none)))) else (bif Nat.blt pc 29 then (bif Nat.blt pc 28 then (bif Nat.beq pc 25 then some (.goto 8, 3, [33]) else none) else (bif Nat.beq pc 28 then some (.aload_n 0, 1, []) else none)) else (bif Nat.blt pc 30 then (bif Nat.beq pc 29 then some (.iconst 1, 1, []) else none) else (bif Nat.blt pc 33 then (bif Nat.beq pc 30 then some (.invokevirtual 54, 3, [0, 103, 1, 902, 4, 2, 1]) else none) else (bif Nat.beq pc 33 then some (.ireturn, 1, [0]) else none)))))
/-- X5_goPlain -/
def I_X5_goPlain (pc : Nat) : Option IE := bif Nat.blt pc 105 then (bif Nat.blt pc 51 then (bif Nat.blt pc 23 then (bif Nat.blt pc 12 then (bif Nat.blt pc 3 then (bif Nat.blt pc 1 then (bif Nat.beq pc 0 then some (.iconst 0, 1, []) else none) else (bif Nat.blt pc 2 then (bif Nat.beq pc 1 then some (.istore_n 1, 1, []) else none) else (bif Nat.beq pc 2 then some (.iload_n 1, 1, []) else none))) else (bif Nat.blt pc 8 then (bif Nat.blt pc 5 then (bif Nat.beq pc 3 then some (.bipush 8, 2, []) else none) else (bif Nat.beq pc 5 then some (.if_icmp .ge 24, 3, [29]) else none)) else (bif Nat.blt pc 9 then (bif Nat.beq pc 8 then some (.aload_n 0, 1, []) else none) else (bif Nat.beq pc 9 then some (.getfield 37, 3, [4, 9, 1, 839]) else none)))) else (bif Nat.blt pc 19 then (bif Nat.blt pc 14 then (bif Nat.blt pc 13 then (bif Nat.beq pc 12 then some (.iload_n 1, 1, []) else none) else (bif Nat.beq pc 13 then some (.aload_n 0, 1, []) else none)) else (bif Nat.blt pc 17 then (bif Nat.beq pc 14 then some (.getfield 7, 3, [4, 0, 1, 830]) else none) else (bif Nat.beq pc 17 then some (.bipush 12, 2, []) else none))) else (bif Nat.blt pc 21 then (bif Nat.blt pc 20 then (bif Nat.beq pc 19 then some (.iload_n 1, 1, []) else none) else (bif Nat.beq pc 20 then some (.iadd, 1, []) else none)) else (bif Nat.blt pc 22 then (bif Nat.beq pc 21 then some (.iaload, 1, []) else none) else (bif Nat.beq pc 22 then some (.iastore, 1, []) else none))))) else (bif Nat.blt pc 38 then (bif Nat.blt pc 31 then (bif Nat.blt pc 29 then (bif Nat.blt pc 26 then (bif Nat.beq pc 23 then some (.iinc 1 1, 3, []) else none) else (bif Nat.beq pc 26 then some (.goto (-24), 3, [2]) else none)) else (bif Nat.blt pc 30 then (bif Nat.beq pc 29 then some (.iconst 0, 1, []) else none) else (bif Nat.beq pc 30 then some (.istore_n 1, 1, []) else none))) else (bif Nat.blt pc 34 then (bif Nat.blt pc 32 then (bif Nat.beq pc 31 then some (.iload_n 1, 1, []) else none) else (bif Nat.beq pc 32 then some (.bipush 16, 2, []) else none)) else (bif Nat.blt pc 37 then (bif Nat.beq pc 34 then some (.if_icmp .ge 24, 3, [58]) else none) else (bif Nat.beq pc 37 then some (.aload_n 0, 1, []) else none)))) else (bif Nat.blt pc 46 then (bif Nat.blt pc 42 then (bif Nat.blt pc 41 then (bif Nat.beq pc 38 then some (.getfield 40, 3, [4, 10, 1, 840]) else none) else (bif Nat.beq pc 41 then some (.iload_n 1, 1, []) else none)) else (bif Nat.blt pc 43 then (bif Nat.beq pc 42 then some (.aload_n 0, 1, []) else none) else (bif Nat.beq pc 43 then some (.getfield 7, 3, [4, 0, 1, 830]) else none))) else (bif Nat.blt pc 49 then (bif Nat.blt pc 48 then (bif Nat.beq pc 46 then some (.bipush 20, 2, []) else none) else (bif Nat.beq pc 48 then some (.iload_n 1, 1, []) else none)) else (bif Nat.blt pc 50 then (bif Nat.beq pc 49 then some (.iadd, 1, []) else none) else (bif Nat.beq pc 50 then some (.iaload, 1, []) else none)))))) else (bif Nat.blt pc 77 then (bif Nat.blt pc 65 then (bif Nat.blt pc 59 then (bif Nat.blt pc 55 then (bif Nat.blt pc 52 then (bif Nat.beq pc 51 then some (.iastore, 1, []) else none) else (bif Nat.beq pc 52 then some (.iinc 1 1, 3, []) else none)) else (bif Nat.blt pc 58 then (bif Nat.beq pc 55 then some (.goto (-24), 3, [31]) else none) else (bif Nat.beq pc 58 then some (.aload_n 0, 1, []) else none))) else (bif Nat.blt pc 63 then (bif Nat.blt pc 62 then (bif Nat.beq pc 59 then some (.getfield 7, 3, [4, 0, 1, 830]) else none) else (bif Nat.beq pc 62 then some (.iconst 3, 1, []) else none)) else (bif Nat.blt pc 64 then (bif Nat.beq pc 63 then some (.iaload, 1, []) else none) else (bif Nat.beq pc 64 then some (.istore_n 1, 1, []) else none)))) else (bif Nat.blt pc 71 then (bif Nat.blt pc 67 then (bif Nat.blt pc 66 then (bif Nat.beq pc 65 then some (.iload_n 1, 1, []) else none) else (bif Nat.beq pc 66 then some (.aload_n 0, 1, []) else none)) else (bif Nat.blt pc 70 then (bif Nat.beq pc 67 then some (.getfield 7, 3, [4, 0, 1, 830]) else none) else (bif Nat.beq pc 70 then some (.iconst 1, 1, []) else none))) else (bif Nat.blt pc 75 then (bif Nat.blt pc 72 then (bif Nat.beq pc 71 then some (.iaload, 1, []) else none) else (bif Nat.beq pc 72 then some (.if_icmp .ge 147, 3, [219]) else none)) else (bif Nat.blt pc 76 then (bif Nat.beq pc 75 then some (.aload_n 0, 1, []) else none) else (bif Nat.beq pc 76 then some (.iload_n 1, 1, []) else none))))) else (bif Nat.blt pc 91 then (bif Nat.blt pc 83 then (bif Nat.blt pc 81 then (bif Nat.blt pc 78 then (bif Nat.beq pc 77 then some (.iconst 0, 1, []) else none) else (bif Nat.beq pc 78 then some (.invokevirtual 86, 3, [0, 105, 2, 948, 4, 3, 1]) else none)) else (bif Nat.blt pc 82 then (bif Nat.beq pc 81 then some (.istore_n 2, 1, []) else none) else (bif Nat.beq pc 82 then some (.aload_n 0, 1, []) else none))) else (bif Nat.blt pc 87 then (bif Nat.blt pc 84 then (bif Nat.beq pc 83 then some (.iload_n 1, 1, []) else none) else (bif Nat.beq pc 84 then some (.invokevirtual 131, 3, [0, 119, 1, 1016, 4, 2, 1]) else none)) else (bif Nat.blt pc 90 then (bif Nat.beq pc 87 then some (.ifCond .eq 17, 3, [104]) else none) else (bif Nat.beq pc 90 then some (.aload_n 0, 1, []) else none)))) else (bif Nat.blt pc 97 then (bif Nat.blt pc 95 then (bif Nat.blt pc 94 then (bif Nat.beq pc 91 then some (.getfield 37, 3, [4, 9, 1, 839]) else none) else (bif Nat.beq pc 94 then some (.aload_n 0, 1, []) else none)) else (bif Nat.blt pc 96 then (bif Nat.beq pc 95 then some (.iload_n 1, 1, []) else none) else (bif Nat.beq pc 96 then some (.iconst 2, 1, []) else none))) else (bif Nat.blt pc 101 then (bif Nat.blt pc 100 then (bif Nat.beq pc 97 then some (.invokevirtual 86, 3, [0, 105, 2, 948, 4, 3, 1]) else none) else (bif Nat.beq pc 100 then some (.iaload, 1, []) else none)) else (bif Nat.blt pc 104 then (bif Nat.beq pc 101 then some (.goto 4, 3, [105]) else none) else (bif Nat.beq pc 104 then some (.iconst 0, 1, []) else none))))))) else (bif Nat.blt pc 161 then (bif Nat.blt pc 132 then (bif Nat.blt pc 119 then (bif Nat.blt pc 111 then (bif Nat.blt pc 107 then (bif Nat.blt pc 106 then (bif Nat.beq pc 105 then some (.istore_n 3, 1, []) else none) else (bif Nat.beq pc 106 then some (.aload_n 0, 1, []) else none)) else (bif Nat.blt pc 108 then (bif Nat.beq pc 107 then some (.iload_n 1, 1, []) else none) else (bif Nat.beq pc 108 then some (.invokevirtual 137, 3, [0, 120, 1, 1024, 4, 2, 1]) else none))) else (bif Nat.blt pc 115 then (bif Nat.blt pc 114 then (bif Nat.beq pc 111 then some (.ifCond .eq 17, 3, [128]) else none) else (bif Nat.beq pc 114 then some (.aload_n 0, 1, []) else none)) else (bif Nat.blt pc 118 then (bif Nat.beq pc 115 then some (.getfield 37, 3, [4, 9, 1, 839]) else none) else (bif Nat.beq pc 118 then some (.aload_n 0, 1, []) else none)))) else (bif Nat.blt pc 125 then (bif Nat.blt pc 121 then (bif Nat.blt pc 120 then (bif Nat.beq pc 119 then some (.iload_n 1, 1, []) else none) else (bif Nat.beq pc 120 then some (.iconst 3, 1, []) else none)) else (bif Nat.blt pc 124 then (bif Nat.beq pc 121 then some (.invokevirtual 86, 3, [0, 105, 2, 948, 4, 3, 1]) else none) else (bif Nat.beq pc 124 then some (.iaload, 1, []) else none))) else (bif Nat.blt pc 129 then (bif Nat.blt pc 128 then (bif Nat.beq pc 125 then some (.goto 4, 3, [129]) else none) else (bif Nat.beq pc 128 then some (.iconst 0, 1, []) else none)) else (bif Nat.blt pc 131 then (bif Nat.beq pc 129 then some (.istore 4, 2, []) else none) else (bif Nat.beq pc 131 then some (.iload_n 2, 1, []) else none))))) else (bif Nat.blt pc 144 then (bif Nat.blt pc 140 then (bif Nat.blt pc 136 then (bif Nat.blt pc 133 then (bif Nat.beq pc 132 then some (.iconst 4, 1, []) else none) else (bif Nat.beq pc 133 then some (.if_icmp .ne 23, 3, [156]) else none)) else (bif Nat.blt pc 137 then (bif Nat.beq pc 136 then some (.aload_n 0, 1, []) else none) else (bif Nat.beq pc 137 then some (.getfield 40, 3, [4, 10, 1, 840]) else none))) else (bif Nat.blt pc 142 then (bif Nat.blt pc 141 then (bif Nat.beq pc 140 then some (.iload_n 3, 1, []) else none) else (bif Nat.beq pc 141 then some (.aload_n 0, 1, []) else none)) else (bif Nat.blt pc 143 then (bif Nat.beq pc 142 then some (.iload_n 1, 1, []) else none) else (bif Nat.beq pc 143 then some (.iconst 4, 1, []) else none)))) else (bif Nat.blt pc 153 then (bif Nat.blt pc 150 then (bif Nat.blt pc 147 then (bif Nat.beq pc 144 then some (.invokevirtual 86, 3, [0, 105, 2, 948, 4, 3, 1]) else none) else (bif Nat.beq pc 147 then some (.invokestatic 108, 3, [1, 123, 2, 998, 4, 3, 1]) else none)) else (bif Nat.blt pc 152 then (bif Nat.beq pc 150 then some (.iload 4, 2, []) else none) else (bif Nat.beq pc 152 then some (.iastore, 1, []) else none))) else (bif Nat.blt pc 157 then (bif Nat.blt pc 156 then (bif Nat.beq pc 153 then some (.goto 60, 3, [213]) else none) else (bif Nat.beq pc 156 then some (.aload_n 0, 1, []) else none)) else (bif Nat.blt pc 160 then (bif Nat.beq pc 157 then some (.getfield 37, 3, [4, 9, 1, 839]) else none) else (bif Nat.beq pc 160 then some (.aload_n 0, 1, []) else none)))))) else (bif Nat.blt pc 191 then (bif Nat.blt pc 173 then (bif Nat.blt pc 167 then (bif Nat.blt pc 163 then (bif Nat.blt pc 162 then (bif Nat.beq pc 161 then some (.iload_n 1, 1, []) else none) else (bif Nat.beq pc 162 then some (.iconst 1, 1, []) else none)) else (bif Nat.blt pc 166 then (bif Nat.beq pc 163 then some (.invokevirtual 86, 3, [0, 105, 2, 948, 4, 3, 1]) else none) else (bif Nat.beq pc 166 then some (.iload_n 2, 1, []) else none))) else (bif Nat.blt pc 171 then (bif Nat.blt pc 170 then (bif Nat.beq pc 167 then some (.ifCond .ne 15, 3, [182]) else none) else (bif Nat.beq pc 170 then some (.aload_n 0, 1, []) else none)) else (bif Nat.blt pc 172 then (bif Nat.beq pc 171 then some (.iload_n 1, 1, []) else none) else (bif Nat.beq pc 172 then some (.iconst 4, 1, []) else none)))) else (bif Nat.blt pc 183 then (bif Nat.blt pc 179 then (bif Nat.blt pc 176 then (bif Nat.beq pc 173 then some (.invokevirtual 86, 3, [0, 105, 2, 948, 4, 3, 1]) else none) else (bif Nat.beq pc 176 then some (.invokestatic 114, 3, [1, 125, 1, 968, 4, 1, 1]) else none)) else (bif Nat.blt pc 182 then (bif Nat.beq pc 179 then some (.goto 33, 3, [212]) else none) else (bif Nat.beq pc 182 then some (.iload_n 2, 1, []) else none))) else (bif Nat.blt pc 187 then (bif Nat.blt pc 184 then (bif Nat.beq pc 183 then some (.iconst 3, 1, []) else none) else (bif Nat.beq pc 184 then some (.if_icmp .ne 21, 3, [205]) else none)) else (bif Nat.blt pc 188 then (bif Nat.beq pc 187 then some (.aload_n 0, 1, []) else none) else (bif Nat.beq pc 188 then some (.getfield 40, 3, [4, 10, 1, 840]) else none))))) else (bif Nat.blt pc 205 then (bif Nat.blt pc 195 then (bif Nat.blt pc 193 then (bif Nat.blt pc 192 then (bif Nat.beq pc 191 then some (.iload_n 3, 1, []) else none) else (bif Nat.beq pc 192 then some (.aload_n 0, 1, []) else none)) else (bif Nat.blt pc 194 then (bif Nat.beq pc 193 then some (.iload_n 1, 1, []) else none) else (bif Nat.beq pc 194 then some (.iconst 4, 1, []) else none))) else (bif Nat.blt pc 201 then (bif Nat.blt pc 198 then (bif Nat.beq pc 195 then some (.invokevirtual 86, 3, [0, 105, 2, 948, 4, 3, 1]) else none) else (bif Nat.beq pc 198 then some (.invokestatic 108, 3, [1, 123, 2, 998, 4, 3, 1]) else none)) else (bif Nat.blt pc 202 then (bif Nat.beq pc 201 then some (.iaload, 1, []) else none) else (bif Nat.beq pc 202 then some (.goto 10, 3, [212]) else none)))) else (bif Nat.blt pc 212 then (bif Nat.blt pc 207 then (bif Nat.blt pc 206 then (bif Nat.beq pc 205 then some (.iload_n 2, 1, []) else none) else (bif Nat.beq pc 206 then some (.iload_n 3, 1, []) else none)) else (bif Nat.blt pc 209 then (bif Nat.beq pc 207 then some (.iload 4, 2, []) else none) else (bif Nat.beq pc 209 then some (.invokestatic 124, 3, [1, 124, 3, 1009, 4, 6, 1]) else none))) else (bif Nat.blt pc 216 then (bif Nat.blt pc 213 then (bif Nat.beq pc 212 then some (.iastore, 1, []) else none) else (bif Nat.beq pc 213 then some (.iinc 1 1, 3, []) else none)) else (bif Nat.blt pc 219 then (bif Nat.beq pc 216 then some (.goto (-151), 3, [65]) else none) else (bif Nat.beq pc 219 then some (.return_, 1, []) else none)))))))
/-- X5_registerNow -/
def I_X5_registerNow (pc : Nat) : Option IE := bif Nat.blt pc 26 then (bif Nat.blt pc 13 then (bif Nat.blt pc 5 then (bif Nat.blt pc 1 then (bif Nat.beq pc 0 then some (.iload_n 2, 1, []) else none) else (bif Nat.blt pc 2 then (bif Nat.beq pc 1 then some (.iconst 2, 1, []) else none) else (bif Nat.beq pc 2 then some (.if_icmp .ne 7, 3, [9]) else none))) else (bif Nat.blt pc 9 then (bif Nat.blt pc 6 then (bif Nat.beq pc 5 then some (.aload_n 0, 1, []) else none) else (bif Nat.beq pc 6 then some (.invokevirtual 225, 3, [0, 165, 0, 1153, 4, 5, 0]) else none)) else (bif Nat.blt pc 10 then (bif Nat.beq pc 9 then some (.iload_n 2, 1, []) else none) else (bif Nat.beq pc 10 then some (.ifCond .ne 15, 3, [25]) else none)))) else (bif Nat.blt pc 20 then (bif Nat.blt pc 17 then (bif Nat.blt pc 14 then (bif Nat.beq pc 13 then some (.aload_n 0, 1, []) else none) else (bif Nat.beq pc 14 then some (.getfield 7, 3, [4, 0, 1, 830]) else none)) else (bif Nat.blt pc 19 then (bif Nat.beq pc 17 then some (.bipush 12, 2, []) else none) else (bif Nat.beq pc 19 then some (.iload_n 1, 1, []) else none))) else (bif Nat.blt pc 22 then (bif Nat.blt pc 21 then (bif Nat.beq pc 20 then some (.iadd, 1, []) else none) else (bif Nat.beq pc 21 then some (.iaload, 1, []) else none)) else (bif Nat.blt pc 25 then (bif Nat.beq pc 22 then some (.goto 28, 3, [50]) else none) else (bif Nat.beq pc 25 then some (.iload_n 2, 1, []) else none))))) else (bif Nat.blt pc 37 then (bif Nat.blt pc 31 then (bif Nat.blt pc 27 then (bif Nat.beq pc 26 then some (.iconst 1, 1, []) else none) else (bif Nat.blt pc 30 then (bif Nat.beq pc 27 then some (.if_icmp .ne 17, 3, [44]) else none) else (bif Nat.beq pc 30 then some (.aload_n 0, 1, []) else none))) else (bif Nat.blt pc 35 then (bif Nat.blt pc 32 then (bif Nat.beq pc 31 then some (.aload_n 0, 1, []) else none) else (bif Nat.beq pc 32 then some (.getfield 7, 3, [4, 0, 1, 830]) else none)) else (bif Nat.blt pc 36 then (bif Nat.beq pc 35 then some (.iconst 2, 1, []) else none) else (bif Nat.beq pc 36 then some (.iaload, 1, []) else none)))) else (bif Nat.blt pc 45 then (bif Nat.blt pc 41 then (bif Nat.blt pc 38 then (bif Nat.beq pc 37 then some (.iload_n 1, 1, []) else none) else (bif Nat.beq pc 38 then some (.invokevirtual 93, 3, [0, 118, 2, 990, 4, 4, 1]) else none)) else (bif Nat.blt pc 44 then (bif Nat.beq pc 41 then some (.goto 9, 3, [50]) else none) else (bif Nat.beq pc 44 then some (.aload_n 0, 1, []) else none))) else (bif Nat.blt pc 49 then (bif Nat.blt pc 48 then (bif Nat.beq pc 45 then some (.getfield 37, 3, [4, 9, 1, 839]) else none) else (bif Nat.beq pc 48 then some (.iload_n 1, 1, []) else none)) else (bif Nat.blt pc 50 then (bif Nat.beq pc 49 then some (.iaload, 1, []) else none) else (bif Nat.beq pc 50 then some (.ireturn, 1, [0]) else none)))))
/-- X5_register -/
def I_X5_register (pc : Nat) : Option IE := bif Nat.blt pc 22 then (bif Nat.blt pc 9 then (bif Nat.blt pc 5 then (bif Nat.blt pc 1 then (bif Nat.beq pc 0 then some (.aload_n 0, 1, []) else none) else (bif Nat.blt pc 2 then (bif Nat.beq pc 1 then some (.iconst 0, 1, []) else none) else (bif Nat.beq pc 2 then some (.putfield 43, 3, [4, 16, 0, 846]) else none))) else (bif Nat.blt pc 6 then (bif Nat.beq pc 5 then some (.iload_n 1, 1, []) else none) else (bif Nat.blt pc 7 then (bif Nat.beq pc 6 then some (.iconst 0, 1, []) else none) else (bif Nat.beq pc 7 then some (.bipush 7, 2, []) else none)))) else (bif Nat.blt pc 16 then (bif Nat.blt pc 12 then (bif Nat.beq pc 9 then some (.invokestatic 50, 3, [1, 104, 3, 899, 4, 3, 1]) else none) else (bif Nat.blt pc 15 then (bif Nat.beq pc 12 then some (.ifCond .ne 9, 3, [21]) else none) else (bif Nat.beq pc 15 then some (.aload_n 0, 1, []) else none))) else (bif Nat.blt pc 20 then (bif Nat.blt pc 17 then (bif Nat.beq pc 16 then some (.iconst 1, 1, []) else none) else (bif Nat.beq pc 17 then some (.invokevirtual 54, 3, [0, 103, 1, 902, 4, 2, 1]) else none)) else (bif Nat.blt pc 21 then (bif Nat.beq pc 20 then some (.ireturn, 1, [0]) else none) else (bif Nat.beq pc 21 then some (.iload_n 2, 1, []) else none))))) else (bif Nat.blt pc 32 then (bif Nat.blt pc 27 then (bif Nat.blt pc 23 then (bif Nat.beq pc 22 then some (.iconst 0, 1, []) else none) else (bif Nat.blt pc 24 then (bif Nat.beq pc 23 then some (.iconst 2, 1, []) else none) else (bif Nat.beq pc 24 then some (.invokestatic 50, 3, [1, 104, 3, 899, 4, 3, 1]) else none))) else (bif Nat.blt pc 30 then (bif Nat.beq pc 27 then some (.ifCond .eq 12, 3, [39]) else none) else (bif Nat.blt pc 31 then (bif Nat.beq pc 30 then some (.aload_n 0, 1, []) else none) else (bif Nat.beq pc 31 then some (.iload_n 1, 1, []) else none)))) else (bif Nat.blt pc 39 then (bif Nat.blt pc 33 then (bif Nat.beq pc 32 then some (.iload_n 2, 1, []) else none) else (bif Nat.blt pc 36 then (bif Nat.beq pc 33 then some (.invokevirtual 228, 3, [0, 166, 2, 1149, 4, 3, 1]) else none) else (bif Nat.beq pc 36 then some (.goto 8, 3, [44]) else none))) else (bif Nat.blt pc 41 then (bif Nat.blt pc 40 then (bif Nat.beq pc 39 then some (.aload_n 0, 1, []) else none) else (bif Nat.beq pc 40 then some (.iconst 2, 1, []) else none)) else (bif Nat.blt pc 44 then (bif Nat.beq pc 41 then some (.invokevirtual 54, 3, [0, 103, 1, 902, 4, 2, 1]) else none) else (bif Nat.beq pc 44 then some (.ireturn, 1, [0]) else none)))))
/-- X5_cellNow -/
def I_X5_cellNow (pc : Nat) : Option IE := bif Nat.blt pc 17 then (bif Nat.blt pc 6 then (bif Nat.blt pc 2 then (bif Nat.blt pc 1 then (bif Nat.beq pc 0 then some (.iload_n 2, 1, []) else none) else (bif Nat.beq pc 1 then some (.iconst 1, 1, []) else none)) else (bif Nat.blt pc 5 then (bif Nat.beq pc 2 then some (.if_icmp .ne 7, 3, [9]) else none) else (bif Nat.beq pc 5 then some (.aload_n 0, 1, []) else none))) else (bif Nat.blt pc 10 then (bif Nat.blt pc 9 then (bif Nat.beq pc 6 then some (.invokevirtual 225, 3, [0, 165, 0, 1153, 4, 5, 0]) else none) else (bif Nat.beq pc 9 then some (.iload_n 2, 1, []) else none)) else (bif Nat.blt pc 13 then (bif Nat.beq pc 10 then some (.ifCond .ne 15, 3, [25]) else none) else (bif Nat.blt pc 14 then (bif Nat.beq pc 13 then some (.aload_n 0, 1, []) else none) else (bif Nat.beq pc 14 then some (.getfield 7, 3, [4, 0, 1, 830]) else none))))) else (bif Nat.blt pc 25 then (bif Nat.blt pc 20 then (bif Nat.blt pc 19 then (bif Nat.beq pc 17 then some (.bipush 20, 2, []) else none) else (bif Nat.beq pc 19 then some (.iload_n 1, 1, []) else none)) else (bif Nat.blt pc 21 then (bif Nat.beq pc 20 then some (.iadd, 1, []) else none) else (bif Nat.blt pc 22 then (bif Nat.beq pc 21 then some (.iaload, 1, []) else none) else (bif Nat.beq pc 22 then some (.goto 9, 3, [31]) else none)))) else (bif Nat.blt pc 29 then (bif Nat.blt pc 26 then (bif Nat.beq pc 25 then some (.aload_n 0, 1, []) else none) else (bif Nat.beq pc 26 then some (.getfield 40, 3, [4, 10, 1, 840]) else none)) else (bif Nat.blt pc 30 then (bif Nat.beq pc 29 then some (.iload_n 1, 1, []) else none) else (bif Nat.blt pc 31 then (bif Nat.beq pc 30 then some (.iaload, 1, []) else none) else (bif Nat.beq pc 31 then some (.ireturn, 1, [0]) else none)))))
/-- X5_cell -/
def I_X5_cell (pc : Nat) : Option IE := bif Nat.blt pc 22 then (bif Nat.blt pc 9 then (bif Nat.blt pc 5 then (bif Nat.blt pc 1 then (bif Nat.beq pc 0 then some (.aload_n 0, 1, []) else none) else (bif Nat.blt pc 2 then (bif Nat.beq pc 1 then some (.iconst 0, 1, []) else none) else (bif Nat.beq pc 2 then some (.putfield 43, 3, [4, 16, 0, 846]) else none))) else (bif Nat.blt pc 6 then (bif Nat.beq pc 5 then some (.iload_n 1, 1, []) else none) else (bif Nat.blt pc 7 then (bif Nat.beq pc 6 then some (.iconst 0, 1, []) else none) else (bif Nat.beq pc 7 then some (.bipush 15, 2, []) else none)))) else (bif Nat.blt pc 16 then (bif Nat.blt pc 12 then (bif Nat.beq pc 9 then some (.invokestatic 50, 3, [1, 104, 3, 899, 4, 3, 1]) else none) else (bif Nat.blt pc 15 then (bif Nat.beq pc 12 then some (.ifCond .ne 9, 3, [21]) else none) else (bif Nat.beq pc 15 then some (.aload_n 0, 1, []) else none))) else (bif Nat.blt pc 20 then (bif Nat.blt pc 17 then (bif Nat.beq pc 16 then some (.iconst 1, 1, []) else none) else (bif Nat.beq pc 17 then some (.invokevirtual 54, 3, [0, 103, 1, 902, 4, 2, 1]) else none)) else (bif Nat.blt pc 21 then (bif Nat.beq pc 20 then some (.ireturn, 1, [0]) else none) else (bif Nat.beq pc 21 then some (.iload_n 2, 1, []) else none))))) else (bif Nat.blt pc 32 then (bif Nat.blt pc 27 then (bif Nat.blt pc 23 then (bif Nat.beq pc 22 then some (.iconst 0, 1, []) else none) else (bif Nat.blt pc 24 then (bif Nat.beq pc 23 then some (.iconst 1, 1, []) else none) else (bif Nat.beq pc 24 then some (.invokestatic 50, 3, [1, 104, 3, 899, 4, 3, 1]) else none))) else (bif Nat.blt pc 30 then (bif Nat.beq pc 27 then some (.ifCond .eq 12, 3, [39]) else none) else (bif Nat.blt pc 31 then (bif Nat.beq pc 30 then some (.aload_n 0, 1, []) else none) else (bif Nat.beq pc 31 then some (.iload_n 1, 1, []) else none)))) else (bif Nat.blt pc 39 then (bif Nat.blt pc 33 then (bif Nat.beq pc 32 then some (.iload_n 2, 1, []) else none) else (bif Nat.blt pc 36 then (bif Nat.beq pc 33 then some (.invokevirtual 231, 3, [0, 168, 2, 1161, 4, 3, 1]) else none) else (bif Nat.beq pc 36 then some (.goto 8, 3, [44]) else none))) else (bif Nat.blt pc 41 then (bif Nat.blt pc 40 then (bif Nat.beq pc 39 then some (.aload_n 0, 1, []) else none) else (bif Nat.beq pc 40 then some (.iconst 2, 1, []) else none)) else (bif Nat.blt pc 44 then (bif Nat.beq pc 41 then some (.invokevirtual 54, 3, [0, 103, 1, 902, 4, 2, 1]) else none) else (bif Nat.beq pc 44 then some (.ireturn, 1, [0]) else none)))))
/-- X5_isFinished -/
def I_X5_isFinished (pc : Nat) : Option IE := bif Nat.blt pc 10 then (bif Nat.blt pc 5 then (bif Nat.blt pc 1 then (bif Nat.beq pc 0 then some (.aload_n 0, 1, []) else none) else (bif Nat.blt pc 4 then (bif Nat.beq pc 1 then some (.getfield 7, 3, [4, 0, 1, 830]) else none) else (bif Nat.beq pc 4 then some (.iconst 3, 1, []) else none))) else (bif Nat.blt pc 6 then (bif Nat.beq pc 5 then some (.iaload, 1, []) else none) else (bif Nat.blt pc 7 then (bif Nat.beq pc 6 then some (.aload_n 0, 1, []) else none) else (bif Nat.beq pc 7 then some (.getfield 7, 3, [4, 0, 1, 830]) else none)))) else (bif Nat.blt pc 15 then (bif Nat.blt pc 11 then (bif Nat.beq pc 10 then some (.iconst 1, 1, []) else none) else (bif Nat.blt pc 12 then (bif Nat.beq pc 11 then some (.iaload, 1, []) else none) else (bif Nat.beq pc 12 then some (.if_icmp .ne 7, 3, [19]) else none))) else (bif Nat.blt pc 19 then (bif Nat.blt pc 16 then (bif Nat.beq pc 15 then some (.iconst 1, 1, []) else none) else (bif Nat.beq pc 16 then some (.goto 4, 3, [20]) else none)) else (bif Nat.blt pc 20 then (bif Nat.beq pc 19 then some (.iconst 0, 1, []) else none) else (bif Nat.beq pc 20 then some (.ireturn, 1, [1]) else none))))
/-- X5_counted -/
def I_X5_counted (pc : Nat) : Option IE := bif Nat.blt pc 93 then (bif Nat.blt pc 73 then (bif Nat.blt pc 62 then (bif Nat.blt pc 57 then (bif Nat.blt pc 1 then (bif Nat.beq pc 0 then some (.iload_n 1, 1, []) else none) else (bif Nat.blt pc 56 then (bif Nat.beq pc 1 then some (.tableswitch 130 2 11 #[55, 60, 67, 74, 81, 88, 96, 104, 112, 125], 55, [131, 2, 56, 3, 61, 4, 68, 5, 75, 6, 82, 7, 89, 8, 97, 9, 105, 10, 113, 11, 126]) else none) else (bif Nat.beq pc 56 then some (.aload_n 0, 1, []) else none))) else (bif Nat.blt pc 60 then (bif Nat.beq pc 57 then some (.invokevirtual 78, 3, [0, 111, 0, 932, 4, 1, 1]) else none) else (bif Nat.blt pc 61 then (bif Nat.beq pc 60 then some (.ireturn, 1, [0]) else none) else (bif Nat.beq pc 61 then some (.aload_n 0, 1, []) else none)))) else (bif Nat.blt pc 67 then (bif Nat.blt pc 65 then (bif Nat.beq pc 62 then some (.getfield 7, 3, [4, 0, 1, 830]) else none) else (bif Nat.blt pc 66 then (bif Nat.beq pc 65 then some (.iconst 2, 1, []) else none) else (bif Nat.beq pc 66 then some (.iaload, 1, []) else none))) else (bif Nat.blt pc 69 then (bif Nat.blt pc 68 then (bif Nat.beq pc 67 then some (.ireturn, 1, [0]) else none) else (bif Nat.beq pc 68 then some (.aload_n 0, 1, []) else none)) else (bif Nat.blt pc 72 then (bif Nat.beq pc 69 then some (.getfield 7, 3, [4, 0, 1, 830]) else none) else (bif Nat.beq pc 72 then some (.iconst 3, 1, []) else none))))) else (bif Nat.blt pc 82 then (bif Nat.blt pc 76 then (bif Nat.blt pc 74 then (bif Nat.beq pc 73 then some (.iaload, 1, []) else none) else (bif Nat.blt pc 75 then (bif Nat.beq pc 74 then some (.ireturn, 1, [0]) else none) else (bif Nat.beq pc 75 then some (.aload_n 0, 1, []) else none))) else (bif Nat.blt pc 80 then (bif Nat.blt pc 79 then (bif Nat.beq pc 76 then some (.getfield 7, 3, [4, 0, 1, 830]) else none) else (bif Nat.beq pc 79 then some (.iconst 4, 1, []) else none)) else (bif Nat.blt pc 81 then (bif Nat.beq pc 80 then some (.iaload, 1, []) else none) else (bif Nat.beq pc 81 then some (.ireturn, 1, [0]) else none)))) else (bif Nat.blt pc 87 then (bif Nat.blt pc 83 then (bif Nat.beq pc 82 then some (.aload_n 0, 1, []) else none) else (bif Nat.blt pc 86 then (bif Nat.beq pc 83 then some (.getfield 7, 3, [4, 0, 1, 830]) else none) else (bif Nat.beq pc 86 then some (.iconst 5, 1, []) else none))) else (bif Nat.blt pc 89 then (bif Nat.blt pc 88 then (bif Nat.beq pc 87 then some (.iaload, 1, []) else none) else (bif Nat.beq pc 88 then some (.ireturn, 1, [0]) else none)) else (bif Nat.blt pc 90 then (bif Nat.beq pc 89 then some (.aload_n 0, 1, []) else none) else (bif Nat.beq pc 90 then some (.getfield 7, 3, [4, 0, 1, 830]) else none)))))) else (bif Nat.blt pc 114 then (bif Nat.blt pc 104 then (bif Nat.blt pc 97 then (bif Nat.blt pc 95 then (bif Nat.beq pc 93 then some (.bipush 6, 2, []) else none) else (bif Nat.blt pc 96 then (bif Nat.beq pc 95 then some (.iaload, 1, []) else none) else (bif Nat.beq pc 96 then some (.ireturn, 1, [0]) else none))) else (bif Nat.blt pc 101 then (bif Nat.blt pc 98 then (bif Nat.beq pc 97 then some (.aload_n 0, 1, []) else none) else (bif Nat.beq pc 98 then some (.getfield 7, 3, [4, 0, 1, 830]) else none)) else (bif Nat.blt pc 103 then (bif Nat.beq pc 101 then some (.bipush 7, 2, []) else none) else (bif Nat.beq pc 103 then some (.iaload, 1, []) else none)))) else (bif Nat.blt pc 109 then (bif Nat.blt pc 105 then (bif Nat.beq pc 104 then some (.ireturn, 1, [0]) else none) else (bif Nat.blt pc 106 then (bif Nat.beq pc 105 then some (.aload_n 0, 1, []) else none) else (bif Nat.beq pc 106 then some (.getfield 7, 3, [4, 0, 1, 830]) else none))) else (bif Nat.blt pc 112 then (bif Nat.blt pc 111 then (bif Nat.beq pc 109 then some (.bipush 8, 2, []) else none) else (bif Nat.beq pc 111 then some (.iaload, 1, []) else none)) else (bif Nat.blt pc 113 then (bif Nat.beq pc 112 then some (.ireturn, 1, [0]) else none) else (bif Nat.beq pc 113 then some (.aload_n 0, 1, []) else none))))) else (bif Nat.blt pc 127 then (bif Nat.blt pc 121 then (bif Nat.blt pc 117 then (bif Nat.beq pc 114 then some (.invokevirtual 234, 3, [0, 170, 0, 1173, 4, 1, 1]) else none) else (bif Nat.blt pc 120 then (bif Nat.beq pc 117 then some (.ifCond .eq 7, 3, [124]) else none) else (bif Nat.beq pc 120 then some (.iconst 1, 1, []) else none))) else (bif Nat.blt pc 125 then (bif Nat.blt pc 124 then (bif Nat.beq pc 121 then some (.goto 4, 3, [125]) else none) else (bif Nat.beq pc 124 then some (.iconst 0, 1, []) else none)) else (bif Nat.blt pc 126 then (bif Nat.beq pc 125 then some (.ireturn, 1, [0]) else none) else (bif Nat.beq pc 126 then some (.aload_n 0, 1, []) else none)))) else (bif Nat.blt pc 132 then (bif Nat.blt pc 130 then (bif Nat.beq pc 127 then some (.getfield 47, 3, [4, 14, 0, 844]) else none) else (bif Nat.blt pc 131 then (bif Nat.beq pc 130 then some (.ireturn, 1, [0]) else none) else (bif Nat.beq pc 131 then some (.aload_n 0, 1, []) else none))) else (bif Nat.blt pc 136 then (bif Nat.blt pc 135 then (bif Nat.beq pc 132 then some (.getfield 7, 3, [4, 0, 1, 830]) else none) else (bif Nat.beq pc 135 then some (.iload_n 1, 1, []) else none)) else (bif Nat.blt pc 137 then (bif Nat.beq pc 136 then some (.iaload, 1, []) else none) else (bif Nat.beq pc 137 then some (.ireturn, 1, [0]) else none))))))
/-- X5_count -/
def I_X5_count (pc : Nat) : Option IE := bif Nat.blt pc 15 then (bif Nat.blt pc 6 then (bif Nat.blt pc 2 then (bif Nat.blt pc 1 then (bif Nat.beq pc 0 then some (.aload_n 0, 1, []) else none) else (bif Nat.beq pc 1 then some (.iconst 0, 1, []) else none)) else (bif Nat.blt pc 5 then (bif Nat.beq pc 2 then some (.putfield 43, 3, [4, 16, 0, 846]) else none) else (bif Nat.beq pc 5 then some (.iload_n 1, 1, []) else none))) else (bif Nat.blt pc 9 then (bif Nat.blt pc 7 then (bif Nat.beq pc 6 then some (.iconst 0, 1, []) else none) else (bif Nat.beq pc 7 then some (.bipush 11, 2, []) else none)) else (bif Nat.blt pc 12 then (bif Nat.beq pc 9 then some (.invokestatic 50, 3, [1, 104, 3, 899, 4, 3, 1]) else none) else (bif Nat.beq pc 12 then some (.ifCond .eq 11, 3, [23]) else none)))) else (bif Nat.blt pc 23 then (bif Nat.blt pc 17 then (bif Nat.blt pc 16 then (bif Nat.beq pc 15 then some (.aload_n 0, 1, []) else none) else (bif Nat.beq pc 16 then some (.iload_n 1, 1, []) else none)) else (bif Nat.blt pc 20 then (bif Nat.beq pc 17 then some (.invokevirtual 238, 3, [0, 171, 1, 1169, 4, 2, 1]) else none) else (bif Nat.beq pc 20 then some (.goto 8, 3, [28]) else none))) else (bif Nat.blt pc 25 then (bif Nat.blt pc 24 then (bif Nat.beq pc 23 then some (.aload_n 0, 1, []) else none) else (bif Nat.beq pc 24 then some (.iconst 1, 1, []) else none)) else (bif Nat.blt pc 28 then (bif Nat.beq pc 25 then some (.invokevirtual 54, 3, [0, 103, 1, 902, 4, 2, 1]) else none) else (bif Nat.beq pc 28 then some (.ireturn, 1, [0]) else none))))
/-- X5_setting -/
def I_X5_setting (pc : Nat) : Option IE := bif Nat.blt pc 14 then (bif Nat.blt pc 6 then (bif Nat.blt pc 2 then (bif Nat.blt pc 1 then (bif Nat.beq pc 0 then some (.aload_n 0, 1, []) else none) else (bif Nat.beq pc 1 then some (.iconst 0, 1, []) else none)) else (bif Nat.blt pc 5 then (bif Nat.beq pc 2 then some (.putfield 43, 3, [4, 16, 0, 846]) else none) else (bif Nat.beq pc 5 then some (.iload_n 1, 1, []) else none))) else (bif Nat.blt pc 8 then (bif Nat.blt pc 7 then (bif Nat.beq pc 6 then some (.iconst 0, 1, []) else none) else (bif Nat.beq pc 7 then some (.iconst 2, 1, []) else none)) else (bif Nat.blt pc 11 then (bif Nat.beq pc 8 then some (.invokestatic 50, 3, [1, 104, 3, 899, 4, 3, 1]) else none) else (bif Nat.beq pc 11 then some (.ifCond .eq 11, 3, [22]) else none)))) else (bif Nat.blt pc 22 then (bif Nat.blt pc 16 then (bif Nat.blt pc 15 then (bif Nat.beq pc 14 then some (.aload_n 0, 1, []) else none) else (bif Nat.beq pc 15 then some (.iload_n 1, 1, []) else none)) else (bif Nat.blt pc 19 then (bif Nat.beq pc 16 then some (.invokevirtual 61, 3, [0, 107, 1, 910, 4, 2, 1]) else none) else (bif Nat.beq pc 19 then some (.goto 8, 3, [27]) else none))) else (bif Nat.blt pc 24 then (bif Nat.blt pc 23 then (bif Nat.beq pc 22 then some (.aload_n 0, 1, []) else none) else (bif Nat.beq pc 23 then some (.iconst 1, 1, []) else none)) else (bif Nat.blt pc 27 then (bif Nat.beq pc 24 then some (.invokevirtual 54, 3, [0, 103, 1, 902, 4, 2, 1]) else none) else (bif Nat.beq pc 27 then some (.ireturn, 1, [0]) else none))))
/-- X5_runNow -/
def I_X5_runNow (pc : Nat) : Option IE := bif Nat.blt pc 38 then (bif Nat.blt pc 15 then (bif Nat.blt pc 7 then (bif Nat.blt pc 4 then (bif Nat.blt pc 1 then (bif Nat.beq pc 0 then some (.aload_n 0, 1, []) else none) else (bif Nat.beq pc 1 then some (.getfield 7, 3, [4, 0, 1, 830]) else none)) else (bif Nat.blt pc 5 then (bif Nat.beq pc 4 then some (.iconst 4, 1, []) else none) else (bif Nat.blt pc 6 then (bif Nat.beq pc 5 then some (.iaload, 1, []) else none) else (bif Nat.beq pc 6 then some (.istore_n 3, 1, []) else none)))) else (bif Nat.blt pc 11 then (bif Nat.blt pc 8 then (bif Nat.beq pc 7 then some (.aload_n 0, 1, []) else none) else (bif Nat.beq pc 8 then some (.invokevirtual 241, 3, [0, 109, 0, 1189, 4, 2, 0]) else none)) else (bif Nat.blt pc 12 then (bif Nat.beq pc 11 then some (.iconst 0, 1, []) else none) else (bif Nat.blt pc 14 then (bif Nat.beq pc 12 then some (.istore 4, 2, []) else none) else (bif Nat.beq pc 14 then some (.iconst 0, 1, []) else none))))) else (bif Nat.blt pc 25 then (bif Nat.blt pc 19 then (bif Nat.blt pc 17 then (bif Nat.beq pc 15 then some (.istore 5, 2, []) else none) else (bif Nat.beq pc 17 then some (.iload 5, 2, []) else none)) else (bif Nat.blt pc 20 then (bif Nat.beq pc 19 then some (.iload_n 1, 1, []) else none) else (bif Nat.blt pc 23 then (bif Nat.beq pc 20 then some (.if_icmp .ge 18, 3, [38]) else none) else (bif Nat.beq pc 23 then some (.iload 4, 2, []) else none)))) else (bif Nat.blt pc 30 then (bif Nat.blt pc 26 then (bif Nat.beq pc 25 then some (.aload_n 0, 1, []) else none) else (bif Nat.blt pc 29 then (bif Nat.beq pc 26 then some (.invokevirtual 155, 3, [0, 135, 0, 944, 4, 4, 1]) else none) else (bif Nat.beq pc 29 then some (.iadd, 1, []) else none))) else (bif Nat.blt pc 32 then (bif Nat.beq pc 30 then some (.istore 4, 2, []) else none) else (bif Nat.blt pc 35 then (bif Nat.beq pc 32 then some (.iinc 5 1, 3, []) else none) else (bif Nat.beq pc 35 then some (.goto (-18), 3, [17]) else none)))))) else (bif Nat.blt pc 57 then (bif Nat.blt pc 48 then (bif Nat.blt pc 42 then (bif Nat.blt pc 39 then (bif Nat.beq pc 38 then some (.iload_n 2, 1, []) else none) else (bif Nat.beq pc 39 then some (.ifCond .ne 8, 3, [47]) else none)) else (bif Nat.blt pc 44 then (bif Nat.beq pc 42 then some (.iload 4, 2, []) else none) else (bif Nat.blt pc 47 then (bif Nat.beq pc 44 then some (.goto 23, 3, [67]) else none) else (bif Nat.beq pc 47 then some (.iload_n 2, 1, []) else none)))) else (bif Nat.blt pc 52 then (bif Nat.blt pc 49 then (bif Nat.beq pc 48 then some (.iconst 1, 1, []) else none) else (bif Nat.beq pc 49 then some (.if_icmp .ne 14, 3, [63]) else none)) else (bif Nat.blt pc 53 then (bif Nat.beq pc 52 then some (.aload_n 0, 1, []) else none) else (bif Nat.blt pc 56 then (bif Nat.beq pc 53 then some (.getfield 7, 3, [4, 0, 1, 830]) else none) else (bif Nat.beq pc 56 then some (.iconst 4, 1, []) else none))))) else (bif Nat.blt pc 64 then (bif Nat.blt pc 59 then (bif Nat.blt pc 58 then (bif Nat.beq pc 57 then some (.iaload, 1, []) else none) else (bif Nat.beq pc 58 then some (.iload_n 3, 1, []) else none)) else (bif Nat.blt pc 60 then (bif Nat.beq pc 59 then some (.isub, 1, []) else none) else (bif Nat.blt pc 63 then (bif Nat.beq pc 60 then some (.goto 7, 3, [67]) else none) else (bif Nat.beq pc 63 then some (.aload_n 0, 1, []) else none)))) else (bif Nat.blt pc 70 then (bif Nat.blt pc 67 then (bif Nat.beq pc 64 then some (.invokevirtual 78, 3, [0, 111, 0, 932, 4, 1, 1]) else none) else (bif Nat.blt pc 69 then (bif Nat.beq pc 67 then some (.istore 5, 2, []) else none) else (bif Nat.beq pc 69 then some (.aload_n 0, 1, []) else none))) else (bif Nat.blt pc 73 then (bif Nat.beq pc 70 then some (.invokevirtual 244, 3, [0, 110, 0, 1193, 4, 2, 0]) else none) else (bif Nat.blt pc 75 then (bif Nat.beq pc 73 then some (.iload 5, 2, []) else none) else (bif Nat.beq pc 75 then some (.ireturn, 1, [0]) else none))))))
/-- X5_ifRun -/
def I_X5_ifRun (pc : Nat) : Option IE := bif Nat.blt pc 18 then (bif Nat.blt pc 7 then (bif Nat.blt pc 2 then (bif Nat.blt pc 1 then (bif Nat.beq pc 0 then some (.aload_n 0, 1, []) else none) else (bif Nat.beq pc 1 then some (.iconst 0, 1, []) else none)) else (bif Nat.blt pc 5 then (bif Nat.beq pc 2 then some (.putfield 43, 3, [4, 16, 0, 846]) else none) else (bif Nat.blt pc 6 then (bif Nat.beq pc 5 then some (.iload_n 1, 1, []) else none) else (bif Nat.beq pc 6 then some (.iconst 1, 1, []) else none)))) else (bif Nat.blt pc 15 then (bif Nat.blt pc 9 then (bif Nat.beq pc 7 then some (.bipush 100, 2, []) else none) else (bif Nat.blt pc 12 then (bif Nat.beq pc 9 then some (.invokestatic 50, 3, [1, 104, 3, 899, 4, 3, 1]) else none) else (bif Nat.beq pc 12 then some (.ifCond .eq 21, 3, [33]) else none))) else (bif Nat.blt pc 16 then (bif Nat.beq pc 15 then some (.iload_n 2, 1, []) else none) else (bif Nat.blt pc 17 then (bif Nat.beq pc 16 then some (.iconst 0, 1, []) else none) else (bif Nat.beq pc 17 then some (.iconst 2, 1, []) else none))))) else (bif Nat.blt pc 27 then (bif Nat.blt pc 24 then (bif Nat.blt pc 21 then (bif Nat.beq pc 18 then some (.invokestatic 50, 3, [1, 104, 3, 899, 4, 3, 1]) else none) else (bif Nat.beq pc 21 then some (.ifCond .eq 12, 3, [33]) else none)) else (bif Nat.blt pc 25 then (bif Nat.beq pc 24 then some (.aload_n 0, 1, []) else none) else (bif Nat.blt pc 26 then (bif Nat.beq pc 25 then some (.iload_n 1, 1, []) else none) else (bif Nat.beq pc 26 then some (.iload_n 2, 1, []) else none)))) else (bif Nat.blt pc 34 then (bif Nat.blt pc 30 then (bif Nat.beq pc 27 then some (.invokevirtual 247, 3, [0, 174, 2, 1185, 4, 6, 1]) else none) else (bif Nat.blt pc 33 then (bif Nat.beq pc 30 then some (.goto 8, 3, [38]) else none) else (bif Nat.beq pc 33 then some (.aload_n 0, 1, []) else none))) else (bif Nat.blt pc 35 then (bif Nat.beq pc 34 then some (.iconst 1, 1, []) else none) else (bif Nat.blt pc 38 then (bif Nat.beq pc 35 then some (.invokevirtual 54, 3, [0, 103, 1, 902, 4, 2, 1]) else none) else (bif Nat.beq pc 38 then some (.ireturn, 1, [0]) else none)))))
/-- X5_goOn -/
def I_X5_goOn (pc : Nat) : Option IE := bif Nat.blt pc 10 then (bif Nat.blt pc 3 then (bif Nat.blt pc 1 then (bif Nat.beq pc 0 then some (.iconst 0, 1, []) else none) else (bif Nat.blt pc 2 then (bif Nat.beq pc 1 then some (.istore_n 1, 1, []) else none) else (bif Nat.beq pc 2 then some (.aload_n 0, 1, []) else none))) else (bif Nat.blt pc 6 then (bif Nat.beq pc 3 then some (.invokevirtual 234, 3, [0, 170, 0, 1173, 4, 1, 1]) else none) else (bif Nat.blt pc 9 then (bif Nat.beq pc 6 then some (.ifCond .ne 14, 3, [20]) else none) else (bif Nat.beq pc 9 then some (.aload_n 0, 1, []) else none)))) else (bif Nat.blt pc 17 then (bif Nat.blt pc 13 then (bif Nat.beq pc 10 then some (.invokevirtual 155, 3, [0, 135, 0, 944, 4, 4, 1]) else none) else (bif Nat.blt pc 14 then (bif Nat.beq pc 13 then some (.pop, 1, []) else none) else (bif Nat.beq pc 14 then some (.iinc 1 1, 3, []) else none))) else (bif Nat.blt pc 20 then (bif Nat.beq pc 17 then some (.goto (-15), 3, [2]) else none) else (bif Nat.blt pc 21 then (bif Nat.beq pc 20 then some (.iload_n 1, 1, []) else none) else (bif Nat.beq pc 21 then some (.ireturn, 1, [0]) else none))))
/-- X5_leftNow -/
def I_X5_leftNow (pc : Nat) : Option IE := bif Nat.blt pc 8 then (bif Nat.blt pc 4 then (bif Nat.blt pc 1 then (bif Nat.beq pc 0 then some (.aload_n 0, 1, []) else none) else (bif Nat.beq pc 1 then some (.invokevirtual 241, 3, [0, 109, 0, 1189, 4, 2, 0]) else none)) else (bif Nat.blt pc 5 then (bif Nat.beq pc 4 then some (.aload_n 0, 1, []) else none) else (bif Nat.beq pc 5 then some (.invokevirtual 250, 3, [0, 176, 0, 1205, 4, 2, 1]) else none))) else (bif Nat.blt pc 10 then (bif Nat.blt pc 9 then (bif Nat.beq pc 8 then some (.istore_n 1, 1, []) else none) else (bif Nat.beq pc 9 then some (.aload_n 0, 1, []) else none)) else (bif Nat.blt pc 13 then (bif Nat.beq pc 10 then some (.invokevirtual 244, 3, [0, 110, 0, 1193, 4, 2, 0]) else none) else (bif Nat.blt pc 14 then (bif Nat.beq pc 13 then some (.iload_n 1, 1, []) else none) else (bif Nat.beq pc 14 then some (.ireturn, 1, [0]) else none))))
/-- X5_cyclesLeft -/
def I_X5_cyclesLeft (pc : Nat) : Option IE := bif Nat.blt pc 5 then (bif Nat.blt pc 1 then (bif Nat.beq pc 0 then some (.aload_n 0, 1, []) else none) else (bif Nat.blt pc 2 then (bif Nat.beq pc 1 then some (.iconst 0, 1, []) else none) else (bif Nat.beq pc 2 then some (.putfield 43, 3, [4, 16, 0, 846]) else none))) else (bif Nat.blt pc 6 then (bif Nat.beq pc 5 then some (.aload_n 0, 1, []) else none) else (bif Nat.blt pc 9 then (bif Nat.beq pc 6 then some (.invokevirtual 253, 3, [0, 177, 0, 1201, 4, 2, 1]) else none) else (bif Nat.beq pc 9 then some (.ireturn, 1, [0]) else none)))
/-- X5_windowNow -/
def I_X5_windowNow (pc : Nat) : Option IE := bif Nat.blt pc 69 then (bif Nat.blt pc 33 then (bif Nat.blt pc 15 then (bif Nat.blt pc 5 then (bif Nat.blt pc 2 then (bif Nat.blt pc 1 then (bif Nat.beq pc 0 then some (.iconst 0, 1, []) else none) else (bif Nat.beq pc 1 then some (.istore_n 2, 1, []) else none)) else (bif Nat.blt pc 3 then (bif Nat.beq pc 2 then some (.iconst 1, 1, []) else none) else (bif Nat.blt pc 4 then (bif Nat.beq pc 3 then some (.istore_n 3, 1, []) else none) else (bif Nat.beq pc 4 then some (.iload_n 3, 1, []) else none)))) else (bif Nat.blt pc 10 then (bif Nat.blt pc 7 then (bif Nat.beq pc 5 then some (.bipush 8, 2, []) else none) else (bif Nat.beq pc 7 then some (.if_icmp .gt 121, 3, [128]) else none)) else (bif Nat.blt pc 11 then (bif Nat.beq pc 10 then some (.aload_n 0, 1, []) else none) else (bif Nat.blt pc 14 then (bif Nat.beq pc 11 then some (.getfield 7, 3, [4, 0, 1, 830]) else none) else (bif Nat.beq pc 14 then some (.iconst 4, 1, []) else none))))) else (bif Nat.blt pc 23 then (bif Nat.blt pc 18 then (bif Nat.blt pc 16 then (bif Nat.beq pc 15 then some (.iaload, 1, []) else none) else (bif Nat.beq pc 16 then some (.istore 4, 2, []) else none)) else (bif Nat.blt pc 19 then (bif Nat.beq pc 18 then some (.aload_n 0, 1, []) else none) else (bif Nat.blt pc 22 then (bif Nat.beq pc 19 then some (.invokevirtual 241, 3, [0, 109, 0, 1189, 4, 2, 0]) else none) else (bif Nat.beq pc 22 then some (.aload_n 0, 1, []) else none)))) else (bif Nat.blt pc 27 then (bif Nat.blt pc 26 then (bif Nat.beq pc 23 then some (.invokevirtual 158, 3, [0, 138, 0, 1043, 4, 2, 0]) else none) else (bif Nat.beq pc 26 then some (.aload_n 0, 1, []) else none)) else (bif Nat.blt pc 30 then (bif Nat.beq pc 27 then some (.getfield 7, 3, [4, 0, 1, 830]) else none) else (bif Nat.blt pc 32 then (bif Nat.beq pc 30 then some (.bipush 9, 2, []) else none) else (bif Nat.beq pc 32 then some (.iload_n 3, 1, []) else none)))))) else (bif Nat.blt pc 49 then (bif Nat.blt pc 41 then (bif Nat.blt pc 35 then (bif Nat.blt pc 34 then (bif Nat.beq pc 33 then some (.iastore, 1, []) else none) else (bif Nat.beq pc 34 then some (.aload_n 0, 1, []) else none)) else (bif Nat.blt pc 38 then (bif Nat.beq pc 35 then some (.invokevirtual 250, 3, [0, 176, 0, 1205, 4, 2, 1]) else none) else (bif Nat.blt pc 40 then (bif Nat.beq pc 38 then some (.istore 5, 2, []) else none) else (bif Nat.beq pc 40 then some (.aload_n 0, 1, []) else none)))) else (bif Nat.blt pc 45 then (bif Nat.blt pc 44 then (bif Nat.beq pc 41 then some (.getfield 7, 3, [4, 0, 1, 830]) else none) else (bif Nat.beq pc 44 then some (.iconst 4, 1, []) else none)) else (bif Nat.blt pc 46 then (bif Nat.beq pc 45 then some (.iaload, 1, []) else none) else (bif Nat.blt pc 48 then (bif Nat.beq pc 46 then some (.iload 4, 2, []) else none) else (bif Nat.beq pc 48 then some (.isub, 1, []) else none))))) else (bif Nat.blt pc 59 then (bif Nat.blt pc 52 then (bif Nat.blt pc 51 then (bif Nat.beq pc 49 then some (.istore 6, 2, []) else none) else (bif Nat.beq pc 51 then some (.aload_n 0, 1, []) else none)) else (bif Nat.blt pc 55 then (bif Nat.beq pc 52 then some (.invokevirtual 244, 3, [0, 110, 0, 1193, 4, 2, 0]) else none) else (bif Nat.blt pc 56 then (bif Nat.beq pc 55 then some (.iload_n 2, 1, []) else none) else (bif Nat.beq pc 56 then some (.ifCond .eq 12, 3, [68]) else none)))) else (bif Nat.blt pc 62 then (bif Nat.blt pc 61 then (bif Nat.beq pc 59 then some (.iload 5, 2, []) else none) else (bif Nat.beq pc 61 then some (.aload_n 0, 1, []) else none)) else (bif Nat.blt pc 65 then (bif Nat.beq pc 62 then some (.getfield 256, 3, [4, 17, 0, 847]) else none) else (bif Nat.blt pc 68 then (bif Nat.beq pc 65 then some (.if_icmp .ge 7, 3, [72]) else none) else (bif Nat.beq pc 68 then some (.iconst 1, 1, []) else none))))))) else (bif Nat.blt pc 110 then (bif Nat.blt pc 87 then (bif Nat.blt pc 80 then (bif Nat.blt pc 73 then (bif Nat.blt pc 72 then (bif Nat.beq pc 69 then some (.goto 4, 3, [73]) else none) else (bif Nat.beq pc 72 then some (.iconst 0, 1, []) else none)) else (bif Nat.blt pc 75 then (bif Nat.beq pc 73 then some (.istore 7, 2, []) else none) else (bif Nat.blt pc 77 then (bif Nat.beq pc 75 then some (.iload 7, 2, []) else none) else (bif Nat.beq pc 77 then some (.ifCond .eq 7, 3, [84]) else none)))) else (bif Nat.blt pc 84 then (bif Nat.blt pc 81 then (bif Nat.beq pc 80 then some (.iload_n 3, 1, []) else none) else (bif Nat.beq pc 81 then some (.goto 4, 3, [85]) else none)) else (bif Nat.blt pc 85 then (bif Nat.beq pc 84 then some (.iload_n 2, 1, []) else none) else (bif Nat.blt pc 86 then (bif Nat.beq pc 85 then some (.istore_n 2, 1, []) else none) else (bif Nat.beq pc 86 then some (.aload_n 0, 1, []) else none))))) else (bif Nat.blt pc 98 then (bif Nat.blt pc 92 then (bif Nat.blt pc 89 then (bif Nat.beq pc 87 then some (.iload 7, 2, []) else none) else (bif Nat.beq pc 89 then some (.ifCond .eq 8, 3, [97]) else none)) else (bif Nat.blt pc 94 then (bif Nat.beq pc 92 then some (.iload 6, 2, []) else none) else (bif Nat.blt pc 97 then (bif Nat.beq pc 94 then some (.goto 7, 3, [101]) else none) else (bif Nat.beq pc 97 then some (.aload_n 0, 1, []) else none)))) else (bif Nat.blt pc 104 then (bif Nat.blt pc 101 then (bif Nat.beq pc 98 then some (.getfield 259, 3, [4, 18, 0, 848]) else none) else (bif Nat.beq pc 101 then some (.putfield 259, 3, [4, 18, 0, 848]) else none)) else (bif Nat.blt pc 105 then (bif Nat.beq pc 104 then some (.aload_n 0, 1, []) else none) else (bif Nat.blt pc 107 then (bif Nat.beq pc 105 then some (.iload 7, 2, []) else none) else (bif Nat.beq pc 107 then some (.ifCond .eq 8, 3, [115]) else none)))))) else (bif Nat.blt pc 133 then (bif Nat.blt pc 122 then (bif Nat.blt pc 115 then (bif Nat.blt pc 112 then (bif Nat.beq pc 110 then some (.iload 5, 2, []) else none) else (bif Nat.beq pc 112 then some (.goto 7, 3, [119]) else none)) else (bif Nat.blt pc 116 then (bif Nat.beq pc 115 then some (.aload_n 0, 1, []) else none) else (bif Nat.blt pc 119 then (bif Nat.beq pc 116 then some (.getfield 256, 3, [4, 17, 0, 847]) else none) else (bif Nat.beq pc 119 then some (.putfield 256, 3, [4, 17, 0, 847]) else none)))) else (bif Nat.blt pc 128 then (bif Nat.blt pc 125 then (bif Nat.beq pc 122 then some (.iinc 3 1, 3, []) else none) else (bif Nat.beq pc 125 then some (.goto (-121), 3, [4]) else none)) else (bif Nat.blt pc 129 then (bif Nat.beq pc 128 then some (.iload_n 1, 1, []) else none) else (bif Nat.blt pc 132 then (bif Nat.beq pc 129 then some (.ifCond .ne 7, 3, [136]) else none) else (bif Nat.beq pc 132 then some (.iload_n 2, 1, []) else none))))) else (bif Nat.blt pc 142 then (bif Nat.blt pc 137 then (bif Nat.blt pc 136 then (bif Nat.beq pc 133 then some (.goto 19, 3, [152]) else none) else (bif Nat.beq pc 136 then some (.iload_n 1, 1, []) else none)) else (bif Nat.blt pc 138 then (bif Nat.beq pc 137 then some (.iconst 1, 1, []) else none) else (bif Nat.blt pc 141 then (bif Nat.beq pc 138 then some (.if_icmp .ne 10, 3, [148]) else none) else (bif Nat.beq pc 141 then some (.aload_n 0, 1, []) else none)))) else (bif Nat.blt pc 148 then (bif Nat.blt pc 145 then (bif Nat.beq pc 142 then some (.getfield 256, 3, [4, 17, 0, 847]) else none) else (bif Nat.beq pc 145 then some (.goto 7, 3, [152]) else none)) else (bif Nat.blt pc 149 then (bif Nat.beq pc 148 then some (.aload_n 0, 1, []) else none) else (bif Nat.blt pc 152 then (bif Nat.beq pc 149 then some (.getfield 259, 3, [4, 18, 0, 848]) else none) else (bif Nat.beq pc 152 then some (.ireturn, 1, [0]) else none)))))))
/-- X5_bestWindow -/
def I_X5_bestWindow (pc : Nat) : Option IE := bif Nat.blt pc 14 then (bif Nat.blt pc 6 then (bif Nat.blt pc 2 then (bif Nat.blt pc 1 then (bif Nat.beq pc 0 then some (.aload_n 0, 1, []) else none) else (bif Nat.beq pc 1 then some (.iconst 0, 1, []) else none)) else (bif Nat.blt pc 5 then (bif Nat.beq pc 2 then some (.putfield 43, 3, [4, 16, 0, 846]) else none) else (bif Nat.beq pc 5 then some (.iload_n 1, 1, []) else none))) else (bif Nat.blt pc 8 then (bif Nat.blt pc 7 then (bif Nat.beq pc 6 then some (.iconst 0, 1, []) else none) else (bif Nat.beq pc 7 then some (.iconst 2, 1, []) else none)) else (bif Nat.blt pc 11 then (bif Nat.beq pc 8 then some (.invokestatic 50, 3, [1, 104, 3, 899, 4, 3, 1]) else none) else (bif Nat.beq pc 11 then some (.ifCond .eq 11, 3, [22]) else none)))) else (bif Nat.blt pc 22 then (bif Nat.blt pc 16 then (bif Nat.blt pc 15 then (bif Nat.beq pc 14 then some (.aload_n 0, 1, []) else none) else (bif Nat.beq pc 15 then some (.iload_n 1, 1, []) else none)) else (bif Nat.blt pc 19 then (bif Nat.beq pc 16 then some (.invokevirtual 262, 3, [0, 179, 1, 1213, 4, 8, 1]) else none) else (bif Nat.beq pc 19 then some (.goto 8, 3, [27]) else none))) else (bif Nat.blt pc 24 then (bif Nat.blt pc 23 then (bif Nat.beq pc 22 then some (.aload_n 0, 1, []) else none) else (bif Nat.beq pc 23 then some (.iconst 1, 1, []) else none)) else (bif Nat.blt pc 27 then (bif Nat.beq pc 24 then some (.invokevirtual 54, 3, [0, 103, 1, 902, 4, 2, 1]) else none) else (bif Nat.beq pc 27 then some (.ireturn, 1, [0]) else none))))
/-- X5_worstNow -/
def I_X5_worstNow (pc : Nat) : Option IE := bif Nat.blt pc 25 then (bif Nat.blt pc 10 then (bif Nat.blt pc 4 then (bif Nat.blt pc 2 then (bif Nat.blt pc 1 then (bif Nat.beq pc 0 then some (.iconst (-1), 1, []) else none) else (bif Nat.beq pc 1 then some (.istore_n 1, 1, []) else none)) else (bif Nat.blt pc 3 then (bif Nat.beq pc 2 then some (.iconst 0, 1, []) else none) else (bif Nat.beq pc 3 then some (.istore_n 2, 1, []) else none))) else (bif Nat.blt pc 6 then (bif Nat.blt pc 5 then (bif Nat.beq pc 4 then some (.iload_n 2, 1, []) else none) else (bif Nat.beq pc 5 then some (.aload_n 0, 1, []) else none)) else (bif Nat.blt pc 9 then (bif Nat.beq pc 6 then some (.getfield 7, 3, [4, 0, 1, 830]) else none) else (bif Nat.beq pc 9 then some (.iconst 1, 1, []) else none)))) else (bif Nat.blt pc 16 then (bif Nat.blt pc 14 then (bif Nat.blt pc 11 then (bif Nat.beq pc 10 then some (.iaload, 1, []) else none) else (bif Nat.beq pc 11 then some (.if_icmp .ge 43, 3, [54]) else none)) else (bif Nat.blt pc 15 then (bif Nat.beq pc 14 then some (.iload_n 1, 1, []) else none) else (bif Nat.beq pc 15 then some (.iconst (-1), 1, []) else none))) else (bif Nat.blt pc 20 then (bif Nat.blt pc 19 then (bif Nat.beq pc 16 then some (.if_icmp .ne 7, 3, [23]) else none) else (bif Nat.beq pc 19 then some (.iconst 0, 1, []) else none)) else (bif Nat.blt pc 23 then (bif Nat.beq pc 20 then some (.goto 10, 3, [30]) else none) else (bif Nat.blt pc 24 then (bif Nat.beq pc 23 then some (.aload_n 0, 1, []) else none) else (bif Nat.beq pc 24 then some (.iload_n 1, 1, []) else none)))))) else (bif Nat.blt pc 39 then (bif Nat.blt pc 32 then (bif Nat.blt pc 30 then (bif Nat.blt pc 27 then (bif Nat.beq pc 25 then some (.bipush 6, 2, []) else none) else (bif Nat.beq pc 27 then some (.invokevirtual 86, 3, [0, 105, 2, 948, 4, 3, 1]) else none)) else (bif Nat.blt pc 31 then (bif Nat.beq pc 30 then some (.istore_n 3, 1, []) else none) else (bif Nat.beq pc 31 then some (.aload_n 0, 1, []) else none))) else (bif Nat.blt pc 35 then (bif Nat.blt pc 33 then (bif Nat.beq pc 32 then some (.iload_n 2, 1, []) else none) else (bif Nat.beq pc 33 then some (.bipush 6, 2, []) else none)) else (bif Nat.blt pc 38 then (bif Nat.beq pc 35 then some (.invokevirtual 86, 3, [0, 105, 2, 948, 4, 3, 1]) else none) else (bif Nat.beq pc 38 then some (.iload_n 3, 1, []) else none)))) else (bif Nat.blt pc 47 then (bif Nat.blt pc 43 then (bif Nat.blt pc 42 then (bif Nat.beq pc 39 then some (.if_icmp .le 7, 3, [46]) else none) else (bif Nat.beq pc 42 then some (.iload_n 2, 1, []) else none)) else (bif Nat.blt pc 46 then (bif Nat.beq pc 43 then some (.goto 4, 3, [47]) else none) else (bif Nat.beq pc 46 then some (.iload_n 1, 1, []) else none))) else (bif Nat.blt pc 51 then (bif Nat.blt pc 48 then (bif Nat.beq pc 47 then some (.istore_n 1, 1, []) else none) else (bif Nat.beq pc 48 then some (.iinc 2 1, 3, []) else none)) else (bif Nat.blt pc 54 then (bif Nat.beq pc 51 then some (.goto (-47), 3, [4]) else none) else (bif Nat.blt pc 55 then (bif Nat.beq pc 54 then some (.iload_n 1, 1, []) else none) else (bif Nat.beq pc 55 then some (.ireturn, 1, [0]) else none))))))
/-- X5_worstLoad -/
def I_X5_worstLoad (pc : Nat) : Option IE := bif Nat.blt pc 5 then (bif Nat.blt pc 1 then (bif Nat.beq pc 0 then some (.aload_n 0, 1, []) else none) else (bif Nat.blt pc 2 then (bif Nat.beq pc 1 then some (.iconst 0, 1, []) else none) else (bif Nat.beq pc 2 then some (.putfield 43, 3, [4, 16, 0, 846]) else none))) else (bif Nat.blt pc 6 then (bif Nat.beq pc 5 then some (.aload_n 0, 1, []) else none) else (bif Nat.blt pc 9 then (bif Nat.beq pc 6 then some (.invokevirtual 265, 3, [0, 181, 0, 1221, 4, 4, 1]) else none) else (bif Nat.beq pc 9 then some (.ireturn, 1, [0]) else none)))
/-- X5_shareNow -/
def I_X5_shareNow (pc : Nat) : Option IE := bif Nat.blt pc 18 then (bif Nat.blt pc 7 then (bif Nat.blt pc 4 then (bif Nat.blt pc 1 then (bif Nat.beq pc 0 then some (.aload_n 0, 1, []) else none) else (bif Nat.beq pc 1 then some (.getfield 7, 3, [4, 0, 1, 830]) else none)) else (bif Nat.blt pc 6 then (bif Nat.beq pc 4 then some (.bipush 7, 2, []) else none) else (bif Nat.beq pc 6 then some (.iaload, 1, []) else none))) else (bif Nat.blt pc 11 then (bif Nat.blt pc 10 then (bif Nat.beq pc 7 then some (.ifCond .ne 7, 3, [14]) else none) else (bif Nat.beq pc 10 then some (.dconst 0, 1, []) else none)) else (bif Nat.blt pc 14 then (bif Nat.beq pc 11 then some (.goto 20, 3, [31]) else none) else (bif Nat.blt pc 15 then (bif Nat.beq pc 14 then some (.aload_n 0, 1, []) else none) else (bif Nat.beq pc 15 then some (.getfield 7, 3, [4, 0, 1, 830]) else none))))) else (bif Nat.blt pc 26 then (bif Nat.blt pc 21 then (bif Nat.blt pc 20 then (bif Nat.beq pc 18 then some (.bipush 8, 2, []) else none) else (bif Nat.beq pc 20 then some (.iaload, 1, []) else none)) else (bif Nat.blt pc 22 then (bif Nat.beq pc 21 then some (.i2d, 1, []) else none) else (bif Nat.blt pc 23 then (bif Nat.beq pc 22 then some (.aload_n 0, 1, []) else none) else (bif Nat.beq pc 23 then some (.getfield 7, 3, [4, 0, 1, 830]) else none)))) else (bif Nat.blt pc 29 then (bif Nat.blt pc 28 then (bif Nat.beq pc 26 then some (.bipush 7, 2, []) else none) else (bif Nat.beq pc 28 then some (.iaload, 1, []) else none)) else (bif Nat.blt pc 30 then (bif Nat.beq pc 29 then some (.i2d, 1, []) else none) else (bif Nat.blt pc 31 then (bif Nat.beq pc 30 then some (.ddiv, 1, []) else none) else (bif Nat.beq pc 31 then some (.dreturn, 1, []) else none)))))
/-- X5_earlyShare -/
def I_X5_earlyShare (pc : Nat) : Option IE := bif Nat.blt pc 5 then (bif Nat.blt pc 1 then (bif Nat.beq pc 0 then some (.aload_n 0, 1, []) else none) else (bif Nat.blt pc 2 then (bif Nat.beq pc 1 then some (.iconst 0, 1, []) else none) else (bif Nat.beq pc 2 then some (.putfield 43, 3, [4, 16, 0, 846]) else none))) else (bif Nat.blt pc 6 then (bif Nat.beq pc 5 then some (.aload_n 0, 1, []) else none) else (bif Nat.blt pc 9 then (bif Nat.beq pc 6 then some (.invokevirtual 268, 3, [0, 183, 0, 1229, 4, 1, 4]) else none) else (bif Nat.beq pc 9 then some (.dreturn, 1, []) else none)))
/-- X5_mix -/
def I_X5_mix (pc : Nat) : Option IE := bif Nat.blt pc 8 then (bif Nat.blt pc 4 then (bif Nat.blt pc 1 then (bif Nat.beq pc 0 then some (.aload_n 0, 1, []) else none) else (bif Nat.beq pc 1 then some (.ldc2_w 272, 3, [2, 31, 1242]) else none)) else (bif Nat.blt pc 5 then (bif Nat.beq pc 4 then some (.aload_n 0, 1, []) else none) else (bif Nat.beq pc 5 then some (.getfield 274, 3, [4, 19, 2, 849]) else none))) else (bif Nat.blt pc 10 then (bif Nat.blt pc 9 then (bif Nat.beq pc 8 then some (.lmul, 1, []) else none) else (bif Nat.beq pc 9 then some (.lload_n 1, 1, []) else none)) else (bif Nat.blt pc 11 then (bif Nat.beq pc 10 then some (.ladd, 1, []) else none) else (bif Nat.blt pc 14 then (bif Nat.beq pc 11 then some (.putfield 274, 3, [4, 19, 2, 849]) else none) else (bif Nat.beq pc 14 then some (.return_, 1, []) else none))))
/-- X5_mixProgram -/
def I_X5_mixProgram (pc : Nat) : Option IE := bif Nat.blt pc 67 then (bif Nat.blt pc 32 then (bif Nat.blt pc 15 then (bif Nat.blt pc 6 then (bif Nat.blt pc 2 then (bif Nat.blt pc 1 then (bif Nat.beq pc 0 then some (.iconst 0, 1, []) else none) else (bif Nat.beq pc 1 then some (.istore_n 1, 1, []) else none)) else (bif Nat.blt pc 3 then (bif Nat.beq pc 2 then some (.iload_n 1, 1, []) else none) else (bif Nat.blt pc 5 then (bif Nat.beq pc 3 then some (.bipush 7, 2, []) else none) else (bif Nat.beq pc 5 then some (.aload_n 0, 1, []) else none)))) else (bif Nat.blt pc 10 then (bif Nat.blt pc 9 then (bif Nat.beq pc 6 then some (.getfield 7, 3, [4, 0, 1, 830]) else none) else (bif Nat.beq pc 9 then some (.iconst 1, 1, []) else none)) else (bif Nat.blt pc 11 then (bif Nat.beq pc 10 then some (.iaload, 1, []) else none) else (bif Nat.blt pc 12 then (bif Nat.beq pc 11 then some (.imul, 1, []) else none) else (bif Nat.beq pc 12 then some (.if_icmp .ge 26, 3, [38]) else none))))) else (bif Nat.blt pc 21 then (bif Nat.blt pc 17 then (bif Nat.blt pc 16 then (bif Nat.beq pc 15 then some (.aload_n 0, 1, []) else none) else (bif Nat.beq pc 16 then some (.aload_n 0, 1, []) else none)) else (bif Nat.blt pc 18 then (bif Nat.beq pc 17 then some (.iload_n 1, 1, []) else none) else (bif Nat.blt pc 20 then (bif Nat.beq pc 18 then some (.bipush 7, 2, []) else none) else (bif Nat.beq pc 20 then some (.idiv, 1, []) else none)))) else (bif Nat.blt pc 25 then (bif Nat.blt pc 22 then (bif Nat.beq pc 21 then some (.iload_n 1, 1, []) else none) else (bif Nat.blt pc 24 then (bif Nat.beq pc 22 then some (.bipush 7, 2, []) else none) else (bif Nat.beq pc 24 then some (.irem, 1, []) else none))) else (bif Nat.blt pc 28 then (bif Nat.beq pc 25 then some (.invokevirtual 86, 3, [0, 105, 2, 948, 4, 3, 1]) else none) else (bif Nat.blt pc 29 then (bif Nat.beq pc 28 then some (.i2l, 1, []) else none) else (bif Nat.beq pc 29 then some (.invokevirtual 278, 3, [0, 185, 1, 1238, 4, 3, 0]) else none)))))) else (bif Nat.blt pc 52 then (bif Nat.blt pc 41 then (bif Nat.blt pc 38 then (bif Nat.blt pc 35 then (bif Nat.beq pc 32 then some (.iinc 1 1, 3, []) else none) else (bif Nat.beq pc 35 then some (.goto (-33), 3, [2]) else none)) else (bif Nat.blt pc 39 then (bif Nat.beq pc 38 then some (.iconst 0, 1, []) else none) else (bif Nat.blt pc 40 then (bif Nat.beq pc 39 then some (.istore_n 1, 1, []) else none) else (bif Nat.beq pc 40 then some (.iload_n 1, 1, []) else none)))) else (bif Nat.blt pc 47 then (bif Nat.blt pc 43 then (bif Nat.beq pc 41 then some (.bipush 9, 2, []) else none) else (bif Nat.blt pc 44 then (bif Nat.beq pc 43 then some (.aload_n 0, 1, []) else none) else (bif Nat.beq pc 44 then some (.invokevirtual 78, 3, [0, 111, 0, 932, 4, 1, 1]) else none))) else (bif Nat.blt pc 48 then (bif Nat.beq pc 47 then some (.imul, 1, []) else none) else (bif Nat.blt pc 51 then (bif Nat.beq pc 48 then some (.if_icmp .ge 33, 3, [81]) else none) else (bif Nat.beq pc 51 then some (.aload_n 0, 1, []) else none))))) else (bif Nat.blt pc 59 then (bif Nat.blt pc 54 then (bif Nat.blt pc 53 then (bif Nat.beq pc 52 then some (.aload_n 0, 1, []) else none) else (bif Nat.beq pc 53 then some (.aload_n 0, 1, []) else none)) else (bif Nat.blt pc 57 then (bif Nat.beq pc 54 then some (.getfield 7, 3, [4, 0, 1, 830]) else none) else (bif Nat.blt pc 58 then (bif Nat.beq pc 57 then some (.iconst 3, 1, []) else none) else (bif Nat.beq pc 58 then some (.iaload, 1, []) else none)))) else (bif Nat.blt pc 63 then (bif Nat.blt pc 60 then (bif Nat.beq pc 59 then some (.iload_n 1, 1, []) else none) else (bif Nat.blt pc 62 then (bif Nat.beq pc 60 then some (.bipush 9, 2, []) else none) else (bif Nat.beq pc 62 then some (.idiv, 1, []) else none))) else (bif Nat.blt pc 64 then (bif Nat.beq pc 63 then some (.iadd, 1, []) else none) else (bif Nat.blt pc 65 then (bif Nat.beq pc 64 then some (.iload_n 1, 1, []) else none) else (bif Nat.beq pc 65 then some (.bipush 9, 2, []) else none))))))) else (bif Nat.blt pc 101 then (bif Nat.blt pc 86 then (bif Nat.blt pc 78 then (bif Nat.blt pc 71 then (bif Nat.blt pc 68 then (bif Nat.beq pc 67 then some (.irem, 1, []) else none) else (bif Nat.beq pc 68 then some (.invokevirtual 222, 3, [0, 161, 2, 1137, 4, 5, 1]) else none)) else (bif Nat.blt pc 72 then (bif Nat.beq pc 71 then some (.i2l, 1, []) else none) else (bif Nat.blt pc 75 then (bif Nat.beq pc 72 then some (.invokevirtual 278, 3, [0, 185, 1, 1238, 4, 3, 0]) else none) else (bif Nat.beq pc 75 then some (.iinc 1 1, 3, []) else none)))) else (bif Nat.blt pc 82 then (bif Nat.blt pc 81 then (bif Nat.beq pc 78 then some (.goto (-38), 3, [40]) else none) else (bif Nat.beq pc 81 then some (.iconst 0, 1, []) else none)) else (bif Nat.blt pc 83 then (bif Nat.beq pc 82 then some (.istore_n 1, 1, []) else none) else (bif Nat.blt pc 84 then (bif Nat.beq pc 83 then some (.iload_n 1, 1, []) else none) else (bif Nat.beq pc 84 then some (.bipush 24, 2, []) else none))))) else (bif Nat.blt pc 93 then (bif Nat.blt pc 90 then (bif Nat.blt pc 89 then (bif Nat.beq pc 86 then some (.if_icmp .ge 24, 3, [110]) else none) else (bif Nat.beq pc 89 then some (.aload_n 0, 1, []) else none)) else (bif Nat.blt pc 91 then (bif Nat.beq pc 90 then some (.aload_n 0, 1, []) else none) else (bif Nat.blt pc 92 then (bif Nat.beq pc 91 then some (.iload_n 1, 1, []) else none) else (bif Nat.beq pc 92 then some (.iconst 3, 1, []) else none)))) else (bif Nat.blt pc 96 then (bif Nat.blt pc 94 then (bif Nat.beq pc 93 then some (.idiv, 1, []) else none) else (bif Nat.blt pc 95 then (bif Nat.beq pc 94 then some (.iload_n 1, 1, []) else none) else (bif Nat.beq pc 95 then some (.iconst 3, 1, []) else none))) else (bif Nat.blt pc 97 then (bif Nat.beq pc 96 then some (.irem, 1, []) else none) else (bif Nat.blt pc 100 then (bif Nat.beq pc 97 then some (.invokevirtual 228, 3, [0, 166, 2, 1149, 4, 3, 1]) else none) else (bif Nat.beq pc 100 then some (.i2l, 1, []) else none)))))) else (bif Nat.blt pc 121 then (bif Nat.blt pc 112 then (bif Nat.blt pc 107 then (bif Nat.blt pc 104 then (bif Nat.beq pc 101 then some (.invokevirtual 278, 3, [0, 185, 1, 1238, 4, 3, 0]) else none) else (bif Nat.beq pc 104 then some (.iinc 1 1, 3, []) else none)) else (bif Nat.blt pc 110 then (bif Nat.beq pc 107 then some (.goto (-24), 3, [83]) else none) else (bif Nat.blt pc 111 then (bif Nat.beq pc 110 then some (.iconst 0, 1, []) else none) else (bif Nat.beq pc 111 then some (.istore_n 1, 1, []) else none)))) else (bif Nat.blt pc 118 then (bif Nat.blt pc 113 then (bif Nat.beq pc 112 then some (.iload_n 1, 1, []) else none) else (bif Nat.blt pc 115 then (bif Nat.beq pc 113 then some (.bipush 32, 2, []) else none) else (bif Nat.beq pc 115 then some (.if_icmp .ge 24, 3, [139]) else none))) else (bif Nat.blt pc 119 then (bif Nat.beq pc 118 then some (.aload_n 0, 1, []) else none) else (bif Nat.blt pc 120 then (bif Nat.beq pc 119 then some (.aload_n 0, 1, []) else none) else (bif Nat.beq pc 120 then some (.iload_n 1, 1, []) else none))))) else (bif Nat.blt pc 126 then (bif Nat.blt pc 123 then (bif Nat.blt pc 122 then (bif Nat.beq pc 121 then some (.iconst 2, 1, []) else none) else (bif Nat.beq pc 122 then some (.idiv, 1, []) else none)) else (bif Nat.blt pc 124 then (bif Nat.beq pc 123 then some (.iload_n 1, 1, []) else none) else (bif Nat.blt pc 125 then (bif Nat.beq pc 124 then some (.iconst 2, 1, []) else none) else (bif Nat.beq pc 125 then some (.irem, 1, []) else none)))) else (bif Nat.blt pc 133 then (bif Nat.blt pc 129 then (bif Nat.beq pc 126 then some (.invokevirtual 231, 3, [0, 168, 2, 1161, 4, 3, 1]) else none) else (bif Nat.blt pc 130 then (bif Nat.beq pc 129 then some (.i2l, 1, []) else none) else (bif Nat.beq pc 130 then some (.invokevirtual 278, 3, [0, 185, 1, 1238, 4, 3, 0]) else none))) else (bif Nat.blt pc 136 then (bif Nat.beq pc 133 then some (.iinc 1 1, 3, []) else none) else (bif Nat.blt pc 139 then (bif Nat.beq pc 136 then some (.goto (-24), 3, [112]) else none) else (bif Nat.beq pc 139 then some (.return_, 1, []) else none)))))))
/-- X5_digest -/
def I_X5_digest (pc : Nat) : Option IE := bif Nat.blt pc 89 then (bif Nat.blt pc 43 then (bif Nat.blt pc 21 then (bif Nat.blt pc 12 then (bif Nat.blt pc 5 then (bif Nat.blt pc 1 then (bif Nat.beq pc 0 then some (.aload_n 0, 1, []) else none) else (bif Nat.blt pc 2 then (bif Nat.beq pc 1 then some (.iconst 0, 1, []) else none) else (bif Nat.beq pc 2 then some (.putfield 43, 3, [4, 16, 0, 846]) else none))) else (bif Nat.blt pc 6 then (bif Nat.beq pc 5 then some (.aload_n 0, 1, []) else none) else (bif Nat.blt pc 9 then (bif Nat.beq pc 6 then some (.ldc2_w 282, 3, [2, 2371, 1237]) else none) else (bif Nat.beq pc 9 then some (.putfield 274, 3, [4, 19, 2, 849]) else none)))) else (bif Nat.blt pc 15 then (bif Nat.blt pc 13 then (bif Nat.beq pc 12 then some (.iconst 0, 1, []) else none) else (bif Nat.blt pc 14 then (bif Nat.beq pc 13 then some (.istore_n 1, 1, []) else none) else (bif Nat.beq pc 14 then some (.iload_n 1, 1, []) else none))) else (bif Nat.blt pc 17 then (bif Nat.beq pc 15 then some (.bipush 12, 2, []) else none) else (bif Nat.blt pc 20 then (bif Nat.beq pc 17 then some (.if_icmp .ge 19, 3, [36]) else none) else (bif Nat.beq pc 20 then some (.aload_n 0, 1, []) else none))))) else (bif Nat.blt pc 33 then (bif Nat.blt pc 26 then (bif Nat.blt pc 22 then (bif Nat.beq pc 21 then some (.aload_n 0, 1, []) else none) else (bif Nat.blt pc 23 then (bif Nat.beq pc 22 then some (.iload_n 1, 1, []) else none) else (bif Nat.beq pc 23 then some (.invokevirtual 238, 3, [0, 171, 1, 1169, 4, 2, 1]) else none))) else (bif Nat.blt pc 27 then (bif Nat.beq pc 26 then some (.i2l, 1, []) else none) else (bif Nat.blt pc 30 then (bif Nat.beq pc 27 then some (.invokevirtual 278, 3, [0, 185, 1, 1238, 4, 3, 0]) else none) else (bif Nat.beq pc 30 then some (.iinc 1 1, 3, []) else none)))) else (bif Nat.blt pc 38 then (bif Nat.blt pc 36 then (bif Nat.beq pc 33 then some (.goto (-19), 3, [14]) else none) else (bif Nat.blt pc 37 then (bif Nat.beq pc 36 then some (.iconst 0, 1, []) else none) else (bif Nat.beq pc 37 then some (.istore_n 1, 1, []) else none))) else (bif Nat.blt pc 39 then (bif Nat.beq pc 38 then some (.iload_n 1, 1, []) else none) else (bif Nat.blt pc 40 then (bif Nat.beq pc 39 then some (.iconst 3, 1, []) else none) else (bif Nat.beq pc 40 then some (.if_icmp .ge 19, 3, [59]) else none)))))) else (bif Nat.blt pc 65 then (bif Nat.blt pc 53 then (bif Nat.blt pc 46 then (bif Nat.blt pc 44 then (bif Nat.beq pc 43 then some (.aload_n 0, 1, []) else none) else (bif Nat.blt pc 45 then (bif Nat.beq pc 44 then some (.aload_n 0, 1, []) else none) else (bif Nat.beq pc 45 then some (.iload_n 1, 1, []) else none))) else (bif Nat.blt pc 49 then (bif Nat.beq pc 46 then some (.invokevirtual 61, 3, [0, 107, 1, 910, 4, 2, 1]) else none) else (bif Nat.blt pc 50 then (bif Nat.beq pc 49 then some (.i2l, 1, []) else none) else (bif Nat.beq pc 50 then some (.invokevirtual 278, 3, [0, 185, 1, 1238, 4, 3, 0]) else none)))) else (bif Nat.blt pc 60 then (bif Nat.blt pc 56 then (bif Nat.beq pc 53 then some (.iinc 1 1, 3, []) else none) else (bif Nat.blt pc 59 then (bif Nat.beq pc 56 then some (.goto (-18), 3, [38]) else none) else (bif Nat.beq pc 59 then some (.aload_n 0, 1, []) else none))) else (bif Nat.blt pc 63 then (bif Nat.beq pc 60 then some (.invokevirtual 284, 3, [0, 186, 0, 1243, 4, 2, 0]) else none) else (bif Nat.blt pc 64 then (bif Nat.beq pc 63 then some (.iconst 0, 1, []) else none) else (bif Nat.beq pc 64 then some (.istore_n 1, 1, []) else none))))) else (bif Nat.blt pc 74 then (bif Nat.blt pc 70 then (bif Nat.blt pc 66 then (bif Nat.beq pc 65 then some (.iload_n 1, 1, []) else none) else (bif Nat.blt pc 67 then (bif Nat.beq pc 66 then some (.iconst 3, 1, []) else none) else (bif Nat.beq pc 67 then some (.if_icmp .ge 21, 3, [88]) else none))) else (bif Nat.blt pc 71 then (bif Nat.beq pc 70 then some (.aload_n 0, 1, []) else none) else (bif Nat.blt pc 72 then (bif Nat.beq pc 71 then some (.aload_n 0, 1, []) else none) else (bif Nat.beq pc 72 then some (.bipush 10, 2, []) else none)))) else (bif Nat.blt pc 79 then (bif Nat.blt pc 75 then (bif Nat.beq pc 74 then some (.iload_n 1, 1, []) else none) else (bif Nat.blt pc 78 then (bif Nat.beq pc 75 then some (.invokevirtual 247, 3, [0, 174, 2, 1185, 4, 6, 1]) else none) else (bif Nat.beq pc 78 then some (.i2l, 1, []) else none))) else (bif Nat.blt pc 85 then (bif Nat.blt pc 82 then (bif Nat.beq pc 79 then some (.invokevirtual 278, 3, [0, 185, 1, 1238, 4, 3, 0]) else none) else (bif Nat.beq pc 82 then some (.iinc 1 1, 3, []) else none)) else (bif Nat.blt pc 88 then (bif Nat.beq pc 85 then some (.goto (-20), 3, [65]) else none) else (bif Nat.beq pc 88 then some (.aload_n 0, 1, []) else none))))))) else (bif Nat.blt pc 134 then (bif Nat.blt pc 107 then (bif Nat.blt pc 99 then (bif Nat.blt pc 94 then (bif Nat.blt pc 90 then (bif Nat.beq pc 89 then some (.aload_n 0, 1, []) else none) else (bif Nat.blt pc 93 then (bif Nat.beq pc 90 then some (.invokevirtual 253, 3, [0, 177, 0, 1201, 4, 2, 1]) else none) else (bif Nat.beq pc 93 then some (.i2l, 1, []) else none))) else (bif Nat.blt pc 97 then (bif Nat.beq pc 94 then some (.invokevirtual 278, 3, [0, 185, 1, 1238, 4, 3, 0]) else none) else (bif Nat.blt pc 98 then (bif Nat.beq pc 97 then some (.iconst 0, 1, []) else none) else (bif Nat.beq pc 98 then some (.istore_n 1, 1, []) else none)))) else (bif Nat.blt pc 104 then (bif Nat.blt pc 100 then (bif Nat.beq pc 99 then some (.iload_n 1, 1, []) else none) else (bif Nat.blt pc 101 then (bif Nat.beq pc 100 then some (.iconst 3, 1, []) else none) else (bif Nat.beq pc 101 then some (.if_icmp .ge 19, 3, [120]) else none))) else (bif Nat.blt pc 105 then (bif Nat.beq pc 104 then some (.aload_n 0, 1, []) else none) else (bif Nat.blt pc 106 then (bif Nat.beq pc 105 then some (.aload_n 0, 1, []) else none) else (bif Nat.beq pc 106 then some (.iload_n 1, 1, []) else none))))) else (bif Nat.blt pc 121 then (bif Nat.blt pc 114 then (bif Nat.blt pc 110 then (bif Nat.beq pc 107 then some (.invokevirtual 262, 3, [0, 179, 1, 1213, 4, 8, 1]) else none) else (bif Nat.blt pc 111 then (bif Nat.beq pc 110 then some (.i2l, 1, []) else none) else (bif Nat.beq pc 111 then some (.invokevirtual 278, 3, [0, 185, 1, 1238, 4, 3, 0]) else none))) else (bif Nat.blt pc 117 then (bif Nat.beq pc 114 then some (.iinc 1 1, 3, []) else none) else (bif Nat.blt pc 120 then (bif Nat.beq pc 117 then some (.goto (-18), 3, [99]) else none) else (bif Nat.beq pc 120 then some (.aload_n 0, 1, []) else none)))) else (bif Nat.blt pc 126 then (bif Nat.blt pc 122 then (bif Nat.beq pc 121 then some (.aload_n 0, 1, []) else none) else (bif Nat.blt pc 125 then (bif Nat.beq pc 122 then some (.invokevirtual 265, 3, [0, 181, 0, 1221, 4, 4, 1]) else none) else (bif Nat.beq pc 125 then some (.i2l, 1, []) else none))) else (bif Nat.blt pc 130 then (bif Nat.blt pc 129 then (bif Nat.beq pc 126 then some (.invokevirtual 278, 3, [0, 185, 1, 1238, 4, 3, 0]) else none) else (bif Nat.beq pc 129 then some (.aload_n 0, 1, []) else none)) else (bif Nat.blt pc 131 then (bif Nat.beq pc 130 then some (.aload_n 0, 1, []) else none) else (bif Nat.beq pc 131 then some (.invokevirtual 268, 3, [0, 183, 0, 1229, 4, 1, 4]) else none)))))) else (bif Nat.blt pc 156 then (bif Nat.blt pc 146 then (bif Nat.blt pc 141 then (bif Nat.blt pc 137 then (bif Nat.beq pc 134 then some (.invokestatic 287, 3, [1, 189, 1, 1247, 9, 2, 2]) else none) else (bif Nat.blt pc 140 then (bif Nat.beq pc 137 then some (.invokevirtual 278, 3, [0, 185, 1, 1238, 4, 3, 0]) else none) else (bif Nat.beq pc 140 then some (.aload_n 0, 1, []) else none))) else (bif Nat.blt pc 142 then (bif Nat.beq pc 141 then some (.aload_n 0, 1, []) else none) else (bif Nat.blt pc 145 then (bif Nat.beq pc 142 then some (.getfield 161, 3, [4, 15, 0, 845]) else none) else (bif Nat.beq pc 145 then some (.i2l, 1, []) else none)))) else (bif Nat.blt pc 151 then (bif Nat.blt pc 149 then (bif Nat.beq pc 146 then some (.invokevirtual 278, 3, [0, 185, 1, 1238, 4, 3, 0]) else none) else (bif Nat.blt pc 150 then (bif Nat.beq pc 149 then some (.iconst 0, 1, []) else none) else (bif Nat.beq pc 150 then some (.istore_n 1, 1, []) else none))) else (bif Nat.blt pc 152 then (bif Nat.beq pc 151 then some (.iload_n 1, 1, []) else none) else (bif Nat.blt pc 153 then (bif Nat.beq pc 152 then some (.aload_n 0, 1, []) else none) else (bif Nat.beq pc 153 then some (.getfield 161, 3, [4, 15, 0, 845]) else none))))) else (bif Nat.blt pc 166 then (bif Nat.blt pc 161 then (bif Nat.blt pc 159 then (bif Nat.beq pc 156 then some (.if_icmp .ge 20, 3, [176]) else none) else (bif Nat.blt pc 160 then (bif Nat.beq pc 159 then some (.aload_n 0, 1, []) else none) else (bif Nat.beq pc 160 then some (.aload_n 0, 1, []) else none))) else (bif Nat.blt pc 164 then (bif Nat.beq pc 161 then some (.getfield 19, 3, [4, 3, 1, 833]) else none) else (bif Nat.blt pc 165 then (bif Nat.beq pc 164 then some (.iload_n 1, 1, []) else none) else (bif Nat.beq pc 165 then some (.iaload, 1, []) else none)))) else (bif Nat.blt pc 173 then (bif Nat.blt pc 167 then (bif Nat.beq pc 166 then some (.i2l, 1, []) else none) else (bif Nat.blt pc 170 then (bif Nat.beq pc 167 then some (.invokevirtual 278, 3, [0, 185, 1, 1238, 4, 3, 0]) else none) else (bif Nat.beq pc 170 then some (.iinc 1 1, 3, []) else none))) else (bif Nat.blt pc 177 then (bif Nat.blt pc 176 then (bif Nat.beq pc 173 then some (.goto (-22), 3, [151]) else none) else (bif Nat.beq pc 176 then some (.aload_n 0, 1, []) else none)) else (bif Nat.blt pc 180 then (bif Nat.beq pc 177 then some (.getfield 274, 3, [4, 19, 2, 849]) else none) else (bif Nat.beq pc 180 then some (.lreturn, 1, []) else none)))))))
/-- Jxe99ae_isNaN_b9ae7 -/
def I_Jxe99ae_isNaN_b9ae7 (pc : Nat) : Option IE := bif Nat.blt pc 6 then (bif Nat.blt pc 2 then (bif Nat.blt pc 1 then (bif Nat.beq pc 0 then some (.dload_n 0, 1, []) else none) else (bif Nat.beq pc 1 then some (.dload_n 0, 1, []) else none)) else (bif Nat.blt pc 3 then (bif Nat.beq pc 2 then some (.dcmp .l, 1, []) else none) else (bif Nat.beq pc 3 then some (.ifCond .eq 7, 3, [10]) else none))) else (bif Nat.blt pc 10 then (bif Nat.blt pc 7 then (bif Nat.beq pc 6 then some (.iconst 1, 1, []) else none) else (bif Nat.beq pc 7 then some (.goto 4, 3, [11]) else none)) else (bif Nat.blt pc 11 then (bif Nat.beq pc 10 then some (.iconst 0, 1, []) else none) else (bif Nat.beq pc 11 then some (.ireturn, 1, [1]) else none)))
/-- Jxe99ae_doubleToLongBits_ccdee -/
def I_Jxe99ae_doubleToLongBits_ccdee (pc : Nat) : Option IE := bif Nat.blt pc 8 then (bif Nat.blt pc 4 then (bif Nat.blt pc 1 then (bif Nat.beq pc 0 then some (.dload_n 0, 1, []) else none) else (bif Nat.beq pc 1 then some (.invokestatic 122, 3, [1, 188, 1, 1250, 9, 2, 1]) else none)) else (bif Nat.blt pc 7 then (bif Nat.beq pc 4 then some (.ifCond .ne 8, 3, [12]) else none) else (bif Nat.beq pc 7 then some (.dload_n 0, 1, []) else none))) else (bif Nat.blt pc 12 then (bif Nat.blt pc 11 then (bif Nat.beq pc 8 then some (.invokestatic 134, 3, [8, 0, 1, 1253]) else none) else (bif Nat.beq pc 11 then some (.lreturn, 1, []) else none)) else (bif Nat.blt pc 15 then (bif Nat.beq pc 12 then some (.ldc2_w 137, 3, [2, 9221120237041090560, 1256]) else none) else (bif Nat.beq pc 15 then some (.lreturn, 1, []) else none)))
/-- Jxf58ca_isNaN_12338 -/
def I_Jxf58ca_isNaN_12338 (pc : Nat) : Option IE := bif Nat.blt pc 6 then (bif Nat.blt pc 2 then (bif Nat.blt pc 1 then (bif Nat.beq pc 0 then some (.fload_n 0, 1, []) else none) else (bif Nat.beq pc 1 then some (.fload_n 0, 1, []) else none)) else (bif Nat.blt pc 3 then (bif Nat.beq pc 2 then some (.fcmp .l, 1, []) else none) else (bif Nat.beq pc 3 then some (.ifCond .eq 7, 3, [10]) else none))) else (bif Nat.blt pc 10 then (bif Nat.blt pc 7 then (bif Nat.beq pc 6 then some (.iconst 1, 1, []) else none) else (bif Nat.beq pc 7 then some (.goto 4, 3, [11]) else none)) else (bif Nat.blt pc 11 then (bif Nat.beq pc 10 then some (.iconst 0, 1, []) else none) else (bif Nat.beq pc 11 then some (.ireturn, 1, [1]) else none)))
/-- Jxf58ca_floatToIntBits_5c35a -/
def I_Jxf58ca_floatToIntBits_5c35a (pc : Nat) : Option IE := bif Nat.blt pc 8 then (bif Nat.blt pc 4 then (bif Nat.blt pc 1 then (bif Nat.beq pc 0 then some (.fload_n 0, 1, []) else none) else (bif Nat.beq pc 1 then some (.invokestatic 59, 3, [1, 190, 1, 975, 9, 1, 1]) else none)) else (bif Nat.blt pc 7 then (bif Nat.beq pc 4 then some (.ifCond .ne 8, 3, [12]) else none) else (bif Nat.beq pc 7 then some (.fload_n 0, 1, []) else none))) else (bif Nat.blt pc 12 then (bif Nat.blt pc 11 then (bif Nat.beq pc 8 then some (.invokestatic 74, 3, [7, 0, 1, 978]) else none) else (bif Nat.beq pc 11 then some (.ireturn, 1, [0]) else none)) else (bif Nat.blt pc 14 then (bif Nat.beq pc 12 then some (.ldc 77, 2, [0, 2143289344, 981]) else none) else (bif Nat.beq pc 14 then some (.ireturn, 1, [0]) else none)))
/-- J9_floorMod_7cf53 -/
def I_J9_floorMod_7cf53 (pc : Nat) : Option IE := bif Nat.blt pc 10 then (bif Nat.blt pc 4 then (bif Nat.blt pc 2 then (bif Nat.blt pc 1 then (bif Nat.beq pc 0 then some (.iload_n 0, 1, []) else none) else (bif Nat.beq pc 1 then some (.iload_n 1, 1, []) else none)) else (bif Nat.blt pc 3 then (bif Nat.beq pc 2 then some (.irem, 1, []) else none) else (bif Nat.beq pc 3 then some (.istore_n 2, 1, []) else none))) else (bif Nat.blt pc 6 then (bif Nat.blt pc 5 then (bif Nat.beq pc 4 then some (.iload_n 0, 1, []) else none) else (bif Nat.beq pc 5 then some (.iload_n 1, 1, []) else none)) else (bif Nat.blt pc 7 then (bif Nat.beq pc 6 then some (.ixor, 1, []) else none) else (bif Nat.beq pc 7 then some (.ifCond .ge 11, 3, [18]) else none)))) else (bif Nat.blt pc 16 then (bif Nat.blt pc 14 then (bif Nat.blt pc 11 then (bif Nat.beq pc 10 then some (.iload_n 2, 1, []) else none) else (bif Nat.beq pc 11 then some (.ifCond .eq 7, 3, [18]) else none)) else (bif Nat.blt pc 15 then (bif Nat.beq pc 14 then some (.iload_n 2, 1, []) else none) else (bif Nat.beq pc 15 then some (.iload_n 1, 1, []) else none))) else (bif Nat.blt pc 18 then (bif Nat.blt pc 17 then (bif Nat.beq pc 16 then some (.iadd, 1, []) else none) else (bif Nat.beq pc 17 then some (.ireturn, 1, [0]) else none)) else (bif Nat.blt pc 19 then (bif Nat.beq pc 18 then some (.iload_n 2, 1, []) else none) else (bif Nat.beq pc 19 then some (.ireturn, 1, [0]) else none))))
/-- L_set -/
def I_L_set (pc : Nat) : Option IE := bif Nat.blt pc 10 then (bif Nat.blt pc 4 then (bif Nat.blt pc 2 then (bif Nat.blt pc 1 then (bif Nat.beq pc 0 then some (.aload_n 3, 1, []) else none) else (bif Nat.beq pc 1 then some (.iconst 0, 1, []) else none)) else (bif Nat.blt pc 3 then (bif Nat.beq pc 2 then some (.aload_n 0, 1, []) else none) else (bif Nat.beq pc 3 then some (.iload_n 1, 1, []) else none))) else (bif Nat.blt pc 8 then (bif Nat.blt pc 5 then (bif Nat.beq pc 4 then some (.iload_n 2, 1, []) else none) else (bif Nat.beq pc 5 then some (.invokevirtual 7, 3, [0, 63, 2, 646, 3, 4, 1]) else none)) else (bif Nat.blt pc 9 then (bif Nat.beq pc 8 then some (.i2l, 1, []) else none) else (bif Nat.beq pc 9 then some (.lastore, 1, []) else none)))) else (bif Nat.blt pc 17 then (bif Nat.blt pc 15 then (bif Nat.blt pc 13 then (bif Nat.beq pc 10 then some (.goto 11, 3, [21]) else none) else (bif Nat.beq pc 13 then some (.astore 4, 2, []) else none)) else (bif Nat.blt pc 16 then (bif Nat.beq pc 15 then some (.iconst 1, 1, []) else none) else (bif Nat.beq pc 16 then some (.ireturn, 1, [0]) else none))) else (bif Nat.blt pc 20 then (bif Nat.blt pc 19 then (bif Nat.beq pc 17 then some (.astore 4, 2, []) else none) else (bif Nat.beq pc 19 then some (.iconst 2, 1, []) else none)) else (bif Nat.blt pc 21 then (bif Nat.beq pc 20 then some (.ireturn, 1, [0]) else none) else (bif Nat.blt pc 22 then (bif Nat.beq pc 21 then some (.iconst 0, 1, []) else none) else (bif Nat.beq pc 22 then some (.ireturn, 1, [0]) else none)))))
/-- L_putRegister -/
def I_L_putRegister (pc : Nat) : Option IE := bif Nat.blt pc 15 then (bif Nat.blt pc 5 then (bif Nat.blt pc 2 then (bif Nat.blt pc 1 then (bif Nat.beq pc 0 then some (.aload_n 3, 1, []) else none) else (bif Nat.beq pc 1 then some (.iconst 0, 1, []) else none)) else (bif Nat.blt pc 3 then (bif Nat.beq pc 2 then some (.aload_n 0, 1, []) else none) else (bif Nat.blt pc 4 then (bif Nat.beq pc 3 then some (.iload_n 1, 1, []) else none) else (bif Nat.beq pc 4 then some (.iload_n 2, 1, []) else none)))) else (bif Nat.blt pc 9 then (bif Nat.blt pc 8 then (bif Nat.beq pc 5 then some (.invokevirtual 17, 3, [0, 64, 2, 658, 3, 3, 1]) else none) else (bif Nat.beq pc 8 then some (.i2l, 1, []) else none)) else (bif Nat.blt pc 10 then (bif Nat.beq pc 9 then some (.lastore, 1, []) else none) else (bif Nat.blt pc 13 then (bif Nat.beq pc 10 then some (.goto 15, 3, [25]) else none) else (bif Nat.beq pc 13 then some (.astore 4, 2, []) else none))))) else (bif Nat.blt pc 21 then (bif Nat.blt pc 17 then (bif Nat.blt pc 16 then (bif Nat.beq pc 15 then some (.iconst 1, 1, []) else none) else (bif Nat.beq pc 16 then some (.ireturn, 1, [0]) else none)) else (bif Nat.blt pc 19 then (bif Nat.beq pc 17 then some (.astore 4, 2, []) else none) else (bif Nat.blt pc 20 then (bif Nat.beq pc 19 then some (.iconst 2, 1, []) else none) else (bif Nat.beq pc 20 then some (.ireturn, 1, [0]) else none)))) else (bif Nat.blt pc 24 then (bif Nat.blt pc 23 then (bif Nat.beq pc 21 then some (.astore 4, 2, []) else none) else (bif Nat.beq pc 23 then some (.iconst 3, 1, []) else none)) else (bif Nat.blt pc 25 then (bif Nat.beq pc 24 then some (.ireturn, 1, [0]) else none) else (bif Nat.blt pc 26 then (bif Nat.beq pc 25 then some (.iconst 0, 1, []) else none) else (bif Nat.beq pc 26 then some (.ireturn, 1, [0]) else none)))))
/-- L_putCell -/
def I_L_putCell (pc : Nat) : Option IE := bif Nat.blt pc 15 then (bif Nat.blt pc 5 then (bif Nat.blt pc 2 then (bif Nat.blt pc 1 then (bif Nat.beq pc 0 then some (.aload_n 3, 1, []) else none) else (bif Nat.beq pc 1 then some (.iconst 0, 1, []) else none)) else (bif Nat.blt pc 3 then (bif Nat.beq pc 2 then some (.aload_n 0, 1, []) else none) else (bif Nat.blt pc 4 then (bif Nat.beq pc 3 then some (.iload_n 1, 1, []) else none) else (bif Nat.beq pc 4 then some (.iload_n 2, 1, []) else none)))) else (bif Nat.blt pc 9 then (bif Nat.blt pc 8 then (bif Nat.beq pc 5 then some (.invokevirtual 22, 3, [0, 65, 2, 690, 3, 3, 1]) else none) else (bif Nat.beq pc 8 then some (.i2l, 1, []) else none)) else (bif Nat.blt pc 10 then (bif Nat.beq pc 9 then some (.lastore, 1, []) else none) else (bif Nat.blt pc 13 then (bif Nat.beq pc 10 then some (.goto 15, 3, [25]) else none) else (bif Nat.beq pc 13 then some (.astore 4, 2, []) else none))))) else (bif Nat.blt pc 21 then (bif Nat.blt pc 17 then (bif Nat.blt pc 16 then (bif Nat.beq pc 15 then some (.iconst 1, 1, []) else none) else (bif Nat.beq pc 16 then some (.ireturn, 1, [0]) else none)) else (bif Nat.blt pc 19 then (bif Nat.beq pc 17 then some (.astore 4, 2, []) else none) else (bif Nat.blt pc 20 then (bif Nat.beq pc 19 then some (.iconst 2, 1, []) else none) else (bif Nat.beq pc 20 then some (.ireturn, 1, [0]) else none)))) else (bif Nat.blt pc 24 then (bif Nat.blt pc 23 then (bif Nat.beq pc 21 then some (.astore 4, 2, []) else none) else (bif Nat.beq pc 23 then some (.iconst 3, 1, []) else none)) else (bif Nat.blt pc 25 then (bif Nat.beq pc 24 then some (.ireturn, 1, [0]) else none) else (bif Nat.blt pc 26 then (bif Nat.beq pc 25 then some (.iconst 0, 1, []) else none) else (bif Nat.beq pc 26 then some (.ireturn, 1, [0]) else none)))))
/-- L_run -/
def I_L_run (pc : Nat) : Option IE := bif Nat.blt pc 12 then (bif Nat.blt pc 4 then (bif Nat.blt pc 2 then (bif Nat.blt pc 1 then (bif Nat.beq pc 0 then some (.aload_n 2, 1, []) else none) else (bif Nat.beq pc 1 then some (.iconst 0, 1, []) else none)) else (bif Nat.blt pc 3 then (bif Nat.beq pc 2 then some (.aload_n 0, 1, []) else none) else (bif Nat.beq pc 3 then some (.iload_n 1, 1, []) else none))) else (bif Nat.blt pc 8 then (bif Nat.blt pc 7 then (bif Nat.beq pc 4 then some (.invokevirtual 25, 3, [0, 67, 1, 697, 3, 3, 1]) else none) else (bif Nat.beq pc 7 then some (.i2l, 1, []) else none)) else (bif Nat.blt pc 9 then (bif Nat.beq pc 8 then some (.lastore, 1, []) else none) else (bif Nat.beq pc 9 then some (.goto 9, 3, [18]) else none)))) else (bif Nat.blt pc 16 then (bif Nat.blt pc 14 then (bif Nat.blt pc 13 then (bif Nat.beq pc 12 then some (.astore_n 3, 1, []) else none) else (bif Nat.beq pc 13 then some (.iconst 1, 1, []) else none)) else (bif Nat.blt pc 15 then (bif Nat.beq pc 14 then some (.ireturn, 1, [0]) else none) else (bif Nat.beq pc 15 then some (.astore_n 3, 1, []) else none))) else (bif Nat.blt pc 18 then (bif Nat.blt pc 17 then (bif Nat.beq pc 16 then some (.iconst 2, 1, []) else none) else (bif Nat.beq pc 17 then some (.ireturn, 1, [0]) else none)) else (bif Nat.blt pc 19 then (bif Nat.beq pc 18 then some (.iconst 0, 1, []) else none) else (bif Nat.beq pc 19 then some (.ireturn, 1, [0]) else none))))
/-- L_append -/
def I_L_append (pc : Nat) : Option IE := bif Nat.blt pc 12 then (bif Nat.blt pc 4 then (bif Nat.blt pc 2 then (bif Nat.blt pc 1 then (bif Nat.beq pc 0 then some (.aload_n 2, 1, []) else none) else (bif Nat.beq pc 1 then some (.iconst 0, 1, []) else none)) else (bif Nat.blt pc 3 then (bif Nat.beq pc 2 then some (.aload_n 0, 1, []) else none) else (bif Nat.beq pc 3 then some (.iload_n 1, 1, []) else none))) else (bif Nat.blt pc 8 then (bif Nat.blt pc 7 then (bif Nat.beq pc 4 then some (.invokevirtual 29, 3, [0, 71, 1, 710, 3, 2, 1]) else none) else (bif Nat.beq pc 7 then some (.i2l, 1, []) else none)) else (bif Nat.blt pc 9 then (bif Nat.beq pc 8 then some (.lastore, 1, []) else none) else (bif Nat.beq pc 9 then some (.goto 9, 3, [18]) else none)))) else (bif Nat.blt pc 16 then (bif Nat.blt pc 14 then (bif Nat.blt pc 13 then (bif Nat.beq pc 12 then some (.astore_n 3, 1, []) else none) else (bif Nat.beq pc 13 then some (.iconst 1, 1, []) else none)) else (bif Nat.blt pc 15 then (bif Nat.beq pc 14 then some (.ireturn, 1, [0]) else none) else (bif Nat.beq pc 15 then some (.astore_n 3, 1, []) else none))) else (bif Nat.blt pc 18 then (bif Nat.blt pc 17 then (bif Nat.beq pc 16 then some (.iconst 2, 1, []) else none) else (bif Nat.beq pc 17 then some (.ireturn, 1, [0]) else none)) else (bif Nat.blt pc 19 then (bif Nat.beq pc 18 then some (.iconst 0, 1, []) else none) else (bif Nat.beq pc 19 then some (.ireturn, 1, [0]) else none))))
/-- L_load -/
def I_L_load (pc : Nat) : Option IE := bif Nat.blt pc 11 then (bif Nat.blt pc 3 then (bif Nat.blt pc 1 then (bif Nat.beq pc 0 then some (.aload_n 1, 1, []) else none) else (bif Nat.blt pc 2 then (bif Nat.beq pc 1 then some (.iconst 0, 1, []) else none) else (bif Nat.beq pc 2 then some (.aload_n 0, 1, []) else none))) else (bif Nat.blt pc 7 then (bif Nat.blt pc 6 then (bif Nat.beq pc 3 then some (.invokevirtual 32, 3, [0, 74, 0, 723, 3, 4, 1]) else none) else (bif Nat.beq pc 6 then some (.i2l, 1, []) else none)) else (bif Nat.blt pc 8 then (bif Nat.beq pc 7 then some (.lastore, 1, []) else none) else (bif Nat.beq pc 8 then some (.goto 9, 3, [17]) else none)))) else (bif Nat.blt pc 15 then (bif Nat.blt pc 13 then (bif Nat.blt pc 12 then (bif Nat.beq pc 11 then some (.astore_n 2, 1, []) else none) else (bif Nat.beq pc 12 then some (.iconst 1, 1, []) else none)) else (bif Nat.blt pc 14 then (bif Nat.beq pc 13 then some (.ireturn, 1, [0]) else none) else (bif Nat.beq pc 14 then some (.astore_n 2, 1, []) else none))) else (bif Nat.blt pc 17 then (bif Nat.blt pc 16 then (bif Nat.beq pc 15 then some (.iconst 2, 1, []) else none) else (bif Nat.beq pc 16 then some (.ireturn, 1, [0]) else none)) else (bif Nat.blt pc 18 then (bif Nat.beq pc 17 then some (.iconst 0, 1, []) else none) else (bif Nat.beq pc 18 then some (.ireturn, 1, [0]) else none))))
/-- L_undo -/
def I_L_undo (pc : Nat) : Option IE := bif Nat.blt pc 8 then (bif Nat.blt pc 3 then (bif Nat.blt pc 1 then (bif Nat.beq pc 0 then some (.aload_n 1, 1, []) else none) else (bif Nat.blt pc 2 then (bif Nat.beq pc 1 then some (.iconst 0, 1, []) else none) else (bif Nat.beq pc 2 then some (.aload_n 0, 1, []) else none))) else (bif Nat.blt pc 6 then (bif Nat.beq pc 3 then some (.invokevirtual 36, 3, [0, 75, 0, 761, 3, 1, 1]) else none) else (bif Nat.blt pc 7 then (bif Nat.beq pc 6 then some (.i2l, 1, []) else none) else (bif Nat.beq pc 7 then some (.lastore, 1, []) else none)))) else (bif Nat.blt pc 13 then (bif Nat.blt pc 11 then (bif Nat.beq pc 8 then some (.goto 6, 3, [14]) else none) else (bif Nat.blt pc 12 then (bif Nat.beq pc 11 then some (.astore_n 2, 1, []) else none) else (bif Nat.beq pc 12 then some (.iconst 1, 1, []) else none))) else (bif Nat.blt pc 14 then (bif Nat.beq pc 13 then some (.ireturn, 1, [0]) else none) else (bif Nat.blt pc 15 then (bif Nat.beq pc 14 then some (.iconst 0, 1, []) else none) else (bif Nat.beq pc 15 then some (.ireturn, 1, [0]) else none))))
/-- L_instruction -/
def I_L_instruction (pc : Nat) : Option IE := bif Nat.blt pc 10 then (bif Nat.blt pc 4 then (bif Nat.blt pc 2 then (bif Nat.blt pc 1 then (bif Nat.beq pc 0 then some (.aload_n 3, 1, []) else none) else (bif Nat.beq pc 1 then some (.iconst 0, 1, []) else none)) else (bif Nat.blt pc 3 then (bif Nat.beq pc 2 then some (.aload_n 0, 1, []) else none) else (bif Nat.beq pc 3 then some (.iload_n 1, 1, []) else none))) else (bif Nat.blt pc 8 then (bif Nat.blt pc 5 then (bif Nat.beq pc 4 then some (.iload_n 2, 1, []) else none) else (bif Nat.beq pc 5 then some (.invokevirtual 39, 3, [0, 77, 2, 769, 3, 3, 1]) else none)) else (bif Nat.blt pc 9 then (bif Nat.beq pc 8 then some (.i2l, 1, []) else none) else (bif Nat.beq pc 9 then some (.lastore, 1, []) else none)))) else (bif Nat.blt pc 17 then (bif Nat.blt pc 15 then (bif Nat.blt pc 13 then (bif Nat.beq pc 10 then some (.goto 11, 3, [21]) else none) else (bif Nat.beq pc 13 then some (.astore 4, 2, []) else none)) else (bif Nat.blt pc 16 then (bif Nat.beq pc 15 then some (.iconst 1, 1, []) else none) else (bif Nat.beq pc 16 then some (.ireturn, 1, [0]) else none))) else (bif Nat.blt pc 20 then (bif Nat.blt pc 19 then (bif Nat.beq pc 17 then some (.astore 4, 2, []) else none) else (bif Nat.beq pc 19 then some (.iconst 2, 1, []) else none)) else (bif Nat.blt pc 21 then (bif Nat.beq pc 20 then some (.ireturn, 1, [0]) else none) else (bif Nat.blt pc 22 then (bif Nat.beq pc 21 then some (.iconst 0, 1, []) else none) else (bif Nat.beq pc 22 then some (.ireturn, 1, [0]) else none)))))
/-- L_entry -/
def I_L_entry (pc : Nat) : Option IE := bif Nat.blt pc 10 then (bif Nat.blt pc 4 then (bif Nat.blt pc 2 then (bif Nat.blt pc 1 then (bif Nat.beq pc 0 then some (.aload_n 3, 1, []) else none) else (bif Nat.beq pc 1 then some (.iconst 0, 1, []) else none)) else (bif Nat.blt pc 3 then (bif Nat.beq pc 2 then some (.aload_n 0, 1, []) else none) else (bif Nat.beq pc 3 then some (.iload_n 1, 1, []) else none))) else (bif Nat.blt pc 8 then (bif Nat.blt pc 5 then (bif Nat.beq pc 4 then some (.iload_n 2, 1, []) else none) else (bif Nat.beq pc 5 then some (.invokevirtual 42, 3, [0, 78, 2, 776, 3, 3, 1]) else none)) else (bif Nat.blt pc 9 then (bif Nat.beq pc 8 then some (.i2l, 1, []) else none) else (bif Nat.beq pc 9 then some (.lastore, 1, []) else none)))) else (bif Nat.blt pc 17 then (bif Nat.blt pc 15 then (bif Nat.blt pc 13 then (bif Nat.beq pc 10 then some (.goto 11, 3, [21]) else none) else (bif Nat.beq pc 13 then some (.astore 4, 2, []) else none)) else (bif Nat.blt pc 16 then (bif Nat.beq pc 15 then some (.iconst 1, 1, []) else none) else (bif Nat.beq pc 16 then some (.ireturn, 1, [0]) else none))) else (bif Nat.blt pc 20 then (bif Nat.blt pc 19 then (bif Nat.beq pc 17 then some (.astore 4, 2, []) else none) else (bif Nat.beq pc 19 then some (.iconst 2, 1, []) else none)) else (bif Nat.blt pc 21 then (bif Nat.beq pc 20 then some (.ireturn, 1, [0]) else none) else (bif Nat.blt pc 22 then (bif Nat.beq pc 21 then some (.iconst 0, 1, []) else none) else (bif Nat.beq pc 22 then some (.ireturn, 1, [0]) else none)))))
/-- L_whyNot -/
def I_L_whyNot (pc : Nat) : Option IE := bif Nat.blt pc 8 then (bif Nat.blt pc 3 then (bif Nat.blt pc 1 then (bif Nat.beq pc 0 then some (.aload_n 2, 1, []) else none) else (bif Nat.blt pc 2 then (bif Nat.beq pc 1 then some (.iconst 0, 1, []) else none) else (bif Nat.beq pc 2 then some (.aload_n 0, 1, []) else none))) else (bif Nat.blt pc 4 then (bif Nat.beq pc 3 then some (.iload_n 1, 1, []) else none) else (bif Nat.blt pc 7 then (bif Nat.beq pc 4 then some (.invokevirtual 45, 3, [0, 79, 1, 783, 3, 2, 1]) else none) else (bif Nat.beq pc 7 then some (.i2l, 1, []) else none)))) else (bif Nat.blt pc 13 then (bif Nat.blt pc 9 then (bif Nat.beq pc 8 then some (.lastore, 1, []) else none) else (bif Nat.blt pc 12 then (bif Nat.beq pc 9 then some (.goto 6, 3, [15]) else none) else (bif Nat.beq pc 12 then some (.astore_n 3, 1, []) else none))) else (bif Nat.blt pc 15 then (bif Nat.blt pc 14 then (bif Nat.beq pc 13 then some (.iconst 1, 1, []) else none) else (bif Nat.beq pc 14 then some (.ireturn, 1, [0]) else none)) else (bif Nat.blt pc 16 then (bif Nat.beq pc 15 then some (.iconst 0, 1, []) else none) else (bif Nat.beq pc 16 then some (.ireturn, 1, [0]) else none))))
/-- L_register -/
def I_L_register (pc : Nat) : Option IE := bif Nat.blt pc 10 then (bif Nat.blt pc 4 then (bif Nat.blt pc 2 then (bif Nat.blt pc 1 then (bif Nat.beq pc 0 then some (.aload_n 3, 1, []) else none) else (bif Nat.beq pc 1 then some (.iconst 0, 1, []) else none)) else (bif Nat.blt pc 3 then (bif Nat.beq pc 2 then some (.aload_n 0, 1, []) else none) else (bif Nat.beq pc 3 then some (.iload_n 1, 1, []) else none))) else (bif Nat.blt pc 8 then (bif Nat.blt pc 5 then (bif Nat.beq pc 4 then some (.iload_n 2, 1, []) else none) else (bif Nat.beq pc 5 then some (.invokevirtual 48, 3, [0, 80, 2, 791, 3, 3, 1]) else none)) else (bif Nat.blt pc 9 then (bif Nat.beq pc 8 then some (.i2l, 1, []) else none) else (bif Nat.beq pc 9 then some (.lastore, 1, []) else none)))) else (bif Nat.blt pc 17 then (bif Nat.blt pc 15 then (bif Nat.blt pc 13 then (bif Nat.beq pc 10 then some (.goto 11, 3, [21]) else none) else (bif Nat.beq pc 13 then some (.astore 4, 2, []) else none)) else (bif Nat.blt pc 16 then (bif Nat.beq pc 15 then some (.iconst 1, 1, []) else none) else (bif Nat.beq pc 16 then some (.ireturn, 1, [0]) else none))) else (bif Nat.blt pc 20 then (bif Nat.blt pc 19 then (bif Nat.beq pc 17 then some (.astore 4, 2, []) else none) else (bif Nat.beq pc 19 then some (.iconst 2, 1, []) else none)) else (bif Nat.blt pc 21 then (bif Nat.beq pc 20 then some (.ireturn, 1, [0]) else none) else (bif Nat.blt pc 22 then (bif Nat.beq pc 21 then some (.iconst 0, 1, []) else none) else (bif Nat.beq pc 22 then some (.ireturn, 1, [0]) else none)))))
/-- L_cell -/
def I_L_cell (pc : Nat) : Option IE := bif Nat.blt pc 10 then (bif Nat.blt pc 4 then (bif Nat.blt pc 2 then (bif Nat.blt pc 1 then (bif Nat.beq pc 0 then some (.aload_n 3, 1, []) else none) else (bif Nat.beq pc 1 then some (.iconst 0, 1, []) else none)) else (bif Nat.blt pc 3 then (bif Nat.beq pc 2 then some (.aload_n 0, 1, []) else none) else (bif Nat.beq pc 3 then some (.iload_n 1, 1, []) else none))) else (bif Nat.blt pc 8 then (bif Nat.blt pc 5 then (bif Nat.beq pc 4 then some (.iload_n 2, 1, []) else none) else (bif Nat.beq pc 5 then some (.invokevirtual 51, 3, [0, 81, 2, 798, 3, 3, 1]) else none)) else (bif Nat.blt pc 9 then (bif Nat.beq pc 8 then some (.i2l, 1, []) else none) else (bif Nat.beq pc 9 then some (.lastore, 1, []) else none)))) else (bif Nat.blt pc 17 then (bif Nat.blt pc 15 then (bif Nat.blt pc 13 then (bif Nat.beq pc 10 then some (.goto 11, 3, [21]) else none) else (bif Nat.beq pc 13 then some (.astore 4, 2, []) else none)) else (bif Nat.blt pc 16 then (bif Nat.beq pc 15 then some (.iconst 1, 1, []) else none) else (bif Nat.beq pc 16 then some (.ireturn, 1, [0]) else none))) else (bif Nat.blt pc 20 then (bif Nat.blt pc 19 then (bif Nat.beq pc 17 then some (.astore 4, 2, []) else none) else (bif Nat.beq pc 19 then some (.iconst 2, 1, []) else none)) else (bif Nat.blt pc 21 then (bif Nat.beq pc 20 then some (.ireturn, 1, [0]) else none) else (bif Nat.blt pc 22 then (bif Nat.beq pc 21 then some (.iconst 0, 1, []) else none) else (bif Nat.beq pc 22 then some (.ireturn, 1, [0]) else none)))))
/-- L_count -/
def I_L_count (pc : Nat) : Option IE := bif Nat.blt pc 8 then (bif Nat.blt pc 3 then (bif Nat.blt pc 1 then (bif Nat.beq pc 0 then some (.aload_n 2, 1, []) else none) else (bif Nat.blt pc 2 then (bif Nat.beq pc 1 then some (.iconst 0, 1, []) else none) else (bif Nat.beq pc 2 then some (.aload_n 0, 1, []) else none))) else (bif Nat.blt pc 4 then (bif Nat.beq pc 3 then some (.iload_n 1, 1, []) else none) else (bif Nat.blt pc 7 then (bif Nat.beq pc 4 then some (.invokevirtual 54, 3, [0, 82, 1, 805, 3, 2, 1]) else none) else (bif Nat.beq pc 7 then some (.i2l, 1, []) else none)))) else (bif Nat.blt pc 13 then (bif Nat.blt pc 9 then (bif Nat.beq pc 8 then some (.lastore, 1, []) else none) else (bif Nat.blt pc 12 then (bif Nat.beq pc 9 then some (.goto 6, 3, [15]) else none) else (bif Nat.beq pc 12 then some (.astore_n 3, 1, []) else none))) else (bif Nat.blt pc 15 then (bif Nat.blt pc 14 then (bif Nat.beq pc 13 then some (.iconst 1, 1, []) else none) else (bif Nat.beq pc 14 then some (.ireturn, 1, [0]) else none)) else (bif Nat.blt pc 16 then (bif Nat.beq pc 15 then some (.iconst 0, 1, []) else none) else (bif Nat.beq pc 16 then some (.ireturn, 1, [0]) else none))))
/-- L_setting -/
def I_L_setting (pc : Nat) : Option IE := bif Nat.blt pc 8 then (bif Nat.blt pc 3 then (bif Nat.blt pc 1 then (bif Nat.beq pc 0 then some (.aload_n 2, 1, []) else none) else (bif Nat.blt pc 2 then (bif Nat.beq pc 1 then some (.iconst 0, 1, []) else none) else (bif Nat.beq pc 2 then some (.aload_n 0, 1, []) else none))) else (bif Nat.blt pc 4 then (bif Nat.beq pc 3 then some (.iload_n 1, 1, []) else none) else (bif Nat.blt pc 7 then (bif Nat.beq pc 4 then some (.invokevirtual 57, 3, [0, 83, 1, 809, 3, 2, 1]) else none) else (bif Nat.beq pc 7 then some (.i2l, 1, []) else none)))) else (bif Nat.blt pc 13 then (bif Nat.blt pc 9 then (bif Nat.beq pc 8 then some (.lastore, 1, []) else none) else (bif Nat.blt pc 12 then (bif Nat.beq pc 9 then some (.goto 6, 3, [15]) else none) else (bif Nat.beq pc 12 then some (.astore_n 3, 1, []) else none))) else (bif Nat.blt pc 15 then (bif Nat.blt pc 14 then (bif Nat.beq pc 13 then some (.iconst 1, 1, []) else none) else (bif Nat.beq pc 14 then some (.ireturn, 1, [0]) else none)) else (bif Nat.blt pc 16 then (bif Nat.beq pc 15 then some (.iconst 0, 1, []) else none) else (bif Nat.beq pc 16 then some (.ireturn, 1, [0]) else none))))
/-- L_ifRun -/
def I_L_ifRun (pc : Nat) : Option IE := bif Nat.blt pc 9 then (bif Nat.blt pc 3 then (bif Nat.blt pc 1 then (bif Nat.beq pc 0 then some (.aload_n 3, 1, []) else none) else (bif Nat.blt pc 2 then (bif Nat.beq pc 1 then some (.iconst 0, 1, []) else none) else (bif Nat.beq pc 2 then some (.aload_n 0, 1, []) else none))) else (bif Nat.blt pc 5 then (bif Nat.blt pc 4 then (bif Nat.beq pc 3 then some (.iload_n 1, 1, []) else none) else (bif Nat.beq pc 4 then some (.iload_n 2, 1, []) else none)) else (bif Nat.blt pc 8 then (bif Nat.beq pc 5 then some (.invokevirtual 60, 3, [0, 88, 2, 813, 3, 3, 1]) else none) else (bif Nat.beq pc 8 then some (.i2l, 1, []) else none)))) else (bif Nat.blt pc 15 then (bif Nat.blt pc 10 then (bif Nat.beq pc 9 then some (.lastore, 1, []) else none) else (bif Nat.blt pc 13 then (bif Nat.beq pc 10 then some (.goto 7, 3, [17]) else none) else (bif Nat.beq pc 13 then some (.astore 4, 2, []) else none))) else (bif Nat.blt pc 17 then (bif Nat.blt pc 16 then (bif Nat.beq pc 15 then some (.iconst 1, 1, []) else none) else (bif Nat.beq pc 16 then some (.ireturn, 1, [0]) else none)) else (bif Nat.blt pc 18 then (bif Nat.beq pc 17 then some (.iconst 0, 1, []) else none) else (bif Nat.beq pc 18 then some (.ireturn, 1, [0]) else none))))
/-- L_bestWindow -/
def I_L_bestWindow (pc : Nat) : Option IE := bif Nat.blt pc 8 then (bif Nat.blt pc 3 then (bif Nat.blt pc 1 then (bif Nat.beq pc 0 then some (.aload_n 2, 1, []) else none) else (bif Nat.blt pc 2 then (bif Nat.beq pc 1 then some (.iconst 0, 1, []) else none) else (bif Nat.beq pc 2 then some (.aload_n 0, 1, []) else none))) else (bif Nat.blt pc 4 then (bif Nat.beq pc 3 then some (.iload_n 1, 1, []) else none) else (bif Nat.blt pc 7 then (bif Nat.beq pc 4 then some (.invokevirtual 63, 3, [0, 90, 1, 820, 3, 2, 1]) else none) else (bif Nat.beq pc 7 then some (.i2l, 1, []) else none)))) else (bif Nat.blt pc 13 then (bif Nat.blt pc 9 then (bif Nat.beq pc 8 then some (.lastore, 1, []) else none) else (bif Nat.blt pc 12 then (bif Nat.beq pc 9 then some (.goto 6, 3, [15]) else none) else (bif Nat.beq pc 12 then some (.astore_n 3, 1, []) else none))) else (bif Nat.blt pc 15 then (bif Nat.blt pc 14 then (bif Nat.beq pc 13 then some (.iconst 1, 1, []) else none) else (bif Nat.beq pc 14 then some (.ireturn, 1, [0]) else none)) else (bif Nat.blt pc 16 then (bif Nat.beq pc 15 then some (.iconst 0, 1, []) else none) else (bif Nat.beq pc 16 then some (.ireturn, 1, [0]) else none))))
/-- L_law -/
def I_L_law (pc : Nat) : Option IE := bif Nat.blt pc 680 then (bif Nat.blt pc 383 then (bif Nat.blt pc 242 then (bif Nat.blt pc 174 then (bif Nat.blt pc 36 then (bif Nat.blt pc 20 then (bif Nat.blt pc 11 then (bif Nat.blt pc 4 then (bif Nat.blt pc 3 then (bif Nat.beq pc 0 then some (.new 8, 3, [3, 85, 86]) else none) else (bif Nat.beq pc 3 then some (.dup, 1, []) else none)) else (bif Nat.blt pc 7 then (bif Nat.beq pc 4 then some (.invokespecial 66, 3, [2, 62, 0, 87, 3, 2, 0]) else none) else (bif Nat.blt pc 8 then (bif Nat.beq pc 7 then some (.astore_n 1, 1, []) else none) else (bif Nat.beq pc 8 then some (.new 67, 3, [4, 824, 825]) else none)))) else (bif Nat.blt pc 16 then (bif Nat.blt pc 12 then (bif Nat.beq pc 11 then some (.dup, 1, []) else none) else (bif Nat.blt pc 15 then (bif Nat.beq pc 12 then some (.invokespecial 69, 3, [2, 101, 0, 826, 4, 1, 0]) else none) else (bif Nat.beq pc 15 then some (.astore_n 2, 1, []) else none))) else (bif Nat.blt pc 17 then (bif Nat.beq pc 16 then some (.iconst 1, 1, []) else none) else (bif Nat.blt pc 19 then (bif Nat.beq pc 17 then some (.newarray .long, 2, [9, 1257]) else none) else (bif Nat.beq pc 19 then some (.astore_n 3, 1, []) else none))))) else (bif Nat.blt pc 27 then (bif Nat.blt pc 23 then (bif Nat.blt pc 21 then (bif Nat.beq pc 20 then some (.iconst 0, 1, []) else none) else (bif Nat.beq pc 21 then some (.istore 4, 2, []) else none)) else (bif Nat.blt pc 25 then (bif Nat.beq pc 23 then some (.iload 4, 2, []) else none) else (bif Nat.blt pc 26 then (bif Nat.beq pc 25 then some (.aload_n 0, 1, []) else none) else (bif Nat.beq pc 26 then some (.arraylength, 1, [1]) else none)))) else (bif Nat.blt pc 32 then (bif Nat.blt pc 28 then (bif Nat.beq pc 27 then some (.iconst 3, 1, []) else none) else (bif Nat.blt pc 29 then (bif Nat.beq pc 28 then some (.isub, 1, []) else none) else (bif Nat.beq pc 29 then some (.if_icmp .gt 1226, 3, [1255]) else none))) else (bif Nat.blt pc 33 then (bif Nat.beq pc 32 then some (.aload_n 0, 1, []) else none) else (bif Nat.blt pc 35 then (bif Nat.beq pc 33 then some (.iload 4, 2, []) else none) else (bif Nat.beq pc 35 then some (.iaload, 1, [1]) else none)))))) else (bif Nat.blt pc 158 then (bif Nat.blt pc 150 then (bif Nat.blt pc 39 then (bif Nat.blt pc 38 then (bif Nat.beq pc 36 then some (.bipush 31, 2, []) else none) else (bif Nat.beq pc 38 then some (.iand, 1, []) else none)) else (bif Nat.blt pc 148 then (bif Nat.beq pc 39 then some (.tableswitch 1210 0 23 #[109, 177, 245, 313, 369, 382, 395, 451, 464, 477, 521, 565, 633, 701, 757, 825, 893, 949, 1005, 1073, 1086, 1142, 1155, 1196], 109, [1249, 0, 148, 1, 216, 2, 284, 3, 352, 4, 408, 5, 421, 6, 434, 7, 490, 8, 503, 9, 516, 10, 560, 11, 604, 12, 672, 13, 740, 14, 796, 15, 864, 16, 932, 17, 988, 18, 1044, 19, 1112, 20, 1125, 21, 1181, 22, 1194, 23, 1235]) else none) else (bif Nat.blt pc 149 then (bif Nat.beq pc 148 then some (.aload_n 1, 1, []) else none) else (bif Nat.beq pc 149 then some (.aload_n 0, 1, []) else none)))) else (bif Nat.blt pc 154 then (bif Nat.blt pc 152 then (bif Nat.beq pc 150 then some (.iload 4, 2, []) else none) else (bif Nat.blt pc 153 then (bif Nat.beq pc 152 then some (.iconst 1, 1, []) else none) else (bif Nat.beq pc 153 then some (.iadd, 1, []) else none))) else (bif Nat.blt pc 155 then (bif Nat.beq pc 154 then some (.iaload, 1, [1]) else none) else (bif Nat.blt pc 156 then (bif Nat.beq pc 155 then some (.aload_n 0, 1, []) else none) else (bif Nat.beq pc 156 then some (.iload 4, 2, []) else none))))) else (bif Nat.blt pc 167 then (bif Nat.blt pc 161 then (bif Nat.blt pc 159 then (bif Nat.beq pc 158 then some (.iconst 2, 1, []) else none) else (bif Nat.blt pc 160 then (bif Nat.beq pc 159 then some (.iadd, 1, []) else none) else (bif Nat.beq pc 160 then some (.iaload, 1, [1]) else none))) else (bif Nat.blt pc 162 then (bif Nat.beq pc 161 then some (.aload_n 3, 1, []) else none) else (bif Nat.blt pc 165 then (bif Nat.beq pc 162 then some (.invokestatic 70, 3, [1, 193, 4, 641, 9, 5, 1]) else none) else (bif Nat.beq pc 165 then some (.istore 5, 2, []) else none)))) else (bif Nat.blt pc 171 then (bif Nat.blt pc 168 then (bif Nat.beq pc 167 then some (.aload_n 2, 1, []) else none) else (bif Nat.blt pc 169 then (bif Nat.beq pc 168 then some (.aload_n 0, 1, []) else none) else (bif Nat.beq pc 169 then some (.iload 4, 2, []) else none))) else (bif Nat.blt pc 172 then (bif Nat.beq pc 171 then some (.iconst 1, 1, []) else none) else (bif Nat.blt pc 173 then (bif Nat.beq pc 172 then some (.iadd, 1, []) else none) else (bif Nat.beq pc 173 then some (.iaload, 1, [1]) else none))))))) else (bif Nat.blt pc 211 then (bif Nat.blt pc 194 then (bif Nat.blt pc 180 then (bif Nat.blt pc 177 then (bif Nat.blt pc 175 then (bif Nat.beq pc 174 then some (.aload_n 0, 1, []) else none) else (bif Nat.beq pc 175 then some (.iload 4, 2, []) else none)) else (bif Nat.blt pc 178 then (bif Nat.beq pc 177 then some (.iconst 2, 1, []) else none) else (bif Nat.blt pc 179 then (bif Nat.beq pc 178 then some (.iadd, 1, []) else none) else (bif Nat.beq pc 179 then some (.iaload, 1, [1]) else none)))) else (bif Nat.blt pc 186 then (bif Nat.blt pc 183 then (bif Nat.beq pc 180 then some (.invokevirtual 75, 3, [0, 112, 2, 895, 4, 4, 1]) else none) else (bif Nat.blt pc 185 then (bif Nat.beq pc 183 then some (.istore 6, 2, []) else none) else (bif Nat.beq pc 185 then some (.aload_n 2, 1, []) else none))) else (bif Nat.blt pc 189 then (bif Nat.beq pc 186 then some (.invokevirtual 76, 3, [0, 102, 0, 891, 4, 1, 1]) else none) else (bif Nat.blt pc 191 then (bif Nat.beq pc 189 then some (.iload 5, 2, []) else none) else (bif Nat.beq pc 191 then some (.if_icmp .eq 5, 3, [196]) else none))))) else (bif Nat.blt pc 202 then (bif Nat.blt pc 196 then (bif Nat.blt pc 195 then (bif Nat.beq pc 194 then some (.iconst 0, 1, []) else none) else (bif Nat.beq pc 195 then some (.ireturn, 1, [1]) else none)) else (bif Nat.blt pc 198 then (bif Nat.beq pc 196 then some (.iload 5, 2, []) else none) else (bif Nat.blt pc 201 then (bif Nat.beq pc 198 then some (.ifCond .ne 15, 3, [213]) else none) else (bif Nat.beq pc 201 then some (.aload_n 3, 1, []) else none)))) else (bif Nat.blt pc 206 then (bif Nat.blt pc 203 then (bif Nat.beq pc 202 then some (.iconst 0, 1, []) else none) else (bif Nat.blt pc 204 then (bif Nat.beq pc 203 then some (.laload, 1, []) else none) else (bif Nat.beq pc 204 then some (.iload 6, 2, []) else none))) else (bif Nat.blt pc 207 then (bif Nat.beq pc 206 then some (.i2l, 1, []) else none) else (bif Nat.blt pc 208 then (bif Nat.beq pc 207 then some (.lcmp, 1, []) else none) else (bif Nat.beq pc 208 then some (.ifCond .eq 5, 3, [213]) else none)))))) else (bif Nat.blt pc 226 then (bif Nat.blt pc 218 then (bif Nat.blt pc 213 then (bif Nat.blt pc 212 then (bif Nat.beq pc 211 then some (.iconst 0, 1, []) else none) else (bif Nat.beq pc 212 then some (.ireturn, 1, [1]) else none)) else (bif Nat.blt pc 216 then (bif Nat.beq pc 213 then some (.goto 1036, 3, [1249]) else none) else (bif Nat.blt pc 217 then (bif Nat.beq pc 216 then some (.aload_n 1, 1, []) else none) else (bif Nat.beq pc 217 then some (.aload_n 0, 1, []) else none)))) else (bif Nat.blt pc 222 then (bif Nat.blt pc 220 then (bif Nat.beq pc 218 then some (.iload 4, 2, []) else none) else (bif Nat.blt pc 221 then (bif Nat.beq pc 220 then some (.iconst 1, 1, []) else none) else (bif Nat.beq pc 221 then some (.iadd, 1, []) else none))) else (bif Nat.blt pc 223 then (bif Nat.beq pc 222 then some (.iaload, 1, [1]) else none) else (bif Nat.blt pc 224 then (bif Nat.beq pc 223 then some (.aload_n 0, 1, []) else none) else (bif Nat.beq pc 224 then some (.iload 4, 2, []) else none))))) else (bif Nat.blt pc 235 then (bif Nat.blt pc 229 then (bif Nat.blt pc 227 then (bif Nat.beq pc 226 then some (.iconst 2, 1, []) else none) else (bif Nat.blt pc 228 then (bif Nat.beq pc 227 then some (.iadd, 1, []) else none) else (bif Nat.beq pc 228 then some (.iaload, 1, [1]) else none))) else (bif Nat.blt pc 230 then (bif Nat.beq pc 229 then some (.aload_n 3, 1, []) else none) else (bif Nat.blt pc 233 then (bif Nat.beq pc 230 then some (.invokestatic 79, 3, [1, 194, 4, 654, 9, 5, 1]) else none) else (bif Nat.beq pc 233 then some (.istore 5, 2, []) else none)))) else (bif Nat.blt pc 239 then (bif Nat.blt pc 236 then (bif Nat.beq pc 235 then some (.aload_n 2, 1, []) else none) else (bif Nat.blt pc 237 then (bif Nat.beq pc 236 then some (.aload_n 0, 1, []) else none) else (bif Nat.beq pc 237 then some (.iload 4, 2, []) else none))) else (bif Nat.blt pc 240 then (bif Nat.beq pc 239 then some (.iconst 1, 1, []) else none) else (bif Nat.blt pc 241 then (bif Nat.beq pc 240 then some (.iadd, 1, []) else none) else (bif Nat.beq pc 241 then some (.iaload, 1, [1]) else none)))))))) else (bif Nat.blt pc 310 then (bif Nat.blt pc 279 then (bif Nat.blt pc 262 then (bif Nat.blt pc 248 then (bif Nat.blt pc 245 then (bif Nat.blt pc 243 then (bif Nat.beq pc 242 then some (.aload_n 0, 1, []) else none) else (bif Nat.beq pc 243 then some (.iload 4, 2, []) else none)) else (bif Nat.blt pc 246 then (bif Nat.beq pc 245 then some (.iconst 2, 1, []) else none) else (bif Nat.blt pc 247 then (bif Nat.beq pc 246 then some (.iadd, 1, []) else none) else (bif Nat.beq pc 247 then some (.iaload, 1, [1]) else none)))) else (bif Nat.blt pc 254 then (bif Nat.blt pc 251 then (bif Nat.beq pc 248 then some (.invokevirtual 81, 3, [0, 115, 2, 914, 4, 3, 1]) else none) else (bif Nat.blt pc 253 then (bif Nat.beq pc 251 then some (.istore 6, 2, []) else none) else (bif Nat.beq pc 253 then some (.aload_n 2, 1, []) else none))) else (bif Nat.blt pc 257 then (bif Nat.beq pc 254 then some (.invokevirtual 76, 3, [0, 102, 0, 891, 4, 1, 1]) else none) else (bif Nat.blt pc 259 then (bif Nat.beq pc 257 then some (.iload 5, 2, []) else none) else (bif Nat.beq pc 259 then some (.if_icmp .eq 5, 3, [264]) else none))))) else (bif Nat.blt pc 270 then (bif Nat.blt pc 264 then (bif Nat.blt pc 263 then (bif Nat.beq pc 262 then some (.iconst 0, 1, []) else none) else (bif Nat.beq pc 263 then some (.ireturn, 1, [1]) else none)) else (bif Nat.blt pc 266 then (bif Nat.beq pc 264 then some (.iload 5, 2, []) else none) else (bif Nat.blt pc 269 then (bif Nat.beq pc 266 then some (.ifCond .ne 15, 3, [281]) else none) else (bif Nat.beq pc 269 then some (.aload_n 3, 1, []) else none)))) else (bif Nat.blt pc 274 then (bif Nat.blt pc 271 then (bif Nat.beq pc 270 then some (.iconst 0, 1, []) else none) else (bif Nat.blt pc 272 then (bif Nat.beq pc 271 then some (.laload, 1, []) else none) else (bif Nat.beq pc 272 then some (.iload 6, 2, []) else none))) else (bif Nat.blt pc 275 then (bif Nat.beq pc 274 then some (.i2l, 1, []) else none) else (bif Nat.blt pc 276 then (bif Nat.beq pc 275 then some (.lcmp, 1, []) else none) else (bif Nat.beq pc 276 then some (.ifCond .eq 5, 3, [281]) else none)))))) else (bif Nat.blt pc 294 then (bif Nat.blt pc 286 then (bif Nat.blt pc 281 then (bif Nat.blt pc 280 then (bif Nat.beq pc 279 then some (.iconst 0, 1, []) else none) else (bif Nat.beq pc 280 then some (.ireturn, 1, [1]) else none)) else (bif Nat.blt pc 284 then (bif Nat.beq pc 281 then some (.goto 968, 3, [1249]) else none) else (bif Nat.blt pc 285 then (bif Nat.beq pc 284 then some (.aload_n 1, 1, []) else none) else (bif Nat.beq pc 285 then some (.aload_n 0, 1, []) else none)))) else (bif Nat.blt pc 290 then (bif Nat.blt pc 288 then (bif Nat.beq pc 286 then some (.iload 4, 2, []) else none) else (bif Nat.blt pc 289 then (bif Nat.beq pc 288 then some (.iconst 1, 1, []) else none) else (bif Nat.beq pc 289 then some (.iadd, 1, []) else none))) else (bif Nat.blt pc 291 then (bif Nat.beq pc 290 then some (.iaload, 1, [1]) else none) else (bif Nat.blt pc 292 then (bif Nat.beq pc 291 then some (.aload_n 0, 1, []) else none) else (bif Nat.beq pc 292 then some (.iload 4, 2, []) else none))))) else (bif Nat.blt pc 303 then (bif Nat.blt pc 297 then (bif Nat.blt pc 295 then (bif Nat.beq pc 294 then some (.iconst 2, 1, []) else none) else (bif Nat.blt pc 296 then (bif Nat.beq pc 295 then some (.iadd, 1, []) else none) else (bif Nat.beq pc 296 then some (.iaload, 1, [1]) else none))) else (bif Nat.blt pc 298 then (bif Nat.beq pc 297 then some (.aload_n 3, 1, []) else none) else (bif Nat.blt pc 301 then (bif Nat.beq pc 298 then some (.invokestatic 82, 3, [1, 195, 4, 687, 9, 5, 1]) else none) else (bif Nat.beq pc 301 then some (.istore 5, 2, []) else none)))) else (bif Nat.blt pc 307 then (bif Nat.blt pc 304 then (bif Nat.beq pc 303 then some (.aload_n 2, 1, []) else none) else (bif Nat.blt pc 305 then (bif Nat.beq pc 304 then some (.aload_n 0, 1, []) else none) else (bif Nat.beq pc 305 then some (.iload 4, 2, []) else none))) else (bif Nat.blt pc 308 then (bif Nat.beq pc 307 then some (.iconst 1, 1, []) else none) else (bif Nat.blt pc 309 then (bif Nat.beq pc 308 then some (.iadd, 1, []) else none) else (bif Nat.beq pc 309 then some (.iaload, 1, [1]) else none))))))) else (bif Nat.blt pc 347 then (bif Nat.blt pc 330 then (bif Nat.blt pc 316 then (bif Nat.blt pc 313 then (bif Nat.blt pc 311 then (bif Nat.beq pc 310 then some (.aload_n 0, 1, []) else none) else (bif Nat.beq pc 311 then some (.iload 4, 2, []) else none)) else (bif Nat.blt pc 314 then (bif Nat.beq pc 313 then some (.iconst 2, 1, []) else none) else (bif Nat.blt pc 315 then (bif Nat.beq pc 314 then some (.iadd, 1, []) else none) else (bif Nat.beq pc 315 then some (.iaload, 1, [1]) else none)))) else (bif Nat.blt pc 322 then (bif Nat.blt pc 319 then (bif Nat.beq pc 316 then some (.invokevirtual 84, 3, [0, 116, 2, 936, 4, 3, 1]) else none) else (bif Nat.blt pc 321 then (bif Nat.beq pc 319 then some (.istore 6, 2, []) else none) else (bif Nat.beq pc 321 then some (.aload_n 2, 1, []) else none))) else (bif Nat.blt pc 325 then (bif Nat.beq pc 322 then some (.invokevirtual 76, 3, [0, 102, 0, 891, 4, 1, 1]) else none) else (bif Nat.blt pc 327 then (bif Nat.beq pc 325 then some (.iload 5, 2, []) else none) else (bif Nat.beq pc 327 then some (.if_icmp .eq 5, 3, [332]) else none))))) else (bif Nat.blt pc 338 then (bif Nat.blt pc 332 then (bif Nat.blt pc 331 then (bif Nat.beq pc 330 then some (.iconst 0, 1, []) else none) else (bif Nat.beq pc 331 then some (.ireturn, 1, [1]) else none)) else (bif Nat.blt pc 334 then (bif Nat.beq pc 332 then some (.iload 5, 2, []) else none) else (bif Nat.blt pc 337 then (bif Nat.beq pc 334 then some (.ifCond .ne 15, 3, [349]) else none) else (bif Nat.beq pc 337 then some (.aload_n 3, 1, []) else none)))) else (bif Nat.blt pc 342 then (bif Nat.blt pc 339 then (bif Nat.beq pc 338 then some (.iconst 0, 1, []) else none) else (bif Nat.blt pc 340 then (bif Nat.beq pc 339 then some (.laload, 1, []) else none) else (bif Nat.beq pc 340 then some (.iload 6, 2, []) else none))) else (bif Nat.blt pc 343 then (bif Nat.beq pc 342 then some (.i2l, 1, []) else none) else (bif Nat.blt pc 344 then (bif Nat.beq pc 343 then some (.lcmp, 1, []) else none) else (bif Nat.beq pc 344 then some (.ifCond .eq 5, 3, [349]) else none)))))) else (bif Nat.blt pc 363 then (bif Nat.blt pc 354 then (bif Nat.blt pc 349 then (bif Nat.blt pc 348 then (bif Nat.beq pc 347 then some (.iconst 0, 1, []) else none) else (bif Nat.beq pc 348 then some (.ireturn, 1, [1]) else none)) else (bif Nat.blt pc 352 then (bif Nat.beq pc 349 then some (.goto 900, 3, [1249]) else none) else (bif Nat.blt pc 353 then (bif Nat.beq pc 352 then some (.aload_n 1, 1, []) else none) else (bif Nat.beq pc 353 then some (.aload_n 0, 1, []) else none)))) else (bif Nat.blt pc 358 then (bif Nat.blt pc 356 then (bif Nat.beq pc 354 then some (.iload 4, 2, []) else none) else (bif Nat.blt pc 357 then (bif Nat.beq pc 356 then some (.iconst 1, 1, []) else none) else (bif Nat.beq pc 357 then some (.iadd, 1, []) else none))) else (bif Nat.blt pc 359 then (bif Nat.beq pc 358 then some (.iaload, 1, [1]) else none) else (bif Nat.blt pc 360 then (bif Nat.beq pc 359 then some (.aload_n 3, 1, []) else none) else (bif Nat.beq pc 360 then some (.invokestatic 85, 3, [1, 196, 3, 694, 9, 4, 1]) else none))))) else (bif Nat.blt pc 371 then (bif Nat.blt pc 367 then (bif Nat.blt pc 365 then (bif Nat.beq pc 363 then some (.istore 5, 2, []) else none) else (bif Nat.blt pc 366 then (bif Nat.beq pc 365 then some (.aload_n 2, 1, []) else none) else (bif Nat.beq pc 366 then some (.aload_n 0, 1, []) else none))) else (bif Nat.blt pc 369 then (bif Nat.beq pc 367 then some (.iload 4, 2, []) else none) else (bif Nat.blt pc 370 then (bif Nat.beq pc 369 then some (.iconst 1, 1, []) else none) else (bif Nat.beq pc 370 then some (.iadd, 1, []) else none)))) else (bif Nat.blt pc 377 then (bif Nat.blt pc 372 then (bif Nat.beq pc 371 then some (.iaload, 1, [1]) else none) else (bif Nat.blt pc 375 then (bif Nat.beq pc 372 then some (.invokevirtual 88, 3, [0, 136, 1, 940, 4, 4, 1]) else none) else (bif Nat.beq pc 375 then some (.istore 6, 2, []) else none))) else (bif Nat.blt pc 378 then (bif Nat.beq pc 377 then some (.aload_n 2, 1, []) else none) else (bif Nat.blt pc 381 then (bif Nat.beq pc 378 then some (.invokevirtual 76, 3, [0, 102, 0, 891, 4, 1, 1]) else none) else (bif Nat.beq pc 381 then some (.iload 5, 2, []) else none))))))))) else (bif Nat.blt pc 539 then (bif Nat.blt pc 457 then (bif Nat.blt pc 421 then (bif Nat.blt pc 400 then (bif Nat.blt pc 393 then (bif Nat.blt pc 387 then (bif Nat.blt pc 386 then (bif Nat.beq pc 383 then some (.if_icmp .eq 5, 3, [388]) else none) else (bif Nat.beq pc 386 then some (.iconst 0, 1, []) else none)) else (bif Nat.blt pc 388 then (bif Nat.beq pc 387 then some (.ireturn, 1, [1]) else none) else (bif Nat.blt pc 390 then (bif Nat.beq pc 388 then some (.iload 5, 2, []) else none) else (bif Nat.beq pc 390 then some (.ifCond .ne 15, 3, [405]) else none)))) else (bif Nat.blt pc 396 then (bif Nat.blt pc 394 then (bif Nat.beq pc 393 then some (.aload_n 3, 1, []) else none) else (bif Nat.blt pc 395 then (bif Nat.beq pc 394 then some (.iconst 0, 1, []) else none) else (bif Nat.beq pc 395 then some (.laload, 1, []) else none))) else (bif Nat.blt pc 398 then (bif Nat.beq pc 396 then some (.iload 6, 2, []) else none) else (bif Nat.blt pc 399 then (bif Nat.beq pc 398 then some (.i2l, 1, []) else none) else (bif Nat.beq pc 399 then some (.lcmp, 1, []) else none))))) else (bif Nat.blt pc 409 then (bif Nat.blt pc 404 then (bif Nat.blt pc 403 then (bif Nat.beq pc 400 then some (.ifCond .eq 5, 3, [405]) else none) else (bif Nat.beq pc 403 then some (.iconst 0, 1, []) else none)) else (bif Nat.blt pc 405 then (bif Nat.beq pc 404 then some (.ireturn, 1, [1]) else none) else (bif Nat.blt pc 408 then (bif Nat.beq pc 405 then some (.goto 844, 3, [1249]) else none) else (bif Nat.beq pc 408 then some (.aload_n 1, 1, []) else none)))) else (bif Nat.blt pc 416 then (bif Nat.blt pc 412 then (bif Nat.beq pc 409 then some (.invokevirtual 89, 3, [0, 69, 0, 254, 3, 2, 1]) else none) else (bif Nat.blt pc 413 then (bif Nat.beq pc 412 then some (.aload_n 2, 1, []) else none) else (bif Nat.beq pc 413 then some (.invokevirtual 92, 3, [0, 137, 0, 1035, 4, 2, 1]) else none))) else (bif Nat.blt pc 419 then (bif Nat.beq pc 416 then some (.if_icmp .eq 833, 3, [1249]) else none) else (bif Nat.blt pc 420 then (bif Nat.beq pc 419 then some (.iconst 0, 1, []) else none) else (bif Nat.beq pc 420 then some (.ireturn, 1, [1]) else none)))))) else (bif Nat.blt pc 439 then (bif Nat.blt pc 432 then (bif Nat.blt pc 425 then (bif Nat.blt pc 422 then (bif Nat.beq pc 421 then some (.aload_n 1, 1, []) else none) else (bif Nat.beq pc 422 then some (.invokevirtual 93, 3, [0, 70, 0, 285, 3, 2, 1]) else none)) else (bif Nat.blt pc 426 then (bif Nat.beq pc 425 then some (.aload_n 2, 1, []) else none) else (bif Nat.blt pc 429 then (bif Nat.beq pc 426 then some (.invokevirtual 96, 3, [0, 139, 0, 1039, 4, 2, 1]) else none) else (bif Nat.beq pc 429 then some (.if_icmp .eq 820, 3, [1249]) else none)))) else (bif Nat.blt pc 435 then (bif Nat.blt pc 433 then (bif Nat.beq pc 432 then some (.iconst 0, 1, []) else none) else (bif Nat.blt pc 434 then (bif Nat.beq pc 433 then some (.ireturn, 1, [1]) else none) else (bif Nat.beq pc 434 then some (.aload_n 1, 1, []) else none))) else (bif Nat.blt pc 436 then (bif Nat.beq pc 435 then some (.aload_n 0, 1, []) else none) else (bif Nat.blt pc 438 then (bif Nat.beq pc 436 then some (.iload 4, 2, []) else none) else (bif Nat.beq pc 438 then some (.iconst 1, 1, []) else none))))) else (bif Nat.blt pc 448 then (bif Nat.blt pc 442 then (bif Nat.blt pc 440 then (bif Nat.beq pc 439 then some (.iadd, 1, []) else none) else (bif Nat.blt pc 441 then (bif Nat.beq pc 440 then some (.iaload, 1, [1]) else none) else (bif Nat.beq pc 441 then some (.aload_n 3, 1, []) else none))) else (bif Nat.blt pc 445 then (bif Nat.beq pc 442 then some (.invokestatic 97, 3, [1, 197, 3, 707, 9, 4, 1]) else none) else (bif Nat.blt pc 447 then (bif Nat.beq pc 445 then some (.istore 5, 2, []) else none) else (bif Nat.beq pc 447 then some (.aload_n 2, 1, []) else none)))) else (bif Nat.blt pc 452 then (bif Nat.blt pc 449 then (bif Nat.beq pc 448 then some (.aload_n 0, 1, []) else none) else (bif Nat.blt pc 451 then (bif Nat.beq pc 449 then some (.iload 4, 2, []) else none) else (bif Nat.beq pc 451 then some (.iconst 1, 1, []) else none))) else (bif Nat.blt pc 453 then (bif Nat.beq pc 452 then some (.iadd, 1, []) else none) else (bif Nat.blt pc 454 then (bif Nat.beq pc 453 then some (.iaload, 1, [1]) else none) else (bif Nat.beq pc 454 then some (.invokevirtual 99, 3, [0, 140, 1, 1047, 4, 2, 1]) else none))))))) else (bif Nat.blt pc 495 then (bif Nat.blt pc 477 then (bif Nat.blt pc 468 then (bif Nat.blt pc 460 then (bif Nat.blt pc 459 then (bif Nat.beq pc 457 then some (.istore 6, 2, []) else none) else (bif Nat.beq pc 459 then some (.aload_n 2, 1, []) else none)) else (bif Nat.blt pc 463 then (bif Nat.beq pc 460 then some (.invokevirtual 76, 3, [0, 102, 0, 891, 4, 1, 1]) else none) else (bif Nat.blt pc 465 then (bif Nat.beq pc 463 then some (.iload 5, 2, []) else none) else (bif Nat.beq pc 465 then some (.if_icmp .eq 5, 3, [470]) else none)))) else (bif Nat.blt pc 472 then (bif Nat.blt pc 469 then (bif Nat.beq pc 468 then some (.iconst 0, 1, []) else none) else (bif Nat.blt pc 470 then (bif Nat.beq pc 469 then some (.ireturn, 1, [1]) else none) else (bif Nat.beq pc 470 then some (.iload 5, 2, []) else none))) else (bif Nat.blt pc 475 then (bif Nat.beq pc 472 then some (.ifCond .ne 15, 3, [487]) else none) else (bif Nat.blt pc 476 then (bif Nat.beq pc 475 then some (.aload_n 3, 1, []) else none) else (bif Nat.beq pc 476 then some (.iconst 0, 1, []) else none))))) else (bif Nat.blt pc 485 then (bif Nat.blt pc 480 then (bif Nat.blt pc 478 then (bif Nat.beq pc 477 then some (.laload, 1, []) else none) else (bif Nat.beq pc 478 then some (.iload 6, 2, []) else none)) else (bif Nat.blt pc 481 then (bif Nat.beq pc 480 then some (.i2l, 1, []) else none) else (bif Nat.blt pc 482 then (bif Nat.beq pc 481 then some (.lcmp, 1, []) else none) else (bif Nat.beq pc 482 then some (.ifCond .eq 5, 3, [487]) else none)))) else (bif Nat.blt pc 490 then (bif Nat.blt pc 486 then (bif Nat.beq pc 485 then some (.iconst 0, 1, []) else none) else (bif Nat.blt pc 487 then (bif Nat.beq pc 486 then some (.ireturn, 1, [1]) else none) else (bif Nat.beq pc 487 then some (.goto 762, 3, [1249]) else none))) else (bif Nat.blt pc 491 then (bif Nat.beq pc 490 then some (.aload_n 1, 1, []) else none) else (bif Nat.blt pc 494 then (bif Nat.beq pc 491 then some (.invokevirtual 100, 3, [0, 72, 0, 293, 3, 2, 1]) else none) else (bif Nat.beq pc 494 then some (.aload_n 2, 1, []) else none)))))) else (bif Nat.blt pc 516 then (bif Nat.blt pc 504 then (bif Nat.blt pc 501 then (bif Nat.blt pc 498 then (bif Nat.beq pc 495 then some (.invokevirtual 103, 3, [0, 141, 0, 1051, 4, 2, 1]) else none) else (bif Nat.beq pc 498 then some (.if_icmp .eq 751, 3, [1249]) else none)) else (bif Nat.blt pc 502 then (bif Nat.beq pc 501 then some (.iconst 0, 1, []) else none) else (bif Nat.blt pc 503 then (bif Nat.beq pc 502 then some (.ireturn, 1, [1]) else none) else (bif Nat.beq pc 503 then some (.aload_n 1, 1, []) else none)))) else (bif Nat.blt pc 511 then (bif Nat.blt pc 507 then (bif Nat.beq pc 504 then some (.invokevirtual 104, 3, [0, 73, 0, 297, 3, 1, 1]) else none) else (bif Nat.blt pc 508 then (bif Nat.beq pc 507 then some (.aload_n 2, 1, []) else none) else (bif Nat.beq pc 508 then some (.invokevirtual 107, 3, [0, 156, 0, 1055, 4, 1, 1]) else none))) else (bif Nat.blt pc 514 then (bif Nat.beq pc 511 then some (.if_icmp .eq 738, 3, [1249]) else none) else (bif Nat.blt pc 515 then (bif Nat.beq pc 514 then some (.iconst 0, 1, []) else none) else (bif Nat.beq pc 515 then some (.ireturn, 1, [1]) else none))))) else (bif Nat.blt pc 527 then (bif Nat.blt pc 521 then (bif Nat.blt pc 517 then (bif Nat.beq pc 516 then some (.aload_n 1, 1, []) else none) else (bif Nat.blt pc 518 then (bif Nat.beq pc 517 then some (.aload_n 3, 1, []) else none) else (bif Nat.beq pc 518 then some (.invokestatic 108, 3, [1, 198, 2, 720, 9, 3, 1]) else none))) else (bif Nat.blt pc 523 then (bif Nat.beq pc 521 then some (.istore 5, 2, []) else none) else (bif Nat.blt pc 524 then (bif Nat.beq pc 523 then some (.aload_n 2, 1, []) else none) else (bif Nat.beq pc 524 then some (.invokevirtual 111, 3, [0, 157, 0, 1113, 4, 2, 1]) else none)))) else (bif Nat.blt pc 533 then (bif Nat.blt pc 529 then (bif Nat.beq pc 527 then some (.istore 6, 2, []) else none) else (bif Nat.blt pc 530 then (bif Nat.beq pc 529 then some (.aload_n 2, 1, []) else none) else (bif Nat.beq pc 530 then some (.invokevirtual 76, 3, [0, 102, 0, 891, 4, 1, 1]) else none))) else (bif Nat.blt pc 535 then (bif Nat.beq pc 533 then some (.iload 5, 2, []) else none) else (bif Nat.blt pc 538 then (bif Nat.beq pc 535 then some (.if_icmp .eq 5, 3, [540]) else none) else (bif Nat.beq pc 538 then some (.iconst 0, 1, []) else none)))))))) else (bif Nat.blt pc 612 then (bif Nat.blt pc 577 then (bif Nat.blt pc 556 then (bif Nat.blt pc 547 then (bif Nat.blt pc 542 then (bif Nat.blt pc 540 then (bif Nat.beq pc 539 then some (.ireturn, 1, [1]) else none) else (bif Nat.beq pc 540 then some (.iload 5, 2, []) else none)) else (bif Nat.blt pc 545 then (bif Nat.beq pc 542 then some (.ifCond .ne 15, 3, [557]) else none) else (bif Nat.blt pc 546 then (bif Nat.beq pc 545 then some (.aload_n 3, 1, []) else none) else (bif Nat.beq pc 546 then some (.iconst 0, 1, []) else none)))) else (bif Nat.blt pc 551 then (bif Nat.blt pc 548 then (bif Nat.beq pc 547 then some (.laload, 1, []) else none) else (bif Nat.blt pc 550 then (bif Nat.beq pc 548 then some (.iload 6, 2, []) else none) else (bif Nat.beq pc 550 then some (.i2l, 1, []) else none))) else (bif Nat.blt pc 552 then (bif Nat.beq pc 551 then some (.lcmp, 1, []) else none) else (bif Nat.blt pc 555 then (bif Nat.beq pc 552 then some (.ifCond .eq 5, 3, [557]) else none) else (bif Nat.beq pc 555 then some (.iconst 0, 1, []) else none))))) else (bif Nat.blt pc 565 then (bif Nat.blt pc 560 then (bif Nat.blt pc 557 then (bif Nat.beq pc 556 then some (.ireturn, 1, [1]) else none) else (bif Nat.beq pc 557 then some (.goto 692, 3, [1249]) else none)) else (bif Nat.blt pc 561 then (bif Nat.beq pc 560 then some (.aload_n 1, 1, []) else none) else (bif Nat.blt pc 562 then (bif Nat.beq pc 561 then some (.aload_n 3, 1, []) else none) else (bif Nat.beq pc 562 then some (.invokestatic 112, 3, [1, 199, 2, 758, 9, 3, 1]) else none)))) else (bif Nat.blt pc 571 then (bif Nat.blt pc 567 then (bif Nat.beq pc 565 then some (.istore 5, 2, []) else none) else (bif Nat.blt pc 568 then (bif Nat.beq pc 567 then some (.aload_n 2, 1, []) else none) else (bif Nat.beq pc 568 then some (.invokevirtual 114, 3, [0, 158, 0, 1117, 4, 2, 1]) else none))) else (bif Nat.blt pc 573 then (bif Nat.beq pc 571 then some (.istore 6, 2, []) else none) else (bif Nat.blt pc 574 then (bif Nat.beq pc 573 then some (.aload_n 2, 1, []) else none) else (bif Nat.beq pc 574 then some (.invokevirtual 76, 3, [0, 102, 0, 891, 4, 1, 1]) else none)))))) else (bif Nat.blt pc 595 then (bif Nat.blt pc 586 then (bif Nat.blt pc 582 then (bif Nat.blt pc 579 then (bif Nat.beq pc 577 then some (.iload 5, 2, []) else none) else (bif Nat.beq pc 579 then some (.if_icmp .eq 5, 3, [584]) else none)) else (bif Nat.blt pc 583 then (bif Nat.beq pc 582 then some (.iconst 0, 1, []) else none) else (bif Nat.blt pc 584 then (bif Nat.beq pc 583 then some (.ireturn, 1, [1]) else none) else (bif Nat.beq pc 584 then some (.iload 5, 2, []) else none)))) else (bif Nat.blt pc 591 then (bif Nat.blt pc 589 then (bif Nat.beq pc 586 then some (.ifCond .ne 15, 3, [601]) else none) else (bif Nat.blt pc 590 then (bif Nat.beq pc 589 then some (.aload_n 3, 1, []) else none) else (bif Nat.beq pc 590 then some (.iconst 0, 1, []) else none))) else (bif Nat.blt pc 592 then (bif Nat.beq pc 591 then some (.laload, 1, []) else none) else (bif Nat.blt pc 594 then (bif Nat.beq pc 592 then some (.iload 6, 2, []) else none) else (bif Nat.beq pc 594 then some (.i2l, 1, []) else none))))) else (bif Nat.blt pc 605 then (bif Nat.blt pc 600 then (bif Nat.blt pc 596 then (bif Nat.beq pc 595 then some (.lcmp, 1, []) else none) else (bif Nat.blt pc 599 then (bif Nat.beq pc 596 then some (.ifCond .eq 5, 3, [601]) else none) else (bif Nat.beq pc 599 then some (.iconst 0, 1, []) else none))) else (bif Nat.blt pc 601 then (bif Nat.beq pc 600 then some (.ireturn, 1, [1]) else none) else (bif Nat.blt pc 604 then (bif Nat.beq pc 601 then some (.goto 648, 3, [1249]) else none) else (bif Nat.beq pc 604 then some (.aload_n 1, 1, []) else none)))) else (bif Nat.blt pc 609 then (bif Nat.blt pc 606 then (bif Nat.beq pc 605 then some (.aload_n 0, 1, []) else none) else (bif Nat.blt pc 608 then (bif Nat.beq pc 606 then some (.iload 4, 2, []) else none) else (bif Nat.beq pc 608 then some (.iconst 1, 1, []) else none))) else (bif Nat.blt pc 610 then (bif Nat.beq pc 609 then some (.iadd, 1, []) else none) else (bif Nat.blt pc 611 then (bif Nat.beq pc 610 then some (.iaload, 1, [1]) else none) else (bif Nat.beq pc 611 then some (.aload_n 0, 1, []) else none))))))) else (bif Nat.blt pc 645 then (bif Nat.blt pc 628 then (bif Nat.blt pc 618 then (bif Nat.blt pc 615 then (bif Nat.blt pc 614 then (bif Nat.beq pc 612 then some (.iload 4, 2, []) else none) else (bif Nat.beq pc 614 then some (.iconst 2, 1, []) else none)) else (bif Nat.blt pc 616 then (bif Nat.beq pc 615 then some (.iadd, 1, []) else none) else (bif Nat.blt pc 617 then (bif Nat.beq pc 616 then some (.iaload, 1, [1]) else none) else (bif Nat.beq pc 617 then some (.aload_n 3, 1, []) else none)))) else (bif Nat.blt pc 624 then (bif Nat.blt pc 621 then (bif Nat.beq pc 618 then some (.invokestatic 115, 3, [1, 200, 4, 766, 9, 5, 1]) else none) else (bif Nat.blt pc 623 then (bif Nat.beq pc 621 then some (.istore 5, 2, []) else none) else (bif Nat.beq pc 623 then some (.aload_n 2, 1, []) else none))) else (bif Nat.blt pc 625 then (bif Nat.beq pc 624 then some (.aload_n 0, 1, []) else none) else (bif Nat.blt pc 627 then (bif Nat.beq pc 625 then some (.iload 4, 2, []) else none) else (bif Nat.beq pc 627 then some (.iconst 1, 1, []) else none))))) else (bif Nat.blt pc 634 then (bif Nat.blt pc 630 then (bif Nat.blt pc 629 then (bif Nat.beq pc 628 then some (.iadd, 1, []) else none) else (bif Nat.beq pc 629 then some (.iaload, 1, [1]) else none)) else (bif Nat.blt pc 631 then (bif Nat.beq pc 630 then some (.aload_n 0, 1, []) else none) else (bif Nat.blt pc 633 then (bif Nat.beq pc 631 then some (.iload 4, 2, []) else none) else (bif Nat.beq pc 633 then some (.iconst 2, 1, []) else none)))) else (bif Nat.blt pc 639 then (bif Nat.blt pc 635 then (bif Nat.beq pc 634 then some (.iadd, 1, []) else none) else (bif Nat.blt pc 636 then (bif Nat.beq pc 635 then some (.iaload, 1, [1]) else none) else (bif Nat.beq pc 636 then some (.invokevirtual 117, 3, [0, 160, 2, 1121, 4, 3, 1]) else none))) else (bif Nat.blt pc 641 then (bif Nat.beq pc 639 then some (.istore 6, 2, []) else none) else (bif Nat.blt pc 642 then (bif Nat.beq pc 641 then some (.aload_n 2, 1, []) else none) else (bif Nat.beq pc 642 then some (.invokevirtual 76, 3, [0, 102, 0, 891, 4, 1, 1]) else none)))))) else (bif Nat.blt pc 663 then (bif Nat.blt pc 654 then (bif Nat.blt pc 650 then (bif Nat.blt pc 647 then (bif Nat.beq pc 645 then some (.iload 5, 2, []) else none) else (bif Nat.beq pc 647 then some (.if_icmp .eq 5, 3, [652]) else none)) else (bif Nat.blt pc 651 then (bif Nat.beq pc 650 then some (.iconst 0, 1, []) else none) else (bif Nat.blt pc 652 then (bif Nat.beq pc 651 then some (.ireturn, 1, [1]) else none) else (bif Nat.beq pc 652 then some (.iload 5, 2, []) else none)))) else (bif Nat.blt pc 659 then (bif Nat.blt pc 657 then (bif Nat.beq pc 654 then some (.ifCond .ne 15, 3, [669]) else none) else (bif Nat.blt pc 658 then (bif Nat.beq pc 657 then some (.aload_n 3, 1, []) else none) else (bif Nat.beq pc 658 then some (.iconst 0, 1, []) else none))) else (bif Nat.blt pc 660 then (bif Nat.beq pc 659 then some (.laload, 1, []) else none) else (bif Nat.blt pc 662 then (bif Nat.beq pc 660 then some (.iload 6, 2, []) else none) else (bif Nat.beq pc 662 then some (.i2l, 1, []) else none))))) else (bif Nat.blt pc 673 then (bif Nat.blt pc 668 then (bif Nat.blt pc 664 then (bif Nat.beq pc 663 then some (.lcmp, 1, []) else none) else (bif Nat.blt pc 667 then (bif Nat.beq pc 664 then some (.ifCond .eq 5, 3, [669]) else none) else (bif Nat.beq pc 667 then some (.iconst 0, 1, []) else none))) else (bif Nat.blt pc 669 then (bif Nat.beq pc 668 then some (.ireturn, 1, [1]) else none) else (bif Nat.blt pc 672 then (bif Nat.beq pc 669 then some (.goto 580, 3, [1249]) else none) else (bif Nat.beq pc 672 then some (.aload_n 1, 1, []) else none)))) else (bif Nat.blt pc 677 then (bif Nat.blt pc 674 then (bif Nat.beq pc 673 then some (.aload_n 0, 1, []) else none) else (bif Nat.blt pc 676 then (bif Nat.beq pc 674 then some (.iload 4, 2, []) else none) else (bif Nat.beq pc 676 then some (.iconst 1, 1, []) else none))) else (bif Nat.blt pc 678 then (bif Nat.beq pc 677 then some (.iadd, 1, []) else none) else (bif Nat.blt pc 679 then (bif Nat.beq pc 678 then some (.iaload, 1, [1]) else none) else (bif Nat.beq pc 679 then some (.aload_n 0, 1, []) else none)))))))))) else (bif Nat.blt pc 957 then (bif Nat.blt pc 819 then (bif Nat.blt pc 748 then (bif Nat.blt pc 713 then (bif Nat.blt pc 696 then (bif Nat.blt pc 686 then (bif Nat.blt pc 683 then (bif Nat.blt pc 682 then (bif Nat.beq pc 680 then some (.iload 4, 2, []) else none) else (bif Nat.beq pc 682 then some (.iconst 2, 1, []) else none)) else (bif Nat.blt pc 684 then (bif Nat.beq pc 683 then some (.iadd, 1, []) else none) else (bif Nat.blt pc 685 then (bif Nat.beq pc 684 then some (.iaload, 1, [1]) else none) else (bif Nat.beq pc 685 then some (.aload_n 3, 1, []) else none)))) else (bif Nat.blt pc 692 then (bif Nat.blt pc 689 then (bif Nat.beq pc 686 then some (.invokestatic 118, 3, [1, 201, 4, 773, 9, 5, 1]) else none) else (bif Nat.blt pc 691 then (bif Nat.beq pc 689 then some (.istore 5, 2, []) else none) else (bif Nat.beq pc 691 then some (.aload_n 2, 1, []) else none))) else (bif Nat.blt pc 693 then (bif Nat.beq pc 692 then some (.aload_n 0, 1, []) else none) else (bif Nat.blt pc 695 then (bif Nat.beq pc 693 then some (.iload 4, 2, []) else none) else (bif Nat.beq pc 695 then some (.iconst 1, 1, []) else none))))) else (bif Nat.blt pc 702 then (bif Nat.blt pc 698 then (bif Nat.blt pc 697 then (bif Nat.beq pc 696 then some (.iadd, 1, []) else none) else (bif Nat.beq pc 697 then some (.iaload, 1, [1]) else none)) else (bif Nat.blt pc 699 then (bif Nat.beq pc 698 then some (.aload_n 0, 1, []) else none) else (bif Nat.blt pc 701 then (bif Nat.beq pc 699 then some (.iload 4, 2, []) else none) else (bif Nat.beq pc 701 then some (.iconst 2, 1, []) else none)))) else (bif Nat.blt pc 707 then (bif Nat.blt pc 703 then (bif Nat.beq pc 702 then some (.iadd, 1, []) else none) else (bif Nat.blt pc 704 then (bif Nat.beq pc 703 then some (.iaload, 1, [1]) else none) else (bif Nat.beq pc 704 then some (.invokevirtual 120, 3, [0, 163, 2, 1129, 4, 3, 1]) else none))) else (bif Nat.blt pc 709 then (bif Nat.beq pc 707 then some (.istore 6, 2, []) else none) else (bif Nat.blt pc 710 then (bif Nat.beq pc 709 then some (.aload_n 2, 1, []) else none) else (bif Nat.beq pc 710 then some (.invokevirtual 76, 3, [0, 102, 0, 891, 4, 1, 1]) else none)))))) else (bif Nat.blt pc 731 then (bif Nat.blt pc 722 then (bif Nat.blt pc 718 then (bif Nat.blt pc 715 then (bif Nat.beq pc 713 then some (.iload 5, 2, []) else none) else (bif Nat.beq pc 715 then some (.if_icmp .eq 5, 3, [720]) else none)) else (bif Nat.blt pc 719 then (bif Nat.beq pc 718 then some (.iconst 0, 1, []) else none) else (bif Nat.blt pc 720 then (bif Nat.beq pc 719 then some (.ireturn, 1, [1]) else none) else (bif Nat.beq pc 720 then some (.iload 5, 2, []) else none)))) else (bif Nat.blt pc 727 then (bif Nat.blt pc 725 then (bif Nat.beq pc 722 then some (.ifCond .ne 15, 3, [737]) else none) else (bif Nat.blt pc 726 then (bif Nat.beq pc 725 then some (.aload_n 3, 1, []) else none) else (bif Nat.beq pc 726 then some (.iconst 0, 1, []) else none))) else (bif Nat.blt pc 728 then (bif Nat.beq pc 727 then some (.laload, 1, []) else none) else (bif Nat.blt pc 730 then (bif Nat.beq pc 728 then some (.iload 6, 2, []) else none) else (bif Nat.beq pc 730 then some (.i2l, 1, []) else none))))) else (bif Nat.blt pc 741 then (bif Nat.blt pc 736 then (bif Nat.blt pc 732 then (bif Nat.beq pc 731 then some (.lcmp, 1, []) else none) else (bif Nat.blt pc 735 then (bif Nat.beq pc 732 then some (.ifCond .eq 5, 3, [737]) else none) else (bif Nat.beq pc 735 then some (.iconst 0, 1, []) else none))) else (bif Nat.blt pc 737 then (bif Nat.beq pc 736 then some (.ireturn, 1, [1]) else none) else (bif Nat.blt pc 740 then (bif Nat.beq pc 737 then some (.goto 512, 3, [1249]) else none) else (bif Nat.beq pc 740 then some (.aload_n 1, 1, []) else none)))) else (bif Nat.blt pc 745 then (bif Nat.blt pc 742 then (bif Nat.beq pc 741 then some (.aload_n 0, 1, []) else none) else (bif Nat.blt pc 744 then (bif Nat.beq pc 742 then some (.iload 4, 2, []) else none) else (bif Nat.beq pc 744 then some (.iconst 1, 1, []) else none))) else (bif Nat.blt pc 746 then (bif Nat.beq pc 745 then some (.iadd, 1, []) else none) else (bif Nat.blt pc 747 then (bif Nat.beq pc 746 then some (.iaload, 1, [1]) else none) else (bif Nat.beq pc 747 then some (.aload_n 3, 1, []) else none))))))) else (bif Nat.blt pc 786 then (bif Nat.blt pc 766 then (bif Nat.blt pc 757 then (bif Nat.blt pc 753 then (bif Nat.blt pc 751 then (bif Nat.beq pc 748 then some (.invokestatic 121, 3, [1, 202, 3, 780, 9, 4, 1]) else none) else (bif Nat.beq pc 751 then some (.istore 5, 2, []) else none)) else (bif Nat.blt pc 754 then (bif Nat.beq pc 753 then some (.aload_n 2, 1, []) else none) else (bif Nat.blt pc 755 then (bif Nat.beq pc 754 then some (.aload_n 0, 1, []) else none) else (bif Nat.beq pc 755 then some (.iload 4, 2, []) else none)))) else (bif Nat.blt pc 760 then (bif Nat.blt pc 758 then (bif Nat.beq pc 757 then some (.iconst 1, 1, []) else none) else (bif Nat.blt pc 759 then (bif Nat.beq pc 758 then some (.iadd, 1, []) else none) else (bif Nat.beq pc 759 then some (.iaload, 1, [1]) else none))) else (bif Nat.blt pc 763 then (bif Nat.beq pc 760 then some (.invokevirtual 123, 3, [0, 164, 1, 1141, 4, 2, 1]) else none) else (bif Nat.blt pc 765 then (bif Nat.beq pc 763 then some (.istore 6, 2, []) else none) else (bif Nat.beq pc 765 then some (.aload_n 2, 1, []) else none))))) else (bif Nat.blt pc 776 then (bif Nat.blt pc 771 then (bif Nat.blt pc 769 then (bif Nat.beq pc 766 then some (.invokevirtual 76, 3, [0, 102, 0, 891, 4, 1, 1]) else none) else (bif Nat.beq pc 769 then some (.iload 5, 2, []) else none)) else (bif Nat.blt pc 774 then (bif Nat.beq pc 771 then some (.if_icmp .eq 5, 3, [776]) else none) else (bif Nat.blt pc 775 then (bif Nat.beq pc 774 then some (.iconst 0, 1, []) else none) else (bif Nat.beq pc 775 then some (.ireturn, 1, [1]) else none)))) else (bif Nat.blt pc 782 then (bif Nat.blt pc 778 then (bif Nat.beq pc 776 then some (.iload 5, 2, []) else none) else (bif Nat.blt pc 781 then (bif Nat.beq pc 778 then some (.ifCond .ne 15, 3, [793]) else none) else (bif Nat.beq pc 781 then some (.aload_n 3, 1, []) else none))) else (bif Nat.blt pc 783 then (bif Nat.beq pc 782 then some (.iconst 0, 1, []) else none) else (bif Nat.blt pc 784 then (bif Nat.beq pc 783 then some (.laload, 1, []) else none) else (bif Nat.beq pc 784 then some (.iload 6, 2, []) else none)))))) else (bif Nat.blt pc 802 then (bif Nat.blt pc 793 then (bif Nat.blt pc 788 then (bif Nat.blt pc 787 then (bif Nat.beq pc 786 then some (.i2l, 1, []) else none) else (bif Nat.beq pc 787 then some (.lcmp, 1, []) else none)) else (bif Nat.blt pc 791 then (bif Nat.beq pc 788 then some (.ifCond .eq 5, 3, [793]) else none) else (bif Nat.blt pc 792 then (bif Nat.beq pc 791 then some (.iconst 0, 1, []) else none) else (bif Nat.beq pc 792 then some (.ireturn, 1, [1]) else none)))) else (bif Nat.blt pc 798 then (bif Nat.blt pc 796 then (bif Nat.beq pc 793 then some (.goto 456, 3, [1249]) else none) else (bif Nat.blt pc 797 then (bif Nat.beq pc 796 then some (.aload_n 1, 1, []) else none) else (bif Nat.beq pc 797 then some (.aload_n 0, 1, []) else none))) else (bif Nat.blt pc 800 then (bif Nat.beq pc 798 then some (.iload 4, 2, []) else none) else (bif Nat.blt pc 801 then (bif Nat.beq pc 800 then some (.iconst 1, 1, []) else none) else (bif Nat.beq pc 801 then some (.iadd, 1, []) else none))))) else (bif Nat.blt pc 809 then (bif Nat.blt pc 806 then (bif Nat.blt pc 803 then (bif Nat.beq pc 802 then some (.iaload, 1, [1]) else none) else (bif Nat.blt pc 804 then (bif Nat.beq pc 803 then some (.aload_n 0, 1, []) else none) else (bif Nat.beq pc 804 then some (.iload 4, 2, []) else none))) else (bif Nat.blt pc 807 then (bif Nat.beq pc 806 then some (.iconst 2, 1, []) else none) else (bif Nat.blt pc 808 then (bif Nat.beq pc 807 then some (.iadd, 1, []) else none) else (bif Nat.beq pc 808 then some (.iaload, 1, [1]) else none)))) else (bif Nat.blt pc 815 then (bif Nat.blt pc 810 then (bif Nat.beq pc 809 then some (.aload_n 3, 1, []) else none) else (bif Nat.blt pc 813 then (bif Nat.beq pc 810 then some (.invokestatic 124, 3, [1, 203, 4, 788, 9, 5, 1]) else none) else (bif Nat.beq pc 813 then some (.istore 5, 2, []) else none))) else (bif Nat.blt pc 816 then (bif Nat.beq pc 815 then some (.aload_n 2, 1, []) else none) else (bif Nat.blt pc 817 then (bif Nat.beq pc 816 then some (.aload_n 0, 1, []) else none) else (bif Nat.beq pc 817 then some (.iload 4, 2, []) else none)))))))) else (bif Nat.blt pc 887 then (bif Nat.blt pc 854 then (bif Nat.blt pc 834 then (bif Nat.blt pc 825 then (bif Nat.blt pc 821 then (bif Nat.blt pc 820 then (bif Nat.beq pc 819 then some (.iconst 1, 1, []) else none) else (bif Nat.beq pc 820 then some (.iadd, 1, []) else none)) else (bif Nat.blt pc 822 then (bif Nat.beq pc 821 then some (.iaload, 1, [1]) else none) else (bif Nat.blt pc 823 then (bif Nat.beq pc 822 then some (.aload_n 0, 1, []) else none) else (bif Nat.beq pc 823 then some (.iload 4, 2, []) else none)))) else (bif Nat.blt pc 828 then (bif Nat.blt pc 826 then (bif Nat.beq pc 825 then some (.iconst 2, 1, []) else none) else (bif Nat.blt pc 827 then (bif Nat.beq pc 826 then some (.iadd, 1, []) else none) else (bif Nat.beq pc 827 then some (.iaload, 1, [1]) else none))) else (bif Nat.blt pc 831 then (bif Nat.beq pc 828 then some (.invokevirtual 126, 3, [0, 167, 2, 1145, 4, 3, 1]) else none) else (bif Nat.blt pc 833 then (bif Nat.beq pc 831 then some (.istore 6, 2, []) else none) else (bif Nat.beq pc 833 then some (.aload_n 2, 1, []) else none))))) else (bif Nat.blt pc 844 then (bif Nat.blt pc 839 then (bif Nat.blt pc 837 then (bif Nat.beq pc 834 then some (.invokevirtual 76, 3, [0, 102, 0, 891, 4, 1, 1]) else none) else (bif Nat.beq pc 837 then some (.iload 5, 2, []) else none)) else (bif Nat.blt pc 842 then (bif Nat.beq pc 839 then some (.if_icmp .eq 5, 3, [844]) else none) else (bif Nat.blt pc 843 then (bif Nat.beq pc 842 then some (.iconst 0, 1, []) else none) else (bif Nat.beq pc 843 then some (.ireturn, 1, [1]) else none)))) else (bif Nat.blt pc 850 then (bif Nat.blt pc 846 then (bif Nat.beq pc 844 then some (.iload 5, 2, []) else none) else (bif Nat.blt pc 849 then (bif Nat.beq pc 846 then some (.ifCond .ne 15, 3, [861]) else none) else (bif Nat.beq pc 849 then some (.aload_n 3, 1, []) else none))) else (bif Nat.blt pc 851 then (bif Nat.beq pc 850 then some (.iconst 0, 1, []) else none) else (bif Nat.blt pc 852 then (bif Nat.beq pc 851 then some (.laload, 1, []) else none) else (bif Nat.beq pc 852 then some (.iload 6, 2, []) else none)))))) else (bif Nat.blt pc 870 then (bif Nat.blt pc 861 then (bif Nat.blt pc 856 then (bif Nat.blt pc 855 then (bif Nat.beq pc 854 then some (.i2l, 1, []) else none) else (bif Nat.beq pc 855 then some (.lcmp, 1, []) else none)) else (bif Nat.blt pc 859 then (bif Nat.beq pc 856 then some (.ifCond .eq 5, 3, [861]) else none) else (bif Nat.blt pc 860 then (bif Nat.beq pc 859 then some (.iconst 0, 1, []) else none) else (bif Nat.beq pc 860 then some (.ireturn, 1, [1]) else none)))) else (bif Nat.blt pc 866 then (bif Nat.blt pc 864 then (bif Nat.beq pc 861 then some (.goto 388, 3, [1249]) else none) else (bif Nat.blt pc 865 then (bif Nat.beq pc 864 then some (.aload_n 1, 1, []) else none) else (bif Nat.beq pc 865 then some (.aload_n 0, 1, []) else none))) else (bif Nat.blt pc 868 then (bif Nat.beq pc 866 then some (.iload 4, 2, []) else none) else (bif Nat.blt pc 869 then (bif Nat.beq pc 868 then some (.iconst 1, 1, []) else none) else (bif Nat.beq pc 869 then some (.iadd, 1, []) else none))))) else (bif Nat.blt pc 877 then (bif Nat.blt pc 874 then (bif Nat.blt pc 871 then (bif Nat.beq pc 870 then some (.iaload, 1, [1]) else none) else (bif Nat.blt pc 872 then (bif Nat.beq pc 871 then some (.aload_n 0, 1, []) else none) else (bif Nat.beq pc 872 then some (.iload 4, 2, []) else none))) else (bif Nat.blt pc 875 then (bif Nat.beq pc 874 then some (.iconst 2, 1, []) else none) else (bif Nat.blt pc 876 then (bif Nat.beq pc 875 then some (.iadd, 1, []) else none) else (bif Nat.beq pc 876 then some (.iaload, 1, [1]) else none)))) else (bif Nat.blt pc 883 then (bif Nat.blt pc 878 then (bif Nat.beq pc 877 then some (.aload_n 3, 1, []) else none) else (bif Nat.blt pc 881 then (bif Nat.beq pc 878 then some (.invokestatic 127, 3, [1, 204, 4, 795, 9, 5, 1]) else none) else (bif Nat.beq pc 881 then some (.istore 5, 2, []) else none))) else (bif Nat.blt pc 884 then (bif Nat.beq pc 883 then some (.aload_n 2, 1, []) else none) else (bif Nat.blt pc 885 then (bif Nat.beq pc 884 then some (.aload_n 0, 1, []) else none) else (bif Nat.beq pc 885 then some (.iload 4, 2, []) else none))))))) else (bif Nat.blt pc 922 then (bif Nat.blt pc 902 then (bif Nat.blt pc 893 then (bif Nat.blt pc 889 then (bif Nat.blt pc 888 then (bif Nat.beq pc 887 then some (.iconst 1, 1, []) else none) else (bif Nat.beq pc 888 then some (.iadd, 1, []) else none)) else (bif Nat.blt pc 890 then (bif Nat.beq pc 889 then some (.iaload, 1, [1]) else none) else (bif Nat.blt pc 891 then (bif Nat.beq pc 890 then some (.aload_n 0, 1, []) else none) else (bif Nat.beq pc 891 then some (.iload 4, 2, []) else none)))) else (bif Nat.blt pc 896 then (bif Nat.blt pc 894 then (bif Nat.beq pc 893 then some (.iconst 2, 1, []) else none) else (bif Nat.blt pc 895 then (bif Nat.beq pc 894 then some (.iadd, 1, []) else none) else (bif Nat.beq pc 895 then some (.iaload, 1, [1]) else none))) else (bif Nat.blt pc 899 then (bif Nat.beq pc 896 then some (.invokevirtual 129, 3, [0, 169, 2, 1157, 4, 3, 1]) else none) else (bif Nat.blt pc 901 then (bif Nat.beq pc 899 then some (.istore 6, 2, []) else none) else (bif Nat.beq pc 901 then some (.aload_n 2, 1, []) else none))))) else (bif Nat.blt pc 912 then (bif Nat.blt pc 907 then (bif Nat.blt pc 905 then (bif Nat.beq pc 902 then some (.invokevirtual 76, 3, [0, 102, 0, 891, 4, 1, 1]) else none) else (bif Nat.beq pc 905 then some (.iload 5, 2, []) else none)) else (bif Nat.blt pc 910 then (bif Nat.beq pc 907 then some (.if_icmp .eq 5, 3, [912]) else none) else (bif Nat.blt pc 911 then (bif Nat.beq pc 910 then some (.iconst 0, 1, []) else none) else (bif Nat.beq pc 911 then some (.ireturn, 1, [1]) else none)))) else (bif Nat.blt pc 918 then (bif Nat.blt pc 914 then (bif Nat.beq pc 912 then some (.iload 5, 2, []) else none) else (bif Nat.blt pc 917 then (bif Nat.beq pc 914 then some (.ifCond .ne 15, 3, [929]) else none) else (bif Nat.beq pc 917 then some (.aload_n 3, 1, []) else none))) else (bif Nat.blt pc 919 then (bif Nat.beq pc 918 then some (.iconst 0, 1, []) else none) else (bif Nat.blt pc 920 then (bif Nat.beq pc 919 then some (.laload, 1, []) else none) else (bif Nat.beq pc 920 then some (.iload 6, 2, []) else none)))))) else (bif Nat.blt pc 938 then (bif Nat.blt pc 929 then (bif Nat.blt pc 924 then (bif Nat.blt pc 923 then (bif Nat.beq pc 922 then some (.i2l, 1, []) else none) else (bif Nat.beq pc 923 then some (.lcmp, 1, []) else none)) else (bif Nat.blt pc 927 then (bif Nat.beq pc 924 then some (.ifCond .eq 5, 3, [929]) else none) else (bif Nat.blt pc 928 then (bif Nat.beq pc 927 then some (.iconst 0, 1, []) else none) else (bif Nat.beq pc 928 then some (.ireturn, 1, [1]) else none)))) else (bif Nat.blt pc 934 then (bif Nat.blt pc 932 then (bif Nat.beq pc 929 then some (.goto 320, 3, [1249]) else none) else (bif Nat.blt pc 933 then (bif Nat.beq pc 932 then some (.aload_n 1, 1, []) else none) else (bif Nat.beq pc 933 then some (.aload_n 0, 1, []) else none))) else (bif Nat.blt pc 936 then (bif Nat.beq pc 934 then some (.iload 4, 2, []) else none) else (bif Nat.blt pc 937 then (bif Nat.beq pc 936 then some (.iconst 1, 1, []) else none) else (bif Nat.beq pc 937 then some (.iadd, 1, []) else none))))) else (bif Nat.blt pc 947 then (bif Nat.blt pc 943 then (bif Nat.blt pc 939 then (bif Nat.beq pc 938 then some (.iaload, 1, [1]) else none) else (bif Nat.blt pc 940 then (bif Nat.beq pc 939 then some (.aload_n 3, 1, []) else none) else (bif Nat.beq pc 940 then some (.invokestatic 130, 3, [1, 205, 3, 802, 9, 4, 1]) else none))) else (bif Nat.blt pc 945 then (bif Nat.beq pc 943 then some (.istore 5, 2, []) else none) else (bif Nat.blt pc 946 then (bif Nat.beq pc 945 then some (.aload_n 2, 1, []) else none) else (bif Nat.beq pc 946 then some (.aload_n 0, 1, []) else none)))) else (bif Nat.blt pc 951 then (bif Nat.blt pc 949 then (bif Nat.beq pc 947 then some (.iload 4, 2, []) else none) else (bif Nat.blt pc 950 then (bif Nat.beq pc 949 then some (.iconst 1, 1, []) else none) else (bif Nat.beq pc 950 then some (.iadd, 1, []) else none))) else (bif Nat.blt pc 952 then (bif Nat.beq pc 951 then some (.iaload, 1, [1]) else none) else (bif Nat.blt pc 955 then (bif Nat.beq pc 952 then some (.invokevirtual 132, 3, [0, 172, 1, 1165, 4, 2, 1]) else none) else (bif Nat.beq pc 955 then some (.istore 6, 2, []) else none))))))))) else (bif Nat.blt pc 1099 then (bif Nat.blt pc 1031 then (bif Nat.blt pc 993 then (bif Nat.blt pc 976 then (bif Nat.blt pc 967 then (bif Nat.blt pc 961 then (bif Nat.blt pc 958 then (bif Nat.beq pc 957 then some (.aload_n 2, 1, []) else none) else (bif Nat.beq pc 958 then some (.invokevirtual 76, 3, [0, 102, 0, 891, 4, 1, 1]) else none)) else (bif Nat.blt pc 963 then (bif Nat.beq pc 961 then some (.iload 5, 2, []) else none) else (bif Nat.blt pc 966 then (bif Nat.beq pc 963 then some (.if_icmp .eq 5, 3, [968]) else none) else (bif Nat.beq pc 966 then some (.iconst 0, 1, []) else none)))) else (bif Nat.blt pc 973 then (bif Nat.blt pc 968 then (bif Nat.beq pc 967 then some (.ireturn, 1, [1]) else none) else (bif Nat.blt pc 970 then (bif Nat.beq pc 968 then some (.iload 5, 2, []) else none) else (bif Nat.beq pc 970 then some (.ifCond .ne 15, 3, [985]) else none))) else (bif Nat.blt pc 974 then (bif Nat.beq pc 973 then some (.aload_n 3, 1, []) else none) else (bif Nat.blt pc 975 then (bif Nat.beq pc 974 then some (.iconst 0, 1, []) else none) else (bif Nat.beq pc 975 then some (.laload, 1, []) else none))))) else (bif Nat.blt pc 984 then (bif Nat.blt pc 979 then (bif Nat.blt pc 978 then (bif Nat.beq pc 976 then some (.iload 6, 2, []) else none) else (bif Nat.beq pc 978 then some (.i2l, 1, []) else none)) else (bif Nat.blt pc 980 then (bif Nat.beq pc 979 then some (.lcmp, 1, []) else none) else (bif Nat.blt pc 983 then (bif Nat.beq pc 980 then some (.ifCond .eq 5, 3, [985]) else none) else (bif Nat.beq pc 983 then some (.iconst 0, 1, []) else none)))) else (bif Nat.blt pc 989 then (bif Nat.blt pc 985 then (bif Nat.beq pc 984 then some (.ireturn, 1, [1]) else none) else (bif Nat.blt pc 988 then (bif Nat.beq pc 985 then some (.goto 264, 3, [1249]) else none) else (bif Nat.beq pc 988 then some (.aload_n 1, 1, []) else none))) else (bif Nat.blt pc 990 then (bif Nat.beq pc 989 then some (.aload_n 0, 1, []) else none) else (bif Nat.blt pc 992 then (bif Nat.beq pc 990 then some (.iload 4, 2, []) else none) else (bif Nat.beq pc 992 then some (.iconst 1, 1, []) else none)))))) else (bif Nat.blt pc 1008 then (bif Nat.blt pc 1001 then (bif Nat.blt pc 995 then (bif Nat.blt pc 994 then (bif Nat.beq pc 993 then some (.iadd, 1, []) else none) else (bif Nat.beq pc 994 then some (.iaload, 1, [1]) else none)) else (bif Nat.blt pc 996 then (bif Nat.beq pc 995 then some (.aload_n 3, 1, []) else none) else (bif Nat.blt pc 999 then (bif Nat.beq pc 996 then some (.invokestatic 133, 3, [1, 206, 3, 806, 9, 4, 1]) else none) else (bif Nat.beq pc 999 then some (.istore 5, 2, []) else none)))) else (bif Nat.blt pc 1005 then (bif Nat.blt pc 1002 then (bif Nat.beq pc 1001 then some (.aload_n 2, 1, []) else none) else (bif Nat.blt pc 1003 then (bif Nat.beq pc 1002 then some (.aload_n 0, 1, []) else none) else (bif Nat.beq pc 1003 then some (.iload 4, 2, []) else none))) else (bif Nat.blt pc 1006 then (bif Nat.beq pc 1005 then some (.iconst 1, 1, []) else none) else (bif Nat.blt pc 1007 then (bif Nat.beq pc 1006 then some (.iadd, 1, []) else none) else (bif Nat.beq pc 1007 then some (.iaload, 1, [1]) else none))))) else (bif Nat.blt pc 1022 then (bif Nat.blt pc 1014 then (bif Nat.blt pc 1011 then (bif Nat.beq pc 1008 then some (.invokevirtual 135, 3, [0, 173, 1, 1177, 4, 2, 1]) else none) else (bif Nat.blt pc 1013 then (bif Nat.beq pc 1011 then some (.istore 6, 2, []) else none) else (bif Nat.beq pc 1013 then some (.aload_n 2, 1, []) else none))) else (bif Nat.blt pc 1017 then (bif Nat.beq pc 1014 then some (.invokevirtual 76, 3, [0, 102, 0, 891, 4, 1, 1]) else none) else (bif Nat.blt pc 1019 then (bif Nat.beq pc 1017 then some (.iload 5, 2, []) else none) else (bif Nat.beq pc 1019 then some (.if_icmp .eq 5, 3, [1024]) else none)))) else (bif Nat.blt pc 1026 then (bif Nat.blt pc 1023 then (bif Nat.beq pc 1022 then some (.iconst 0, 1, []) else none) else (bif Nat.blt pc 1024 then (bif Nat.beq pc 1023 then some (.ireturn, 1, [1]) else none) else (bif Nat.beq pc 1024 then some (.iload 5, 2, []) else none))) else (bif Nat.blt pc 1029 then (bif Nat.beq pc 1026 then some (.ifCond .ne 15, 3, [1041]) else none) else (bif Nat.blt pc 1030 then (bif Nat.beq pc 1029 then some (.aload_n 3, 1, []) else none) else (bif Nat.beq pc 1030 then some (.iconst 0, 1, []) else none))))))) else (bif Nat.blt pc 1063 then (bif Nat.blt pc 1048 then (bif Nat.blt pc 1039 then (bif Nat.blt pc 1034 then (bif Nat.blt pc 1032 then (bif Nat.beq pc 1031 then some (.laload, 1, []) else none) else (bif Nat.beq pc 1032 then some (.iload 6, 2, []) else none)) else (bif Nat.blt pc 1035 then (bif Nat.beq pc 1034 then some (.i2l, 1, []) else none) else (bif Nat.blt pc 1036 then (bif Nat.beq pc 1035 then some (.lcmp, 1, []) else none) else (bif Nat.beq pc 1036 then some (.ifCond .eq 5, 3, [1041]) else none)))) else (bif Nat.blt pc 1044 then (bif Nat.blt pc 1040 then (bif Nat.beq pc 1039 then some (.iconst 0, 1, []) else none) else (bif Nat.blt pc 1041 then (bif Nat.beq pc 1040 then some (.ireturn, 1, [1]) else none) else (bif Nat.beq pc 1041 then some (.goto 208, 3, [1249]) else none))) else (bif Nat.blt pc 1045 then (bif Nat.beq pc 1044 then some (.aload_n 1, 1, []) else none) else (bif Nat.blt pc 1046 then (bif Nat.beq pc 1045 then some (.aload_n 0, 1, []) else none) else (bif Nat.beq pc 1046 then some (.iload 4, 2, []) else none))))) else (bif Nat.blt pc 1054 then (bif Nat.blt pc 1050 then (bif Nat.blt pc 1049 then (bif Nat.beq pc 1048 then some (.iconst 1, 1, []) else none) else (bif Nat.beq pc 1049 then some (.iadd, 1, []) else none)) else (bif Nat.blt pc 1051 then (bif Nat.beq pc 1050 then some (.iaload, 1, [1]) else none) else (bif Nat.blt pc 1052 then (bif Nat.beq pc 1051 then some (.aload_n 0, 1, []) else none) else (bif Nat.beq pc 1052 then some (.iload 4, 2, []) else none)))) else (bif Nat.blt pc 1057 then (bif Nat.blt pc 1055 then (bif Nat.beq pc 1054 then some (.iconst 2, 1, []) else none) else (bif Nat.blt pc 1056 then (bif Nat.beq pc 1055 then some (.iadd, 1, []) else none) else (bif Nat.beq pc 1056 then some (.iaload, 1, [1]) else none))) else (bif Nat.blt pc 1058 then (bif Nat.beq pc 1057 then some (.aload_n 3, 1, []) else none) else (bif Nat.blt pc 1061 then (bif Nat.beq pc 1058 then some (.invokestatic 136, 3, [1, 207, 4, 810, 9, 5, 1]) else none) else (bif Nat.beq pc 1061 then some (.istore 5, 2, []) else none)))))) else (bif Nat.blt pc 1076 then (bif Nat.blt pc 1069 then (bif Nat.blt pc 1065 then (bif Nat.blt pc 1064 then (bif Nat.beq pc 1063 then some (.aload_n 2, 1, []) else none) else (bif Nat.beq pc 1064 then some (.aload_n 0, 1, []) else none)) else (bif Nat.blt pc 1067 then (bif Nat.beq pc 1065 then some (.iload 4, 2, []) else none) else (bif Nat.blt pc 1068 then (bif Nat.beq pc 1067 then some (.iconst 1, 1, []) else none) else (bif Nat.beq pc 1068 then some (.iadd, 1, []) else none)))) else (bif Nat.blt pc 1073 then (bif Nat.blt pc 1070 then (bif Nat.beq pc 1069 then some (.iaload, 1, [1]) else none) else (bif Nat.blt pc 1071 then (bif Nat.beq pc 1070 then some (.aload_n 0, 1, []) else none) else (bif Nat.beq pc 1071 then some (.iload 4, 2, []) else none))) else (bif Nat.blt pc 1074 then (bif Nat.beq pc 1073 then some (.iconst 2, 1, []) else none) else (bif Nat.blt pc 1075 then (bif Nat.beq pc 1074 then some (.iadd, 1, []) else none) else (bif Nat.beq pc 1075 then some (.iaload, 1, [1]) else none))))) else (bif Nat.blt pc 1090 then (bif Nat.blt pc 1082 then (bif Nat.blt pc 1079 then (bif Nat.beq pc 1076 then some (.invokevirtual 138, 3, [0, 175, 2, 1181, 4, 3, 1]) else none) else (bif Nat.blt pc 1081 then (bif Nat.beq pc 1079 then some (.istore 6, 2, []) else none) else (bif Nat.beq pc 1081 then some (.aload_n 2, 1, []) else none))) else (bif Nat.blt pc 1085 then (bif Nat.beq pc 1082 then some (.invokevirtual 76, 3, [0, 102, 0, 891, 4, 1, 1]) else none) else (bif Nat.blt pc 1087 then (bif Nat.beq pc 1085 then some (.iload 5, 2, []) else none) else (bif Nat.beq pc 1087 then some (.if_icmp .eq 5, 3, [1092]) else none)))) else (bif Nat.blt pc 1094 then (bif Nat.blt pc 1091 then (bif Nat.beq pc 1090 then some (.iconst 0, 1, []) else none) else (bif Nat.blt pc 1092 then (bif Nat.beq pc 1091 then some (.ireturn, 1, [1]) else none) else (bif Nat.beq pc 1092 then some (.iload 5, 2, []) else none))) else (bif Nat.blt pc 1097 then (bif Nat.beq pc 1094 then some (.ifCond .ne 15, 3, [1109]) else none) else (bif Nat.blt pc 1098 then (bif Nat.beq pc 1097 then some (.aload_n 3, 1, []) else none) else (bif Nat.beq pc 1098 then some (.iconst 0, 1, []) else none)))))))) else (bif Nat.blt pc 1172 then (bif Nat.blt pc 1133 then (bif Nat.blt pc 1117 then (bif Nat.blt pc 1107 then (bif Nat.blt pc 1102 then (bif Nat.blt pc 1100 then (bif Nat.beq pc 1099 then some (.laload, 1, []) else none) else (bif Nat.beq pc 1100 then some (.iload 6, 2, []) else none)) else (bif Nat.blt pc 1103 then (bif Nat.beq pc 1102 then some (.i2l, 1, []) else none) else (bif Nat.blt pc 1104 then (bif Nat.beq pc 1103 then some (.lcmp, 1, []) else none) else (bif Nat.beq pc 1104 then some (.ifCond .eq 5, 3, [1109]) else none)))) else (bif Nat.blt pc 1112 then (bif Nat.blt pc 1108 then (bif Nat.beq pc 1107 then some (.iconst 0, 1, []) else none) else (bif Nat.blt pc 1109 then (bif Nat.beq pc 1108 then some (.ireturn, 1, [1]) else none) else (bif Nat.beq pc 1109 then some (.goto 140, 3, [1249]) else none))) else (bif Nat.blt pc 1113 then (bif Nat.beq pc 1112 then some (.aload_n 1, 1, []) else none) else (bif Nat.blt pc 1116 then (bif Nat.beq pc 1113 then some (.invokevirtual 139, 3, [0, 89, 0, 330, 3, 1, 1]) else none) else (bif Nat.beq pc 1116 then some (.aload_n 2, 1, []) else none))))) else (bif Nat.blt pc 1126 then (bif Nat.blt pc 1123 then (bif Nat.blt pc 1120 then (bif Nat.beq pc 1117 then some (.invokevirtual 142, 3, [0, 178, 0, 1197, 4, 1, 1]) else none) else (bif Nat.beq pc 1120 then some (.if_icmp .eq 129, 3, [1249]) else none)) else (bif Nat.blt pc 1124 then (bif Nat.beq pc 1123 then some (.iconst 0, 1, []) else none) else (bif Nat.blt pc 1125 then (bif Nat.beq pc 1124 then some (.ireturn, 1, [1]) else none) else (bif Nat.beq pc 1125 then some (.aload_n 1, 1, []) else none)))) else (bif Nat.blt pc 1130 then (bif Nat.blt pc 1127 then (bif Nat.beq pc 1126 then some (.aload_n 0, 1, []) else none) else (bif Nat.blt pc 1129 then (bif Nat.beq pc 1127 then some (.iload 4, 2, []) else none) else (bif Nat.beq pc 1129 then some (.iconst 1, 1, []) else none))) else (bif Nat.blt pc 1131 then (bif Nat.beq pc 1130 then some (.iadd, 1, []) else none) else (bif Nat.blt pc 1132 then (bif Nat.beq pc 1131 then some (.iaload, 1, [1]) else none) else (bif Nat.beq pc 1132 then some (.aload_n 3, 1, []) else none)))))) else (bif Nat.blt pc 1151 then (bif Nat.blt pc 1142 then (bif Nat.blt pc 1138 then (bif Nat.blt pc 1136 then (bif Nat.beq pc 1133 then some (.invokestatic 143, 3, [1, 208, 3, 817, 9, 4, 1]) else none) else (bif Nat.beq pc 1136 then some (.istore 5, 2, []) else none)) else (bif Nat.blt pc 1139 then (bif Nat.beq pc 1138 then some (.aload_n 2, 1, []) else none) else (bif Nat.blt pc 1140 then (bif Nat.beq pc 1139 then some (.aload_n 0, 1, []) else none) else (bif Nat.beq pc 1140 then some (.iload 4, 2, []) else none)))) else (bif Nat.blt pc 1145 then (bif Nat.blt pc 1143 then (bif Nat.beq pc 1142 then some (.iconst 1, 1, []) else none) else (bif Nat.blt pc 1144 then (bif Nat.beq pc 1143 then some (.iadd, 1, []) else none) else (bif Nat.beq pc 1144 then some (.iaload, 1, [1]) else none))) else (bif Nat.blt pc 1148 then (bif Nat.beq pc 1145 then some (.invokevirtual 145, 3, [0, 180, 1, 1209, 4, 2, 1]) else none) else (bif Nat.blt pc 1150 then (bif Nat.beq pc 1148 then some (.istore 6, 2, []) else none) else (bif Nat.beq pc 1150 then some (.aload_n 2, 1, []) else none))))) else (bif Nat.blt pc 1163 then (bif Nat.blt pc 1159 then (bif Nat.blt pc 1154 then (bif Nat.beq pc 1151 then some (.invokevirtual 76, 3, [0, 102, 0, 891, 4, 1, 1]) else none) else (bif Nat.blt pc 1156 then (bif Nat.beq pc 1154 then some (.iload 5, 2, []) else none) else (bif Nat.beq pc 1156 then some (.if_icmp .eq 5, 3, [1161]) else none))) else (bif Nat.blt pc 1160 then (bif Nat.beq pc 1159 then some (.iconst 0, 1, []) else none) else (bif Nat.blt pc 1161 then (bif Nat.beq pc 1160 then some (.ireturn, 1, [1]) else none) else (bif Nat.beq pc 1161 then some (.iload 5, 2, []) else none)))) else (bif Nat.blt pc 1168 then (bif Nat.blt pc 1166 then (bif Nat.beq pc 1163 then some (.ifCond .ne 15, 3, [1178]) else none) else (bif Nat.blt pc 1167 then (bif Nat.beq pc 1166 then some (.aload_n 3, 1, []) else none) else (bif Nat.beq pc 1167 then some (.iconst 0, 1, []) else none))) else (bif Nat.blt pc 1169 then (bif Nat.beq pc 1168 then some (.laload, 1, []) else none) else (bif Nat.blt pc 1171 then (bif Nat.beq pc 1169 then some (.iload 6, 2, []) else none) else (bif Nat.beq pc 1171 then some (.i2l, 1, []) else none))))))) else (bif Nat.blt pc 1214 then (bif Nat.blt pc 1193 then (bif Nat.blt pc 1181 then (bif Nat.blt pc 1176 then (bif Nat.blt pc 1173 then (bif Nat.beq pc 1172 then some (.lcmp, 1, []) else none) else (bif Nat.beq pc 1173 then some (.ifCond .eq 5, 3, [1178]) else none)) else (bif Nat.blt pc 1177 then (bif Nat.beq pc 1176 then some (.iconst 0, 1, []) else none) else (bif Nat.blt pc 1178 then (bif Nat.beq pc 1177 then some (.ireturn, 1, [1]) else none) else (bif Nat.beq pc 1178 then some (.goto 71, 3, [1249]) else none)))) else (bif Nat.blt pc 1186 then (bif Nat.blt pc 1182 then (bif Nat.beq pc 1181 then some (.aload_n 1, 1, []) else none) else (bif Nat.blt pc 1185 then (bif Nat.beq pc 1182 then some (.invokevirtual 146, 3, [0, 91, 0, 454, 3, 5, 1]) else none) else (bif Nat.beq pc 1185 then some (.aload_n 2, 1, []) else none))) else (bif Nat.blt pc 1189 then (bif Nat.beq pc 1186 then some (.invokevirtual 149, 3, [0, 182, 0, 1217, 4, 1, 1]) else none) else (bif Nat.blt pc 1192 then (bif Nat.beq pc 1189 then some (.if_icmp .eq 60, 3, [1249]) else none) else (bif Nat.beq pc 1192 then some (.iconst 0, 1, []) else none))))) else (bif Nat.blt pc 1201 then (bif Nat.blt pc 1195 then (bif Nat.blt pc 1194 then (bif Nat.beq pc 1193 then some (.ireturn, 1, [1]) else none) else (bif Nat.beq pc 1194 then some (.aload_n 1, 1, []) else none)) else (bif Nat.blt pc 1198 then (bif Nat.beq pc 1195 then some (.invokevirtual 150, 3, [0, 92, 0, 459, 3, 1, 4]) else none) else (bif Nat.blt pc 1200 then (bif Nat.beq pc 1198 then some (.dstore 5, 2, []) else none) else (bif Nat.beq pc 1200 then some (.aload_n 2, 1, []) else none)))) else (bif Nat.blt pc 1208 then (bif Nat.blt pc 1204 then (bif Nat.beq pc 1201 then some (.invokevirtual 154, 3, [0, 184, 0, 1225, 4, 1, 4]) else none) else (bif Nat.blt pc 1206 then (bif Nat.beq pc 1204 then some (.dstore 7, 2, []) else none) else (bif Nat.beq pc 1206 then some (.dload 5, 2, []) else none))) else (bif Nat.blt pc 1210 then (bif Nat.beq pc 1208 then some (.dload 7, 2, []) else none) else (bif Nat.blt pc 1211 then (bif Nat.beq pc 1210 then some (.dcmp .l, 1, []) else none) else (bif Nat.beq pc 1211 then some (.ifCond .eq 21, 3, [1232]) else none)))))) else (bif Nat.blt pc 1235 then (bif Nat.blt pc 1224 then (bif Nat.blt pc 1218 then (bif Nat.blt pc 1216 then (bif Nat.beq pc 1214 then some (.dload 5, 2, []) else none) else (bif Nat.beq pc 1216 then some (.dload 5, 2, []) else none)) else (bif Nat.blt pc 1219 then (bif Nat.beq pc 1218 then some (.dcmp .l, 1, []) else none) else (bif Nat.blt pc 1222 then (bif Nat.beq pc 1219 then some (.ifCond .eq 11, 3, [1230]) else none) else (bif Nat.beq pc 1222 then some (.dload 7, 2, []) else none)))) else (bif Nat.blt pc 1230 then (bif Nat.blt pc 1226 then (bif Nat.beq pc 1224 then some (.dload 7, 2, []) else none) else (bif Nat.blt pc 1227 then (bif Nat.beq pc 1226 then some (.dcmp .l, 1, []) else none) else (bif Nat.beq pc 1227 then some (.ifCond .ne 5, 3, [1232]) else none))) else (bif Nat.blt pc 1231 then (bif Nat.beq pc 1230 then some (.iconst 0, 1, []) else none) else (bif Nat.blt pc 1232 then (bif Nat.beq pc 1231 then some (.ireturn, 1, [1]) else none) else (bif Nat.beq pc 1232 then some (.goto 17, 3, [1249]) else none))))) else (bif Nat.blt pc 1247 then (bif Nat.blt pc 1240 then (bif Nat.blt pc 1236 then (bif Nat.beq pc 1235 then some (.aload_n 1, 1, []) else none) else (bif Nat.blt pc 1239 then (bif Nat.beq pc 1236 then some (.invokevirtual 155, 3, [0, 93, 0, 463, 3, 4, 2]) else none) else (bif Nat.beq pc 1239 then some (.aload_n 2, 1, []) else none))) else (bif Nat.blt pc 1243 then (bif Nat.beq pc 1240 then some (.invokevirtual 159, 3, [0, 187, 0, 1233, 4, 2, 2]) else none) else (bif Nat.blt pc 1244 then (bif Nat.beq pc 1243 then some (.lcmp, 1, []) else none) else (bif Nat.beq pc 1244 then some (.ifCond .eq 5, 3, [1249]) else none)))) else (bif Nat.blt pc 1252 then (bif Nat.blt pc 1248 then (bif Nat.beq pc 1247 then some (.iconst 0, 1, []) else none) else (bif Nat.blt pc 1249 then (bif Nat.beq pc 1248 then some (.ireturn, 1, [1]) else none) else (bif Nat.beq pc 1249 then some (.iinc 4 3, 3, []) else none))) else (bif Nat.blt pc 1255 then (bif Nat.beq pc 1252 then some (.goto (-1229), 3, [23]) else none) else (bif Nat.blt pc 1256 then (bif Nat.beq pc 1255 then some (.iconst 1, 1, []) else none) else (bif Nat.beq pc 1256 then some (.ireturn, 1, [1]) else none))))))))))
def J0 : Nat × (Nat → Option IE) := (0, fun _ => none)
def J (m : Nat) : Nat × (Nat → Option IE) := bif Nat.blt m 105 then (bif Nat.blt m 52 then (bif Nat.blt m 26 then (bif Nat.blt m 13 then (bif Nat.blt m 6 then (bif Nat.blt m 3 then (bif Nat.blt m 1 then (bif Nat.beq m 0 then (15, I_X0_isInRange) else J0) else (bif Nat.blt m 2 then (bif Nat.beq m 1 then (95, I_X0_valueOf) else J0) else (bif Nat.beq m 2 then (129, I_X0_bitsOf) else J0))) else (bif Nat.blt m 4 then (bif Nat.beq m 3 then (82, I_X0_result) else J0) else (bif Nat.blt m 5 then (bif Nat.beq m 4 then (24, I_X0_limited) else J0) else (bif Nat.beq m 5 then (59, I_X0_bitsOfShare) else J0)))) else (bif Nat.blt m 9 then (bif Nat.blt m 7 then (bif Nat.beq m 6 then (35, I_X1_init) else J0) else (bif Nat.blt m 8 then (bif Nat.beq m 7 then (28, I_X1_become) else J0) else (bif Nat.beq m 8 then (97, I_X1_becomeLike) else J0))) else (bif Nat.blt m 11 then (bif Nat.blt m 10 then (bif Nat.beq m 9 then (22, I_X1_isDone) else J0) else (bif Nat.beq m 10 then (33, I_X1_endsItsWork) else J0)) else (bif Nat.blt m 12 then (bif Nat.beq m 11 then (38, I_X1_cyclesNeeded) else J0) else (bif Nat.beq m 12 then (75, I_X1_part) else J0))))) else (bif Nat.blt m 19 then (bif Nat.blt m 16 then (bif Nat.blt m 14 then (bif Nat.beq m 13 then (99, I_X2_init) else J0) else (bif Nat.blt m 15 then (bif Nat.beq m 14 then (11, I_X2_greatest) else J0) else (bif Nat.beq m 15 then (146, I_X2_becomeLike) else J0))) else (bif Nat.blt m 17 then (bif Nat.beq m 16 then (43, I_X2_beginAnew) else J0) else (bif Nat.blt m 18 then (bif Nat.beq m 17 then (27, I_X2_at) else J0) else (bif Nat.beq m 18 then (24, I_X2_registerBits) else J0)))) else (bif Nat.blt m 22 then (bif Nat.blt m 20 then (bif Nat.beq m 19 then (24, I_X2_cellBits) else J0) else (bif Nat.blt m 21 then (bif Nat.beq m 20 then (76, I_X2_put) else J0) else (bif Nat.beq m 21 then (10, I_X2_entries) else J0))) else (bif Nat.blt m 24 then (bif Nat.blt m 23 then (bif Nat.beq m 22 then (17, I_X2_isFinished) else J0) else (bif Nat.beq m 23 then (119, I_X2_number) else J0)) else (bif Nat.blt m 25 then (bif Nat.beq m 24 then (194, I_X2_property) else J0) else (bif Nat.beq m 25 then (70, I_X2_hindrance) else J0)))))) else (bif Nat.blt m 39 then (bif Nat.blt m 32 then (bif Nat.blt m 29 then (bif Nat.blt m 27 then (bif Nat.beq m 26 then (26, I_X2_isReady) else J0) else (bif Nat.blt m 28 then (bif Nat.beq m 27 then (42, I_X2_hasOpenStoreAhead) else J0) else (bif Nat.beq m 28 then (39, I_X2_latestMaker) else J0))) else (bif Nat.blt m 30 then (bif Nat.beq m 29 then (47, I_X2_latestStore) else J0) else (bif Nat.blt m 31 then (bif Nat.beq m 30 then (18, I_X2_passCycles) else J0) else (bif Nat.beq m 31 then (26, I_X2_cyclesToEnd) else J0)))) else (bif Nat.blt m 35 then (bif Nat.blt m 33 then (bif Nat.beq m 32 then (63, I_X2_passCycle) else J0) else (bif Nat.blt m 34 then (bif Nat.beq m 33 then (97, I_X2_retireEntries) else J0) else (bif Nat.beq m 34 then (107, I_X2_finish) else J0))) else (bif Nat.blt m 37 then (bif Nat.blt m 36 then (bif Nat.beq m 35 then (22, I_X2_operand) else J0) else (bif Nat.beq m 36 then (88, I_X2_finishLoad) else J0)) else (bif Nat.blt m 38 then (bif Nat.beq m 37 then (61, I_X2_breakAlibis) else J0) else (bif Nat.beq m 38 then (66, I_X2_replay) else J0))))) else (bif Nat.blt m 45 then (bif Nat.blt m 42 then (bif Nat.blt m 40 then (bif Nat.beq m 39 then (61, I_X2_startEntries) else J0) else (bif Nat.blt m 41 then (bif Nat.beq m 40 then (98, I_X2_issueInstructions) else J0) else (bif Nat.beq m 41 then (124, I_X2_carryOutPlainly) else J0))) else (bif Nat.blt m 43 then (bif Nat.beq m 42 then (13, I_X2_placeOf) else J0) else (bif Nat.blt m 44 then (bif Nat.beq m 43 then (13, I_X3_init) else J0) else (bif Nat.beq m 44 then (40, I_X3_add) else J0)))) else (bif Nat.blt m 48 then (bif Nat.blt m 46 then (bif Nat.beq m 45 then (32, I_X3_signAt) else J0) else (bif Nat.blt m 47 then (bif Nat.beq m 46 then (39, I_X3_rightSigns) else J0) else (bif Nat.beq m 47 then (45, I_X3_isComplete) else J0))) else (bif Nat.blt m 50 then (bif Nat.blt m 49 then (bif Nat.beq m 48 then (35, I_X3_instructions) else J0) else (bif Nat.beq m 49 then (35, I_X3_nextInstruction) else J0)) else (bif Nat.blt m 51 then (bif Nat.beq m 50 then (159, I_X3_readInstruction) else J0) else (bif Nat.beq m 51 then (9, I_X3_registerAt) else J0))))))) else (bif Nat.blt m 78 then (bif Nat.blt m 65 then (bif Nat.blt m 58 then (bif Nat.blt m 55 then (bif Nat.blt m 53 then (bif Nat.beq m 52 then (9, I_X3_digitAt) else J0) else (bif Nat.blt m 54 then (bif Nat.beq m 53 then (62, I_X3_numberAt) else J0) else (bif Nat.beq m 54 then (46, I_X3_hashAll) else J0))) else (bif Nat.blt m 56 then (bif Nat.beq m 55 then (18, I_X3_isRegister) else J0) else (bif Nat.blt m 57 then (bif Nat.beq m 56 then (18, I_X3_isDigit) else J0) else (bif Nat.beq m 57 then (246, I_X3_next) else J0)))) else (bif Nat.blt m 61 then (bif Nat.blt m 59 then (bif Nat.beq m 58 then (13, I_X3_ifRegister) else J0) else (bif Nat.blt m 60 then (bif Nat.beq m 59 then (34, I_X3_nextOfRightSide) else J0) else (bif Nat.beq m 60 then (22, I_X3_nextOfNumber) else J0))) else (bif Nat.blt m 63 then (bif Nat.blt m 62 then (bif Nat.beq m 61 then (12, I_X3_nextOfEnd) else J0) else (bif Nat.beq m 62 then (84, I_X4_init) else J0)) else (bif Nat.blt m 64 then (bif Nat.beq m 63 then (55, I_X4_set) else J0) else (bif Nat.beq m 64 then (14, I_X4_putRegister) else J0))))) else (bif Nat.blt m 71 then (bif Nat.blt m 68 then (bif Nat.blt m 66 then (bif Nat.beq m 65 then (14, I_X4_putCell) else J0) else (bif Nat.blt m 67 then (bif Nat.beq m 66 then (60, I_X4_putValue) else J0) else (bif Nat.beq m 67 then (60, I_X4_run) else J0))) else (bif Nat.blt m 69 then (bif Nat.beq m 68 then (22, I_X4_checkCycles) else J0) else (bif Nat.blt m 70 then (bif Nat.beq m 69 then (28, I_X4_flush) else J0) else (bif Nat.beq m 70 then (21, I_X4_again) else J0)))) else (bif Nat.blt m 74 then (bif Nat.blt m 72 then (bif Nat.beq m 71 then (61, I_X4_append) else J0) else (bif Nat.blt m 73 then (bif Nat.beq m 72 then (18, I_X4_clearBuffer) else J0) else (bif Nat.beq m 73 then (8, I_X4_firstError) else J0))) else (bif Nat.blt m 76 then (bif Nat.blt m 75 then (bif Nat.beq m 74 then (113, I_X4_load) else J0) else (bif Nat.beq m 75 then (61, I_X4_undo) else J0)) else (bif Nat.blt m 77 then (bif Nat.beq m 76 then (98, I_X4_saveState) else J0) else (bif Nat.beq m 77 then (32, I_X4_instruction) else J0)))))) else (bif Nat.blt m 91 then (bif Nat.blt m 84 then (bif Nat.blt m 81 then (bif Nat.blt m 79 then (bif Nat.beq m 78 then (37, I_X4_entry) else J0) else (bif Nat.blt m 80 then (bif Nat.beq m 79 then (29, I_X4_whyNot) else J0) else (bif Nat.beq m 80 then (29, I_X4_register) else J0))) else (bif Nat.blt m 82 then (bif Nat.beq m 81 then (29, I_X4_cell) else J0) else (bif Nat.blt m 83 then (bif Nat.beq m 82 then (29, I_X4_count) else J0) else (bif Nat.beq m 83 then (16, I_X4_setting) else J0)))) else (bif Nat.blt m 87 then (bif Nat.blt m 85 then (bif Nat.beq m 84 then (20, I_X4_checkPlace) else J0) else (bif Nat.blt m 86 then (bif Nat.beq m 85 then (20, I_X4_checkWhat) else J0) else (bif Nat.beq m 86 then (62, I_X4_registerFact) else J0))) else (bif Nat.blt m 89 then (bif Nat.blt m 88 then (bif Nat.beq m 87 then (24, I_X4_cellFact) else J0) else (bif Nat.beq m 88 then (22, I_X4_ifRun) else J0)) else (bif Nat.blt m 90 then (bif Nat.beq m 89 then (21, I_X4_cyclesLeft) else J0) else (bif Nat.beq m 90 then (17, I_X4_bestWindow) else J0))))) else (bif Nat.blt m 98 then (bif Nat.blt m 94 then (bif Nat.blt m 92 then (bif Nat.beq m 91 then (49, I_X4_worstLoad) else J0) else (bif Nat.blt m 93 then (bif Nat.beq m 92 then (32, I_X4_earlyShare) else J0) else (bif Nat.beq m 93 then (138, I_X4_digest) else J0))) else (bif Nat.blt m 96 then (bif Nat.blt m 95 then (bif Nat.beq m 94 then (63, I_X4_hashNumbers) else J0) else (bif Nat.beq m 95 then (125, I_X4_hashProgram) else J0)) else (bif Nat.blt m 97 then (bif Nat.beq m 96 then (98, I_X4_hashValues) else J0) else (bif Nat.beq m 97 then (19, I_X4_rehearsePlainOrder) else J0)))) else (bif Nat.blt m 101 then (bif Nat.blt m 99 then (bif Nat.beq m 98 then (20, I_X4_rehearseCycles) else J0) else (bif Nat.blt m 100 then (bif Nat.beq m 99 then (68, I_X4_rehearsed) else J0) else (bif Nat.beq m 100 then (97, I_X4_rehearseWindows) else J0))) else (bif Nat.blt m 103 then (bif Nat.blt m 102 then (bif Nat.beq m 101 then (120, I_X5_init) else J0) else (bif Nat.beq m 102 then (5, I_X5_thrown) else J0)) else (bif Nat.blt m 104 then (bif Nat.beq m 103 then (7, I_X5_fails) else J0) else (bif Nat.beq m 104 then (16, I_X5_within) else J0)))))))) else (bif Nat.blt m 157 then (bif Nat.blt m 131 then (bif Nat.blt m 118 then (bif Nat.blt m 111 then (bif Nat.blt m 108 then (bif Nat.blt m 106 then (bif Nat.beq m 105 then (15, I_X5_of) else J0) else (bif Nat.blt m 107 then (bif Nat.beq m 106 then (16, I_X5_lay) else J0) else (bif Nat.beq m 107 then (10, I_X5_rule) else J0))) else (bif Nat.blt m 109 then (bif Nat.beq m 108 then (97, I_X5_save) else J0) else (bif Nat.blt m 110 then (bif Nat.beq m 109 then (28, I_X5_keep) else J0) else (bif Nat.beq m 110 then (28, I_X5_bring) else J0)))) else (bif Nat.blt m 114 then (bif Nat.blt m 112 then (bif Nat.beq m 111 then (14, I_X5_entries) else J0) else (bif Nat.blt m 113 then (bif Nat.beq m 112 then (66, I_X5_set) else J0) else (bif Nat.beq m 113 then (36, I_X5_isValue) else J0))) else (bif Nat.blt m 116 then (bif Nat.blt m 115 then (bif Nat.beq m 114 then (46, I_X5_puts) else J0) else (bif Nat.beq m 115 then (33, I_X5_putRegister) else J0)) else (bif Nat.blt m 117 then (bif Nat.beq m 116 then (33, I_X5_putCell) else J0) else (bif Nat.beq m 117 then (26, I_X5_makes) else J0))))) else (bif Nat.blt m 124 then (bif Nat.blt m 121 then (bif Nat.blt m 119 then (bif Nat.beq m 118 then (45, I_X5_maker) else J0) else (bif Nat.blt m 120 then (bif Nat.beq m 119 then (15, I_X5_hasOne) else J0) else (bif Nat.beq m 120 then (25, I_X5_hasOther) else J0))) else (bif Nat.blt m 122 then (bif Nat.beq m 121 then (29, I_X5_isReady) else J0) else (bif Nat.blt m 123 then (bif Nat.beq m 122 then (32, I_X5_valueOf) else J0) else (bif Nat.beq m 123 then (24, I_X5_cellOf) else J0)))) else (bif Nat.blt m 127 then (bif Nat.blt m 125 then (bif Nat.beq m 124 then (61, I_X5_result) else J0) else (bif Nat.blt m 126 then (bif Nat.beq m 125 then (9, I_X5_setTo) else J0) else (bif Nat.beq m 126 then (112, I_X5_retire) else J0))) else (bif Nat.blt m 129 then (bif Nat.blt m 128 then (bif Nat.beq m 127 then (207, I_X5_finishLoad) else J0) else (bif Nat.beq m 128 then (65, I_X5_isBroken) else J0)) else (bif Nat.blt m 130 then (bif Nat.beq m 129 then (161, I_X5_finishStore) else J0) else (bif Nat.beq m 130 then (98, I_X5_finish) else J0)))))) else (bif Nat.blt m 144 then (bif Nat.blt m 137 then (bif Nat.blt m 134 then (bif Nat.blt m 132 then (bif Nat.beq m 131 then (66, I_X5_work) else J0) else (bif Nat.blt m 133 then (bif Nat.beq m 132 then (53, I_X5_isOpenStore) else J0) else (bif Nat.beq m 133 then (93, I_X5_reason) else J0))) else (bif Nat.blt m 135 then (bif Nat.beq m 134 then (20, I_X5_needs) else J0) else (bif Nat.blt m 136 then (bif Nat.beq m 135 then (196, I_X5_cycle) else J0) else (bif Nat.beq m 136 then (69, I_X5_run) else J0)))) else (bif Nat.blt m 140 then (bif Nat.blt m 138 then (bif Nat.beq m 137 then (28, I_X5_flush) else J0) else (bif Nat.blt m 139 then (bif Nat.beq m 138 then (44, I_X5_begin) else J0) else (bif Nat.beq m 139 then (22, I_X5_again) else J0))) else (bif Nat.blt m 142 then (bif Nat.blt m 141 then (bif Nat.beq m 140 then (62, I_X5_append) else J0) else (bif Nat.beq m 141 then (17, I_X5_clearBuffer) else J0)) else (bif Nat.blt m 143 then (bif Nat.beq m 142 then (18, I_X5_goes) else J0) else (bif Nat.beq m 143 then (9, I_X5_isRegister) else J0))))) else (bif Nat.blt m 150 then (bif Nat.blt m 147 then (bif Nat.blt m 145 then (bif Nat.beq m 144 then (9, I_X5_isFigure) else J0) else (bif Nat.blt m 146 then (bif Nat.beq m 145 then (94, I_X5_begins) else J0) else (bif Nat.beq m 146 then (76, I_X5_takesRight) else J0))) else (bif Nat.blt m 148 then (bif Nat.beq m 147 then (28, I_X5_takesFigure) else J0) else (bif Nat.blt m 149 then (bif Nat.beq m 148 then (44, I_X5_takesSign) else J0) else (bif Nat.beq m 149 then (91, I_X5_takesSecond) else J0)))) else (bif Nat.blt m 153 then (bif Nat.blt m 151 then (bif Nat.beq m 150 then (37, I_X5_ends) else J0) else (bif Nat.blt m 152 then (bif Nat.beq m 151 then (23, I_X5_takesOne) else J0) else (bif Nat.beq m 152 then (24, I_X5_takesOther) else J0))) else (bif Nat.blt m 155 then (bif Nat.blt m 154 then (bif Nat.beq m 153 then (23, I_X5_takesOffset) else J0) else (bif Nat.beq m 154 then (257, I_X5_takes) else J0)) else (bif Nat.blt m 156 then (bif Nat.beq m 155 then (41, I_X5_scan) else J0) else (bif Nat.beq m 156 then (10, I_X5_firstError) else J0))))))) else (bif Nat.blt m 183 then (bif Nat.blt m 170 then (bif Nat.blt m 163 then (bif Nat.blt m 160 then (bif Nat.blt m 158 then (bif Nat.beq m 157 then (186, I_X5_load) else J0) else (bif Nat.blt m 159 then (bif Nat.beq m 158 then (69, I_X5_undo) else J0) else (bif Nat.beq m 159 then (14, I_X5_isInstruction) else J0))) else (bif Nat.blt m 161 then (bif Nat.beq m 160 then (44, I_X5_instruction) else J0) else (bif Nat.blt m 162 then (bif Nat.beq m 161 then (225, I_X5_entryNow) else J0) else (bif Nat.beq m 162 then (12, I_X5_isEntry) else J0)))) else (bif Nat.blt m 166 then (bif Nat.blt m 164 then (bif Nat.beq m 163 then (51, I_X5_entry) else J0) else (bif Nat.blt m 165 then (bif Nat.beq m 164 then (34, I_X5_whyNot) else J0) else (bif Nat.beq m 165 then (220, I_X5_goPlain) else J0))) else (bif Nat.blt m 168 then (bif Nat.blt m 167 then (bif Nat.beq m 166 then (51, I_X5_registerNow) else J0) else (bif Nat.beq m 167 then (45, I_X5_register) else J0)) else (bif Nat.blt m 169 then (bif Nat.beq m 168 then (32, I_X5_cellNow) else J0) else (bif Nat.beq m 169 then (45, I_X5_cell) else J0))))) else (bif Nat.blt m 176 then (bif Nat.blt m 173 then (bif Nat.blt m 171 then (bif Nat.beq m 170 then (21, I_X5_isFinished) else J0) else (bif Nat.blt m 172 then (bif Nat.beq m 171 then (138, I_X5_counted) else J0) else (bif Nat.beq m 172 then (29, I_X5_count) else J0))) else (bif Nat.blt m 174 then (bif Nat.beq m 173 then (28, I_X5_setting) else J0) else (bif Nat.blt m 175 then (bif Nat.beq m 174 then (76, I_X5_runNow) else J0) else (bif Nat.beq m 175 then (39, I_X5_ifRun) else J0)))) else (bif Nat.blt m 179 then (bif Nat.blt m 177 then (bif Nat.beq m 176 then (22, I_X5_goOn) else J0) else (bif Nat.blt m 178 then (bif Nat.beq m 177 then (15, I_X5_leftNow) else J0) else (bif Nat.beq m 178 then (10, I_X5_cyclesLeft) else J0))) else (bif Nat.blt m 181 then (bif Nat.blt m 180 then (bif Nat.beq m 179 then (153, I_X5_windowNow) else J0) else (bif Nat.beq m 180 then (28, I_X5_bestWindow) else J0)) else (bif Nat.blt m 182 then (bif Nat.beq m 181 then (56, I_X5_worstNow) else J0) else (bif Nat.beq m 182 then (10, I_X5_worstLoad) else J0)))))) else (bif Nat.blt m 196 then (bif Nat.blt m 189 then (bif Nat.blt m 186 then (bif Nat.blt m 184 then (bif Nat.beq m 183 then (32, I_X5_shareNow) else J0) else (bif Nat.blt m 185 then (bif Nat.beq m 184 then (10, I_X5_earlyShare) else J0) else (bif Nat.beq m 185 then (15, I_X5_mix) else J0))) else (bif Nat.blt m 187 then (bif Nat.beq m 186 then (140, I_X5_mixProgram) else J0) else (bif Nat.blt m 188 then (bif Nat.beq m 187 then (181, I_X5_digest) else J0) else (bif Nat.beq m 188 then (12, I_Jxe99ae_isNaN_b9ae7) else J0)))) else (bif Nat.blt m 192 then (bif Nat.blt m 190 then (bif Nat.beq m 189 then (16, I_Jxe99ae_doubleToLongBits_ccdee) else J0) else (bif Nat.blt m 191 then (bif Nat.beq m 190 then (12, I_Jxf58ca_isNaN_12338) else J0) else (bif Nat.beq m 191 then (15, I_Jxf58ca_floatToIntBits_5c35a) else J0))) else (bif Nat.blt m 194 then (bif Nat.blt m 193 then (bif Nat.beq m 192 then (20, I_J9_floorMod_7cf53) else J0) else (bif Nat.beq m 193 then (23, I_L_set) else J0)) else (bif Nat.blt m 195 then (bif Nat.beq m 194 then (27, I_L_putRegister) else J0) else (bif Nat.beq m 195 then (27, I_L_putCell) else J0))))) else (bif Nat.blt m 203 then (bif Nat.blt m 199 then (bif Nat.blt m 197 then (bif Nat.beq m 196 then (20, I_L_run) else J0) else (bif Nat.blt m 198 then (bif Nat.beq m 197 then (20, I_L_append) else J0) else (bif Nat.beq m 198 then (19, I_L_load) else J0))) else (bif Nat.blt m 201 then (bif Nat.blt m 200 then (bif Nat.beq m 199 then (16, I_L_undo) else J0) else (bif Nat.beq m 200 then (23, I_L_instruction) else J0)) else (bif Nat.blt m 202 then (bif Nat.beq m 201 then (23, I_L_entry) else J0) else (bif Nat.beq m 202 then (17, I_L_whyNot) else J0)))) else (bif Nat.blt m 206 then (bif Nat.blt m 204 then (bif Nat.beq m 203 then (23, I_L_register) else J0) else (bif Nat.blt m 205 then (bif Nat.beq m 204 then (23, I_L_cell) else J0) else (bif Nat.beq m 205 then (17, I_L_count) else J0))) else (bif Nat.blt m 208 then (bif Nat.blt m 207 then (bif Nat.beq m 206 then (17, I_L_setting) else J0) else (bif Nat.beq m 207 then (19, I_L_ifRun) else J0)) else (bif Nat.blt m 209 then (bif Nat.beq m 208 then (17, I_L_bestWindow) else J0) else (bif Nat.beq m 209 then (1257, I_L_law) else J0))))))))
def I (m pc : Nat) : Option IE := bif Nat.blt m 210 then (bif Nat.blt pc (J m).1 then (J m).2 pc else none) else none
abbrev MT : Type := MethodName × ByteArray × Nat × Option FieldType × Nat × List Nat × List (Nat × Nat × Nat × Nat)
def mtab_0 : List MT := [(yX0_isInRange, cX0_isInRange, 1, (some .boolean), 0, [668, 667, 0, 80, 1], []),
  (yX0_valueOf, cX0_valueOf, 7, (some .float), 0, [380, 379, 0, 80, 1], []),
  (yX0_bitsOf, cX0_bitsOf, 7, (some .int), 0, [423, 422, 0, 80, 1], []),
  (yX0_result, cX0_result, 4, (some .int), 1, [413, 412, 0, 80, 1], []),
  (yX0_limited, cX0_limited, 1, (some .float), 0, [417, 416, 0, 80, 1], []),
  (yX0_bitsOfShare, cX0_bitsOfShare, 5, (some .long), 0, [633, 632, 0, 80, 1], []),
  (yX1_init, cX1_init, 1, none, 1, [104, 103, 0, 71, 2], []),
  (yX1_become, cX1_become, 6, none, 0, [277, 275, 276, 71, 0], []),
  (yX1_becomeLike, cX1_becomeLike, 2, none, 1, [273, 271, 272, 71, 0], []),
  (yX1_isDone, cX1_isDone, 2, (some .boolean), 0, [394, 392, 393, 71, 0], []),
  (yX1_endsItsWork, cX1_endsItsWork, 1, (some .boolean), 0, [358, 356, 357, 71, 0], []),
  (yX1_cyclesNeeded, cX1_cyclesNeeded, 1, (some .int), 0, [444, 442, 443, 71, 0], []),
  (yX1_part, cX1_part, 2, (some .int), 0, [584, 582, 583, 71, 0], []),
  (yX2_init, cX2_init, 2, none, 2, [97, 96, 0, 70, 2], []),
  (yX2_greatest, cX2_greatest, 1, (some .int), 0, [652, 651, 0, 70, 1], []),
  (yX2_becomeLike, cX2_becomeLike, 3, none, 2, [265, 263, 264, 70, 0], []),
  (yX2_beginAnew, cX2_beginAnew, 3, none, 1, [292, 290, 291, 70, 0], []),
  (yX2_at, cX2_at, 2, (some (.object "AlibiWindow$Instruction")), 0, [269, 267, 268, 70, 0], []),
  (yX2_registerBits, cX2_registerBits, 2, (some .int), 0, [370, 368, 369, 70, 0], []),
  (yX2_cellBits, cX2_cellBits, 2, (some .int), 0, [398, 396, 397, 70, 0], []),
  (yX2_put, cX2_put, 2, none, 0, [354, 352, 353, 70, 0], []),
  (yX2_entries, cX2_entries, 1, (some .int), 0, [284, 282, 283, 70, 0], []),
  (yX2_isFinished, cX2_isFinished, 1, (some .boolean), 0, [342, 340, 341, 70, 0], []),
  (yX2_number, cX2_number, 2, (some .int), 1, [552, 550, 551, 70, 0], []),
  (yX2_property, cX2_property, 5, (some .int), 3, [588, 586, 587, 70, 0], []),
  (yX2_hindrance, cX2_hindrance, 3, (some .int), 2, [436, 434, 435, 70, 0], []),
  (yX2_isReady, cX2_isReady, 2, (some .boolean), 1, [440, 438, 439, 70, 0], []),
  (yX2_hasOpenStoreAhead, cX2_hasOpenStoreAhead, 4, (some .boolean), 1, [402, 400, 401, 70, 0], []),
  (yX2_latestMaker, cX2_latestMaker, 4, (some .int), 1, [453, 451, 452, 70, 0], []),
  (yX2_latestStore, cX2_latestStore, 5, (some .int), 1, [390, 388, 389, 70, 0], [])]
def mtab_1 : List MT := [(yX2_passCycles, cX2_passCycles, 3, none, 5, [619, 617, 618, 70, 0], []),
  (yX2_cyclesToEnd, cX2_cyclesToEnd, 3, (some .int), 5, [338, 336, 337, 70, 0], []),
  (yX2_passCycle, cX2_passCycle, 2, none, 4, [346, 344, 345, 70, 0], []),
  (yX2_retireEntries, cX2_retireEntries, 3, none, 1, [350, 348, 349, 70, 0], []),
  (yX2_finish, cX2_finish, 5, none, 3, [362, 360, 361, 70, 0], []),
  (yX2_operand, cX2_operand, 3, (some .int), 1, [366, 364, 365, 70, 0], []),
  (yX2_finishLoad, cX2_finishLoad, 4, none, 2, [374, 372, 373, 70, 0], []),
  (yX2_breakAlibis, cX2_breakAlibis, 5, none, 2, [406, 404, 405, 70, 0], []),
  (yX2_replay, cX2_replay, 4, none, 1, [410, 408, 409, 70, 0], []),
  (yX2_startEntries, cX2_startEntries, 4, none, 3, [432, 430, 431, 70, 0], []),
  (yX2_issueInstructions, cX2_issueInstructions, 3, none, 2, [448, 446, 447, 70, 0], []),
  (yX2_carryOutPlainly, cX2_carryOutPlainly, 5, none, 2, [596, 594, 595, 70, 0], []),
  (yX2_placeOf, cX2_placeOf, 2, (some .int), 1, [377, 376, 0, 70, 1], []),
  (yX3_init, cX3_init, 1, none, 1, [224, 223, 0, 72, 2], []),
  (yX3_add, cX3_add, 2, none, 0, [719, 717, 718, 72, 0], []),
  (yX3_signAt, cX3_signAt, 2, (some .char), 0, [308, 306, 307, 72, 0], []),
  (yX3_rightSigns, cX3_rightSigns, 3, (some .int), 4, [304, 302, 303, 72, 0], []),
  (yX3_isComplete, cX3_isComplete, 3, (some .boolean), 4, [730, 728, 729, 72, 0], []),
  (yX3_instructions, cX3_instructions, 3, (some .int), 1, [735, 733, 734, 72, 0], []),
  (yX3_nextInstruction, cX3_nextInstruction, 3, (some .int), 1, [757, 755, 756, 72, 0], []),
  (yX3_readInstruction, cX3_readInstruction, 4, none, 3, [740, 738, 739, 72, 0], []),
  (yX3_registerAt, cX3_registerAt, 2, (some .int), 1, [744, 742, 743, 72, 0], []),
  (yX3_digitAt, cX3_digitAt, 2, (some .int), 1, [748, 746, 747, 72, 0], []),
  (yX3_numberAt, cX3_numberAt, 4, (some .int), 2, [753, 751, 752, 72, 0], []),
  (yX3_hashAll, cX3_hashAll, 6, (some .long), 1, [639, 637, 638, 72, 0], []),
  (yX3_isRegister, cX3_isRegister, 1, (some .boolean), 0, [317, 316, 0, 72, 1], []),
  (yX3_isDigit, cX3_isDigit, 1, (some .boolean), 0, [326, 325, 0, 72, 1], []),
  (yX3_next, cX3_next, 2, (some .int), 3, [311, 310, 0, 72, 1], []),
  (yX3_ifRegister, cX3_ifRegister, 2, (some .int), 1, [314, 313, 0, 72, 1], []),
  (yX3_nextOfRightSide, cX3_nextOfRightSide, 1, (some .int), 2, [320, 319, 0, 72, 1], [])]
def mtab_2 : List MT := [(yX3_nextOfNumber, cX3_nextOfNumber, 1, (some .int), 1, [323, 322, 0, 72, 1], []),
  (yX3_nextOfEnd, cX3_nextOfEnd, 1, (some .int), 0, [329, 328, 0, 72, 1], []),
  (yX4_init, cX4_init, 2, none, 3, [89, 88, 0, 69, 2], []),
  (yX4_set, cX4_set, 4, (some .int), 7, [649, 647, 648, 69, 0], []),
  (yX4_putRegister, cX4_putRegister, 3, (some .int), 8, [661, 659, 660, 69, 0], []),
  (yX4_putCell, cX4_putCell, 3, (some .int), 8, [693, 691, 692, 69, 0], []),
  (yX4_putValue, cX4_putValue, 5, (some .int), 7, [665, 664, 13, 69, 0], []),
  (yX4_run, cX4_run, 3, (some .int), 7, [700, 698, 699, 69, 0], []),
  (yX4_checkCycles, cX4_checkCycles, 2, none, 6, [704, 703, 14, 69, 0], []),
  (yX4_flush, cX4_flush, 2, (some .int), 4, [257, 255, 256, 69, 0], []),
  (yX4_again, cX4_again, 2, (some .int), 4, [288, 286, 287, 69, 0], []),
  (yX4_append, cX4_append, 2, (some .int), 6, [713, 711, 712, 69, 0], []),
  (yX4_clearBuffer, cX4_clearBuffer, 2, (some .int), 0, [296, 294, 295, 69, 0], []),
  (yX4_firstError, cX4_firstError, 1, (some .int), 5, [300, 298, 299, 69, 0], []),
  (yX4_load, cX4_load, 4, (some .int), 6, [726, 724, 725, 69, 0], []),
  (yX4_undo, cX4_undo, 1, (some .int), 6, [764, 762, 763, 69, 0], []),
  (yX4_saveState, cX4_saveState, 3, none, 3, [261, 260, 0, 69, 0], []),
  (yX4_instruction, cX4_instruction, 3, (some .int), 7, [772, 770, 771, 69, 0], []),
  (yX4_entry, cX4_entry, 3, (some .int), 7, [779, 777, 778, 69, 0], []),
  (yX4_whyNot, cX4_whyNot, 2, (some .int), 7, [786, 784, 785, 69, 0], []),
  (yX4_register, cX4_register, 3, (some .int), 7, [794, 792, 793, 69, 0], []),
  (yX4_cell, cX4_cell, 3, (some .int), 7, [801, 799, 800, 69, 0], []),
  (yX4_count, cX4_count, 2, (some .int), 7, [476, 474, 475, 69, 0], []),
  (yX4_setting, cX4_setting, 2, (some .int), 7, [556, 554, 555, 69, 0], []),
  (yX4_checkPlace, cX4_checkPlace, 3, none, 6, [560, 559, 4, 69, 0], []),
  (yX4_checkWhat, cX4_checkWhat, 3, none, 6, [480, 479, 2, 69, 0], []),
  (yX4_registerFact, cX4_registerFact, 3, (some .int), 2, [604, 603, 8, 69, 0], []),
  (yX4_cellFact, cX4_cellFact, 3, (some .int), 1, [610, 609, 9, 69, 0], []),
  (yX4_ifRun, cX4_ifRun, 3, (some .int), 7, [816, 814, 815, 69, 0], []),
  (yX4_cyclesLeft, cX4_cyclesLeft, 1, (some .int), 6, [333, 331, 332, 69, 0], [])]
def mtab_3 : List MT := [(yX4_bestWindow, cX4_bestWindow, 2, (some .int), 7, [823, 821, 822, 69, 0], []),
  (yX4_worstLoad, cX4_worstLoad, 5, (some .int), 1, [457, 455, 456, 69, 0], []),
  (yX4_earlyShare, cX4_earlyShare, 1, (some .double), 0, [462, 460, 461, 69, 0], []),
  (yX4_digest, cX4_digest, 4, (some .long), 9, [466, 464, 465, 69, 0], []),
  (yX4_hashNumbers, cX4_hashNumbers, 6, (some .long), 8, [471, 470, 1, 69, 0], []),
  (yX4_hashProgram, cX4_hashProgram, 7, (some .long), 4, [580, 579, 5, 69, 0], []),
  (yX4_hashValues, cX4_hashValues, 7, (some .long), 3, [600, 599, 7, 69, 0], []),
  (yX4_rehearsePlainOrder, cX4_rehearsePlainOrder, 1, none, 3, [592, 591, 6, 69, 0], []),
  (yX4_rehearseCycles, cX4_rehearseCycles, 2, none, 6, [615, 614, 10, 69, 0], []),
  (yX4_rehearsed, cX4_rehearsed, 2, (some .int), 1, [623, 622, 11, 69, 0], []),
  (yX4_rehearseWindows, cX4_rehearseWindows, 4, none, 6, [628, 627, 12, 69, 0], []),
  (yX5_init, cX5_init, 1, none, 1, [828, 827, 0, 73, 2], []),
  (yX5_thrown, cX5_thrown, 1, (some .int), 0, [894, 892, 893, 73, 0], []),
  (yX5_fails, cX5_fails, 2, (some .int), 0, [905, 904, 15, 73, 0], []),
  (yX5_within, cX5_within, 3, (some .boolean), 0, [901, 900, 0, 73, 1], []),
  (yX5_of, cX5_of, 3, (some .int), 0, [951, 950, 21, 73, 0], []),
  (yX5_lay, cX5_lay, 4, none, 0, [959, 958, 23, 73, 0], []),
  (yX5_rule, cX5_rule, 2, (some .int), 0, [913, 912, 17, 73, 0], []),
  (yX5_save, cX5_save, 2, none, 0, [909, 908, 16, 73, 0], []),
  (yX5_keep, cX5_keep, 2, none, 0, [1192, 1191, 59, 73, 0], []),
  (yX5_bring, cX5_bring, 2, none, 0, [1196, 1195, 60, 73, 0], []),
  (yX5_entries, cX5_entries, 1, (some .int), 0, [935, 934, 19, 73, 0], []),
  (yX5_set, cX5_set, 4, (some .int), 1, [898, 896, 897, 73, 0], []),
  (yX5_isValue, cX5_isValue, 2, (some .boolean), 1, [924, 923, 0, 73, 1], []),
  (yX5_puts, cX5_puts, 4, (some .int), 2, [921, 920, 18, 73, 0], []),
  (yX5_putRegister, cX5_putRegister, 3, (some .int), 3, [917, 915, 916, 73, 0], []),
  (yX5_putCell, cX5_putCell, 3, (some .int), 3, [939, 937, 938, 73, 0], []),
  (yX5_makes, cX5_makes, 3, (some .boolean), 1, [997, 996, 29, 73, 0], []),
  (yX5_maker, cX5_maker, 4, (some .int), 2, [993, 992, 28, 73, 0], []),
  (yX5_hasOne, cX5_hasOne, 2, (some .boolean), 1, [1019, 1018, 33, 73, 0], [])]
def mtab_4 : List MT := [(yX5_hasOther, cX5_hasOther, 2, (some .boolean), 1, [1027, 1026, 35, 73, 0], []),
  (yX5_isReady, cX5_isReady, 4, (some .boolean), 3, [1023, 1022, 34, 73, 0], []),
  (yX5_valueOf, cX5_valueOf, 4, (some .int), 3, [989, 988, 27, 73, 0], []),
  (yX5_cellOf, cX5_cellOf, 3, (some .int), 1, [1000, 999, 0, 73, 1], []),
  (yX5_result, cX5_result, 6, (some .int), 2, [1011, 1010, 0, 73, 1], []),
  (yX5_setTo, cX5_setTo, 1, (some .int), 2, [970, 969, 0, 73, 1], []),
  (yX5_retire, cX5_retire, 2, none, 1, [955, 954, 22, 73, 0], []),
  (yX5_finishLoad, cX5_finishLoad, 7, none, 4, [985, 984, 26, 73, 0], []),
  (yX5_isBroken, cX5_isBroken, 4, (some .boolean), 1, [1008, 1007, 31, 73, 0], []),
  (yX5_finishStore, cX5_finishStore, 4, none, 4, [1004, 1003, 30, 73, 0], []),
  (yX5_finish, cX5_finish, 3, none, 5, [967, 966, 25, 73, 0], []),
  (yX5_work, cX5_work, 2, none, 6, [963, 962, 24, 73, 0], []),
  (yX5_isOpenStore, cX5_isOpenStore, 4, (some .boolean), 1, [1031, 1030, 36, 73, 0], []),
  (yX5_reason, cX5_reason, 2, (some .int), 4, [1015, 1014, 32, 73, 0], []),
  (yX5_needs, cX5_needs, 1, (some .int), 0, [1034, 1033, 0, 73, 1], []),
  (yX5_cycle, cX5_cycle, 4, (some .int), 7, [947, 946, 20, 73, 0], []),
  (yX5_run, cX5_run, 4, (some .int), 8, [943, 941, 942, 73, 0], []),
  (yX5_flush, cX5_flush, 2, (some .int), 1, [1038, 1036, 1037, 73, 0], []),
  (yX5_begin, cX5_begin, 2, none, 1, [1046, 1045, 37, 73, 0], []),
  (yX5_again, cX5_again, 2, (some .int), 2, [1042, 1040, 1041, 73, 0], []),
  (yX5_append, cX5_append, 2, (some .int), 1, [1050, 1048, 1049, 73, 0], []),
  (yX5_clearBuffer, cX5_clearBuffer, 2, (some .int), 0, [1054, 1052, 1053, 73, 0], []),
  (yX5_goes, cX5_goes, 3, (some .boolean), 0, [1074, 1073, 41, 73, 0], []),
  (yX5_isRegister, cX5_isRegister, 1, (some .boolean), 1, [1077, 1076, 0, 73, 1], []),
  (yX5_isFigure, cX5_isFigure, 1, (some .boolean), 1, [1088, 1087, 0, 73, 1], []),
  (yX5_begins, cX5_begins, 2, (some .boolean), 2, [1070, 1069, 40, 73, 0], []),
  (yX5_takesRight, cX5_takesRight, 2, (some .boolean), 3, [1081, 1080, 42, 73, 0], []),
  (yX5_takesFigure, cX5_takesFigure, 2, (some .boolean), 2, [1085, 1084, 43, 73, 0], []),
  (yX5_takesSign, cX5_takesSign, 2, (some .boolean), 1, [1100, 1099, 46, 73, 0], []),
  (yX5_takesSecond, cX5_takesSecond, 3, (some .boolean), 2, [1092, 1091, 44, 73, 0], [])]
def mtab_5 : List MT := [(yX5_ends, cX5_ends, 3, (some .boolean), 1, [1096, 1095, 45, 73, 0], []),
  (yX5_takesOne, cX5_takesOne, 3, (some .boolean), 2, [1108, 1107, 48, 73, 0], []),
  (yX5_takesOther, cX5_takesOther, 2, (some .boolean), 2, [1104, 1103, 47, 73, 0], []),
  (yX5_takesOffset, cX5_takesOffset, 3, (some .boolean), 2, [1112, 1111, 49, 73, 0], []),
  (yX5_takes, cX5_takes, 2, (some .boolean), 4, [1066, 1065, 39, 73, 0], []),
  (yX5_scan, cX5_scan, 2, (some .int), 5, [1062, 1061, 38, 73, 0], []),
  (yX5_firstError, cX5_firstError, 1, (some .int), 6, [1058, 1056, 1057, 73, 0], []),
  (yX5_load, cX5_load, 2, (some .int), 6, [1116, 1114, 1115, 73, 0], []),
  (yX5_undo, cX5_undo, 2, (some .int), 1, [1120, 1118, 1119, 73, 0], []),
  (yX5_isInstruction, cX5_isInstruction, 2, (some .boolean), 1, [1128, 1127, 50, 73, 0], []),
  (yX5_instruction, cX5_instruction, 3, (some .int), 2, [1124, 1122, 1123, 73, 0], []),
  (yX5_entryNow, cX5_entryNow, 5, (some .int), 5, [1140, 1139, 52, 73, 0], []),
  (yX5_isEntry, cX5_isEntry, 2, (some .boolean), 1, [1136, 1135, 51, 73, 0], []),
  (yX5_entry, cX5_entry, 3, (some .int), 6, [1132, 1130, 1131, 73, 0], []),
  (yX5_whyNot, cX5_whyNot, 2, (some .int), 5, [1144, 1142, 1143, 73, 0], []),
  (yX5_goPlain, cX5_goPlain, 5, none, 3, [1156, 1155, 54, 73, 0], []),
  (yX5_registerNow, cX5_registerNow, 3, (some .int), 4, [1152, 1151, 53, 73, 0], []),
  (yX5_register, cX5_register, 3, (some .int), 5, [1148, 1146, 1147, 73, 0], []),
  (yX5_cellNow, cX5_cellNow, 3, (some .int), 4, [1164, 1163, 55, 73, 0], []),
  (yX5_cell, cX5_cell, 3, (some .int), 5, [1160, 1158, 1159, 73, 0], []),
  (yX5_isFinished, cX5_isFinished, 1, (some .boolean), 0, [1176, 1175, 57, 73, 0], []),
  (yX5_counted, cX5_counted, 2, (some .int), 1, [1172, 1171, 56, 73, 0], []),
  (yX5_count, cX5_count, 2, (some .int), 2, [1168, 1166, 1167, 73, 0], []),
  (yX5_setting, cX5_setting, 2, (some .int), 1, [1180, 1178, 1179, 73, 0], []),
  (yX5_runNow, cX5_runNow, 6, (some .int), 8, [1188, 1187, 58, 73, 0], []),
  (yX5_ifRun, cX5_ifRun, 3, (some .int), 9, [1184, 1182, 1183, 73, 0], []),
  (yX5_goOn, cX5_goOn, 2, (some .int), 8, [1208, 1207, 62, 73, 0], []),
  (yX5_leftNow, cX5_leftNow, 2, (some .int), 9, [1204, 1203, 61, 73, 0], []),
  (yX5_cyclesLeft, cX5_cyclesLeft, 1, (some .int), 10, [1200, 1198, 1199, 73, 0], []),
  (yX5_windowNow, cX5_windowNow, 8, (some .int), 9, [1216, 1215, 63, 73, 0], [])]
def mtab_6 : List MT := [(yX5_bestWindow, cX5_bestWindow, 2, (some .int), 10, [1212, 1210, 1211, 73, 0], []),
  (yX5_worstNow, cX5_worstNow, 4, (some .int), 1, [1224, 1223, 64, 73, 0], []),
  (yX5_worstLoad, cX5_worstLoad, 1, (some .int), 2, [1220, 1218, 1219, 73, 0], []),
  (yX5_shareNow, cX5_shareNow, 1, (some .double), 0, [1232, 1231, 65, 73, 0], []),
  (yX5_earlyShare, cX5_earlyShare, 1, (some .double), 1, [1228, 1226, 1227, 73, 0], []),
  (yX5_mix, cX5_mix, 3, none, 0, [1241, 1240, 66, 73, 0], []),
  (yX5_mixProgram, cX5_mixProgram, 2, none, 6, [1246, 1245, 67, 73, 0], []),
  (yX5_digest, cX5_digest, 2, (some .long), 10, [1236, 1234, 1235, 73, 0], []),
  (yJxe99ae_isNaN_b9ae7, cJxe99ae_isNaN_b9ae7, 2, (some .boolean), 0, [1252, 1251, 0, 84, 1], []),
  (yJxe99ae_doubleToLongBits_ccdee, cJxe99ae_doubleToLongBits_ccdee, 2, (some .long), 1, [1249, 1248, 0, 84, 1], []),
  (yJxf58ca_isNaN_12338, cJxf58ca_isNaN_12338, 1, (some .boolean), 0, [977, 976, 0, 82, 1], []),
  (yJxf58ca_floatToIntBits_5c35a, cJxf58ca_floatToIntBits_5c35a, 1, (some .int), 1, [974, 973, 0, 82, 1], []),
  (yJ9_floorMod_7cf53, cJ9_floorMod_7cf53, 3, (some .int), 0, [386, 385, 0, 83, 1], []),
  (yL_set, cL_set, 5, (some .int), 8, [643, 642, 0, 68, 1], [(0, 10, 13, 13), (0, 10, 17, 15)]),
  (yL_putRegister, cL_putRegister, 5, (some .int), 9, [656, 655, 0, 68, 1], [(0, 10, 13, 13), (0, 10, 17, 15), (0, 10, 21, 20)]),
  (yL_putCell, cL_putCell, 5, (some .int), 9, [689, 688, 0, 68, 1], [(0, 10, 13, 13), (0, 10, 17, 15), (0, 10, 21, 20)]),
  (yL_run, cL_run, 4, (some .int), 8, [696, 695, 0, 68, 1], [(0, 9, 12, 15), (0, 9, 15, 20)]),
  (yL_append, cL_append, 4, (some .int), 7, [709, 708, 0, 68, 1], [(0, 9, 12, 15), (0, 9, 15, 20)]),
  (yL_load, cL_load, 3, (some .int), 7, [722, 721, 0, 68, 1], [(0, 8, 11, 15), (0, 8, 14, 20)]),
  (yL_undo, cL_undo, 3, (some .int), 7, [760, 759, 0, 68, 1], [(0, 8, 11, 20)]),
  (yL_instruction, cL_instruction, 5, (some .int), 8, [768, 767, 0, 68, 1], [(0, 10, 13, 13), (0, 10, 17, 15)]),
  (yL_entry, cL_entry, 5, (some .int), 8, [775, 774, 0, 68, 1], [(0, 10, 13, 13), (0, 10, 17, 15)]),
  (yL_whyNot, cL_whyNot, 4, (some .int), 8, [782, 781, 0, 68, 1], [(0, 9, 12, 13)]),
  (yL_register, cL_register, 5, (some .int), 8, [790, 789, 0, 68, 1], [(0, 10, 13, 13), (0, 10, 17, 15)]),
  (yL_cell, cL_cell, 5, (some .int), 8, [797, 796, 0, 68, 1], [(0, 10, 13, 13), (0, 10, 17, 15)]),
  (yL_count, cL_count, 4, (some .int), 8, [804, 803, 0, 68, 1], [(0, 9, 12, 15)]),
  (yL_setting, cL_setting, 4, (some .int), 8, [808, 807, 0, 68, 1], [(0, 9, 12, 13)]),
  (yL_ifRun, cL_ifRun, 5, (some .int), 8, [812, 811, 0, 68, 1], [(0, 10, 13, 15)]),
  (yL_bestWindow, cL_bestWindow, 4, (some .int), 8, [819, 818, 0, 68, 1], [(0, 9, 12, 15)]),
  (yL_law, cL_law, 9, (some .boolean), 11, [], [])]
def mtab : List MT := mtab_0 ++ (mtab_1 ++ (mtab_2 ++ (mtab_3 ++ (mtab_4 ++ (mtab_5 ++ (mtab_6))))))
def mt0 : MT := (⟨"", "", ""⟩, ⟨#[]⟩, 0, none, 0, [], [])
def mtg (m : Nat) : MT := mtab.getD m mt0
def yM (m : Nat) : MethodName := (mtg m).1
def cM (m : Nat) : ByteArray := (mtg m).2.1
def xM (m : Nat) : Nat := (mtg m).2.2.1
def rM (m : Nat) : Option FieldType := (mtg m).2.2.2.1
def fM (m : Nat) : Nat := (mtg m).2.2.2.2.1
def wM (m : Nat) (k : Nat) : Nat := (mtg m).2.2.2.2.2.1.getD k 0
def hM (m : Nat) : List (Nat × Nat × Nat × Nat) := (mtg m).2.2.2.2.2.2
end
section
/-- what a field of an object holds: 0 an int, 1 a reference, 2 a long -/
def fty (ci k : Nat) : Nat := bif Nat.beq ci 0 then 0 else bif Nat.beq ci 1 then (bif Nat.blt k 5 then 1 else 0) else bif Nat.beq ci 2 then (bif Nat.beq k 0 then 1 else 0) else bif Nat.beq ci 3 then (bif Nat.blt k 5 then 1 else 0) else (bif Nat.blt k 11 then 1 else bif Nat.beq k 19 then 2 else 0)
/-- all words that a method may use -/
def lw_all : List Jvm.Cond := lw_tbl.filter goodWord
theorem lw_all_tbl {w : Jvm.Cond} (h : w ∈ lw_all) : w ∈ lw_tbl := (List.mem_filter.mp h).1
def gw (i : Nat) (w : Jvm.Cond) : Bool := decide (lw_tbl[i]? = some w) && goodWord w
theorem gw_in {i : Nat} {w : Jvm.Cond} (h : gw i w = true) : w ∈ lw_all := by
  unfold gw at h
  rw [Bool.and_eq_true, decide_eq_true_eq] at h
  exact List.mem_filter.mpr ⟨List.mem_of_getElem? h.1, h.2⟩
/-- a class of ours by its number -/
def clsOf (ci : Nat) : vw_C := vwCl.getD ci ("", fun _ => ("", "", "", false), 0)
def kty (k : Nat) : FieldType := match k with | 5 => .char | 6 => .int | 7 => .object RX1 | 8 => .object RX2 | _ => .long
def excN (E : Nat) : String := match E with | 1 => "java/lang/IndexOutOfBoundsException" | 2 => "java/lang/IllegalArgumentException" | _ => "java/lang/IllegalStateException"
def excP : List String := ["java/lang/RuntimeException", "java/lang/Exception"]
def objI : MethodName := ⟨"java/lang/Object", "<init>", "()V"⟩
def natN (k : Nat) : MethodName := match k with | 5 => ⟨"java/lang/System", "arraycopy", "(Ljava/lang/Object;ILjava/lang/Object;II)V"⟩ | 6 => ⟨"java/lang/Float", "intBitsToFloat", "(I)F"⟩ | 7 => ⟨"java/lang/Float", "floatToRawIntBits", "(F)I"⟩ | _ => ⟨"java/lang/Double", "doubleToRawLongBits", "(D)J"⟩
def hasW (w : Jvm.Cond) : Bool := decide (w ∈ lw_tbl) && goodWord w
def ownM (m : Nat) : String := (yM m).cls
/-- words that a world carries by itself -/
def nestW : List Jvm.Cond := [.methodLinkNest RX2 17 yX1_init "AlibiWindow", .methodLinkNest RX4 25 yX3_init "AlibiWindow", .arrayOver (.object RX1), .arrayOver (.object RX2)]
def nw (w : Jvm.Cond) : Bool := decide (w ∈ nestW)
/-- what a call needs of the tables, by its kind -/
def chkCall (m pc idx : Nat) (aux : List Nat) : Bool := match aux with
  | kd :: y :: na :: wl :: rest => match kd with
    | 3 => gw wl (.methodLink (ownM m) idx objI) && Nat.ble 1 (fM m)
    | 5 => gw wl (.methodLink (ownM m) idx (natN 5)) && Nat.ble 1 (fM m)
    | 6 => gw wl (.methodLink (ownM m) idx (natN 6)) && Nat.ble 1 (fM m)
    | 7 => gw wl (.methodLink (ownM m) idx (natN 7)) && Nat.ble 1 (fM m)
    | 8 => gw wl (.methodLink (ownM m) idx (natN 8)) && Nat.ble 1 (fM m)
    | 4 => nw (.methodLinkNest (ownM m) idx (yM y) "AlibiWindow") && (decide (xM y = rest.getD 1 0) && (decide ((parseMethodDescriptor (yM y).desc).map (fun d => d.parameters.length) = some na) && (Nat.blt (fM y) (fM m) && (Nat.blt y 209 && (Nat.beq (wM y 4) 2 && (decide ((clsOf (rest.getD 0 0)).1 = (yM y).cls) && Nat.blt (rest.getD 0 9) 5))))))
    | 2 => gw wl (.methodLink (ownM m) idx (yM y)) && (decide (xM y = rest.getD 1 0) && (decide ((parseMethodDescriptor (yM y).desc).map (fun d => d.parameters.length) = some na) && (Nat.blt (fM y) (fM m) && (Nat.blt y 209 && (Nat.beq (wM y 4) 2 && (decide ((clsOf (rest.getD 0 0)).1 = (yM y).cls) && Nat.blt (rest.getD 0 9) 5))))))
    | 0 => gw wl (.methodLink (ownM m) idx (yM y)) && (decide (xM y = rest.getD 1 0) && (decide ((parseMethodDescriptor (yM y).desc).map (fun d => d.parameters.length) = some na) && (Nat.blt (fM y) (fM m) && (Nat.blt y 209 && (Nat.beq (wM y 4) 0 && (decide ((clsOf (rest.getD 0 0)).1 = (yM y).cls) && Nat.blt (rest.getD 0 9) 5))))))
    | 1 => gw wl (.methodLink (ownM m) idx (yM y)) && (decide (xM y = rest.getD 1 0) && (decide ((parseMethodDescriptor (yM y).desc).map (fun d => d.parameters.length) = some na) && (Nat.blt (fM y) (fM m) && (Nat.blt y 209 && Nat.beq (wM y 4) 1))))
    | _ => false
  | _ => false
def tabOk (pc : Nat) : Int → List Int → List Nat → Bool
  | _, [], [] => true
  | i, o :: os, k :: t :: r => decide ((k : Int) = i) && (decide ((pc : Int) + o = (t : Int)) && tabOk pc (i + 1) os r)
  | _, _, _ => false
def lookOk (pc : Nat) : List (Int × Int) → List Nat → Bool
  | [], [] => true
  | q :: os, k :: t :: r => decide ((k : Int) = q.1) && (decide ((pc : Int) + q.2 = (t : Int)) && lookOk pc os r)
  | _, _ => false
/-- what 'throw new E(text)' needs -/
def chkThrow (m pc idx E wl si ii ws : Nat) : Bool := gw wl (.classLink (ownM m) idx (excN E)) && Nat.ble 6 (fM m) && Nat.blt 0 E && Nat.blt E 4 && Nat.blt m 209 && (hM m).isEmpty && decide (decode (cM m) (pc + 3) = .ok (.dup, 1)) && decide (decode (cM m) (pc + 4) = .ok (.ldc si, 2)) && decide (decode (cM m) (pc + 6) = .ok (.invokespecial ii, 3)) && decide (decode (cM m) (pc + 9) = .ok (.athrow, 1)) && decide (ownM m = RX4) && Nat.beq ii (match E with | 1 => 186 | 2 => 46 | _ => 81) && (match lw_tbl[ws]? with | some (.stringRef o k _) => decide (o = ownM m) && decide (k = si) | _ => false)
def chk (m pc len : Nat) (ins : Instr) (aux : List Nat) : Bool := match ins with
  | .istore_n k => Nat.beq len 1 && Nat.blt k (xM m)
  | .fstore_n k => Nat.beq len 1 && Nat.blt k (xM m)
  | .astore_n k => Nat.beq len 1 && Nat.blt k (xM m)
  | .lstore_n k => Nat.beq len 1 && Nat.blt (k + 1) (xM m)
  | .dstore_n k => Nat.beq len 1 && Nat.blt (k + 1) (xM m)
  | .istore k => Nat.beq len 2 && Nat.blt k (xM m)
  | .fstore k => Nat.beq len 2 && Nat.blt k (xM m)
  | .astore k => Nat.beq len 2 && Nat.blt k (xM m)
  | .dstore k => Nat.beq len 2 && Nat.blt (k + 1) (xM m)
  | .iinc k _ => Nat.beq len 3 && Nat.blt k (xM m)
  | .iload _ => Nat.beq len 2
  | .fload _ => Nat.beq len 2
  | .dload _ => Nat.beq len 2
  | .aload _ => Nat.beq len 2
  | .bipush _ => Nat.beq len 2
  | .sipush _ => Nat.beq len 3
  | .ldc idx => Nat.beq len 2 && (match aux with | 0 :: v :: wl :: _ => gw wl (.constant (ownM m) idx (Int32.ofNat v)) | 1 :: v :: wl :: _ => gw wl (.constantFloat (ownM m) idx (UInt32.ofNat v)) | _ => true)
  | .ldc2_w idx => Nat.beq len 3 && (match aux with | 2 :: v :: wl :: _ => gw wl (.constantLong (ownM m) idx (Int64.ofNat v)) | 3 :: v :: wl :: _ => gw wl (.constantDouble (ownM m) idx (UInt64.ofNat v)) | _ => false)
  | .ifCond _ off => Nat.beq len 3 && decide ((pc : Int) + off = ((aux.getD 0 0 : Nat) : Int))
  | .if_icmp _ off => Nat.beq len 3 && decide ((pc : Int) + off = ((aux.getD 0 0 : Nat) : Int))
  | .goto off => Nat.beq len 3 && decide ((pc : Int) + off = ((aux.getD 0 0 : Nat) : Int))
  | .tableswitch d lo hi offs => decide ((pc : Int) + d = ((aux.getD 0 0 : Nat) : Int)) && (decide (0 ≤ lo) && (decide (hi < 2147483648) && (decide ((offs.toList.length : Int) = hi - lo + 1) && tabOk pc lo offs.toList aux.tail)))
  | .lookupswitch d ps => decide ((pc : Int) + d = ((aux.getD 0 0 : Nat) : Int)) && ((ps.toList.zip (ps.toList.drop 1)).all (fun (a, next) => a.1 < next.1) && (ps.toList.all (fun q => decide (0 ≤ q.1 ∧ q.1 < 2147483648)) && lookOk pc ps.toList aux.tail))
  | .getfield idx => Nat.beq len 3 && (match aux with
    | ci :: k :: tag :: wl :: _ => Nat.blt ci 5 && (Nat.blt k (clsOf ci).2.2 && (Nat.beq tag (fty ci k) && gw wl (.fieldLink (ownM m) idx ((clsOf ci).2.1 k).1 ((clsOf ci).2.1 k).2.1 ((clsOf ci).2.1 k).2.2.1)))
    | _ => false)
  | .putfield idx => Nat.beq len 3 && (match aux with
    | ci :: k :: tag :: wl :: _ => Nat.blt ci 5 && (Nat.blt k (clsOf ci).2.2 && (Nat.beq tag (fty ci k) && (gw wl (.fieldLink (ownM m) idx ((clsOf ci).2.1 k).1 ((clsOf ci).2.1 k).2.1 ((clsOf ci).2.1 k).2.2.1) && (match ((clsOf ci).2.1 k).2.2.2 with | true => decide ((yM m).name = "<init>") && decide (((clsOf ci).2.1 k).1 = ownM m) | false => true))))
    | _ => false)
  | .arraylength => Nat.beq len 1 && (match aux with | [] => true | 1 :: _ => Nat.beq m 209 | _ => false)
  | .iaload => Nat.beq len 1 && (match aux with | [] => true | 1 :: _ => Nat.beq m 209 | _ => false)
  | .newarray ty => Nat.beq len 2 && (match aux with | kd :: wl :: _ => gw wl (.arrayClass (newarray.typeOf ty)) && decide (newarray.typeOf ty = kty kd) && (Nat.beq kd 5 || Nat.beq kd 6 || Nat.beq kd 9) | _ => false)
  | .anewarray idx => Nat.beq len 3 && (match aux with | kd :: wl :: wo :: _ => (Nat.beq kd 7 || Nat.beq kd 8) && (gw wl (.classLink (ownM m) idx (match kd with | 7 => RX1 | _ => RX2)) && nw (.arrayOver (.object (match kd with | 7 => RX1 | _ => RX2)))) | _ => false)
  | .new idx => Nat.beq len 3 && (match aux with
    | 9 :: E :: wl :: si :: ii :: ws :: _ => chkThrow m pc idx E wl si ii ws
    | ci :: wl :: wi :: _ => Nat.blt ci 5 && (gw wl (.classLink (ownM m) idx (clsOf ci).1) && gw wi (.instantiable (clsOf ci).1 (clsOf ci).2.2))
    | _ => false)
  | .invokevirtual idx => Nat.beq len 3 && (Nat.beq (aux.getD 0 99) 0 && chkCall m pc idx aux)
  | .invokestatic idx => Nat.beq len 3 && ((Nat.beq (aux.getD 0 99) 1 || (Nat.ble 5 (aux.getD 0 99) && Nat.ble (aux.getD 0 99) 8)) && chkCall m pc idx aux)
  | .invokespecial idx => Nat.beq len 3 && (((match aux with | [] => true | _ => false) || (Nat.ble 2 (aux.getD 0 99) && Nat.ble (aux.getD 0 99) 4)) && (match aux with | [] => true | _ => chkCall m pc idx aux))
  | .ireturn => Nat.beq len 1 && (match aux with | 0 :: _ => decide (rM m = some .int) | 1 :: _ => decide (rM m = some .boolean) | 2 :: _ => decide (rM m = some .char) | _ => false)
  | .lreturn => Nat.beq len 1 && decide (rM m = some .long)
  | .freturn => Nat.beq len 1 && decide (rM m = some .float)
  | .dreturn => Nat.beq len 1 && decide (rM m = some .double)
  | .areturn => Nat.beq len 1 && decide (rM m = some (.object RX1))
  | .return_ => Nat.beq len 1 && decide (rM m = none)
  | _ => Nat.beq len 1
def okI (m pc : Nat) (e : IE) : Bool := decide (decode (cM m) pc = .ok (e.1, e.2.1)) && chk m pc e.2.1 e.1 e.2.2
def okP (m pc : Nat) : Bool := match I m pc with | some e => okI m pc e | none => true
def okM (m : Nat) : Bool := (List.range (J m).1).all (okP m)
/-- a method's own words -/
def okY (m : Nat) : Bool := plainFor (yM m) && ((match hM m with | [] => gw (wM m 0) (.code (yM m) (cM m) (xM m) (rM m)) | h :: r => gw (wM m 0) (.codeWith (yM m) (cM m) (xM m) (rM m) (h :: r))) && (gw (wM m 3) (.initialized (yM m).cls) && (match wM m 4 with
  | 0 => gw (wM m 1) (.instanceMethod (yM m)) && gw (wM m 2) (.selects (yM m).cls (yM m) (yM m))
  | 1 => gw (wM m 1) (.static (yM m))
  | _ => gw (wM m 1) (.instanceMethod (yM m)) && (decide ((yM m).name = "<init>") && decide (rM m = none))) && (decide ((yM m).cls ≠ "java/lang/invoke/MethodHandle") && (decide ((yM m).cls ≠ "java/lang/invoke/VarHandle") && Nat.ble (xM m) 19))))
end
section
set_option maxRecDepth 100000 in
theorem okM_0 : okM 0 = true := by decide +kernel
set_option maxRecDepth 100000 in
theorem okY_0 : okY 0 = true := by decide +kernel
set_option maxRecDepth 100000 in
theorem okM_1 : okM 1 = true := by decide +kernel
set_option maxRecDepth 100000 in
theorem okY_1 : okY 1 = true := by decide +kernel
set_option maxRecDepth 100000 in
theorem okM_2 : okM 2 = true := by decide +kernel
set_option maxRecDepth 100000 in
theorem okY_2 : okY 2 = true := by decide +kernel
set_option maxRecDepth 100000 in
theorem okM_3 : okM 3 = true := by decide +kernel
set_option maxRecDepth 100000 in
theorem okY_3 : okY 3 = true := by decide +kernel
set_option maxRecDepth 100000 in
theorem okM_4 : okM 4 = true := by decide +kernel
set_option maxRecDepth 100000 in
theorem okY_4 : okY 4 = true := by decide +kernel
set_option maxRecDepth 100000 in
theorem okM_5 : okM 5 = true := by decide +kernel
set_option maxRecDepth 100000 in
theorem okY_5 : okY 5 = true := by decide +kernel
set_option maxRecDepth 100000 in
theorem okM_6 : okM 6 = true := by decide +kernel
set_option maxRecDepth 100000 in
theorem okY_6 : okY 6 = true := by decide +kernel
set_option maxRecDepth 100000 in
theorem okM_7 : okM 7 = true := by decide +kernel
set_option maxRecDepth 100000 in
theorem okY_7 : okY 7 = true := by decide +kernel
set_option maxRecDepth 100000 in
theorem okM_8 : okM 8 = true := by decide +kernel
set_option maxRecDepth 100000 in
theorem okY_8 : okY 8 = true := by decide +kernel
set_option maxRecDepth 100000 in
theorem okM_9 : okM 9 = true := by decide +kernel
set_option maxRecDepth 100000 in
theorem okY_9 : okY 9 = true := by decide +kernel
set_option maxRecDepth 100000 in
theorem okM_10 : okM 10 = true := by decide +kernel
set_option maxRecDepth 100000 in
theorem okY_10 : okY 10 = true := by decide +kernel
set_option maxRecDepth 100000 in
theorem okM_11 : okM 11 = true := by decide +kernel
set_option maxRecDepth 100000 in
theorem okY_11 : okY 11 = true := by decide +kernel
set_option maxRecDepth 100000 in
theorem okM_12 : okM 12 = true := by decide +kernel
set_option maxRecDepth 100000 in
theorem okY_12 : okY 12 = true := by decide +kernel
set_option maxRecDepth 100000 in
theorem okM_13 : okM 13 = true := by decide +kernel
set_option maxRecDepth 100000 in
theorem okY_13 : okY 13 = true := by decide +kernel
set_option maxRecDepth 100000 in
theorem okM_14 : okM 14 = true := by decide +kernel
set_option maxRecDepth 100000 in
theorem okY_14 : okY 14 = true := by decide +kernel
set_option maxRecDepth 100000 in
theorem okM_15 : okM 15 = true := by decide +kernel
set_option maxRecDepth 100000 in
theorem okY_15 : okY 15 = true := by decide +kernel
set_option maxRecDepth 100000 in
theorem okM_16 : okM 16 = true := by decide +kernel
set_option maxRecDepth 100000 in
theorem okY_16 : okY 16 = true := by decide +kernel
set_option maxRecDepth 100000 in
theorem okM_17 : okM 17 = true := by decide +kernel
set_option maxRecDepth 100000 in
theorem okY_17 : okY 17 = true := by decide +kernel
set_option maxRecDepth 100000 in
theorem okM_18 : okM 18 = true := by decide +kernel
set_option maxRecDepth 100000 in
theorem okY_18 : okY 18 = true := by decide +kernel
set_option maxRecDepth 100000 in
theorem okM_19 : okM 19 = true := by decide +kernel
set_option maxRecDepth 100000 in
theorem okY_19 : okY 19 = true := by decide +kernel
set_option maxRecDepth 100000 in
theorem okM_20 : okM 20 = true := by decide +kernel
set_option maxRecDepth 100000 in
theorem okY_20 : okY 20 = true := by decide +kernel
set_option maxRecDepth 100000 in
theorem okM_21 : okM 21 = true := by decide +kernel
set_option maxRecDepth 100000 in
theorem okY_21 : okY 21 = true := by decide +kernel
set_option maxRecDepth 100000 in
theorem okM_22 : okM 22 = true := by decide +kernel
set_option maxRecDepth 100000 in
theorem okY_22 : okY 22 = true := by decide +kernel
set_option maxRecDepth 100000 in
theorem okM_23 : okM 23 = true := by decide +kernel
set_option maxRecDepth 100000 in
theorem okY_23 : okY 23 = true := by decide +kernel
set_option maxRecDepth 100000 in
theorem okM_24 : okM 24 = true := by decide +kernel
set_option maxRecDepth 100000 in
theorem okY_24 : okY 24 = true := by decide +kernel
set_option maxRecDepth 100000 in
theorem okM_25 : okM 25 = true := by decide +kernel
set_option maxRecDepth 100000 in
theorem okY_25 : okY 25 = true := by decide +kernel
set_option maxRecDepth 100000 in
theorem okM_26 : okM 26 = true := by decide +kernel
set_option maxRecDepth 100000 in
theorem okY_26 : okY 26 = true := by decide +kernel
set_option maxRecDepth 100000 in
theorem okM_27 : okM 27 = true := by decide +kernel
set_option maxRecDepth 100000 in
theorem okY_27 : okY 27 = true := by decide +kernel
set_option maxRecDepth 100000 in
theorem okM_28 : okM 28 = true := by decide +kernel
set_option maxRecDepth 100000 in
theorem okY_28 : okY 28 = true := by decide +kernel
set_option maxRecDepth 100000 in
theorem okM_29 : okM 29 = true := by decide +kernel
set_option maxRecDepth 100000 in
theorem okY_29 : okY 29 = true := by decide +kernel
set_option maxRecDepth 100000 in
theorem okM_30 : okM 30 = true := by decide +kernel
set_option maxRecDepth 100000 in
theorem okY_30 : okY 30 = true := by decide +kernel
set_option maxRecDepth 100000 in
theorem okM_31 : okM 31 = true := by decide +kernel
set_option maxRecDepth 100000 in
theorem okY_31 : okY 31 = true := by decide +kernel
set_option maxRecDepth 100000 in
theorem okM_32 : okM 32 = true := by decide +kernel
set_option maxRecDepth 100000 in
theorem okY_32 : okY 32 = true := by decide +kernel
set_option maxRecDepth 100000 in
theorem okM_33 : okM 33 = true := by decide +kernel
set_option maxRecDepth 100000 in
theorem okY_33 : okY 33 = true := by decide +kernel
set_option maxRecDepth 100000 in
theorem okM_34 : okM 34 = true := by decide +kernel
set_option maxRecDepth 100000 in
theorem okY_34 : okY 34 = true := by decide +kernel
end
section
set_option maxRecDepth 100000 in
theorem okM_35 : okM 35 = true := by decide +kernel
set_option maxRecDepth 100000 in
theorem okY_35 : okY 35 = true := by decide +kernel
set_option maxRecDepth 100000 in
theorem okM_36 : okM 36 = true := by decide +kernel
set_option maxRecDepth 100000 in
theorem okY_36 : okY 36 = true := by decide +kernel
set_option maxRecDepth 100000 in
theorem okM_37 : okM 37 = true := by decide +kernel
set_option maxRecDepth 100000 in
theorem okY_37 : okY 37 = true := by decide +kernel
set_option maxRecDepth 100000 in
theorem okM_38 : okM 38 = true := by decide +kernel
set_option maxRecDepth 100000 in
theorem okY_38 : okY 38 = true := by decide +kernel
set_option maxRecDepth 100000 in
theorem okM_39 : okM 39 = true := by decide +kernel
set_option maxRecDepth 100000 in
theorem okY_39 : okY 39 = true := by decide +kernel
set_option maxRecDepth 100000 in
theorem okM_40 : okM 40 = true := by decide +kernel
set_option maxRecDepth 100000 in
theorem okY_40 : okY 40 = true := by decide +kernel
set_option maxRecDepth 100000 in
theorem okM_41 : okM 41 = true := by decide +kernel
set_option maxRecDepth 100000 in
theorem okY_41 : okY 41 = true := by decide +kernel
set_option maxRecDepth 100000 in
theorem okM_42 : okM 42 = true := by decide +kernel
set_option maxRecDepth 100000 in
theorem okY_42 : okY 42 = true := by decide +kernel
set_option maxRecDepth 100000 in
theorem okM_43 : okM 43 = true := by decide +kernel
set_option maxRecDepth 100000 in
theorem okY_43 : okY 43 = true := by decide +kernel
set_option maxRecDepth 100000 in
theorem okM_44 : okM 44 = true := by decide +kernel
set_option maxRecDepth 100000 in
theorem okY_44 : okY 44 = true := by decide +kernel
set_option maxRecDepth 100000 in
theorem okM_45 : okM 45 = true := by decide +kernel
set_option maxRecDepth 100000 in
theorem okY_45 : okY 45 = true := by decide +kernel
set_option maxRecDepth 100000 in
theorem okM_46 : okM 46 = true := by decide +kernel
set_option maxRecDepth 100000 in
theorem okY_46 : okY 46 = true := by decide +kernel
set_option maxRecDepth 100000 in
theorem okM_47 : okM 47 = true := by decide +kernel
set_option maxRecDepth 100000 in
theorem okY_47 : okY 47 = true := by decide +kernel
set_option maxRecDepth 100000 in
theorem okM_48 : okM 48 = true := by decide +kernel
set_option maxRecDepth 100000 in
theorem okY_48 : okY 48 = true := by decide +kernel
set_option maxRecDepth 100000 in
theorem okM_49 : okM 49 = true := by decide +kernel
set_option maxRecDepth 100000 in
theorem okY_49 : okY 49 = true := by decide +kernel
set_option maxRecDepth 100000 in
theorem okM_50 : okM 50 = true := by decide +kernel
set_option maxRecDepth 100000 in
theorem okY_50 : okY 50 = true := by decide +kernel
set_option maxRecDepth 100000 in
theorem okM_51 : okM 51 = true := by decide +kernel
set_option maxRecDepth 100000 in
theorem okY_51 : okY 51 = true := by decide +kernel
set_option maxRecDepth 100000 in
theorem okM_52 : okM 52 = true := by decide +kernel
set_option maxRecDepth 100000 in
theorem okY_52 : okY 52 = true := by decide +kernel
set_option maxRecDepth 100000 in
theorem okM_53 : okM 53 = true := by decide +kernel
set_option maxRecDepth 100000 in
theorem okY_53 : okY 53 = true := by decide +kernel
set_option maxRecDepth 100000 in
theorem okM_54 : okM 54 = true := by decide +kernel
set_option maxRecDepth 100000 in
theorem okY_54 : okY 54 = true := by decide +kernel
set_option maxRecDepth 100000 in
theorem okM_55 : okM 55 = true := by decide +kernel
set_option maxRecDepth 100000 in
theorem okY_55 : okY 55 = true := by decide +kernel
set_option maxRecDepth 100000 in
theorem okM_56 : okM 56 = true := by decide +kernel
set_option maxRecDepth 100000 in
theorem okY_56 : okY 56 = true := by decide +kernel
set_option maxRecDepth 100000 in
theorem okM_57 : okM 57 = true := by decide +kernel
set_option maxRecDepth 100000 in
theorem okY_57 : okY 57 = true := by decide +kernel
set_option maxRecDepth 100000 in
theorem okM_58 : okM 58 = true := by decide +kernel
set_option maxRecDepth 100000 in
theorem okY_58 : okY 58 = true := by decide +kernel
set_option maxRecDepth 100000 in
theorem okM_59 : okM 59 = true := by decide +kernel
set_option maxRecDepth 100000 in
theorem okY_59 : okY 59 = true := by decide +kernel
set_option maxRecDepth 100000 in
theorem okM_60 : okM 60 = true := by decide +kernel
set_option maxRecDepth 100000 in
theorem okY_60 : okY 60 = true := by decide +kernel
set_option maxRecDepth 100000 in
theorem okM_61 : okM 61 = true := by decide +kernel
set_option maxRecDepth 100000 in
theorem okY_61 : okY 61 = true := by decide +kernel
set_option maxRecDepth 100000 in
theorem okM_62 : okM 62 = true := by decide +kernel
set_option maxRecDepth 100000 in
theorem okY_62 : okY 62 = true := by decide +kernel
set_option maxRecDepth 100000 in
theorem okM_63 : okM 63 = true := by decide +kernel
set_option maxRecDepth 100000 in
theorem okY_63 : okY 63 = true := by decide +kernel
set_option maxRecDepth 100000 in
theorem okM_64 : okM 64 = true := by decide +kernel
set_option maxRecDepth 100000 in
theorem okY_64 : okY 64 = true := by decide +kernel
set_option maxRecDepth 100000 in
theorem okM_65 : okM 65 = true := by decide +kernel
set_option maxRecDepth 100000 in
theorem okY_65 : okY 65 = true := by decide +kernel
set_option maxRecDepth 100000 in
theorem okM_66 : okM 66 = true := by decide +kernel
set_option maxRecDepth 100000 in
theorem okY_66 : okY 66 = true := by decide +kernel
set_option maxRecDepth 100000 in
theorem okM_67 : okM 67 = true := by decide +kernel
set_option maxRecDepth 100000 in
theorem okY_67 : okY 67 = true := by decide +kernel
set_option maxRecDepth 100000 in
theorem okM_68 : okM 68 = true := by decide +kernel
set_option maxRecDepth 100000 in
theorem okY_68 : okY 68 = true := by decide +kernel
set_option maxRecDepth 100000 in
theorem okM_69 : okM 69 = true := by decide +kernel
set_option maxRecDepth 100000 in
theorem okY_69 : okY 69 = true := by decide +kernel
end
section
set_option maxRecDepth 100000 in
theorem okM_70 : okM 70 = true := by decide +kernel
set_option maxRecDepth 100000 in
theorem okY_70 : okY 70 = true := by decide +kernel
set_option maxRecDepth 100000 in
theorem okM_71 : okM 71 = true := by decide +kernel
set_option maxRecDepth 100000 in
theorem okY_71 : okY 71 = true := by decide +kernel
set_option maxRecDepth 100000 in
theorem okM_72 : okM 72 = true := by decide +kernel
set_option maxRecDepth 100000 in
theorem okY_72 : okY 72 = true := by decide +kernel
set_option maxRecDepth 100000 in
theorem okM_73 : okM 73 = true := by decide +kernel
set_option maxRecDepth 100000 in
theorem okY_73 : okY 73 = true := by decide +kernel
set_option maxRecDepth 100000 in
theorem okM_74 : okM 74 = true := by decide +kernel
set_option maxRecDepth 100000 in
theorem okY_74 : okY 74 = true := by decide +kernel
set_option maxRecDepth 100000 in
theorem okM_75 : okM 75 = true := by decide +kernel
set_option maxRecDepth 100000 in
theorem okY_75 : okY 75 = true := by decide +kernel
set_option maxRecDepth 100000 in
theorem okM_76 : okM 76 = true := by decide +kernel
set_option maxRecDepth 100000 in
theorem okY_76 : okY 76 = true := by decide +kernel
set_option maxRecDepth 100000 in
theorem okM_77 : okM 77 = true := by decide +kernel
set_option maxRecDepth 100000 in
theorem okY_77 : okY 77 = true := by decide +kernel
set_option maxRecDepth 100000 in
theorem okM_78 : okM 78 = true := by decide +kernel
set_option maxRecDepth 100000 in
theorem okY_78 : okY 78 = true := by decide +kernel
set_option maxRecDepth 100000 in
theorem okM_79 : okM 79 = true := by decide +kernel
set_option maxRecDepth 100000 in
theorem okY_79 : okY 79 = true := by decide +kernel
set_option maxRecDepth 100000 in
theorem okM_80 : okM 80 = true := by decide +kernel
set_option maxRecDepth 100000 in
theorem okY_80 : okY 80 = true := by decide +kernel
set_option maxRecDepth 100000 in
theorem okM_81 : okM 81 = true := by decide +kernel
set_option maxRecDepth 100000 in
theorem okY_81 : okY 81 = true := by decide +kernel
set_option maxRecDepth 100000 in
theorem okM_82 : okM 82 = true := by decide +kernel
set_option maxRecDepth 100000 in
theorem okY_82 : okY 82 = true := by decide +kernel
set_option maxRecDepth 100000 in
theorem okM_83 : okM 83 = true := by decide +kernel
set_option maxRecDepth 100000 in
theorem okY_83 : okY 83 = true := by decide +kernel
set_option maxRecDepth 100000 in
theorem okM_84 : okM 84 = true := by decide +kernel
set_option maxRecDepth 100000 in
theorem okY_84 : okY 84 = true := by decide +kernel
set_option maxRecDepth 100000 in
theorem okM_85 : okM 85 = true := by decide +kernel
set_option maxRecDepth 100000 in
theorem okY_85 : okY 85 = true := by decide +kernel
set_option maxRecDepth 100000 in
theorem okM_86 : okM 86 = true := by decide +kernel
set_option maxRecDepth 100000 in
theorem okY_86 : okY 86 = true := by decide +kernel
set_option maxRecDepth 100000 in
theorem okM_87 : okM 87 = true := by decide +kernel
set_option maxRecDepth 100000 in
theorem okY_87 : okY 87 = true := by decide +kernel
set_option maxRecDepth 100000 in
theorem okM_88 : okM 88 = true := by decide +kernel
set_option maxRecDepth 100000 in
theorem okY_88 : okY 88 = true := by decide +kernel
set_option maxRecDepth 100000 in
theorem okM_89 : okM 89 = true := by decide +kernel
set_option maxRecDepth 100000 in
theorem okY_89 : okY 89 = true := by decide +kernel
set_option maxRecDepth 100000 in
theorem okM_90 : okM 90 = true := by decide +kernel
set_option maxRecDepth 100000 in
theorem okY_90 : okY 90 = true := by decide +kernel
set_option maxRecDepth 100000 in
theorem okM_91 : okM 91 = true := by decide +kernel
set_option maxRecDepth 100000 in
theorem okY_91 : okY 91 = true := by decide +kernel
set_option maxRecDepth 100000 in
theorem okM_92 : okM 92 = true := by decide +kernel
set_option maxRecDepth 100000 in
theorem okY_92 : okY 92 = true := by decide +kernel
set_option maxRecDepth 100000 in
theorem okM_93 : okM 93 = true := by decide +kernel
set_option maxRecDepth 100000 in
theorem okY_93 : okY 93 = true := by decide +kernel
set_option maxRecDepth 100000 in
theorem okM_94 : okM 94 = true := by decide +kernel
set_option maxRecDepth 100000 in
theorem okY_94 : okY 94 = true := by decide +kernel
set_option maxRecDepth 100000 in
theorem okM_95 : okM 95 = true := by decide +kernel
set_option maxRecDepth 100000 in
theorem okY_95 : okY 95 = true := by decide +kernel
set_option maxRecDepth 100000 in
theorem okM_96 : okM 96 = true := by decide +kernel
set_option maxRecDepth 100000 in
theorem okY_96 : okY 96 = true := by decide +kernel
set_option maxRecDepth 100000 in
theorem okM_97 : okM 97 = true := by decide +kernel
set_option maxRecDepth 100000 in
theorem okY_97 : okY 97 = true := by decide +kernel
set_option maxRecDepth 100000 in
theorem okM_98 : okM 98 = true := by decide +kernel
set_option maxRecDepth 100000 in
theorem okY_98 : okY 98 = true := by decide +kernel
set_option maxRecDepth 100000 in
theorem okM_99 : okM 99 = true := by decide +kernel
set_option maxRecDepth 100000 in
theorem okY_99 : okY 99 = true := by decide +kernel
set_option maxRecDepth 100000 in
theorem okM_100 : okM 100 = true := by decide +kernel
set_option maxRecDepth 100000 in
theorem okY_100 : okY 100 = true := by decide +kernel
set_option maxRecDepth 100000 in
theorem okM_101 : okM 101 = true := by decide +kernel
set_option maxRecDepth 100000 in
theorem okY_101 : okY 101 = true := by decide +kernel
set_option maxRecDepth 100000 in
theorem okM_102 : okM 102 = true := by decide +kernel
set_option maxRecDepth 100000 in
theorem okY_102 : okY 102 = true := by decide +kernel
set_option maxRecDepth 100000 in
theorem okM_103 : okM 103 = true := by decide +kernel
set_option maxRecDepth 100000 in
theorem okY_103 : okY 103 = true := by decide +kernel
set_option maxRecDepth 100000 in
theorem okM_104 : okM 104 = true := by decide +kernel
set_option maxRecDepth 100000 in
theorem okY_104 : okY 104 = true := by decide +kernel
end
section
set_option maxRecDepth 100000 in
theorem okM_105 : okM 105 = true := by decide +kernel
set_option maxRecDepth 100000 in
theorem okY_105 : okY 105 = true := by decide +kernel
set_option maxRecDepth 100000 in
theorem okM_106 : okM 106 = true := by decide +kernel
set_option maxRecDepth 100000 in
theorem okY_106 : okY 106 = true := by decide +kernel
set_option maxRecDepth 100000 in
theorem okM_107 : okM 107 = true := by decide +kernel
set_option maxRecDepth 100000 in
theorem okY_107 : okY 107 = true := by decide +kernel
set_option maxRecDepth 100000 in
theorem okM_108 : okM 108 = true := by decide +kernel
set_option maxRecDepth 100000 in
theorem okY_108 : okY 108 = true := by decide +kernel
set_option maxRecDepth 100000 in
theorem okM_109 : okM 109 = true := by decide +kernel
set_option maxRecDepth 100000 in
theorem okY_109 : okY 109 = true := by decide +kernel
set_option maxRecDepth 100000 in
theorem okM_110 : okM 110 = true := by decide +kernel
set_option maxRecDepth 100000 in
theorem okY_110 : okY 110 = true := by decide +kernel
set_option maxRecDepth 100000 in
theorem okM_111 : okM 111 = true := by decide +kernel
set_option maxRecDepth 100000 in
theorem okY_111 : okY 111 = true := by decide +kernel
set_option maxRecDepth 100000 in
theorem okM_112 : okM 112 = true := by decide +kernel
set_option maxRecDepth 100000 in
theorem okY_112 : okY 112 = true := by decide +kernel
set_option maxRecDepth 100000 in
theorem okM_113 : okM 113 = true := by decide +kernel
set_option maxRecDepth 100000 in
theorem okY_113 : okY 113 = true := by decide +kernel
set_option maxRecDepth 100000 in
theorem okM_114 : okM 114 = true := by decide +kernel
set_option maxRecDepth 100000 in
theorem okY_114 : okY 114 = true := by decide +kernel
set_option maxRecDepth 100000 in
theorem okM_115 : okM 115 = true := by decide +kernel
set_option maxRecDepth 100000 in
theorem okY_115 : okY 115 = true := by decide +kernel
set_option maxRecDepth 100000 in
theorem okM_116 : okM 116 = true := by decide +kernel
set_option maxRecDepth 100000 in
theorem okY_116 : okY 116 = true := by decide +kernel
set_option maxRecDepth 100000 in
theorem okM_117 : okM 117 = true := by decide +kernel
set_option maxRecDepth 100000 in
theorem okY_117 : okY 117 = true := by decide +kernel
set_option maxRecDepth 100000 in
theorem okM_118 : okM 118 = true := by decide +kernel
set_option maxRecDepth 100000 in
theorem okY_118 : okY 118 = true := by decide +kernel
set_option maxRecDepth 100000 in
theorem okM_119 : okM 119 = true := by decide +kernel
set_option maxRecDepth 100000 in
theorem okY_119 : okY 119 = true := by decide +kernel
set_option maxRecDepth 100000 in
theorem okM_120 : okM 120 = true := by decide +kernel
set_option maxRecDepth 100000 in
theorem okY_120 : okY 120 = true := by decide +kernel
set_option maxRecDepth 100000 in
theorem okM_121 : okM 121 = true := by decide +kernel
set_option maxRecDepth 100000 in
theorem okY_121 : okY 121 = true := by decide +kernel
set_option maxRecDepth 100000 in
theorem okM_122 : okM 122 = true := by decide +kernel
set_option maxRecDepth 100000 in
theorem okY_122 : okY 122 = true := by decide +kernel
set_option maxRecDepth 100000 in
theorem okM_123 : okM 123 = true := by decide +kernel
set_option maxRecDepth 100000 in
theorem okY_123 : okY 123 = true := by decide +kernel
set_option maxRecDepth 100000 in
theorem okM_124 : okM 124 = true := by decide +kernel
set_option maxRecDepth 100000 in
theorem okY_124 : okY 124 = true := by decide +kernel
set_option maxRecDepth 100000 in
theorem okM_125 : okM 125 = true := by decide +kernel
set_option maxRecDepth 100000 in
theorem okY_125 : okY 125 = true := by decide +kernel
set_option maxRecDepth 100000 in
theorem okM_126 : okM 126 = true := by decide +kernel
set_option maxRecDepth 100000 in
theorem okY_126 : okY 126 = true := by decide +kernel
set_option maxRecDepth 100000 in
theorem okM_127 : okM 127 = true := by decide +kernel
set_option maxRecDepth 100000 in
theorem okY_127 : okY 127 = true := by decide +kernel
set_option maxRecDepth 100000 in
theorem okM_128 : okM 128 = true := by decide +kernel
set_option maxRecDepth 100000 in
theorem okY_128 : okY 128 = true := by decide +kernel
set_option maxRecDepth 100000 in
theorem okM_129 : okM 129 = true := by decide +kernel
set_option maxRecDepth 100000 in
theorem okY_129 : okY 129 = true := by decide +kernel
set_option maxRecDepth 100000 in
theorem okM_130 : okM 130 = true := by decide +kernel
set_option maxRecDepth 100000 in
theorem okY_130 : okY 130 = true := by decide +kernel
set_option maxRecDepth 100000 in
theorem okM_131 : okM 131 = true := by decide +kernel
set_option maxRecDepth 100000 in
theorem okY_131 : okY 131 = true := by decide +kernel
set_option maxRecDepth 100000 in
theorem okM_132 : okM 132 = true := by decide +kernel
set_option maxRecDepth 100000 in
theorem okY_132 : okY 132 = true := by decide +kernel
set_option maxRecDepth 100000 in
theorem okM_133 : okM 133 = true := by decide +kernel
set_option maxRecDepth 100000 in
theorem okY_133 : okY 133 = true := by decide +kernel
set_option maxRecDepth 100000 in
theorem okM_134 : okM 134 = true := by decide +kernel
set_option maxRecDepth 100000 in
theorem okY_134 : okY 134 = true := by decide +kernel
set_option maxRecDepth 100000 in
theorem okM_135 : okM 135 = true := by decide +kernel
set_option maxRecDepth 100000 in
theorem okY_135 : okY 135 = true := by decide +kernel
set_option maxRecDepth 100000 in
theorem okM_136 : okM 136 = true := by decide +kernel
set_option maxRecDepth 100000 in
theorem okY_136 : okY 136 = true := by decide +kernel
set_option maxRecDepth 100000 in
theorem okM_137 : okM 137 = true := by decide +kernel
set_option maxRecDepth 100000 in
theorem okY_137 : okY 137 = true := by decide +kernel
set_option maxRecDepth 100000 in
theorem okM_138 : okM 138 = true := by decide +kernel
set_option maxRecDepth 100000 in
theorem okY_138 : okY 138 = true := by decide +kernel
set_option maxRecDepth 100000 in
theorem okM_139 : okM 139 = true := by decide +kernel
set_option maxRecDepth 100000 in
theorem okY_139 : okY 139 = true := by decide +kernel
end
section
set_option maxRecDepth 100000 in
theorem okM_140 : okM 140 = true := by decide +kernel
set_option maxRecDepth 100000 in
theorem okY_140 : okY 140 = true := by decide +kernel
set_option maxRecDepth 100000 in
theorem okM_141 : okM 141 = true := by decide +kernel
set_option maxRecDepth 100000 in
theorem okY_141 : okY 141 = true := by decide +kernel
set_option maxRecDepth 100000 in
theorem okM_142 : okM 142 = true := by decide +kernel
set_option maxRecDepth 100000 in
theorem okY_142 : okY 142 = true := by decide +kernel
set_option maxRecDepth 100000 in
theorem okM_143 : okM 143 = true := by decide +kernel
set_option maxRecDepth 100000 in
theorem okY_143 : okY 143 = true := by decide +kernel
set_option maxRecDepth 100000 in
theorem okM_144 : okM 144 = true := by decide +kernel
set_option maxRecDepth 100000 in
theorem okY_144 : okY 144 = true := by decide +kernel
set_option maxRecDepth 100000 in
theorem okM_145 : okM 145 = true := by decide +kernel
set_option maxRecDepth 100000 in
theorem okY_145 : okY 145 = true := by decide +kernel
set_option maxRecDepth 100000 in
theorem okM_146 : okM 146 = true := by decide +kernel
set_option maxRecDepth 100000 in
theorem okY_146 : okY 146 = true := by decide +kernel
set_option maxRecDepth 100000 in
theorem okM_147 : okM 147 = true := by decide +kernel
set_option maxRecDepth 100000 in
theorem okY_147 : okY 147 = true := by decide +kernel
set_option maxRecDepth 100000 in
theorem okM_148 : okM 148 = true := by decide +kernel
set_option maxRecDepth 100000 in
theorem okY_148 : okY 148 = true := by decide +kernel
set_option maxRecDepth 100000 in
theorem okM_149 : okM 149 = true := by decide +kernel
set_option maxRecDepth 100000 in
theorem okY_149 : okY 149 = true := by decide +kernel
set_option maxRecDepth 100000 in
theorem okM_150 : okM 150 = true := by decide +kernel
set_option maxRecDepth 100000 in
theorem okY_150 : okY 150 = true := by decide +kernel
set_option maxRecDepth 100000 in
theorem okM_151 : okM 151 = true := by decide +kernel
set_option maxRecDepth 100000 in
theorem okY_151 : okY 151 = true := by decide +kernel
set_option maxRecDepth 100000 in
theorem okM_152 : okM 152 = true := by decide +kernel
set_option maxRecDepth 100000 in
theorem okY_152 : okY 152 = true := by decide +kernel
set_option maxRecDepth 100000 in
theorem okM_153 : okM 153 = true := by decide +kernel
set_option maxRecDepth 100000 in
theorem okY_153 : okY 153 = true := by decide +kernel
set_option maxRecDepth 100000 in
theorem okM_154 : okM 154 = true := by decide +kernel
set_option maxRecDepth 100000 in
theorem okY_154 : okY 154 = true := by decide +kernel
set_option maxRecDepth 100000 in
theorem okM_155 : okM 155 = true := by decide +kernel
set_option maxRecDepth 100000 in
theorem okY_155 : okY 155 = true := by decide +kernel
set_option maxRecDepth 100000 in
theorem okM_156 : okM 156 = true := by decide +kernel
set_option maxRecDepth 100000 in
theorem okY_156 : okY 156 = true := by decide +kernel
set_option maxRecDepth 100000 in
theorem okM_157 : okM 157 = true := by decide +kernel
set_option maxRecDepth 100000 in
theorem okY_157 : okY 157 = true := by decide +kernel
set_option maxRecDepth 100000 in
theorem okM_158 : okM 158 = true := by decide +kernel
set_option maxRecDepth 100000 in
theorem okY_158 : okY 158 = true := by decide +kernel
set_option maxRecDepth 100000 in
theorem okM_159 : okM 159 = true := by decide +kernel
set_option maxRecDepth 100000 in
theorem okY_159 : okY 159 = true := by decide +kernel
set_option maxRecDepth 100000 in
theorem okM_160 : okM 160 = true := by decide +kernel
set_option maxRecDepth 100000 in
theorem okY_160 : okY 160 = true := by decide +kernel
set_option maxRecDepth 100000 in
theorem okM_161 : okM 161 = true := by decide +kernel
set_option maxRecDepth 100000 in
theorem okY_161 : okY 161 = true := by decide +kernel
set_option maxRecDepth 100000 in
theorem okM_162 : okM 162 = true := by decide +kernel
set_option maxRecDepth 100000 in
theorem okY_162 : okY 162 = true := by decide +kernel
set_option maxRecDepth 100000 in
theorem okM_163 : okM 163 = true := by decide +kernel
set_option maxRecDepth 100000 in
theorem okY_163 : okY 163 = true := by decide +kernel
set_option maxRecDepth 100000 in
theorem okM_164 : okM 164 = true := by decide +kernel
set_option maxRecDepth 100000 in
theorem okY_164 : okY 164 = true := by decide +kernel
set_option maxRecDepth 100000 in
theorem okM_165 : okM 165 = true := by decide +kernel
set_option maxRecDepth 100000 in
theorem okY_165 : okY 165 = true := by decide +kernel
set_option maxRecDepth 100000 in
theorem okM_166 : okM 166 = true := by decide +kernel
set_option maxRecDepth 100000 in
theorem okY_166 : okY 166 = true := by decide +kernel
set_option maxRecDepth 100000 in
theorem okM_167 : okM 167 = true := by decide +kernel
set_option maxRecDepth 100000 in
theorem okY_167 : okY 167 = true := by decide +kernel
set_option maxRecDepth 100000 in
theorem okM_168 : okM 168 = true := by decide +kernel
set_option maxRecDepth 100000 in
theorem okY_168 : okY 168 = true := by decide +kernel
set_option maxRecDepth 100000 in
theorem okM_169 : okM 169 = true := by decide +kernel
set_option maxRecDepth 100000 in
theorem okY_169 : okY 169 = true := by decide +kernel
set_option maxRecDepth 100000 in
theorem okM_170 : okM 170 = true := by decide +kernel
set_option maxRecDepth 100000 in
theorem okY_170 : okY 170 = true := by decide +kernel
set_option maxRecDepth 100000 in
theorem okM_171 : okM 171 = true := by decide +kernel
set_option maxRecDepth 100000 in
theorem okY_171 : okY 171 = true := by decide +kernel
set_option maxRecDepth 100000 in
theorem okM_172 : okM 172 = true := by decide +kernel
set_option maxRecDepth 100000 in
theorem okY_172 : okY 172 = true := by decide +kernel
set_option maxRecDepth 100000 in
theorem okM_173 : okM 173 = true := by decide +kernel
set_option maxRecDepth 100000 in
theorem okY_173 : okY 173 = true := by decide +kernel
set_option maxRecDepth 100000 in
theorem okM_174 : okM 174 = true := by decide +kernel
set_option maxRecDepth 100000 in
theorem okY_174 : okY 174 = true := by decide +kernel
end
section
set_option maxRecDepth 100000 in
theorem okM_175 : okM 175 = true := by decide +kernel
set_option maxRecDepth 100000 in
theorem okY_175 : okY 175 = true := by decide +kernel
set_option maxRecDepth 100000 in
theorem okM_176 : okM 176 = true := by decide +kernel
set_option maxRecDepth 100000 in
theorem okY_176 : okY 176 = true := by decide +kernel
set_option maxRecDepth 100000 in
theorem okM_177 : okM 177 = true := by decide +kernel
set_option maxRecDepth 100000 in
theorem okY_177 : okY 177 = true := by decide +kernel
set_option maxRecDepth 100000 in
theorem okM_178 : okM 178 = true := by decide +kernel
set_option maxRecDepth 100000 in
theorem okY_178 : okY 178 = true := by decide +kernel
set_option maxRecDepth 100000 in
theorem okM_179 : okM 179 = true := by decide +kernel
set_option maxRecDepth 100000 in
theorem okY_179 : okY 179 = true := by decide +kernel
set_option maxRecDepth 100000 in
theorem okM_180 : okM 180 = true := by decide +kernel
set_option maxRecDepth 100000 in
theorem okY_180 : okY 180 = true := by decide +kernel
set_option maxRecDepth 100000 in
theorem okM_181 : okM 181 = true := by decide +kernel
set_option maxRecDepth 100000 in
theorem okY_181 : okY 181 = true := by decide +kernel
set_option maxRecDepth 100000 in
theorem okM_182 : okM 182 = true := by decide +kernel
set_option maxRecDepth 100000 in
theorem okY_182 : okY 182 = true := by decide +kernel
set_option maxRecDepth 100000 in
theorem okM_183 : okM 183 = true := by decide +kernel
set_option maxRecDepth 100000 in
theorem okY_183 : okY 183 = true := by decide +kernel
set_option maxRecDepth 100000 in
theorem okM_184 : okM 184 = true := by decide +kernel
set_option maxRecDepth 100000 in
theorem okY_184 : okY 184 = true := by decide +kernel
set_option maxRecDepth 100000 in
theorem okM_185 : okM 185 = true := by decide +kernel
set_option maxRecDepth 100000 in
theorem okY_185 : okY 185 = true := by decide +kernel
set_option maxRecDepth 100000 in
theorem okM_186 : okM 186 = true := by decide +kernel
set_option maxRecDepth 100000 in
theorem okY_186 : okY 186 = true := by decide +kernel
set_option maxRecDepth 100000 in
theorem okM_187 : okM 187 = true := by decide +kernel
set_option maxRecDepth 100000 in
theorem okY_187 : okY 187 = true := by decide +kernel
set_option maxRecDepth 100000 in
theorem okM_188 : okM 188 = true := by decide +kernel
set_option maxRecDepth 100000 in
theorem okY_188 : okY 188 = true := by decide +kernel
set_option maxRecDepth 100000 in
theorem okM_189 : okM 189 = true := by decide +kernel
set_option maxRecDepth 100000 in
theorem okY_189 : okY 189 = true := by decide +kernel
set_option maxRecDepth 100000 in
theorem okM_190 : okM 190 = true := by decide +kernel
set_option maxRecDepth 100000 in
theorem okY_190 : okY 190 = true := by decide +kernel
set_option maxRecDepth 100000 in
theorem okM_191 : okM 191 = true := by decide +kernel
set_option maxRecDepth 100000 in
theorem okY_191 : okY 191 = true := by decide +kernel
set_option maxRecDepth 100000 in
theorem okM_192 : okM 192 = true := by decide +kernel
set_option maxRecDepth 100000 in
theorem okY_192 : okY 192 = true := by decide +kernel
set_option maxRecDepth 100000 in
theorem okM_193 : okM 193 = true := by decide +kernel
set_option maxRecDepth 100000 in
theorem okY_193 : okY 193 = true := by decide +kernel
set_option maxRecDepth 100000 in
theorem okM_194 : okM 194 = true := by decide +kernel
set_option maxRecDepth 100000 in
theorem okY_194 : okY 194 = true := by decide +kernel
set_option maxRecDepth 100000 in
theorem okM_195 : okM 195 = true := by decide +kernel
set_option maxRecDepth 100000 in
theorem okY_195 : okY 195 = true := by decide +kernel
set_option maxRecDepth 100000 in
theorem okM_196 : okM 196 = true := by decide +kernel
set_option maxRecDepth 100000 in
theorem okY_196 : okY 196 = true := by decide +kernel
set_option maxRecDepth 100000 in
theorem okM_197 : okM 197 = true := by decide +kernel
set_option maxRecDepth 100000 in
theorem okY_197 : okY 197 = true := by decide +kernel
set_option maxRecDepth 100000 in
theorem okM_198 : okM 198 = true := by decide +kernel
set_option maxRecDepth 100000 in
theorem okY_198 : okY 198 = true := by decide +kernel
set_option maxRecDepth 100000 in
theorem okM_199 : okM 199 = true := by decide +kernel
set_option maxRecDepth 100000 in
theorem okY_199 : okY 199 = true := by decide +kernel
set_option maxRecDepth 100000 in
theorem okM_200 : okM 200 = true := by decide +kernel
set_option maxRecDepth 100000 in
theorem okY_200 : okY 200 = true := by decide +kernel
set_option maxRecDepth 100000 in
theorem okM_201 : okM 201 = true := by decide +kernel
set_option maxRecDepth 100000 in
theorem okY_201 : okY 201 = true := by decide +kernel
set_option maxRecDepth 100000 in
theorem okM_202 : okM 202 = true := by decide +kernel
set_option maxRecDepth 100000 in
theorem okY_202 : okY 202 = true := by decide +kernel
set_option maxRecDepth 100000 in
theorem okM_203 : okM 203 = true := by decide +kernel
set_option maxRecDepth 100000 in
theorem okY_203 : okY 203 = true := by decide +kernel
set_option maxRecDepth 100000 in
theorem okM_204 : okM 204 = true := by decide +kernel
set_option maxRecDepth 100000 in
theorem okY_204 : okY 204 = true := by decide +kernel
set_option maxRecDepth 100000 in
theorem okM_205 : okM 205 = true := by decide +kernel
set_option maxRecDepth 100000 in
theorem okY_205 : okY 205 = true := by decide +kernel
set_option maxRecDepth 100000 in
theorem okM_206 : okM 206 = true := by decide +kernel
set_option maxRecDepth 100000 in
theorem okY_206 : okY 206 = true := by decide +kernel
set_option maxRecDepth 100000 in
theorem okM_207 : okM 207 = true := by decide +kernel
set_option maxRecDepth 100000 in
theorem okY_207 : okY 207 = true := by decide +kernel
set_option maxRecDepth 100000 in
theorem okM_208 : okM 208 = true := by decide +kernel
set_option maxRecDepth 100000 in
theorem okY_208 : okY 208 = true := by decide +kernel
end
section
theorem okP_ge {m pc : Nat} (h : (J m).1 ≤ pc) : okP m pc = true := by
  unfold okP I
  have h1 : Nat.blt pc (J m).1 = false := by
    cases hb : Nat.blt pc (J m).1
    · rfl
    · have := Nat.le_of_ble_eq_true hb; omega
  rw [h1]
  cases Nat.blt m 210 <;> rfl
set_option maxRecDepth 100000 in
theorem okL_0 : (List.range 64).all (fun i => okP 209 (0 + i)) = true := by decide +kernel
set_option maxRecDepth 100000 in
theorem okL_1 : (List.range 64).all (fun i => okP 209 (64 + i)) = true := by decide +kernel
set_option maxRecDepth 100000 in
theorem okL_2 : (List.range 64).all (fun i => okP 209 (128 + i)) = true := by decide +kernel
set_option maxRecDepth 100000 in
theorem okL_3 : (List.range 64).all (fun i => okP 209 (192 + i)) = true := by decide +kernel
set_option maxRecDepth 100000 in
theorem okL_4 : (List.range 64).all (fun i => okP 209 (256 + i)) = true := by decide +kernel
set_option maxRecDepth 100000 in
theorem okL_5 : (List.range 64).all (fun i => okP 209 (320 + i)) = true := by decide +kernel
set_option maxRecDepth 100000 in
theorem okL_6 : (List.range 64).all (fun i => okP 209 (384 + i)) = true := by decide +kernel
set_option maxRecDepth 100000 in
theorem okL_7 : (List.range 64).all (fun i => okP 209 (448 + i)) = true := by decide +kernel
set_option maxRecDepth 100000 in
theorem okL_8 : (List.range 64).all (fun i => okP 209 (512 + i)) = true := by decide +kernel
set_option maxRecDepth 100000 in
theorem okL_9 : (List.range 64).all (fun i => okP 209 (576 + i)) = true := by decide +kernel
set_option maxRecDepth 100000 in
theorem okL_10 : (List.range 64).all (fun i => okP 209 (640 + i)) = true := by decide +kernel
set_option maxRecDepth 100000 in
theorem okL_11 : (List.range 64).all (fun i => okP 209 (704 + i)) = true := by decide +kernel
set_option maxRecDepth 100000 in
theorem okL_12 : (List.range 64).all (fun i => okP 209 (768 + i)) = true := by decide +kernel
set_option maxRecDepth 100000 in
theorem okL_13 : (List.range 64).all (fun i => okP 209 (832 + i)) = true := by decide +kernel
set_option maxRecDepth 100000 in
theorem okL_14 : (List.range 64).all (fun i => okP 209 (896 + i)) = true := by decide +kernel
set_option maxRecDepth 100000 in
theorem okL_15 : (List.range 64).all (fun i => okP 209 (960 + i)) = true := by decide +kernel
set_option maxRecDepth 100000 in
theorem okL_16 : (List.range 64).all (fun i => okP 209 (1024 + i)) = true := by decide +kernel
set_option maxRecDepth 100000 in
theorem okL_17 : (List.range 64).all (fun i => okP 209 (1088 + i)) = true := by decide +kernel
set_option maxRecDepth 100000 in
theorem okL_18 : (List.range 64).all (fun i => okP 209 (1152 + i)) = true := by decide +kernel
set_option maxRecDepth 100000 in
theorem okL_19 : (List.range 64).all (fun i => okP 209 (1216 + i)) = true := by decide +kernel
set_option maxRecDepth 100000 in
theorem thr_1 : (Cond.initialized (excN 1) :: vx_atS RX4 186 (excN 1) excP).all (fun w => vx_ot w && decide (w ∈ lw_tbl)) = true := by decide +kernel
set_option maxRecDepth 100000 in
theorem thr_2 : (Cond.initialized (excN 2) :: vx_atS RX4 46 (excN 2) excP).all (fun w => vx_ot w && decide (w ∈ lw_tbl)) = true := by decide +kernel
set_option maxRecDepth 100000 in
theorem thr_3 : (Cond.initialized (excN 3) :: vx_atS RX4 81 (excN 3) excP).all (fun w => vx_ot w && decide (w ∈ lw_tbl)) = true := by decide +kernel
end
section
theorem okL_at {pc : Nat} : okP 209 pc = true := by
  by_cases h : (J 209).1 ≤ pc
  · exact okP_ge h
  · have h1 : (J 209).1 = 1257 := by decide +kernel
    have h2 : pc / 64 < 20 := by omega
    have h3 : pc % 64 < 64 := Nat.mod_lt _ (by omega)
    have e : pc = 64 * (pc / 64) + pc % 64 := (Nat.div_add_mod pc 64).symm
    have key : ∀ {k : Nat}, k = pc / 64 → (List.range 64).all (fun i => okP 209 (64 * k + i)) = true → okP 209 pc = true := by
      intro k hk h
      have := List.all_eq_true.mp h (pc % 64) (List.mem_range.mpr h3)
      rw [hk, ← e] at this
      exact this
    obtain ⟨k, hk⟩ : ∃ k, k = pc / 64 := ⟨_, rfl⟩
    rw [← hk] at h2
    match k, h2, hk with
    | 0, _, hk => exact key hk okL_0
    | 1, _, hk => exact key hk okL_1
    | 2, _, hk => exact key hk okL_2
    | 3, _, hk => exact key hk okL_3
    | 4, _, hk => exact key hk okL_4
    | 5, _, hk => exact key hk okL_5
    | 6, _, hk => exact key hk okL_6
    | 7, _, hk => exact key hk okL_7
    | 8, _, hk => exact key hk okL_8
    | 9, _, hk => exact key hk okL_9
    | 10, _, hk => exact key hk okL_10
    | 11, _, hk => exact key hk okL_11
    | 12, _, hk => exact key hk okL_12
    | 13, _, hk => exact key hk okL_13
    | 14, _, hk => exact key hk okL_14
    | 15, _, hk => exact key hk okL_15
    | 16, _, hk => exact key hk okL_16
    | 17, _, hk => exact key hk okL_17
    | 18, _, hk => exact key hk okL_18
    | 19, _, hk => exact key hk okL_19
    | k + 20, h2, _ => exact absurd h2 (by omega)
theorem okMY {m : Nat} (h : m < 210) : (∀ pc, okP m pc = true) ∧ (m < 209 → okY m = true) := by
  have lift : ∀ {m : Nat}, okM m = true → ∀ pc, okP m pc = true := fun {m} h pc => by
    by_cases h1 : (J m).1 ≤ pc
    · exact okP_ge h1
    · exact List.all_eq_true.mp h pc (List.mem_range.mpr (by omega))
  match m, h with
  | 0, _ => exact ⟨lift okM_0, fun _ => okY_0⟩
  | 1, _ => exact ⟨lift okM_1, fun _ => okY_1⟩
  | 2, _ => exact ⟨lift okM_2, fun _ => okY_2⟩
  | 3, _ => exact ⟨lift okM_3, fun _ => okY_3⟩
  | 4, _ => exact ⟨lift okM_4, fun _ => okY_4⟩
  | 5, _ => exact ⟨lift okM_5, fun _ => okY_5⟩
  | 6, _ => exact ⟨lift okM_6, fun _ => okY_6⟩
  | 7, _ => exact ⟨lift okM_7, fun _ => okY_7⟩
  | 8, _ => exact ⟨lift okM_8, fun _ => okY_8⟩
  | 9, _ => exact ⟨lift okM_9, fun _ => okY_9⟩
  | 10, _ => exact ⟨lift okM_10, fun _ => okY_10⟩
  | 11, _ => exact ⟨lift okM_11, fun _ => okY_11⟩
  | 12, _ => exact ⟨lift okM_12, fun _ => okY_12⟩
  | 13, _ => exact ⟨lift okM_13, fun _ => okY_13⟩
  | 14, _ => exact ⟨lift okM_14, fun _ => okY_14⟩
  | 15, _ => exact ⟨lift okM_15, fun _ => okY_15⟩
  | 16, _ => exact ⟨lift okM_16, fun _ => okY_16⟩
  | 17, _ => exact ⟨lift okM_17, fun _ => okY_17⟩
  | 18, _ => exact ⟨lift okM_18, fun _ => okY_18⟩
  | 19, _ => exact ⟨lift okM_19, fun _ => okY_19⟩
  | 20, _ => exact ⟨lift okM_20, fun _ => okY_20⟩
  | 21, _ => exact ⟨lift okM_21, fun _ => okY_21⟩
  | 22, _ => exact ⟨lift okM_22, fun _ => okY_22⟩
  | 23, _ => exact ⟨lift okM_23, fun _ => okY_23⟩
  | 24, _ => exact ⟨lift okM_24, fun _ => okY_24⟩
  | 25, _ => exact ⟨lift okM_25, fun _ => okY_25⟩
  | 26, _ => exact ⟨lift okM_26, fun _ => okY_26⟩
  | 27, _ => exact ⟨lift okM_27, fun _ => okY_27⟩
  | 28, _ => exact ⟨lift okM_28, fun _ => okY_28⟩
  | 29, _ => exact ⟨lift okM_29, fun _ => okY_29⟩
  | 30, _ => exact ⟨lift okM_30, fun _ => okY_30⟩
  | 31, _ => exact ⟨lift okM_31, fun _ => okY_31⟩
  | 32, _ => exact ⟨lift okM_32, fun _ => okY_32⟩
  | 33, _ => exact ⟨lift okM_33, fun _ => okY_33⟩
  | 34, _ => exact ⟨lift okM_34, fun _ => okY_34⟩
  | 35, _ => exact ⟨lift okM_35, fun _ => okY_35⟩
  | 36, _ => exact ⟨lift okM_36, fun _ => okY_36⟩
  | 37, _ => exact ⟨lift okM_37, fun _ => okY_37⟩
  | 38, _ => exact ⟨lift okM_38, fun _ => okY_38⟩
  | 39, _ => exact ⟨lift okM_39, fun _ => okY_39⟩
  | 40, _ => exact ⟨lift okM_40, fun _ => okY_40⟩
  | 41, _ => exact ⟨lift okM_41, fun _ => okY_41⟩
  | 42, _ => exact ⟨lift okM_42, fun _ => okY_42⟩
  | 43, _ => exact ⟨lift okM_43, fun _ => okY_43⟩
  | 44, _ => exact ⟨lift okM_44, fun _ => okY_44⟩
  | 45, _ => exact ⟨lift okM_45, fun _ => okY_45⟩
  | 46, _ => exact ⟨lift okM_46, fun _ => okY_46⟩
  | 47, _ => exact ⟨lift okM_47, fun _ => okY_47⟩
  | 48, _ => exact ⟨lift okM_48, fun _ => okY_48⟩
  | 49, _ => exact ⟨lift okM_49, fun _ => okY_49⟩
  | 50, _ => exact ⟨lift okM_50, fun _ => okY_50⟩
  | 51, _ => exact ⟨lift okM_51, fun _ => okY_51⟩
  | 52, _ => exact ⟨lift okM_52, fun _ => okY_52⟩
  | 53, _ => exact ⟨lift okM_53, fun _ => okY_53⟩
  | 54, _ => exact ⟨lift okM_54, fun _ => okY_54⟩
  | 55, _ => exact ⟨lift okM_55, fun _ => okY_55⟩
  | 56, _ => exact ⟨lift okM_56, fun _ => okY_56⟩
  | 57, _ => exact ⟨lift okM_57, fun _ => okY_57⟩
  | 58, _ => exact ⟨lift okM_58, fun _ => okY_58⟩
  | 59, _ => exact ⟨lift okM_59, fun _ => okY_59⟩
  | 60, _ => exact ⟨lift okM_60, fun _ => okY_60⟩
  | 61, _ => exact ⟨lift okM_61, fun _ => okY_61⟩
  | 62, _ => exact ⟨lift okM_62, fun _ => okY_62⟩
  | 63, _ => exact ⟨lift okM_63, fun _ => okY_63⟩
  | 64, _ => exact ⟨lift okM_64, fun _ => okY_64⟩
  | 65, _ => exact ⟨lift okM_65, fun _ => okY_65⟩
  | 66, _ => exact ⟨lift okM_66, fun _ => okY_66⟩
  | 67, _ => exact ⟨lift okM_67, fun _ => okY_67⟩
  | 68, _ => exact ⟨lift okM_68, fun _ => okY_68⟩
  | 69, _ => exact ⟨lift okM_69, fun _ => okY_69⟩
  | 70, _ => exact ⟨lift okM_70, fun _ => okY_70⟩
  | 71, _ => exact ⟨lift okM_71, fun _ => okY_71⟩
  | 72, _ => exact ⟨lift okM_72, fun _ => okY_72⟩
  | 73, _ => exact ⟨lift okM_73, fun _ => okY_73⟩
  | 74, _ => exact ⟨lift okM_74, fun _ => okY_74⟩
  | 75, _ => exact ⟨lift okM_75, fun _ => okY_75⟩
  | 76, _ => exact ⟨lift okM_76, fun _ => okY_76⟩
  | 77, _ => exact ⟨lift okM_77, fun _ => okY_77⟩
  | 78, _ => exact ⟨lift okM_78, fun _ => okY_78⟩
  | 79, _ => exact ⟨lift okM_79, fun _ => okY_79⟩
  | 80, _ => exact ⟨lift okM_80, fun _ => okY_80⟩
  | 81, _ => exact ⟨lift okM_81, fun _ => okY_81⟩
  | 82, _ => exact ⟨lift okM_82, fun _ => okY_82⟩
  | 83, _ => exact ⟨lift okM_83, fun _ => okY_83⟩
  | 84, _ => exact ⟨lift okM_84, fun _ => okY_84⟩
  | 85, _ => exact ⟨lift okM_85, fun _ => okY_85⟩
  | 86, _ => exact ⟨lift okM_86, fun _ => okY_86⟩
  | 87, _ => exact ⟨lift okM_87, fun _ => okY_87⟩
  | 88, _ => exact ⟨lift okM_88, fun _ => okY_88⟩
  | 89, _ => exact ⟨lift okM_89, fun _ => okY_89⟩
  | 90, _ => exact ⟨lift okM_90, fun _ => okY_90⟩
  | 91, _ => exact ⟨lift okM_91, fun _ => okY_91⟩
  | 92, _ => exact ⟨lift okM_92, fun _ => okY_92⟩
  | 93, _ => exact ⟨lift okM_93, fun _ => okY_93⟩
  | 94, _ => exact ⟨lift okM_94, fun _ => okY_94⟩
  | 95, _ => exact ⟨lift okM_95, fun _ => okY_95⟩
  | 96, _ => exact ⟨lift okM_96, fun _ => okY_96⟩
  | 97, _ => exact ⟨lift okM_97, fun _ => okY_97⟩
  | 98, _ => exact ⟨lift okM_98, fun _ => okY_98⟩
  | 99, _ => exact ⟨lift okM_99, fun _ => okY_99⟩
  | 100, _ => exact ⟨lift okM_100, fun _ => okY_100⟩
  | 101, _ => exact ⟨lift okM_101, fun _ => okY_101⟩
  | 102, _ => exact ⟨lift okM_102, fun _ => okY_102⟩
  | 103, _ => exact ⟨lift okM_103, fun _ => okY_103⟩
  | 104, _ => exact ⟨lift okM_104, fun _ => okY_104⟩
  | 105, _ => exact ⟨lift okM_105, fun _ => okY_105⟩
  | 106, _ => exact ⟨lift okM_106, fun _ => okY_106⟩
  | 107, _ => exact ⟨lift okM_107, fun _ => okY_107⟩
  | 108, _ => exact ⟨lift okM_108, fun _ => okY_108⟩
  | 109, _ => exact ⟨lift okM_109, fun _ => okY_109⟩
  | 110, _ => exact ⟨lift okM_110, fun _ => okY_110⟩
  | 111, _ => exact ⟨lift okM_111, fun _ => okY_111⟩
  | 112, _ => exact ⟨lift okM_112, fun _ => okY_112⟩
  | 113, _ => exact ⟨lift okM_113, fun _ => okY_113⟩
  | 114, _ => exact ⟨lift okM_114, fun _ => okY_114⟩
  | 115, _ => exact ⟨lift okM_115, fun _ => okY_115⟩
  | 116, _ => exact ⟨lift okM_116, fun _ => okY_116⟩
  | 117, _ => exact ⟨lift okM_117, fun _ => okY_117⟩
  | 118, _ => exact ⟨lift okM_118, fun _ => okY_118⟩
  | 119, _ => exact ⟨lift okM_119, fun _ => okY_119⟩
  | 120, _ => exact ⟨lift okM_120, fun _ => okY_120⟩
  | 121, _ => exact ⟨lift okM_121, fun _ => okY_121⟩
  | 122, _ => exact ⟨lift okM_122, fun _ => okY_122⟩
  | 123, _ => exact ⟨lift okM_123, fun _ => okY_123⟩
  | 124, _ => exact ⟨lift okM_124, fun _ => okY_124⟩
  | 125, _ => exact ⟨lift okM_125, fun _ => okY_125⟩
  | 126, _ => exact ⟨lift okM_126, fun _ => okY_126⟩
  | 127, _ => exact ⟨lift okM_127, fun _ => okY_127⟩
  | 128, _ => exact ⟨lift okM_128, fun _ => okY_128⟩
  | 129, _ => exact ⟨lift okM_129, fun _ => okY_129⟩
  | 130, _ => exact ⟨lift okM_130, fun _ => okY_130⟩
  | 131, _ => exact ⟨lift okM_131, fun _ => okY_131⟩
  | 132, _ => exact ⟨lift okM_132, fun _ => okY_132⟩
  | 133, _ => exact ⟨lift okM_133, fun _ => okY_133⟩
  | 134, _ => exact ⟨lift okM_134, fun _ => okY_134⟩
  | 135, _ => exact ⟨lift okM_135, fun _ => okY_135⟩
  | 136, _ => exact ⟨lift okM_136, fun _ => okY_136⟩
  | 137, _ => exact ⟨lift okM_137, fun _ => okY_137⟩
  | 138, _ => exact ⟨lift okM_138, fun _ => okY_138⟩
  | 139, _ => exact ⟨lift okM_139, fun _ => okY_139⟩
  | 140, _ => exact ⟨lift okM_140, fun _ => okY_140⟩
  | 141, _ => exact ⟨lift okM_141, fun _ => okY_141⟩
  | 142, _ => exact ⟨lift okM_142, fun _ => okY_142⟩
  | 143, _ => exact ⟨lift okM_143, fun _ => okY_143⟩
  | 144, _ => exact ⟨lift okM_144, fun _ => okY_144⟩
  | 145, _ => exact ⟨lift okM_145, fun _ => okY_145⟩
  | 146, _ => exact ⟨lift okM_146, fun _ => okY_146⟩
  | 147, _ => exact ⟨lift okM_147, fun _ => okY_147⟩
  | 148, _ => exact ⟨lift okM_148, fun _ => okY_148⟩
  | 149, _ => exact ⟨lift okM_149, fun _ => okY_149⟩
  | 150, _ => exact ⟨lift okM_150, fun _ => okY_150⟩
  | 151, _ => exact ⟨lift okM_151, fun _ => okY_151⟩
  | 152, _ => exact ⟨lift okM_152, fun _ => okY_152⟩
  | 153, _ => exact ⟨lift okM_153, fun _ => okY_153⟩
  | 154, _ => exact ⟨lift okM_154, fun _ => okY_154⟩
  | 155, _ => exact ⟨lift okM_155, fun _ => okY_155⟩
  | 156, _ => exact ⟨lift okM_156, fun _ => okY_156⟩
  | 157, _ => exact ⟨lift okM_157, fun _ => okY_157⟩
  | 158, _ => exact ⟨lift okM_158, fun _ => okY_158⟩
  | 159, _ => exact ⟨lift okM_159, fun _ => okY_159⟩
  | 160, _ => exact ⟨lift okM_160, fun _ => okY_160⟩
  | 161, _ => exact ⟨lift okM_161, fun _ => okY_161⟩
  | 162, _ => exact ⟨lift okM_162, fun _ => okY_162⟩
  | 163, _ => exact ⟨lift okM_163, fun _ => okY_163⟩
  | 164, _ => exact ⟨lift okM_164, fun _ => okY_164⟩
  | 165, _ => exact ⟨lift okM_165, fun _ => okY_165⟩
  | 166, _ => exact ⟨lift okM_166, fun _ => okY_166⟩
  | 167, _ => exact ⟨lift okM_167, fun _ => okY_167⟩
  | 168, _ => exact ⟨lift okM_168, fun _ => okY_168⟩
  | 169, _ => exact ⟨lift okM_169, fun _ => okY_169⟩
  | 170, _ => exact ⟨lift okM_170, fun _ => okY_170⟩
  | 171, _ => exact ⟨lift okM_171, fun _ => okY_171⟩
  | 172, _ => exact ⟨lift okM_172, fun _ => okY_172⟩
  | 173, _ => exact ⟨lift okM_173, fun _ => okY_173⟩
  | 174, _ => exact ⟨lift okM_174, fun _ => okY_174⟩
  | 175, _ => exact ⟨lift okM_175, fun _ => okY_175⟩
  | 176, _ => exact ⟨lift okM_176, fun _ => okY_176⟩
  | 177, _ => exact ⟨lift okM_177, fun _ => okY_177⟩
  | 178, _ => exact ⟨lift okM_178, fun _ => okY_178⟩
  | 179, _ => exact ⟨lift okM_179, fun _ => okY_179⟩
  | 180, _ => exact ⟨lift okM_180, fun _ => okY_180⟩
  | 181, _ => exact ⟨lift okM_181, fun _ => okY_181⟩
  | 182, _ => exact ⟨lift okM_182, fun _ => okY_182⟩
  | 183, _ => exact ⟨lift okM_183, fun _ => okY_183⟩
  | 184, _ => exact ⟨lift okM_184, fun _ => okY_184⟩
  | 185, _ => exact ⟨lift okM_185, fun _ => okY_185⟩
  | 186, _ => exact ⟨lift okM_186, fun _ => okY_186⟩
  | 187, _ => exact ⟨lift okM_187, fun _ => okY_187⟩
  | 188, _ => exact ⟨lift okM_188, fun _ => okY_188⟩
  | 189, _ => exact ⟨lift okM_189, fun _ => okY_189⟩
  | 190, _ => exact ⟨lift okM_190, fun _ => okY_190⟩
  | 191, _ => exact ⟨lift okM_191, fun _ => okY_191⟩
  | 192, _ => exact ⟨lift okM_192, fun _ => okY_192⟩
  | 193, _ => exact ⟨lift okM_193, fun _ => okY_193⟩
  | 194, _ => exact ⟨lift okM_194, fun _ => okY_194⟩
  | 195, _ => exact ⟨lift okM_195, fun _ => okY_195⟩
  | 196, _ => exact ⟨lift okM_196, fun _ => okY_196⟩
  | 197, _ => exact ⟨lift okM_197, fun _ => okY_197⟩
  | 198, _ => exact ⟨lift okM_198, fun _ => okY_198⟩
  | 199, _ => exact ⟨lift okM_199, fun _ => okY_199⟩
  | 200, _ => exact ⟨lift okM_200, fun _ => okY_200⟩
  | 201, _ => exact ⟨lift okM_201, fun _ => okY_201⟩
  | 202, _ => exact ⟨lift okM_202, fun _ => okY_202⟩
  | 203, _ => exact ⟨lift okM_203, fun _ => okY_203⟩
  | 204, _ => exact ⟨lift okM_204, fun _ => okY_204⟩
  | 205, _ => exact ⟨lift okM_205, fun _ => okY_205⟩
  | 206, _ => exact ⟨lift okM_206, fun _ => okY_206⟩
  | 207, _ => exact ⟨lift okM_207, fun _ => okY_207⟩
  | 208, _ => exact ⟨lift okM_208, fun _ => okY_208⟩
  | 209, _ => exact ⟨fun _ => okL_at, fun h => absurd h (by omega)⟩
  | m + 210, h => exact absurd h (by omega)
theorem I_lt {m pc : Nat} {e : IE} (h : I m pc = some e) : m < 210 := by
  unfold I at h
  cases h1 : Nat.blt m 210
  · rw [h1] at h; cases h
  · exact Nat.le_of_ble_eq_true h1
theorem I_ok {m pc : Nat} {e : IE} (h : I m pc = some e) : decode (cM m) pc = .ok (e.1, e.2.1) ∧ chk m pc e.2.1 e.1 e.2.2 = true ∧ m < 210 := by
  have h1 := I_lt h
  have h3 := (okMY h1).1 pc
  unfold okP at h3
  rw [h] at h3
  have h3 : okI m pc e = true := h3
  unfold okI at h3
  rw [Bool.and_eq_true, decide_eq_true_eq] at h3
  exact ⟨h3.1, h3.2, h1⟩
end
section
/-! the heap: ints, references, longs by address and place; how many objects there are, how many exceptions were made -/
abbrev Mem : Type := (Nat → Nat → Int32) × (Nat → Nat → Option Nat) × (Nat → Nat → Int64) × Nat × Nat
def up2 {α : Type} (f : Nat → Nat → α) (a k : Nat) (v : α) : Nat → Nat → α := fun b j => if b = a ∧ j = k then v else f b j
def mI (μ : Mem) (a k : Nat) : Int32 := μ.1 a k
def mR (μ : Mem) (a k : Nat) : Option Nat := μ.2.1 a k
def mL (μ : Mem) (a k : Nat) : Int64 := μ.2.2.1 a k
def mN (μ : Mem) : Nat := μ.2.2.2.1
def mX (μ : Mem) : Nat := μ.2.2.2.2
def setI (μ : Mem) (a k : Nat) (v : Int32) : Mem := (up2 μ.1 a k v, μ.2)
def setR (μ : Mem) (a k : Nat) (v : Nat) : Mem := (μ.1, up2 μ.2.1 a k (some v), μ.2.2)
def setL (μ : Mem) (a k : Nat) (v : Int64) : Mem := (μ.1, μ.2.1, up2 μ.2.2.1 a k v, μ.2.2.2)
def newM (μ : Mem) : Mem := (fun b j => if b = mN μ then 0 else μ.1 b j, fun b j => if b = mN μ then none else μ.2.1 b j, fun b j => if b = mN μ then 0 else μ.2.2.1 b j, mN μ + 1, μ.2.2.2.2)
def excM (μ : Mem) : Mem := (μ.1, μ.2.1, μ.2.2.1, μ.2.2.2.1, μ.2.2.2.2 + 1)
def cpyM (μ : Mem) (a0 sp a dp n : Nat) : Mem := (fun b j => if b = a then va_cpy (μ.1 a0) (μ.1 a) sp dp n j else μ.1 b j, μ.2)
/-- how many objects there are in all -/
def NN : Nat := 258
/-- what lies at an address: its kind (0 to 4 objects, 5 char[], 6 int[], 7 Instruction[], 8 Machine[], 9 long[]), how many places -/
def shpM (r : Nat) : Nat × Nat := bif Nat.beq r 0 then (1, 14) else bif Nat.beq r 1 then (7, 24) else bif Nat.beq r 2 then (0, 14) else bif Nat.beq r 3 then (6, 8) else bif Nat.beq r 4 then (6, 16) else bif Nat.beq r 5 then (6, 3) else (0, 14)
def shp (a : Nat) : Nat × Nat :=
  bif Nat.blt a 242 then (bif Nat.beq a 0 then (3, 6) else bif Nat.beq a 61 then (8, 6) else bif Nat.blt a 61 then shpM ((a - 1) % 30) else shpM ((a - 62) % 30))
  else bif Nat.beq a 242 then (2, 2) else bif Nat.beq a 243 then (5, 120) else bif Nat.beq a 244 then (6, 3) else bif Nat.beq a 245 then (4, 20) else bif Nat.beq a 246 then (6, 324) else bif Nat.beq a 247 then (6, 324) else bif Nat.beq a 248 then (6, 1944) else bif Nat.beq a 249 then (6, 120) else bif Nat.blt a 255 then (6, 32) else bif Nat.beq a 255 then (6, 8) else bif Nat.beq a 256 then (6, 16) else bif Nat.beq a 257 then (9, 1) else (99, 0)
/-- the guards -/
def gO (μ : Mem) (a ci : Nat) : Bool := Nat.blt a (mN μ) && Nat.beq (shp a).1 ci
def gA (μ : Mem) (a kd : Nat) (i : Int32) : Bool := Nat.blt a (mN μ) && (Nat.beq (shp a).1 kd && decide (0 ≤ i.toInt ∧ i.toInt < ((shp a).2 : Int)))
def gR (r : Option Nat) : Bool := r.isSome
def vR (r : Option Nat) : Value := .ref (r.getD 0)
def gN32 (r : UInt32) : Bool := decide (r &&& 0x7fffffff ≤ 0x7f800000)
def gN64 (r : UInt64) : Bool := decide (r &&& 0x7fffffffffffffff ≤ 0x7ff0000000000000)
/-- what a method of a small type may answer -/
def gZ (t : Nat) (x : Int32) : Bool := match t with | 0 => true | 1 => decide (x = 0 ∨ x = 1) | _ => decide (0 ≤ x ∧ x ≤ 65535)
def SCR : Nat := 1000000
abbrev Go : Type := Nat × List Value × List Value × Mem
/-- go on; a test and where it goes; a switch; an end; a throw; a call (callee, its locals, where it goes on) -/
abbrev Res : Type := Option (Bool × (Go ⊕ (Bool × Nat × Go) ⊕ (Int32 × List Nat × Go) ⊕ Option Value ⊕ Nat ⊕ (Nat × List Value × Go)))
def go (n : Nat) (L st : List Value) (μ : Mem) : Res := some (true, .inl (n, L, st, μ))
def gg (g : Bool) (n : Nat) (L st : List Value) (μ : Mem) : Res := some (g, .inl (n, L, st, μ))
def br (b : Bool) (t n : Nat) (L st : List Value) (μ : Mem) : Res := some (true, .inr (.inl (b, t, n, L, st, μ)))
def nl2 (v : Value) : Value := match v with | .long _ => .null | .double _ => .null | w => w
def st1 (L : List Value) (i : Nat) (v : Value) : List Value := match i with | 0 => L.set 0 v | j + 1 => (L.modify j nl2).set (j + 1) v
def st2 (L : List Value) (i : Nat) (v : Value) : List Value := (st1 L i v).set (i + 1) .null
def vtag (v : Value) : Nat := match v with | .int _ => 0 | .long _ => 1 | .float _ => 2 | .double _ => 3 | .ref _ => 4 | _ => 9
def sLd (t i n : Nat) (L st : List Value) (μ : Mem) : Res := match L[i]? with | some v => bif Nat.beq (vtag v) t then go n L (v :: st) μ else none | none => none
def sS1 (t i n : Nat) (L st : List Value) (μ : Mem) : Res := match st with | v :: r => bif Nat.beq (vtag v) t then go n (st1 L i v) r μ else none | [] => none
def sS2 (t i n : Nat) (L st : List Value) (μ : Mem) : Res := match st with | v :: r => bif Nat.beq (vtag v) t then go n (st2 L i v) r μ else none | [] => none
def icB (c : Jvm.ClassFile.Cond) (x y : Int32) : Bool := match c with | .eq => decide (x = y) | .ne => decide (¬ x = y) | .lt => decide (x < y) | .ge => decide (y ≤ x) | .gt => decide (y < x) | .le => decide (x ≤ y)
def ii1 (f : Int32 → Int32) (n : Nat) (L st : List Value) (μ : Mem) : Res := match st with | .int x :: r => go n L (.int (f x) :: r) μ | _ => none
def ii2 (f : Int32 → Int32 → Int32) (n : Nat) (L st : List Value) (μ : Mem) : Res := match st with | .int y :: .int x :: r => go n L (.int (f x y) :: r) μ | _ => none
def ll2 (f : Int64 → Int64 → Int64) (n : Nat) (L st : List Value) (μ : Mem) : Res := match st with | .long y :: .long x :: r => go n L (.long (f x y) :: r) μ | _ => none
def ff2 (f : UInt32 → UInt32 → UInt32) (n : Nat) (L st : List Value) (μ : Mem) : Res := match st with | .float y :: .float x :: r => gg (gN32 (f x y)) n L (.float (f x y) :: r) μ | _ => none
def dd2 (f : UInt64 → UInt64 → UInt64) (n : Nat) (L st : List Value) (μ : Mem) : Res := match st with | .double y :: .double x :: r => gg (gN64 (f x y)) n L (.double (f x y) :: r) μ | _ => none
def idx (i : Int32) : Nat := i.toNatClampNeg
def catL : List Value → Nat | [] => 0 | v :: r => v.category + catL r
def pad (as : List Value) (n : Nat) : List Value := as ++ List.replicate (n - as.length) .null
/-- arguments as locals: a wide one takes two places -/
def argL : List Value → List Value | [] => [] | .long x :: r => .long x :: .null :: argL r | .double x :: r => .double x :: .null :: argL r | v :: r => v :: argL r
def sCall (aux : List Nat) (n : Nat) (L st : List Value) (μ : Mem) : Res := match aux with
  | 0 :: y :: na :: _ :: ci :: ml :: _ => match st.drop na with
    | .ref a :: r => some (gO μ a ci && Nat.ble (catL r) 8, .inr (.inr (.inr (.inr (.inr (y, pad (argL (.ref a :: (st.take na).reverse)) ml, n, L, r, μ))))))
    | _ => none
  | 1 :: y :: na :: _ :: _ :: ml :: _ => some (Nat.ble (catL (st.drop na)) 8, .inr (.inr (.inr (.inr (.inr (y, pad (argL (st.take na).reverse) ml, n, L, st.drop na, μ))))))
  | 2 :: y :: na :: _ :: ci :: ml :: _ => match st.drop na with
    | .ref a :: r => some (gO μ a ci && Nat.ble (catL r) 8, .inr (.inr (.inr (.inr (.inr (y, pad (argL (.ref a :: (st.take na).reverse)) ml, n, L, r, μ))))))
    | _ => none
  | 3 :: _ => match st with
    | .ref a :: r => gg (Nat.blt a (mN μ) && Nat.ble (catL r) 8) n L r μ
    | _ => none
  | 4 :: y :: na :: _ :: ci :: ml :: _ => match st.drop na with
    | .ref a :: r => some (gO μ a ci && Nat.ble (catL r) 8, .inr (.inr (.inr (.inr (.inr (y, pad (argL (.ref a :: (st.take na).reverse)) ml, n, L, r, μ))))))
    | _ => none
  | 5 :: _ => match st with
    | .int k :: .int dp :: .ref a :: .int sp :: .ref a0 :: r => gg (Nat.beq (mN μ) NN && (gO μ a 6 && (gO μ a0 6 && (decide (0 ≤ sp.toInt ∧ 0 ≤ dp.toInt ∧ 0 ≤ k.toInt ∧ sp.toInt + k.toInt ≤ ((shp a0).2 : Int) ∧ dp.toInt + k.toInt ≤ ((shp a).2 : Int)) && Nat.ble (catL r) 8)))) n L r (cpyM μ a0 (idx sp) a (idx dp) (idx k))
    | _ => none
  | 6 :: _ => match st with | .int x :: r => gg (decide (vn_sni2f x = false) && Nat.ble (catL r) 8) n L (.float x.toUInt32 :: r) μ | _ => none
  | 7 :: _ => match st with | .float x :: r => gg (Nat.ble (catL r) 8) n L (.int x.toInt32 :: r) μ | _ => none
  | 8 :: _ => match st with | .double x :: r => gg (Nat.ble (catL r) 8) n L (.long x.toInt64 :: r) μ | _ => none
  | _ => none
def sGet (aux : List Nat) (n : Nat) (L st : List Value) (μ : Mem) : Res := match aux, st with
  | ci :: k :: 0 :: _, .ref a :: r => gg (gO μ a ci) n L (.int (mI μ a k) :: r) μ
  | ci :: k :: 1 :: _, .ref a :: r => gg (gO μ a ci && gR (mR μ a k)) n L (vR (mR μ a k) :: r) μ
  | ci :: k :: 2 :: _, .ref a :: r => gg (gO μ a ci) n L (.long (mL μ a k) :: r) μ
  | _, _ => none
def sPut (aux : List Nat) (n : Nat) (L st : List Value) (μ : Mem) : Res := match aux, st with
  | ci :: k :: 0 :: _, .int x :: .ref a :: r => gg (gO μ a ci) n L r (setI μ a k x)
  | ci :: k :: 1 :: _, .ref x :: .ref a :: r => gg (gO μ a ci) n L r (setR μ a k x)
  | ci :: k :: 2 :: _, .long x :: .ref a :: r => gg (gO μ a ci) n L r (setL μ a k x)
  | _, _ => none
/-- one instruction; n: where the next one lies; xs: the script, with its length -/
def stp (xs : Nat × (Nat → Int32)) (ins : Instr) (n : Nat) (aux : List Nat) (L st : List Value) (μ : Mem) : Res := match ins with
  | .iload_n k => sLd 0 k n L st μ
  | .iload k => sLd 0 k n L st μ
  | .lload_n k => sLd 1 k n L st μ
  | .fload_n k => sLd 2 k n L st μ
  | .fload k => sLd 2 k n L st μ
  | .dload_n k => sLd 3 k n L st μ
  | .dload k => sLd 3 k n L st μ
  | .aload_n k => sLd 4 k n L st μ
  | .aload k => sLd 4 k n L st μ
  | .istore_n k => sS1 0 k n L st μ
  | .istore k => sS1 0 k n L st μ
  | .fstore_n k => sS1 2 k n L st μ
  | .fstore k => sS1 2 k n L st μ
  | .astore_n k => sS1 4 k n L st μ
  | .astore k => sS1 4 k n L st μ
  | .lstore_n k => sS2 1 k n L st μ
  | .dstore_n k => sS2 3 k n L st μ
  | .dstore k => sS2 3 k n L st μ
  | .iinc k d => match L[k]? with | some (.int x) => go n (st1 L k (.int (x + Int32.ofInt d))) st μ | _ => none
  | .iconst k => go n L (.int (Int32.ofInt k) :: st) μ
  | .bipush k => go n L (.int (Int8.ofInt k).toInt32 :: st) μ
  | .sipush k => go n L (.int (Int16.ofInt k).toInt32 :: st) μ
  | .lconst k => go n L (.long (Int64.ofNat (k : Nat)) :: st) μ
  | .fconst k => go n L (.float (match k with | 0 => FP.fconst0 | 1 => FP.fconst1 | _ => FP.fconst2) :: st) μ
  | .dconst k => go n L (.double (match k with | 0 => FP.dconst0 | _ => FP.dconst1) :: st) μ
  | .ldc _ => match aux with | 0 :: v :: _ :: _ => go n L (.int (Int32.ofNat v) :: st) μ | 1 :: v :: _ :: _ => go n L (.float (UInt32.ofNat v) :: st) μ | _ => none
  | .ldc2_w _ => match aux with | 2 :: v :: _ => go n L (.long (Int64.ofNat v) :: st) μ | 3 :: v :: _ => go n L (.double (UInt64.ofNat v) :: st) μ | _ => none
  | .iadd => ii2 (fun x y => x + y) n L st μ
  | .isub => ii2 (fun x y => x - y) n L st μ
  | .imul => ii2 (fun x y => x * y) n L st μ
  | .iand => ii2 (fun x y => x &&& y) n L st μ
  | .ior => ii2 (fun x y => x ||| y) n L st μ
  | .ixor => ii2 (fun x y => x ^^^ y) n L st μ
  | .ishl => ii2 (fun x y => x <<< (y &&& 31)) n L st μ
  | .iushr => ii2 (fun x y => (x.toUInt32 >>> (y.toUInt32 &&& Int32.toUInt32 31)).toInt32) n L st μ
  | .ineg => ii1 (fun x => -x) n L st μ
  | .i2c => ii1 (fun x => (x.toUInt32 % 65536).toInt32) n L st μ
  | .idiv => match st with | .int y :: .int x :: r => gg (decide (¬ y = 0)) n L (.int (x / y) :: r) μ | _ => none
  | .irem => match st with | .int y :: .int x :: r => gg (decide (¬ y = 0)) n L (.int (x - x / y * y) :: r) μ | _ => none
  | .ladd => ll2 (fun x y => x + y) n L st μ
  | .lmul => ll2 (fun x y => x * y) n L st μ
  | .land => ll2 (fun x y => x &&& y) n L st μ
  | .lor => ll2 (fun x y => x ||| y) n L st μ
  | .lshl => match st with | .int y :: .long x :: r => go n L (.long (x <<< (y.toInt64 &&& 63)) :: r) μ | _ => none
  | .lcmp => match st with | .long y :: .long x :: r => go n L (.int (lg_cmp x y) :: r) μ | _ => none
  | .i2l => match st with | .int x :: r => go n L (.long x.toInt64 :: r) μ | _ => none
  | .i2d => match st with | .int x :: r => go n L (.double (FP.i2d x) :: r) μ | _ => none
  | .i2f => match st with | .int x :: r => go n L (.float (FP.i2f x) :: r) μ | _ => none
  | .f2i => match st with | .float x :: r => go n L (.int (FP.f2i x) :: r) μ | _ => none
  | .d2i => match st with | .double x :: r => go n L (.int (FP.d2i x) :: r) μ | _ => none
  | .d2l => match st with | .double x :: r => go n L (.long (FP.d2l x) :: r) μ | _ => none
  | .f2d => match st with | .float x :: r => gg (gN64 (FP.f2d x)) n L (.double (FP.f2d x) :: r) μ | _ => none
  | .d2f => match st with | .double x :: r => gg (gN32 (FP.d2f x)) n L (.float (FP.d2f x) :: r) μ | _ => none
  | .fneg => match st with | .float x :: r => go n L (.float (FP.fneg x) :: r) μ | _ => none
  | .fadd => ff2 FP.fadd n L st μ
  | .fmul => ff2 FP.fmul n L st μ
  | .fdiv => ff2 FP.fdiv n L st μ
  | .dmul => dd2 FP.dmul n L st μ
  | .ddiv => dd2 FP.ddiv n L st μ
  | .fcmp op => match st with | .float y :: .float x :: r => go n L (.int (Op.cmpValue (FP.fcmp x y) op) :: r) μ | _ => none
  | .dcmp op => match st with | .double y :: .double x :: r => go n L (.int (Op.cmpValue (FP.dcmp x y) op) :: r) μ | _ => none
  | .dup => match st with | .int x :: r => go n L (.int x :: .int x :: r) μ | .ref x :: r => go n L (.ref x :: .ref x :: r) μ | _ => none
  | .dup2 => match st with | .int x :: .ref y :: r => go n L (.int x :: .ref y :: .int x :: .ref y :: r) μ | .long x :: r => go n L (.long x :: .long x :: r) μ | _ => none
  | .pop => match st with | .int _ :: r => go n L r μ | .ref _ :: r => go n L r μ | _ => none
  | .ifCond c _ => match st with | .int x :: r => br (icB c x 0) (aux.getD 0 0) n L r μ | _ => none
  | .if_icmp c _ => match st with | .int y :: .int x :: r => br (icB c x y) (aux.getD 0 0) n L r μ | _ => none
  | .goto _ => go (aux.getD 0 0) L st μ
  | .tableswitch _ _ _ _ => match st with | .int x :: r => some (true, .inr (.inr (.inl (x, aux.tail, aux.getD 0 0, L, r, μ)))) | _ => none
  | .lookupswitch _ _ => match st with | .int x :: r => some (true, .inr (.inr (.inl (x, aux.tail, aux.getD 0 0, L, r, μ)))) | _ => none
  | .getfield _ => sGet aux n L st μ
  | .putfield _ => sPut aux n L st μ
  | .arraylength => match aux, st with
    | 1 :: _, .ref a :: r => gg (Nat.beq a SCR) n L (.int (Int32.ofNat xs.1) :: r) μ
    | [], .ref a :: r => gg (Nat.blt a (mN μ) && (Nat.ble 5 (shp a).1 && Nat.ble (shp a).1 9)) n L (.int (Int32.ofNat (shp a).2) :: r) μ
    | _, _ => none
  | .iaload => match aux, st with
    | 1 :: _, .int i :: .ref a :: r => gg (Nat.beq a SCR && decide (0 ≤ i.toInt ∧ i.toInt < (xs.1 : Int))) n L (.int (xs.2 (idx i)) :: r) μ
    | [], .int i :: .ref a :: r => gg (gA μ a 6 i) n L (.int (mI μ a (idx i)) :: r) μ
    | _, _ => none
  | .caload => match st with | .int i :: .ref a :: r => gg (gA μ a 5 i) n L (.int (mI μ a (idx i)) :: r) μ | _ => none
  | .laload => match st with | .int i :: .ref a :: r => gg (gA μ a 9 i) n L (.long (mL μ a (idx i)) :: r) μ | _ => none
  | .aaload => match st with | .int i :: .ref a :: r => gg ((gA μ a 7 i || gA μ a 8 i) && gR (mR μ a (idx i))) n L (vR (mR μ a (idx i)) :: r) μ | _ => none
  | .iastore => match st with | .int x :: .int i :: .ref a :: r => gg (gA μ a 6 i) n L r (setI μ a (idx i) x) | _ => none
  | .castore => match st with | .int x :: .int i :: .ref a :: r => gg (gA μ a 5 i) n L r (setI μ a (idx i) (vp_nar .char x)) | _ => none
  | .lastore => match st with | .long x :: .int i :: .ref a :: r => gg (gA μ a 9 i) n L r (setL μ a (idx i) x) | _ => none
  | .aastore => match st with | .ref x :: .int i :: .ref a :: r => gg ((gA μ a 7 i && gO μ x 0) || (gA μ a 8 i && gO μ x 1)) n L r (setR μ a (idx i) x) | _ => none
  | .newarray _ => match st with | .int k :: r => gg (Nat.blt (mN μ) NN && (Nat.beq (mX μ) 0 && (Nat.beq (shp (mN μ)).1 (aux.getD 0 0) && decide (k = Int32.ofNat (shp (mN μ)).2)))) n L (.ref (mN μ) :: r) (newM μ) | _ => none
  | .anewarray _ => match st with | .int k :: r => gg (Nat.blt (mN μ) NN && (Nat.beq (mX μ) 0 && (Nat.beq (shp (mN μ)).1 (aux.getD 0 0) && decide (k = Int32.ofNat (shp (mN μ)).2)))) n L (.ref (mN μ) :: r) (newM μ) | _ => none
  | .new _ => match aux with
    | 9 :: E :: _ => some (Nat.beq (mN μ) NN && Nat.ble (catL st) 8, .inr (.inr (.inr (.inr (.inl E)))))
    | ci :: _ => gg (Nat.blt (mN μ) NN && (Nat.beq (mX μ) 0 && Nat.beq (shp (mN μ)).1 ci)) n L (.ref (mN μ) :: st) (newM μ)
    | _ => none
  | .invokevirtual _ => sCall aux n L st μ
  | .invokestatic _ => sCall aux n L st μ
  | .invokespecial _ => sCall aux n L st μ
  | .ireturn => match aux, st with | t :: _, [.int x] => some (gZ t x, .inr (.inr (.inr (.inl (some (.int x)))))) | _, _ => none
  | .lreturn => match st with | [.long x] => some (true, .inr (.inr (.inr (.inl (some (.long x)))))) | _ => none
  | .freturn => match st with | [.float x] => some (true, .inr (.inr (.inr (.inl (some (.float x)))))) | _ => none
  | .dreturn => match st with | [.double x] => some (true, .inr (.inr (.inr (.inl (some (.double x)))))) | _ => none
  | .areturn => match st with | [.ref x] => some (true, .inr (.inr (.inr (.inl (some (.ref x)))))) | _ => none
  | .return_ => match st with | [] => some (true, .inr (.inr (.inr (.inl none)))) | _ => none
  | _ => none
def step (xs : Nat × (Nat → Int32)) (m pc : Nat) (L st : List Value) (μ : Mem) : Res := match I m pc with
  | none => none
  | some e => stp xs e.1 (pc + e.2.1) e.2.2 L st μ
/-- where a switch goes -/
def swt (x : Int32) (d : Nat) : List Nat → Nat
  | k :: t :: r => bif decide (x = Int32.ofNat k) then t else swt x d r
  | _ => d
end
section
def hL : List (Nat × Nat × Nat × Nat × Nat × Nat) := [(193, 0, 10, 1, 15, 4), (193, 0, 10, 2, 19, 4), (194, 0, 10, 1, 15, 4), (194, 0, 10, 2, 19, 4), (194, 0, 10, 3, 23, 4), (195, 0, 10, 1, 15, 4), (195, 0, 10, 2, 19, 4), (195, 0, 10, 3, 23, 4), (196, 0, 9, 2, 13, 3), (196, 0, 9, 3, 16, 3), (197, 0, 9, 2, 13, 3), (197, 0, 9, 3, 16, 3), (198, 0, 8, 2, 12, 2), (198, 0, 8, 3, 15, 2), (199, 0, 8, 3, 12, 2), (200, 0, 10, 1, 15, 4), (200, 0, 10, 2, 19, 4), (201, 0, 10, 1, 15, 4), (201, 0, 10, 2, 19, 4), (202, 0, 9, 1, 13, 3), (203, 0, 10, 1, 15, 4), (203, 0, 10, 2, 19, 4), (204, 0, 10, 1, 15, 4), (204, 0, 10, 2, 19, 4), (205, 0, 9, 2, 13, 3), (206, 0, 9, 1, 13, 3), (207, 0, 10, 2, 15, 4), (208, 0, 9, 2, 13, 3)]
def hnd (m pc E : Nat) : Option (Nat × Nat) := match hL.find? (fun r => Nat.beq m r.1 && (Nat.ble r.2.1 pc && (Nat.blt pc r.2.2.1 && Nat.beq r.2.2.2.1 E))) with
  | some r => some (r.2.2.2.2.1, r.2.2.2.2.2)
  | none => none
abbrev Out : Type := Option Value ⊕ Nat
abbrev Scr : Type := Nat × (Nat → Int32)
def run (xs : Scr) : Nat → Nat → Nat → List Value → List Value → Mem → Option (Out × Mem)
  | 0, _, _, _, _, _ => none
  | f + 1, m, pc, L, st, μ => match step xs m pc L st μ with
    | none => none
    | some (g, r) => bif g then (match r with
      | .inl (n, L', s', μ') => run xs f m n L' s' μ'
      | .inr (.inl (b, t, n, L', s', μ')) => bif b then run xs f m t L' s' μ' else run xs f m n L' s' μ'
      | .inr (.inr (.inl (x, ps, d, L', s', μ'))) => run xs f m (swt x d ps) L' s' μ'
      | .inr (.inr (.inr (.inl v))) => some (.inl v, μ)
      | .inr (.inr (.inr (.inr (.inl E)))) => some (.inr E, excM μ)
      | .inr (.inr (.inr (.inr (.inr (y, Lc, n, L', s', μ'))))) => match run xs f y 0 Lc [] μ' with
        | none => none
        | some (.inl v, μ2) => run xs f m n L' (v.toList ++ s') μ2
        | some (.inr E, μ2) => match hnd m pc E with
          | none => some (.inr E, μ2)
          | some (p', k) => run xs f m p' (st1 L' k .null) [] μ2) else none
abbrev Post : Type := Out → Mem → Prop
def Ev (xs : Scr) (m pc : Nat) (L st : List Value) (μ : Mem) (Q : Post) : Prop := ∃ (f : Nat) (o : Out × Mem), run xs f m pc L st μ = some o ∧ Q o.1 o.2
theorem run_mono {xs : Scr} : ∀ {f m pc : Nat} {L st : List Value} {μ : Mem} {o : Out × Mem}, run xs f m pc L st μ = some o → run xs (f + 1) m pc L st μ = some o := by
  intro f
  induction f with
  | zero => intro m pc L st μ o h; simp [run] at h
  | succ f ih =>
    intro m pc L st μ o h
    rw [run] at h ⊢
    cases hs : step xs m pc L st μ with
    | none => rw [hs] at h; simp at h
    | some q =>
      obtain ⟨g, r⟩ := q
      rw [hs] at h
      cases g with
      | false => simp at h
      | true =>
        simp only [cond_true] at h ⊢
        rcases r with ⟨n, L', s', μ'⟩ | ⟨b, t, n, L', s', μ'⟩ | ⟨x, ps, d, L', s', μ'⟩ | v | E | ⟨y, Lc, n, L', s', μ'⟩
        · exact ih h
        · cases b
          · exact ih h
          · exact ih h
        · exact ih h
        · exact h
        · exact h
        · dsimp only at h ⊢
          cases hc : run xs f y 0 Lc [] μ' with
          | none => rw [hc] at h; simp at h
          | some q =>
            rw [hc] at h
            rw [ih hc]
            obtain ⟨ov, μ2⟩ := q
            cases ov with
            | inl v => exact ih h
            | inr E =>
              dsimp only at h ⊢
              cases hh : hnd m pc E with
              | none => rw [hh] at h; exact h
              | some z => rw [hh] at h; exact ih h
theorem run_le {xs : Scr} {f g m pc : Nat} {L st : List Value} {μ : Mem} {o : Out × Mem} (hfg : f ≤ g) (h : run xs f m pc L st μ = some o) : run xs g m pc L st μ = some o := by
  obtain ⟨k, rfl⟩ := Nat.exists_eq_add_of_le hfg
  induction k with
  | zero => exact h
  | succ k ih => exact run_mono (ih (Nat.le_add_right f k))
theorem run_det {xs : Scr} {f g m pc : Nat} {L st : List Value} {μ : Mem} {o o' : Out × Mem} (h : run xs f m pc L st μ = some o) (h' : run xs g m pc L st μ = some o') : o = o' := by
  have h1 := run_le (Nat.le_max_left f g) h
  have h2 := run_le (Nat.le_max_right f g) h'
  exact Option.some.inj (h1.symm.trans h2)
theorem Ev.imp {xs : Scr} {m pc : Nat} {L st : List Value} {μ : Mem} {Q Q' : Post} (h : Ev xs m pc L st μ Q) (hQ : ∀ o μ', Q o μ' → Q' o μ') : Ev xs m pc L st μ Q' := by
  obtain ⟨f, o, h1, h2⟩ := h
  exact ⟨f, o, h1, hQ _ _ h2⟩
/-- a contract with one answer, as an equivalence -/
theorem Ev.det {xs : Scr} {m pc : Nat} {L st : List Value} {μ : Mem} {o : Out} {μ' : Mem} (h : Ev xs m pc L st μ (fun o' u => o' = o ∧ u = μ')) (Q : Post) : Ev xs m pc L st μ Q ↔ Q o μ' := by
  obtain ⟨f, o1, h1, h2, h3⟩ := h
  constructor
  · rintro ⟨g, o2, h4, h5⟩
    have := run_det h1 h4
    rw [← this, h2, h3] at h5
    exact h5
  · intro hQ
    exact ⟨f, o1, h1, by rw [h2, h3]; exact hQ⟩
def CB (K : Option Value → Mem → Prop) (X : Nat → Mem → Prop) : Post := fun o μ => match o with | .inl v => K v μ | .inr E => X E μ
def KX (xs : Scr) (m pc : Nat) (L : List Value) (Q : Post) : Nat → Mem → Prop := fun E μ => match hnd m pc E with
  | none => Q (.inr E) μ
  | some (p', k) => Ev xs m p' (st1 L k .null) [] μ Q
/-- what one step says -/
def stE (xs : Scr) (m pc : Nat) (μ : Mem) (Q : Post) (C : Nat → List Value → List Value → Mem → Prop) (r : Res) : Prop := match r with
  | none => False
  | some (g, r) => bif g then (match r with
    | .inl (n, L', s', μ') => C n L' s' μ'
    | .inr (.inl (b, t, n, L', s', μ')) => bif b then C t L' s' μ' else C n L' s' μ'
    | .inr (.inr (.inl (x, ps, d, L', s', μ'))) => C (swt x d ps) L' s' μ'
    | .inr (.inr (.inr (.inl v))) => Q (.inl v) μ
    | .inr (.inr (.inr (.inr (.inl E)))) => Q (.inr E) (excM μ)
    | .inr (.inr (.inr (.inr (.inr (y, Lc, n, L', s', μ'))))) => Ev xs y 0 Lc [] μ' (CB (fun v μ2 => C n L' (v.toList ++ s') μ2) (KX xs m pc L' Q))) else False
theorem Ev.one {xs : Scr} {m pc : Nat} {L st : List Value} {μ : Mem} {Q : Post} (h : stE xs m pc μ Q (fun n L' s' μ' => Ev xs m n L' s' μ' Q) (step xs m pc L st μ)) : Ev xs m pc L st μ Q := by
  have key : ∀ {n : Nat} {L' s' : List Value} {μ' : Mem}, (∀ f, run xs (f + 1) m pc L st μ = run xs f m n L' s' μ') → Ev xs m n L' s' μ' Q → Ev xs m pc L st μ Q := fun hr ⟨f, o, h1, h2⟩ => ⟨f + 1, o, by rw [hr]; exact h1, h2⟩
  cases hs : step xs m pc L st μ with
  | none => rw [hs] at h; exact h.elim
  | some q =>
    obtain ⟨g, r⟩ := q
    rw [hs] at h
    cases g with
    | false => exact h.elim
    | true =>
      rcases r with ⟨n, L', s', μ'⟩ | ⟨b, t, n, L', s', μ'⟩ | ⟨x, ps, d, L', s', μ'⟩ | v | E | ⟨y, Lc, n, L', s', μ'⟩
      · exact key (fun f => by rw [run, hs]; rfl) h
      · cases b
        · exact key (fun f => by rw [run, hs]; rfl) h
        · exact key (fun f => by rw [run, hs]; rfl) h
      · exact key (fun f => by rw [run, hs]; rfl) h
      · exact ⟨1, (.inl v, μ), by rw [run, hs]; rfl, h⟩
      · exact ⟨1, (.inr E, excM μ), by rw [run, hs]; rfl, h⟩
      · obtain ⟨f, ⟨o, μ2⟩, h1, h2⟩ := h
        cases o with
        | inl v =>
          obtain ⟨f', o', h3, h4⟩ := h2
          refine ⟨max f f' + 1, o', ?_, h4⟩
          rw [run, hs]
          dsimp only [cond_true]
          rw [run_le (Nat.le_max_left f f') h1]
          exact run_le (Nat.le_max_right f f') h3
        | inr E =>
          have h2 : KX xs m pc L' Q E μ2 := h2
          unfold KX at h2
          cases hh : hnd m pc E with
          | none =>
            rw [hh] at h2
            refine ⟨f + 1, (.inr E, μ2), ?_, h2⟩
            rw [run, hs]
            dsimp only [cond_true]
            rw [h1]
            dsimp only
            rw [hh]
          | some z =>
            obtain ⟨p', k⟩ := z
            rw [hh] at h2
            obtain ⟨f', o', h3, h4⟩ := h2
            refine ⟨max f f' + 1, o', ?_, h4⟩
            rw [run, hs]
            dsimp only [cond_true]
            rw [run_le (Nat.le_max_left f f') h1]
            dsimp only
            rw [hh]
            exact run_le (Nat.le_max_right f f') h3
/-! typed ends of calls -/
def QV (K : Mem → Prop) (X : Nat → Mem → Prop) : Post := fun o μ => match o with | .inl none => K μ | .inr E => X E μ | _ => False
def QI (K : Int32 → Mem → Prop) (X : Nat → Mem → Prop) : Post := fun o μ => match o with | .inl (some (.int x)) => K x μ | .inr E => X E μ | _ => False
def QL (K : Int64 → Mem → Prop) (X : Nat → Mem → Prop) : Post := fun o μ => match o with | .inl (some (.long x)) => K x μ | .inr E => X E μ | _ => False
def QF (K : UInt32 → Mem → Prop) (X : Nat → Mem → Prop) : Post := fun o μ => match o with | .inl (some (.float x)) => K x μ | .inr E => X E μ | _ => False
def QD (K : UInt64 → Mem → Prop) (X : Nat → Mem → Prop) : Post := fun o μ => match o with | .inl (some (.double x)) => K x μ | .inr E => X E μ | _ => False
def QA (K : Nat → Mem → Prop) (X : Nat → Mem → Prop) : Post := fun o μ => match o with | .inl (some (.ref x)) => K x μ | .inr E => X E μ | _ => False
def CBt (t : Nat) (K : List Value → Mem → Prop) (X : Nat → Mem → Prop) : Post := match t with
  | 0 => QV (fun μ => K [] μ) X
  | 1 => QI (fun x μ => K [.int x] μ) X
  | 2 => QL (fun x μ => K [.long x] μ) X
  | 3 => QF (fun x μ => K [.float x] μ) X
  | 4 => QD (fun x μ => K [.double x] μ) X
  | _ => QA (fun x μ => K [.ref x] μ) X
theorem CBt_CB {t : Nat} {K : List Value → Mem → Prop} {X : Nat → Mem → Prop} {o : Out} {μ : Mem} (h : CBt t K X o μ) : CB (fun v μ => K v.toList μ) X o μ := by
  rcases o with v | E
  · rcases v with _ | v
    · match t, h with
      | 0, h => exact h
      | 1, h => exact h.elim
      | 2, h => exact h.elim
      | 3, h => exact h.elim
      | 4, h => exact h.elim
      | t + 5, h => exact h.elim
    · cases v <;> (match t, h with
      | 0, h => first | exact h | exact h.elim
      | 1, h => first | exact h | exact h.elim
      | 2, h => first | exact h | exact h.elim
      | 3, h => first | exact h | exact h.elim
      | 4, h => first | exact h | exact h.elim
      | t + 5, h => first | exact h | exact h.elim)
  · match t, h with
    | 0, h => exact h
    | 1, h => exact h
    | 2, h => exact h
    | 3, h => exact h
    | 4, h => exact h
    | t + 5, h => exact h
def rtag (m pc : Nat) : Nat := match I m pc with | some e => e.2.2.getD 6 0 | none => 0
def swp (x : Int32) (d : Nat) (P : Nat → Prop) : List Nat → Prop
  | k :: t :: r => bif decide (x = Int32.ofNat k) then P t else swp x d P r
  | _ => P d
theorem swp_swt {x : Int32} {d : Nat} {P : Nat → Prop} : ∀ (ps : List Nat), swp x d P ps → P (swt x d ps)
  | k :: t :: r => fun h => by
    unfold swp at h
    unfold swt
    cases hb : decide (x = Int32.ofNat k)
    · rw [hb] at h; exact swp_swt r h
    · rw [hb] at h; exact h
  | [] => fun h => h
  | [_] => fun h => h
/-- the condition under which a stretch of code (up to the stops S) ends well -/
def wpn (xs : Scr) (S : List Nat) : Nat → Nat → Nat → List Value → List Value → Mem → Post → Prop
  | 0, m, pc, L, st, μ, Q => Ev xs m pc L st μ Q
  | f + 1, m, pc, L, st, μ, Q => match step xs m pc L st μ with
    | none => False
    | some (g, r) => bif g then (match r with
      | .inl (n, L', s', μ') => bif S.elem n then Ev xs m n L' s' μ' Q else wpn xs S f m n L' s' μ' Q
      | .inr (.inl (b, t, n, L', s', μ')) => bif b then (bif S.elem t then Ev xs m t L' s' μ' Q else wpn xs S f m t L' s' μ' Q) else (bif S.elem n then Ev xs m n L' s' μ' Q else wpn xs S f m n L' s' μ' Q)
      | .inr (.inr (.inl (x, ps, d, L', s', μ'))) => swp x d (fun t => bif S.elem t then Ev xs m t L' s' μ' Q else wpn xs S f m t L' s' μ' Q) ps
      | .inr (.inr (.inr (.inl v))) => Q (.inl v) μ
      | .inr (.inr (.inr (.inr (.inl E)))) => Q (.inr E) (excM μ)
      | .inr (.inr (.inr (.inr (.inr (y, Lc, n, L', s', μ'))))) => Ev xs y 0 Lc [] μ' (CBt (rtag m pc) (fun v μ2 => bif S.elem n then Ev xs m n L' (v ++ s') μ2 Q else wpn xs S f m n L' (v ++ s') μ2 Q) (KX xs m pc L' Q))) else False
theorem wp {xs : Scr} (S : List Nat) : ∀ (f : Nat) {m pc : Nat} {L st : List Value} {μ : Mem} {Q : Post}, wpn xs S f m pc L st μ Q → Ev xs m pc L st μ Q := by
  intro f
  induction f with
  | zero => intro m pc L st μ Q h; exact h
  | succ f ih =>
    intro m pc L st μ Q h
    have nx : ∀ {n : Nat} {L' s' : List Value} {μ' : Mem}, (bif S.elem n then Ev xs m n L' s' μ' Q else wpn xs S f m n L' s' μ' Q) → Ev xs m n L' s' μ' Q := by
      intro n L' s' μ' h
      cases hb : S.elem n
      · rw [hb] at h; exact ih h
      · rw [hb] at h; exact h
    refine Ev.one ?_
    rw [wpn] at h
    cases hs : step xs m pc L st μ with
    | none => rw [hs] at h; exact h
    | some q =>
      obtain ⟨g, r⟩ := q
      rw [hs] at h
      cases g with
      | false => exact h
      | true =>
        rcases r with ⟨n, L', s', μ'⟩ | ⟨b, t, n, L', s', μ'⟩ | ⟨x, ps, d, L', s', μ'⟩ | v | E | ⟨y, Lc, n, L', s', μ'⟩
        · exact nx h
        · cases b
          · exact nx h
          · exact nx h
        · exact nx (swp_swt (P := fun t => bif S.elem t then Ev xs m t L' s' μ' Q else wpn xs S f m t L' s' μ' Q) ps h)
        · exact h
        · exact h
        · refine Ev.imp (Q := CBt (rtag m pc) (fun v μ2 => bif S.elem n then Ev xs m n L' (v ++ s') μ2 Q else wpn xs S f m n L' (v ++ s') μ2 Q) (KX xs m pc L' Q)) h fun o μ2 h2 => ?_
          have h3 := CBt_CB h2
          rcases o with v | E
          · exact nx h3
          · exact h3
end
section
/-! what a step does to the counts -/
theorem mN_setI {μ : Mem} {a k : Nat} {v : Int32} : mN (setI μ a k v) = mN μ := rfl
theorem mX_setI {μ : Mem} {a k : Nat} {v : Int32} : mX (setI μ a k v) = mX μ := rfl
theorem mN_setR {μ : Mem} {a k : Nat} {v : Nat} : mN (setR μ a k v) = mN μ := rfl
theorem mX_setR {μ : Mem} {a k : Nat} {v : Nat} : mX (setR μ a k v) = mX μ := rfl
theorem mN_setL {μ : Mem} {a k : Nat} {v : Int64} : mN (setL μ a k v) = mN μ := rfl
theorem mX_setL {μ : Mem} {a k : Nat} {v : Int64} : mX (setL μ a k v) = mX μ := rfl
theorem mN_newM {μ : Mem} : mN (newM μ) = mN μ + 1 := rfl
theorem mX_newM {μ : Mem} : mX (newM μ) = mX μ := rfl
theorem mN_excM {μ : Mem} : mN (excM μ) = mN μ := rfl
theorem mX_excM {μ : Mem} : mX (excM μ) = mX μ + 1 := rfl
theorem mN_cpyM {μ : Mem} {a0 sp a dp n : Nat} : mN (cpyM μ a0 sp a dp n) = mN μ := rfl
theorem mX_cpyM {μ : Mem} {a0 sp a dp n : Nat} : mX (cpyM μ a0 sp a dp n) = mX μ := rfl
/-- the counts behind a step -/
def grw (μ μ' : Mem) : Prop := mX μ' = mX μ ∧ (mN μ' = mN μ ∨ (mN μ' = mN μ + 1 ∧ mN μ < NN ∧ mX μ = 0))
theorem grw.rf {μ : Mem} : grw μ μ := ⟨rfl, Or.inl rfl⟩
/-- every way on from a step keeps the counts so -/
def grR (μ : Mem) (r : Res) : Prop := match r with
  | none => True
  | some (g, r) => g = true → (match r with
    | .inl q => grw μ q.2.2.2
    | .inr (.inl q) => grw μ q.2.2.2.2.2
    | .inr (.inr (.inl q)) => grw μ q.2.2.2.2.2
    | .inr (.inr (.inr (.inl _))) => True
    | .inr (.inr (.inr (.inr (.inl _)))) => mN μ = NN
    | .inr (.inr (.inr (.inr (.inr q)))) => grw μ q.2.2.2.2.2)
theorem gq_none {μ : Mem} : grR μ none := trivial
theorem gq_go {n : Nat} {L st : List Value} {μ μ' : Mem} (h : grw μ μ') : grR μ (go n L st μ') := fun _ => h
theorem gq_gg {g : Bool} {n : Nat} {L st : List Value} {μ μ' : Mem} (h : grw μ μ') : grR μ (gg g n L st μ') := fun _ => h
theorem gq_br {b : Bool} {t n : Nat} {L st : List Value} {μ μ' : Mem} (h : grw μ μ') : grR μ (br b t n L st μ') := fun _ => h
theorem gq_ld {t i n : Nat} {L st : List Value} {μ : Mem} : grR μ (sLd t i n L st μ) := by
  unfold sLd; split
  · rename_i v _
    cases Nat.beq (vtag v) t <;> first | exact gq_none | exact gq_go grw.rf
  · exact gq_none
theorem gq_s1 {t i n : Nat} {L st : List Value} {μ : Mem} : grR μ (sS1 t i n L st μ) := by
  unfold sS1; split
  · rename_i v _
    cases Nat.beq (vtag v) t <;> first | exact gq_none | exact gq_go grw.rf
  · exact gq_none
theorem gq_s2 {t i n : Nat} {L st : List Value} {μ : Mem} : grR μ (sS2 t i n L st μ) := by
  unfold sS2; split
  · rename_i v _
    cases Nat.beq (vtag v) t <;> first | exact gq_none | exact gq_go grw.rf
  · exact gq_none
theorem gq_ii1 {f : Int32 → Int32} {n : Nat} {L st : List Value} {μ : Mem} : grR μ (ii1 f n L st μ) := by
  unfold ii1; split <;> first | exact gq_go grw.rf | exact gq_none
theorem gq_ii2 {f : Int32 → Int32 → Int32} {n : Nat} {L st : List Value} {μ : Mem} : grR μ (ii2 f n L st μ) := by
  unfold ii2; split <;> first | exact gq_go grw.rf | exact gq_none
theorem gq_ll2 {f : Int64 → Int64 → Int64} {n : Nat} {L st : List Value} {μ : Mem} : grR μ (ll2 f n L st μ) := by
  unfold ll2; split <;> first | exact gq_go grw.rf | exact gq_none
theorem gq_ff2 {f : UInt32 → UInt32 → UInt32} {n : Nat} {L st : List Value} {μ : Mem} : grR μ (ff2 f n L st μ) := by
  unfold ff2; split <;> first | exact gq_gg grw.rf | exact gq_none
theorem gq_dd2 {f : UInt64 → UInt64 → UInt64} {n : Nat} {L st : List Value} {μ : Mem} : grR μ (dd2 f n L st μ) := by
  unfold dd2; split <;> first | exact gq_gg grw.rf | exact gq_none
theorem gq_get {aux : List Nat} {n : Nat} {L st : List Value} {μ : Mem} : grR μ (sGet aux n L st μ) := by
  unfold sGet; split <;> first | exact gq_gg grw.rf | exact gq_none
theorem gq_put {aux : List Nat} {n : Nat} {L st : List Value} {μ : Mem} : grR μ (sPut aux n L st μ) := by
  unfold sPut; split <;> first | exact gq_gg ⟨rfl, Or.inl rfl⟩ | exact gq_none
theorem gq_call {aux : List Nat} {n : Nat} {L st : List Value} {μ : Mem} : grR μ (sCall aux n L st μ) := by
  unfold sCall
  repeat' split
  all_goals first | exact gq_none | exact gq_gg ⟨rfl, Or.inl rfl⟩ | exact fun _ => grw.rf
theorem gq_new {g : Bool} {n : Nat} {L st : List Value} {μ : Mem} (h : g = true → mN μ < NN ∧ mX μ = 0) : grR μ (gg g n L st (newM μ)) := fun hg => ⟨rfl, Or.inr ⟨rfl, h hg⟩⟩
theorem gq_stp {xs : Scr} {ins : Instr} {n : Nat} {aux : List Nat} {L st : List Value} {μ : Mem} : grR μ (stp xs ins n aux L st μ) := by
  have hn : ∀ {b : Bool}, (Nat.blt (mN μ) NN && (Nat.beq (mX μ) 0 && b)) = true → mN μ < NN ∧ mX μ = 0 := by
    intro b h
    simp only [Bool.and_eq_true] at h
    exact ⟨Nat.le_of_ble_eq_true h.1, Nat.eq_of_beq_eq_true h.2.1⟩
  cases ins
  case tableswitch => unfold stp; dsimp only; split <;> first | exact gq_none | exact fun _ => grw.rf
  case lookupswitch => unfold stp; dsimp only; split <;> first | exact gq_none | exact fun _ => grw.rf
  case new =>
    unfold stp
    dsimp only
    split
    · intro hg
      simp only [Bool.and_eq_true] at hg
      exact Nat.eq_of_beq_eq_true hg.1
    · exact gq_new hn
    · exact gq_none
  case newarray => unfold stp; dsimp only; split <;> first | exact gq_none | exact gq_new hn
  case anewarray => unfold stp; dsimp only; split <;> first | exact gq_none | exact gq_new hn
  all_goals first
    | exact gq_none
    | exact gq_ld
    | exact gq_s1
    | exact gq_s2
    | exact gq_ii1
    | exact gq_ii2
    | exact gq_ll2
    | exact gq_ff2
    | exact gq_dd2
    | exact gq_get
    | exact gq_put
    | exact gq_call
    | exact gq_go grw.rf
    | (unfold stp; dsimp only; (repeat' split) <;> first | exact gq_none | exact gq_go grw.rf | exact gq_gg grw.rf | exact gq_gg ⟨rfl, Or.inl rfl⟩ | exact gq_br grw.rf | exact fun _ => trivial)
theorem gq_step {xs : Scr} {m pc : Nat} {L st : List Value} {μ : Mem} : grR μ (step xs m pc L st μ) := by
  unfold step
  split
  · exact gq_none
  · exact gq_stp
/-- the counts of a run grow -/
theorem run_grow {xs : Scr} : ∀ {f m pc : Nat} {L st : List Value} {μ : Mem} {o : Out × Mem}, run xs f m pc L st μ = some o → mN μ ≤ NN → mN μ ≤ mN o.2 ∧ mX μ ≤ mX o.2 ∧ mN o.2 ≤ NN ∧ (mN o.2 < NN → mX o.2 = mX μ) ∧ (mN μ < mN o.2 → mX μ = 0) := by
  intro f
  induction f with
  | zero => intro m pc L st μ o h; simp [run] at h
  | succ f ih =>
    intro m pc L st μ o h hN
    have key : ∀ {μ' : Mem}, grw μ μ' → (mN μ' ≤ NN → mN μ' ≤ mN o.2 ∧ mX μ' ≤ mX o.2 ∧ mN o.2 ≤ NN ∧ (mN o.2 < NN → mX o.2 = mX μ') ∧ (mN μ' < mN o.2 → mX μ' = 0)) → mN μ ≤ mN o.2 ∧ mX μ ≤ mX o.2 ∧ mN o.2 ≤ NN ∧ (mN o.2 < NN → mX o.2 = mX μ) ∧ (mN μ < mN o.2 → mX μ = 0) := by
      rintro μ' ⟨h1, h2⟩ h3
      rw [h1] at h3
      rcases h2 with h2 | ⟨h2, h4, h5⟩
      · rw [h2] at h3; exact h3 hN
      · rw [h2] at h3
        obtain ⟨q1, q2, q3, q4, q5⟩ := h3 (by omega)
        exact ⟨by omega, q2, q3, q4, fun _ => h5⟩
    have hg := gq_step (xs := xs) (m := m) (pc := pc) (L := L) (st := st) (μ := μ)
    rw [run] at h
    cases hs : step xs m pc L st μ with
    | none => rw [hs] at h; simp at h
    | some q =>
      obtain ⟨g, r⟩ := q
      rw [hs] at h hg
      cases g with
      | false => simp at h
      | true =>
        simp only [cond_true] at h
        have hg := hg rfl
        rcases r with ⟨n, L', s', μ'⟩ | ⟨b, t, n, L', s', μ'⟩ | ⟨x, ps, d, L', s', μ'⟩ | v | E | ⟨y, Lc, n, L', s', μ'⟩
        · exact key hg (ih h)
        · cases b
          · exact key hg (ih h)
          · exact key hg (ih h)
        · exact key hg (ih h)
        · cases h; exact ⟨Nat.le_refl _, Nat.le_refl _, hN, fun _ => rfl, fun h => absurd h (Nat.lt_irrefl _)⟩
        · cases h
          have hg : mN μ = NN := hg
          exact ⟨Nat.le_refl _, Nat.le_succ _, hN, fun h => absurd h (by rw [show mN (Sum.inr E, excM μ).snd = mN μ from rfl, hg]; exact Nat.lt_irrefl _), fun h => absurd h (Nat.lt_irrefl _)⟩
        · dsimp only at h hg
          cases hc : run xs f y 0 Lc [] μ' with
          | none => rw [hc] at h; simp at h
          | some q =>
            rw [hc] at h
            obtain ⟨ov, μ2⟩ := q
            refine key hg fun hN' => ?_
            obtain ⟨a1, a2, a3, a4, a5⟩ := ih hc hN'
            dsimp only at a1 a2 a3 a4 a5
            have fin : (mN μ2 ≤ mN o.2 ∧ mX μ2 ≤ mX o.2 ∧ mN o.2 ≤ NN ∧ (mN o.2 < NN → mX o.2 = mX μ2) ∧ (mN μ2 < mN o.2 → mX μ2 = 0)) → mN μ' ≤ mN o.2 ∧ mX μ' ≤ mX o.2 ∧ mN o.2 ≤ NN ∧ (mN o.2 < NN → mX o.2 = mX μ') ∧ (mN μ' < mN o.2 → mX μ' = 0) := by
              rintro ⟨b1, b2, b3, b4, b5⟩
              exact ⟨by omega, by omega, b3, fun h => by rw [b4 h, a4 (by omega)], fun h => by
                by_cases hh : mN μ' < mN μ2
                · exact a5 hh
                · have := b5 (by omega); omega⟩
            cases ov with
            | inl v => exact fin (ih h a3)
            | inr E =>
              dsimp only at h
              cases hh : hnd m pc E with
              | none => rw [hh] at h; cases h; exact ⟨a1, a2, a3, a4, a5⟩
              | some z => rw [hh] at h; exact fin (ih h a3)
end
section
/-! the world that a heap of ours is, and the frame's values -/
def adr (n0 b a : Nat) : Nat := if a = SCR then b else n0 + a
def rv (n0 b : Nat) (v : Value) : Value := match v with | .ref a => .ref (adr n0 b a) | w => w
theorem adr_lt {n0 b a : Nat} (h : a < NN) : adr n0 b a = n0 + a := by
  unfold adr
  rw [if_neg (by unfold NN at h; unfold SCR; omega)]
theorem adr_scr {n0 b a : Nat} (h : a = SCR) : adr n0 b a = b := by unfold adr; rw [if_pos h]
theorem rv_cat {n0 b : Nat} (v : Value) : (rv n0 b v).category = v.category := by cases v <;> rfl
def fvl (n0 b : Nat) (μ : Mem) (ci a k : Nat) : Value := match fty ci k with
  | 0 => .int (mI μ a k)
  | 1 => va_rf ((mR μ a k).map (adr n0 b))
  | _ => .long (mL μ a k)
def cel (n0 b : Nat) (cA : Nat → ClassId) (μ : Mem) (a : Nat) : va_E := match (shp a).1 with
  | 5 => .inl (cA 5, (shp a).2, .inl (mI μ a))
  | 6 => .inl (cA 6, (shp a).2, .inl (mI μ a))
  | 7 => .inl (cA 7, (shp a).2, .inr (.inr (.inr (.inr (fun i => (mR μ a i).map (adr n0 b))))))
  | 8 => .inl (cA 8, (shp a).2, .inr (.inr (.inr (.inr (fun i => (mR μ a i).map (adr n0 b))))))
  | 9 => .inl (cA 9, (shp a).2, .inr (.inl (mL μ a)))
  | ci => .inr (ci, (List.range (shp a).2).map (fvl n0 b μ ci a))
def wld (n0 b : Nat) (cA : Nat → ClassId) (μ : Mem) : va_W := (List.range (mN μ)).map (fun a => (n0 + a, cel n0 b cA μ a))
def tysOf (cA : Nat → ClassId) : List (ClassId × FieldType) := [(cA 5, .char), (cA 6, .int), (cA 7, .object RX1), (cA 8, .object RX2), (cA 9, .long)]
def AA (n0 : Nat) : Nat → Prop := fun q => n0 ≤ q
section World
variable {n0 b : Nat} {cA : Nat → ClassId} {μ μ' : Mem} {a ci : Nat}
theorem cel_O (h : (shp a).1 = ci) (hc : ci < 5) : cel n0 b cA μ a = .inr (ci, (List.range (shp a).2).map (fvl n0 b μ ci a)) := by
  unfold cel
  rw [h]
  match ci, hc with
  | 0, _ => rfl
  | 1, _ => rfl
  | 2, _ => rfl
  | 3, _ => rfl
  | 4, _ => rfl
theorem cel_5 (h : (shp a).1 = 5) : cel n0 b cA μ a = .inl (cA 5, (shp a).2, .inl (mI μ a)) := by unfold cel; rw [h]; rfl
theorem cel_6 (h : (shp a).1 = 6) : cel n0 b cA μ a = .inl (cA 6, (shp a).2, .inl (mI μ a)) := by unfold cel; rw [h]; rfl
theorem cel_7 (h : (shp a).1 = 7) : cel n0 b cA μ a = .inl (cA 7, (shp a).2, .inr (.inr (.inr (.inr (fun i => (mR μ a i).map (adr n0 b)))))) := by unfold cel; rw [h]; rfl
theorem cel_8 (h : (shp a).1 = 8) : cel n0 b cA μ a = .inl (cA 8, (shp a).2, .inr (.inr (.inr (.inr (fun i => (mR μ a i).map (adr n0 b)))))) := by unfold cel; rw [h]; rfl
theorem cel_9 (h : (shp a).1 = 9) : cel n0 b cA μ a = .inl (cA 9, (shp a).2, .inr (.inl (mL μ a))) := by unfold cel; rw [h]; rfl
/-- the same content, the same cell -/
theorem cel_cong (h1 : mI μ' a = mI μ a) (h2 : mR μ' a = mR μ a) (h3 : mL μ' a = mL μ a) : cel n0 b cA μ' a = cel n0 b cA μ a := by
  have hf : ∀ ci, fvl n0 b μ' ci a = fvl n0 b μ ci a := by
    intro ci
    funext k
    unfold fvl
    rw [h1, h2, h3]
  unfold cel
  rw [h1, h2, h3]
  simp only [hf]
theorem wld_get (h : a < mN μ) : (wld n0 b cA μ)[a]? = some (n0 + a, cel n0 b cA μ a) := by
  unfold wld
  rw [List.getElem?_map, List.getElem?_range h]
  rfl
theorem wld_len : (wld n0 b cA μ).length = mN μ := by unfold wld; rw [List.length_map, List.length_range]
theorem wld_none (h : ¬ a < mN μ) : (wld n0 b cA μ)[a]? = none := List.getElem?_eq_none (by rw [wld_len]; omega)
theorem wld_D : va_D (AA n0) (wld n0 b cA μ) := by
  have key : ∀ {i : Nat} {p : Nat × va_E}, (wld n0 b cA μ)[i]? = some p → p.1 = n0 + i := by
    intro i p h
    by_cases hi : i < mN μ
    · rw [wld_get hi] at h; cases h; rfl
    · rw [wld_none hi] at h; cases h
  refine ⟨fun i j p q hi hj hpq => ?_, fun k q hk => ?_⟩
  · have h1 := key hi
    have h2 := key hj
    omega
  · show n0 ≤ q.1
    rw [key hk]
    exact Nat.le_add_right _ _
theorem wld_set (h : a < mN μ) (hn : mN μ' = mN μ) (hc : ∀ c, c ≠ a → cel n0 b cA μ' c = cel n0 b cA μ c) {x : va_E} (hx : cel n0 b cA μ' a = x) : (wld n0 b cA μ).set a (n0 + a, x) = wld n0 b cA μ' := by
  subst hx
  apply List.ext_getElem?
  intro i
  by_cases hi : i = a
  · subst hi
    rw [List.getElem?_set_self (by rw [wld_len]; exact h), wld_get (by rw [hn]; exact h)]
  · rw [List.getElem?_set_ne (fun q => hi q.symm)]
    by_cases hl : i < mN μ
    · rw [wld_get hl, wld_get (by rw [hn]; exact hl), hc i hi]
    · rw [wld_none hl, wld_none (by rw [hn]; exact hl)]
theorem wld_push (hn : mN μ' = mN μ + 1) (hc : ∀ c, c < mN μ → cel n0 b cA μ' c = cel n0 b cA μ c) {x : va_E} (hx : cel n0 b cA μ' (mN μ) = x) : wld n0 b cA μ ++ [(n0 + mN μ, x)] = wld n0 b cA μ' := by
  subst hx
  apply List.ext_getElem?
  intro i
  rw [List.getElem?_append, wld_len]
  by_cases hl : i < mN μ
  · rw [if_pos hl, wld_get hl, wld_get (by omega), hc i hl]
  · rw [if_neg hl]
    by_cases he : i = mN μ
    · subst he
      rw [Nat.sub_self, wld_get (by omega)]
      rfl
    · rw [wld_none (by omega)]
      exact List.getElem?_eq_none (by simp; omega)
theorem wld_get' (h : a < mN μ) {q : va_E} (hq : cel n0 b cA μ a = q) : (wld n0 b cA μ)[a]? = some (n0 + a, q) := by rw [wld_get h, hq]
end World
/-! the guards, read -/
theorem gO_spec {μ : Mem} {a ci : Nat} (h : gO μ a ci = true) : a < mN μ ∧ (shp a).1 = ci := by
  unfold gO at h
  rw [Bool.and_eq_true] at h
  exact ⟨Nat.le_of_ble_eq_true h.1, Nat.eq_of_beq_eq_true h.2⟩
theorem clampInt {i : Int32} (h : 0 ≤ i.toInt) : (i.toNatClampNeg : Int) = i.toInt := Int.toNat_of_nonneg h
theorem vpin_of {i : Int32} {n : Nat} (h1 : 0 ≤ i.toInt) (h2 : i.toInt < (n : Int)) : vp_in i n := by
  have h3 := clampInt h1
  rintro (h | h)
  · rw [Int32.lt_iff_toInt_lt, Int32.toInt_zero] at h
    omega
  · omega
theorem gA_spec {μ : Mem} {a kd : Nat} {i : Int32} (h : gA μ a kd i = true) : a < mN μ ∧ (shp a).1 = kd ∧ vp_in i (shp a).2 := by
  unfold gA at h
  rw [Bool.and_eq_true, Bool.and_eq_true, decide_eq_true_eq] at h
  exact ⟨Nat.le_of_ble_eq_true h.1, Nat.eq_of_beq_eq_true h.2.1, vpin_of h.2.2.1 h.2.2.2⟩
theorem shp_obj : ∀ a, a < 258 → (shp a).1 < 5 → (shp a).2 = (clsOf (shp a).1).2.2 := by decide +kernel
theorem shp_len : ∀ a, a < 258 → (shp a).2 ≤ 1944 := by decide +kernel
theorem shp_lt {a : Nat} (h : a < NN) : (shp a).1 ≤ 9 := (by decide +kernel : ∀ a, a < 258 → (shp a).1 ≤ 9) a h
/-! the locals -/
def lvx (n0 b : Nat) (ls : Array Slot) (n : Nat) (L : List Value) : Prop := ls.size = n ∧ L.length = n ∧ lv_wf ls ∧ ∀ (i : Nat) (v : Value), L[i]? = some v → v ≠ .null → ls[i]? = some (.val (rv n0 b v))
def asl (n0 b : Nat) (L : List Value) : List (Nat × Value) := (List.range L.length).filterMap (fun i => match L[i]? with | some v => if v = .null then none else some (i, rv n0 b v) | none => none)
theorem asl_mem {n0 b : Nat} {L : List Value} {q : Nat × Value} : q ∈ asl n0 b L ↔ ∃ v, L[q.1]? = some v ∧ v ≠ .null ∧ q.2 = rv n0 b v := by
  unfold asl
  rw [List.mem_filterMap]
  constructor
  · rintro ⟨i, -, h⟩
    cases hv : L[i]? with
    | none => rw [hv] at h; cases h
    | some v =>
      rw [hv] at h
      dsimp only at h
      split at h
      · cases h
      · rename_i hn
        cases h
        exact ⟨v, hv, hn, rfl⟩
  · rintro ⟨v, h1, h2, h3⟩
    refine ⟨q.1, List.mem_range.mpr (List.getElem?_eq_some_iff.mp h1).1, ?_⟩
    rw [h1]
    dsimp only
    rw [if_neg h2, ← h3]
theorem lvx_has {n0 b n : Nat} {ls : Array Slot} {L : List Value} (h : lvx n0 b ls n L) : lv_has ls n (asl n0 b L) := by
  refine ⟨h.1, h.2.2.1, fun q hq => ?_⟩
  obtain ⟨v, h1, h2, h3⟩ := asl_mem.mp hq
  rw [h3]
  exact h.2.2.2 _ _ h1 h2
theorem lvx_at {n0 b n : Nat} {ls : Array Slot} {L : List Value} (h : lvx n0 b ls n L) {i : Nat} {v : Value} (hi : L[i]? = some v) (hv : v ≠ .null) : ls[i]? = some (.val (rv n0 b v)) := h.2.2.2 i v hi hv
theorem st1_len {L : List Value} {i : Nat} {v : Value} : (st1 L i v).length = L.length := by
  unfold st1
  split
  · rw [List.length_set]
  · rw [List.length_set, List.length_modify]
theorem st1_get {L : List Value} {i j : Nat} {v w : Value} (h : (st1 L i v)[j]? = some w) (hw : w ≠ .null) : (j = i ∧ w = v) ∨ (j ≠ i ∧ L[j]? = some w ∧ ¬ (j + 1 = i ∧ w.category = 2)) := by
  unfold st1 at h
  split at h
  · rw [List.getElem?_set] at h
    split at h
    · split at h
      · cases h; exact Or.inl ⟨by omega, rfl⟩
      · cases h
    · exact Or.inr ⟨by omega, h, by omega⟩
  · rename_i k
    rw [List.getElem?_set] at h
    split at h
    · split at h
      · cases h; exact Or.inl ⟨by omega, rfl⟩
      · cases h
    · refine Or.inr ⟨by omega, ?_⟩
      rw [List.getElem?_modify] at h
      by_cases hk : k = j
      · subst hk
        cases hL : L[k]? with
        | none => rw [hL] at h; cases h
        | some u =>
          rw [hL] at h
          have h : nl2 u = w := by simpa using h
          cases u <;> simp only [nl2] at h <;> subst h <;> first | exact absurd rfl hw | exact ⟨rfl, fun q => by simp [Value.category] at q⟩
      · cases hL : L[j]? with
        | none => rw [hL] at h; cases h
        | some u =>
          rw [hL] at h
          have h : u = w := by simpa [hk] using h
          subst h
          exact ⟨rfl, by omega⟩
theorem lvx_st1 {n0 b n : Nat} {ls ls' : Array Slot} {L : List Value} {i : Nat} {v : Value} (h : lvx n0 b ls n L) (h' : lv_has ls' n ((i, rv n0 b v) :: (asl n0 b L).filter (fun q => !(q.1 == i) && !(q.1 + 1 == i && q.2.category == 2)))) : lvx n0 b ls' n (st1 L i v) := by
  refine ⟨h'.1, by rw [st1_len]; exact h.2.1, h'.2.1, fun j w hj hw => ?_⟩
  rcases st1_get hj hw with ⟨rfl, rfl⟩ | ⟨h1, h2, h3⟩
  · exact h'.2.2 _ List.mem_cons_self
  · refine h'.2.2 (j, rv n0 b w) (List.mem_cons_of_mem _ (List.mem_filter.mpr ⟨asl_mem.mpr ⟨w, h2, hw, rfl⟩, ?_⟩))
    simp only [Bool.and_eq_true, Bool.not_eq_true', beq_eq_false_iff_ne, ne_eq, Bool.and_eq_false_iff, rv_cat]
    refine ⟨h1, ?_⟩
    by_cases hh : j + 1 = i
    · exact Or.inr fun q => h3 ⟨hh, q⟩
    · exact Or.inl hh
theorem lvx_st2 {n0 b n : Nat} {ls ls' : Array Slot} {L : List Value} {i : Nat} {v : Value} (h : lvx n0 b ls n L) (h' : lv_has ls' n ((i, rv n0 b v) :: (asl n0 b L).filter (fun q => !(q.1 == i) && (!(q.1 == i + 1) && !(q.1 + 1 == i && q.2.category == 2))))) : lvx n0 b ls' n (st2 L i v) := by
  refine ⟨h'.1, by unfold st2; rw [List.length_set, st1_len]; exact h.2.1, h'.2.1, fun j w hj hw => ?_⟩
  unfold st2 at hj
  rw [List.getElem?_set] at hj
  split at hj
  · split at hj
    · cases hj; exact absurd rfl hw
    · cases hj
  · rename_i hne
    rcases st1_get hj hw with ⟨rfl, rfl⟩ | ⟨h1, h2, h3⟩
    · exact h'.2.2 _ List.mem_cons_self
    · refine h'.2.2 (j, rv n0 b w) (List.mem_cons_of_mem _ (List.mem_filter.mpr ⟨asl_mem.mpr ⟨w, h2, hw, rfl⟩, ?_⟩))
      simp only [Bool.and_eq_true, Bool.not_eq_true', beq_eq_false_iff_ne, ne_eq, Bool.and_eq_false_iff, rv_cat]
      refine ⟨h1, fun q => hne q.symm, ?_⟩
      by_cases hh : j + 1 = i
      · exact Or.inr fun q => h3 ⟨hh, q⟩
      · exact Or.inl hh
/-- a place in the list of the known locals -/
theorem asl_at {n0 b : Nat} {L : List Value} {i : Nat} {v : Value} (h : L[i]? = some v) (hv : v ≠ .null) : ∃ k : Nat, (asl n0 b L)[k]? = some (i, rv n0 b v) := by
  have := List.getElem?_of_mem (asl_mem (n0 := n0) (b := b) (q := (i, rv n0 b v)).mpr ⟨v, h, hv, rfl⟩)
  exact this
end
section
/-! which instructions give which kind of step -/
def isBr (i : Instr) : Prop := match i with | .ifCond _ _ => True | .if_icmp _ _ => True | _ => False
def isSw (i : Instr) : Prop := match i with | .tableswitch _ _ _ _ => True | .lookupswitch _ _ => True | _ => False
def isRt (i : Instr) : Prop := match i with | .ireturn => True | .lreturn => True | .freturn => True | .dreturn => True | .areturn => True | .return_ => True | _ => False
def isNw (i : Instr) : Prop := match i with | .new _ => True | _ => False
def isCl (i : Instr) : Prop := match i with | .invokevirtual _ => True | .invokestatic _ => True | .invokespecial _ => True | _ => False
def kR (i : Instr) (r : Res) : Prop := match r with
  | none => True
  | some (_, r) => match r with
    | .inl _ => True
    | .inr (.inl _) => isBr i
    | .inr (.inr (.inl _)) => isSw i
    | .inr (.inr (.inr (.inl _))) => isRt i
    | .inr (.inr (.inr (.inr (.inl _)))) => isNw i
    | .inr (.inr (.inr (.inr (.inr _)))) => isCl i
theorem kr_none {i : Instr} : kR i none := trivial
theorem kr_go {i : Instr} {n : Nat} {L st : List Value} {μ : Mem} : kR i (go n L st μ) := trivial
theorem kr_gg {i : Instr} {g : Bool} {n : Nat} {L st : List Value} {μ : Mem} : kR i (gg g n L st μ) := trivial
theorem kr_ld {j : Instr} {t i n : Nat} {L st : List Value} {μ : Mem} : kR j (sLd t i n L st μ) := by
  unfold sLd; split
  · rename_i v _
    cases Nat.beq (vtag v) t <;> first | exact kr_none | exact kr_go
  · exact kr_none
theorem kr_s1 {j : Instr} {t i n : Nat} {L st : List Value} {μ : Mem} : kR j (sS1 t i n L st μ) := by
  unfold sS1; split
  · rename_i v _
    cases Nat.beq (vtag v) t <;> first | exact kr_none | exact kr_go
  · exact kr_none
theorem kr_s2 {j : Instr} {t i n : Nat} {L st : List Value} {μ : Mem} : kR j (sS2 t i n L st μ) := by
  unfold sS2; split
  · rename_i v _
    cases Nat.beq (vtag v) t <;> first | exact kr_none | exact kr_go
  · exact kr_none
theorem kr_ii1 {j : Instr} {f : Int32 → Int32} {n : Nat} {L st : List Value} {μ : Mem} : kR j (ii1 f n L st μ) := by unfold ii1; split <;> first | exact kr_go | exact kr_none
theorem kr_ii2 {j : Instr} {f : Int32 → Int32 → Int32} {n : Nat} {L st : List Value} {μ : Mem} : kR j (ii2 f n L st μ) := by unfold ii2; split <;> first | exact kr_go | exact kr_none
theorem kr_ll2 {j : Instr} {f : Int64 → Int64 → Int64} {n : Nat} {L st : List Value} {μ : Mem} : kR j (ll2 f n L st μ) := by unfold ll2; split <;> first | exact kr_go | exact kr_none
theorem kr_ff2 {j : Instr} {f : UInt32 → UInt32 → UInt32} {n : Nat} {L st : List Value} {μ : Mem} : kR j (ff2 f n L st μ) := by unfold ff2; split <;> first | exact kr_gg | exact kr_none
theorem kr_dd2 {j : Instr} {f : UInt64 → UInt64 → UInt64} {n : Nat} {L st : List Value} {μ : Mem} : kR j (dd2 f n L st μ) := by unfold dd2; split <;> first | exact kr_gg | exact kr_none
theorem kr_get {j : Instr} {aux : List Nat} {n : Nat} {L st : List Value} {μ : Mem} : kR j (sGet aux n L st μ) := by unfold sGet; split <;> first | exact kr_gg | exact kr_none
theorem kr_put {j : Instr} {aux : List Nat} {n : Nat} {L st : List Value} {μ : Mem} : kR j (sPut aux n L st μ) := by unfold sPut; split <;> first | exact kr_gg | exact kr_none
theorem kr_call {j : Instr} {aux : List Nat} {n : Nat} {L st : List Value} {μ : Mem} (h : isCl j) : kR j (sCall aux n L st μ) := by
  unfold sCall
  repeat' split
  all_goals first | exact kr_none | exact kr_gg | exact h
theorem kr_stp {xs : Scr} {ins : Instr} {n : Nat} {aux : List Nat} {L st : List Value} {μ : Mem} : kR ins (stp xs ins n aux L st μ) := by
  cases ins
  all_goals first
    | exact kr_none
    | exact kr_ld
    | exact kr_s1
    | exact kr_s2
    | exact kr_ii1
    | exact kr_ii2
    | exact kr_ll2
    | exact kr_ff2
    | exact kr_dd2
    | exact kr_get
    | exact kr_put
    | exact kr_call trivial
    | exact kr_go
    | (unfold stp; dsimp only; (repeat' split) <;> first | exact kr_none | exact kr_go | exact kr_gg | exact trivial)
/-! what a step says, read -/
theorem inv_go {n n' : Nat} {L L' st st' : List Value} {μ μ' : Mem} (h : go n L st μ = some (true, .inl (n', L', st', μ'))) : n' = n ∧ L' = L ∧ st' = st ∧ μ' = μ := by
  unfold go at h; cases h; exact ⟨rfl, rfl, rfl, rfl⟩
theorem inv_gg {g : Bool} {n n' : Nat} {L L' st st' : List Value} {μ μ' : Mem} (h : gg g n L st μ = some (true, .inl (n', L', st', μ'))) : g = true ∧ n' = n ∧ L' = L ∧ st' = st ∧ μ' = μ := by
  unfold gg at h
  simp only [Option.some.injEq, Prod.mk.injEq, Sum.inl.injEq] at h
  obtain ⟨h1, h2, h3, h4, h5⟩ := h
  exact ⟨h1, h2.symm, h3.symm, h4.symm, h5.symm⟩
theorem inv_ld {t i n n' : Nat} {L L' st st' : List Value} {μ μ' : Mem} (h : sLd t i n L st μ = some (true, .inl (n', L', st', μ'))) : ∃ v, L[i]? = some v ∧ vtag v = t ∧ n' = n ∧ L' = L ∧ st' = v :: st ∧ μ' = μ := by
  unfold sLd at h
  split at h
  · rename_i v hv
    cases hb : Nat.beq (vtag v) t
    · rw [hb] at h; cases h
    · rw [hb] at h
      obtain ⟨h1, h2, h3, h4⟩ := inv_go h
      exact ⟨v, hv, Nat.eq_of_beq_eq_true hb, h1, h2, h3, h4⟩
  · cases h
theorem inv_s1 {t i n n' : Nat} {L L' st st' : List Value} {μ μ' : Mem} (h : sS1 t i n L st μ = some (true, .inl (n', L', st', μ'))) : ∃ v r, st = v :: r ∧ vtag v = t ∧ n' = n ∧ L' = st1 L i v ∧ st' = r ∧ μ' = μ := by
  unfold sS1 at h
  split at h
  · rename_i v r
    cases hb : Nat.beq (vtag v) t
    · rw [hb] at h; cases h
    · rw [hb] at h
      obtain ⟨h1, h2, h3, h4⟩ := inv_go h
      exact ⟨v, r, rfl, Nat.eq_of_beq_eq_true hb, h1, h2, h3, h4⟩
  · cases h
theorem inv_s2 {t i n n' : Nat} {L L' st st' : List Value} {μ μ' : Mem} (h : sS2 t i n L st μ = some (true, .inl (n', L', st', μ'))) : ∃ v r, st = v :: r ∧ vtag v = t ∧ n' = n ∧ L' = st2 L i v ∧ st' = r ∧ μ' = μ := by
  unfold sS2 at h
  split at h
  · rename_i v r
    cases hb : Nat.beq (vtag v) t
    · rw [hb] at h; cases h
    · rw [hb] at h
      obtain ⟨h1, h2, h3, h4⟩ := inv_go h
      exact ⟨v, r, rfl, Nat.eq_of_beq_eq_true hb, h1, h2, h3, h4⟩
  · cases h
theorem tag0 {v : Value} (h : vtag v = 0) : ∃ x, v = .int x := by cases v <;> first | exact ⟨_, rfl⟩ | exact absurd h (by simp [vtag])
theorem tag1 {v : Value} (h : vtag v = 1) : ∃ x, v = .long x := by cases v <;> first | exact ⟨_, rfl⟩ | exact absurd h (by simp [vtag])
theorem tag2 {v : Value} (h : vtag v = 2) : ∃ x, v = .float x := by cases v <;> first | exact ⟨_, rfl⟩ | exact absurd h (by simp [vtag])
theorem tag3 {v : Value} (h : vtag v = 3) : ∃ x, v = .double x := by cases v <;> first | exact ⟨_, rfl⟩ | exact absurd h (by simp [vtag])
theorem tag4 {v : Value} (h : vtag v = 4) : ∃ x, v = .ref x := by cases v <;> first | exact ⟨_, rfl⟩ | exact absurd h (by simp [vtag])
theorem inv_ii1 {f : Int32 → Int32} {n n' : Nat} {L L' st st' : List Value} {μ μ' : Mem} (h : ii1 f n L st μ = some (true, .inl (n', L', st', μ'))) : ∃ x r, st = .int x :: r ∧ n' = n ∧ L' = L ∧ st' = .int (f x) :: r ∧ μ' = μ := by
  unfold ii1 at h
  split at h
  · obtain ⟨h1, h2, h3, h4⟩ := inv_go h; exact ⟨_, _, rfl, h1, h2, h3, h4⟩
  · cases h
theorem inv_ii2 {f : Int32 → Int32 → Int32} {n n' : Nat} {L L' st st' : List Value} {μ μ' : Mem} (h : ii2 f n L st μ = some (true, .inl (n', L', st', μ'))) : ∃ y x r, st = .int y :: .int x :: r ∧ n' = n ∧ L' = L ∧ st' = .int (f x y) :: r ∧ μ' = μ := by
  unfold ii2 at h
  split at h
  · obtain ⟨h1, h2, h3, h4⟩ := inv_go h; exact ⟨_, _, _, rfl, h1, h2, h3, h4⟩
  · cases h
theorem inv_ll2 {f : Int64 → Int64 → Int64} {n n' : Nat} {L L' st st' : List Value} {μ μ' : Mem} (h : ll2 f n L st μ = some (true, .inl (n', L', st', μ'))) : ∃ y x r, st = .long y :: .long x :: r ∧ n' = n ∧ L' = L ∧ st' = .long (f x y) :: r ∧ μ' = μ := by
  unfold ll2 at h
  split at h
  · obtain ⟨h1, h2, h3, h4⟩ := inv_go h; exact ⟨_, _, _, rfl, h1, h2, h3, h4⟩
  · cases h
theorem gN32_s {r : UInt32} (h : gN32 r = true) : vf_n32 r := by unfold gN32 at h; rw [decide_eq_true_eq] at h; exact h
theorem gN64_s {r : UInt64} (h : gN64 r = true) : vf_n64 r := by unfold gN64 at h; rw [decide_eq_true_eq] at h; exact h
theorem inv_ff2 {f : UInt32 → UInt32 → UInt32} {n n' : Nat} {L L' st st' : List Value} {μ μ' : Mem} (h : ff2 f n L st μ = some (true, .inl (n', L', st', μ'))) : ∃ y x r, st = .float y :: .float x :: r ∧ vf_n32 (f x y) ∧ n' = n ∧ L' = L ∧ st' = .float (f x y) :: r ∧ μ' = μ := by
  unfold ff2 at h
  split at h
  · obtain ⟨hg, h1, h2, h3, h4⟩ := inv_gg h; exact ⟨_, _, _, rfl, gN32_s hg, h1, h2, h3, h4⟩
  · cases h
theorem inv_dd2 {f : UInt64 → UInt64 → UInt64} {n n' : Nat} {L L' st st' : List Value} {μ μ' : Mem} (h : dd2 f n L st μ = some (true, .inl (n', L', st', μ'))) : ∃ y x r, st = .double y :: .double x :: r ∧ vf_n64 (f x y) ∧ n' = n ∧ L' = L ∧ st' = .double (f x y) :: r ∧ μ' = μ := by
  unfold dd2 at h
  split at h
  · obtain ⟨hg, h1, h2, h3, h4⟩ := inv_gg h; exact ⟨_, _, _, rfl, gN64_s hg, h1, h2, h3, h4⟩
  · cases h
end
section
/-! the machine's side of a step: what holds of a method's body while it runs -/
def ssum : Nat → Nat
  | 0 => 0
  | n + 1 => ssum n + (shp n).2
theorem ssum_mono {a k : Nat} : ssum a ≤ ssum (a + k) := by
  induction k with
  | zero => exact Nat.le_refl _
  | succ k ih => exact Nat.le_trans ih (Nat.le_add_right _ _)
theorem ssum_le {a c : Nat} (h : a ≤ c) : ssum a ≤ ssum c := by
  obtain ⟨k, rfl⟩ := Nat.exists_eq_add_of_le h
  exact ssum_mono
/-- what the tables and the heap below say, beside the words and the classes -/
def Vmf (n0 : Nat) (U : State) (H : Heap) : Prop := (∀ w ∈ nestW, va_Nw w U) ∧ vx_Zq Bundle.tN "UNASSIGNED_STACK" Bundle.steD (AA n0) U H ∧ vx_Zq Bundle.tN "SUPPRESSED_SENTINEL" Bundle.listD (AA n0) U H ∧ (∀ (i k : Nat) (t : String), lw_tbl[i]? = some (.stringRef RX4 k t) → ∃ sa, vk_R RX4 k t sa U) ∧ ∀ E E' : Nat, 0 < E → E < 4 → 0 < E' → E' < 4 → E ≠ E' → va_Nc (excN E) (excN E') U
def Cx (p : Program) (l : Launch) (s : State) (mid : MethodId) (args : Array Value) (meth : Method) (c : Code) (D : va_G) (cA : Nat → ClassId) (n0 b : Nat) (xs : Scr) (m : Nat) : Prop :=
  p.tables.exec = Jvm.exec ∧ c.code = cM m ∧ c.maxLocals = xM m ∧ s.vm.findClass (ownM m) = some mid.cls ∧ (∀ w ∈ lw_all, w.before args s = true) ∧ va_K D vwCl (tysOf cA) s ∧ n0 ≤ s.heap.size ∧ meth.name = (yM m).name ∧ meth.locks = false ∧ l.stackTraces = false ∧ Vmf n0 s s.heap ∧ (m = 209 → va_X b xs.1 xs.2 s s.heap ∧ b < n0 ∧ xs.1 ≤ 1536) ∧ c.exceptionTable.toList = tableOf (hM m) ∧ meth.sig.returnType = rM m
def Iv (s : State) (D : va_G) (cA : Nat → ClassId) (n0 b k0 : Nat) (μ : Mem) (H : Heap) (locs : List Loc) : Prop :=
  mN μ ≤ NN ∧ va_P D vwCl (wld n0 b cA μ) H ∧ va_S (AA n0) s.heap H locs ∧ (mN μ < NN → mX μ = 0 ∧ s.heap.size = n0 + k0 ∧ k0 ≤ mN μ)
def Gd (p : Program) (l : Launch) (e : Env) (R : Room) (s : State) (mid : MethodId) (args : Array Value) (below : List Frame) (meth : Method) (c : Code) (D : va_G) (cA : Nat → ClassId) (n0 b k0 d0 m : Nat) (Q : State → Prop) (pc : Nat) (L st : List Value) (μ : Mem) : Prop :=
  ∀ (H : Heap) (locs : List Loc) (ls : Array Slot), Iv s D cA n0 b k0 μ H locs → lvx n0 b ls (xM m) L → W p l e R s mid args below meth c H locs (mN μ + mX μ - k0) (ssum (mN μ) + 6 * mX μ - d0) Q (F0 mid pc ls (st.map (rv n0 b)))
theorem in_code {w : Jvm.Cond} {args : Array Value} {s : State} (h : ∀ w ∈ lw_all, w.before args s = true) {i : Nat} (hg : gw i w = true) : w.before args s = true := h w (gw_in hg)
theorem cls_ws {ci : Nat} (h : ci < 5) : ∀ w ∈ u_ws (clsOf ci).1 (clsOf ci).2.1 (clsOf ci).2.2, w ∈ lw_all := by
  have key : ∀ ci, ci < 5 → (u_ws (clsOf ci).1 (clsOf ci).2.1 (clsOf ci).2.2).all (fun w => hasW w) = true := by decide +kernel
  intro w hw
  have := List.all_eq_true.mp (key ci h) w hw
  unfold hasW at this
  rw [Bool.and_eq_true, decide_eq_true_eq] at this
  exact List.mem_filter.mpr this
theorem cls_at {ci : Nat} (h : ci < 5) : vwCl[ci]? = some ((clsOf ci).1, (clsOf ci).2.1, (clsOf ci).2.2) := by
  match ci, h with
  | 0, _ => rfl
  | 1, _ => rfl
  | 2, _ => rfl
  | 3, _ => rfl
  | 4, _ => rfl
theorem cls_nm {ci : Nat} (h : ci < 5) : ∀ a, a < (clsOf ci).2.2 → ∀ b, b < (clsOf ci).2.2 → a ≠ b → ((clsOf ci).2.1 a).2.1 ≠ ((clsOf ci).2.1 b).2.1 := by
  match ci, h with
  | 0, _ => exact nmX1
  | 1, _ => exact nmX2
  | 2, _ => exact nmX3
  | 3, _ => exact nmX4
  | 4, _ => exact nmX5
def clsTy (ci : Nat) : Nat → FieldType := match ci with | 0 => tyX1 | 1 => tyX2 | 2 => tyX3 | 3 => tyX4 | _ => tyX5
theorem cls_ty {ci : Nat} (h : ci < 5) : ∀ k, k < (clsOf ci).2.2 → parseFieldDescriptor ((clsOf ci).2.1 k).2.2.1 = some (clsTy ci k) := by
  match ci, h with
  | 0, _ => exact tyX1_ok
  | 1, _ => exact tyX2_ok
  | 2, _ => exact tyX3_ok
  | 3, _ => exact tyX4_ok
  | 4, _ => exact tyX5_ok
/-- the kind of a field, and its type -/
def refTy (t : FieldType) : Bool := match t with | .object _ => true | .array _ => true | _ => false
theorem cls_f0 : ∀ ci, ci < 5 → ∀ k, k < (clsOf ci).2.2 → fty ci k = 0 → clsTy ci k = .int := by decide +kernel
theorem cls_f1 : ∀ ci, ci < 5 → ∀ k, k < (clsOf ci).2.2 → fty ci k = 1 → refTy (clsTy ci k) = true := by decide +kernel
theorem cls_f2 : ∀ ci, ci < 5 → ∀ k, k < (clsOf ci).2.2 → fty ci k = 2 → clsTy ci k = .long := by decide +kernel
theorem cls_fr : ∀ ci, ci < 5 → ∀ k, k < (clsOf ci).2.2 → fty ci k = 0 ∨ fty ci k = 1 ∨ fty ci k = 2 := by decide +kernel
theorem ref_fit {t : FieldType} (h : refTy t = true) (a : Nat) : narrow t (.ref a) = .ref a ∧ fits t (.ref a) = true := by
  cases t <;> first | exact ⟨rfl, rfl⟩ | exact absurd h (by simp [refTy])
section Snd
variable {p : Program} {l : Launch} {e : Env} {R : Room} {s : State} {mid : MethodId} {args : Array Value} {below : List Frame} {meth : Method} {c : Code} {D : va_G} {cA : Nat → ClassId} {n0 b k0 d0 : Nat} {xs : Scr} {m : Nat} {Q : State → Prop}
/-- the room still there -/
def Rm (R : Room) (k0 d0 : Nat) (μ : Mem) : Prop := mN μ + mX μ - k0 ≤ R.cells ∧ ssum (mN μ) + 6 * mX μ - d0 ≤ R.slots ∧ k0 ≤ mN μ + mX μ ∧ d0 ≤ ssum (mN μ) + 6 * mX μ
/-- reading a field -/
theorem g_get (C : Cx p l s mid args meth c D cA n0 b xs m) {pc idx : Nat} {aux : List Nat} {L st L' st' : List Value} {μ μ' : Mem} {n' : Nat} {len : Nat} (hI : I m pc = some (.getfield idx, len, aux))
    (hs : sGet aux (pc + len) L st μ = some (true, .inl (n', L', st', μ'))) (k : Gd p l e R s mid args below meth c D cA n0 b k0 d0 m Q n' L' st' μ') : Gd p l e R s mid args below meth c D cA n0 b k0 d0 m Q pc L st μ := by
  obtain ⟨hd, hc, -⟩ := I_ok hI
  obtain ⟨hx, hb, -, hown, hts, hK, -⟩ := C
  have hd : decode (cM m) pc = .ok (.getfield idx, len) := hd
  unfold chk at hc
  dsimp only at hc
  rw [Bool.and_eq_true] at hc
  obtain ⟨hlen, hc⟩ := hc
  have hlen := Nat.eq_of_beq_eq_true hlen
  subst hlen
  have main : ∀ {ci k0' tag wl : Nat} {r : List Nat} {a : Nat} {rs : List Value} {v : Value}, aux = ci :: k0' :: tag :: wl :: r → gO μ a ci = true → mN μ ≤ NN → st = .ref a :: rs → rv n0 b v = fvl n0 b μ ci a k0' →
      (∀ (H : Heap) (locs : List Loc) (ls : Array Slot), Iv s D cA n0 b k0 μ H locs → lvx n0 b ls (xM m) L → W p l e R s mid args below meth c H locs (mN μ + mX μ - k0) (ssum (mN μ) + 6 * mX μ - d0) Q (F0 mid (pc + 3) ls (rv n0 b v :: rs.map (rv n0 b)))) → Gd p l e R s mid args below meth c D cA n0 b k0 d0 m Q pc L st μ := by
    intro ci kk tag wl r a rs v haux hg hN hst hv kk2 H locs ls hi hl
    subst haux; subst hst
    dsimp only at hc
    simp only [Bool.and_eq_true] at hc
    obtain ⟨h1, h2, h3, h4⟩ := hc
    have h1 := Nat.le_of_ble_eq_true h1
    have h2 := Nat.le_of_ble_eq_true h2
    obtain ⟨ha, hsh⟩ := gO_spec hg
    have haN : a < NN := Nat.lt_of_lt_of_le ha hN
    have hob := shp_obj a haN (by rw [hsh]; exact h1)
    rw [hsh] at hob
    have hw := wld_get' (n0 := n0) (b := b) (cA := cA) ha (cel_O hsh h1)
    show W p l e R s mid args below meth c H locs _ _ Q (F0 mid pc ls (.ref (adr n0 b a) :: rs.map (rv n0 b)))
    rw [adr_lt haN]
    refine va_get (D := D) (ci := ci) (v := rv n0 b v) (C := (clsOf ci).1) (T := (clsOf ci).2.1) (N := (clsOf ci).2.2) hx hb hts (cls_ws h1) hown hK hi.2.1 a hw (cls_at h1) kk h2 (in_code hts h4) (fun _ h9 => h9) ?_ hd (kk2 H locs ls hi hl)
    rw [List.getElem?_map, List.getElem?_range (by rw [hob]; exact h2), hv]
    rfl
  unfold sGet at hs
  intro H locs ls hi hl
  have hN := hi.1
  split at hs
  · obtain ⟨hg, h1, h2, h3, h4⟩ := inv_gg hs
    subst h1; subst h2; subst h3; subst h4
    rename_i ci kk r a rs
    cases r with
    | nil => dsimp only at hc; exact absurd hc (by simp)
    | cons wl r =>
      refine main (v := .int (mI μ' a kk)) rfl hg hN rfl ?_ (fun H locs ls hi hl => k H locs ls hi hl) H locs ls hi hl
      have hc' := hc
      dsimp only at hc'
      simp only [Bool.and_eq_true] at hc'
      unfold fvl
      rw [← Nat.eq_of_beq_eq_true hc'.2.2.1]
      rfl
  · obtain ⟨hg, h1, h2, h3, h4⟩ := inv_gg hs
    subst h1; subst h2; subst h3; subst h4
    rename_i ci kk r a rs
    rw [Bool.and_eq_true] at hg
    cases r with
    | nil => dsimp only at hc; exact absurd hc (by simp)
    | cons wl r =>
      refine main (v := vR (mR μ' a kk)) rfl hg.1 hN rfl ?_ (fun H locs ls hi hl => k H locs ls hi hl) H locs ls hi hl
      have hc' := hc
      dsimp only at hc'
      simp only [Bool.and_eq_true] at hc'
      unfold fvl
      rw [← Nat.eq_of_beq_eq_true hc'.2.2.1]
      have hr := hg.2
      unfold gR at hr
      cases hm : mR μ' a kk with
      | none => rw [hm] at hr; cases hr
      | some z => rfl
  · obtain ⟨hg, h1, h2, h3, h4⟩ := inv_gg hs
    subst h1; subst h2; subst h3; subst h4
    rename_i ci kk r a rs
    cases r with
    | nil => dsimp only at hc; exact absurd hc (by simp)
    | cons wl r =>
      refine main (v := .long (mL μ' a kk)) rfl hg hN rfl ?_ (fun H locs ls hi hl => k H locs ls hi hl) H locs ls hi hl
      have hc' := hc
      dsimp only at hc'
      simp only [Bool.and_eq_true] at hc'
      unfold fvl
      rw [← Nat.eq_of_beq_eq_true hc'.2.2.1]
      rfl
  · cases hs
end Snd
end
section
section Stub
variable {p : Program} {l : Launch} {e : Env} {R : Room} {s : State} {mid : MethodId} {args : Array Value} {below : List Frame} {meth : Method} {c : Code} {D : va_G} {cA : Nat → ClassId} {n0 b k0 d0 : Nat} {xs : Scr} {m : Nat} {Q : State → Prop}
theorem g_put (C : Cx p l s mid args meth c D cA n0 b xs m) {pc len n' : Nat} {aux : List Nat} {L st L' st' : List Value} {μ μ' : Mem} {z : Nat} (hI : I m pc = some (.putfield z, len, aux)) (hs : stp xs (.putfield z) (pc + len) aux L st μ = some (true, .inl (n', L', st', μ'))) (k : Gd p l e R s mid args below meth c D cA n0 b k0 d0 m Q n' L' st' μ') : Gd p l e R s mid args below meth c D cA n0 b k0 d0 m Q pc L st μ := by
  sorry
theorem g_alen (C : Cx p l s mid args meth c D cA n0 b xs m) {pc len n' : Nat} {aux : List Nat} {L st L' st' : List Value} {μ μ' : Mem} (hI : I m pc = some (.arraylength, len, aux)) (hs : stp xs (.arraylength) (pc + len) aux L st μ = some (true, .inl (n', L', st', μ'))) (k : Gd p l e R s mid args below meth c D cA n0 b k0 d0 m Q n' L' st' μ') : Gd p l e R s mid args below meth c D cA n0 b k0 d0 m Q pc L st μ := by
  sorry
theorem g_iaload (C : Cx p l s mid args meth c D cA n0 b xs m) {pc len n' : Nat} {aux : List Nat} {L st L' st' : List Value} {μ μ' : Mem} (hI : I m pc = some (.iaload, len, aux)) (hs : stp xs (.iaload) (pc + len) aux L st μ = some (true, .inl (n', L', st', μ'))) (k : Gd p l e R s mid args below meth c D cA n0 b k0 d0 m Q n' L' st' μ') : Gd p l e R s mid args below meth c D cA n0 b k0 d0 m Q pc L st μ := by
  sorry
theorem g_caload (C : Cx p l s mid args meth c D cA n0 b xs m) {pc len n' : Nat} {aux : List Nat} {L st L' st' : List Value} {μ μ' : Mem} (hI : I m pc = some (.caload, len, aux)) (hs : stp xs (.caload) (pc + len) aux L st μ = some (true, .inl (n', L', st', μ'))) (k : Gd p l e R s mid args below meth c D cA n0 b k0 d0 m Q n' L' st' μ') : Gd p l e R s mid args below meth c D cA n0 b k0 d0 m Q pc L st μ := by
  sorry
theorem g_laload (C : Cx p l s mid args meth c D cA n0 b xs m) {pc len n' : Nat} {aux : List Nat} {L st L' st' : List Value} {μ μ' : Mem} (hI : I m pc = some (.laload, len, aux)) (hs : stp xs (.laload) (pc + len) aux L st μ = some (true, .inl (n', L', st', μ'))) (k : Gd p l e R s mid args below meth c D cA n0 b k0 d0 m Q n' L' st' μ') : Gd p l e R s mid args below meth c D cA n0 b k0 d0 m Q pc L st μ := by
  sorry
theorem g_aaload (C : Cx p l s mid args meth c D cA n0 b xs m) {pc len n' : Nat} {aux : List Nat} {L st L' st' : List Value} {μ μ' : Mem} (hI : I m pc = some (.aaload, len, aux)) (hs : stp xs (.aaload) (pc + len) aux L st μ = some (true, .inl (n', L', st', μ'))) (k : Gd p l e R s mid args below meth c D cA n0 b k0 d0 m Q n' L' st' μ') : Gd p l e R s mid args below meth c D cA n0 b k0 d0 m Q pc L st μ := by
  sorry
theorem g_iastore (C : Cx p l s mid args meth c D cA n0 b xs m) {pc len n' : Nat} {aux : List Nat} {L st L' st' : List Value} {μ μ' : Mem} (hI : I m pc = some (.iastore, len, aux)) (hs : stp xs (.iastore) (pc + len) aux L st μ = some (true, .inl (n', L', st', μ'))) (k : Gd p l e R s mid args below meth c D cA n0 b k0 d0 m Q n' L' st' μ') : Gd p l e R s mid args below meth c D cA n0 b k0 d0 m Q pc L st μ := by
  sorry
theorem g_castore (C : Cx p l s mid args meth c D cA n0 b xs m) {pc len n' : Nat} {aux : List Nat} {L st L' st' : List Value} {μ μ' : Mem} (hI : I m pc = some (.castore, len, aux)) (hs : stp xs (.castore) (pc + len) aux L st μ = some (true, .inl (n', L', st', μ'))) (k : Gd p l e R s mid args below meth c D cA n0 b k0 d0 m Q n' L' st' μ') : Gd p l e R s mid args below meth c D cA n0 b k0 d0 m Q pc L st μ := by
  sorry
theorem g_lastore (C : Cx p l s mid args meth c D cA n0 b xs m) {pc len n' : Nat} {aux : List Nat} {L st L' st' : List Value} {μ μ' : Mem} (hI : I m pc = some (.lastore, len, aux)) (hs : stp xs (.lastore) (pc + len) aux L st μ = some (true, .inl (n', L', st', μ'))) (k : Gd p l e R s mid args below meth c D cA n0 b k0 d0 m Q n' L' st' μ') : Gd p l e R s mid args below meth c D cA n0 b k0 d0 m Q pc L st μ := by
  sorry
theorem g_aastore (C : Cx p l s mid args meth c D cA n0 b xs m) {pc len n' : Nat} {aux : List Nat} {L st L' st' : List Value} {μ μ' : Mem} (hI : I m pc = some (.aastore, len, aux)) (hs : stp xs (.aastore) (pc + len) aux L st μ = some (true, .inl (n', L', st', μ'))) (k : Gd p l e R s mid args below meth c D cA n0 b k0 d0 m Q n' L' st' μ') : Gd p l e R s mid args below meth c D cA n0 b k0 d0 m Q pc L st μ := by
  sorry
theorem g_newa (C : Cx p l s mid args meth c D cA n0 b xs m) {pc len n' : Nat} {aux : List Nat} {L st L' st' : List Value} {μ μ' : Mem} {ty : ArrayType} (hI : I m pc = some (.newarray ty, len, aux)) (hs : stp xs (.newarray ty) (pc + len) aux L st μ = some (true, .inl (n', L', st', μ'))) (hR : Rm R k0 d0 μ') (k : Gd p l e R s mid args below meth c D cA n0 b k0 d0 m Q n' L' st' μ') : Gd p l e R s mid args below meth c D cA n0 b k0 d0 m Q pc L st μ := by
  sorry
theorem g_anew (C : Cx p l s mid args meth c D cA n0 b xs m) {pc len n' : Nat} {aux : List Nat} {L st L' st' : List Value} {μ μ' : Mem} {z : Nat} (hI : I m pc = some (.anewarray z, len, aux)) (hs : stp xs (.anewarray z) (pc + len) aux L st μ = some (true, .inl (n', L', st', μ'))) (hR : Rm R k0 d0 μ') (k : Gd p l e R s mid args below meth c D cA n0 b k0 d0 m Q n' L' st' μ') : Gd p l e R s mid args below meth c D cA n0 b k0 d0 m Q pc L st μ := by
  sorry
theorem g_new (C : Cx p l s mid args meth c D cA n0 b xs m) {pc len n' : Nat} {aux : List Nat} {L st L' st' : List Value} {μ μ' : Mem} {z : Nat} (hI : I m pc = some (.new z, len, aux)) (hs : stp xs (.new z) (pc + len) aux L st μ = some (true, .inl (n', L', st', μ'))) (hR : Rm R k0 d0 μ') (k : Gd p l e R s mid args below meth c D cA n0 b k0 d0 m Q n' L' st' μ') : Gd p l e R s mid args below meth c D cA n0 b k0 d0 m Q pc L st μ := by
  sorry
theorem g_invokevirtual (C : Cx p l s mid args meth c D cA n0 b xs m) {pc len n' : Nat} {aux : List Nat} {L st L' st' : List Value} {μ μ' : Mem} {z : Nat} (hI : I m pc = some (.invokevirtual z, len, aux)) (hs : stp xs (.invokevirtual z) (pc + len) aux L st μ = some (true, .inl (n', L', st', μ'))) (hF : fM m ≤ R.frames ∧ 38 * fM m ≤ R.locals) (k : Gd p l e R s mid args below meth c D cA n0 b k0 d0 m Q n' L' st' μ') : Gd p l e R s mid args below meth c D cA n0 b k0 d0 m Q pc L st μ := by
  sorry
theorem g_invokestatic (C : Cx p l s mid args meth c D cA n0 b xs m) {pc len n' : Nat} {aux : List Nat} {L st L' st' : List Value} {μ μ' : Mem} {z : Nat} (hI : I m pc = some (.invokestatic z, len, aux)) (hs : stp xs (.invokestatic z) (pc + len) aux L st μ = some (true, .inl (n', L', st', μ'))) (hF : fM m ≤ R.frames ∧ 38 * fM m ≤ R.locals) (k : Gd p l e R s mid args below meth c D cA n0 b k0 d0 m Q n' L' st' μ') : Gd p l e R s mid args below meth c D cA n0 b k0 d0 m Q pc L st μ := by
  sorry
theorem g_invokespecial (C : Cx p l s mid args meth c D cA n0 b xs m) {pc len n' : Nat} {aux : List Nat} {L st L' st' : List Value} {μ μ' : Mem} {z : Nat} (hI : I m pc = some (.invokespecial z, len, aux)) (hs : stp xs (.invokespecial z) (pc + len) aux L st μ = some (true, .inl (n', L', st', μ'))) (hF : fM m ≤ R.frames ∧ 38 * fM m ≤ R.locals) (k : Gd p l e R s mid args below meth c D cA n0 b k0 d0 m Q n' L' st' μ') : Gd p l e R s mid args below meth c D cA n0 b k0 d0 m Q pc L st μ := by
  sorry
end Stub
end
section
section Snd2
variable {p : Program} {l : Launch} {e : Env} {R : Room} {s : State} {mid : MethodId} {args : Array Value} {below : List Frame} {meth : Method} {c : Code} {D : va_G} {cA : Nat → ClassId} {n0 b k0 d0 : Nat} {xs : Scr} {m : Nat} {Q : State → Prop}
theorem stp_go (C : Cx p l s mid args meth c D cA n0 b xs m) {pc len n' : Nat} {ins : Instr} {aux : List Nat} {L st L' st' : List Value} {μ μ' : Mem} (hI : I m pc = some (ins, len, aux))
    (hs : stp xs ins (pc + len) aux L st μ = some (true, .inl (n', L', st', μ'))) (hR : Rm R k0 d0 μ') (hF : fM m ≤ R.frames ∧ 38 * fM m ≤ R.locals) (k : Gd p l e R s mid args below meth c D cA n0 b k0 d0 m Q n' L' st' μ') : Gd p l e R s mid args below meth c D cA n0 b k0 d0 m Q pc L st μ := by
  have hd : decode (cM m) pc = .ok (ins, len) := (I_ok hI).1
  have hc : chk m pc len ins aux = true := (I_ok hI).2.1
  have hx := C.1
  have hb := C.2.1
  have hown := C.2.2.2.1
  have hts := C.2.2.2.2.1
  cases ins
  case iload_n kk =>
    obtain ⟨v, h1, h2, h3, h4, h5, h6⟩ := inv_ld hs
    obtain ⟨x, rfl⟩ := tag0 h2
    subst h3; subst h4; subst h5; subst h6
    have hlen : len = 1 := Nat.eq_of_beq_eq_true hc
    subst hlen
    intro H locs ls hi hl
    exact lv_iload_n hx hb hd rfl (lvx_at hl h1 (by simp)) (k H locs ls hi hl)
  case iload kk =>
    obtain ⟨v, h1, h2, h3, h4, h5, h6⟩ := inv_ld hs
    obtain ⟨x, rfl⟩ := tag0 h2
    subst h3; subst h4; subst h5; subst h6
    have hlen : len = 2 := Nat.eq_of_beq_eq_true hc
    subst hlen
    intro H locs ls hi hl
    exact lv_iload hx hb hd (lvx_at hl h1 (by simp)) (k H locs ls hi hl)
  case lload_n kk =>
    obtain ⟨v, h1, h2, h3, h4, h5, h6⟩ := inv_ld hs
    obtain ⟨x, rfl⟩ := tag1 h2
    subst h3; subst h4; subst h5; subst h6
    have hlen : len = 1 := Nat.eq_of_beq_eq_true hc
    subst hlen
    intro H locs ls hi hl
    exact lv_lload_n hx hb hd rfl (lvx_at hl h1 (by simp)) (k H locs ls hi hl)
  case fload_n kk =>
    obtain ⟨v, h1, h2, h3, h4, h5, h6⟩ := inv_ld hs
    obtain ⟨x, rfl⟩ := tag2 h2
    subst h3; subst h4; subst h5; subst h6
    have hlen : len = 1 := Nat.eq_of_beq_eq_true hc
    subst hlen
    intro H locs ls hi hl
    exact lv_fload_n hx hb hd rfl (lvx_at hl h1 (by simp)) (k H locs ls hi hl)
  case fload kk =>
    obtain ⟨v, h1, h2, h3, h4, h5, h6⟩ := inv_ld hs
    obtain ⟨x, rfl⟩ := tag2 h2
    subst h3; subst h4; subst h5; subst h6
    have hlen : len = 2 := Nat.eq_of_beq_eq_true hc
    subst hlen
    intro H locs ls hi hl
    exact lv_fload hx hb hd (lvx_at hl h1 (by simp)) (k H locs ls hi hl)
  case dload_n kk =>
    obtain ⟨v, h1, h2, h3, h4, h5, h6⟩ := inv_ld hs
    obtain ⟨x, rfl⟩ := tag3 h2
    subst h3; subst h4; subst h5; subst h6
    have hlen : len = 1 := Nat.eq_of_beq_eq_true hc
    subst hlen
    intro H locs ls hi hl
    exact lv_dload_n hx hb hd rfl (lvx_at hl h1 (by simp)) (k H locs ls hi hl)
  case dload kk =>
    obtain ⟨v, h1, h2, h3, h4, h5, h6⟩ := inv_ld hs
    obtain ⟨x, rfl⟩ := tag3 h2
    subst h3; subst h4; subst h5; subst h6
    have hlen : len = 2 := Nat.eq_of_beq_eq_true hc
    subst hlen
    intro H locs ls hi hl
    exact lv_dload hx hb hd (lvx_at hl h1 (by simp)) (k H locs ls hi hl)
  case aload_n kk =>
    obtain ⟨v, h1, h2, h3, h4, h5, h6⟩ := inv_ld hs
    obtain ⟨x, rfl⟩ := tag4 h2
    subst h3; subst h4; subst h5; subst h6
    have hlen : len = 1 := Nat.eq_of_beq_eq_true hc
    subst hlen
    intro H locs ls hi hl
    exact lv_aload_n hx hb hd rfl (lvx_at hl h1 (by simp)) (k H locs ls hi hl)
  case aload kk =>
    obtain ⟨v, h1, h2, h3, h4, h5, h6⟩ := inv_ld hs
    obtain ⟨x, rfl⟩ := tag4 h2
    subst h3; subst h4; subst h5; subst h6
    have hlen : len = 2 := Nat.eq_of_beq_eq_true hc
    subst hlen
    intro H locs ls hi hl
    exact lv_aload hx hb hd (lvx_at hl h1 (by simp)) (k H locs ls hi hl)
  case istore_n kk =>
    obtain ⟨v, r, h1, h2, h3, h4, h5, h6⟩ := inv_s1 hs
    obtain ⟨x, rfl⟩ := tag0 h2
    subst h1; subst h3; subst h4; subst h5; subst h6
    unfold chk at hc; dsimp only at hc; rw [Bool.and_eq_true] at hc
    have hlen : len = 1 := Nat.eq_of_beq_eq_true hc.1
    subst hlen
    have hn := Nat.le_of_ble_eq_true hc.2
    intro H locs ls hi hl
    exact lv_istore_n hx hb hd rfl (lvx_has hl) hn rfl (fun ls' h' => k H locs ls' hi (lvx_st1 (v := .int x) hl h'))
  case istore kk =>
    obtain ⟨v, r, h1, h2, h3, h4, h5, h6⟩ := inv_s1 hs
    obtain ⟨x, rfl⟩ := tag0 h2
    subst h1; subst h3; subst h4; subst h5; subst h6
    unfold chk at hc; dsimp only at hc; rw [Bool.and_eq_true] at hc
    have hlen : len = 2 := Nat.eq_of_beq_eq_true hc.1
    subst hlen
    have hn := Nat.le_of_ble_eq_true hc.2
    intro H locs ls hi hl
    exact lv_istore hx hb hd (lvx_has hl) hn rfl (fun ls' h' => k H locs ls' hi (lvx_st1 (v := .int x) hl h'))
  case fstore_n kk =>
    obtain ⟨v, r, h1, h2, h3, h4, h5, h6⟩ := inv_s1 hs
    obtain ⟨x, rfl⟩ := tag2 h2
    subst h1; subst h3; subst h4; subst h5; subst h6
    unfold chk at hc; dsimp only at hc; rw [Bool.and_eq_true] at hc
    have hlen : len = 1 := Nat.eq_of_beq_eq_true hc.1
    subst hlen
    have hn := Nat.le_of_ble_eq_true hc.2
    intro H locs ls hi hl
    exact lv_fstore_n hx hb hd rfl (lvx_has hl) hn rfl (fun ls' h' => k H locs ls' hi (lvx_st1 (v := .float x) hl h'))
  case fstore kk =>
    obtain ⟨v, r, h1, h2, h3, h4, h5, h6⟩ := inv_s1 hs
    obtain ⟨x, rfl⟩ := tag2 h2
    subst h1; subst h3; subst h4; subst h5; subst h6
    unfold chk at hc; dsimp only at hc; rw [Bool.and_eq_true] at hc
    have hlen : len = 2 := Nat.eq_of_beq_eq_true hc.1
    subst hlen
    have hn := Nat.le_of_ble_eq_true hc.2
    intro H locs ls hi hl
    exact lv_fstore hx hb hd (lvx_has hl) hn rfl (fun ls' h' => k H locs ls' hi (lvx_st1 (v := .float x) hl h'))
  case astore_n kk =>
    obtain ⟨v, r, h1, h2, h3, h4, h5, h6⟩ := inv_s1 hs
    obtain ⟨x, rfl⟩ := tag4 h2
    subst h1; subst h3; subst h4; subst h5; subst h6
    unfold chk at hc; dsimp only at hc; rw [Bool.and_eq_true] at hc
    have hlen : len = 1 := Nat.eq_of_beq_eq_true hc.1
    subst hlen
    have hn := Nat.le_of_ble_eq_true hc.2
    intro H locs ls hi hl
    exact lv_astore_n hx hb hd rfl (lvx_has hl) hn rfl (fun ls' h' => k H locs ls' hi (lvx_st1 (v := .ref x) hl h'))
  case astore kk =>
    obtain ⟨v, r, h1, h2, h3, h4, h5, h6⟩ := inv_s1 hs
    obtain ⟨x, rfl⟩ := tag4 h2
    subst h1; subst h3; subst h4; subst h5; subst h6
    unfold chk at hc; dsimp only at hc; rw [Bool.and_eq_true] at hc
    have hlen : len = 2 := Nat.eq_of_beq_eq_true hc.1
    subst hlen
    have hn := Nat.le_of_ble_eq_true hc.2
    intro H locs ls hi hl
    exact lv_astore hx hb hd (lvx_has hl) hn rfl (fun ls' h' => k H locs ls' hi (lvx_st1 (v := .ref x) hl h'))
  case lstore_n kk =>
    obtain ⟨v, r, h1, h2, h3, h4, h5, h6⟩ := inv_s2 hs
    obtain ⟨x, rfl⟩ := tag1 h2
    subst h1; subst h3; subst h4; subst h5; subst h6
    unfold chk at hc; dsimp only at hc; rw [Bool.and_eq_true] at hc
    have hlen : len = 1 := Nat.eq_of_beq_eq_true hc.1
    subst hlen
    have hn := Nat.le_of_ble_eq_true hc.2
    intro H locs ls hi hl
    exact lv_lstore_n hx hb hd rfl (lvx_has hl) hn rfl (fun ls' h' => k H locs ls' hi (lvx_st2 (v := .long x) hl h'))
  case dstore_n kk =>
    obtain ⟨v, r, h1, h2, h3, h4, h5, h6⟩ := inv_s2 hs
    obtain ⟨x, rfl⟩ := tag3 h2
    subst h1; subst h3; subst h4; subst h5; subst h6
    unfold chk at hc; dsimp only at hc; rw [Bool.and_eq_true] at hc
    have hlen : len = 1 := Nat.eq_of_beq_eq_true hc.1
    subst hlen
    have hn := Nat.le_of_ble_eq_true hc.2
    intro H locs ls hi hl
    exact lv_dstore_n hx hb hd rfl (lvx_has hl) hn rfl (fun ls' h' => k H locs ls' hi (lvx_st2 (v := .double x) hl h'))
  case dstore kk =>
    obtain ⟨v, r, h1, h2, h3, h4, h5, h6⟩ := inv_s2 hs
    obtain ⟨x, rfl⟩ := tag3 h2
    subst h1; subst h3; subst h4; subst h5; subst h6
    unfold chk at hc; dsimp only at hc; rw [Bool.and_eq_true] at hc
    have hlen : len = 2 := Nat.eq_of_beq_eq_true hc.1
    subst hlen
    have hn := Nat.le_of_ble_eq_true hc.2
    intro H locs ls hi hl
    exact lv_dstore hx hb hd (lvx_has hl) hn rfl (fun ls' h' => k H locs ls' hi (lvx_st2 (v := .double x) hl h'))
  case iinc kk d =>
    unfold stp at hs
    dsimp only at hs
    split at hs
    · rename_i x h1
      obtain ⟨h3, h4, h5, h6⟩ := inv_go hs
      subst h3; subst h5; subst h6
      unfold chk at hc; dsimp only at hc; rw [Bool.and_eq_true] at hc
      have hlen : len = 3 := Nat.eq_of_beq_eq_true hc.1
      subst hlen
      have hn := Nat.le_of_ble_eq_true hc.2
      intro H locs ls hi hl
      obtain ⟨kp, hk⟩ := asl_at (n0 := n0) (b := b) h1 (by simp)
      subst h4
      exact lv_iinc hx hb hd (lvx_has hl) hk rfl hn rfl (fun ls' h' => k H locs ls' hi (lvx_st1 (v := .int _) hl h'))
    · cases hs
  case iconst z =>
    obtain ⟨h3, h4, h5, h6⟩ := inv_go hs
    subst h3; subst h4; subst h5; subst h6
    have hlen : len = 1 := Nat.eq_of_beq_eq_true hc
    subst hlen
    exact fun H locs ls hi hl => lv_iconst hx hb hd rfl (k H locs ls hi hl)
  case bipush z =>
    obtain ⟨h3, h4, h5, h6⟩ := inv_go hs
    subst h3; subst h4; subst h5; subst h6
    have hlen : len = 2 := Nat.eq_of_beq_eq_true hc
    subst hlen
    exact fun H locs ls hi hl => lv_bipush hx hb hd rfl (k H locs ls hi hl)
  case sipush z =>
    obtain ⟨h3, h4, h5, h6⟩ := inv_go hs
    subst h3; subst h4; subst h5; subst h6
    have hlen : len = 3 := Nat.eq_of_beq_eq_true hc
    subst hlen
    exact fun H locs ls hi hl => lv_sipush hx hb hd rfl (k H locs ls hi hl)
  case lconst z =>
    obtain ⟨h3, h4, h5, h6⟩ := inv_go hs
    subst h3; subst h4; subst h5; subst h6
    have hlen : len = 1 := Nat.eq_of_beq_eq_true hc
    subst hlen
    exact fun H locs ls hi hl => lv_lconst hx hb hd rfl (k H locs ls hi hl)
  case fconst z =>
    obtain ⟨h3, h4, h5, h6⟩ := inv_go hs
    subst h3; subst h4; subst h5; subst h6
    have hlen : len = 1 := Nat.eq_of_beq_eq_true hc
    subst hlen
    match z, hd, k with
    | 0, hd, k => exact fun H locs ls hi hl => lv_fconst0 hx hb hd (k H locs ls hi hl)
    | 1, hd, k => exact fun H locs ls hi hl => lv_fconst1 hx hb hd (k H locs ls hi hl)
    | 2, hd, k => exact fun H locs ls hi hl => lv_fconst2 hx hb hd (k H locs ls hi hl)
  case dconst z =>
    obtain ⟨h3, h4, h5, h6⟩ := inv_go hs
    subst h3; subst h4; subst h5; subst h6
    have hlen : len = 1 := Nat.eq_of_beq_eq_true hc
    subst hlen
    match z, hd, k with
    | 0, hd, k => exact fun H locs ls hi hl => lv_dconst0 hx hb hd (k H locs ls hi hl)
    | 1, hd, k => exact fun H locs ls hi hl => lv_dconst1 hx hb hd (k H locs ls hi hl)
  case ldc z =>
    unfold stp at hs
    dsimp only at hs
    unfold chk at hc; dsimp only at hc; rw [Bool.and_eq_true] at hc
    have hlen : len = 2 := Nat.eq_of_beq_eq_true hc.1
    subst hlen
    split at hs
    · obtain ⟨h3, h4, h5, h6⟩ := inv_go hs
      subst h3; subst h4; subst h5; subst h6
      exact fun H locs ls hi hl => lv_ldc hx hb hown (in_code hts hc.2) hd (k H locs ls hi hl)
    · obtain ⟨h3, h4, h5, h6⟩ := inv_go hs
      subst h3; subst h4; subst h5; subst h6
      exact fun H locs ls hi hl => lv_ldcf hx hb hown (in_code hts hc.2) hd (k H locs ls hi hl)
    · cases hs
  case ldc2_w z =>
    unfold stp at hs
    dsimp only at hs
    unfold chk at hc; dsimp only at hc; rw [Bool.and_eq_true] at hc
    have hlen : len = 3 := Nat.eq_of_beq_eq_true hc.1
    subst hlen
    split at hs
    · obtain ⟨h3, h4, h5, h6⟩ := inv_go hs
      subst h3; subst h4; subst h5; subst h6
      rename_i v r
      cases r with
      | nil => exact absurd hc.2 (by simp)
      | cons wl r => exact fun H locs ls hi hl => lv_ldc2 hx hb hown (in_code hts hc.2) hd (k H locs ls hi hl)
    · obtain ⟨h3, h4, h5, h6⟩ := inv_go hs
      subst h3; subst h4; subst h5; subst h6
      rename_i v r
      cases r with
      | nil => exact absurd hc.2 (by simp)
      | cons wl r => exact fun H locs ls hi hl => lv_ldc2d hx hb hown (in_code hts hc.2) hd (k H locs ls hi hl)
    · cases hs
  case iadd =>
    obtain ⟨y, x, r, h1, h3, h4, h5, h6⟩ := inv_ii2 hs
    subst h1; subst h3; subst h4; subst h5; subst h6
    have hlen : len = 1 := Nat.eq_of_beq_eq_true hc
    subst hlen
    exact fun H locs ls hi hl => lv_iadd hx hb hd (k H locs ls hi hl)
  case isub =>
    obtain ⟨y, x, r, h1, h3, h4, h5, h6⟩ := inv_ii2 hs
    subst h1; subst h3; subst h4; subst h5; subst h6
    have hlen : len = 1 := Nat.eq_of_beq_eq_true hc
    subst hlen
    exact fun H locs ls hi hl => lv_isub hx hb hd (k H locs ls hi hl)
  case imul =>
    obtain ⟨y, x, r, h1, h3, h4, h5, h6⟩ := inv_ii2 hs
    subst h1; subst h3; subst h4; subst h5; subst h6
    have hlen : len = 1 := Nat.eq_of_beq_eq_true hc
    subst hlen
    exact fun H locs ls hi hl => lv_imul hx hb hd (k H locs ls hi hl)
  case iand =>
    obtain ⟨y, x, r, h1, h3, h4, h5, h6⟩ := inv_ii2 hs
    subst h1; subst h3; subst h4; subst h5; subst h6
    have hlen : len = 1 := Nat.eq_of_beq_eq_true hc
    subst hlen
    exact fun H locs ls hi hl => lv_iand hx hb hd (k H locs ls hi hl)
  case ior =>
    obtain ⟨y, x, r, h1, h3, h4, h5, h6⟩ := inv_ii2 hs
    subst h1; subst h3; subst h4; subst h5; subst h6
    have hlen : len = 1 := Nat.eq_of_beq_eq_true hc
    subst hlen
    exact fun H locs ls hi hl => lv_ior hx hb hd (k H locs ls hi hl)
  case ixor =>
    obtain ⟨y, x, r, h1, h3, h4, h5, h6⟩ := inv_ii2 hs
    subst h1; subst h3; subst h4; subst h5; subst h6
    have hlen : len = 1 := Nat.eq_of_beq_eq_true hc
    subst hlen
    exact fun H locs ls hi hl => lv_ixor hx hb hd (k H locs ls hi hl)
  case ishl =>
    obtain ⟨y, x, r, h1, h3, h4, h5, h6⟩ := inv_ii2 hs
    subst h1; subst h3; subst h4; subst h5; subst h6
    have hlen : len = 1 := Nat.eq_of_beq_eq_true hc
    subst hlen
    exact fun H locs ls hi hl => lv_ishl hx hb hd (k H locs ls hi hl)
  case iushr =>
    obtain ⟨y, x, r, h1, h3, h4, h5, h6⟩ := inv_ii2 hs
    subst h1; subst h3; subst h4; subst h5; subst h6
    have hlen : len = 1 := Nat.eq_of_beq_eq_true hc
    subst hlen
    exact fun H locs ls hi hl => lv_iushr hx hb hd rfl (k H locs ls hi hl)
  case ineg =>
    obtain ⟨x, r, h1, h3, h4, h5, h6⟩ := inv_ii1 hs
    subst h1; subst h3; subst h4; subst h5; subst h6
    have hlen : len = 1 := Nat.eq_of_beq_eq_true hc
    subst hlen
    exact fun H locs ls hi hl => lv_ineg hx hb hd (k H locs ls hi hl)
  case i2c =>
    obtain ⟨x, r, h1, h3, h4, h5, h6⟩ := inv_ii1 hs
    subst h1; subst h3; subst h4; subst h5; subst h6
    have hlen : len = 1 := Nat.eq_of_beq_eq_true hc
    subst hlen
    exact fun H locs ls hi hl => lv_i2c hx hb hd rfl (k H locs ls hi hl)
  case ladd =>
    obtain ⟨y, x, r, h1, h3, h4, h5, h6⟩ := inv_ll2 hs
    subst h1; subst h3; subst h4; subst h5; subst h6
    have hlen : len = 1 := Nat.eq_of_beq_eq_true hc
    subst hlen
    exact fun H locs ls hi hl => lv_ladd hx hb hd (k H locs ls hi hl)
  case lmul =>
    obtain ⟨y, x, r, h1, h3, h4, h5, h6⟩ := inv_ll2 hs
    subst h1; subst h3; subst h4; subst h5; subst h6
    have hlen : len = 1 := Nat.eq_of_beq_eq_true hc
    subst hlen
    exact fun H locs ls hi hl => lv_lmul hx hb hd (k H locs ls hi hl)
  case land =>
    obtain ⟨y, x, r, h1, h3, h4, h5, h6⟩ := inv_ll2 hs
    subst h1; subst h3; subst h4; subst h5; subst h6
    have hlen : len = 1 := Nat.eq_of_beq_eq_true hc
    subst hlen
    exact fun H locs ls hi hl => lv_land hx hb hd (k H locs ls hi hl)
  case lor =>
    obtain ⟨y, x, r, h1, h3, h4, h5, h6⟩ := inv_ll2 hs
    subst h1; subst h3; subst h4; subst h5; subst h6
    have hlen : len = 1 := Nat.eq_of_beq_eq_true hc
    subst hlen
    exact fun H locs ls hi hl => lv_lor hx hb hd (k H locs ls hi hl)
  case fadd =>
    obtain ⟨y, x, r, h1, hne, h3, h4, h5, h6⟩ := inv_ff2 hs
    subst h1; subst h3; subst h4; subst h5; subst h6
    have hlen : len = 1 := Nat.eq_of_beq_eq_true hc
    subst hlen
    exact fun H locs ls hi hl => lv_fadd hx hb hd hne (k H locs ls hi hl)
  case fmul =>
    obtain ⟨y, x, r, h1, hne, h3, h4, h5, h6⟩ := inv_ff2 hs
    subst h1; subst h3; subst h4; subst h5; subst h6
    have hlen : len = 1 := Nat.eq_of_beq_eq_true hc
    subst hlen
    exact fun H locs ls hi hl => lv_fmul hx hb hd hne (k H locs ls hi hl)
  case fdiv =>
    obtain ⟨y, x, r, h1, hne, h3, h4, h5, h6⟩ := inv_ff2 hs
    subst h1; subst h3; subst h4; subst h5; subst h6
    have hlen : len = 1 := Nat.eq_of_beq_eq_true hc
    subst hlen
    exact fun H locs ls hi hl => lv_fdiv hx hb hd hne (k H locs ls hi hl)
  case dmul =>
    obtain ⟨y, x, r, h1, hne, h3, h4, h5, h6⟩ := inv_dd2 hs
    subst h1; subst h3; subst h4; subst h5; subst h6
    have hlen : len = 1 := Nat.eq_of_beq_eq_true hc
    subst hlen
    exact fun H locs ls hi hl => lv_dmul hx hb hd hne (k H locs ls hi hl)
  case ddiv =>
    obtain ⟨y, x, r, h1, hne, h3, h4, h5, h6⟩ := inv_dd2 hs
    subst h1; subst h3; subst h4; subst h5; subst h6
    have hlen : len = 1 := Nat.eq_of_beq_eq_true hc
    subst hlen
    exact fun H locs ls hi hl => lv_ddiv hx hb hd hne (k H locs ls hi hl)
  case idiv =>
    unfold stp at hs
    dsimp only at hs
    split at hs
    · obtain ⟨hg, h3, h4, h5, h6⟩ := inv_gg hs
      subst h3; subst h4; subst h5; subst h6
      have hlen : len = 1 := Nat.eq_of_beq_eq_true hc
      subst hlen
      exact fun H locs ls hi hl => lv_idiv hx hb hd (of_decide_eq_true hg) (k H locs ls hi hl)
    · cases hs
  case irem =>
    unfold stp at hs
    dsimp only at hs
    split at hs
    · obtain ⟨hg, h3, h4, h5, h6⟩ := inv_gg hs
      subst h3; subst h4; subst h5; subst h6
      have hlen : len = 1 := Nat.eq_of_beq_eq_true hc
      subst hlen
      exact fun H locs ls hi hl => lv_irem hx hb hd (of_decide_eq_true hg) (k H locs ls hi hl)
    · cases hs
  case lshl =>
    unfold stp at hs
    dsimp only at hs
    split at hs
    · obtain ⟨h3, h4, h5, h6⟩ := inv_go hs
      subst h3; subst h4; subst h5; subst h6
      have hlen : len = 1 := Nat.eq_of_beq_eq_true hc
      subst hlen
      exact fun H locs ls hi hl => lv_lshl hx hb hd rfl (k H locs ls hi hl)
    · cases hs
  case lcmp =>
    unfold stp at hs
    dsimp only at hs
    split at hs
    · obtain ⟨h3, h4, h5, h6⟩ := inv_go hs
      subst h3; subst h4; subst h5; subst h6
      have hlen : len = 1 := Nat.eq_of_beq_eq_true hc
      subst hlen
      exact fun H locs ls hi hl => W.lcmp hx hb hd (k H locs ls hi hl)
    · cases hs
  case i2l =>
    unfold stp at hs
    dsimp only at hs
    split at hs
    · obtain ⟨h3, h4, h5, h6⟩ := inv_go hs
      subst h3; subst h4; subst h5; subst h6
      have hlen : len = 1 := Nat.eq_of_beq_eq_true hc
      subst hlen
      exact fun H locs ls hi hl => lv_i2l hx hb hd rfl (k H locs ls hi hl)
    · cases hs
  case i2d =>
    unfold stp at hs
    dsimp only at hs
    split at hs
    · obtain ⟨h3, h4, h5, h6⟩ := inv_go hs
      subst h3; subst h4; subst h5; subst h6
      have hlen : len = 1 := Nat.eq_of_beq_eq_true hc
      subst hlen
      exact fun H locs ls hi hl => lv_i2d hx hb hd (k H locs ls hi hl)
    · cases hs
  case i2f =>
    unfold stp at hs
    dsimp only at hs
    split at hs
    · obtain ⟨h3, h4, h5, h6⟩ := inv_go hs
      subst h3; subst h4; subst h5; subst h6
      have hlen : len = 1 := Nat.eq_of_beq_eq_true hc
      subst hlen
      exact fun H locs ls hi hl => lv_i2f hx hb hd (k H locs ls hi hl)
    · cases hs
  case f2i =>
    unfold stp at hs
    dsimp only at hs
    split at hs
    · obtain ⟨h3, h4, h5, h6⟩ := inv_go hs
      subst h3; subst h4; subst h5; subst h6
      have hlen : len = 1 := Nat.eq_of_beq_eq_true hc
      subst hlen
      exact fun H locs ls hi hl => lv_f2i hx hb hd (k H locs ls hi hl)
    · cases hs
  case d2i =>
    unfold stp at hs
    dsimp only at hs
    split at hs
    · obtain ⟨h3, h4, h5, h6⟩ := inv_go hs
      subst h3; subst h4; subst h5; subst h6
      have hlen : len = 1 := Nat.eq_of_beq_eq_true hc
      subst hlen
      exact fun H locs ls hi hl => lv_d2i hx hb hd (k H locs ls hi hl)
    · cases hs
  case d2l =>
    unfold stp at hs
    dsimp only at hs
    split at hs
    · obtain ⟨h3, h4, h5, h6⟩ := inv_go hs
      subst h3; subst h4; subst h5; subst h6
      have hlen : len = 1 := Nat.eq_of_beq_eq_true hc
      subst hlen
      exact fun H locs ls hi hl => lv_d2l hx hb hd (k H locs ls hi hl)
    · cases hs
  case fneg =>
    unfold stp at hs
    dsimp only at hs
    split at hs
    · obtain ⟨h3, h4, h5, h6⟩ := inv_go hs
      subst h3; subst h4; subst h5; subst h6
      have hlen : len = 1 := Nat.eq_of_beq_eq_true hc
      subst hlen
      exact fun H locs ls hi hl => lv_fneg hx hb hd (k H locs ls hi hl)
    · cases hs
  case f2d =>
    unfold stp at hs
    dsimp only at hs
    split at hs
    · obtain ⟨hg, h3, h4, h5, h6⟩ := inv_gg hs
      subst h3; subst h4; subst h5; subst h6
      have hlen : len = 1 := Nat.eq_of_beq_eq_true hc
      subst hlen
      exact fun H locs ls hi hl => lv_f2d hx hb hd (gN64_s hg) (k H locs ls hi hl)
    · cases hs
  case d2f =>
    unfold stp at hs
    dsimp only at hs
    split at hs
    · obtain ⟨hg, h3, h4, h5, h6⟩ := inv_gg hs
      subst h3; subst h4; subst h5; subst h6
      have hlen : len = 1 := Nat.eq_of_beq_eq_true hc
      subst hlen
      exact fun H locs ls hi hl => lv_d2f hx hb hd (gN32_s hg) (k H locs ls hi hl)
    · cases hs
  case fcmp op =>
    unfold stp at hs
    dsimp only at hs
    split at hs
    · obtain ⟨h3, h4, h5, h6⟩ := inv_go hs
      subst h3; subst h4; subst h5; subst h6
      have hlen : len = 1 := Nat.eq_of_beq_eq_true hc
      subst hlen
      exact fun H locs ls hi hl => lv_fcmp hx hb hd (k H locs ls hi hl)
    · cases hs
  case dcmp op =>
    unfold stp at hs
    dsimp only at hs
    split at hs
    · obtain ⟨h3, h4, h5, h6⟩ := inv_go hs
      subst h3; subst h4; subst h5; subst h6
      have hlen : len = 1 := Nat.eq_of_beq_eq_true hc
      subst hlen
      exact fun H locs ls hi hl => lv_dcmp hx hb hd (k H locs ls hi hl)
    · cases hs
  case dup =>
    unfold stp at hs
    dsimp only at hs
    split at hs
    · obtain ⟨h3, h4, h5, h6⟩ := inv_go hs
      subst h3; subst h4; subst h5; subst h6
      have hlen : len = 1 := Nat.eq_of_beq_eq_true hc
      subst hlen
      exact fun H locs ls hi hl => lv_dup hx hb hd rfl (k H locs ls hi hl)
    · obtain ⟨h3, h4, h5, h6⟩ := inv_go hs
      subst h3; subst h4; subst h5; subst h6
      have hlen : len = 1 := Nat.eq_of_beq_eq_true hc
      subst hlen
      exact fun H locs ls hi hl => lv_dup hx hb hd rfl (k H locs ls hi hl)
    · cases hs
  case dup2 =>
    unfold stp at hs
    dsimp only at hs
    split at hs
    · obtain ⟨h3, h4, h5, h6⟩ := inv_go hs
      subst h3; subst h4; subst h5; subst h6
      have hlen : len = 1 := Nat.eq_of_beq_eq_true hc
      subst hlen
      exact fun H locs ls hi hl => lv_dup2_11 hx hb hd rfl rfl (k H locs ls hi hl)
    · obtain ⟨h3, h4, h5, h6⟩ := inv_go hs
      subst h3; subst h4; subst h5; subst h6
      have hlen : len = 1 := Nat.eq_of_beq_eq_true hc
      subst hlen
      exact fun H locs ls hi hl => lv_dup2_2 hx hb hd rfl (k H locs ls hi hl)
    · cases hs
  case pop =>
    unfold stp at hs
    dsimp only at hs
    split at hs
    · obtain ⟨h3, h4, h5, h6⟩ := inv_go hs
      subst h3; subst h4; subst h5; subst h6
      have hlen : len = 1 := Nat.eq_of_beq_eq_true hc
      subst hlen
      exact fun H locs ls hi hl => lv_pop hx hb hd rfl (k H locs ls hi hl)
    · obtain ⟨h3, h4, h5, h6⟩ := inv_go hs
      subst h3; subst h4; subst h5; subst h6
      have hlen : len = 1 := Nat.eq_of_beq_eq_true hc
      subst hlen
      exact fun H locs ls hi hl => lv_pop hx hb hd rfl (k H locs ls hi hl)
    · cases hs
  case goto off =>
    obtain ⟨h3, h4, h5, h6⟩ := inv_go hs
    subst h3; subst h4; subst h5; subst h6
    unfold chk at hc; dsimp only at hc; rw [Bool.and_eq_true] at hc
    have hlen : len = 3 := Nat.eq_of_beq_eq_true hc.1
    subst hlen
    exact fun H locs ls hi hl => lv_goto hx hb hd (of_decide_eq_true hc.2) (k H locs ls hi hl)
  case getfield z =>
    exact g_get C hI hs k
  case putfield z =>
    exact g_put C hI hs k
  case arraylength =>
    exact g_alen C hI hs k
  case iaload =>
    exact g_iaload C hI hs k
  case caload =>
    exact g_caload C hI hs k
  case laload =>
    exact g_laload C hI hs k
  case aaload =>
    exact g_aaload C hI hs k
  case iastore =>
    exact g_iastore C hI hs k
  case castore =>
    exact g_castore C hI hs k
  case lastore =>
    exact g_lastore C hI hs k
  case aastore =>
    exact g_aastore C hI hs k
  case newarray ty =>
    exact g_newa C hI hs hR k
  case anewarray z =>
    exact g_anew C hI hs hR k
  case new z =>
    exact g_new C hI hs hR k
  case invokevirtual z =>
    exact g_invokevirtual C hI hs hF k
  case invokestatic z =>
    exact g_invokestatic C hI hs hF k
  case invokespecial z =>
    exact g_invokespecial C hI hs hF k
  all_goals first
    | (unfold stp at hs; cases hs; done)
    | (unfold stp at hs; dsimp only at hs; (repeat' split at hs) <;> first | (cases hs; done) | (simp [br] at hs; done))
end Snd2
end
