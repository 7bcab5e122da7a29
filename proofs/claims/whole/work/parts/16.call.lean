theorem wd_blind {D : va_G} {cA : Nat → ClassId} {n0 b : Nat} {μ : Mem} {as : List Value} : FrameBlind (va_Pc as (Wd D cA n0 b μ)) := fun a U g mk q => by
  obtain ⟨q0, h1, h2, h3, h4, h5, h6⟩ := q
  exact ⟨q0, h1, h2, va_K.moved (u := U) (U := U.calling g mk a) (Vm.Alike.refl U.vm) h3, h4, h5.same rfl, h6⟩
section Snd6
variable {p : Program} {l : Launch} {e : Env} {R : Room} {s : State} {mid : MethodId} {args : Array Value} {below : List Frame} {meth : Method} {c : Code} {D : va_G} {cA : Nat → ClassId} {n0 b k0 d0 : Nat} {xs : Scr} {m : Nat} {Q : State → Prop}
/-- the heap's size, where it counts -/
theorem size_at {T : State} {H : Heap} {locs : List Loc} {μ : Mem} {slots : Nat} (hn0 : n0 ≤ s.heap.size) (hi : Iv s D cA n0 b k0 μ H locs) (hT : T.heap = H) (X : Stand p l e R s mid args below meth c T locs (mN μ + mX μ - k0) slots) : mN μ < NN → mX μ = 0 ∧ H.size = n0 + mN μ := by
  intro hN
  obtain ⟨h1, h2, h3⟩ := hi.2.2.2 hN
  have hsz : T.heap.size ≤ s.heap.size + (mN μ + mX μ - k0) := X.same.2.2.1
  rw [hT] at hsz
  refine ⟨h1, ?_⟩
  have hlow : n0 + mN μ ≤ H.size := by
    cases hm : mN μ with
    | zero => exact Nat.le_trans hn0 hi.2.2.1.1
    | succ k =>
      have := (hi.2.1 k _ (wld_get (n0 := n0) (b := b) (cA := cA) (μ := μ) (a := k) (by omega))).lt
      show n0 + (k + 1) ≤ H.size
      have this : n0 + k < H.size := this
      omega
  omega
theorem wd_at {μ : Mem} {H : Heap} {locs : List Loc} (C : Cx p l s mid args meth c D cA n0 b xs m) (hi : Iv s D cA n0 b k0 μ H locs) (hsz : mN μ < NN → mX μ = 0 ∧ H.size = n0 + mN μ) : ∀ U : State, U.heap = H → s.WarmedH U.vm → Wd D cA n0 b μ U := by
  intro U hU hW
  obtain ⟨-, -, -, -, -, hK, hn0, -, -, -, hV, -⟩ := C
  refine ⟨hi.1, by rw [hU]; exact hi.2.1, va_K.moved hW.alike hK, by rw [hU]; exact Nat.le_trans hn0 hi.2.2.1.1, ?_, by rw [hU]; exact hsz⟩
  rw [hU]
  exact hV.to hW hi.2.2.1.2.1
/-- what the counts of a callee leave -/
def Gr (μ μ' : Mem) : Prop := mN μ ≤ mN μ' ∧ mX μ ≤ mX μ' ∧ mN μ' ≤ NN ∧ (mN μ' < NN → mX μ' = mX μ) ∧ (mN μ < mN μ' → mX μ = 0)
theorem iv_after {μ μ2 : Mem} {H H1 : Heap} {locs locs1 : List Loc} (hi : Iv s D cA n0 b k0 μ H locs) (hg : Gr μ μ2) (hP : va_P D vwCl (wld n0 b cA μ2) H1) (hS : va_S (AA n0) s.heap H1 locs1) : Iv s D cA n0 b k0 μ2 H1 locs1 := by
  obtain ⟨g1, g2, g3, g4, g5⟩ := hg
  refine ⟨g3, hP, hS, fun hN => ?_⟩
  obtain ⟨h1, h2, h3⟩ := hi.2.2.2 (by omega)
  exact ⟨by rw [g4 hN]; exact h1, h2, by omega⟩
theorem cnt_after {μ μ2 : Mem} (hg : Gr μ μ2) (hk0 : k0 ≤ mN μ + mX μ) (hd0 : d0 ≤ ssum (mN μ) + 6 * mX μ) : mN μ + mX μ - k0 + mcY μ μ2 = mN μ2 + mX μ2 - k0 ∧ ssum (mN μ) + 6 * mX μ - d0 + msY μ μ2 = ssum (mN μ2) + 6 * mX μ2 - d0 ∧ k0 ≤ mN μ2 + mX μ2 ∧ d0 ≤ ssum (mN μ2) + 6 * mX μ2 := by
  obtain ⟨g1, g2, -, -, -⟩ := hg
  have := ssum_le g1
  unfold mcY msY
  omega
theorem map_toList {v : Option Value} {r : List Value} : (v.map (rv n0 b)).toList ++ r.map (rv n0 b) = (v.toList ++ r).map (rv n0 b) := by cases v <;> rfl
/-- behind a call that returns or throws -/
theorem call_go {pc : Nat} {L' st' : List Value} {μ : Mem} {o : Out × Mem} {H : Heap} {locs : List Loc} {ls : Array Slot} {st0 : List Value} {as : Array Value}
    (hr : vx_Run p l e R s mid args below meth c H locs (mN μ + mX μ - k0) (ssum (mN μ) + 6 * mX μ - d0) (mcY μ o.2) (msY μ o.2) (F0 mid pc ls st0) (st'.map (rv n0 b)) (QcY D cA n0 b o as) (XcY D cA n0 b o) (AA n0))
    (hi : Iv s D cA n0 b k0 μ H locs) (hl : lvx n0 b ls (xM m) L') (hg : Gr μ o.2) (hk0 : k0 ≤ mN μ + mX μ) (hd0 : d0 ≤ ssum (mN μ) + 6 * mX μ)
    (hk : ∀ v, o.1 = .inl v → Gd p l e R s mid args below meth c D cA n0 b k0 d0 m Q (pc + 3) L' (v.toList ++ st') o.2)
    (hx : ∀ E, o.1 = .inr E → 0 < E → E < 4 → ∀ (H : Heap) (locs : List Loc) (q : Addr) (ce : Cell), Iv s D cA n0 b k0 o.2 H locs → H[q]? = some ce → ce.vm = .none → s.vm.findClass (excN E) = some ce.cls → vx_W p l e R s mid args below meth c H locs (mN o.2 + mX o.2 - k0) (ssum (mN o.2) + 6 * mX o.2 - d0) Q (F0 mid pc ls (st'.map (rv n0 b))) q) :
    W p l e R s mid args below meth c H locs (mN μ + mX μ - k0) (ssum (mN μ) + 6 * mX μ - d0) Q (F0 mid pc ls st0) := by
  obtain ⟨c1, c2, -, -⟩ := cnt_after (k0 := k0) (d0 := d0) hg hk0 hd0
  intro T hT X
  rcases hr T hT X with ⟨v, st₀, t, T', Lc, h0, X', hL, e1, e2, ⟨v0, ho, hv, hP, hF⟩, st⟩ | ⟨q, st₀, t, T', Lc, E, ce, h0, X', hL, e1, e2, ⟨k, ho, hk1, hk4, hE, hP, hF⟩, hce, hcv, hcl, st⟩
  · cases hv
    obtain ⟨-, -, k3⟩ := vx_keep h0 e1 hi.2.2.1 (fun q _ h => h) (fun q h => h) hL hF
    rw [← e1] at hP
    rw [c1, c2] at X'
    obtain ⟨t2, a1, b1⟩ := hk v0 ho T'.heap (locs ++ Lc) ls (iv_after hi hg hP k3) hl T' rfl X'
    rw [← map_toList] at a1
    exact ⟨t2, st t2 a1, b1⟩
  · obtain ⟨-, -, k3⟩ := vx_keep h0 e1 hi.2.2.1 (fun q _ h => h) (fun q h => h) hL hF
    rw [← e1] at hP
    rw [c1, c2] at X'
    subst hE
    obtain ⟨t2, a1, b1⟩ := hx k ho hk1 hk4 T'.heap (locs ++ Lc) q ce (iv_after hi hg hP k3) (by rw [e1]; exact hce) hcv hcl T' rfl X'
    exact ⟨t2, st.trans a1, b1⟩
/-- behind a constructor's call -/
theorem init_go {pc : Nat} {L' st' : List Value} {μ : Mem} {o : Out × Mem} {H : Heap} {locs : List Loc} {ls : Array Slot} {st0 : List Value} {as : Array Value}
    (hr : va_Run p l e R s mid args below meth c H locs (mN μ + mX μ - k0) (ssum (mN μ) + 6 * mX μ - d0) (mcY μ o.2) (msY μ o.2) (F0 mid pc ls st0) (st'.map (rv n0 b)) (QcY D cA n0 b o as) (AA n0))
    (hi : Iv s D cA n0 b k0 μ H locs) (hl : lvx n0 b ls (xM m) L') (hg : Gr μ o.2) (hk0 : k0 ≤ mN μ + mX μ) (hd0 : d0 ≤ ssum (mN μ) + 6 * mX μ)
    (hk : ∀ v, o.1 = .inl v → Gd p l e R s mid args below meth c D cA n0 b k0 d0 m Q (pc + 3) L' (v.toList ++ st') o.2) :
    W p l e R s mid args below meth c H locs (mN μ + mX μ - k0) (ssum (mN μ) + 6 * mX μ - d0) Q (F0 mid pc ls st0) := by
  obtain ⟨c1, c2, -, -⟩ := cnt_after (k0 := k0) (d0 := d0) hg hk0 hd0
  intro T hT X
  obtain ⟨v, st₀, t, T', Lc, h0, X', hL, e1, e2, ⟨v0, ho, hv, hP, hF⟩, st⟩ := hr T hT X
  cases hv
  obtain ⟨-, -, k3⟩ := vx_keep h0 e1 hi.2.2.1 (fun q _ h => h) (fun q h => h) hL hF
  rw [← e1] at hP
  rw [c1, c2] at X'
  obtain ⟨t2, a1, b1⟩ := hk v0 ho T'.heap (locs ++ Lc) ls (iv_after hi hg hP k3) hl T' rfl X'
  rw [← map_toList] at a1
  exact ⟨t2, st t2 a1, b1⟩
theorem met_of {y : Nat} {as : List Value} {μ : Mem} {o : Out × Mem} (h : Ctr l D cA n0 b y as μ o) (ho : ∀ E, o.1 = .inr E → False) : Met l (yM y) (wsY y) (rmY y (mcY μ o.2) (msY μ o.2)) (va_Pc (as.map (rv n0 b)) (Wd D cA n0 b μ)) (QcY D cA n0 b o) (mcY μ o.2) (msY μ o.2) (AA n0) := by
  intro p e ha hc hk s m args below hf happ hP hK
  obtain ⟨n, o', h1, h2, h3, h4⟩ := h p e ha hc hk s m args below hf happ hP hK
  rcases h4 with h4 | ⟨q, hq, E, ce, L, ⟨k, hk, -⟩, -⟩
  · exact ⟨n, o', h1, h2, h3, h4⟩
  · exact (ho k hk).elim
/-- a call, of any kind -/
theorem stp_call (C : Cx p l s mid args meth c D cA n0 b xs m) {pc len n' y : Nat} {Lc : List Value} {ins : Instr} {aux : List Nat} {L st L' st' : List Value} {μ μ' : Mem} (hI : I m pc = some (ins, len, aux))
    (hs : stp xs ins (pc + len) aux L st μ = some (true, .inr (.inr (.inr (.inr (.inr (y, Lc, n', L', st', μ'))))))) (hF : fM m ≤ R.frames ∧ 38 * fM m ≤ R.locals) (hk0 : k0 ≤ mN μ' + mX μ') (hd0 : d0 ≤ ssum (mN μ') + 6 * mX μ') :
    ∃ as : List Value, Lc = pad (argL as) (xM y) ∧ (argL as).length ≤ xM y ∧ y < 209 ∧ ∀ o : Out × Mem, Ctr l D cA n0 b y as μ' o → Gr μ' o.2 → Rm R k0 d0 o.2 → (ctor y = true → ∀ E, o.1 = .inr E → False) →
      (∀ v, o.1 = .inl v → Gd p l e R s mid args below meth c D cA n0 b k0 d0 m Q n' L' (v.toList ++ st') o.2) →
      (∀ E, o.1 = .inr E → 0 < E → E < 4 → ∀ (H : Heap) (locs : List Loc) (ls : Array Slot) (q : Addr) (ce : Cell), Iv s D cA n0 b k0 o.2 H locs → lvx n0 b ls (xM m) L' → H[q]? = some ce → ce.vm = .none → s.vm.findClass (excN E) = some ce.cls → vx_W p l e R s mid args below meth c H locs (mN o.2 + mX o.2 - k0) (ssum (mN o.2) + 6 * mX o.2 - d0) Q (F0 mid pc ls (st'.map (rv n0 b))) q) →
      Gd p l e R s mid args below meth c D cA n0 b k0 d0 m Q pc L st μ := by
  have hd : decode (cM m) pc = .ok (ins, len) := (I_ok hI).1
  have hc : chk m pc len ins aux = true := (I_ok hI).2.1
  have C0 := C
  obtain ⟨hx, hb, hml, hown, hts, hK, hn0, -⟩ := C
  have hk := kr_stp (xs := xs) (ins := ins) (n := pc + len) (aux := aux) (L := L) (st := st) (μ := μ)
  rw [hs] at hk
  have hk : isCl ins := hk
  have hinv : ∀ {g gd : Bool} {y1 ml n1 : Nat} {as L1 r1 : List Value} {μ1 : Mem}, cl g gd y1 as ml n1 L1 r1 μ1 = some (true, .inr (.inr (.inr (.inr (.inr (y, Lc, n', L', st', μ')))))) → gd = true ∧ g = true ∧ y1 = y ∧ pad (argL as) ml = Lc ∧ n1 = n' ∧ L1 = L' ∧ r1 = st' ∧ μ1 = μ' := by
    intro g gd y1 ml n1 as L1 r1 μ1 h
    unfold cl at h
    obtain ⟨h1, h2⟩ := inv_bif h
    simp only [Option.some.injEq, Prod.mk.injEq, Sum.inr.injEq] at h2
    exact ⟨h1, h2.1, h2.2.1, h2.2.2.1, h2.2.2.2.1, h2.2.2.2.2.1, h2.2.2.2.2.2.1, h2.2.2.2.2.2.2⟩
  have gcs : ∀ {na ml : Nat} {as r : List Value}, gC na st as ml r = true → catL r ≤ 8 ∧ (argL as).length ≤ ml ∧ na ≤ st.length := by
    intro na ml as r h
    unfold gC at h
    simp only [Bool.and_eq_true] at h
    exact ⟨Nat.le_of_ble_eq_true h.1, Nat.le_of_ble_eq_true h.2.1, Nat.le_of_ble_eq_true h.2.2⟩
  have hroom : ∀ {H : Heap} {pc : Nat} {ls : Array Slot} {r rest : List Value}, catL r ≤ 8 → 2 * (F0 mid pc ls rest).monitorRoom + ((r.map (rv n0 b)).map fun v => v.category).sum ≤ 8 := fun h => lv_room (by rw [cat_sum]; exact h)
  have frm : ∀ {y : Nat}, y < 209 → fM y < fM m → (rmY y 0 0).frames + 1 ≤ R.frames ∧ 8 + (xM y + 11) + (rmY y 0 0).locals ≤ R.locals := by
    intro y hy hlt
    have h1 := (okY_spec hy).2.2.2.2.2.2.2.2
    have := hF.1
    have := hF.2
    show fM y + 1 ≤ R.frames ∧ 8 + (xM y + 11) + 38 * fM y ≤ R.locals
    omega
  cases ins <;> first | exact hk.elim | skip
  case invokevirtual z =>
    unfold chk at hc; dsimp only at hc
    rw [Bool.and_eq_true, Bool.and_eq_true] at hc
    have hlen : len = 3 := Nat.eq_of_beq_eq_true hc.1
    subst hlen
    have h0 := Nat.eq_of_beq_eq_true hc.2.1
    have hc := hc.2.2
    have hs : sCall aux (pc + 3) L st μ = _ := hs
    sorry
  case invokestatic z => sorry
  case invokespecial z => sorry
end Snd6
