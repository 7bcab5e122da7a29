theorem wd_blind {D : va_G} {cA : Nat → ClassId} {n0 b : Nat} {xs : Scr} {μ : Mem} {as : List Value} : FrameBlind (va_Pc as (Wd D cA n0 b xs μ)) := fun a U g mk q => by
  obtain ⟨q0, h1, h2, h3, h4, h5, h6⟩ := q
  exact ⟨q0, h1, h2, va_K.moved (u := U) (U := U.calling g mk a) (Vm.Alike.refl U.vm) h3, h4, Vmf.same (s := U) (U := U.calling g mk a) rfl h5, h6⟩
section Snd6
variable {p : Program} {l : Launch} {e : Env} {R : Room} {s : State} {mid : MethodId} {args : Array Value} {below : List Frame} {meth : Method} {c : Code} {D : va_G} {cA : Nat → ClassId} {n0 b k0 d0 : Nat} {xs : Scr} {m : Nat} {Q : State → Prop}
/-- the heap's size, where it counts -/
theorem size_at {T : State} {H : Heap} {locs : List Loc} {μ : Mem} {slots : Nat} (hn0 : n0 ≤ s.heap.size) (hi : Iv s D cA n0 b k0 μ H locs) (hT : T.heap = H) (X : Stand p l e R s mid args below meth c T locs (mN μ + mX μ - k0) slots) : mX μ = 0 → H.size = n0 + mN μ := by
  intro hN
  obtain ⟨h2, h3⟩ := hi.2.2.2 hN
  have hsz : T.heap.size ≤ s.heap.size + (mN μ + mX μ - k0) := X.same.2.2.1
  rw [hT] at hsz
  have hlow : n0 + mN μ ≤ H.size := by
    cases hm : mN μ with
    | zero => exact Nat.le_trans hn0 hi.2.2.1.1
    | succ k =>
      have := (hi.2.1 k _ (wld_get (n0 := n0) (b := b) (cA := cA) (μ := μ) (a := k) (by omega))).lt
      show n0 + (k + 1) ≤ H.size
      have this : n0 + k < H.size := this
      omega
  omega
theorem wd_at {μ : Mem} {H : Heap} {locs : List Loc} (C : Cx p l s mid args meth c D cA n0 b xs m) (hi : Iv s D cA n0 b k0 μ H locs) (hsz : mX μ = 0 → H.size = n0 + mN μ) : ∀ U : State, U.heap = H → s.WarmedH U.vm → Wd D cA n0 b xs μ U := by
  intro U hU hW
  obtain ⟨-, -, -, -, -, hK, hn0, -, -, -, hV, -⟩ := C
  refine ⟨hi.1, by rw [hU]; exact hi.2.1, va_K.moved hW.alike hK, by rw [hU]; exact Nat.le_trans hn0 hi.2.2.1.1, ?_, by rw [hU]; exact hsz⟩
  rw [hU]
  exact hV.to hW hi.2.2.1.2.1
/-- what the counts of a callee leave -/
def Gr (μ μ' : Mem) : Prop := mN μ ≤ mN μ' ∧ mX μ ≤ mX μ' ∧ mN μ' ≤ NN ∧ (mN μ < mN μ' → mX μ = 0)
theorem iv_after {μ μ2 : Mem} {H H1 : Heap} {locs locs1 : List Loc} (hi : Iv s D cA n0 b k0 μ H locs) (hg : Gr μ μ2) (hP : va_P D vwCl (wld n0 b cA μ2) H1) (hS : va_S (AA n0) s.heap H1 locs1) : Iv s D cA n0 b k0 μ2 H1 locs1 := by
  obtain ⟨g1, g2, g3, g5⟩ := hg
  refine ⟨g3, hP, hS, fun hN => ?_⟩
  obtain ⟨h2, h3⟩ := hi.2.2.2 (by omega)
  exact ⟨h2, by omega⟩
theorem cnt_after {μ μ2 : Mem} (hg : Gr μ μ2) (hk0 : k0 ≤ mN μ + mX μ) (hd0 : d0 ≤ ssum (mN μ) + 6 * mX μ) : mN μ + mX μ - k0 + mcY μ μ2 = mN μ2 + mX μ2 - k0 ∧ ssum (mN μ) + 6 * mX μ - d0 + msY μ μ2 = ssum (mN μ2) + 6 * mX μ2 - d0 ∧ k0 ≤ mN μ2 + mX μ2 ∧ d0 ≤ ssum (mN μ2) + 6 * mX μ2 := by
  obtain ⟨g1, g2, -, -⟩ := hg
  have := ssum_le g1
  unfold mcY msY
  omega
theorem map_toList {v : Option Value} {r : List Value} : (v.map (rv n0 b)).toList ++ r.map (rv n0 b) = (v.toList ++ r).map (rv n0 b) := by cases v <;> rfl
/-- behind a call that returns or throws -/
theorem call_go {pc : Nat} {L' st' : List Value} {μ : Mem} {o : Out × Mem} {H : Heap} {locs : List Loc} {ls : Array Slot} {st0 : List Value} {as : Array Value}
    (hr : vx_Run p l e R s mid args below meth c H locs (mN μ + mX μ - k0) (ssum (mN μ) + 6 * mX μ - d0) (mcY μ o.2) (msY μ o.2) (F0 mid pc ls st0) (st'.map (rv n0 b)) (QcY D cA n0 b o as) (XcY D cA n0 b o) (AA n0))
    (hi : Iv s D cA n0 b k0 μ H locs) (hl : lvx n0 b ls (xM m) L') (hg : Gr μ o.2) (hk0 : k0 ≤ mN μ + mX μ) (hd0 : d0 ≤ ssum (mN μ) + 6 * mX μ)
    (hk : ∀ v, o.1 = .inl v → Gd p l e R s mid args below meth c D cA n0 b k0 d0 m Q (pc + 3) L' (v.toList ++ st') o.2)
    (hx : ∀ E, o.1 = .inr E → 0 < E → E < 4 → ∀ (H : Heap) (locs : List Loc) (q : Addr) (ce : Cell), Iv s D cA n0 b k0 o.2 H locs → H[q]? = some ce → ce.vm = .none → s.vm.findClass (excN E) = some ce.cls → vx_W p l e R s mid args below meth c H locs (mN o.2 + mX o.2 - k0) (ssum (mN o.2) + 6 * mX o.2 - d0) Q (F0 mid pc ls (st'.map (rv n0 b))) q) :
    W p l e R s mid args below meth c H locs (mN μ + mX μ - k0) (ssum (mN μ) + 6 * mX μ - d0) Q (F0 mid pc ls st0) := by
  obtain ⟨c1, c2, -, -⟩ := cnt_after (k0 := k0) (d0 := d0) hg hk0 hd0
  intro T hT X
  rcases hr T hT X with ⟨v, st₀, t, T', Lc, h0, X', hL, e1, e2, ⟨v0, ho, hv, hP, hF⟩, st⟩ | ⟨q, st₀, t, T', Lc, E, ce, h0, X', hL, e1, e2, ⟨k, ho, hk1, hk4, hE, hP, hF⟩, hce, hcv, hcl, st⟩
  · cases hv
    obtain ⟨-, -, k3⟩ := vx_keep h0 e1 hi.2.2.1 (fun q _ h => h) (fun q h => h) hL hF
    rw [← e1] at hP
    rw [c1, c2] at X'
    obtain ⟨t2, a1, b1⟩ := hk v0 ho T'.heap (locs ++ Lc) ls (iv_after hi hg hP k3) hl T' rfl X'
    rw [← map_toList] at a1
    exact ⟨t2, st t2 a1, b1⟩
  · obtain ⟨-, -, k3⟩ := vx_keep h0 e1 hi.2.2.1 (fun q _ h => h) (fun q h => h) hL hF
    rw [← e1] at hP
    rw [c1, c2] at X'
    subst hE
    obtain ⟨t2, a1, b1⟩ := hx k ho hk1 hk4 T'.heap (locs ++ Lc) q ce (iv_after hi hg hP k3) (by rw [e1]; exact hce) hcv hcl T' rfl X'
    exact ⟨t2, st.trans a1, b1⟩
/-- behind a constructor's call -/
theorem init_go {pc : Nat} {L' st' : List Value} {μ : Mem} {o : Out × Mem} {H : Heap} {locs : List Loc} {ls : Array Slot} {st0 : List Value} {as : Array Value}
    (hr : va_Run p l e R s mid args below meth c H locs (mN μ + mX μ - k0) (ssum (mN μ) + 6 * mX μ - d0) (mcY μ o.2) (msY μ o.2) (F0 mid pc ls st0) (st'.map (rv n0 b)) (QcY D cA n0 b o as) (AA n0))
    (hi : Iv s D cA n0 b k0 μ H locs) (hl : lvx n0 b ls (xM m) L') (hg : Gr μ o.2) (hk0 : k0 ≤ mN μ + mX μ) (hd0 : d0 ≤ ssum (mN μ) + 6 * mX μ)
    (hk : ∀ v, o.1 = .inl v → Gd p l e R s mid args below meth c D cA n0 b k0 d0 m Q (pc + 3) L' (v.toList ++ st') o.2) :
    W p l e R s mid args below meth c H locs (mN μ + mX μ - k0) (ssum (mN μ) + 6 * mX μ - d0) Q (F0 mid pc ls st0) := by
  obtain ⟨c1, c2, -, -⟩ := cnt_after (k0 := k0) (d0 := d0) hg hk0 hd0
  intro T hT X
  obtain ⟨v, st₀, t, T', Lc, h0, X', hL, e1, e2, ⟨v0, ho, hv, hP, hF⟩, st⟩ := hr T hT X
  cases hv
  obtain ⟨-, -, k3⟩ := vx_keep h0 e1 hi.2.2.1 (fun q _ h => h) (fun q h => h) hL hF
  rw [← e1] at hP
  rw [c1, c2] at X'
  obtain ⟨t2, a1, b1⟩ := hk v0 ho T'.heap (locs ++ Lc) ls (iv_after hi hg hP k3) hl T' rfl X'
  rw [← map_toList] at a1
  exact ⟨t2, st t2 a1, b1⟩
theorem met_of {y : Nat} {as : List Value} {μ : Mem} {o : Out × Mem} (h : Ctr l D cA n0 b xs y as μ o) (ho : ∀ E, o.1 = .inr E → False) : Met l (yM y) (wsY y) (rmY y (mcY μ o.2) (msY μ o.2)) (va_Pc (as.map (rv n0 b)) (Wd D cA n0 b xs μ)) (QcY D cA n0 b o) (mcY μ o.2) (msY μ o.2) (AA n0) := by
  intro p e ha hc hk s m args below hf happ hP hK
  obtain ⟨n, o', h1, h2, h3, h4⟩ := h p e ha hc hk s m args below hf happ hP hK
  rcases h4 with h4 | ⟨q, hq, E, ce, L, ⟨k, hk, -⟩, -⟩
  · exact ⟨n, o', h1, h2, h3, h4⟩
  · exact (ho k hk).elim
/-- a call, of any kind -/
theorem stp_call (C : Cx p l s mid args meth c D cA n0 b xs m) {pc len n' y : Nat} {Lc : List Value} {ins : Instr} {aux : List Nat} {L st L' st' : List Value} {μ μ' : Mem} (hI : I m pc = some (ins, len, aux))
    (hs : stp xs ins (pc + len) aux L st μ = some (true, .inr (.inr (.inr (.inr (.inr (y, Lc, n', L', st', μ'))))))) (hF : fM m ≤ R.frames ∧ 40 * fM m ≤ R.locals) (hk0 : k0 ≤ mN μ' + mX μ') (hd0 : d0 ≤ ssum (mN μ') + 6 * mX μ') :
    ∃ as : List Value, Lc = pad (argL as) (xM y) ∧ (argL as).length ≤ xM y ∧ y < 209 ∧ ∀ o : Out × Mem, Ctr l D cA n0 b xs y as μ' o → Gr μ' o.2 → Rm R k0 d0 o.2 → (ctor y = true → ∀ E, o.1 = .inr E → False) →
      (∀ v, o.1 = .inl v → Gd p l e R s mid args below meth c D cA n0 b k0 d0 m Q n' L' (v.toList ++ st') o.2) →
      (∀ E, o.1 = .inr E → 0 < E → E < 4 → ∀ (H : Heap) (locs : List Loc) (ls : Array Slot) (q : Addr) (ce : Cell), Iv s D cA n0 b k0 o.2 H locs → lvx n0 b ls (xM m) L' → H[q]? = some ce → ce.vm = .none → s.vm.findClass (excN E) = some ce.cls → vx_W p l e R s mid args below meth c H locs (mN o.2 + mX o.2 - k0) (ssum (mN o.2) + 6 * mX o.2 - d0) Q (F0 mid pc ls (st'.map (rv n0 b))) q) →
      Gd p l e R s mid args below meth c D cA n0 b k0 d0 m Q pc L st μ := by
  have hd : decode (cM m) pc = .ok (ins, len) := (I_ok hI).1
  have hc : chk m pc len ins aux = true := (I_ok hI).2.1
  have C0 := C
  obtain ⟨hx, hb, hml, hown, hts, hK, hn0, -, -, -, hV, -⟩ := C
  have hkk := kr_stp (xs := xs) (ins := ins) (n := pc + len) (aux := aux) (L := L) (st := st) (μ := μ)
  rw [hs] at hkk
  have hk : isCl ins := hkk
  clear hkk
  have hinv : ∀ {g gd : Bool} {y1 ml n1 : Nat} {as L1 r1 : List Value} {μ1 : Mem}, cl g gd y1 as ml n1 L1 r1 μ1 = some (true, .inr (.inr (.inr (.inr (.inr (y, Lc, n', L', st', μ')))))) → gd = true ∧ g = true ∧ y1 = y ∧ pad (argL as) ml = Lc ∧ n1 = n' ∧ L1 = L' ∧ r1 = st' ∧ μ1 = μ' := by
    intro g gd y1 ml n1 as L1 r1 μ1 h
    unfold cl at h
    obtain ⟨h1, h2⟩ := inv_bif h
    simp only [Option.some.injEq, Prod.mk.injEq, Sum.inr.injEq] at h2
    exact ⟨h1, h2.1, h2.2.1, h2.2.2.1, h2.2.2.2.1, h2.2.2.2.2.1, h2.2.2.2.2.2.1, h2.2.2.2.2.2.2⟩
  have gcs : ∀ {na ml : Nat} {as r : List Value}, gC na st as ml r = true → catL r ≤ 8 ∧ (argL as).length ≤ ml ∧ na ≤ st.length := by
    intro na ml as r h
    unfold gC at h
    simp only [Bool.and_eq_true] at h
    exact ⟨Nat.le_of_ble_eq_true h.1, Nat.le_of_ble_eq_true h.2.1, Nat.le_of_ble_eq_true h.2.2⟩
  have hroom : ∀ {pc : Nat} {ls : Array Slot} {r rest : List Value}, catL r ≤ 8 → 2 * (F0 mid pc ls rest).monitorRoom + ((r.map (rv n0 b)).map fun v => v.category).sum ≤ 8 := fun h => lv_room (by rw [cat_sum]; exact h)
  have frm : ∀ {y : Nat}, y < 209 → fM y < fM m → (rmY y 0 0).frames + 1 ≤ R.frames ∧ 8 + (xM y + 11) + (rmY y 0 0).locals ≤ R.locals := by
    intro y hy hlt
    have h1 := (okY_spec hy).2.2.2.2.2.2.2.2
    have := hF.1
    have := hF.2
    show fM y + 1 ≤ R.frames ∧ 8 + (xM y + 11) + 40 * fM y ≤ R.locals
    omega
  cases ins <;> first | exact hk.elim | skip
  case invokevirtual z =>
    unfold chk at hc; dsimp only at hc
    rw [Bool.and_eq_true, Bool.and_eq_true] at hc
    have hlen : len = 3 := Nat.eq_of_beq_eq_true hc.1
    subst hlen
    have h0 := Nat.eq_of_beq_eq_true hc.2.1
    have hc := hc.2.2
    have hs : sCall aux (pc + 3) L st μ = _ := hs
    have shape : ∃ y1 na wl ci ml r, aux = 0 :: y1 :: na :: wl :: ci :: ml :: r := by
      cases aux with
      | nil => cases hs
      | cons kd r => cases r with
        | nil => subst h0; cases hs
        | cons a1 r => cases r with
          | nil => subst h0; cases hs
          | cons a2 r => cases r with
            | nil => subst h0; cases hs
            | cons a3 r => cases r with
              | nil => subst h0; cases hs
              | cons a4 r => cases r with
                | nil => subst h0; cases hs
                | cons a5 r => exact ⟨a1, a2, a3, a4, a5, r, by rw [show kd = 0 from h0]⟩
    obtain ⟨y1, na, wl, ci, ml, r0, rfl⟩ := shape
    have hs : (match st.drop na with | .ref a :: r => cl (gO μ a ci) (gC na st (.ref a :: (st.take na).reverse) ml r) y1 (.ref a :: (st.take na).reverse) ml (pc + 3) L r μ | _ => none) = some (true, .inr (.inr (.inr (.inr (.inr (y, Lc, n', L', st', μ')))))) := hs
    split at hs
    · rename_i a r hdrop
      obtain ⟨q1, q2, q3, q4, q5, q6, q7, q8⟩ := hinv hs
      subst q3; subst q4; subst q5; subst q6; subst q7; subst q8
      have hc : (gw wl (.methodLink (ownM m) z (yM y1)) && (decide (xM y1 = ml) && (decide ((parseMethodDescriptor (yM y1).desc).map (fun d => d.parameters.length) = some na) && (Nat.blt (fM y1) (fM m) && (Nat.blt y1 209 && (Nat.beq (wM y1 4) 0 && (decide ((clsOf ci).1 = (yM y1).cls) && Nat.blt ci 4))))))) = true := hc
      simp only [Bool.and_eq_true, decide_eq_true_eq] at hc
      obtain ⟨w1, w2, w3, w4, w5, w6, w7, w8⟩ := hc
      have w4 := Nat.le_of_ble_eq_true w4
      have w5 := Nat.le_of_ble_eq_true w5
      have w6 := Nat.eq_of_beq_eq_true w6
      have w8 := Nat.le_of_ble_eq_true w8
      subst w2
      obtain ⟨c1, c2, c3⟩ := gcs q1
      obtain ⟨ha, hsh⟩ := gO_spec q2
      refine ⟨.ref a :: (st.take na).reverse, rfl, c2, w5, fun o hCt hg hR hct hk hx' H locs ls hi hl => ?_⟩
      obtain ⟨o1, o2, o3, o4, o5, o6, o7, o8, o9⟩ := okY_spec w5
      have hcode := hM_static y1 w5 (by rw [w6]; decide)
      have hws : wsY y1 = Cond.code (yM y1) (cM y1) (xM y1) (rM y1) :: lw_all := by unfold wsY; rw [hcode]
      have haN := Nat.lt_of_lt_of_le ha hi.1
      have hob := shp_obj a haN (by rw [hsh]; exact w8)
      have hget := wld_get' (n0 := n0) (b := b) (cA := cA) ha (cel_O hsh w8)
      have hst : st.map (rv n0 b) = (((st.take na).reverse).map (rv n0 b)).reverse ++ .ref (adr n0 b a) :: r.map (rv n0 b) := by
        rw [← List.map_reverse, List.reverse_reverse]
        conv => lhs; rw [← List.take_append_drop na st, hdrop, List.map_append, List.map_cons]
        rfl
      have hlen : (((st.take na).reverse).map (rv n0 b)).length = na := by rw [List.length_map, List.length_reverse, List.length_take]; omega
      have hfit : mN μ + mX μ - k0 + mcY μ o.2 ≤ R.cells ∧ ssum (mN μ) + 6 * mX μ - d0 + msY μ o.2 ≤ R.slots := by
        obtain ⟨z1, z2, -, -⟩ := cnt_after (k0 := k0) (d0 := d0) hg hk0 hd0
        rw [z1, z2]; exact ⟨hR.1, hR.2.1⟩
      refine fun T hT X => ?_
      have hsz := size_at hn0 hi hT X
      have hpre := wd_at C0 hi hsz
      obtain ⟨cell, r1, r2, r3⟩ := va_recv hK hi.2.1 (cls_at w8) hget
      refine call_go (as := (Value.ref (adr n0 b a) :: ((st.take na).reverse).map (rv n0 b)).toArray) (vx_runV (C := (clsOf ci).1) (b := adr n0 b a) (As := ((st.take na).reverse).map (rv n0 b)) (Pc := va_Pc ((Value.ref a :: (st.take na).reverse).map (rv n0 b)) (Wd D cA n0 b xs μ)) (Qc := QcY D cA n0 b o) (mc := mcY μ o.2) (ms := msY μ o.2) (n := na) (own := ownM m) (index := z) (y := yM y1) (bytes := cM y1) (maxL := xM y1) (ret := rM y1) (ws := wsY y1) (rm := rmY y1 (mcY μ o.2) (msY μ o.2)) (Ts := lw_all) ⟨hx, hb, hml, hown, hts⟩ hCt (cwV na hts (lw_goodIn ?_) hws rfl rfl ⟨w7.symm, o7, o8, w3⟩ (frm w5 w4)) ⟨wd_blind, ⟨cell, by rw [adr_lt haN]; exact r1, r2, r3⟩, fun U hU hW => ⟨rfl, hpre U hU hW⟩⟩ rfl hlen hl.1 hst (hroom c1) hd hfit) hi hl hg hk0 hd0 hk (fun E he h0 h4 H1 locs1 q ce hi1 h1 h2 h3 => hx' E he h0 h4 H1 locs1 ls q ce hi1 hl h1 h2 h3) T hT X
      intro w hw
      unfold wsV at hw
      rcases List.mem_append.mp hw with hw | hw
      · simp only [List.mem_cons, List.not_mem_nil, or_false] at hw
        rcases hw with rfl | rfl | rfl | rfl
        · exact gw_in w1
        · exact (o4 w6).1
        · rw [w7]; exact (o4 w6).2
        · rw [w7]; exact o3
      · exact o2 w hw
    · cases hs
  case invokestatic z =>
    unfold chk at hc; dsimp only at hc
    rw [Bool.and_eq_true, Bool.and_eq_true] at hc
    have hlen : len = 3 := Nat.eq_of_beq_eq_true hc.1
    subst hlen
    have hkind := hc.2.1
    have hc := hc.2.2
    have hs : sCall aux (pc + 3) L st μ = some (true, .inr (.inr (.inr (.inr (.inr (y, Lc, n', L', st', μ')))))) := hs
    have h0 : aux.getD 0 99 = 1 := by
      rw [Bool.or_eq_true, Bool.and_eq_true] at hkind
      rcases hkind with h | ⟨h1, h2⟩
      · exact Nat.eq_of_beq_eq_true h
      · exfalso
        have h1 := Nat.le_of_ble_eq_true h1
        have h2 := Nat.le_of_ble_eq_true h2
        cases aux with
        | nil => cases hs
        | cons kd r =>
          have h1 : 5 ≤ kd := h1
          have h2 : kd ≤ 5 := h2
          have : kd = 5 ∨ kd = 6 ∨ kd = 7 ∨ kd = 8 := by omega
          rcases this with rfl | rfl | rfl | rfl
          all_goals
            unfold sCall at hs
            split at hs
            all_goals first
              | (rename_i heq; cases heq; done)
              | (split at hs <;> first | (have hs := (inv_bif hs).2; unfold gg at hs; simp only [Option.some.injEq, Prod.mk.injEq, reduceCtorEq, and_false] at hs; done) | cases hs; done)
              | cases hs
    have shape : ∃ y1 na wl ci ml r, aux = 1 :: y1 :: na :: wl :: ci :: ml :: r := by
      cases aux with
      | nil => cases hs
      | cons kd r => cases r with
        | nil => subst h0; cases hs
        | cons a1 r => cases r with
          | nil => subst h0; cases hs
          | cons a2 r => cases r with
            | nil => subst h0; cases hs
            | cons a3 r => cases r with
              | nil => subst h0; cases hs
              | cons a4 r => cases r with
                | nil => subst h0; cases hs
                | cons a5 r => exact ⟨a1, a2, a3, a4, a5, r, by rw [show kd = 1 from h0]⟩
    obtain ⟨y1, na, wl, ci, ml, r0, rfl⟩ := shape
    have hs : cl true (gC na st (st.take na).reverse ml (st.drop na)) y1 (st.take na).reverse ml (pc + 3) L (st.drop na) μ = some (true, .inr (.inr (.inr (.inr (.inr (y, Lc, n', L', st', μ')))))) := hs
    obtain ⟨q1, q2, q3, q4, q5, q6, q7, q8⟩ := hinv hs
    subst q3; subst q4; subst q5; subst q6; subst q7; subst q8
    have hc : (gw wl (.methodLink (ownM m) z (yM y1)) && (decide (xM y1 = ml) && (decide ((parseMethodDescriptor (yM y1).desc).map (fun d => d.parameters.length) = some na) && (Nat.blt (fM y1) (fM m) && (Nat.blt y1 209 && Nat.beq (wM y1 4) 1))))) = true := hc
    simp only [Bool.and_eq_true, decide_eq_true_eq] at hc
    obtain ⟨w1, w2, w3, w4, w5, w6⟩ := hc
    have w4 := Nat.le_of_ble_eq_true w4
    have w5 := Nat.le_of_ble_eq_true w5
    have w6 := Nat.eq_of_beq_eq_true w6
    subst w2
    obtain ⟨c1, c2, c3⟩ := gcs q1
    refine ⟨(st.take na).reverse, rfl, c2, w5, fun o hCt hg hR hct hk hx' H locs ls hi hl => ?_⟩
    obtain ⟨o1, o2, o3, o4, o5, o6, o7, o8, o9⟩ := okY_spec w5
    have hst : st.map (rv n0 b) = (((st.take na).reverse).map (rv n0 b)).reverse ++ (st.drop na).map (rv n0 b) := by
      rw [← List.map_reverse, List.reverse_reverse]
      conv => lhs; rw [← List.take_append_drop na st, List.map_append]
    have hlen : (((st.take na).reverse).map (rv n0 b)).length = na := by rw [List.length_map, List.length_reverse, List.length_take]; omega
    have hfit : mN μ + mX μ - k0 + mcY μ o.2 ≤ R.cells ∧ ssum (mN μ) + 6 * mX μ - d0 + msY μ o.2 ≤ R.slots := by
      obtain ⟨z1, z2, -, -⟩ := cnt_after (k0 := k0) (d0 := d0) hg hk0 hd0
      rw [z1, z2]; exact ⟨hR.1, hR.2.1⟩
    have hgood : GoodIn lw_all (va_wsS (ownM m) z (yM y1) (wsY y1)) := by
      refine lw_goodIn fun w hw => ?_
      unfold va_wsS at hw
      rcases List.mem_append.mp hw with hw | hw
      · simp only [List.mem_cons, List.not_mem_nil, or_false] at hw
        rcases hw with rfl | rfl | rfl
        · exact gw_in w1
        · exact o5 w6
        · exact o3
      · exact o2 w hw
    refine fun T hT X => ?_
    have hsz := size_at hn0 hi hT X
    have hpre := wd_at C0 hi hsz
    cases hh : hM y1 with
    | nil =>
      have hws : wsY y1 = Cond.code (yM y1) (cM y1) (xM y1) (rM y1) :: lw_all := by unfold wsY; rw [hh]
      exact call_go (as := (((st.take na).reverse).map (rv n0 b)).toArray) (vx_runS (As := ((st.take na).reverse).map (rv n0 b)) (Pc := va_Pc (((st.take na).reverse).map (rv n0 b)) (Wd D cA n0 b xs μ)) (Qc := QcY D cA n0 b o) (mc := mcY μ o.2) (ms := msY μ o.2) (n := na) (own := ownM m) (index := z) (y := yM y1) (bytes := cM y1) (maxL := xM y1) (ret := rM y1) (ws := wsY y1) (rm := rmY y1 (mcY μ o.2) (msY μ o.2)) (Ts := lw_all) ⟨hx, hb, hml, hown, hts⟩ hCt (va_cwS na hts hgood hws rfl rfl ⟨o7, o8, w3⟩ (frm w5 w4)) ⟨wd_blind, fun U hU hW => ⟨rfl, hpre U hU hW⟩⟩ rfl hlen hl.1 hst (hroom c1) hd hfit) hi hl hg hk0 hd0 hk (fun E he h0 h4 H1 locs1 q ce hi1 h1 h2 h3 => hx' E he h0 h4 H1 locs1 ls q ce hi1 hl h1 h2 h3) T hT X
    | cons h1 hr =>
      have hws : wsY y1 = Cond.codeWith (yM y1) (cM y1) (xM y1) (rM y1) (h1 :: hr) :: lw_all := by unfold wsY; rw [hh]
      exact call_go (as := (((st.take na).reverse).map (rv n0 b)).toArray) (vx_runSX (As := ((st.take na).reverse).map (rv n0 b)) (Pc := va_Pc (((st.take na).reverse).map (rv n0 b)) (Wd D cA n0 b xs μ)) (Qc := QcY D cA n0 b o) (mc := mcY μ o.2) (ms := msY μ o.2) (n := na) (own := ownM m) (index := z) (y := yM y1) (bytes := cM y1) (maxL := xM y1) (ret := rM y1) (ws := wsY y1) (rm := rmY y1 (mcY μ o.2) (msY μ o.2)) (Ts := lw_all) ⟨hx, hb, hml, hown, hts⟩ hCt (vx_cwSW na hts hgood hws rfl rfl ⟨o7, o8, w3⟩ (frm w5 w4)) ⟨wd_blind, fun U hU hW => ⟨rfl, hpre U hU hW⟩⟩ rfl hlen hl.1 hst (hroom c1) hd hfit) hi hl hg hk0 hd0 hk (fun E he h0 h4 H1 locs1 q ce hi1 h1 h2 h3 => hx' E he h0 h4 H1 locs1 ls q ce hi1 hl h1 h2 h3) T hT X
  case invokespecial z =>
    unfold chk at hc; dsimp only at hc
    rw [Bool.and_eq_true, Bool.and_eq_true] at hc
    have hlen : len = 3 := Nat.eq_of_beq_eq_true hc.1
    subst hlen
    have hs : sCall aux (pc + 3) L st μ = some (true, .inr (.inr (.inr (.inr (.inr (y, Lc, n', L', st', μ')))))) := hs
    have hkind : aux.getD 0 99 = 2 ∨ aux.getD 0 99 = 4 := by
      cases aux with
      | nil => cases hs
      | cons kd r =>
        have h1 := hc.2.1
        simp only [Bool.false_or, Bool.and_eq_true, List.getD_cons_zero] at h1
        have h2 := Nat.le_of_ble_eq_true h1.1
        have h3 := Nat.le_of_ble_eq_true h1.2
        have : kd = 2 ∨ kd = 3 ∨ kd = 4 := by omega
        rcases this with rfl | rfl | rfl
        · exact Or.inl rfl
        · exfalso
          have hs : (match st with | .ref a :: r => g8 r (Nat.blt a (mN μ)) (pc + 3) L r μ | _ => none) = some (true, .inr (.inr (.inr (.inr (.inr (y, Lc, n', L', st', μ')))))) := hs
          split at hs
          · have hs := (inv_bif hs).2
            unfold gg at hs
            simp only [Option.some.injEq, Prod.mk.injEq, reduceCtorEq, and_false] at hs
          · cases hs
        · exact Or.inr rfl
    have hc := hc.2.2
    rcases hkind with h0 | h0
    · have shape : ∃ y1 na wl ci ml r, aux = 2 :: y1 :: na :: wl :: ci :: ml :: r := by
        cases aux with
        | nil => cases hs
        | cons kd r => cases r with
          | nil => subst h0; cases hs
          | cons a1 r => cases r with
            | nil => subst h0; cases hs
            | cons a2 r => cases r with
              | nil => subst h0; cases hs
              | cons a3 r => cases r with
                | nil => subst h0; cases hs
                | cons a4 r => cases r with
                  | nil => subst h0; cases hs
                  | cons a5 r => exact ⟨a1, a2, a3, a4, a5, r, by rw [show kd = 2 from h0]⟩
      obtain ⟨y1, na, wl, ci, ml, r0, rfl⟩ := shape
      have hs : (match st.drop na with | .ref a :: r => cl (gO μ a ci) (gC na st (.ref a :: (st.take na).reverse) ml r) y1 (.ref a :: (st.take na).reverse) ml (pc + 3) L r μ | _ => none) = some (true, .inr (.inr (.inr (.inr (.inr (y, Lc, n', L', st', μ')))))) := hs
      split at hs
      · rename_i a r hdrop
        obtain ⟨q1, q2, q3, q4, q5, q6, q7, q8⟩ := hinv hs
        subst q3; subst q4; subst q5; subst q6; subst q7; subst q8
        have hc : (gw wl (.methodLink (ownM m) z (yM y1)) && (decide (xM y1 = ml) && (decide ((parseMethodDescriptor (yM y1).desc).map (fun d => d.parameters.length) = some na) && (Nat.blt (fM y1) (fM m) && (Nat.blt y1 209 && (Nat.beq (wM y1 4) 2 && (decide ((clsOf ci).1 = (yM y1).cls) && Nat.blt ci 4))))))) = true := hc
        simp only [Bool.and_eq_true, decide_eq_true_eq] at hc
        obtain ⟨w1, w2, w3, w4, w5, w6, w7, w8⟩ := hc
        have w4 := Nat.le_of_ble_eq_true w4
        have w5 := Nat.le_of_ble_eq_true w5
        have w6 := Nat.eq_of_beq_eq_true w6
        have w8 := Nat.le_of_ble_eq_true w8
        subst w2
        obtain ⟨c1, c2, c3⟩ := gcs q1
        obtain ⟨ha, hsh⟩ := gO_spec q2
        refine ⟨.ref a :: (st.take na).reverse, rfl, c2, w5, fun o hCt hg hR hct hk hx' H locs ls hi hl => ?_⟩
        obtain ⟨o1, o2, o3, o4, o5, o6, o7, o8, o9⟩ := okY_spec w5
        have hcode := hM_static y1 w5 (by rw [w6]; decide)
        have hws : wsY y1 = Cond.code (yM y1) (cM y1) (xM y1) (rM y1) :: lw_all := by unfold wsY; rw [hcode]
        have haN := Nat.lt_of_lt_of_le ha hi.1
        have hob := shp_obj a haN (by rw [hsh]; exact w8)
        have hget := wld_get' (n0 := n0) (b := b) (cA := cA) ha (cel_O hsh w8)
        have hst : st.map (rv n0 b) = (((st.take na).reverse).map (rv n0 b)).reverse ++ .ref (adr n0 b a) :: r.map (rv n0 b) := by
          rw [← List.map_reverse, List.reverse_reverse]
          conv => lhs; rw [← List.take_append_drop na st, hdrop, List.map_append, List.map_cons]
          rfl
        have hlen : (((st.take na).reverse).map (rv n0 b)).length = na := by rw [List.length_map, List.length_reverse, List.length_take]; omega
        have hfit : mN μ + mX μ - k0 + mcY μ o.2 ≤ R.cells ∧ ssum (mN μ) + 6 * mX μ - d0 + msY μ o.2 ≤ R.slots := by
          obtain ⟨z1, z2, -, -⟩ := cnt_after (k0 := k0) (d0 := d0) hg hk0 hd0
          rw [z1, z2]; exact ⟨hR.1, hR.2.1⟩
        refine fun T hT X => ?_
        have hsz := size_at hn0 hi hT X
        have hpre := wd_at C0 hi hsz
        have hgood : GoodIn lw_all (wsY y1) := lw_goodIn o2
        exact init_go (as := (Value.ref (adr n0 b a) :: ((st.take na).reverse).map (rv n0 b)).toArray) (va_runI (b := adr n0 b a) (As := ((st.take na).reverse).map (rv n0 b)) (Pc := va_Pc ((Value.ref a :: (st.take na).reverse).map (rv n0 b)) (Wd D cA n0 b xs μ)) (Qc := QcY D cA n0 b o) (mc := mcY μ o.2) (ms := msY μ o.2) (n := na) (own := ownM m) (index := z) (y := yM y1) (bytes := cM y1) (maxL := xM y1) (ws := wsY y1) (rm := rmY y1 (mcY μ o.2) (msY μ o.2)) (Ts := lw_all) ⟨hx, hb, hml, hown, hts⟩ (met_of hCt (hct (init_ctor y1 w5 w6))) (cwI na hts hgood (by rw [hws, (o6 w6).2.2]) rfl rfl (hts _ o3) (in_code hts w1) (hts _ (o6 w6).1) (o6 w6).2.1 ⟨o7, o8, w3⟩ (frm w5 w4)) ⟨wd_blind, fun U hU hW => ⟨rfl, hpre U hU hW⟩⟩ rfl hlen hl.1 hst (hroom c1) hd hfit) hi hl hg hk0 hd0 hk T hT X
      · cases hs
    · have shape : ∃ y1 na wl ci ml r, aux = 4 :: y1 :: na :: wl :: ci :: ml :: r := by
        cases aux with
        | nil => cases hs
        | cons kd r => cases r with
          | nil => subst h0; cases hs
          | cons a1 r => cases r with
            | nil => subst h0; cases hs
            | cons a2 r => cases r with
              | nil => subst h0; cases hs
              | cons a3 r => cases r with
                | nil => subst h0; cases hs
                | cons a4 r => cases r with
                  | nil => subst h0; cases hs
                  | cons a5 r => exact ⟨a1, a2, a3, a4, a5, r, by rw [show kd = 4 from h0]⟩
      obtain ⟨y1, na, wl, ci, ml, r0, rfl⟩ := shape
      have hs : (match st.drop na with | .ref a :: r => cl (gO μ a ci) (gC na st (.ref a :: (st.take na).reverse) ml r) y1 (.ref a :: (st.take na).reverse) ml (pc + 3) L r μ | _ => none) = some (true, .inr (.inr (.inr (.inr (.inr (y, Lc, n', L', st', μ')))))) := hs
      split at hs
      · rename_i a r hdrop
        obtain ⟨q1, q2, q3, q4, q5, q6, q7, q8⟩ := hinv hs
        subst q3; subst q4; subst q5; subst q6; subst q7; subst q8
        have hc : (nw (.methodLinkNest (ownM m) z (yM y1) "AlibiWindow") && (decide (xM y1 = ml) && (decide ((parseMethodDescriptor (yM y1).desc).map (fun d => d.parameters.length) = some na) && (Nat.blt (fM y1) (fM m) && (Nat.blt y1 209 && (Nat.beq (wM y1 4) 2 && (decide ((clsOf ci).1 = (yM y1).cls) && Nat.blt ci 4))))))) = true := hc
        simp only [Bool.and_eq_true, decide_eq_true_eq] at hc
        obtain ⟨w1, w2, w3, w4, w5, w6, w7, w8⟩ := hc
        have w4 := Nat.le_of_ble_eq_true w4
        have w5 := Nat.le_of_ble_eq_true w5
        have w6 := Nat.eq_of_beq_eq_true w6
        have w8 := Nat.le_of_ble_eq_true w8
        subst w2
        obtain ⟨c1, c2, c3⟩ := gcs q1
        obtain ⟨ha, hsh⟩ := gO_spec q2
        refine ⟨.ref a :: (st.take na).reverse, rfl, c2, w5, fun o hCt hg hR hct hk hx' H locs ls hi hl => ?_⟩
        obtain ⟨o1, o2, o3, o4, o5, o6, o7, o8, o9⟩ := okY_spec w5
        have hcode := hM_static y1 w5 (by rw [w6]; decide)
        have hws : wsY y1 = Cond.code (yM y1) (cM y1) (xM y1) (rM y1) :: lw_all := by unfold wsY; rw [hcode]
        have haN := Nat.lt_of_lt_of_le ha hi.1
        have hob := shp_obj a haN (by rw [hsh]; exact w8)
        have hget := wld_get' (n0 := n0) (b := b) (cA := cA) ha (cel_O hsh w8)
        have hst : st.map (rv n0 b) = (((st.take na).reverse).map (rv n0 b)).reverse ++ .ref (adr n0 b a) :: r.map (rv n0 b) := by
          rw [← List.map_reverse, List.reverse_reverse]
          conv => lhs; rw [← List.take_append_drop na st, hdrop, List.map_append, List.map_cons]
          rfl
        have hlen : (((st.take na).reverse).map (rv n0 b)).length = na := by rw [List.length_map, List.length_reverse, List.length_take]; omega
        have hfit : mN μ + mX μ - k0 + mcY μ o.2 ≤ R.cells ∧ ssum (mN μ) + 6 * mX μ - d0 + msY μ o.2 ≤ R.slots := by
          obtain ⟨z1, z2, -, -⟩ := cnt_after (k0 := k0) (d0 := d0) hg hk0 hd0
          rw [z1, z2]; exact ⟨hR.1, hR.2.1⟩
        refine fun T hT X => ?_
        have hsz := size_at hn0 hi hT X
        have hpre := wd_at C0 hi hsz
        have hgood : GoodIn lw_all (wsY y1) := lw_goodIn o2
        have hnest : va_Nw (.methodLinkNest (ownM m) z (yM y1) "AlibiWindow") s := by
          unfold nw at w1
          exact hV.2.1 _ (of_decide_eq_true w1)
        exact init_go (as := (Value.ref (adr n0 b a) :: ((st.take na).reverse).map (rv n0 b)).toArray) (va_runIN (b := adr n0 b a) (As := ((st.take na).reverse).map (rv n0 b)) (Pc := va_Pc ((Value.ref a :: (st.take na).reverse).map (rv n0 b)) (Wd D cA n0 b xs μ)) (Qc := QcY D cA n0 b o) (mc := mcY μ o.2) (ms := msY μ o.2) (n := na) (own := ownM m) (index := z) (y := yM y1) (bytes := cM y1) (maxL := xM y1) (ws := wsY y1) (rm := rmY y1 (mcY μ o.2) (msY μ o.2)) (Ts := lw_all) ⟨hx, hb, hml, hown, hts⟩ (met_of hCt (hct (init_ctor y1 w5 w6))) ⟨va_cnB na hts hgood (by rw [hws, (o6 w6).2.2]) rfl rfl hnest (hts _ o3) ⟨o7, o8, w3⟩ (frm w5 w4), (o6 w6).2.1, hts _ (o6 w6).1⟩ ⟨wd_blind, fun U hU hW => ⟨rfl, hpre U hU hW⟩⟩ rfl hlen hl.1 hst (hroom c1) hd hfit) hi hl hg hk0 hd0 hk T hT X
      · cases hs
end Snd6
