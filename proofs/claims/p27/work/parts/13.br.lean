theorem ofNat_iff {x : Int32} {k : Nat} (h : (k : Int) < 2147483648) : x = Int32.ofNat k ↔ x.toInt = (k : Int) := by
  have h1 : (Int32.ofNat k).toInt = (k : Int) := Int32.toInt_ofNat_of_lt (by omega)
  constructor
  · intro q; rw [q, h1]
  · intro q; exact Int32.toInt_inj.mp (by rw [q, h1])
theorem swt_tab {pc d : Nat} {x : Int32} : ∀ (os : List Int) (ps : List Nat) (i : Int), tabOk pc i os ps = true → 0 ≤ i → i + os.length ≤ 2147483648 →
    ((x.toInt < i ∨ i + os.length ≤ x.toInt) → swt x d ps = d) ∧ ∀ (j : Nat) (o : Int), x.toInt = i + j → os[j]? = some o → (pc : Int) + o = ((swt x d ps : Nat) : Int) := by
  intro os
  induction os with
  | nil =>
    intro ps i h _ _
    cases ps with
    | nil => exact ⟨fun _ => rfl, fun j o _ h => by cases h⟩
    | cons a r => cases r <;> cases h
  | cons o os ih =>
    intro ps i h h0 hb
    cases ps with
    | nil => cases h
    | cons k ps => cases ps with
      | nil => cases h
      | cons t r =>
        unfold tabOk at h
        simp only [Bool.and_eq_true, decide_eq_true_eq] at h
        obtain ⟨hk, ht, hr⟩ := h
        rw [List.length_cons] at hb ⊢
        obtain ⟨i1, i2⟩ := ih r (i + 1) hr (by omega) (by omega)
        have hx := ofNat_iff (x := x) (k := k) (by omega)
        unfold swt
        by_cases hc : x = Int32.ofNat k
        · rw [decide_eq_true hc]
          have hxi := hx.mp hc
          refine ⟨fun q => by omega, fun j o' hj ho => ?_⟩
          have : j = 0 := by omega
          subst this
          cases ho
          exact ht
        · rw [decide_eq_false hc]
          have hxi : ¬ x.toInt = (k : Int) := fun q => hc (hx.mpr q)
          refine ⟨fun q => i1 (by omega), fun j o' hj ho => ?_⟩
          cases j with
          | zero => omega
          | succ j => exact i2 j o' (by omega) ho
theorem swt_look {pc d : Nat} {x : Int32} {dd : Int} (hd : (pc : Int) + dd = (d : Int)) : ∀ (os : List (Int × Int)) (ps : List Nat), lookOk pc os ps = true → os.all (fun q => decide (0 ≤ q.1 ∧ q.1 < 2147483648)) = true →
    (pc : Int) + Op.lookupswitch.offset os dd x.toInt = ((swt x d ps : Nat) : Int) := by
  intro os
  induction os with
  | nil =>
    intro ps h _
    cases ps with
    | nil => exact hd
    | cons a r => cases r <;> cases h
  | cons o os ih =>
    intro ps h hb
    cases ps with
    | nil => cases h
    | cons k ps => cases ps with
      | nil => cases h
      | cons t r =>
        unfold lookOk at h
        simp only [Bool.and_eq_true, decide_eq_true_eq] at h
        obtain ⟨hk, ht, hr⟩ := h
        rw [List.all_cons, Bool.and_eq_true, decide_eq_true_eq] at hb
        have hx := ofNat_iff (x := x) (k := k) (by omega)
        obtain ⟨o1, o2⟩ := o
        rw [Op.lookupswitch.offset_cons]
        unfold swt
        by_cases hc : x = Int32.ofNat k
        · rw [decide_eq_true hc, if_pos (by rw [hx.mp hc]; exact hk.symm)]
          exact ht
        · rw [decide_eq_false hc, if_neg (fun q => hc (hx.mpr (q.symm.trans hk.symm)))]
          exact ih r hr hb.2
section Snd5
variable {p : Program} {l : Launch} {e : Env} {R : Room} {s : State} {mid : MethodId} {args : Array Value} {below : List Frame} {meth : Method} {c : Code} {D : va_G} {cA : Nat → ClassId} {n0 b k0 d0 : Nat} {xs : Scr} {m : Nat} {Q : State → Prop}
theorem stp_br (C : Cx p l s mid args meth c D cA n0 b xs m) {pc len n' t : Nat} {bb : Bool} {ins : Instr} {aux : List Nat} {L st L' st' : List Value} {μ μ' : Mem} (hI : I m pc = some (ins, len, aux))
    (hs : stp xs ins (pc + len) aux L st μ = some (true, .inr (.inl (bb, t, n', L', st', μ')))) (k1 : bb = true → Gd p l e R s mid args below meth c D cA n0 b k0 d0 m Q t L' st' μ') (k2 : bb = false → Gd p l e R s mid args below meth c D cA n0 b k0 d0 m Q n' L' st' μ') : Gd p l e R s mid args below meth c D cA n0 b k0 d0 m Q pc L st μ := by
  have hd : decode (cM m) pc = .ok (ins, len) := (I_ok hI).1
  have hc : chk m pc len ins aux = true := (I_ok hI).2.1
  have hx := C.1
  have hb := C.2.1
  have hk := kr_stp (xs := xs) (ins := ins) (n := pc + len) (aux := aux) (L := L) (st := st) (μ := μ)
  rw [hs] at hk
  cases ins <;> first | exact hk.elim | skip
  case ifCond cc off =>
    unfold chk at hc; dsimp only at hc; rw [Bool.and_eq_true] at hc
    have hlen : len = 3 := Nat.eq_of_beq_eq_true hc.1
    subst hlen
    have ht := of_decide_eq_true hc.2
    unfold stp at hs
    dsimp only at hs
    split at hs
    · rename_i x r
      unfold br at hs
      simp only [Option.some.injEq, Prod.mk.injEq, true_and, Sum.inr.injEq, Sum.inl.injEq] at hs
      obtain ⟨e1, e2, e3, e4, e5, e6⟩ := hs
      subst e1; subst e2; subst e3; subst e4; subst e5; subst e6
      intro H locs ls hi hl
      cases cc
      · exact lv_if_eq hx hb hd ht (fun q => k1 (decide_eq_true q) H locs ls hi hl) (fun q => k2 (decide_eq_false q) H locs ls hi hl)
      · exact lv_if_ne hx hb hd ht (fun q => k1 (decide_eq_true q) H locs ls hi hl) (fun q => k2 (decide_eq_false (fun w => w q)) H locs ls hi hl)
      · exact lv_if_lt hx hb hd ht (fun q => k1 (decide_eq_true q) H locs ls hi hl) (fun q => k2 (decide_eq_false q) H locs ls hi hl)
      · exact lv_if_ge hx hb hd ht (fun q => k1 (decide_eq_true q) H locs ls hi hl) (fun q => k2 (decide_eq_false q) H locs ls hi hl)
      · exact lv_if_gt hx hb hd ht (fun q => k1 (decide_eq_true q) H locs ls hi hl) (fun q => k2 (decide_eq_false q) H locs ls hi hl)
      · exact lv_if_le hx hb hd ht (fun q => k1 (decide_eq_true q) H locs ls hi hl) (fun q => k2 (decide_eq_false q) H locs ls hi hl)
    · cases hs
  case if_icmp cc off =>
    unfold chk at hc; dsimp only at hc; rw [Bool.and_eq_true] at hc
    have hlen : len = 3 := Nat.eq_of_beq_eq_true hc.1
    subst hlen
    have ht := of_decide_eq_true hc.2
    unfold stp at hs
    dsimp only at hs
    split at hs
    · rename_i y x r
      unfold br at hs
      simp only [Option.some.injEq, Prod.mk.injEq, true_and, Sum.inr.injEq, Sum.inl.injEq] at hs
      obtain ⟨e1, e2, e3, e4, e5, e6⟩ := hs
      subst e1; subst e2; subst e3; subst e4; subst e5; subst e6
      intro H locs ls hi hl
      cases cc
      · exact lv_icmp_eq hx hb hd ht (fun q => k1 (decide_eq_true q) H locs ls hi hl) (fun q => k2 (decide_eq_false q) H locs ls hi hl)
      · exact lv_icmp_ne hx hb hd ht (fun q => k1 (decide_eq_true q) H locs ls hi hl) (fun q => k2 (decide_eq_false (fun w => w q)) H locs ls hi hl)
      · exact lv_icmp_lt hx hb hd ht (fun q => k1 (decide_eq_true q) H locs ls hi hl) (fun q => k2 (decide_eq_false q) H locs ls hi hl)
      · exact lv_icmp_ge hx hb hd ht (fun q => k1 (decide_eq_true q) H locs ls hi hl) (fun q => k2 (decide_eq_false q) H locs ls hi hl)
      · exact lv_icmp_gt hx hb hd ht (fun q => k1 (decide_eq_true q) H locs ls hi hl) (fun q => k2 (decide_eq_false q) H locs ls hi hl)
      · exact lv_icmp_le hx hb hd ht (fun q => k1 (decide_eq_true q) H locs ls hi hl) (fun q => k2 (decide_eq_false q) H locs ls hi hl)
    · cases hs
theorem stp_sw (C : Cx p l s mid args meth c D cA n0 b xs m) {pc len n' : Nat} {x : Int32} {ps : List Nat} {ins : Instr} {aux : List Nat} {L st L' st' : List Value} {μ μ' : Mem} (hI : I m pc = some (ins, len, aux))
    (hs : stp xs ins (pc + len) aux L st μ = some (true, .inr (.inr (.inl (x, ps, n', L', st', μ'))))) (k : Gd p l e R s mid args below meth c D cA n0 b k0 d0 m Q (swt x n' ps) L' st' μ') : Gd p l e R s mid args below meth c D cA n0 b k0 d0 m Q pc L st μ := by
  have hd : decode (cM m) pc = .ok (ins, len) := (I_ok hI).1
  have hc : chk m pc len ins aux = true := (I_ok hI).2.1
  have hx := C.1
  have hb := C.2.1
  have hk := kr_stp (xs := xs) (ins := ins) (n := pc + len) (aux := aux) (L := L) (st := st) (μ := μ)
  rw [hs] at hk
  cases ins <;> first | exact hk.elim | skip
  case tableswitch dd lo hi offs =>
    unfold chk at hc; dsimp only at hc
    simp only [Bool.and_eq_true, decide_eq_true_eq] at hc
    obtain ⟨h1, h2, h3, h4, h5⟩ := hc
    unfold stp at hs
    dsimp only at hs
    split at hs
    · simp only [Option.some.injEq, Prod.mk.injEq, true_and, Sum.inr.injEq, Sum.inl.injEq] at hs
      obtain ⟨e1, e2, e3, e4, e5, e6⟩ := hs
      subst e1; subst e2; subst e3; subst e4; subst e5; subst e6
      rename_i x r
      obtain ⟨i1, i2⟩ := swt_tab (x := x) (d := aux.getD 0 0) offs.toList aux.tail lo h5 h2 (by omega)
      intro H locs ls hiv hl
      by_cases hout : x.toInt < lo ∨ hi < x.toInt
      · rw [i1 (by omega)] at k
        exact lv_tableOut hx hb hd hout h1 (k H locs ls hiv hl)
      · have hj : x.toInt = lo + ((x.toInt - lo).toNat : Int) := by omega
        have hlt : (x.toInt - lo).toNat < offs.toList.length := by omega
        have ho : offs[(x.toInt - lo).toNat]? = some (offs.toList[(x.toInt - lo).toNat]) := by
          rw [← Array.getElem?_toList]; exact List.getElem?_eq_getElem hlt
        exact lv_tableIn hx hb hd (by omega) (by omega) ho (i2 _ _ hj (List.getElem?_eq_getElem hlt)) (k H locs ls hiv hl)
    · cases hs
  case lookupswitch dd pp =>
    unfold chk at hc; dsimp only at hc
    simp only [Bool.and_eq_true, decide_eq_true_eq] at hc
    obtain ⟨h1, h2, h3, h4⟩ := hc
    unfold stp at hs
    dsimp only at hs
    split at hs
    · simp only [Option.some.injEq, Prod.mk.injEq, true_and, Sum.inr.injEq, Sum.inl.injEq] at hs
      obtain ⟨e1, e2, e3, e4, e5, e6⟩ := hs
      subst e1; subst e2; subst e3; subst e4; subst e5; subst e6
      rename_i x r
      have := swt_look (x := x) h1 pp.toList aux.tail h4 h3
      intro H locs ls hiv hl
      exact lv_lookup hx hb hd h2 rfl this (k H locs ls hiv hl)
    · cases hs
end Snd5
