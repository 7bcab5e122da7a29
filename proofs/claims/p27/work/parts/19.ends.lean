theorem char_nar {x : Int32} (h1 : 0 ≤ x) (h2 : x ≤ 65535) : narrow .char (.int x) = .int x := by
  rw [Int32.le_iff_toInt_le] at h1 h2
  have e0 : (0 : Int32).toInt = 0 := by decide
  have e1 : (65535 : Int32).toInt = 65535 := by decide
  rw [e0] at h1
  rw [e1] at h2
  have hx : x = nI x.toInt.toNat := by
    apply Int32.toInt_inj.mp
    show x.toInt = (Int32.ofNat x.toInt.toNat).toInt
    rw [Int32.toInt_ofNat_of_lt (by omega)]
    omega
  rw [hx]
  exact (pk_charN (by omega)).1
theorem bool_nar {x : Int32} (h : x = 0 ∨ x = 1) : narrow .boolean (.int x) = .int x := by
  rcases h with rfl | rfl
  · rfl
  · rfl
section Snd9
variable {p : Program} {l : Launch} {e : Env} {R : Room} {s : State} {mid : MethodId} {args : Array Value} {below : List Frame} {meth : Method} {c : Code} {D : va_G} {cA : Nat → ClassId} {n0 b k0 d0 : Nat} {xs : Scr} {m : Nat} {Q : State → Prop}
/-- the ends of a method -/
theorem end_ok (C : Cx p l s mid args meth c D cA n0 b xs m) {o : Out × Mem} {XC : String → State → State → Prop} : EndOK p l e R s mid args below meth c D cA n0 b k0 d0 xs m (vx_MQ below (QcY D cA n0 b o) XC args s (mN o.2 + mX o.2 - k0) (ssum (mN o.2) + 6 * mX o.2 - d0) (AA n0)) o := by
  obtain ⟨hx, hb, hml, hown, hts, hK, hn0, -, hlocks, -, -, -, -, hret⟩ := C
  intro pc len ins aux L st v H locs ls hI hs ho hi hl
  have hd : decode (cM m) pc = .ok (ins, len) := (I_ok hI).1
  have hc : chk m pc len ins aux = true := (I_ok hI).2.1
  have hkk := kr_stp (xs := xs) (ins := ins) (n := pc + len) (aux := aux) (L := L) (st := st) (μ := o.2)
  rw [hs] at hkk
  have hk : isRt ins := hkk
  clear hkk
  have hq : ∀ t : State, t.heap = H → s.WarmedH t.vm → QcY D cA n0 b o args s (.returned (v.map (rv n0 b))) t := fun t ht hW => ⟨v, ho, rfl, by rw [ht]; exact hi.2.1, hi.2.2.1.F ht⟩
  have hf := hi.2.2.1.2.2
  refine vx_ret ?_
  cases ins <;> first | exact hk.elim | skip
  case areturn =>
    unfold chk at hc; dsimp only at hc; rw [Bool.and_eq_true, decide_eq_true_eq] at hc
    have hlen : len = 1 := Nat.eq_of_beq_eq_true hc.1
    subst hlen
    unfold stp at hs; dsimp only at hs
    split at hs
    · simp only [Option.some.injEq, Prod.mk.injEq, true_and, Sum.inr.injEq, Sum.inl.injEq] at hs
      subst hs
      exact W.aret hx hb (by rw [hret]; exact hc.2) (Or.inl ⟨_, rfl⟩) (Or.inr ⟨_, rfl⟩) hq hf hd hlocks
    · cases hs
  case dreturn =>
    unfold chk at hc; dsimp only at hc; rw [Bool.and_eq_true, decide_eq_true_eq] at hc
    have hlen : len = 1 := Nat.eq_of_beq_eq_true hc.1
    subst hlen
    unfold stp at hs; dsimp only at hs
    split at hs
    · simp only [Option.some.injEq, Prod.mk.injEq, true_and, Sum.inr.injEq, Sum.inl.injEq] at hs
      subst hs
      exact W.dret hx hb (by rw [hret]; exact hc.2) hq hf hd hlocks
    · cases hs
  case freturn =>
    unfold chk at hc; dsimp only at hc; rw [Bool.and_eq_true, decide_eq_true_eq] at hc
    have hlen : len = 1 := Nat.eq_of_beq_eq_true hc.1
    subst hlen
    unfold stp at hs; dsimp only at hs
    split at hs
    · simp only [Option.some.injEq, Prod.mk.injEq, true_and, Sum.inr.injEq, Sum.inl.injEq] at hs
      subst hs
      exact W.fret hx hb (by rw [hret]; exact hc.2) hq hf hd hlocks
    · cases hs
  case ireturn =>
    unfold chk at hc; dsimp only at hc; rw [Bool.and_eq_true] at hc
    have hlen : len = 1 := Nat.eq_of_beq_eq_true hc.1
    subst hlen
    unfold stp at hs; dsimp only at hs
    split at hs
    · rename_i t r x
      simp only [Option.some.injEq, Prod.mk.injEq, Sum.inr.injEq, Sum.inl.injEq] at hs
      obtain ⟨hg, hv⟩ := hs
      subst hv
      have hc2 := hc.2
      match t, hg, hc2, hI with
      | 0, _, hc2, _ => exact W.iret hx hb (by rw [hret]; exact of_decide_eq_true hc2) hq hf hd hlocks
      | 1, hg, hc2, _ => exact W.zret hx hb (by rw [hret]; exact of_decide_eq_true hc2) (bool_nar (of_decide_eq_true hg)) hq hf hd hlocks
      | 2, hg, hc2, _ => exact W.zret hx hb (by rw [hret]; exact of_decide_eq_true hc2) (char_nar (of_decide_eq_true hg).1 (of_decide_eq_true hg).2) hq hf hd hlocks
      | k + 3, _, hc2, _ => cases hc2
    · cases hs
  case lreturn =>
    unfold chk at hc; dsimp only at hc; rw [Bool.and_eq_true, decide_eq_true_eq] at hc
    have hlen : len = 1 := Nat.eq_of_beq_eq_true hc.1
    subst hlen
    unfold stp at hs; dsimp only at hs
    split at hs
    · simp only [Option.some.injEq, Prod.mk.injEq, true_and, Sum.inr.injEq, Sum.inl.injEq] at hs
      subst hs
      exact W.lret hx hb (by rw [hret]; exact hc.2) hq hf hd hlocks
    · cases hs
  case return_ =>
    unfold chk at hc; dsimp only at hc; rw [Bool.and_eq_true, decide_eq_true_eq] at hc
    have hlen : len = 1 := Nat.eq_of_beq_eq_true hc.1
    subst hlen
    unfold stp at hs; dsimp only at hs
    split at hs
    · simp only [Option.some.injEq, Prod.mk.injEq, true_and, Sum.inr.injEq, Sum.inl.injEq] at hs
      subst hs
      exact W.vret hx hb (by rw [hret]; exact hc.2) hq hf hd hlocks
    · cases hs
/-- an exception that goes on to the caller -/
theorem prp_ok (C : Cx p l s mid args meth c D cA n0 b xs m) (hm : m < 210) {o : Out × Mem} {Qc : Array Value → State → Outcome → State → Prop} : PrpOK p l e R s mid args below meth c D cA n0 b k0 d0 xs m (vx_MQ below Qc (XcY D cA n0 b o) args s (mN o.2 + mX o.2 - k0) (ssum (mN o.2) + 6 * mX o.2 - d0) (AA n0)) o := by
  obtain ⟨hx, hb, hml, hown, hts, hK, hn0, -, hlocks, -, hV, -, htab, hret⟩ := C
  intro pc E st H locs ls q ce ho h0 h4 hh hi h1 h2 h3
  have hz := zc_find (pc := pc) (E := E) (m := m) hts (hV.2.2.2.2.2.2.1 E h0 h4) h0 h4 (hM m) (hRow m) (fun hne => hV.2.2.2.2.2.1 ⟨m, hne⟩) (zc_at hm)
  unfold hnd at hh
  cases hf : (hRow m).find? (fun r => Nat.ble r.2.1 pc && (Nat.blt pc r.2.2.1 && Nat.beq r.2.2.2.1 E)) with
  | some r1 => rw [hf] at hh; cases hh
  | none =>
    rw [hf] at hz
    exact vx_outP hown hlocks (by rw [htab]; exact hz) h1 h2 h3 (fun t ht _ => ⟨E, ho, h0, h4, rfl, by rw [ht]; exact hi.2.1, hi.2.2.1.F ht⟩) hi.2.2.1.2.2 (Nat.le_refl _) (Nat.le_refl _)
end Snd9
