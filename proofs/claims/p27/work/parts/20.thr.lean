def thrI (E : Nat) : Nat := match E with | 1 => 186 | 2 => 46 | _ => 81
def okw (E : Nat) (w : Jvm.Cond) : Bool := match w with | .castable a c => decide (a = excN E) && decide (c = excN E) | .declares _ => true | _ => goodWord w
def thrOk (E : Nat) : Bool := (Cond.initialized (excN E) :: vx_atS RX4 (thrI E) (excN E) excP).all (fun w => vx_ot w && (decide (w ∈ lw_tbl) && okw E w)) && Bundle.fit (excN E)
theorem thr_o1 : thrOk 1 = true := by decide +kernel
theorem thr_o2 : thrOk 2 = true := by decide +kernel
theorem thr_o3 : thrOk 3 = true := by decide +kernel
theorem thr_o {E : Nat} (h0 : 0 < E) (h4 : E < 4) : thrOk E = true := by
  match E, h0, h4 with
  | 1, _, _ => exact thr_o1
  | 2, _, _ => exact thr_o2
  | 3, _, _ => exact thr_o3
theorem thr_fitP : ∀ n ∈ excP, Bundle.fit n = true := by decide +kernel
theorem thr_ot {m z E : Nat} : vx_ot (.classLink (ownM m) z (excN E)) = true := rfl
theorem cel_exc {n0 b : Nat} {cA : Nat → ClassId} {μ : Mem} : wld n0 b cA (excM μ) = wld n0 b cA μ := rfl
theorem chkThrow_spec {m pc idx E wl si ii ws : Nat} (h : chkThrow m pc idx E wl si ii ws = true) : gw wl (.classLink (ownM m) idx (excN E)) = true ∧ Nat.ble 6 (fM m) = true ∧ Nat.blt 0 E = true ∧ Nat.blt E 4 = true ∧ Nat.blt m 209 = true ∧ (hM m).isEmpty = true ∧ decode (cM m) (pc + 3) = .ok (.dup, 1) ∧ decode (cM m) (pc + 4) = .ok (.ldc si, 2) ∧ decode (cM m) (pc + 6) = .ok (.invokespecial ii, 3) ∧ decode (cM m) (pc + 9) = .ok (.athrow, 1) ∧ ownM m = RX4 ∧ Nat.beq ii (thrI E) = true ∧ (match lw_tbl[ws]? with | some (.stringRef o k _) => decide (o = ownM m) && decide (k = si) | _ => false) = true := by
  unfold chkThrow at h
  simp only [Bool.and_eq_true, decide_eq_true_eq, and_assoc] at h
  exact h
section Snd10
variable {p : Program} {l : Launch} {e : Env} {R : Room} {s : State} {mid : MethodId} {args : Array Value} {below : List Frame} {meth : Method} {c : Code} {D : va_G} {cA : Nat → ClassId} {n0 b k0 d0 : Nat} {xs : Scr} {m : Nat} {Q : State → Prop}
/-- a throw -/
theorem thr_ok (C : Cx p l s mid args meth c D cA n0 b xs m) (hF : fM m ≤ R.frames ∧ 40 * fM m ≤ R.locals) {o : Out × Mem} (hR : Rm R k0 d0 o.2) {Qc : Array Value → State → Outcome → State → Prop} : ThrOK p l e R s mid args below meth c D cA n0 b k0 d0 xs m (vx_MQ below Qc (XcY D cA n0 b o) args s (mN o.2 + mX o.2 - k0) (ssum (mN o.2) + 6 * mX o.2 - d0) (AA n0)) o := by
  obtain ⟨hx, hb, hml, hown, hts, hK, hn0, -, hlocks, hl, hV, -, htab, hret⟩ := C
  intro pc len ins aux L st E μ H locs ls hI hs ho hi hlv hk0 hd0
  have hd : decode (cM m) pc = .ok (ins, len) := (I_ok hI).1
  have hc : chk m pc len ins aux = true := (I_ok hI).2.1
  have hkk := kr_stp (xs := xs) (ins := ins) (n := pc + len) (aux := aux) (L := L) (st := st) (μ := μ)
  rw [hs] at hkk
  have hk : isNw ins := hkk
  clear hkk
  cases ins <;> first | exact hk.elim | skip
  case new z =>
    unfold chk at hc; dsimp only at hc; rw [Bool.and_eq_true] at hc
    have hlen : len = 3 := Nat.eq_of_beq_eq_true hc.1
    subst hlen
    have hc2 := hc.2
    clear hc
    unfold stp at hs; dsimp only at hs
    split at hs
    · rename_i E' r _
      obtain ⟨hcat, hs⟩ := inv_bif hs
      have hcat := Nat.le_of_ble_eq_true hcat
      simp only [Option.some.injEq, Prod.mk.injEq, Sum.inr.injEq, Sum.inl.injEq] at hs
      obtain ⟨-, hE⟩ := hs
      subst E
      split at hc2
      · rename_i E1 wl si ii ws r1 heq
        simp only [List.cons.injEq, true_and] at heq
        obtain ⟨hE1, hr1⟩ := heq
        subst r
        subst hr1
        obtain ⟨c1, c2, c3, c4, c5, c6, c7, c8, c9, c10, c11, c12, c13⟩ := chkThrow_spec hc2
        have c2 := Nat.le_of_ble_eq_true c2
        have c3 := Nat.le_of_ble_eq_true c3
        have c4 := Nat.le_of_ble_eq_true c4
        have c12 : ii = thrI E1 := Nat.eq_of_beq_eq_true c12
        have hht : hM m = [] := by
          cases hh : hM m with
          | nil => rfl
          | cons a q => rw [hh] at c6; cases c6
        have hto := thr_o c3 c4
        unfold thrOk at hto
        rw [Bool.and_eq_true] at hto
        obtain ⟨hto, hfit⟩ := hto
        have hall := List.all_eq_true.mp hto
        obtain ⟨t, ht⟩ : ∃ t, lw_tbl[ws]? = some (.stringRef RX4 si t) := by
          split at c13
          · rename_i o1 k1 t1 he
            rw [Bool.and_eq_true, decide_eq_true_eq, decide_eq_true_eq] at c13
            exact ⟨t1, by rw [he, c13.1, c13.2, c11]⟩
          · cases c13
        obtain ⟨sa, hsa⟩ := hV.2.2.2.2.1 ws si t ht
        have hbef : ∀ w ∈ Cond.initialized (excN E1) :: vx_atS RX4 (thrI E1) (excN E1) excP, w.before args s = true := by
          intro w hw
          have h1 := hall w hw
          simp only [Bool.and_eq_true, decide_eq_true_eq] at h1
          obtain ⟨-, h2, h3⟩ := h1
          by_cases hg : goodWord w = true
          · exact hts w (List.mem_filter.mpr ⟨h2, hg⟩)
          · unfold okw at h3
            split at h3
            · rw [Bool.and_eq_true, decide_eq_true_eq, decide_eq_true_eq] at h3
              rw [h3.1, h3.2]
              exact va_Nw.use rfl (hV.2.2.2.2.2.2.1 E1 c3 c4)
            · exact va_Nw.use rfl (hV.2.2.2.2.2.2.2 _ h2)
            · exact absurd h3 hg
        cases ho
        refine vx_throwS (A := AA n0) (own := ownM m) (cls := excN E1) (text := t) (names := excP) (ik := z) (is := si) (ic := ii) (sa := sa) hx hb hl hown hfit thr_fitP (in_code hts c1) (hbef _ List.mem_cons_self) (by rw [c11]; exact hsa) (fun w hw => hbef w (List.mem_cons_of_mem _ (by rw [c11, c12] at hw; exact hw))) (fun w hw => ?_) hV.2.2.1 hV.2.2.2.1 hi.2.2.1 (by rw [hml]; exact hlv.1) hd c7 c8 c9 c10 (fun x hx => by rw [htab, hht] at hx; cases hx) (by show 2 + 3 < R.frames; have := hF.1; omega) (by rw [cat_sum]; have := hF.2; show catL st + (13 * 3 + 43) ≤ R.locals; omega) ?_ ?_ hlocks (fun t1 ha hs1 hq => ⟨E1, rfl, c3, c4, rfl, ?_, ?_⟩) hi.2.2.1.2.2 ?_ ?_
        · rcases List.mem_cons.mp hw with rfl | hw
          · rfl
          · rw [c11, c12] at hw
            have h1 := hall w hw
            rw [Bool.and_eq_true] at h1
            exact h1.1
        · have := hR.1; rw [mN_excM, mX_excM] at this; omega
        · have := hR.2.1; rw [mN_excM, mX_excM] at this; omega
        · rw [cel_exc]
          exact va_P.kept hi.2.1 (fun k q hk => hq _ (hi.2.1 k q hk).lt)
        · refine ⟨Nat.le_trans hi.2.2.1.1 hs1, fun q h1 h2 => ?_⟩
          rw [hq q (Nat.lt_of_lt_of_le h1 hi.2.2.1.1)]
          exact hi.2.2.1.2.1 q h1 h2
        · rw [mN_excM, mX_excM]; omega
        · rw [mN_excM, mX_excM]; omega
      · rename_i heq
        simp only [List.cons.injEq] at heq
        rw [← heq.1, Bool.and_eq_true] at hc2
        exact absurd hc2.1 (by decide)
      · cases hc2
    · rename_i h9
      unfold gg at hs
      simp only [Option.some.injEq, Prod.mk.injEq, reduceCtorEq, and_false] at hs
    · cases hs
/-- every method keeps its contract -/
theorem ctr_run (hl : l.stackTraces = false) : ∀ (f y : Nat) (as : List Value) (μ : Mem) (o : Out × Mem), y < 209 → (argL as).length ≤ xM y → run xs f y 0 (pad (argL as) (xM y)) [] μ = some o → mN μ ≤ NN → Ctr l D cA n0 b xs y as μ o := by
  intro f
  induction f with
  | zero => intro y as μ o _ _ h; simp [run] at h
  | succ f ih =>
    intro y as μ o hy hlen h hN
    obtain ⟨o1, o2, -⟩ := okY_spec hy
    have ih' : ∀ (y : Nat) (as : List Value) (μ : Mem) (o : Out × Mem), y < 209 → (argL as).length ≤ xM y → run xs f y 0 (pad (argL as) (xM y)) [] μ = some o → mN μ ≤ NN → Ctr l D cA n0 b xs y as μ o := ih
    have body : ∀ (p : Program) (e : Env) (s : State) (mid : MethodId) (args : Array Value) (below : List Frame) (meth : Method) (c : Code) (s₁ : State), BodyLoose p l (yM y) (headSpec (wsY y) (rmY y (mcY μ o.2) (msY μ o.2))) (cM y) (xM y) (rM y) e s mid args below meth c s₁ → c.maxLocals = xM y → c.exceptionTable.toList = tableOf (hM y) → va_Pc (as.map (rv n0 b)) (Wd D cA n0 b xs μ) args s →
        W p l e (headSpec (wsY y) (rmY y (mcY μ o.2) (msY μ o.2))).room s mid args below meth c s.heap [] 0 0 (vx_MQ below (QcY D cA n0 b o) (XcY D cA n0 b o) args s (mcY μ o.2) (msY μ o.2) (AA n0)) (entryFrame mid args (xM y)) := by
      intro p e s mid args below meth c s₁ B hml htab hv
      obtain ⟨rfl, w1, w2, w3, w4, w5, w6⟩ := hv
      have hts : ∀ w ∈ wsY y, w.before _ s = true := atoms_spec (ws := wsY y) B.pre
      have C : Cx p l s mid (as.map (rv n0 b)).toArray meth c D cA n0 b xs y := ⟨B.exec, B.bytes, hml, findClass_of_methodNamed B.named, fun w hw => hts w (List.mem_cons_of_mem _ hw), w3, w4, (name_of_methodNamed B.named B.method).1, B.notSynchronized, hl, w5, fun _ => w5.1, htab, B.returns⟩
      have hF : fM y ≤ (rmY y (mcY μ o.2) (msY μ o.2)).frames ∧ 40 * fM y ≤ (rmY y (mcY μ o.2) (msY μ o.2)).locals := ⟨Nat.le_refl _, Nat.le_refl _⟩
      have hg := run_grow h hN
      have hR : Rm (rmY y (mcY μ o.2) (msY μ o.2)) (mN μ + mX μ) (ssum (mN μ) + 6 * mX μ) o.2 := ⟨Nat.le_refl _, Nat.le_refl _, by have := hg.1; have := hg.2.1; omega, by have := ssum_le hg.1; have := hg.2.1; omega⟩
      have hG := run_snd (R := rmY y (mcY μ o.2) (msY μ o.2)) (p := p) (e := e) (below := below) (k0 := mN μ + mX μ) (d0 := ssum (mN μ) + 6 * mX μ) (Q := vx_MQ below (QcY D cA n0 b o) (XcY D cA n0 b o) (as.map (rv n0 b)).toArray s (mN o.2 + mX o.2 - (mN μ + mX μ)) (ssum (mN o.2) + 6 * mX o.2 - (ssum (mN μ) + 6 * mX μ)) (AA n0)) ih' C (by omega) hF (Nat.le_refl _) h hN (Nat.le_refl _) (Nat.le_refl _) hR (end_ok C) (thr_ok C hF hR) (prp_ok C (by omega))
      rw [lg_entry_eq]
      have hW := hG s.heap [] _ ⟨w1, w2, va_S.rf, fun q => ⟨by rw [q]; exact w6 q, by rw [q]; exact Nat.le_refl _⟩⟩ (lvx_entry hlen)
      rw [Nat.sub_self, Nat.sub_self] at hW
      exact hW
    unfold Ctr
    cases hh : hM y with
    | nil => exact vy_ofW o1 (by unfold wsY; rw [hh]) (fun p e s mid args below meth c s₁ B h1 h2 h3 => body p e s mid args below meth c s₁ B h1 (by rw [h2, hh]; rfl) h3)
    | cons a q => exact vy_ofWH (hh := a :: q) o1 (by unfold wsY; rw [hh]) (fun p e s mid args below meth c s₁ B h1 h2 h3 => body p e s mid args below meth c s₁ B h1 (by rw [h2, hh]) h3)
end Snd10
