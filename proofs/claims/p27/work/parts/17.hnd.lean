/-! handlers: their rows, and what the tables say of them -/
def zc (m : Nat) : List (Nat × Nat × Nat × Nat) → List (Nat × Nat × Nat × Nat × Nat × Nat) → Bool
  | [], [] => true
  | h :: hs, r :: rs => Nat.beq h.1 r.2.1 && (Nat.beq h.2.1 r.2.2.1 && (!Nat.beq h.2.2.2 0 && (Nat.blt 0 r.2.2.2.1 && (Nat.blt r.2.2.2.1 4 && (hasW (.classLink (ownM m) h.2.2.2 (excN r.2.2.2.1)) && (true && (Nat.blt r.2.2.2.2.2 (xM m) && ((match I m h.2.2.1 with | some (.astore_n k, len, _) => Nat.beq k r.2.2.2.2.2 && Nat.beq (h.2.2.1 + len) r.2.2.2.2.1 | some (.astore k, len, _) => Nat.beq k r.2.2.2.2.2 && Nat.beq (h.2.2.1 + len) r.2.2.2.2.1 | _ => false) && zc m hs rs))))))))
  | _, _ => false
theorem zc_all : (List.range 210).all (fun m => zc m (hM m) (hRow m)) = true := by decide +kernel
theorem zc_at {m : Nat} (h : m < 210) : zc m (hM m) (hRow m) = true := List.all_eq_true.mp zc_all m (List.mem_range.mpr h)
theorem hasW_in {w : Jvm.Cond} (h : hasW w = true) : w ∈ lw_all := by
  unfold hasW at h
  rw [Bool.and_eq_true, decide_eq_true_eq] at h
  exact List.mem_filter.mpr h
theorem cov_iff {h : Nat × Nat × Nat × Nat} {pc : Nat} : covers ⟨h.1, h.2.1, h.2.2.1, h.2.2.2⟩ pc = (Nat.ble h.1 pc && Nat.blt pc h.2.1) := by
  unfold covers
  rw [Bool.eq_iff_iff]
  simp only [Bool.and_eq_true, decide_eq_true_eq]
  constructor
  · rintro ⟨h1, h2⟩; exact ⟨Nat.ble_eq_true_of_le h1, Nat.ble_eq_true_of_le h2⟩
  · rintro ⟨h1, h2⟩; exact ⟨Nat.le_of_ble_eq_true h1, Nat.le_of_ble_eq_true h2⟩
/-- the row that catches, or that none does -/
theorem zc_find {m pc E : Nat} {s : State} {args : Array Value} (hts : ∀ w ∈ lw_all, w.before args s = true) (hCa : va_Nw (.castable (excN E) (excN E)) s) (h0 : 0 < E) (h4 : E < 4) :
    ∀ (hs : List (Nat × Nat × Nat × Nat)) (rs : List (Nat × Nat × Nat × Nat × Nat × Nat)), (rs ≠ [] → ∀ E E' : Nat, 0 < E → E < 4 → 0 < E' → E' < 4 → E ≠ E' → va_Nc (excN E) (excN E') s) → zc m hs rs = true →
      (match rs.find? (fun r => Nat.ble r.2.1 pc && (Nat.blt pc r.2.2.1 && Nat.beq r.2.2.2.1 E)) with
      | none => ∀ z ∈ tableOf hs, covers z pc = false ∨ (z.catchType ≠ 0 ∧ ∃ nm : String, (Cond.classLink (ownM m) z.catchType nm).before args s = true ∧ va_Nc (excN E) nm s)
      | some r => ∃ (pre : List ExceptionTableEntry) (x : ExceptionTableEntry) (suf : List ExceptionTableEntry), tableOf hs = pre ++ x :: suf ∧ (∀ z ∈ pre, covers z pc = false ∨ (z.catchType ≠ 0 ∧ ∃ nm : String, (Cond.classLink (ownM m) z.catchType nm).before args s = true ∧ va_Nc (excN E) nm s)) ∧ covers x pc = true ∧ x.catchType ≠ 0 ∧ (Cond.classLink (ownM m) x.catchType (excN E)).before args s = true ∧ (Cond.castable (excN E) (excN E)).before args s = true ∧ r.2.2.2.2.2 < xM m ∧
          ∃ (len : Nat) (aux : List Nat), ((∃ k : Fin 4, (k : Nat) = r.2.2.2.2.2 ∧ I m x.handlerPc = some (.astore_n k, len, aux)) ∨ I m x.handlerPc = some (.astore r.2.2.2.2.2, len, aux)) ∧ x.handlerPc + len = r.2.2.2.2.1) := by
  intro hs
  induction hs with
  | nil =>
    intro rs hn h
    cases rs with
    | nil => exact fun z hz => by cases hz
    | cons r rs => cases h
  | cons h hs ih =>
    intro rs hn hz
    cases rs with
    | nil => cases hz
    | cons r rs =>
      have hNc := hn (by simp)
      unfold zc at hz
      simp only [Bool.and_eq_true, true_and] at hz
      obtain ⟨z1, z2, z3, z4, z5, z6, z8, z9, z10⟩ := hz
      have z1 := Nat.eq_of_beq_eq_true z1
      have z2 := Nat.eq_of_beq_eq_true z2
      have z3 : h.2.2.2 ≠ 0 := fun q => by rw [q] at z3; cases z3
      have z4 := Nat.le_of_ble_eq_true z4
      have z5 := Nat.le_of_ble_eq_true z5
      have z8 := Nat.le_of_ble_eq_true z8
      have ih := ih rs (fun _ => hNc) z10
      have hcov := cov_iff (h := h) (pc := pc)
      have htab : tableOf (h :: hs) = ⟨h.1, h.2.1, h.2.2.1, h.2.2.2⟩ :: tableOf hs := rfl
      rw [List.find?_cons]
      cases hb : (Nat.ble r.2.1 pc && (Nat.blt pc r.2.2.1 && Nat.beq r.2.2.2.1 E)) with
      | true =>
        dsimp only
        simp only [Bool.and_eq_true] at hb
        have hE := Nat.eq_of_beq_eq_true hb.2.2
        rw [htab]
        refine ⟨[], _, tableOf hs, rfl, (fun z hz => by cases hz), ?_, z3, ?_, ?_, z8, ?_⟩
        · rw [hcov, z1, z2, hb.1, hb.2.1, Bool.and_self]
        · rw [← hE]; exact hts _ (hasW_in z6)
        · exact va_Nw.use rfl hCa
        · cases hI : I m h.2.2.1 with
          | none => rw [hI] at z9; cases z9
          | some e =>
            obtain ⟨ins, len, aux⟩ := e
            rw [hI] at z9
            cases ins <;> first | (cases z9; done) | skip
            · dsimp only at z9
              rw [Bool.and_eq_true] at z9
              exact ⟨len, aux, Or.inr (by rw [← Nat.eq_of_beq_eq_true z9.1]), Nat.eq_of_beq_eq_true z9.2⟩
            · dsimp only at z9
              rw [Bool.and_eq_true] at z9
              exact ⟨len, aux, Or.inl ⟨_, Nat.eq_of_beq_eq_true z9.1, rfl⟩, Nat.eq_of_beq_eq_true z9.2⟩
      | false =>
        dsimp only
        have hpass : covers (⟨h.1, h.2.1, h.2.2.1, h.2.2.2⟩ : ExceptionTableEntry) pc = false ∨ ((⟨h.1, h.2.1, h.2.2.1, h.2.2.2⟩ : ExceptionTableEntry).catchType ≠ 0 ∧ ∃ nm : String, (Cond.classLink (ownM m) (⟨h.1, h.2.1, h.2.2.1, h.2.2.2⟩ : ExceptionTableEntry).catchType nm).before args s = true ∧ va_Nc (excN E) nm s) := by
          by_cases hc : covers (⟨h.1, h.2.1, h.2.2.1, h.2.2.2⟩ : ExceptionTableEntry) pc = true
          · refine Or.inr ⟨z3, excN r.2.2.2.1, hts _ (hasW_in z6), hNc E _ h0 h4 z4 z5 fun q => ?_⟩
            rw [hcov, z1, z2, Bool.and_eq_true] at hc
            rw [hc.1, hc.2, ← q] at hb
            simp at hb
          · exact Or.inl (by simpa using hc)
        rw [htab]
        cases hf : rs.find? (fun r => Nat.ble r.2.1 pc && (Nat.blt pc r.2.2.1 && Nat.beq r.2.2.2.1 E)) with
        | none =>
          rw [hf] at ih
          exact fun z hz => (List.mem_cons.mp hz).elim (fun q => q ▸ hpass) (ih z)
        | some r1 =>
          rw [hf] at ih
          obtain ⟨pre, x, suf, e1, e2, e3⟩ := ih
          exact ⟨_ :: pre, x, suf, by rw [e1]; rfl, fun z hz => (List.mem_cons.mp hz).elim (fun q => q ▸ hpass) (e2 z), e3⟩
theorem lvx_drop {n0 b n : Nat} {ls ls' : Array Slot} {L : List Value} {i : Nat} {x : Value} (h : lvx n0 b ls n L) (h' : lv_has ls' n ((i, x) :: (asl n0 b L).filter (fun q => !(q.1 == i) && !(q.1 + 1 == i && q.2.category == 2)))) : lvx n0 b ls' n (st1 L i .null) := by
  refine ⟨h'.1, by rw [st1_len]; exact h.2.1, h'.2.1, fun j w hj hw => ?_⟩
  rcases st1_get hj hw with ⟨rfl, rfl⟩ | ⟨h1, h2, h3⟩
  · exact absurd rfl hw
  · refine h'.2.2 (j, rv n0 b w) (List.mem_cons_of_mem _ (List.mem_filter.mpr ⟨asl_mem.mpr ⟨w, h2, hw, rfl⟩, ?_⟩))
    simp only [Bool.and_eq_true, Bool.not_eq_true', beq_eq_false_iff_ne, ne_eq, Bool.and_eq_false_iff, rv_cat]
    refine ⟨h1, ?_⟩
    by_cases hh : j + 1 = i
    · exact Or.inr fun q => h3 ⟨hh, q⟩
    · exact Or.inl hh
section Snd7
variable {p : Program} {l : Launch} {e : Env} {R : Room} {s : State} {mid : MethodId} {args : Array Value} {below : List Frame} {meth : Method} {c : Code} {D : va_G} {cA : Nat → ClassId} {n0 b k0 d0 : Nat} {xs : Scr} {m : Nat} {Q : State → Prop}
/-- an exception that is caught here -/
theorem catch_go (C : Cx p l s mid args meth c D cA n0 b xs m) (hm : m < 210) {pc E p' kk : Nat} {L r : List Value} {μ : Mem} {H : Heap} {locs : List Loc} {ls : Array Slot} {q : Addr} {ce : Cell} (hh : hnd m pc E = some (p', kk)) (h0 : 0 < E) (h4 : E < 4) (hi : Iv s D cA n0 b k0 μ H locs) (hl : lvx n0 b ls (xM m) L) (h1 : H[q]? = some ce) (h2 : ce.vm = .none) (h3 : s.vm.findClass (excN E) = some ce.cls) (k : Gd p l e R s mid args below meth c D cA n0 b k0 d0 m Q p' (st1 L kk .null) [] μ) :
    vx_W p l e R s mid args below meth c H locs (mN μ + mX μ - k0) (ssum (mN μ) + 6 * mX μ - d0) Q (F0 mid pc ls (r.map (rv n0 b))) q := by
  obtain ⟨hx, hb, hml, hown, hts, hK, hn0, -, -, -, hV, -, htab, -⟩ := C
  have hz := zc_find (pc := pc) (E := E) (m := m) hts (hV.2.2.2.2.2.2.1 E h0 h4) h0 h4 (hM m) (hRow m) (fun hne => hV.2.2.2.2.2.1 ⟨m, hne⟩) (zc_at hm)
  unfold hnd at hh
  cases hf : (hRow m).find? (fun r => Nat.ble r.2.1 pc && (Nat.blt pc r.2.2.1 && Nat.beq r.2.2.2.1 E)) with
  | none => rw [hf] at hh; cases hh
  | some r1 =>
    rw [hf] at hh hz
    cases hh
    obtain ⟨pre, x, suf, e1, e2, e3, e4, e5, e6, e7, len, aux, e8, e9⟩ := hz
    refine vx_catch hown pre x suf (by rw [htab]; exact e1) e2 e3 e4 e5 e6 h1 h2 h3 ?_
    rcases e8 with ⟨kf, hkf, hI⟩ | hI
    · have hd : decode (cM m) x.handlerPc = .ok (.astore_n kf, len) := (I_ok hI).1
      have hc : chk m x.handlerPc len (.astore_n kf) aux = true := (I_ok hI).2.1
      unfold chk at hc; dsimp only at hc; rw [Bool.and_eq_true] at hc
      have hlen : len = 1 := Nat.eq_of_beq_eq_true hc.1
      subst hlen
      refine lv_astore_n hx hb hd hkf (lvx_has hl) e7 rfl (fun ls' h' => ?_)
      have := k H locs ls' hi (lvx_drop hl h')
      rw [← e9] at this
      exact this
    · have hd : decode (cM m) x.handlerPc = .ok (.astore r1.2.2.2.2.2, len) := (I_ok hI).1
      have hc : chk m x.handlerPc len (.astore r1.2.2.2.2.2) aux = true := (I_ok hI).2.1
      unfold chk at hc; dsimp only at hc; rw [Bool.and_eq_true] at hc
      have hlen : len = 2 := Nat.eq_of_beq_eq_true hc.1
      subst hlen
      refine lv_astore hx hb hd (lvx_has hl) e7 rfl (fun ls' h' => ?_)
      have := k H locs ls' hi (lvx_drop hl h')
      rw [← e9] at this
      exact this
end Snd7
