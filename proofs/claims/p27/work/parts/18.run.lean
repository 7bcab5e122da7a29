section Snd8
variable {p : Program} {l : Launch} {e : Env} {R : Room} {s : State} {mid : MethodId} {args : Array Value} {below : List Frame} {meth : Method} {c : Code} {D : va_G} {cA : Nat → ClassId} {n0 b k0 d0 : Nat} {xs : Scr} {m : Nat} {Q : State → Prop}
def EndOK (p : Program) (l : Launch) (e : Env) (R : Room) (s : State) (mid : MethodId) (args : Array Value) (below : List Frame) (meth : Method) (c : Code) (D : va_G) (cA : Nat → ClassId) (n0 b k0 d0 : Nat) (xs : Scr) (m : Nat) (Q : State → Prop) (o : Out × Mem) : Prop :=
  ∀ (pc len : Nat) (ins : Instr) (aux : List Nat) (L st : List Value) (v : Option Value) (H : Heap) (locs : List Loc) (ls : Array Slot), I m pc = some (ins, len, aux) → stp xs ins (pc + len) aux L st o.2 = some (true, .inr (.inr (.inr (.inl v)))) → o.1 = .inl v → Iv s D cA n0 b k0 o.2 H locs → lvx n0 b ls (xM m) L → W p l e R s mid args below meth c H locs (mN o.2 + mX o.2 - k0) (ssum (mN o.2) + 6 * mX o.2 - d0) Q (F0 mid pc ls (st.map (rv n0 b)))
def ThrOK (p : Program) (l : Launch) (e : Env) (R : Room) (s : State) (mid : MethodId) (args : Array Value) (below : List Frame) (meth : Method) (c : Code) (D : va_G) (cA : Nat → ClassId) (n0 b k0 d0 : Nat) (xs : Scr) (m : Nat) (Q : State → Prop) (o : Out × Mem) : Prop :=
  ∀ (pc len : Nat) (ins : Instr) (aux : List Nat) (L st : List Value) (E : Nat) (μ : Mem) (H : Heap) (locs : List Loc) (ls : Array Slot), I m pc = some (ins, len, aux) → stp xs ins (pc + len) aux L st μ = some (true, .inr (.inr (.inr (.inr (.inl E))))) → o = (.inr E, excM μ) → Iv s D cA n0 b k0 μ H locs → lvx n0 b ls (xM m) L → k0 ≤ mN μ + mX μ → d0 ≤ ssum (mN μ) + 6 * mX μ → W p l e R s mid args below meth c H locs (mN μ + mX μ - k0) (ssum (mN μ) + 6 * mX μ - d0) Q (F0 mid pc ls (st.map (rv n0 b)))
def PrpOK (p : Program) (l : Launch) (e : Env) (R : Room) (s : State) (mid : MethodId) (args : Array Value) (below : List Frame) (meth : Method) (c : Code) (D : va_G) (cA : Nat → ClassId) (n0 b k0 d0 : Nat) (xs : Scr) (m : Nat) (Q : State → Prop) (o : Out × Mem) : Prop :=
  ∀ (pc E : Nat) (st : List Value) (H : Heap) (locs : List Loc) (ls : Array Slot) (q : Addr) (ce : Cell), o.1 = .inr E → 0 < E → E < 4 → hnd m pc E = none → Iv s D cA n0 b k0 o.2 H locs → H[q]? = some ce → ce.vm = .none → s.vm.findClass (excN E) = some ce.cls → vx_W p l e R s mid args below meth c H locs (mN o.2 + mX o.2 - k0) (ssum (mN o.2) + 6 * mX o.2 - d0) Q (F0 mid pc ls (st.map (rv n0 b))) q
/-- a run whose callees keep their contracts -/
theorem run_snd {f : Nat} (ihc : ∀ (y : Nat) (as : List Value) (μ : Mem) (o : Out × Mem), y < 209 → (argL as).length ≤ xM y → run xs f y 0 (pad (argL as) (xM y)) [] μ = some o → mN μ ≤ NN → Ctr l D cA n0 b xs y as μ o) (C : Cx p l s mid args meth c D cA n0 b xs m) (hm : m < 210) (hF : fM m ≤ R.frames ∧ 40 * fM m ≤ R.locals) :
    ∀ {f' pc : Nat} {L st : List Value} {μ : Mem} {o : Out × Mem}, f' ≤ f + 1 → run xs f' m pc L st μ = some o → mN μ ≤ NN → k0 ≤ mN μ + mX μ → d0 ≤ ssum (mN μ) + 6 * mX μ → Rm R k0 d0 o.2 → EndOK p l e R s mid args below meth c D cA n0 b k0 d0 xs m Q o → ThrOK p l e R s mid args below meth c D cA n0 b k0 d0 xs m Q o → PrpOK p l e R s mid args below meth c D cA n0 b k0 d0 xs m Q o → Gd p l e R s mid args below meth c D cA n0 b k0 d0 m Q pc L st μ := by
  intro f'
  induction f' with
  | zero => intro pc L st μ o _ h; simp [run] at h
  | succ f' ih =>
    intro pc L st μ o hle h hN hk0 hd0 hR hE hT hPr
    have hle' : f' ≤ f + 1 := by omega
    have hgr := gq_step (xs := xs) (m := m) (pc := pc) (L := L) (st := st) (μ := μ)
    have hgw := run_grow h hN
    rw [run] at h
    cases hI : I m pc with
    | none => unfold step at h; rw [hI] at h; simp at h
    | some en =>
      obtain ⟨ins, len, aux⟩ := en
      have hstep : step xs m pc L st μ = stp xs ins (pc + len) aux L st μ := by unfold step; rw [hI]
      rw [hstep] at h hgr
      have mono : ∀ {μ' : Mem}, grw μ μ' → k0 ≤ mN μ' + mX μ' ∧ d0 ≤ ssum (mN μ') + 6 * mX μ' ∧ mN μ' ≤ NN := by
        rintro μ' ⟨a1, a2⟩
        rcases a2 with a2 | ⟨a2, a3, -⟩
        · rw [a1, a2]; exact ⟨hk0, hd0, hN⟩
        · rw [a1, a2]
          have : ssum (mN μ + 1) = ssum (mN μ) + (shp (mN μ)).2 := rfl
          exact ⟨by omega, by omega, a3⟩
      cases hs : stp xs ins (pc + len) aux L st μ with
      | none => rw [hs] at h; simp at h
      | some q =>
        obtain ⟨g, r⟩ := q
        rw [hs] at h hgr
        cases g with
        | false => simp at h
        | true =>
          simp only [cond_true] at h
          have hgr := hgr rfl
          rcases r with ⟨n, L', s', μ'⟩ | ⟨bb, t, n, L', s', μ'⟩ | ⟨x, ps, d, L', s', μ'⟩ | v | E | ⟨y, Lc, n, L', s', μ'⟩
          · have hgr : grw μ μ' := hgr
            obtain ⟨m1, m2, m3⟩ := mono hgr
            have hgw' := run_grow h m3
            refine stp_go C hI hs ?_ hk0 hd0 hF (ih hle' h m3 m1 m2 hR hE hT hPr)
            have := ssum_le hgw'.1
            exact ⟨by have := hR.1; have := hgw'.1; have := hgw'.2.1; omega, by have := hR.2.1; have := hgw'.1; have := hgw'.2.1; omega, m1, m2⟩
          · have hgr : grw μ μ' := hgr
            obtain ⟨m1, m2, m3⟩ := mono hgr
            refine stp_br C hI hs (fun hb => ?_) (fun hb => ?_)
            · rw [hb] at h; exact ih hle' h m3 m1 m2 hR hE hT hPr
            · rw [hb] at h; exact ih hle' h m3 m1 m2 hR hE hT hPr
          · have hgr : grw μ μ' := hgr
            obtain ⟨m1, m2, m3⟩ := mono hgr
            exact stp_sw C hI hs (ih hle' h m3 m1 m2 hR hE hT hPr)
          · cases h
            exact fun H locs ls hi hl => hE pc len ins aux L st v H locs ls hI hs rfl hi hl
          · cases h
            exact fun H locs ls hi hl => hT pc len ins aux L st E μ H locs ls hI hs rfl hi hl hk0 hd0
          · dsimp only at h hgr
            obtain ⟨m1, m2, m3⟩ := mono hgr
            obtain ⟨as, hLc, hlen, hy, key⟩ := stp_call C hI hs hF m1 m2
            subst hLc
            cases hc : run xs f' y 0 (pad (argL as) (xM y)) [] μ' with
            | none => rw [hc] at h; simp at h
            | some q =>
              obtain ⟨ov, μ2⟩ := q
              rw [hc] at h
              have hg2 := run_grow hc m3
              have hg2' : Gr μ' μ2 := hg2
              obtain ⟨-, -, n1, n2⟩ := cnt_after (k0 := k0) (d0 := d0) hg2' m1 m2
              have hR2 : mN μ2 ≤ mN o.2 → mX μ2 ≤ mX o.2 → Rm R k0 d0 μ2 := by
                intro b1 b2
                have := ssum_le b1
                exact ⟨by have := hR.1; omega, by have := hR.2.1; omega, n1, n2⟩
              have hct := ihc y as μ' (ov, μ2) hy hlen (run_le (by omega) hc) m3
              cases ov with
              | inl v =>
                have h : run xs f' m n L' (v.toList ++ s') μ2 = some o := h
                have hg3 := run_grow h hg2.2.2.1
                refine key (.inl v, μ2) hct hg2' (hR2 hg3.1 hg3.2.1) (fun _ E hE => by cases hE) (fun v' hv => ?_) (fun E hE => by cases hE)
                cases hv
                exact ih hle' h hg2.2.2.1 n1 n2 hR hE hT hPr
              | inr E =>
                have h : (match hnd m pc E with | none => some (.inr E, μ2) | some (p', k) => run xs f' m p' (st1 L' k .null) [] μ2) = some o := h
                cases hh : hnd m pc E with
                | none =>
                  rw [hh] at h
                  cases h
                  exact key (.inr E, μ2) hct hg2' (hR2 (Nat.le_refl _) (Nat.le_refl _)) (fun hc1 E' _ => run_ctor hc1 hc) (fun v hv => by cases hv) (fun E' hE' h0 h4 H locs ls q ce hi hl h1 h2 h3 => by
                    cases hE'
                    exact hPr pc E s' H locs ls q ce rfl h0 h4 hh hi h1 h2 h3)
                | some z =>
                  obtain ⟨p', kk⟩ := z
                  rw [hh] at h
                  have h : run xs f' m p' (st1 L' kk .null) [] μ2 = some o := h
                  have hg3 := run_grow h hg2.2.2.1
                  exact key (.inr E, μ2) hct hg2' (hR2 hg3.1 hg3.2.1) (fun hc1 E' _ => run_ctor hc1 hc) (fun v hv => by cases hv) (fun E' hE' h0 h4 H locs ls q ce hi hl h1 h2 h3 => by
                    cases hE'
                    exact catch_go C hm hh h0 h4 hi hl h1 h2 h3 (ih hle' h hg2.2.2.1 n1 n2 hR hE hT hPr))
end Snd8
