/-! load, of both -/
theorem txV_5 {tl : Nat × Zt} {s k v : Nat} {g K T P O N : Int32} (h : TxV tl 5 s k v g K T P O N) (hn : txD (txC tl k) = false) : v = 4 ∧ TxR tl s K T P O N := by
  obtain ⟨rfl, hR, rfl, rfl, rfl, rfl, ⟨rfl, eD, e48, rfl, rfl⟩ | ⟨rfl, h45, eD, e48, rfl, rfl⟩⟩ := h
  · exact ⟨rfl, TxR_set hR (Or.inr eD) rfl rfl rfl rfl (by rw [txV_p eD, txM_1 hn]) (ok_1 eD).1⟩
  · exact ⟨rfl, TxR_set hR (Or.inl h45) rfl rfl rfl rfl (by rw [txV_m h45, txM_1 hn]) (ok_1 eD).2⟩
/-- all has been read -/
theorem TxT.fin {tl : Nat × Zt} {I : In2} (h : TxT tl I tl.1) (hF : txF tl = true) : ∃ v, I 245 11 = nI (txK tl tl.1) ∧ I 245 13 = nI v ∧ (v = 4 ∨ v = 5 ∨ v = 30) ∧ ∀ i, i ≤ txK tl tl.1 → TxR tl (txB tl i) (I 250 i) (I 251 i) (I 252 i) (I 253 i) (I 254 i) := by
  obtain ⟨t1, t2, t3, t4, ⟨v, g, K, T, P, O, N, hM, hV⟩, t6⟩ := h
  have hn : txD (txC tl tl.1) = false := by rw [txC_0 (by omega)]; rfl
  have hR : (v = 4 ∨ v = 5 ∨ v = 30) ∧ TxR tl (txB tl (txK tl tl.1)) K T P O N := by
    unfold txF at hF
    rw [Bool.or_eq_true] at hF
    rcases hF with e | e
    · have e := of_decide_eq_true e
      rw [e] at hV
      have := txV_5 hV hn
      exact ⟨Or.inl this.1, this.2⟩
    · have e := of_decide_eq_true e
      rw [e] at hV
      obtain ⟨-, hv, hr⟩ := hV
      refine ⟨?_, hr hn⟩
      rcases hv with h | h | h
      · exact Or.inl h.1
      · exact Or.inr (Or.inl h)
      · exact Or.inr (Or.inr h)
  obtain ⟨h11, h13, h12, hK, hT, hP, hO, hN⟩ := hM
  refine ⟨v, h11, h13, hR.1, fun i hi => ?_⟩
  by_cases e : i = txK tl tl.1
  · rw [e, hK, hT, hP, hO, hN]; exact hR.2
  · exact t6 i (by omega)
theorem TxT.not {tl : Nat × Zt} {I : In2} (h : TxT tl I tl.1) (hF : txF tl = false) : ∃ v, I 245 13 = nI v ∧ v < 31 ∧ ¬ v = 4 ∧ ¬ v = 5 ∧ ¬ v = 30 := by
  obtain ⟨t1, t2, t3, t4, ⟨v, g, K, T, P, O, N, hM, hV⟩, t6⟩ := h
  refine ⟨v, hM.2.1, ?_⟩
  unfold txF at hF
  rw [Bool.or_eq_false_iff] at hF
  have e5 := of_decide_eq_false hF.1
  have e6 := of_decide_eq_false hF.2
  have hs := txS_lt (tl := tl) (k := tl.1)
  generalize txS tl tl.1 = st at *
  obtain rfl | rfl | rfl | rfl | rfl | rfl | rfl | rfl | rfl | rfl | rfl | rfl | rfl | rfl : st = 0 ∨ st = 1 ∨ st = 2 ∨ st = 3 ∨ st = 4 ∨ st = 7 ∨ st = 8 ∨ st = 9 ∨ st = 10 ∨ st = 11 ∨ st = 12 ∨ st = 13 ∨ st = 14 ∨ st = 15 := by omega
  · exact hV.elim
  · obtain ⟨-, rfl⟩ := hV; decide
  · obtain ⟨-, rfl, -⟩ := hV; decide
  · obtain ⟨-, rfl, -⟩ := hV; decide
  · obtain ⟨-, rfl, -⟩ := hV; decide
  · obtain ⟨-, rfl, -⟩ := hV; decide
  · obtain ⟨-, rfl, -⟩ | ⟨-, rfl, -⟩ := hV <;> decide
  · obtain ⟨-, rfl, -⟩ := hV; decide
  · obtain ⟨-, rfl, -⟩ := hV; decide
  · obtain ⟨-, rfl, -⟩ := hV; decide
  · obtain ⟨-, rfl, -⟩ := hV; decide
  · obtain ⟨-, rfl, -⟩ := hV; decide
  · obtain ⟨-, rfl, -⟩ := hV; decide
  · obtain ⟨-, rfl, -⟩ := hV; decide
def lay5 (z : Zt) (i : Nat) (w : Nat → Int32) : Zt := lay (lay (lay (lay (lay z i 0 (w 0)) i 1 (w 1)) i 2 (w 2)) i 3 (w 3)) i 4 (w 4)
def ldL (tl : Nat × Zt) : Nat → Nat → Zt → Zt
  | 0, _, z => z
  | d + 1, i, z => ldL tl d (i + 1) (lay5 z i (txW tl (txB tl i)))
/-- the program has been taken -/
def ldZ (tl : Nat × Zt) (z : Zt) : Zt := bgF (ldL tl (txK tl tl.1 + 1) 0 (uz z 1 (nI (txK tl tl.1 + 1))))
theorem pt_lay5 {z : Zt} {i j f : Nat} {w : Nat → Int32} (hf : f < 12) : pt (lay5 z i w) j f = if j = i ∧ f < 5 then w f else pt z j f := by
  unfold lay5
  rw [pt_lay (by decide) hf, pt_lay (by decide) hf, pt_lay (by decide) hf, pt_lay (by decide) hf, pt_lay (by decide) hf]
  by_cases e : j = i
  · obtain rfl | rfl | rfl | rfl | rfl | h : f = 0 ∨ f = 1 ∨ f = 2 ∨ f = 3 ∨ f = 4 ∨ 5 ≤ f := by omega
    · rw [if_neg (by omega), if_neg (by omega), if_neg (by omega), if_neg (by omega), if_pos ⟨e, rfl⟩, if_pos ⟨e, by decide⟩]
    · rw [if_neg (by omega), if_neg (by omega), if_neg (by omega), if_pos ⟨e, rfl⟩, if_pos ⟨e, by decide⟩]
    · rw [if_neg (by omega), if_neg (by omega), if_pos ⟨e, rfl⟩, if_pos ⟨e, by decide⟩]
    · rw [if_neg (by omega), if_pos ⟨e, rfl⟩, if_pos ⟨e, by decide⟩]
    · rw [if_pos ⟨e, rfl⟩, if_pos ⟨e, by decide⟩]
    · rw [if_neg (by omega), if_neg (by omega), if_neg (by omega), if_neg (by omega), if_neg (by omega), if_neg (by omega)]
  · rw [if_neg (fun h => e h.1), if_neg (fun h => e h.1), if_neg (fun h => e h.1), if_neg (fun h => e h.1), if_neg (fun h => e h.1), if_neg (fun h => e h.1)]
theorem pt_ldL {tl : Nat × Zt} {f : Nat} (hf : f < 12) : ∀ {d l : Nat} {z : Zt} {j : Nat}, pt (ldL tl d l z) j f = if (l ≤ j ∧ j < l + d) ∧ f < 5 then txW tl (txB tl j) f else pt z j f := by
  intro d
  induction d with
  | zero => intro l z j; rw [if_neg (by omega)]; rfl
  | succ d ih =>
    intro l z j
    rw [ldL, ih, pt_lay5 hf]
    by_cases h1 : (l + 1 ≤ j ∧ j < l + 1 + d) ∧ f < 5
    · rw [if_pos h1, if_pos (by omega)]
    · rw [if_neg h1]
      by_cases h2 : j = l ∧ f < 5
      · rw [if_pos h2, if_pos (by omega), h2.1]
      · rw [if_neg h2, if_neg (by omega)]
theorem ldL_lo {tl : Nat × Zt} {k : Nat} (hk : k < 36) : ∀ {d l : Nat} {z : Zt}, ldL tl d l z k = z k := by
  intro d
  induction d with
  | zero => intro l z; rfl
  | succ d ih => intro l z; rw [ldL, ih]; unfold lay5; rw [lay_lo hk, lay_lo hk, lay_lo hk, lay_lo hk, lay_lo hk]
theorem Tl.ldL {tl : Nat × Zt} : ∀ {d l : Nat} {z : Zt}, Tl z → l + d ≤ 24 → Tl (ldL tl d l z) := by
  intro d
  induction d with
  | zero => intro l z h _; exact h
  | succ d ih => intro l z h hl; exact ih (((((h.wl (by omega) (by decide)).wl (by omega) (by decide)).wl (by omega) (by decide)).wl (by omega) (by decide)).wl (by omega) (by decide)) (by omega)
theorem Good.load {c c' : In2} {z : Zt} {tl : Nat × Zt} {L : Nat} (hL : L = txK tl tl.1 + 1) (hL2 : L ≤ 24) (hwf : ∀ i, i < L → WfR (txW tl (txB tl i) 0) (txW tl (txB tl i) 1) (txW tl (txB tl i) 2) (txW tl (txB tl i) 3) (txW tl (txB tl i) 4)) (h : Good c z)
    (h6 : c' 0 6 = nI L) (h7 : c' 0 7 = nI 0) (h8 : c' 0 8 = nI 0) (h0 : ∀ k, k < 9 → ¬ k = 1 → ¬ k = 2 → ¬ k = 3 → c' 0 (5 + k) = c 0 (5 + k)) (h345 : ∀ o k, 3 ≤ o → o ≤ 5 → c' o k = c o k) (hr : ∀ i f, i < L → f < 7 → c' (6 + i) f = if f < 5 then txW tl (txB tl i) f else nI 0) : Good c' (ldZ tl z) := by
  obtain ⟨a, b, n, cy, ⟨⟨g3, g2, g1, hb, ⟨w1, w2, w3⟩, gr, gm, gw, gv⟩, hd, k1, k2, k3, k4, k5, k6, k7⟩, hE, ⟨c0, l, e, c7, c8, hl⟩, hcy, hT⟩ := h
  have lo : ∀ k, k < 36 → ¬ k = 1 → ¬ k = 2 → ¬ k = 3 → ldZ tl z k = z k := fun k hk e1 e2 e3 => by unfold ldZ; rw [bgF_lo hk e2 e3, ldL_lo hk, uz_ne e1]
  have z1 : ldZ tl z 1 = nI L := by unfold ldZ; rw [bgF_lo (by decide) (by decide) (by decide), ldL_lo (by decide), uz_at, hL]
  have z2 : ldZ tl z 2 = nI 0 := by unfold ldZ bgF; rw [bgL_lo (by decide), uz_ne (by decide), uz_at]
  have z3 : ldZ tl z 3 = nI 0 := by unfold ldZ bgF; rw [bgL_lo (by decide), uz_at]
  have hp : ∀ i f, i < L → f < 7 → pt (ldZ tl z) i f = if f < 5 then txW tl (txB tl i) f else nI 0 := fun i f hi hf => by
    unfold ldZ
    rw [bgF_pt (by omega) (by omega), pt_ldL (by omega)]
    by_cases h5 : f < 5
    · rw [if_neg (by omega), if_pos (by omega), if_pos h5]
    · rw [if_pos (by omega), if_neg h5]
  have hp' : ∀ i, i < 24 → pt (ldZ tl z) i 11 = pt z i 11 := fun i hi => by
    unfold ldZ
    rw [bgF_pt hi (by decide), if_neg (by decide), pt_ldL (by decide), if_neg (by omega), pt_uz (by decide)]
  refine ⟨0, 0, L, cy, ⟨⟨z3, z2, z1, by omega, ⟨by rw [lo _ (by decide) (by decide) (by decide) (by decide)]; exact w1, by rw [lo _ (by decide) (by decide) (by decide) (by decide)]; exact w2, by rw [lo _ (by decide) (by decide) (by decide) (by decide)]; exact w3⟩, fun k hk => by rw [lo _ (by omega) (by omega) (by omega) (by omega)]; exact gr k hk, fun k hk => by rw [lo _ (by omega) (by omega) (by omega) (by omega)]; exact gm k hk, fun i hi => ?_, fun i hi => by rw [hp' i hi]; exact gv i hi⟩, fun i h1 h2 => by omega, fun k hk => ?_, fun k hk => ?_, fun k hk => ?_, fun k hk => ?_, fun i f hi hf => by rw [hr i f hi hf, hp i f hi hf], fun i h1 h2 => by omega, fun i h1 h2 => by omega⟩, Ent_0, ⟨?_, l, e, ?_, ?_, hl⟩, hcy, ?_⟩
  · rw [hp i 0 hi (by decide), hp i 1 hi (by decide), hp i 2 hi (by decide), hp i 3 hi (by decide), hp i 4 hi (by decide), hp i 5 hi (by decide), if_pos (by decide), if_pos (by decide), if_pos (by decide), if_pos (by decide), if_pos (by decide), if_neg (by decide)]
    exact ⟨hwf i hi, 0, by decide, rfl, fun _ => rfl⟩
  · by_cases e1 : k = 1
    · rw [e1, z1]; exact h6
    · by_cases e2 : k = 2
      · rw [e2, z2]; exact h7
      · by_cases e3 : k = 3
        · rw [e3, z3]; exact h8
        · rw [lo _ (by omega) e1 e2 e3, h0 k hk e1 e2 e3]; exact k1 k hk
  · rw [lo _ (by omega) (by omega) (by omega) (by omega), h345 _ _ (by decide) (by decide)]; exact k2 k hk
  · rw [lo _ (by omega) (by omega) (by omega) (by omega), h345 _ _ (by decide) (by decide)]; exact k3 k hk
  · rw [lo _ (by omega) (by omega) (by omega) (by omega), h345 _ _ (by decide) (by decide)]; exact k4 k hk
  · rw [lo _ (by decide) (by decide) (by decide) (by decide)]; exact c0
  · rw [lo _ (by decide) (by decide) (by decide) (by decide)]; exact c7
  · rw [lo _ (by decide) (by decide) (by decide) (by decide)]; exact c8
  · unfold ldZ; exact Tl.bgF (Tl.ldL (hT.wu (by decide)) (by omega))

