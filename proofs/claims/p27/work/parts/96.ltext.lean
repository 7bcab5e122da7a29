/-! the buffer's text, as the law writes it -/
def apL (tl : Nat × Zt) : List Nat → Nat × Zt
  | [] => tl
  | x :: l => apL (apT tl (nI x)) l
theorem getD_mem : ∀ {l : List Nat} {j : Nat}, j < l.length → l.getD j 0 ∈ l := by
  intro l
  induction l with
  | nil => intro j h; exact absurd h (Nat.not_lt_zero j)
  | cons x l ih =>
    intro j h
    cases j with
    | zero => exact List.mem_cons_self ..
    | succ j => exact List.mem_cons_of_mem _ (ih (j := j) (by rw [List.length_cons] at h; omega))
theorem ap_1 {tl : Nat × Zt} {p : Int32} : (apT tl p).1 = tl.1 + 1 := rfl
theorem apT_lo {tl : Nat × Zt} {p : Int32} {k : Nat} (h : k < tl.1) : txC (apT tl p) k = txC tl k := by
  unfold txC
  rw [if_pos h, if_pos (show k < (apT tl p).1 by rw [ap_1]; omega)]
  show idx (uz tl.2 tl.1 p k) = _
  rw [uz_ne (by omega)]
theorem apT_at {tl : Nat × Zt} {x : Nat} (hx : x < 2147483648) : txC (apT tl (nI x)) tl.1 = x := by
  unfold txC
  rw [if_pos (show tl.1 < (apT tl (nI x)).1 by rw [ap_1]; omega)]
  show idx (uz tl.2 tl.1 (nI x) tl.1) = _
  rw [uz_at, idx_nI hx]
theorem apL_1 : ∀ {l : List Nat} {tl : Nat × Zt}, (apL tl l).1 = tl.1 + l.length := by
  intro l
  induction l with
  | nil => intro tl; rfl
  | cons x l ih => intro tl; rw [apL, ih, ap_1, List.length_cons]; omega
theorem apL_lo : ∀ {l : List Nat} {tl : Nat × Zt} {k : Nat}, k < tl.1 → txC (apL tl l) k = txC tl k := by
  intro l
  induction l with
  | nil => intro tl k _; rfl
  | cons x l ih => intro tl k h; rw [apL, ih (by rw [ap_1]; omega), apT_lo h]
theorem apL_at : ∀ {l : List Nat} {tl : Nat × Zt} {j : Nat}, (∀ x, x ∈ l → x < 2147483648) → j < l.length → txC (apL tl l) (tl.1 + j) = l.getD j 0 := by
  intro l
  induction l with
  | nil => intro tl j _ h; exact absurd h (Nat.not_lt_zero j)
  | cons x l ih =>
    intro tl j hx h
    rw [apL]
    cases j with
    | zero =>
      rw [apL_lo (by rw [ap_1]; omega), Nat.add_zero, apT_at (hx x (List.mem_cons_self ..))]; rfl
    | succ j =>
      rw [show tl.1 + (j + 1) = (apT tl (nI x)).1 + j by rw [ap_1]; omega, ih (fun y hy => hx y (List.mem_cons_of_mem _ hy)) (by rw [List.length_cons] at h; omega)]; rfl
theorem txS_cg {tl tl' : Nat × Zt} : ∀ {k : Nat}, (∀ j, j < k → txC tl' j = txC tl j) → txS tl' k = txS tl k := by
  intro k
  induction k with
  | zero => intro _; rfl
  | succ k ih => intro h; rw [txS, txS, ih (fun j hj => h j (by omega)), h k (by omega)]
theorem txK_cg {tl tl' : Nat × Zt} : ∀ {k : Nat}, (∀ j, j < k → txC tl' j = txC tl j) → txK tl' k = txK tl k := by
  intro k
  induction k with
  | zero => intro _; rfl
  | succ k ih => intro h; rw [txK, txK, ih (fun j hj => h j (by omega)), h k (by omega)]
theorem apT_S {tl : Nat × Zt} {x : Nat} (hx : x < 2147483648) : txS (apT tl (nI x)) (apT tl (nI x)).1 = txN (txS tl tl.1) x := by
  rw [ap_1, txS, apT_at hx, txS_cg fun j hj => apT_lo hj]
theorem apT_K {tl : Nat × Zt} {x : Nat} (hx : x < 2147483648) : txK (apT tl (nI x)) (apT tl (nI x)).1 = if x = 59 then txK tl tl.1 + 1 else txK tl tl.1 := by
  rw [ap_1, txK, apT_at hx, txK_cg fun j hj => apT_lo hj]
theorem apL_S : ∀ {l : List Nat} {tl : Nat × Zt}, (∀ x, x ∈ l → x < 2147483648) → txS (apL tl l) (apL tl l).1 = l.foldl txN (txS tl tl.1) := by
  intro l
  induction l with
  | nil => intro tl _; rfl
  | cons x l ih => intro tl hx; rw [apL, ih (fun y hy => hx y (List.mem_cons_of_mem _ hy)), apT_S (hx x (List.mem_cons_self ..))]; rfl
theorem apL_K : ∀ {l : List Nat} {tl : Nat × Zt}, (∀ x, x ∈ l → x < 2147483648 ∧ ¬ x = 59) → txK (apL tl l) (apL tl l).1 = txK tl tl.1 := by
  intro l
  induction l with
  | nil => intro tl _; rfl
  | cons x l ih =>
    intro tl hx
    have := hx x (List.mem_cons_self ..)
    rw [apL, ih (fun y hy => hx y (List.mem_cons_of_mem _ hy)), apT_K this.1, if_neg this.2]
theorem txX_at {tl : Nat × Zt} {e : Nat} (he : txC tl e = 59) : ∀ {d s : Nat}, s ≤ e → e < s + d → (∀ k, s ≤ k → k < e → ¬ txC tl k = 59) → txX tl d s = e + 1 := by
  intro d
  induction d with
  | zero => intro s h1 h2; omega
  | succ d ih =>
    intro s h1 h2 hn
    rw [txX]
    by_cases e1 : s = e
    · rw [e1, if_pos he]
    · rw [if_neg (hn s (Nat.le_refl s) (by omega))]
      exact ih (by omega) (by omega) fun k a1 a2 => hn k (by omega) a2
/-- a line and its parts -/
def LnOk (l : List Nat) (w : Nat → Int32) : Prop := (∀ x, x ∈ l → x < 127 ∧ ¬ x = 59) ∧ l.length ≤ 6 ∧ (l.foldl txN 1 = 5 ∨ l.foldl txN 1 = 6) ∧
  ∀ tl s, (∀ j, j < l.length → txC tl (s + j) = l.getD j 0) → txD (txC tl (s + l.length)) = false → ∀ f, f < 5 → txW tl s f = w f
/-- i lines are written -/
def TX (tl : Nat × Zt) (i : Nat) (w : Nat → Nat → Int32) : Prop := tl.1 ≤ 7 * i ∧ (0 < i → (txS tl tl.1 = 5 ∨ txS tl tl.1 = 6) ∧ txK tl tl.1 + 1 = i) ∧
  ∀ tl', tl.1 ≤ tl'.1 → (∀ k, k < tl.1 → txC tl' k = txC tl k) → txD (txC tl' tl.1) = false → (∀ j, j < i → ∀ f, f < 5 → txW tl' (txB tl' j) f = w j f) ∧ (0 < i → txC tl' tl.1 = 59 → tl.1 < tl'.1 → txB tl' i = tl.1 + 1)
theorem TX.cg {tl : Nat × Zt} {i : Nat} {w w' : Nat → Nat → Int32} (h : TX tl i w) (he : ∀ j f, j < i → f < 5 → w' j f = w j f) : TX tl i w' :=
  ⟨h.1, h.2.1, fun tl' h1 h2 h3 => ⟨fun j hj f hf => ((h.2.2 tl' h1 h2 h3).1 j hj f hf).trans (he j f hj hf).symm, (h.2.2 tl' h1 h2 h3).2⟩⟩
theorem TX_0 {tl : Nat × Zt} {w : Nat → Nat → Int32} (h : tl.1 = 0) : TX tl 0 w := ⟨by omega, fun q => absurd q (Nat.lt_irrefl 0), fun tl' _ _ _ => ⟨fun j hj => absurd hj (Nat.not_lt_zero j), fun q => absurd q (Nat.lt_irrefl 0)⟩⟩
theorem txD_59 : txD 59 = false := rfl
/-- the first line -/
theorem TX_1 {tl : Nat × Zt} {w : Nat → Nat → Int32} {l : List Nat} (h0 : tl.1 = 0) (hl : LnOk l (w 0)) : TX (apL tl l) 1 w := by
  obtain ⟨l1, l2, l3, l4⟩ := hl
  have hx : ∀ x, x ∈ l → x < 2147483648 := fun x hx => by have := (l1 x hx).1; omega
  have e1 : (apL tl l).1 = l.length := by rw [apL_1, h0, Nat.zero_add]
  have hc : ∀ j, j < l.length → txC (apL tl l) j = l.getD j 0 := fun j hj => by have := apL_at (tl := tl) hx hj; rw [h0, Nat.zero_add] at this; exact this
  refine ⟨by omega, fun _ => ⟨?_, ?_⟩, fun tl' t1 t2 t3 => ⟨fun j hj f hf => ?_, fun _ t4 t5 => ?_⟩⟩
  · rw [apL_S hx, h0]; exact l3
  · rw [apL_K (fun x hx => ⟨by have := (l1 x hx).1; omega, (l1 x hx).2⟩), h0]; rfl
  · obtain rfl : j = 0 := by omega
    rw [e1] at t2 t3
    exact l4 tl' 0 (fun j hj => by rw [Nat.zero_add, t2 j hj, hc j hj]) (by rw [Nat.zero_add]; exact t3) f hf
  · rw [e1] at t2 t4 t5 ⊢
    show txX tl' (tl'.1 - 0) 0 = _
    refine txX_at t4 (Nat.zero_le _) (by omega) fun k _ hk => ?_
    rw [t2 k hk, hc k hk]
    exact (l1 _ (getD_mem hk)).2
/-- one line more -/
theorem TX_S {tl : Nat × Zt} {i : Nat} {w : Nat → Nat → Int32} {l : List Nat} (h0 : 0 < i) (h : TX tl i w) (hl : LnOk l (w i)) : TX (apL (apT tl (nI 59)) l) (i + 1) w := by
  obtain ⟨h1, h2, h3⟩ := h
  obtain ⟨l1, l2, l3, l4⟩ := hl
  have hx : ∀ x, x ∈ l → x < 2147483648 := fun x hx => by have := (l1 x hx).1; omega
  have e1 : (apL (apT tl (nI 59)) l).1 = tl.1 + 1 + l.length := by rw [apL_1, ap_1]
  have hc : ∀ j, j < l.length → txC (apL (apT tl (nI 59)) l) (tl.1 + 1 + j) = l.getD j 0 := fun j hj => apL_at (tl := apT tl (nI 59)) hx hj
  have hc0 : ∀ k, k < tl.1 → txC (apL (apT tl (nI 59)) l) k = txC tl k := fun k hk => by rw [apL_lo (by rw [ap_1]; omega), apT_lo hk]
  have hc59 : txC (apL (apT tl (nI 59)) l) tl.1 = 59 := by rw [apL_lo (by rw [ap_1]; omega), apT_at (by decide)]
  obtain ⟨hS, hK⟩ := h2 h0
  refine ⟨by omega, fun _ => ⟨?_, ?_⟩, fun tl' t1 t2 t3 => ?_⟩
  · rw [apL_S hx, apT_S (by decide)]
    have : txN (txS tl tl.1) 59 = 1 := by rcases hS with e | e <;> rw [e] <;> rfl
    rw [this]; exact l3
  · rw [apL_K (fun x hx => ⟨by have := (l1 x hx).1; omega, (l1 x hx).2⟩), apT_K (by decide), if_pos rfl, hK]
  · rw [e1] at t1 t2 t3 ⊢
    have c59 : txC tl' tl.1 = 59 := by rw [t2 _ (by omega), hc59]
    obtain ⟨g1, g2⟩ := h3 tl' (by omega) (fun k hk => by rw [t2 k (by omega), hc0 k hk]) (by rw [c59]; rfl)
    have hB := g2 h0 c59 (by omega)
    have hcl : ∀ j, j < l.length → txC tl' (tl.1 + 1 + j) = l.getD j 0 := fun j hj => by rw [t2 _ (by omega), hc j hj]
    refine ⟨fun j hj f hf => ?_, fun _ t4 t5 => ?_⟩
    · by_cases e : j = i
      · rw [e, hB]
        exact l4 tl' (tl.1 + 1) hcl t3 f hf
      · exact g1 j (by omega) f hf
    · show txX tl' (tl'.1 - txB tl' i) (txB tl' i) = _
      rw [hB]
      refine txX_at t4 (by omega) (by omega) fun k k1 k2 => ?_
      obtain ⟨j, rfl⟩ : ∃ j, k = tl.1 + 1 + j := ⟨k - (tl.1 + 1), by omega⟩
      have hj : j < l.length := by omega
      rw [hcl j hj]
      exact (l1 _ (getD_mem hj)).2
/-- all is written -/
theorem TX.fin {tl : Nat × Zt} {i : Nat} {w : Nat → Nat → Int32} (h : TX tl i w) (h0 : 0 < i) : txF tl = true ∧ txK tl tl.1 + 1 = i ∧ ∀ j, j < i → ∀ f, f < 5 → txW tl (txB tl j) f = w j f := by
  obtain ⟨-, h2, h3⟩ := h
  refine ⟨?_, (h2 h0).2, (h3 tl (Nat.le_refl _) (fun _ _ => rfl) (by rw [txC_0 (Nat.lt_irrefl _)]; rfl)).1⟩
  unfold txF
  rcases (h2 h0).1 with e | e <;> rw [e] <;> rfl
/-! characters -/
theorem ch_r {t : Nat} (h : t < 8) : txN 1 (97 + t) = 2 ∧ txN 3 (97 + t) = 7 ∧ txN 8 (97 + t) = 6 ∧ txN 9 (97 + t) = 10 ∧ txN 12 (97 + t) = 13 ∧ txR (97 + t) = true ∧ txr (97 + t) = nI t ∧ txD (97 + t) = false := by
  have : ∀ t : Fin 8, txN 1 (97 + t.1) = 2 ∧ txN 3 (97 + t.1) = 7 ∧ txN 8 (97 + t.1) = 6 ∧ txN 9 (97 + t.1) = 10 ∧ txN 12 (97 + t.1) = 13 ∧ txR (97 + t.1) = true ∧ txr (97 + t.1) = nI t.1 ∧ txD (97 + t.1) = false := by decide
  exact this ⟨t, h⟩
theorem ch_d {d : Nat} (h : d < 10) : txN 3 (48 + d) = (if d = 0 then 6 else 5) ∧ txN 4 (48 + d) = (if d = 0 then 6 else 5) ∧ txN 5 (48 + d) = 6 ∧ txN 10 (48 + d) = 11 ∧ txN 13 (48 + d) = 14 ∧ txR (48 + d) = false ∧ txd (48 + d) = nI d ∧ txD (48 + d) = true := by
  have : ∀ d : Fin 10, txN 3 (48 + d.1) = (if d.1 = 0 then 6 else 5) ∧ txN 4 (48 + d.1) = (if d.1 = 0 then 6 else 5) ∧ txN 5 (48 + d.1) = 6 ∧ txN 10 (48 + d.1) = 11 ∧ txN 13 (48 + d.1) = 14 ∧ txR (48 + d.1) = false ∧ txd (48 + d.1) = nI d.1 ∧ txD (48 + d.1) = true := by decide
  exact this ⟨d, h⟩
/-! the lines -/
theorem Ln_store {w : Nat → Int32} {p q o : Nat} (hp : p < 8) (hq : q < 8) (ho : o < 10) (h0 : w 0 = nI 4) (h1 : w 1 = nM) (h2 : w 2 = nI p) (h3 : w 3 = nI q) (h4 : w 4 = nI o) : LnOk [91, 97 + p, 48 + o, 93, 61, 97 + q] w := by
  have rp := ch_r hp
  have rq := ch_r hq
  have ro := ch_d ho
  refine ⟨fun x hx => ?_, by show 6 ≤ 6; decide, Or.inr ?_, fun tl s hc hd f hf => ?_⟩
  · simp only [List.mem_cons, List.not_mem_nil, or_false] at hx
    omega
  · show txN (txN (txN (txN (txN (txN 1 91) (97 + p)) (48 + o)) 93) 61) (97 + q) = 6
    rw [show txN 1 91 = 12 from rfl, rp.2.2.2.2.1, ro.2.2.2.2.1, show txN 14 93 = 15 from rfl, show txN 15 61 = 8 from rfl]
    exact rq.2.2.1
  · have c0 : txC tl s = 91 := hc 0 (by show 0 < 6; decide)
    have c1 : txC tl (s + 1) = 97 + p := hc 1 (by show 1 < 6; decide)
    have c2 : txC tl (s + 2) = 48 + o := hc 2 (by show 2 < 6; decide)
    have c5 : txC tl (s + 5) = 97 + q := hc 5 (by show 5 < 6; decide)
    unfold txW
    rw [if_pos c0, c1, c2, c5, rp.2.2.2.2.2.2.1, rq.2.2.2.2.2.2.1, ro.2.2.2.2.2.2.1]
    have : f = 0 ∨ f = 1 ∨ f = 2 ∨ f = 3 ∨ f = 4 := by omega
    rcases this with rfl | rfl | rfl | rfl | rfl
    · exact h0.symm
    · exact h1.symm
    · exact h2.symm
    · exact h3.symm
    · exact h4.symm
theorem Ln_load {w : Nat → Int32} {t p o : Nat} (ht : t < 8) (hp : p < 8) (ho : o < 10) (h0 : w 0 = nI 3) (h1 : w 1 = nI t) (h2 : w 2 = nI p) (h3 : w 3 = nM) (h4 : w 4 = nI o) : LnOk [97 + t, 61, 91, 97 + p, 48 + o, 93] w := by
  have rt := ch_r ht
  have rp := ch_r hp
  have ro := ch_d ho
  refine ⟨fun x hx => ?_, by show 6 ≤ 6; decide, Or.inr ?_, fun tl s hc hd f hf => ?_⟩
  · simp only [List.mem_cons, List.not_mem_nil, or_false] at hx
    omega
  · show txN (txN (txN (txN (txN (txN 1 (97 + t)) 61) 91) (97 + p)) (48 + o)) 93 = 6
    rw [rt.1, show txN 2 61 = 3 from rfl, show txN 3 91 = 9 from rfl, rp.2.2.2.1, ro.2.2.2.1]
    rfl
  · have c0 : txC tl s = 97 + t := hc 0 (by show 0 < 6; decide)
    have c2 : txC tl (s + 2) = 91 := hc 2 (by show 2 < 6; decide)
    have c3 : txC tl (s + 3) = 97 + p := hc 3 (by show 3 < 6; decide)
    have c4 : txC tl (s + 4) = 48 + o := hc 4 (by show 4 < 6; decide)
    unfold txW
    rw [if_neg (by rw [c0]; omega), if_pos c2, c0, c3, c4, rt.2.2.2.2.2.2.1, rp.2.2.2.2.2.2.1, ro.2.2.2.2.2.2.1]
    have : f = 0 ∨ f = 1 ∨ f = 2 ∨ f = 3 ∨ f = 4 := by omega
    rcases this with rfl | rfl | rfl | rfl | rfl
    · exact h0.symm
    · exact h1.symm
    · exact h2.symm
    · exact h3.symm
    · exact h4.symm
theorem Ln_op {w : Nat → Int32} {t p q c : Nat} (ht : t < 8) (hp : p < 8) (hq : q < 8) (h0 : (c = 43 ∧ w 0 = nI 1) ∨ (c = 42 ∧ w 0 = nI 2)) (h1 : w 1 = nI t) (h2 : w 2 = nI p) (h3 : w 3 = nI q) (h4 : w 4 = nI 0) : LnOk [97 + t, 61, 97 + p, c, 97 + q] w := by
  have rt := ch_r ht
  have rp := ch_r hp
  have rq := ch_r hq
  refine ⟨fun x hx => ?_, by show 5 ≤ 6; decide, Or.inr ?_, fun tl s hc hd f hf => ?_⟩
  · simp only [List.mem_cons, List.not_mem_nil, or_false] at hx
    omega
  · show txN (txN (txN (txN (txN 1 (97 + t)) 61) (97 + p)) c) (97 + q) = 6
    rw [rt.1, show txN 2 61 = 3 from rfl, rp.2.1]
    rcases h0 with ⟨rfl, _⟩ | ⟨rfl, _⟩
    · exact rq.2.2.1
    · exact rq.2.2.1
  · have c0 : txC tl s = 97 + t := hc 0 (by show 0 < 5; decide)
    have c2 : txC tl (s + 2) = 97 + p := hc 2 (by show 2 < 5; decide)
    have c3 : txC tl (s + 3) = c := hc 3 (by show 3 < 5; decide)
    have c4 : txC tl (s + 4) = 97 + q := hc 4 (by show 4 < 5; decide)
    unfold txW
    rw [if_neg (by rw [c0]; omega), if_neg (by rw [c2]; omega), if_pos (by rw [c2]; exact rp.2.2.2.2.2.1), c0, c2, c3, c4, rt.2.2.2.2.2.2.1, rp.2.2.2.2.2.2.1, rq.2.2.2.2.2.2.1]
    have : f = 0 ∨ f = 1 ∨ f = 2 ∨ f = 3 ∨ f = 4 := by omega
    rcases this with rfl | rfl | rfl | rfl | rfl
    · show (if c = 43 then nI 1 else nI 2) = w 0
      rcases h0 with ⟨rfl, e⟩ | ⟨rfl, e⟩
      · exact e.symm
      · exact e.symm
    · exact h1.symm
    · exact h2.symm
    · exact h3.symm
    · exact h4.symm
/-- the figures of a number -/
def fig (v : Nat) : List Nat := if v < 10 then [48 + v] else [48 + v / 10, 48 + v % 10]
theorem Ln_setW {w : Nat → Int32} {t : Nat} {tl : Nat × Zt} {s : Nat} (ht : t < 8) (h0 : w 0 = nI 0) (h1 : w 1 = nI t) (h2 : w 2 = nM) (h3 : w 3 = nM) (c0 : txC tl s = 97 + t) (c2 : txC tl (s + 2) = 45 ∨ txD (txC tl (s + 2)) = true) (hV : txV tl (s + 2) = w 4) : ∀ f, f < 5 → txW tl s f = w f := by
  intro f hf
  have rt := ch_r ht
  unfold txW
  have n2 : ¬ txC tl (s + 2) = 91 := fun e => by
    rw [e] at c2; rcases c2 with h | h
    · omega
    · exact absurd h (by decide)
  have n3 : ¬ txR (txC tl (s + 2)) = true := fun e => by
    have := txR_t e
    rcases c2 with h | h
    · omega
    · have := txD_t h; omega
  rw [if_neg (by rw [c0]; omega), if_neg n2, if_neg n3, c0, rt.2.2.2.2.2.2.1, hV]
  have : f = 0 ∨ f = 1 ∨ f = 2 ∨ f = 3 ∨ f = 4 := by omega
  rcases this with rfl | rfl | rfl | rfl | rfl
  · exact h0.symm
  · exact h1.symm
  · exact h2.symm
  · exact h3.symm
  · rfl
theorem fig_M {v : Nat} (hv : v < 100) {tl : Nat × Zt} {k : Nat} (hc : ∀ j, j < (fig v).length → txC tl (k + j) = (fig v).getD j 0) (hd : txD (txC tl (k + (fig v).length)) = false) : txM tl k = nI v ∧ txD (txC tl k) = true := by
  unfold fig at hc hd
  by_cases h : v < 10
  · rw [if_pos h] at hc hd
    have c0 : txC tl k = 48 + v := hc 0 (by show 0 < 1; decide)
    have r := ch_d h
    refine ⟨?_, by rw [c0]; exact r.2.2.2.2.2.2.2⟩
    rw [txM_1 hd, c0, r.2.2.2.2.2.2.1]
  · rw [if_neg h] at hc hd
    have c0 : txC tl k = 48 + v / 10 := hc 0 (by show 0 < 2; decide)
    have c1 : txC tl (k + 1) = 48 + v % 10 := hc 1 (by show 1 < 2; decide)
    have r0 := ch_d (d := v / 10) (by omega)
    have r1 := ch_d (d := v % 10) (by omega)
    refine ⟨?_, by rw [c0]; exact r0.2.2.2.2.2.2.2⟩
    rw [txM_2 (by rw [c1]; exact r1.2.2.2.2.2.2.2), c0, c1, r0.2.2.2.2.2.2.1, r1.2.2.2.2.2.2.1, pk_mul, nI_add]
    congr 1; omega
theorem fig_le (v : Nat) : (fig v).length ≤ 2 := by
  unfold fig; split
  · show 1 ≤ 2; decide
  · show 2 ≤ 2; decide
theorem Ln_pos {w : Nat → Int32} {t v : Nat} (ht : t < 8) (hv : v < 100) (h0 : w 0 = nI 0) (h1 : w 1 = nI t) (h2 : w 2 = nM) (h3 : w 3 = nM) (h4 : w 4 = nI v) : LnOk ((97 + t) :: 61 :: fig v) w := by
  have rt := ch_r ht
  have hle := fig_le v
  refine ⟨fun x hx => ?_, by simp only [List.length_cons]; omega, ?_, fun tl s hc hd => ?_⟩
  · unfold fig at hx
    split at hx <;> simp only [List.mem_cons, List.not_mem_nil, or_false] at hx <;> omega
  · show (fig v).foldl txN (txN (txN 1 (97 + t)) 61) = 5 ∨ (fig v).foldl txN (txN (txN 1 (97 + t)) 61) = 6
    rw [rt.1, show txN 2 61 = 3 from rfl]
    unfold fig
    by_cases h : v < 10
    · rw [if_pos h]
      show txN 3 (48 + v) = 5 ∨ txN 3 (48 + v) = 6
      rw [(ch_d h).1]
      split
      · exact Or.inr rfl
      · exact Or.inl rfl
    · rw [if_neg h]
      show txN (txN 3 (48 + v / 10)) (48 + v % 10) = 5 ∨ txN (txN 3 (48 + v / 10)) (48 + v % 10) = 6
      rw [(ch_d (d := v / 10) (by omega)).1, if_neg (by omega), (ch_d (d := v % 10) (by omega)).2.2.1]
      exact Or.inr rfl
  · have c0 : txC tl s = 97 + t := hc 0 (by simp only [List.length_cons]; omega)
    have := fig_M hv (tl := tl) (k := s + 2) (fun j hj => by
      have := hc (j + 2) (by simp only [List.length_cons]; omega)
      rw [show s + 2 + j = s + (j + 2) by omega, this]; rfl) (by
      rw [show s + 2 + (fig v).length = s + ((97 + t) :: 61 :: fig v).length by simp only [List.length_cons]; omega]; exact hd)
    exact Ln_setW ht h0 h1 h2 h3 c0 (Or.inr this.2) (by rw [txV_p this.2, this.1]; exact h4.symm)
theorem Ln_neg {w : Nat → Int32} {t v : Nat} (ht : t < 8) (h1v : 1 ≤ v) (hv : v < 100) (h0 : w 0 = nI 0) (h1 : w 1 = nI t) (h2 : w 2 = nM) (h3 : w 3 = nM) (h4 : w 4 = - nI v) : LnOk ((97 + t) :: 61 :: 45 :: fig v) w := by
  have rt := ch_r ht
  have hle := fig_le v
  refine ⟨fun x hx => ?_, by simp only [List.length_cons]; omega, ?_, fun tl s hc hd => ?_⟩
  · unfold fig at hx
    split at hx <;> simp only [List.mem_cons, List.not_mem_nil, or_false] at hx <;> omega
  · show (fig v).foldl txN (txN (txN (txN 1 (97 + t)) 61) 45) = 5 ∨ (fig v).foldl txN (txN (txN (txN 1 (97 + t)) 61) 45) = 6
    rw [rt.1, show txN 2 61 = 3 from rfl, show txN 3 45 = 4 from rfl]
    unfold fig
    by_cases h : v < 10
    · rw [if_pos h]
      show txN 4 (48 + v) = 5 ∨ txN 4 (48 + v) = 6
      rw [(ch_d h).2.1]
      split
      · exact Or.inr rfl
      · exact Or.inl rfl
    · rw [if_neg h]
      show txN (txN 4 (48 + v / 10)) (48 + v % 10) = 5 ∨ txN (txN 4 (48 + v / 10)) (48 + v % 10) = 6
      rw [(ch_d (d := v / 10) (by omega)).2.1, if_neg (by omega), (ch_d (d := v % 10) (by omega)).2.2.1]
      exact Or.inr rfl
  · have c0 : txC tl s = 97 + t := hc 0 (by simp only [List.length_cons]; omega)
    have c2 : txC tl (s + 2) = 45 := hc 2 (by simp only [List.length_cons]; omega)
    have := fig_M hv (tl := tl) (k := s + 2 + 1) (fun j hj => by
      have := hc (j + 3) (by simp only [List.length_cons]; omega)
      rw [show s + 2 + 1 + j = s + (j + 3) by omega, this]; rfl) (by
      rw [show s + 2 + 1 + (fig v).length = s + ((97 + t) :: 61 :: 45 :: fig v).length by simp only [List.length_cons]; omega]; exact hd)
    exact Ln_setW ht h0 h1 h2 h3 c0 (Or.inl c2) (by rw [txV_m c2, this.1]; exact h4.symm)
