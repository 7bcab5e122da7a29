/-! an instruction's form, as both read it -/
theorem txR_t {x : Nat} (h : txR x = true) : 97 ≤ x ∧ x ≤ 104 := by
  unfold txR at h; rw [Bool.and_eq_true] at h; exact ⟨of_decide_eq_true h.1, of_decide_eq_true h.2⟩
theorem txD_t {x : Nat} (h : txD x = true) : 48 ≤ x ∧ x ≤ 57 := by
  unfold txD at h; rw [Bool.and_eq_true] at h; exact ⟨of_decide_eq_true h.1, of_decide_eq_true h.2⟩
theorem txr_n {x : Nat} (h : 97 ≤ x) : txr x = nI (x - 97) := pk_sub h
theorem txd_n {x : Nat} (h : 48 ≤ x) : txd x = nI (x - 48) := pk_sub h
theorem regOk_r {x : Nat} (h : txR x = true) : regOk (txr x) := by
  have := txR_t h; exact ⟨x - 97, by omega, txr_n this.1⟩
theorem offOk_d {x : Nat} (h : txD x = true) : ∃ o, o < 10 ∧ txd x = nI o := by
  have := txD_t h; exact ⟨x - 48, by omega, txd_n this.1⟩
/-- what is read of an instruction that begins at s -/
def TxR (tl : Nat × Zt) (s : Nat) (K T P O N : Int32) : Prop :=
  K = txW tl s 0 ∧ (if K = nI 4 then nM else T) = txW tl s 1 ∧ P = txW tl s 2 ∧ O = txW tl s 3 ∧ N = txW tl s 4 ∧ WfR (txW tl s 0) (txW tl s 1) (txW tl s 2) (txW tl s 3) (txW tl s 4)
theorem TxR.of {tl : Nat × Zt} {s : Nat} {K T P O N : Int32} (h0 : txW tl s 0 = K) (h1 : txW tl s 1 = if K = nI 4 then nM else T) (h2 : txW tl s 2 = P) (h3 : txW tl s 3 = O) (h4 : txW tl s 4 = N) (h : WfR K (if K = nI 4 then nM else T) P O N) : TxR tl s K T P O N := by
  refine ⟨h0.symm, h1.symm, h2.symm, h3.symm, h4.symm, ?_⟩
  rw [h0, h1, h2, h3, h4]; exact h
theorem TxR_bin {tl : Nat × Zt} {s : Nat} {K T P O N : Int32} (h0 : txR (txC tl s) = true) (h2 : txR (txC tl (s + 2)) = true) (h4 : txR (txC tl (s + 4)) = true) (eK : K = if txC tl (s + 3) = 43 then nI 1 else nI 2) (eT : T = txr (txC tl s)) (eP : P = txr (txC tl (s + 2))) (eO : O = txr (txC tl (s + 4))) (eN : N = nI 0) : TxR tl s K T P O N := by
  have a0 := txR_t h0
  have a2 := txR_t h2
  have n1 : ¬ txC tl s = 91 := by omega
  have n2 : ¬ txC tl (s + 2) = 91 := by omega
  have w : ∀ f, txW tl s f = (match f with | 0 => if txC tl (s + 3) = 43 then nI 1 else nI 2 | 1 => txr (txC tl s) | 2 => txr (txC tl (s + 2)) | 3 => txr (txC tl (s + 4)) | _ => nI 0) := fun f => by unfold txW; rw [if_neg n1, if_neg n2, if_pos h2]; rcases f with _ | _ | _ | _ | f <;> rfl
  have hk : ¬ K = nI 4 := by rw [eK]; split <;> decide
  rw [eT, eP, eO, eN]
  refine TxR.of ((w 0).trans eK.symm) ((w 1).trans (if_neg hk).symm) (w 2) (w 3) (w 4) ?_
  rw [if_neg hk]
  refine Or.inr (Or.inl ⟨?_, regOk_r h0, regOk_r h2, regOk_r h4, rfl⟩)
  rw [eK]; split
  · exact Or.inl rfl
  · exact Or.inr rfl
theorem TxR_load {tl : Nat × Zt} {s : Nat} {K T P O N : Int32} (h0 : txR (txC tl s) = true) (h2 : txC tl (s + 2) = 91) (h3 : txR (txC tl (s + 3)) = true) (h4 : txD (txC tl (s + 4)) = true) (eK : K = nI 3) (eT : T = txr (txC tl s)) (eP : P = txr (txC tl (s + 3))) (eO : O = nM) (eN : N = txd (txC tl (s + 4))) : TxR tl s K T P O N := by
  have a0 := txR_t h0
  have n1 : ¬ txC tl s = 91 := by omega
  have w : ∀ f, txW tl s f = (match f with | 0 => nI 3 | 1 => txr (txC tl s) | 2 => txr (txC tl (s + 3)) | 3 => nM | _ => txd (txC tl (s + 4))) := fun f => by unfold txW; rw [if_neg n1, if_pos h2]; rcases f with _ | _ | _ | _ | f <;> rfl
  have hk : ¬ K = nI 4 := by rw [eK]; decide
  rw [eT, eP, eO, eN]
  refine TxR.of ((w 0).trans eK.symm) ((w 1).trans (if_neg hk).symm) (w 2) (w 3) (w 4) ?_
  rw [if_neg hk]
  exact Or.inr (Or.inr (Or.inl ⟨eK, regOk_r h0, regOk_r h3, rfl, offOk_d h4⟩))
theorem TxR_store {tl : Nat × Zt} {s : Nat} {K T P O N : Int32} (h0 : txC tl s = 91) (h1 : txR (txC tl (s + 1)) = true) (h2 : txD (txC tl (s + 2)) = true) (h5 : txR (txC tl (s + 5)) = true) (eK : K = nI 4) (eP : P = txr (txC tl (s + 1))) (eO : O = txr (txC tl (s + 5))) (eN : N = txd (txC tl (s + 2))) : TxR tl s K T P O N := by
  have w : ∀ f, txW tl s f = (match f with | 0 => nI 4 | 1 => nM | 2 => txr (txC tl (s + 1)) | 3 => txr (txC tl (s + 5)) | _ => txd (txC tl (s + 2))) := fun f => by unfold txW; rw [if_pos h0]; rcases f with _ | _ | _ | _ | f <;> rfl
  rw [eP, eO, eN]
  refine TxR.of ((w 0).trans eK.symm) ((w 1).trans (if_pos eK).symm) (w 2) (w 3) (w 4) ?_
  rw [if_pos eK]
  exact Or.inr (Or.inr (Or.inr ⟨eK, rfl, regOk_r h1, regOk_r h5, offOk_d h2⟩))
/-- one figure or two, perhaps behind a minus -/
theorem TxR_set {tl : Nat × Zt} {s : Nat} {K T P O N : Int32} (h0 : txR (txC tl s) = true) (h2 : txC tl (s + 2) = 45 ∨ txD (txC tl (s + 2)) = true) (eK : K = nI 0) (eT : T = txr (txC tl s)) (eP : P = nM) (eO : O = nM) (eN : N = txV tl (s + 2)) (hN : SetOk N) : TxR tl s K T P O N := by
  have a0 := txR_t h0
  have n1 : ¬ txC tl s = 91 := by omega
  have n2 : ¬ txC tl (s + 2) = 91 := by rcases h2 with h | h; · omega
                                        · have := txD_t h; omega
  have n3 : ¬ txR (txC tl (s + 2)) = true := fun h => by
    have := txR_t h
    rcases h2 with h | h
    · omega
    · have := txD_t h; omega
  have w : ∀ f, txW tl s f = (match f with | 0 => nI 0 | 1 => txr (txC tl s) | 2 => nM | 3 => nM | _ => txV tl (s + 2)) := fun f => by unfold txW; rw [if_neg n1, if_neg n2, if_neg n3]; rcases f with _ | _ | _ | _ | f <;> rfl
  have hk : ¬ K = nI 4 := by rw [eK]; decide
  rw [eT, eP, eO]
  refine TxR.of ((w 0).trans eK.symm) ((w 1).trans (if_neg hk).symm) (w 2) (w 3) ((w 4).trans eN.symm) ?_
  rw [if_neg hk]
  exact Or.inl ⟨eK, regOk_r h0, rfl, rfl, hN⟩
theorem SetOk_n {a : Nat} (h : a ≤ 99) : SetOk (nI a) ∧ SetOk (- nI a) := by
  have : ∀ a : Fin 100, SetOk (nI a.1) ∧ SetOk (- nI a.1) := by unfold SetOk; decide
  exact this ⟨a, by omega⟩
theorem txM_1 {tl : Nat × Zt} {k : Nat} (h1 : txD (txC tl (k + 1)) = false) : txM tl k = txd (txC tl k) := by unfold txM; rw [h1, if_neg (by decide)]
theorem txM_2 {tl : Nat × Zt} {k : Nat} (h1 : txD (txC tl (k + 1)) = true) : txM tl k = nI 10 * txd (txC tl k) + txd (txC tl (k + 1)) := by unfold txM; rw [if_pos h1]
theorem txV_p {tl : Nat × Zt} {k : Nat} (h : txD (txC tl k) = true) : txV tl k = txM tl k := by
  unfold txV; rw [if_neg]; have := txD_t h; omega
theorem txV_m {tl : Nat × Zt} {k : Nat} (h : txC tl k = 45) : txV tl k = - txM tl (k + 1) := if_pos h
theorem ok_1 {x : Nat} (h : txD x = true) : SetOk (txd x) ∧ SetOk (- txd x) := by
  have := txD_t h; rw [txd_n this.1]; exact SetOk_n (by omega)
theorem ok_2 {x y : Nat} (h : txD x = true) (h' : txD y = true) : SetOk (nI 10 * txd x + txd y) ∧ SetOk (- (nI 10 * txd x + txd y)) := by
  have := txD_t h; have h2 := txD_t h'
  rw [txd_n this.1, txd_n h2.1, pk_mul, nI_add]; exact SetOk_n (by omega)
/-- how far an instruction that begins at s is read before k, and what the reference then has: the class's state, the reference's, the sign, the row -/
def TxV (tl : Nat × Zt) (st s k v : Nat) (g K T P O N : Int32) : Prop :=
  match st with
  | 1 => k = s ∧ v = 0
  | 2 => k = s + 1 ∧ v = 1 ∧ txR (txC tl s) = true ∧ g = nI 1 ∧ K = nI 0 ∧ T = txr (txC tl s) ∧ P = nM ∧ O = nM ∧ N = nI 0
  | 3 => k = s + 2 ∧ v = 2 ∧ txR (txC tl s) = true ∧ g = nI 1 ∧ K = nI 0 ∧ T = txr (txC tl s) ∧ P = nM ∧ O = nM ∧ N = nI 0
  | 4 => k = s + 3 ∧ v = 3 ∧ txR (txC tl s) = true ∧ txC tl (s + 2) = 45 ∧ g = nM ∧ K = nI 0 ∧ T = txr (txC tl s) ∧ P = nM ∧ O = nM
  | 5 => v = 4 ∧ txR (txC tl s) = true ∧ K = nI 0 ∧ T = txr (txC tl s) ∧ P = nM ∧ O = nM ∧ ((k = s + 3 ∧ txD (txC tl (s + 2)) = true ∧ ¬ txC tl (s + 2) = 48 ∧ g = nI 1 ∧ N = txd (txC tl (s + 2))) ∨ (k = s + 4 ∧ txC tl (s + 2) = 45 ∧ txD (txC tl (s + 3)) = true ∧ ¬ txC tl (s + 3) = 48 ∧ g = nM ∧ N = - txd (txC tl (s + 3))))
  | 6 => s + 3 ≤ k ∧ ((v = 4 ∧ N = nI 0) ∨ v = 5 ∨ v = 30) ∧ (txD (txC tl k) = false → TxR tl s K T P O N)
  | 7 => k = s + 3 ∧ v = 6 ∧ txR (txC tl s) = true ∧ txR (txC tl (s + 2)) = true ∧ T = txr (txC tl s) ∧ P = txr (txC tl (s + 2)) ∧ N = nI 0
  | 8 => (k = s + 4 ∧ v = 7 ∧ txR (txC tl s) = true ∧ txR (txC tl (s + 2)) = true ∧ K = (if txC tl (s + 3) = 43 then nI 1 else nI 2) ∧ T = txr (txC tl s) ∧ P = txr (txC tl (s + 2)) ∧ N = nI 0) ∨ (k = s + 5 ∧ v = 24 ∧ txC tl s = 91 ∧ txR (txC tl (s + 1)) = true ∧ txD (txC tl (s + 2)) = true ∧ K = nI 4 ∧ P = txr (txC tl (s + 1)) ∧ N = txd (txC tl (s + 2)))
  | 9 => k = s + 3 ∧ v = 10 ∧ txR (txC tl s) = true ∧ txC tl (s + 2) = 91 ∧ K = nI 3 ∧ T = txr (txC tl s) ∧ O = nM
  | 10 => k = s + 4 ∧ v = 11 ∧ txR (txC tl s) = true ∧ txC tl (s + 2) = 91 ∧ txR (txC tl (s + 3)) = true ∧ K = nI 3 ∧ T = txr (txC tl s) ∧ P = txr (txC tl (s + 3)) ∧ O = nM
  | 11 => k = s + 5 ∧ v = 12 ∧ txR (txC tl s) = true ∧ txC tl (s + 2) = 91 ∧ txR (txC tl (s + 3)) = true ∧ txD (txC tl (s + 4)) = true ∧ K = nI 3 ∧ T = txr (txC tl s) ∧ P = txr (txC tl (s + 3)) ∧ O = nM ∧ N = txd (txC tl (s + 4))
  | 12 => k = s + 1 ∧ v = 20 ∧ txC tl s = 91 ∧ K = nI 4
  | 13 => k = s + 2 ∧ v = 21 ∧ txC tl s = 91 ∧ txR (txC tl (s + 1)) = true ∧ K = nI 4 ∧ P = txr (txC tl (s + 1))
  | 14 => k = s + 3 ∧ v = 22 ∧ txC tl s = 91 ∧ txR (txC tl (s + 1)) = true ∧ txD (txC tl (s + 2)) = true ∧ K = nI 4 ∧ P = txr (txC tl (s + 1)) ∧ N = txd (txC tl (s + 2))
  | 15 => k = s + 4 ∧ v = 23 ∧ txC tl s = 91 ∧ txR (txC tl (s + 1)) = true ∧ txD (txC tl (s + 2)) = true ∧ K = nI 4 ∧ P = txr (txC tl (s + 1)) ∧ N = txd (txC tl (s + 2))
  | _ => False
/-- the reference's reading, its next state and the row it is at -/
def TxM (I : In2) (r v : Nat) (g K T P O N : Int32) : Prop := I 245 11 = nI r ∧ I 245 13 = nI v ∧ I 245 12 = g ∧ I 250 r = K ∧ I 251 r = T ∧ I 252 r = P ∧ I 253 r = O ∧ I 254 r = N
/-- what reading leaves alone -/
def TxQ (I I' : In2) (r : Nat) : Prop := ∀ a k, ¬ (a = 245 ∧ (k = 11 ∨ k = 12 ∨ k = 13)) → ¬ ((250 ≤ a ∧ a ≤ 254) ∧ k = r) → I' a k = I a k
theorem up2_self {I : In2} {a k : Nat} {v : Int32} (h : I a k = v) : up2 I a k v = I := by
  funext b j; rw [up2_e]; split
  · rename_i e; rw [e.1, e.2]; exact h.symm
  · rfl
/-! the reference's steps -/
def goU (b : Bool) (v : Nat) (I : In2) : In2 := if b = true then up2 I 245 13 (nI v) else I
