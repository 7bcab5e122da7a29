/-! the reference's cycle -/
def regOk (t : Int32) : Prop := ∃ x, x < 8 ∧ t = nI x
/-- an instruction's parts fit each other -/
def WfR (k t p q n : Int32) : Prop :=
  (k = nI 0 ∧ regOk t ∧ p = nM ∧ q = nM ∧ SetOk n) ∨ ((k = nI 1 ∨ k = nI 2) ∧ regOk t ∧ regOk p ∧ regOk q ∧ n = nI 0) ∨
  (k = nI 3 ∧ regOk t ∧ regOk p ∧ q = nM ∧ ∃ o, o < 10 ∧ n = nI o) ∨ (k = nI 4 ∧ t = nM ∧ regOk p ∧ regOk q ∧ ∃ o, o < 10 ∧ n = nI o)
def DsR (k d : Int32) : Prop := ∃ x, x ≤ 3 ∧ d = nI x ∧ (¬ k = nI 3 → x = 0)
/-- an entry's state: kind, state, work left, cell -/
def EnR (k s l p : Int32) : Prop := s = nI 0 ∨ (s = nI 1 ∧ ∃ x, 1 ≤ x ∧ x ≤ 3 ∧ l = nI x) ∨ (s = nI 2 ∧ ((k = nI 3 ∨ k = nI 4) → ∃ x, x < 16 ∧ p = nI x))
def Wid (v : Int32) (n : Nat) : Prop := ∃ w, 1 ≤ w ∧ w ≤ n ∧ v = nI w
/-- retired, issued, how many -/
def Inv0 (z : Zt) (a b n : Nat) : Prop := z 3 = nI a ∧ z 2 = nI b ∧ z 1 = nI n ∧ (a ≤ b ∧ b ≤ n ∧ n ≤ 24) ∧ (Wid (z 9) 8 ∧ Wid (z 10) 4 ∧ Wid (z 11) 4) ∧
  (∀ k, k < 8 → InR (z (12 + k))) ∧ (∀ k, k < 16 → InR (z (20 + k))) ∧
  (∀ i, i < n → WfR (pt z i 0) (pt z i 1) (pt z i 2) (pt z i 3) (pt z i 4) ∧ DsR (pt z i 0) (pt z i 5)) ∧
  (∀ i, i < 24 → InR (pt z i 11))
def Ent (z : Zt) (a b : Nat) : Prop := ∀ i, a ≤ i → i < b → EnR (pt z i 0) (pt z i 7) (pt z i 8) (pt z i 9)
def Inv (z : Zt) (a b n : Nat) : Prop := Inv0 z a b n ∧ Ent z a b
def rtF (z : Zt) (a : Nat) : Zt :=
  let z1 := if pt z a 0 = nI 4 then uz z (20 + idx (pt z a 9)) (pt z a 11) else uz z (12 + idx (pt z a 1)) (pt z a 11)
  let z2 := lay z1 a 5 (nI (idx (pt z a 5) - 1))
  uz (uz z2 3 (nI (a + 1))) 6 (z 6 + nI 1)
def retL : Nat → Zt → Zt
  | 0, z => z
  | k + 1, z => if idx (z 3) < idx (z 2) ∧ pt z (idx (z 3)) 7 = nI 2 then retL k (rtF z (idx (z 3))) else z
def brk (z : Zt) (st l : Nat) : Bool := (decide (pt z l 0 = nI 3) && (decide (pt z l 7 = nI 2) && decide (pt z l 9 = pt z st 9))) && !icB .ge (pt z l 10) (nI st)
def zap : Nat → Nat → Zt → Zt
  | 0, _, z => z
  | n + 1, l, z => zap n (l + 1) (lay z l 7 (nI 0))
def rpl (z : Zt) (b l : Nat) : Zt :=
  let z1 := uz (uz z 4 (z 4 + nI 1)) 5 (z 5 + (nI b - nI l))
  zap (b - l) l (lay (lay z1 l 5 (nI 3)) l 6 (pt z l 6 + nI 1))
def fnS (z : Zt) (a b i : Nat) : Zt :=
  let z1 := lay z i 9 (nI (cellF (vlO z a i (pt z i 2)) (idx (pt z i 4))))
  let z2 := lay z1 i 11 (vlO z1 a i (pt z i 3))
  match fstF (brk z2 i) (b - (i + 1)) (i + 1) with | none => z2 | some l => rpl z2 b l
def alP (z : Zt) (cell : Int32) (k : Nat) : Bool := decide (pt z k 0 = nI 4) && (decide (pt z k 7 = nI 2) && decide (pt z k 9 = cell))
def fnE (z : Zt) (a i cell : Nat) : Zt :=
  let al := lat (alP z (nI cell)) a i
  let z2 := lay (lay (lay z i 9 (nI cell)) i 10 (oI al)) i 11 (match al with | none => z (20 + cell) | some k => pt z k 11)
  uz (uz z2 7 (z 7 + nI 1)) 8 (z 8 + bI (opn z a i))
def fnL (z : Zt) (a i : Nat) : Zt := fnE z a i (cellF (vlO z a i (pt z i 2)) (idx (pt z i 4)))
def fnF (z : Zt) (a b i : Nat) : Zt :=
  let z1 := lay z i 7 (nI 2)
  if pt z i 0 = nI 0 then lay z1 i 11 (setF (pt z i 4))
  else if pt z i 0 = nI 3 then fnL z1 a i
  else if pt z i 0 = nI 4 then fnS z1 a b i
  else lay z1 i 11 (resF (pt z i 0) (vlO z1 a i (pt z i 2)) (vlO z1 a i (pt z i 3)))
def wkS (z : Zt) (a b i : Nat) : Zt :=
  if pt z i 7 = nI 1 then (if pt z i 8 = nI 1 then fnF (lay z i 8 (nI 0)) a b i else lay z i 8 (pt z i 8 - nI 1)) else z
def wkL (a b : Nat) : Nat → Nat → Zt → Zt
  | 0, _, z => z
  | k + 1, i, z => wkL a b k (i + 1) (wkS z a b i)
def nds (k : Int32) : Int32 := if k = nI 2 then nI 3 else if k = nI 3 then nI 2 else nI 1
def stL (a : Nat) : Nat → Nat → Nat → Zt → Zt
  | 0, _, _, z => z
  | _, _, 0, z => z
  | k + 1, i, w + 1, z => if rsn z a i = nI 0 then stL a k (i + 1) w (lay (lay z i 7 (nI 1)) i 8 (nds (pt z i 0))) else stL a k (i + 1) (w + 1) z
def isL (a n w : Nat) : Nat → Nat → Zt → Zt
  | 0, _, z => z
  | k + 1, b, z => if b - a < w ∧ b < n then isL a n w k (b + 1) (uz (lay z b 7 (nI 0)) 2 (nI (b + 1))) else z
def cy1 (z : Zt) : Zt := retL (idx (z 11)) z
def cy2 (z : Zt) : Zt := wkL (idx (z 3)) (idx (z 2)) (idx (z 2) - idx (z 3)) (idx (z 3)) z
def cy3 (z : Zt) : Zt := stL (idx (z 3)) (idx (z 2) - idx (z 3)) (idx (z 3)) (idx (z 10)) z
def cy4 (z : Zt) : Zt := isL (idx (z 3)) (idx (z 1)) (idx (z 9)) (idx (z 10)) (idx (z 2)) z
def cyF (z : Zt) : Zt := let z4 := cy4 (cy3 (cy2 (cy1 z))); uz z4 0 (z4 0 + nI 1)


theorem Inv0.wc {z : Zt} {a b n k : Nat} {v : Int32} (h : Inv0 z a b n) (hk : k = 0 ∨ (4 ≤ k ∧ k < 9)) : Inv0 (uz z k v) a b n := by
  obtain ⟨h3, h2, h1, hab, ⟨w1, w2, w3⟩, hr, hm, hw, hv⟩ := h
  have hk36 : k < 36 := by omega
  refine ⟨by rw [uz_ne (by omega)]; exact h3, by rw [uz_ne (by omega)]; exact h2, by rw [uz_ne (by omega)]; exact h1, hab, ⟨by rw [uz_ne (by omega)]; exact w1, by rw [uz_ne (by omega)]; exact w2, by rw [uz_ne (by omega)]; exact w3⟩, fun j hj => ?_, fun j hj => ?_, fun i hi => ?_, fun i hi => ?_⟩
  · rw [uz_ne (by omega)]; exact hr j hj
  · rw [uz_ne (by omega)]; exact hm j hj
  · simp only [pt_uz hk36]; exact hw i hi
  · simp only [pt_uz hk36]; exact hv i hi
/-- a value comes into a register or a cell -/
theorem Inv0.wv {z : Zt} {a b n k : Nat} {v : Int32} (h : Inv0 z a b n) (hk : 12 ≤ k ∧ k < 36) (hvv : InR v) : Inv0 (uz z k v) a b n := by
  obtain ⟨h3, h2, h1, hab, ⟨w1, w2, w3⟩, hr, hm, hw, hv⟩ := h
  have hk36 : k < 36 := hk.2
  refine ⟨by rw [uz_ne (by omega)]; exact h3, by rw [uz_ne (by omega)]; exact h2, by rw [uz_ne (by omega)]; exact h1, hab, ⟨by rw [uz_ne (by omega)]; exact w1, by rw [uz_ne (by omega)]; exact w2, by rw [uz_ne (by omega)]; exact w3⟩, fun j hj => ?_, fun j hj => ?_, fun i hi => ?_, fun i hi => ?_⟩
  · by_cases hjk : 12 + j = k
    · rw [← hjk, uz_at]; exact hvv
    · rw [uz_ne hjk]; exact hr j hj
  · by_cases hjk : 20 + j = k
    · rw [← hjk, uz_at]; exact hvv
    · rw [uz_ne hjk]; exact hm j hj
  · simp only [pt_uz hk36]; exact hw i hi
  · simp only [pt_uz hk36]; exact hv i hi
theorem Inv0.wl {z : Zt} {a b n i f : Nat} {v : Int32} (h : Inv0 z a b n) (hf : 5 ≤ f ∧ f < 12) (hD : f = 5 → i < n → DsR (pt z i 0) v) (hV : f = 11 → InR v) : Inv0 (lay z i f v) a b n := by
  obtain ⟨h3, h2, h1, hab, ⟨w1, w2, w3⟩, hr, hm, hw, hv⟩ := h
  have hf12 : f < 12 := hf.2
  refine ⟨by rw [lay_lo (by decide)]; exact h3, by rw [lay_lo (by decide)]; exact h2, by rw [lay_lo (by decide)]; exact h1, hab, ⟨by rw [lay_lo (by decide)]; exact w1, by rw [lay_lo (by decide)]; exact w2, by rw [lay_lo (by decide)]; exact w3⟩, fun j hj => ?_, fun j hj => ?_, fun j hj => ?_, fun j hj => ?_⟩
  · rw [lay_lo (by omega)]; exact hr j hj
  · rw [lay_lo (by omega)]; exact hm j hj
  · simp only [pt_lay hf12 (show 0 < 12 by decide), pt_lay hf12 (show 1 < 12 by decide), pt_lay hf12 (show 2 < 12 by decide), pt_lay hf12 (show 3 < 12 by decide), pt_lay hf12 (show 4 < 12 by decide), pt_lay hf12 (show 5 < 12 by decide)]
    rw [if_neg (by omega), if_neg (by omega), if_neg (by omega), if_neg (by omega), if_neg (by omega)]
    refine ⟨(hw j hj).1, ?_⟩
    by_cases hc : j = i ∧ 5 = f
    · rw [if_pos hc, hc.1]; exact hD hc.2.symm (hc.1 ▸ hj)
    · rw [if_neg hc]; exact (hw j hj).2
  · rw [pt_lay hf12 (by decide)]
    by_cases hc : j = i ∧ 11 = f
    · rw [if_pos hc]; exact hV hc.2.symm
    · rw [if_neg hc]; exact hv j hj
theorem Inv0.w3 {z : Zt} {a b n a' : Nat} (h : Inv0 z a b n) (h1 : a' ≤ b) : Inv0 (uz z 3 (nI a')) a' b n := by
  obtain ⟨h3, h2, h1', hab, ⟨w1, w2, w3⟩, hr, hm, hw, hv⟩ := h
  refine ⟨uz_at, by rw [uz_ne (by omega)]; exact h2, by rw [uz_ne (by omega)]; exact h1', by omega, ⟨by rw [uz_ne (by omega)]; exact w1, by rw [uz_ne (by omega)]; exact w2, by rw [uz_ne (by omega)]; exact w3⟩, fun j hj => ?_, fun j hj => ?_, fun i hi => ?_, fun i hi => ?_⟩
  · rw [uz_ne (by omega)]; exact hr j hj
  · rw [uz_ne (by omega)]; exact hm j hj
  · simp only [pt_uz (show 3 < 36 by decide)]; exact hw i hi
  · simp only [pt_uz (show 3 < 36 by decide)]; exact hv i hi
theorem Inv0.w2 {z : Zt} {a b n b' : Nat} (h : Inv0 z a b n) (h1 : a ≤ b') (h2 : b' ≤ n) : Inv0 (uz z 2 (nI b')) a b' n := by
  obtain ⟨h3, h2', h1', hab, ⟨w1, w2, w3⟩, hr, hm, hw, hv⟩ := h
  refine ⟨by rw [uz_ne (by omega)]; exact h3, uz_at, by rw [uz_ne (by omega)]; exact h1', by omega, ⟨by rw [uz_ne (by omega)]; exact w1, by rw [uz_ne (by omega)]; exact w2, by rw [uz_ne (by omega)]; exact w3⟩, fun j hj => ?_, fun j hj => ?_, fun i hi => ?_, fun i hi => ?_⟩
  · rw [uz_ne (by omega)]; exact hr j hj
  · rw [uz_ne (by omega)]; exact hm j hj
  · simp only [pt_uz (show 2 < 36 by decide)]; exact hw i hi
  · simp only [pt_uz (show 2 < 36 by decide)]; exact hv i hi
theorem Ent.wu {z : Zt} {a b k : Nat} {v : Int32} (h : Ent z a b) (hk : k < 36) : Ent (uz z k v) a b := by
  intro j h1 h2; simp only [pt_uz hk]; exact h j h1 h2
theorem Ent.wl {z : Zt} {a b i f : Nat} {v : Int32} (h : Ent z a b) (hf : f = 5 ∨ f = 6 ∨ f = 10 ∨ f = 11) : Ent (lay z i f v) a b := by
  intro j h1 h2
  have hf12 : f < 12 := by omega
  simp only [pt_lay hf12 (show 0 < 12 by decide), pt_lay hf12 (show 7 < 12 by decide), pt_lay hf12 (show 8 < 12 by decide), pt_lay hf12 (show 9 < 12 by decide)]
  rw [if_neg (by omega), if_neg (by omega), if_neg (by omega), if_neg (by omega)]
  exact h j h1 h2
def EntX (z : Zt) (a b i : Nat) : Prop := ∀ j, a ≤ j → j < b → ¬ j = i → EnR (pt z j 0) (pt z j 7) (pt z j 8) (pt z j 9)
theorem Ent.x {z : Zt} {a b i : Nat} (h : Ent z a b) : EntX z a b i := fun j h1 h2 _ => h j h1 h2
theorem EntX.wl {z : Zt} {a b i f : Nat} {v : Int32} (h : EntX z a b i) (hf : f < 12) : EntX (lay z i f v) a b i := by
  intro j h1 h2 hj
  rw [pt_lj ⟨hj, hf, by decide⟩, pt_lj ⟨hj, hf, by decide⟩, pt_lj ⟨hj, hf, by decide⟩, pt_lj ⟨hj, hf, by decide⟩]
  exact h j h1 h2 hj
theorem EntX.w7 {z : Zt} {a b i : Nat} {v : Int32} (h : EntX z a b i) (hE : a ≤ i → i < b → EnR (pt z i 0) v (pt z i 8) (pt z i 9)) : Ent (lay z i 7 v) a b := by
  intro j h1 h2
  simp only [pt_lay (show 7 < 12 by decide) (show 0 < 12 by decide), pt_lay (show 7 < 12 by decide) (show 7 < 12 by decide), pt_lay (show 7 < 12 by decide) (show 8 < 12 by decide), pt_lay (show 7 < 12 by decide) (show 9 < 12 by decide)]
  by_cases hj : j = i
  · subst hj; simpa using hE h1 h2
  · simpa [hj] using h j h1 h2 hj
/-- two parts of an entry at once -/
theorem EntX.w2 {z : Zt} {a b i f g : Nat} {v w : Int32} (h : EntX z a b i) (hf : f = 7) (hg : g = 8 ∨ g = 9) (hE : a ≤ i → i < b → EnR (pt z i 0) v (if g = 8 then w else pt z i 8) (if g = 9 then w else pt z i 9)) : Ent (lay (lay z i f v) i g w) a b := by
  intro j h1 h2
  have hf12 : f < 12 := by omega
  have hg12 : g < 12 := by omega
  simp only [pt_lay hf12 (show 0 < 12 by decide), pt_lay hf12 (show 7 < 12 by decide), pt_lay hf12 (show 8 < 12 by decide), pt_lay hf12 (show 9 < 12 by decide), pt_lay hg12 (show 0 < 12 by decide), pt_lay hg12 (show 7 < 12 by decide), pt_lay hg12 (show 8 < 12 by decide), pt_lay hg12 (show 9 < 12 by decide)]
  subst hf
  by_cases hj : j = i
  · subst hj
    have := hE h1 h2
    rcases hg with hg | hg <;> subst hg <;> simpa using this
  · simpa [hj] using h j h1 h2 hj
theorem Ent.w8 {z : Zt} {a b i : Nat} {v : Int32} (h : Ent z a b) (hE : a ≤ i → i < b → EnR (pt z i 0) (pt z i 7) v (pt z i 9)) : Ent (lay z i 8 v) a b := by
  intro j h1 h2
  simp only [pt_lay (show 8 < 12 by decide) (show 0 < 12 by decide), pt_lay (show 8 < 12 by decide) (show 7 < 12 by decide), pt_lay (show 8 < 12 by decide) (show 8 < 12 by decide), pt_lay (show 8 < 12 by decide) (show 9 < 12 by decide)]
  by_cases hj : j = i
  · subst hj; simpa using hE h1 h2
  · simpa [hj] using h j h1 h2
theorem Inv0.row {z : Zt} {a b n i : Nat} (h : Inv0 z a b n) (hi : i < n) : WfR (pt z i 0) (pt z i 1) (pt z i 2) (pt z i 3) (pt z i 4) ∧ DsR (pt z i 0) (pt z i 5) := h.2.2.2.2.2.2.2.1 i hi
theorem Inv0.val {z : Zt} {a b n i : Nat} (h : Inv0 z a b n) (h1 : i < 24) : InR (pt z i 11) := h.2.2.2.2.2.2.2.2 i h1
theorem Inv0.reg {z : Zt} {a b n k : Nat} (h : Inv0 z a b n) (h1 : k < 8) : InR (z (12 + k)) := h.2.2.2.2.2.1 k h1
theorem Inv0.mem {z : Zt} {a b n k : Nat} (h : Inv0 z a b n) (h1 : k < 16) : InR (z (20 + k)) := h.2.2.2.2.2.2.1 k h1
theorem Inv0.bnd {z : Zt} {a b n : Nat} (h : Inv0 z a b n) : a ≤ b ∧ b ≤ n ∧ n ≤ 24 := h.2.2.2.1
theorem Inv0.h3 {z : Zt} {a b n : Nat} (h : Inv0 z a b n) : z 3 = nI a := h.1
theorem Inv0.h2 {z : Zt} {a b n : Nat} (h : Inv0 z a b n) : z 2 = nI b := h.2.1
theorem Inv0.h1 {z : Zt} {a b n : Nat} (h : Inv0 z a b n) : z 1 = nI n := h.2.2.1
theorem Inv0.i3 {z : Zt} {a b n : Nat} (h : Inv0 z a b n) : idx (z 3) = a := by rw [h.h3, idx_nI (by have := h.bnd; omega)]
theorem Inv0.i2 {z : Zt} {a b n : Nat} (h : Inv0 z a b n) : idx (z 2) = b := by rw [h.h2, idx_nI (by have := h.bnd; omega)]
theorem Inv0.i1 {z : Zt} {a b n : Nat} (h : Inv0 z a b n) : idx (z 1) = n := by rw [h.h1, idx_nI (by have := h.bnd; omega)]
theorem vlO_InR {z : Zt} {a b n i q : Nat} (h : Inv0 z a b n) (hi : i ≤ 24) (hq : q < 8) : InR (vlO z a i (nI q)) := by
  unfold vlO
  cases hm : mkr z a i (nI q) with
  | none => simp only [idx_nI (show q < 2147483648 by omega)]; exact h.reg hq
  | some k => have := mkr_lt hm; exact h.val (by omega)
theorem not_nI {a b : Nat} (ha : a < 2147483648) (hb : b < 2147483648) (h : ¬ a = b) : ¬ nI a = nI b := by rw [nI_eqI ha hb]; exact h
/-- of an instruction: what its kind says of its parts -/
theorem WfR.tgt {k t p q n : Int32} (h : WfR k t p q n) (hk : ¬ k = nI 4) : regOk t := by
  rcases h with ⟨_, h, _⟩ | ⟨_, h, _⟩ | ⟨_, h, _⟩ | ⟨h, _⟩
  · exact h
  · exact h
  · exact h
  · exact absurd h hk
theorem WfR.tgt4 {k t p q n : Int32} (h : WfR k t p q n) (hk : k = nI 4) : t = nM := by
  rcases h with ⟨h, _⟩ | ⟨h | h, _⟩ | ⟨h, _⟩ | ⟨_, h, _⟩
  · rw [hk] at h; exact absurd h (not_nI (by decide) (by decide) (by decide))
  · rw [hk] at h; exact absurd h (not_nI (by decide) (by decide) (by decide))
  · rw [hk] at h; exact absurd h (not_nI (by decide) (by decide) (by decide))
  · rw [hk] at h; exact absurd h (not_nI (by decide) (by decide) (by decide))
  · exact h
theorem WfR.k3 {k t p q n : Int32} (h : WfR k t p q n) (hk : k = nI 3) : regOk p ∧ q = nM ∧ ∃ o, o < 10 ∧ n = nI o := by
  rcases h with ⟨h, _⟩ | ⟨h | h, _⟩ | ⟨_, _, h⟩ | ⟨h, _⟩
  · rw [hk] at h; exact absurd h (not_nI (by decide) (by decide) (by decide))
  · rw [hk] at h; exact absurd h (not_nI (by decide) (by decide) (by decide))
  · rw [hk] at h; exact absurd h (not_nI (by decide) (by decide) (by decide))
  · exact h
  · rw [hk] at h; exact absurd h (not_nI (by decide) (by decide) (by decide))
theorem WfR.k4 {k t p q n : Int32} (h : WfR k t p q n) (hk : k = nI 4) : regOk p ∧ regOk q ∧ ∃ o, o < 10 ∧ n = nI o := by
  rcases h with ⟨h, _⟩ | ⟨h | h, _⟩ | ⟨h, _⟩ | ⟨_, _, h⟩
  · rw [hk] at h; exact absurd h (not_nI (by decide) (by decide) (by decide))
  · rw [hk] at h; exact absurd h (not_nI (by decide) (by decide) (by decide))
  · rw [hk] at h; exact absurd h (not_nI (by decide) (by decide) (by decide))
  · rw [hk] at h; exact absurd h (not_nI (by decide) (by decide) (by decide))
  · exact h
theorem WfR.k0 {k t p q n : Int32} (h : WfR k t p q n) (hk : k = nI 0) : p = nM ∧ q = nM ∧ SetOk n := by
  rcases h with ⟨_, _, h⟩ | ⟨h | h, _⟩ | ⟨h, _⟩ | ⟨h, _⟩
  · exact h
  · rw [hk] at h; exact absurd h (not_nI (by decide) (by decide) (by decide))
  · rw [hk] at h; exact absurd h (not_nI (by decide) (by decide) (by decide))
  · rw [hk] at h; exact absurd h (not_nI (by decide) (by decide) (by decide))
  · rw [hk] at h; exact absurd h (not_nI (by decide) (by decide) (by decide))
theorem WfR.k12 {k t p q n : Int32} (h : WfR k t p q n) (h0 : ¬ k = nI 0) (h3 : ¬ k = nI 3) (h4 : ¬ k = nI 4) : (k = nI 1 ∨ k = nI 2) ∧ regOk p ∧ regOk q ∧ n = nI 0 := by
  rcases h with ⟨h, _⟩ | ⟨h, _, h'⟩ | ⟨h, _⟩ | ⟨h, _⟩
  · exact absurd h h0
  · exact ⟨h, h'⟩
  · exact absurd h h3
  · exact absurd h h4

