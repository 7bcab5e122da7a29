/-! the reference reads the buffer -/
/-- where the i-th instruction begins -/
def txB (tl : Nat × Zt) : Nat → Nat
  | 0 => 0
  | i + 1 => txX tl (tl.1 - txB tl i) (txB tl i)
/-- reading leaves all else alone -/
def TxG (I I' : In2) : Prop := ∀ a k, ¬ (a = 245 ∧ (k = 11 ∨ k = 12 ∨ k = 13)) → ¬ (250 ≤ a ∧ a ≤ 254) → I' a k = I a k
theorem TxG.q {I J J' : In2} {r : Nat} (h : TxG I J) (h' : TxQ J J' r) : TxG I J' := fun a k h1 h2 => (h' a k h1 (fun e => h2 e.1)).trans (h a k h1 h2)
/-- how things stand ahead of the character k -/
def TxT (tl : Nat × Zt) (I : In2) (k : Nat) : Prop :=
  4 * txK tl k ≤ txB tl (txK tl k) ∧ txB tl (txK tl k) ≤ k ∧ ¬ txS tl k = 0 ∧ (∀ j, txB tl (txK tl k) ≤ j → j < k → ¬ txC tl j = 59) ∧
  (∃ v g K T P O N, TxM I (txK tl k) v g K T P O N ∧ TxV tl (txS tl k) (txB tl (txK tl k)) k v g K T P O N) ∧
  ∀ i, i < txK tl k → TxR tl (txB tl i) (I 250 i) (I 251 i) (I 252 i) (I 253 i) (I 254 i)
