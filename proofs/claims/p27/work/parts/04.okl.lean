theorem okP_ge {m pc : Nat} (h : (J m).1 ≤ pc) : okP m pc = true := by
  unfold okP I
  have h1 : Nat.blt pc (J m).1 = false := by
    cases hb : Nat.blt pc (J m).1
    · rfl
    · have := Nat.le_of_ble_eq_true hb; omega
  rw [h1]
  cases Nat.blt m 210 <;> rfl
set_option maxRecDepth 100000 in
theorem okL113_0 : (List.range 64).all (fun i => okP 113 (0 + i)) = true := by decide +kernel
set_option maxRecDepth 100000 in
theorem okL113_1 : (List.range 64).all (fun i => okP 113 (64 + i)) = true := by decide +kernel
set_option maxRecDepth 100000 in
theorem okL113_2 : (List.range 64).all (fun i => okP 113 (128 + i)) = true := by decide +kernel
set_option maxRecDepth 100000 in
theorem okL113_3 : (List.range 64).all (fun i => okP 113 (192 + i)) = true := by decide +kernel
set_option maxRecDepth 100000 in
theorem okL113_4 : (List.range 64).all (fun i => okP 113 (256 + i)) = true := by decide +kernel
set_option maxRecDepth 100000 in
theorem okL113_5 : (List.range 64).all (fun i => okP 113 (320 + i)) = true := by decide +kernel
set_option maxRecDepth 100000 in
theorem okL113_6 : (List.range 64).all (fun i => okP 113 (384 + i)) = true := by decide +kernel
set_option maxRecDepth 100000 in
theorem okL113_7 : (List.range 64).all (fun i => okP 113 (448 + i)) = true := by decide +kernel
