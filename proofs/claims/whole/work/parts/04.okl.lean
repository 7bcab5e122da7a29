theorem okP_ge {m pc : Nat} (h : (J m).1 ≤ pc) : okP m pc = true := by
  unfold okP I
  have h1 : Nat.blt pc (J m).1 = false := by
    cases hb : Nat.blt pc (J m).1
    · rfl
    · have := Nat.le_of_ble_eq_true hb; omega
  rw [h1]
  cases Nat.blt m 210 <;> rfl
set_option maxRecDepth 100000 in
theorem okL_0 : (List.range 64).all (fun i => okP 209 (0 + i)) = true := by decide +kernel
set_option maxRecDepth 100000 in
theorem okL_1 : (List.range 64).all (fun i => okP 209 (64 + i)) = true := by decide +kernel
set_option maxRecDepth 100000 in
theorem okL_2 : (List.range 64).all (fun i => okP 209 (128 + i)) = true := by decide +kernel
set_option maxRecDepth 100000 in
theorem okL_3 : (List.range 64).all (fun i => okP 209 (192 + i)) = true := by decide +kernel
set_option maxRecDepth 100000 in
theorem okL_4 : (List.range 64).all (fun i => okP 209 (256 + i)) = true := by decide +kernel
set_option maxRecDepth 100000 in
theorem okL_5 : (List.range 64).all (fun i => okP 209 (320 + i)) = true := by decide +kernel
set_option maxRecDepth 100000 in
theorem okL_6 : (List.range 64).all (fun i => okP 209 (384 + i)) = true := by decide +kernel
set_option maxRecDepth 100000 in
theorem okL_7 : (List.range 64).all (fun i => okP 209 (448 + i)) = true := by decide +kernel
set_option maxRecDepth 100000 in
theorem okL_8 : (List.range 64).all (fun i => okP 209 (512 + i)) = true := by decide +kernel
set_option maxRecDepth 100000 in
theorem okL_9 : (List.range 64).all (fun i => okP 209 (576 + i)) = true := by decide +kernel
set_option maxRecDepth 100000 in
theorem okL_10 : (List.range 64).all (fun i => okP 209 (640 + i)) = true := by decide +kernel
set_option maxRecDepth 100000 in
theorem okL_11 : (List.range 64).all (fun i => okP 209 (704 + i)) = true := by decide +kernel
set_option maxRecDepth 100000 in
theorem okL_12 : (List.range 64).all (fun i => okP 209 (768 + i)) = true := by decide +kernel
set_option maxRecDepth 100000 in
theorem okL_13 : (List.range 64).all (fun i => okP 209 (832 + i)) = true := by decide +kernel
set_option maxRecDepth 100000 in
theorem okL_14 : (List.range 64).all (fun i => okP 209 (896 + i)) = true := by decide +kernel
set_option maxRecDepth 100000 in
theorem okL_15 : (List.range 64).all (fun i => okP 209 (960 + i)) = true := by decide +kernel
set_option maxRecDepth 100000 in
theorem okL_16 : (List.range 64).all (fun i => okP 209 (1024 + i)) = true := by decide +kernel
set_option maxRecDepth 100000 in
theorem okL_17 : (List.range 64).all (fun i => okP 209 (1088 + i)) = true := by decide +kernel
set_option maxRecDepth 100000 in
theorem okL_18 : (List.range 64).all (fun i => okP 209 (1152 + i)) = true := by decide +kernel
set_option maxRecDepth 100000 in
theorem okL_19 : (List.range 64).all (fun i => okP 209 (1216 + i)) = true := by decide +kernel
set_option maxRecDepth 100000 in
theorem thr_1 : (Cond.initialized (excN 1) :: vx_atS RX4 186 (excN 1) excP).all (fun w => vx_ot w && decide (w ∈ lw_tbl)) = true := by decide +kernel
set_option maxRecDepth 100000 in
theorem thr_2 : (Cond.initialized (excN 2) :: vx_atS RX4 46 (excN 2) excP).all (fun w => vx_ot w && decide (w ∈ lw_tbl)) = true := by decide +kernel
set_option maxRecDepth 100000 in
theorem thr_3 : (Cond.initialized (excN 3) :: vx_atS RX4 81 (excN 3) excP).all (fun w => vx_ot w && decide (w ∈ lw_tbl)) = true := by decide +kernel
