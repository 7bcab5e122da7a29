set_option maxRecDepth 100000 in
theorem okL118_0 : (List.range 64).all (fun i => okP 118 (0 + i)) = true := by decide +kernel
set_option maxRecDepth 100000 in
theorem okL118_1 : (List.range 64).all (fun i => okP 118 (64 + i)) = true := by decide +kernel
set_option maxRecDepth 100000 in
theorem okL118_2 : (List.range 64).all (fun i => okP 118 (128 + i)) = true := by decide +kernel
set_option maxRecDepth 100000 in
theorem okL118_3 : (List.range 64).all (fun i => okP 118 (192 + i)) = true := by decide +kernel
set_option maxRecDepth 100000 in
theorem okL118_4 : (List.range 64).all (fun i => okP 118 (256 + i)) = true := by decide +kernel
set_option maxRecDepth 100000 in
theorem okL118_5 : (List.range 64).all (fun i => okP 118 (320 + i)) = true := by decide +kernel
set_option maxRecDepth 100000 in
theorem okL118_6 : (List.range 64).all (fun i => okP 118 (384 + i)) = true := by decide +kernel
set_option maxRecDepth 100000 in
theorem okL118_7 : (List.range 64).all (fun i => okP 118 (448 + i)) = true := by decide +kernel
set_option maxRecDepth 100000 in
theorem okL118_8 : (List.range 64).all (fun i => okP 118 (512 + i)) = true := by decide +kernel
set_option maxRecDepth 100000 in
theorem okL118_9 : (List.range 64).all (fun i => okP 118 (576 + i)) = true := by decide +kernel
set_option maxRecDepth 100000 in
theorem okL118_10 : (List.range 64).all (fun i => okP 118 (640 + i)) = true := by decide +kernel
set_option maxRecDepth 100000 in
theorem okL118_11 : (List.range 64).all (fun i => okP 118 (704 + i)) = true := by decide +kernel
set_option maxRecDepth 100000 in
theorem okL118_12 : (List.range 64).all (fun i => okP 118 (768 + i)) = true := by decide +kernel
set_option maxRecDepth 100000 in
theorem thr_1 : (Cond.initialized (excN 1) :: vx_atS RX4 186 (excN 1) excP).all (fun w => vx_ot w && decide (w ∈ lw_tbl)) = true := by decide +kernel
set_option maxRecDepth 100000 in
theorem thr_2 : (Cond.initialized (excN 2) :: vx_atS RX4 46 (excN 2) excP).all (fun w => vx_ot w && decide (w ∈ lw_tbl)) = true := by decide +kernel
set_option maxRecDepth 100000 in
theorem thr_3 : (Cond.initialized (excN 3) :: vx_atS RX4 81 (excN 3) excP).all (fun w => vx_ot w && decide (w ∈ lw_tbl)) = true := by decide +kernel
