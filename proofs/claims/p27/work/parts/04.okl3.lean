set_option maxRecDepth 100000 in
theorem okY_113 : okY 113 = true := by decide +kernel
