/-! the word of the longest method: its code isn't compared byte for byte -/
set_option maxRecDepth 100000 in
set_option maxHeartbeats 4000000 in
theorem cw_118 : lw_tbl[wM 118 0]? = some (.code (yM 118) (cM 118) (xM 118) (rM 118)) := by rfl
set_option maxRecDepth 100000 in
theorem okY_118 : okY 118 = true := by
  have hh : hM 118 = [] := by decide +kernel
  have h1 : gw (wM 118 0) (.code (yM 118) (cM 118) (xM 118) (rM 118)) = true := by
    unfold gw
    rw [cw_118, decide_eq_true rfl, Bool.true_and]
    rfl
  unfold okY
  rw [hh]
  dsimp only
  rw [h1, Bool.true_and]
  decide +kernel
