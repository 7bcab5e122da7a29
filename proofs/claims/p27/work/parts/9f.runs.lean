/-! every script's run -/
theorem lawRuns : LawRuns := fun xs hb => by
  obtain ⟨f, ⟨o, μ'⟩, hr, ho, hN, hX⟩ := start (xs := xs) (μ := ((fun _ _ => 0), (fun _ _ => none), (fun _ _ => 0), 0, 0)) hb rfl rfl
  have ho : o = .inl (some (.int (nI 1))) := ho
  have hN : mN μ' = 387 := hN
  have hX : mX μ' = 0 := hX
  have hs : ssum 387 ≤ 7300668 := by decide +kernel
  refine ⟨f, μ', ?_, by omega, by rw [hN]; omega⟩
  rw [ho] at hr
  exact hr
