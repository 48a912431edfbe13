/-! How many: the model's answer. -/
theorem sp_mv_cases {w : Int32} (h : 0 ≤ w ∧ w ≤ 10) : ∃ n, n ≤ 10 ∧ w = ei n := by
  have h' : ei 0 ≤ w ∧ w ≤ ei 10 := h
  obtain ⟨n, -, hn, e⟩ := ei_rng (a := 0) (b := 10) (by decide) h' (by decide)
  exact ⟨n, hn, e⟩
