/-! The tables checked. -/
theorem ev_cl_ok : ∀ ci, ci < 17 → ev_cl ci = true := by decide +kernel
theorem ev_nw_ok : ∀ cl, cl < 50 → ∀ x, x < 400 → ev_nw cl x = true := by decide +kernel
theorem ev_cc_ok : ∀ cl, cl < 50 → ∀ x, x < 400 → ev_cc cl x = true := by decide +kernel
theorem ev_fd_ok : ∀ cl, cl < 50 → ∀ x, x < 400 → ev_fd cl x = true := by decide +kernel
