/-! The tables checked. -/
theorem ev_cl_ok : ∀ ci, ci < 17 → ev_cl ci = true := by decide +kernel
theorem ev_nw_ok : ∀ cl, cl < 50 → ∀ x, x < 400 → ev_nw cl x = true := by decide +kernel
theorem ev_cc_ok : ∀ cl, cl < 50 → ∀ x, x < 400 → ev_cc cl x = true := by decide +kernel
theorem ev_ci_ok : ∀ cl, cl < 50 → ∀ x, x < 400 → ev_ci cl x = true := by decide +kernel
theorem ev_fd_ok : ∀ cl, cl < 50 → ∀ x, x < 400 → ev_fd cl x = true := by decide +kernel
theorem ev_yy_0 : ∀ y, y < 31 → ev_yy (0 + y) = true := by decide +kernel
theorem ev_yy_1 : ∀ y, y < 31 → ev_yy (31 + y) = true := by decide +kernel
theorem ev_yy_2 : ∀ y, y < 31 → ev_yy (62 + y) = true := by decide +kernel
theorem ev_yy_3 : ∀ y, y < 31 → ev_yy (93 + y) = true := by decide +kernel
theorem ev_yy_4 : ∀ y, y < 31 → ev_yy (124 + y) = true := by decide +kernel
theorem ev_yy_5 : ∀ y, y < 31 → ev_yy (155 + y) = true := by decide +kernel
theorem ev_yy_6 : ∀ y, y < 31 → ev_yy (186 + y) = true := by decide +kernel
theorem ev_yy_7 : ∀ y, y < 31 → ev_yy (217 + y) = true := by decide +kernel
theorem ev_yy_ok (y : Nat) (h : y < 243) : ev_yy y = true := by
  obtain ⟨k, r, hk, hr, rfl⟩ : ∃ k r, k < 8 ∧ r < 31 ∧ y = 31 * k + r := ⟨y / 31, y % 31, by omega, by omega, by omega⟩
  have h8 : k = 0 ∨ k = 1 ∨ k = 2 ∨ k = 3 ∨ k = 4 ∨ k = 5 ∨ k = 6 ∨ k = 7 := by omega
  rcases h8 with rfl | rfl | rfl | rfl | rfl | rfl | rfl | rfl
  · exact ev_yy_0 r hr
  · exact ev_yy_1 r hr
  · exact ev_yy_2 r hr
  · exact ev_yy_3 r hr
  · exact ev_yy_4 r hr
  · exact ev_yy_5 r hr
  · exact ev_yy_6 r hr
  · exact ev_yy_7 r hr
