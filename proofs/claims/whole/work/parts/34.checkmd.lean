/-! The links of methods checked. -/
theorem zz_1 : ev_md 14 53 = true := by decide +kernel
theorem zz_2 : ev_md 16 54 = true := by decide +kernel
theorem zz_3 : ev_md 14 59 = true := by decide +kernel
theorem zz_4 : ev_md 2 42 = true := by decide +kernel
theorem zz_5 : ev_md 14 227 = true := by decide +kernel
theorem zz_6 : ev_md 16 146 = true := by decide +kernel
theorem zz_7 : ev_md 0 199 = true := by decide +kernel
