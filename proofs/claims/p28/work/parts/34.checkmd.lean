/-! The links of methods checked. -/
theorem ev_md_0_0 : ∀ x, x < 100 → ev_md 0 (0 + x) = true := by decide +kernel
theorem ev_md_0_1 : ∀ x, x < 100 → ev_md 0 (100 + x) = true := by decide +kernel
theorem ev_md_0_2 : ∀ x, x < 100 → ev_md 0 (200 + x) = true := by decide +kernel
theorem ev_md_0_3 : ∀ x, x < 100 → ev_md 0 (300 + x) = true := by decide +kernel
theorem ev_md_1_0 : ∀ x, x < 100 → ev_md 1 (0 + x) = true := by decide +kernel
theorem ev_md_1_1 : ∀ x, x < 100 → ev_md 1 (100 + x) = true := by decide +kernel
theorem ev_md_1_2 : ∀ x, x < 100 → ev_md 1 (200 + x) = true := by decide +kernel
theorem ev_md_1_3 : ∀ x, x < 100 → ev_md 1 (300 + x) = true := by decide +kernel
theorem ev_md_2_0 : ∀ x, x < 100 → ev_md 2 (0 + x) = true := by decide +kernel
theorem ev_md_2_1 : ∀ x, x < 100 → ev_md 2 (100 + x) = true := by decide +kernel
theorem ev_md_2_2 : ∀ x, x < 100 → ev_md 2 (200 + x) = true := by decide +kernel
theorem ev_md_2_3 : ∀ x, x < 100 → ev_md 2 (300 + x) = true := by decide +kernel
theorem ev_md_3_0 : ∀ x, x < 100 → ev_md 3 (0 + x) = true := by decide +kernel
theorem ev_md_3_1 : ∀ x, x < 100 → ev_md 3 (100 + x) = true := by decide +kernel
theorem ev_md_3_2 : ∀ x, x < 100 → ev_md 3 (200 + x) = true := by decide +kernel
theorem ev_md_3_3 : ∀ x, x < 100 → ev_md 3 (300 + x) = true := by decide +kernel
theorem ev_md_4_0 : ∀ x, x < 100 → ev_md 4 (0 + x) = true := by decide +kernel
theorem ev_md_4_1 : ∀ x, x < 100 → ev_md 4 (100 + x) = true := by decide +kernel
theorem ev_md_4_2 : ∀ x, x < 100 → ev_md 4 (200 + x) = true := by decide +kernel
theorem ev_md_4_3 : ∀ x, x < 100 → ev_md 4 (300 + x) = true := by decide +kernel
theorem ev_md_5_0 : ∀ x, x < 100 → ev_md 5 (0 + x) = true := by decide +kernel
theorem ev_md_5_1 : ∀ x, x < 100 → ev_md 5 (100 + x) = true := by decide +kernel
theorem ev_md_5_2 : ∀ x, x < 100 → ev_md 5 (200 + x) = true := by decide +kernel
theorem ev_md_5_3 : ∀ x, x < 100 → ev_md 5 (300 + x) = true := by decide +kernel
theorem ev_md_6_0 : ∀ x, x < 100 → ev_md 6 (0 + x) = true := by decide +kernel
theorem ev_md_6_1 : ∀ x, x < 100 → ev_md 6 (100 + x) = true := by decide +kernel
theorem ev_md_6_2 : ∀ x, x < 100 → ev_md 6 (200 + x) = true := by decide +kernel
theorem ev_md_6_3 : ∀ x, x < 100 → ev_md 6 (300 + x) = true := by decide +kernel
theorem ev_md_7_0 : ∀ x, x < 100 → ev_md 7 (0 + x) = true := by decide +kernel
theorem ev_md_7_1 : ∀ x, x < 100 → ev_md 7 (100 + x) = true := by decide +kernel
theorem ev_md_7_2 : ∀ x, x < 100 → ev_md 7 (200 + x) = true := by decide +kernel
theorem ev_md_7_3 : ∀ x, x < 100 → ev_md 7 (300 + x) = true := by decide +kernel
theorem ev_md_8_0 : ∀ x, x < 100 → ev_md 8 (0 + x) = true := by decide +kernel
theorem ev_md_8_1 : ∀ x, x < 100 → ev_md 8 (100 + x) = true := by decide +kernel
theorem ev_md_8_2 : ∀ x, x < 100 → ev_md 8 (200 + x) = true := by decide +kernel
theorem ev_md_8_3 : ∀ x, x < 100 → ev_md 8 (300 + x) = true := by decide +kernel
theorem ev_md_9_0 : ∀ x, x < 100 → ev_md 9 (0 + x) = true := by decide +kernel
theorem ev_md_9_1 : ∀ x, x < 100 → ev_md 9 (100 + x) = true := by decide +kernel
theorem ev_md_9_2 : ∀ x, x < 100 → ev_md 9 (200 + x) = true := by decide +kernel
theorem ev_md_9_3 : ∀ x, x < 100 → ev_md 9 (300 + x) = true := by decide +kernel
theorem ev_md_10_0 : ∀ x, x < 100 → ev_md 10 (0 + x) = true := by decide +kernel
theorem ev_md_10_1 : ∀ x, x < 100 → ev_md 10 (100 + x) = true := by decide +kernel
theorem ev_md_10_2 : ∀ x, x < 100 → ev_md 10 (200 + x) = true := by decide +kernel
theorem ev_md_10_3 : ∀ x, x < 100 → ev_md 10 (300 + x) = true := by decide +kernel
theorem ev_md_11_0 : ∀ x, x < 100 → ev_md 11 (0 + x) = true := by decide +kernel
theorem ev_md_11_1 : ∀ x, x < 100 → ev_md 11 (100 + x) = true := by decide +kernel
theorem ev_md_11_2 : ∀ x, x < 100 → ev_md 11 (200 + x) = true := by decide +kernel
theorem ev_md_11_3 : ∀ x, x < 100 → ev_md 11 (300 + x) = true := by decide +kernel
theorem ev_md_12_0 : ∀ x, x < 100 → ev_md 12 (0 + x) = true := by decide +kernel
theorem ev_md_12_1 : ∀ x, x < 100 → ev_md 12 (100 + x) = true := by decide +kernel
theorem ev_md_12_2 : ∀ x, x < 100 → ev_md 12 (200 + x) = true := by decide +kernel
theorem ev_md_12_3 : ∀ x, x < 100 → ev_md 12 (300 + x) = true := by decide +kernel
theorem ev_md_13_0 : ∀ x, x < 100 → ev_md 13 (0 + x) = true := by decide +kernel
theorem ev_md_13_1 : ∀ x, x < 100 → ev_md 13 (100 + x) = true := by decide +kernel
theorem ev_md_13_2 : ∀ x, x < 100 → ev_md 13 (200 + x) = true := by decide +kernel
theorem ev_md_13_3 : ∀ x, x < 100 → ev_md 13 (300 + x) = true := by decide +kernel
theorem ev_md_14_0 : ∀ x, x < 100 → ev_md 14 (0 + x) = true := by decide +kernel
theorem ev_md_14_1 : ∀ x, x < 100 → ev_md 14 (100 + x) = true := by decide +kernel
theorem ev_md_14_2 : ∀ x, x < 100 → ev_md 14 (200 + x) = true := by decide +kernel
theorem ev_md_14_3 : ∀ x, x < 100 → ev_md 14 (300 + x) = true := by decide +kernel
theorem ev_md_15_0 : ∀ x, x < 100 → ev_md 15 (0 + x) = true := by decide +kernel
theorem ev_md_15_1 : ∀ x, x < 100 → ev_md 15 (100 + x) = true := by decide +kernel
theorem ev_md_15_2 : ∀ x, x < 100 → ev_md 15 (200 + x) = true := by decide +kernel
theorem ev_md_15_3 : ∀ x, x < 100 → ev_md 15 (300 + x) = true := by decide +kernel
theorem ev_md_16_0 : ∀ x, x < 100 → ev_md 16 (0 + x) = true := by decide +kernel
theorem ev_md_16_1 : ∀ x, x < 100 → ev_md 16 (100 + x) = true := by decide +kernel
theorem ev_md_16_2 : ∀ x, x < 100 → ev_md 16 (200 + x) = true := by decide +kernel
theorem ev_md_16_3 : ∀ x, x < 100 → ev_md 16 (300 + x) = true := by decide +kernel
theorem ev_md_17_0 : ∀ x, x < 100 → ev_md 17 (0 + x) = true := by decide +kernel
theorem ev_md_17_1 : ∀ x, x < 100 → ev_md 17 (100 + x) = true := by decide +kernel
theorem ev_md_17_2 : ∀ x, x < 100 → ev_md 17 (200 + x) = true := by decide +kernel
theorem ev_md_17_3 : ∀ x, x < 100 → ev_md 17 (300 + x) = true := by decide +kernel
theorem ev_md_18_0 : ∀ x, x < 100 → ev_md 18 (0 + x) = true := by decide +kernel
theorem ev_md_18_1 : ∀ x, x < 100 → ev_md 18 (100 + x) = true := by decide +kernel
theorem ev_md_18_2 : ∀ x, x < 100 → ev_md 18 (200 + x) = true := by decide +kernel
theorem ev_md_18_3 : ∀ x, x < 100 → ev_md 18 (300 + x) = true := by decide +kernel
theorem ev_md_19_0 : ∀ x, x < 100 → ev_md 19 (0 + x) = true := by decide +kernel
theorem ev_md_19_1 : ∀ x, x < 100 → ev_md 19 (100 + x) = true := by decide +kernel
theorem ev_md_19_2 : ∀ x, x < 100 → ev_md 19 (200 + x) = true := by decide +kernel
theorem ev_md_19_3 : ∀ x, x < 100 → ev_md 19 (300 + x) = true := by decide +kernel
theorem ev_md_20_0 : ∀ x, x < 100 → ev_md 20 (0 + x) = true := by decide +kernel
theorem ev_md_20_1 : ∀ x, x < 100 → ev_md 20 (100 + x) = true := by decide +kernel
theorem ev_md_20_2 : ∀ x, x < 100 → ev_md 20 (200 + x) = true := by decide +kernel
theorem ev_md_20_3 : ∀ x, x < 100 → ev_md 20 (300 + x) = true := by decide +kernel
theorem ev_md_21_0 : ∀ x, x < 100 → ev_md 21 (0 + x) = true := by decide +kernel
theorem ev_md_21_1 : ∀ x, x < 100 → ev_md 21 (100 + x) = true := by decide +kernel
theorem ev_md_21_2 : ∀ x, x < 100 → ev_md 21 (200 + x) = true := by decide +kernel
theorem ev_md_21_3 : ∀ x, x < 100 → ev_md 21 (300 + x) = true := by decide +kernel
theorem ev_md_22_0 : ∀ x, x < 100 → ev_md 22 (0 + x) = true := by decide +kernel
theorem ev_md_22_1 : ∀ x, x < 100 → ev_md 22 (100 + x) = true := by decide +kernel
theorem ev_md_22_2 : ∀ x, x < 100 → ev_md 22 (200 + x) = true := by decide +kernel
theorem ev_md_22_3 : ∀ x, x < 100 → ev_md 22 (300 + x) = true := by decide +kernel
theorem ev_md_23_0 : ∀ x, x < 100 → ev_md 23 (0 + x) = true := by decide +kernel
theorem ev_md_23_1 : ∀ x, x < 100 → ev_md 23 (100 + x) = true := by decide +kernel
theorem ev_md_23_2 : ∀ x, x < 100 → ev_md 23 (200 + x) = true := by decide +kernel
theorem ev_md_23_3 : ∀ x, x < 100 → ev_md 23 (300 + x) = true := by decide +kernel
theorem ev_md_24_0 : ∀ x, x < 100 → ev_md 24 (0 + x) = true := by decide +kernel
theorem ev_md_24_1 : ∀ x, x < 100 → ev_md 24 (100 + x) = true := by decide +kernel
theorem ev_md_24_2 : ∀ x, x < 100 → ev_md 24 (200 + x) = true := by decide +kernel
theorem ev_md_24_3 : ∀ x, x < 100 → ev_md 24 (300 + x) = true := by decide +kernel
theorem ev_md_25_0 : ∀ x, x < 100 → ev_md 25 (0 + x) = true := by decide +kernel
theorem ev_md_25_1 : ∀ x, x < 100 → ev_md 25 (100 + x) = true := by decide +kernel
theorem ev_md_25_2 : ∀ x, x < 100 → ev_md 25 (200 + x) = true := by decide +kernel
theorem ev_md_25_3 : ∀ x, x < 100 → ev_md 25 (300 + x) = true := by decide +kernel
theorem ev_md_26_0 : ∀ x, x < 100 → ev_md 26 (0 + x) = true := by decide +kernel
theorem ev_md_26_1 : ∀ x, x < 100 → ev_md 26 (100 + x) = true := by decide +kernel
theorem ev_md_26_2 : ∀ x, x < 100 → ev_md 26 (200 + x) = true := by decide +kernel
theorem ev_md_26_3 : ∀ x, x < 100 → ev_md 26 (300 + x) = true := by decide +kernel
theorem ev_md_27_0 : ∀ x, x < 100 → ev_md 27 (0 + x) = true := by decide +kernel
theorem ev_md_27_1 : ∀ x, x < 100 → ev_md 27 (100 + x) = true := by decide +kernel
theorem ev_md_27_2 : ∀ x, x < 100 → ev_md 27 (200 + x) = true := by decide +kernel
theorem ev_md_27_3 : ∀ x, x < 100 → ev_md 27 (300 + x) = true := by decide +kernel
theorem ev_md_28_0 : ∀ x, x < 100 → ev_md 28 (0 + x) = true := by decide +kernel
theorem ev_md_28_1 : ∀ x, x < 100 → ev_md 28 (100 + x) = true := by decide +kernel
theorem ev_md_28_2 : ∀ x, x < 100 → ev_md 28 (200 + x) = true := by decide +kernel
theorem ev_md_28_3 : ∀ x, x < 100 → ev_md 28 (300 + x) = true := by decide +kernel
theorem ev_md_29_0 : ∀ x, x < 100 → ev_md 29 (0 + x) = true := by decide +kernel
theorem ev_md_29_1 : ∀ x, x < 100 → ev_md 29 (100 + x) = true := by decide +kernel
theorem ev_md_29_2 : ∀ x, x < 100 → ev_md 29 (200 + x) = true := by decide +kernel
theorem ev_md_29_3 : ∀ x, x < 100 → ev_md 29 (300 + x) = true := by decide +kernel
theorem ev_md_30_0 : ∀ x, x < 100 → ev_md 30 (0 + x) = true := by decide +kernel
theorem ev_md_30_1 : ∀ x, x < 100 → ev_md 30 (100 + x) = true := by decide +kernel
theorem ev_md_30_2 : ∀ x, x < 100 → ev_md 30 (200 + x) = true := by decide +kernel
theorem ev_md_30_3 : ∀ x, x < 100 → ev_md 30 (300 + x) = true := by decide +kernel
theorem ev_md_31_0 : ∀ x, x < 100 → ev_md 31 (0 + x) = true := by decide +kernel
theorem ev_md_31_1 : ∀ x, x < 100 → ev_md 31 (100 + x) = true := by decide +kernel
theorem ev_md_31_2 : ∀ x, x < 100 → ev_md 31 (200 + x) = true := by decide +kernel
theorem ev_md_31_3 : ∀ x, x < 100 → ev_md 31 (300 + x) = true := by decide +kernel
theorem ev_md_32_0 : ∀ x, x < 100 → ev_md 32 (0 + x) = true := by decide +kernel
theorem ev_md_32_1 : ∀ x, x < 100 → ev_md 32 (100 + x) = true := by decide +kernel
theorem ev_md_32_2 : ∀ x, x < 100 → ev_md 32 (200 + x) = true := by decide +kernel
theorem ev_md_32_3 : ∀ x, x < 100 → ev_md 32 (300 + x) = true := by decide +kernel
theorem ev_md_33_0 : ∀ x, x < 100 → ev_md 33 (0 + x) = true := by decide +kernel
theorem ev_md_33_1 : ∀ x, x < 100 → ev_md 33 (100 + x) = true := by decide +kernel
theorem ev_md_33_2 : ∀ x, x < 100 → ev_md 33 (200 + x) = true := by decide +kernel
theorem ev_md_33_3 : ∀ x, x < 100 → ev_md 33 (300 + x) = true := by decide +kernel
theorem ev_md_34_0 : ∀ x, x < 100 → ev_md 34 (0 + x) = true := by decide +kernel
theorem ev_md_34_1 : ∀ x, x < 100 → ev_md 34 (100 + x) = true := by decide +kernel
theorem ev_md_34_2 : ∀ x, x < 100 → ev_md 34 (200 + x) = true := by decide +kernel
theorem ev_md_34_3 : ∀ x, x < 100 → ev_md 34 (300 + x) = true := by decide +kernel
theorem ev_md_35_0 : ∀ x, x < 100 → ev_md 35 (0 + x) = true := by decide +kernel
theorem ev_md_35_1 : ∀ x, x < 100 → ev_md 35 (100 + x) = true := by decide +kernel
theorem ev_md_35_2 : ∀ x, x < 100 → ev_md 35 (200 + x) = true := by decide +kernel
theorem ev_md_35_3 : ∀ x, x < 100 → ev_md 35 (300 + x) = true := by decide +kernel
theorem ev_md_36_0 : ∀ x, x < 100 → ev_md 36 (0 + x) = true := by decide +kernel
theorem ev_md_36_1 : ∀ x, x < 100 → ev_md 36 (100 + x) = true := by decide +kernel
theorem ev_md_36_2 : ∀ x, x < 100 → ev_md 36 (200 + x) = true := by decide +kernel
theorem ev_md_36_3 : ∀ x, x < 100 → ev_md 36 (300 + x) = true := by decide +kernel
theorem ev_md_37_0 : ∀ x, x < 100 → ev_md 37 (0 + x) = true := by decide +kernel
theorem ev_md_37_1 : ∀ x, x < 100 → ev_md 37 (100 + x) = true := by decide +kernel
theorem ev_md_37_2 : ∀ x, x < 100 → ev_md 37 (200 + x) = true := by decide +kernel
theorem ev_md_37_3 : ∀ x, x < 100 → ev_md 37 (300 + x) = true := by decide +kernel
theorem ev_md_38_0 : ∀ x, x < 100 → ev_md 38 (0 + x) = true := by decide +kernel
theorem ev_md_38_1 : ∀ x, x < 100 → ev_md 38 (100 + x) = true := by decide +kernel
theorem ev_md_38_2 : ∀ x, x < 100 → ev_md 38 (200 + x) = true := by decide +kernel
theorem ev_md_38_3 : ∀ x, x < 100 → ev_md 38 (300 + x) = true := by decide +kernel
theorem ev_md_39_0 : ∀ x, x < 100 → ev_md 39 (0 + x) = true := by decide +kernel
theorem ev_md_39_1 : ∀ x, x < 100 → ev_md 39 (100 + x) = true := by decide +kernel
theorem ev_md_39_2 : ∀ x, x < 100 → ev_md 39 (200 + x) = true := by decide +kernel
theorem ev_md_39_3 : ∀ x, x < 100 → ev_md 39 (300 + x) = true := by decide +kernel
theorem ev_md_40_0 : ∀ x, x < 100 → ev_md 40 (0 + x) = true := by decide +kernel
theorem ev_md_40_1 : ∀ x, x < 100 → ev_md 40 (100 + x) = true := by decide +kernel
theorem ev_md_40_2 : ∀ x, x < 100 → ev_md 40 (200 + x) = true := by decide +kernel
theorem ev_md_40_3 : ∀ x, x < 100 → ev_md 40 (300 + x) = true := by decide +kernel
theorem ev_md_41_0 : ∀ x, x < 100 → ev_md 41 (0 + x) = true := by decide +kernel
theorem ev_md_41_1 : ∀ x, x < 100 → ev_md 41 (100 + x) = true := by decide +kernel
theorem ev_md_41_2 : ∀ x, x < 100 → ev_md 41 (200 + x) = true := by decide +kernel
theorem ev_md_41_3 : ∀ x, x < 100 → ev_md 41 (300 + x) = true := by decide +kernel
theorem ev_md_42_0 : ∀ x, x < 100 → ev_md 42 (0 + x) = true := by decide +kernel
theorem ev_md_42_1 : ∀ x, x < 100 → ev_md 42 (100 + x) = true := by decide +kernel
theorem ev_md_42_2 : ∀ x, x < 100 → ev_md 42 (200 + x) = true := by decide +kernel
theorem ev_md_42_3 : ∀ x, x < 100 → ev_md 42 (300 + x) = true := by decide +kernel
theorem ev_md_43_0 : ∀ x, x < 100 → ev_md 43 (0 + x) = true := by decide +kernel
theorem ev_md_43_1 : ∀ x, x < 100 → ev_md 43 (100 + x) = true := by decide +kernel
theorem ev_md_43_2 : ∀ x, x < 100 → ev_md 43 (200 + x) = true := by decide +kernel
theorem ev_md_43_3 : ∀ x, x < 100 → ev_md 43 (300 + x) = true := by decide +kernel
theorem ev_md_44_0 : ∀ x, x < 100 → ev_md 44 (0 + x) = true := by decide +kernel
theorem ev_md_44_1 : ∀ x, x < 100 → ev_md 44 (100 + x) = true := by decide +kernel
theorem ev_md_44_2 : ∀ x, x < 100 → ev_md 44 (200 + x) = true := by decide +kernel
theorem ev_md_44_3 : ∀ x, x < 100 → ev_md 44 (300 + x) = true := by decide +kernel
theorem ev_md_45_0 : ∀ x, x < 100 → ev_md 45 (0 + x) = true := by decide +kernel
theorem ev_md_45_1 : ∀ x, x < 100 → ev_md 45 (100 + x) = true := by decide +kernel
theorem ev_md_45_2 : ∀ x, x < 100 → ev_md 45 (200 + x) = true := by decide +kernel
theorem ev_md_45_3 : ∀ x, x < 100 → ev_md 45 (300 + x) = true := by decide +kernel
theorem ev_md_46_0 : ∀ x, x < 100 → ev_md 46 (0 + x) = true := by decide +kernel
theorem ev_md_46_1 : ∀ x, x < 100 → ev_md 46 (100 + x) = true := by decide +kernel
theorem ev_md_46_2 : ∀ x, x < 100 → ev_md 46 (200 + x) = true := by decide +kernel
theorem ev_md_46_3 : ∀ x, x < 100 → ev_md 46 (300 + x) = true := by decide +kernel
theorem ev_md_47_0 : ∀ x, x < 100 → ev_md 47 (0 + x) = true := by decide +kernel
theorem ev_md_47_1 : ∀ x, x < 100 → ev_md 47 (100 + x) = true := by decide +kernel
theorem ev_md_47_2 : ∀ x, x < 100 → ev_md 47 (200 + x) = true := by decide +kernel
theorem ev_md_47_3 : ∀ x, x < 100 → ev_md 47 (300 + x) = true := by decide +kernel
theorem ev_md_48_0 : ∀ x, x < 100 → ev_md 48 (0 + x) = true := by decide +kernel
theorem ev_md_48_1 : ∀ x, x < 100 → ev_md 48 (100 + x) = true := by decide +kernel
theorem ev_md_48_2 : ∀ x, x < 100 → ev_md 48 (200 + x) = true := by decide +kernel
theorem ev_md_48_3 : ∀ x, x < 100 → ev_md 48 (300 + x) = true := by decide +kernel
theorem ev_md_49_0 : ∀ x, x < 100 → ev_md 49 (0 + x) = true := by decide +kernel
theorem ev_md_49_1 : ∀ x, x < 100 → ev_md 49 (100 + x) = true := by decide +kernel
theorem ev_md_49_2 : ∀ x, x < 100 → ev_md 49 (200 + x) = true := by decide +kernel
theorem ev_md_49_3 : ∀ x, x < 100 → ev_md 49 (300 + x) = true := by decide +kernel
theorem ev_md_ok (cl : Nat) (h : cl < 50) (x : Nat) (hx : x < 400) : ev_md cl x = true := by
  obtain ⟨k, r, hk, hr, rfl⟩ : ∃ k r, k < 4 ∧ r < 100 ∧ x = 100 * k + r := ⟨x / 100, x % 100, by omega, by omega, by omega⟩
  have h4 : k = 0 ∨ k = 1 ∨ k = 2 ∨ k = 3 := by omega
  have hc : cl = 0 ∨ cl = 1 ∨ cl = 2 ∨ cl = 3 ∨ cl = 4 ∨ cl = 5 ∨ cl = 6 ∨ cl = 7 ∨ cl = 8 ∨ cl = 9 ∨ cl = 10 ∨ cl = 11 ∨ cl = 12 ∨ cl = 13 ∨ cl = 14 ∨ cl = 15 ∨ cl = 16 ∨ cl = 17 ∨ cl = 18 ∨ cl = 19 ∨ cl = 20 ∨ cl = 21 ∨ cl = 22 ∨ cl = 23 ∨ cl = 24 ∨ cl = 25 ∨ cl = 26 ∨ cl = 27 ∨ cl = 28 ∨ cl = 29 ∨ cl = 30 ∨ cl = 31 ∨ cl = 32 ∨ cl = 33 ∨ cl = 34 ∨ cl = 35 ∨ cl = 36 ∨ cl = 37 ∨ cl = 38 ∨ cl = 39 ∨ cl = 40 ∨ cl = 41 ∨ cl = 42 ∨ cl = 43 ∨ cl = 44 ∨ cl = 45 ∨ cl = 46 ∨ cl = 47 ∨ cl = 48 ∨ cl = 49 := by omega
  rcases h4 with rfl | rfl | rfl | rfl
  · rcases hc with rfl | rfl | rfl | rfl | rfl | rfl | rfl | rfl | rfl | rfl | rfl | rfl | rfl | rfl | rfl | rfl | rfl | rfl | rfl | rfl | rfl | rfl | rfl | rfl | rfl | rfl | rfl | rfl | rfl | rfl | rfl | rfl | rfl | rfl | rfl | rfl | rfl | rfl | rfl | rfl | rfl | rfl | rfl | rfl | rfl | rfl | rfl | rfl | rfl | rfl
    · exact ev_md_0_0 r hr
    · exact ev_md_1_0 r hr
    · exact ev_md_2_0 r hr
    · exact ev_md_3_0 r hr
    · exact ev_md_4_0 r hr
    · exact ev_md_5_0 r hr
    · exact ev_md_6_0 r hr
    · exact ev_md_7_0 r hr
    · exact ev_md_8_0 r hr
    · exact ev_md_9_0 r hr
    · exact ev_md_10_0 r hr
    · exact ev_md_11_0 r hr
    · exact ev_md_12_0 r hr
    · exact ev_md_13_0 r hr
    · exact ev_md_14_0 r hr
    · exact ev_md_15_0 r hr
    · exact ev_md_16_0 r hr
    · exact ev_md_17_0 r hr
    · exact ev_md_18_0 r hr
    · exact ev_md_19_0 r hr
    · exact ev_md_20_0 r hr
    · exact ev_md_21_0 r hr
    · exact ev_md_22_0 r hr
    · exact ev_md_23_0 r hr
    · exact ev_md_24_0 r hr
    · exact ev_md_25_0 r hr
    · exact ev_md_26_0 r hr
    · exact ev_md_27_0 r hr
    · exact ev_md_28_0 r hr
    · exact ev_md_29_0 r hr
    · exact ev_md_30_0 r hr
    · exact ev_md_31_0 r hr
    · exact ev_md_32_0 r hr
    · exact ev_md_33_0 r hr
    · exact ev_md_34_0 r hr
    · exact ev_md_35_0 r hr
    · exact ev_md_36_0 r hr
    · exact ev_md_37_0 r hr
    · exact ev_md_38_0 r hr
    · exact ev_md_39_0 r hr
    · exact ev_md_40_0 r hr
    · exact ev_md_41_0 r hr
    · exact ev_md_42_0 r hr
    · exact ev_md_43_0 r hr
    · exact ev_md_44_0 r hr
    · exact ev_md_45_0 r hr
    · exact ev_md_46_0 r hr
    · exact ev_md_47_0 r hr
    · exact ev_md_48_0 r hr
    · exact ev_md_49_0 r hr
  · rcases hc with rfl | rfl | rfl | rfl | rfl | rfl | rfl | rfl | rfl | rfl | rfl | rfl | rfl | rfl | rfl | rfl | rfl | rfl | rfl | rfl | rfl | rfl | rfl | rfl | rfl | rfl | rfl | rfl | rfl | rfl | rfl | rfl | rfl | rfl | rfl | rfl | rfl | rfl | rfl | rfl | rfl | rfl | rfl | rfl | rfl | rfl | rfl | rfl | rfl | rfl
    · exact ev_md_0_1 r hr
    · exact ev_md_1_1 r hr
    · exact ev_md_2_1 r hr
    · exact ev_md_3_1 r hr
    · exact ev_md_4_1 r hr
    · exact ev_md_5_1 r hr
    · exact ev_md_6_1 r hr
    · exact ev_md_7_1 r hr
    · exact ev_md_8_1 r hr
    · exact ev_md_9_1 r hr
    · exact ev_md_10_1 r hr
    · exact ev_md_11_1 r hr
    · exact ev_md_12_1 r hr
    · exact ev_md_13_1 r hr
    · exact ev_md_14_1 r hr
    · exact ev_md_15_1 r hr
    · exact ev_md_16_1 r hr
    · exact ev_md_17_1 r hr
    · exact ev_md_18_1 r hr
    · exact ev_md_19_1 r hr
    · exact ev_md_20_1 r hr
    · exact ev_md_21_1 r hr
    · exact ev_md_22_1 r hr
    · exact ev_md_23_1 r hr
    · exact ev_md_24_1 r hr
    · exact ev_md_25_1 r hr
    · exact ev_md_26_1 r hr
    · exact ev_md_27_1 r hr
    · exact ev_md_28_1 r hr
    · exact ev_md_29_1 r hr
    · exact ev_md_30_1 r hr
    · exact ev_md_31_1 r hr
    · exact ev_md_32_1 r hr
    · exact ev_md_33_1 r hr
    · exact ev_md_34_1 r hr
    · exact ev_md_35_1 r hr
    · exact ev_md_36_1 r hr
    · exact ev_md_37_1 r hr
    · exact ev_md_38_1 r hr
    · exact ev_md_39_1 r hr
    · exact ev_md_40_1 r hr
    · exact ev_md_41_1 r hr
    · exact ev_md_42_1 r hr
    · exact ev_md_43_1 r hr
    · exact ev_md_44_1 r hr
    · exact ev_md_45_1 r hr
    · exact ev_md_46_1 r hr
    · exact ev_md_47_1 r hr
    · exact ev_md_48_1 r hr
    · exact ev_md_49_1 r hr
  · rcases hc with rfl | rfl | rfl | rfl | rfl | rfl | rfl | rfl | rfl | rfl | rfl | rfl | rfl | rfl | rfl | rfl | rfl | rfl | rfl | rfl | rfl | rfl | rfl | rfl | rfl | rfl | rfl | rfl | rfl | rfl | rfl | rfl | rfl | rfl | rfl | rfl | rfl | rfl | rfl | rfl | rfl | rfl | rfl | rfl | rfl | rfl | rfl | rfl | rfl | rfl
    · exact ev_md_0_2 r hr
    · exact ev_md_1_2 r hr
    · exact ev_md_2_2 r hr
    · exact ev_md_3_2 r hr
    · exact ev_md_4_2 r hr
    · exact ev_md_5_2 r hr
    · exact ev_md_6_2 r hr
    · exact ev_md_7_2 r hr
    · exact ev_md_8_2 r hr
    · exact ev_md_9_2 r hr
    · exact ev_md_10_2 r hr
    · exact ev_md_11_2 r hr
    · exact ev_md_12_2 r hr
    · exact ev_md_13_2 r hr
    · exact ev_md_14_2 r hr
    · exact ev_md_15_2 r hr
    · exact ev_md_16_2 r hr
    · exact ev_md_17_2 r hr
    · exact ev_md_18_2 r hr
    · exact ev_md_19_2 r hr
    · exact ev_md_20_2 r hr
    · exact ev_md_21_2 r hr
    · exact ev_md_22_2 r hr
    · exact ev_md_23_2 r hr
    · exact ev_md_24_2 r hr
    · exact ev_md_25_2 r hr
    · exact ev_md_26_2 r hr
    · exact ev_md_27_2 r hr
    · exact ev_md_28_2 r hr
    · exact ev_md_29_2 r hr
    · exact ev_md_30_2 r hr
    · exact ev_md_31_2 r hr
    · exact ev_md_32_2 r hr
    · exact ev_md_33_2 r hr
    · exact ev_md_34_2 r hr
    · exact ev_md_35_2 r hr
    · exact ev_md_36_2 r hr
    · exact ev_md_37_2 r hr
    · exact ev_md_38_2 r hr
    · exact ev_md_39_2 r hr
    · exact ev_md_40_2 r hr
    · exact ev_md_41_2 r hr
    · exact ev_md_42_2 r hr
    · exact ev_md_43_2 r hr
    · exact ev_md_44_2 r hr
    · exact ev_md_45_2 r hr
    · exact ev_md_46_2 r hr
    · exact ev_md_47_2 r hr
    · exact ev_md_48_2 r hr
    · exact ev_md_49_2 r hr
  · rcases hc with rfl | rfl | rfl | rfl | rfl | rfl | rfl | rfl | rfl | rfl | rfl | rfl | rfl | rfl | rfl | rfl | rfl | rfl | rfl | rfl | rfl | rfl | rfl | rfl | rfl | rfl | rfl | rfl | rfl | rfl | rfl | rfl | rfl | rfl | rfl | rfl | rfl | rfl | rfl | rfl | rfl | rfl | rfl | rfl | rfl | rfl | rfl | rfl | rfl | rfl
    · exact ev_md_0_3 r hr
    · exact ev_md_1_3 r hr
    · exact ev_md_2_3 r hr
    · exact ev_md_3_3 r hr
    · exact ev_md_4_3 r hr
    · exact ev_md_5_3 r hr
    · exact ev_md_6_3 r hr
    · exact ev_md_7_3 r hr
    · exact ev_md_8_3 r hr
    · exact ev_md_9_3 r hr
    · exact ev_md_10_3 r hr
    · exact ev_md_11_3 r hr
    · exact ev_md_12_3 r hr
    · exact ev_md_13_3 r hr
    · exact ev_md_14_3 r hr
    · exact ev_md_15_3 r hr
    · exact ev_md_16_3 r hr
    · exact ev_md_17_3 r hr
    · exact ev_md_18_3 r hr
    · exact ev_md_19_3 r hr
    · exact ev_md_20_3 r hr
    · exact ev_md_21_3 r hr
    · exact ev_md_22_3 r hr
    · exact ev_md_23_3 r hr
    · exact ev_md_24_3 r hr
    · exact ev_md_25_3 r hr
    · exact ev_md_26_3 r hr
    · exact ev_md_27_3 r hr
    · exact ev_md_28_3 r hr
    · exact ev_md_29_3 r hr
    · exact ev_md_30_3 r hr
    · exact ev_md_31_3 r hr
    · exact ev_md_32_3 r hr
    · exact ev_md_33_3 r hr
    · exact ev_md_34_3 r hr
    · exact ev_md_35_3 r hr
    · exact ev_md_36_3 r hr
    · exact ev_md_37_3 r hr
    · exact ev_md_38_3 r hr
    · exact ev_md_39_3 r hr
    · exact ev_md_40_3 r hr
    · exact ev_md_41_3 r hr
    · exact ev_md_42_3 r hr
    · exact ev_md_43_3 r hr
    · exact ev_md_44_3 r hr
    · exact ev_md_45_3 r hr
    · exact ev_md_46_3 r hr
    · exact ev_md_47_3 r hr
    · exact ev_md_48_3 r hr
    · exact ev_md_49_3 r hr
