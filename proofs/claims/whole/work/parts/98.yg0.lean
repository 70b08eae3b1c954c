/-! the law's code checked -/
theorem kl_0 : am_ckN nL_law2 50 (nL_law2.1.2.2.1.drop 0) = true := by decide +kernel
theorem kl_1 : am_ckN nL_law2 50 (nL_law2.1.2.2.1.drop 50) = true := by decide +kernel
theorem kl_2 : am_ckN nL_law2 50 (nL_law2.1.2.2.1.drop 100) = true := by decide +kernel
theorem kl_3 : am_ckN nL_law2 50 (nL_law2.1.2.2.1.drop 150) = true := by decide +kernel
theorem kl_4 : am_ckN nL_law2 50 (nL_law2.1.2.2.1.drop 200) = true := by decide +kernel
theorem kl_5 : am_ckN nL_law2 50 (nL_law2.1.2.2.1.drop 250) = true := by decide +kernel
