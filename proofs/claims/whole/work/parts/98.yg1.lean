/-! the law's code checked -/
theorem kl_6 : am_ckN nL_law2 50 (nL_law2.1.2.2.1.drop 300) = true := by decide +kernel
theorem kl_7 : am_ckN nL_law2 50 (nL_law2.1.2.2.1.drop 350) = true := by decide +kernel
theorem kl_8 : am_ckN nL_law2 50 (nL_law2.1.2.2.1.drop 400) = true := by decide +kernel
theorem kl_9 : am_ckN nL_law2 50 (nL_law2.1.2.2.1.drop 450) = true := by decide +kernel
theorem kl_10 : am_ckN nL_law2 50 (nL_law2.1.2.2.1.drop 500) = true := by decide +kernel
theorem kl_11 : am_ckN nL_law2 50 (nL_law2.1.2.2.1.drop 550) = true := by decide +kernel
