/-! the law's code checked -/
theorem kl_12 : am_ckN nL_law2 50 (nL_law2.1.2.2.1.drop 600) = true := by decide +kernel
theorem kl_13 : am_ckN nL_law2 50 (nL_law2.1.2.2.1.drop 650) = true := by decide +kernel
theorem kl_14 : am_ckN nL_law2 50 (nL_law2.1.2.2.1.drop 700) = true := by decide +kernel
theorem kl_15 : am_ckN nL_law2 50 (nL_law2.1.2.2.1.drop 750) = true := by decide +kernel
theorem kl_16 : am_ckN nL_law2 50 (nL_law2.1.2.2.1.drop 800) = true := by decide +kernel
theorem kl_17 : am_ckN nL_law2 50 (nL_law2.1.2.2.1.drop 850) = true := by decide +kernel
