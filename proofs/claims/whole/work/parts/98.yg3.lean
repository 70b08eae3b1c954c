/-! the law's code checked -/
theorem kl_18 : am_ckN nL_law2 50 (nL_law2.1.2.2.1.drop 900) = true := by decide +kernel
theorem kl_19 : am_ckN nL_law2 50 (nL_law2.1.2.2.1.drop 950) = true := by decide +kernel
theorem kl_20 : am_ckN nL_law2 50 (nL_law2.1.2.2.1.drop 1000) = true := by decide +kernel
theorem kl_21 : am_ckN nL_law2 50 (nL_law2.1.2.2.1.drop 1050) = true := by decide +kernel
theorem kl_22 : am_ckN nL_law2 50 (nL_law2.1.2.2.1.drop 1100) = true := by decide +kernel
theorem kl_23 : am_ckN nL_law2 50 (nL_law2.1.2.2.1.drop 1150) = true := by decide +kernel
