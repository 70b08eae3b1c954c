/-! the law's code checked -/
theorem kl_36 : am_ckN nL_law2 50 (nL_law2.1.2.2.1.drop 1800) = true := by decide +kernel
theorem kl_37 : am_ckN nL_law2 50 (nL_law2.1.2.2.1.drop 1850) = true := by decide +kernel
theorem kl_38 : am_ckN nL_law2 50 (nL_law2.1.2.2.1.drop 1900) = true := by decide +kernel
theorem kl_39 : am_ckN nL_law2 50 (nL_law2.1.2.2.1.drop 1950) = true := by decide +kernel
