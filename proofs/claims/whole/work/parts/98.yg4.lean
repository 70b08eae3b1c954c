/-! the law's code checked -/
theorem kl_24 : am_ckN nL_law2 50 (nL_law2.1.2.2.1.drop 1200) = true := by decide +kernel
theorem kl_25 : am_ckN nL_law2 50 (nL_law2.1.2.2.1.drop 1250) = true := by decide +kernel
theorem kl_26 : am_ckN nL_law2 50 (nL_law2.1.2.2.1.drop 1300) = true := by decide +kernel
theorem kl_27 : am_ckN nL_law2 50 (nL_law2.1.2.2.1.drop 1350) = true := by decide +kernel
theorem kl_28 : am_ckN nL_law2 50 (nL_law2.1.2.2.1.drop 1400) = true := by decide +kernel
theorem kl_29 : am_ckN nL_law2 50 (nL_law2.1.2.2.1.drop 1450) = true := by decide +kernel
