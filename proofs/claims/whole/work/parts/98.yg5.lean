/-! the law's code checked -/
theorem kl_30 : am_ckN nL_law2 50 (nL_law2.1.2.2.1.drop 1500) = true := by decide +kernel
theorem kl_31 : am_ckN nL_law2 50 (nL_law2.1.2.2.1.drop 1550) = true := by decide +kernel
theorem kl_32 : am_ckN nL_law2 50 (nL_law2.1.2.2.1.drop 1600) = true := by decide +kernel
theorem kl_33 : am_ckN nL_law2 50 (nL_law2.1.2.2.1.drop 1650) = true := by decide +kernel
theorem kl_34 : am_ckN nL_law2 50 (nL_law2.1.2.2.1.drop 1700) = true := by decide +kernel
theorem kl_35 : am_ckN nL_law2 50 (nL_law2.1.2.2.1.drop 1750) = true := by decide +kernel
