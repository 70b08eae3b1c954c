/-! a share compares equal to itself -/
theorem fl_c : ∀ a, a < 81 → ∀ b, b < 80 → Op.cmpValue (FP.dcmp (FP.f2d (FP.fdiv (FP.i2f (nI a)) (FP.i2f (nI (b + 1))))) (FP.f2d (FP.fdiv (FP.i2f (nI a)) (FP.i2f (nI (b + 1)))))) .l = 0 := by decide +kernel
theorem shr_c {K B e : Nat} {w : Wd} (h : ib_ K B e w) : Op.cmpValue (FP.dcmp (FP.f2d (p_shr w)) (FP.f2d (p_shr w))) .l = 0 := by
  have h80 := rc80 h
  have h4 := rc4 h
  have hl := p_ln_le (w := w) (p_rc w)
  have q := fl_c (p_ln w (p_rc w)) (by omega) (p_rc w - 1) (by omega)
  rw [show p_rc w - 1 + 1 = p_rc w by omega] at q
  exact q
