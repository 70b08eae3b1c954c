/-! shares: both sides -/
theorem fl_t : ∀ a, a < 81 → ∀ b, b < 80 → FP.fdiv (FP.i2f (nI a)) (FP.i2f (nI (b + 1))) &&& 0x7fffffff ≤ 0x7f800000 ∧ FP.f2d (FP.fdiv (FP.i2f (nI a)) (FP.i2f (nI (b + 1)))) &&& 0x7fffffffffffffff ≤ 0x7ff0000000000000 := by decide +kernel
theorem nan_b (x : UInt64) (h : FP.Core.decode FP.Core.b64 x.toNat ≠ .nan) : x &&& 0x7fffffffffffffff ≤ 0x7ff0000000000000 := by
  rw [UInt64.le_iff_toNat_le, UInt64.toNat_and]
  show x.toNat &&& (2 ^ 63 - 1) ≤ 0x7ff0000000000000
  rw [Nat.and_two_pow_sub_one_eq_mod]
  have eE : FP.Core.fieldE FP.Core.b64 x.toNat = x.toNat / 2 ^ 52 % 2 ^ 11 := rfl
  have eT : FP.Core.fieldT FP.Core.b64 x.toNat = x.toNat % 2 ^ 52 := rfl
  have eX : FP.Core.b64.exps - 1 = 2047 := rfl
  unfold FP.Core.decode at h
  rw [eE, eT, eX] at h
  by_cases e : x.toNat / 2 ^ 52 % 2 ^ 11 = 2047
  · rw [if_pos e] at h
    by_cases t : x.toNat % 2 ^ 52 = 0
    · omega
    · rw [if_neg t] at h
      exact absurd rfl h
  · omega
theorem rr_n {f : FP.Core.Fmt} {s : Bool} {c d : Nat} {q : Int} : FP.Core.roundRatio f s c d q ≠ .nan := by
  have hb : ∀ c q, FP.Core.bound f s c q ≠ .nan := fun c q h => by
    unfold FP.Core.bound at h
    split at h <;> cases h
  unfold FP.Core.roundRatio FP.Core.roundAt FP.Core.settle
  split
  · intro h; cases h
  · split
    · exact hb _ _
    · exact hb _ _
theorem dd_t : ∀ b, b < 80 → (match FP.Core.decode FP.Core.b64 (FP.i2d (nI (b + 1))).toNat with | .fin _ d _ => decide (d ≠ 0) | _ => false) = true := by decide +kernel
