/-! how many digits: the class's text builder -/
section SZ
variable {A A' : As_} {hi h h1 : HI} {x x1 : AX} {K G : Nat}
theorem C_sz {v : Nat} (hv : v < 10 ^ 9) : ∀ f j F, f + j = 8 → f < F → sh_J6_stringSize_0f7a4_16 G F (-nI v) 0 (-nI (10 ^ (j + 1))) (nI (j + 1)) = some (nI (p_dg v f j)) := fun f => by
  induction f with
  | zero =>
    intro j F hj hF
    obtain ⟨F, rfl⟩ : ∃ F2, F = F2 + 1 := ⟨F - 1, by omega⟩
    obtain rfl : j = 8 := by omega
    show sh_J6_stringSize_0f7a4_16_b G (sh_J6_stringSize_0f7a4_16 G F) (-nI v) 0 (-nI (10 ^ (8 + 1))) (nI (8 + 1)) = some (nI (8 + 1))
    unfold sh_J6_stringSize_0f7a4_16_b
    rw [if_neg (show ¬ (10 : Int32) ≤ nI (8 + 1) by decide), if_neg (show ¬ -nI v ≤ -nI (10 ^ (8 + 1)) from fun q => by have := (sb_nle (by omega) (by decide)).mp q; omega), Int32.add_zero]
  | succ f ih =>
    intro j F hj hF
    obtain ⟨F, rfl⟩ : ∃ F2, F = F2 + 1 := ⟨F - 1, by omega⟩
    have hp0 : 0 < 10 ^ j := Nat.pow_pos (by decide)
    have hp : 10 ^ (j + 1) ≤ 10 ^ 8 := Nat.pow_le_pow_right (by decide) (by omega)
    have es : 10 ^ (j + 1) = 10 ^ j * 10 := Nat.pow_succ ..
    have hd : v / 10 ^ j ≤ 9 ↔ v < 10 ^ (j + 1) := by
      have := Nat.div_lt_iff_lt_mul (x := v) (y := 10) hp0
      rw [es, Nat.mul_comm]
      omega
    show sh_J6_stringSize_0f7a4_16_b G (sh_J6_stringSize_0f7a4_16 G F) (-nI v) 0 (-nI (10 ^ (j + 1))) (nI (j + 1)) = some (nI (if v / 10 ^ j ≤ 9 then j + 1 else p_dg v f (j + 1)))
    unfold sh_J6_stringSize_0f7a4_16_b
    rw [if_neg (show ¬ (10 : Int32) ≤ nI (j + 1) from nI_ge (b := 10) (by omega) (by omega))]
    by_cases c : v / 10 ^ j ≤ 9
    · rw [if_pos c, if_neg (show ¬ -nI v ≤ -nI (10 ^ (j + 1)) from fun q => by
        have := (sb_nle (by omega) (by omega)).mp q
        have := hd.mp c
        omega), Int32.add_zero]
    · have e10 : (10 : Int32) * (-nI (10 ^ (j + 1))) = -nI (10 ^ (j + 1 + 1)) := by
        rw [Int32.mul_neg, show (10 : Int32) = nI 10 from rfl, pk_mul, Nat.mul_comm, ← Nat.pow_succ]
      rw [if_neg c, if_pos (show -nI v ≤ -nI (10 ^ (j + 1)) from (sb_nle (by omega) (by omega)).mpr (by
        have q : ¬ v < 10 ^ (j + 1) := fun z => c (hd.mpr z)
        omega)), e10, nI_1]
      exact ih (j + 1) F (by omega) (by omega)
theorem C_size {v : Nat} (hG : 20 < G) (hv : v < 10 ^ 9) : sh_J6_stringSize_0f7a4 G (nI v) = some (nI (p_dg v 8 0)) := by
  unfold sh_J6_stringSize_0f7a4
  rw [if_neg (nI_pos (by omega))]
  exact C_sz (G := G) hv 8 0 G rfl (by omega)
end SZ
