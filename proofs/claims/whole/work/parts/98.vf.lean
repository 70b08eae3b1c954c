/-! how many digits: the model -/
def p_dg (v : Nat) : Nat → Nat → Nat
  | 0, k => k + 1
  | f + 1, k => if v / 10 ^ k ≤ 9 then k + 1 else p_dg v f (k + 1)
theorem p_dg_le (v : Nat) : ∀ f k, k + 1 ≤ p_dg v f k ∧ p_dg v f k ≤ k + f + 1
  | 0, k => ⟨Nat.le_refl _, Nat.le_refl _⟩
  | f + 1, k => by
    have := p_dg_le v f (k + 1)
    show k + 1 ≤ (if v / 10 ^ k ≤ 9 then k + 1 else p_dg v f (k + 1)) ∧ (if v / 10 ^ k ≤ 9 then k + 1 else p_dg v f (k + 1)) ≤ k + (f + 1) + 1
    split <;> omega
section ND
variable {A A' : As_} {hi h h1 : HI} {x x1 : AX} {K G : Nat}
theorem M_w2 {v : Nat} (hG : 20 < G) (hv : v < 10 ^ 9) : ∀ f k F A h, f + k = 8 → f < F → A.tn + 9 ≤ 200 → RM A h → ∃ h1, sh_X10_writesNumber_2 G (nI v) F (nI (10 ^ k)) h = some h1 ∧ RM (tw_ v (p_dg v f k) A) h1 ∧ fM_ h h1 ∧ h1 (za 195) 0 = h (za 195) 0 := fun f => by
  have main : ∀ k A h, k ≤ 8 → A.tn + 9 ≤ 200 → RM A h → ∃ h1, sh_X10_writesNumber_18 G (nI v) G (nI (10 ^ k)) h = some h1 ∧ RM (tw_ v (k + 1) A) h1 ∧ fM_ h h1 ∧ h1 (za 195) 0 = h (za 195) 0 := fun k A h hk hn H => by
    have g := M_w18 (G := G) (v := v) (by omega) (k + 1) G A h (by omega) (by omega) (by omega) H
    rw [if_neg (Nat.succ_ne_zero k), Nat.add_sub_cancel] at g
    exact g
  induction f with
  | zero =>
    intro k F A h hk hF hn H
    obtain ⟨F, rfl⟩ : ∃ F2, F = F2 + 1 := ⟨F - 1, by omega⟩
    obtain rfl : k = 8 := by omega
    obtain ⟨h1, e1, r⟩ := main 8 A h (by omega) hn H
    refine ⟨h1, ?_, r⟩
    show sh_X10_writesNumber_2_b G (nI v) (sh_X10_writesNumber_2 G (nI v) F) (nI (10 ^ 8)) h = some h1
    unfold sh_X10_writesNumber_2_b
    rw [if_neg (nI_ne0 (by decide) (by decide)), pk_div (by omega) (by decide) (by decide), if_pos (show nI (v / 10 ^ 8) ≤ (9 : Int32) from nI_le (b := 9) (by omega) (by omega))]
    exact e1
  | succ f ih =>
    intro k F A h hk hF hn H
    obtain ⟨F, rfl⟩ : ∃ F2, F = F2 + 1 := ⟨F - 1, by omega⟩
    have hp0 : 0 < 10 ^ k := Nat.pow_pos (by decide)
    have hp : 10 ^ k ≤ 10 ^ 7 := Nat.pow_le_pow_right (by decide) (by omega)
    have hq : v / 10 ^ k ≤ v := Nat.div_le_self _ _
    show ∃ h1, sh_X10_writesNumber_2_b G (nI v) (sh_X10_writesNumber_2 G (nI v) F) (nI (10 ^ k)) h = some h1 ∧ RM (tw_ v (if v / 10 ^ k ≤ 9 then k + 1 else p_dg v f (k + 1)) A) h1 ∧ _
    unfold sh_X10_writesNumber_2_b
    rw [if_neg (nI_ne0 hp0 (by omega)), pk_div (by omega) hp0 (by omega)]
    by_cases c : v / 10 ^ k ≤ 9
    · rw [if_pos (show nI (v / 10 ^ k) ≤ (9 : Int32) from nI_le (b := 9) c (by omega)), if_pos c]
      exact main k A h (by omega) hn H
    · rw [if_neg (show ¬ nI (v / 10 ^ k) ≤ (9 : Int32) from nI_ge (a := 9) (by omega) (by omega)), if_neg c, show (10 : Int32) = nI 10 from rfl, pk_mul, ← Nat.pow_succ]
      exact ih (k + 1) F A h (by omega) (by omega) hn H
/-- a number written -/
theorem M_num2 {v : Nat} (hG : 20 < G) (hv : v < 10 ^ 9) (hn : A.tn + 9 ≤ 200) (H : RM A h) : ∃ h1, sh_X10_writesNumber G (nI v) h = some h1 ∧ RM (tw_ v (p_dg v 8 0) A) h1 ∧ fM_ h h1 ∧ h1 (za 195) 0 = h (za 195) 0 := M_w2 hG hv 8 0 G A h rfl (by omega) hn H
end ND
