/-! numbers written: the model -/
section NW
variable {A A' : As_} {hi h h1 : HI} {x x1 : AX} {K G : Nat}
/-- d digits of v, the highest first -/
def tw_ (v : Nat) : Nat → As_ → As_
  | 0, A => A
  | d + 1, A => tw_ v d (tp_ A (48 + v / 10 ^ d % 10))
theorem tw_n (v : Nat) : ∀ d A, (tw_ v d A).tn = A.tn + d ∧ (tw_ v d A).1 = A.1 ∧ (tw_ v d A).2.1 = A.2.1 ∧ (tw_ v d A).2.2.1 = A.2.2.1 ∧ (tw_ v d A).2.2.2.1 = A.2.2.2.1
  | 0, _ => ⟨rfl, rfl, rfl, rfl, rfl⟩
  | d + 1, A => by
    obtain ⟨h1, h2, h3, h4, h5⟩ := tw_n v d (tp_ A (48 + v / 10 ^ d % 10))
    refine ⟨h1.trans ?_, h2, h3, h4, h5⟩
    show A.tn + 1 + d = A.tn + (d + 1)
    omega
theorem M_w18 {v : Nat} (hv : v < 2 ^ 31) : ∀ d F A h, d ≤ 9 → d < F → A.tn + d ≤ 200 → RM A h → ∃ h1, sh_X10_writesNumber_18 G (nI v) F (if d = 0 then 0 else nI (10 ^ (d - 1))) h = some h1 ∧ RM (tw_ v d A) h1 ∧ fM_ h h1 ∧ h1 (za 195) 0 = h (za 195) 0 := fun d => by
  induction d with
  | zero =>
    intro F A h hd hF hn H
    obtain ⟨F, rfl⟩ : ∃ F2, F = F2 + 1 := ⟨F - 1, by omega⟩
    refine ⟨h, ?_, H, fM_.refl h, rfl⟩
    show sh_X10_writesNumber_18_b G (nI v) (sh_X10_writesNumber_18 G (nI v) F) 0 h = some h
    unfold sh_X10_writesNumber_18_b
    rw [if_pos (Int32.le_refl _)]
  | succ d ih =>
    intro F A h hd hF hn H
    obtain ⟨F, rfl⟩ : ∃ F2, F = F2 + 1 := ⟨F - 1, by omega⟩
    rw [if_neg (Nat.succ_ne_zero d), Nat.add_sub_cancel]
    have hp0 : 0 < 10 ^ d := Nat.pow_pos (by decide)
    have hp : 10 ^ d ≤ 10 ^ 8 := Nat.pow_le_pow_right (by decide) (by omega)
    have hq : v / 10 ^ d ≤ v := Nat.div_le_self _ _
    have hm := Nat.mod_lt (v / 10 ^ d) (show 0 < 10 by decide)
    obtain ⟨h1, e1, H1, f1, c1⟩ := M_put (y := 48 + v / 10 ^ d % 10) (by omega) (by omega) H
    obtain ⟨h2, e2, H2, f2, c2⟩ := ih F _ h1 (by omega) (by omega) (by show A.tn + 1 + d ≤ 200; omega) H1
    refine ⟨h2, ?_, H2, f1.trans f2, c2.trans c1⟩
    show sh_X10_writesNumber_18_b G (nI v) (sh_X10_writesNumber_18 G (nI v) F) (nI (10 ^ d)) h = some h2
    unfold sh_X10_writesNumber_18_b
    have e10 : nI (10 ^ d) / (10 : Int32) = if d = 0 then 0 else nI (10 ^ (d - 1)) := by
      rw [show (10 : Int32) = nI 10 from rfl, pk_div (by omega) (by omega) (by omega)]
      cases d with
      | zero => rfl
      | succ d =>
        rw [if_neg (Nat.succ_ne_zero d), Nat.add_sub_cancel, Nat.pow_succ, Nat.mul_div_cancel _ (by decide)]
    have ey : (48 : Int32) + ((nI v / nI (10 ^ d)) - (nI v / nI (10 ^ d)) / (10 : Int32) * (10 : Int32)) = nI (48 + v / 10 ^ d % 10) := by
      rw [pk_div (by omega) (by omega) (by omega), show (10 : Int32) = nI 10 from rfl, pk_rem (by omega) (by omega) (by omega)]
      exact nI_add 48 _
    rw [if_neg (nI_nle hp0 (by omega)), if_neg (nI_ne0 hp0 (by omega)), ey, e1, bs, e10]
    exact e2
end NW
