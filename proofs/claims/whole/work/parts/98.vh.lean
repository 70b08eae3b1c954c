/-! numbers laid from their end: the class's text builder -/
section GC
variable {A A' : As_} {hi h h1 : HI} {x x1 : AX} {K G : Nat} {a2 : Int32}
/-- w has d digits -/
def dg_ (w d : Nat) : Prop := w < 10 ^ d ∧ 1 ≤ d ∧ (d = 1 ∨ 10 ^ (d - 1) ≤ w)
theorem p_dg_d {v : Nat} (hv : v < 10 ^ 9) : ∀ f k, f + k = 8 → (k = 0 ∨ 10 ^ k ≤ v) → dg_ v (p_dg v f k) := fun f => by
  induction f with
  | zero =>
    intro k hk hq
    obtain rfl : k = 8 := by omega
    exact ⟨hv, by show 1 ≤ 8 + 1; omega, hq.imp (fun q => absurd q (by decide)) (fun q => q)⟩
  | succ f ih =>
    intro k hk hq
    have hp0 : 0 < 10 ^ k := Nat.pow_pos (by decide)
    have es : 10 ^ (k + 1) = 10 ^ k * 10 := Nat.pow_succ ..
    have hd : v / 10 ^ k ≤ 9 ↔ v < 10 ^ (k + 1) := by
      have := Nat.div_lt_iff_lt_mul (x := v) (y := 10) hp0
      rw [es, Nat.mul_comm]
      omega
    show dg_ v (if v / 10 ^ k ≤ 9 then k + 1 else p_dg v f (k + 1))
    by_cases c : v / 10 ^ k ≤ 9
    · rw [if_pos c]
      refine ⟨hd.mp c, by omega, ?_⟩
      rcases hq with q | q
      · exact Or.inl (by omega)
      · exact Or.inr q
    · rw [if_neg c]
      refine ih (k + 1) (by omega) (Or.inr ?_)
      have q : ¬ v < 10 ^ (k + 1) := fun z => c (hd.mpr z)
      omega
theorem dg_2 {w d : Nat} (h : dg_ w (d + 3)) : dg_ (w / 100) (d + 1) ∧ 100 ≤ w := by
  obtain ⟨a, b, c⟩ := h
  have e3 : 10 ^ (d + 3) = 10 ^ (d + 1) * 100 := by rw [show d + 3 = d + 1 + 2 by omega, Nat.pow_add]
  have e2 : 10 ^ (d + 3 - 1) = 10 ^ d * 100 := by rw [show d + 3 - 1 = d + 2 by omega, Nat.pow_add]
  have hp : 0 < 10 ^ d := Nat.pow_pos (by decide)
  rcases c with c | c
  · omega
  · rw [e2] at c
    rw [e3] at a
    refine ⟨⟨(Nat.div_lt_iff_lt_mul (by decide)).mpr a, by omega, ?_⟩, by omega⟩
    refine Or.inr ?_
    rw [Nat.add_sub_cancel]
    exact (Nat.le_div_iff_mul_le (by decide)).mpr c
theorem dg_dv (w j : Nat) : w / 100 / 10 ^ j = w / 10 ^ (j + 2) := by
  rw [Nat.div_div_eq_div_mul, Nat.pow_add, Nat.mul_comm]
theorem by_lo {y : Nat} (h : y < 128) : vp_nar .byte (nI y) = nI y := by
  rw [vp_nar_byte]
  exact sb_lo y h
theorem C_ch : ∀ d w F h p, dg_ w d → w < 10 ^ 9 → d < F → p + d ≤ x.2.2.2.1 → p + d ≤ 1000 → ∃ h1, sh_J6_getChars_ba4f3_22 G a2 F (-nI w) (nI (p + d)) 0 h x = some (nI p, h1, x) ∧ (∀ b k, (b = za 3 → ¬ (p ≤ k ∧ k < p + d)) → h1 b k = h b k) ∧ ∀ j, j < d → h1 (za 3) (p + j) = nI (48 + w / 10 ^ (d - 1 - j) % 10) := fun d => by
  induction d using Nat.strongRecOn with
  | _ d ih =>
    intro w F h p hd hw hF hc hp
    obtain ⟨F, rfl⟩ : ∃ F2, F = F2 + 1 := ⟨F - 1, by omega⟩
    have hm := Nat.mod_lt w (show 0 < 10 by decide)
    have nn_ : ∀ y : Nat, - -nI y = nI y := fun y => Int32.neg_neg
    have m1 : ∀ y : Nat, nI (y + 1) + Int32.ofInt (-1) = nI y := fun y => (pk_m1 y : nI (y + 1) + (-1) = nI y)
    show ∃ h1, sh_J6_getChars_ba4f3_22_b G a2 (sh_J6_getChars_ba4f3_22 G a2 F) (-nI w) (nI (p + d)) 0 h x = some (nI p, h1, x) ∧ _
    unfold sh_J6_getChars_ba4f3_22_b
    match d, ih, hd, hF, hc, hp with
    | 0, _, hd, _, _, _ => exact absurd hd.2.1 (by decide)
    | 1, _, hd, _, hc, hp =>
      have hw1 : w < 10 := hd.1
      rw [if_pos (show (-100 : Int32) < -nI w from (sb_nlt (a := 100) (by omega) (by omega)).mpr (by omega)), nn_, nI_clamp (by omega), if_pos ⟨nI_pos' (by omega), by omega⟩, m1, nI_clamp (by omega), if_pos ⟨nI_pos' (by omega), by omega⟩, bs, by_lo (by omega), if_pos (show (-9 : Int32) ≤ -nI w from (sb_nle (a := 9) (by omega) (by omega)).mpr (by omega))]
      refine ⟨am_u h (za 3) p (nI (48 + w % 10)), rfl, fun b k q => ?_, fun j hj => ?_⟩
      · by_cases e : b = za 3
        · subst e
          exact au_k (fun z => q rfl (by omega))
        · exact au_a e
      · obtain rfl : j = 0 := by omega
        rw [Nat.add_zero, au_, show 1 - 1 - 0 = 0 from rfl, Nat.pow_zero, Nat.div_one]
    | 2, _, hd, _, hc, hp =>
      have hw1 : w < 100 := hd.1
      have hw2 : 10 ≤ w := by
        rcases hd.2.2 with q | q
        · exact absurd q (by decide)
        · exact q
      rw [if_pos (show (-100 : Int32) < -nI w from (sb_nlt (a := 100) (by omega) (by omega)).mpr (by omega)), nn_, nI_clamp (by omega), if_pos ⟨nI_pos' (by omega), by omega⟩, show p + 2 = p + 1 + 1 from rfl, m1, m1, nI_clamp (by omega), nI_clamp (by omega), if_pos ⟨nI_pos' (by omega), by omega⟩, bs, if_neg (show ¬ (-9 : Int32) ≤ -nI w from fun q => by
        have := (sb_nle (a := 9) (by omega) (by omega)).mp q
        omega), if_pos ⟨nI_pos' (by omega), by omega⟩, if_pos ⟨nI_pos' (by omega), by omega⟩, bs, by_lo (by omega), by_lo (by omega)]
      refine ⟨am_u (am_u h (za 3) (p + 1) (nI (48 + w % 10))) (za 3) p (nI (48 + w / 10)), rfl, fun b k q => ?_, fun j hj => ?_⟩
      · by_cases e : b = za 3
        · subst e
          rw [au_k (fun z => q rfl (by omega)), au_k (fun z => q rfl (by omega))]
        · rw [au_a e, au_a e]
      · rcases (show j = 0 ∨ j = 1 by omega) with rfl | rfl
        · rw [show p + 0 = p from rfl, au_, show 2 - 1 - 0 = 1 from rfl, Nat.pow_one, Nat.mod_eq_of_lt (show w / 10 < 10 by omega)]
        · rw [au_k (by omega), au_, show 2 - 1 - 1 = 0 from rfl, Nat.pow_zero, Nat.div_one]
    | d + 3, ih, hd, hF, hc, hp =>
      obtain ⟨h2, hw2⟩ := dg_2 hd
      have hq := Nat.mod_lt w (show 0 < 100 by decide)
      rw [if_neg (show ¬ (-100 : Int32) < -nI w from fun q => by
        have := (sb_nlt (a := 100) (by omega) (by omega)).mp q
        omega), sb_ndiv (by omega), sb_nrem (by omega), nI_clamp (by omega), if_pos ⟨nI_pos' (by omega), hq⟩, show p + (d + 3) = p + (d + 1) + 1 + 1 by omega, m1, m1, nI_clamp (by omega), nI_clamp (by omega), if_pos ⟨nI_pos' (by omega), by omega⟩, bs, if_pos ⟨nI_pos' (by omega), hq⟩, if_pos ⟨nI_pos' (by omega), by omega⟩, bs, by_lo (by omega), by_lo (by omega)]
      obtain ⟨h1, e1, f1, g1⟩ := ih (d + 1) (by omega) (w / 100) F (am_u (am_u h (za 3) (p + (d + 1) + 1) (nI (48 + w % 100 % 10))) (za 3) (p + (d + 1)) (nI (48 + w % 100 / 10))) p h2 (by omega) (by omega) (by omega) (by omega)
      refine ⟨h1, e1, fun b k q => ?_, fun j hj => ?_⟩
      · rw [f1 b k (fun e z => q e (by omega))]
        by_cases e : b = za 3
        · subst e
          rw [au_k (fun z => q rfl (by omega)), au_k (fun z => q rfl (by omega))]
        · rw [au_a e, au_a e]
      · by_cases c : j < d + 1
        · rw [g1 j c, dg_dv, show d + 1 - 1 - j + 2 = d + 3 - 1 - j by omega]
        · rw [f1 _ _ (fun _ z => by omega)]
          rcases (show j = d + 1 ∨ j = d + 2 by omega) with rfl | rfl
          · rw [au_, show d + 3 - 1 - (d + 1) = 1 by omega, Nat.pow_one, show w % 100 / 10 = w / 10 % 10 by omega]
          · rw [au_k (by omega), show p + (d + 2) = p + (d + 1) + 1 by omega, au_, show d + 3 - 1 - (d + 2) = 0 by omega, Nat.pow_zero, Nat.div_one, show w % 100 % 10 = w % 10 by omega]
end GC
