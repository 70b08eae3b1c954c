/-! the law's run, from nothing made to its answer -/
section LRUN
set_option maxRecDepth 100000 in
theorem law_run {xs : Nat → Int32} {L : Nat} (hL : L ≤ 3072) : ∃ (f : Nat) (h1 : AH), am_ev f mL_law2 mL_law2.2.2.1 (am_pad 9 (am_args [zr 3004])) [] (h0_ xs, r0_, (0 : Int64), (0 : UInt64), 0, 0, 0, L, some 0) 2048 = some (Sum.inl (some (vi 1)), h1) ∧ h1.nc ≤ 601024 ∧ h1.ns ≤ 7293034 := by
  obtain ⟨h1, x1, e, ⟨X1, X2, X3⟩, c⟩ := lw_ind (G := 70001) (by decide) 512 513 0 2000 A0_ (hiE (h0_ xs)) (sg0, (0 : Int64), (0 : UInt64), 16, 205, 13128, L) hL (by omega) (by show L < 0 + 6 + 6 * 512; omega) (by omega) (by omega) (by omega) Ok_0 RC_0 RM_0
  have X2 : x1.2.2.2.2.1 + 16 ≤ 205 + x1.2.2.2.1 + 8 * 512 := X2
  have X3 : x1.2.2.2.2.2.1 + 2 * 16 ≤ 13128 + 2 * x1.2.2.2.1 + 2000 * 512 := X3
  have E28 : Ec mL_law2 (2020 + 28) (28, [some (Sum.inr (za 3004)), some (Sum.inr (za 0)), some (Sum.inr (za 195)), some (Sum.inr (za 203)), some (Sum.inr (za 204)), some (vi (nI 0)), none, none, none], [], hp (hiE (h0_ xs)) (sg0, (0 : Int64), (0 : UInt64), 16, 205, 13128, L)) (rI2 ((1 : Int32), h1, x1)) := ec_L_law_28 70001 (d := 2020) 513 _ (nI 0) _ _ none none e
  have E0 : Ec mL_law2 (2043 + 5) (0, [some (Sum.inr (za 3004)), none, none, none, none, none, none, none, none], [], (h0_ xs, r0_, (0 : Int64), (0 : UInt64), 0, 0, 0, L, some 0)) (rI2 ((1 : Int32), h1, x1)) := by
    refine k_L_law_0 ?_
    show Ec mL_law2 (2020 + 28) (28, [some (Sum.inr (za 3004)), some (Sum.inr (za 0)), some (Sum.inr (za 195)), some (Sum.inr (za 203)), some (Sum.inr (za 204)), some (vi (nI 0)), none, none, none], [], (hiE (h0_ xs), rE r0_, (0 : Int64), (0 : UInt64), 16, 205, 13128, L, none)) _
    rw [rE_RF]
    exact E28
  obtain ⟨f, hf⟩ := E0
  refine ⟨f, hp h1 x1, ?_, ?_, ?_⟩
  · have q := hf 0
    rw [Nat.zero_add] at q
    exact q
  · show x1.2.2.2.2.1 ≤ 601024
    omega
  · show x1.2.2.2.2.2.1 ≤ 7293034
    omega
end LRUN
