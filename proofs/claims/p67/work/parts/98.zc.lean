/-! the law's run, from nothing made to its answer -/
section LRUN
set_option maxRecDepth 100000 in
theorem law_run {xs : Nat → Int32} {L : Nat} (hL : L ≤ 260) : ∃ (f : Nat) (h1 : AH), am_ev f mL_law mL_law.2.2.1 (am_pad 17 (am_args [zr 3004])) [] (h0_ xs, r0_, (0 : Int64), ad0, 16, 0, 0, L, some 0) 15 = some (Sum.inl (some (vi 1)), h1) ∧ h1.nc ≤ 600086 ∧ h1.ns ≤ 7301442 := by
  obtain ⟨h1, x1, e, ⟨X1, X2⟩, X3, X4⟩ := K_all (G := 70001) (A := A0_) (hi := hiE (h0_ xs)) (x := (sg0, (0 : Int64), (r0_, ad0), 16, 195, 7314, L)) (by decide) RC_0 Ok_0 rfl Z_0 rfl (by show L < 2 ^ 31; omega)
  have X3 : x1.2.2.2.2.1 ≤ 195 + 300 := X3
  have X4 : x1.2.2.2.2.2.1 ≤ 7314 + 1000 * 300 := X4
  have E8 := el_L_law 70001 (hiE (h0_ xs)) (sg0, (0 : Int64), (r0_, ad0), 16, 195, 7314, L) (d := 4) ((1 : Int32), h1, x1) e
  have E0 : Ec mL_law (4 + 11) (0, [some (Sum.inr (za 3004)), none, none, none, none, none, none, none, none, none, none, none, none, none, none, none, none], [], (h0_ xs, r0_, (0 : Int64), ad0, 16, 0, 0, L, some 0)) (qI ((1 : Int32), h1, x1)) := by
    refine k_L_law_0 ?_
    show Ec mL_law (4 + 11) (8, [some (Sum.inr (za 3004)), some (Sum.inr (za 0)), none, none, none, none, none, none, none, none, none, none, none, none, none, none, none], [], (hiE (h0_ xs), rE r0_, (0 : Int64), ad0, 16, 195, 7314, L, none)) _
    rw [rE_RF]
    exact E8
  obtain ⟨f, hf⟩ := E0
  refine ⟨f, hp h1 x1, ?_, ?_, ?_⟩
  · have q := hf 0
    rw [Nat.zero_add] at q
    exact q
  · show x1.2.2.2.2.1 ≤ 600086
    omega
  · show x1.2.2.2.2.2.1 ≤ 7301442
    omega
end LRUN
