/-! what is known at the law's entry: classes, arrays (laid by wip/p67/kn0gen.py) -/
theorem am_arrP {s : State} {args : Array Value} {ty : FieldType} (hp : ∀ cA, s.vm.findClass ("[" ++ ty.toString) = some cA → va_RA s cA ty) (hw : (Cond.arrayClass ty).before args s = true) : ∃ cA, ArrOfT s cA ty ∧ va_RA s cA ty := by
  obtain ⟨cA, kA, comp, hfind, hk, hkind⟩ := Cond.arrayClass_spec hw
  exact ⟨cA, fun n z => ⟨(fun k h => by cases h), kA, hk, comp, hkind⟩, hp cA hfind⟩
theorem am_arrO {s : State} {C : String} (hw : va_AO C s) : ∃ cA, ArrOfT s cA (.object C) ∧ va_RA s cA (.object C) := by
  obtain ⟨comp, cA, kA, h1, h2, h3, h4, h5⟩ := Cond.arrayOver_spec hw
  exact ⟨cA, fun n z => ⟨(fun k h => by cases h), kA, h3, comp, h4⟩, kA, comp, h3, h4, h1, h5⟩
theorem am_cls0 {s : State} {args : Array Value} (hts : ∀ w ∈ sg_T, w.before args s = true) : ∃ (dC : Nat → ClassId) (dI : Nat → Nat → Nat), ∀ (k : Nat) (q : vw_C), vwCl[k]? = some q → u_Kn s q.1 q.2.1 q.2.2 (dC k) (dI k) := by
  obtain ⟨c0, i0, k0⟩ := u_known (C := RJ0) (T := TJ0) (N := 4) (n := 4) hts fw_0 (hts _ (sg_in7 195 rfl rfl))
  obtain ⟨c1, i1, k1⟩ := u_known (C := RJ4) (T := TJ4) (N := 4) (n := 4) hts fw_1 (hts _ (sg_in1 47 rfl rfl))
  obtain ⟨c2, i2, k2⟩ := u_known (C := RJx4a65c) (T := TJx4a65c) (N := 3) (n := 3) hts fw_2 (hts _ (sg_in5 214 rfl rfl))
  obtain ⟨c3, i3, k3⟩ := u_known (C := RJx4a65c) (T := TJx4a65c) (N := 3) (n := 3) hts fw_2 (hts _ (sg_in5 214 rfl rfl))
  obtain ⟨c4, i4, k4⟩ := u_known (C := RX1) (T := TX1) (N := 5) (n := 5) hts fw_4 (hts _ (sg_in2 115 rfl rfl))
  obtain ⟨c5, i5, k5⟩ := u_known (C := RX2) (T := TX2) (N := 13) (n := 13) hts fw_5 (hts _ (sg_in1 86 rfl rfl))
  obtain ⟨c6, i6, k6⟩ := u_known (C := RX3) (T := TX3) (N := 3) (n := 3) hts fw_6 (hts _ (sg_in1 206 rfl rfl))
  obtain ⟨c7, i7, k7⟩ := u_known (C := RX4) (T := TX4) (N := 11) (n := 11) hts fw_7 (hts _ (sg_in2 51 rfl rfl))
  obtain ⟨c8, i8, k8⟩ := u_known (C := RX6) (T := TX6) (N := 5) (n := 5) hts fw_8 (hts _ (sg_in2 57 rfl rfl))
  obtain ⟨c9, i9, k9⟩ := u_known (C := RX7) (T := TX7) (N := 9) (n := 9) hts fw_9 (hts _ (sg_in1 156 rfl rfl))
  obtain ⟨c10, i10, k10⟩ := u_known (C := RX8) (T := TX8) (N := 14) (n := 14) hts fw_10 (hts _ (sg_in1 80 rfl rfl))
  obtain ⟨c11, i11, k11⟩ := u_known (C := RX9) (T := TX9) (N := 8) (n := 8) hts fw_11 (hts _ (sg_in1 39 rfl rfl))
  obtain ⟨c12, i12, k12⟩ := u_known (C := RX10) (T := TX10) (N := 31) (n := 31) hts fw_12 (hts _ (sg_in5 208 rfl rfl))
  refine ⟨fun k => [c0, c1, c2, c3, c4, c5, c6, c7, c8, c9, c10, c11, c12].getD k c0, fun k => [i0, i1, i2, i3, i4, i5, i6, i7, i8, i9, i10, i11, i12].getD k i0, fun k q hq => ?_⟩
  match k, hq with
  | 0, hq => cases hq; exact k0
  | 1, hq => cases hq; exact k1
  | 2, hq => cases hq; exact k2
  | 3, hq => cases hq; exact k3
  | 4, hq => cases hq; exact k4
  | 5, hq => cases hq; exact k5
  | 6, hq => cases hq; exact k6
  | 7, hq => cases hq; exact k7
  | 8, hq => cases hq; exact k8
  | 9, hq => cases hq; exact k9
  | 10, hq => cases hq; exact k10
  | 11, hq => cases hq; exact k11
  | 12, hq => cases hq; exact k12
  | k + 13, hq => cases hq
section KN7
variable {p : Program} {s : State} {m : MethodId} {meth : Method} {c : Code} {b L : Nat} {xs : Nat → Int32}
theorem am_tys0 {K : AKx} (h : ((ArrOfT s (K.2.2.1 100) .int ∧ va_RA s (K.2.2.1 100) .int) ∧ (ArrOfT s (K.2.2.1 101) .byte ∧ va_RA s (K.2.2.1 101) .byte) ∧ (ArrOfT s (K.2.2.1 102) .boolean ∧ va_RA s (K.2.2.1 102) .boolean) ∧ (ArrOfT s (K.2.2.1 103) .long ∧ va_RA s (K.2.2.1 103) .long) ∧ (ArrOfT s (K.2.2.1 104) (.object "java/lang/Object") ∧ va_RA s (K.2.2.1 104) (.object "java/lang/Object")) ∧ (ArrOfT s (K.2.2.1 105) (.object "MoonlitFloor$World") ∧ va_RA s (K.2.2.1 105) (.object "MoonlitFloor$World")) ∧ (ArrOfT s (K.2.2.1 106) (.object "MoonlitFloor$Sign") ∧ va_RA s (K.2.2.1 106) (.object "MoonlitFloor$Sign")))) : ∀ (k : Nat) (q : ClassId × FieldType), (am_tys K)[k]? = some q → ArrOfT s q.1 q.2 ∧ va_RA s q.1 q.2 := by
  obtain ⟨p0, p1, p2, p3, p4, p5, p6⟩ := h
  intro k q hq
  match k, hq with
  | 0, hq => cases hq; exact p0
  | 1, hq => cases hq; exact p1
  | 2, hq => cases hq; exact p2
  | 3, hq => cases hq; exact p3
  | 4, hq => cases hq; exact p4
  | 5, hq => cases hq; exact p5
  | 6, hq => cases hq; exact p6
  | k + 7, hq => cases hq
end KN7

