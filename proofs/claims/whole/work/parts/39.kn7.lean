section KN7
variable {p : Program} {s : State} {m : MethodId} {meth : Method} {c : Code} {b L : Nat} {xs : Nat → Int32}
theorem am_nc0 {args : Array Value} (hs : ∀ w ∈ am_nl, w.before args s = true) : ∀ i j : Nat, i < 3 → j < 3 → i ≠ j → va_Nc (am_xs i) (am_xs j) s := by
  intro i j hi hj hij
  match i, j, hi, hj with
  | 0, 0, _, _ => exact absurd rfl hij
  | 0, 1, _, _ => exact va_Nc.of (hs _ (am_nl2 (List.mem_of_getElem? (i := 94) (by decide +kernel))))
  | 0, 2, _, _ => exact va_Nc.of (hs _ (am_nl2 (List.mem_of_getElem? (i := 108) (by decide +kernel))))
  | 1, 0, _, _ => exact va_Nc.of (hs _ (am_nl2 (List.mem_of_getElem? (i := 122) (by decide +kernel))))
  | 1, 1, _, _ => exact absurd rfl hij
  | 1, 2, _, _ => exact va_Nc.of (hs _ (am_nl2 (List.mem_of_getElem? (i := 106) (by decide +kernel))))
  | 2, 0, _, _ => exact va_Nc.of (hs _ (am_nl2 (List.mem_of_getElem? (i := 124) (by decide +kernel))))
  | 2, 1, _, _ => exact va_Nc.of (hs _ (am_nl2 (List.mem_of_getElem? (i := 93) (by decide +kernel))))
  | 2, 2, _, _ => exact absurd rfl hij
theorem am_tys0 {K : AKx} (h : ((ArrOfT s (K.2.2.1 100) .int ∧ va_RA s (K.2.2.1 100) .int) ∧ (ArrOfT s (K.2.2.1 101) .byte ∧ va_RA s (K.2.2.1 101) .byte) ∧ (ArrOfT s (K.2.2.1 102) .boolean ∧ va_RA s (K.2.2.1 102) .boolean) ∧ (ArrOfT s (K.2.2.1 103) .long ∧ va_RA s (K.2.2.1 103) .long) ∧ (ArrOfT s (K.2.2.1 104) .double ∧ va_RA s (K.2.2.1 104) .double) ∧ (ArrOfT s (K.2.2.1 105) (.object "MoonlitFloor$World") ∧ va_RA s (K.2.2.1 105) (.object "MoonlitFloor$World")) ∧ (ArrOfT s (K.2.2.1 106) (.object "MoonlitFloor$Sign") ∧ va_RA s (K.2.2.1 106) (.object "MoonlitFloor$Sign")))) : ∀ (k : Nat) (q : ClassId × FieldType), (am_tys K)[k]? = some q → ArrOfT s q.1 q.2 ∧ va_RA s q.1 q.2 := by
  obtain ⟨p0, p1, p2, p3, p4, p5, p6⟩ := h
  intro k q hq
  match k, hq with
  | 0, hq => cases hq; exact p0
  | 1, hq => cases hq; exact p1
  | 2, hq => cases hq; exact p2
  | 3, hq => cases hq; exact p3
  | 4, hq => cases hq; exact p4
  | 5, hq => cases hq; exact p5
  | 6, hq => cases hq; exact p6
  | k + 7, hq => cases hq
end KN7
