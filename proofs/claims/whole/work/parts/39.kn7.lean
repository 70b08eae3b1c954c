section KN7
variable {p : Program} {s : State} {m : MethodId} {meth : Method} {c : Code} {b L : Nat} {xs : Nat → Int32}
theorem am_nc0 {args : Array Value} (hs : ∀ w ∈ am_nl, w.before args s = true) : ∀ i j : Nat, i < 3 → j < 3 → i ≠ j → va_Nc (am_xs i) (am_xs j) s := by
  intro i j hi hj hij
  match i, j, hi, hj with
  | 0, 0, _, _ => exact absurd rfl hij
  | 0, 1, _, _ => exact va_Nc.of (hs _ (am_nl2 (List.mem_of_getElem? (i := 94) (by decide +kernel))))
  | 0, 2, _, _ => exact va_Nc.of (hs _ (am_nl2 (List.mem_of_getElem? (i := 108) (by decide +kernel))))
  | 1, 0, _, _ => exact va_Nc.of (hs _ (am_nl2 (List.mem_of_getElem? (i := 122) (by decide +kernel))))
  | 1, 1, _, _ => exact absurd rfl hij
  | 1, 2, _, _ => exact va_Nc.of (hs _ (am_nl2 (List.mem_of_getElem? (i := 106) (by decide +kernel))))
  | 2, 0, _, _ => exact va_Nc.of (hs _ (am_nl2 (List.mem_of_getElem? (i := 124) (by decide +kernel))))
  | 2, 1, _, _ => exact va_Nc.of (hs _ (am_nl2 (List.mem_of_getElem? (i := 93) (by decide +kernel))))
  | 2, 2, _, _ => exact absurd rfl hij
end KN7
