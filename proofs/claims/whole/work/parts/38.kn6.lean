/-! what is known at the law's entry, all of it -/
section KN6
variable {p : Program} {s : State} {m : MethodId} {meth : Method} {c : Code} {b L : Nat} {xs : Nat → Int32}
def am_adC (adK adV : Nat → Nat) (t0 t1 t2 t3 b : Nat) (n : Nat) : Nat := if n < 2000 then (if n - 1000 < 68 then adK (n - 1000) else b) else if n < 3000 then (if n - 2000 < 68 then adV (n - 2000) else b) else if n = 3000 then t0 else if n = 3001 then t1 else if n = 3002 then t2 else if n = 3003 then t3 else b
theorem am_adC_K {adK adV : Nat → Nat} {t0 t1 t2 t3 b i : Nat} (h : i < 68) : am_adC adK adV t0 t1 t2 t3 b (1000 + i) = adK i := by
  unfold am_adC
  rw [if_pos (by omega), if_pos (by omega)]
  rw [Nat.add_sub_cancel_left]
theorem am_adC_V {adK adV : Nat → Nat} {t0 t1 t2 t3 b i : Nat} (h : i < 68) : am_adC adK adV t0 t1 t2 t3 b (2000 + i) = adV i := by
  unfold am_adC
  rw [if_neg (by omega), if_pos (by omega), if_pos (by omega)]
  rw [Nat.add_sub_cancel_left]
theorem am_T_CA {K : AKx} {n len : Nat} {ty : FieldType} {f : Nat → Value} {A : Nat → Prop} {t : Nat} (hn : K.2.2.2.2.1 n = t) (h : va_T ty t len f A s s.heap) : am_CA K n ty len f s s.heap := by
  obtain ⟨cell, h1, h2, h3, h4, h5, h6, -⟩ := h
  exact ⟨cell, by rw [hn]; exact h1, h2, h3, ⟨h4, h5⟩, h6⟩
end KN6
