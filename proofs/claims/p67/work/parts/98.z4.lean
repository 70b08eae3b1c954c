/-! the signs at the law's entry -/
section KN3
variable {args : Array Value} {s : State} {A : Nat → Prop}
/-- two terms said to be one object -/
theorem am_eqr {t u : Term} {a : Nat} (h : (Cond.eq t u).before args s = true) (hu : u.eval args s none [] s = some (.ref a)) : t.eval args s none [] s = some (.ref a) := by
  cases hv : t.eval args s none [] s with
  | none => simp [Cond.before, Cond.holds, Cond.value, hv] at h
  | some v =>
    cases v with
    | ref b => simp [Cond.before, Cond.holds, Cond.value, hv, hu] at h; rw [h]
    | _ => simp [Cond.before, Cond.holds, Cond.value, hv, hu] at h
theorem am_sign0 (hs : ∀ w ∈ am_nl, w.before args s = true) (hts : ∀ w ∈ lw_tbl, w.before args s = true) (hini : (Cond.initialized "MoonlitFloor$Sign").before args s = true) (hA : ∀ a : Nat, a < s.heap.size → ¬ A a) (adK : Nat → Nat) (hK : ∀ i, i < 60 → (am_tm i).eval args s none [] s = some (.ref (adK i))) (x : Nat) (hx : x < 37) : ∃ a : Nat, (am_ss x).eval args s none [] s = some (.ref a) ∧ va_Z "MoonlitFloor$Sign" (am_sn.getD x "") "LMoonlitFloor$Sign;" (.ref a) A s s.heap ∧ va_O "MoonlitFloor$Sign" a A s s.heap ∧ va_OF "java/lang/Enum" "ordinal" "I" (.int (nI x)) a A s s.heap ∧ va_OF "MoonlitFloor$Sign" "setting" "Z" (.int (nI (am_set.getD x 0))) a A s s.heap ∧ va_OF "MoonlitFloor$Sign" "event" "Z" (.int (nI (am_evt.getD x 0))) a A s s.heap ∧ va_OF "MoonlitFloor$Sign" "text" "Ljava/lang/String;" (.ref (adK x)) a A s s.heap := by
  obtain ⟨h1, h2, h3, h4, h5, h6⟩ := kx_all x hx
  obtain ⟨a, c, cA, kA, q1, q2, q3, q4, q5, q6, -⟩ := Cond.exactly_spec (args := args) (first := s) (o := none) (s := s) (idx := []) (t := am_ss x) (cls := "MoonlitFloor$Sign") (hs _ h1)
  exact ⟨a, q1, va_Zof (hts _ h6) hini q1 hA, ⟨cA, q3, q5, by rw [q6]; exact q2, hA a (Array.getElem?_eq_some_iff.mp q3).1⟩, vk_OFof q1 (va_eqt (hs _ h2)) hA, vk_OFof q1 (va_eqt (hs _ h3)) hA, vk_OFof q1 (va_eqt (hs _ h4)) hA, vk_OFof q1 (am_eqr (hs _ h5) (hK x (by omega))) hA⟩
end KN3
