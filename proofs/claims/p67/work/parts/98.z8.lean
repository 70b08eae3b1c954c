/-! what is known at the law's entry, all of it -/
section KN6
variable {p : Program} {s : State} {m : MethodId} {meth : Method} {c : Code} {b L : Nat} {xs : Nat → Int32}
def am_adC (adK adV : Nat → Nat) (t0 t1 t2 t3 b t5 t7 : Nat) (n : Nat) : Nat := if n < 2000 then (if n - 1000 < 60 then adK (n - 1000) else b) else if n < 3000 then (if n - 2000 < 60 then adV (n - 2000) else b) else if n = 3000 then t0 else if n = 3001 then t1 else if n = 3002 then t2 else if n = 3003 then t3 else if n = 3005 then t5 else if n = 3007 then t7 else b
theorem am_adC_K {adK adV : Nat → Nat} {t0 t1 t2 t3 b t5 t7 i : Nat} (h : i < 60) : am_adC adK adV t0 t1 t2 t3 b t5 t7 (1000 + i) = adK i := by
  unfold am_adC
  rw [if_pos (by omega), if_pos (by omega)]
  rw [Nat.add_sub_cancel_left]
theorem am_adC_V {adK adV : Nat → Nat} {t0 t1 t2 t3 b t5 t7 i : Nat} (h : i < 60) : am_adC adK adV t0 t1 t2 t3 b t5 t7 (2000 + i) = adV i := by
  unfold am_adC
  rw [if_neg (by omega), if_pos (by omega), if_pos (by omega)]
  rw [Nat.add_sub_cancel_left]
theorem am_T_CA {K : AKx} {n len : Nat} {ty : FieldType} {f : Nat → Value} {A : Nat → Prop} {t : Nat} (hn : K.2.2.2.2.1 n = t) (h : va_T ty t len f A s s.heap) : am_CA K n ty len f s s.heap := by
  obtain ⟨cell, h1, h2, h3, h4, h5, h6, -⟩ := h
  exact ⟨cell, by rw [hn]; exact h1, h2, h3, ⟨h4, h5⟩, h6⟩
theorem am_arr3005 {args : Array Value} {A : Nat → Prop} (hs : ∀ w ∈ am_nl, w.before args s = true) (hts : ∀ w ∈ lw_tbl, w.before args s = true) (hA : ∀ a : Nat, a < s.heap.size → ¬ A a) : ∃ t : Nat, va_Z "java/util/ArrayList" "DEFAULTCAPACITY_EMPTY_ELEMENTDATA" "[Ljava/lang/Object;" (.ref t) A s s.heap ∧ va_T (.object "java/lang/Object") t 0 (fun _ => .null) A s s.heap := by
  obtain ⟨t, ht, hT⟩ := va_Tof (f := fun _ => .null) (A := A) (N := 0) (by decide) (hs (.arrayOf (.static "java/util/ArrayList" "DEFAULTCAPACITY_EMPTY_ELEMENTDATA" "[Ljava/lang/Object;") (.object "java/lang/Object")) (am_nli 177 (by decide +kernel))) (va_eqt (hs (.eq (.length (.static "java/util/ArrayList" "DEFAULTCAPACITY_EMPTY_ELEMENTDATA" "[Ljava/lang/Object;")) (.int (Int32.ofNat 0))) (am_nli 179 (by decide +kernel)))) (fun j hj => absurd hj (Nat.not_lt_zero j)) hA
  exact ⟨t, va_Zof (hts _ (lw_in5 226 rfl)) (hts _ (lw_in1 16 rfl)) ht hA, hT⟩
theorem am_u3007 {args : Array Value} {A : Nat → Prop} (hs : ∀ w ∈ am_nl, w.before args s = true) (hts : ∀ w ∈ lw_tbl, w.before args s = true) (hA : ∀ a : Nat, a < s.heap.size → ¬ A a) : ∃ t : Nat, va_Z "jdk/internal/util/ArraysSupport" "U" "Ljdk/internal/misc/Unsafe;" (.ref t) A s s.heap ∧ va_O "jdk/internal/misc/Unsafe" t A s s.heap := by
  obtain ⟨a, c, cA, kA, q1, q2, q3, q4, q5, q6, -⟩ := Cond.exactly_spec (args := args) (first := s) (o := none) (s := s) (idx := []) (t := .static "jdk/internal/util/ArraysSupport" "U" "Ljdk/internal/misc/Unsafe;") (cls := "jdk/internal/misc/Unsafe") (hs _ (am_nli 388 (by decide +kernel)))
  exact ⟨a, va_Zof (hts _ (lw_in8 154 rfl)) (hts _ (lw_in1 17 rfl)) q1 hA, cA, q3, q5, by rw [q6]; exact q2, hA a (Array.getElem?_eq_some_iff.mp q3).1⟩
/-- the choices at the entry -/
theorem am_entry0 (C0 : lw_At p s m meth c b L xs) : ∃ (dC : Nat → ClassId) (dI : Nat → Nat → Nat) (cl : Nat → ClassId) (adK adV adS : Nat → Nat) (t0 t1 t2 t3 t5 t7 : Nat), (∀ (k : Nat) (q : vw_C), vwCl[k]? = some q → u_Kn s q.1 q.2.1 q.2.2 (dC k) (dI k)) ∧
    ((ArrOfT s (cl 100) .int ∧ va_RA s (cl 100) .int) ∧ (ArrOfT s (cl 101) .byte ∧ va_RA s (cl 101) .byte) ∧ (ArrOfT s (cl 102) .boolean ∧ va_RA s (cl 102) .boolean) ∧ (ArrOfT s (cl 103) .long ∧ va_RA s (cl 103) .long) ∧ (ArrOfT s (cl 104) (.object "java/lang/Object") ∧ va_RA s (cl 104) (.object "java/lang/Object")) ∧ (ArrOfT s (cl 105) (.object "MoonlitFloor$World") ∧ va_RA s (cl 105) (.object "MoonlitFloor$World")) ∧ (ArrOfT s (cl 106) (.object "MoonlitFloor$Sign") ∧ va_RA s (cl 106) (.object "MoonlitFloor$Sign"))) ∧
    (∀ i, i < 60 → (am_tm i).eval #[Value.ref b] s none [] s = some (.ref (adK i)) ∧ va_O "java/lang/String" (adK i) (fun q => s.heap.size ≤ q) s s.heap ∧ va_OF "java/lang/String" "coder" "B" (.int 0) (adK i) (fun q => s.heap.size ≤ q) s s.heap ∧ va_OF "java/lang/String" "value" "[B" (.ref (adV i)) (adK i) (fun q => s.heap.size ≤ q) s s.heap ∧ va_T .byte (adV i) (am_strlen i) (fun j => .int (nI ((am_str.getD i []).getD j 0))) (fun q => s.heap.size ≤ q) s s.heap) ∧
    (∀ x, x < 37 → va_Z "MoonlitFloor$Sign" (am_sn.getD x "") "LMoonlitFloor$Sign;" (.ref (adS x)) (fun q => s.heap.size ≤ q) s s.heap ∧ va_O "MoonlitFloor$Sign" (adS x) (fun q => s.heap.size ≤ q) s s.heap ∧ va_OF "java/lang/Enum" "ordinal" "I" (.int (nI x)) (adS x) (fun q => s.heap.size ≤ q) s s.heap ∧ va_OF "MoonlitFloor$Sign" "setting" "Z" (.int (nI (am_set.getD x 0))) (adS x) (fun q => s.heap.size ≤ q) s s.heap ∧ va_OF "MoonlitFloor$Sign" "event" "Z" (.int (nI (am_evt.getD x 0))) (adS x) (fun q => s.heap.size ≤ q) s s.heap ∧ va_OF "MoonlitFloor$Sign" "text" "Ljava/lang/String;" (.ref (adK x)) (adS x) (fun q => s.heap.size ≤ q) s s.heap) ∧
    (va_Z "MoonlitFloor$Tokens" "SIGNS" "[LMoonlitFloor$Sign;" (.ref t0) (fun q => s.heap.size ≤ q) s s.heap ∧ va_T (.object "MoonlitFloor$Sign") t0 37 (fun j => .ref (adS j)) (fun q => s.heap.size ≤ q) s s.heap) ∧
    (va_Z "MoonlitFloor$1" "$SwitchMap$MoonlitFloor$Sign" "[I" (.ref t1) (fun q => s.heap.size ≤ q) s s.heap ∧ va_T .int t1 37 (fun j => .int (nI (am_swm.getD j 0))) (fun q => s.heap.size ≤ q) s s.heap) ∧
    (va_Z "java/lang/Integer" "DigitTens" "[B" (.ref t2) (fun q => s.heap.size ≤ q) s s.heap ∧ va_T .byte t2 100 (fun j => .int (nI (48 + j / 10))) (fun q => s.heap.size ≤ q) s s.heap) ∧
    (va_Z "java/lang/Integer" "DigitOnes" "[B" (.ref t3) (fun q => s.heap.size ≤ q) s s.heap ∧ va_T .byte t3 100 (fun j => .int (nI (48 + j % 10))) (fun q => s.heap.size ≤ q) s s.heap) ∧
    (va_Z "java/util/ArrayList" "DEFAULTCAPACITY_EMPTY_ELEMENTDATA" "[Ljava/lang/Object;" (.ref t5) (fun q => s.heap.size ≤ q) s s.heap ∧ va_T (.object "java/lang/Object") t5 0 (fun _ => .null) (fun q => s.heap.size ≤ q) s s.heap) ∧
    (va_Z "jdk/internal/util/ArraysSupport" "U" "Ljdk/internal/misc/Unsafe;" (.ref t7) (fun q => s.heap.size ≤ q) s s.heap ∧ va_O "jdk/internal/misc/Unsafe" t7 (fun q => s.heap.size ≤ q) s s.heap) := by
  obtain ⟨-, -, -, -, -, hts, -, -, -, hgv⟩ := C0
  have hs := am_nl_ok hgv
  have hA : ∀ a : Nat, a < s.heap.size → ¬ (fun q => s.heap.size ≤ q) a := fun a h => Nat.not_le.mpr h
  obtain ⟨dC, dI, hcls⟩ := am_cls0 (s := s) (args := #[Value.ref b]) (fun w hw => hts w (List.mem_filter.mp hw).1)
  obtain ⟨a0, p0⟩ := am_arrP (ty := .int) (fun _ h => h) (hts (.arrayClass .int) (lw_in1 77 rfl))
  obtain ⟨a1, p1⟩ := am_arrP (ty := .byte) (fun _ h => h) (hts (.arrayClass .byte) (lw_in1 78 rfl))
  obtain ⟨a2, p2⟩ := am_arrP (ty := .boolean) (fun _ h => h) (hts (.arrayClass .boolean) (lw_in6 171 rfl))
  obtain ⟨a3, p3⟩ := am_arrP (ty := .long) (fun _ h => h) (hts (.arrayClass .long) (lw_in9 5 rfl))
  obtain ⟨a4, p4⟩ := am_arrO (va_AO.of (hts (.arrayOver (.object "java/lang/Object")) (lw_in6 165 rfl)))
  obtain ⟨a5, p5⟩ := am_arrO (va_AO.of (hts (.arrayOver (.object "MoonlitFloor$World")) (lw_in2 121 rfl)))
  obtain ⟨a6, p6⟩ := am_arrO (va_AO.of (hts (.arrayOver (.object "MoonlitFloor$Sign")) (lw_in2 63 rfl)))
  have hk : ∀ i : Nat, ∃ q : Nat × Nat, i < 60 → (am_tm i).eval #[Value.ref b] s none [] s = some (.ref q.1) ∧ va_O "java/lang/String" q.1 (fun q => s.heap.size ≤ q) s s.heap ∧ va_OF "java/lang/String" "coder" "B" (.int 0) q.1 (fun q => s.heap.size ≤ q) s s.heap ∧ va_OF "java/lang/String" "value" "[B" (.ref q.2) q.1 (fun q => s.heap.size ≤ q) s s.heap ∧ va_T .byte q.2 (am_strlen i) (fun j => .int (nI ((am_str.getD i []).getD j 0))) (fun q => s.heap.size ≤ q) s s.heap := by
    intro i
    by_cases hi : i < 60
    · obtain ⟨q, hq⟩ := am_str0 hs hA i hi
      exact ⟨q, fun _ => hq⟩
    · exact ⟨(0, 0), fun h => absurd h hi⟩
  obtain ⟨ad, had⟩ := Classical.axiomOfChoice hk
  have hini := hts (.initialized "MoonlitFloor$Sign") (lw_in1 31 rfl)
  have hx : ∀ x : Nat, ∃ a : Nat, x < 37 → (am_ss x).eval #[Value.ref b] s none [] s = some (.ref a) ∧ _ := fun x => by
    by_cases hx : x < 37
    · obtain ⟨a, ha⟩ := am_sign0 hs hts hini hA (fun i => (ad i).1) (fun i hi => (had i hi).1) x hx
      exact ⟨a, fun _ => ha⟩
    · exact ⟨0, fun h => absurd h hx⟩
  obtain ⟨adS, hadS⟩ := Classical.axiomOfChoice hx
  obtain ⟨t0, r0⟩ := am_arr3000 hs hts hA adS (fun x hx => (hadS x hx).1)
  obtain ⟨t1, r1⟩ := am_arr3001 hs hts hA
  obtain ⟨t2, r2⟩ := am_arr3002 hs hts hA
  obtain ⟨t3, r3⟩ := am_arr3003 hs hts hA
  obtain ⟨t5, r5⟩ := am_arr3005 hs hts hA
  obtain ⟨t7, r7⟩ := am_u3007 hs hts hA
  exact ⟨dC, dI, fun n => [a0, a1, a2, a3, a4, a5, a6].getD (n - 100) a0, fun i => (ad i).1, fun i => (ad i).2, adS, t0, t1, t2, t3, t5, t7, hcls, ⟨p0, p1, p2, p3, p4, p5, p6⟩, had, fun x hx => (hadS x hx).2, r0, r1, r2, r3, r5, r7⟩
end KN6
