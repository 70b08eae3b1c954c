/-! all references made; the state that the constructors leave (laid by wip/p67/xcgen.py) -/
def l_all : List (AA × Nat × AV) := [((za 0), 5, (Sum.inr (za 41)))] ++ ([((za 43), 1, (Sum.inr (wa 11 0)))] ++ ((lW 11) ++ ([((za 43), 0, (Sum.inr (wa 10 0)))] ++ ((lW 10) ++ ([((za 42), 7, (Sum.inr (wa 9 0)))] ++ ((lW 9) ++ ([((za 42), 6, (Sum.inr (wa 8 0)))] ++ ((lW 8) ++ ([((za 42), 5, (Sum.inr (wa 7 0)))] ++ ((lW 7) ++ ([((za 42), 4, (Sum.inr (wa 6 0)))] ++ ((lW 6) ++ ([((za 42), 3, (Sum.inr (wa 5 0)))] ++ ((lW 5) ++ ([((za 42), 2, (Sum.inr (wa 4 0)))] ++ ((lW 4) ++ ([((za 42), 1, (Sum.inr (wa 3 0)))] ++ ((lW 3) ++ ([((za 42), 0, (Sum.inr (wa 2 0)))] ++ ((lW 2) ++ ([((za 41), 2, (Sum.inr (za 44)))] ++ ([((za 41), 1, (Sum.inr (za 43)))] ++ ([((za 41), 0, (Sum.inr (za 42)))] ++ ([((za 0), 4, (Sum.inr (za 34)))] ++ ([((za 34), 1, (Sum.inr (wa 1 0)))] ++ ([((za 34), 3, (Sum.inr (za 40)))] ++ ([((za 34), 2, (Sum.inr (za 39)))] ++ ([((za 34), 0, (Sum.inr (za 35)))] ++ ([((za 35), 2, (Sum.inr (za 38)))] ++ ([((za 35), 1, (Sum.inr (za 37)))] ++ ([((za 35), 0, (Sum.inr (za 36)))] ++ ([((za 0), 3, (Sum.inr (wa 1 0)))] ++ ((lW 1) ++ ([((za 0), 2, (Sum.inr (wa 0 0)))] ++ ((lW 0) ++ ([((za 0), 1, (Sum.inr (za 2)))] ++ ([((za 2), 0, (Sum.inr (za 3)))] ++ ([((za 0), 0, (Sum.inr (za 1)))]))))))))))))))))))))))))))))))))))))))
def sg0 : Nat → AV := fun _ => Sum.inl .null
def r0_ : AA → Nat → AV := fun _ _ => Sum.inl .null
def hiE (hi : HI) : HI := (am_u (am_u (am_u (am_u (am_u hi (za 2) 1 (0 : Int32)) (za 34) 9 (0 : Int32)) (za 34) 10 (-1 : Int32)) (za 0) 6 (0 : Int32)) (za 0) 7 (0 : Int32))
def rE (r : AA → Nat → AV) : AA → Nat → AV := (am_u (am_u (am_ul (lW 11) (am_u (am_ul (lW 10) (am_u (am_ul (lW 9) (am_u (am_ul (lW 8) (am_u (am_ul (lW 7) (am_u (am_ul (lW 6) (am_u (am_ul (lW 5) (am_u (am_ul (lW 4) (am_u (am_ul (lW 3) (am_u (am_ul (lW 2) (am_u (am_u (am_u (am_u (am_u (am_u (am_u (am_u (am_u (am_u (am_u (am_u (am_ul (lW 1) (am_u (am_ul (lW 0) (am_u (am_u (am_u r (za 0) 0 (Sum.inr (za 1))) (za 2) 0 (Sum.inr (za 3))) (za 0) 1 (Sum.inr (za 2)))) (za 0) 2 (Sum.inr (wa 0 0)))) (za 0) 3 (Sum.inr (wa 1 0))) (za 35) 0 (Sum.inr (za 36))) (za 35) 1 (Sum.inr (za 37))) (za 35) 2 (Sum.inr (za 38))) (za 34) 0 (Sum.inr (za 35))) (za 34) 2 (Sum.inr (za 39))) (za 34) 3 (Sum.inr (za 40))) (za 34) 1 (Sum.inr (wa 1 0))) (za 0) 4 (Sum.inr (za 34))) (za 41) 0 (Sum.inr (za 42))) (za 41) 1 (Sum.inr (za 43))) (za 41) 2 (Sum.inr (za 44)))) (za 42) 0 (Sum.inr (wa 2 0)))) (za 42) 1 (Sum.inr (wa 3 0)))) (za 42) 2 (Sum.inr (wa 4 0)))) (za 42) 3 (Sum.inr (wa 5 0)))) (za 42) 4 (Sum.inr (wa 6 0)))) (za 42) 5 (Sum.inr (wa 7 0)))) (za 42) 6 (Sum.inr (wa 8 0)))) (za 42) 7 (Sum.inr (wa 9 0)))) (za 43) 0 (Sum.inr (wa 10 0)))) (za 43) 1 (Sum.inr (wa 11 0))) (za 0) 5 (Sum.inr (za 41)))
theorem am_ul_app (f : AA → Nat → AV) : ∀ l l2, am_ul (l ++ l2) f = am_ul l (am_ul l2 f)
  | [], _ => rfl
  | e :: l, l2 => by
    show am_u (am_ul (l ++ l2) f) e.1 e.2.1 e.2.2 = am_u (am_ul l (am_ul l2 f)) e.1 e.2.1 e.2.2
    rw [am_ul_app f l l2]
set_option maxRecDepth 20000 in
theorem rE_l (r : AA → Nat → AV) : rE r = am_ul l_all r := by
  unfold l_all
  simp only [am_ul_app]
  rfl
theorem am_ul_no {a : AA} {k : Nat} (f : AA → Nat → AV) : ∀ l : List (AA × Nat × AV), (∀ e ∈ l, ¬ (e.1 = a ∧ e.2.1 = k)) → am_ul l f a k = f a k
  | [], _ => rfl
  | e :: l, h => by
    have h1 := am_ul_no f l (fun e he => h e (List.mem_cons_of_mem _ he))
    have h2 := h e List.mem_cons_self
    show (if k = e.2.1 then (if a = e.1 then e.2.2 else am_ul l f a k) else am_ul l f a k) = f a k
    by_cases q : k = e.2.1
    · rw [if_pos q, if_neg (fun z => h2 ⟨z.symm, q.symm⟩), h1]
    · rw [if_neg q, h1]
def eqv : AV → AV → Bool
  | Sum.inr a, Sum.inr b => decide (a = b)
  | Sum.inl .null, Sum.inl .null => true
  | _, _ => false
theorem eqv_of {x y : AV} (h : eqv x y = true) : x = y := by
  unfold eqv at h
  split at h
  · exact congrArg Sum.inr (of_decide_eq_true h)
  · rfl
  · cases h
def kb_ (e : AA × Nat × AV) : Bool := match e.1 with
  | Sum.inl (_, j) => decide ((j = 0 ∨ j = 1 ∨ j = 7) ∧ e.2.1 < 8)
  | Sum.inr (Sum.inr (Sum.inl n)) => decide ((n = 0 ∨ n = 2 ∨ n = 34 ∨ n = 35 ∨ n = 41 ∨ n = 42 ∨ n = 43) ∧ e.2.1 < 21)
  | _ => false
theorem kb_all : ∀ e ∈ l_all, kb_ e = true := by decide +kernel
theorem eq_w : ∀ (i : Fin 12) (k : Fin 8), (eqv (am_ul l_all r0_ (wa i 0) k.val) (am_RF sg0 r0_ (wa i 0) k.val) && eqv (am_ul l_all r0_ (wa i 1) k.val) (am_RF sg0 r0_ (wa i 1) k.val) && eqv (am_ul l_all r0_ (wa i 7) k.val) (am_RF sg0 r0_ (wa i 7) k.val)) = true := by decide +kernel
theorem eq_z0 : ∀ k : Fin 21, eqv (am_ul l_all r0_ (za 0) k.val) (am_RF sg0 r0_ (za 0) k.val) = true := by decide +kernel
theorem eq_z2 : ∀ k : Fin 21, eqv (am_ul l_all r0_ (za 2) k.val) (am_RF sg0 r0_ (za 2) k.val) = true := by decide +kernel
theorem eq_z34 : ∀ k : Fin 21, eqv (am_ul l_all r0_ (za 34) k.val) (am_RF sg0 r0_ (za 34) k.val) = true := by decide +kernel
theorem eq_z35 : ∀ k : Fin 21, eqv (am_ul l_all r0_ (za 35) k.val) (am_RF sg0 r0_ (za 35) k.val) = true := by decide +kernel
theorem eq_z41 : ∀ k : Fin 21, eqv (am_ul l_all r0_ (za 41) k.val) (am_RF sg0 r0_ (za 41) k.val) = true := by decide +kernel
theorem eq_z42 : ∀ k : Fin 21, eqv (am_ul l_all r0_ (za 42) k.val) (am_RF sg0 r0_ (za 42) k.val) = true := by decide +kernel
theorem eq_z43 : ∀ k : Fin 21, eqv (am_ul l_all r0_ (za 43) k.val) (am_RF sg0 r0_ (za 43) k.val) = true := by decide +kernel
theorem RFz_len : ∀ e ∈ am_RFz, (e.1 = 0 ∨ e.1 = 2 ∨ e.1 = 34 ∨ e.1 = 35 ∨ e.1 = 41) ∧ e.2.length ≤ 21 := by decide +kernel
theorem rf_w {i : Fin 12} {j k : Nat} (h : ¬ ((j = 0 ∨ j = 1 ∨ j = 7) ∧ k < 8)) : am_RF sg0 r0_ (wa i j) k = Sum.inl .null := by
  show (bif Nat.beq j 0 then (match am_RFw[k]? with | some n => Sum.inr (wa i n) | none => Sum.inl .null) else bif Nat.beq j 1 then (bif Nat.blt k 4 then Sum.inr (wa i (k + 2)) else Sum.inl .null) else bif Nat.beq j 7 then (bif Nat.blt k 2 then Sum.inr (wa i (k + 8)) else Sum.inl .null) else Sum.inl .null : AV) = _
  by_cases q0 : j = 0
  · rw [am_beq q0, cond_true]
    have e : am_RFw[k]? = none := List.getElem?_eq_none (by show 8 ≤ k; omega)
    rw [e]
  · rw [am_bne q0, cond_false]
    by_cases q1 : j = 1
    · rw [am_beq q1, cond_true, am_nlt (show ¬ k < 4 by omega), cond_false]
    · rw [am_bne q1, cond_false]
      by_cases q7 : j = 7
      · rw [am_beq q7, cond_true, am_nlt (show ¬ k < 2 by omega), cond_false]
      · rw [am_bne q7, cond_false]
theorem rf_z {n k : Nat} (h : ¬ ((n = 0 ∨ n = 2 ∨ n = 34 ∨ n = 35 ∨ n = 41 ∨ n = 42 ∨ n = 43) ∧ k < 21)) : am_RF sg0 r0_ (za n) k = Sum.inl .null := by
  show (bif Nat.beq n 36 then sg0 k else bif Nat.beq n 42 then (if k < 8 then wr (Fin.ofNat 12 (2 + k)) else Sum.inl .null) else bif Nat.beq n 43 then (if k < 2 then wr (Fin.ofNat 12 (10 + k)) else Sum.inl .null) else match am_lk n am_RFz with | some l => l.getD k (Sum.inl .null) | none => Sum.inl .null : AV) = _
  by_cases q0 : n = 36
  · rw [am_beq q0, cond_true]; rfl
  · rw [am_bne q0, cond_false]
    by_cases q1 : n = 42
    · rw [am_beq q1, cond_true, if_neg (show ¬ k < 8 by omega)]
    · rw [am_bne q1, cond_false]
      by_cases q2 : n = 43
      · rw [am_beq q2, cond_true, if_neg (show ¬ k < 2 by omega)]
      · rw [am_bne q2, cond_false]
        cases hl : am_lk n am_RFz with
        | none => rfl
        | some l =>
          obtain ⟨g1, g2⟩ := RFz_len _ (am_lk_mem hl)
          have g1 : n = 0 ∨ n = 2 ∨ n = 34 ∨ n = 35 ∨ n = 41 := g1
          have g2 : l.length ≤ 21 := g2
          show l.getD k (Sum.inl .null) = _
          rw [List.getD_eq_getElem?_getD, List.getElem?_eq_none (by omega)]
          rfl
theorem rE_RF : rE r0_ = am_RF sg0 r0_ := by
  rw [rE_l]
  funext a k
  have no : ∀ {a : AA} {k : Nat}, (∀ v, kb_ (a, k, v) = false) → am_ul l_all r0_ a k = Sum.inl .null := fun {a k} h => am_ul_no r0_ l_all (fun e he q => by
    obtain ⟨e1, e2, e3⟩ := e
    obtain ⟨q1, q2⟩ := q
    cases q1
    cases q2
    have h1 := kb_all _ he
    rw [h e3] at h1
    cases h1)
  rcases a with ⟨i, j⟩ | x | n | y
  · by_cases c : (j = 0 ∨ j = 1 ∨ j = 7) ∧ k < 8
    · have g := eq_w i ⟨k, c.2⟩
      obtain ⟨g12, g3⟩ := Bool.and_eq_true_iff.mp g
      obtain ⟨g1, g2⟩ := Bool.and_eq_true_iff.mp g12
      rcases c.1 with rfl | rfl | rfl
      · exact eqv_of g1
      · exact eqv_of g2
      · exact eqv_of g3
    · rw [rf_w c]
      exact no (fun v => decide_eq_false c)
  · exact no (fun v => rfl)
  · by_cases c : (n = 0 ∨ n = 2 ∨ n = 34 ∨ n = 35 ∨ n = 41 ∨ n = 42 ∨ n = 43) ∧ k < 21
    · rcases c.1 with rfl | rfl | rfl | rfl | rfl | rfl | rfl
      · exact eqv_of (eq_z0 ⟨k, c.2⟩)
      · exact eqv_of (eq_z2 ⟨k, c.2⟩)
      · exact eqv_of (eq_z34 ⟨k, c.2⟩)
      · exact eqv_of (eq_z35 ⟨k, c.2⟩)
      · exact eqv_of (eq_z41 ⟨k, c.2⟩)
      · exact eqv_of (eq_z42 ⟨k, c.2⟩)
      · exact eqv_of (eq_z43 ⟨k, c.2⟩)
    · rw [rf_z c]
      exact no (fun v => decide_eq_false c)
  · exact no (fun v => rfl)
/-! the start of the script -/
def A0_ : As_ := ((false, fun _ => 0), ([], fun _ => none), (0, fun _ => 0), ((0 : Int32), (-1 : Int32)), (0, fun _ => 0))
def h0_ (xs : Nat → Int32) : HI := fun a k => if a = za 3004 then xs k else 0
theorem ne_za {n m : Nat} (h : n ≠ m) : za n ≠ za m := fun e => h (za_inj e)
theorem h0_n {xs : Nat → Int32} {n k : Nat} (h : n ≠ 3004) : h0_ xs (za n) k = 0 := if_neg (ne_za h)
theorem hE_o {hi : HI} {n k : Nat} (h : n ≠ 2 ∧ n ≠ 34 ∧ n ≠ 0) : hiE hi (za n) k = hi (za n) k := by
  unfold hiE
  rw [au_a (ne_za (by omega)), au_a (ne_za (by omega)), au_a (ne_za (by omega)), au_a (ne_za (by omega)), au_a (ne_za (by omega))]
theorem Ok_0 : Ok_ 2000 A0_ := ⟨Nat.zero_le _, Nat.zero_le _, (fun h => by cases h), (fun v h => by cases h), (fun k v h => by cases h), Nat.zero_le _, fun k h => absurd h (Nat.not_lt_zero _)⟩
def ad0 : AD := ((fun _ _ => 0), 0, (fun _ => 0), (fun _ => 0))
theorem RC_0 {xs : Nat → Int32} {l : Int64} {nc ns sl : Nat} : RC A0_ (hiE (h0_ xs)) (sg0, l, (r0_, ad0), 16, nc, ns, sl) := by
  refine ⟨⟨rfl, fun k hk => ⟨?_, Nat.zero_lt_succ _⟩, rfl, rfl, rfl, (fun h => by cases h)⟩, ⟨0, by decide, ?_, ?_, (fun j v h => by cases h)⟩, (fun k hk => ⟨?_, (fun v h => by cases h)⟩), rfl, ?_, fun k h => absurd h (Nat.not_lt_zero _), Nat.zero_le _, by show 16 ≤ 30000; decide, by_iff.mpr (fun k _ => ?_)⟩
  · rw [hE_o (by decide), h0_n (by decide)]; rfl
  · rw [hE_o (by decide), h0_n (by decide)]; rfl
  · rw [hE_o (by decide), h0_n (by decide)]; rfl
  · rw [hE_o (by decide), h0_n (by decide)]; rfl
  · show hiE (h0_ xs) (za 2) 3 = nI 0
    rfl
  · rw [hE_o (by decide), h0_n (by decide)]; rfl
theorem Z_0 {xs : Nat → Int32} {l : Int64} {nc ns sl : Nat} : Z_ (hiE (h0_ xs)) (sg0, l, (r0_, ad0), 16, nc, ns, sl) := fun i _ => ⟨fun K j => ⟨by
  unfold hiE
  rw [au_a (fun q => by cases q), au_a (fun q => by cases q), au_a (fun q => by cases q), au_a (fun q => by cases q), au_a (fun q => by cases q)]
  exact if_neg (fun q => by cases q), rfl⟩, fun j => rfl⟩
