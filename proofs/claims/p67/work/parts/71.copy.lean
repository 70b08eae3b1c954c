/-! a World copied, a World begun; what stands before the walker; a tile's picture -/
theorem wa_ne {i j : Fin 12} {a b : Nat} (h : i ≠ j) : wa j a ≠ wa i b := fun e => h (by injection e with e; injection e with e _; exact e.symm)
theorem wa_ne2 {i : Fin 12} {a b : Nat} (h : a ≠ b) : wa i a ≠ wa i b := fun e => h (by injection e with e; injection e)
def cp1 (S : Nat → Nat → Bool) (j m : Nat) : Nat → Nat → Bool := fun a b => (Nat.beq a j && Nat.beq b m) || S a b
def cpn (S : Nat → Nat → Bool) (j n : Nat) : Nat → Nat → Bool := fun a b => (Nat.beq a j && Nat.blt b n) || S a b
/-- what of World j has come to World i -/
def Cp (i j : Fin 12) (h0 h : HI) (S : Nat → Nat → Bool) : Prop := (∀ a b, S a b = true → h (wa i a) b = h0 (wa j a) b) ∧ fr_ i h0 h
section CPY
variable {i j : Fin 12} {h0 h : HI} {S : Nat → Nat → Bool}
theorem Cp.src (hij : i ≠ j) (c : Cp i j h0 h S) (a b : Nat) : h (wa j a) b = h0 (wa j a) b := c.2 _ _ fun _ => wa_ne hij
theorem Cp.u {a m : Nat} {v : Int32} (c : Cp i j h0 h S) (hv : v = h0 (wa j a) m) : Cp i j h0 (am_u h (wa i a) m v) (cp1 S a m) := by
  refine ⟨fun a2 b2 h2 => ?_, c.2.u⟩
  unfold am_u
  by_cases hb : b2 = m
  · rw [if_pos hb]
    by_cases ha : a2 = a
    · subst ha; subst hb
      rw [if_pos rfl]; exact hv
    · rw [if_neg (wa_ne2 ha)]
      refine c.1 _ _ ?_
      unfold cp1 at h2
      rcases Bool.or_eq_true_iff.mp h2 with q | q
      · exact absurd (Nat.eq_of_beq_eq_true (Bool.and_eq_true_iff.mp q).1) ha
      · exact q
  · rw [if_neg hb]
    refine c.1 _ _ ?_
    unfold cp1 at h2
    rcases Bool.or_eq_true_iff.mp h2 with q | q
    · exact absurd (Nat.eq_of_beq_eq_true (Bool.and_eq_true_iff.mp q).2) hb
    · exact q
theorem Cp.c {a n : Nat} (hij : i ≠ j) (c : Cp i j h0 h S) : Cp i j h0 (sh_copy (wa j a) n (wa i a) n h) (cpn S a n) := by
  refine ⟨fun a2 b2 h2 => ?_, fun x k hx => ?_⟩
  · show (if wa i a2 = wa i a ∧ 0 ≤ b2 ∧ b2 < 0 + min n n then h (wa j a) (0 + (b2 - 0)) else h (wa i a2) b2) = _
    by_cases hc : a2 = a ∧ b2 < n
    · obtain ⟨rfl, hb⟩ := hc
      rw [if_pos ⟨rfl, Nat.zero_le _, by omega⟩, show 0 + (b2 - 0) = b2 by omega]
      exact c.src hij _ _
    · rw [if_neg (fun q => hc ⟨by have := q.1; injection this with e; injection e, by have := q.2.2; omega⟩)]
      refine c.1 _ _ ?_
      unfold cpn at h2
      rcases Bool.or_eq_true_iff.mp h2 with q | q
      · obtain ⟨q1, q2⟩ := Bool.and_eq_true_iff.mp q
        exact absurd ⟨Nat.eq_of_beq_eq_true q1, Nat.blt_eq.mp q2⟩ hc
      · exact q
  · show (if x = wa i a ∧ _ then _ else h x k) = _
    rw [if_neg (fun q => hx a q.1)]
    exact c.2 x k hx
theorem C_copy (hij : i ≠ j) (h10 : vw_ j h0 10 = 0 ∨ vw_ j h0 10 = 1) : ∃ h1, sh_X8_copyFrom i j h0 = some h1 ∧ rv i h1 = rv j h0 ∧ fr_ i h0 h1 := by
  have c0 : Cp i j h0 h0 (fun _ _ => false) := ⟨fun _ _ h => (by cases h), fr_.refl i h0⟩
  unfold sh_X8_copyFrom sh_X2_copyFrom
  simp only [bs]
  have c1 := ((((c0.c (a := 2) (n := 10) hij).c (a := 3) (n := 4) hij).c (a := 4) (n := 4) hij).c (a := 5) (n := 30) hij)
  generalize sh_copy (wa j 5) 30 (wa i 5) 30 (sh_copy (wa j 4) 4 (wa i 4) 4 (sh_copy (wa j 3) 4 (wa i 3) 4 (sh_copy (wa j 2) 10 (wa i 2) 10 h0))) = h1 at c1
  have c2 := ((((((((c1.u (c1.src hij 1 4)).u (c1.src hij 1 5)).u (c1.src hij 1 6)).u (c1.src hij 1 7)).u (c1.src hij 1 8)).u (c1.src hij 1 9)).u (c1.src hij 1 10)).u (c1.src hij 1 11)).u (c1.src hij 1 12)
  generalize am_u (am_u (am_u (am_u (am_u (am_u (am_u (am_u (am_u h1 (wa i 1) 4 (h1 (wa j 1) 4)) (wa i 1) 5 (h1 (wa j 1) 5)) (wa i 1) 6 (h1 (wa j 1) 6)) (wa i 1) 7 (h1 (wa j 1) 7)) (wa i 1) 8 (h1 (wa j 1) 8)) (wa i 1) 9 (h1 (wa j 1) 9)) (wa i 1) 10 (h1 (wa j 1) 10)) (wa i 1) 11 (h1 (wa j 1) 11)) (wa i 1) 12 (h1 (wa j 1) 12) = h2 at c2
  unfold sh_X7_copyFrom
  have e10 : h2 (wa j 6) 2 = vw_ j h0 10 := by rw [c2.src hij, vr_10 j h0]
  rw [e10, if_pos h10, ← e10]
  simp only [bs]
  have c3 := ((((((((c2.u (c2.src hij 6 0)).u (c2.src hij 6 1)).u (c2.src hij 6 2)).u (c2.src hij 6 3)).u (c2.src hij 6 4)).u (c2.src hij 6 5)).u (c2.src hij 6 6)).u (c2.src hij 6 7)).u (c2.src hij 6 8)
  generalize am_u (am_u (am_u (am_u (am_u (am_u (am_u (am_u (am_u h2 (wa i 6) 0 (h2 (wa j 6) 0)) (wa i 6) 1 (h2 (wa j 6) 1)) (wa i 6) 2 (h2 (wa j 6) 2)) (wa i 6) 3 (h2 (wa j 6) 3)) (wa i 6) 4 (h2 (wa j 6) 4)) (wa i 6) 5 (h2 (wa j 6) 5)) (wa i 6) 6 (h2 (wa j 6) 6)) (wa i 6) 7 (h2 (wa j 6) 7)) (wa i 6) 8 (h2 (wa j 6) 8) = h3 at c3
  unfold sh_X3_copyFrom
  simp only [bs]
  have c4 := (c3.c (a := 8) (n := 10) hij).c (a := 9) (n := 10) hij
  generalize sh_copy (wa j 9) 10 (wa i 9) 10 (sh_copy (wa j 8) 10 (wa i 8) 10 h3) = h4 at c4
  have c5 := ((((((c4.u (c4.src hij 7 2)).c (a := 10) (n := 10) hij).c (a := 11) (n := 80) hij).c (a := 12) (n := 80) hij).c (a := 13) (n := 80) hij).c (a := 14) (n := 80) hij)
  generalize sh_copy (wa j 14) 80 (wa i 14) 80 (sh_copy (wa j 13) 80 (wa i 13) 80 (sh_copy (wa j 12) 80 (wa i 12) 80 (sh_copy (wa j 11) 80 (wa i 11) 80 (sh_copy (wa j 10) 10 (wa i 10) 10 (am_u h4 (wa i 7) 2 (h4 (wa j 7) 2)))))) = h5 at c5
  have c6 := (((((c5.u (c5.src hij 0 8)).u (c5.src hij 0 9)).u (c5.src hij 0 10)).u (c5.src hij 0 11)).u (c5.src hij 0 12)).u (c5.src hij 0 13)
  refine ⟨_, rfl, ?_, c6.2⟩
  funext k
  unfold rv
  by_cases hk : k < 424 ∧ k ≠ 25
  · rw [if_pos hk, if_pos hk]
    refine c6.1 _ _ ?_
    have all : ∀ k, k < 424 → k ≠ 25 → (cp1 (cp1 (cp1 (cp1 (cp1 (cp1 (cpn (cpn (cpn (cpn (cpn (cp1 (cpn (cpn (cp1 (cp1 (cp1 (cp1 (cp1 (cp1 (cp1 (cp1 (cp1 (cp1 (cp1 (cp1 (cp1 (cp1 (cp1 (cp1 (cp1 (cp1 (cpn (cpn (cpn (cpn (fun _ _ => false) 2 10) 3 4) 4 4) 5 30) 1 4) 1 5) 1 6) 1 7) 1 8) 1 9) 1 10) 1 11) 1 12) 6 0) 6 1) 6 2) 6 3) 6 4) 6 5) 6 6) 6 7) 6 8) 8 10) 9 10) 7 2) 10 10) 11 80) 12 80) 13 80) 14 80) 0 8) 0 9) 0 10) 0 11) 0 12) 0 13) (adr k).1 (adr k).2 = true := by decide +kernel
    exact all k hk.1 hk.2
  · rw [if_neg hk, if_neg hk]
theorem C_copyV (hij : i ≠ j) (h10 : vw_ j h0 10 = 0 ∨ vw_ j h0 10 = 1) : cs_ (sh_X8_copyFrom i j h0) i h0 (vw_ j h0) := by
  obtain ⟨h1, e, hr, hf⟩ := C_copy hij h10
  exact ⟨h1, e, by unfold vw_; rw [hr], hf⟩
end CPY
/-- a World begun -/
def p_start (r c : Int32) : Wd := fun k => if k = 0 then r else if k = 1 then c else if k = 2 then 5 else if k = 3 then 1 else if k = 4 then 10 else if k = 6 then 15 else if k = 8 then -1 else if k = 10 then 1 else if k = 16 then -1 else 0
def Rz (i : Fin 12) (h0 h : HI) (S : Nat → Nat → Bool) : Prop := (∀ a b, S a b = true → h (wa i a) b = p_start 2 2 (ida a b)) ∧ fr_ i h0 h
section RST
variable {i : Fin 12} {h0 h : HI} {S : Nat → Nat → Bool}
theorem Rz.u {a m : Nat} {v : Int32} (c : Rz i h0 h S) (hv : v = p_start 2 2 (ida a m)) : Rz i h0 (am_u h (wa i a) m v) (cp1 S a m) := by
  refine ⟨fun a2 b2 h2 => ?_, c.2.u⟩
  unfold am_u
  by_cases hb : b2 = m
  · rw [if_pos hb]
    by_cases ha : a2 = a
    · subst ha; subst hb
      rw [if_pos rfl]; exact hv
    · rw [if_neg (wa_ne2 ha)]
      refine c.1 _ _ ?_
      unfold cp1 at h2
      rcases Bool.or_eq_true_iff.mp h2 with q | q
      · exact absurd (Nat.eq_of_beq_eq_true (Bool.and_eq_true_iff.mp q).1) ha
      · exact q
  · rw [if_neg hb]
    refine c.1 _ _ ?_
    unfold cp1 at h2
    rcases Bool.or_eq_true_iff.mp h2 with q | q
    · exact absurd (Nat.eq_of_beq_eq_true (Bool.and_eq_true_iff.mp q).2) hb
    · exact q
theorem Rz.f {a n : Nat} (hv : ∀ m, m < n → p_start 2 2 (ida a m) = 0) (c : Rz i h0 h S) : Rz i h0 (sh_fill (wa i a) n 0 h) (cpn S a n) := by
  refine ⟨fun a2 b2 h2 => ?_, fun x k hx => ?_⟩
  · show (if wa i a2 = wa i a ∧ b2 < n then (0 : Int32) else h (wa i a2) b2) = _
    by_cases hc : a2 = a ∧ b2 < n
    · obtain ⟨rfl, hb⟩ := hc
      rw [if_pos ⟨rfl, hb⟩]
      exact (hv _ hb).symm
    · rw [if_neg (fun q => hc ⟨by have := q.1; injection this with e; injection e, q.2⟩)]
      refine c.1 _ _ ?_
      unfold cpn at h2
      rcases Bool.or_eq_true_iff.mp h2 with q | q
      · obtain ⟨q1, q2⟩ := Bool.and_eq_true_iff.mp q
        exact absurd ⟨Nat.eq_of_beq_eq_true q1, Nat.blt_eq.mp q2⟩ hc
      · exact q
  · show (if x = wa i a ∧ _ then _ else h x k) = _
    rw [if_neg (fun q => hx a q.1)]
    exact c.2 x k hx
theorem C_reset : cs_ (sh_X8_reset i h0) i h0 (p_start 2 2) := by
  have c0 : Rz i h0 h0 (fun _ _ => false) := ⟨fun _ _ h => (by cases h), fr_.refl i h0⟩
  unfold sh_X8_reset sh_X2_reset sh_X7_reset sh_X3_reset
  simp only [bs]
  have z : ∀ a n, (∀ m, m < n → ida a m < 424) → True := fun _ _ _ => trivial
  have c1 := (((((((((c0.f (a := 2) (n := 10) (by decide +kernel)).u (a := 1) (m := 4) (v := 2) rfl).u (a := 1) (m := 5) (v := 2) rfl).u (a := 1) (m := 6) (v := 5) rfl).u (a := 1) (m := 7) (v := 10) rfl).u (a := 1) (m := 8) (v := 0) rfl).u (a := 1) (m := 9) (v := 0) rfl).u (a := 1) (m := 10) (v := 0) rfl).u (a := 1) (m := 11) (v := 0) rfl).u (a := 1) (m := 12) (v := 0) rfl
  have c2 := (((((((((c1.u (a := 6) (m := 0) (v := -1) rfl).u (a := 6) (m := 1) (v := 0) rfl).u (a := 6) (m := 2) (v := 1) rfl).u (a := 6) (m := 3) (v := 0) rfl).u (a := 6) (m := 4) (v := 0) rfl).u (a := 6) (m := 5) (v := 0) rfl).u (a := 6) (m := 6) (v := 0) rfl).u (a := 6) (m := 7) (v := 0) rfl).u (a := 6) (m := 8) (v := 0) rfl).u (a := 7) (m := 2) (v := 0) rfl
  have c3 := ((((c2.f (a := 10) (n := 10) (by decide +kernel)).f (a := 11) (n := 80) (by decide +kernel)).f (a := 12) (n := 80) (by decide +kernel)).f (a := 13) (n := 80) (by decide +kernel)).f (a := 14) (n := 80) (by decide +kernel)
  have c4 := (((((c3.u (a := 0) (m := 8) (v := 1) rfl).u (a := 0) (m := 9) (v := 15) rfl).u (a := 0) (m := 10) (v := 0) rfl).u (a := 0) (m := 11) (v := 0) rfl).u (a := 0) (m := 12) (v := -1) rfl).u (a := 0) (m := 13) (v := 0) rfl
  refine ⟨_, rfl, ?_, c4.2⟩
  generalize am_u (am_u (am_u (am_u (am_u (am_u (sh_fill (wa i 14) 80 0 _) (wa i 0) 8 1) (wa i 0) 9 15) (wa i 0) 10 0) (wa i 0) 11 0) (wa i 0) 12 (-1)) (wa i 0) 13 0 = h1 at c4
  have all : ∀ k, k < 424 → k ≠ 25 → (k < 46 ∨ 84 ≤ k ∧ k < 404) → (cp1 (cp1 (cp1 (cp1 (cp1 (cp1 (cpn (cpn (cpn (cpn (cpn (cp1 (cp1 (cp1 (cp1 (cp1 (cp1 (cp1 (cp1 (cp1 (cp1 (cp1 (cp1 (cp1 (cp1 (cp1 (cp1 (cp1 (cp1 (cp1 (cpn (fun _ _ => false) 2 10) 1 4) 1 5) 1 6) 1 7) 1 8) 1 9) 1 10) 1 11) 1 12) 6 0) 6 1) 6 2) 6 3) 6 4) 6 5) 6 6) 6 7) 6 8) 7 2) 10 10) 11 80) 12 80) 13 80) 14 80) 0 8) 0 9) 0 10) 0 11) 0 12) 0 13) (adr k).1 (adr k).2 = true := by decide +kernel
  have hrv : ∀ k, k < 424 → k ≠ 25 → (k < 46 ∨ 84 ≤ k ∧ k < 404) → rv i h1 k = p_start 2 2 k := fun k h1 h2 h3 => by
    unfold rv
    rw [if_pos ⟨h1, h2⟩, c4.1 _ _ (all k h1 h2 h3), ida_adr k h1 h2]
  have n24 : nn (rv i h1) 24 = 0 := by unfold nn; rw [hrv 24 (by omega) (by omega) (by omega)]; rfl
  have n17 : nn (rv i h1) 17 = 0 := by unfold nn; rw [hrv 17 (by omega) (by omega) (by omega)]; rfl
  have n19 : nn (rv i h1) 19 = 0 := by unfold nn; rw [hrv 19 (by omega) (by omega) (by omega)]; rfl
  have p0 : ∀ k, 16 < k → p_start 2 2 k = 0 := fun k hk => by
    unfold p_start
    rw [if_neg (by omega), if_neg (by omega), if_neg (by omega), if_neg (by omega), if_neg (by omega), if_neg (by omega), if_neg (by omega), if_neg (by omega), if_neg (by omega)]
  funext k
  unfold vw_ nz
  rw [n24, n17, n19]
  by_cases b1 : k < 46
  · rw [if_pos b1]
    by_cases b2 : k = 25
    · rw [if_pos b2, b2]; rfl
    · rw [if_neg b2, hrv k (by omega) b2 (Or.inl b1)]
  · rw [if_neg b1, p0 k (by omega)]
    by_cases b2 : k < 54
    · rw [if_pos b2, if_neg (by omega)]
    · rw [if_neg b2]
      by_cases b3 : k < 84
      · rw [if_pos b3, if_neg (by omega)]
      · rw [if_neg b3]
        by_cases b4 : k < 404
        · rw [if_pos b4, hrv k (by omega) (by omega) (Or.inr ⟨by omega, b4⟩), p0 k (by omega)]
        · rw [if_neg b4]
          split
          · rw [if_neg (by omega)]
          · rfl
end RST
