/-! how many minutes until: both sides -/
def p_ul (w0 : Wd) (t : Nat) : Nat → Nat → Wd → Int32
  | 0, k, w => if p_lit w t = true then nI k else -1
  | f + 1, k, w => if p_lit w t = true then nI k else p_ul w0 t f (k + 1) (p_pass w)
def p_gr (v0 : Int32) (c : Nat) : Nat → Nat → Wd → Int32
  | 0, k, w => if v0 < w c then nI k else -1
  | f + 1, k, w => if v0 < w c then nI k else p_gr v0 c f (k + 1) (p_pass w)
section UN
variable {A A1 : As_} {hi h h1 : HI} {x : AX} {K G : Nat} {a c : Int32} {w : Wd}
theorem fr_.f0 {h0 h1 : HI} (f : fr_ 1 h0 h1) : vw_ 0 h1 = vw_ 0 h0 := V_fr f (by decide)
theorem C_ul {t : Nat} (hG : 501 < G) (ht : t < 80) (ea : a = nI t) : ∀ (f k F K B : Nat) (h : HI) (w : Wd), k + f = 500 → f + 1 < F → K + f < 2 ^ 28 → B + 5 * f < 2 ^ 29 → ib_ K B 0 w → vw_ 1 h = w → ∃ h1, sh_X9_minutesUntilLit_22 G a F (nI k) h = some (Sum.inl (p_ul w t f k w, h1)) ∧ fr_ 1 h h1 ∧ p_ul w t f k w = p_ul w t f k w := fun f => by
  subst ea
  have hp : ∀ (f k : Nat) (w w1 w2 : Wd), p_ul w1 t f k w = p_ul w2 t f k w := fun f => by
    induction f with
    | zero => intro k w w1 w2; rfl
    | succ f ih =>
      intro k w w1 w2
      show (if p_lit w t = true then nI k else p_ul w1 t f (k + 1) (p_pass w)) = (if p_lit w t = true then nI k else p_ul w2 t f (k + 1) (p_pass w))
      rw [ih (k + 1) (p_pass w) w1 w2]
  induction f with
  | zero =>
    intro k F K B h w hk hF hK hB hI hv
    obtain ⟨F, rfl⟩ : ∃ F2, F = F2 + 2 := ⟨F - 2, by omega⟩
    show ∃ h1, sh_X9_minutesUntilLit_22_b G (nI t) (sh_X9_minutesUntilLit_22 G (nI t) (F + 1)) (nI k) h = _ ∧ _
    unfold sh_X9_minutesUntilLit_22_b
    rw [if_neg (show ¬ (500 : Int32) < nI k from fun q => by have := (nI_ltI (a := 500) (by omega) (by omega)).mp q; omega), C_lit (by rw [hv]; exact hI.1) (by rw [hv]; exact (i7b hI).1) (by rw [hv]; exact (i7b hI).2) ht (by omega), bs, hv, eq_of]
    show ∃ h1, _ = some (Sum.inl (if p_lit w t = true then nI k else -1, h1)) ∧ _
    by_cases q : p_lit w t = true
    · rw [if_pos q, if_pos q]
      exact ⟨h, rfl, fr_.refl 1 h, rfl⟩
    · rw [if_neg q, if_neg q]
      obtain ⟨h2, e2, v2, f2⟩ := C_pass (i := 1) (G := G) (K := K) (B := B) (hi := h) (by omega) (by omega) (by omega) (by rw [hv]; exact hI)
      rw [e2, bs, nI_1]
      show ∃ h1, sh_X9_minutesUntilLit_22_b G (nI t) (sh_X9_minutesUntilLit_22 G (nI t) F) (nI (k + 1)) h2 = _ ∧ _
      unfold sh_X9_minutesUntilLit_22_b
      rw [if_pos (show (500 : Int32) < nI (k + 1) from nI_lt (a := 500) (by omega) (by omega))]
      exact ⟨h2, rfl, f2, rfl⟩
  | succ f ih =>
    intro k F K B h w hk hF hK hB hI hv
    obtain ⟨F, rfl⟩ : ∃ F2, F = F2 + 1 := ⟨F - 1, by omega⟩
    show ∃ h1, sh_X9_minutesUntilLit_22_b G (nI t) (sh_X9_minutesUntilLit_22 G (nI t) F) (nI k) h = _ ∧ _
    unfold sh_X9_minutesUntilLit_22_b
    rw [if_neg (show ¬ (500 : Int32) < nI k from fun q => by have := (nI_ltI (a := 500) (by omega) (by omega)).mp q; omega), C_lit (by rw [hv]; exact hI.1) (by rw [hv]; exact (i7b hI).1) (by rw [hv]; exact (i7b hI).2) ht (by omega), bs, hv, eq_of]
    show ∃ h1, _ = some (Sum.inl (if p_lit w t = true then nI k else p_ul w t f (k + 1) (p_pass w), h1)) ∧ _
    by_cases q : p_lit w t = true
    · rw [if_pos q, if_pos q]
      exact ⟨h, rfl, fr_.refl 1 h, rfl⟩
    · rw [if_neg q, if_neg q]
      obtain ⟨h2, e2, v2, f2⟩ := C_pass (i := 1) (G := G) (K := K) (B := B) (hi := h) (by omega) (by omega) (by omega) (by rw [hv]; exact hI)
      rw [hv] at v2
      obtain ⟨h3, e3, f3, -⟩ := ih (k + 1) F (K + 1) (B + 5) h2 (p_pass w) (by omega) (by omega) (by omega) (by omega) (hI.pass (by omega) (by omega)) v2
      rw [e2, bs, nI_1, e3, hp f (k + 1) (p_pass w) (p_pass w) w]
      exact ⟨h3, rfl, f2.trans f3, rfl⟩
theorem Cf_minutesUntilLit (hG : 501 < G) (hG2 : 510 < G) (hK : K ≤ 200000) (hO : Ok_ K A) (H : RC A hi x) : Ck_ A (sh_L_minutesUntilLit G a hi x) hi x (cT_ A a) (p_ul A.w (an_ a) 500 0 A.w) := C2_ (z := 1) H rfl rfl rfl (fun e => qT_ hO H e) (fun e eo => by
  have hI := hO.ib e
  obtain ⟨t1, t2, t3⟩ := tkT hO e eo
  obtain ⟨h2, e2, v2, f2⟩ := C_draft hI (H.vw e)
  obtain ⟨h4, e4, f4, -⟩ := C_ul (G := G) (a := a) hG t2 t3 500 0 G K (5 * K) h2 A.w rfl (by omega) (by omega) (by omega) hI v2
  rw [e2, bs]
  exact ⟨h4, e4, f2.trans f4⟩)
end UN
