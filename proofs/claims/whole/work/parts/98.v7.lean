/-! writeRow: both sides -/
section WR
variable {A B : As_} {hi h h1 : HI} {x x1 : AX} {K G : Nat} {a c : Int32} {w : Wd}
theorem pic_n (w : Wd) (t : Nat) : p_pic w t = nI (an_ (p_pic w t)) ∧ an_ (p_pic w t) < 128 := by
  have h : p_pic w t = 87 ∨ p_pic w t = 67 ∨ p_pic w t = 111 ∨ p_pic w t = 126 ∨ p_pic w t = 114 ∨ p_pic w t = 42 ∨ p_pic w t = 46 := by
    unfold p_pic
    split
    · exact Or.inl rfl
    · split
      · exact Or.inr (Or.inl rfl)
      · split
        · exact Or.inr (Or.inr (Or.inl rfl))
        · split
          · exact Or.inr (Or.inr (Or.inr (Or.inl rfl)))
          · split
            · exact Or.inr (Or.inr (Or.inr (Or.inr (Or.inl rfl))))
            · split
              · exact Or.inr (Or.inr (Or.inr (Or.inr (Or.inr (Or.inl rfl)))))
              · exact Or.inr (Or.inr (Or.inr (Or.inr (Or.inr (Or.inr rfl)))))
  unfold an_
  rcases h with e | e | e | e | e | e | e <;> rw [e] <;> exact ⟨rfl, by decide⟩
def tr_ (A : As_) (r : Nat) : Nat → As_
  | 0 => t0_ A
  | k + 1 => tp_ (tr_ A r k) (an_ (p_pic A.w (r * nn A.w 1 + k)))
theorem tr_n (A : As_) (r : Nat) : ∀ k, (tr_ A r k).tn = k ∧ (tr_ A r k).1 = A.1 ∧ (tr_ A r k).2.1 = A.2.1 ∧ (tr_ A r k).2.2.1 = A.2.2.1 ∧ (tr_ A r k).2.2.2.1 = A.2.2.2.1 ∧ ∀ j, j < k → (tr_ A r k).tx j < 128
  | 0 => ⟨rfl, rfl, rfl, rfl, rfl, fun j hj => absurd hj (Nat.not_lt_zero _)⟩
  | k + 1 => by
    obtain ⟨h1, h2, h3, h4, h5, h6⟩ := tr_n A r k
    refine ⟨congrArg (· + 1) h1, h2, h3, h4, h5, fun j hj => ?_⟩
    show (if j = (tr_ A r k).tn then an_ (p_pic A.w (r * nn A.w 1 + k)) else (tr_ A r k).tx j) < 128
    split
    · exact (pic_n _ _).2
    · exact h6 j (by omega)
theorem C_row2 {r : Nat} (hG : 501 < G) (hO : Ok_ K A) (e : A.ld = true) (hr : r < nn A.w 0) : ∀ f k F h x, k + f = nn A.w 1 → f < F → RC (tr_ A r k) h x → ∃ h1 x1, sh_X9_writeRow_42 G (nI r) F (nI k) h x = some (Sum.inl (nI (nn A.w 1)), h1, x1) ∧ RC (tr_ A r (nn A.w 1)) h1 x1 ∧ fC_ h h1 ∧ XT x x1 := fun f => by
  have hI := hO.ib e
  have hc := hI.1.c
  have h80 := rc80 hI
  induction f with
  | zero =>
    intro k F h x hk hF H
    obtain ⟨F, rfl⟩ : ∃ F2, F = F2 + 1 := ⟨F - 1, by omega⟩
    obtain rfl : k = nn A.w 1 := by omega
    obtain ⟨t1, t2, -⟩ := tr_n A r (nn A.w 1)
    have hv : vw_ 0 h = A.w := (H.1.2.2.2.2.2 (by show (tr_ A r (nn A.w 1)).1.1 = true; rw [t2]; exact e)).trans (by show (tr_ A r (nn A.w 1)).1.2 = A.w; rw [t2]; rfl)
    show ∃ h1 x1, sh_X9_writeRow_42_b G (nI r) (sh_X9_writeRow_42 G (nI r) F) (nI (nn A.w 1)) h x = _ ∧ _
    unfold sh_X9_writeRow_42_b
    rw [vr_1 0 h, hv, hc.1, if_pos (Int32.le_refl _)]
    have el : sh_J4_length_8abf5 h = nI (nn A.w 1) := by
      have q : h (za 2) 3 = nI (tr_ A r (nn A.w 1)).tn := H.2.2.2.2.1
      rw [t1] at q
      exact q
    rw [el]
    exact ⟨h, x, rfl, H, fC_.refl h, XT.refl x⟩
  | succ f ih =>
    intro k F h x hk hF H
    obtain ⟨F, rfl⟩ : ∃ F2, F = F2 + 1 := ⟨F - 1, by omega⟩
    obtain ⟨t1, t2, -⟩ := tr_n A r k
    have hv : vw_ 0 h = A.w := (H.1.2.2.2.2.2 (by show (tr_ A r k).1.1 = true; rw [t2]; exact e)).trans (by show (tr_ A r k).1.2 = A.w; rw [t2]; rfl)
    show ∃ h1 x1, sh_X9_writeRow_42_b G (nI r) (sh_X9_writeRow_42 G (nI r) F) (nI k) h x = _ ∧ _
    unfold sh_X9_writeRow_42_b
    have ht : r * nn A.w 1 + k < 80 := by
      have := row_in hI.1 (r := r) (by omega) k (by omega)
      rw [Nat.mul_one] at this
      have h9 : p_rc A.w = nn A.w 0 * nn A.w 1 := rfl
      omega
    rw [vr_1 0 h, hv, hc.1, if_neg (nI_ge (by omega) (by omega)), pk_mul, nI_add, C_pic (K := K) (B := 5 * K) (by omega) ht (by rw [hv]; exact hI), bs, hv, (pic_n _ _).1]
    obtain ⟨h1, x1, e1, H1, f1, X1⟩ := C_put (pic_n A.w (r * nn A.w 1 + k)).2 (by rw [t1]; omega) H
    obtain ⟨h2, x2, e2, H2, f2, X2⟩ := ih (k + 1) F h1 x1 (by omega) (by omega) H1
    rw [e1, bs, nI_1]
    exact ⟨h2, x2, e2, H2, f1.trans f2, X1.trans X2⟩
theorem M_row2 {r : Nat} (hG : 501 < G) (hO : Ok_ K A) (e : A.ld = true) (hr : r < nn A.w 0) : ∀ f k F h, k + f = nn A.w 1 → f < F → RM (tr_ A r k) h → ∃ h1, sh_X10_writeRow_48 G (nI r) F (nI k) h = some (nI (nn A.w 1), h1) ∧ RM (tr_ A r (nn A.w 1)) h1 ∧ fM_ h h1 ∧ h1 (za 195) 0 = h (za 195) 0 := fun f => by
  have hI := hO.ib e
  have hc := hI.1.c
  have h80 := rc80 hI
  induction f with
  | zero =>
    intro k F h hk hF H
    obtain ⟨F, rfl⟩ : ∃ F2, F = F2 + 1 := ⟨F - 1, by omega⟩
    obtain rfl : k = nn A.w 1 := by omega
    obtain ⟨t1, t2, -⟩ := tr_n A r (nn A.w 1)
    have hv : mw_ h = A.w := (H.1.2.2.2.2.2 (by show (tr_ A r (nn A.w 1)).1.1 = true; rw [t2]; exact e)).trans (by show (tr_ A r (nn A.w 1)).1.2 = A.w; rw [t2]; rfl)
    show ∃ h1, sh_X10_writeRow_48_b G (nI r) (sh_X10_writeRow_48 G (nI r) F) (nI (nn A.w 1)) h = _ ∧ _
    unfold sh_X10_writeRow_48_b
    have el : h (za 195) 21 = nI (nn A.w 1) := by
      have q : h (za 195) 21 = nI (tr_ A r (nn A.w 1)).tn := H.2.2.2.1
      rw [t1] at q
      exact q
    rw [m_1 h, hv, hc.1, if_pos (Int32.le_refl _), el]
    exact ⟨h, rfl, H, fM_.refl h, rfl⟩
  | succ f ih =>
    intro k F h hk hF H
    obtain ⟨F, rfl⟩ : ∃ F2, F = F2 + 1 := ⟨F - 1, by omega⟩
    obtain ⟨t1, t2, -⟩ := tr_n A r k
    have hv : mw_ h = A.w := (H.1.2.2.2.2.2 (by show (tr_ A r k).1.1 = true; rw [t2]; exact e)).trans (by show (tr_ A r k).1.2 = A.w; rw [t2]; rfl)
    show ∃ h1, sh_X10_writeRow_48_b G (nI r) (sh_X10_writeRow_48 G (nI r) F) (nI k) h = _ ∧ _
    unfold sh_X10_writeRow_48_b
    have ht : r * nn A.w 1 + k < 80 := by
      have := row_in hI.1 (r := r) (by omega) k (by omega)
      rw [Nat.mul_one] at this
      have h9 : p_rc A.w = nn A.w 0 * nn A.w 1 := rfl
      omega
    rw [m_1 h, hv, hc.1, if_neg (nI_ge (by omega) (by omega)), pk_mul, nI_add, M_pic (K := K) (B := 5 * K) (by omega) ht (by rw [hv]; exact hI), bs, hv, (pic_n _ _).1]
    obtain ⟨h1, e1, H1, f1, c1⟩ := M_put (pic_n A.w (r * nn A.w 1 + k)).2 (by rw [t1]; omega) H
    obtain ⟨h2, e2, H2, f2, c2⟩ := ih (k + 1) F h1 (by omega) (by omega) H1
    rw [e1, bs, nI_1]
    exact ⟨h2, e2, H2, f1.trans f2, c2.trans c1⟩
end WR
