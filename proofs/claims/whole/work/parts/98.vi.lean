/-! a number written: the class -/
section CN
variable {A A' : As_} {hi h h1 : HI} {x x1 : AX} {K G : Nat}
theorem tw_tx (v : Nat) : ∀ d A, (∀ k, k < A.tn → (tw_ v d A).tx k = A.tx k) ∧ ∀ j, j < d → (tw_ v d A).tx (A.tn + j) = 48 + v / 10 ^ (d - 1 - j) % 10
  | 0, _ => ⟨fun _ _ => rfl, fun j hj => absurd hj (Nat.not_lt_zero _)⟩
  | d + 1, A => by
    obtain ⟨h1, h2⟩ := tw_tx v d (tp_ A (48 + v / 10 ^ d % 10))
    refine ⟨fun k hk => ?_, fun j hj => ?_⟩
    · show (tw_ v d (tp_ A (48 + v / 10 ^ d % 10))).tx k = A.tx k
      rw [h1 k (show k < A.tn + 1 by omega)]
      exact if_neg (by omega)
    · show (tw_ v d (tp_ A (48 + v / 10 ^ d % 10))).tx (A.tn + j) = _
      by_cases c : j = 0
      · subst c
        rw [h1 _ (show A.tn + 0 < A.tn + 1 by omega), show d + 1 - 1 - 0 = d by omega]
        exact if_pos rfl
      · have := h2 (j - 1) (by omega)
        rw [show A.tn + j = (tp_ A (48 + v / 10 ^ d % 10)).tn + (j - 1) from (show A.tn + j = A.tn + 1 + (j - 1) by omega), this, show d - 1 - (j - 1) = d + 1 - 1 - j by omega]
theorem tw_eq (v d : Nat) (A : As_) : tw_ v d A = tx_ A (A.tn + d) (tw_ v d A).tx := by
  obtain ⟨h1, h2, h3, h4, h5⟩ := tw_n v d A
  show ((tw_ v d A).1, (tw_ v d A).2.1, (tw_ v d A).2.2.1, (tw_ v d A).2.2.2.1, ((tw_ v d A).tn, (tw_ v d A).tx)) = (A.1, A.2.1, A.2.2.1, A.2.2.2.1, (A.tn + d, (tw_ v d A).tx))
  rw [h1, h2, h3, h4, h5]
theorem C_num {v : Nat} (hG : 20 < G) (hv : v < 10 ^ 9) (hn : A.tn + 9 ≤ 200) (H : RC A h x) : ∃ h1 x1, sh_J4_append_bf812 G (nI v) h x = some (h1, x1) ∧ RC (tw_ v (p_dg v 8 0) A) h1 x1 ∧ fC_ h h1 ∧ XT x x1 := by
  obtain ⟨d1, d2, d3, d4⟩ := H.2.2.2
  have hd := p_dg_d hv 8 0 rfl (Or.inl rfl)
  obtain ⟨l1, l2⟩ := p_dg_le v 8 0
  have hsz := C_size (G := G) hG hv
  generalize p_dg v 8 0 = d at hd l1 l2 hsz
  have r6 := C_room3 (h := h) (x := x) (q := A.tn + d) (by omega) d4.2.2
  obtain ⟨r1, r2, r3, r4, r5⟩ := C_room2 (h := h) (x := x) (q := A.tn + d) (by omega) d4.2.1
  unfold sh_J4_append_bf812 sh_J5_append_c97b9
  rw [hsz, bs, d2, nI_add, if_pos ⟨nI_pos' (by omega), nI_le (b := 30000) (by omega) (by omega), d4.2.1, d1, d4.2.2⟩, bs]
  generalize gx x (nI (A.tn + d)) = g2 at r1 r2 r3 r6
  generalize gh h x (nI (A.tn + d)) = g at r4 r5 r6
  have e1 : g (za 2) 1 = 0 := (r4 _ _ (ne_za (by omega))).trans d1
  have el : sh_J5_isLatin1_aae02 g = 1 := by
    unfold sh_J5_isLatin1_aae02
    rw [e1, if_neg (by decide)]
  obtain ⟨h2, e2, f2, k2⟩ := C_ch (x := g2) (a2 := nI (A.tn + d)) (G := G) d v G g A.tn hd hv (by omega) (by omega) (by omega)
  have eg : sh_J6_getChars_ba4f3 G (nI v) (nI (A.tn + d)) g g2 = some (nI A.tn, h2, g2) := by
    unfold sh_J6_getChars_ba4f3 sh_J6_getChars_ba4f3_12
    rw [if_pos (nI_pos' (by omega)), if_neg (fun q => q rfl)]
    exact e2
  show ∃ h1 x1, ((if sh_J5_isLatin1_aae02 g = 0 then none else (sh_J6_getChars_ba4f3 G (nI v) (nI (A.tn + d)) g g2).bind fun v3 => sh_J5_append_c97b9_48 G (nI v) (nI (A.tn + d)) v3.2.1 v3.2.2).bind fun v1 => some (v1.1, v1.2)) = some (h1, x1) ∧ _
  rw [el, if_neg (by decide), eg, bs]
  have f : ∀ b k, b ≠ za 2 → b ≠ za 3 → am_u h2 (za 2) 3 (nI (A.tn + d)) b k = h b k := fun b k q1 q2 => by rw [au_a q1, f2 _ _ (fun e => absurd e q2), r4 _ _ q2]
  obtain ⟨t1, t2⟩ := tw_tx v d A
  have r7 : am_by (am_u h2 (za 2) 3 (nI (A.tn + d)) (za 3)) g2.2.2.2.1 = true := by_iff.mpr (fun k hk => by
    rw [au_a (ne_za (by omega))]
    by_cases c : A.tn ≤ k ∧ k < A.tn + d
    · obtain ⟨j, rfl⟩ : ∃ j, k = A.tn + j := ⟨k - A.tn, by omega⟩
      rw [k2 j (by omega)]
      have := Nat.mod_lt (v / 10 ^ (d - 1 - j)) (show 0 < 10 by decide)
      exact sb_lo _ (by omega)
    · rw [f2 _ _ (fun _ => c)]
      exact by_iff.mp r6 k hk)
  refine ⟨am_u h2 (za 2) 3 (nI (A.tn + d)), g2, rfl, ?_, fC_t f, r3⟩
  rw [tw_eq]
  refine H.t f ?_ au_ (fun k hk => ?_) ⟨r1, r2, r7⟩
  · rw [au_k (by omega), f2 _ _ (fun e => absurd e (ne_za (by omega))), e1]
  · rw [au_a (ne_za (by omega))]
    by_cases c : k < A.tn
    · rw [f2 _ _ (fun _ z => by omega), r5 _ (by omega), t1 k c]
      exact d3 k c
    · obtain ⟨j, rfl⟩ : ∃ j, k = A.tn + j := ⟨k - A.tn, by omega⟩
      rw [k2 j (by omega), t2 j (by omega)]
end CN
