/-! one fall a minute; the best pace and curtain -/
def E5 (w w1 : Wd) : Prop := w1 15 = w 15
section E5S
variable {w w1 w2 : Wd}
theorem E5.refl : E5 w w := rfl
theorem E5.trans (a : E5 w w1) (b : E5 w1 w2) : E5 w w2 := (show w2 15 = w1 15 from b).trans a
theorem E5.u {k : Nat} {v : Int32} (a : E5 w w1) (h : k ≠ 15) : E5 w (upd w1 k v) := (upd_ne (by omega)).trans a
theorem e5_bowl : E5 w (p_bowl w) ∨ p_bowl w 15 = w 15 + 1 := by
  have s : E5 w (p_spl w) := by
    unfold p_spl
    exact (E5.refl.u (by omega)).u (by omega)
  unfold p_bowl
  split
  · left
    split
    · exact s
    · split
      · exact s
      · unfold p_startle
        split
        · exact s
        · split
          · exact s.u (by omega)
          · exact s.u (by omega)
  · right
    have e : p_fall (p_spl w) 15 = p_spl w 15 + 1 := rfl
    rw [e, show p_spl w 15 = w 15 from s]
theorem e5_catm : E5 w (p_catm w) := by
  unfold p_catm
  refine E5.u ?_ (by omega)
  split
  · exact E5.refl
  · split
    · exact E5.refl.u (by omega)
    · exact E5.refl
theorem e5_cat : p_cat w 15 = w 15 ∨ p_cat w 15 = w 15 + 1 := by
  unfold p_cat
  split
  · exact Or.inl rfl
  · split
    · exact Or.inl e5_catm
    · have c : p_catm w 15 = w 15 := e5_catm
      rcases e5_bowl (w := p_catm w) with h | h
      · exact Or.inl (e5_catm.trans h)
      · right; rw [h, c]
theorem e5_turn : E5 w (p_turn w) := (E5.refl.u (by omega)).u (by omega)
theorem e5_enter {t : Nat} : E5 w (p_enter w t) := ((((((E5.refl.u (by omega)).u (by omega)).u (by omega)).u (by omega)).u (by omega)).u (by omega))
theorem e5_slide {t m : Nat} : E5 w (p_slide w t m) := by
  unfold p_slide
  split
  · exact E5.refl
  · split
    · exact E5.refl
    · split
      · split
        · exact ((E5.refl.u (by omega)).u (by omega)).u (by omega)
        · exact E5.refl
      · exact E5.refl
theorem e5_walk : ∀ (f : Nat) (w : Wd), E5 w (p_walk f w) := fun f => by
  induction f with
  | zero => exact fun w => E5.refl
  | succ f ih =>
    intro w
    rw [p_walk_s]
    split
    · exact e5_turn.trans (ih _)
    · split
      · have a : ∀ t m, E5 w (p_enter (p_slide w t m) t) := fun t m => e5_slide.trans e5_enter
        split
        · exact (a _ _).trans (ih _)
        · split
          · exact (a _ _).trans (ih _)
          · exact ((a _ _).u (by omega)).u (by omega)
      · exact e5_turn.trans (ih _)
theorem e5_dry : ∀ f k (w : Wd), E5 w (p_dryN f k w) := fun f => by
  induction f with
  | zero => exact fun k w => E5.refl
  | succ f ih =>
    intro k w
    rw [p_dryN_s]
    have a : E5 w (p_dry1 w k) := by
      unfold p_dry1
      split
      · exact E5.refl
      · exact E5.refl.u (by omega)
    exact a.trans (ih _ _)
theorem e5_blow : ∀ f k (w : Wd), E5 w (p_blowN f k w) := fun f => by
  induction f with
  | zero => exact fun k w => E5.refl
  | succ f ih =>
    intro k w
    rw [p_blowN_s]
    have a : E5 w (p_blow1 w k) := by
      unfold p_blow1
      split
      · exact E5.refl
      · split
        · exact E5.refl
        · exact E5.refl.u (by omega)
    exact a.trans (ih _ _)
theorem e5_99 : E5 w (p_99 w) := by
  refine (e5_blow (nn w 1) 0 w).trans ?_
  show E5 (p_blowN (nn w 1) 0 w) (p_reloc (p_blowN (nn w 1) 0 w))
  unfold p_reloc
  split
  · split
    · exact E5.refl.u (by omega)
    · exact (E5.refl.u (by omega)).trans ((E5.refl.u (by omega)).u (by omega))
  · exact E5.refl
theorem e5_night : E5 w (p_night w) := by
  have n : ∀ w1, E5 w1 (p_nite w1) := fun w1 => ((E5.refl.u (by omega)).u (by omega)).u (by omega)
  unfold p_night
  split
  · exact n w
  · refine E5.trans ?_ (n _)
    unfold p_rec
    split
    · show (if 15 = 19 then _ else if 404 ≤ 15 ∧ 15 < _ then _ else w 15) = w 15
      rw [if_neg (by omega), if_neg (by omega)]
    · exact E5.refl
theorem e5_70 : E5 w (p_70 w) := by
  have a : E5 w (p_min (p_dryN (p_rc w) 0 w)) := (e5_dry _ 0 w).trans (E5.refl.u (by omega))
  unfold p_70
  split
  · exact a.trans e5_99
  · exact (a.trans e5_night).trans e5_99
theorem e5_pass : p_pass w 15 = w 15 ∨ p_pass w 15 = w 15 + 1 := by
  have a : E5 (p_cat w) (p_pass w) := by
    unfold p_pass p_25
    split
    · split
      · exact e5_70
      · exact (e5_walk _ _).trans e5_70
    · exact (E5.refl.u (by omega)).trans e5_70
  have a : p_pass w 15 = p_cat w 15 := a
  rw [a]
  exact e5_cat
theorem passN_l : ∀ n (w : Wd), p_passN (n + 1) w = p_pass (p_passN n w)
  | 0, _ => rfl
  | n + 1, w => passN_l n (p_pass w)
/-- one more than v, and no overflow -/
theorem one_more {v a b : Int32} (h : b = a ∨ b = a + 1) (h1 : v < b) (h2 : ¬ v < a) : b.toInt64 = v.toInt64 + Int64.ofNat 1 := by
  rcases h with h | h
  · rw [h] at h1; exact absurd h1 h2
  · subst h
    rw [Int32.lt_iff_toInt_lt] at h1 h2
    have ra := Int32.toInt_lt a
    have rb := Int32.le_toInt a
    have rv := Int32.le_toInt v
    have e : (a + 1).toInt = (a.toInt + 1).bmod (2 ^ 32) := Int32.toInt_add a 1
    rw [e] at h1
    have ha : a.toInt = v.toInt ∧ (a.toInt + 1).bmod (2 ^ 32) = a.toInt + 1 := by
      rw [Int.bmod_def] at h1 ⊢
      omega
    refine Int64.toInt_inj.mp ?_
    rw [Int64.toInt_add, Int32.toInt_toInt64, Int32.toInt_toInt64, e, ha.2, ha.1]
    have e1 : (Int64.ofNat 1).toInt = 1 := by decide
    rw [e1, Int.bmod_def]
    omega
/-- the best pace -/
theorem bp_inv {n : Nat} (w : Wd) : ∀ f k (b v : Int32), k + f = 6 → 1 ≤ k → (∃ j, 1 ≤ j ∧ j ≤ 5 ∧ b = nI j ∧ v = p_passN n (upd w 3 (nI j)) 12 ∧ p_passN n (upd w 3 (nI 1)) 12 ≤ v) → ∃ j, 1 ≤ j ∧ j ≤ 5 ∧ p_bp n w f k b v = nI j ∧ p_passN n (upd w 3 (nI 1)) 12 ≤ p_passN n (upd w 3 (nI j)) 12
  | 0, k, b, v, _, _, ⟨j, h1, h2, h3, h4, h5⟩ => ⟨j, h1, h2, h3, by rw [← h4]; exact h5⟩
  | f + 1, k, b, v, hk, h1k, h => by
    show ∃ j, 1 ≤ j ∧ j ≤ 5 ∧ (if p_passN n (upd w 3 (nI k)) 12 ≤ v then p_bp n w f (k + 1) b v else p_bp n w f (k + 1) (nI k) (p_passN n (upd w 3 (nI k)) 12)) = nI j ∧ _
    by_cases c : p_passN n (upd w 3 (nI k)) 12 ≤ v
    · rw [if_pos c]
      exact bp_inv w f (k + 1) b v (by omega) (by omega) h
    · rw [if_neg c]
      obtain ⟨j, h1, h2, h3, h4, h5⟩ := h
      refine bp_inv w f (k + 1) _ _ (by omega) (by omega) ⟨k, h1k, by omega, rfl, rfl, ?_⟩
      rw [Int32.le_iff_toInt_le] at c h5 ⊢
      omega
theorem bp_best {n : Nat} {w : Wd} (h : (0 : Int32) ≤ p_passN n (upd w 3 (nI 1)) 12) : ∃ j, 1 ≤ j ∧ j ≤ 5 ∧ p_bp n w 5 1 (-1) (-1) = nI j ∧ p_passN n (upd w 3 (nI 1)) 12 ≤ p_passN n (upd w 3 (nI j)) 12 := by
  have e : p_bp n w 5 1 (-1) (-1) = if p_passN n (upd w 3 (nI 1)) 12 ≤ -1 then p_bp n w 4 2 (-1) (-1) else p_bp n w 4 2 (nI 1) (p_passN n (upd w 3 (nI 1)) 12) := rfl
  rw [e, if_neg (fun q => by
    rw [Int32.le_iff_toInt_le] at q h
    have e1 : ((-1 : Int32)).toInt = -1 := by decide
    have e0 : ((0 : Int32)).toInt = 0 := by decide
    omega)]
  exact bp_inv w 4 2 _ _ (by omega) (by omega) ⟨1, by omega, by omega, rfl, rfl, by rw [Int32.le_iff_toInt_le]; omega⟩
/-- the best curtain -/
theorem bc_inv {n : Nat} {w : Wd} : ∀ f k (b v : Int32), k + f ≤ 10 → (b = -1 ∨ ∃ j, j < k ∧ b = nI j ∧ w (26 + j) ≠ 0) → (p_bc n w f k b v = -1 ∨ ∃ j, j < k + f ∧ p_bc n w f k b v = nI j ∧ w (26 + j) ≠ 0)
  | 0, k, b, v, _, h => h
  | f + 1, k, b, v, hk, h => by
    show (if w (26 + k) = 0 then p_bc n w f (k + 1) b v else if p_passN n (upd w (26 + k) 0) 12 ≤ v then p_bc n w f (k + 1) b v else p_bc n w f (k + 1) (nI k) (p_passN n (upd w (26 + k) 0) 12)) = -1 ∨ ∃ j, j < k + (f + 1) ∧ (if w (26 + k) = 0 then p_bc n w f (k + 1) b v else if p_passN n (upd w (26 + k) 0) 12 ≤ v then p_bc n w f (k + 1) b v else p_bc n w f (k + 1) (nI k) (p_passN n (upd w (26 + k) 0) 12)) = nI j ∧ w (26 + j) ≠ 0
    have h2 : b = -1 ∨ ∃ j, j < k + 1 ∧ b = nI j ∧ w (26 + j) ≠ 0 := by
      rcases h with h | ⟨j, j1, j2⟩
      · exact Or.inl h
      · exact Or.inr ⟨j, by omega, j2⟩
    rw [show k + (f + 1) = k + 1 + f by omega]
    by_cases c : w (26 + k) = 0
    · rw [if_pos c]
      exact bc_inv f (k + 1) b v (by omega) h2
    · rw [if_neg c]
      by_cases c2 : p_passN n (upd w (26 + k) 0) 12 ≤ v
      · rw [if_pos c2]
        exact bc_inv f (k + 1) b v (by omega) h2
      · rw [if_neg c2]
        exact bc_inv f (k + 1) _ _ (by omega) (Or.inr ⟨k, by omega, rfl, c⟩)
/-- a bowl set down is counted -/
theorem mk_pos {o t : Nat} : ∀ n, t < n → w (o + t) ≠ 0 → 1 ≤ p_mk w o n
  | 0, h, _ => absurd h (by omega)
  | n + 1, h, h1 => by
    rw [p_mk_s]
    by_cases c : n = t
    · subst c
      rw [if_neg h1]
      omega
    · have := mk_pos n (by omega) h1
      omega
theorem mk_le {o : Nat} : ∀ n, p_mk w o n ≤ n
  | 0 => Nat.le_refl _
  | n + 1 => by
    rw [p_mk_s]
    have := mk_le (o := o) n
    split <;> omega
end E5S
