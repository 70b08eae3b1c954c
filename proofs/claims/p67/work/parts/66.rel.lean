/-! spills dry, curtains stir, the walker comes into the light -/
def p_dry1 (w : Wd) (k : Nat) : Wd := if w (244 + k) ≤ 0 then w else upd w (244 + k) (if w (244 + k) - (if w (164 + k) ≤ 0 then 1 else 2) < 0 then 0 else w (244 + k) - (if w (164 + k) ≤ 0 then 1 else 2))
def p_dryN : Nat → Nat → Wd → Wd
  | 0, _, w => w
  | f + 1, k, w => p_dryN f (k + 1) (p_dry1 w k)
def p_blow1 (w : Wd) (k : Nat) : Wd := if w (36 + k) ≤ 0 then w else if w 7 - w 7 / w (36 + k) * w (36 + k) ≠ 0 then w else upd w (26 + k) (1 - w (26 + k))
def p_blowN : Nat → Nat → Wd → Wd
  | 0, _, w => w
  | f + 1, k, w => p_blowN f (k + 1) (p_blow1 w k)
def p_try (w : Wd) (k : Nat) : Bool := decide (k < nn w 1) && !(decide (0 < w (26 + k))) && decide (w (244 + (p_row w * nn w 1 + k)) ≤ 0)
def p_near (w : Wd) : Nat → Nat → Option Nat
  | 0, _ => none
  | f + 1, a => if a ≤ nn w 9 ∧ p_try w (nn w 9 - a) = true then some (nn w 9 - a) else if p_try w (nn w 9 + a) = true then some (nn w 9 + a) else p_near w f (a + 1)
def p_sett (w : Wd) (k : Nat) : Wd := upd (upd w 8 (nI (p_row w * nn w 1 + k))) 9 (nI k)
def p_reloc (w : Wd) : Wd := if p_out w = true ∧ ¬ (w 8 ≠ -1 ∧ p_lies w (nn w 8) = true) then (match p_near (upd w 8 (-1)) (nn w 1) 0 with
  | none => upd w 8 (-1)
  | some k => p_sett (upd w 8 (-1)) k) else w
theorem p_dryN_s (f k : Nat) (w : Wd) : p_dryN (f + 1) k w = p_dryN f (k + 1) (p_dry1 w k) := rfl
theorem p_blowN_s (f k : Nat) (w : Wd) : p_blowN (f + 1) k w = p_blowN f (k + 1) (p_blow1 w k) := rfl
theorem p_near_s (w : Wd) (f a : Nat) : p_near w (f + 1) a = if a ≤ nn w 9 ∧ p_try w (nn w 9 - a) = true then some (nn w 9 - a) else if p_try w (nn w 9 + a) = true then some (nn w 9 + a) else p_near w f (a + 1) := rfl
theorem st_.dry1 {w : Wd} {k : Nat} (h : st_ w) : st_ (p_dry1 w k) := by
  unfold p_dry1
  split
  · exact h
  · exact h.u (by unfold sk; omega)
theorem st_.blow1 {w : Wd} {k : Nat} (hk : k < 10) (h : st_ w) : st_ (p_blow1 w k) := by
  unfold p_blow1
  split
  · exact h
  · split
    · exact h
    · exact h.u (by unfold sk; omega)
theorem p_near_lt {w : Wd} {k : Nat} : ∀ {f a}, p_near w f a = some k → p_try w k = true
  | 0, _, h => by cases h
  | f + 1, a, h => by
    rw [p_near_s] at h
    split at h
    · next c => cases h; exact c.2
    · split at h
      · next c => cases h; exact c
      · exact p_near_lt h
theorem p_try_lt {w : Wd} {k : Nat} (h : p_try w k = true) : k < nn w 1 := by
  unfold p_try at h
  have h1 := (Bool.and_eq_true_iff.mp (Bool.and_eq_true_iff.mp h).1).1
  exact of_decide_eq_true h1
section CD
variable {i : Fin 12}
theorem C_dry_7 {G : Nat} : ∀ (f k F : Nat) (hi : HI), f < F → k + f ≤ 80 → cs_ (sh_X8_drySpills_7 G i F (nI (k + f)) (nI k) hi) i hi (p_dryN f k (vw_ i hi))
  | f, k, 0, hi, hF, _ => absurd hF (Nat.not_lt_zero _)
  | 0, k, F + 1, hi, hF, hk => by
    show cs_ (sh_X8_drySpills_7_b G i (sh_X8_drySpills_7 G i F) (nI k) (nI k) hi) i hi (vw_ i hi)
    unfold sh_X8_drySpills_7_b
    rw [if_pos (Int32.le_refl _)]
    exact cs_.ret rfl (fr_.refl i hi)
  | f + 1, k, F + 1, hi, hF, hk => by
    show cs_ (sh_X8_drySpills_7_b G i (sh_X8_drySpills_7 G i F) (nI (k + (f + 1))) (nI k) hi) i hi (p_dryN (f + 1) k (vw_ i hi))
    have ih := fun hi => C_dry_7 (G := G) f (k + 1) F hi (by omega) (by omega)
    have e9 : k + (f + 1) = (k + 1) + f := by omega
    rw [← e9, ← nI_1 k] at ih
    have h80 : k < 80 := by omega
    unfold sh_X8_drySpills_7_b sh_X8_drySpills_41
    rw [if_neg (nI_ge (by omega) (by omega)), at_n h80 (by decide), at_n h80 (by decide), vr_spill i hi h80, vr_rug i hi h80, p_dryN_s]
    have go : ∀ d : Int32, p_dry1 (vw_ i hi) k = upd (vw_ i hi) (244 + k) (if vw_ i hi (244 + k) - d < 0 then 0 else vw_ i hi (244 + k) - d) → cs_ ((some (sh_put (wa i 12) 80 (nI k) (if vw_ i hi (244 + k) - d < 0 then 0 else vw_ i hi (244 + k) - d) hi)).bind fun h1 => sh_X8_drySpills_7 G i F (nI (k + (f + 1))) (nI k + 1) h1) i hi (p_dryN f (k + 1) (p_dry1 (vw_ i hi) k)) := fun d hd => by
      rw [bs, put_n h80 (by decide)]
      have h := (ih (am_u hi (wa i 12) k (if vw_ i hi (244 + k) - d < 0 then 0 else vw_ i hi (244 + k) - d))).fro (fr_.refl i hi).u
      rw [uw_spill h80, ← hd] at h
      exact h
    by_cases c1 : vw_ i hi (244 + k) ≤ 0
    · have e : p_dry1 (vw_ i hi) k = vw_ i hi := if_pos c1
      rw [if_pos c1, e]
      exact ih hi
    · have e : p_dry1 (vw_ i hi) k = _ := if_neg c1
      rw [if_neg c1]
      by_cases c2 : vw_ i hi (164 + k) ≤ 0
      · rw [if_pos c2]
        rw [if_pos c2] at e
        exact go 1 e
      · rw [if_neg c2]
        rw [if_neg c2] at e
        exact go 2 e
theorem C_dry {G : Nat} {hi : HI} (hG : 80 < G) (hs : st_ (vw_ i hi)) : cs_ (sh_X8_drySpills G i hi) i hi (p_dryN (p_rc (vw_ i hi)) 0 (vw_ i hi)) := by
  unfold sh_X8_drySpills
  rw [C_tiles hs]
  have h := C_dry_7 (G := G) (i := i) (p_rc (vw_ i hi)) 0 G hi (by have := hs.rc.2; omega) (by have := hs.rc.2; omega)
  rw [Nat.zero_add] at h
  exact h
theorem C_blow_2 {G : Nat} : ∀ (f k F : Nat) (hi : HI), f < F → st_ (vw_ i hi) → nn (vw_ i hi) 1 = k + f → cs_ (sh_X8_stirCurtains_2 G i F (nI k) hi) i hi (p_blowN f k (vw_ i hi))
  | f, k, 0, hi, hF, _, _ => absurd hF (Nat.not_lt_zero _)
  | 0, k, F + 1, hi, hF, hs, hk => by
    show cs_ (sh_X8_stirCurtains_2_b G i (sh_X8_stirCurtains_2 G i F) (nI k) hi) i hi (vw_ i hi)
    unfold sh_X8_stirCurtains_2_b
    rw [vr_1 i hi, hs.c.1, hk, Nat.add_zero, if_pos (Int32.le_refl _)]
    exact cs_.ret rfl (fr_.refl i hi)
  | f + 1, k, F + 1, hi, hF, hs, hk => by
    show cs_ (sh_X8_stirCurtains_2_b G i (sh_X8_stirCurtains_2 G i F) (nI k) hi) i hi (p_blowN (f + 1) k (vw_ i hi))
    have hc := hs.c
    have h10 : k < 10 := by omega
    have ih := fun hi => C_blow_2 (G := G) f (k + 1) F hi (by omega)
    rw [← nI_1 k] at ih
    unfold sh_X8_stirCurtains_2_b
    rw [vr_1 i hi, hc.1, hk, if_neg (nI_ge (by omega) (by omega)), at_n h10 (by decide), vr_dra i hi h10, at_n h10 (by decide), vr_cur i hi h10, vr_7 i hi, p_blowN_s]
    by_cases c1 : vw_ i hi (36 + k) ≤ 0
    · have e : p_blow1 (vw_ i hi) k = vw_ i hi := if_pos c1
      rw [if_pos c1, e]
      exact ih hi hs (by omega)
    · have e : p_blow1 (vw_ i hi) k = _ := if_neg c1
      rw [if_neg c1, if_neg (fun h => c1 (by rw [h]; exact Int32.le_refl _))]
      by_cases c2 : vw_ i hi 7 - vw_ i hi 7 / vw_ i hi (36 + k) * vw_ i hi (36 + k) ≠ 0
      · rw [if_pos c2]
        rw [if_pos c2] at e
        rw [e]
        exact ih hi hs (by omega)
      · rw [if_neg c2, bs, put_n h10 (by decide)]
        rw [if_neg c2] at e
        have h := (ih (am_u hi (wa i 10) k (1 - vw_ i hi (26 + k))) (by rw [uw_cur h10]; exact hs.u (by unfold sk; omega)) (by rw [uw_cur h10, nn_cg (upd_ne (by omega))]; omega)).fro (fr_.refl i hi).u
        rw [uw_cur h10, ← e] at h
        exact h
theorem C_blow {G : Nat} {hi : HI} (hG : 10 < G) (hs : st_ (vw_ i hi)) : cs_ (sh_X8_stirCurtains G i hi) i hi (p_blowN (nn (vw_ i hi) 1) 0 (vw_ i hi)) := C_blow_2 (G := G) (nn (vw_ i hi) 1) 0 G hi (by have := hs.c.2.2; omega) hs (by omega)
/-- a column that there isn't -/
theorem C_sett_no {hi : HI} {x : Int32} (hs : st_ (vw_ i hi)) (h7 : vw_ i hi 7 = nI (nn (vw_ i hi) 7)) (h : nn (vw_ i hi) 7 < 2 ^ 31) (hx : x < 0 ∨ nI (nn (vw_ i hi) 1) ≤ x) : sh_X8_settle i x hi = some (0, hi) := by
  unfold sh_X8_settle
  rw [C_row hs h7 h, bs, vr_1 i hi, hs.c.1]
  by_cases c : x < 0
  · rw [if_pos c]
  · rw [if_neg c]
    rcases hx with hx | hx
    · exact absurd hx c
    · rw [if_pos hx]
theorem row_lt {w : Wd} (hs : st_ w) (h : nn w 7 < nn w 0 * nn w 2) : p_row w < nn w 0 := by
  unfold p_row
  apply Nat.div_lt_of_lt_mul
  rw [Nat.mul_comm]
  exact h
theorem row_tile {w : Wd} {k : Nat} (hs : st_ w) (h : nn w 7 < nn w 0 * nn w 2) (hk : k < nn w 1) : p_row w * nn w 1 + k < p_rc w := by
  have h1 := row_lt hs h
  have h2 : (p_row w + 1) * nn w 1 ≤ nn w 0 * nn w 1 := Nat.mul_le_mul_right _ h1
  rw [Nat.succ_mul] at h2
  show _ < nn w 0 * nn w 1
  omega
theorem C_sett {hi : HI} {k : Nat} (hs : st_ (vw_ i hi)) (h7 : vw_ i hi 7 = nI (nn (vw_ i hi) 7)) (h : nn (vw_ i hi) 7 < nn (vw_ i hi) 0 * nn (vw_ i hi) 2) (hk : k < 2 ^ 30) : if p_try (vw_ i hi) k = true then cv_ (sh_X8_settle i (nI k) hi) i hi 1 (p_sett (vw_ i hi) k) else sh_X8_settle i (nI k) hi = some (0, hi) := by
  have hr := hs.r
  have hc := hs.c
  have hl := hs.l
  have h9 : nn (vw_ i hi) 7 < 2 ^ 31 := by
    have : nn (vw_ i hi) 0 * nn (vw_ i hi) 2 ≤ 8 * 20 := Nat.mul_le_mul hr.2.2 hl.2.2
    omega
  by_cases c0 : k < nn (vw_ i hi) 1
  case neg =>
    have e : ¬ p_try (vw_ i hi) k = true := fun h => c0 (p_try_lt h)
    rw [if_neg e]
    exact C_sett_no hs h7 h9 (Or.inr (nI_le (by omega) (by omega)))
  have ht := row_tile hs h c0
  have h80 := hs.rc.2
  have hrow := row_lt hs h
  unfold sh_X8_settle
  rw [C_row hs h7 h9, bs, vr_1 i hi, hc.1, if_neg (nI_pos (by omega)), if_neg (nI_ge c0 (by omega)), at_n (by omega) (by decide), vr_cur i hi (by omega), pk_mul, nI_add, at_n (by omega) (by decide), vr_spill i hi (by omega)]
  unfold p_try
  rw [decide_eq_true c0]
  by_cases c1 : 0 < vw_ i hi (26 + k)
  · rw [decide_eq_true c1, if_neg (by simp), if_pos c1]
  · rw [decide_eq_false c1, if_neg c1]
    by_cases c2 : vw_ i hi (244 + (p_row (vw_ i hi) * nn (vw_ i hi) 1 + k)) ≤ 0
    · rw [decide_eq_true c2, if_pos (by rfl), if_pos c2]
      exact cv_.ret (by rw [uw_9, uw_8]; rfl) (fr_.refl i hi).u.u
    · rw [decide_eq_false c2, if_neg (by simp), if_neg c2]
theorem C_rel_43 {G : Nat} : ∀ (f a F : Nat) (hi : HI), f < F → st_ (vw_ i hi) → vw_ i hi 7 = nI (nn (vw_ i hi) 7) → nn (vw_ i hi) 7 < nn (vw_ i hi) 0 * nn (vw_ i hi) 2 → vw_ i hi 9 = nI (nn (vw_ i hi) 9) → nn (vw_ i hi) 9 < 10 → nn (vw_ i hi) 1 = a + f → cs_ (sh_X8_relocate_43 G i F (nI a) hi) i hi (match p_near (vw_ i hi) f a with | none => vw_ i hi | some k => p_sett (vw_ i hi) k)
  | f, a, 0, hi, hF, _, _, _, _, _, _ => absurd hF (Nat.not_lt_zero _)
  | 0, a, F + 1, hi, hF, hs, _, _, _, _, ha => by
    show cs_ (sh_X8_relocate_43_b G i (sh_X8_relocate_43 G i F) (nI a) hi) i hi (vw_ i hi)
    unfold sh_X8_relocate_43_b
    rw [vr_1 i hi, hs.c.1, ha, Nat.add_zero, if_pos (Int32.le_refl _)]
    exact cs_.ret rfl (fr_.refl i hi)
  | f + 1, a, F + 1, hi, hF, hs, h7, h7b, h9, h9b, ha => by
    show cs_ (sh_X8_relocate_43_b G i (sh_X8_relocate_43 G i F) (nI a) hi) i hi (match p_near (vw_ i hi) (f + 1) a with | none => vw_ i hi | some k => p_sett (vw_ i hi) k)
    have hc := hs.c
    have hr := hs.r
    have hl := hs.l
    have h79 : nn (vw_ i hi) 7 < 2 ^ 31 := by
      have : nn (vw_ i hi) 0 * nn (vw_ i hi) 2 ≤ 8 * 20 := Nat.mul_le_mul hr.2.2 hl.2.2
      omega
    have ih := C_rel_43 (G := G) f (a + 1) F hi (by omega) hs h7 h7b h9 h9b (by omega)
    rw [← nI_1 a] at ih
    unfold sh_X8_relocate_43_b
    rw [vr_1 i hi, hc.1, ha, if_neg (nI_ge (by omega) (by omega)), vr_9 i hi, h9, p_near_s]
    have second : cs_ ((sh_X8_settle i (nI (nn (vw_ i hi) 9) + nI a) hi).bind fun v3 => if v3.1 = 0 then sh_X8_relocate_43 G i F (nI a + 1) v3.2 else some v3.2) i hi (match (if p_try (vw_ i hi) (nn (vw_ i hi) 9 + a) = true then some (nn (vw_ i hi) 9 + a) else p_near (vw_ i hi) f (a + 1)) with | none => vw_ i hi | some k => p_sett (vw_ i hi) k) := by
      rw [nI_add]
      have g := C_sett (i := i) (hi := hi) (k := nn (vw_ i hi) 9 + a) hs h7 h7b (by omega)
      by_cases c : p_try (vw_ i hi) (nn (vw_ i hi) 9 + a) = true
      · rw [if_pos c] at g ⊢
        exact g.bind fun h1 e1 f1 => by
          show cs_ (if (1 : Int32) = 0 then _ else some h1) i hi _
          rw [if_neg (by decide)]
          exact cs_.ret e1 f1
      · rw [if_neg c] at g ⊢
        rw [g, bs]
        show cs_ (if (0 : Int32) = 0 then _ else some hi) i hi _
        rw [if_pos rfl]
        exact ih
    by_cases c1 : a ≤ nn (vw_ i hi) 9
    · rw [pk_sub c1]
      have g := C_sett (i := i) (hi := hi) (k := nn (vw_ i hi) 9 - a) hs h7 h7b (by omega)
      by_cases c : p_try (vw_ i hi) (nn (vw_ i hi) 9 - a) = true
      · rw [if_pos c] at g
        rw [if_pos ⟨c1, c⟩]
        exact g.bind fun h1 e1 f1 => by
          show cs_ (if (1 : Int32) ≠ 0 then some h1 else _) i hi _
          rw [if_pos (by decide)]
          exact cs_.ret e1 f1
      · rw [if_neg c] at g
        rw [if_neg (fun h => c h.2), g, bs]
        show cs_ (if (0 : Int32) ≠ 0 then some hi else (sh_X8_settle i (hi (wa i 6) 1 + nI a) hi).bind fun v3 => if v3.1 = 0 then sh_X8_relocate_43 G i F (nI a + 1) v3.2 else some v3.2) i hi _
        rw [if_neg (by decide), vr_9 i hi, h9]
        exact second
    · have g := C_sett_no (i := i) (hi := hi) (x := nI (nn (vw_ i hi) 9) - nI a) hs h7 h79 (Or.inl (pk_sneg (by omega) (by omega)))
      rw [if_neg (fun h => c1 h.1), g, bs]
      show cs_ (if (0 : Int32) ≠ 0 then some hi else (sh_X8_settle i (hi (wa i 6) 1 + nI a) hi).bind fun v3 => if v3.1 = 0 then sh_X8_relocate_43 G i F (nI a + 1) v3.2 else some v3.2) i hi _
      rw [if_neg (by decide), vr_9 i hi, h9]
      exact second
theorem C_rel {G : Nat} {hi : HI} (hG : 10 < G) (hs : st_ (vw_ i hi)) (h7 : vw_ i hi 7 = nI (nn (vw_ i hi) 7)) (h7b : nn (vw_ i hi) 7 < nn (vw_ i hi) 0 * nn (vw_ i hi) 2) (h9 : vw_ i hi 9 = nI (nn (vw_ i hi) 9)) (h9b : nn (vw_ i hi) 9 < 10) (h8 : vw_ i hi 8 = -1 ∨ (vw_ i hi 8 = nI (nn (vw_ i hi) 8) ∧ nn (vw_ i hi) 8 < p_rc (vw_ i hi))) : cs_ (sh_X8_relocate G i hi) i hi (p_reloc (vw_ i hi)) := by
  have hr := hs.r
  have hl := hs.l
  have h80 := hs.rc.2
  have h79 : nn (vw_ i hi) 7 < 2 ^ 31 := by
    have : nn (vw_ i hi) 0 * nn (vw_ i hi) 2 ≤ 8 * 20 := Nat.mul_le_mul hr.2.2 hl.2.2
    omega
  have hgo : p_out (vw_ i hi) = true → ¬ (vw_ i hi 8 ≠ -1 ∧ p_lies (vw_ i hi) (nn (vw_ i hi) 8) = true) → cs_ (sh_X8_relocate_33 G i hi) i hi (p_reloc (vw_ i hi)) := fun c1 c2 => by
    unfold sh_X8_relocate_33 p_reloc
    rw [if_pos ⟨c1, c2⟩]
    have e0 : nn (upd (vw_ i hi) 8 (-1)) 0 = nn (vw_ i hi) 0 := nn_cg (upd_ne (by omega))
    have e1 : nn (upd (vw_ i hi) 8 (-1)) 1 = nn (vw_ i hi) 1 := nn_cg (upd_ne (by omega))
    have e2 : nn (upd (vw_ i hi) 8 (-1)) 2 = nn (vw_ i hi) 2 := nn_cg (upd_ne (by omega))
    have e7 : nn (upd (vw_ i hi) 8 (-1)) 7 = nn (vw_ i hi) 7 := nn_cg (upd_ne (by omega))
    have e9 : nn (upd (vw_ i hi) 8 (-1)) 9 = nn (vw_ i hi) 9 := nn_cg (upd_ne (by omega))
    have h := C_rel_43 (G := G) (i := i) (nn (vw_ i hi) 1) 0 G (am_u hi (wa i 6) 0 (-1)) (by have := hs.c.2.2; omega) (by rw [uw_8]; exact hs.u (by unfold sk; omega)) (by rw [uw_8, e7, upd_ne (by omega)]; exact h7) (by rw [uw_8, e7, e0, e2]; exact h7b) (by rw [uw_8, e9, upd_ne (by omega)]; exact h9) (by rw [uw_8, e9]; exact h9b) (by rw [uw_8, e1]; omega)
    rw [uw_8] at h
    exact h.fro (fr_.refl i hi).u
  unfold sh_X8_relocate
  rw [C_out hs.2.2.2.2.2.2.2.2.1 (by omega), bs, eq_of, vr_8 i hi]
  by_cases c1 : p_out (vw_ i hi) = true
  · rw [if_pos c1]
    by_cases c2 : vw_ i hi 8 = -1
    · rw [if_pos c2]
      exact hgo c1 (fun h => h.1 c2)
    · obtain ⟨h8, h8b⟩ : vw_ i hi 8 = nI (nn (vw_ i hi) 8) ∧ nn (vw_ i hi) 8 < p_rc (vw_ i hi) := by
        rcases h8 with h | h
        · exact absurd h c2
        · exact h
      rw [if_neg c2, h8, C_lies hs h7 h79 (by omega), bs, eq_of]
      by_cases c3 : p_lies (vw_ i hi) (nn (vw_ i hi) 8) = true
      · rw [if_pos c3]
        have e : p_reloc (vw_ i hi) = vw_ i hi := if_neg (fun h => h.2 ⟨c2, c3⟩)
        rw [e]
        exact cs_.ret rfl (fr_.refl i hi)
      · rw [if_neg c3]
        exact hgo c1 (fun h => c3 h.2)
  · rw [if_neg c1]
    have e : p_reloc (vw_ i hi) = vw_ i hi := if_neg (fun h => c1 h.1)
    rw [e]
    exact cs_.ret rfl (fr_.refl i hi)
end CD
