/-! behind a minute the walker is in the light, or nowhere -/
section PLA
variable {w : Wd} {K B : Nat}
theorem out_8 {v : Int32} : p_out (upd w 8 v) = p_out w := rfl
theorem out_9 {v : Int32} : p_out (upd w 9 v) = p_out w := rfl
theorem pla_reloc (h : ib_ K B 0 w) : pla_ (p_reloc w) := by
  obtain ⟨hs, ht, ⟨hq, hw⟩, hr⟩ := h
  have hc2 := hr.2.2.2.2.2.2.2.2.1
  have hc := hs.c
  unfold p_reloc
  by_cases c : p_out w = true ∧ ¬ (w 8 ≠ -1 ∧ p_lies w (nn w 8) = true)
  case neg =>
    rw [if_neg c]
    intro a b
    unfold p_lit
    rw [a, Bool.true_and]
    by_cases q : p_lies w (nn w 8) = true
    · exact q
    · exact absurd ⟨a, fun z => q z.2⟩ c
  rw [if_pos c]
  cases hk : p_near (upd w 8 (-1)) (nn w 1) 0 with
  | none =>
    intro _ b
    exact absurd upd_eq b
  | some k =>
    show pla_ (p_sett (upd w 8 (-1)) k)
    have hp := p_near_lt hk
    have hkc : k < nn (upd w 8 (-1)) 1 := p_try_lt hp
    have hkc : k < nn w 1 := hkc
    have g7 : nn w 7 < nn w 0 * nn w 2 := hr.2.2.1.2
    have hlt : p_row w * nn w 1 + k < p_rc w := row_tile hs g7 hkc
    have h80 := hs.rc.2
    intro _ _
    unfold p_lit
    have ho : p_out (p_sett (upd w 8 (-1)) k) = true := c.1
    rw [ho, Bool.true_and]
    have e8 : nn (p_sett (upd w 8 (-1)) k) 8 = p_row w * nn w 1 + k := nn_of (show p_sett (upd w 8 (-1)) k 8 = nI (p_row w * nn w 1 + k) from rfl) (by omega)
    rw [e8]
    unfold p_lies
    have er : p_row (p_sett (upd w 8 (-1)) k) = p_row w := rfl
    have e1 : nn (p_sett (upd w 8 (-1)) k) 1 = nn w 1 := rfl
    have em : (p_row w * nn w 1 + k) % nn w 1 = k := Nat.mul_add_mod_of_lt hkc
    have ed : (p_row w * nn w 1 + k) / nn w 1 = p_row w := by
      rw [Nat.mul_comm, Nat.mul_add_div (by omega), Nat.div_eq_of_lt hkc, Nat.add_zero]
    rw [er, e1, em, ed, decide_eq_true rfl, Bool.true_and]
    have e26 : p_sett (upd w 8 (-1)) k (26 + k) = w (26 + k) := by
      unfold p_sett
      rw [upd_ne (by omega), upd_ne (by omega), upd_ne (by omega)]
    rw [e26]
    have i26 := hc2 k (by omega)
    unfold p_try at hp
    rw [Bool.and_eq_true, Bool.and_eq_true] at hp
    have n0 : ¬ 0 < upd w 8 (-1) (26 + k) := by
      have := hp.1.2
      intro q
      rw [decide_eq_true q] at this
      cases this
    rw [upd_ne (by omega)] at n0
    refine decide_eq_true ?_
    have i1 := i26.1
    have i3 := i26.2.2
    by_cases z : nn w (26 + k) = 0
    · rw [i1, z]; rfl
    · have z1 : nn w (26 + k) = 1 := by omega
      rw [i1, z1] at n0
      exact absurd (show (0 : Int32) < nI 1 by decide) n0
theorem pla_99 (h : ib_ K B 0 w) : pla_ (p_99 w) := pla_reloc (h.blowN _ 0 w (by have := h.1.c.2.2; omega))
theorem pla_70 (hK : K < 2 ^ 29) (hB : B < 2 ^ 30) (h : ib_ K B 0 w) : pla_ (p_70 w) := by
  have g := (ib_.dryN (p_rc w) 0 w (by omega) h).mnt
  unfold p_70
  by_cases c : p_min (p_dryN (p_rc w) 0 w) 7 < p_min (p_dryN (p_rc w) 0 w) 0 * p_min (p_dryN (p_rc w) 0 w) 2
  · rw [if_pos c]
    exact pla_99 (g.e0 c)
  · rw [if_neg c]
    exact pla_99 (g.night hK hB)
theorem pla_25 (hK : K < 2 ^ 29) (hB : B + 5 < 2 ^ 30) (h : ib_ K B 0 w) : pla_ (p_25 w) := by
  unfold p_25
  by_cases c : w 11 ≤ 0
  · rw [if_pos c]
    by_cases c1 : w 8 = -1
    · rw [if_pos c1]
      exact pla_70 hK (by omega) h
    · rw [if_neg c1]
      obtain ⟨n, hn, e⟩ := tries_n h.2.2.2.1 h.2.2.2.2.1.1 (by have := h.2.2.2.2.1.2.2; omega)
      rw [e, nI_clamp (by omega)]
      exact pla_70 hK (by omega) (ib_.walk n B w (by omega) h c1)
  · rw [if_neg c]
    exact pla_70 hK (by omega) (h.rest c)
theorem pla_pass (hK : K < 2 ^ 29) (hB : B + 5 < 2 ^ 30) (h : ib_ K B 0 w) : pla_ (p_pass w) := pla_25 hK hB h.cat
theorem pla_passN : ∀ (n K B : Nat) (w : Wd), K + n < 2 ^ 29 → B + 5 * n < 2 ^ 30 → ib_ K B 0 w → 0 < n → pla_ (p_passN n w)
  | 0, _, _, _, _, _, _, h => absurd h (by omega)
  | 1, K, B, w, hK, hB, h, _ => pla_pass (by omega) (by omega) h
  | n + 2, K, B, w, hK, hB, h, _ => pla_passN (n + 1) (K + 1) (B + 5) (p_pass w) (by omega) (by omega) (h.pass (by omega) (by omega)) (by omega)
theorem nIj {a b : Nat} (ha : a < 2 ^ 31) (hb : b < 2 ^ 31) (e : nI a = nI b) : a = b := by
  have e := congrArg Int32.toNatClampNeg e
  rw [nI_clamp ha, nI_clamp hb] at e
  exact e
/-- minutes until a tile is lit -/
theorem ul_lit {t : Nat} {w0 : Wd} : ∀ f k (w : Wd), f + k < 2 ^ 30 → ∀ n, n < 2 ^ 30 → p_ul w0 t f k w = nI n → k ≤ n ∧ p_lit (p_passN (n - k) w) t = true
  | 0, k, w, hk, n, hn, e => by
    unfold p_ul at e
    by_cases c : p_lit w t = true
    · rw [if_pos c] at e
      have := nIj (by omega) (by omega) e
      subst this
      rw [Nat.sub_self]
      exact ⟨Nat.le_refl _, c⟩
    · rw [if_neg c] at e
      exact absurd e.symm (nI_m1 (by omega))
  | f + 1, k, w, hk, n, hn, e => by
    unfold p_ul at e
    by_cases c : p_lit w t = true
    · rw [if_pos c] at e
      have := nIj (by omega) (by omega) e
      subst this
      rw [Nat.sub_self]
      exact ⟨Nat.le_refl _, c⟩
    · rw [if_neg c] at e
      obtain ⟨a, b⟩ := ul_lit f (k + 1) (p_pass w) (by omega) n hn e
      refine ⟨by omega, ?_⟩
      rw [show n - k = (n - (k + 1)) + 1 by omega]
      exact b
/-- minutes until a count grows -/
theorem gn_grow {v0 : Int32} {c : Nat} : ∀ f k (w : Wd), f + k < 2 ^ 30 → (p_gn v0 c f k w ≤ 0 ∨ ∃ n, k < n ∧ n ≤ k + f ∧ p_gn v0 c f k w = nI n ∧ v0 < p_passN (n - k) w c ∧ (n = k + 1 ∨ ¬ v0 < p_passN (n - 1 - k) w c))
  | 0, k, w, _ => Or.inl (show (-1 : Int32) ≤ 0 by decide)
  | f + 1, k, w, hk => by
    show p_gr v0 c f (k + 1) (p_pass w) ≤ 0 ∨ ∃ n, k < n ∧ n ≤ k + (f + 1) ∧ p_gr v0 c f (k + 1) (p_pass w) = nI n ∧ v0 < p_passN (n - k) w c ∧ (n = k + 1 ∨ ¬ v0 < p_passN (n - 1 - k) w c)
    rw [p_gr_e]
    by_cases q : v0 < p_pass w c
    · rw [if_pos q]
      refine Or.inr ⟨k + 1, by omega, by omega, rfl, ?_, Or.inl rfl⟩
      rw [show k + 1 - k = 1 by omega]
      exact q
    · rw [if_neg q]
      rcases gn_grow f (k + 1) (p_pass w) (by omega) with h | ⟨n, h1, h2, h3, h4, h5⟩
      · exact Or.inl h
      · refine Or.inr ⟨n, by omega, by omega, h3, ?_, Or.inr ?_⟩
        · rw [show n - k = (n - (k + 1)) + 1 by omega]
          exact h4
        · rcases h5 with h5 | h5
          · rw [h5, show k + 1 + 1 - 1 - k = 1 by omega]
            exact q
          · rw [show n - 1 - k = (n - 1 - (k + 1)) + 1 by omega]
            exact h5
end PLA
