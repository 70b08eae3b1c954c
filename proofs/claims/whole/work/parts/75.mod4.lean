/-! the model: spills dry, draughts, records, a minute -/
theorem dry_v {a b : Nat} (ha : a ≤ 99) (hb : b ≤ 1) : (if (0 : Int32) < nI a - 1 - nI b then nI a - 1 - nI b else 0) = nI (a - 1 - b) := by
  by_cases h0 : a = 0
  · subst h0
    rcases Nat.lt_or_ge b 1 with c | c
    · obtain rfl : b = 0 := by omega
      decide
    · obtain rfl : b = 1 := by omega
      decide
  · rw [S1_ (by omega)]
    by_cases h1 : b ≤ a - 1
    · rw [pk_sub h1]
      by_cases h2 : 0 < a - 1 - b
      · rw [if_pos (show (0 : Int32) < nI (a - 1 - b) from (nI_ltI (a := 0) (by omega) (by omega)).mpr h2)]
      · rw [show a - 1 - b = 0 by omega, if_neg (by decide)]; rfl
    · obtain rfl : b = 1 := by omega
      obtain rfl : a = 1 := by omega
      decide
theorem dry_1 {w : Wd} {k : Nat} (hs : in_ w (244 + k) 0 99) (hr : in_ w (164 + k) 0 1) : p_dry1 w k = upd w (244 + k) (nI (nn w (244 + k) - 1 - nn w (164 + k))) := by
  have h9 := hs.2.2
  have h1 := hr.2.2
  unfold p_dry1
  by_cases c : w (244 + k) ≤ 0
  · rw [if_pos c]
    have c0 := (le0_ (by omega) hs).1.mp c
    have n0 : nn w (244 + k) = 0 := nn_of (n := 0) c0 (by omega)
    rw [n0, upd_same]
    rw [c0]
    simp only [Nat.zero_sub]
    rfl
  · rw [if_neg c]
    have n0 : 0 < nn w (244 + k) := by
      rcases Nat.eq_zero_or_pos (nn w (244 + k)) with q | q
      · rw [hs.1, q] at c; exact absurd (by decide) c
      · exact q
    congr 1
    rw [hs.1, hr.1]
    generalize nn w (244 + k) = a at h9 n0 ⊢
    generalize nn w (164 + k) = b at h1 ⊢
    have hd : (if nI b ≤ 0 then (1 : Int32) else 2) = nI (1 + b) := by
      rcases Nat.lt_or_ge b 1 with q | q
      · obtain rfl : b = 0 := by omega
        rfl
      · obtain rfl : b = 1 := by omega
        rfl
    rw [hd]
    by_cases h2 : 1 + b ≤ a
    · rw [pk_sub h2, if_neg (nI_pos (by omega)), show a - (1 + b) = a - 1 - b by omega]
    · obtain rfl : b = 1 := by omega
      obtain rfl : a = 1 := by omega
      decide
section MD
variable {hi : HI}
theorem M_dries_2 {G K B : Nat} : ∀ (f k F : Nat) (hi : HI), f < F → k + f = p_rc (mw_ hi) → ib_ K B 0 (mw_ hi) → cm_ (sh_X10_dries_2 G F (nI k) hi) hi (p_dryN f k (mw_ hi))
  | f, k, 0, hi, hF, _, _ => absurd hF (Nat.not_lt_zero _)
  | 0, k, F + 1, hi, hF, hk, h => by
    show cm_ (sh_X10_dries_2_b G (sh_X10_dries_2 G F) (nI k) hi) hi (mw_ hi)
    unfold sh_X10_dries_2_b
    rw [M_tiles h.1, bs, ← hk, Nat.add_zero, if_pos (Int32.le_refl _)]
    exact cm_.ret rfl (fm_.refl hi)
  | f + 1, k, F + 1, hi, hF, hk, h => by
    show cm_ (sh_X10_dries_2_b G (sh_X10_dries_2 G F) (nI k) hi) hi (p_dryN (f + 1) k (mw_ hi))
    have h80 := h.1.rc.2
    have hsp := h.2.1.2.2.1 k (by omega)
    have hrg := h.2.1.2.1 k (by omega)
    have ed := dry_1 hsp hrg
    unfold sh_X10_dries_2_b
    rw [M_tiles h.1, bs, if_neg (nI_ge (by omega) (by omega)), A244, A164, if_pos (ok4 (by omega)), if_pos (ok4 (by omega)), if_pos (ok4 (by omega)), nI_clamp (by omega), nI_clamp (by omega), bs, M_r hi (k := 244 + k) (by omega), M_r hi (k := 164 + k) (by omega), hsp.1, hrg.1, dry_v hsp.2.2 hrg.2.2, p_dryN_s, nI_1]
    have g := h.dry1 (k := k) (by omega)
    rw [ed] at g ⊢
    have e1 : mw_ (am_u hi (za 196) (244 + k) (nI (nn (mw_ hi) (244 + k) - 1 - nn (mw_ hi) (164 + k)))) = upd (mw_ hi) (244 + k) (nI (nn (mw_ hi) (244 + k) - 1 - nn (mw_ hi) (164 + k))) := M_u (by omega)
    have r := M_dries_2 (G := G) (K := K) (B := B) f (k + 1) F _ (by omega) (by rw [e1, st_.rc_eq (upd_ne (by omega)) (upd_ne (by omega))]; omega) (by rw [e1]; exact g)
    rw [e1] at r
    exact r.fro (fm_.refl hi).u
theorem M_dries {G K B : Nat} (hG : 80 < G) (h : ib_ K B 0 (mw_ hi)) : cm_ (sh_X10_dries G hi) hi (p_dryN (p_rc (mw_ hi)) 0 (mw_ hi)) := M_dries_2 (G := G) (p_rc (mw_ hi)) 0 G hi (by have := h.1.rc.2; omega) (by omega) h
theorem M_blows_2 {G K B : Nat} : ∀ (f k F : Nat) (hi : HI), f < F → nn (mw_ hi) 1 = k + f → ib_ K B 0 (mw_ hi) → cm_ (sh_X10_blows_2 G F (nI k) hi) hi (p_blowN f k (mw_ hi))
  | f, k, 0, hi, hF, _, _ => absurd hF (Nat.not_lt_zero _)
  | 0, k, F + 1, hi, hF, hk, h => by
    show cm_ (sh_X10_blows_2_b G (sh_X10_blows_2 G F) (nI k) hi) hi (mw_ hi)
    unfold sh_X10_blows_2_b
    rw [m_1 hi, h.1.c.1, hk, Nat.add_zero, if_pos (Int32.le_refl _)]
    exact cm_.ret rfl (fm_.refl hi)
  | f + 1, k, F + 1, hi, hF, hk, h => by
    show cm_ (sh_X10_blows_2_b G (sh_X10_blows_2 G F) (nI k) hi) hi (p_blowN (f + 1) k (mw_ hi))
    have hc := h.1.c
    have h10 : k < 10 := by omega
    have ih := fun hi => M_blows_2 (G := G) (K := K) (B := B) f (k + 1) F hi (by omega)
    rw [← nI_1 k] at ih
    have g := h.blow1 (k := k) h10
    unfold sh_X10_blows_2_b
    rw [m_1 hi, hc.1, hk, if_neg (nI_ge (by omega) (by omega)), A36, A26, if_pos (ok4 (by omega)), if_pos (ok4 (by omega)), if_pos (ok4 (by omega)), nI_clamp (by omega), nI_clamp (by omega), M_r hi (k := 36 + k) (by omega), M_r hi (k := 26 + k) (by omega), m_7 hi, p_blowN_s]
    by_cases c1 : mw_ hi (36 + k) ≤ 0
    · have e : p_blow1 (mw_ hi) k = mw_ hi := if_pos c1
      rw [if_pos c1, e]
      exact ih hi (by omega) h
    · have e : p_blow1 (mw_ hi) k = _ := if_neg c1
      rw [if_neg c1, if_neg (fun q => c1 (by rw [q]; exact Int32.le_refl _))]
      by_cases c2 : mw_ hi 7 - mw_ hi 7 / mw_ hi (36 + k) * mw_ hi (36 + k) ≠ 0
      · rw [if_pos c2]
        rw [if_pos c2] at e
        rw [e]
        exact ih hi (by omega) h
      · rw [if_neg c2, bs]
        rw [if_neg c2] at e
        rw [e] at g ⊢
        have e1 : mw_ (am_u hi (za 196) (26 + k) (1 - mw_ hi (26 + k))) = upd (mw_ hi) (26 + k) (1 - mw_ hi (26 + k)) := M_u (by omega)
        have r := ih (am_u hi (za 196) (26 + k) (1 - mw_ hi (26 + k))) (by rw [e1, nn_cg (upd_ne (by omega))]; omega) (by rw [e1]; exact g)
        rw [e1] at r
        exact r.fro (fm_.refl hi).u
theorem M_blows {G K B : Nat} (hG : 10 < G) (h : ib_ K B 0 (mw_ hi)) : cm_ (sh_X10_blows G hi) hi (p_blowN (nn (mw_ hi) 1) 0 (mw_ hi)) := M_blows_2 (G := G) (nn (mw_ hi) 1) 0 G hi (by have := h.1.c.2.2; omega) (by omega) h
/-! the records -/
theorem M_rec {k : Nat} (h : 404 ≤ k) (h2 : k < 424) : mw_ hi k = if (k - 404) / 2 < nn (mw_ hi) 19 then hi (za 196) k else 0 := by
  have e : nn (mw_ hi) 19 = nn (rm_ hi) 19 := by unfold nn mw_; rw [nz_p (by decide)]
  rw [e]
  unfold mw_ nz
  rw [if_neg (by omega), if_neg (by omega), if_neg (by omega), if_neg (by omega), if_pos h2]
  have er : rm_ hi k = hi (za 196) k := by
    unfold rm_
    rw [if_pos ⟨by omega, by omega⟩]
  rw [er]
theorem m_rec {k j : Nat} (h : k < nn (mw_ hi) 19) (h10 : k < 10) (hj : j < 2) : hi (za 196) (404 + 2 * k + j) = mw_ hi (404 + 2 * k + j) := by
  rw [M_rec (by omega) (by omega), if_pos (by omega)]
theorem M_rank_2 {G : Nat} {s : Int32} (hs : in_ (mw_ hi) 19 0 10) : ∀ f k F, k + f = 10 → f < F → sh_X10_placeOf_2 G s hi F (nI k) = some (nI (p_rank (mw_ hi) s f k))
  | f, k, 0, h, hF => absurd hF (Nat.not_lt_zero _)
  | f, k, F + 1, h, hF => by
    show sh_X10_placeOf_2_b G s hi (sh_X10_placeOf_2 G s hi F) (nI k) = _
    have h10 := hs.2.2
    unfold sh_X10_placeOf_2_b
    rw [m_19 hi, hs.1]
    by_cases hk : nn (mw_ hi) 19 ≤ k
    · rw [if_pos (nI_le hk (by omega))]
      cases f with
      | zero => rfl
      | succ f => rw [p_rank_s, if_pos hk]
    · have hk9 : k < nn (mw_ hi) 19 := by omega
      have hk10 : k < 10 := by omega
      rw [if_neg (nI_ge hk9 (by omega)), T2_, A404, nI_1 (404 + 2 * k), if_pos (ok4 (by omega)), nI_clamp (by omega), show hi (za 196) (404 + 2 * k + 1) = mw_ hi (405 + 2 * k) by rw [show 405 + 2 * k = 404 + 2 * k + 1 by omega]; exact m_rec (j := 1) hk9 hk10 (by omega)]
      obtain ⟨f, rfl⟩ : ∃ g, f = g + 1 := ⟨f - 1, by omega⟩
      have ih := M_rank_2 (G := G) (s := s) hs f (k + 1) F (by omega) (by omega)
      rw [nI_1, ih, p_rank_s, if_neg hk]
      split <;> rfl
theorem M_rank {G : Nat} {s : Int32} (hs : in_ (mw_ hi) 19 0 10) (hG : 10 < G) : sh_X10_placeOf G s hi = some (nI (p_rank (mw_ hi) s 10 0)) := M_rank_2 hs 10 0 G (by omega) hG
theorem M_shift {G : Nat} {r : Nat} : ∀ (q F : Nat) (h : HI), q < F → r + q < 10 → ∃ h', sh_X10_keepsRecord_52 G F (nI r) (nI (r + q)) h = some h' ∧ (∀ j, h' (za 196) j = if j = 404 + 2 * r then h (za 196) 6 else if j = 405 + 2 * r then h (za 196) 13 else if 406 + 2 * r ≤ j ∧ j ≤ 405 + 2 * (r + q) then h (za 196) (j - 2) else h (za 196) j) ∧ fm_ h h'
  | q, 0, h, hF, _ => absurd hF (Nat.not_lt_zero _)
  | 0, F + 1, h, hF, hr => by
    refine ⟨am_u (am_u h (za 196) (404 + 2 * r) (h (za 196) 6)) (za 196) (405 + 2 * r) (h (za 196) 13), ?_, ?_, (fm_.refl h).u.u⟩
    · show sh_X10_keepsRecord_52_b G (sh_X10_keepsRecord_52 G F) (nI r) (nI (r + 0)) h = _
      unfold sh_X10_keepsRecord_52_b
      rw [Nat.add_zero, if_pos (Int32.le_refl _), T2_, A404, nI_1, if_pos (ok4 (by omega)), bs, if_pos (ok4 (by omega)), nI_clamp (by omega), nI_clamp (by omega), bs, au_n (by omega), show 404 + 2 * r + 1 = 405 + 2 * r by omega]
    · intro j
      unfold am_u
      by_cases h2 : j = 405 + 2 * r
      · rw [if_pos h2, if_pos rfl, if_neg (show ¬ j = 404 + 2 * r by omega), if_pos h2]
      · rw [if_neg h2]
        by_cases h1 : j = 404 + 2 * r
        · rw [if_pos h1, if_pos rfl, if_pos h1]
        · rw [if_neg h1, if_neg h1, if_neg h2, if_neg (by omega)]
  | q + 1, F + 1, h, hF, hr => by
    obtain ⟨h', e, g, f⟩ := M_shift (G := G) (r := r) q F (am_u (am_u h (za 196) (404 + 2 * (r + q + 1)) (h (za 196) (404 + 2 * (r + q)))) (za 196) (405 + 2 * (r + q + 1)) (h (za 196) (405 + 2 * (r + q)))) (by omega) (by omega)
    refine ⟨h', ?_, ?_, ((fm_.refl h).u.u).trans f⟩
    · show sh_X10_keepsRecord_52_b G (sh_X10_keepsRecord_52 G F) (nI r) (nI (r + (q + 1))) h = _
      unfold sh_X10_keepsRecord_52_b
      have e2 : nI (r + (q + 1)) + Int32.ofInt (-1) = nI (r + q) := (pk_m1 (r + q) : nI (r + q + 1) + (-1) = nI (r + q))
      rw [if_neg (nI_ge (by omega) (by omega)), e2, T2_, A404, nI_1, S2_ (by omega), S1_ (by omega), if_pos (ok4 (by omega)), if_pos (ok4 (by omega)), bs, if_pos (ok4 (by omega)), if_pos (ok4 (by omega)), nI_clamp (by omega), nI_clamp (by omega), nI_clamp (by omega), nI_clamp (by omega), bs, au_n (by omega), show 404 + 2 * (r + (q + 1)) - 2 = 404 + 2 * (r + q) by omega, show 404 + 2 * (r + (q + 1)) - 1 = 405 + 2 * (r + q) by omega, show 404 + 2 * (r + (q + 1)) + 1 = 405 + 2 * (r + q + 1) by omega]
      exact e
    · intro j
      have red : ∀ m, am_u (am_u h (za 196) (404 + 2 * (r + q + 1)) (h (za 196) (404 + 2 * (r + q)))) (za 196) (405 + 2 * (r + q + 1)) (h (za 196) (405 + 2 * (r + q))) (za 196) m = if m = 405 + 2 * (r + q + 1) then h (za 196) (405 + 2 * (r + q)) else if m = 404 + 2 * (r + q + 1) then h (za 196) (404 + 2 * (r + q)) else h (za 196) m := fun m => by
        unfold am_u
        rw [if_pos rfl, if_pos rfl]
      rw [g j, red, red, red, red]
      by_cases h1 : j = 404 + 2 * r
      · rw [if_pos h1, if_pos h1, if_neg (by omega), if_neg (by omega)]
      · rw [if_neg h1, if_neg h1]
        by_cases h2 : j = 405 + 2 * r
        · rw [if_pos h2, if_pos h2, if_neg (by omega), if_neg (by omega)]
        · rw [if_neg h2, if_neg h2]
          by_cases h3 : 406 + 2 * r ≤ j ∧ j ≤ 405 + 2 * (r + q)
          · rw [if_pos h3, if_neg (show ¬ j - 2 = 405 + 2 * (r + q + 1) by omega), if_neg (show ¬ j - 2 = 404 + 2 * (r + q + 1) by omega), if_pos (show 406 + 2 * r ≤ j ∧ j ≤ 405 + 2 * (r + (q + 1)) by omega)]
          · rw [if_neg h3]
            by_cases h4 : j = 405 + 2 * (r + q + 1)
            · rw [if_pos h4, if_pos (by omega), show j - 2 = 405 + 2 * (r + q) by omega]
            · rw [if_neg h4]
              by_cases h5 : j = 404 + 2 * (r + q + 1)
              · rw [if_pos h5, if_pos (by omega), show j - 2 = 404 + 2 * (r + q) by omega]
              · rw [if_neg h5, if_neg (by omega)]
theorem M_keep {G : Nat} (hG : 10 < G) (hs : in_ (mw_ hi) 19 0 10) : cm_ (sh_X10_keepsRecord G hi) hi (p_rec (mw_ hi) (mw_ hi 6) (mw_ hi 13)) := by
  have h10 := hs.2.2
  have hrk := p_rank_le (w := mw_ hi) (s := mw_ hi 13) h10 (f := 10) (k := 0) (by omega) (Nat.zero_le _)
  unfold sh_X10_keepsRecord p_rec
  rw [m_13 hi, M_rank hs hG, bs]
  generalize p_rank (mw_ hi) (mw_ hi 13) 10 0 = r at hrk
  by_cases c : r < 10
  case neg =>
    rw [show r = 10 by omega, if_neg (fun q => q rfl), if_neg (by omega)]
    exact cm_.ret rfl (fm_.refl hi)
  rw [if_pos (fun q => by have := (nI_eq (b := 10) (by omega) (by omega)).mp q; omega), if_pos c, m_19 hi, hs.1, nI_1]
  generalize hcn : min (nn (mw_ hi) 19 + 1) 10 = cn
  have hcb : cn ≤ 10 := by omega
  have hcr : r < cn := by omega
  -- the heap behind the count
  have key : ∀ h1 : HI, h1 (za 196) 19 = nI cn → (∀ k, k ≠ 19 → h1 (za 196) k = hi (za 196) k) → fm_ hi h1 → cm_ (sh_X10_keepsRecord_42 G (nI r) h1) hi (fun k => if k = 19 then nI cn else if 404 ≤ k ∧ k < 404 + 2 * cn then (if (k - 404) / 2 < r then mw_ hi k else if (k - 404) / 2 = r then (if (k - 404) % 2 = 0 then mw_ hi 6 else mw_ hi 13) else mw_ hi (k - 2)) else mw_ hi k) := fun h1 e19 ek f1 => by
    unfold sh_X10_keepsRecord_42
    rw [e19, S1_ (by omega), show cn - 1 = r + (cn - 1 - r) by omega]
    obtain ⟨h', eq, g, f⟩ := M_shift (G := G) (r := r) (cn - 1 - r) G h1 (by omega) (by omega)
    refine ⟨h', eq, ?_, f1.trans f⟩
    have glo : ∀ k, k < 404 → k ≠ 19 → h' (za 196) k = hi (za 196) k := fun k hk h19 => by
      rw [g k, if_neg (by omega), if_neg (by omega), if_neg (by omega), ek k h19]
    have g19 : h' (za 196) 19 = nI cn := by rw [g 19, if_neg (by omega), if_neg (by omega), if_neg (by omega), e19]
    have hv19 : mw_ h' 19 = nI cn := by rw [← m_19 h']; exact g19
    have hn19 : nn (mw_ h') 19 = cn := nn_of hv19 (by omega)
    have hrv : ∀ k, k < 404 → k ≠ 19 → rm_ h' k = rm_ hi k := fun k hk h19 => by
      unfold rm_
      rw [glo k hk h19]
    have h24 : nn (rm_ h') 24 = nn (rm_ hi) 24 := nn_cg (hrv 24 (by omega) (by omega))
    have h17 : nn (rm_ h') 17 = nn (rm_ hi) 17 := nn_cg (hrv 17 (by omega) (by omega))
    funext k
    by_cases hk19 : k = 19
    · subst hk19
      rw [hv19, if_pos rfl]
    rw [if_neg hk19]
    by_cases hk : k < 404
    · rw [if_neg (by omega)]
      unfold mw_ nz
      rw [h24, h17, hrv k hk hk19]
      by_cases b1 : k < 46
      · rw [if_pos b1, if_pos b1]
      · rw [if_neg b1, if_neg b1]
        by_cases b2 : k < 54
        · rw [if_pos b2, if_pos b2]
        · rw [if_neg b2, if_neg b2]
          by_cases b3 : k < 84
          · rw [if_pos b3, if_pos b3]
          · rw [if_neg b3, if_neg b3, if_pos hk, if_pos hk]
    · by_cases hk2 : k < 424
      · rw [M_rec (hi := h') (by omega) hk2, hn19]
        by_cases c1 : (k - 404) / 2 < cn
        · rw [if_pos c1, if_pos (show 404 ≤ k ∧ k < 404 + 2 * cn by omega), g k, ek 6 (by omega), ek 13 (by omega), ek _ (by omega), ek _ hk19, m_6 hi, m_13 hi]
          by_cases c2 : (k - 404) / 2 < r
          · rw [if_neg (by omega), if_neg (by omega), if_neg (by omega), if_pos c2, M_rec (by omega) hk2, if_pos (by omega)]
          · rw [if_neg c2]
            by_cases c3 : (k - 404) / 2 = r
            · rw [if_pos c3]
              by_cases c4 : (k - 404) % 2 = 0
              · rw [if_pos (by omega), if_pos c4]
              · rw [if_neg (by omega), if_pos (by omega), if_neg c4]
            · have hlt : (k - 2 - 404) / 2 < nn (mw_ hi) 19 := by
                have e1 : (k - 2 - 404) / 2 = (k - 404) / 2 - 1 := by omega
                have e2 : cn ≤ nn (mw_ hi) 19 + 1 := by rw [← hcn]; exact Nat.min_le_left _ _
                have e3 : 0 < (k - 404) / 2 := by omega
                rw [e1]
                exact Nat.lt_of_lt_of_le (Nat.sub_lt e3 Nat.one_pos) (Nat.le_of_lt_succ (Nat.lt_of_lt_of_le c1 e2))
              rw [if_neg c3, if_neg (by omega), if_neg (by omega), if_pos (by omega), M_rec (k := k - 2) (by omega) (by omega), if_pos (show (k - 2 - 404) / 2 < nn (mw_ hi) 19 from hlt)]
        · rw [if_neg c1, if_neg (show ¬ (404 ≤ k ∧ k < 404 + 2 * cn) by omega), M_rec (by omega) hk2, if_neg (by omega)]
      · rw [if_neg (by omega)]
        unfold mw_ nz
        rw [if_neg (by omega), if_neg (by omega), if_neg (by omega), if_neg (by omega), if_neg hk2, if_neg (by omega), if_neg (by omega), if_neg (by omega), if_neg (by omega), if_neg hk2]
  by_cases c1 : (10 : Int32) ≤ nI (nn (mw_ hi) 19)
  · rw [if_pos c1]
    have := (nI_leI (a := 10) (by omega) (by omega)).mp c1
    exact key hi (by rw [m_19 hi, hs.1, show nn (mw_ hi) 19 = cn by omega]) (fun _ _ => rfl) (fm_.refl hi)
  · rw [if_neg c1]
    have c2 : ¬ 10 ≤ nn (mw_ hi) 19 := fun q => c1 (nI_le q (by omega))
    exact key _ (by rw [au_, show nn (mw_ hi) 19 + 1 = cn by omega]) (fun k hk => au_n hk) (fm_.refl hi).u
theorem M_nite {G : Nat} : cm_ (sh_X10_endsNight_14 G hi) hi (p_nite (mw_ hi)) := cm_.ret (by rw [M_u (by omega), M_u (by omega), M_u (by omega), m_6 hi]; rfl) (fm_.refl hi).u.u.u
theorem M_night {G : Nat} (hG : 10 < G) (hs : in_ (mw_ hi) 19 0 10) : cm_ (sh_X10_endsNight G hi) hi (p_night (mw_ hi)) := by
  unfold sh_X10_endsNight p_night
  rw [m_13 hi]
  by_cases c : mw_ hi 13 ≤ 0
  · rw [if_pos c, if_pos c]
    exact M_nite
  · rw [if_neg c, if_neg c]
    refine (M_keep hG hs).bind fun h2 e2 f2 => ?_
    have r := (M_nite (G := G) (hi := h2)).fro f2
    rw [e2] at r
    exact r
/-! a minute -/
theorem M_99 {G K B : Nat} (hG : 80 < G) (h : ib_ K B 0 (mw_ hi)) : cm_ (sh_X10_passes_34 G hi) hi (p_99 (mw_ hi)) := by
  unfold sh_X10_passes_34 p_99
  refine (M_blows (by omega) h).bind fun h5 e5 f5 => ?_
  have g := h.blowN (nn (mw_ hi) 1) 0 _ (by have := h.1.c.2.2; omega)
  rw [← e5] at g ⊢
  exact ((M_reloc (G := G) (by omega) g).fro f5).bs
theorem M_pass {G K B : Nat} (hG : 80 < G) (hK : K < 2 ^ 29) (hB : B + 5 < 2 ^ 30) (h : ib_ K B 0 (mw_ hi)) : cm_ (sh_X10_passes G hi) hi (p_pass (mw_ hi)) := by
  unfold sh_X10_passes p_pass
  rw [p_25_w]
  refine (M_cat h).bind fun h2 e2 f2 => ?_
  have g2 := h.cat
  rw [← e2] at g2 ⊢
  refine ((M_walks hG hK hB g2).fro f2).bind fun h4 e4 f4 => ?_
  have g4 : ib_ K (B + 5) 0 (p_wks (mw_ h2)) := by
    unfold p_wks
    by_cases c : mw_ h2 11 ≤ 0
    · rw [if_pos c]
      by_cases c1 : mw_ h2 8 = -1
      · rw [if_pos c1]; exact g2.mono (Nat.le_refl _) (by omega)
      · rw [if_neg c1]
        obtain ⟨n, hn, e⟩ := tries_n g2.2.2.2.1 g2.2.2.2.2.1.1 (by have := g2.2.2.2.2.1.2.2; omega)
        rw [e, nI_clamp (by omega)]
        exact (ib_.walk n B _ (by omega) g2 c1).mono (Nat.le_refl _) (by omega)
    · rw [if_neg c]; exact (g2.rest c).mono (Nat.le_refl _) (by omega)
  rw [← e4] at g4 ⊢
  refine ((M_dries hG g4).fro f4).bind fun h6 e6 f6 => ?_
  have g := (ib_.dryN (p_rc (mw_ h4)) 0 _ (by omega) g4).mnt
  unfold p_70
  rw [← e6] at g ⊢
  generalize hh : am_u h6 (za 196) 7 (h6 (za 196) 7 + 1) = h7
  have e7 : mw_ h7 = p_min (mw_ h6) := by
    rw [← hh, M_u (by omega), m_7 h6]
    rfl
  have f7 : fm_ hi h7 := by rw [← hh]; exact f6.u
  rw [← e7] at g ⊢
  have hr := g.1.r
  have hl := g.1.l
  have h79 := g.2.2.2.2.2.1
  have hb9 : nn (mw_ h7) 0 * nn (mw_ h7) 2 ≤ 8 * 20 := Nat.mul_le_mul hr.2.2 hl.2.2
  unfold sh_X10_isOver
  rw [m_7 h7, m_0 h7, m_2 h7]
  by_cases c : mw_ h7 7 < mw_ h7 0 * mw_ h7 2
  · rw [if_pos c, if_pos (fun q => by rw [q] at c; exact Int32.lt_irrefl c), bs]
    exact (M_99 hG (g.e0 c)).fro f7
  · have c2 : mw_ h7 7 = mw_ h7 0 * mw_ h7 2 := by
      rw [h79.1, hr.1, hl.1, pk_mul] at c ⊢
      have c3 : ¬ nn (mw_ h7) 7 < nn (mw_ h7) 0 * nn (mw_ h7) 2 := fun q => c (nI_lt q (by omega))
      have := h79.2
      rw [show nn (mw_ h7) 7 = nn (mw_ h7) 0 * nn (mw_ h7) 2 by omega]
    rw [if_neg c, if_neg (fun q => q c2), bs]
    show cm_ ((sh_X10_endsNight G h7).bind fun h13 => sh_X10_passes_34 G h13) hi _
    refine ((M_night (G := G) (by omega) g.2.2.2.2.2.2.2.2.2.2.1).fro f7).bind fun h9 e9 f9 => ?_
    have g9 := g.night hK hB
    rw [← e9] at g9 ⊢
    exact (M_99 hG g9).fro f9
theorem M_passN_2 {G : Nat} (hG : 80 < G) : ∀ (n k F K B : Nat) (hi : HI), n < F → k + n < 2 ^ 31 → K + n < 2 ^ 29 → B + 5 * n < 2 ^ 30 → ib_ K B 0 (mw_ hi) → cm_ (sh_X10_passesMany_2 G (nI (k + n)) F (nI k) hi) hi (p_passN n (mw_ hi))
  | n, k, 0, _, _, hi, hF, _, _, _, _ => absurd hF (Nat.not_lt_zero _)
  | 0, k, F + 1, K, B, hi, hF, _, _, _, _ => by
    show cm_ (sh_X10_passesMany_2_b G (nI k) (sh_X10_passesMany_2 G (nI k) F) (nI k) hi) hi (mw_ hi)
    unfold sh_X10_passesMany_2_b
    rw [if_pos (Int32.le_refl _)]
    exact cm_.ret rfl (fm_.refl hi)
  | n + 1, k, F + 1, K, B, hi, hF, hk, hK, hB, h => by
    show cm_ (sh_X10_passesMany_2_b G (nI (k + (n + 1))) (sh_X10_passesMany_2 G (nI (k + (n + 1))) F) (nI k) hi) hi (p_passN (n + 1) (mw_ hi))
    have e9 : k + (n + 1) = (k + 1) + n := by omega
    have ih := fun hi => M_passN_2 hG n (k + 1) F (K + 1) (B + 5) hi (by omega) (by omega) (by omega) (by omega)
    rw [← e9, ← nI_1 k] at ih
    unfold sh_X10_passesMany_2_b
    rw [if_neg (nI_ge (by omega) (by omega)), p_passN_s]
    refine (M_pass hG (by omega) (by omega) h).bind fun h2 e2 f2 => ?_
    have g := h.pass (by omega) (by omega)
    have r := (ih h2 (by rw [e2]; exact g)).fro f2
    rw [e2] at r
    exact r
theorem M_passN {G n K B : Nat} (hG : 80 < G) (hn : n < G) (hK : K + n < 2 ^ 29) (hB : B + 5 * n < 2 ^ 30) (h : ib_ K B 0 (mw_ hi)) : cm_ (sh_X10_passesMany G (nI n) hi) hi (p_passN n (mw_ hi)) := by
  have g := M_passN_2 hG n 0 G K B hi hn (by omega) hK hB h
  rw [Nat.zero_add] at g
  exact g
end MD
