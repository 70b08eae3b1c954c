/-! a minute: the class's side, and what it keeps -/
theorem tries_n {w : Wd} (h3 : in_ w 3 1 5) (h6 : w 6 = nI (nn w 6)) (h : nn w 6 < 2 ^ 31) : ∃ n, n ≤ 5 ∧ p_tries w = nI n := by
  obtain ⟨s, hs, es⟩ : ∃ s, s ≤ 30 ∧ p_shine w = nI s := by
    have hm : nn w 6 % 30 < 30 := Nat.mod_lt _ (by omega)
    have e : w 6 - w 6 / 30 * 30 = nI (nn w 6 % 30) := by rw [h6]; exact pk_rem (d := 30) h (by omega) (by omega)
    unfold p_shine
    rw [e]
    by_cases c : (15 : Int32) < nI (nn w 6 % 30)
    · rw [if_pos c]
      exact ⟨30 - nn w 6 % 30, by omega, pk_sub (a := 30) (by omega)⟩
    · rw [if_neg c]
      exact ⟨nn w 6 % 30, by omega, rfl⟩
  unfold p_tries
  by_cases c : p_out w = true
  · rw [if_pos c, es]
    have e4 : (1 : Int32) + nI s / 4 = nI (1 + s / 4) := by
      rw [show nI s / 4 = nI (s / 4) from pk_div (d := 4) (by omega) (by omega) (by omega)]
      exact nI_add 1 _
    rw [e4]
    by_cases c2 : nI (1 + s / 4) < w 3
    · rw [if_pos c2]
      rw [h3.1] at c2
      have := (nI_ltI (by omega) (by have := h3.2.2; omega)).mp c2
      exact ⟨1 + s / 4, by have := h3.2.2; omega, rfl⟩
    · rw [if_neg c2]
      exact ⟨nn w 3, h3.2.2, h3.1⟩
  · rw [if_neg c]
    exact ⟨0, by omega, rfl⟩
theorem ib_.rest {K B x : Nat} {w : Wd} (h : ib_ K B x w) (h11 : ¬ w 11 ≤ 0) : ib_ K B x (upd w 11 (w 11 - 1)) := by
  obtain ⟨hs, ht, ⟨hq, hw⟩, hr⟩ := h
  have h5 := hq.2.2.2.2
  have h0 : 0 < nn w 11 := by
    by_cases c : nn w 11 = 0
    · rw [h5.1, c] at h11; exact absurd (by decide) h11
    · omega
  have e : w 11 - 1 = nI (nn w 11 - 1) := by
    rw [h5.1, nn_of h5.1 (by have := h5.2.2; omega)]
    exact pk_sub (b := 1) h0
  rw [e]
  exact ⟨hs.u (by unfold sk; omega), ht.lo (by omega), ⟨hq.w11 rfl (by have := h5.2.2; omega), hw.lo (by omega)⟩, hr.lo (by unfold rk; omega)⟩
theorem ib_.e0 {K B : Nat} {w : Wd} (h : ib_ K B 1 w) (c : w 7 < w 0 * w 2) : ib_ K B 0 w := by
  obtain ⟨hs, ht, hw, h3, h6, h7, h⟩ := h
  refine ⟨hs, ht, hw, h3, h6, ⟨h7.1, ?_⟩, h⟩
  have hr := hs.r
  have hl := hs.l
  have hb : nn w 0 * nn w 2 ≤ 8 * 20 := Nat.mul_le_mul hr.2.2 hl.2.2
  rw [h7.1, hr.1, hl.1, pk_mul] at c
  have := (nI_ltI (by omega) (by omega)).mp c
  omega
theorem ib_.p99 {K B : Nat} {w : Wd} (h : ib_ K B 0 w) : ib_ K B 0 (p_99 w) := (h.blowN _ 0 w (by have := h.1.c.2.2; omega)).reloc
theorem ib_.p70 {K B : Nat} {w : Wd} (hK : K < 2 ^ 29) (hB : B < 2 ^ 30) (h : ib_ K B 0 w) : ib_ (K + 1) B 0 (p_70 w) := by
  have g := (ib_.dryN (p_rc w) 0 w (by omega) h).mnt
  unfold p_70
  by_cases c : p_min (p_dryN (p_rc w) 0 w) 7 < p_min (p_dryN (p_rc w) 0 w) 0 * p_min (p_dryN (p_rc w) 0 w) 2
  · rw [if_pos c]
    exact (g.e0 c).p99.mono (by omega) (Nat.le_refl _)
  · rw [if_neg c]
    exact (g.night hK hB).p99
theorem ib_.p25 {K B : Nat} {w : Wd} (hK : K < 2 ^ 29) (hB : B + 5 < 2 ^ 30) (h : ib_ K B 0 w) : ib_ (K + 1) (B + 5) 0 (p_25 w) := by
  unfold p_25
  by_cases c : w 11 ≤ 0
  · rw [if_pos c]
    by_cases c1 : w 8 = -1
    · rw [if_pos c1]
      exact (h.p70 hK (by omega)).mono (Nat.le_refl _) (by omega)
    · rw [if_neg c1]
      obtain ⟨n, hn, e⟩ := tries_n h.2.2.2.1 h.2.2.2.2.1.1 (by have := h.2.2.2.2.1.2.2; omega)
      rw [e, nI_clamp (by omega)]
      exact ((ib_.walk n B w (by omega) h c1).p70 hK (by omega)).mono (Nat.le_refl _) (by omega)
  · rw [if_neg c]
    exact ((h.rest c).p70 hK (by omega)).mono (Nat.le_refl _) (by omega)
theorem ib_.pass {K B : Nat} {w : Wd} (hK : K < 2 ^ 29) (hB : B + 5 < 2 ^ 30) (h : ib_ K B 0 w) : ib_ (K + 1) (B + 5) 0 (p_pass w) := h.cat.p25 hK hB
theorem ib_.passN : ∀ (n K B : Nat) (w : Wd), K + n < 2 ^ 29 → B + 5 * n < 2 ^ 30 → ib_ K B 0 w → ib_ (K + n) (B + 5 * n) 0 (p_passN n w)
  | 0, _, _, _, _, _, h => h
  | n + 1, K, B, w, hK, hB, h => by
    have g := ib_.passN n (K + 1) (B + 5) _ (by omega) (by omega) (h.pass (by omega) (by omega))
    rw [show K + (n + 1) = K + 1 + n by omega, show B + 5 * (n + 1) = B + 5 + 5 * n by omega]
    exact g
section CP
variable {i : Fin 12} {hi : HI}
theorem C_99 {G K B : Nat} (hG : 80 < G) (h : ib_ K B 0 (vw_ i hi)) : cs_ (sh_X8_passMinute_99 G i hi) i hi (p_99 (vw_ i hi)) := by
  unfold sh_X8_passMinute_99 p_99
  refine (C_blow (by omega) h.1).bind fun h5 e5 f5 => ?_
  have g := h.blowN (nn (vw_ i hi) 1) 0 _ (by have := h.1.c.2.2; omega)
  rw [← e5] at g
  refine ((C_rel (G := G) (by omega) g.1 g.2.2.2.2.2.1.1 g.2.2.2.2.2.1.2 g.2.2.1.1.2.1.1 (by have := g.2.2.1.1.2.1.2; have := g.1.c.2.2; omega) g.2.2.1.1.1).fro f5).bind fun h7 e7 f7 => cs_.ret ?_ f7
  rw [e7, e5]
theorem C_70 {G K B : Nat} (hG : 80 < G) (hK : K < 2 ^ 29) (hB : B < 2 ^ 30) (h : ib_ K B 0 (vw_ i hi)) : cs_ (sh_X8_passMinute_70 G i hi) i hi (p_70 (vw_ i hi)) := by
  unfold sh_X8_passMinute_70 p_70
  refine (C_dry hG h.1).bind fun h3 e3 f3 => ?_
  have g := (ib_.dryN (p_rc (vw_ i hi)) 0 _ (by omega) h).mnt
  generalize hh : am_u h3 (wa i 0) 10 (h3 (wa i 0) 10 + 1) = h4
  have e4 : vw_ i h4 = p_min (p_dryN (p_rc (vw_ i hi)) 0 (vw_ i hi)) := by
    rw [← hh, uw_7, vr_7 i h3, e3]
    rfl
  have f4 : fr_ i hi h4 := by rw [← hh]; exact f3.u
  unfold sh_X8_nightLength
  rw [vr_7 i h4, vr_0 i h4, vr_2 i h4, e4]
  rw [← e4] at g
  by_cases c : p_min (p_dryN (p_rc (vw_ i hi)) 0 (vw_ i hi)) 7 < p_min (p_dryN (p_rc (vw_ i hi)) 0 (vw_ i hi)) 0 * p_min (p_dryN (p_rc (vw_ i hi)) 0 (vw_ i hi)) 2
  · rw [if_pos c, if_pos c]
    have c4 : vw_ i h4 7 < vw_ i h4 0 * vw_ i h4 2 := by rw [e4]; exact c
    have r := (C_99 hG (g.e0 c4)).fro f4
    rw [e4] at r
    exact r
  · rw [if_neg c, if_neg c]
    refine ((C_night (G := G) (by omega) g.2.2.2.2.2.2.2.2.2.2.1).fro f4).bind fun h9 e9 f9 => ?_
    have g9 := g.night hK hB
    rw [← e9] at g9
    have r := (C_99 hG g9).fro f9
    rw [e9, e4] at r
    exact r
theorem C_25 {G K B : Nat} (hG : 80 < G) (hK : K < 2 ^ 29) (hB : B + 5 < 2 ^ 30) (h : ib_ K B 0 (vw_ i hi)) : cs_ (sh_X8_passMinute_25 G i hi) i hi (p_25 (vw_ i hi)) := by
  unfold sh_X8_passMinute_25 p_25
  rw [vr_11 i hi, vr_8 i hi]
  by_cases c : vw_ i hi 11 ≤ 0
  · rw [if_pos c, if_pos c]
    by_cases c1 : vw_ i hi 8 = -1
    · rw [if_pos c1, if_pos c1]
      exact C_70 hG hK (by omega) h
    · rw [if_neg c1, if_neg c1, C_tries h.1.2.2.2.2.2.2.2.2.1 (by omega), bs]
      obtain ⟨n, hn, e⟩ := tries_n h.2.2.2.1 h.2.2.2.2.1.1 (by have := h.2.2.2.2.1.2.2; omega)
      rw [e, nI_clamp (by omega)]
      refine (C_walk (G := G) (by omega) (by omega) (h.wi c1)).bind fun h12 e12 f12 => ?_
      have g := ib_.walk n B _ (by omega) h c1
      rw [← e12] at g
      have r := (C_70 (K := K) (B := B + n) hG hK (by omega) g).fro f12
      rw [e12] at r
      exact r
  · rw [if_neg c, if_neg c]
    have g := h.rest c
    have r := (C_70 (i := i) (hi := am_u hi (wa i 6) 3 (vw_ i hi 11 - 1)) (G := G) (K := K) (B := B) hG hK (by omega) (by rw [uw_11]; exact g)).fro (fr_.refl i hi).u
    rw [uw_11] at r
    exact r
theorem C_pass {G K B : Nat} (hG : 80 < G) (hK : K < 2 ^ 29) (hB : B + 5 < 2 ^ 30) (h : ib_ K B 0 (vw_ i hi)) : cs_ (sh_X8_passMinute G i hi) i hi (p_pass (vw_ i hi)) := by
  have hm := C_moveCat h.ci
  unfold sh_X8_passMinute p_pass p_cat
  by_cases c : vw_ i hi 16 = -1 ∨ nn (vw_ i hi) 17 = 0
  · rw [if_pos c] at hm ⊢
    rw [hm, bs]
    show cs_ (if (0 : Int32) = 0 then sh_X8_passMinute_25 G i hi else _) i hi _
    rw [if_pos rfl]
    exact C_25 hG hK hB h
  · rw [if_neg c] at hm ⊢
    obtain ⟨g, g16⟩ := h.catm (fun e => c (Or.inl e)) (fun e => c (Or.inr e))
    refine hm.bind fun h1 e1 f1 => ?_
    have h80 := g.1.rc.2
    obtain ⟨e16, b16⟩ : p_catm (vw_ i hi) 16 = nI (nn (p_catm (vw_ i hi)) 16) ∧ nn (p_catm (vw_ i hi)) 16 < p_rc (p_catm (vw_ i hi)) := by
      rcases g.2.2.2.2.2.2.2.2.1 with q | q
      · exact absurd q g16
      · exact q
    show cs_ (if (1 : Int32) = 0 then sh_X8_passMinute_25 G i h1 else if sh_at (wa i 13) 80 (h1 (wa i 0) 12) h1 ≤ 0 then sh_X8_passMinute_25 G i h1 else (sh_X8_spillBowl i h1).bind fun h14 => sh_X8_passMinute_25 G i h14) i hi _
    rw [if_neg (by decide), vr_16 i h1, e1, e16, at_n (by omega) (by decide), vr_bowl i h1 (by omega), e1]
    by_cases c1 : p_catm (vw_ i hi) (84 + nn (p_catm (vw_ i hi)) 16) ≤ 0
    · rw [if_pos c1, if_pos c1]
      have r := (C_25 (i := i) (hi := h1) hG hK hB (by rw [e1]; exact g)).fro f1
      rw [e1] at r
      exact r
    · rw [if_neg c1, if_neg c1]
      have gb := g.bowl g16
      refine ((C_bowl (i := i) (hi := h1) (by rw [e1]; exact g.ci) (by rw [e1]; exact g16)).fro f1).bind fun h14 e14 f14 => ?_
      rw [e1] at e14
      have r := (C_25 (i := i) (hi := h14) hG hK hB (by rw [e14]; exact gb)).fro f14
      rw [e14] at r
      exact r
theorem C_passN_2 {G : Nat} (hG : 80 < G) : ∀ (n k F K B : Nat) (hi : HI), n < F → k + n < 2 ^ 31 → K + n < 2 ^ 29 → B + 5 * n < 2 ^ 30 → ib_ K B 0 (vw_ i hi) → cs_ (sh_X8_passMinutes_2 G i (nI (k + n)) F (nI k) hi) i hi (p_passN n (vw_ i hi))
  | n, k, 0, _, _, hi, hF, _, _, _, _ => absurd hF (Nat.not_lt_zero _)
  | 0, k, F + 1, K, B, hi, hF, _, _, _, _ => by
    show cs_ (sh_X8_passMinutes_2_b G i (nI k) (sh_X8_passMinutes_2 G i (nI k) F) (nI k) hi) i hi (vw_ i hi)
    unfold sh_X8_passMinutes_2_b
    rw [if_pos (Int32.le_refl _)]
    exact cs_.ret rfl (fr_.refl i hi)
  | n + 1, k, F + 1, K, B, hi, hF, hk, hK, hB, h => by
    show cs_ (sh_X8_passMinutes_2_b G i (nI (k + (n + 1))) (sh_X8_passMinutes_2 G i (nI (k + (n + 1))) F) (nI k) hi) i hi (p_passN (n + 1) (vw_ i hi))
    have e9 : k + (n + 1) = (k + 1) + n := by omega
    have ih := fun hi => C_passN_2 hG n (k + 1) F (K + 1) (B + 5) hi (by omega) (by omega) (by omega) (by omega)
    rw [← e9, ← nI_1 k] at ih
    unfold sh_X8_passMinutes_2_b
    rw [if_neg (nI_ge (by omega) (by omega)), p_passN_s]
    refine (C_pass hG (by omega) (by omega) h).bind fun h2 e2 f2 => ?_
    have g := h.pass (by omega) (by omega)
    have r := (ih h2 (by rw [e2]; exact g)).fro f2
    rw [e2] at r
    exact r
theorem C_passN {G n K B : Nat} (hG : 80 < G) (hn : n < G) (hK : K + n < 2 ^ 29) (hB : B + 5 * n < 2 ^ 30) (h : ib_ K B 0 (vw_ i hi)) : cs_ (sh_X8_passMinutes G i (nI n) hi) i hi (p_passN n (vw_ i hi)) := by
  have g := C_passN_2 (i := i) hG n 0 G K B hi hn (by omega) hK hB h
  rw [Nat.zero_add] at g
  exact g
end CP
