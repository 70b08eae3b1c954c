/-! the cat, bowls, spills that dry, draughts, relocation -/
def p_ab (x y : Nat) : Nat := x - y + (y - x)
theorem ab_32 {x y : Nat} (hx : x < 2 ^ 30) (hy : y < 2 ^ 30) : (if 0 ≤ nI x - nI y then nI x - nI y else 0 - (nI x - nI y)) = nI (p_ab x y) := by
  unfold p_ab
  by_cases h : y ≤ x
  · rw [pk_sub h, if_pos (nI_pos' (by omega)), show y - x = 0 by omega, Nat.add_zero]
  · rw [if_neg (fun h9 => by
      have h2 := pk_sneg (a := x) (b := y) hy (by omega)
      exact Int32.lt_irrefl (Int32.lt_of_le_of_lt h9 h2)), Int32.zero_sub, Int32.neg_sub, pk_sub (by omega), show x - y = 0 by omega, Nat.zero_add]
def p_startle (w : Wd) : Wd := if nI (nn w 16 % nn w 1) = w 9 then w else if w 9 ≤ nI (nn w 16 % nn w 1) then upd w 10 0 else upd w 10 1
def p_dist (w : Wd) (a b : Nat) : Nat := p_ab (a / nn w 1) (b / nn w 1) + p_ab (a % nn w 1) (b % nn w 1)
def p_spl (w : Wd) : Wd := upd (upd w (84 + nn w 16) 0) (244 + nn w 16) (w 4)
def p_fall (w : Wd) : Wd := upd (upd (upd w 15 (w 15 + 1)) 11 (w 5)) 22 0
def p_bowl (w : Wd) : Wd := if w 8 ≠ w 16 then (if w 8 = -1 then p_spl w else if w 21 < nI (p_dist w (nn w 8) (nn w 16)) then p_spl w else p_startle (p_spl w)) else p_fall (p_spl w)
def p_catm (w : Wd) : Wd := upd (match p_nb w (nn w 16) (nn w (54 + nn w 18)) with
  | none => w
  | some u => if w (244 + u) = 0 then upd w 16 (nI u) else w) 18 (nI ((nn w 18 + 1) % nn w 17))
def p_cat (w : Wd) : Wd := if w 16 = -1 ∨ nn w 17 = 0 then w else if p_catm w (84 + nn (p_catm w) 16) ≤ 0 then p_catm w else p_bowl (p_catm w)
/-- the cat's part of what is known -/
def ci_ (w : Wd) : Prop := st_ w ∧ (w 16 = -1 ∨ (w 16 = nI (nn w 16) ∧ nn w 16 < p_rc w)) ∧ (w 18 = nI (nn w 18) ∧ (nn w 18 < nn w 17 ∨ nn w 18 = 0)) ∧ (w 8 = -1 ∨ (w 8 = nI (nn w 8) ∧ nn w 8 < p_rc w))
section CC
variable {i : Fin 12} {hi : HI}
theorem C_dist {a b : Nat} (hs : st_ (vw_ i hi)) (ha : a < 80) (hb : b < 80) : sh_X8_distance i (nI a) (nI b) hi = some (nI (p_dist (vw_ i hi) a b)) := by
  unfold sh_X8_distance
  have h1 : a / nn (vw_ i hi) 1 < 2 ^ 30 := Nat.lt_of_le_of_lt (Nat.div_le_self _ _) (by omega)
  have h2 : b / nn (vw_ i hi) 1 < 2 ^ 30 := Nat.lt_of_le_of_lt (Nat.div_le_self _ _) (by omega)
  have h3 := mod_c hs a
  have h4 := mod_c hs b
  rw [C_rowOf hs (by omega), bs, C_rowOf hs (by omega), bs, C_colOf hs (by omega), bs, C_colOf hs (by omega), bs, ab_32 h1 h2, ab_32 (by omega) (by omega), nI_add]
  rfl
theorem C_startle (hs : st_ (vw_ i hi)) (h16 : vw_ i hi 16 = nI (nn (vw_ i hi) 16)) (hb : nn (vw_ i hi) 16 < 80) : cs_ (sh_X8_startle i hi) i hi (p_startle (vw_ i hi)) := by
  unfold sh_X8_startle p_startle
  rw [vr_16 i hi, h16, C_colOf hs (by omega), bs, vr_9 i hi]
  have e : nn (vw_ i hi) 16 = nn (vw_ i hi) 16 := rfl
  by_cases c1 : nI (nn (vw_ i hi) 16 % nn (vw_ i hi) 1) = vw_ i hi 9
  · rw [if_pos c1, if_pos c1]
    exact cs_.ret rfl (fr_.refl i hi)
  · rw [if_neg c1, if_neg c1]
    by_cases c2 : vw_ i hi 9 ≤ nI (nn (vw_ i hi) 16 % nn (vw_ i hi) 1)
    · rw [if_pos c2, if_pos c2]
      exact cs_.ret uw_10 (fr_.refl i hi).u
    · rw [if_neg c2, if_neg c2]
      exact cs_.ret uw_10 (fr_.refl i hi).u
theorem p_spl_lo {w : Wd} {k : Nat} (h : k < 84) : p_spl w k = w k := by
  unfold p_spl
  rw [upd_ne (by omega), upd_ne (by omega)]
theorem st_.spl {w : Wd} (h : st_ w) : st_ (p_spl w) := (h.u (by unfold sk; omega)).u (by unfold sk; omega)
theorem C_bowl (hc : ci_ (vw_ i hi)) (h1 : vw_ i hi 16 ≠ -1) : cs_ (sh_X8_spillBowl i hi) i hi (p_bowl (vw_ i hi)) := by
  obtain ⟨hs, h16, -, h8⟩ := hc
  have h80 := hs.rc.2
  obtain ⟨h16, hb⟩ : vw_ i hi 16 = nI (nn (vw_ i hi) 16) ∧ nn (vw_ i hi) 16 < p_rc (vw_ i hi) := by
    rcases h16 with h | h
    · exact absurd h h1
    · exact h
  have hb80 : nn (vw_ i hi) 16 < 80 := by omega
  unfold sh_X8_spillBowl p_bowl
  rw [vr_16 i hi, h16, bs, put_n hb80 (by decide), bs]
  rw [vr_16 i (am_u hi (wa i 13) (nn (vw_ i hi) 16) 0), vr_4 i (am_u hi (wa i 13) (nn (vw_ i hi) 16) 0), uw_bowl hb80, upd_ne (by omega), upd_ne (by omega), h16, put_n hb80 (by decide)]
  generalize hh : am_u (am_u hi (wa i 13) (nn (vw_ i hi) 16) 0) (wa i 12) (nn (vw_ i hi) 16) (vw_ i hi 4) = h2
  have e2 : vw_ i h2 = p_spl (vw_ i hi) := by rw [← hh, uw_spill hb80, uw_bowl hb80]; rfl
  have f2 : fr_ i hi h2 := by rw [← hh]; exact (fr_.refl i hi).u.u
  have e8 : p_spl (vw_ i hi) 8 = vw_ i hi 8 := p_spl_lo (by omega)
  have e16 : p_spl (vw_ i hi) 16 = vw_ i hi 16 := p_spl_lo (by omega)
  have hs2 : st_ (vw_ i h2) := by rw [e2]; exact hs.spl
  rw [vr_8 i h2, vr_16 i h2, vr_21 i h2, vr_5 i h2, e2, e8, e16, p_spl_lo (show 21 < 84 by omega), p_spl_lo (show 5 < 84 by omega), ← h16]
  by_cases c1 : vw_ i hi 8 = vw_ i hi 16
  · rw [if_neg (fun h => h c1), if_neg (fun h => h c1)]
    refine ((C_fall (hi := h2)).fro f2).bind fun h7 e7 f7 => cs_.ret ?_ f7
    rw [e7, e2]
    unfold p_fall
    rw [p_spl_lo (show 5 < 84 by omega)]
  · rw [if_pos c1, if_pos c1]
    by_cases c2 : vw_ i hi 8 = -1
    · rw [if_pos c2, if_pos c2]
      exact cs_.ret e2 f2
    · obtain ⟨h8, h8b⟩ : vw_ i hi 8 = nI (nn (vw_ i hi) 8) ∧ nn (vw_ i hi) 8 < p_rc (vw_ i hi) := by
        rcases h8 with h | h
        · exact absurd h c2
        · exact h
      rw [if_neg c2, if_neg c2, h8, h16, C_dist hs2 (by omega) (by omega), bs, e2]
      have ed : p_dist (p_spl (vw_ i hi)) (nn (vw_ i hi) 8) (nn (vw_ i hi) 16) = p_dist (vw_ i hi) (nn (vw_ i hi) 8) (nn (vw_ i hi) 16) := by
        unfold p_dist
        rw [nn_cg (p_spl_lo (w := vw_ i hi) (show 1 < 84 by omega))]
      rw [ed]
      by_cases c3 : vw_ i hi 21 < nI (p_dist (vw_ i hi) (nn (vw_ i hi) 8) (nn (vw_ i hi) 16))
      · rw [if_pos c3, if_pos c3]
        exact cs_.ret e2 f2
      · rw [if_neg c3, if_neg c3]
        have en : nn (vw_ i h2) 16 = nn (vw_ i hi) 16 := nn_cg (by rw [e2, e16])
        refine ((C_startle hs2 (by rw [en, e2, e16]; exact h16) (by rw [en]; exact hb80)).fro f2).bind fun h5 e5 f5 => cs_.ret ?_ f5
        rw [e5, e2]
theorem vr_rt (i : Fin 12) (hi : HI) {k : Nat} (h : k < nn (vw_ i hi) 17) (h30 : k < 30) : hi (wa i 5) k = vw_ i hi (54 + k) := by
  have e : nn (vw_ i hi) 17 = nn (rv i hi) 17 := by unfold nn vw_; rw [nz_p (by decide)]
  unfold vw_ nz
  rw [if_neg (by omega), if_neg (by omega), if_pos (by omega), if_pos (by rw [← e]; omega)]
  unfold rv
  have ha : adr (54 + k) = (5, k) := by
    unfold adr
    rw [if_neg (by omega), if_neg (by omega), if_neg (by omega), if_neg (by omega), if_pos (by omega), show 54 + k - 54 = k by omega]
  rw [if_pos ⟨by omega, by omega⟩, ha]
theorem C_cat64 {h : HI} {k m : Nat} (h18 : vw_ i h 18 = nI k) (h17 : vw_ i h 17 = nI m) (hm : 0 < m) (hm2 : m < 2 ^ 30) (hk : k < 2 ^ 30) : cv_ (sh_X8_moveCat_64 i h) i h 1 (upd (vw_ i h) 18 (nI ((k + 1) % m))) := by
  unfold sh_X8_moveCat_64
  rw [vr_17 i h, vr_18 i h, h17, h18, if_neg (nI_ne0 hm (by omega)), nI_1, pk_rem (by omega) hm (by omega)]
  exact cv_.ret uw_18 (fr_.refl i h).u
theorem C_moveCat (hc : ci_ (vw_ i hi)) : if vw_ i hi 16 = -1 ∨ nn (vw_ i hi) 17 = 0 then sh_X8_moveCat i hi = some (0, hi) else cv_ (sh_X8_moveCat i hi) i hi 1 (p_catm (vw_ i hi)) := by
  obtain ⟨hs, h16, h18, -⟩ := hc
  have h80 := hs.rc.2
  obtain ⟨-, -, -, -, -, h17, -, -, -, -, hrt⟩ := id hs
  unfold sh_X8_moveCat
  rw [vr_16 i hi, vr_17 i hi, vr_18 i hi]
  by_cases c1 : vw_ i hi 16 = -1
  · rw [if_pos (Or.inl c1), if_pos c1]
  by_cases c2 : nn (vw_ i hi) 17 = 0
  · rw [if_pos (Or.inr c2), if_neg c1, h17.1, c2, if_neg (show ¬ 0 < nI 0 by decide)]
  rw [if_neg (fun h => h.elim c1 c2), if_neg c1]
  have hm0 : 0 < nn (vw_ i hi) 17 := by omega
  have hm30 := h17.2.2
  have hk : nn (vw_ i hi) 18 < nn (vw_ i hi) 17 := by rcases h18.2 with h | h <;> omega
  obtain ⟨h16, hb⟩ : vw_ i hi 16 = nI (nn (vw_ i hi) 16) ∧ nn (vw_ i hi) 16 < p_rc (vw_ i hi) := by
    rcases h16 with h | h
    · exact absurd h c1
    · exact h
  have hr := hrt _ hk
  rw [h17.1, h18.1, if_pos (show 0 < nI (nn (vw_ i hi) 17) from (nI_ltI (a := 0) (by omega) (by omega)).mpr hm0), at_n (by omega) (by decide), vr_rt i hi hk (by omega), h16, hr.1, C_nb hs (by omega) (by have := hr.2.2; omega), bs]
  unfold p_catm
  cases hu : p_nb (vw_ i hi) (nn (vw_ i hi) 16) (nn (vw_ i hi) (54 + nn (vw_ i hi) 18)) with
  | none =>
    rw [if_pos (show oI none = -1 from rfl)]
    exact C_cat64 h18.1 h17.1 hm0 (by omega) (by omega)
  | some u =>
    have hu80 : u < 80 := Nat.lt_of_lt_of_le (p_nb_lt hs hb hu) h80
    rw [if_neg (show ¬ oI (some u) = -1 from nI_m1 (by omega))]
    show cv_ (if sh_at (wa i 12) 80 (nI u) hi ≠ 0 then sh_X8_moveCat_64 i hi else sh_X8_moveCat_64 i (am_u hi (wa i 0) 12 (nI u))) i hi 1 (upd (if vw_ i hi (244 + u) = 0 then upd (vw_ i hi) 16 (nI u) else vw_ i hi) 18 (nI ((nn (vw_ i hi) 18 + 1) % nn (vw_ i hi) 17)))
    rw [at_n hu80 (by decide), vr_spill i hi hu80]
    by_cases c3 : vw_ i hi (244 + u) = 0
    · rw [if_neg (fun h => h c3), if_pos c3]
      have h := C_cat64 (i := i) (h := am_u hi (wa i 0) 12 (nI u)) (k := nn (vw_ i hi) 18) (m := nn (vw_ i hi) 17) (by rw [uw_16, upd_ne (by omega)]; exact h18.1) (by rw [uw_16, upd_ne (by omega)]; exact h17.1) hm0 (by omega) (by omega)
      rw [uw_16] at h
      exact h.fro (fr_.refl i hi).u
    · rw [if_pos c3, if_neg c3]
      exact C_cat64 h18.1 h17.1 hm0 (by omega) (by omega)
end CC
