/-! what a World does, as a function of its row (p_..); the class's side -/
def p_rc (w : Wd) : Nat := nn w 0 * nn w 1
def p_nb (w : Wd) (t m : Nat) : Option Nat :=
  if m = 1 then (if t < nn w 1 then none else some (t - nn w 1)) else if m = 2 then (if p_rc w ≤ t + nn w 1 then none else some (t + nn w 1)) else if m = 3 then (if t % nn w 1 = 0 then none else some (t - 1)) else if m = 4 then (if nn w 1 ≤ t % nn w 1 + 1 then none else some (t + 1)) else some t
def p_shine (w : Wd) : Int32 := if (15 : Int32) < w 6 - w 6 / 30 * 30 then 30 - (w 6 - w 6 / 30 * 30) else w 6 - w 6 / 30 * 30
def p_cloud (w : Wd) (a : Int32) : Nat → Nat → Bool
  | 0, _ => false
  | f + 1, k => if nn w 24 ≤ k then false else if a < w (46 + 2 * k) then p_cloud w a f (k + 1) else if w (47 + 2 * k) < a then p_cloud w a f (k + 1) else true
theorem p_cloud_s (w : Wd) (a : Int32) (f k : Nat) : p_cloud w a (f + 1) k = if nn w 24 ≤ k then false else if a < w (46 + 2 * k) then p_cloud w a f (k + 1) else if w (47 + 2 * k) < a then p_cloud w a f (k + 1) else true := rfl
def p_out (w : Wd) : Bool := decide (0 < p_shine w) && !(p_cloud w (w 7) 4 0)
def p_row (w : Wd) : Nat := nn w 7 / nn w 2
def p_lies (w : Wd) (t : Nat) : Bool := decide (t / nn w 1 = p_row w) && decide (w (26 + t % nn w 1) = 0)
def p_lit (w : Wd) (t : Nat) : Bool := p_out w && p_lies w t
def p_tries (w : Wd) : Int32 := if p_out w = true then (if 1 + p_shine w / 4 < w 3 then 1 + p_shine w / 4 else w 3) else 0
def p_free (w : Wd) (t : Nat) : Bool := decide (w (84 + t) = 0) && decide (w (244 + t) = 0)
section DIM
variable {w : Wd}
theorem st_.r (h : st_ w) : w 0 = nI (nn w 0) ∧ 2 ≤ nn w 0 ∧ nn w 0 ≤ 8 := h.1
theorem st_.c (h : st_ w) : w 1 = nI (nn w 1) ∧ 2 ≤ nn w 1 ∧ nn w 1 ≤ 10 := h.2.1
theorem st_.l (h : st_ w) : w 2 = nI (nn w 2) ∧ 1 ≤ nn w 2 ∧ nn w 2 ≤ 20 := h.2.2.1
theorem st_.rc (h : st_ w) : 4 ≤ p_rc w ∧ p_rc w ≤ 80 := ⟨Nat.mul_le_mul h.r.2.1 h.c.2.1, Nat.mul_le_mul h.r.2.2 h.c.2.2⟩
theorem mod_c (h : st_ w) (t : Nat) : t % nn w 1 < 10 := Nat.lt_of_lt_of_le (Nat.mod_lt _ (by have := h.c.2.1; omega)) h.c.2.2
theorem p_nb_lt (h : st_ w) {t m u : Nat} (ht : t < p_rc w) (hu : p_nb w t m = some u) : u < p_rc w := by
  have hc := h.c.2.1
  unfold p_nb at hu
  split at hu
  · split at hu
    · cases hu
    · cases hu; omega
  · split at hu
    · split at hu
      · cases hu
      · cases hu; omega
    · split at hu
      · split at hu
        · cases hu
        · cases hu; omega
      · split at hu
        · split at hu
          · cases hu
          · next h9 =>
            cases hu
            have e1 := Nat.div_add_mod t (nn w 1)
            have h2 : t / nn w 1 < nn w 0 := by
              apply Nat.div_lt_of_lt_mul
              rw [Nat.mul_comm]
              exact ht
            have h3 : nn w 1 * (t / nn w 1 + 1) ≤ nn w 1 * nn w 0 := Nat.mul_le_mul_left _ h2
            have h4 : nn w 1 * (t / nn w 1 + 1) = nn w 1 * (t / nn w 1) + nn w 1 := Nat.mul_succ _ _
            show t + 1 < nn w 0 * nn w 1
            rw [Nat.mul_comm (nn w 0)]
            omega
        · cases hu; exact ht
end DIM
section CR
variable {i : Fin 12} {hi : HI}
theorem C_shine : sh_X8_moonlight i hi = some (p_shine (vw_ i hi)) := by
  unfold sh_X8_moonlight p_shine
  rw [vr_6 i hi]
  split <;> rfl
theorem vr_cl1 (i : Fin 12) (hi : HI) {k : Nat} (h : k < nn (vw_ i hi) 24) (h4 : k < 4) : hi (wa i 3) k = vw_ i hi (46 + 2 * k) := by
  have e : nn (vw_ i hi) 24 = nn (rv i hi) 24 := by unfold nn vw_; rw [nz_p (by decide)]
  unfold vw_ nz
  rw [if_neg (by omega), if_pos (by omega), if_pos (by rw [← e]; omega)]
  unfold rv
  have ha : adr (46 + 2 * k) = (3, k) := by
    unfold adr
    rw [if_neg (by omega), if_neg (by omega), if_neg (by omega), if_pos (by omega), show (46 + 2 * k - 46) % 2 = 0 by omega, show (46 + 2 * k - 46) / 2 = k by omega]
  rw [if_pos ⟨by omega, by omega⟩, ha]
theorem vr_cl2 (i : Fin 12) (hi : HI) {k : Nat} (h : k < nn (vw_ i hi) 24) (h4 : k < 4) : hi (wa i 4) k = vw_ i hi (47 + 2 * k) := by
  have e : nn (vw_ i hi) 24 = nn (rv i hi) 24 := by unfold nn vw_; rw [nz_p (by decide)]
  unfold vw_ nz
  rw [if_neg (by omega), if_pos (by omega), if_pos (by rw [← e]; omega)]
  unfold rv
  have ha : adr (47 + 2 * k) = (4, k) := by
    unfold adr
    rw [if_neg (by omega), if_neg (by omega), if_neg (by omega), if_pos (by omega), show (47 + 2 * k - 46) % 2 = 1 by omega, show (47 + 2 * k - 46) / 2 = k by omega]
  rw [if_pos ⟨by omega, by omega⟩, ha]
theorem C_cloudy_2 {G : Nat} {a : Int32} (hs : in_ (vw_ i hi) 24 0 4) : ∀ f k F, k + f = 4 → f < F → sh_X2_isCloudy_2 G i a hi F (nI k) = some (b2 (p_cloud (vw_ i hi) a f k))
  | f, k, 0, h, hF => absurd hF (Nat.not_lt_zero _)
  | f, k, F + 1, h, hF => by
    show sh_X2_isCloudy_2_b G i a hi (sh_X2_isCloudy_2 G i a hi F) (nI k) = _
    unfold sh_X2_isCloudy_2_b
    rw [vr_24 i hi, hs.1]
    by_cases hk : nn (vw_ i hi) 24 ≤ k
    · rw [if_pos (nI_le hk (by omega))]
      cases f with
      | zero => rfl
      | succ f => rw [p_cloud_s, if_pos hk]; rfl
    · have h4 := hs.2.2
      have hk4 : k < 4 := by omega
      have hk9 : k < nn (vw_ i hi) 24 := by omega
      rw [if_neg (nI_ge hk9 (by omega)), if_neg (show ¬ (4 : Int32) ≤ nI k from nI_ge (b := 4) hk4 (by omega)), nI_clamp (by omega), if_pos ⟨nI_pos' (by omega), hk4⟩, vr_cl1 i hi hk9 hk4, vr_cl2 i hi hk9 hk4]
      obtain ⟨f, rfl⟩ : ∃ g, f = g + 1 := ⟨f - 1, by omega⟩
      have ih := C_cloudy_2 (G := G) (a := a) hs f (k + 1) F (by omega) (by omega)
      rw [nI_1, ih, p_cloud_s, if_neg hk]
      by_cases h1 : a < vw_ i hi (46 + 2 * k)
      · rw [if_pos h1, if_pos h1]
      · rw [if_neg h1, if_neg h1, if_pos ⟨nI_pos' (by omega), hk4⟩]
        by_cases h2 : vw_ i hi (47 + 2 * k) < a
        · rw [if_pos h2, if_pos h2]
        · rw [if_neg h2, if_neg h2]
          rfl
theorem C_cloudy {G : Nat} {a : Int32} (hs : in_ (vw_ i hi) 24 0 4) (hG : 5 ≤ G) : sh_X2_isCloudy G i a hi = some (b2 (p_cloud (vw_ i hi) a 4 0)) := C_cloudy_2 hs 4 0 G (by omega) (by omega)
theorem C_out {G : Nat} (hs : in_ (vw_ i hi) 24 0 4) (hG : 5 ≤ G) : sh_X8_isMoonOut G i hi = some (b2 (p_out (vw_ i hi))) := by
  unfold sh_X8_isMoonOut
  rw [C_shine, vr_7 i hi, C_cloudy hs hG]
  show (if p_shine (vw_ i hi) ≤ 0 then some (0 : Int32) else (if b2 (p_cloud (vw_ i hi) (vw_ i hi 7) 4 0) ≠ 0 then some (0 : Int32) else some (1 : Int32))) = some (b2 (decide (0 < p_shine (vw_ i hi)) && !(p_cloud (vw_ i hi) (vw_ i hi 7) 4 0)))
  by_cases h : p_shine (vw_ i hi) ≤ 0
  · have h2 : ¬ 0 < p_shine (vw_ i hi) := fun h9 => by
      have a1 := Int32.lt_iff_toInt_lt.mp h9
      have a2 := Int32.le_iff_toInt_le.mp h
      omega
    rw [if_pos h, decide_eq_false h2]
    rfl
  · have h2 : 0 < p_shine (vw_ i hi) := by
      apply Int32.lt_iff_toInt_lt.mpr
      have a2 := mt Int32.le_iff_toInt_le.mpr h
      omega
    rw [if_neg h, decide_eq_true h2]
    cases p_cloud (vw_ i hi) (vw_ i hi 7) 4 0 <;> rfl
theorem C_rowOf {t : Nat} (hs : st_ (vw_ i hi)) (ht : t < 2 ^ 31) : sh_X8_rowOf i (nI t) hi = some (nI (t / nn (vw_ i hi) 1)) := by
  have hc := hs.c
  unfold sh_X8_rowOf
  rw [vr_1 i hi, hc.1, if_neg (nI_nle (by omega) (by omega)), if_neg (nI_ne0 (by omega) (by omega)), pk_div ht (by omega) (by omega)]
theorem C_colOf {t : Nat} (hs : st_ (vw_ i hi)) (ht : t < 2 ^ 31) : sh_X8_columnOf i (nI t) hi = some (nI (t % nn (vw_ i hi) 1)) := by
  have hc := hs.c
  unfold sh_X8_columnOf
  rw [vr_1 i hi, hc.1, if_neg (nI_nle (by omega) (by omega)), if_neg (nI_ne0 (by omega) (by omega)), pk_rem ht (by omega) (by omega)]
theorem C_tiles (hs : st_ (vw_ i hi)) : sh_X8_tileCount i hi = nI (p_rc (vw_ i hi)) := by
  unfold sh_X8_tileCount
  rw [vr_0 i hi, vr_1 i hi, hs.r.1, hs.c.1, pk_mul]
  rfl
theorem C_row (hs : st_ (vw_ i hi)) (h7 : vw_ i hi 7 = nI (nn (vw_ i hi) 7)) (h : nn (vw_ i hi) 7 < 2 ^ 31) : sh_X8_rowInMoonlight i hi = some (nI (p_row (vw_ i hi))) := by
  have hl := hs.l
  unfold sh_X8_rowInMoonlight
  rw [vr_2 i hi, vr_7 i hi, hl.1, if_neg (nI_nle (by omega) (by omega)), if_neg (nI_ne0 (by omega) (by omega)), h7, pk_div h (by omega) (by omega)]
  rfl
end CR
