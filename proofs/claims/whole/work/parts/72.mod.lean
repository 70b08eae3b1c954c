/-! the model's side: its row now (za 196), with the same p_.. functions -/
def rm_ (hi : HI) : Wd := fun k => if k < 424 ∧ k ≠ 25 then hi (za 196) k else 0
def mw_ (hi : HI) : Wd := nz (rm_ hi)
/-- piece S ends, now is w then, nothing else has changed -/
def cm_ (S : Option HI) (h : HI) (w : Wd) : Prop := ∃ h1, S = some h1 ∧ mw_ h1 = w ∧ fm_ h h1
section MV
variable {hi h : HI} {w w1 : Wd}
theorem rm_u {k : Nat} {v : Int32} (hk : k < 424) (h25 : k ≠ 25) : rm_ (am_u hi (za 196) k v) = upd (rm_ hi) k v := by
  funext q
  rw [upd_e]
  unfold rm_
  by_cases hq : q = k
  · subst hq
    rw [if_pos rfl, if_pos ⟨hk, h25⟩]
    unfold am_u
    rw [if_pos rfl, if_pos rfl]
  · rw [if_neg hq]
    by_cases h9 : q < 424 ∧ q ≠ 25
    · rw [if_pos h9, if_pos h9]
      unfold am_u
      rw [if_neg hq]
    · rw [if_neg h9, if_neg h9]
theorem M_u {k : Nat} {v : Int32} (h : (k < 46 ∧ k ≠ 25 ∧ k ≠ 17 ∧ k ≠ 19 ∧ k ≠ 24) ∨ (84 ≤ k ∧ k < 404)) : mw_ (am_u hi (za 196) k v) = upd (mw_ hi) k v := by
  unfold mw_
  rw [rm_u (by omega) (by omega), nz_u h]
theorem M_r (hi : HI) {k : Nat} (h : (k < 46 ∧ k ≠ 25) ∨ (84 ≤ k ∧ k < 404)) : hi (za 196) k = mw_ hi k := by
  unfold mw_
  rw [nz_p h]
  unfold rm_
  rw [if_pos ⟨by omega, by omega⟩]
theorem M_o {h1 : HI} (e : ∀ k, h1 (za 196) k = hi (za 196) k) : mw_ h1 = mw_ hi := by
  unfold mw_ rm_
  rw [funext e]
theorem cm_.bind {S : Option HI} {T : HI → Option HI} (a : cm_ S h w) (b : ∀ h1, mw_ h1 = w → fm_ h h1 → cm_ (T h1) h w1) : cm_ (S.bind T) h w1 := by
  obtain ⟨h1, e, hv, hf⟩ := a
  rw [e]
  exact b h1 hv hf
theorem cm_.fro {h0 : HI} {S : Option HI} (f : fm_ h0 h) (a : cm_ S h w) : cm_ S h0 w := by
  obtain ⟨h1, e, hv, hf⟩ := a
  exact ⟨h1, e, hv, f.trans hf⟩
theorem cm_.ret {h1 : HI} (hv : mw_ h1 = w) (hf : fm_ h h1) : cm_ (some h1) h w := ⟨h1, rfl, hv, hf⟩
theorem cm_.bs {S : Option HI} (a : cm_ S h w) : cm_ (S.bind fun h2 => some h2) h w := a.bind fun _ e f => cm_.ret e f
theorem cm_.to {S : Option HI} (a : cm_ S h w) (e : w = w1) : cm_ S h w1 := e ▸ a
end MV
theorem m_0 (hi : HI) : hi (za 196) 0 = mw_ hi 0 := M_r hi (by decide)
theorem m_1 (hi : HI) : hi (za 196) 1 = mw_ hi 1 := M_r hi (by decide)
theorem m_2 (hi : HI) : hi (za 196) 2 = mw_ hi 2 := M_r hi (by decide)
theorem m_3 (hi : HI) : hi (za 196) 3 = mw_ hi 3 := M_r hi (by decide)
theorem m_4 (hi : HI) : hi (za 196) 4 = mw_ hi 4 := M_r hi (by decide)
theorem m_5 (hi : HI) : hi (za 196) 5 = mw_ hi 5 := M_r hi (by decide)
theorem m_6 (hi : HI) : hi (za 196) 6 = mw_ hi 6 := M_r hi (by decide)
theorem m_7 (hi : HI) : hi (za 196) 7 = mw_ hi 7 := M_r hi (by decide)
theorem m_8 (hi : HI) : hi (za 196) 8 = mw_ hi 8 := M_r hi (by decide)
theorem m_9 (hi : HI) : hi (za 196) 9 = mw_ hi 9 := M_r hi (by decide)
theorem m_10 (hi : HI) : hi (za 196) 10 = mw_ hi 10 := M_r hi (by decide)
theorem m_11 (hi : HI) : hi (za 196) 11 = mw_ hi 11 := M_r hi (by decide)
theorem m_12 (hi : HI) : hi (za 196) 12 = mw_ hi 12 := M_r hi (by decide)
theorem m_13 (hi : HI) : hi (za 196) 13 = mw_ hi 13 := M_r hi (by decide)
theorem m_14 (hi : HI) : hi (za 196) 14 = mw_ hi 14 := M_r hi (by decide)
theorem m_15 (hi : HI) : hi (za 196) 15 = mw_ hi 15 := M_r hi (by decide)
theorem m_16 (hi : HI) : hi (za 196) 16 = mw_ hi 16 := M_r hi (by decide)
theorem m_17 (hi : HI) : hi (za 196) 17 = mw_ hi 17 := M_r hi (by decide)
theorem m_18 (hi : HI) : hi (za 196) 18 = mw_ hi 18 := M_r hi (by decide)
theorem m_19 (hi : HI) : hi (za 196) 19 = mw_ hi 19 := M_r hi (by decide)
theorem m_20 (hi : HI) : hi (za 196) 20 = mw_ hi 20 := M_r hi (by decide)
theorem m_21 (hi : HI) : hi (za 196) 21 = mw_ hi 21 := M_r hi (by decide)
theorem m_22 (hi : HI) : hi (za 196) 22 = mw_ hi 22 := M_r hi (by decide)
theorem m_23 (hi : HI) : hi (za 196) 23 = mw_ hi 23 := M_r hi (by decide)
theorem m_24 (hi : HI) : hi (za 196) 24 = mw_ hi 24 := M_r hi (by decide)
/-! places in the row -/
theorem A26 (n : Nat) : (26 : Int32) + nI n = nI (26 + n) := nI_add 26 n
theorem A36 (n : Nat) : (36 : Int32) + nI n = nI (36 + n) := nI_add 36 n
theorem A46 (n : Nat) : (46 : Int32) + nI n = nI (46 + n) := nI_add 46 n
theorem A54 (n : Nat) : (54 : Int32) + nI n = nI (54 + n) := nI_add 54 n
theorem A84 (n : Nat) : (84 : Int32) + nI n = nI (84 + n) := nI_add 84 n
theorem A164 (n : Nat) : (164 : Int32) + nI n = nI (164 + n) := nI_add 164 n
theorem A244 (n : Nat) : (244 : Int32) + nI n = nI (244 + n) := nI_add 244 n
theorem A324 (n : Nat) : (324 : Int32) + nI n = nI (324 + n) := nI_add 324 n
theorem A404 (n : Nat) : (404 : Int32) + nI n = nI (404 + n) := nI_add 404 n
theorem T2_ (n : Nat) : (2 : Int32) * nI n = nI (2 * n) := pk_mul 2 n
theorem S1_ {n : Nat} (h : 1 ≤ n) : nI n - 1 = nI (n - 1) := pk_sub (b := 1) h
theorem S2_ {n : Nat} (h : 2 ≤ n) : nI n - 2 = nI (n - 2) := pk_sub (b := 2) h
theorem ok_ {m n : Nat} (h : m < n) (hn : n < 2 ^ 31) : 0 ≤ nI m ∧ (nI m).toNatClampNeg < n := by
  rw [nI_clamp (by omega)]
  exact ⟨nI_pos' (by omega), h⟩
theorem ok4 {m : Nat} (h : m < 424) : 0 ≤ nI m ∧ (nI m).toNatClampNeg < 424 := ok_ h (by decide)
theorem in_n {a b c : Nat} (ha : a < 2 ^ 31) (hb : b < 2 ^ 31) (hc : c < 2 ^ 31) : sh_X10_in (nI a) (nI b) (nI c) = b2 (decide (b ≤ a) && decide (a ≤ c)) := by
  unfold sh_X10_in
  by_cases h1 : a < b
  · rw [if_pos (nI_lt h1 hb), decide_eq_false (by omega)]; rfl
  · rw [if_neg (fun h => h1 ((nI_ltI ha hb).mp h)), decide_eq_true (show b ≤ a by omega)]
    by_cases h2 : c < a
    · rw [if_pos (nI_lt h2 ha), decide_eq_false (by omega)]; rfl
    · rw [if_neg (fun h => h2 ((nI_ltI hc ha).mp h)), decide_eq_true (show a ≤ c by omega)]; rfl
theorem in_neg {x b c : Int32} (h : x < b) : sh_X10_in x b c = 0 := by
  unfold sh_X10_in
  rw [if_pos h]
theorem one_b {b : Bool} : sh_X10_one (b2 b) = b2 b := by cases b <;> decide
theorem b2_ite {p : Prop} [Decidable p] : (if p then some (0 : Int32) else some 1) = some (b2 (!decide p)) := by
  by_cases h : p
  · rw [if_pos h, decide_eq_true h]; rfl
  · rw [if_neg h, decide_eq_false h]; rfl
theorem b2_ite1 {p : Prop} [Decidable p] : (if p then some (1 : Int32) else some 0) = some (b2 (decide p)) := by
  by_cases h : p
  · rw [if_pos h, decide_eq_true h]; rfl
  · rw [if_neg h, decide_eq_false h]; rfl
theorem in01 {w : Wd} {k : Nat} (h : in_ w k 0 1) : w k = 0 ∨ w k = 1 := by
  have h2 := h.2.2
  rcases Nat.lt_or_ge (nn w k) 1 with c | c
  · left; rw [h.1, show nn w k = 0 by omega]; rfl
  · right; rw [h.1, show nn w k = 1 by omega]; rfl
section MR
variable {hi : HI}
theorem M_shine : sh_X10_shine hi = some (p_shine (mw_ hi)) := by
  unfold sh_X10_shine p_shine
  rw [m_6 hi]
  split <;> rfl
theorem m_cl {k : Nat} (h : k < nn (mw_ hi) 24) (h4 : k < 4) {j : Nat} (hj : j < 2) : hi (za 196) (46 + 2 * k + j) = mw_ hi (46 + 2 * k + j) := by
  have e : nn (mw_ hi) 24 = nn (rm_ hi) 24 := by unfold nn mw_; rw [nz_p (by decide)]
  unfold mw_ nz
  rw [if_neg (by omega), if_pos (by omega), if_pos (by rw [← e]; omega)]
  unfold rm_
  rw [if_pos ⟨by omega, by omega⟩]
theorem M_cloudy_2 {G : Nat} (hs : in_ (mw_ hi) 24 0 4) : ∀ f k F, k + f = 4 → f < F → sh_X10_isCloudy_2 G hi F (nI k) = some (b2 (p_cloud (mw_ hi) (mw_ hi 7) f k))
  | f, k, 0, h, hF => absurd hF (Nat.not_lt_zero _)
  | f, k, F + 1, h, hF => by
    show sh_X10_isCloudy_2_b G hi (sh_X10_isCloudy_2 G hi F) (nI k) = _
    unfold sh_X10_isCloudy_2_b
    rw [m_24 hi, hs.1]
    by_cases hk : nn (mw_ hi) 24 ≤ k
    · rw [if_pos (nI_le hk (by omega))]
      cases f with
      | zero => rfl
      | succ f => rw [p_cloud_s, if_pos hk]; rfl
    · have h4 := hs.2.2
      have hk4 : k < 4 := by omega
      have hk9 : k < nn (mw_ hi) 24 := by omega
      rw [if_neg (nI_ge hk9 (by omega)), T2_, A46, nI_1 (46 + 2 * k), if_pos (ok4 (by omega)), if_pos (ok4 (by omega)), nI_clamp (by omega), nI_clamp (by omega), m_7 hi, show hi (za 196) (46 + 2 * k) = mw_ hi (46 + 2 * k) from m_cl (j := 0) hk9 hk4 (by omega), show hi (za 196) (46 + 2 * k + 1) = mw_ hi (47 + 2 * k) by rw [show 47 + 2 * k = 46 + 2 * k + 1 by omega]; exact m_cl (j := 1) hk9 hk4 (by omega)]
      obtain ⟨f, rfl⟩ : ∃ g, f = g + 1 := ⟨f - 1, by omega⟩
      have ih := M_cloudy_2 (G := G) hs f (k + 1) F (by omega) (by omega)
      rw [nI_1, ih, p_cloud_s, if_neg hk]
      unfold sh_X10_in
      by_cases h1 : mw_ hi 7 < mw_ hi (46 + 2 * k)
      · rw [if_pos h1, if_pos h1, if_pos rfl]
      · rw [if_neg h1, if_neg h1]
        by_cases h2 : mw_ hi (47 + 2 * k) < mw_ hi 7
        · rw [if_pos h2, if_pos h2, if_pos rfl]
        · rw [if_neg h2, if_neg h2, if_neg (by decide)]
          rfl
theorem M_out {G : Nat} (hs : in_ (mw_ hi) 24 0 4) (hG : 5 ≤ G) : sh_X10_doesShine G hi = some (b2 (p_out (mw_ hi))) := by
  unfold sh_X10_doesShine sh_X10_isCloudy
  rw [M_shine, show sh_X10_isCloudy_2 G hi G (0 : Int32) = _ from M_cloudy_2 (G := G) hs 4 0 G (by omega) (by omega)]
  show (if p_shine (mw_ hi) ≤ 0 then some (0 : Int32) else (if b2 (p_cloud (mw_ hi) (mw_ hi 7) 4 0) ≠ 0 then some (0 : Int32) else some (1 : Int32))) = some (b2 (decide (0 < p_shine (mw_ hi)) && !(p_cloud (mw_ hi) (mw_ hi 7) 4 0)))
  by_cases h : p_shine (mw_ hi) ≤ 0
  · have h2 : ¬ 0 < p_shine (mw_ hi) := fun h9 => by
      have a1 := Int32.lt_iff_toInt_lt.mp h9
      have a2 := Int32.le_iff_toInt_le.mp h
      omega
    rw [if_pos h, decide_eq_false h2]
    rfl
  · have h2 : 0 < p_shine (mw_ hi) := by
      apply Int32.lt_iff_toInt_lt.mpr
      have a2 := mt Int32.le_iff_toInt_le.mpr h
      omega
    rw [if_neg h, decide_eq_true h2]
    cases p_cloud (mw_ hi) (mw_ hi 7) 4 0 <;> rfl
theorem M_row (hs : st_ (mw_ hi)) (h7 : mw_ hi 7 = nI (nn (mw_ hi) 7)) (h : nn (mw_ hi) 7 < 2 ^ 31) : sh_X10_litRow hi = some (nI (p_row (mw_ hi))) := by
  have hl := hs.l
  unfold sh_X10_litRow
  rw [m_2 hi, m_7 hi, hl.1, if_neg (nI_ne0 (by omega) (by omega)), h7, pk_div h (by omega) (by omega)]
  rfl
theorem M_tiles (hs : st_ (mw_ hi)) : sh_X10_tiles hi = some (nI (p_rc (mw_ hi))) := by
  unfold sh_X10_tiles
  rw [m_0 hi, m_1 hi, hs.r.1, hs.c.1, pk_mul]
  rfl
theorem M_closed {c : Nat} (hc : c < 10) (h : in_ (mw_ hi) (26 + c) 0 1) : sh_X10_isClosed (nI c) hi = some (b2 (!decide (mw_ hi (26 + c) = 0))) := by
  unfold sh_X10_isClosed
  rw [A26, if_pos (ok4 (by omega)), nI_clamp (by omega), M_r hi (by omega)]
  rcases in01 h with e | e <;> rw [e] <;> rfl
theorem M_dry {t : Nat} (ht : t < 80) : sh_X10_isDry (nI t) hi = some (b2 (decide (mw_ hi (244 + t) = 0))) := by
  unfold sh_X10_isDry
  rw [A244, if_pos (ok4 (by omega)), nI_clamp (by omega), M_r hi (by omega)]
  by_cases h : mw_ hi (244 + t) = 0
  · rw [if_neg (fun h9 => h9 h), decide_eq_true h]; rfl
  · rw [if_pos h, decide_eq_false h]; rfl
theorem M_empty {t : Nat} (ht : t < 80) : sh_X10_isEmpty (nI t) hi = some (b2 (p_free (mw_ hi) t)) := by
  unfold sh_X10_isEmpty p_free
  rw [A84, A244, if_pos (ok4 (by omega)), if_pos (ok4 (by omega)), nI_clamp (by omega), nI_clamp (by omega), M_r hi (k := 84 + t) (by omega), M_r hi (k := 244 + t) (by omega)]
  by_cases h1 : mw_ hi (84 + t) = 0
  · rw [if_neg (fun h => h h1), decide_eq_true h1]
    by_cases h2 : mw_ hi (244 + t) = 0
    · rw [if_neg (fun h => h h2), decide_eq_true h2]; rfl
    · rw [if_pos h2, decide_eq_false h2]; rfl
  · rw [if_pos h1, decide_eq_false h1]; rfl
/-- what of it the light wants -/
def cu_ (w : Wd) : Prop := ∀ k, k < 10 → in_ w (26 + k) 0 1
theorem M_lit {G t : Nat} (hs : st_ (mw_ hi)) (hc : cu_ (mw_ hi)) (h7 : mw_ hi 7 = nI (nn (mw_ hi) 7)) (h : nn (mw_ hi) 7 < 2 ^ 31) (ht : t < 80) (hG : 5 ≤ G) : sh_X10_shinesOn G (nI t) hi = some (b2 (p_lit (mw_ hi) t)) := by
  have hcc := hs.c
  unfold sh_X10_shinesOn p_lit p_lies
  rw [M_out hs.2.2.2.2.2.2.2.2.1 hG, bs, m_1 hi, hcc.1, if_neg (nI_ne0 (by omega) (by omega)), if_neg (nI_ne0 (by omega) (by omega)), M_row hs h7 h, bs, pk_rem (by omega) (by omega) (by omega), M_closed (mod_c hs t) (hc _ (mod_c hs t)), bs, pk_div (by omega) (by omega) (by omega), eq_of, ne_of]
  have hrow : p_row (mw_ hi) < 2 ^ 31 := Nat.lt_of_le_of_lt (Nat.div_le_self _ _) h
  have htc : t / nn (mw_ hi) 1 < 2 ^ 31 := Nat.lt_of_le_of_lt (Nat.div_le_self _ _) (by omega)
  cases p_out (mw_ hi)
  · rfl
  · rw [if_pos rfl]
    by_cases h1 : t / nn (mw_ hi) 1 = p_row (mw_ hi)
    · rw [h1, if_neg (fun h => h rfl), decide_eq_true rfl]
      cases decide (mw_ hi (26 + t % nn (mw_ hi) 1) = 0) <;> rfl
    · rw [if_pos (fun h9 => h1 ((nI_eq htc hrow).mp h9)), decide_eq_false h1]
      rfl
theorem M_nb {t m : Nat} (hs : st_ (mw_ hi)) (ht : t < 80) (hm : 1 ≤ m ∧ m < 5) : sh_X10_beside (nI t) (nI m) hi = some (oI (p_nb (mw_ hi) t m)) := by
  have hr := hs.r
  have hc := hs.c
  have hmod := mod_c hs t
  have hdm : t % nn (mw_ hi) 1 < nn (mw_ hi) 1 := Nat.mod_lt _ (by omega)
  have hrc : p_rc (mw_ hi) ≤ 80 := hs.rc.2
  have em : ∀ k : Nat, k < 5 → (nI m = nI k ↔ m = k) := fun k hk => nI_eq (by omega) (by omega)
  unfold sh_X10_beside p_nb
  rw [M_tiles hs, bs, m_1 hi, hc.1, if_neg (nI_ne0 (by omega) (by omega)), pk_rem (by omega) (by omega) (by omega), nI_add, S1_ (n := nn (mw_ hi) 1) (by omega)]
  by_cases h1 : m = 1
  · subst h1
    rw [if_pos (show nI 1 = (1 : Int32) from rfl), if_pos rfl]
    by_cases h2 : t < nn (mw_ hi) 1
    · rw [if_neg (fun h9 => Nat.not_lt.mpr ((nI_leI (by omega) (by omega)).mp h9) h2), if_pos h2]; rfl
    · rw [if_pos (nI_le (by omega) (by omega)), if_neg h2, pk_sub (by omega)]; rfl
  · rw [if_neg (show ¬ nI m = (1 : Int32) from fun h9 => h1 ((em 1 (by omega)).mp h9)), if_neg h1]
    by_cases h2 : m = 2
    · subst h2
      rw [if_pos (show nI 2 = (2 : Int32) from rfl), if_pos rfl]
      by_cases h3 : p_rc (mw_ hi) ≤ t + nn (mw_ hi) 1
      · rw [if_neg (fun h9 => Nat.not_lt.mpr h3 ((nI_ltI (by omega) (by omega)).mp h9)), if_pos h3]; rfl
      · rw [if_pos (nI_lt (by omega) (by omega)), if_neg h3]; rfl
    · rw [if_neg (show ¬ nI m = (2 : Int32) from fun h9 => h2 ((em 2 (by omega)).mp h9)), if_neg h2]
      by_cases h3 : m = 3
      · subst h3
        rw [if_pos (show nI 3 = (3 : Int32) from rfl), if_pos rfl]
        by_cases h4 : t % nn (mw_ hi) 1 = 0
        · rw [if_pos h4, h4, if_neg (fun h => h rfl)]; rfl
        · have h5 : t ≠ 0 := fun h9 => h4 (by rw [h9, Nat.zero_mod])
          rw [if_neg h4, if_pos (nI_ne0 (by omega) (by omega)), S1_ (by omega)]; rfl
      · rw [if_neg (show ¬ nI m = (3 : Int32) from fun h9 => h3 ((em 3 (by omega)).mp h9)), if_neg h3]
        obtain rfl : m = 4 := by omega
        rw [if_pos rfl]
        by_cases h5 : nn (mw_ hi) 1 ≤ t % nn (mw_ hi) 1 + 1
        · rw [if_pos h5, show t % nn (mw_ hi) 1 = nn (mw_ hi) 1 - 1 by omega, if_neg (fun h => h rfl)]; rfl
        · rw [if_neg h5, if_pos (fun h9 => h5 (by have := (nI_eq (by omega) (by omega)).mp h9; omega)), nI_1]; rfl
theorem M_tries {G : Nat} (hs : in_ (mw_ hi) 24 0 4) (hG : 5 ≤ G) : sh_X10_triesPerMinute G hi = some (p_tries (mw_ hi)) := by
  unfold sh_X10_triesPerMinute p_tries
  rw [M_out hs hG, bs, M_shine, bs, m_3 hi, eq_of]
  by_cases h : p_out (mw_ hi) = true
  · rw [if_pos h, if_pos h]
  · rw [if_neg h, if_neg h]
end MR
