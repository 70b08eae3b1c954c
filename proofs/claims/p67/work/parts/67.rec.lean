/-! the records; a night's end -/
def p_rank (w : Wd) (s : Int32) : Nat → Nat → Nat
  | 0, k => k
  | f + 1, k => if nn w 19 ≤ k then k else if w (405 + 2 * k) < s then k else p_rank w s f (k + 1)
theorem p_rank_s (w : Wd) (s : Int32) (f k : Nat) : p_rank w s (f + 1) k = if nn w 19 ≤ k then k else if w (405 + 2 * k) < s then k else p_rank w s f (k + 1) := rfl
theorem p_rank_le {w : Wd} {s : Int32} (h : nn w 19 ≤ 10) : ∀ {f k}, k + f = 10 → k ≤ nn w 19 → p_rank w s f k ≤ nn w 19
  | 0, k, hk, h1 => h1
  | f + 1, k, hk, h1 => by
    rw [p_rank_s]
    split
    · exact h1
    · split
      · exact h1
      · exact p_rank_le h (by omega) (by omega)
def p_rec (w : Wd) (n s : Int32) : Wd := if p_rank w s 10 0 < 10 then (fun k => if k = 19 then nI (min (nn w 19 + 1) 10) else if 404 ≤ k ∧ k < 404 + 2 * min (nn w 19 + 1) 10 then (if (k - 404) / 2 < p_rank w s 10 0 then w k else if (k - 404) / 2 = p_rank w s 10 0 then (if (k - 404) % 2 = 0 then n else s) else w (k - 2)) else w k) else w
def p_nite (w : Wd) : Wd := upd (upd (upd w 6 (w 6 + 1)) 7 0) 13 0
def p_night (w : Wd) : Wd := if w 13 ≤ 0 then p_nite w else p_nite (p_rec w (w 6) (w 13))
theorem adr_no : ∀ k, k < 404 → k ≠ 19 → (adr k).1 ≠ 7 ∧ (adr k).1 ≠ 8 ∧ (adr k).1 ≠ 9 := by decide +kernel
section CN
variable {i : Fin 12}
theorem V_rec {hi : HI} {k : Nat} (h : 404 ≤ k) (h2 : k < 424) : vw_ i hi k = if (k - 404) / 2 < nn (vw_ i hi) 19 then hi (wa i (8 + (k - 404) % 2)) ((k - 404) / 2) else 0 := by
  have e : nn (vw_ i hi) 19 = nn (rv i hi) 19 := by unfold nn vw_; rw [nz_p (by decide)]
  rw [e]
  unfold vw_ nz
  rw [if_neg (by omega), if_neg (by omega), if_neg (by omega), if_neg (by omega), if_pos h2]
  have ha : adr k = (8 + (k - 404) % 2, (k - 404) / 2) := by
    unfold adr
    rw [if_neg (by omega), if_neg (by omega), if_neg (by omega), if_neg (by omega), if_neg (by omega), if_neg (by omega), if_neg (by omega), if_neg (by omega), if_neg (by omega), if_pos (by omega)]
  have er : rv i hi k = hi (wa i (8 + (k - 404) % 2)) ((k - 404) / 2) := by
    unfold rv
    rw [if_pos ⟨by omega, by omega⟩, ha]
  rw [er]
theorem vr_rec2 (i : Fin 12) (hi : HI) {k : Nat} (h : k < nn (vw_ i hi) 19) (h10 : k < 10) : hi (wa i 9) k = vw_ i hi (405 + 2 * k) := by
  rw [V_rec (by omega) (by omega), show (405 + 2 * k - 404) / 2 = k by omega, show (405 + 2 * k - 404) % 2 = 1 by omega, if_pos h]
theorem vr_rec1 (i : Fin 12) (hi : HI) {k : Nat} (h : k < nn (vw_ i hi) 19) (h10 : k < 10) : hi (wa i 8) k = vw_ i hi (404 + 2 * k) := by
  rw [V_rec (by omega) (by omega), show (404 + 2 * k - 404) / 2 = k by omega, show (404 + 2 * k - 404) % 2 = 0 by omega, if_pos h]
theorem C_rank_2 {G : Nat} {hi : HI} {s : Int32} (hs : in_ (vw_ i hi) 19 0 10) : ∀ f k F, k + f = 10 → f < F → sh_X3_rankFor_2 G i s hi F (nI k) = some (nI (p_rank (vw_ i hi) s f k))
  | f, k, 0, h, hF => absurd hF (Nat.not_lt_zero _)
  | f, k, F + 1, h, hF => by
    show sh_X3_rankFor_2_b G i s hi (sh_X3_rankFor_2 G i s hi F) (nI k) = _
    have h10 := hs.2.2
    unfold sh_X3_rankFor_2_b
    rw [vr_19 i hi, hs.1]
    by_cases hk : nn (vw_ i hi) 19 ≤ k
    · rw [if_pos (nI_le hk (by omega))]
      cases f with
      | zero => rfl
      | succ f => rw [p_rank_s, if_pos hk]
    · have hk9 : k < nn (vw_ i hi) 19 := by omega
      have hk10 : k < 10 := by omega
      rw [if_neg (nI_ge hk9 (by omega)), if_neg (show ¬ (10 : Int32) ≤ nI k from nI_ge (b := 10) hk10 (by omega)), nI_clamp (by omega), if_pos ⟨nI_pos' (by omega), hk10⟩, vr_rec2 i hi hk9 hk10]
      obtain ⟨f, rfl⟩ : ∃ g, f = g + 1 := ⟨f - 1, by omega⟩
      have ih := C_rank_2 (G := G) (s := s) hs f (k + 1) F (by omega) (by omega)
      rw [nI_1, ih, p_rank_s, if_neg hk]
      split <;> rfl
theorem C_rank {G : Nat} {hi : HI} {s : Int32} (hs : in_ (vw_ i hi) 19 0 10) (hG : 10 < G) : sh_X3_rankFor G i s hi = some (nI (p_rank (vw_ i hi) s 10 0)) := C_rank_2 hs 10 0 G (by omega) hG
/-- the loop that makes room -/
theorem C_shift {G : Nat} {a1 a2 : Int32} {r : Nat} : ∀ (q F : Nat) (h : HI), q < F → r + q < 10 → ∃ h', sh_X3_add_36 G i a1 a2 F (nI r) (nI (r + q)) h = some h' ∧ (∀ j, h' (wa i 8) j = if j = r then a1 else if r < j ∧ j ≤ r + q then h (wa i 8) (j - 1) else h (wa i 8) j) ∧ (∀ j, h' (wa i 9) j = if j = r then a2 else if r < j ∧ j ≤ r + q then h (wa i 9) (j - 1) else h (wa i 9) j) ∧ (∀ b k, b ≠ wa i 8 → b ≠ wa i 9 → h' b k = h b k)
  | q, 0, h, hF, _ => absurd hF (Nat.not_lt_zero _)
  | 0, F + 1, h, hF, hr => by
    have h98 : (wa i 9) ≠ wa i 8 := fun e => by injection e with e; injection e with _ e; cases e
    refine ⟨am_u (am_u h (wa i 8) r a1) (wa i 9) r a2, ?_, ?_, ?_, ?_⟩
    · show sh_X3_add_36_b G i a1 a2 (sh_X3_add_36 G i a1 a2 F) (nI r) (nI (r + 0)) h = _
      unfold sh_X3_add_36_b
      rw [Nat.add_zero, if_pos (Int32.le_refl _), bs, put_n (by omega) (by decide), bs, put_n (by omega) (by decide)]
    · intro j
      unfold am_u
      by_cases hj : j = r
      · rw [if_pos hj, if_neg (fun e => h98 e.symm), if_pos hj, if_pos rfl, if_pos hj]
      · rw [if_neg hj, if_neg hj, if_neg hj, if_neg (by omega)]
    · intro j
      unfold am_u
      by_cases hj : j = r
      · rw [if_pos hj, if_pos rfl, if_pos hj]
      · rw [if_neg hj, if_neg hj, if_neg hj, if_neg (by omega)]
    · intro b k h1 h2
      unfold am_u
      by_cases hk : k = r
      · rw [if_pos hk, if_neg h2, if_pos hk, if_neg h1]
      · rw [if_neg hk, if_neg hk]
  | q + 1, F + 1, h, hF, hr => by
    have h98 : (wa i 9) ≠ wa i 8 := fun e => by injection e with e; injection e with _ e; cases e
    have ih := C_shift (G := G) (a1 := a1) (a2 := a2) (r := r) q F (am_u (am_u h (wa i 8) (r + q + 1) (h (wa i 8) (r + q))) (wa i 9) (r + q + 1) (h (wa i 9) (r + q))) (by omega) (by omega)
    obtain ⟨h', e, g8, g9, go⟩ := ih
    refine ⟨h', ?_, ?_, ?_, ?_⟩
    · show sh_X3_add_36_b G i a1 a2 (sh_X3_add_36 G i a1 a2 F) (nI r) (nI (r + (q + 1))) h = _
      unfold sh_X3_add_36_b
      have e1 : nI (r + (q + 1)) - 1 = nI (r + q) := nI_pred (r + q)
      have e2 : nI (r + (q + 1)) + Int32.ofInt (-1) = nI (r + q) := (pk_m1 (r + q) : nI (r + q + 1) + (-1) = nI (r + q))
      rw [if_neg (nI_ge (by omega) (by omega)), e1, e2, at_n (by omega) (by decide), bs, put_n (by omega) (by decide), at_n (by omega) (by decide), bs, put_n (by omega) (by decide)]
      have e3 : am_u h (wa i 8) (r + (q + 1)) (h (wa i 8) (r + q)) (wa i 9) (r + q) = h (wa i 9) (r + q) := by
        unfold am_u
        rw [if_neg (by omega)]
      rw [e3]
      exact e
    · intro j
      rw [g8 j]
      by_cases hj : j = r
      · rw [if_pos hj, if_pos hj]
      · rw [if_neg hj, if_neg hj]
        have red : ∀ m, am_u (am_u h (wa i 8) (r + q + 1) (h (wa i 8) (r + q))) (wa i 9) (r + q + 1) (h (wa i 9) (r + q)) (wa i 8) m = if m = r + q + 1 then h (wa i 8) (r + q) else h (wa i 8) m := fun m => by
          unfold am_u
          by_cases hm : m = r + q + 1
          · rw [if_pos hm, if_neg (fun e => h98 e.symm), if_pos hm, if_pos rfl, if_pos hm]
          · rw [if_neg hm, if_neg hm, if_neg hm]
        rw [red, red]
        by_cases c1 : r < j ∧ j ≤ r + q
        · rw [if_pos c1, if_neg (by omega), if_pos (by omega)]
        · rw [if_neg c1]
          by_cases c2 : j = r + q + 1
          · rw [if_pos c2, if_pos (by omega), show j - 1 = r + q by omega]
          · rw [if_neg c2, if_neg (by omega)]
    · intro j
      rw [g9 j]
      by_cases hj : j = r
      · rw [if_pos hj, if_pos hj]
      · rw [if_neg hj, if_neg hj]
        have red : ∀ m, am_u (am_u h (wa i 8) (r + q + 1) (h (wa i 8) (r + q))) (wa i 9) (r + q + 1) (h (wa i 9) (r + q)) (wa i 9) m = if m = r + q + 1 then h (wa i 9) (r + q) else h (wa i 9) m := fun m => by
          unfold am_u
          by_cases hm : m = r + q + 1
          · rw [if_pos hm, if_pos rfl, if_pos hm]
          · rw [if_neg hm, if_neg hm, if_neg hm]
        rw [red, red]
        by_cases c1 : r < j ∧ j ≤ r + q
        · rw [if_pos c1, if_neg (by omega), if_pos (by omega)]
        · rw [if_neg c1]
          by_cases c2 : j = r + q + 1
          · rw [if_pos c2, if_pos (by omega), show j - 1 = r + q by omega]
          · rw [if_neg c2, if_neg (by omega)]
    · intro b k h1 h2
      rw [go b k h1 h2]
      unfold am_u
      by_cases hk : k = r + q + 1
      · rw [if_pos hk, if_neg h2, if_pos hk, if_neg h1]
      · rw [if_neg hk, if_neg hk]
theorem C_add {G : Nat} {hi : HI} {n s : Int32} (hG : 10 < G) (hs : in_ (vw_ i hi) 19 0 10) : cs_ (sh_X3_add G i n s hi) i hi (p_rec (vw_ i hi) n s) := by
  have h10 := hs.2.2
  have hrk := p_rank_le (w := vw_ i hi) (s := s) h10 (f := 10) (k := 0) (by omega) (Nat.zero_le _)
  unfold sh_X3_add p_rec
  rw [C_rank hs hG, bs]
  generalize p_rank (vw_ i hi) s 10 0 = r at hrk
  by_cases c : r < 10
  case neg =>
    rw [if_neg (show ¬ nI r < (10 : Int32) from fun h => c ((nI_ltI (b := 10) (by omega) (by omega)).mp h)), if_neg c]
    exact cs_.ret rfl (fr_.refl i hi)
  rw [if_pos (show nI r < (10 : Int32) from nI_lt (b := 10) c (by omega)), if_pos c, vr_19 i hi, hs.1, nI_1]
  have ec : (if (10 : Int32) < nI (nn (vw_ i hi) 19 + 1) then (10 : Int32) else nI (nn (vw_ i hi) 19 + 1)) = nI (min (nn (vw_ i hi) 19 + 1) 10) := by
    by_cases h : 10 < nn (vw_ i hi) 19 + 1
    · rw [if_pos (show (10 : Int32) < _ from nI_lt (a := 10) h (by omega)), Nat.min_eq_right (by omega)]; rfl
    · rw [if_neg (show ¬ (10 : Int32) < _ from fun h9 => h ((nI_ltI (a := 10) (by omega) (by omega)).mp h9)), Nat.min_eq_left (by omega)]
  rw [ec]
  generalize hcn : min (nn (vw_ i hi) 19 + 1) 10 = cn
  have hcn1 : cn = nn (vw_ i hi) 19 + 1 ∨ cn = 10 ∧ nn (vw_ i hi) 19 = 10 := by omega
  have hcr : r < cn := by omega
  have hcb : cn ≤ 10 := by omega
  have e0 : am_u hi (wa i 7) 2 (nI cn) (wa i 7) 2 = nI cn := by
    unfold am_u
    rw [if_pos rfl, if_pos rfl]
  have e1 : nI cn - 1 = nI (r + (cn - 1 - r)) := by
    obtain ⟨m, rfl⟩ : ∃ m, cn = m + 1 := ⟨cn - 1, by omega⟩
    rw [nI_pred, show r + (m + 1 - 1 - r) = m by omega]
  rw [e0, e1]
  obtain ⟨h', eq, g8, g9, go⟩ := C_shift (G := G) (i := i) (a1 := n) (a2 := s) (r := r) (cn - 1 - r) G (am_u hi (wa i 7) 2 (nI cn)) (by omega) (by omega)
  refine ⟨h', eq, ?_, ?_⟩
  · have rd : ∀ j, j = 8 ∨ j = 9 → ∀ m, am_u hi (wa i 7) 2 (nI cn) (wa i j) m = hi (wa i j) m := fun j hj m => by
      unfold am_u
      by_cases hm : m = 2
      · rw [if_pos hm, if_neg (fun e => by injection e with e; injection e with _ e; omega)]
      · rw [if_neg hm]
    have e19 : h' (wa i 7) 2 = nI cn := by
      rw [go _ _ (fun e => by injection e with e; injection e with _ e; cases e) (fun e => by injection e with e; injection e with _ e; cases e), e0]
    have hrv : ∀ k, k < 404 → k ≠ 19 → rv i h' k = rv i hi k := fun k hk h19 => by
      unfold rv
      by_cases h9 : k < 424 ∧ k ≠ 25
      · rw [if_pos h9, if_pos h9]
        obtain ⟨a7, a8, a9⟩ := adr_no k hk h19
        rw [go _ _ (fun e => by injection e with e; injection e with _ e; exact a8 e) (fun e => by injection e with e; injection e with _ e; exact a9 e)]
        unfold am_u
        by_cases hm : (adr k).2 = 2
        · rw [if_pos hm, if_neg (fun e => by injection e with e; injection e with _ e; exact a7 e)]
        · rw [if_neg hm]
      · rw [if_neg h9, if_neg h9]
    have hv19 : vw_ i h' 19 = nI cn := by rw [← vr_19 i h']; exact e19
    have hn19 : nn (vw_ i h') 19 = cn := nn_of hv19 (by omega)
    have h24 : nn (rv i h') 24 = nn (rv i hi) 24 := nn_cg (hrv 24 (by omega) (by omega))
    have h17 : nn (rv i h') 17 = nn (rv i hi) 17 := nn_cg (hrv 17 (by omega) (by omega))
    funext k
    by_cases hk19 : k = 19
    · subst hk19
      rw [hv19, if_pos rfl]
    rw [if_neg hk19]
    by_cases hk : k < 404
    · rw [if_neg (by omega)]
      unfold vw_ nz
      rw [h24, h17, hrv k hk hk19]
      by_cases b1 : k < 46
      · rw [if_pos b1, if_pos b1]
      · rw [if_neg b1, if_neg b1]
        by_cases b2 : k < 54
        · rw [if_pos b2, if_pos b2]
        · rw [if_neg b2, if_neg b2]
          by_cases b3 : k < 84
          · rw [if_pos b3, if_pos b3]
          · rw [if_neg b3, if_neg b3, if_pos hk, if_pos hk]
    · by_cases hk2 : k < 424
      · rw [V_rec (hi := h') (by omega) hk2, hn19]
        have hj : (k - 404) / 2 < 10 := by omega
        have hpar : (k - 404) % 2 = 0 ∨ (k - 404) % 2 = 1 := by omega
        by_cases c1 : (k - 404) / 2 < cn
        · rw [if_pos c1, if_pos (show 404 ≤ k ∧ k < 404 + 2 * cn by omega)]
          have gg : h' (wa i (8 + (k - 404) % 2)) ((k - 404) / 2) = if (k - 404) / 2 = r then (if (k - 404) % 2 = 0 then n else s) else if r < (k - 404) / 2 ∧ (k - 404) / 2 ≤ r + (cn - 1 - r) then hi (wa i (8 + (k - 404) % 2)) ((k - 404) / 2 - 1) else hi (wa i (8 + (k - 404) % 2)) ((k - 404) / 2) := by
            rcases hpar with hp | hp
            · rw [hp, if_pos rfl, show 8 + 0 = 8 from rfl, g8, rd 8 (Or.inl rfl), rd 8 (Or.inl rfl)]
            · rw [hp, if_neg (show ¬ (1 : Nat) = 0 by decide), show 8 + 1 = 9 from rfl, g9, rd 9 (Or.inr rfl), rd 9 (Or.inr rfl)]
          rw [gg]
          by_cases c2 : (k - 404) / 2 < r
          · rw [if_neg (by omega), if_neg (by omega), if_pos c2, V_rec (by omega) hk2, if_pos (by omega)]
          · rw [if_neg c2]
            by_cases c3 : (k - 404) / 2 = r
            · rw [if_pos c3, if_pos c3]
            · rw [if_neg c3, if_neg c3, if_pos (by omega), V_rec (by omega) (by omega), show (k - 2 - 404) / 2 = (k - 404) / 2 - 1 by omega, show (k - 2 - 404) % 2 = (k - 404) % 2 by omega, if_pos (by omega)]
        · rw [if_neg c1, if_neg (show ¬ (404 ≤ k ∧ k < 404 + 2 * cn) by omega), V_rec (by omega) hk2, if_neg (by omega)]
      · rw [if_neg (by omega)]
        unfold vw_ nz
        rw [if_neg (by omega), if_neg (by omega), if_neg (by omega), if_neg (by omega), if_neg hk2, if_neg (by omega), if_neg (by omega), if_neg (by omega), if_neg (by omega), if_neg hk2]
  · intro b k hb
    rw [go b k (hb 8) (hb 9)]
    unfold am_u
    by_cases hk : k = 2
    · rw [if_pos hk, if_neg (hb 7)]
    · rw [if_neg hk]
theorem C_nite {G : Nat} {hi : HI} : cs_ (sh_X8_endNight_28 G i hi) i hi (p_nite (vw_ i hi)) := cs_.ret (by rw [uw_13, uw_7, uw_6, vr_6 i hi]; rfl) (fr_.refl i hi).u.u.u
theorem C_night {G : Nat} {hi : HI} (hG : 10 < G) (hs : in_ (vw_ i hi) 19 0 10) : cs_ (sh_X8_endNight G i hi) i hi (p_night (vw_ i hi)) := by
  unfold sh_X8_endNight p_night
  rw [vr_13 i hi, vr_6 i hi]
  by_cases c : vw_ i hi 13 ≤ 0
  · rw [if_pos c, if_pos c]
    exact C_nite
  · rw [if_neg c, if_neg c]
    refine (C_add hG hs).bind fun h2 e2 f2 => ?_
    have h := (C_nite (G := G) (i := i) (hi := h2)).fro f2
    rw [e2] at h
    exact h
end CN
