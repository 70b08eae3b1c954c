/-! the model: relocation, the cat -/
theorem le0_ {w : Wd} {k a b : Nat} (hb : b < 2 ^ 31) (h : in_ w k a b) : (w k ≤ 0 ↔ w k = 0) ∧ (0 < w k ↔ w k ≠ 0) := by
  have h2 := h.2.2
  by_cases c : nn w k = 0
  · rw [h.1, c]; decide
  · have h0 : 0 < nn w k := by omega
    rw [h.1]
    exact ⟨⟨fun e => absurd e (nI_nle h0 (by omega)), fun e => absurd e (nI_ne0 h0 (by omega))⟩, ⟨fun _ => nI_ne0 h0 (by omega), fun _ => (nI_ltI (a := 0) (by omega) (by omega)).mpr h0⟩⟩
theorem au_ {hi : HI} {a : AA} {k : Nat} {v : Int32} : am_u hi a k v a k = v := by
  unfold am_u
  rw [if_pos rfl, if_pos rfl]
theorem au_n {hi : HI} {a : AA} {k j : Nat} {v : Int32} (h : j ≠ k) : am_u hi a k v a j = hi a j := by
  unfold am_u
  rw [if_neg h]
theorem upd_comm {w : Wd} {a b : Nat} {x y : Int32} (h : a ≠ b) : upd (upd w a x) b y = upd (upd w b y) a x := by
  funext q
  rw [upd_e, upd_e, upd_e, upd_e]
  by_cases h1 : q = b
  · rw [if_pos h1, if_neg (by omega), if_pos h1]
  · rw [if_neg h1, if_neg h1]
theorem upd_same {w : Wd} {a : Nat} {x : Int32} (h : w a = x) : upd w a x = w := by
  funext q
  rw [upd_e]
  by_cases h1 : q = a
  · rw [if_pos h1, h1, h]
  · rw [if_neg h1]
theorem upd_over {w : Wd} {a : Nat} {x y : Int32} : upd (upd w a x) a y = upd w a y := by
  funext q
  rw [upd_e, upd_e, upd_e]
  by_cases h1 : q = a
  · rw [if_pos h1, if_pos h1]
  · rw [if_neg h1, if_neg h1, if_neg h1]
def sd_ (hi : HI) (x l c : Int32) (R : Option Int32) : Option Int32 := if sh_X10_in x (0 : Int32) (c - (1 : Int32)) = 0 then R else (sh_X10_isClosed x hi).bind fun v2 => if v2 ≠ 0 then R else (sh_X10_isDry (l + x) hi).bind fun v3 => if v3 = 0 then R else some (l + x)
section ML
variable {hi : HI}
theorem sd_n {x l c : Int32} {R : Option Int32} (h : x < 0) : sd_ hi x l c R = R := by
  unfold sd_
  rw [in_neg h, if_pos rfl]
theorem sd_p {K B k : Nat} {R : Option Int32} (h : ib_ K B 0 (mw_ hi)) (hk : k < 2 ^ 30) : sd_ hi (nI k) (nI (p_row (mw_ hi) * nn (mw_ hi) 1)) (nI (nn (mw_ hi) 1)) R = if p_try (mw_ hi) k = true then some (nI (p_row (mw_ hi) * nn (mw_ hi) 1 + k)) else R := by
  have hs := h.1
  have hc := hs.c
  have h80 := hs.rc.2
  have hb := h.2.2.2.2.2.1.2
  unfold sd_ p_try
  rw [S1_ (by omega), show sh_X10_in (nI k) (0 : Int32) (nI (nn (mw_ hi) 1 - 1)) = _ from in_n (b := 0) (by omega) (by omega) (by omega)]
  by_cases c0 : k < nn (mw_ hi) 1
  case neg =>
    rw [decide_eq_true (Nat.zero_le k), decide_eq_false (show ¬ k ≤ nn (mw_ hi) 1 - 1 by omega), decide_eq_false c0]
    rfl
  have hrow := row_tile hs hb c0
  have hcu := h.2.2.2.2.2.2.2.2.2.2.2.1 k (by omega)
  have hsp := h.2.1.2.2.1 (p_row (mw_ hi) * nn (mw_ hi) 1 + k) (by omega)
  rw [decide_eq_true (Nat.zero_le k), decide_eq_true (show k ≤ nn (mw_ hi) 1 - 1 by omega), decide_eq_true c0, if_neg (by decide), M_closed (by omega) hcu, bs, nI_add, M_dry (by omega), bs, ne_of, eq_of]
  have e1 := (le0_ (by omega) hcu).2
  have e2 := (le0_ (by omega) hsp).1
  by_cases c1 : mw_ hi (26 + k) = 0
  · rw [decide_eq_true c1, decide_eq_false (fun q => (e1.mp q) c1), if_neg (by decide)]
    by_cases c2 : mw_ hi (244 + (p_row (mw_ hi) * nn (mw_ hi) 1 + k)) = 0
    · rw [decide_eq_true c2, decide_eq_true (e2.mpr c2)]; rfl
    · rw [decide_eq_false c2, decide_eq_false (fun q => c2 (e2.mp q))]; rfl
  · rw [decide_eq_false c1, decide_eq_true (e1.mpr c1), if_pos (by decide)]; rfl
def nr_ (w : Wd) (o : Option Nat) : Int32 := match o with | none => -1 | some k => nI (p_row w * nn w 1 + k)
theorem M_near_14 {G K B : Nat} (h : ib_ K B 0 (mw_ hi)) : ∀ f a F, f < F → nn (mw_ hi) 1 = a + f → sh_X10_nearest_14 G hi F (nI (p_row (mw_ hi) * nn (mw_ hi) 1)) (nI a) = some (nr_ (mw_ hi) (p_near (mw_ hi) f a))
  | f, a, 0, hF, _ => absurd hF (Nat.not_lt_zero _)
  | 0, a, F + 1, hF, ha => by
    show sh_X10_nearest_14_b G hi (sh_X10_nearest_14 G hi F) (nI (p_row (mw_ hi) * nn (mw_ hi) 1)) (nI a) = _
    unfold sh_X10_nearest_14_b
    rw [m_1 hi, h.1.c.1, ha, Nat.add_zero, if_pos (Int32.le_refl _)]
    rfl
  | f + 1, a, F + 1, hF, ha => by
    show sh_X10_nearest_14_b G hi (sh_X10_nearest_14 G hi F) (nI (p_row (mw_ hi) * nn (mw_ hi) 1)) (nI a) = _
    have hc := h.1.c
    have h9 := h.2.2.1.1.2.1
    have ih := M_near_14 (G := G) h f (a + 1) F (by omega) (by omega)
    rw [← nI_1 a] at ih
    have hb : sh_X10_nearest_14_b G hi (sh_X10_nearest_14 G hi F) (nI (p_row (mw_ hi) * nn (mw_ hi) 1)) (nI a) = if hi (za 196) 1 ≤ nI a then some (-1 : Int32) else sd_ hi (hi (za 196) 9 + (-1 : Int32) * nI a) (nI (p_row (mw_ hi) * nn (mw_ hi) 1)) (hi (za 196) 1) (sd_ hi (hi (za 196) 9 + (1 : Int32) * nI a) (nI (p_row (mw_ hi) * nn (mw_ hi) 1)) (hi (za 196) 1) (sh_X10_nearest_14 G hi F (nI (p_row (mw_ hi) * nn (mw_ hi) 1)) (nI a + 1))) := rfl
    rw [hb, m_1 hi, m_9 hi, hc.1, if_neg (nI_ge (by omega) (by omega)), h9.1, Int32.one_mul, Int32.neg_mul, Int32.one_mul, ← Int32.sub_eq_add_neg, nI_add, sd_p h (by omega), ih, p_near_s]
    by_cases c1 : a ≤ nn (mw_ hi) 9
    · rw [pk_sub c1, sd_p h (by omega)]
      by_cases c2 : p_try (mw_ hi) (nn (mw_ hi) 9 - a) = true
      · rw [if_pos c2, if_pos ⟨c1, c2⟩]; rfl
      · rw [if_neg c2, if_neg (show ¬ (a ≤ nn (mw_ hi) 9 ∧ p_try (mw_ hi) (nn (mw_ hi) 9 - a) = true) from fun q => c2 q.2)]
        by_cases c3 : p_try (mw_ hi) (nn (mw_ hi) 9 + a) = true
        · rw [if_pos c3, if_pos c3]; rfl
        · rw [if_neg c3, if_neg c3]
    · rw [sd_n (pk_sneg (by omega) (by omega)), if_neg (show ¬ (a ≤ nn (mw_ hi) 9 ∧ p_try (mw_ hi) (nn (mw_ hi) 9 - a) = true) from fun q => c1 q.1)]
      by_cases c3 : p_try (mw_ hi) (nn (mw_ hi) 9 + a) = true
      · rw [if_pos c3, if_pos c3]; rfl
      · rw [if_neg c3, if_neg c3]
theorem p_try8 {w : Wd} {v : Int32} {k : Nat} : p_try (upd w 8 v) k = p_try w k := by
  have hr : p_row (upd w 8 v) = p_row w := by unfold p_row; rw [nn_cg (upd_ne (by omega)), nn_cg (upd_ne (by omega))]
  unfold p_try
  rw [hr, nn_cg (upd_ne (by omega)), upd_ne (by omega), upd_ne (by omega)]
theorem p_near8 {w : Wd} {v : Int32} : ∀ f a, p_near (upd w 8 v) f a = p_near w f a
  | 0, _ => rfl
  | f + 1, a => by rw [p_near_s, p_near_s, p_near8 f (a + 1), nn_cg (upd_ne (by omega)), p_try8, p_try8]
theorem ib_.h79 {K B : Nat} {w : Wd} (h : ib_ K B 0 w) : nn w 7 < 2 ^ 31 := by
  have hr := h.1.r
  have hl := h.1.l
  have hb := h.2.2.2.2.2.1.2
  have : nn w 0 * nn w 2 ≤ 8 * 20 := Nat.mul_le_mul hr.2.2 hl.2.2
  omega
theorem ib_.lit {G t K B : Nat} (h : ib_ K B 0 (mw_ hi)) (ht : t < 80) (hG : 5 ≤ G) : sh_X10_shinesOn G (nI t) hi = some (b2 (p_lit (mw_ hi) t)) := M_lit h.1 h.2.2.2.2.2.2.2.2.2.2.2.1 h.2.2.2.2.2.1.1 h.h79 ht hG
theorem M_reloc {G K B : Nat} (hG : 10 < G) (h : ib_ K B 0 (mw_ hi)) : cm_ (sh_X10_relocates G hi) hi (p_reloc (mw_ hi)) := by
  have hs := h.1
  have hc := hs.c
  have h80 := hs.rc.2
  have hgo : p_out (mw_ hi) = true → ¬ (mw_ hi 8 ≠ -1 ∧ p_lies (mw_ hi) (nn (mw_ hi) 8) = true) → cm_ (sh_X10_relocates_33 G hi) hi (p_reloc (mw_ hi)) := fun c1 c2 => by
    unfold sh_X10_relocates_33 sh_X10_nearest p_reloc
    rw [if_pos ⟨c1, c2⟩, M_row hs h.2.2.2.2.2.1.1 h.h79, bs, m_1 hi, hc.1, pk_mul, show sh_X10_nearest_14 G hi G (nI (p_row (mw_ hi) * nn (mw_ hi) 1)) (0 : Int32) = _ from M_near_14 (G := G) h (nn (mw_ hi) 1) 0 G (by omega) (by omega), bs, p_near8, au_, if_neg (nI_ne0 (by omega) (by omega))]
    cases hn : p_near (mw_ hi) (nn (mw_ hi) 1) 0 with
    | none =>
      rw [if_pos (show nr_ (mw_ hi) none = -1 from rfl)]
      exact cm_.ret (M_u (by omega)) (fm_.refl hi).u
    | some k =>
      have hk := p_try_lt (p_near_lt hn)
      have ht := row_tile hs h.2.2.2.2.2.1.2 hk
      have e9 : nr_ (mw_ hi) (some k) = nI (p_row (mw_ hi) * nn (mw_ hi) 1 + k) := rfl
      rw [e9, if_neg (nI_m1 (by omega)), pk_rem (by omega) (by omega) (by omega), show (p_row (mw_ hi) * nn (mw_ hi) 1 + k) % nn (mw_ hi) 1 = k by rw [Nat.add_comm, Nat.add_mul_mod_self_right, Nat.mod_eq_of_lt hk]]
      refine cm_.ret ?_ (fm_.refl hi).u.u
      rw [M_u (by omega), M_u (by omega)]
      unfold p_sett
      have hr : p_row (upd (mw_ hi) 8 (-1)) = p_row (mw_ hi) := by unfold p_row; rw [nn_cg (upd_ne (by omega)), nn_cg (upd_ne (by omega))]
      rw [hr, nn_cg (upd_ne (by omega) : upd (mw_ hi) 8 (-1) 1 = mw_ hi 1)]
      show _ = upd (upd (upd (mw_ hi) 8 (-1)) 8 (nI (p_row (mw_ hi) * nn (mw_ hi) 1 + k))) 9 (nI k)
      rw [upd_over]
  unfold sh_X10_relocates
  rw [M_out hs.2.2.2.2.2.2.2.2.1 (by omega), bs, eq_of, m_8 hi]
  by_cases c1 : p_out (mw_ hi) = true
  · rw [if_pos c1]
    by_cases c2 : mw_ hi 8 = -1
    · rw [if_pos c2]
      exact hgo c1 (fun q => q.1 c2)
    · obtain ⟨h8, h8b⟩ : mw_ hi 8 = nI (nn (mw_ hi) 8) ∧ nn (mw_ hi) 8 < p_rc (mw_ hi) := by
        rcases h.2.2.1.1.1 with q | q
        · exact absurd q c2
        · exact q
      rw [if_neg c2, h8, h.lit (by omega) (by omega), bs, eq_of]
      have el : p_lit (mw_ hi) (nn (mw_ hi) 8) = p_lies (mw_ hi) (nn (mw_ hi) 8) := by unfold p_lit; rw [c1]; rfl
      rw [el]
      by_cases c3 : p_lies (mw_ hi) (nn (mw_ hi) 8) = true
      · rw [if_pos c3]
        have e : p_reloc (mw_ hi) = mw_ hi := if_neg (fun q => q.2 ⟨c2, c3⟩)
        rw [e]
        exact cm_.ret rfl (fm_.refl hi)
      · rw [if_neg c3]
        exact hgo c1 (fun q => c3 q.2)
  · rw [if_neg c1]
    have e : p_reloc (mw_ hi) = mw_ hi := if_neg (fun q => c1 q.1)
    rw [e]
    exact cm_.ret rfl (fm_.refl hi)
theorem M_st101 {v : Int32} (b : Bool) (hv : v = b2 b) : cm_ (sh_X10_isStartled_101 v (10 : Int32) hi) hi (upd (mw_ hi) 10 v) := by
  unfold sh_X10_isStartled_101
  rw [show (10 : Int32) = nI 10 from rfl, if_pos (ok4 (by omega)), nI_clamp (by omega), hv, one_b]
  exact (cm_.ret (M_u (by omega)) (fm_.refl hi).u).bs
theorem M_startled {K B : Nat} (h : ib_ K B 0 (mw_ hi)) (h16 : mw_ hi 16 = nI (nn (mw_ hi) 16)) (hb : nn (mw_ hi) 16 < p_rc (mw_ hi)) (h8 : mw_ hi 8 ≠ -1) : cm_ (sh_X10_isStartled hi) hi (if mw_ hi 21 < nI (p_dist (mw_ hi) (nn (mw_ hi) 8) (nn (mw_ hi) 16)) then mw_ hi else p_startle (mw_ hi)) := by
  have hs := h.1
  have hc := hs.c
  have h80 := hs.rc.2
  obtain ⟨e8, b8⟩ : mw_ hi 8 = nI (nn (mw_ hi) 8) ∧ nn (mw_ hi) 8 < p_rc (mw_ hi) := by
    rcases h.2.2.1.1.1 with q | q
    · exact absurd q h8
    · exact q
  have h9 := h.2.2.1.1.2.1
  have h98 := h.2.2.1.1.2.2.1 h8
  have h1 : nn (mw_ hi) 8 / nn (mw_ hi) 1 < 2 ^ 30 := Nat.lt_of_le_of_lt (Nat.div_le_self _ _) (by omega)
  have h2 : nn (mw_ hi) 16 / nn (mw_ hi) 1 < 2 ^ 30 := Nat.lt_of_le_of_lt (Nat.div_le_self _ _) (by omega)
  have h4 := mod_c hs (nn (mw_ hi) 16)
  unfold sh_X10_isStartled
  rw [m_1 hi, m_8 hi, m_9 hi, m_16 hi, m_21 hi, hc.1, if_neg (nI_ne0 (by omega) (by omega)), if_neg (nI_ne0 (by omega) (by omega)), if_neg (nI_ne0 (by omega) (by omega)), e8, h16, h9.1, pk_rem (by omega) (by omega) (by omega), pk_div (by omega) (by omega) (by omega), pk_div (by omega) (by omega) (by omega), ab_32 h1 h2, ab_32 (by omega) (by omega), nI_add]
  have ed : p_dist (mw_ hi) (nn (mw_ hi) 8) (nn (mw_ hi) 16) = p_ab (nn (mw_ hi) 8 / nn (mw_ hi) 1) (nn (mw_ hi) 16 / nn (mw_ hi) 1) + p_ab (nn (mw_ hi) 9) (nn (mw_ hi) 16 % nn (mw_ hi) 1) := by
    unfold p_dist
    rw [← h98]
  rw [ed]
  by_cases c1 : mw_ hi 21 < nI (p_ab (nn (mw_ hi) 8 / nn (mw_ hi) 1) (nn (mw_ hi) 16 / nn (mw_ hi) 1) + p_ab (nn (mw_ hi) 9) (nn (mw_ hi) 16 % nn (mw_ hi) 1))
  · rw [if_pos c1, if_pos c1]
    exact cm_.ret rfl (fm_.refl hi)
  rw [if_neg c1, if_neg c1]
  unfold p_startle
  rw [h9.1]
  by_cases c2 : nn (mw_ hi) 16 % nn (mw_ hi) 1 = nn (mw_ hi) 9
  · rw [if_pos (show nI (nn (mw_ hi) 16 % nn (mw_ hi) 1) = nI (nn (mw_ hi) 9) by rw [c2]), c2, show p_ab (nn (mw_ hi) 9) (nn (mw_ hi) 9) = 0 by unfold p_ab; omega, if_neg (fun q => q rfl)]
    exact cm_.ret rfl (fm_.refl hi)
  · rw [if_neg (fun q => c2 ((nI_eq (by omega) (by omega)).mp q)), if_pos (nI_ne0 (show 0 < p_ab (nn (mw_ hi) 9) (nn (mw_ hi) 16 % nn (mw_ hi) 1) by unfold p_ab; omega) (by unfold p_ab; omega))]
    by_cases c3 : nI (nn (mw_ hi) 9) ≤ nI (nn (mw_ hi) 16 % nn (mw_ hi) 1)
    · rw [if_pos c3, if_pos c3]
      exact M_st101 false rfl
    · rw [if_neg c3, if_neg c3]
      exact M_st101 true rfl
theorem ib_.spl {K B x : Nat} {w : Wd} (h : ib_ K B x w) (h16 : nn w 16 < p_rc w) : ib_ K B x (p_spl w) := by
  obtain ⟨hs, ht, ⟨hq, hw⟩, hr⟩ := h
  have h80 := hs.rc.2
  have ht1 := ht.bowl (t := nn w 16) (n := 0) h16 (by omega) rfl (by omega)
  have hd := hs.2.2.2.1
  have ht2 := ht1.spill (t := nn w 16) (n := nn w 4) (v := w 4) (by rw [nn_cg (upd_ne (by omega) : upd w (84 + nn w 16) (nI 0) 0 = w 0), nn_cg (upd_ne (by omega) : upd w (84 + nn w 16) (nI 0) 1 = w 1)]; exact h16) (by omega) hd.1 hd.2.2
  exact ⟨hs.spl, ht2, ⟨(hq.lo (by omega)).lo (by omega), (hw.lo (by omega)).lo (by omega)⟩, (hr.lo (by unfold rk; omega)).lo (by unfold rk; omega)⟩
theorem M_bowl {K B : Nat} (h : ib_ K B 0 (mw_ hi)) (h1 : mw_ hi 16 ≠ -1) : cm_ (sh_X10_bowlFalls hi) hi (p_bowl (mw_ hi)) := by
  have hs := h.1
  have h80 := hs.rc.2
  obtain ⟨e16, b16⟩ : mw_ hi 16 = nI (nn (mw_ hi) 16) ∧ nn (mw_ hi) 16 < p_rc (mw_ hi) := by
    rcases h.2.2.2.2.2.2.2.2.1 with q | q
    · exact absurd q h1
    · exact q
  have g := h.spl b16
  unfold sh_X10_bowlFalls p_bowl
  rw [m_16 hi, e16, A84, if_pos (ok4 (by omega)), nI_clamp (by omega), bs]
  rw [au_n (show 16 ≠ 84 + nn (mw_ hi) 16 by omega), au_n (show 4 ≠ 84 + nn (mw_ hi) 16 by omega), m_16 hi, m_4 hi, e16, A244, if_pos (ok4 (by omega)), nI_clamp (by omega), bs]
  generalize hh : am_u (am_u hi (za 196) (84 + nn (mw_ hi) 16) 0) (za 196) (244 + nn (mw_ hi) 16) (mw_ hi 4) = h2
  have e2 : mw_ h2 = p_spl (mw_ hi) := by rw [← hh, M_u (by omega), M_u (by omega)]; rfl
  have f2 : fm_ hi h2 := by rw [← hh]; exact (fm_.refl hi).u.u
  have e8 : p_spl (mw_ hi) 8 = mw_ hi 8 := p_spl_lo (by omega)
  have e16' : p_spl (mw_ hi) 16 = mw_ hi 16 := p_spl_lo (by omega)
  rw [← e2] at g
  rw [m_8 h2, m_16 h2, m_5 h2, m_15 h2, e2, e8, e16', p_spl_lo (show 5 < 84 by omega), p_spl_lo (show 15 < 84 by omega), ← e16]
  by_cases c1 : mw_ hi 8 = -1
  · rw [if_neg (fun q => q c1), if_pos (show mw_ hi 8 ≠ mw_ hi 16 by rw [c1]; exact fun q => h1 q.symm), if_pos c1]
    exact cm_.ret e2 f2
  rw [if_pos c1]
  by_cases c2 : mw_ hi 8 = mw_ hi 16
  · rw [if_pos c2, if_neg (fun q => q c2)]
    refine cm_.ret ?_ f2.u.u.u
    rw [M_u (by omega), M_u (by omega), M_u (by omega), e2]
    unfold p_fall
    rw [p_spl_lo (show 5 < 84 by omega), p_spl_lo (show 15 < 84 by omega), upd_comm (a := 22) (b := 15) (by omega), upd_comm (a := 11) (b := 15) (by omega)]
  · rw [if_neg c2, if_pos c2, if_neg c1]
    have en8 : nn (mw_ h2) 8 = nn (mw_ hi) 8 := nn_cg (by rw [e2, e8])
    have en : nn (mw_ h2) 16 = nn (mw_ hi) 16 := nn_cg (by rw [e2, e16'])
    have e0 : mw_ h2 0 = mw_ hi 0 := by rw [e2]; exact p_spl_lo (by omega)
    have e1 : mw_ h2 1 = mw_ hi 1 := by rw [e2]; exact p_spl_lo (by omega)
    have e21 : mw_ h2 21 = mw_ hi 21 := by rw [e2]; exact p_spl_lo (by omega)
    have r := M_startled g (by rw [en, e2, e16']; exact e16) (by rw [en, st_.rc_eq e0 e1]; exact b16) (by rw [e2, e8]; exact c1)
    have ed : p_dist (mw_ h2) (nn (mw_ hi) 8) (nn (mw_ hi) 16) = p_dist (mw_ hi) (nn (mw_ hi) 8) (nn (mw_ hi) 16) := by unfold p_dist; rw [nn_cg e1]
    rw [en8, en, e21, ed, e2] at r
    exact (r.fro f2).bs
theorem M_cat80 {K B m k : Nat} (h18 : mw_ hi 18 = nI k) (h17 : mw_ hi 17 = nI m) (hm : 0 < m) (hm2 : m < 2 ^ 30) (hk : k < 2 ^ 30) (h : ib_ K B 0 (upd (mw_ hi) 18 (nI ((k + 1) % m)))) (h1 : mw_ hi 16 ≠ -1) : cm_ (sh_X10_catMoves_80 hi) hi (if upd (mw_ hi) 18 (nI ((k + 1) % m)) (84 + nn (upd (mw_ hi) 18 (nI ((k + 1) % m))) 16) ≤ 0 then upd (mw_ hi) 18 (nI ((k + 1) % m)) else p_bowl (upd (mw_ hi) 18 (nI ((k + 1) % m)))) := by
  have h80 := h.1.rc.2
  have e16 : upd (mw_ hi) 18 (nI ((k + 1) % m)) 16 = mw_ hi 16 := upd_ne (by omega)
  obtain ⟨q16, b16⟩ : upd (mw_ hi) 18 (nI ((k + 1) % m)) 16 = nI (nn (upd (mw_ hi) 18 (nI ((k + 1) % m))) 16) ∧ nn (upd (mw_ hi) 18 (nI ((k + 1) % m))) 16 < p_rc (upd (mw_ hi) 18 (nI ((k + 1) % m))) := by
    rcases h.2.2.2.2.2.2.2.2.1 with q | q
    · exact absurd (e16 ▸ q) h1
    · exact q
  rw [e16] at q16
  unfold sh_X10_catMoves_80
  rw [m_17 hi, m_18 hi, m_16 hi, h17, h18, if_neg (nI_ne0 hm (by omega)), nI_1, pk_rem (by omega) hm (by omega), q16, A84, if_pos (ok4 (by omega)), nI_clamp (by omega)]
  generalize hh : am_u hi (za 196) 18 (nI ((k + 1) % m)) = h2
  have e2 : mw_ h2 = upd (mw_ hi) 18 (nI ((k + 1) % m)) := by rw [← hh, M_u (by omega)]
  have f2 : fm_ hi h2 := by rw [← hh]; exact (fm_.refl hi).u
  rw [← e2] at h e16 b16 h80 ⊢
  rw [M_r h2 (by omega)]
  have hbw := h.2.1.1 (nn (mw_ h2) 16) (by omega)
  by_cases c : mw_ h2 (84 + nn (mw_ h2) 16) ≤ 0
  · have c0 := (le0_ (by omega) hbw).1.mp c
    rw [if_pos c, c0, if_pos (by decide)]
    exact cm_.ret rfl f2
  · have c0 : mw_ h2 (84 + nn (mw_ h2) 16) = 1 := by
      rcases in01 hbw with q | q
      · rw [q] at c; exact absurd (by decide) c
      · exact q
    rw [if_neg c, c0, if_neg (fun q => q rfl)]
    exact ((M_bowl h (by rw [e16]; exact h1)).fro f2).bs
theorem m_rt {k : Nat} (h : k < nn (mw_ hi) 17) (h30 : k < 30) : hi (za 196) (54 + k) = mw_ hi (54 + k) := by
  have e : nn (mw_ hi) 17 = nn (rm_ hi) 17 := by unfold nn mw_; rw [nz_p (by decide)]
  unfold mw_ nz
  rw [if_neg (by omega), if_neg (by omega), if_pos (by omega), if_pos (by rw [← e]; omega)]
  unfold rm_
  rw [if_pos ⟨by omega, by omega⟩]
theorem M_cat {K B : Nat} (h : ib_ K B 0 (mw_ hi)) : cm_ (sh_X10_catMoves hi) hi (p_cat (mw_ hi)) := by
  have hs := h.1
  have h80 := hs.rc.2
  obtain ⟨-, -, -, -, -, h17, -, -, -, -, hrt⟩ := id hs
  obtain ⟨-, h16, h18, -⟩ := h.ci
  unfold sh_X10_catMoves p_cat
  rw [m_16 hi, m_17 hi, m_18 hi]
  by_cases c1 : mw_ hi 16 = -1
  · rw [if_pos c1, if_pos (Or.inl c1)]
    exact cm_.ret rfl (fm_.refl hi)
  by_cases c2 : nn (mw_ hi) 17 = 0
  · rw [if_neg c1, if_pos (Or.inr c2), h17.1, c2, if_neg (fun q => q rfl)]
    exact cm_.ret rfl (fm_.refl hi)
  obtain ⟨g, g16⟩ := h.catm c1 c2
  rw [if_neg c1, if_neg (show ¬ (mw_ hi 16 = -1 ∨ nn (mw_ hi) 17 = 0) from fun q => q.elim c1 c2)]
  have hm0 : 0 < nn (mw_ hi) 17 := by omega
  have hm30 := h17.2.2
  have hk : nn (mw_ hi) 18 < nn (mw_ hi) 17 := by rcases h18.2 with q | q <;> omega
  obtain ⟨e16, hb⟩ : mw_ hi 16 = nI (nn (mw_ hi) 16) ∧ nn (mw_ hi) 16 < p_rc (mw_ hi) := by
    rcases h16 with q | q
    · exact absurd q c1
    · exact q
  have hr := hrt _ hk
  rw [h17.1, h18.1, if_pos (nI_ne0 hm0 (by omega)), A54, if_pos (ok4 (by omega)), nI_clamp (by omega), m_rt hk (by omega), e16, hr.1]
  have go : ∀ h2 : HI, fm_ hi h2 → mw_ h2 18 = mw_ hi 18 → mw_ h2 17 = mw_ hi 17 → upd (mw_ h2) 18 (nI ((nn (mw_ hi) 18 + 1) % nn (mw_ hi) 17)) = p_catm (mw_ hi) → cm_ (sh_X10_catMoves_80 h2) hi (if p_catm (mw_ hi) (84 + nn (p_catm (mw_ hi)) 16) ≤ 0 then p_catm (mw_ hi) else p_bowl (p_catm (mw_ hi))) := fun h2 f2 a18 a17 e => by
    have r := M_cat80 (hi := h2) (K := K) (B := B) (m := nn (mw_ hi) 17) (k := nn (mw_ hi) 18) (by rw [a18]; exact h18.1) (by rw [a17]; exact h17.1) hm0 (by omega) (by omega) (by rw [e]; exact g) (by rw [← e, upd_ne (by omega)] at g16; exact g16)
    rw [e] at r
    exact r.fro f2
  have g0 : (∀ u, p_nb (mw_ hi) (nn (mw_ hi) 16) (nn (mw_ hi) (54 + nn (mw_ hi) 18)) = some u → mw_ hi (244 + u) = 0 → nI u = mw_ hi 16) → cm_ (sh_X10_catMoves_80 hi) hi (if p_catm (mw_ hi) (84 + nn (p_catm (mw_ hi)) 16) ≤ 0 then p_catm (mw_ hi) else p_bowl (p_catm (mw_ hi))) := fun hu => go hi (fm_.refl hi) rfl rfl (by
    unfold p_catm
    cases ho : p_nb (mw_ hi) (nn (mw_ hi) 16) (nn (mw_ hi) (54 + nn (mw_ hi) 18)) with
    | none => rfl
    | some u =>
      show _ = upd (if mw_ hi (244 + u) = 0 then upd (mw_ hi) 16 (nI u) else mw_ hi) 18 _
      by_cases c : mw_ hi (244 + u) = 0
      · rw [if_pos c, upd_same (hu u ho c).symm]
      · rw [if_neg c])
  by_cases c3 : nn (mw_ hi) (54 + nn (mw_ hi) 18) = 0
  · rw [c3, if_neg (fun q => q rfl)]
    unfold sh_X10_catMoves_58
    rw [if_pos rfl]
    refine g0 fun u hu _ => ?_
    rw [c3] at hu
    have : p_nb (mw_ hi) (nn (mw_ hi) 16) 0 = some (nn (mw_ hi) 16) := rfl
    rw [this] at hu
    cases hu
    exact e16.symm
  · rw [if_pos (nI_ne0 (by omega) (by have := hr.2.2; omega)), M_nb hs (by omega) (by have := hr.2.2; omega), bs]
    unfold sh_X10_catMoves_58
    cases ho : p_nb (mw_ hi) (nn (mw_ hi) 16) (nn (mw_ hi) (54 + nn (mw_ hi) 18)) with
    | none =>
      rw [if_pos (show oI none = -1 from rfl)]
      exact g0 fun u hu _ => by rw [ho] at hu; cases hu
    | some u =>
      have hu80 : u < 80 := Nat.lt_of_lt_of_le (p_nb_lt hs hb ho) h80
      rw [if_neg (show ¬ oI (some u) = -1 from nI_m1 (by omega)), show oI (some u) = nI u from rfl, M_dry hu80, bs, eq_of]
      by_cases c4 : mw_ hi (244 + u) = 0
      · rw [decide_eq_true c4, if_pos rfl]
        refine go (am_u hi (za 196) 16 (nI u)) (fm_.refl hi).u (by rw [M_u (by omega), upd_ne (by omega)]) (by rw [M_u (by omega), upd_ne (by omega)]) ?_
        rw [M_u (by omega)]
        unfold p_catm
        rw [ho]
        show _ = upd (if mw_ hi (244 + u) = 0 then upd (mw_ hi) 16 (nI u) else mw_ hi) 18 _
        rw [if_pos c4]
      · rw [decide_eq_false c4, if_neg (by decide)]
        exact g0 fun u2 hu2 c => by rw [ho] at hu2; cases hu2; exact absurd c c4
end ML
