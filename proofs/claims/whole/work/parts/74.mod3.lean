/-! the model: the walker's steps -/
theorem p_enter_nf {w : Wd} {t : Nat} : p_enter w t = upd (upd (upd (upd (upd (upd w 8 (nI t)) 9 (nI (t % nn w 1))) 12 (w 12 + 1)) 13 (w 13 + 1)) 22 (w 22 + 1)) (324 + t) (w (324 + t) + 1) := by
  unfold p_enter p_count
  rw [upd_ne (by omega), upd_ne (by omega), upd_ne (by omega), upd_ne (by omega), upd_ne (by omega), upd_ne (by omega)]
theorem p_enter_u {w : Wd} {t k : Nat} {v : Int32} (hk : k ≠ 1 ∧ k ≠ 8 ∧ k ≠ 9 ∧ k ≠ 12 ∧ k ≠ 13 ∧ k ≠ 22 ∧ k ≠ 324 + t) : p_enter (upd w k v) t = upd (p_enter w t) k v := by
  rw [p_enter_nf, p_enter_nf, nn_cg (upd_ne (by omega) : upd w k v 1 = w 1), show upd w k v 12 = w 12 from upd_ne (by omega), show upd w k v 13 = w 13 from upd_ne (by omega), show upd w k v 22 = w 22 from upd_ne (by omega), show upd w k v (324 + t) = w (324 + t) from upd_ne (by omega), upd_comm (a := k) (b := 8) (by omega), upd_comm (a := k) (b := 9) (by omega), upd_comm (a := k) (b := 12) (by omega), upd_comm (a := k) (b := 13) (by omega), upd_comm (a := k) (b := 22) (by omega), upd_comm (a := k) (b := 324 + t) (by omega)]
theorem p_enter_mid {w : Wd} {t k : Nat} (hk : k ≠ 8 ∧ k ≠ 9 ∧ k ≠ 12 ∧ k ≠ 13 ∧ k ≠ 22 ∧ k ≠ 324 + t) : p_enter w t k = w k := by
  rw [p_enter_nf, upd_ne (by omega), upd_ne (by omega), upd_ne (by omega), upd_ne (by omega), upd_ne (by omega), upd_ne (by omega)]
theorem slide_enter {w : Wd} {t m : Nat} (ht : t < 80) (hu : ∀ u, p_nb w t m = some u → u < 80) : p_slide (p_enter w t) t m = p_enter (p_slide w t m) t := by
  have en : p_nb (p_enter w t) t m = p_nb w t m := by
    unfold p_nb p_rc
    rw [nn_cg (p_enter_mid (by omega) : p_enter w t 0 = w 0), nn_cg (p_enter_mid (by omega) : p_enter w t 1 = w 1)]
  unfold p_slide
  rw [en, show p_enter w t (164 + t) = w (164 + t) from p_enter_mid (by omega)]
  by_cases c : w (164 + t) = 0
  · rw [if_pos c, if_pos c]
  · rw [if_neg c, if_neg c]
    cases ho : p_nb w t m with
    | none => rfl
    | some u =>
      have hu9 := hu u ho
      show (if p_enter w t (164 + u) = 0 then (if p_free (p_enter w t) u = true then upd (upd (upd (p_enter w t) (164 + t) 0) (164 + u) 1) 23 (p_enter w t 23 + 1) else p_enter w t) else p_enter w t) = p_enter (if w (164 + u) = 0 then (if p_free w u = true then upd (upd (upd w (164 + t) 0) (164 + u) 1) 23 (w 23 + 1) else w) else w) t
      have ef : p_free (p_enter w t) u = p_free w u := by
        unfold p_free
        rw [show p_enter w t (84 + u) = w (84 + u) from p_enter_mid (by omega), show p_enter w t (244 + u) = w (244 + u) from p_enter_mid (by omega)]
      rw [ef, show p_enter w t (164 + u) = w (164 + u) from p_enter_mid (by omega), show p_enter w t 23 = w 23 from p_enter_mid (by omega)]
      by_cases c1 : w (164 + u) = 0
      · rw [if_pos c1, if_pos c1]
        by_cases c2 : p_free w u = true
        · rw [if_pos c2, if_pos c2, p_enter_u (by omega), p_enter_u (by omega), p_enter_u (by omega)]
        · rw [if_neg c2, if_neg c2]
      · rw [if_neg c1, if_neg c1]
theorem way_01 {w : Wd} (h : w 10 = 0 ∨ w 10 = 1) : (if w 10 ≠ 1 then nI 3 else nI 4) = nI (p_way w) := by
  unfold p_way
  rcases h with h | h <;> rw [h] <;> rfl
section MWK
variable {hi : HI}
theorem M_ahead {t : Nat} (hs : st_ (mw_ hi)) (h10 : in_ (mw_ hi) 10 0 1) (h8 : mw_ hi 8 = nI t) (ht : t < 80) : sh_X10_ahead hi = some (oI (p_nb (mw_ hi) t (p_way (mw_ hi)))) := by
  unfold sh_X10_ahead sh_X10_ahead_24
  rw [m_10 hi, m_8 hi, h8]
  have hw := way_01 (in01 h10)
  have h4 := p_way_lt (mw_ hi)
  by_cases c : mw_ hi 10 ≠ 1
  · rw [if_pos c] at hw ⊢
    rw [show (3 : Int32) = nI (p_way (mw_ hi)) from hw, M_nb hs ht (by omega), bs]
  · rw [if_neg c] at hw ⊢
    rw [show (4 : Int32) = nI (p_way (mw_ hi)) from hw, M_nb hs ht (by omega), bs]
theorem M_can {K B t : Nat} (h : ib_ K B 0 (mw_ hi)) (h8 : mw_ hi 8 = nI t) (ht : t < p_rc (mw_ hi)) : sh_X10_canStep hi = some (b2 (p_can (mw_ hi) (p_nb (mw_ hi) t (p_way (mw_ hi))))) := by
  have hs := h.1
  have hc := hs.c
  have h80 := hs.rc.2
  unfold sh_X10_canStep
  rw [M_ahead hs h.2.2.1.1.2.2.2.1 h8 (by omega), bs]
  cases ho : p_nb (mw_ hi) t (p_way (mw_ hi)) with
  | none => rw [if_pos (show oI none = -1 from rfl)]; rfl
  | some u =>
    have hu := p_nb_lt hs ht ho
    rw [if_neg (show ¬ oI (some u) = -1 from nI_m1 (by omega)), show oI (some u) = nI u from rfl, m_1 hi, hc.1, if_neg (nI_ne0 (by omega) (by omega)), pk_rem (by omega) (by omega) (by omega), M_closed (mod_c hs u) (h.2.2.2.2.2.2.2.2.2.2.2.1 _ (mod_c hs u)), bs, ne_of, M_dry (by omega), bs, eq_of, p_can_s]
    cases decide (mw_ hi (26 + u % nn (mw_ hi) 1) = 0) <;> cases decide (mw_ hi (244 + u) = 0) <;> rfl
theorem M_slides {t : Nat} (hs : st_ (mw_ hi)) (hti : ti_ (mw_ hi)) (h10 : in_ (mw_ hi) 10 0 1) (h8 : mw_ hi 8 = nI t) (ht : t < p_rc (mw_ hi)) (hr : mw_ hi (164 + t) ≠ 0) : cm_ (sh_X10_slides hi) hi (p_slide (mw_ hi) t (p_way (mw_ hi))) := by
  have h80 := hs.rc.2
  unfold sh_X10_slides p_slide
  rw [M_ahead hs h10 h8 (by omega), bs, if_neg hr]
  cases ho : p_nb (mw_ hi) t (p_way (mw_ hi)) with
  | none =>
    rw [if_pos (show oI none = -1 from rfl)]
    exact cm_.ret rfl (fm_.refl hi)
  | some u =>
    have hu := p_nb_lt hs ht ho
    rw [if_neg (show ¬ oI (some u) = -1 from nI_m1 (by omega)), show oI (some u) = nI u from rfl, m_8 hi, h8, A164, A164, if_pos (ok4 (by omega)), if_pos (ok4 (by omega)), nI_clamp (by omega), nI_clamp (by omega), M_empty (by omega), bs, ne_of, bs, if_pos (show 0 ≤ nI (164 + u) ∧ 164 + u < 424 from ⟨nI_pos' (by omega), by omega⟩), bs, M_r hi (k := 164 + u) (by omega)]
    show cm_ _ hi (if mw_ hi (164 + u) = 0 then (if p_free (mw_ hi) u = true then upd (upd (upd (mw_ hi) (164 + t) 0) (164 + u) 1) 23 (mw_ hi 23 + 1) else mw_ hi) else mw_ hi)
    rcases in01 (hti.2.1 u (by omega)) with e | e
    · rw [e, if_neg (by decide), if_pos rfl]
      by_cases c2 : p_free (mw_ hi) u = true
      · rw [if_pos c2, if_pos c2]
        refine cm_.ret ?_ (fm_.refl hi).u.u.u
        rw [M_u (by omega), au_n (show 23 ≠ 164 + u by omega), au_n (show 23 ≠ 164 + t by omega), m_23 hi, M_u (by omega), M_u (by omega)]
      · rw [if_neg c2, if_neg c2]
        exact cm_.ret rfl (fm_.refl hi)
    · rw [e, if_pos rfl, if_neg (by decide)]
      exact cm_.ret rfl (fm_.refl hi)
def p_tri (w : Wd) : Wd := match p_nb w (nn w 8) (p_way w) with
  | none => p_turn w
  | some t => if p_can w (some t) = true then p_enter (p_slide w t (p_way w)) t else p_turn w
theorem M_tri {K B : Nat} (hB : B < 2 ^ 30) (h : ib_ K B 0 (mw_ hi)) (h8 : mw_ hi 8 ≠ -1) : cm_ (sh_X10_tries hi) hi (p_tri (mw_ hi)) := by
  have hs := h.1
  have hc := hs.c
  have h80 := hs.rc.2
  obtain ⟨e8, b8⟩ : mw_ hi 8 = nI (nn (mw_ hi) 8) ∧ nn (mw_ hi) 8 < p_rc (mw_ hi) := by
    rcases h.2.2.1.1.1 with q | q
    · exact absurd q h8
    · exact q
  have h10 := h.2.2.1.1.2.2.2.1
  have hturn : cm_ (some (am_u (am_u hi (za 196) 10 ((1 : Int32) - (mw_ hi 10))) (za 196) 14 ((mw_ hi 14) + (1 : Int32)))) hi (p_turn (mw_ hi)) := by
    refine cm_.ret ?_ (fm_.refl hi).u.u
    rw [M_u (by omega), M_u (by omega)]
    unfold p_turn
    rcases in01 h10 with e | e <;> rw [e] <;> rfl
  unfold sh_X10_tries p_tri
  rw [M_can h e8 b8, bs, ne_of, M_ahead hs h10 e8 (by omega), bs, m_10 hi, m_14 hi]
  cases ho : p_nb (mw_ hi) (nn (mw_ hi) 8) (p_way (mw_ hi)) with
  | none =>
    rw [if_neg (show ¬ p_can (mw_ hi) none = true from fun q => by cases q)]
    exact hturn
  | some t =>
    have ht := p_nb_lt hs b8 ho
    have hu : ∀ u, p_nb (mw_ hi) t (p_way (mw_ hi)) = some u → u < 80 := fun u hu => Nat.lt_of_lt_of_le (p_nb_lt hs ht hu) h80
    show cm_ _ hi (if p_can (mw_ hi) (some t) = true then p_enter (p_slide (mw_ hi) t (p_way (mw_ hi))) t else p_turn (mw_ hi))
    by_cases c : p_can (mw_ hi) (some t) = true
    case neg => rw [if_neg c, if_neg c]; exact hturn
    rw [if_pos c, if_pos c, show oI (some t) = nI t from rfl, au_, A324, m_1 hi, hc.1, if_neg (nI_ne0 (by omega) (by omega)), if_pos (ok4 (by omega)), if_pos (ok4 (by omega)), nI_clamp (by omega), pk_rem (by omega) (by omega) (by omega), bs, au_n (show 324 + t ≠ 9 by omega), au_n (show 324 + t ≠ 8 by omega), M_r hi (k := 324 + t) (by omega)]
    generalize hh : am_u (am_u (am_u hi (za 196) 8 (nI t)) (za 196) 9 (nI (t % nn (mw_ hi) 1))) (za 196) (324 + t) (mw_ hi (324 + t) + 1) = h3
    have r8 : h3 (za 196) 8 = nI t := by rw [← hh, au_n (by omega), au_n (by omega), au_]
    have e3 : mw_ h3 = upd (upd (upd (mw_ hi) 8 (nI t)) 9 (nI (t % nn (mw_ hi) 1))) (324 + t) (mw_ hi (324 + t) + 1) := by rw [← hh, M_u (by omega), M_u (by omega), M_u (by omega)]
    have f3 : fm_ hi h3 := by rw [← hh]; exact (fm_.refl hi).u.u.u
    have r12 : h3 (za 196) 12 = mw_ hi 12 := by rw [← hh, au_n (by omega), au_n (by omega), au_n (by omega), m_12 hi]
    have r13 : h3 (za 196) 13 = mw_ hi 13 := by rw [← hh, au_n (by omega), au_n (by omega), au_n (by omega), m_13 hi]
    have r22 : h3 (za 196) 22 = mw_ hi 22 := by rw [← hh, au_n (by omega), au_n (by omega), au_n (by omega), m_22 hi]
    rw [r8, r12, r13, r22, A164, if_pos (ok4 (by omega)), nI_clamp (by omega)]
    generalize hh4 : am_u (am_u (am_u h3 (za 196) 12 (mw_ hi 12 + 1)) (za 196) 13 (mw_ hi 13 + 1)) (za 196) 22 (mw_ hi 22 + 1) = h4
    have e4 : mw_ h4 = p_enter (mw_ hi) t := by
      rw [← hh4, M_u (by omega), M_u (by omega), M_u (by omega), e3, p_enter_nf, upd_comm (a := 324 + t) (b := 12) (by omega), upd_comm (a := 324 + t) (b := 13) (by omega), upd_comm (a := 324 + t) (b := 22) (by omega)]
    have f4 : fm_ hi h4 := by rw [← hh4]; exact f3.u.u.u
    obtain ⟨a1, a2, a3, a4, a5⟩ := h.enter (t := t) hB ht
    have hway : p_way (p_enter (mw_ hi) t) = p_way (mw_ hi) := by unfold p_way; rw [p_enter_mid (by omega)]
    have e164 : p_enter (mw_ hi) t (164 + t) = mw_ hi (164 + t) := p_enter_mid (by omega)
    rw [M_r h4 (k := 164 + t) (by omega), e4, e164, ← slide_enter (by omega) hu]
    rcases in01 (h.2.1.2.1 t (by omega)) with e | e
    · rw [e, if_pos (by decide)]
      have es : p_slide (p_enter (mw_ hi) t) t (p_way (mw_ hi)) = p_enter (mw_ hi) t := if_pos (by rw [e164, e])
      rw [es]
      exact cm_.ret e4 f4
    · rw [e, if_neg (fun q => q rfl)]
      have ht4 : t < p_rc (mw_ h4) := by rw [e4, st_.rc_eq (p_enter_mid (by omega)) (p_enter_mid (by omega))]; exact ht
      have r := M_slides (hi := h4) (t := t) (by rw [e4]; exact a1) (by rw [e4]; exact a2) (by rw [e4]; exact a3.2.2.2.1) (by rw [e4]; exact p_enter_8) ht4 (by rw [e4, e164, e]; decide)
      rw [e4, hway] at r
      exact (r.fro f4).bs
theorem ib_.step {K B x t : Nat} {w : Wd} (hB : B < 2 ^ 30) (h : ib_ K B x w) (ht : t < p_rc w) (c : p_enter (p_slide w t (p_way w)) t 20 ≤ 0 ∨ p_enter (p_slide w t (p_way w)) t 22 < p_enter (p_slide w t (p_way w)) t 20) : ib_ K (B + 1) x (p_enter (p_slide w t (p_way w)) t) := by
  have hs := h.1
  have h80 := hs.rc.2
  have hsl := h.slide (t := t) (m := p_way w) ht
  have hu : ∀ u, p_nb w t (p_way w) = some u → u < 80 := fun u hu => Nat.lt_of_lt_of_le (p_nb_lt hs ht hu) h80
  have lo : ∀ k, k < 23 → p_slide w t (p_way w) k = w k := fun k hk => p_slide_lo (by omega) (by omega) hu
  have ht2 : t < p_rc (p_slide w t (p_way w)) := by rw [st_.rc_eq (lo 0 (by omega)) (lo 1 (by omega))]; exact ht
  obtain ⟨a1, a2, a3, a4, a5⟩ := hsl.enter (t := t) (by omega) ht2
  have e20 : p_enter (p_slide w t (p_way w)) t 20 = w 20 := by rw [p_enter_lo (by omega), lo 20 (by omega)]
  have k20 := hs.2.2.2.2.2.2.1
  have k22 := h.2.2.1.2
  refine ⟨a1, a2, ⟨a3, fun hp => ?_⟩, a4⟩
  rw [nn_cg e20] at hp ⊢
  have e22 := a5 (by rw [nn_cg (lo 20 (by omega))]; exact hp)
  rw [nn_cg (lo 22 (by omega))] at e22
  have hb := (k22 hp).2
  have hb2 := k20.2.2
  rw [e22, e20, k20.1] at c
  have c3 : nn w 22 + 1 < nn w 20 := by
    rcases c with c | c
    · exact absurd c (nI_nle hp (by omega))
    · exact (nI_ltI (by omega) (by omega)).mp c
  have e9 : nn (p_enter (p_slide w t (p_way w)) t) 22 = nn w 22 + 1 := nn_of e22 (by omega)
  rw [e9]
  exact ⟨e22, c3⟩
theorem M_tired : sh_X10_isTired hi = some (if mw_ hi 20 ≤ 0 then 0 else if mw_ hi 22 < mw_ hi 20 then 0 else 1) := by
  unfold sh_X10_isTired
  rw [m_20 hi, m_22 hi]
  split
  · rfl
  · split <;> rfl
theorem ws_no {K B x : Nat} {w : Wd} (h : ib_ K B x w) : (if w 20 ≤ 0 then (0 : Int32) else if w 22 < w 20 then 0 else 1) = 0 := by
  have k20 := h.1.2.2.2.2.2.2.1
  have h2 := k20.2.2
  by_cases c : nn w 20 = 0
  · rw [if_pos ((le0_ (by omega) k20).1.mpr (by rw [k20.1, c]; rfl))]
  · have k22 := h.2.2.1.2 (by omega)
    rw [if_neg (fun q => nI_nle (by omega) (by omega) (k20.1 ▸ q)), if_pos (by rw [k22.1, k20.1]; exact nI_lt k22.2 (by omega))]
theorem M_walk_44 {G K : Nat} : ∀ (f k F B : Nat) (hi : HI), f < F → k + f < 2 ^ 31 → B + f < 2 ^ 30 → ib_ K B 0 (mw_ hi) → mw_ hi 8 ≠ -1 → mw_ hi 11 = 0 → cm_ (sh_X10_walks_44 G F (nI (k + f)) (nI k) hi) hi (p_walk f (mw_ hi))
  | f, k, 0, B, hi, hF, _, _, _, _, _ => absurd hF (Nat.not_lt_zero _)
  | 0, k, F + 1, B, hi, hF, hk, hB, h, h8, h11 => by
    show cm_ (sh_X10_walks_44_b G (sh_X10_walks_44 G F) (nI k) (nI k) hi) hi (mw_ hi)
    unfold sh_X10_walks_44_b
    rw [if_pos (Int32.le_refl _)]
    exact cm_.ret rfl (fm_.refl hi)
  | f + 1, k, F + 1, B, hi, hF, hk, hB, h, h8, h11 => by
    show cm_ (sh_X10_walks_44_b G (sh_X10_walks_44 G F) (nI (k + (f + 1))) (nI k) hi) hi (p_walk (f + 1) (mw_ hi))
    have hs := h.1
    have h80 := hs.rc.2
    obtain ⟨e8, b8⟩ : mw_ hi 8 = nI (nn (mw_ hi) 8) ∧ nn (mw_ hi) 8 < p_rc (mw_ hi) := by
      rcases h.2.2.1.1.1 with q | q
      · exact absurd q h8
      · exact q
    have e9 : k + (f + 1) = (k + 1) + f := by omega
    have ih := fun B hi => M_walk_44 (G := G) (K := K) f (k + 1) F B hi (by omega) (by omega)
    rw [← e9, ← nI_1 k] at ih
    unfold sh_X10_walks_44_b
    rw [if_neg (nI_ge (by omega) (by omega)), m_11 hi, h11, if_neg (fun q => q rfl), p_walk_s]
    refine (M_tri (by omega) h h8).bind fun h3 e3 f3 => ?_
    rw [M_tired, bs]
    have hturn : p_tri (mw_ hi) = p_turn (mw_ hi) → cm_ (if (if mw_ h3 20 ≤ 0 then (0 : Int32) else if mw_ h3 22 < mw_ h3 20 then 0 else 1) ≠ 0 then sh_X10_walks_44 G F (nI (k + (f + 1))) (nI k + 1) (am_u (am_u h3 (za 196) 11 (1 : Int32)) (za 196) 22 (0 : Int32)) else sh_X10_walks_44 G F (nI (k + (f + 1))) (nI k + 1) h3) hi (p_walk f (p_turn (mw_ hi))) := fun e => by
      rw [e] at e3
      have g := h.turn
      rw [← e3] at g ⊢
      rw [ws_no g, if_neg (fun q => q rfl)]
      have t8 : p_turn (mw_ hi) 8 = mw_ hi 8 := by unfold p_turn; rw [upd_ne (by omega), upd_ne (by omega)]
      have t11 : p_turn (mw_ hi) 11 = mw_ hi 11 := by unfold p_turn; rw [upd_ne (by omega), upd_ne (by omega)]
      exact (ih B h3 (by omega) g (by rw [e3, t8]; exact h8) (by rw [e3, t11]; exact h11)).fro f3
    unfold p_tri at e3 hturn
    cases ho : p_nb (mw_ hi) (nn (mw_ hi) 8) (p_way (mw_ hi)) with
    | none =>
      rw [ho] at hturn
      exact hturn rfl
    | some t =>
      have ht := p_nb_lt hs b8 ho
      rw [ho] at hturn e3
      have e3 : mw_ h3 = if p_can (mw_ hi) (some t) = true then p_enter (p_slide (mw_ hi) t (p_way (mw_ hi))) t else p_turn (mw_ hi) := e3
      have hturn : (if p_can (mw_ hi) (some t) = true then p_enter (p_slide (mw_ hi) t (p_way (mw_ hi))) t else p_turn (mw_ hi)) = p_turn (mw_ hi) → _ := hturn
      show cm_ _ hi (if p_can (mw_ hi) (some t) = true then (if p_enter (p_slide (mw_ hi) t (p_way (mw_ hi))) t 20 ≤ 0 then p_walk f (p_enter (p_slide (mw_ hi) t (p_way (mw_ hi))) t) else if p_enter (p_slide (mw_ hi) t (p_way (mw_ hi))) t 22 < p_enter (p_slide (mw_ hi) t (p_way (mw_ hi))) t 20 then p_walk f (p_enter (p_slide (mw_ hi) t (p_way (mw_ hi))) t) else p_pause (p_enter (p_slide (mw_ hi) t (p_way (mw_ hi))) t)) else p_walk f (p_turn (mw_ hi)))
      by_cases c : p_can (mw_ hi) (some t) = true
      case neg =>
        rw [if_neg c]
        exact hturn (if_neg c)
      rw [if_pos c] at e3 ⊢
      have hu : ∀ u, p_nb (mw_ hi) t (p_way (mw_ hi)) = some u → u < 80 := fun u hu => Nat.lt_of_lt_of_le (p_nb_lt hs ht hu) h80
      have g8 : p_enter (p_slide (mw_ hi) t (p_way (mw_ hi))) t 8 ≠ -1 := by rw [p_enter_8]; exact nI_m1 (by omega)
      have g11 : p_enter (p_slide (mw_ hi) t (p_way (mw_ hi))) t 11 = 0 := by rw [p_enter_mid (by omega), p_slide_lo (by omega) (by omega) hu, h11]
      rw [e3]
      by_cases c1 : p_enter (p_slide (mw_ hi) t (p_way (mw_ hi))) t 20 ≤ 0
      · rw [if_pos c1, if_pos c1, if_neg (fun q => q rfl)]
        have r := ih (B + 1) h3 (by omega) (by rw [e3]; exact h.step (by omega) ht (Or.inl c1)) (by rw [e3]; exact g8) (by rw [e3]; exact g11)
        rw [e3] at r
        exact r.fro f3
      · rw [if_neg c1, if_neg c1]
        by_cases c2 : p_enter (p_slide (mw_ hi) t (p_way (mw_ hi))) t 22 < p_enter (p_slide (mw_ hi) t (p_way (mw_ hi))) t 20
        · rw [if_pos c2, if_pos c2, if_neg (fun q => q rfl)]
          have r := ih (B + 1) h3 (by omega) (by rw [e3]; exact h.step (by omega) ht (Or.inr c2)) (by rw [e3]; exact g8) (by rw [e3]; exact g11)
          rw [e3] at r
          exact r.fro f3
        · rw [if_neg c2, if_neg c2, if_pos (by decide)]
          obtain ⟨F, rfl⟩ : ∃ F2, F = F2 + 1 := ⟨F - 1, by omega⟩
          show cm_ (sh_X10_walks_44_b G (sh_X10_walks_44 G F) (nI (k + (f + 1))) (nI k + 1) (am_u (am_u h3 (za 196) 11 (1 : Int32)) (za 196) 22 (0 : Int32))) hi _
          unfold sh_X10_walks_44_b
          rw [au_n (show 11 ≠ 22 by omega), au_]
          have fin : cm_ (some (am_u (am_u h3 (za 196) 11 (1 : Int32)) (za 196) 22 (0 : Int32))) hi (p_pause (p_enter (p_slide (mw_ hi) t (p_way (mw_ hi))) t)) := by
            refine cm_.ret ?_ f3.u.u
            rw [M_u (by omega), M_u (by omega), e3]
            rfl
          by_cases c5 : nI (k + (f + 1)) ≤ nI k + 1
          · rw [if_pos c5]; exact fin
          · rw [if_neg c5, if_pos (by decide)]; exact fin
def p_wks (w : Wd) : Wd := if w 11 ≤ 0 then (if w 8 = -1 then w else p_walk (p_tries w).toNatClampNeg w) else upd w 11 (w 11 - 1)
theorem p_25_w (w : Wd) : p_25 w = p_70 (p_wks w) := by
  unfold p_25 p_wks
  split
  · split <;> rfl
  · rfl
theorem M_walks {G K B : Nat} (hG : 80 < G) (hK : K < 2 ^ 29) (hB : B + 5 < 2 ^ 30) (h : ib_ K B 0 (mw_ hi)) : cm_ (sh_X10_walks G hi) hi (p_wks (mw_ hi)) := by
  unfold sh_X10_walks p_wks
  rw [m_11 hi, m_8 hi]
  by_cases c : mw_ hi 11 ≤ 0
  · have c0 : mw_ hi 11 = 0 := (le0_ (by omega) h.2.2.1.1.2.2.2.2).1.mp c
    rw [if_pos c, if_pos c]
    by_cases c1 : mw_ hi 8 = -1
    · rw [if_neg (fun q => q c1), if_pos c1]
      obtain ⟨F, rfl⟩ : ∃ F, G = F + 1 := ⟨G - 1, by omega⟩
      exact cm_.ret rfl (fm_.refl hi)
    · rw [if_pos c1, if_neg c1, M_tries h.1.2.2.2.2.2.2.2.2.1 (by omega), bs]
      obtain ⟨n, hn, e⟩ := tries_n h.2.2.2.1 h.2.2.2.2.1.1 (by have := h.2.2.2.2.1.2.2; omega)
      rw [e, nI_clamp (by omega)]
      have r := M_walk_44 (G := G) (K := K) n 0 G B hi (by omega) (by omega) (by omega) h c1 c0
      rw [Nat.zero_add] at r
      exact r
  · rw [if_neg c, if_neg c]
    exact cm_.ret (M_u (by omega)) (fm_.refl hi).u
end MWK
