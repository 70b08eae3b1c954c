/-! the walker's steps -/
def sk (k : Nat) : Prop := k = 0 ∨ k = 1 ∨ k = 2 ∨ k = 4 ∨ k = 5 ∨ k = 17 ∨ k = 20 ∨ k = 21 ∨ k = 24 ∨ (36 ≤ k ∧ k < 46) ∨ (54 ≤ k ∧ k < 84)
theorem in_.cg {w w1 : Wd} {k a b : Nat} (e : w1 k = w k) (h : in_ w k a b) : in_ w1 k a b := by
  have e2 : nn w1 k = nn w k := by unfold nn; rw [e]
  unfold in_
  rw [e2, e]
  exact h
theorem nn_cg {w w1 : Wd} {k : Nat} (e : w1 k = w k) : nn w1 k = nn w k := by unfold nn; rw [e]
theorem st_.cg {w w1 : Wd} (e : ∀ k, sk k → w1 k = w k) (h : st_ w) : st_ w1 := by
  obtain ⟨h0, h1, h2, h3, h4, h5, h6, h7, h8, h9, ha⟩ := h
  have e17 : nn w1 17 = nn w 17 := nn_cg (e 17 (by unfold sk; omega))
  refine ⟨h0.cg (e _ (by unfold sk; omega)), h1.cg (e _ (by unfold sk; omega)), h2.cg (e _ (by unfold sk; omega)), h3.cg (e _ (by unfold sk; omega)), h4.cg (e _ (by unfold sk; omega)), h5.cg (e _ (by unfold sk; omega)), h6.cg (e _ (by unfold sk; omega)), h7.cg (e _ (by unfold sk; omega)), h8.cg (e _ (by unfold sk; omega)), fun k hk => (h9 k hk).cg (e _ (by unfold sk; omega)), fun k hk => ?_⟩
  rw [e17] at hk
  exact (ha k hk).cg (e _ (by have := h5.2.2; unfold sk; omega))
theorem upd_ne {w : Wd} {k j : Nat} {v : Int32} (h : j ≠ k) : upd w k v j = w j := by rw [upd_e, if_neg h]
theorem upd_eq {w : Wd} {k : Nat} {v : Int32} : upd w k v k = v := by rw [upd_e, if_pos rfl]
theorem st_.u {w : Wd} {k : Nat} {v : Int32} (hk : ¬ sk k) (h : st_ w) : st_ (upd w k v) := h.cg fun j hj => upd_ne fun e => hk (e ▸ hj)
def p_turn (w : Wd) : Wd := upd (upd w 10 (if w 10 = 0 then 1 else 0)) 14 (w 14 + 1)
def p_pause (w : Wd) : Wd := upd (upd w 11 1) 22 0
def p_count (w : Wd) : Wd := upd (upd (upd w 12 (w 12 + 1)) 13 (w 13 + 1)) 22 (w 22 + 1)
def p_enter (w : Wd) (t : Nat) : Wd := upd (p_count (upd (upd w 8 (nI t)) 9 (nI (t % nn w 1)))) (324 + t) (w (324 + t) + 1)
def p_can (w : Wd) : Option Nat → Bool
  | none => false
  | some t => decide (w (26 + t % nn w 1) = 0) && decide (w (244 + t) = 0)
theorem p_can_s (w : Wd) (t : Nat) : p_can w (some t) = (decide (w (26 + t % nn w 1) = 0) && decide (w (244 + t) = 0)) := rfl
def p_slide (w : Wd) (t m : Nat) : Wd := if w (164 + t) = 0 then w else match p_nb w t m with
  | none => w
  | some u => if w (164 + u) = 0 then (if p_free w u = true then upd (upd (upd w (164 + t) 0) (164 + u) 1) 23 (w 23 + 1) else w) else w
def p_way (w : Wd) : Nat := if w 10 = 0 then 3 else 4
def p_walk : Nat → Wd → Wd
  | 0, w => w
  | f + 1, w => match p_nb w (nn w 8) (p_way w) with
    | none => p_walk f (p_turn w)
    | some t => if p_can w (some t) = true then (if p_enter (p_slide w t (p_way w)) t 20 ≤ 0 then p_walk f (p_enter (p_slide w t (p_way w)) t) else if p_enter (p_slide w t (p_way w)) t 22 < p_enter (p_slide w t (p_way w)) t 20 then p_walk f (p_enter (p_slide w t (p_way w)) t) else p_pause (p_enter (p_slide w t (p_way w)) t)) else p_walk f (p_turn w)
theorem p_walk_s (f : Nat) (w : Wd) : p_walk (f + 1) w = match p_nb w (nn w 8) (p_way w) with
    | none => p_walk f (p_turn w)
    | some t => if p_can w (some t) = true then (if p_enter (p_slide w t (p_way w)) t 20 ≤ 0 then p_walk f (p_enter (p_slide w t (p_way w)) t) else if p_enter (p_slide w t (p_way w)) t 22 < p_enter (p_slide w t (p_way w)) t 20 then p_walk f (p_enter (p_slide w t (p_way w)) t) else p_pause (p_enter (p_slide w t (p_way w)) t)) else p_walk f (p_turn w) := rfl
section STEP
variable {w : Wd}
theorem st_.turn (h : st_ w) : st_ (p_turn w) := (h.u (by unfold sk; omega)).u (by unfold sk; omega)
theorem st_.pause (h : st_ w) : st_ (p_pause w) := (h.u (by unfold sk; omega)).u (by unfold sk; omega)
theorem st_.count (h : st_ w) : st_ (p_count w) := ((h.u (by unfold sk; omega)).u (by unfold sk; omega)).u (by unfold sk; omega)
theorem st_.enter {t : Nat} (h : st_ w) : st_ (p_enter w t) := st_.u (by unfold sk; omega) (st_.count ((h.u (by unfold sk; omega)).u (by unfold sk; omega)))
theorem st_.slide {t m : Nat} (h : st_ w) : st_ (p_slide w t m) := by
  unfold p_slide
  split
  · exact h
  · split
    · exact h
    · split
      · split
        · exact ((h.u (by unfold sk; omega)).u (by unfold sk; omega)).u (by unfold sk; omega)
        · exact h
      · exact h
theorem st_.rc_eq {w1 : Wd} (e0 : w1 0 = w 0) (e1 : w1 1 = w 1) : p_rc w1 = p_rc w := by unfold p_rc; rw [nn_cg e0, nn_cg e1]
end STEP
section CW
variable {i : Fin 12} {hi : HI}
theorem C_turn : cs_ (sh_X7_turnBack i hi) i hi (p_turn (vw_ i hi)) := by
  unfold sh_X7_turnBack sh_X7_turnBack_13 p_turn
  rw [vr_10 i hi, vr_14 i hi]
  by_cases h : vw_ i hi 10 = 0
  · rw [if_neg (fun h9 => h9 h), if_pos (Or.inr rfl), if_pos h]
    exact cs_.ret (by rw [uw_14, uw_10]) ((fr_.refl i hi).u.u)
  · rw [if_pos h, if_pos (Or.inl rfl), if_neg h]
    exact cs_.ret (by rw [uw_14, uw_10]) ((fr_.refl i hi).u.u)
theorem C_pause : cs_ (sh_X7_pause i hi) i hi (p_pause (vw_ i hi)) := cs_.ret (by rw [uw_22, uw_11]; rfl) ((fr_.refl i hi).u.u)
theorem C_count : cs_ (sh_X7_countStep i hi) i hi (p_count (vw_ i hi)) := cs_.ret (by rw [uw_22, uw_13, uw_12, vr_12 i hi, vr_13 i hi, vr_22 i hi]; rfl) ((fr_.refl i hi).u.u.u)
theorem C_fall {v : Int32} : cs_ (sh_X7_fall i v hi) i hi (upd (upd (upd (vw_ i hi) 15 (vw_ i hi 15 + 1)) 11 v) 22 0) := cs_.ret (by rw [uw_22, uw_11, uw_15, vr_15 i hi]) ((fr_.refl i hi).u.u.u)
theorem C_enter {t : Nat} (hs : st_ (vw_ i hi)) (ht : t < 80) : cs_ (sh_X8_enter i (nI t) hi) i hi (p_enter (vw_ i hi) t) := by
  unfold sh_X8_enter
  have hs1 : st_ (vw_ i (am_u hi (wa i 6) 0 (nI t))) := by rw [uw_8]; exact hs.u (by unfold sk; omega)
  rw [C_colOf hs1 (by omega), bs, uw_8, nn_cg (upd_ne (by decide) : upd (vw_ i hi) 8 (nI t) 1 = vw_ i hi 1)]
  refine (C_count.fro ((fr_.refl i hi).u.u)).bind fun h1 e1 f1 => ?_
  rw [uw_9, uw_8] at e1
  rw [bs, at_n ht (by decide), put_n ht (by decide), vr_wear i h1 ht]
  refine cs_.ret ?_ f1.u
  rw [uw_wear ht, e1]
  unfold p_enter
  have e : p_count (upd (upd (vw_ i hi) 8 (nI t)) 9 (nI (t % nn (vw_ i hi) 1))) (324 + t) = vw_ i hi (324 + t) := by
    unfold p_count
    rw [upd_ne (by omega), upd_ne (by omega), upd_ne (by omega), upd_ne (by omega), upd_ne (by omega)]
  rw [e]
theorem C_can {o : Option Nat} (hs : st_ (vw_ i hi)) (ho : ∀ t, o = some t → t < 80) : sh_X8_canEnter i (oI o) hi = some (b2 (p_can (vw_ i hi) o)) := by
  unfold sh_X8_canEnter
  cases o with
  | none => rw [if_pos (show oI none = -1 from rfl)]; rfl
  | some t =>
    have ht := ho t rfl
    rw [if_neg (show ¬ oI (some t) = -1 from nI_m1 (by omega))]
    show (sh_X8_columnOf i (nI t) hi).bind (fun v1 => if sh_at (wa i 10) 10 v1 hi ≠ 0 then some (0 : Int32) else if sh_at (wa i 12) 80 (nI t) hi ≠ 0 then some (0 : Int32) else some (1 : Int32)) = _
    rw [C_colOf hs (by omega), bs, at_n (mod_c hs t) (by decide), vr_cur i hi (mod_c hs t), at_n ht (by decide), vr_spill i hi ht]
    rw [p_can_s]
    by_cases h1 : vw_ i hi (26 + t % nn (vw_ i hi) 1) = 0
    · rw [if_neg (fun h => h h1), decide_eq_true h1]
      by_cases h2 : vw_ i hi (244 + t) = 0
      · rw [if_neg (fun h => h h2), decide_eq_true h2]; rfl
      · rw [if_pos h2, decide_eq_false h2]; rfl
    · rw [if_pos h1, decide_eq_false h1]; rfl
theorem C_slide {t m : Nat} (hs : st_ (vw_ i hi)) (ht : t < p_rc (vw_ i hi)) (hm : m < 5) : cs_ (sh_X8_slideRug i (nI t) (nI m) hi) i hi (p_slide (vw_ i hi) t m) := by
  have h80 := hs.rc.2
  have ht80 : t < 80 := by omega
  unfold sh_X8_slideRug p_slide
  rw [at_n ht80 (by decide), vr_rug i hi ht80]
  by_cases h1 : vw_ i hi (164 + t) = 0
  · rw [if_neg (fun h => h h1), if_pos h1]
    exact cs_.ret rfl (fr_.refl i hi)
  · rw [if_pos h1, if_neg h1, C_nb hs ht80 hm, bs]
    cases hu : p_nb (vw_ i hi) t m with
    | none =>
      rw [if_pos (show oI none = -1 from rfl)]
      exact cs_.ret rfl (fr_.refl i hi)
    | some u =>
      have hu80 : u < 80 := Nat.lt_of_lt_of_le (p_nb_lt hs ht hu) h80
      rw [if_neg (show ¬ oI (some u) = -1 from nI_m1 (by omega))]
      show cs_ (if sh_at (wa i 14) 80 (nI u) hi ≠ 0 then some hi else if sh_X8_hasRoomForBowl i (nI u) hi = 0 then some hi else (some (sh_put (wa i 14) 80 (nI t) (0 : Int32) hi)).bind fun h2 => (some (sh_put (wa i 14) 80 (nI u) (1 : Int32) h2)).bind fun h3 => some (am_u h3 (wa i 0) 11 ((h3 (wa i 0) 11) + (1 : Int32)))) i hi (if vw_ i hi (164 + u) = 0 then (if p_free (vw_ i hi) u = true then upd (upd (upd (vw_ i hi) (164 + t) 0) (164 + u) 1) 23 (vw_ i hi 23 + 1) else vw_ i hi) else vw_ i hi)
      rw [at_n hu80 (by decide), vr_rug i hi hu80, C_room hu80, eq_of]
      by_cases h2 : vw_ i hi (164 + u) = 0
      · rw [if_neg (fun h => h h2), if_pos h2]
        by_cases h3 : p_free (vw_ i hi) u = true
        · rw [if_pos h3, if_pos h3, bs, bs, put_n ht80 (by decide), put_n hu80 (by decide)]
          refine cs_.ret ?_ ((fr_.refl i hi).u.u.u)
          rw [uw_23, vr_23 i (am_u (am_u hi (wa i 14) t 0) (wa i 14) u 1), uw_rug hu80, uw_rug ht80, upd_ne (by omega), upd_ne (by omega)]
        · rw [if_neg h3, if_neg h3]
          exact cs_.ret rfl (fr_.refl i hi)
      · rw [if_pos h2, if_neg h2]
        exact cs_.ret rfl (fr_.refl i hi)
/-- the loop over the tried steps -/
def wi_ (w : Wd) : Prop := st_ w ∧ w 8 = nI (nn w 8) ∧ nn w 8 < p_rc w
theorem wi_.turn {w : Wd} (h : wi_ w) : wi_ (p_turn w) := by
  have e8 : p_turn w 8 = w 8 := by unfold p_turn; rw [upd_ne (by decide), upd_ne (by decide)]
  have e0 : p_turn w 0 = w 0 := by unfold p_turn; rw [upd_ne (by decide), upd_ne (by decide)]
  have e1 : p_turn w 1 = w 1 := by unfold p_turn; rw [upd_ne (by decide), upd_ne (by decide)]
  refine ⟨h.1.turn, ?_, ?_⟩
  · rw [nn_cg e8, e8]; exact h.2.1
  · rw [nn_cg e8, st_.rc_eq e0 e1]; exact h.2.2
theorem p_enter_8 {w : Wd} {t : Nat} : p_enter w t 8 = nI t := by
  unfold p_enter p_count
  rw [upd_ne (by omega), upd_ne (by omega), upd_ne (by omega), upd_ne (by omega), upd_ne (by omega), upd_eq]
theorem p_enter_lo {w : Wd} {t k : Nat} (h : k = 0 ∨ k = 1 ∨ k = 20) : p_enter w t k = w k := by
  unfold p_enter p_count
  rw [upd_ne (by omega), upd_ne (by omega), upd_ne (by omega), upd_ne (by omega), upd_ne (by omega), upd_ne (by omega)]
theorem p_slide_lo {w : Wd} {t m k : Nat} (h : k < 164 ∧ k ≠ 23 ∨ 244 ≤ k) (ht : t < 80) (hu : ∀ u, p_nb w t m = some u → u < 80) : p_slide w t m k = w k := by
  unfold p_slide
  split
  · rfl
  · cases hu9 : p_nb w t m with
    | none => rfl
    | some u =>
      have := hu u hu9
      show (if w (164 + u) = 0 then (if p_free w u = true then upd (upd (upd w (164 + t) 0) (164 + u) 1) 23 (w 23 + 1) else w) else w) k = w k
      split
      · split
        · rw [upd_ne (by omega), upd_ne (by omega), upd_ne (by omega)]
        · rfl
      · rfl
theorem wi_.step {w : Wd} {t m : Nat} (h : st_ w) (ht : t < p_rc w) : wi_ (p_enter (p_slide w t m) t) := by
  have h80 := h.rc.2
  have hu : ∀ u, p_nb w t m = some u → u < 80 := fun u hu => Nat.lt_of_lt_of_le (p_nb_lt h ht hu) h80
  have e0 : p_enter (p_slide w t m) t 0 = w 0 := by rw [p_enter_lo (by omega), p_slide_lo (by omega) (by omega) hu]
  have e1 : p_enter (p_slide w t m) t 1 = w 1 := by rw [p_enter_lo (by omega), p_slide_lo (by omega) (by omega) hu]
  have e8 : nn (p_enter (p_slide w t m) t) 8 = t := nn_of p_enter_8 (by omega)
  refine ⟨h.slide.enter, ?_, ?_⟩
  · rw [e8]; exact p_enter_8
  · rw [e8, st_.rc_eq e0 e1]; exact ht
theorem p_way_lt (w : Wd) : p_way w < 5 ∧ (p_way w = 3 ∨ p_way w = 4) := by unfold p_way; split <;> omega
theorem C_walk_2 {G : Nat} : ∀ (f k F : Nat) (hi : HI), f < F → k + f < 2 ^ 31 → wi_ (vw_ i hi) → cs_ (sh_X8_walk_2 G i (nI (k + f)) F (nI k) hi) i hi (p_walk f (vw_ i hi))
  | f, k, 0, hi, hF, _, _ => absurd hF (Nat.not_lt_zero _)
  | 0, k, F + 1, hi, hF, hk, hw => by
    show cs_ (sh_X8_walk_2_b G i (nI k) (sh_X8_walk_2 G i (nI k) F) (nI k) hi) i hi (vw_ i hi)
    unfold sh_X8_walk_2_b
    rw [if_pos (Int32.le_refl _)]
    exact cs_.ret rfl (fr_.refl i hi)
  | f + 1, k, F + 1, hi, hF, hk, hw => by
    show cs_ (sh_X8_walk_2_b G i (nI (k + (f + 1))) (sh_X8_walk_2 G i (nI (k + (f + 1))) F) (nI k) hi) i hi (p_walk (f + 1) (vw_ i hi))
    have e9 : k + (f + 1) = (k + 1) + f := by omega
    have ih := fun hi => C_walk_2 (G := G) f (k + 1) F hi (by omega) (by omega)
    rw [← e9, ← nI_1 k] at ih
    unfold sh_X8_walk_2_b
    rw [if_neg (nI_ge (by omega) hk), vr_10 i hi]
    have h80 := hw.1.rc.2
    have hm := p_way_lt (vw_ i hi)
    have hgo : (if vw_ i hi 10 = 0 then sh_X8_walk_22 G i (nI (k + (f + 1))) (sh_X8_walk_2 G i (nI (k + (f + 1))) F) (nI k) (3 : Int32) hi else sh_X8_walk_22 G i (nI (k + (f + 1))) (sh_X8_walk_2 G i (nI (k + (f + 1))) F) (nI k) (4 : Int32) hi) = sh_X8_walk_22 G i (nI (k + (f + 1))) (sh_X8_walk_2 G i (nI (k + (f + 1))) F) (nI k) (nI (p_way (vw_ i hi))) hi := by
      unfold p_way
      split <;> rfl
    rw [hgo]
    unfold sh_X8_walk_22
    rw [vr_8 i hi, hw.2.1, C_nb hw.1 (by have := hw.2.2; omega) hm.1, bs, p_walk_s]
    cases ho : p_nb (vw_ i hi) (nn (vw_ i hi) 8) (p_way (vw_ i hi)) with
    | none =>
      rw [C_can hw.1 (fun t h => by cases h), bs, ne_of, if_neg (show ¬ p_can (vw_ i hi) none = true from fun h => by cases h)]
      exact C_turn.bind fun h1 e1 f1 => by
        have := ih h1 (by rw [e1]; exact hw.turn)
        rw [e1] at this
        exact this.fro f1
    | some t =>
      have ht : t < p_rc (vw_ i hi) := p_nb_lt hw.1 hw.2.2 ho
      rw [C_can hw.1 (fun t2 h => by cases h; omega), bs, ne_of]
      show cs_ (if p_can (vw_ i hi) (some t) = true then (sh_X8_slideRug i (nI t) (nI (p_way (vw_ i hi))) hi).bind fun h4 => (sh_X8_enter i (nI t) h4).bind fun h6 => if h6 (wa i 1) 9 ≤ 0 then sh_X8_walk_2 G i (nI (k + (f + 1))) F (nI k + 1) h6 else if h6 (wa i 6) 4 < h6 (wa i 1) 9 then sh_X8_walk_2 G i (nI (k + (f + 1))) F (nI k + 1) h6 else (sh_X7_pause i h6).bind fun h8 => some h8 else (sh_X7_turnBack i hi).bind fun h10 => sh_X8_walk_2 G i (nI (k + (f + 1))) F (nI k + 1) h10) i hi (if p_can (vw_ i hi) (some t) = true then (if p_enter (p_slide (vw_ i hi) t (p_way (vw_ i hi))) t 20 ≤ 0 then p_walk f (p_enter (p_slide (vw_ i hi) t (p_way (vw_ i hi))) t) else if p_enter (p_slide (vw_ i hi) t (p_way (vw_ i hi))) t 22 < p_enter (p_slide (vw_ i hi) t (p_way (vw_ i hi))) t 20 then p_walk f (p_enter (p_slide (vw_ i hi) t (p_way (vw_ i hi))) t) else p_pause (p_enter (p_slide (vw_ i hi) t (p_way (vw_ i hi))) t)) else p_walk f (p_turn (vw_ i hi)))
      by_cases hc : p_can (vw_ i hi) (some t) = true
      · rw [if_pos hc, if_pos hc]
        refine (C_slide hw.1 ht hm.1).bind fun h4 e4 f4 => ?_
        have hs4 : st_ (vw_ i h4) := by rw [e4]; exact hw.1.slide
        refine ((C_enter hs4 (by omega)).fro f4).bind fun h6 e6 f6 => ?_
        rw [e4] at e6
        have hw6 : wi_ (vw_ i h6) := by rw [e6]; exact wi_.step hw.1 ht
        have g6 := (ih h6 hw6).fro f6
        rw [vr_20 i h6, vr_22 i h6, e6]
        rw [e6] at g6
        by_cases c1 : p_enter (p_slide (vw_ i hi) t (p_way (vw_ i hi))) t 20 ≤ 0
        · rw [if_pos c1, if_pos c1]
          exact g6
        · rw [if_neg c1, if_neg c1]
          by_cases c2 : p_enter (p_slide (vw_ i hi) t (p_way (vw_ i hi))) t 22 < p_enter (p_slide (vw_ i hi) t (p_way (vw_ i hi))) t 20
          · rw [if_pos c2, if_pos c2]
            exact g6
          · rw [if_neg c2, if_neg c2]
            refine (C_pause.fro f6).bind fun h8 e8 f8 => ?_
            rw [e6] at e8
            exact cs_.ret e8 f8
      · rw [if_neg hc, if_neg hc]
        exact C_turn.bind fun h1 e1 f1 => by
          have := ih h1 (by rw [e1]; exact hw.turn)
          rw [e1] at this
          exact this.fro f1
theorem C_walk {G n : Nat} (hn : n < 2 ^ 31) (hG : n < G) (hw : wi_ (vw_ i hi)) : cs_ (sh_X8_walk G i (nI n) hi) i hi (p_walk n (vw_ i hi)) := by
  have h := C_walk_2 (G := G) n 0 G hi hG (by omega) hw
  rw [Nat.zero_add] at h
  exact h
end CW
