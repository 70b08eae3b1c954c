/-! what is known stays known -/
theorem ot_.cg {w w1 : Wd} {k : Nat} (e : w1 k = w k) (e0 : w1 0 = w 0) (e1 : w1 1 = w 1) (h : ot_ w k) : ot_ w1 k := by
  unfold ot_ at h ⊢
  rw [nn_cg e, nn_cg e0, nn_cg e1, e]
  exact h
theorem ti_.cg {w w1 : Wd} (e0 : w1 0 = w 0) (e1 : w1 1 = w 1) (e : ∀ k, 84 ≤ k → k < 404 → w1 k = w k) (h : ti_ w) : ti_ w1 := by
  obtain ⟨h1, h2, h3, h4⟩ := h
  refine ⟨fun t ht => (h1 t ht).cg (e _ (by omega) (by omega)), fun t ht => (h2 t ht).cg (e _ (by omega) (by omega)), fun t ht => (h3 t ht).cg (e _ (by omega) (by omega)), fun t ht h80 => ?_⟩
  rw [nn_cg e0, nn_cg e1] at ht
  rw [e _ (by omega) (by omega), e _ (by omega) (by omega), e _ (by omega) (by omega), e _ (by omega) (by omega)]
  exact h4 t ht h80
theorem wq_.cg {w w1 : Wd} (e0 : w1 0 = w 0) (e1 : w1 1 = w 1) (e8 : w1 8 = w 8) (e9 : w1 9 = w 9) (e10 : w1 10 = w 10) (e11 : w1 11 = w 11) (h : wq_ w) : wq_ w1 := by
  obtain ⟨h1, h2, h3, h4, h5⟩ := h
  refine ⟨h1.cg e8 e0 e1, ?_, ?_, h4.cg e10, h5.cg e11⟩
  · rw [nn_cg e9, nn_cg e1, e9]; exact h2
  · rw [nn_cg e9, nn_cg e1, nn_cg e8, e8]; exact h3
theorem ws_.cg {w w1 : Wd} (e20 : w1 20 = w 20) (e22 : w1 22 = w 22) (h : ws_ w) : ws_ w1 := by
  unfold ws_ at h ⊢
  rw [nn_cg e20, nn_cg e22, e22]
  exact h
def rk (k : Nat) : Prop := k = 0 ∨ k = 1 ∨ k = 2 ∨ k = 3 ∨ k = 6 ∨ k = 7 ∨ k = 12 ∨ k = 13 ∨ k = 16 ∨ k = 17 ∨ k = 18 ∨ k = 19 ∨ (26 ≤ k ∧ k < 36) ∨ (404 ≤ k ∧ k < 424)
theorem rs_.cg {K B x : Nat} {w w1 : Wd} (e : ∀ k, rk k → w1 k = w k) (h : rs_ K B x w) : rs_ K B x w1 := by
  obtain ⟨h3, h6, h7, h12, h13, h16, h18, h19, hc, hr⟩ := h
  have e0 := e 0 (by unfold rk; omega)
  have e1 := e 1 (by unfold rk; omega)
  have e2 := e 2 (by unfold rk; omega)
  have e7 := e 7 (by unfold rk; omega)
  have e17 := e 17 (by unfold rk; omega)
  have e18 := e 18 (by unfold rk; omega)
  have e19 := e 19 (by unfold rk; omega)
  refine ⟨h3.cg (e _ (by unfold rk; omega)), h6.cg (e _ (by unfold rk; omega)), ?_, h12.cg (e _ (by unfold rk; omega)), h13.cg (e _ (by unfold rk; omega)), h16.cg (e _ (by unfold rk; omega)) e0 e1, ?_, h19.cg e19, fun k hk => (hc k hk).cg (e _ (by unfold rk; omega)), fun k hk => ?_⟩
  · rw [nn_cg e7, nn_cg e0, nn_cg e2, e7]; exact h7
  · rw [nn_cg e18, nn_cg e17, e18]; exact h18
  · rw [nn_cg e19] at hk
    have := h19.2.2
    exact ⟨(hr k hk).1.cg (e _ (by unfold rk; omega)), (hr k hk).2.cg (e _ (by unfold rk; omega))⟩
theorem rs_.mono {K B x K1 B1 : Nat} {w : Wd} (hK : K ≤ K1) (hB : B ≤ B1) (h : rs_ K B x w) : rs_ K1 B1 x w := by
  obtain ⟨h3, h6, h7, h12, h13, h16, h18, h19, hc, hr⟩ := h
  exact ⟨h3, ⟨h6.1, h6.2.1, by have := h6.2.2; omega⟩, h7, ⟨h12.1, h12.2.1, by have := h12.2.2; omega⟩, ⟨h13.1, h13.2.1, by have := h13.2.2; omega⟩, h16, h18, h19, hc, fun k hk => ⟨⟨(hr k hk).1.1, (hr k hk).1.2.1, by have := (hr k hk).1.2.2; omega⟩, ⟨(hr k hk).2.1, (hr k hk).2.2.1, by have := (hr k hk).2.2.2; omega⟩⟩⟩
theorem ib_.mono {K B x K1 B1 : Nat} {w : Wd} (hK : K ≤ K1) (hB : B ≤ B1) (h : ib_ K B x w) : ib_ K1 B1 x w := ⟨h.1, h.2.1, h.2.2.1, h.2.2.2.mono hK hB⟩
section TI
variable {w : Wd}
theorem in_.upd {k j a b n : Nat} {v : Int32} (hv : v = nI n) (h1 : a ≤ n) (h2 : n ≤ b) (hb : b < 2 ^ 31) (h : in_ w j a b) : in_ (upd w k v) j a b := by
  by_cases e : j = k
  · subst e
    exact in_.of (by rw [upd_eq]; exact hv) h1 h2 hb
  · exact h.cg (upd_ne e)
/-- a bowl, a rug, a spill, wear: one tile -/
theorem ti_.bowl {t n : Nat} {v : Int32} (ht : t < nn w 0 * nn w 1) (h8 : t < 80) (hv : v = nI n) (hn : n ≤ 1) (h : ti_ w) : ti_ (upd w (84 + t) v) := by
  obtain ⟨h1, h2, h3, h4⟩ := h
  have e0 : nn (upd w (84 + t) v) 0 = nn w 0 := nn_cg (upd_ne (by omega))
  have e1 : nn (upd w (84 + t) v) 1 = nn w 1 := nn_cg (upd_ne (by omega))
  refine ⟨fun u hu => (h1 u hu).upd hv (Nat.zero_le _) hn (by omega), fun u hu => (h2 u hu).cg (upd_ne (by omega)), fun u hu => (h3 u hu).cg (upd_ne (by omega)), fun u hu h80 => ?_⟩
  rw [e0, e1] at hu
  rw [upd_ne (by omega), upd_ne (by omega), upd_ne (by omega), upd_ne (by omega)]
  exact h4 u hu h80
theorem ti_.rug {t n : Nat} {v : Int32} (ht : t < nn w 0 * nn w 1) (h8 : t < 80) (hv : v = nI n) (hn : n ≤ 1) (h : ti_ w) : ti_ (upd w (164 + t) v) := by
  obtain ⟨h1, h2, h3, h4⟩ := h
  have e0 : nn (upd w (164 + t) v) 0 = nn w 0 := nn_cg (upd_ne (by omega))
  have e1 : nn (upd w (164 + t) v) 1 = nn w 1 := nn_cg (upd_ne (by omega))
  refine ⟨fun u hu => (h1 u hu).cg (upd_ne (by omega)), fun u hu => (h2 u hu).upd hv (Nat.zero_le _) hn (by omega), fun u hu => (h3 u hu).cg (upd_ne (by omega)), fun u hu h80 => ?_⟩
  rw [e0, e1] at hu
  rw [upd_ne (by omega), upd_ne (by omega), upd_ne (by omega), upd_ne (by omega)]
  exact h4 u hu h80
theorem ti_.spill {t n : Nat} {v : Int32} (ht : t < nn w 0 * nn w 1) (h8 : t < 80) (hv : v = nI n) (hn : n ≤ 99) (h : ti_ w) : ti_ (upd w (244 + t) v) := by
  obtain ⟨h1, h2, h3, h4⟩ := h
  have e0 : nn (upd w (244 + t) v) 0 = nn w 0 := nn_cg (upd_ne (by omega))
  have e1 : nn (upd w (244 + t) v) 1 = nn w 1 := nn_cg (upd_ne (by omega))
  refine ⟨fun u hu => (h1 u hu).cg (upd_ne (by omega)), fun u hu => (h2 u hu).cg (upd_ne (by omega)), fun u hu => (h3 u hu).upd hv (Nat.zero_le _) hn (by omega), fun u hu h80 => ?_⟩
  rw [e0, e1] at hu
  rw [upd_ne (by omega), upd_ne (by omega), upd_ne (by omega), upd_ne (by omega)]
  exact h4 u hu h80
theorem ti_.wear {t : Nat} {v : Int32} (ht : t < nn w 0 * nn w 1) (h8 : t < 80) (h : ti_ w) : ti_ (upd w (324 + t) v) := by
  obtain ⟨h1, h2, h3, h4⟩ := h
  have e0 : nn (upd w (324 + t) v) 0 = nn w 0 := nn_cg (upd_ne (by omega))
  have e1 : nn (upd w (324 + t) v) 1 = nn w 1 := nn_cg (upd_ne (by omega))
  refine ⟨fun u hu => (h1 u hu).cg (upd_ne (by omega)), fun u hu => (h2 u hu).cg (upd_ne (by omega)), fun u hu => (h3 u hu).cg (upd_ne (by omega)), fun u hu h80 => ?_⟩
  rw [e0, e1] at hu
  rw [upd_ne (by omega), upd_ne (by omega), upd_ne (by omega), upd_ne (by omega)]
  exact h4 u hu h80
theorem ti_.lo {k : Nat} {v : Int32} (hk : k ≠ 0 ∧ k ≠ 1 ∧ (k < 84 ∨ 404 ≤ k)) (h : ti_ w) : ti_ (upd w k v) := h.cg (upd_ne (by omega)) (upd_ne (by omega)) (fun j _ _ => upd_ne (by omega))
theorem wq_.lo {k : Nat} {v : Int32} (hk : k ≠ 0 ∧ k ≠ 1 ∧ k ≠ 8 ∧ k ≠ 9 ∧ k ≠ 10 ∧ k ≠ 11) (h : wq_ w) : wq_ (upd w k v) := h.cg (upd_ne (by omega)) (upd_ne (by omega)) (upd_ne (by omega)) (upd_ne (by omega)) (upd_ne (by omega)) (upd_ne (by omega))
theorem ws_.lo {k : Nat} {v : Int32} (hk : k ≠ 20 ∧ k ≠ 22) (h : ws_ w) : ws_ (upd w k v) := h.cg (upd_ne (by omega)) (upd_ne (by omega))
theorem rs_.lo {K B x k : Nat} {v : Int32} (hk : ¬ rk k) (h : rs_ K B x w) : rs_ K B x (upd w k v) := h.cg fun j hj => upd_ne fun e => hk (e ▸ hj)
theorem wq_.w10 {n : Nat} {v : Int32} (hv : v = nI n) (hn : n ≤ 1) (h : wq_ w) : wq_ (upd w 10 v) := by
  obtain ⟨h1, h2, h3, h4, h5⟩ := h
  refine ⟨h1.cg (upd_ne (by omega)) (upd_ne (by omega)) (upd_ne (by omega)), ?_, ?_, h4.upd hv (Nat.zero_le _) hn (by omega), h5.cg (upd_ne (by omega))⟩
  · rw [nn_cg (upd_ne (by omega) : upd w 10 v 9 = w 9), nn_cg (upd_ne (by omega) : upd w 10 v 1 = w 1), upd_ne (by omega)]; exact h2
  · rw [nn_cg (upd_ne (by omega) : upd w 10 v 9 = w 9), nn_cg (upd_ne (by omega) : upd w 10 v 1 = w 1), nn_cg (upd_ne (by omega) : upd w 10 v 8 = w 8), upd_ne (by omega)]; exact h3
theorem wq_.w11 {n : Nat} {v : Int32} (hv : v = nI n) (hn : n ≤ 9) (h : wq_ w) : wq_ (upd w 11 v) := by
  obtain ⟨h1, h2, h3, h4, h5⟩ := h
  refine ⟨h1.cg (upd_ne (by omega)) (upd_ne (by omega)) (upd_ne (by omega)), ?_, ?_, h4.cg (upd_ne (by omega)), h5.upd hv (Nat.zero_le _) hn (by omega)⟩
  · rw [nn_cg (upd_ne (by omega) : upd w 11 v 9 = w 9), nn_cg (upd_ne (by omega) : upd w 11 v 1 = w 1), upd_ne (by omega)]; exact h2
  · rw [nn_cg (upd_ne (by omega) : upd w 11 v 9 = w 9), nn_cg (upd_ne (by omega) : upd w 11 v 1 = w 1), nn_cg (upd_ne (by omega) : upd w 11 v 8 = w 8), upd_ne (by omega)]; exact h3
theorem ws_.w22 {n : Nat} (hn : n = 0) : ws_ (upd w 22 (nI n)) := by
  intro h
  rw [nn_cg (upd_ne (by omega) : upd w 22 (nI n) 20 = w 20)] at h ⊢
  have e : nn (upd w 22 (nI n)) 22 = n := nn_of upd_eq (by omega)
  rw [e, upd_eq]
  exact ⟨rfl, by omega⟩
/-- the walker comes to a tile -/
theorem wq_.at {t : Nat} (ht : t < nn w 0 * nn w 1) (h8 : t < 80) (hc : 0 < nn w 1) (hc9 : nn w 1 ≤ 10) (h : wq_ w) : wq_ (upd (upd w 8 (nI t)) 9 (nI (t % nn w 1))) := by
  obtain ⟨h1, h2, h3, h4, h5⟩ := h
  have e0 : upd (upd w 8 (nI t)) 9 (nI (t % nn w 1)) 0 = w 0 := by rw [upd_ne (by omega), upd_ne (by omega)]
  have e1 : upd (upd w 8 (nI t)) 9 (nI (t % nn w 1)) 1 = w 1 := by rw [upd_ne (by omega), upd_ne (by omega)]
  have e8 : upd (upd w 8 (nI t)) 9 (nI (t % nn w 1)) 8 = nI t := by rw [upd_ne (by omega), upd_eq]
  have e9 : upd (upd w 8 (nI t)) 9 (nI (t % nn w 1)) 9 = nI (t % nn w 1) := upd_eq
  have hm := Nat.mod_lt t hc
  have n8 := nn_of e8 (by omega)
  have n9 := nn_of e9 (by omega)
  refine ⟨Or.inr ⟨by rw [n8, e8], by rw [n8, nn_cg e0, nn_cg e1]; exact ht⟩, ⟨by rw [n9, e9], by rw [n9, nn_cg e1]; exact hm⟩, fun _ => by rw [n9, n8, nn_cg e1], h4.cg (by rw [upd_ne (by omega), upd_ne (by omega)]), h5.cg (by rw [upd_ne (by omega), upd_ne (by omega)])⟩
end TI
theorem ib_.turn {K B x : Nat} {w : Wd} (h : ib_ K B x w) : ib_ K B x (p_turn w) := by
  obtain ⟨hs, ht, ⟨hq, hw⟩, hr⟩ := h
  refine ⟨hs.turn, ?_, ⟨?_, ?_⟩, ?_⟩
  · exact (ht.lo (by omega)).lo (by omega)
  · unfold p_turn
    refine wq_.lo (by omega) ?_
    by_cases c : w 10 = 0
    · rw [if_pos c]; exact hq.w10 (n := 1) rfl (by omega)
    · rw [if_neg c]; exact hq.w10 (n := 0) rfl (by omega)
  · exact (hw.lo (by omega)).lo (by omega)
  · exact (hr.lo (by unfold rk; omega)).lo (by unfold rk; omega)
theorem ib_.pause {K B x : Nat} {w : Wd} (hs : st_ w) (ht : ti_ w) (hq : wq_ w) (hr : rs_ K B x w) : ib_ K B x (p_pause w) := by
  refine ⟨hs.pause, ?_, ⟨?_, ?_⟩, ?_⟩
  · exact (ht.lo (by omega)).lo (by omega)
  · exact (hq.w11 (n := 1) rfl (by omega)).lo (by omega)
  · exact ws_.w22 rfl
  · exact (hr.lo (by unfold rk; omega)).lo (by unfold rk; omega)
theorem ib_.slide {K B x t m : Nat} {w : Wd} (htt : t < p_rc w) (h : ib_ K B x w) : ib_ K B x (p_slide w t m) := by
  obtain ⟨hs, ht, ⟨hq, hw⟩, hr⟩ := h
  have h80 := hs.rc.2
  have hsl := hs.slide (t := t) (m := m)
  unfold p_slide at hsl ⊢
  by_cases c : w (164 + t) = 0
  · rw [if_pos c]; exact ⟨hs, ht, ⟨hq, hw⟩, hr⟩
  rw [if_neg c] at hsl ⊢
  cases hu : p_nb w t m with
  | none => exact ⟨hs, ht, ⟨hq, hw⟩, hr⟩
  | some u =>
    have hlt := p_nb_lt hs htt hu
    rw [hu] at hsl
    show ib_ K B x (if w (164 + u) = 0 then (if p_free w u = true then upd (upd (upd w (164 + t) 0) (164 + u) 1) 23 (w 23 + 1) else w) else w)
    by_cases c1 : w (164 + u) = 0
    case neg => rw [if_neg c1]; exact ⟨hs, ht, ⟨hq, hw⟩, hr⟩
    rw [if_pos c1]
    by_cases c2 : p_free w u = true
    case neg => rw [if_neg c2]; exact ⟨hs, ht, ⟨hq, hw⟩, hr⟩
    rw [if_pos c2]
    have hsl : st_ (if w (164 + u) = 0 then (if p_free w u = true then upd (upd (upd w (164 + t) 0) (164 + u) 1) 23 (w 23 + 1) else w) else w) := hsl
    rw [if_pos c1, if_pos c2] at hsl
    have ht1 := ht.rug (t := t) (n := 0) htt (by omega) rfl (by omega)
    have ht2 := ht1.rug (t := u) (n := 1) (v := 1) (by rw [nn_cg (upd_ne (by omega) : upd w (164 + t) (nI 0) 0 = w 0), nn_cg (upd_ne (by omega) : upd w (164 + t) (nI 0) 1 = w 1)]; exact hlt) (by omega) rfl (by omega)
    refine ⟨hsl, ht2.lo (by omega), ⟨?_, ?_⟩, ?_⟩
    · exact ((hq.lo (by omega)).lo (by omega)).lo (by omega)
    · exact ((hw.lo (by omega)).lo (by omega)).lo (by omega)
    · exact ((hr.lo (by unfold rk; omega)).lo (by unfold rk; omega)).lo (by unfold rk; omega)
theorem rs_.w1213 {K B x : Nat} {w : Wd} (hB : B < 2 ^ 30) (h : rs_ K B x w) : rs_ K (B + 1) x (upd (upd w 12 (w 12 + 1)) 13 (w 13 + 1)) := by
  obtain ⟨h3, h6, h7, h12, h13, h16, h18, h19, hc, hr⟩ := h.mono (Nat.le_refl K) (Nat.le_succ B)
  have q12 := h.2.2.2.1
  have q13 := h.2.2.2.2.1
  have u : ∀ k, k ≠ 12 → k ≠ 13 → upd (upd w 12 (w 12 + 1)) 13 (w 13 + 1) k = w k := fun k a b => by rw [upd_ne b, upd_ne a]
  refine ⟨h3.cg (u _ (by omega) (by omega)), h6.cg (u _ (by omega) (by omega)), ?_, ?_, ?_, h16.cg (u _ (by omega) (by omega)) (u _ (by omega) (by omega)) (u _ (by omega) (by omega)), ?_, h19.cg (u _ (by omega) (by omega)), fun k hk => (hc k hk).cg (u _ (by omega) (by omega)), fun k hk => ?_⟩
  · rw [nn_cg (u 7 (by omega) (by omega)), nn_cg (u 0 (by omega) (by omega)), nn_cg (u 2 (by omega) (by omega)), u 7 (by omega) (by omega)]; exact h7
  · have e : upd (upd w 12 (w 12 + 1)) 13 (w 13 + 1) 12 = nI (nn w 12 + 1) := by
      rw [upd_ne (by omega), upd_eq, ← nI_1, ← q12.1]
    exact in_.of e (by omega) (by have := q12.2.2; omega) (by omega)
  · have e : upd (upd w 12 (w 12 + 1)) 13 (w 13 + 1) 13 = nI (nn w 13 + 1) := by
      rw [upd_eq, ← nI_1, ← q13.1]
    exact in_.of e (by omega) (by have := q13.2.2; omega) (by omega)
  · rw [nn_cg (u 18 (by omega) (by omega)), nn_cg (u 17 (by omega) (by omega)), u 18 (by omega) (by omega)]; exact h18
  · rw [nn_cg (u 19 (by omega) (by omega))] at hk
    have := h19.2.2
    exact ⟨(hr k hk).1.cg (u _ (by omega) (by omega)), (hr k hk).2.cg (u _ (by omega) (by omega))⟩
/-- a step: all but the pause -/
theorem ib_.enter {K B x t : Nat} {w : Wd} (hB : B < 2 ^ 30) (htt : t < p_rc w) (h : ib_ K B x w) : st_ (p_enter w t) ∧ ti_ (p_enter w t) ∧ wq_ (p_enter w t) ∧ rs_ K (B + 1) x (p_enter w t) ∧ (0 < nn w 20 → p_enter w t 22 = nI (nn w 22 + 1)) := by
  obtain ⟨hs, ht, ⟨hq, hw⟩, hr⟩ := h
  have h80 := hs.rc.2
  have hc := hs.c
  refine ⟨hs.enter, ?_, ?_, ?_, fun h20 => ?_⟩
  · have h1 : ti_ (p_count (upd (upd w 8 (nI t)) 9 (nI (t % nn w 1)))) := ((((ht.lo (by omega)).lo (by omega)).lo (by omega)).lo (by omega)).lo (by omega)
    refine h1.wear ?_ (by omega)
    have e0 : p_count (upd (upd w 8 (nI t)) 9 (nI (t % nn w 1))) 0 = w 0 := by
      unfold p_count
      rw [upd_ne (by omega), upd_ne (by omega), upd_ne (by omega), upd_ne (by omega), upd_ne (by omega)]
    have e1 : p_count (upd (upd w 8 (nI t)) 9 (nI (t % nn w 1))) 1 = w 1 := by
      unfold p_count
      rw [upd_ne (by omega), upd_ne (by omega), upd_ne (by omega), upd_ne (by omega), upd_ne (by omega)]
    rw [nn_cg e0, nn_cg e1]
    exact htt
  · exact ((((hq.at htt (by omega) (by omega) hc.2.2).lo (by omega)).lo (by omega)).lo (by omega)).lo (by omega)
  · have h1 : rs_ K B x (upd (upd w 8 (nI t)) 9 (nI (t % nn w 1))) := (hr.lo (by unfold rk; omega)).lo (by unfold rk; omega)
    exact ((h1.w1213 hB).lo (by unfold rk; omega)).lo (by unfold rk; omega)
  · unfold p_enter p_count
    rw [upd_ne (by omega), upd_eq, upd_ne (by omega), upd_ne (by omega), ← nI_1, ← (hw h20).1]
theorem ib_.walk {K x : Nat} : ∀ (n B : Nat) (w : Wd), B + n < 2 ^ 30 → ib_ K B x w → w 8 ≠ -1 → ib_ K (B + n) x (p_walk n w)
  | 0, B, w, hB, h, h8 => h
  | n + 1, B, w, hB, h, h8 => by
    have hs := h.1
    have h80 := hs.rc.2
    obtain ⟨e8, h8b⟩ : w 8 = nI (nn w 8) ∧ nn w 8 < p_rc w := by
      rcases h.2.2.1.1.1 with g | g
      · exact absurd g h8
      · exact g
    have hturn : ib_ K (B + (n + 1)) x (p_walk n (p_turn w)) := by
      have g := ib_.walk n B (p_turn w) (by omega) h.turn (by
        have : p_turn w 8 = w 8 := by unfold p_turn; rw [upd_ne (by omega), upd_ne (by omega)]
        rw [this]; exact h8)
      exact g.mono (Nat.le_refl _) (by omega)
    rw [p_walk_s]
    cases ho : p_nb w (nn w 8) (p_way w) with
    | none => exact hturn
    | some t =>
      have ht := p_nb_lt hs h8b ho
      show ib_ K (B + (n + 1)) x (if p_can w (some t) = true then (if p_enter (p_slide w t (p_way w)) t 20 ≤ 0 then p_walk n (p_enter (p_slide w t (p_way w)) t) else if p_enter (p_slide w t (p_way w)) t 22 < p_enter (p_slide w t (p_way w)) t 20 then p_walk n (p_enter (p_slide w t (p_way w)) t) else p_pause (p_enter (p_slide w t (p_way w)) t)) else p_walk n (p_turn w))
      by_cases c : p_can w (some t) = true
      case neg => rw [if_neg c]; exact hturn
      rw [if_pos c]
      have hsl := h.slide (t := t) (m := p_way w) ht
      have hu : ∀ u, p_nb w t (p_way w) = some u → u < 80 := fun u hu => Nat.lt_of_lt_of_le (p_nb_lt hs ht hu) h80
      have lo : ∀ k, k < 23 → p_slide w t (p_way w) k = w k := fun k hk => p_slide_lo (by omega) (by omega) hu
      have ht2 : t < p_rc (p_slide w t (p_way w)) := by rw [st_.rc_eq (lo 0 (by omega)) (lo 1 (by omega))]; exact ht
      obtain ⟨a1, a2, a3, a4, a5⟩ := hsl.enter (t := t) (by omega) ht2
      have e20 : p_enter (p_slide w t (p_way w)) t 20 = w 20 := by rw [p_enter_lo (by omega), lo 20 (by omega)]
      have n8 : p_enter (p_slide w t (p_way w)) t 8 ≠ -1 := by rw [p_enter_8]; exact nI_m1 (by omega)
      have k20 := hs.2.2.2.2.2.2.1
      have k22 := h.2.2.1.2
      by_cases c1 : p_enter (p_slide w t (p_way w)) t 20 ≤ 0
      · rw [if_pos c1]
        have e0 : nn w 20 = 0 := by
          rw [e20, k20.1] at c1
          by_cases hz : nn w 20 = 0
          · exact hz
          · exact absurd c1 (nI_nle (by omega) (by have := k20.2.2; omega))
        have g : ib_ K (B + 1) x (p_enter (p_slide w t (p_way w)) t) := ⟨a1, a2, ⟨a3, fun hp => by rw [nn_cg e20, e0] at hp; omega⟩, a4⟩
        have := ib_.walk n (B + 1) _ (by omega) g n8
        rw [show B + (n + 1) = B + 1 + n by omega]
        exact this
      · rw [if_neg c1]
        have e0 : 0 < nn w 20 := by
          rw [e20, k20.1] at c1
          by_cases hz : nn w 20 = 0
          · rw [hz] at c1; exact absurd (by decide) c1
          · omega
        have e22 := a5 (by rw [nn_cg (lo 20 (by omega))]; exact e0)
        rw [nn_cg (lo 22 (by omega))] at e22
        by_cases c2 : p_enter (p_slide w t (p_way w)) t 22 < p_enter (p_slide w t (p_way w)) t 20
        · rw [if_pos c2]
          have hb := (k22 e0).2
          have hb2 := k20.2.2
          rw [e22, e20, k20.1] at c2
          have c3 := (nI_ltI (by omega) (by omega)).mp c2
          have g : ib_ K (B + 1) x (p_enter (p_slide w t (p_way w)) t) := ⟨a1, a2, ⟨a3, fun hp => by
            have e9 : nn (p_enter (p_slide w t (p_way w)) t) 22 = nn w 22 + 1 := nn_of e22 (by omega)
            rw [e9, nn_cg e20]
            exact ⟨e22, c3⟩⟩, a4⟩
          have := ib_.walk n (B + 1) _ (by omega) g n8
          rw [show B + (n + 1) = B + 1 + n by omega]
          exact this
        · rw [if_neg c2]
          exact (ib_.pause a1 a2 a3 a4).mono (Nat.le_refl _) (by omega)
