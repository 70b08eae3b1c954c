/-! the rest of a minute keeps what is known; a minute -/
theorem ib_.ci {K B x : Nat} {w : Wd} (h : ib_ K B x w) : ci_ w := ⟨h.1, h.2.2.2.2.2.2.2.2.1, h.2.2.2.2.2.2.2.2.2.1, h.2.2.1.1.1⟩
theorem ib_.wi {K B x : Nat} {w : Wd} (h : ib_ K B x w) (h8 : w 8 ≠ -1) : wi_ w := by
  rcases h.2.2.1.1.1 with g | g
  · exact absurd g h8
  · exact ⟨h.1, g.1, g.2⟩
theorem rs_.w16 {K B x u : Nat} {w : Wd} (hu : u < nn w 0 * nn w 1) (h31 : u < 2 ^ 31) (h : rs_ K B x w) : rs_ K B x (upd w 16 (nI u)) := by
  obtain ⟨h3, h6, h7, h12, h13, h16, h18, h19, hc, hr⟩ := h
  have e : ∀ k, k ≠ 16 → upd w 16 (nI u) k = w k := fun k hk => upd_ne hk
  refine ⟨h3.cg (e _ (by omega)), h6.cg (e _ (by omega)), ?_, h12.cg (e _ (by omega)), h13.cg (e _ (by omega)), Or.inr ?_, ?_, h19.cg (e _ (by omega)), fun k hk => (hc k hk).cg (e _ (by omega)), fun k hk => ?_⟩
  · rw [nn_cg (e 7 (by omega)), nn_cg (e 0 (by omega)), nn_cg (e 2 (by omega)), e 7 (by omega)]; exact h7
  · rw [nn_of upd_eq h31, upd_eq, nn_cg (e 0 (by omega)), nn_cg (e 1 (by omega))]
    exact ⟨rfl, hu⟩
  · rw [nn_cg (e 18 (by omega)), nn_cg (e 17 (by omega)), e 18 (by omega)]; exact h18
  · rw [nn_cg (e 19 (by omega))] at hk
    have := h19.2.2
    exact ⟨(hr k hk).1.cg (e _ (by omega)), (hr k hk).2.cg (e _ (by omega))⟩
theorem rs_.w18 {K B x u : Nat} {w : Wd} (hu : u < nn w 17 ∨ u = 0) (h31 : u < 2 ^ 31) (h : rs_ K B x w) : rs_ K B x (upd w 18 (nI u)) := by
  obtain ⟨h3, h6, h7, h12, h13, h16, h18, h19, hc, hr⟩ := h
  have e : ∀ k, k ≠ 18 → upd w 18 (nI u) k = w k := fun k hk => upd_ne hk
  refine ⟨h3.cg (e _ (by omega)), h6.cg (e _ (by omega)), ?_, h12.cg (e _ (by omega)), h13.cg (e _ (by omega)), h16.cg (e _ (by omega)) (e _ (by omega)) (e _ (by omega)), ?_, h19.cg (e _ (by omega)), fun k hk => (hc k hk).cg (e _ (by omega)), fun k hk => ?_⟩
  · rw [nn_cg (e 7 (by omega)), nn_cg (e 0 (by omega)), nn_cg (e 2 (by omega)), e 7 (by omega)]; exact h7
  · rw [nn_of upd_eq h31, nn_cg (e 17 (by omega)), upd_eq]
    exact ⟨rfl, hu⟩
  · rw [nn_cg (e 19 (by omega))] at hk
    have := h19.2.2
    exact ⟨(hr k hk).1.cg (e _ (by omega)), (hr k hk).2.cg (e _ (by omega))⟩
theorem ib_.catm {K B x : Nat} {w : Wd} (h : ib_ K B x w) (h1 : w 16 ≠ -1) (h2 : nn w 17 ≠ 0) : ib_ K B x (p_catm w) ∧ p_catm w 16 ≠ -1 := by
  obtain ⟨hs, ht, ⟨hq, hw⟩, hr⟩ := h
  have h80 := hs.rc.2
  have k17 := hs.2.2.2.2.2.1
  have h16 := hr.2.2.2.2.2.1
  obtain ⟨h16, hb⟩ : w 16 = nI (nn w 16) ∧ nn w 16 < p_rc w := by
    rcases h16 with g | g
    · exact absurd g h1
    · exact g
  have hm : (nn w 18 + 1) % nn w 17 < nn w 17 := Nat.mod_lt _ (by omega)
  have hm31 : (nn w 18 + 1) % nn w 17 < 2 ^ 31 := by have := k17.2.2; omega
  have fin : ∀ w1 : Wd, ib_ K B x w1 → nn w1 17 = nn w 17 → ib_ K B x (upd w1 18 (nI ((nn w 18 + 1) % nn w 17))) := fun w1 g e => ⟨g.1.u (by unfold sk; omega), g.2.1.lo (by omega), ⟨g.2.2.1.1.lo (by omega), g.2.2.1.2.lo (by omega)⟩, g.2.2.2.w18 (Or.inl (by rw [e]; exact hm)) hm31⟩
  unfold p_catm
  cases hu : p_nb w (nn w 16) (nn w (54 + nn w 18)) with
  | none =>
    refine ⟨fin w ⟨hs, ht, ⟨hq, hw⟩, hr⟩ rfl, ?_⟩
    rw [upd_ne (by omega)]; exact h1
  | some u =>
    have hlt := p_nb_lt hs hb hu
    show ib_ K B x (upd (if w (244 + u) = 0 then upd w 16 (nI u) else w) 18 (nI ((nn w 18 + 1) % nn w 17))) ∧ upd (if w (244 + u) = 0 then upd w 16 (nI u) else w) 18 (nI ((nn w 18 + 1) % nn w 17)) 16 ≠ -1
    by_cases c : w (244 + u) = 0
    · rw [if_pos c]
      refine ⟨fin _ ⟨hs.u (by unfold sk; omega), ht.lo (by omega), ⟨hq.lo (by omega), hw.lo (by omega)⟩, hr.w16 hlt (by omega)⟩ (nn_cg (upd_ne (by omega))), ?_⟩
      rw [upd_ne (by omega), upd_eq]; exact nI_m1 (by omega)
    · rw [if_neg c]
      refine ⟨fin w ⟨hs, ht, ⟨hq, hw⟩, hr⟩ rfl, ?_⟩
      rw [upd_ne (by omega)]; exact h1
theorem ib_.bowl {K B x : Nat} {w : Wd} (h : ib_ K B x w) (h1 : w 16 ≠ -1) : ib_ K B x (p_bowl w) := by
  obtain ⟨hs, ht, ⟨hq, hw⟩, hr⟩ := h
  have h80 := hs.rc.2
  have k4 := hs.2.2.2.1
  have k5 := hs.2.2.2.2.1
  obtain ⟨h16, hb⟩ : w 16 = nI (nn w 16) ∧ nn w 16 < p_rc w := by
    rcases hr.2.2.2.2.2.1 with g | g
    · exact absurd g h1
    · exact g
  have h2 : ib_ K B x (p_spl w) := by
    refine ⟨hs.spl, ?_, ⟨?_, ?_⟩, ?_⟩
    · have t1 := ht.bowl (t := nn w 16) (n := 0) (v := 0) hb (by omega) rfl (by omega)
      exact t1.spill (t := nn w 16) (n := nn w 4) (by rw [nn_cg (upd_ne (by omega) : upd w (84 + nn w 16) 0 0 = w 0), nn_cg (upd_ne (by omega) : upd w (84 + nn w 16) 0 1 = w 1)]; exact hb) (by omega) k4.1 k4.2.2
    · exact (hq.lo (by omega)).lo (by omega)
    · exact (hw.lo (by omega)).lo (by omega)
    · exact (hr.lo (by unfold rk; omega)).lo (by unfold rk; omega)
  obtain ⟨gs, gt, ⟨gq, gw⟩, gr⟩ := h2
  unfold p_bowl
  by_cases c1 : w 8 = w 16
  · rw [if_neg (fun g => g c1)]
    unfold p_fall
    refine ⟨((gs.u (by unfold sk; omega)).u (by unfold sk; omega)).u (by unfold sk; omega), ((gt.lo (by omega)).lo (by omega)).lo (by omega), ⟨?_, ws_.w22 rfl⟩, ((gr.lo (by unfold rk; omega)).lo (by unfold rk; omega)).lo (by unfold rk; omega)⟩
    exact ((gq.lo (by omega)).w11 (n := nn w 5) (by rw [p_spl_lo (by omega)]; exact k5.1) k5.2.2).lo (by omega)
  · rw [if_pos c1]
    by_cases c2 : w 8 = -1
    · rw [if_pos c2]; exact ⟨gs, gt, ⟨gq, gw⟩, gr⟩
    · rw [if_neg c2]
      by_cases c3 : w 21 < nI (p_dist w (nn w 8) (nn w 16))
      · rw [if_pos c3]; exact ⟨gs, gt, ⟨gq, gw⟩, gr⟩
      · rw [if_neg c3]
        unfold p_startle
        by_cases c4 : nI (nn (p_spl w) 16 % nn (p_spl w) 1) = p_spl w 9
        · rw [if_pos c4]; exact ⟨gs, gt, ⟨gq, gw⟩, gr⟩
        · rw [if_neg c4]
          by_cases c5 : p_spl w 9 ≤ nI (nn (p_spl w) 16 % nn (p_spl w) 1)
          · rw [if_pos c5]
            exact ⟨gs.u (by unfold sk; omega), gt.lo (by omega), ⟨gq.w10 (n := 0) rfl (by omega), gw.lo (by omega)⟩, gr.lo (by unfold rk; omega)⟩
          · rw [if_neg c5]
            exact ⟨gs.u (by unfold sk; omega), gt.lo (by omega), ⟨gq.w10 (n := 1) rfl (by omega), gw.lo (by omega)⟩, gr.lo (by unfold rk; omega)⟩
theorem ib_.cat {K B x : Nat} {w : Wd} (h : ib_ K B x w) : ib_ K B x (p_cat w) := by
  unfold p_cat
  by_cases c : w 16 = -1 ∨ nn w 17 = 0
  · rw [if_pos c]; exact h
  rw [if_neg c]
  obtain ⟨g, g1⟩ := h.catm (fun e => c (Or.inl e)) (fun e => c (Or.inr e))
  by_cases c1 : p_catm w (84 + nn (p_catm w) 16) ≤ 0
  · rw [if_pos c1]; exact g
  · rw [if_neg c1]; exact g.bowl g1
theorem ib_.dry1 {K B x k : Nat} {w : Wd} (hk : k < p_rc w) (h : ib_ K B x w) : ib_ K B x (p_dry1 w k) := by
  obtain ⟨hs, ht, ⟨hq, hw⟩, hr⟩ := h
  have h80 := hs.rc.2
  have hsp := ht.2.2.1 k (by omega)
  unfold p_dry1
  by_cases c : w (244 + k) ≤ 0
  · rw [if_pos c]; exact ⟨hs, ht, ⟨hq, hw⟩, hr⟩
  rw [if_neg c]
  have key : ∀ d : Nat, d = 1 ∨ d = 2 → ∃ n, n ≤ 99 ∧ (if w (244 + k) - nI d < 0 then 0 else w (244 + k) - nI d) = nI n := fun d hd => by
    rw [hsp.1]
    by_cases c2 : nn w (244 + k) < d
    · rw [if_pos (pk_sneg (by omega) c2)]
      exact ⟨0, by omega, rfl⟩
    · rw [pk_sub (by omega), if_neg (nI_pos (by have := hsp.2.2; omega))]
      exact ⟨nn w (244 + k) - d, by have := hsp.2.2; omega, rfl⟩
  obtain ⟨n, hn, e⟩ : ∃ n, n ≤ 99 ∧ (if w (244 + k) - (if w (164 + k) ≤ 0 then 1 else 2) < 0 then 0 else w (244 + k) - (if w (164 + k) ≤ 0 then 1 else 2)) = nI n := by
    by_cases c2 : w (164 + k) ≤ 0
    · rw [if_pos c2]; exact key 1 (Or.inl rfl)
    · rw [if_neg c2]; exact key 2 (Or.inr rfl)
  rw [e]
  exact ⟨hs.u (by unfold sk; omega), ht.spill hk (by omega) rfl hn, ⟨hq.lo (by omega), hw.lo (by omega)⟩, hr.lo (by unfold rk; omega)⟩
theorem p_dry1_lo {w : Wd} {k j : Nat} (hj : j < 244) : p_dry1 w k j = w j := by
  unfold p_dry1
  split
  · rfl
  · exact upd_ne (by omega)
theorem ib_.dryN {K B x : Nat} : ∀ (f k : Nat) (w : Wd), k + f ≤ p_rc w → ib_ K B x w → ib_ K B x (p_dryN f k w)
  | 0, _, _, _, h => h
  | f + 1, k, w, hk, h => by
    rw [p_dryN_s]
    exact ib_.dryN f (k + 1) _ (by rw [st_.rc_eq (p_dry1_lo (by omega)) (p_dry1_lo (by omega))]; omega) (h.dry1 (by omega))
theorem p_dryN_lo {j : Nat} (hj : j < 244) : ∀ (f k : Nat) (w : Wd), p_dryN f k w j = w j
  | 0, _, _ => rfl
  | f + 1, k, w => by rw [p_dryN_s, p_dryN_lo hj f (k + 1), p_dry1_lo hj]
theorem rs_.w26 {K B x k n : Nat} {v : Int32} {w : Wd} (hk : k < 10) (hv : v = nI n) (hn : n ≤ 1) (h : rs_ K B x w) : rs_ K B x (upd w (26 + k) v) := by
  obtain ⟨h3, h6, h7, h12, h13, h16, h18, h19, hc, hr⟩ := h
  have e : ∀ j, j ≠ 26 + k → upd w (26 + k) v j = w j := fun j hj => upd_ne hj
  refine ⟨h3.cg (e _ (by omega)), h6.cg (e _ (by omega)), ?_, h12.cg (e _ (by omega)), h13.cg (e _ (by omega)), h16.cg (e _ (by omega)) (e _ (by omega)) (e _ (by omega)), ?_, h19.cg (e _ (by omega)), fun j hj => (hc j hj).upd hv (Nat.zero_le _) hn (by omega), fun j hj => ?_⟩
  · rw [nn_cg (e 7 (by omega)), nn_cg (e 0 (by omega)), nn_cg (e 2 (by omega)), e 7 (by omega)]; exact h7
  · rw [nn_cg (e 18 (by omega)), nn_cg (e 17 (by omega)), e 18 (by omega)]; exact h18
  · rw [nn_cg (e 19 (by omega))] at hj
    have := h19.2.2
    exact ⟨(hr j hj).1.cg (e _ (by omega)), (hr j hj).2.cg (e _ (by omega))⟩
theorem one_sub {v : Int32} {n : Nat} (hv : v = nI n) (hn : n ≤ 1) : 1 - v = nI (1 - n) := by
  subst hv
  exact pk_sub (a := 1) (b := n) hn
theorem ib_.blow1 {K B x k : Nat} {w : Wd} (hk : k < 10) (h : ib_ K B x w) : ib_ K B x (p_blow1 w k) := by
  obtain ⟨hs, ht, ⟨hq, hw⟩, hr⟩ := h
  have hc := hr.2.2.2.2.2.2.2.2.1 k hk
  unfold p_blow1
  split
  · exact ⟨hs, ht, ⟨hq, hw⟩, hr⟩
  · split
    · exact ⟨hs, ht, ⟨hq, hw⟩, hr⟩
    · exact ⟨hs.u (by unfold sk; omega), ht.lo (by omega), ⟨hq.lo (by omega), hw.lo (by omega)⟩, hr.w26 hk (one_sub hc.1 hc.2.2) (by omega)⟩
theorem ib_.blowN {K B x : Nat} : ∀ (f k : Nat) (w : Wd), k + f ≤ 10 → ib_ K B x w → ib_ K B x (p_blowN f k w)
  | 0, _, _, _, h => h
  | f + 1, k, w, hk, h => by
    rw [p_blowN_s]
    exact ib_.blowN f (k + 1) _ (by omega) (h.blow1 (by omega))
theorem wq_.off {w : Wd} (h : wq_ w) : wq_ (upd w 8 (-1)) := by
  obtain ⟨h1, h2, h3, h4, h5⟩ := h
  refine ⟨Or.inl upd_eq, ?_, fun g => absurd upd_eq g, h4.cg (upd_ne (by omega)), h5.cg (upd_ne (by omega))⟩
  rw [nn_cg (upd_ne (by omega) : upd w 8 (-1) 9 = w 9), nn_cg (upd_ne (by omega) : upd w 8 (-1) 1 = w 1), upd_ne (by omega)]
  exact h2
theorem ib_.reloc {K B : Nat} {w : Wd} (h : ib_ K B 0 w) : ib_ K B 0 (p_reloc w) := by
  obtain ⟨hs, ht, ⟨hq, hw⟩, hr⟩ := h
  have h80 := hs.rc.2
  have hc := hs.c
  unfold p_reloc
  by_cases c : p_out w = true ∧ ¬ (w 8 ≠ -1 ∧ p_lies w (nn w 8) = true)
  case neg => rw [if_neg c]; exact ⟨hs, ht, ⟨hq, hw⟩, hr⟩
  rw [if_pos c]
  have g : ib_ K B 0 (upd w 8 (-1)) := ⟨hs.u (by unfold sk; omega), ht.lo (by omega), ⟨hq.off, hw.lo (by omega)⟩, hr.lo (by unfold rk; omega)⟩
  have e0 : nn (upd w 8 (-1)) 0 = nn w 0 := nn_cg (upd_ne (by omega))
  have e1 : nn (upd w 8 (-1)) 1 = nn w 1 := nn_cg (upd_ne (by omega))
  have e2 : nn (upd w 8 (-1)) 2 = nn w 2 := nn_cg (upd_ne (by omega))
  have e7 : nn (upd w 8 (-1)) 7 = nn w 7 := nn_cg (upd_ne (by omega))
  cases hk : p_near (upd w 8 (-1)) (nn w 1) 0 with
  | none => exact g
  | some k =>
    show ib_ K B 0 (p_sett (upd w 8 (-1)) k)
    have hkc := p_try_lt (p_near_lt hk)
    obtain ⟨gs, gt, ⟨gq, gw⟩, gr⟩ := g
    have hlt := row_tile gs gr.2.2.1.2 hkc
    have hmod : (p_row (upd w 8 (-1)) * nn (upd w 8 (-1)) 1 + k) % nn (upd w 8 (-1)) 1 = k := by
      exact Nat.mul_add_mod_of_lt hkc
    unfold p_sett
    have a := gq.at (t := p_row (upd w 8 (-1)) * nn (upd w 8 (-1)) 1 + k) hlt (by have := gs.rc.2; omega) (by omega) (by omega)
    rw [hmod] at a
    exact ⟨(gs.u (by unfold sk; omega)).u (by unfold sk; omega), (gt.lo (by omega)).lo (by omega), ⟨a, (gw.lo (by omega)).lo (by omega)⟩, (gr.lo (by unfold rk; omega)).lo (by unfold rk; omega)⟩
/-- a night's end; a minute -/
def p_min (w : Wd) : Wd := upd w 7 (w 7 + 1)
theorem ib_.mnt {K B : Nat} {w : Wd} (h : ib_ K B 0 w) : ib_ K B 1 (p_min w) := by
  obtain ⟨hs, ht, ⟨hq, hw⟩, hr⟩ := h
  have hrr := hs.r
  have hl := hs.l
  refine ⟨hs.u (by unfold sk; omega), ht.lo (by omega), ⟨hq.lo (by omega), hw.lo (by omega)⟩, ?_⟩
  obtain ⟨h3, h6, h7, h12, h13, h16, h18, h19, hc, hr⟩ := hr
  have e : ∀ k, k ≠ 7 → p_min w k = w k := fun k hk => upd_ne hk
  have hb : nn w 0 * nn w 2 ≤ 8 * 20 := Nat.mul_le_mul hrr.2.2 hl.2.2
  have e7 : p_min w 7 = nI (nn w 7 + 1) := by
    unfold p_min
    rw [upd_eq, ← nI_1, ← h7.1]
  refine ⟨h3.cg (e _ (by omega)), h6.cg (e _ (by omega)), ?_, h12.cg (e _ (by omega)), h13.cg (e _ (by omega)), h16.cg (e _ (by omega)) (e _ (by omega)) (e _ (by omega)), ?_, h19.cg (e _ (by omega)), fun k hk => (hc k hk).cg (e _ (by omega)), fun k hk => ?_⟩
  · have n7 := nn_of e7 (by omega)
    rw [n7, e7, nn_cg (e 0 (by omega)), nn_cg (e 2 (by omega))]
    exact ⟨rfl, by omega⟩
  · rw [nn_cg (e 18 (by omega)), nn_cg (e 17 (by omega)), e 18 (by omega)]; exact h18
  · rw [nn_cg (e 19 (by omega))] at hk
    have := h19.2.2
    exact ⟨(hr k hk).1.cg (e _ (by omega)), (hr k hk).2.cg (e _ (by omega))⟩
theorem p_rec_lo {w : Wd} {n s : Int32} {k : Nat} (hk : k < 404) (h19 : k ≠ 19) : p_rec w n s k = w k := by
  unfold p_rec
  split
  · show (if k = 19 then _ else _) = _
    rw [if_neg h19, if_neg (by omega)]
  · rfl
theorem ib_.recd {K B x a b : Nat} {n s : Int32} {w : Wd} (hn : n = nI a) (ha : a ≤ 999 + K) (hs9 : s = nI b) (hb : b ≤ B) (hK : K < 2 ^ 30) (hB : B < 2 ^ 30) (h : ib_ K B x w) : ib_ K B x (p_rec w n s) := by
  obtain ⟨hs, ht, ⟨hq, hw⟩, hr⟩ := h
  have lo : ∀ k, k < 404 → k ≠ 19 → p_rec w n s k = w k := fun k hk h19 => p_rec_lo hk h19
  have L : ∀ k, k < 19 → p_rec w n s k = w k := fun k hk => lo k (by omega) (by omega)
  refine ⟨hs.cg fun k hk => lo k (by unfold sk at hk; omega) (by unfold sk at hk; omega), ht.cg (L 0 (by omega)) (L 1 (by omega)) fun k _ h4 => lo k h4 (by omega), ⟨hq.cg (L _ (by omega)) (L _ (by omega)) (L _ (by omega)) (L _ (by omega)) (L _ (by omega)) (L _ (by omega)), hw.cg (lo _ (by omega) (by omega)) (lo _ (by omega) (by omega))⟩, ?_⟩
  obtain ⟨h3, h6, h7, h12, h13, h16, h18, h19, hc, hr⟩ := hr
  by_cases hrk : p_rank w s 10 0 < 10
  case neg =>
    have e : p_rec w n s = w := if_neg hrk
    rw [e]
    exact ⟨h3, h6, h7, h12, h13, h16, h18, h19, hc, hr⟩
  have hrl := p_rank_le (w := w) (s := s) h19.2.2 (f := 10) (k := 0) (by omega) (Nat.zero_le _)
  have e : p_rec w n s = fun k => if k = 19 then nI (min (nn w 19 + 1) 10) else if 404 ≤ k ∧ k < 404 + 2 * min (nn w 19 + 1) 10 then (if (k - 404) / 2 < p_rank w s 10 0 then w k else if (k - 404) / 2 = p_rank w s 10 0 then (if (k - 404) % 2 = 0 then n else s) else w (k - 2)) else w k := if_pos hrk
  have e19 : p_rec w n s 19 = nI (min (nn w 19 + 1) 10) := by rw [e]; exact if_pos rfl
  have n19 : nn (p_rec w n s) 19 = min (nn w 19 + 1) 10 := nn_of e19 (by omega)
  refine ⟨h3.cg (L _ (by omega)), h6.cg (L _ (by omega)), ?_, h12.cg (L _ (by omega)), h13.cg (L _ (by omega)), h16.cg (L _ (by omega)) (L _ (by omega)) (L _ (by omega)), ?_, in_.of e19 (Nat.zero_le _) (by omega) (by omega), fun k hk => (hc k hk).cg (lo _ (by omega) (by omega)), fun k hk => ?_⟩
  · rw [nn_cg (L 7 (by omega)), nn_cg (L 0 (by omega)), nn_cg (L 2 (by omega)), L 7 (by omega)]; exact h7
  · rw [nn_cg (L 18 (by omega)), nn_cg (L 17 (by omega)), L 18 (by omega)]; exact h18
  · rw [n19] at hk
    have ev : ∀ j, j < 2 → p_rec w n s (404 + j + 2 * k) = if k < p_rank w s 10 0 then w (404 + j + 2 * k) else if k = p_rank w s 10 0 then (if j = 0 then n else s) else w (404 + j + 2 * (k - 1)) := fun j hj => by
      rw [e]
      show (if 404 + j + 2 * k = 19 then _ else if 404 ≤ 404 + j + 2 * k ∧ 404 + j + 2 * k < 404 + 2 * min (nn w 19 + 1) 10 then _ else _) = _
      rw [if_neg (by omega), if_pos (by omega), show (404 + j + 2 * k - 404) / 2 = k by omega, show (404 + j + 2 * k - 404) % 2 = j by omega]
      by_cases c1 : k < p_rank w s 10 0
      · rw [if_pos c1, if_pos c1]
      · rw [if_neg c1, if_neg c1]
        by_cases c2 : k = p_rank w s 10 0
        · rw [if_pos c2, if_pos c2]
        · rw [if_neg c2, if_neg c2, show 404 + j + 2 * k - 2 = 404 + j + 2 * (k - 1) by omega]
    have ev0 := ev 0 (by omega)
    have ev1 := ev 1 (by omega)
    rw [show 404 + 0 + 2 * k = 404 + 2 * k by omega, show 404 + 0 + 2 * (k - 1) = 404 + 2 * (k - 1) by omega, if_pos rfl] at ev0
    rw [show 404 + 1 + 2 * k = 405 + 2 * k by omega, show 404 + 1 + 2 * (k - 1) = 405 + 2 * (k - 1) by omega, if_neg (show ¬ (1 : Nat) = 0 by decide)] at ev1
    by_cases c1 : k < p_rank w s 10 0
    · rw [if_pos c1] at ev0 ev1
      have g := hr k (by omega)
      exact ⟨g.1.cg ev0, g.2.cg ev1⟩
    · rw [if_neg c1] at ev0 ev1
      by_cases c2 : k = p_rank w s 10 0
      · rw [if_pos c2] at ev0 ev1
        exact ⟨in_.of (ev0.trans hn) (Nat.zero_le _) ha (by omega), in_.of (ev1.trans hs9) (Nat.zero_le _) hb (by omega)⟩
      · rw [if_neg c2] at ev0 ev1
        have g := hr (k - 1) (by omega)
        have tr : ∀ {p q lo hi : Nat}, in_ w p lo hi → p_rec w n s q = w p → in_ (p_rec w n s) q lo hi := fun {p q lo hi} g e9 => by
          have e8 : nn (p_rec w n s) q = nn w p := by unfold nn; rw [e9]
          unfold in_
          rw [e8, e9]
          exact g
        exact ⟨tr g.1 ev0, tr g.2 ev1⟩
theorem ib_.nite {K B x : Nat} {w : Wd} (hK : K < 2 ^ 30) (h : ib_ K B x w) : ib_ (K + 1) B 0 (p_nite w) := by
  obtain ⟨hs, ht, ⟨hq, hw⟩, hr⟩ := h
  have hrr := hs.r
  have hl := hs.l
  have u : ∀ k, k ≠ 6 → k ≠ 7 → k ≠ 13 → p_nite w k = w k := fun k a b c => by unfold p_nite; rw [upd_ne c, upd_ne b, upd_ne a]
  refine ⟨((hs.u (by unfold sk; omega)).u (by unfold sk; omega)).u (by unfold sk; omega), ((ht.lo (by omega)).lo (by omega)).lo (by omega), ⟨((hq.lo (by omega)).lo (by omega)).lo (by omega), ((hw.lo (by omega)).lo (by omega)).lo (by omega)⟩, ?_⟩
  obtain ⟨h3, h6, h7, h12, h13, h16, h18, h19, hc, hr⟩ := hr
  have e6 : p_nite w 6 = nI (nn w 6 + 1) := by unfold p_nite; rw [upd_ne (by omega), upd_ne (by omega), upd_eq, ← nI_1, ← h6.1]
  have e7 : p_nite w 7 = nI 0 := by unfold p_nite; rw [upd_ne (by omega), upd_eq]; rfl
  have e13 : p_nite w 13 = nI 0 := by unfold p_nite; rw [upd_eq]; rfl
  refine ⟨h3.cg (u _ (by omega) (by omega) (by omega)), in_.of e6 (by omega) (by have := h6.2.2; omega) (by omega), ?_, h12.cg (u _ (by omega) (by omega) (by omega)), ?_, h16.cg (u _ (by omega) (by omega) (by omega)) (u _ (by omega) (by omega) (by omega)) (u _ (by omega) (by omega) (by omega)), ?_, h19.cg (u _ (by omega) (by omega) (by omega)), fun k hk => (hc k hk).cg (u _ (by omega) (by omega) (by omega)), fun k hk => ?_⟩
  · rw [nn_of e7 (by omega), e7, nn_cg (u 0 (by omega) (by omega) (by omega)), nn_cg (u 2 (by omega) (by omega) (by omega))]
    exact ⟨rfl, Nat.mul_pos (by omega) (by omega)⟩
  · unfold in_
    rw [nn_of e13 (by omega), e13]
    exact ⟨rfl, by omega, by omega⟩
  · rw [nn_cg (u 18 (by omega) (by omega) (by omega)), nn_cg (u 17 (by omega) (by omega) (by omega)), u 18 (by omega) (by omega) (by omega)]; exact h18
  · rw [nn_cg (u 19 (by omega) (by omega) (by omega))] at hk
    have := h19.2.2
    have g := hr k hk
    have g1 := g.1.cg (u (404 + 2 * k) (by omega) (by omega) (by omega))
    exact ⟨⟨g1.1, g1.2.1, by have := g1.2.2; omega⟩, g.2.cg (u _ (by omega) (by omega) (by omega))⟩
theorem ib_.night {K B x : Nat} {w : Wd} (hK : K < 2 ^ 29) (hB : B < 2 ^ 30) (h : ib_ K B x w) : ib_ (K + 1) B 0 (p_night w) := by
  unfold p_night
  have h6 := h.2.2.2.2.1
  have h13 := h.2.2.2.2.2.2.2.1
  by_cases c : w 13 ≤ 0
  · rw [if_pos c]; exact h.nite (by omega)
  · rw [if_neg c]
    exact (h.recd h6.1 h6.2.2 h13.1 h13.2.2 (by omega) hB).nite (by omega)
def p_99 (w : Wd) : Wd := p_reloc (p_blowN (nn w 1) 0 w)
def p_70 (w : Wd) : Wd := if p_min (p_dryN (p_rc w) 0 w) 7 < p_min (p_dryN (p_rc w) 0 w) 0 * p_min (p_dryN (p_rc w) 0 w) 2 then p_99 (p_min (p_dryN (p_rc w) 0 w)) else p_99 (p_night (p_min (p_dryN (p_rc w) 0 w)))
def p_25 (w : Wd) : Wd := if w 11 ≤ 0 then (if w 8 = -1 then p_70 w else p_70 (p_walk (p_tries w).toNatClampNeg w)) else p_70 (upd w 11 (w 11 - 1))
def p_pass (w : Wd) : Wd := p_25 (p_cat w)
def p_passN : Nat → Wd → Wd
  | 0, w => w
  | n + 1, w => p_passN n (p_pass w)
theorem p_passN_s (n : Nat) (w : Wd) : p_passN (n + 1) w = p_passN n (p_pass w) := rfl
