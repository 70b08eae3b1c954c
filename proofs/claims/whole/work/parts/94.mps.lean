/-! the model's parseSetup, behind its first question -/
section MY
variable {V : TV} {h h0 : HI} {s sim dep G : Nat} {w : Wd} {beg : Bool}
theorem lay_o {a b c : AA} {k : Nat} (hc : c ≠ b) : sh_laysN a b 0 0 424 h c k = h c k := if_neg (fun q => hc q.1)
theorem lay_b {a b : AA} {k : Nat} (hk : k < 424) : sh_laysN a b 0 0 424 h b k = h a k := by
  unfold sh_laysN
  rw [if_pos ⟨rfl, by omega, by omega⟩, show 0 + (k - 0) = k by omega]
theorem M_thinks : sh_X10_thinks h = some (sh_laysN (za 196) (za 197) 0 0 424 h) := by
  unfold sh_X10_thinks sh_lays
  rw [if_pos ⟨by decide, by decide, by decide, by decide⟩, bs]
  rfl
theorem M_back {v : Int32} : sh_X10_back v h = some (v, sh_laysN (za 197) (za 196) 0 0 424 h) := by
  unfold sh_X10_back sh_lays
  rw [if_pos ⟨by decide, by decide, by decide, by decide⟩, bs]
  rfl
theorem M_o4 {h1 : HI} (e : ∀ k, k < 424 → h1 (za 196) k = h (za 196) k) : mw_ h1 = mw_ h := by
  unfold mw_
  congr 1
  funext k
  unfold rm_
  by_cases c : k < 424 ∧ k ≠ 25
  · rw [if_pos c, if_pos c, e k c.1]
  · rw [if_neg c, if_neg c]
theorem upd0_start : upd (upd (upd (upd (upd (upd (upd (fun _ => (0 : Int32)) 2 5) 3 1) 4 10) 6 15) 8 (-1)) 10 1) 16 (-1) = p_start 0 0 := by
  funext k
  rw [upd_e, upd_e, upd_e, upd_e, upd_e, upd_e, upd_e]
  unfold p_start
  by_cases h0 : k = 0
  · subst h0; rfl
  by_cases h1 : k = 1
  · subst h1; rfl
  rw [if_neg h0, if_neg h1]
  by_cases c16 : k = 16
  · subst c16; rfl
  rw [if_neg c16, if_neg c16]
  by_cases c10 : k = 10
  · subst c10; rfl
  rw [if_neg c10, if_neg c10]
  by_cases c8 : k = 8
  · subst c8; rfl
  rw [if_neg c8, if_neg c8]
  by_cases c6 : k = 6
  · subst c6; rfl
  rw [if_neg c6, if_neg c6]
  by_cases c4 : k = 4
  · subst c4; rfl
  rw [if_neg c4, if_neg c4]
  by_cases c3 : k = 3
  · subst c3; rfl
  rw [if_neg c3, if_neg c3]
theorem nz_start0 : nz (p_start 0 0) = p_start 0 0 := by
  funext k
  have z : ∀ k, 17 ≤ k → p_start 0 0 k = 0 := fun k hk => by
    unfold p_start
    rw [if_neg (by omega), if_neg (by omega), if_neg (by omega), if_neg (by omega), if_neg (by omega), if_neg (by omega), if_neg (by omega), if_neg (by omega), if_neg (by omega)]
  unfold nz
  by_cases c : k < 46
  · rw [if_pos c]
    by_cases c25 : k = 25
    · rw [if_pos c25, z k (by omega)]
    · rw [if_neg c25]
  · rw [if_neg c, z k (by omega)]
    split
    · split <;> rfl
    · split
      · split <;> rfl
      · split
        · rfl
        · split
          · split <;> rfl
          · rfl
theorem M_starts_2 : ∀ (f k F : Nat) (h : HI), k + f = 424 → f < F → (∀ j, j < k → h (za 196) j = 0) → ∃ h1, sh_X10_starts_2 G F (nI k) h = some h1 ∧ mw_ h1 = p_start 0 0 ∧ h1 (za 196) 25 = 0 ∧ fm_ h h1 := fun f => by
  induction f with
  | zero =>
    intro k F h hk hF hz
    obtain ⟨F, rfl⟩ : ∃ F2, F = F2 + 1 := ⟨F - 1, by omega⟩
    obtain rfl : k = 424 := by omega
    have e0 : sh_X10_starts_2 G (F + 1) (nI 424) h = some (am_u (am_u (am_u (am_u (am_u (am_u (am_u h (za 196) 2 (5 : Int32)) (za 196) 3 (1 : Int32)) (za 196) 4 (10 : Int32)) (za 196) 6 (15 : Int32)) (za 196) 8 (-1 : Int32)) (za 196) 10 (1 : Int32)) (za 196) 16 (-1 : Int32)) := by
      show sh_X10_starts_2_b G (sh_X10_starts_2 G F) (nI 424) h = _
      unfold sh_X10_starts_2_b
      rw [if_pos (show (424 : Int32) ≤ nI 424 by decide)]
    refine ⟨_, e0, ?_, ?_, ((((((((fm_.refl h).u).u).u).u).u).u).u)⟩
    · have e : rm_ h = fun _ => 0 := by
        funext j
        unfold rm_
        by_cases c : j < 424 ∧ j ≠ 25
        · rw [if_pos c, hz j c.1]
        · rw [if_neg c]
      unfold mw_
      rw [rm_u (by omega) (by omega), rm_u (by omega) (by omega), rm_u (by omega) (by omega), rm_u (by omega) (by omega), rm_u (by omega) (by omega), rm_u (by omega) (by omega), rm_u (by omega) (by omega), e, upd0_start, nz_start0]
    · rw [au_k (by omega), au_k (by omega), au_k (by omega), au_k (by omega), au_k (by omega), au_k (by omega), au_k (by omega), hz 25 (by omega)]
  | succ f ih =>
    intro k F h hk hF hz
    obtain ⟨F, rfl⟩ : ∃ F2, F = F2 + 1 := ⟨F - 1, by omega⟩
    obtain ⟨h1, e1, w1, g1, f1⟩ := ih (k + 1) F (am_u h (za 196) k 0) (by omega) (by omega) (fun j hj => by
      by_cases c : j = k
      · subst c; exact au_
      · rw [au_k c, hz j (by omega)])
    refine ⟨h1, ?_, w1, g1, (fm_.refl h).u.trans f1⟩
    show sh_X10_starts_2_b G (sh_X10_starts_2 G F) (nI k) h = _
    unfold sh_X10_starts_2_b
    rw [show (424 : Int32) = nI 424 from rfl, if_neg (nI_ge (by omega) (by omega)), if_pos (ok4 (by omega)), nI_clamp (by omega), bs, nI_1]
    exact e1
/-- what parsing may change -/
def fz_ (h h1 : HI) : Prop := ∀ a k, a ≠ za 196 → a ≠ za 197 → a ≠ za 200 → ¬ (a = za 195 ∧ (k = 0 ∨ (6 ≤ k ∧ k ≤ 19))) → h1 a k = h a k
def PSb (G : Nat) (rep : HI → Option HI) (a1 : Int32) (h : HI) : Option (Int32 × HI) := (sh_X10_thinks (am_u (am_u (am_u (am_u (am_u (am_u (am_u (am_u h (za 195) 12 a1) (za 195) 13 (0 : Int32)) (za 195) 9 (0 : Int32)) (za 195) 10 (0 : Int32)) (za 195) 11 (-1 : Int32)) (za 195) 19 (0 : Int32)) (za 195) 17 (0 : Int32)) (za 195) 18 (0 : Int32))).bind fun h3 => (sh_X10_starts G h3).bind fun h5 => (sh_X10_readsText G rep h5).bind fun h7 => if h7 (za 195) 10 ≤ 0 then (sh_X10_tiles (am_u (am_u (am_u (am_u h7 (za 195) 6 (1 : Int32)) (za 195) 7 (0 : Int32)) (za 200) 0 (vp_nar .boolean (0 : Int32))) (za 200) 1 (vp_nar .boolean (0 : Int32)))).bind fun v8 => some (v8, am_u (am_u (am_u (am_u h7 (za 195) 6 (1 : Int32)) (za 195) 7 (0 : Int32)) (za 200) 0 (vp_nar .boolean (0 : Int32))) (za 200) 1 (vp_nar .boolean (0 : Int32))) else (sh_X10_back (0 : Int32) (am_u h7 (za 195) 0 (2 : Int32))).bind fun v9 => some (v9.1, v9.2)
theorem parse_e {a1 : Int32} : sh_parseS G a1 h = (sh_X10_may (sh_X10_in a1 (0 : Int32) (h (za 195) 9)) (1 : Int32) (1 : Int32) h).bind fun v1 => if v1.1 ≠ 0 then PSb G (sh_rep G 5) a1 v1.2 else some ((0 : Int32), v1.2) := rfl
theorem r_all_I {s1 sim1 : Nat} {w1 : Wd} (hn : V.2.1 ≤ 500) (e : r_all V = Sum.inr (s1, w1, sim1)) : IBp sim1 w1 := by
  unfold r_all x_floor at e
  by_cases c : sgV V (t_skip V.1 V.2.1 0) = 0
  · rw [if_pos c, xb_as] at e
    cases er : x_num V (nxV V (t_skip V.1 V.2.1 0)) 2 8 with
    | inl q => rw [er] at e; cases e
    | inr r =>
      rw [er] at e
      have e : xb (xb (x_num V (nxV V (nxV V (t_skip V.1 V.2.1 0))) 2 10) fun c => Sum.inr (nxV V (nxV V (nxV V (t_skip V.1 V.2.1 0))), p_start (nI r) (nI c), 0)) (fun r => r_text V 501 r.1 r.2.1 r.2.2 false) = Sum.inr (s1, w1, sim1) := e
      cases ec : x_num V (nxV V (nxV V (t_skip V.1 V.2.1 0))) 2 10 with
      | inl q => rw [ec] at e; cases e
      | inr c =>
        rw [ec] at e
        obtain ⟨-, a2, a3, -⟩ := x_num_ok er
        obtain ⟨-, b2, b3, -⟩ := x_num_ok ec
        have hX := XS_start a2 a3 b2 b3
        exact I_text 501 _ _ 0 false (hX.IB (Nat.zero_le _)) (fun _ => hX) _ _ _ e
  · rw [if_neg c] at e
    cases e
theorem M_PS (hG : 501 < G) (hb : Mb_ h V.1) (hn : V.2.1 ≤ 500) : match r_all V with
    | Sum.inl (c, p) => ∃ h1, PSb G (sh_rep G 5) (nI V.2.1) h = some (0, h1) ∧ h1 (za 195) 10 = nI c ∧ h1 (za 195) 11 = nI p ∧ (1 ≤ c ∧ c ≤ 4) ∧ h1 (za 195) 0 = 2 ∧ h1 (za 195) 9 = 0 ∧ h1 (za 195) 6 = h (za 195) 6 ∧ h1 (za 195) 7 = h (za 195) 7 ∧ (∀ k, h1 (za 200) k = h (za 200) k) ∧ (∀ k, k < 424 → h1 (za 196) k = h (za 196) k) ∧ fz_ h h1
    | Sum.inr (_, w, _) => ∃ h1, PSb G (sh_rep G 5) (nI V.2.1) h = some (nI (p_rc w), h1) ∧ h1 (za 195) 10 = 0 ∧ h1 (za 195) 11 = -1 ∧ h1 (za 195) 0 = h (za 195) 0 ∧ h1 (za 195) 9 = 0 ∧ h1 (za 195) 6 = 1 ∧ h1 (za 195) 7 = 0 ∧ h1 (za 200) 0 = 0 ∧ h1 (za 200) 1 = 0 ∧ mw_ h1 = w ∧ fz_ h h1 := by
  generalize eh : am_u (am_u (am_u (am_u (am_u (am_u (am_u (am_u h (za 195) 12 (nI V.2.1)) (za 195) 13 (0 : Int32)) (za 195) 9 (0 : Int32)) (za 195) 10 (0 : Int32)) (za 195) 11 (-1 : Int32)) (za 195) 19 (0 : Int32)) (za 195) 17 (0 : Int32)) (za 195) 18 (0 : Int32) = h2
  have k2 : ∀ k, k < 9 → h2 (za 195) k = h (za 195) k := fun k hk => by
    rw [← eh, au_k (by omega), au_k (by omega), au_k (by omega), au_k (by omega), au_k (by omega), au_k (by omega), au_k (by omega), au_k (by omega)]
  have o2 : ∀ a k, a ≠ za 195 → h2 a k = h a k := fun a k ha => by
    rw [← eh, au_a ha, au_a ha, au_a ha, au_a ha, au_a ha, au_a ha, au_a ha, au_a ha]
  have g12 : h2 (za 195) 12 = nI V.2.1 := by rw [← eh, au_k (by omega), au_k (by omega), au_k (by omega), au_k (by omega), au_k (by omega), au_k (by omega), au_k (by omega), au_]
  have g13 : h2 (za 195) 13 = nI 0 := by rw [← eh, au_k (by omega), au_k (by omega), au_k (by omega), au_k (by omega), au_k (by omega), au_k (by omega), au_]; rfl
  have g9 : h2 (za 195) 9 = 0 := by rw [← eh, au_k (by omega), au_k (by omega), au_k (by omega), au_k (by omega), au_k (by omega), au_]
  have g10 : h2 (za 195) 10 = 0 := by rw [← eh, au_k (by omega), au_k (by omega), au_k (by omega), au_k (by omega), au_]
  have g11 : h2 (za 195) 11 = -1 := by rw [← eh, au_k (by omega), au_k (by omega), au_k (by omega), au_]
  have g19 : h2 (za 195) 19 = 0 := by rw [← eh, au_k (by omega), au_k (by omega), au_]
  have g17 : h2 (za 195) 17 = 0 := by rw [← eh, au_k (by omega), au_]
  have g18 : h2 (za 195) 18 = 0 := by rw [← eh, au_]
  have gz2 : ∀ k, 20 ≤ k → h2 (za 195) k = h (za 195) k := fun k hk => by
    rw [← eh, au_k (by omega), au_k (by omega), au_k (by omega), au_k (by omega), au_k (by omega), au_k (by omega), au_k (by omega), au_k (by omega)]
  unfold PSb
  rw [eh, M_thinks, bs]
  obtain ⟨h5, e5, w5, g25, f5⟩ := M_starts_2 (G := G) 424 0 G (sh_laysN (za 196) (za 197) 0 0 424 h2) rfl (by omega) (fun j hj => by omega)
  have q5 : ∀ k, h5 (za 195) k = h2 (za 195) k := fun k => (f5 _ _ (fun q => by cases q)).trans (lay_o (fun q => by cases q))
  have H5 : Mq_ V h5 0 (p_start 0 0) 0 false 0 := by
    refine ⟨⟨fun k hk => ?_, (q5 12).trans g12, hn, Nat.zero_le _⟩, (q5 13).trans g13, (q5 10).trans g10, (q5 11).trans g11, w5, (q5 18).trans g18, (q5 19).trans g19, (q5 17).trans g17, fun _ => ?_⟩
    · rw [f5 _ _ (fun q => by cases q), lay_o (fun q => by cases q), o2 _ _ (fun q => by cases q)]
      exact hb k hk
    · rw [RG_start]
      exact g25
  have e5' : sh_X10_starts G (sh_laysN (za 196) (za 197) 0 0 424 h2) = some h5 := e5
  rw [e5', bs]
  have g := M_rtext hG H5
  have z5 : ∀ a k, a ≠ za 195 → a ≠ za 196 → a ≠ za 197 → h5 a k = h a k := fun a k c1 c2 c3 => (f5 _ _ c2).trans ((lay_o c3).trans (o2 _ _ c1))
  cases er : r_all V with
  | inl q =>
    obtain ⟨c, p⟩ := q
    rw [er] at g
    obtain ⟨h7, e7, x7, f7⟩ := g
    rw [e7, bs, if_neg x7.d, M_back, bs]
    have n7 : ∀ k, k < 10 ∨ 20 ≤ k → h7 (za 195) k = h2 (za 195) k := fun k hk => (f7 _ _ (fun q => by cases q) (fun q => by omega)).trans (q5 k)
    have y : ∀ k, k ≠ 0 → sh_laysN (za 197) (za 196) 0 0 424 (am_u h7 (za 195) 0 (2 : Int32)) (za 195) k = h7 (za 195) k := fun k hk => (lay_o (fun q => by cases q)).trans (au_k hk)
    refine ⟨sh_laysN (za 197) (za 196) 0 0 424 (am_u h7 (za 195) 0 (2 : Int32)), rfl, (y 10 (by omega)).trans x7.1, (y 11 (by omega)).trans x7.2.1, x7.2.2, (lay_o (fun q => by cases q)).trans au_, (y 9 (by omega)).trans ((n7 9 (by omega)).trans g9), (y 6 (by omega)).trans ((n7 6 (by omega)).trans (k2 6 (by omega))), (y 7 (by omega)).trans ((n7 7 (by omega)).trans (k2 7 (by omega))), fun k => ?_, fun k hk => ?_, fun a k c1 c2 c3 c4 => ?_⟩
    · rw [lay_o (fun q => by cases q), au_a (fun q => by cases q), f7 _ _ (fun q => by cases q) (fun q => by cases q.1), z5 _ _ (fun q => by cases q) (fun q => by cases q) (fun q => by cases q)]
    · rw [lay_b hk, au_a (fun q => by cases q), f7 _ _ (fun q => by cases q) (fun q => by cases q.1), f5 _ _ (fun q => by cases q), lay_b hk, o2 _ _ (fun q => by cases q)]
    · rw [lay_o c1]
      by_cases ca : a = za 195
      · subst ca
        rw [au_k (fun q => c4 ⟨rfl, Or.inl q⟩), n7 k (by
          have : ¬ (k = 0 ∨ (6 ≤ k ∧ k ≤ 19)) := fun q => c4 ⟨rfl, q⟩
          omega)]
        by_cases cb : k < 9
        · exact k2 k cb
        · exact gz2 k (by
            have : ¬ (k = 0 ∨ (6 ≤ k ∧ k ≤ 19)) := fun q => c4 ⟨rfl, q⟩
            omega)
      · rw [au_a ca, f7 _ _ c1 (fun q => ca q.1), z5 _ _ ca c1 c2]
  | inr q =>
    obtain ⟨s, w, sim⟩ := q
    rw [er] at g
    have hI := r_all_I hn er
    obtain ⟨h7, e7, x7, f7⟩ := g
    have hw := x7.mw
    have n7 : ∀ k, k < 10 ∨ 20 ≤ k → h7 (za 195) k = h2 (za 195) k := fun k hk => (f7 _ _ (fun q => by cases q) (fun q => by omega)).trans (q5 k)
    have hv : vp_nar .boolean (0 : Int32) = 0 := rfl
    rw [e7, bs, x7.al, if_pos (Int32.le_refl _), hv]
    generalize e9 : am_u (am_u (am_u (am_u h7 (za 195) 6 (1 : Int32)) (za 195) 7 (0 : Int32)) (za 200) 0 (0 : Int32)) (za 200) 1 (0 : Int32) = h9
    have y : ∀ k, k ≠ 6 → k ≠ 7 → h9 (za 195) k = h7 (za 195) k := fun k a b => by
      rw [← e9, au_a (fun q => by cases q), au_a (fun q => by cases q), au_k b, au_k a]
    have w9 : mw_ h9 = w := (M_o (fun k => by rw [← e9, au_a (fun q => by cases q), au_a (fun q => by cases q), au_a (fun q => by cases q), au_a (fun q => by cases q)])).trans hw
    rw [M_tiles (by rw [w9]; exact hI.1.1), w9, bs]
    refine ⟨h9, rfl, (y 10 (by omega) (by omega)).trans x7.al, (y 11 (by omega) (by omega)).trans x7.2.2.2.1, (y 0 (by omega) (by omega)).trans ((n7 0 (by omega)).trans (k2 0 (by omega))), (y 9 (by omega) (by omega)).trans ((n7 9 (by omega)).trans g9), ?_, ?_, ?_, ?_, w9, fun a k c1 c2 c3 c4 => ?_⟩
    · rw [← e9, au_a (fun q => by cases q), au_a (fun q => by cases q), au_k (by omega), au_]
    · rw [← e9, au_a (fun q => by cases q), au_a (fun q => by cases q), au_]
    · rw [← e9, au_k (by omega), au_]
    · rw [← e9, au_]
    · by_cases ca : a = za 195
      · subst ca
        have hk : ¬ (k = 0 ∨ (6 ≤ k ∧ k ≤ 19)) := fun q => c4 ⟨rfl, q⟩
        rw [y k (by omega) (by omega), n7 k (by omega)]
        by_cases cb : k < 9
        · exact k2 k cb
        · exact gz2 k (by omega)
      · rw [← e9, au_a c3, au_a c3, au_a ca, au_a ca, f7 _ _ c1 (fun q => ca q.1), z5 _ _ ca c1 c2]
end MY
