/-! the class reads a setup: from the first byte to the answer -/
/-- what reading may change -/
def fd_ (h h1 : HI) : Prop := ∀ a k, (∀ j, a ≠ wa 1 j) → ¬ (a = za 34 ∧ 4 ≤ k) → ¬ (a = za 35 ∧ (k = 3 ∨ k = 4)) → a ≠ za 37 → a ≠ za 38 → a ≠ za 39 → a ≠ za 40 → h1 a k = h a k
theorem fd_.refl (h : HI) : fd_ h h := fun _ _ _ _ _ _ _ _ _ => rfl
theorem fd_.trans {h h1 h2 : HI} (a : fd_ h h1) (b : fd_ h1 h2) : fd_ h h2 := fun x k c1 c2 c3 c4 c5 c6 c7 => (b x k c1 c2 c3 c4 c5 c6 c7).trans (a x k c1 c2 c3 c4 c5 c6 c7)
theorem fd_.l {h h1 : HI} (a : fl_ h h1) : fd_ h h1 := fun x k c1 c2 c3 _ _ c6 c7 => a x k c1 (fun q => c3 ⟨q.1, Or.inr q.2⟩) c2 c6 c7
theorem fd_.sc {h h1 : HI} (a : fs_ h h1) : fd_ h h1 := fun x k _ _ c3 c4 c5 _ _ => a x k c3 c4 c5
theorem fd_.w {h h1 : HI} (a : fr_ 1 h h1) : fd_ h h1 := fun x k c1 _ _ _ _ _ _ => a x k c1
section CRD
variable {G : Nat}
theorem XS_start {r c : Nat} (h1 : 2 ≤ r) (h2 : r ≤ 8) (h3 : 2 ≤ c) (h4 : c ≤ 10) : XS (p_start (nI r) (nI c)) := by
  have e0 : nn (p_start (nI r) (nI c)) 0 = r := nn_of rfl (by omega)
  have e1 : nn (p_start (nI r) (nI c)) 1 = c := nn_of rfl (by omega)
  have z : ∀ k, 17 ≤ k → p_start (nI r) (nI c) k = 0 := fun k hk => by
    unfold p_start
    rw [if_neg (by omega), if_neg (by omega), if_neg (by omega), if_neg (by omega), if_neg (by omega), if_neg (by omega), if_neg (by omega), if_neg (by omega), if_neg (by omega)]
  have e17 : nn (p_start (nI r) (nI c)) 17 = 0 := nn_of (n := 0) (z 17 (by omega)) (by omega)
  refine ⟨⟨in_.of (n := r) rfl h1 h2 (by omega), in_.of (n := c) rfl h3 h4 (by omega), in_.of (n := 5) rfl (by omega) (by omega) (by omega), in_.of (n := 10) rfl (by omega) (by omega) (by omega), z_in rfl, z_in rfl, z_in rfl, z_in rfl, z_in rfl, fun k hk => z_in (z _ (by omega)), fun k hk => by rw [e17] at hk; omega⟩, ⟨fun t ht => z_in (z _ (by omega)), fun t ht => z_in (z _ (by omega)), fun t ht => z_in (z _ (by omega)), fun t _ ht => ⟨z _ (by omega), z _ (by omega), z _ (by omega), z _ (by omega)⟩⟩, fun k hk => z_in (z _ (by omega)), in_.of (n := 1) rfl (by omega) (by omega) (by omega), in_.of (n := 15) rfl (by omega) (by omega) (by omega), Or.inl rfl, ⟨z_in rfl, ?_⟩, in_.of (n := 1) rfl (by omega) (by omega) (by omega), rfl, fun k hk => ?_⟩
  · rw [e1]
    have : nn (p_start (nI r) (nI c)) 9 = 0 := nn_of (n := 0) rfl (by omega)
    omega
  · unfold zk at hk
    by_cases q : 17 ≤ k
    · exact z k q
    · have : k = 7 ∨ k = 11 ∨ k = 12 ∨ k = 13 := by omega
      rcases this with e | e | e | e <;> rw [e] <;> rfl
theorem start_upd {r c : Int32} : upd (upd (p_start 2 2) 0 r) 1 c = p_start r c := by
  funext k
  rw [upd_e, upd_e]
  unfold p_start
  by_cases h1 : k = 1
  · subst h1; rfl
  · rw [if_neg h1]
    by_cases h0 : k = 0
    · rw [if_pos h0, if_pos h0]
    · rw [if_neg h0, if_neg h0, if_neg h0, if_neg h1, if_neg h1]
theorem xr_floor {V : TV} {h h0 : HI} {s : Nat} (f0 : fe_ h0 h) (H : CB V h s (p_start 2 2) 0 false) : xr_ V false (sh_X4_readFloor V.2.2.1 h) h0 (x_floor V s) := by
  unfold sh_X4_readFloor x_floor
  rw [C_sgn H, bs]
  by_cases c : sgV V s = 0
  case neg =>
    rw [if_neg c, if_neg c]
    exact xr_fail H f0 rfl (by omega)
  rw [if_pos c, if_pos c]
  obtain ⟨h1, e1, H1, f1⟩ := C_goOn H
  rw [e1, bs]
  refine xr_take (lo := 2) (hi := 8) (f0.trans f1) (by omega) (by omega) H1 (fun v h2 a1 a2 a3 H2 f2 => ?_) (fun h2 => ⟨h2, by rw [if_neg (fun q => q rfl)]; exact if_pos rfl, fun _ _ x => x, fe_.refl h2⟩)
  show xr_ V false (if nI v ≠ -1 then (sh_X4_takeNumber V.2.2.1 (2 : Int32) (10 : Int32) h2).bind fun v5 => sh_X4_readFloor_50 V.2.2.1 (nI v) v5.1 v5.2 else _) h0 _
  rw [if_pos (nI_m1 (by omega))]
  refine xr_take (lo := 2) (hi := 10) f2 (by omega) (by omega) H2 (fun t h3 b1 b2 b3 H3 f3 => ?_) (fun h3 => ⟨h3, if_pos rfl, fun _ _ x => x, fe_.refl h3⟩)
  show xr_ V false (if nI t = -1 then some h3 else some (am_u (am_u h3 (wa 1 1) 4 (nI v)) (wa 1 1) 5 (nI t))) h0 _
  rw [if_neg (nI_m1 (by omega))]
  refine xr_ret (H3.wd ?_ (fr_.refl 1 h3).u.u) (f3.trans (fe_u.trans fe_u))
  rw [V_u (k := 1) (by decide) rfl (by decide), V_u (k := 0) (by decide) rfl (by decide), H3.vw, start_upd]
theorem read_end {V : TV} {h : HI} {x : AX} {v : Int32} (c : h (za 34) 9 ≠ 0 ∧ v = 0 ∨ h (za 34) 9 = 0 ∧ v = 1) (c2 : h (za 34) 9 ≠ 0 ∨ h (za 34) 8 ≠ 0) (F : Nat) (l : Int32) : sh_X4_read_19 G (nI V.2.1) (F + 1) l h x = some (v, h, x) := by
  have e : sh_X4_read_84 G (nI V.2.1) h x = some (v, h, x) := by
    unfold sh_X4_read_84
    rcases c with ⟨a, b⟩ | ⟨a, b⟩
    · rw [if_pos a, b]
    · rw [if_neg (fun q => q a), b]
  show sh_X4_read_19_b G (nI V.2.1) (sh_X4_read_19 G (nI V.2.1) F) l h x = _
  unfold sh_X4_read_19_b
  rw [e]
  by_cases q1 : (1000000 : Int32) ≤ l
  · rw [if_pos q1]
  · rw [if_neg q1]
    by_cases q2 : h (za 34) 8 ≠ 0
    · rw [if_pos q2]
    · rw [if_neg q2]
      rcases c2 with q | q
      · rw [if_pos q]
      · exact absurd q q2
theorem C_restart {h : HI} : ∃ h1, sh_X4_restart h = some h1 ∧ vw_ 1 h1 = p_start 2 2 ∧ h1 (za 34) 4 = 0 ∧ h1 (za 34) 5 = 0 ∧ h1 (za 34) 6 = 0 ∧ h1 (za 34) 7 = 0 ∧ h1 (za 34) 8 = 0 ∧ h1 (za 34) 9 = 0 ∧ h1 (za 34) 10 = -1 ∧ fd_ h h1 := by
  unfold sh_X4_restart
  obtain ⟨h2, e2, v2, f2⟩ := C_reset (i := 1) (h0 := h)
  rw [e2, bs]
  refine ⟨_, rfl, ?_, ?_, ?_, ?_, ?_, ?_, ?_, au_, fun a k c1 c2 c3 c4 c5 c6 c7 => ?_⟩
  · rw [V_f (fun j k => by rw [au_a (fun q => by cases q), au_a (fun q => by cases q), au_a (fun q => by cases q), au_a (fun q => by cases q), au_a (fun q => by cases q), au_a (fun q => by cases q), au_a (fun q => by cases q)]), v2]
  · rw [au_k (by omega), au_k (by omega), au_k (by omega), au_k (by omega), au_k (by omega), au_k (by omega), au_]
  · rw [au_k (by omega), au_k (by omega), au_k (by omega), au_k (by omega), au_k (by omega), au_]
  · rw [au_k (by omega), au_k (by omega), au_k (by omega), au_k (by omega), au_]
  · rw [au_k (by omega), au_k (by omega), au_k (by omega), au_]
  · rw [au_k (by omega), au_k (by omega), au_]
  · rw [au_k (by omega), au_]
  · by_cases q : a = za 34
    · subst q
      rw [au_k (fun q => c2 ⟨rfl, by omega⟩), au_k (fun q => c2 ⟨rfl, by omega⟩), au_k (fun q => c2 ⟨rfl, by omega⟩), au_k (fun q => c2 ⟨rfl, by omega⟩), au_k (fun q => c2 ⟨rfl, by omega⟩), au_k (fun q => c2 ⟨rfl, by omega⟩), au_k (fun q => c2 ⟨rfl, by omega⟩)]
      exact f2 _ _ c1
    · rw [au_a q, au_a q, au_a q, au_a q, au_a q, au_a q, au_a q]
      exact f2 _ _ c1
theorem C_read {b : Nat → Nat} {n : Nat} {hi : HI} {x : AX} (hn : n ≤ 500) (hG : 70000 < G) (hb : By_ hi b) : ∃ V : TV, V.1 = b ∧ V.2.1 = n ∧ match r_all V with
    | Sum.inl (c, p) => ∃ h1 x1, sh_X4_read G (nI n) hi x = some (0, h1, x1) ∧ XE V h1 c p ∧ fd_ hi h1 ∧ x1.2 = x.2
    | Sum.inr (s1, w1, sim1) => ∃ h1 x1, sh_X4_read G (nI n) hi x = some (1, h1, x1) ∧ FN h1 w1 ∧ fd_ hi h1 ∧ x1.2 = x.2 := by
  obtain ⟨h2, e2, v2, a4, a5, a6, a7, a8, a9, a10, f2⟩ := C_restart (h := hi)
  have hb2 : By_ h2 b := fun k hk => by
    rw [f2 _ _ (fun j q => by cases q) (fun q => by cases q.1) (fun q => by cases q.1) (fun q => by cases q) (fun q => by cases q) (fun q => by cases q) (fun q => by cases q)]
    exact hb k hk
  obtain ⟨h3, x3, m, e3, T3, p3, f3, ex3⟩ := C_scan (G := G) (x := x) hn (by omega) hb2
  have z3 : ∀ k, h3 (za 34) k = h2 (za 34) k := fun k => f3 _ _ (fun q => by cases q.1) (fun q => by cases q) (fun q => by cases q)
  refine ⟨(b, n, x3.1, m), rfl, rfl, ?_⟩
  generalize hV : ((b, n, x3.1, m) : TV) = V
  have hV1 : V.1 = b := by rw [← hV]
  have hV2 : V.2.1 = n := by rw [← hV]
  have hV3 : V.2.2.1 = x3.1 := by rw [← hV]
  have hV4 : V.2.2.2 = m := by rw [← hV]
  have hCB : CB V h3 (t_skip V.1 V.2.1 0) (p_start 2 2) 0 false := by
    rw [hV1, hV2]
    refine ⟨?_, ⟨0, Nat.zero_le _, p3, ?_⟩, ?_, (z3 5).trans a5, (z3 7).trans a7, (z3 9).trans a9, (z3 10).trans a10⟩
    · rw [hV1, hV2, hV3, hV4]; exact T3
    · rw [hV1, hV2]; rfl
    · rw [V_f (fun j k => f3 _ _ (fun q => by cases q.1) (fun q => by cases q) (fun q => by cases q))]; exact v2
  have g := xr_floor (fe_.refl h3) hCB
  have F3 : fd_ hi h3 := f2.trans (fd_.sc f3)
  have hread : sh_X4_read G (nI n) hi x = (sh_X4_readFloor V.2.2.1 h3).bind fun h5 => sh_X4_read_19 G (nI V.2.1) G (0 : Int32) h5 x3 := by
    unfold sh_X4_read
    rw [e2, bs, e3, bs, hV3, hV2]
  rw [hread]
  unfold r_all
  cases e : x_floor V (t_skip V.1 V.2.1 0) with
  | inl cp =>
    obtain ⟨c, p⟩ := cp
    rw [e] at g
    obtain ⟨h5, e5, x5, f5⟩ := g
    obtain ⟨F, rfl⟩ : ∃ F, G = F + 1 := ⟨G - 1, by omega⟩
    refine ⟨h5, x3, ?_, x5, F3.trans (fd_.l (fl_.of f5)), ex3⟩
    have h9 : h5 (za 34) 9 ≠ 0 := by rw [x5.1]; exact nI_ne0 (by have := x5.2.2.1; omega) (by have := x5.2.2.1; omega)
    rw [e5, bs]
    exact read_end (Or.inl ⟨h9, rfl⟩) (Or.inl h9) F _
  | inr r1 =>
    obtain ⟨s1, w1, sim1⟩ := r1
    rw [e] at g
    obtain ⟨h5, e5, H5, f5⟩ := g
    obtain ⟨hw, hs2, rfl⟩ : XS w1 ∧ 2 ≤ s1 ∧ sim1 = 0 := by
      unfold x_floor at e
      by_cases c : sgV V (t_skip V.1 V.2.1 0) = 0
      · rw [if_pos c] at e
        have hlt := nxV_b (V := V) (sg_lt_n (s := t_skip V.1 V.2.1 0) (by rw [c]; decide))
        cases er : x_num V (nxV V (t_skip V.1 V.2.1 0)) 2 8 with
        | inl cp => rw [er] at e; cases e
        | inr r =>
          rw [er] at e
          obtain ⟨-, r1, r2, r3, r4⟩ := x_num_ok er
          have hlt2 := nxV_b (V := V) r4
          cases ec : x_num V (nxV V (nxV V (t_skip V.1 V.2.1 0))) 2 10 with
          | inl cp =>
            have e : xb (x_num V (nxV V (nxV V (t_skip V.1 V.2.1 0))) 2 10) (fun c => Sum.inr (nxV V (nxV V (nxV V (t_skip V.1 V.2.1 0))), p_start (nI r) (nI c), 0)) = Sum.inr (s1, w1, sim1) := e
            rw [ec] at e; cases e
          | inr c =>
            have e : xb (x_num V (nxV V (nxV V (t_skip V.1 V.2.1 0))) 2 10) (fun c => Sum.inr (nxV V (nxV V (nxV V (t_skip V.1 V.2.1 0))), p_start (nI r) (nI c), 0)) = Sum.inr (s1, w1, sim1) := e
            rw [ec] at e
            obtain ⟨-, c1, c2, c3, c4⟩ := x_num_ok ec
            have hlt3 := nxV_b (V := V) c4
            cases e
            exact ⟨XS_start r1 r2 c1 c2, by omega, rfl⟩
      · rw [if_neg c] at e; cases e
    have y5 : ∀ k, ¬ (k = 5 ∨ k = 7 ∨ k = 9 ∨ k = 10) → h5 (za 34) k = h2 (za 34) k := fun k hk => (f5 _ _ (fun j q => by cases q) (fun q => by cases q.1) (fun q => hk q.2)).trans (z3 k)
    have hCL : CL V h5 s1 w1 0 false false [] := ⟨H5, (y5 6 (by omega)).trans a6, (y5 8 (by omega)).trans a8, (y5 4 (by omega)).trans a4, Nat.zero_le _, trivial⟩
    have gt := L_text (G := G) (x := x3) (by omega) hV3.symm (by rw [hV2]; exact hn) 501 s1 w1 0 false h5 (by omega) hs2 ⟨hw.ib, by omega⟩ (fun _ => hw) hCL
    rw [e5]
    show match r_text V 501 s1 w1 0 false with
      | Sum.inl (c, p) => ∃ h1 x1, sh_X4_read_19 G (nI V.2.1) G (nI 0) h5 x3 = some (0, h1, x1) ∧ XE V h1 c p ∧ fd_ hi h1 ∧ x1.2 = x.2
      | Sum.inr (s1, w1, sim1) => ∃ h1 x1, sh_X4_read_19 G (nI V.2.1) G (nI 0) h5 x3 = some (1, h1, x1) ∧ FN h1 w1 ∧ fd_ hi h1 ∧ x1.2 = x.2
    have F5 : fd_ hi h5 := F3.trans (fd_.l (fl_.of f5))
    have hbig : 125 * (V.2.1 - s1) + 1 ≤ 62501 := by omega
    cases et : r_text V 501 s1 w1 0 false with
    | inl cp =>
      obtain ⟨c, p⟩ := cp
      rw [et] at gt
      obtain ⟨k, h6, P6, x6, f6, b6⟩ := gt
      have h9 : h6 (za 34) 9 ≠ 0 := by rw [x6.1]; exact nI_ne0 (by have := x6.2.2.1; omega) (by have := x6.2.2.1; omega)
      refine ⟨h6, x3, ?_, x6, F5.trans (fd_.l f6), ex3⟩
      have := P6 (G - k) 0 (by omega)
      rw [show G - k + k = G by omega] at this
      rw [this]
      obtain ⟨F, hF⟩ : ∃ F, G - k = F + 1 := ⟨G - k - 1, by omega⟩
      rw [hF]
      exact read_end (Or.inl ⟨h9, rfl⟩) (Or.inl h9) F _
    | inr r6 =>
      obtain ⟨s6, w6, sim6⟩ := r6
      rw [et] at gt
      obtain ⟨k, h6, P6, F6, f6, b6⟩ := gt
      refine ⟨h6, x3, ?_, F6, F5.trans (fd_.l f6), ex3⟩
      have := P6 (G - k) 0 (by omega)
      rw [show G - k + k = G by omega] at this
      rw [this]
      obtain ⟨F, hF⟩ : ∃ F, G - k = F + 1 := ⟨G - k - 1, by omega⟩
      rw [hF]
      exact read_end (Or.inr ⟨F6.2.1, rfl⟩) (Or.inr (by rw [F6.1]; decide)) F _
end CRD
