/-! the model: an event -/
section MV
variable {V : TV} {h h0 : HI} {s sim dep G : Nat} {w : Wd} {beg : Bool}
theorem MB.c5 {h1 : HI} {sim1 dep1 : Nat} {beg1 : Bool} (H : MB V h s w sim beg dep) (f : ∀ a k, ¬ (a = za 195 ∧ (k = 17 ∨ k = 18 ∨ k = 19)) → h1 a k = h a k) (e18 : h1 (za 195) 18 = nI sim1) (e19 : h1 (za 195) 19 = b2 beg1) (e17 : h1 (za 195) 17 = nI dep1) (hb : beg1 = false → beg = false) : MB V h1 s w sim1 beg1 dep1 := by
  obtain ⟨⟨hb1, h12, hn, hs⟩, hT, h10, h11, hw, -, -, -, h25⟩ := H
  have z : ∀ k, k < 17 → h1 (za 195) k = h (za 195) k := fun k hk => f _ _ (fun q => by omega)
  have z6 : ∀ k, h1 (za 196) k = h (za 196) k := fun k => f _ _ (fun q => by cases q.1)
  refine ⟨⟨fun k hk => ?_, (z 12 (by omega)).trans h12, hn, hs⟩, ⟨(z _ (by omega)).trans hT.1, (z _ (by omega)).trans hT.2.1, (z _ (by omega)).trans hT.2.2.1, fun q => (z _ (by omega)).trans (hT.2.2.2 q)⟩, (z 10 (by omega)).trans h10, (z 11 (by omega)).trans h11, (M_o z6).trans hw, e18, e19, e17, fun q => (z6 25).trans (h25 (hb q))⟩
  rw [f _ _ (fun q => by cases q.1)]
  exact hb1 k hk
theorem MB.u18 {m : Nat} (H : MB V h s w sim beg dep) : MB V (am_u h (za 195) 18 (nI m)) s w m beg dep := by
  refine H.c5 (fun a k q => ?_) au_ ((au_k (by omega)).trans H.2.2.2.2.2.2.1) ((au_k (by omega)).trans H.2.2.2.2.2.2.2.1) (fun q => q)
  by_cases c : a = za 195
  · subst c; exact au_k (fun e => q ⟨rfl, by omega⟩)
  · exact au_a c
theorem MB.u17 {m : Nat} (H : MB V h s w sim beg dep) : MB V (am_u h (za 195) 17 (nI m)) s w sim beg m := by
  refine H.c5 (fun a k q => ?_) ((au_k (by omega)).trans H.2.2.2.2.2.1) ((au_k (by omega)).trans H.2.2.2.2.2.2.1) au_ (fun q => q)
  by_cases c : a = za 195
  · subst c; exact au_k (fun e => q ⟨rfl, by omega⟩)
  · exact au_a c
theorem MB.u19 (H : MB V h s w sim beg dep) : MB V (am_u h (za 195) 19 (1 : Int32)) s w sim true dep := by
  refine H.c5 (fun a k q => ?_) ((au_k (by omega)).trans H.2.2.2.2.2.1) au_ ((au_k (by omega)).trans H.2.2.2.2.2.2.2.1) (fun q => by cases q)
  by_cases c : a = za 195
  · subst c; exact au_k (fun e => q ⟨rfl, by omega⟩)
  · exact au_a c
/-- the first event, or none: the walk begins -/
theorem M_begins {K B : Nat} (hG : 501 < G) (hI : ib_ K B 0 w) (H : MB V h s w sim beg dep) : ∃ h1, sh_X10_begins G h = some h1 ∧ MB V h1 s (if beg = true then w else p_reloc w) sim true dep ∧ fq_ h h1 := by
  have h19 := H.2.2.2.2.2.2.1
  unfold sh_X10_begins
  cases beg with
  | true =>
    rw [h19, if_pos (by decide)]
    exact ⟨h, rfl, H, fq_.refl h⟩
  | false =>
    rw [h19, if_neg (by decide), H.al, if_pos (Int32.le_refl _)]
    have H1 := H.u19
    obtain ⟨h2, e2, w2, f2⟩ := M_reloc (G := G) (hi := am_u h (za 195) 19 (1 : Int32)) (by omega) (by rw [H1.mw]; exact hI)
    rw [e2, bs]
    rw [H1.mw] at w2
    exact ⟨h2, rfl, H1.wd w2 f2 (fun q => by cases q), ((fq_.refl h).u (by omega)).trans (fq_.m f2)⟩
/-- minutes that a text lets pass -/
theorem mr_mins {m : Nat} {S : Int32 → HI → Option HI} (hS : S = sh_X10_readsAdvance_37 G ∨ S = sh_X10_readsSleep_39 G) (hG : 501 < G) (hm : m ≤ 300) (hI : IBp sim w) (f0 : fq_ h0 h) (H : MB V h s w sim true dep) : mr_ V true dep (if (h (za 195) 18) + nI m ≤ (2000 : Int32) then S (nI m) h else (sh_X10_faults (4 : Int32) h).bind fun h9 => S (nI m) h9) h0 (x_mins V s w sim m) := by
  have h18 := H.2.2.2.2.2.1
  have h2000 := hI.2
  have eS : ∀ h5, S (nI m) h5 = (sh_X10_goes G h5).bind fun h5 => if h5 (za 195) 10 ≤ 0 then (sh_X10_passesMany G (nI m) (am_u h5 (za 195) 18 ((h5 (za 195) 18) + nI m))).bind fun h7 => some h7 else some h5 := fun h5 => by
    rcases hS with e | e <;> rw [e] <;> rfl
  unfold x_mins
  rw [h18, nI_add]
  by_cases c : 2000 < sim + m
  · rw [if_pos c, if_neg (show ¬ nI (sim + m) ≤ (2000 : Int32) from fun q => by have := (nI_leI (b := 2000) (by omega) (by omega)).mp q; omega)]
    obtain ⟨h1, e1, x1, f1⟩ := M_flt (c := 4) (by omega) H
    rw [show (4 : Int32) = nI 4 from rfl, e1, bs, eS, D_go x1.d, bs, if_neg x1.d]
    exact mr_dead x1 (f0.trans f1)
  · rw [if_neg c, if_pos (show nI (sim + m) ≤ (2000 : Int32) from nI_le (b := 2000) (by omega) (by omega)), eS]
    obtain ⟨h1, e1, H1, f1⟩ := M_go hG H
    rw [e1, bs, H1.al, if_pos (Int32.le_refl _), H1.2.2.2.2.2.1, nI_add]
    have H2 := H1.u18 (m := sim + m)
    obtain ⟨h3, e3, w3, f3⟩ := M_passN (G := G) (n := m) (K := sim) (B := 5 * sim) (hi := am_u h1 (za 195) 18 (nI (sim + m))) (by omega) (by omega) (by omega) (by omega) (by rw [H2.mw]; exact hI.1)
    rw [e3, bs]
    rw [H2.mw] at w3
    exact mr_ret (H2.wd w3 f3 (fun q => by cases q)) (((f0.trans f1).u (by omega)).trans (fq_.m f3))
theorem mr_spill (hG : 501 < G) (hs : st_ w) (H : MB V h s w sim beg dep) : mr_ V beg dep (sh_X10_readsSpill G h) h (x_spill V (nxV V s) w sim) := by
  have h4 := hs.rc
  unfold sh_X10_readsSpill x_spill sh_X10_emptyTile
  obtain ⟨h2, e2, H2, f2⟩ := M_go hG H
  rw [e2, bs, M_tilesW hs H2, bs, S1_ (by omega), Option.bind_assoc]
  refine mr_nh (lo := 0) f2 (by omega) (by omega) H2 (fun t a1 a2 a3 => ?_) (fun h1 D => ⟨h1, ?_, rfl, rfl, fq_.refl h1⟩)
  · show mr_ V beg dep ((if h2 (za 195) 10 ≠ 0 then sh_X10_emptyTile_32 G (nI t) h2 else (sh_X10_isEmpty (nI t) h2).bind fun v5 => if v5 ≠ 0 then sh_X10_emptyTile_32 G (nI t) h2 else (sh_X10_faults (3 : Int32) h2).bind fun h7 => sh_X10_emptyTile_32 G (nI t) h7).bind fun v3 => (sh_X10_number G (1 : Int32) (99 : Int32) v3.2).bind fun v4 => if v4.2 (za 195) 10 ≠ 0 then some v4.2 else if 0 ≤ (244 : Int32) + v3.1 ∧ ((244 : Int32) + v3.1).toNatClampNeg < 424 then (some (am_u v4.2 (za 196) ((244 : Int32) + v3.1).toNatClampNeg v4.1)).bind fun h5 => some h5 else none) h _
    rw [if_neg (fun z => z H2.al), M_empty (by omega), bs, H2.mw, ne_of]
    by_cases c : p_free w t = true
    · rw [if_pos c, if_pos c]
      unfold sh_X10_emptyTile_32
      obtain ⟨h3, e3, H3, f3⟩ := M_go hG H2
      rw [e3, bs, bs]
      refine mr_num (lo := 1) (hi := 99) hG (f2.trans f3) (by omega) (by omega) H3 (fun v h5 b1 b2 b3 H5 f5 => ?_) (fun h1 D => ⟨h1, if_pos D.ne, rfl, rfl, fq_.refl h1⟩)
      show mr_ V beg dep (if h5 (za 195) 10 ≠ 0 then some h5 else if 0 ≤ (244 : Int32) + nI t ∧ ((244 : Int32) + nI t).toNatClampNeg < 424 then (some (am_u h5 (za 196) ((244 : Int32) + nI t).toNatClampNeg (nI v))).bind fun h5 => some h5 else none) h _
      rw [if_neg (fun z => z H5.al), A244, if_pos (ok4 (by omega)), nI_clamp (by omega), bs]
      exact mr_ret (H5.u6 (Or.inr (by omega)) (Or.inr (by omega))) f5.u6
    · rw [if_neg c, if_neg c]
      obtain ⟨h1, e1, x1, f1⟩ := M_flt (c := 3) (by omega) H2
      unfold sh_X10_emptyTile_32
      rw [show (3 : Int32) = nI 3 from rfl, e1, bs, D_go x1.d, bs, bs, D_num x1.d, bs, if_pos x1.d.ne]
      exact mr_dead x1 (f2.trans f1)
  · show (if h1 (za 195) 10 ≠ 0 then sh_X10_emptyTile_32 G (nI 0) h1 else _).bind (fun v3 => _) = some h1
    unfold sh_X10_emptyTile_32
    rw [if_pos D.ne, D_go D, bs, bs, D_num D, bs]
    exact if_pos D.ne
theorem mr_carry (hG : 501 < G) (hs : st_ w) (H : MB V h s w sim beg dep) : mr_ V beg dep (sh_X10_readsCarry G h) h (x_carry V (nxV V s) w sim) := by
  have h4 := hs.rc
  unfold sh_X10_readsCarry x_carry
  obtain ⟨h2, e2, H2, f2⟩ := M_go hG H
  rw [e2, bs, M_tilesW hs H2, bs, S1_ (by omega)]
  refine mr_nh (lo := 0) f2 (by omega) (by omega) H2 (fun t a1 a2 a3 => ?_) (fun h1 D => ⟨h1, ?_, rfl, rfl, fq_.refl h1⟩)
  · show mr_ V beg dep (if h2 (za 195) 10 ≠ 0 then sh_X10_readsCarry_39 G (nI t) h2 else if h2 (za 196) 16 ≠ (-1 : Int32) then sh_X10_readsCarry_39 G (nI t) h2 else (sh_X10_faults (3 : Int32) h2).bind fun h8 => sh_X10_readsCarry_39 G (nI t) h8) h _
    rw [if_neg (fun z => z H2.al), M_r h2 (k := 16) (by omega), H2.mw]
    unfold sh_X10_readsCarry_39 sh_X10_readsCarry_54
    by_cases c : w 16 = -1
    · rw [if_neg (fun z => z c), if_pos c]
      obtain ⟨h1, e1, x1, f1⟩ := M_flt (c := 3) (by omega) H2
      rw [show (3 : Int32) = nI 3 from rfl, e1, bs, if_pos x1.d.ne, D_go x1.d, bs]
      exact mr_dead x1 (f2.trans f1)
    · rw [if_pos c, if_neg c, if_neg (fun z => z H2.al)]
      obtain ⟨h3, e3, H3, f3⟩ := M_go hG (H2.u6 (k := 16) (v := nI t) (Or.inl (by omega)) (Or.inl (by omega)))
      rw [e3, bs]
      exact mr_ret H3 (f2.u6.trans f3)
  · show (if h1 (za 195) 10 ≠ 0 then sh_X10_readsCarry_39 G (nI 0) h1 else _) = some h1
    unfold sh_X10_readsCarry_39 sh_X10_readsCarry_54
    rw [if_pos D.ne, if_pos D.ne, D_go D, bs]
theorem mr_turn (hG : 501 < G) (H : MB V h s w sim beg dep) : mr_ V beg dep (sh_X10_readsTurn G h) h (Sum.inr (nxV V s, upd w 10 (1 - w 10), sim)) := by
  unfold sh_X10_readsTurn
  rw [M_r h (k := 10) (by omega), H.mw]
  obtain ⟨h3, e3, H3, f3⟩ := M_go hG (H.u6 (k := 10) (v := (1 : Int32) - w 10) (Or.inl (by omega)) (Or.inl (by omega)))
  rw [e3, bs]
  exact mr_ret H3 ((fq_.refl h).u6.trans f3)
theorem mr_sleep (hG : 501 < G) (hI : IBp sim w) (H : MB V h s w sim true dep) : mr_ V true dep (sh_X10_readsSleep G h) h (x_mins V s w sim (nn w 0 * nn w 2 - nn w 7)) := by
  have hs := hI.1.1
  have hr := hs.r
  have hl := hs.l
  have hb9 : nn w 0 * nn w 2 ≤ 8 * 20 := Nat.mul_le_mul hr.2.2 hl.2.2
  have h7 := hI.1.2.2.2.2.2.1
  have g := mr_mins (m := nn w 0 * nn w 2 - nn w 7) (Or.inr rfl) hG (by omega) hI (fq_.refl h) H
  unfold sh_X10_readsSleep
  rw [m_0 h, m_2 h, m_7 h, H.mw, hr.1, hl.1, h7.1, pk_mul, nn_of h7.1 (by omega), pk_sub (by omega)]
  exact g
theorem mr_adv (hG : 501 < G) (hI : IBp sim w) (H : MB V h s w sim true dep) : mr_ V true dep (sh_X10_readsAdvance G h) h (xb (x_num V (nxV V s) 1 300) (fun m => x_mins V (nxV V s) w sim m)) := by
  unfold sh_X10_readsAdvance
  obtain ⟨h2, e2, H2, f2⟩ := M_go hG H
  rw [e2, bs]
  refine mr_nh (lo := 1) (hi := 300) f2 (by omega) (by omega) H2 (fun m a1 a2 a3 => ?_) (fun h1 D => ⟨h1, ?_, rfl, rfl, fq_.refl h1⟩)
  · show mr_ V true dep (if h2 (za 195) 10 ≠ 0 then sh_X10_readsAdvance_37 G (nI m) h2 else if (h2 (za 195) 18) + nI m ≤ (2000 : Int32) then sh_X10_readsAdvance_37 G (nI m) h2 else (sh_X10_faults (4 : Int32) h2).bind fun h9 => sh_X10_readsAdvance_37 G (nI m) h9) h _
    rw [if_neg (fun z => z H2.al)]
    exact mr_mins (Or.inl rfl) hG a3 hI f2 H2
  · show (if h1 (za 195) 10 ≠ 0 then sh_X10_readsAdvance_37 G (nI 1) h1 else _) = some h1
    unfold sh_X10_readsAdvance_37
    rw [if_pos D.ne, D_go D, bs, if_neg D]
theorem M_tev (hG : 501 < G) (H : MB V h s w sim beg dep) : sh_X10_isTileEvent G h = some (b2 (decide (14 ≤ (sgV V s).val ∧ (sgV V s).val ≤ 16))) := by
  unfold sh_X10_isTileEvent
  rw [M_word (j := 57) (q := 14) (by decide) (by decide) rfl (by omega) H, M_word (j := 58) (q := 15) (by decide) (by decide) rfl (by omega) H, M_word (j := 59) (q := 16) (by decide) (by decide) rfl (by omega) H]
  generalize sgV V s = z
  revert z
  decide
theorem M_oev (hG : 501 < G) (H : MB V h s w sim beg dep) : sh_X10_isOtherEvent G h = some (b2 (decide ((sgV V s).val = 2 ∨ (17 ≤ (sgV V s).val ∧ (sgV V s).val ≤ 23)))) := by
  unfold sh_X10_isOtherEvent
  rw [M_word (j := 60) (q := 17) (by decide) (by decide) rfl (by omega) H, M_word (j := 61) (q := 21) (by decide) (by decide) rfl (by omega) H, M_word (j := 62) (q := 23) (by decide) (by decide) rfl (by omega) H, M_word (j := 45) (q := 2) (by decide) (by decide) rfl (by omega) H, M_word (j := 63) (q := 18) (by decide) (by decide) rfl (by omega) H, M_word (j := 64) (q := 19) (by decide) (by decide) rfl (by omega) H, M_word (j := 65) (q := 20) (by decide) (by decide) rfl (by omega) H, M_word (j := 66) (q := 22) (by decide) (by decide) rfl (by omega) H]
  generalize sgV V s = z
  revert z
  decide
/-- an event, the walk begun -/
def D_ev (G : Nat) (rep : HI → Option HI) (h3 : HI) : Option HI := (sh_X10_isTileEvent G h3).bind fun v4 => if v4 = 0 then (sh_X10_isWord G 60 h3).bind fun v5 => if v5 = 0 then (sh_X10_isWord G 45 h3).bind fun v6 => if v6 = 0 then (sh_X10_isWord G 63 h3).bind fun v7 => if v7 = 0 then (sh_X10_isWord G 64 h3).bind fun v8 => if v8 = 0 then (sh_X10_isWord G 65 h3).bind fun v9 => if v9 = 0 then (sh_X10_isWord G 66 h3).bind fun v10 => if v10 = 0 then (sh_X10_isWord G 61 h3).bind fun v11 => if v11 = 0 then (sh_X10_isWord G 62 h3).bind fun v12 => if v12 = 0 then some h3 else (rep h3).bind fun h14 => some h14 else (sh_X10_readsAdvance G h3).bind fun h16 => some h16 else (sh_X10_readsSleep G h3).bind fun h18 => some h18 else (sh_X10_readsCarry G h3).bind fun h20 => some h20 else (sh_X10_readsCurtainsOf G (1 : Int32) h3).bind fun h22 => some h22 else (sh_X10_readsCurtainsOf G (0 : Int32) h3).bind fun h24 => some h24 else (sh_X10_readsNumber G (3 : Int32) (1 : Int32) (5 : Int32) h3).bind fun h26 => some h26 else (sh_X10_readsTurn G h3).bind fun h28 => some h28 else (sh_X10_readsTileEvent G h3).bind fun h30 => some h30
theorem D_ev_d {rep : HI → Option HI} (D : Dd h) : D_ev G rep h = some h := by
  unfold D_ev sh_X10_isTileEvent
  simp only [D_word D, bs, ne_eq, eq_self, not_true_eq_false, if_true, if_false]
theorem mr_evd {rep : HI → Option HI} {repx : Nat → Wd → Nat → XR (Nat × Wd × Nat)} (hG : 501 < G) (hI : IBp sim w) (hs : s < V.2.1) (c : (sgV V s).val = 2 ∨ (14 ≤ (sgV V s).val ∧ (sgV V s).val ≤ 23)) (H : MB V h s w sim true dep) (hr : sgV V s = 23 → mr_ V true dep (rep h) h (repx s w sim)) : mr_ V true dep (D_ev G rep h) h (r_one V repx s w sim) := by
  have hn := nxV_b hs
  have hst := hI.1.1
  have hti := hI.1.2.1
  have hz : ∀ z : Fin 37, z.val = 2 ∨ (14 ≤ z.val ∧ z.val ≤ 23) → z = 2 ∨ z = 14 ∨ z = 15 ∨ z = 16 ∨ z = 17 ∨ z = 18 ∨ z = 19 ∨ z = 20 ∨ z = 21 ∨ z = 22 ∨ z = 23 := by decide
  unfold D_ev r_one x_ev sh_X10_readsTileEvent
  have et := M_tev (V := V) (s := s) hG H
  rcases hz _ c with z | z | z | z | z | z | z | z | z | z | z
  · have e4 : sh_X10_isTileEvent G h = some 0 := et.trans (by rw [z]; rfl)
    have e60 := W_0 (j := 60) 17 (by decide) (by decide) rfl hG (by rw [z]; decide) H
    have e45 := W_1 (j := 45) 2 (by decide) (by decide) rfl hG z H
    simp only [bs, ne_eq, eq_self, not_true_eq_false, not_false_eq_true, if_true, if_false, i10, e4, e60, e45]
    rw [z, if_neg (show ¬ (2 : Fin 37) = 23 by decide), if_pos (show (2 : Fin 37).val = 2 ∨ (14 ≤ (2 : Fin 37).val ∧ (2 : Fin 37).val ≤ 22) by decide), if_pos (show (2 : Fin 37) = 2 from rfl)]
    exact mr_bs (mr_nset (k := 3) (lo := 1) (hi := 5) hG (by omega) (by omega) (by omega) H)
  · have e4 : sh_X10_isTileEvent G h = some 1 := et.trans (by rw [z]; rfl)
    have e57 := W_1 (j := 57) 14 (by decide) (by decide) rfl hG z H
    simp only [bs, ne_eq, eq_self, not_true_eq_false, not_false_eq_true, if_true, if_false, i10, e4, e57]
    rw [z, if_neg (show ¬ (14 : Fin 37) = 23 by decide), if_pos (show (14 : Fin 37).val = 2 ∨ (14 ≤ (14 : Fin 37).val ∧ (14 : Fin 37).val ≤ 22) by decide), if_neg (show ¬ (14 : Fin 37) = 2 by decide), if_neg (show ¬ (14 : Fin 37) = 15 by decide), if_neg (show ¬ (14 : Fin 37) = 17 by decide), if_neg (show ¬ (14 : Fin 37) = 18 by decide), if_neg (show ¬ (14 : Fin 37) = 19 by decide), if_neg (show ¬ (14 : Fin 37) = 20 by decide), if_neg (show ¬ (14 : Fin 37) = 21 by decide), if_neg (show ¬ (14 : Fin 37) = 22 by decide)]
    exact mr_bs (mr_bs (mr_its (q := 14) hG (Or.inr (Or.inl rfl)) (fun e => absurd e (by decide)) (by omega) hst hti (fun e => absurd e (by decide)) H))
  · have e4 : sh_X10_isTileEvent G h = some 1 := et.trans (by rw [z]; rfl)
    have e57 := W_0 (j := 57) 14 (by decide) (by decide) rfl hG (by rw [z]; decide) H
    have e59 := W_0 (j := 59) 16 (by decide) (by decide) rfl hG (by rw [z]; decide) H
    simp only [bs, ne_eq, eq_self, not_true_eq_false, not_false_eq_true, if_true, if_false, i10, e4, e57, e59]
    rw [z, if_neg (show ¬ (15 : Fin 37) = 23 by decide), if_pos (show (15 : Fin 37).val = 2 ∨ (14 ≤ (15 : Fin 37).val ∧ (15 : Fin 37).val ≤ 22) by decide), if_neg (show ¬ (15 : Fin 37) = 2 by decide), if_pos (show (15 : Fin 37) = 15 from rfl)]
    exact mr_bs (mr_bs (mr_spill hG hst H))
  · have e4 : sh_X10_isTileEvent G h = some 1 := et.trans (by rw [z]; rfl)
    have e57 := W_0 (j := 57) 14 (by decide) (by decide) rfl hG (by rw [z]; decide) H
    have e59 := W_1 (j := 59) 16 (by decide) (by decide) rfl hG z H
    simp only [bs, ne_eq, eq_self, not_true_eq_false, not_false_eq_true, if_true, if_false, i10, e4, e57, e59]
    rw [z, if_neg (show ¬ (16 : Fin 37) = 23 by decide), if_pos (show (16 : Fin 37).val = 2 ∨ (14 ≤ (16 : Fin 37).val ∧ (16 : Fin 37).val ≤ 22) by decide), if_neg (show ¬ (16 : Fin 37) = 2 by decide), if_neg (show ¬ (16 : Fin 37) = 15 by decide), if_neg (show ¬ (16 : Fin 37) = 17 by decide), if_neg (show ¬ (16 : Fin 37) = 18 by decide), if_neg (show ¬ (16 : Fin 37) = 19 by decide), if_neg (show ¬ (16 : Fin 37) = 20 by decide), if_neg (show ¬ (16 : Fin 37) = 21 by decide), if_neg (show ¬ (16 : Fin 37) = 22 by decide)]
    exact mr_bs (mr_bs (mr_its (q := 16) hG (Or.inr (Or.inr rfl)) (fun e => absurd e (by decide)) (by omega) hst hti (fun e => absurd e (by decide)) H))
  · have e4 : sh_X10_isTileEvent G h = some 0 := et.trans (by rw [z]; rfl)
    have e60 := W_1 (j := 60) 17 (by decide) (by decide) rfl hG z H
    simp only [bs, ne_eq, eq_self, not_true_eq_false, not_false_eq_true, if_true, if_false, i10, e4, e60]
    rw [z, if_neg (show ¬ (17 : Fin 37) = 23 by decide), if_pos (show (17 : Fin 37).val = 2 ∨ (14 ≤ (17 : Fin 37).val ∧ (17 : Fin 37).val ≤ 22) by decide), if_neg (show ¬ (17 : Fin 37) = 2 by decide), if_neg (show ¬ (17 : Fin 37) = 15 by decide), if_pos (show (17 : Fin 37) = 17 from rfl)]
    exact mr_bs (mr_turn hG H)
  · have e4 : sh_X10_isTileEvent G h = some 0 := et.trans (by rw [z]; rfl)
    have e60 := W_0 (j := 60) 17 (by decide) (by decide) rfl hG (by rw [z]; decide) H
    have e45 := W_0 (j := 45) 2 (by decide) (by decide) rfl hG (by rw [z]; decide) H
    have e63 := W_1 (j := 63) 18 (by decide) (by decide) rfl hG z H
    simp only [bs, ne_eq, eq_self, not_true_eq_false, not_false_eq_true, if_true, if_false, i10, e4, e60, e45, e63]
    rw [z, if_neg (show ¬ (18 : Fin 37) = 23 by decide), if_pos (show (18 : Fin 37).val = 2 ∨ (14 ≤ (18 : Fin 37).val ∧ (18 : Fin 37).val ≤ 22) by decide), if_neg (show ¬ (18 : Fin 37) = 2 by decide), if_neg (show ¬ (18 : Fin 37) = 15 by decide), if_neg (show ¬ (18 : Fin 37) = 17 by decide), if_pos (show (18 : Fin 37) = 18 from rfl)]
    exact mr_bs (mr_curs (cl := 0) hG (by omega) hst H)
  · have e4 : sh_X10_isTileEvent G h = some 0 := et.trans (by rw [z]; rfl)
    have e60 := W_0 (j := 60) 17 (by decide) (by decide) rfl hG (by rw [z]; decide) H
    have e45 := W_0 (j := 45) 2 (by decide) (by decide) rfl hG (by rw [z]; decide) H
    have e63 := W_0 (j := 63) 18 (by decide) (by decide) rfl hG (by rw [z]; decide) H
    have e64 := W_1 (j := 64) 19 (by decide) (by decide) rfl hG z H
    simp only [bs, ne_eq, eq_self, not_true_eq_false, not_false_eq_true, if_true, if_false, i10, e4, e60, e45, e63, e64]
    rw [z, if_neg (show ¬ (19 : Fin 37) = 23 by decide), if_pos (show (19 : Fin 37).val = 2 ∨ (14 ≤ (19 : Fin 37).val ∧ (19 : Fin 37).val ≤ 22) by decide), if_neg (show ¬ (19 : Fin 37) = 2 by decide), if_neg (show ¬ (19 : Fin 37) = 15 by decide), if_neg (show ¬ (19 : Fin 37) = 17 by decide), if_neg (show ¬ (19 : Fin 37) = 18 by decide), if_pos (show (19 : Fin 37) = 19 from rfl)]
    exact mr_bs (mr_curs (cl := 1) hG (by omega) hst H)
  · have e4 : sh_X10_isTileEvent G h = some 0 := et.trans (by rw [z]; rfl)
    have e60 := W_0 (j := 60) 17 (by decide) (by decide) rfl hG (by rw [z]; decide) H
    have e45 := W_0 (j := 45) 2 (by decide) (by decide) rfl hG (by rw [z]; decide) H
    have e63 := W_0 (j := 63) 18 (by decide) (by decide) rfl hG (by rw [z]; decide) H
    have e64 := W_0 (j := 64) 19 (by decide) (by decide) rfl hG (by rw [z]; decide) H
    have e65 := W_1 (j := 65) 20 (by decide) (by decide) rfl hG z H
    simp only [bs, ne_eq, eq_self, not_true_eq_false, not_false_eq_true, if_true, if_false, i10, e4, e60, e45, e63, e64, e65]
    rw [z, if_neg (show ¬ (20 : Fin 37) = 23 by decide), if_pos (show (20 : Fin 37).val = 2 ∨ (14 ≤ (20 : Fin 37).val ∧ (20 : Fin 37).val ≤ 22) by decide), if_neg (show ¬ (20 : Fin 37) = 2 by decide), if_neg (show ¬ (20 : Fin 37) = 15 by decide), if_neg (show ¬ (20 : Fin 37) = 17 by decide), if_neg (show ¬ (20 : Fin 37) = 18 by decide), if_neg (show ¬ (20 : Fin 37) = 19 by decide), if_pos (show (20 : Fin 37) = 20 from rfl)]
    exact mr_bs (mr_carry hG hst H)
  · have e4 : sh_X10_isTileEvent G h = some 0 := et.trans (by rw [z]; rfl)
    have e60 := W_0 (j := 60) 17 (by decide) (by decide) rfl hG (by rw [z]; decide) H
    have e45 := W_0 (j := 45) 2 (by decide) (by decide) rfl hG (by rw [z]; decide) H
    have e63 := W_0 (j := 63) 18 (by decide) (by decide) rfl hG (by rw [z]; decide) H
    have e64 := W_0 (j := 64) 19 (by decide) (by decide) rfl hG (by rw [z]; decide) H
    have e65 := W_0 (j := 65) 20 (by decide) (by decide) rfl hG (by rw [z]; decide) H
    have e66 := W_0 (j := 66) 22 (by decide) (by decide) rfl hG (by rw [z]; decide) H
    have e61 := W_1 (j := 61) 21 (by decide) (by decide) rfl hG z H
    simp only [bs, ne_eq, eq_self, not_true_eq_false, not_false_eq_true, if_true, if_false, i10, e4, e60, e45, e63, e64, e65, e66, e61]
    rw [z, if_neg (show ¬ (21 : Fin 37) = 23 by decide), if_pos (show (21 : Fin 37).val = 2 ∨ (14 ≤ (21 : Fin 37).val ∧ (21 : Fin 37).val ≤ 22) by decide), if_neg (show ¬ (21 : Fin 37) = 2 by decide), if_neg (show ¬ (21 : Fin 37) = 15 by decide), if_neg (show ¬ (21 : Fin 37) = 17 by decide), if_neg (show ¬ (21 : Fin 37) = 18 by decide), if_neg (show ¬ (21 : Fin 37) = 19 by decide), if_neg (show ¬ (21 : Fin 37) = 20 by decide), if_pos (show (21 : Fin 37) = 21 from rfl)]
    exact mr_bs (mr_adv hG hI H)
  · have e4 : sh_X10_isTileEvent G h = some 0 := et.trans (by rw [z]; rfl)
    have e60 := W_0 (j := 60) 17 (by decide) (by decide) rfl hG (by rw [z]; decide) H
    have e45 := W_0 (j := 45) 2 (by decide) (by decide) rfl hG (by rw [z]; decide) H
    have e63 := W_0 (j := 63) 18 (by decide) (by decide) rfl hG (by rw [z]; decide) H
    have e64 := W_0 (j := 64) 19 (by decide) (by decide) rfl hG (by rw [z]; decide) H
    have e65 := W_0 (j := 65) 20 (by decide) (by decide) rfl hG (by rw [z]; decide) H
    have e66 := W_1 (j := 66) 22 (by decide) (by decide) rfl hG z H
    simp only [bs, ne_eq, eq_self, not_true_eq_false, not_false_eq_true, if_true, if_false, i10, e4, e60, e45, e63, e64, e65, e66]
    rw [z, if_neg (show ¬ (22 : Fin 37) = 23 by decide), if_pos (show (22 : Fin 37).val = 2 ∨ (14 ≤ (22 : Fin 37).val ∧ (22 : Fin 37).val ≤ 22) by decide), if_neg (show ¬ (22 : Fin 37) = 2 by decide), if_neg (show ¬ (22 : Fin 37) = 15 by decide), if_neg (show ¬ (22 : Fin 37) = 17 by decide), if_neg (show ¬ (22 : Fin 37) = 18 by decide), if_neg (show ¬ (22 : Fin 37) = 19 by decide), if_neg (show ¬ (22 : Fin 37) = 20 by decide), if_neg (show ¬ (22 : Fin 37) = 21 by decide), if_pos (show (22 : Fin 37) = 22 from rfl)]
    exact mr_bs (mr_sleep hG hI H)
  · have e4 : sh_X10_isTileEvent G h = some 0 := et.trans (by rw [z]; rfl)
    have e60 := W_0 (j := 60) 17 (by decide) (by decide) rfl hG (by rw [z]; decide) H
    have e45 := W_0 (j := 45) 2 (by decide) (by decide) rfl hG (by rw [z]; decide) H
    have e63 := W_0 (j := 63) 18 (by decide) (by decide) rfl hG (by rw [z]; decide) H
    have e64 := W_0 (j := 64) 19 (by decide) (by decide) rfl hG (by rw [z]; decide) H
    have e65 := W_0 (j := 65) 20 (by decide) (by decide) rfl hG (by rw [z]; decide) H
    have e66 := W_0 (j := 66) 22 (by decide) (by decide) rfl hG (by rw [z]; decide) H
    have e61 := W_0 (j := 61) 21 (by decide) (by decide) rfl hG (by rw [z]; decide) H
    have e62 := W_1 (j := 62) 23 (by decide) (by decide) rfl hG z H
    simp only [bs, ne_eq, eq_self, not_true_eq_false, not_false_eq_true, if_true, if_false, i10, e4, e60, e45, e63, e64, e65, e66, e61, e62]
    rw [z, if_pos rfl]
    exact mr_bs (hr z)
end MV
