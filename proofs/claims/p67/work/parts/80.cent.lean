/-! the class reads settings and single events as x_.. says -/
section CE
variable {V : TV} {h h0 : HI} {s sim : Nat} {w : Wd} {beg : Bool}
theorem CB.wd {h1 : HI} {w1 : Wd} (H : CB V h s w sim beg) (hw : vw_ 1 h1 = w1) (f : fr_ 1 h h1) : CB V h1 s w1 sim beg := by
  obtain ⟨T, ⟨p, hp, e4, e⟩, -, h5, h7, h9, h10⟩ := H
  have z : ∀ (n : Nat) k, h1 (za n) k = h (za n) k := fun n k => f _ _ (fun j q => by cases q)
  exact ⟨T.fe (fe_.of f), ⟨p, hp, (z _ _).trans e4, e⟩, hw, (z _ _).trans h5, (z _ _).trans h7, (z _ _).trans h9, (z _ _).trans h10⟩
theorem CB.vw (H : CB V h s w sim beg) : vw_ 1 h = w := H.2.2.1
theorem fe_u {h1 : HI} {j m : Nat} {v : Int32} : fe_ h1 (am_u h1 (wa 1 j) m v) := fun a k c1 _ _ => au_a (c1 j)
theorem xe_u {h1 : HI} {j m : Nat} {v : Int32} : ∀ c p, XE V h1 c p → XE V (am_u h1 (wa 1 j) m v) c p := fun c p x => by
  unfold XE
  rw [au_a (fun q => by cases q), au_a (fun q => by cases q)]
  exact x
theorem keepE (h1 : HI) : ∃ h2, some h1 = some h2 ∧ (∀ c p, XE V h1 c p → XE V h2 c p) ∧ fe_ h1 h2 := ⟨h1, rfl, fun _ _ x => x, fe_.refl h1⟩
theorem xr_nset {k j m lo hi : Nat} (hk : k < 424) (ha : adr k = (j, m)) (hp : (k < 46 ∧ k ≠ 25 ∧ k ≠ 17 ∧ k ≠ 19 ∧ k ≠ 24) ∨ (84 ≤ k ∧ k < 404)) (hh : hi < 2 ^ 30) (hl : lo < 2 ^ 30) (f0 : fe_ h0 h) (H : CB V h s w sim beg) : xr_ V beg ((sh_X4_takeNumber V.2.2.1 (nI lo) (nI hi) h).bind fun v => some (am_u v.2 (wa 1 j) m v.1)) h0 (x_nset V k lo hi s w sim) := by
  refine xr_take f0 hh hl H (fun v h1 _ _ _ H1 f1 => ?_) (fun h1 => ⟨_, rfl, xe_u, fe_u⟩)
  exact xr_ret (H1.wd (by rw [V_u hk ha hp, H1.vw]) (fr_.refl 1 h1).u) (f1.trans fe_u)
theorem xr_walk (hs : st_ w) (f0 : fe_ h0 h) (H : CB V h s w sim beg) : xr_ V beg (sh_X4_readWalker V.2.2.1 h) h0 (x_walk V s w sim) := by
  have hc := hs.c
  unfold sh_X4_readWalker x_walk
  rw [vr_1 1 h, H.vw, hc.1, S1_ (by omega)]
  refine xr_take (lo := 0) f0 (by omega) (by omega) H (fun v h1 a1 a2 a3 H1 f1 => ?_) (fun h1 => ⟨h1, if_neg (fun q => q rfl), fun _ _ x => x, fe_.refl h1⟩)
  show xr_ V beg (if nI v ≠ -1 then (sh_sign V.2.2.1 h1).bind fun v2 => if v2 = 29 then sh_X4_readWalker_52 V.2.2.1 (nI v) v2 h1 else if v2 = 30 then sh_X4_readWalker_52 V.2.2.1 (nI v) v2 h1 else (sh_X4_fail (1 : Int32) h1).bind fun h6 => some h6 else some h1) h0 _
  rw [if_pos (nI_m1 (by omega)), C_sgn H1, bs]
  obtain ⟨h2, e2, H2, f2⟩ := C_goOn H1
  unfold sh_X4_readWalker_52
  rw [e2, bs]
  by_cases c1 : sgV V (nxV V s) = 29
  · rw [if_pos c1, if_pos c1, if_pos (by rw [c1]; decide)]
    exact xr_ret (H2.wd (by rw [uw_10, uw_9, H2.vw]) (fr_.refl 1 h2).u.u) ((f1.trans f2).trans (fe_u.trans fe_u))
  · rw [if_neg c1, if_neg c1]
    by_cases c2 : sgV V (nxV V s) = 30
    · rw [if_pos c2, if_pos c2, if_neg (fun q => q c2)]
      exact xr_ret (H2.wd (by rw [uw_10, uw_9, H2.vw]) (fr_.refl 1 h2).u.u) ((f1.trans f2).trans (fe_u.trans fe_u))
    · rw [if_neg c2, if_neg c2]
      exact xr_fail H1 f1 rfl (by omega)
theorem C_mv (q : Fin 37) (hi : HI) : sh_X4_moveOf q hi = some (oI (x_mv q)) := by
  have : ∀ q : Fin 37, (if nI (am_swm.getD q.val 0) = 13 then some (0 : Int32) else if nI (am_swm.getD q.val 0) = 14 then some (1 : Int32) else if nI (am_swm.getD q.val 0) = 15 then some (2 : Int32) else if nI (am_swm.getD q.val 0) = 16 then some (3 : Int32) else if nI (am_swm.getD q.val 0) = 17 then some (4 : Int32) else some (-1 : Int32)) = some (oI (x_mv q)) := by decide +kernel
  exact this q
theorem xr_route {G : Nat} : ∀ (f k F s : Nat) (h : HI) (w : Wd), f < F → k + f = 31 → fe_ h0 h → nn w 17 = k → CB V h s w sim beg → xr_ V beg (sh_X4_readCat_42 G V.2.2.1 F (nI k) h) h0 (x_route V f k s w sim)
  | f, k, 0, s, h, w, hF, _, _, _, _ => absurd hF (Nat.not_lt_zero _)
  | 0, k, F + 1, s, h, w, hF, hk, f0, h17, H => by
    show xr_ V beg (sh_X4_readCat_42_b G V.2.2.1 (sh_X4_readCat_42 G V.2.2.1 F) (nI k) h) h0 (Sum.inr (s, w, sim))
    unfold sh_X4_readCat_42_b
    rw [if_pos (show (30 : Int32) < nI k from nI_lt (a := 30) (by omega) (by omega))]
    exact xr_ret H f0
  | f + 1, k, F + 1, s, h, w, hF, hk, f0, h17, H => by
    show xr_ V beg (sh_X4_readCat_42_b G V.2.2.1 (sh_X4_readCat_42 G V.2.2.1 F) (nI k) h) h0 (x_route V (f + 1) k s w sim)
    unfold sh_X4_readCat_42_b
    rw [if_neg (show ¬ (30 : Int32) < nI k from fun q => by have := (nI_ltI (a := 30) (by omega) (by omega)).mp q; omega), C_sgn H, bs, C_mv, bs, x_route_s]
    cases hm : x_mv (sgV V s) with
    | none =>
      rw [if_neg (fun q => q rfl)]
      exact xr_ret H f0
    | some m =>
      have hm5 := x_mv_lt hm
      rw [if_pos (show oI (some m) ≠ -1 from nI_m1 (by omega)), show oI (some m) = nI m from rfl]
      show xr_ V beg _ h0 (if k = 30 then Sum.inl (4, s) else x_route V f (k + 1) (nxV V s) (p_push w k m) sim)
      by_cases c : k = 30
      · rw [if_pos c, c, if_neg (fun q => q rfl)]
        exact xr_fail H f0 rfl (by omega)
      · rw [if_neg c, if_pos (show nI k ≠ (30 : Int32) from fun q => c ((nI_eq (b := 30) (by omega) (by omega)).mp q)), bs, put_n (by omega) (by decide), nI_1]
        have H1 : CB V (am_u (am_u h (wa 1 5) k (nI m)) (wa 1 1) 12 (nI (k + 1))) s (p_push w k m) sim beg := H.wd (by rw [vw_push (by rw [H.vw]; exact h17) (by omega), H.vw]) (fr_.refl 1 h).u.u
        obtain ⟨h2, e2, H2, f2⟩ := C_goOn H1
        rw [e2, bs]
        exact xr_route f (k + 1) F _ h2 _ (by omega) (by omega) (f0.trans ((fe_u.trans fe_u).trans f2)) (nn_of upd_eq (by omega)) H2
theorem C_tilesW (hs : st_ w) (H : CB V h s w sim beg) : sh_X8_tileCount 1 h = nI (p_rc w) := by
  have := C_tiles (i := 1) (hi := h) (by rw [H.vw]; exact hs)
  rw [H.vw] at this
  exact this
theorem xr_cat {G : Nat} (hG : 31 < G) (hs : st_ w) (f0 : fe_ h0 h) (H : CB V h s w sim beg) : xr_ V beg (sh_X4_readCat G V.2.2.1 h) h0 (x_cat V s w sim) := by
  have h4 := hs.rc
  unfold sh_X4_readCat x_cat
  rw [C_tilesW hs H, S1_ (by omega)]
  refine xr_take (lo := 0) f0 (by omega) (by omega) H (fun v h1 a1 a2 a3 H1 f1 => ?_) (fun h1 => ⟨h1, if_neg (fun q => q rfl), fun _ _ x => x, fe_.refl h1⟩)
  show xr_ V beg (if nI v ≠ -1 then sh_X4_readCat_42 G V.2.2.1 G (0 : Int32) (am_u (am_u h1 (wa 1 0) 12 (nI v)) (wa 1 1) 12 (0 : Int32)) else some h1) h0 _
  rw [if_pos (nI_m1 (by omega))]
  refine xr_route 31 0 G _ _ _ hG rfl (f1.trans (fe_u.trans fe_u)) ?_ (H1.wd (by rw [vw_m0, uw_16, H1.vw]) (fr_.refl 1 h1).u.u)
  exact nn_of (n := 0) (if_pos rfl) (by omega)
theorem xr_drau (hs : st_ w) (f0 : fe_ h0 h) (H : CB V h s w sim beg) : xr_ V beg (sh_X4_readDraught V.2.2.1 h) h0 (x_drau V s w sim) := by
  have hc := hs.c
  unfold sh_X4_readDraught x_drau
  rw [vr_1 1 h, H.vw, hc.1, S1_ (by omega)]
  refine xr_take (lo := 0) f0 (by omega) (by omega) H (fun v h1 a1 a2 a3 H1 f1 => ?_) (fun h1 => ⟨h1, by rw [if_neg (fun q => q rfl)]; exact if_pos rfl, fun _ _ x => x, fe_.refl h1⟩)
  show xr_ V beg (if nI v ≠ -1 then (sh_X4_takeNumber V.2.2.1 (2 : Int32) (60 : Int32) h1).bind fun v2 => sh_X4_readDraught_34 V.2.2.1 (nI v) v2.1 v2.2 else _) h0 _
  rw [if_pos (nI_m1 (by omega))]
  refine xr_take (lo := 2) (hi := 60) f1 (by omega) (by omega) H1 (fun t h2 b1 b2 b3 H2 f2 => ?_) (fun h2 => ⟨h2, if_pos rfl, fun _ _ x => x, fe_.refl h2⟩)
  show xr_ V beg (if nI t = -1 then some h2 else (some (sh_put (wa 1 2) 10 (nI v) (nI t) h2)).bind fun h3 => some h3) h0 _
  rw [if_neg (nI_m1 (by omega)), bs, put_n (by omega) (by decide)]
  exact xr_ret (H2.wd (by rw [V_u (k := 36 + v) (by omega) (adr_dra (by omega)) (by omega), H2.vw]) (fr_.refl 1 h2).u) (f2.trans fe_u)
theorem xr_cloud (hs : st_ w) (h4 : nn w 24 < 4) (f0 : fe_ h0 h) (H : CB V h s w sim beg) : xr_ V beg (sh_X4_readCloud V.2.2.1 h) h0 (x_cloud V s w sim) := by
  have h24 := hs.2.2.2.2.2.2.2.2.1
  unfold sh_X4_readCloud x_cloud
  refine xr_take (lo := 0) (hi := 159) f0 (by omega) (by omega) H (fun v h1 a1 a2 a3 H1 f1 => ?_) (fun h1 => ⟨h1, by rw [if_neg (fun q => q rfl)]; exact if_pos rfl, fun _ _ x => x, fe_.refl h1⟩)
  show xr_ V beg (if nI v ≠ -1 then (sh_X4_takeNumber V.2.2.1 (nI v) (159 : Int32) h1).bind fun v2 => sh_X4_readCloud_34 V.2.2.1 (nI v) v2.1 v2.2 else _) h0 _
  rw [if_pos (nI_m1 (by omega))]
  refine xr_take (hi := 159) f1 (by omega) (by omega) H1 (fun t h2 b1 b2 b3 H2 f2 => ?_) (fun h2 => ⟨h2, if_pos rfl, fun _ _ x => x, fe_.refl h2⟩)
  show xr_ V beg (if nI t = -1 then some h2 else (some (sh_put (wa 1 3) 4 (h2 (wa 1 1) 11) (nI v) h2)).bind fun h3 => (some (sh_put (wa 1 4) 4 (h3 (wa 1 1) 11) (nI t) h3)).bind fun h4 => some (am_u h4 (wa 1 1) 11 ((h4 (wa 1 1) 11) + (1 : Int32)))) h0 _
  have e : h2 (wa 1 1) 11 = nI (nn w 24) := by rw [vr_24 1 h2, H2.vw]; exact h24.1
  rw [if_neg (nI_m1 (by omega)), e, bs, put_n h4 (by decide), au_a (wa_ne2 (by decide)), e, bs, put_n h4 (by decide), au_a (wa_ne2 (by decide)), au_a (wa_ne2 (by decide)), e, nI_1]
  exact xr_ret (H2.wd (by rw [vw_cld (by rw [H2.vw]) h4, H2.vw]) (fr_.refl 1 h2).u.u.u) (f2.trans (fe_u.trans (fe_u.trans fe_u)))
theorem xr_cur27 {G cl : Nat} (hn : V.2.1 ≤ 500) : ∀ (f r F s : Nat) (h : HI) (w : Wd), f ≤ F → V.2.1 < s + f → r + V.2.1 ≤ s + 498 → fe_ h0 h → st_ w → CB V h s w sim beg → xr_ V beg (sh_X4_readCurtains_27 G V.2.2.1 (nI cl) (sh_X4_readCurtains_2 G V.2.2.1 (nI cl) F) (nI r) h) h0 (x_cur V cl f s w sim)
  | 0, r, F, s, h, w, _, hf, _, _, _, H => by have := H.le; omega
  | f + 1, r, F, s, h, w, hF, hf, hr, f0, hs, H => by
    have hc := hs.c
    have hsn := H.le
    unfold sh_X4_readCurtains_27
    rw [vr_1 1 h, H.vw, hc.1, S1_ (by omega), x_cur_s]
    refine xr_num (lo := 0) f0 (by omega) (by omega) H (fun v a1 a2 a3 => ?_) (fun h1 => if_neg (fun q => q rfl))
    show xr_ V beg (if nI v ≠ -1 then if sh_at (wa 1 10) 10 (nI v) h ≠ nI cl then (some (sh_put (wa 1 10) 10 (nI v) (nI cl) h)).bind fun h2 => (sh_X6_goOn h2).bind fun h4 => sh_X4_readCurtains_2 G V.2.2.1 (nI cl) F (nI r + 1) h4 else (sh_X4_fail (3 : Int32) h).bind fun h6 => some h6 else some h) h0 _
    rw [if_pos (nI_m1 (by omega)), at_n (by omega) (by decide), vr_cur 1 h (by omega), H.vw, bs, put_n (by omega) (by decide), nI_1]
    by_cases c1 : w (26 + v) = nI cl
    · rw [if_pos c1, if_neg (fun q => q c1)]
      exact xr_fail H f0 rfl (by omega)
    · rw [if_neg c1, if_pos c1]
      have H1 : CB V (am_u h (wa 1 10) v (nI cl)) s (upd w (26 + v) (nI cl)) sim beg := H.wd (by rw [uw_cur (by omega), H.vw]) (fr_.refl 1 h).u
      obtain ⟨h2, e2, H2, f2⟩ := C_goOn H1
      have hs1 : st_ (upd w (26 + v) (nI cl)) := hs.u (by unfold sk; omega)
      have ff := f0.trans (fe_u.trans f2)
      have hle := H2.le
      have hge := (nxV_le (V := V) hsn).1
      rw [e2, bs]
      obtain ⟨F, rfl⟩ : ∃ F2, F = F2 + 1 := ⟨F - 1, by omega⟩
      show xr_ V beg (sh_X4_readCurtains_2_b G V.2.2.1 (nI cl) (sh_X4_readCurtains_2 G V.2.2.1 (nI cl) F) (nI (r + 1)) h2) h0 _
      unfold sh_X4_readCurtains_2_b
      rw [if_neg (show ¬ (500 : Int32) ≤ nI (r + 1) from nI_ge (b := 500) (by omega) (by omega)), if_neg (nI_nle (by omega) (by omega)), C_sgn H2, bs]
      by_cases c2 : sgV V (nxV V s) = 34
      · rw [if_pos c2, if_pos c2]
        have hlt := (t_sg34 c2).1
        have hlt1 : s < V.2.1 := by
          rcases Nat.lt_or_ge s V.2.1 with q | q
          · exact q
          · have : s = V.2.1 := by omega
            rw [this, show nxV V V.2.1 = V.2.1 from t_nx_n] at hlt
            omega
        have := (nxV_b (V := V) hlt1).1
        exact xr_cur27 hn f (r + 1) F _ h2 _ (by omega) (by omega) (by omega) ff hs1 H2
      · rw [if_neg c2, if_neg c2]
        exact xr_ret H2 ff
theorem xr_cur {G cl : Nat} (hG : 501 < G) (hn : V.2.1 ≤ 500) (h2 : 2 ≤ s) (hs : st_ w) (f0 : fe_ h0 h) (H : CB V h s w sim beg) : xr_ V beg (sh_X4_readCurtains G V.2.2.1 (nI cl) h) h0 (x_cur V cl 500 s w sim) := by
  obtain ⟨F, rfl⟩ : ∃ F, G = F + 1 := ⟨G - 1, by omega⟩
  exact xr_cur27 hn 500 0 F s h w (by omega) (by omega) (by omega) f0 hs H
/-! tiles -/
theorem C_want {q : Fin 37} {t : Nat} (ht : t < 80) (hti : ti_ (vw_ 1 h)) : sh_X4_isWanted q (nI t) h = some (b2 (x_want q (vw_ 1 h) t)) := by
  have hsp := hti.2.2.1 t ht
  have e1 := (le0_ (by omega) hsp).1
  have g := ok_ ht (show 80 < 2 ^ 31 by decide)
  unfold sh_X4_isWanted sh_X4_isWanted_54 x_want p_free
  simp only [if_neg (nI_pos (show t < 2 ^ 31 by omega)), if_pos (show nI t < (80 : Int32) from nI_lt (b := 80) ht (by omega)), if_pos g]
  simp only [nI_clamp (show t < 2 ^ 31 by omega), vr_spill 1 h ht, vr_rug 1 h ht, vr_bowl 1 h ht, if_pos (show (0 : Int32) = 0 ∨ (0 : Int32) = 1 from Or.inl rfl), if_pos (show (1 : Int32) = 0 ∨ (1 : Int32) = 1 from Or.inr rfl), if_neg (show ¬ (0 : Int32) ≠ 0 from fun q => q rfl), if_pos (show (1 : Int32) ≠ 0 by decide)]
  by_cases c1 : q = 13
  · rw [if_neg (fun q => q c1), if_pos c1]
    by_cases c : vw_ 1 h (164 + t) = 0
    · rw [if_neg (fun q => q c), decide_eq_true c]; rfl
    · rw [if_pos c, decide_eq_false c]; rfl
  · rw [if_pos c1, if_neg c1]
    by_cases c2 : q = 14
    · have n14 : ¬ q ≠ 14 := fun z => z c2
      simp only [if_neg n14, if_pos c2]
      by_cases c3 : vw_ 1 h (244 + t) ≤ 0
      · rw [if_pos c3, decide_eq_true (e1.mp c3)]
        by_cases c : vw_ 1 h (84 + t) = 0
        · rw [if_neg (fun q => q c), decide_eq_true c]; rfl
        · rw [if_pos c, decide_eq_false c]; rfl
      · rw [if_neg c3, decide_eq_false (fun q => c3 (e1.mpr q)), Bool.and_false]; rfl
    · have n14 : q ≠ 14 := c2
      simp only [if_pos n14, if_neg c2]
      by_cases c3 : vw_ 1 h (244 + t) ≤ 0
      · rw [if_pos c3, decide_eq_true (e1.mp c3)]; rfl
      · rw [if_neg c3, decide_eq_false (fun q => c3 (e1.mpr q))]; rfl
theorem C_cnt_6 {G : Nat} {q : Fin 37} {a d len : Nat} (hti : ti_ (vw_ 1 h)) (hl : ∀ i, i < len → a + i * d < 80) (hlen : len < 2 ^ 30) : ∀ f k F, k + f = len → f < F → sh_X4_countWanted_6 G q (nI a) (nI d) (nI len) h F (nI (x_cnt q (vw_ 1 h) a d k)) (nI k) = some (nI (x_cnt q (vw_ 1 h) a d len))
  | f, k, 0, _, hF => absurd hF (Nat.not_lt_zero _)
  | 0, k, F + 1, hk, hF => by
    show sh_X4_countWanted_6_b G q (nI a) (nI d) (nI len) h (sh_X4_countWanted_6 G q (nI a) (nI d) (nI len) h F) (nI (x_cnt q (vw_ 1 h) a d k)) (nI k) = _
    unfold sh_X4_countWanted_6_b
    rw [if_pos (nI_le (by omega) (by omega)), show k = len by omega]
  | f + 1, k, F + 1, hk, hF => by
    show sh_X4_countWanted_6_b G q (nI a) (nI d) (nI len) h (sh_X4_countWanted_6 G q (nI a) (nI d) (nI len) h F) (nI (x_cnt q (vw_ 1 h) a d k)) (nI k) = _
    have ih := C_cnt_6 (G := G) (q := q) hti hl hlen f (k + 1) F (by omega) (by omega)
    rw [x_cnt_s] at ih
    unfold sh_X4_countWanted_6_b
    rw [if_neg (nI_ge (by omega) (by omega)), pk_mul, nI_add, C_want (hl k (by omega)) hti, bs, eq_of, nI_1 k, nI_1]
    by_cases c : x_want q (vw_ 1 h) (a + k * d) = true
    · rw [if_pos c] at ih ⊢
      exact ih
    · rw [if_neg c] at ih ⊢
      exact ih
theorem C_cnt {G : Nat} {q : Fin 37} {a d len : Nat} (hG : len < G) (hti : ti_ (vw_ 1 h)) (hl : ∀ i, i < len → a + i * d < 80) (hlen : len < 2 ^ 30) : sh_X4_countWanted G q (nI a) (nI d) (nI len) h = some (nI (x_cnt q (vw_ 1 h) a d len)) := C_cnt_6 hti hl hlen len 0 G (by omega) hG
theorem C_hd_3 {G : Nat} {q : Fin 37} {a d len : Nat} {w : Wd} (hti : ti_ w) (h80 : nn w 0 * nn w 1 ≤ 80) (hl : ∀ i, i < len → a + i * d < nn w 0 * nn w 1) (hlen : len < 2 ^ 30) : ∀ (f k F : Nat) (h : HI), k + f = len → f < F → vw_ 1 h = x_hd q a d k w → cs_ (sh_X4_handleLine_3 G q (nI a) (nI d) (nI len) F (nI k) h) 1 h (x_hd q a d len w)
  | f, k, 0, h, _, hF, _ => absurd hF (Nat.not_lt_zero _)
  | 0, k, F + 1, h, hk, hF, hv => by
    show cs_ (sh_X4_handleLine_3_b G q (nI a) (nI d) (nI len) (sh_X4_handleLine_3 G q (nI a) (nI d) (nI len) F) (nI k) h) 1 h _
    unfold sh_X4_handleLine_3_b
    rw [if_pos (nI_le (by omega) (by omega))]
    exact cs_.ret (by rw [hv, show k = len by omega]) (fr_.refl 1 h)
  | f + 1, k, F + 1, h, hk, hF, hv => by
    show cs_ (sh_X4_handleLine_3_b G q (nI a) (nI d) (nI len) (sh_X4_handleLine_3 G q (nI a) (nI d) (nI len) F) (nI k) h) 1 h _
    have hlt := hl k (by omega)
    obtain ⟨g1, g2⟩ := x_hd_inv (q := q) hti h80 k (fun i hi => hl i (by omega))
    have ih := fun h => C_hd_3 (G := G) (q := q) hti h80 hl hlen f (k + 1) F h (by omega) (by omega)
    have ht1 : ti_ (vw_ 1 h) := by rw [hv]; exact g1
    have hx : x_hd q a d (k + 1) w = x_h1 q (vw_ 1 h) (a + k * d) := by rw [hv]; rfl
    unfold sh_X4_handleLine_3_b
    rw [if_neg (nI_ge (by omega) (by omega)), pk_mul, nI_add, C_want (by omega) ht1, bs, ne_of, nI_1, bs, bs, bs, put_n (by omega) (by decide), put_n (by omega) (by decide), put_n (by omega) (by decide)]
    unfold x_h1 at hx
    by_cases c : x_want q (vw_ 1 h) (a + k * d) = true
    · rw [if_pos c] at hx ⊢
      by_cases c1 : q = 13
      · rw [if_neg (fun q => q c1)]
        rw [if_pos c1] at hx
        exact (ih _ (by rw [uw_rug (by omega), hx])).fro (fr_.refl 1 h).u
      · rw [if_pos c1]
        rw [if_neg c1] at hx
        by_cases c2 : q = 14
        · rw [if_neg (fun q => q c2)]
          rw [if_pos c2] at hx
          exact (ih _ (by rw [uw_bowl (by omega), hx])).fro (fr_.refl 1 h).u
        · rw [if_pos c2]
          rw [if_neg c2] at hx
          exact (ih _ (by rw [uw_spill (by omega), hx])).fro (fr_.refl 1 h).u
    · rw [if_neg c] at hx ⊢
      exact ih h hx.symm
theorem C_mk {h : HI} {a : AA} {w : Wd} {o : Nat} : ∀ n, n ≤ 80 → (∀ k, k < n → h a k = w (o + k) ∧ in_ w (o + k) 0 99) → sh_marked a n h = nI (p_mk w o n)
  | 0, _, _ => rfl
  | n + 1, hn, hk => by
    have ih := C_mk n (by omega) (fun k hk9 => hk k (by omega))
    obtain ⟨e, hb⟩ := hk n (by omega)
    have e1 := (le0_ (by omega) hb).1
    show (if h a n ≤ 0 then sh_marked a n h else sh_marked a n h + 1) = nI (p_mk w o (n + 1))
    rw [p_mk_s, e, ih]
    by_cases c : w (o + n) = 0
    · rw [if_pos (e1.mpr c), if_pos c]; rfl
    · rw [if_neg (fun q => c (e1.mp q)), if_neg c, nI_1]
theorem p_mk_le {w : Wd} {o : Nat} : ∀ n, p_mk w o n ≤ n
  | 0 => Nat.le_refl _
  | n + 1 => by
    have := p_mk_le (w := w) (o := o) n
    rw [p_mk_s]
    split <;> omega
theorem x_cnt_le {q : Fin 37} {w : Wd} {a d : Nat} : ∀ n, x_cnt q w a d n ≤ n
  | 0 => Nat.le_refl _
  | n + 1 => by
    have := x_cnt_le (q := q) (w := w) (a := a) (d := d) n
    rw [x_cnt_s]
    split <;> omega
theorem C_rugs {h : HI} {w : Wd} (hv : vw_ 1 h = w) (hti : ti_ w) : sh_marked (wa 1 14) 80 h = nI (p_mk w 164 80) := C_mk 80 (Nat.le_refl _) (fun k hk => ⟨by rw [vr_rug 1 h hk, hv], ⟨(hti.2.1 k hk).1, (hti.2.1 k hk).2.1, by have := (hti.2.1 k hk).2.2; omega⟩⟩)
theorem xr_line {G : Nat} {q : Fin 37} {a d len : Nat} (hG : 80 < G) (hs : st_ w) (hti : ti_ w) (hl : ∀ i, i < len → a + i * d < nn w 0 * nn w 1) (hlen : len ≤ 80) (f0 : fe_ h0 h) (H : CB V h s w sim beg) : xr_ V beg (sh_X4_readItem_208 G V.2.2.1 q (nI a) (nI d) (nI len) (nI (x_cnt q w a d len)) h) h0 (x_line V q s w sim a d len) := by
  have h80 : nn w 0 * nn w 1 ≤ 80 := hs.rc.2
  have m1 := p_mk_le (w := w) (o := 164) 80
  have m2 := x_cnt_le (q := q) (w := w) (a := a) (d := d) len
  have go : xr_ V beg (sh_X4_readItem_241 G V.2.2.1 q (nI a) (nI d) (nI len) h) h0 (Sum.inr (nxV V s, x_hd q a d len w, sim)) := by
    unfold sh_X4_readItem_241 sh_X4_handleLine
    obtain ⟨h1, e1, v1, f1⟩ := C_hd_3 (G := G) (q := q) (a := a) (d := d) hti h80 hl (by omega) len 0 G h (by omega) (by omega) H.vw
    rw [show sh_X4_handleLine_3 G q (nI a) (nI d) (nI len) G (0 : Int32) h = some h1 from e1, bs]
    have H1 := H.wd v1 f1
    obtain ⟨h2, e2, H2, f2⟩ := C_goOn H1
    rw [e2, bs]
    exact xr_ret H2 (f0.trans ((fe_.of f1).trans f2))
  unfold sh_X4_readItem_208 x_line
  rw [C_rugs H.vw hti, nI_add]
  by_cases c : q = 13
  · rw [if_neg (fun q => q c)]
    by_cases c2 : 6 < p_mk w 164 80 + x_cnt q w a d len
    · rw [if_neg (show ¬ nI (p_mk w 164 80 + x_cnt q w a d len) ≤ (6 : Int32) from fun q => by have := (nI_leI (b := 6) (by omega) (by omega)).mp q; omega), if_pos ⟨c, c2⟩]
      exact xr_fail H f0 rfl (by omega)
    · rw [if_pos (show nI (p_mk w 164 80 + x_cnt q w a d len) ≤ (6 : Int32) from nI_le (b := 6) (by omega) (by omega)), if_neg (fun q => c2 q.2)]
      exact go
  · rw [if_pos c, if_neg (fun q => c q.1)]
    exact go
theorem xr_172 {G : Nat} {q : Fin 37} {a d len : Nat} {r c : Int32} (hG : 80 < G) (hs : st_ w) (hti : ti_ w) (hl : ∀ i, i < len → a + i * d < nn w 0 * nn w 1) (hlen : len ≤ 80) (f0 : fe_ h0 h) (H : CB V h s w sim beg) : xr_ V beg (sh_X4_readItem_172 G V.2.2.1 q r c (nI a) (nI d) (nI len) h) h0 (if x_cnt q w a d len = 0 ∧ r = 0 ∧ c = 0 then Sum.inl (3, s) else x_line V q s w sim a d len) := by
  have h80 : nn w 0 * nn w 1 ≤ 80 := hs.rc.2
  have m2 := x_cnt_le (q := q) (w := w) (a := a) (d := d) len
  have e := C_cnt (G := G) (q := q) (a := a) (d := d) (len := len) (h := h) (by omega) (by rw [H.vw]; exact hti) (fun i hi => by have := hl i hi; omega) (by omega)
  rw [H.vw] at e
  have g := xr_line (q := q) hG hs hti hl hlen f0 H
  unfold sh_X4_readItem_172
  rw [e, bs]
  by_cases c0 : x_cnt q w a d len = 0
  · rw [if_neg (show ¬ nI (x_cnt q w a d len) ≠ 0 from fun q => q (by rw [c0]; rfl))]
    by_cases c1 : r = 0
    · rw [if_neg (fun q => q c1)]
      by_cases c2 : c = 0
      · rw [if_neg (fun q => q c2), if_pos ⟨c0, c1, c2⟩]
        exact xr_fail H f0 rfl (by omega)
      · rw [if_pos c2, if_neg (fun q => c2 q.2.2)]
        exact g
    · rw [if_pos c1, if_neg (fun q => c1 q.2.1)]
      exact g
  · rw [if_pos (nI_ne0 (by omega) (by omega)), if_neg (fun q => c0 q.1)]
    exact g
theorem xr_item {G : Nat} {q : Fin 37} (hG : 80 < G) (hs : st_ w) (hti : ti_ w) (f0 : fe_ h0 h) (H : CB V h s w sim beg) : xr_ V beg (sh_X4_readItem G V.2.2.1 q h) h0 (x_item V q s w sim) := by
  have hr := hs.r
  have hc := hs.c
  have h4 := hs.rc
  unfold sh_X4_readItem sh_X4_readItem_18 x_item
  rw [C_sgn H, bs, bs, bs]
  by_cases c1 : sgV V s = 24
  · rw [if_neg (fun q => q c1), if_pos c1, if_pos (show sgV V s ≠ 25 by rw [c1]; decide)]
    unfold sh_X4_readItem_37 sh_X4_readItem_46
    rw [if_pos (by decide)]
    obtain ⟨h1, e1, H1, f1⟩ := C_goOn H
    rw [e1, bs]
    unfold sh_X4_readItem_53
    rw [if_neg (by decide), vr_0 1 h1, H1.vw, hr.1]
    unfold sh_X4_readItem_93
    rw [S1_ (by omega)]
    refine xr_num (lo := 0) (f0.trans f1) (by omega) (by omega) H1 (fun v a1 a2 a3 => ?_) (fun h1 => if_neg (fun q => q rfl))
    show xr_ V beg (if nI v ≠ -1 then if (1 : Int32) = 0 then _ else sh_X4_readItem_130 G V.2.2.1 q 1 0 (nI v * (h1 (wa 1 1) 5)) h1 else some h1) h0 _
    rw [if_pos (nI_m1 (by omega)), if_neg (by decide), vr_1 1 h1, H1.vw, hc.1, pk_mul]
    unfold sh_X4_readItem_130 sh_X4_readItem_145
    rw [if_pos (by decide), if_neg (by decide), vr_1 1 h1, H1.vw, hc.1]
    have g := xr_172 (q := q) (r := 1) (c := 0) (d := 1) hG hs hti (row_in hs a3) (by omega) (f0.trans f1) H1
    rw [if_neg (fun q => absurd q.2.1 (by decide))] at g
    exact g
  · rw [if_pos c1, if_neg c1]
    by_cases c2 : sgV V s = 25
    · rw [if_neg (fun q => q c2), if_pos c2]
      unfold sh_X4_readItem_37 sh_X4_readItem_46
      rw [if_neg (by decide), if_neg (by decide)]
      obtain ⟨h1, e1, H1, f1⟩ := C_goOn H
      rw [e1, bs]
      unfold sh_X4_readItem_53
      rw [if_pos (by decide), if_neg (by decide), vr_1 1 h1, H1.vw, hc.1]
      unfold sh_X4_readItem_93
      rw [S1_ (by omega)]
      refine xr_num (lo := 0) (f0.trans f1) (by omega) (by omega) H1 (fun v a1 a2 a3 => ?_) (fun h1 => if_neg (fun q => q rfl))
      show xr_ V beg (if nI v ≠ -1 then if (0 : Int32) = 0 then sh_X4_readItem_130 G V.2.2.1 q 0 1 (nI v) h1 else _ else some h1) h0 _
      rw [if_pos (nI_m1 (by omega)), if_pos rfl]
      unfold sh_X4_readItem_130 sh_X4_readItem_145
      rw [if_neg (by decide), if_pos (by decide), if_neg (by decide), vr_1 1 h1, vr_0 1 h1, H1.vw, hc.1, hr.1]
      have g := xr_172 (q := q) (r := 0) (c := 1) hG hs hti (col_in hs a3) (by omega) (f0.trans f1) H1
      rw [if_neg (fun q => absurd q.2.2 (by decide))] at g
      exact g
    · rw [if_pos c2, if_neg c2]
      unfold sh_X4_readItem_37
      rw [if_neg (by decide), if_pos (by decide)]
      unfold sh_X4_readItem_53
      rw [if_pos (by decide), if_pos (by decide), C_tilesW hs H]
      unfold sh_X4_readItem_93
      rw [S1_ (by omega)]
      refine xr_num (lo := 0) f0 (by omega) (by omega) H (fun v a1 a2 a3 => ?_) (fun h1 => if_neg (fun q => q rfl))
      show xr_ V beg (if nI v ≠ -1 then if (0 : Int32) = 0 then sh_X4_readItem_130 G V.2.2.1 q 0 0 (nI v) h else _ else some h) h0 _
      rw [if_pos (nI_m1 (by omega)), if_pos rfl]
      unfold sh_X4_readItem_130 sh_X4_readItem_145
      rw [if_pos (by decide), if_pos (by decide), if_pos (by decide)]
      have hrc : p_rc w = nn w 0 * nn w 1 := rfl
      have g := xr_172 (q := q) (r := 0) (c := 0) (a := v) (d := 1) (len := 1) hG hs hti (fun i hi => by omega) (by omega) f0 H
      have e : x_cnt q w v 1 1 = if x_want q w v = true then 1 else 0 := by
        rw [x_cnt_s]
        show 0 + (if x_want q w (v + 0 * 1) = true then 1 else 0) = _
        rw [show v + 0 * 1 = v by omega, Nat.zero_add]
      by_cases c3 : x_want q w v = true
      · rw [if_pos c3] at e ⊢
        rw [if_neg (fun q => by omega)] at g
        exact g
      · rw [if_neg c3] at e ⊢
        rw [if_pos ⟨e, rfl, rfl⟩] at g
        exact g
theorem xr_items50 {G : Nat} {q : Fin 37} (hG : 80 < G) (hn : V.2.1 ≤ 500) : ∀ (f r F s : Nat) (h : HI) (w : Wd) (sim : Nat), f ≤ F → V.2.1 < s + f → r + V.2.1 ≤ s + 498 → fe_ h0 h → st_ w → ti_ w → CB V h s w sim beg → xr_ V beg (sh_X4_readTiles_50 G V.2.2.1 q (sh_X4_readTiles_2 G V.2.2.1 q F) (nI r) h) h0 (x_items V q f s w sim)
  | 0, r, F, s, h, w, sim, _, hf, _, _, _, _, H => by have := H.le; omega
  | f + 1, r, F, s, h, w, sim, hF, hf, hr, f0, hs, hti, H => by
    have hsn := H.le
    have g := xr_item (q := q) hG hs hti f0 H
    have gi := XI_item (V := V) (P := fun _ w => st_ w ∧ ti_ w) (fun m w w1 a b c => ⟨a.1.cg (fun k hk => c k (by unfold sk at hk; omega)), b⟩) (fun _ _ a => a) (q := q) (sim := sim) hsn ⟨hs, hti⟩
    unfold sh_X4_readTiles_50
    rw [x_items_s]
    obtain ⟨F, rfl⟩ : ∃ F2, F = F2 + 1 := ⟨F - 1, by omega⟩
    cases e : x_item V q s w sim with
    | inl cp =>
      obtain ⟨c, p⟩ := cp
      rw [e] at g
      obtain ⟨h1, e1, x1, f1⟩ := g
      rw [e1, bs, nI_1]
      show xr_ V beg (sh_X4_readTiles_2_b G V.2.2.1 q (sh_X4_readTiles_2 G V.2.2.1 q F) (nI (r + 1)) h1) h0 (Sum.inl (c, p))
      unfold sh_X4_readTiles_2_b
      by_cases c5 : (500 : Int32) ≤ nI (r + 1)
      · rw [if_pos c5]; exact ⟨h1, rfl, x1, f1⟩
      · rw [if_neg c5, if_pos (by rw [x1.1]; exact nI_ne0 (by have := x1.2.2.1; omega) (by have := x1.2.2.1; omega))]
        exact ⟨h1, rfl, x1, f1⟩
    | inr r1 =>
      obtain ⟨s1, w1, sim1⟩ := r1
      rw [e] at g gi
      obtain ⟨h1, e1, H1, f1⟩ := g
      obtain ⟨⟨i1, i2⟩, i3, i4, -⟩ := gi
      rw [e1, bs, nI_1]
      show xr_ V beg (sh_X4_readTiles_2_b G V.2.2.1 q (sh_X4_readTiles_2 G V.2.2.1 q F) (nI (r + 1)) h1) h0 (if sgV V s1 = 34 ∨ sgV V s1 = 24 ∨ sgV V s1 = 25 then x_items V q f s1 w1 sim1 else Sum.inr (s1, w1, sim1))
      unfold sh_X4_readTiles_2_b
      rw [if_neg (show ¬ (500 : Int32) ≤ nI (r + 1) from nI_ge (b := 500) (by omega) (by omega)), if_neg (show ¬ h1 (za 34) 9 ≠ 0 from fun q => q H1.2.2.2.2.2.1), C_sgn H1, bs, if_neg (nI_nle (by omega) (by omega))]
      by_cases c : sgV V s1 = 34 ∨ sgV V s1 = 24 ∨ sgV V s1 = 25
      · rw [if_pos c]
        have hlt : s1 < V.2.1 := by
          rcases Nat.lt_or_ge s1 V.2.1 with q | q
          · exact q
          · have e36 : sgV V s1 = 36 := if_pos q
            rw [e36] at c
            exact absurd c (by decide)
        have hs1 : s + 1 ≤ s1 := by
          unfold x_item at e
          have hx : ∀ {s2 : Nat} {a d len : Nat} {w2 : Wd} {sim2 : Nat}, x_line V q s2 w2 sim2 a d len = Sum.inr (s1, w1, sim1) → s1 = nxV V s2 := fun {s2 a d len w2 sim2} q => by
            unfold x_line at q
            split at q
            · cases q
            · cases q; rfl
          have hp : ∀ {s2 : Nat}, s2 < V.2.1 → s2 + 1 ≤ nxV V s2 := fun hq => (nxV_b hq).1
          have hxb : ∀ {r : XR Nat} {k : Nat → XR (Nat × Wd × Nat)}, xb r k = Sum.inr (s1, w1, sim1) → ∃ v, r = Sum.inr v ∧ k v = Sum.inr (s1, w1, sim1) := fun {r k} q => by
            cases r with
            | inl _ => cases q
            | inr v => exact ⟨v, rfl, q⟩
          split at e
          · obtain ⟨v, e2, e3⟩ := hxb e
            have := hx e3
            have h1 := hp (x_num_ok e2).2.2.2.2
            have h2 := (nxV_le (V := V) hsn).1
            omega
          · split at e
            · obtain ⟨v, e2, e3⟩ := hxb e
              have := hx e3
              have h1 := hp (x_num_ok e2).2.2.2.2
              have h2 := (nxV_le (V := V) hsn).1
              omega
            · obtain ⟨v, e2, e3⟩ := hxb e
              split at e3
              · have := hx e3
                have h1 := hp (x_num_ok e2).2.2.2.2
                omega
              · cases e3
        have ih := xr_items50 (q := q) hG hn f (r + 1) F s1 h1 w1 sim1 (by omega) (by omega) (by omega) f1 i1 i2 H1
        by_cases c1 : sgV V s1 = 34
        · rw [if_pos c1]; exact ih
        · rw [if_neg c1]
          by_cases c2 : sgV V s1 = 24
          · rw [if_pos c2]; exact ih
          · rw [if_neg c2, if_pos (by rcases c with q | q | q <;> first | exact absurd q c1 | exact absurd q c2 | exact q)]
            exact ih
      · rw [if_neg c, if_neg (fun q => c (Or.inl q)), if_neg (fun q => c (Or.inr (Or.inl q))), if_neg (fun q => c (Or.inr (Or.inr q)))]
        exact xr_ret H1 f1
theorem xr_items {G : Nat} {q : Fin 37} (hG : 501 < G) (hn : V.2.1 ≤ 500) (h2 : 2 ≤ s) (hs : st_ w) (hti : ti_ w) (f0 : fe_ h0 h) (H : CB V h s w sim beg) : xr_ V beg (sh_X4_readTiles G V.2.2.1 q h) h0 (x_items V q 500 s w sim) := by
  obtain ⟨F, rfl⟩ : ∃ F, G = F + 1 := ⟨G - 1, by omega⟩
  have g := xr_items50 (q := q) (G := F + 1) (by omega) hn 500 0 F s h w sim (by omega) (by omega) (by omega) f0 hs hti H
  show xr_ V beg (sh_X4_readTiles_2_b (F + 1) V.2.2.1 q (sh_X4_readTiles_2 (F + 1) V.2.2.1 q F) (0 : Int32) h) h0 _
  unfold sh_X4_readTiles_2_b
  rw [if_neg (by decide), if_neg (show ¬ h (za 34) 9 ≠ 0 from fun q => q H.2.2.2.2.2.1), C_sgn H, bs, if_pos (by decide)]
  exact g
end CE
