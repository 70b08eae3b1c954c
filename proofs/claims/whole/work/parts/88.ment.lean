/-! the model reads settings and single events as x_.. says -/
theorem p_mk_cg {w w1 : Wd} {o : Nat} : ∀ n, (∀ k, k < n → w1 (o + k) = w (o + k)) → p_mk w1 o n = p_mk w o n
  | 0, _ => rfl
  | n + 1, h => by rw [p_mk_s, p_mk_s, p_mk_cg n (fun k hk => h k (by omega)), h n (by omega)]
theorem p_mk_up {w : Wd} {o t : Nat} (h0 : w (o + t) = 0) : ∀ n, p_mk (upd w (o + t) 1) o n = p_mk w o n + (if t < n then 1 else 0)
  | 0 => rfl
  | n + 1 => by
    rw [p_mk_s, p_mk_s, p_mk_up h0 n]
    by_cases c : n = t
    · subst c
      have e1 : upd w (o + n) 1 (o + n) = 1 := upd_eq
      rw [e1, h0, if_neg (show ¬ n < n by omega), if_neg (show ¬ (1 : Int32) = 0 by decide), if_pos (show (0 : Int32) = 0 from rfl), if_pos (show n < n + 1 by omega)]
    · rw [upd_ne (show o + n ≠ o + t by omega)]
      by_cases c2 : t < n
      · rw [if_pos c2, if_pos (show t < n + 1 by omega)]; omega
      · rw [if_neg c2, if_neg (show ¬ t < n + 1 by omega)]; omega
section ME
variable {V : TV} {h h0 : HI} {s sim dep G : Nat} {w : Wd} {beg : Bool}
theorem MB.u6 {k : Nat} {v : Int32} (hk : (k < 46 ∧ k ≠ 25 ∧ k ≠ 17 ∧ k ≠ 19 ∧ k ≠ 24) ∨ (84 ≤ k ∧ k < 404)) (hr : k < 164 ∨ 244 ≤ k) (H : MB V h s w sim beg dep) : MB V (am_u h (za 196) k v) s (upd w k v) sim beg dep := by
  refine H.wd (by rw [M_u hk, H.mw]) (fm_.refl h).u (fun q => ?_)
  rw [au_k (by omega), H.2.2.2.2.2.2.2.2 q, p_mk_cg 80 (fun j hj => upd_ne (by omega))]
theorem mr_nset {k lo hi : Nat} (hG : 501 < G) (hk : k < 46 ∧ k ≠ 25 ∧ k ≠ 17 ∧ k ≠ 19 ∧ k ≠ 24) (hh : hi < 2 ^ 30) (hl : lo < 2 ^ 30) (H : MB V h s w sim beg dep) : mr_ V beg dep (sh_X10_readsNumber G (nI k) (nI lo) (nI hi) h) h (x_nset V k lo hi (nxV V s) w sim) := by
  unfold sh_X10_readsNumber
  obtain ⟨h2, e2, H2, f2⟩ := M_go hG H
  rw [e2, bs]
  refine mr_num hG f2 hh hl H2 (fun v h1 _ _ _ H1 f1 => ?_) (fun h1 D => ⟨h1, if_pos D.ne, rfl, rfl, fq_.refl h1⟩)
  show mr_ V beg dep (if h1 (za 195) 10 ≠ 0 then some h1 else if 0 ≤ nI k ∧ (nI k).toNatClampNeg < 424 then (some (am_u h1 (za 196) (nI k).toNatClampNeg (nI v))).bind fun h4 => some h4 else none) h _
  rw [if_neg (fun q => q H1.al), if_pos (ok4 (by omega)), nI_clamp (by omega), bs]
  exact mr_ret (H1.u6 (Or.inl hk) (Or.inl (by omega))) f1.u6
theorem mr_walk (hG : 501 < G) (hs : st_ w) (H : MB V h s w sim beg dep) : mr_ V beg dep (sh_X10_readsWalker G h) h (x_walk V (nxV V s) w sim) := by
  have hc := hs.c
  unfold sh_X10_readsWalker x_walk
  obtain ⟨h2, e2, H2, f2⟩ := M_go hG H
  rw [e2, bs, m_1 h2, H2.mw, hc.1, S1_ (by omega)]
  refine mr_num (lo := 0) hG f2 (by omega) (by omega) H2 (fun v h1 a1 a2 a3 H1 f1 => ?_) (fun h1 D => ⟨h1, ?_, rfl, rfl, fq_.refl h1⟩)
  · show mr_ V beg dep ((sh_X10_isWord G 37 h1).bind fun v4 => if v4 ≠ 0 then sh_X10_readsWalker_43 G (nI v) v4 h1 else (sh_X10_isWord G 38 h1).bind fun v7 => if v7 ≠ 0 then sh_X10_readsWalker_43 G (nI v) v4 h1 else (sh_X10_faults (1 : Int32) h1).bind fun h9 => sh_X10_readsWalker_43 G (nI v) v4 h9) h _
    rw [M_word (j := 37) (q := 30) (by decide) (by decide) rfl (by omega) H1, bs, M_word (j := 38) (q := 29) (by decide) (by decide) rfl (by omega) H1, bs, ne_of, ne_of]
    have go : ∀ m, m ≤ 1 → mr_ V beg dep (sh_X10_readsWalker_43 G (nI v) (nI m) h1) h (Sum.inr (nxV V (nxV V (nxV V s)), upd (upd w 9 (nI v)) 10 (nI m), sim)) := fun m hm => by
      unfold sh_X10_readsWalker_43
      obtain ⟨h6, e6, H6, f6⟩ := M_go hG H1
      rw [e6, bs, H6.al, if_pos (Int32.le_refl _)]
      have e : sh_X10_one (nI m) = nI m := by
        have : m = 0 ∨ m = 1 := by omega
        rcases this with q | q <;> rw [q] <;> decide
      rw [e]
      exact mr_ret ((H6.u6 (Or.inl (by omega)) (Or.inl (by omega))).u6 (Or.inl (by omega)) (Or.inl (by omega))) ((f1.trans f6).u6.u6)
    by_cases c1 : sgV V (nxV V (nxV V s)) = 30
    · rw [decide_eq_true c1, if_pos rfl, c1, if_neg (by decide), if_pos rfl]
      exact go 1 (by omega)
    · rw [decide_eq_false c1, if_neg (by decide)]
      by_cases c2 : sgV V (nxV V (nxV V s)) = 29
      · rw [decide_eq_true c2, if_pos rfl, if_pos c2]
        exact go 0 (by omega)
      · rw [decide_eq_false c2, if_neg (by decide), if_neg c2, if_neg c1]
        obtain ⟨h9, e9, x9, f9⟩ := M_flt (c := 1) (by omega) H1
        unfold sh_X10_readsWalker_43
        rw [show (1 : Int32) = nI 1 from rfl, e9, bs, D_go x9.d, bs, if_neg x9.d]
        exact mr_dead x9 (f1.trans f9)
  · show (sh_X10_isWord G 37 h1).bind (fun v4 => if v4 ≠ 0 then sh_X10_readsWalker_43 G (nI 0) v4 h1 else (sh_X10_isWord G 38 h1).bind fun v7 => if v7 ≠ 0 then sh_X10_readsWalker_43 G (nI 0) v4 h1 else (sh_X10_faults (1 : Int32) h1).bind fun h9 => sh_X10_readsWalker_43 G (nI 0) v4 h9) = some h1
    rw [D_word D, bs, if_neg (fun q => q rfl), D_word D, bs, if_neg (fun q => q rfl), D_flt D, bs]
    unfold sh_X10_readsWalker_43
    rw [D_go D, bs, if_neg D]
theorem M_mv (hG : 501 < G) (H : MB V h s w sim beg dep) : sh_X10_moveHere G h = some (oI (x_mv (sgV V s))) := by
  unfold sh_X10_moveHere x_mv
  rw [M_word (j := 39) (q := 26) (by decide) (by decide) rfl (by omega) H, bs, eq_of, M_word (j := 40) (q := 27) (by decide) (by decide) rfl (by omega) H, bs, eq_of, M_word (j := 41) (q := 28) (by decide) (by decide) rfl (by omega) H, bs, eq_of, M_word (j := 38) (q := 29) (by decide) (by decide) rfl (by omega) H, bs, eq_of, M_word (j := 37) (q := 30) (by decide) (by decide) rfl (by omega) H, bs, eq_of]
  by_cases c1 : sgV V s = 26
  · rw [c1]; rfl
  rw [decide_eq_false c1, if_neg (by decide), if_neg c1]
  by_cases c2 : sgV V s = 27
  · rw [c2]; rfl
  rw [decide_eq_false c2, if_neg (by decide), if_neg c2]
  by_cases c3 : sgV V s = 28
  · rw [c3]; rfl
  rw [decide_eq_false c3, if_neg (by decide), if_neg c3]
  by_cases c4 : sgV V s = 29
  · rw [c4]; rfl
  rw [decide_eq_false c4, if_neg (by decide), if_neg c4]
  by_cases c5 : sgV V s = 30
  · rw [c5]; rfl
  rw [decide_eq_false c5, if_neg (by decide), if_neg c5]
  rfl
theorem mr_route (hG : 501 < G) : ∀ (f k F s : Nat) (h : HI) (w : Wd), f < F → k + f = 31 → fq_ h0 h → XS w → nn w 17 = k → MB V h s w sim beg dep → mr_ V beg dep (sh_X10_readsCat_40 G F h) h0 (x_route V f k s w sim)
  | f, k, 0, s, h, w, hF, _, _, _, _, _ => absurd hF (Nat.not_lt_zero _)
  | 0, k, F + 1, s, h, w, hF, hk, f0, hX, h17, H => by
    have := hX.1.2.2.2.2.2.1.2.2
    omega
  | f + 1, k, F + 1, s, h, w, hF, hk, f0, hX, h17, H => by
    show mr_ V beg dep (sh_X10_readsCat_40_b G (sh_X10_readsCat_40 G F) h) h0 (x_route V (f + 1) k s w sim)
    have h30 := hX.1.2.2.2.2.2.1
    have e17 : h (za 196) 17 = nI k := by rw [m_17 h, H.mw, h30.1, h17]
    unfold sh_X10_readsCat_40_b
    rw [M_mv hG H, bs, x_route_s]
    cases hm : x_mv (sgV V s) with
    | none =>
      rw [if_pos (show oI none = -1 from rfl)]
      exact mr_ret H f0
    | some m =>
      have hm5 := x_mv_lt hm
      rw [if_neg (show ¬ oI (some m) = -1 from nI_m1 (by omega)), e17]
      show mr_ V beg dep _ h0 (if k = 30 then Sum.inl (4, s) else x_route V f (k + 1) (nxV V s) (p_push w k m) sim)
      by_cases c : k = 30
      · obtain ⟨h1, e1, x1, f1⟩ := M_flt (c := 4) (by omega) H
        unfold sh_X10_readsCat_65
        rw [if_pos c, c, if_neg (fun q => q rfl), show (4 : Int32) = nI 4 from rfl, e1, bs, if_neg x1.d]
        exact mr_dead x1 (f0.trans f1)
      · unfold sh_X10_readsCat_65
        rw [if_neg c, if_pos (show nI k ≠ (30 : Int32) from fun q => c ((nI_eq (b := 30) (by omega) (by omega)).mp q)), H.al, if_pos (Int32.le_refl _), M_mv hG H, bs, hm, e17, A54, if_pos (ok4 (by omega)), nI_clamp (by omega), bs, au_k (by omega), e17, nI_1, show oI (some m) = nI m from rfl]
        have H1 : MB V (am_u (am_u h (za 196) (54 + k) (nI m)) (za 196) 17 (nI (k + 1))) s (p_push w k m) sim beg dep := by
          refine H.wd (by rw [mw_push (by rw [H.mw]; exact h17) (by omega), H.mw]) (fm_.refl h).u.u (fun q => ?_)
          rw [au_k (by omega), au_k (by omega), H.2.2.2.2.2.2.2.2 q, show p_mk (p_push w k m) 164 80 = p_mk w 164 80 from p_mk_cg 80 (fun j hj => by unfold p_push; rw [upd_ne (by omega), upd_ne (by omega)])]
        obtain ⟨h2, e2, H2, f2⟩ := M_go hG H1
        rw [e2, bs]
        exact mr_route hG f (k + 1) F _ h2 _ (by omega) (by omega) ((f0.u6.u6).trans f2) (hX.push h17 (by omega) hm5) (nn_of upd_eq (by omega)) H2
theorem M_tilesW (hs : st_ w) (H : MB V h s w sim beg dep) : sh_X10_tiles h = some (nI (p_rc w)) := by
  have := M_tiles (hi := h) (by rw [H.mw]; exact hs)
  rw [H.mw] at this
  exact this
theorem mr_cat (hG : 501 < G) (hX : XS w) (H : MB V h s w sim beg dep) : mr_ V beg dep (sh_X10_readsCat G h) h (x_cat V (nxV V s) w sim) := by
  have h4 := hX.1.rc
  unfold sh_X10_readsCat x_cat
  obtain ⟨h2, e2, H2, f2⟩ := M_go hG H
  rw [e2, bs, M_tilesW hX.1 H2, bs, S1_ (by omega)]
  refine mr_num (lo := 0) hG f2 (by omega) (by omega) H2 (fun v h1 a1 a2 a3 H1 f1 => ?_) (fun h1 D => ⟨h1, if_neg D, rfl, rfl, fq_.refl h1⟩)
  show mr_ V beg dep (if h1 (za 195) 10 ≤ 0 then sh_X10_readsCat_40 G G (am_u (am_u h1 (za 196) 16 (nI v)) (za 196) 17 (0 : Int32)) else some h1) h _
  rw [H1.al, if_pos (Int32.le_refl _)]
  have g1 : XS (upd w 16 (nI v)) := hX.u1 (n := v) rfl (by omega) (hX.1.u (by unfold sk; omega)) (by unfold zk; omega) (fun e => by omega) (fun e => by omega) (fun e => by have : p_rc w = nn w 0 * nn w 1 := rfl; omega) (fun e => by omega) (fun e => by omega) (fun e1 e2 => by omega)
  have H3 := H1.u6 (k := 16) (v := nI v) (Or.inl (by omega)) (Or.inl (by omega))
  have H4 : MB V (am_u (am_u h1 (za 196) 16 (nI v)) (za 196) 17 (0 : Int32)) (nxV V (nxV V s)) (p_m0 (upd w 16 (nI v))) sim beg dep := by
    refine H3.wd (by rw [mw_m0, H3.mw]) (fm_.refl _).u (fun q => ?_)
    rw [au_k (by omega), H3.2.2.2.2.2.2.2.2 q, p_mk_cg 80 (fun j hj => p_m0_e (by omega))]
  exact mr_route hG 31 0 G _ _ _ (by omega) rfl f1.u6.u6 g1.m0.1 g1.m0.2 H4
theorem mr_drau (hG : 501 < G) (hs : st_ w) (H : MB V h s w sim beg dep) : mr_ V beg dep (sh_X10_readsDraught G h) h (x_drau V (nxV V s) w sim) := by
  have hc := hs.c
  unfold sh_X10_readsDraught x_drau
  obtain ⟨h2, e2, H2, f2⟩ := M_go hG H
  rw [e2, bs, m_1 h2, H2.mw, hc.1, S1_ (by omega)]
  refine mr_num (lo := 0) hG f2 (by omega) (by omega) H2 (fun v h1 a1 a2 a3 H1 f1 => ?_) (fun h1 D => ⟨h1, ?_, rfl, rfl, fq_.refl h1⟩)
  · refine mr_num (lo := 2) (hi := 60) hG f1 (by omega) (by omega) H1 (fun t h3 b1 b2 b3 H3 f3 => ?_) (fun h1 D => ⟨h1, if_pos D.ne, rfl, rfl, fq_.refl h1⟩)
    show mr_ V beg dep (if h3 (za 195) 10 ≠ 0 then some h3 else if 0 ≤ (36 : Int32) + nI v ∧ ((36 : Int32) + nI v).toNatClampNeg < 424 then (some (am_u h3 (za 196) ((36 : Int32) + nI v).toNatClampNeg (nI t))).bind fun h5 => some h5 else none) h _
    rw [if_neg (fun q => q H3.al), A36, if_pos (ok4 (by omega)), nI_clamp (by omega), bs]
    exact mr_ret (H3.u6 (Or.inl (by omega)) (Or.inl (by omega))) f3.u6
  · show (sh_X10_number G (2 : Int32) (60 : Int32) h1).bind (fun v4 => if v4.2 (za 195) 10 ≠ 0 then some v4.2 else _) = some h1
    rw [D_num D, bs]
    exact if_pos D.ne
theorem mr_cloud (hG : 501 < G) (hs : st_ w) (H : MB V h s w sim beg dep) : mr_ V beg dep (sh_X10_readsCloud G h) h (if nn w 24 = 4 then Sum.inl (4, s) else x_cloud V (nxV V s) w sim) := by
  have h24 := hs.2.2.2.2.2.2.2.2.1
  have h244 := h24.2.2
  unfold sh_X10_readsCloud x_cloud
  rw [m_24 h, H.mw, h24.1]
  by_cases c : nn w 24 = 4
  · obtain ⟨h1, e1, x1, f1⟩ := M_flt (c := 4) (by omega) H
    unfold sh_X10_readsCloud_16
    rw [if_pos c, c, if_neg (fun q => q rfl), show (4 : Int32) = nI 4 from rfl, e1, bs, D_go x1.d, bs, D_num x1.d, bs, D_num x1.d, bs, if_neg x1.d]
    exact mr_dead x1 f1
  · rw [if_neg c, if_pos (show nI (nn w 24) ≠ (4 : Int32) from fun q => c ((nI_eq (b := 4) (by omega) (by omega)).mp q))]
    unfold sh_X10_readsCloud_16
    obtain ⟨h2, e2, H2, f2⟩ := M_go hG H
    rw [e2, bs]
    refine mr_num (lo := 0) (hi := 159) hG f2 (by omega) (by omega) H2 (fun v h1 a1 a2 a3 H1 f1 => ?_) (fun h1 D => ⟨h1, ?_, rfl, rfl, fq_.refl h1⟩)
    · refine mr_num (hi := 159) hG f1 (by omega) (by omega) H1 (fun t h3 b1 b2 b3 H3 f3 => ?_) (fun h1 D => ⟨h1, if_neg D, rfl, rfl, fq_.refl h1⟩)
      have e : h3 (za 196) 24 = nI (nn w 24) := by rw [m_24 h3, H3.mw]; exact h24.1
      show mr_ V beg dep (if h3 (za 195) 10 ≤ 0 then if 0 ≤ (46 : Int32) + ((2 : Int32) * (h3 (za 196) 24)) ∧ ((46 : Int32) + ((2 : Int32) * (h3 (za 196) 24))).toNatClampNeg < 424 then (some (am_u h3 (za 196) ((46 : Int32) + ((2 : Int32) * (h3 (za 196) 24))).toNatClampNeg (nI v))).bind fun h5 => if 0 ≤ ((46 : Int32) + ((2 : Int32) * (h5 (za 196) 24))) + (1 : Int32) ∧ (((46 : Int32) + ((2 : Int32) * (h5 (za 196) 24))) + (1 : Int32)).toNatClampNeg < 424 then (some (am_u h5 (za 196) (((46 : Int32) + ((2 : Int32) * (h5 (za 196) 24))) + (1 : Int32)).toNatClampNeg (nI t))).bind fun h6 => some (am_u h6 (za 196) 24 ((h6 (za 196) 24) + (1 : Int32))) else none else none else some h3) h _
      rw [H3.al, if_pos (Int32.le_refl _), e, T2_, A46, if_pos (ok4 (by omega)), nI_clamp (by omega), bs, au_k (by omega), e, T2_, A46, nI_1, if_pos (ok4 (by omega)), nI_clamp (by omega), bs, au_k (by omega), au_k (by omega), e, nI_1, show 46 + 2 * nn w 24 + 1 = 47 + 2 * nn w 24 by omega]
      refine mr_ret (H3.wd (by rw [mw_cld (by rw [H3.mw]) (by omega), H3.mw]) (fm_.refl h3).u.u.u (fun q => ?_)) f3.u6.u6.u6
      rw [au_k (by omega), au_k (by omega), au_k (by omega), H3.2.2.2.2.2.2.2.2 q, show p_mk (p_cld w v t) 164 80 = p_mk w 164 80 from p_mk_cg 80 (fun j hj => by unfold p_cld; rw [upd_ne (by omega), upd_ne (by omega), upd_ne (by omega)])]
    · show (sh_X10_number G (nI 0) (159 : Int32) h1).bind (fun v4 => if v4.2 (za 195) 10 ≤ 0 then _ else some v4.2) = some h1
      rw [D_num D, bs]
      exact if_neg D
/-! curtains -/
theorem D_cur9 {cl : Int32} {F : Nat} (D : Dd h) : sh_X10_readsCurtainsOf_9 G cl (F + 1) h = some h := by
  show sh_X10_readsCurtainsOf_9_b G cl (sh_X10_readsCurtainsOf_9 G cl F) h = some h
  unfold sh_X10_readsCurtainsOf_9_b
  rw [D_is D, if_pos rfl]
theorem mr_cur {cl : Nat} (hG : 501 < G) : ∀ (f F s : Nat) (h : HI) (w : Wd), f ≤ F → V.2.1 < s + f → fq_ h0 h → st_ w → MB V h s w sim beg dep → mr_ V beg dep ((sh_X10_turnsCurtain G (nI cl) h).bind fun h4 => sh_X10_readsCurtainsOf_9 G (nI cl) F h4) h0 (x_cur V cl f s w sim)
  | 0, F, s, h, w, _, hf, _, _, H => by have := H.sn; omega
  | f + 1, F, s, h, w, hF, hf, f0, hs, H => by
    have hc := hs.c
    obtain ⟨F, rfl⟩ : ∃ F2, F = F2 + 1 := ⟨F - 1, by omega⟩
    unfold sh_X10_turnsCurtain
    rw [m_1 h, H.mw, hc.1, S1_ (by omega), x_cur_s]
    have e : ∀ {S : Option (Int32 × HI)} {A : Int32 × HI → Option HI} {B : HI → Option HI}, (S.bind A).bind B = S.bind fun v => (A v).bind B := fun {S A B} => by cases S <;> rfl
    rw [e]
    refine mr_nh (lo := 0) f0 (by omega) (by omega) H (fun v a1 a2 a3 => ?_) (fun h1 D => ⟨h1, ?_, rfl, rfl, fq_.refl h1⟩)
    · show mr_ V beg dep ((if h (za 195) 10 ≠ 0 then sh_X10_turnsCurtain_39 G (nI cl) (nI v) h else if 0 ≤ (26 : Int32) + nI v ∧ ((26 : Int32) + nI v).toNatClampNeg < 424 then if h (za 196) ((26 : Int32) + nI v).toNatClampNeg ≠ nI cl then sh_X10_turnsCurtain_39 G (nI cl) (nI v) h else (sh_X10_faults (3 : Int32) h).bind fun h6 => sh_X10_turnsCurtain_39 G (nI cl) (nI v) h6 else none).bind fun h4 => sh_X10_readsCurtainsOf_9 G (nI cl) (F + 1) h4) h0 _
      unfold sh_X10_turnsCurtain_39 sh_X10_turnsCurtain_56
      rw [if_neg (fun q => q H.al), A26, if_pos (ok4 (by omega)), nI_clamp (by omega), M_r h (k := 26 + v) (by omega), H.mw]
      by_cases c1 : w (26 + v) = nI cl
      · obtain ⟨h1, e1, x1, f1⟩ := M_flt (c := 3) (by omega) H
        rw [if_neg (fun q => q c1), if_pos c1, show (3 : Int32) = nI 3 from rfl, e1, bs, if_pos x1.d.ne, D_go x1.d, bs, bs, D_cur9 x1.d]
        exact mr_dead x1 (f0.trans f1)
      · have H1 := H.u6 (k := 26 + v) (v := nI cl) (Or.inl (by omega)) (Or.inl (by omega))
        obtain ⟨h2, e2, H2, f2⟩ := M_go hG H1
        have hs1 : st_ (upd w (26 + v) (nI cl)) := hs.u (by unfold sk; omega)
        rw [if_pos c1, if_neg c1, if_neg (fun q => q H.al), if_pos (show 0 ≤ nI (26 + v) ∧ 26 + v < 424 from ⟨nI_pos' (by omega), by omega⟩), bs, e2, bs, bs]
        show mr_ V beg dep (sh_X10_readsCurtainsOf_9_b G (nI cl) (sh_X10_readsCurtainsOf_9 G (nI cl) F) h2) h0 _
        unfold sh_X10_readsCurtainsOf_9_b
        rw [show (3 : Int32) = nI 3 from rfl, M_is (by omega) H2, eq_of]
        by_cases c2 : sgV V (nxV V s) = 34
        · rw [if_pos c2, decide_eq_true (kd_34.mpr c2), if_pos rfl]
          have hlt := (t_sg34 c2).1
          have hsn := H.sn
          have hlt1 : s < V.2.1 := by
            rcases Nat.lt_or_ge s V.2.1 with q | q
            · exact q
            · have : s = V.2.1 := by omega
              rw [this, show nxV V V.2.1 = V.2.1 from t_nx_n] at hlt
              omega
          have := (nxV_b (V := V) hlt1).1
          exact mr_cur hG f F _ h2 _ (by omega) (by omega) (f0.u6.trans f2) hs1 H2
        · rw [if_neg c2, decide_eq_false (fun q => c2 (kd_34.mp q)), if_neg (by decide)]
          exact mr_ret H2 (f0.u6.trans f2)
    · show (if h1 (za 195) 10 ≠ 0 then sh_X10_turnsCurtain_39 G (nI cl) (nI 0) h1 else _).bind (fun h4 => sh_X10_readsCurtainsOf_9 G (nI cl) (F + 1) h4) = some h1
      unfold sh_X10_turnsCurtain_39 sh_X10_turnsCurtain_56
      rw [if_pos D.ne, if_pos D.ne, D_go D, bs, bs, D_cur9 D]
theorem mr_curs {cl : Nat} (hG : 501 < G) (h1s : 1 ≤ nxV V s) (hs : st_ w) (H : MB V h s w sim beg dep) : mr_ V beg dep (sh_X10_readsCurtainsOf G (nI cl) h) h (x_cur V cl 500 (nxV V s) w sim) := by
  unfold sh_X10_readsCurtainsOf
  obtain ⟨h2, e2, H2, f2⟩ := M_go hG H
  rw [e2, bs]
  have := H.1.2.2.1
  exact mr_cur hG 500 G _ h2 w (by omega) (by omega) f2 hs H2
end ME
