/-! A STEP OF THE LAW -/
section STP
variable {K M r c l4 l5 G i : Nat} {A : As_} {hi : HI} {x : AX}
theorem LI.mono {K2 M2 : Nat} (S : LI K M r c l4 l5 A hi x) (hK : K ≤ K2) (hM : M ≤ M2) : LI K2 M2 r c l4 l5 A hi x := by
  obtain ⟨⟨a1, a2, a3⟩, ⟨b0, b1, b2⟩, d, e⟩ := S
  exact ⟨⟨a1, a2.mono hK, a3⟩, ⟨b0, b1, b2.mono hM⟩, fun k v q => ⟨(d k v q).1, (d k v q).2.1, (d k v q).2.2.mono hM⟩, e⟩
theorem SI.end {s : Nat} {w0 : Wd} {rec60 : Nat → Nat → Nat → Int32 → HI → AX → Option (Int32 × HI × AX)} {l6 l7 : Int32} {K0 M0 : Nat} (hG : 100 < G) (hM : M < 2 ^ 31) (hs : s < 2) {P : Int32 × HI × AX → Prop} {f : Nat → Int64} (nx : ∀ A1 h1 x1, LI K0 M0 r c l4 l5 A1 h1 x1 → XK 0 x x1 → Gd (rec60 1 l4 l5 (l6 + 1) h1 x1) P) (S : SI K M r c l4 l5 s w0 A hi (xL x l4 f)) (hK : K ≤ K0) (hM0 : M ≤ M0) : Gd (sl_L_law_631 G rec60 1 l4 l5 l6 l7 (nI s) hi (xL x l4 f)) P := K_631 hG hM hs S (fun A1 h1 x1 L X => nx A1 h1 x1 (L.mono hK hM0) X)
theorem K_step {rec60 : Nat → Nat → Nat → Int32 → HI → AX → Option (Int32 × HI × AX)} (hG : 600 < G) (hM : M < 2 ^ 29) (hK : K ≤ 100000) (hi6 : i < 2 ^ 30) (S : LI K M r c l4 l5 A hi x) {P : Int32 × HI × AX → Prop} (he : 20 ≤ i → P (1, hi, x)) (nx : i < 20 → ∀ A1 h1 x1, LI (K + 300) (M + 1500) r c l4 l5 A1 h1 x1 → XK 0 x x1 → Gd (rec60 1 l4 l5 (nI i + 1) h1 x1) P) : Gd (sl_L_law_60_b G rec60 1 l4 l5 (nI i) hi x) P := by
  have S0 := S
  obtain ⟨⟨H, O, e⟩, ⟨n0, n1, im⟩, dsv, ⟨f0, f1⟩, ⟨q4, q5, q45⟩, hsl, hcc⟩ := S
  obtain ⟨rc1, rc2, rc3⟩ := S0.rc
  unfold sl_L_law_60_b
  refine gd_I (fun c20 => ?_) (fun c20 => ?_)
  · rw [Cv_imbalance O H e, cB3_, im.imb (by omega), if_neg (by decide)]
    exact gd_ret (he ((nI_leI (a := 20) (by omega) (by omega)).mp c20))
  have i20 : i < 20 := Nat.lt_of_not_le (fun q => c20 (nI_le (a := 20) q (by omega)))
  have nx := nx i20
  obtain ⟨z, ez⟩ := K_cell (hi := hi) (x := x) (k := 6 + i) (by omega) hsl
  rw [show (6 : Int32) + nI i = nI (6 + i) from nI_add 6 i, ez, cB3_, K_tiles f0 f1, cB3_]
  refine gd_N (nI_ne0 (by omega) (by omega)) (gd_N (by rw [f1]; exact nI_ne0 (by omega) (by omega)) ?_)
  have r60 : p_rc A.w ≤ 60 := by omega
  rw [K_sees (by omega) O H e S0.f0.1 S0.f0.2 r60 q4, cB2_]
  obtain ⟨s, hs, es⟩ := an1 z
  rw [es]
  have H1 : RC A hi (xL x l4 (see A.w (lgx x l4))) := H.cx rfl
  obtain ⟨h14, e14, H14, f14, O14⟩ := Cv_saveState O H1 e hs
  rw [e14, cB3_]
  refine gd_G (show 0 < lnx x l4 by omega) ?_
  rw [xL_v, see_0, lc_e, if_neg (by decide)]
  have bw : (B_save A (nI s)).w = A.w := rfl
  have bl : (B_save A (nI s)).ld = true := e
  have bs : (B_save A (nI s)).sv s = some A.w := by
    show (if s = an_ (nI s) then some A.w else A.sv s) = some A.w
    rw [an_f (by omega), if_pos rfl]
  have bd : ∀ k v, (B_save A (nI s)).sv k = some v → nn v 0 = r ∧ nn v 1 = c ∧ Im M v := fun k v q => by
    have q : (if k = an_ (nI s) then some A.w else A.sv k) = some v := q
    by_cases ck : k = an_ (nI s)
    · rw [if_pos ck] at q
      injection q with q
      rw [← q]
      exact ⟨n0, n1, im⟩
    · rw [if_neg ck] at q
      exact dsv k v q
  generalize B_save A (nI s) = B at H14 O14 bw bl bs bd
  have L : LI K M r c l4 l5 B h14 (xL x l4 (see A.w (lgx x l4))) := ⟨⟨H14, O14, bl⟩, by rw [bw]; exact ⟨n0, n1, im⟩, bd, ⟨(f14 _ _ (Or.inl ⟨12, 1, rfl⟩)).trans f0, (f14 _ _ (Or.inl ⟨12, 1, rfl⟩)).trans f1⟩, ⟨q4, q5, q45⟩, hsl, hcc⟩
  have S1 : SI K M r c l4 l5 s A.w B h14 (xL x l4 (see A.w (lgx x l4))) := ⟨L, bs, _, fun k _ => xL_v⟩
  have fin := fun {K M : Nat} {w0 : Wd} {A2 : As_} {hi : HI} {l7 : Int32} (hM2 : M < 2 ^ 31) (S2 : SI K M r c l4 l5 s w0 A2 hi (xL x l4 (see A.w (lgx x l4)))) => SI.end (l6 := nI i) (l7 := l7) (show 100 < G by omega) hM2 hs nx S2
  rw [Cv_imbalance O14 H14 bl, cB3_, (L.2.1.2.2).imb (by omega), if_neg (by decide), K_oneRow (by omega) O14 H14 bl L.f0.1 L.f0.2, cB3_, if_pos (by decide), f1]
  obtain ⟨a, ha, ea⟩ := an15 (z.toUInt32 >>> ((5 : Int32).toUInt32 &&& Int32.toUInt32 31)).toInt32
  obtain ⟨b, hb, eb⟩ := an7 (z.toUInt32 >>> ((9 : Int32).toUInt32 &&& Int32.toUInt32 31)).toInt32
  obtain ⟨d, hd, ed⟩ := an15 (z.toUInt32 >>> ((12 : Int32).toUInt32 &&& Int32.toUInt32 31)).toInt32
  rw [ea, eb, ed, pk_rem (by omega) (by omega) (by omega), pk_rem (by omega) (by omega) (by omega), show (1 : Int32) + nI d = nI (1 + d) from nI_add 1 d]
  have ht : a % (r * c) < p_rc B.w := by
    rw [L.rc.1]
    exact Nat.mod_lt _ (by omega)
  have hcol : b % c < nn B.w 1 := by
    rw [L.2.1.2.1]
    exact Nat.mod_lt _ (by omega)
  have hrb : p_rc B.w ≤ 15 := by rw [L.rc.1]; exact rc2
  have hnb : nn B.w 1 ≤ 5 := by rw [L.2.1.2.1]; omega
  have hn1 : 1 ≤ 1 + d := by omega
  have hn2 : 1 + d ≤ 16 := by omega
  generalize a % (r * c) = t at ht
  generalize 1 + d = n at hn1 hn2
  generalize b % c = k at hcol
  refine gd_I (fun _ => gd_I (fun _ => gd_I (fun _ => gd_I (fun _ => gd_I (fun _ => gd_I (fun _ => gd_I (fun _ => ?_) (fun _ => ?_)) (fun _ => ?_)) (fun _ => ?_)) (fun _ => ?_)) (fun _ => ?_)) (fun _ => ?_)) (fun _ => ?_)
  -- a curtain drawn
  · rw [Cv_isCurtainClosed O14 H14 bl hcol, cB3_]
    obtain ⟨h2, e2, H2, f2, O2⟩ := Cv_setCurtain (v := true) O14 H14 bl hcol
    have e2 : uT1 (sh_X9_setCurtain (nI k) (1 : Int32) h14) (xL x l4 (see A.w (lgx x l4))) = some (b2 (decide (B.w (26 + k) ≠ 0)), h2, xL x l4 (see A.w (lgx x l4))) := e2
    rw [e2, cB3_, if_neg (fun q => q rfl)]
    have ek : an_ (nI k) = k := an_f (by omega)
    have w2 : (B_cur B (nI k) true).w = upd B.w (26 + k) (b2 true) := by
      show upd B.w (26 + an_ (nI k)) (b2 true) = _
      rw [ek]
    have ki : Ki B.w (B_cur B (nI k) true).w := by rw [w2]; exact Ki.refl.u (by omega)
    have S2 := S1.nx H2 f2 O2 bl rfl ki.1 (L.2.1.2.2.ki ki (by omega)) (Nat.le_refl _)
    rw [Cv_isLit (by omega) O2 H2 bl (by rw [ki.1.rc]; exact ht), cB3_]
    refine gd_I (fun _ => fin (by omega) S2 (by omega) (by omega)) (fun hl => ?_)
    rw [S2.1.2.2.2.1.2]
    refine gd_N (nI_ne0 (by omega) (by omega)) ?_
    rw [pk_rem (by omega) (by omega) (by omega)]
    refine gd_I (fun _ => fin (by omega) S2 (by omega) (by omega)) (fun q => ?_)
    have q2 : t % c = k := nIj (by have := Nat.mod_lt t (show 0 < c by omega); omega) (by omega) (Decidable.not_not.mp q)
    refine absurd ?_ hl
    have z : p_lit (B_cur B (nI k) true).w t = false := by
      unfold p_lit p_lies
      have e1 : nn (B_cur B (nI k) true).w 1 = c := S2.1.2.1.2.1
      rw [e1, q2, w2, upd_eq]
      rw [show decide (b2 true = 0) = false from by decide, Bool.and_false, Bool.and_false]
    rw [z]
    rfl
  -- until a fall
  · obtain ⟨h2, e2, H2, f2⟩ := Cv_minutesUntilFall (G := G) (by omega) (by omega) O14 H14 bl
    rw [e2, cB3_]
    have S2 := S1.q H2 f2
    rcases gn_grow (v0 := B.w 15) (c := 15) 500 0 B.w (by omega) with q | ⟨m, m1, m2, m3, m4, m5⟩
    · rw [if_pos q]
      exact fin (by omega) S2 (by omega) (by omega)
    · rw [m3]
      refine gd_I (fun _ => fin (by omega) S2 (by omega) (by omega)) (fun _ => gd_I (fun _ => fin (by omega) S2 (by omega) (by omega)) (fun q => ?_))
      have m300 : m ≤ 300 := Nat.le_of_not_lt (fun z => q ((nI_ltI (a := 300) (by omega) (by omega)).mpr z))
      obtain ⟨h3, e3, H3, f3, O3⟩ := Cv_advance (G := G) (n := m) (by omega) (by omega) O14 H2 bl (by omega) m300
      have hib := O14.ib bl
      have w3 : (B_adv B (nI m)).w = p_passN m B.w := by
        show p_passN (an_ (nI m)) B.w = _
        rw [an_f (by omega)]
      have kp : Kp B.w (B_adv B (nI m)).w := by rw [w3]; exact kp_passN m B.w
      have im2 : Im (M + 1500) (B_adv B (nI m)).w := by
        rw [w3]
        exact (Im.passN m K (5 * K) M B.w (by omega) (by omega) hib L.2.1.2.2).mono (by omega)
      have S3 := S2.nx H3 f3 O3 bl rfl kp im2 (by omega)
      obtain ⟨j, j1, j2⟩ := n12_passN m K (5 * K) B.w (by omega) (by omega) hib
      obtain ⟨a, _, e12, _, _, ha, _⟩ := L.2.1.2.2
      rw [e3, cB3_, j2, e12, if_neg (sub64 (by omega)).2, Cv_fallCount H3 bl, cB3_]
      refine gd_G (show 6 < lnx x l4 by omega) ?_
      have one : (p_passN m B.w 15).toInt64 = (B.w 15).toInt64 + Int64.ofNat 1 := by
        obtain ⟨m', rfl⟩ : ∃ m', m = m' + 1 := ⟨m - 1, by omega⟩
        rw [passN_l]
        rw [Nat.sub_zero, passN_l] at m4
        refine one_more e5_pass m4 ?_
        rcases m5 with m5 | m5
        · obtain rfl : m' = 0 := by omega
          show ¬ B.w 15 < B.w 15
          rw [Int32.lt_iff_toInt_lt]
          omega
        · rw [Nat.add_sub_cancel, Nat.sub_zero] at m5
          exact m5
      rw [xL_v, see_6, w3, one, bw, lc_e, if_pos rfl]
      exact fin (by omega) S3 (by omega) (by omega)
  -- turned
  · rw [Cv_facesRight O14 H14 bl, cB3_]
    obtain ⟨h2, e2, H2, f2, O2⟩ := Cv_turnWalker O14 H14 bl
    rw [e2, cB3_, if_neg (by
      by_cases q : B.w 10 = 0
      · rw [q]; decide
      · rw [decide_eq_false q]
        exact fun z => q z.symm)]
    have ki : Ki B.w (B_turn B).w := Ki.refl.u (by omega)
    have S2 := S1.nx H2 f2 O2 bl rfl ki.1 (L.2.1.2.2.ki ki (by omega)) (Nat.le_refl _)
    rw [Cv_turnCount H2 bl, cB3_]
    refine gd_G (show 5 < lnx x l4 by omega) ?_
    rw [xL_v, see_5, show (B_turn B).w 14 = A.w 14 from by rw [← bw]; rfl, lc_e, if_pos rfl]
    exact fin (by omega) S2 (by omega) (by omega)
  -- mopped
  · rw [Cv_spillTime O14 H14 bl ht, cB3_]
    refine gd_I (fun _ => fin (by omega) S1 (by omega) (by omega)) (fun q => ?_)
    obtain ⟨h2, e2, H2, f2, O2⟩ := Cv_mop O14 H14 bl ht (fun z => q (by rw [z]; decide))
    rw [e2, cB3_, if_neg (fun q => q rfl)]
    have ek : an_ (nI t) = t := an_f (by omega)
    have w2 : (B_mop B (nI t)).w = upd B.w (244 + t) 0 := by
      show upd B.w (244 + an_ (nI t)) 0 = _
      rw [ek]
    have ki : Ki B.w (B_mop B (nI t)).w := by rw [w2]; exact Ki.refl.u (by omega)
    have S2 := S1.nx H2 f2 O2 bl rfl ki.1 (L.2.1.2.2.ki ki (by omega)) (Nat.le_refl _)
    rw [Cv_spillTime O2 H2 bl (by rw [ki.1.rc]; exact ht), cB3_, w2, upd_eq, if_pos rfl]
    exact fin (by omega) S2 (by omega) (by omega)
  -- a bowl set down
  · rw [Cv_hasBowl O14 H14 bl ht, cB3_]
    refine gd_I (fun _ => fin (by omega) S1 (by omega) (by omega)) (fun q => ?_)
    rw [Cv_spillTime O14 H14 bl ht, cB3_]
    refine gd_I (fun _ => fin (by omega) S1 (by omega) (by omega)) (fun q1 => ?_)
    have hf : p_free B.w t = true := by
      unfold p_free
      have z1 : B.w (84 + t) = 0 := Decidable.byContradiction (fun z => q (by rw [decide_eq_true z]; decide))
      have z2 : B.w (244 + t) = 0 := Decidable.byContradiction q1
      rw [decide_eq_true z1, decide_eq_true z2]
      rfl
    obtain ⟨h2, e2, H2, f2, O2⟩ := Cv_placeBowl O14 H14 bl ht hf
    have ek : an_ (nI t) = t := an_f (by omega)
    have w2 : (B_bowl B (nI t)).w = upd B.w (84 + t) 1 := by
      show upd B.w (84 + an_ (nI t)) 1 = _
      rw [ek]
    have ki : Ki B.w (B_bowl B (nI t)).w := by rw [w2]; exact Ki.refl.u (by omega)
    have S2 := S1.nx H2 f2 O2 bl rfl ki.1 (L.2.1.2.2.ki ki (by omega)) (Nat.le_refl _)
    have p1 := mk_pos (w := upd B.w (84 + t) 1) (o := 84) (p_rc B.w) ht (by rw [upd_eq]; decide)
    have p2 := mk_le (w := upd B.w (84 + t) 1) (o := 84) (p_rc B.w)
    have rb := L.rc
    rw [e2, cB3_, if_neg (fun z => by
      have := (nI_ltI (b := 1) (by omega) (by omega)).mp z
      omega), Cv_hasBowl O2 H2 bl (by rw [ki.1.rc]; exact ht), cB3_, w2, upd_eq, if_pos (by decide)]
    exact fin (by omega) S2 (by omega) (by omega)
  -- the best curtain
  · obtain ⟨h2, e2, H2, f2⟩ := Cv_bestCurtain (G := G) (n := n) (by omega) (by omega) O14 H14 bl (by omega)
    have S2 := S1.q H2 f2
    rw [e2, cB3_]
    rcases bc_inv (n := n) (w := B.w) (nn B.w 1) 0 (-1) (-1) (by omega) (Or.inl rfl) with q | ⟨j, j1, j2, j3⟩
    · rw [q, if_pos (by decide)]
      exact fin (by omega) S2 (by omega) (by omega)
    · rw [j2, if_neg (nI_pos (by omega))]
      obtain ⟨h3, e3, H3, f3, O3⟩ := Cv_setCurtain (v := false) (t := j) O14 H2 bl (by omega)
      have e3 : uT1 (sh_X9_setCurtain (nI j) (0 : Int32) h2) (xL x l4 (see A.w (lgx x l4))) = some (b2 (decide (B.w (26 + j) ≠ 0)), h3, xL x l4 (see A.w (lgx x l4))) := e3
      have ek : an_ (nI j) = j := an_f (by omega)
      have w3 : (B_cur B (nI j) false).w = upd B.w (26 + j) (b2 false) := by
        show upd B.w (26 + an_ (nI j)) (b2 false) = _
        rw [ek]
      have ki : Ki B.w (B_cur B (nI j) false).w := by rw [w3]; exact Ki.refl.u (by omega)
      have S3 := S2.nx H3 f3 O3 bl rfl ki.1 (L.2.1.2.2.ki ki (by omega)) (Nat.le_refl _)
      rw [e3, cB3_, decide_eq_true j3, if_neg (by decide), Cv_isCurtainClosed O3 H3 bl (by rw [ki.1.nn.2]; omega), cB3_, w3, upd_eq, if_pos (by decide)]
      exact fin (by omega) S3 (by omega) (by omega)
  -- the best pace
  · obtain ⟨h2, e2, H2, f2⟩ := Cv_bestPace (G := G) (n := n) (by omega) (by omega) O14 H14 bl (by omega)
    have S2 := S1.q H2 f2
    have hib := O14.ib bl
    have w1 : (B_pace B (nI 1)).w = upd B.w 3 (nI 1) := rfl
    have h31 : ib_ K (5 * K) 0 (upd B.w 3 (nI 1)) := hib.k3 (by omega) (by omega)
    obtain ⟨j1, _, e12⟩ := n12_passN n K (5 * K) (upd B.w 3 (nI 1)) (by omega) (by omega) h31
    have p12 : (0 : Int32) ≤ p_passN n (upd B.w 3 (nI 1)) 12 := by
      have z := (ib_.passN n K (5 * K) (upd B.w 3 (nI 1)) (by omega) (by omega) h31).2.2.2.2.2.2.1
      rw [z.1]
      exact nI_pos' (by have := z.2.2; omega)
    obtain ⟨j, h1j, h5j, ej, le⟩ := bp_best p12
    rw [e2, cB3_, ej]
    obtain ⟨h3, e3, H3, f3⟩ := Cv_stepsAtPace (G := G) (c := j) (n := n) (by omega) (by omega) O14 H2 bl h1j h5j (by omega)
    have S3 := S2.q H3 f3
    rw [e3, cB3_]
    obtain ⟨h4, e4, H4, f4, O4⟩ := Cv_setPace (c := j) O14 H3 bl h1j h5j
    rw [e4, cB3_]
    have w4 : (B_pace B (nI j)).w = upd B.w 3 (nI j) := rfl
    have ki : Ki B.w (B_pace B (nI j)).w := by rw [w4]; exact Ki.refl.u (by omega)
    have S4 := S3.nx H4 f4 O4 bl rfl ki.1 (L.2.1.2.2.ki ki (by omega)) (Nat.le_refl _)
    refine gd_G (show 3 < lnx x l4 by omega) ?_
    rw [xL_v, see_3, show B.w 3 = A.w 3 from by rw [bw], lc_e, if_neg (by decide)]
    obtain ⟨h5, e5, H5, f5⟩ := Cv_stepsAfter (G := G) (n := n) (by omega) (by omega) O4 H4 bl (by omega)
    have S5 := S4.q H5 f5
    rw [e5, cB3_, w4, if_neg (fun q => q rfl)]
    obtain ⟨h6, e6, H6, f6⟩ := Cv_stepsAtPace (G := G) (c := 1) (n := n) (by omega) (by omega) O4 H5 bl (by omega) (by omega) (by omega)
    have S6 := S5.q H6 f6
    have uu : upd (B_pace B (nI j)).w 3 (nI 1) = upd B.w 3 (nI 1) := by
      rw [w4]
      funext q
      by_cases c3 : q = 3
      · subst c3; rw [upd_eq, upd_eq]
      · rw [upd_ne c3, upd_ne c3, upd_ne c3]
    rw [uu] at e6
    have e6 : uT1 (sh_X9_stepsAtPace G (1 : Int32) (nI n) h5) (xL x l4 (see A.w (lgx x l4))) = some (p_passN n (upd B.w 3 (nI 1)) 12, h6, xL x l4 (see A.w (lgx x l4))) := e6
    rw [e6, cB3_, if_pos le]
    exact fin (by omega) S6 (by omega) (by omega)
  -- minutes pass
  · obtain ⟨h2, e2, H2, f2⟩ := Cv_stepsAfter (G := G) (n := n) (by omega) (by omega) O14 H14 bl (by omega)
    have S2 := S1.q H2 f2
    obtain ⟨h3, e3, H3, f3⟩ := Cv_walkerTileAfter (G := G) (n := n) (by omega) (by omega) O14 H2 bl (by omega)
    have S3 := S2.q H3 f3
    obtain ⟨h4, e4, H4, f4⟩ := Cv_spillTimeAfter (G := G) (t := t) (n := n) (by omega) (by omega) O14 H3 bl ht (by omega)
    have S4 := S3.q H4 f4
    obtain ⟨h5, e5, H5, f5⟩ := Cv_minutesUntilLit (G := G) (t := t) (by omega) (by omega) O14 H4 bl ht
    have S5 := S4.q H5 f5
    obtain ⟨h6, e6, H6, f6, O6⟩ := Cv_advance (G := G) (n := n) (by omega) (by omega) O14 H5 bl hn1 (by omega)
    have hib := O14.ib bl
    have w6 : (B_adv B (nI n)).w = p_passN n B.w := by
      show p_passN (an_ (nI n)) B.w = _
      rw [an_f (by omega)]
    have kp : Kp B.w (B_adv B (nI n)).w := by rw [w6]; exact kp_passN n B.w
    have im2 : Im (M + 1500) (B_adv B (nI n)).w := by
      rw [w6]
      exact (Im.passN n K (5 * K) M B.w (by omega) (by omega) hib L.2.1.2.2).mono (by omega)
    have S6 := S5.nx H6 f6 O6 bl rfl kp im2 (by omega)
    have pl : pla_ (B_adv B (nI n)).w := by
      rw [w6]
      exact pla_passN n K (5 * K) B.w (by omega) (by omega) hib (by omega)
    obtain ⟨j, j1, j2⟩ := n12_passN n K (5 * K) B.w (by omega) (by omega) hib
    obtain ⟨a, _, e12, _, _, ha, _⟩ := L.2.1.2.2
    rw [e2, cB3_, e3, cB3_, e4, cB3_, e5, cB3_, e6, cB3_]
    refine gd_G (show 2 < lnx x l4 by omega) ?_
    have e64 : (p_passN n B.w 12 - B.w 12).toInt64 = (p_passN n B.w 12).toInt64 - (A.w 12).toInt64 := by
      rw [← bw, j2, e12]
      exact (sub64 (by omega)).1
    rw [xL_v, see_2, e64, lc_e, if_neg (by decide), Cv_totalSteps H6 bl, cB3_, w6, if_neg (fun q => q rfl), Cv_walkerTile H6 bl, cB3_, w6, if_neg (fun q => q rfl), Cv_spillTime O6 H6 bl (by rw [kp.rc]; exact ht), cB3_, w6, if_neg (fun q => q rfl)]
    have tail : Gd (sl_L_law_277 G rec60 1 l4 l5 (nI i) z (nI s) h6 (xL x l4 (see A.w (lgx x l4)))) P := by
      unfold sl_L_law_277
      rw [K_placed (by omega) O6 H6 bl pl, cB3_, if_pos (by decide)]
      exact fin (by omega) S6 (by omega) (by omega)
    refine gd_I (fun _ => tail) (fun q => ?_)
    have q := Decidable.not_not.mp q
    obtain ⟨_, lit⟩ := ul_lit 500 0 B.w (by omega) n (by omega) q
    rw [Cv_isLit (by omega) O6 H6 bl (by rw [kp.rc]; exact ht), cB3_, w6, show p_lit (p_passN n B.w) t = true from lit, if_neg (by decide)]
    exact tail
end STP
