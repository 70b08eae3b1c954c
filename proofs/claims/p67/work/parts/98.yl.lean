/-! THE LAW UP TO ITS LOOP -/
/-- what holds when a step begins -/
def LI (K M r c l4 l5 : Nat) (A : As_) (hi : HI) (x : AX) : Prop := (RC A hi x ∧ Ok_ K A ∧ A.ld = true) ∧ (nn A.w 0 = r ∧ nn A.w 1 = c ∧ Im M A.w) ∧ (∀ k v, A.sv k = some v → nn v 0 = r ∧ nn v 1 = c ∧ Im M v) ∧ (hi (da 12 1) 0 = nI r ∧ hi (da 12 1) 1 = nI c) ∧ (lnx x l4 = 100 ∧ lnx x l5 = 100 ∧ l4 ≠ l5) ∧ slx x < 2 ^ 31 ∧ (2 ≤ r ∧ r ≤ 3 ∧ 2 ≤ c ∧ c ≤ 5)
/-- room -/
def XK (k : Nat) (x x1 : AX) : Prop := (x1.2.2.2.1 = x.2.2.2.1 ∧ slx x1 = slx x) ∧ x1.2.2.2.2.1 ≤ x.2.2.2.2.1 + k ∧ x1.2.2.2.2.2.1 ≤ x.2.2.2.2.2.1 + 1000 * k
section KLW
variable {A : As_} {hi : HI} {x : AX} {G : Nat}
theorem lo_1 {n K i : Nat} (h : i < n) : lo_ n (da K i) := fun K2 i2 e => by
  have := (da_i e).2
  omega
theorem K_law (hG : 70000 < G) (H : RC A hi x) (hO : Ok_ 2000 A) (h0 : A.nb = 0) (Z : Z_ hi x) (hn : ndx x = 0) (hs : slx x < 2 ^ 31) {P : Int32 × HI × AX → Prop} (nx : ∀ A r c l4 l5 hi1 x1, LI 2000 10000 r c l4 l5 A hi1 x1 → XK 300 x x1 → Gd (sl_L_law_60 G G 1 l4 l5 (nI 0) hi1 x1) P) : Gd (sl_L_law G hi x) P := by
  have c7 : (7 : Int32) = nI 7 := by decide
  have c100 : (100 : Int32) = nI 100 := by decide
  unfold sl_L_law
  rw [c7, cMk_ (by omega)]
  have hn1 : ndx (xm x 100 7) = 1 := by show ndx x + 1 = 1; omega
  refine gd_3 (K_floor (by omega) hn1 hs Z.m (P := fun v => v.1 = 1 ∧ ∃ ro R r c kc, FLR ro R r c (ndx v.2.2) kc v.2.1 v.2.2 ∧ FrN 1 20 hi (xm x 100 7) v.2.1 v.2.2) (fun ro R r c kc h' x' a b => ⟨rfl, ro, R, r, c, kc, a, b⟩)) (fun v h2 x2 q => ?_)
  obtain ⟨ev, ro, R, r, c, kc, F, f⟩ := q
  have ev : v = 1 := ev
  subst ev
  have F : FLR ro R r c (ndx x2) kc h2 x2 := F
  have f : FrN 1 20 hi (xm x 100 7) h2 x2 := f
  have hs2 : slx x2 < 2 ^ 31 := by
    have e : slx x2 = slx x := f.2.2.2.2.2.1.2.2.2
    omega
  obtain ⟨z, ez⟩ := K_cell (hi := h2) (x := x2) (k := 5) (by omega) hs2
  have ez : sl_L_cell (5 : Int32) h2 x2 = some (z, h2, x2) := ez
  rw [ez, cB3_]
  refine gd_3 (K_text (by omega) F (P := fun v => ∃ f rg rt cl dg a ru sp row tm, txok f rt R cl dg r c a kc ru sp row tm ∧ ST (ndx x2) v.1 (txt f rg rt R cl dg c a kc ru (r * c) sp row tm) v.2.1 v.2.2 ∧ FNu r c R v.2.1 ∧ FrV (ndx x2) 200 h2 x2 v.2.1 v.2.2) (fun s h' x' f rg rt cl dg a ru sp row tm a1 a2 _ a4 a5 => ⟨f, rg, rt, cl, dg, a, ru, sp, row, tm, a1, a2, a4, a5⟩)) (fun s h4 x4 q => ?_)
  obtain ⟨tf, rg, rt, cl, dg, a, ru, sp, row, tm, ok, S, N, g⟩ := q
  have S : ST (ndx x2) s (txt tf rg rt R cl dg c a kc ru (r * c) sp row tm) h4 x4 := S
  have N : FNu r c R h4 := N
  have g : FrV (ndx x2) 200 h2 x2 h4 x4 := g
  have h11 := F.2.2.1
  have fM : fM_ hi h4 := fun b j hb => (g.1 b j (fun K i e => absurd ⟨K, i, e⟩ hb) (fun K i e => absurd ⟨K, i, e⟩ hb)).trans (f.1 b j (fun K i e => absurd ⟨K, i, e⟩ hb))
  have ex4 : x4.2.2.2.1 = x.2.2.2.1 := g.2.2.2.2.2.1.2.2.1.trans f.2.2.2.2.2.1.2.2.1
  have H4 : RC A h4 x4 := (H.cg fM).cx ex4
  have m0 : ∀ j, h4 (da 100 (ndx x)) j = 0 := fun j => (g.1 _ j (lo_1 (by omega)) (fun K i e => by have := (da_i e).2; omega)).trans ((f.1 _ j (lo_1 (by omega))).trans ((Z (ndx x) (Nat.le_refl _)).1 100 j).1)
  have hl4 : lnx x4 (ndx x) = 7 := (g.2.2.1 _ (by omega)).trans ((f.2.2.1 _ (by omega)).trans (if_pos rfl))
  obtain ⟨A1, h5, e5, H5, O5, n5, b5, go, gz⟩ := K_told (G := G) (K := 2000) (m := ndx x) (n := ndx x2) (by omega) (by omega) (txt_l ok) (txt_B ok) S H4 hO h0 (m0 5) (m0 6) hl4
  rw [e5, cB3_]
  obtain ⟨w1, h6, x6, ⟨p0, p1, p2⟩, e6, H6, f6, O6, ex6⟩ := Q_parse (G := G) (K := 2000) (P := fun w => nn w 0 = r ∧ nn w 1 = c ∧ Im 10000 w) hG (Nat.le_refl _) O5 H5 n5 (fun V v1 v2 => by
    obtain ⟨s1, w1, sim1, t1, t2⟩ := txt_read (V := V) (rg := rg) ok ⟨by rw [v2, Nat.zero_add], fun i q => by rw [v1, Nat.zero_add]; exact b5 i q⟩
    exact ⟨s1, w1, sim1, t1, t2⟩)
  rw [e6, show uT2 (some (Sum.inl (nI (p_rc w1)), h6, x6)) = some (nI (p_rc w1), h6, x6) from rfl, cB3_]
  have d6 : ∀ j, h6 (da 12 1) j = h4 (da 12 1) j := fun j => (f6 _ j (Or.inl ⟨12, 1, rfl⟩)).trans (go 12 1 j (fun q => by have := q.1; omega))
  have r0 : h6 (da 12 1) 0 = nI r := (d6 0).trans N.2.1
  have r1 : h6 (da 12 1) 1 = nI c := (d6 1).trans N.2.2.1
  rw [K_tiles r0 r1, cB3_, if_pos (show nI (p_rc w1) = nI (r * c) by unfold p_rc; rw [p0, p1]), c100, cMk_ (by omega), cMk_ (by omega)]
  have en : x6.2 = x4.2 := ex6
  refine nx (B_new A1 w1) r c _ _ h6 _ ⟨⟨(H6.cx rfl).cx rfl, O6, rfl⟩, ⟨p0, p1, p2⟩, fun k v q => (by cases q), ⟨r0, r1⟩, ⟨?_, if_pos rfl, ?_⟩, ?_, N.1⟩ ?_
  · show (if ndx x6 = ndx x6 + 1 then _ else _) = 100
    rw [if_neg (by omega)]
    exact if_pos rfl
  · show ndx x6 ≠ ndx x6 + 1
    omega
  · show slx x6 < 2 ^ 31
    have e1 : slx x6 = slx x4 := by unfold slx; rw [en]
    have e2 : slx x4 = slx x2 := g.2.2.2.2.2.1.2.2.2
    omega
  · have e1 : slx x6 = slx x4 := by unfold slx; rw [en]
    have e2 : slx x4 = slx x2 := g.2.2.2.2.2.1.2.2.2
    have e3 : slx x2 = slx x := f.2.2.2.2.2.1.2.2.2
    have g1 := g.2.2.2.2.2.2.1
    have g2 := g.2.2.2.2.2.2.2
    have f1 : x2.2.2.2.2.1 ≤ x.2.2.2.2.1 + 1 + 20 := f.2.2.2.2.2.2.1
    have f2 : x2.2.2.2.2.2.1 ≤ x.2.2.2.2.2.1 + 7 + 1000 * 20 := f.2.2.2.2.2.2.2
    refine ⟨⟨?_, e1.trans (e2.trans e3)⟩, ?_, ?_⟩
    · show x6.2.2.2.1 = x.2.2.2.1
      rw [en]; exact ex4
    · show x6.2.2.2.2.1 + 1 + 1 ≤ _
      rw [en]; omega
    · show x6.2.2.2.2.2.1 + 100 + 100 ≤ _
      rw [en]; omega
end KLW
