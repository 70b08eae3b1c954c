/-! parseSetup: both sides -/
section PP
variable {A B : As_} {hi h h1 : HI} {x : AX} {K G : Nat} {a c : Int32} {w : Wd}
def B_err (A : As_) (c p : Nat) : As_ := (A.1, A.2.1, (0, A.b), (nI c, nI p), A.2.2.2.2)
def B_new (A : As_) (w : Wd) : As_ := ((true, w), ([], fun _ => none), (0, A.b), (0, -1), A.2.2.2.2)
theorem fd_fC (f : fd_ h h1) : fC_ h h1 := fun b k m => by
  rcases m with m | m
  · rcases m with m | m | m | m | m | m | m | m <;> subst m <;> exact f _ _ (fun j q => by cases q) (fun q => by cases q.1) (fun q => by cases q.1) (fun q => by cases q) (fun q => by cases q) (fun q => by cases q) (fun q => by cases q)
  · subst m
    exact f _ _ (fun j q => by cases q) (fun q => by cases q.1) (fun q => by cases q.1) (fun q => by cases q) (fun q => by cases q) (fun q => by cases q) (fun q => by cases q)
/-- what stays while a text is read -/
theorem fd_za (f : fd_ h h1) {n k : Nat} (h1' : n < 34 ∨ 40 < n ∨ (n = 34 ∧ k < 4)) : h1 (za n) k = h (za n) k := by
  have ne : ∀ m, za n = za m → n = m := fun m e => by
    have e : (Sum.inr (Sum.inr n) : AA) = Sum.inr (Sum.inr m) := e
    injection e with e
    injection e
  exact f _ _ (fun j q => by cases q) (fun q => by have := ne _ q.1; omega) (fun q => by have := ne _ q.1; omega) (fun q => by have := ne _ q; omega) (fun q => by have := ne _ q; omega) (fun q => by have := ne _ q; omega) (fun q => by have := ne _ q; omega)
theorem fd_vw (f : fd_ h h1) {i : Fin 12} (hne : i ≠ 1) : vw_ i h1 = vw_ i h := V_f fun j k => f _ _ (fun j2 e => hne (by injection e with e; injection e)) (fun q => by cases q.1) (fun q => by cases q.1) (fun q => by cases q) (fun q => by cases q) (fun q => by cases q) (fun q => by cases q)
theorem Ok_.err {c p : Nat} (h : Ok_ K A) : Ok_ K (B_err A c p) := ⟨Nat.zero_le _, h.2⟩
theorem Ok_.new (h : Ok_ K A) (hw : ib_ K (5 * K) 0 w) : Ok_ K (B_new A w) := ⟨Nat.zero_le _, Nat.zero_le _, fun _ => hw, (fun v q => by cases q), (fun k v q => by cases q), h.2.2.2.2.2⟩
theorem P_parse (hG : 70000 < G) (hK : 2000 ≤ K) (hO : Ok_ K A) (H : RC A hi x) : ∃ A' code val, Ck_ A' (sh_L_parseSetup G a hi x) hi x code val ∧ Ok_ K A' ∧ ∀ h1, RM A h1 → Mk_ A' (sh_parseS G a h1) h1 code val := by
  have hnb := hO.1
  by_cases q : tk_ a (A.nb + 1) = true
  case neg =>
    have q : tk_ a (A.nb + 1) = false := by
      cases e : tk_ a (A.nb + 1) with
      | true => exact absurd e q
      | false => rfl
    refine ⟨A, 1, 0, ?_, hO, fun h1 H1 => ?_⟩
    · have e : sh_X9_parseSetup G a hi x = some (Sum.inr 1, hi, xc x) := by
        unfold sh_X9_parseSetup
        by_cases c : a < 0
        · rw [if_pos c]
        · obtain ⟨t, ht, rfl⟩ := nI_of c
          have q2 := of_decide_eq_false q
          rw [if_neg c, H.1.1, if_neg (fun z => q2 ⟨c, nI_lt (by have := (nI_leI ht (by omega)).mp z; omega) (by omega)⟩)]
      unfold sh_L_parseSetup
      rw [e]
      exact Ck_.no (by decide) H
    · rw [parse_e, H1.1.1, ← nI_pred A.nb, in_tk (by omega), q, show (1 : Int32) = b2 true from rfl, M_may, bs]
      exact Mk_.no (c := 1) (by decide) H1
  obtain ⟨n, hn, rfl⟩ := tk_t (by omega) q
  have hb : By_ (am_u hi (za 0) 6 (0 : Int32)) A.b := fun k hk => by
    rw [au_a (fun q => by cases q)]
    exact H.1.2.1 k hk
  obtain ⟨V, V1, V2, g⟩ := C_read (n := n) (G := G) (x := x) (by omega) hG hb
  have eC : ∀ {r : Int32 × HI × AX}, sh_X4_read G (nI n) (am_u hi (za 0) 6 (0 : Int32)) x = some r → sh_X9_parseSetup G (nI n) hi x = (some r).bind fun v1 => if v1.1 ≠ 0 then (sh_X8_copyFrom 0 1 v1.2.1).bind fun h3 => (sh_X1_forgetAll h3).bind fun h5 => some (Sum.inl (sh_X8_tileCount 0 (am_u h5 (za 0) 7 (1 : Int32))), am_u h5 (za 0) 7 (1 : Int32), v1.2.2) else some (Sum.inr 2, v1.2.1, xc v1.2.2) := fun {r} e => by
    unfold sh_X9_parseSetup
    rw [if_neg (nI_pos (by omega)), H.1.1, if_pos (nI_le (by omega) (by omega)), e]
  have eM : ∀ h1, RM A h1 → sh_parseS G (nI n) h1 = PSb G (sh_rep G 5) (nI V.2.1) (am_u h1 (za 195) 0 0) := fun h1 H1 => by
    rw [parse_e, H1.1.1, ← nI_pred A.nb, in_tk (by omega), q, show (1 : Int32) = b2 true from rfl, M_may, bs, V2]
    rfl
  have gM := fun h1 (H1 : RM A h1) => M_PS (V := V) (h := am_u h1 (za 195) 0 0) (G := G) (by omega) (by rw [V1]; exact H1.u0.1.2.1) (by omega)
  have z6 : ∀ m k, ¬ (m = 0 ∧ k = 6) → am_u hi (za 0) 6 (0 : Int32) (za m) k = hi (za m) k := fun m k hm => by
    by_cases e : m = 0
    · subst e
      rw [au_k (fun q => hm ⟨rfl, q⟩)]
    · rw [au_a (fun q => e (by
        have q : (Sum.inr (Sum.inr m) : AA) = Sum.inr (Sum.inr 0) := q
        injection q with q
        injection q))]
  have w6 : ∀ i, vw_ i (am_u hi (za 0) 6 (0 : Int32)) = vw_ i hi := fun i => V_f (fun j k => au_a (fun q => by cases q))
  have f6 : fC_ hi (am_u hi (za 0) 6 (0 : Int32)) := fun b k m => au_a (fun q => by
    rcases m with m | m
    · exact md_za (n := 0) (by omega) (q ▸ m)
    · rw [q] at m; cases m)
  obtain ⟨⟨a1, a2, a3, a4, a5, a6⟩, ⟨p, b1, b2', b3, b4⟩, c, d1, d2, d3, d4⟩ := id H
  cases er : r_all V with
  | inl cp =>
    obtain ⟨cc, pp⟩ := cp
    rw [er] at g
    obtain ⟨h3, x3, e3, xe, f3, hx⟩ := g
    have xe9 : h3 (za 34) 9 = nI cc := xe.1
    have xe10 : h3 (za 34) 10 = nI pp := xe.2.1
    have z : ∀ m k, (m < 34 ∨ 40 < m) → ¬ (m = 0 ∧ k = 6) → h3 (za m) k = hi (za m) k := fun m k hm hm2 => (fd_za f3 (by omega)).trans (z6 m k hm2)
    have wv : ∀ i, i ≠ 1 → vw_ i h3 = vw_ i hi := fun i hi9 => (fd_vw f3 hi9).trans (w6 i)
    refine ⟨B_err A cc pp, 2, 0, ?_, hO.err, fun h1 H1 => ?_⟩
    · unfold sh_L_parseSetup
      rw [eC e3, bs]
      show Ck_ (B_err A cc pp) (some ((2 : Int32), h3, xc x3)) hi x 2 0
      refine ⟨h3, _, rfl, fun q => absurd q (by decide), ⟨⟨?_, fun k hk => ?_, xe9, xe10, (z _ _ (by omega) (by omega)).trans a5, fun q => (wv 0 (by decide)).trans (a6 q)⟩, ⟨p, b1, (z _ _ (by omega) (by omega)).trans b2', (z _ _ (by omega) (by omega)).trans b3, fun j v q => (wv _ (fun q2 => ?_)).trans (b4 j v q)⟩, fun k hk => ⟨(z _ _ (by omega) (by omega)).trans (c k hk).1, fun v q => (wv _ (fun q2 => ?_)).trans ((c k hk).2 v q)⟩, (z _ _ (by omega) (by omega)).trans d1, (z _ _ (by omega) (by omega)).trans d2, fun k hk => (z _ _ (by omega) (by omega)).trans (d3 k hk), ?_⟩, f6.trans (fd_fC f3), ?_⟩
      · rw [fd_za f3 (by omega), au_]; rfl
      · rw [z _ _ (by omega) (by omega)]; exact a2 k hk
      · have := Nat.mod_lt (p + 7 - j) (show 0 < 8 by decide)
        have := (fz12 (m := 2 + (p + 7 - j) % 8) (n := 1) (by omega) (by omega)).mp q2
        omega
      · have := (fz12 (m := 10 + k) (n := 1) (by omega) (by omega)).mp q2
        omega
      · show A.tn ≤ x3.2.2.2.1 ∧ x3.2.2.2.1 ≤ 30000 ∧ am_by (h3 (za 3)) x3.2.2.2.1 = true
        rw [hx]; exact by_eq (fun k => z 3 k (by omega) (by omega)) d4
      · unfold XB xc
        rw [hx]
        exact ⟨rfl, by show x.2.2.2.2.1 + 1 + x.2.2.2.1 ≤ x.2.2.2.2.1 + x.2.2.2.1 + 8; omega, by show x.2.2.2.2.2.1 + 6 + 2 * x.2.2.2.1 ≤ x.2.2.2.2.2.1 + 2 * x.2.2.2.1 + 2000; omega⟩
    · have gm := gM h1 H1
      rw [er] at gm
      obtain ⟨h5, e5, g10, g11, -, g0, g9, g6, g7, g200, g196, fz⟩ := gm
      rw [eM h1 H1, e5]
      have zz : ∀ b k, b ≠ za 195 → b ≠ za 196 → b ≠ za 197 → b ≠ za 200 → h5 b k = h1 b k := fun b k q5 q1 q2 q3 => (fz b k q1 q2 q3 (fun q => q5 q.1)).trans (au_a q5)
      have H2 := H1
      obtain ⟨⟨m1, m2, m3, m4, m5, m6⟩, ⟨n1, n2⟩, mc, md1, md2⟩ := H2
      have hw : mw_ h5 = mw_ h1 := (M_o4 g196).trans mw_u0
      refine ⟨0, h5, rfl, g0, fun q => absurd q (by decide), ⟨⟨g9, fun k hk => ?_, g10, g11, g6.trans ((au_k (by omega)).trans m5), fun q => hw.trans (m6 q)⟩, ⟨g7.trans ((au_k (by omega)).trans n1), fun j v q => ?_⟩, fun k hk => ⟨(g200 k).trans ((au_a (fun q => by cases q)).trans (mc k hk).1), fun v q => ?_⟩, (fz _ _ (fun q => by cases q) (fun q => by cases q) (fun q => by cases q) (fun q => by omega)).trans ((au_k (by omega)).trans md1), fun k hk => (zz _ _ (fun q => by cases q) (fun q => by cases q) (fun q => by cases q) (fun q => by cases q)).trans (md2 k hk)⟩, fun b k cm => zz b k (fun q => cm (Or.inl q)) (fun q => cm (Or.inr (Or.inl q))) (fun q => cm (Or.inr (Or.inr (Or.inl q)))) (fun q => cm (Or.inr (Or.inr (Or.inr (Or.inr (Or.inr (Or.inl q)))))))⟩
      · rw [zz _ _ (fun q => by cases q) (fun q => by cases q) (fun q => by cases q) (fun q => by cases q)]; exact m2 k hk
      · exact (rw_e (fun i hi9 => zz _ _ (fun q => by cases q) (fun q => by cases q) (fun q => by cases q) (fun q => by cases q))).trans (n2 j v q)
      · exact (rw_e (fun i hi9 => zz _ _ (fun q => by cases q) (fun q => by cases q) (fun q => by cases q) (fun q => by cases q))).trans ((mc k hk).2 v q)
  | inr r =>
    obtain ⟨s1, w1, sim1⟩ := r
    rw [er] at g
    obtain ⟨h3, x3, e3, fn, f3, hx⟩ := g
    have hI := r_all_I (V := V) (by omega) er
    have hIK : ib_ K (5 * K) 0 w1 := hI.1.mono (by have := hI.2; omega) (by have := hI.2; omega)
    obtain ⟨fn8, fn9, fn10, fnw⟩ := fn
    obtain ⟨h4, e4, v4, f4⟩ := C_copyV (i := 0) (j := 1) (h0 := h3) (by decide) (by rw [fnw]; exact in01 hI.1.2.2.1.1.2.2.2.1)
    rw [fnw] at v4
    generalize hh : am_u (sh_fill (za 44) 2 (0 : Int32) (am_u h4 (za 41) 4 (0 : Int32))) (za 0) 7 (1 : Int32) = h6
    have zf : ∀ m k, m ≠ 44 → m ≠ 41 → ¬ (m = 0 ∧ k = 7) → h6 (za m) k = h3 (za m) k := fun m k q1 q2 q3 => by
      have ne : ∀ m2, za m = za m2 → m = m2 := fun m2 e => by
        have e : (Sum.inr (Sum.inr m) : AA) = Sum.inr (Sum.inr m2) := e
        injection e with e
        injection e
      have ef : sh_fill (za 44) 2 (0 : Int32) (am_u h4 (za 41) 4 (0 : Int32)) (za m) k = h4 (za m) k := by
        unfold sh_fill
        rw [if_neg (fun q => q1 (ne _ q.1)), au_a (fun q => q2 (ne _ q))]
      have e34 : h4 (za m) k = h3 (za m) k := f4 _ _ (fun j q => by cases q)
      rw [← hh]
      by_cases e0 : m = 0
      · subst e0
        rw [au_k (fun q => q3 ⟨rfl, q⟩), ef, e34]
      · rw [au_a (fun q => e0 (ne _ q)), ef, e34]
    have w6' : ∀ i, vw_ i h6 = vw_ i h4 := fun i => V_f (fun j k => by
      rw [← hh, au_a (fun q => by cases q)]
      unfold sh_fill
      rw [if_neg (fun q => by cases q.1), au_a (fun q => by cases q)])
    have w0 : vw_ 0 h6 = w1 := (w6' 0).trans v4
    have z : ∀ m k, (m < 34 ∨ 40 < m) → m ≠ 44 → m ≠ 41 → ¬ (m = 0 ∧ (k = 6 ∨ k = 7)) → h6 (za m) k = hi (za m) k := fun m k hm q1 q2 q3 => (zf m k q1 q2 (fun q => q3 ⟨q.1, Or.inr q.2⟩)).trans ((fd_za f3 (by omega)).trans (z6 m k (fun q => q3 ⟨q.1, Or.inl q.2⟩)))
    refine ⟨B_new A w1, 0, nI (p_rc w1), ?_, hO.new hIK, fun h1 H1 => ?_⟩
    · unfold sh_L_parseSetup
      rw [eC e3, bs]
      show Ck_ (B_new A w1) (bW2 ((sh_X8_copyFrom 0 1 h3).bind fun h3 => (some (sh_fill (za 44) 2 (0 : Int32) (am_u h3 (za 41) 4 (0 : Int32)))).bind fun h5 => some (Sum.inl (sh_X8_tileCount 0 (am_u h5 (za 0) 7 (1 : Int32))), am_u h5 (za 0) 7 (1 : Int32), x3)) _ _) hi x 0 _
      rw [e4, bs, bs, hh, C_tiles (by rw [w0]; exact hI.1.1), w0]
      refine ⟨h6, _, rfl, fun _ => rfl, ⟨⟨?_, fun k hk => ?_, ?_, ?_, ?_, fun _ => w0⟩, ⟨p, b1, ?_, ?_, fun j v q => ?_⟩, fun k hk => ⟨?_, fun v q => by cases q⟩, (z _ _ (by omega) (by omega) (by omega) (by omega)).trans d1, (z _ _ (by omega) (by omega) (by omega) (by omega)).trans d2, fun k hk => (z _ _ (by omega) (by omega) (by omega) (by omega)).trans (d3 k hk), ?_⟩, ?_, ?_⟩
      · rw [zf _ _ (by omega) (by omega) (by omega), fd_za f3 (by omega), au_]; rfl
      · rw [z _ _ (by omega) (by omega) (by omega) (by omega)]; exact a2 k hk
      · exact (zf _ _ (by omega) (by omega) (by omega)).trans fn9
      · exact (zf _ _ (by omega) (by omega) (by omega)).trans fn10
      · rw [← hh, au_]; rfl
      · rw [← hh, au_a (fun q => by cases q)]
        show sh_fill (za 44) 2 0 (am_u h4 (za 41) 4 0) (za 41) 3 = nI p
        unfold sh_fill
        rw [if_neg (fun q => by cases q.1), au_k (by omega), f4 _ _ (fun j q => by cases q), fd_za f3 (by omega), z6 _ _ (by omega)]
        exact b2'
      · rw [← hh, au_a (fun q => by cases q)]
        show sh_fill (za 44) 2 0 (am_u h4 (za 41) 4 0) (za 41) 4 = nI 0
        unfold sh_fill
        rw [if_neg (fun q => by cases q.1), au_]
        rfl
      · have q : ([] : List Wd)[j]? = some v := q
        rw [List.getElem?_nil] at q
        cases q
      · rw [← hh, au_a (fun q => by cases q)]
        show sh_fill (za 44) 2 0 (am_u h4 (za 41) 4 0) (za 44) k = 0
        unfold sh_fill
        rw [if_pos ⟨rfl, hk⟩]
      · show A.tn ≤ x3.2.2.2.1 ∧ x3.2.2.2.1 ≤ 30000 ∧ am_by (h6 (za 3)) x3.2.2.2.1 = true
        rw [hx]; exact by_eq (fun k => z 3 k (by omega) (by omega) (by omega) (by omega)) d4
      · refine f6.trans ((fd_fC f3).trans (fun b k m => ?_))
        have g4 := fr_fC f4 b k m
        have nb : ∀ n, n < 195 → b ≠ za n := fun n hn q => by
          rcases m with m | m
          · exact md_za (n := n) (by omega) (q ▸ m)
          · have e : (Sum.inr (Sum.inr n) : AA) = Sum.inr (Sum.inr 3004) := q.symm.trans m
            injection e with e
            injection e with e
            omega
        rw [← hh, au_a (nb 0 (by omega))]
        unfold sh_fill
        rw [if_neg (fun q => nb 44 (by omega) q.1), au_a (nb 41 (by omega))]
        exact g4
      · unfold XB xl
        show x3.2.2.2.2.2.2 = x.2.2.2.2.2.2 ∧ x3.2.2.2.2.1 + x.2.2.2.1 ≤ x.2.2.2.2.1 + x3.2.2.2.1 + 8 ∧ x3.2.2.2.2.2.1 + 2 * x.2.2.2.1 ≤ x.2.2.2.2.2.1 + 2 * x3.2.2.2.1 + 2000
        rw [hx]
        exact ⟨rfl, by omega, by omega⟩
    · have gm := gM h1 H1
      rw [er] at gm
      obtain ⟨h5, e5, g10, g11, g0, g9, g6, g7, g200, g201, gw, fz⟩ := gm
      rw [eM h1 H1, e5]
      have zz : ∀ b k, b ≠ za 195 → b ≠ za 196 → b ≠ za 197 → b ≠ za 200 → h5 b k = h1 b k := fun b k q5 q1 q2 q3 => (fz b k q1 q2 q3 (fun q => q5 q.1)).trans (au_a q5)
      have H2 := H1
      obtain ⟨⟨m1, m2, m3, m4, m5, m6⟩, ⟨n1, n2⟩, mc, md1, md2⟩ := H2
      refine ⟨_, h5, rfl, g0.trans au_, fun _ => rfl, ⟨⟨g9, fun k hk => ?_, g10, g11, g6, fun _ => gw⟩, ⟨g7, fun j v q => ?_⟩, fun k hk => ⟨?_, fun v q => by cases q⟩, (fz _ _ (fun q => by cases q) (fun q => by cases q) (fun q => by cases q) (fun q => by omega)).trans ((au_k (by omega)).trans md1), fun k hk => (zz _ _ (fun q => by cases q) (fun q => by cases q) (fun q => by cases q) (fun q => by cases q)).trans (md2 k hk)⟩, fun b k cm => zz b k (fun q => cm (Or.inl q)) (fun q => cm (Or.inr (Or.inl q))) (fun q => cm (Or.inr (Or.inr (Or.inl q)))) (fun q => cm (Or.inr (Or.inr (Or.inr (Or.inr (Or.inr (Or.inl q)))))))⟩
      · rw [zz _ _ (fun q => by cases q) (fun q => by cases q) (fun q => by cases q) (fun q => by cases q)]; exact m2 k hk
      · have q : ([] : List Wd)[j]? = some v := q
        rw [List.getElem?_nil] at q
        cases q
      · have : k = 0 ∨ k = 1 := by omega
        rcases this with e | e
        · rw [e]; exact g200
        · rw [e]; exact g201
end PP
