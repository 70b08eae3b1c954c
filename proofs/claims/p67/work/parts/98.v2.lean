/-! parseSetup: both sides -/
section PP
variable {A B : As_} {hi h h1 : HI} {x : AX} {K G : Nat} {a c : Int32} {w : Wd}
def B_err (A : As_) (c p : Nat) : As_ := (A.1, A.2.1, (0, A.b), (nI c, nI p), A.2.2.2.2)
def B_new (A : As_) (w : Wd) : As_ := ((true, w), ([], fun _ => none), (0, A.b), (0, -1), A.2.2.2.2)
theorem fd_fC (f : fd_ h h1) : fC_ h h1 := fun b k m => by
  rcases m with m | m
  · obtain ⟨k9, i9, rfl⟩ := m
    exact f _ _ (fun j q => by cases q) (fun q => by cases q.1) (fun q => by cases q.1) (fun q => by cases q) (fun q => by cases q) (fun q => by cases q) (fun q => by cases q)
  · subst m
    exact f _ _ (fun j q => by cases q) (fun q => by cases q.1) (fun q => by cases q.1) (fun q => by cases q) (fun q => by cases q) (fun q => by cases q) (fun q => by cases q)
/-- what stays while a text is read -/
theorem fd_za (f : fd_ h h1) {n k : Nat} (h1' : n < 34 ∨ 40 < n ∨ (n = 34 ∧ k < 4)) : h1 (za n) k = h (za n) k := by
  have ne : ∀ m, za n = za m → n = m := fun m e => by
    have e := za_inj e
    exact e
  exact f _ _ (fun j q => by cases q) (fun q => by have := ne _ q.1; omega) (fun q => by have := ne _ q.1; omega) (fun q => by have := ne _ q; omega) (fun q => by have := ne _ q; omega) (fun q => by have := ne _ q; omega) (fun q => by have := ne _ q; omega)
theorem fd_vw (f : fd_ h h1) {i : Fin 12} (hne : i ≠ 1) : vw_ i h1 = vw_ i h := V_f fun j k => f _ _ (fun j2 e => hne (by injection e with e; injection e)) (fun q => by cases q.1) (fun q => by cases q.1) (fun q => by cases q) (fun q => by cases q) (fun q => by cases q) (fun q => by cases q)
theorem Ok_.err {c p : Nat} (h : Ok_ K A) : Ok_ K (B_err A c p) := ⟨Nat.zero_le _, h.2⟩
theorem Ok_.new (h : Ok_ K A) (hw : ib_ K (5 * K) 0 w) : Ok_ K (B_new A w) := ⟨Nat.zero_le _, Nat.zero_le _, fun _ => hw, (fun v q => by cases q), (fun k v q => by cases q), h.2.2.2.2.2⟩
theorem Q_parse {n : Nat} {P : Wd → Prop} (hG : 70000 < G) (hK : 2000 ≤ K) (hO : Ok_ K A) (H : RC A hi x) (hn : n ≤ A.nb) (hr : ∀ V : TV, V.1 = A.b → V.2.1 = n → ∃ s1 w1 sim1, r_all V = Sum.inr (s1, w1, sim1) ∧ P w1) : ∃ w1 h1 x1, P w1 ∧ sh_X9_parseSetup G (nI n) hi x = some (Sum.inl (nI (p_rc w1)), h1, x1) ∧ RC (B_new A w1) h1 x1 ∧ fC_ hi h1 ∧ Ok_ K (B_new A w1) ∧ x1.2 = x.2 := by
  have hnb := hO.1
  have hb : By_ (am_u hi (za 0) 6 (0 : Int32)) A.b := fun k hk => by
    rw [au_a (fun q => by cases q)]
    exact H.1.2.1 k hk
  obtain ⟨V, V1, V2, g⟩ := C_read (n := n) (G := G) (x := x) (by omega) hG hb
  have eC : ∀ {r : Int32 × HI × AX}, sh_X4_read G (nI n) (am_u hi (za 0) 6 (0 : Int32)) x = some r → sh_X9_parseSetup G (nI n) hi x = (some r).bind fun v1 => if v1.1 ≠ 0 then (sh_X8_copyFrom 0 1 v1.2.1).bind fun h3 => (sh_X1_forgetAll h3).bind fun h5 => some (Sum.inl (sh_X8_tileCount 0 (am_u h5 (za 0) 7 (1 : Int32))), am_u h5 (za 0) 7 (1 : Int32), v1.2.2) else some (Sum.inr 2, v1.2.1, xc v1.2.2) := fun {r} e => by
    unfold sh_X9_parseSetup
    rw [if_neg (nI_pos (by omega)), H.1.1, if_pos (nI_le (by omega) (by omega)), e]
  have z6 : ∀ m k, ¬ (m = 0 ∧ k = 6) → am_u hi (za 0) 6 (0 : Int32) (za m) k = hi (za m) k := fun m k hm => by
    by_cases e : m = 0
    · subst e
      rw [au_k (fun q => hm ⟨rfl, q⟩)]
    · rw [au_a (fun q => e (by
        have q := za_inj q
        exact q))]
  have w6 : ∀ i, vw_ i (am_u hi (za 0) 6 (0 : Int32)) = vw_ i hi := fun i => V_f (fun j k => au_a (fun q => by cases q))
  have f6 : fC_ hi (am_u hi (za 0) 6 (0 : Int32)) := fun b k m => au_a (fun q => by
    rcases m with m | m
    · exact md_za (n := 0) (by omega) (q ▸ m)
    · rw [q] at m; cases m)
  obtain ⟨⟨a1, a2, a3, a4, a5, a6⟩, ⟨p, b1, b2', b3, b4⟩, c, d1, d2, d3, d4⟩ := id H
  obtain ⟨s1, w1, sim1, er, hP⟩ := hr V V1 V2
  rw [er] at g
  obtain ⟨h3, x3, e3, fn, f3, hx⟩ := g
  have hI := r_all_I (V := V) (by omega) er
  have hIK : ib_ K (5 * K) 0 w1 := hI.1.mono (by have := hI.2; omega) (by have := hI.2; omega)
  obtain ⟨fn8, fn9, fn10, fnw⟩ := fn
  obtain ⟨h4, e4, v4, f4⟩ := C_copyV (i := 0) (j := 1) (h0 := h3) (by decide) (by rw [fnw]; exact in01 hI.1.2.2.1.1.2.2.2.1)
  rw [fnw] at v4
  generalize hh : am_u (sh_fill (za 44) 2 (0 : Int32) (am_u h4 (za 41) 4 (0 : Int32))) (za 0) 7 (1 : Int32) = h6
  have zf : ∀ m k, m ≠ 44 → m ≠ 41 → ¬ (m = 0 ∧ k = 7) → h6 (za m) k = h3 (za m) k := fun m k q1 q2 q3 => by
    have ne : ∀ m2, za m = za m2 → m = m2 := fun m2 e => by
      have e := za_inj e
      exact e
    have ef : sh_fill (za 44) 2 (0 : Int32) (am_u h4 (za 41) 4 (0 : Int32)) (za m) k = h4 (za m) k := by
      unfold sh_fill
      rw [if_neg (fun q => q1 (ne _ q.1)), au_a (fun q => q2 (ne _ q))]
    have e34 : h4 (za m) k = h3 (za m) k := f4 _ _ (fun j q => by cases q)
    rw [← hh]
    by_cases e0 : m = 0
    · subst e0
      rw [au_k (fun q => q3 ⟨rfl, q⟩), ef, e34]
    · rw [au_a (fun q => e0 (ne _ q)), ef, e34]
  have w6' : ∀ i, vw_ i h6 = vw_ i h4 := fun i => V_f (fun j k => by
    rw [← hh, au_a (fun q => by cases q)]
    unfold sh_fill
    rw [if_neg (fun q => by cases q.1), au_a (fun q => by cases q)])
  have w0 : vw_ 0 h6 = w1 := (w6' 0).trans v4
  have z : ∀ m k, (m < 34 ∨ 40 < m) → m ≠ 44 → m ≠ 41 → ¬ (m = 0 ∧ (k = 6 ∨ k = 7)) → h6 (za m) k = hi (za m) k := fun m k hm q1 q2 q3 => (zf m k q1 q2 (fun q => q3 ⟨q.1, Or.inr q.2⟩)).trans ((fd_za f3 (by omega)).trans (z6 m k (fun q => q3 ⟨q.1, Or.inl q.2⟩)))
  rw [eC e3, bs]
  rw [if_pos (show (1 : Int32) ≠ 0 by decide)]
  have eF : sh_X1_forgetAll h4 = some (sh_fill (za 44) 2 (0 : Int32) (am_u h4 (za 41) 4 (0 : Int32))) := rfl
  rw [e4, bs, eF, bs, hh, C_tiles (by rw [w0]; exact hI.1.1), w0]
  refine ⟨w1, h6, x3, hP, rfl, ⟨⟨?_, fun k hk => ?_, ?_, ?_, ?_, fun _ => w0⟩, ⟨p, b1, ?_, ?_, fun j v q => ?_⟩, fun k hk => ⟨?_, fun v q => by cases q⟩, (z _ _ (by omega) (by omega) (by omega) (by omega)).trans d1, (z _ _ (by omega) (by omega) (by omega) (by omega)).trans d2, fun k hk => (z _ _ (by omega) (by omega) (by omega) (by omega)).trans (d3 k hk), ?_⟩, ?_, hO.new hIK, hx⟩
  · rw [zf _ _ (by omega) (by omega) (by omega), fd_za f3 (by omega), au_]; rfl
  · rw [z _ _ (by omega) (by omega) (by omega) (by omega)]; exact a2 k hk
  · exact (zf _ _ (by omega) (by omega) (by omega)).trans fn9
  · exact (zf _ _ (by omega) (by omega) (by omega)).trans fn10
  · rw [← hh, au_]; rfl
  · rw [← hh, au_a (fun q => by cases q)]
    show sh_fill (za 44) 2 0 (am_u h4 (za 41) 4 0) (za 41) 3 = nI p
    unfold sh_fill
    rw [if_neg (fun q => by cases q.1), au_k (by omega), f4 _ _ (fun j q => by cases q), fd_za f3 (by omega), z6 _ _ (by omega)]
    exact b2'
  · rw [← hh, au_a (fun q => by cases q)]
    show sh_fill (za 44) 2 0 (am_u h4 (za 41) 4 0) (za 41) 4 = nI 0
    unfold sh_fill
    rw [if_neg (fun q => by cases q.1), au_]
    rfl
  · have q : ([] : List Wd)[j]? = some v := q
    rw [List.getElem?_nil] at q
    cases q
  · rw [← hh, au_a (fun q => by cases q)]
    show sh_fill (za 44) 2 0 (am_u h4 (za 41) 4 0) (za 44) k = 0
    unfold sh_fill
    rw [if_pos ⟨rfl, hk⟩]
  · show A.tn ≤ x3.2.2.2.1 ∧ x3.2.2.2.1 ≤ 30000 ∧ am_by (h6 (za 3)) x3.2.2.2.1 = true
    rw [hx]; exact by_eq (fun k => z 3 k (by omega) (by omega) (by omega) (by omega)) d4
  · refine f6.trans ((fd_fC f3).trans (fun b k m => ?_))
    have g4 := fr_fC f4 b k m
    have nb : ∀ n, n < 195 → b ≠ za n := fun n hn q => by
      rcases m with m | m
      · exact md_za (n := n) (by omega) (q ▸ m)
      · have e := za_inj (q.symm.trans m)
        omega
    rw [← hh, au_a (nb 0 (by omega))]
    unfold sh_fill
    rw [if_neg (fun q => nb 44 (by omega) q.1), au_a (nb 41 (by omega))]
    exact g4
end PP
