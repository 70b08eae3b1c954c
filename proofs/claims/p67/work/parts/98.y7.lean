/-! nights end, minutes go by -/
section DAW
variable {ro R r c G n m k : Nat} {hi h1 h2 : HI} {x x1 x2 : AX}
/-- the floor's own cells: what a minute may change below n -/
def fl_o (a : AA) : Prop := ∀ K i, a = da K i → i ≠ 1 ∧ i ≠ 4 ∧ i ≠ 5 ∧ i ≠ 7 ∧ i ≠ 8 ∧ i ≠ 9 ∧ i ≠ 10
def FrV (n k : Nat) (hi : HI) (x : AX) (h1 : HI) (x1 : AX) : Prop := (∀ a j, lo_ n a → fl_o a → h1 a j = hi a j) ∧ (∀ a j, lo_ n a → (∀ K i, a = da K i → i ≠ 4) → rdx x1 a j = rdx x a j) ∧ (∀ i, i < n → lnx x1 i = lnx x i) ∧ ndx x ≤ ndx x1 ∧ lgx x1 = lgx x ∧ (x1.1 = x.1 ∧ x1.2.1 = x.2.1 ∧ x1.2.2.2.1 = x.2.2.2.1 ∧ slx x1 = slx x) ∧ x1.2.2.2.2.1 ≤ x.2.2.2.2.1 + k ∧ x1.2.2.2.2.2.1 ≤ x.2.2.2.2.2.1 + 1000 * k
theorem FrV.refl : FrV n 0 hi x hi x := ⟨fun _ _ _ _ => rfl, fun _ _ _ _ => rfl, fun _ _ => rfl, Nat.le_refl _, rfl, ⟨rfl, rfl, rfl, rfl⟩, Nat.le_refl _, Nat.le_refl _⟩
theorem FrV.trans {k2 : Nat} (a : FrV n k hi x h1 x1) (b : FrV n k2 h1 x1 h2 x2) : FrV n (k + k2) hi x h2 x2 := by
  obtain ⟨a1, a2, a3, a4, a5, ⟨a6, a7, a8, a9⟩, a10, a11⟩ := a
  obtain ⟨b1, b2, b3, b4, b5, ⟨b6, b7, b8, b9⟩, b10, b11⟩ := b
  exact ⟨fun c j h q => (b1 c j h q).trans (a1 c j h q), fun c j h q => (b2 c j h q).trans (a2 c j h q), fun i h => (b3 i h).trans (a3 i h), Nat.le_trans a4 b4, b5.trans a5, ⟨b6.trans a6, b7.trans a7, b8.trans a8, b9.trans a9⟩, by omega, by omega⟩
theorem FrV.mono {k2 : Nat} (a : FrV n k hi x h1 x1) (h : k ≤ k2) : FrV n k2 hi x h1 x1 := ⟨a.1, a.2.1, a.2.2.1, a.2.2.2.1, a.2.2.2.2.1, a.2.2.2.2.2.1, by have := a.2.2.2.2.2.2.1; omega, by have := a.2.2.2.2.2.2.2; omega⟩
theorem FrV.of1 (f : F1 hi h1) : FrV n 0 hi x h1 x := ⟨fun a j _ q => f a j (fun K i e => by have := q K i e; omega), fun _ _ _ _ => rfl, fun _ _ => rfl, Nat.le_refl _, rfl, ⟨rfl, rfl, rfl, rfl⟩, Nat.le_refl _, Nat.le_refl _⟩
theorem FrV.ofN (f : FrN n k hi x h1 x1) : FrV n k hi x h1 x1 := ⟨fun a j q _ => f.1 a j q, fun a j q _ => f.2.1 a j q, f.2.2.1, f.2.2.2.1, f.2.2.2.2.1, f.2.2.2.2.2.1, f.2.2.2.2.2.2.1, f.2.2.2.2.2.2.2⟩
theorem FrV.u4 {K j : Nat} {v : Int32} : FrV n 0 hi x (am_u hi (da K 4) j v) x := ⟨fun a j q q2 => gu_a (fun e => by have := q2 _ _ e; omega), fun _ _ _ _ => rfl, fun _ _ => rfl, Nat.le_refl _, rfl, ⟨rfl, rfl, rfl, rfl⟩, Nat.le_refl _, Nat.le_refl _⟩
theorem FrV.r4 {K j : Nat} {v : AV} : FrV n 0 hi x hi (xr x (da K 4) j v) := ⟨fun _ _ _ _ => rfl, fun a j q q2 => gu_a (fun e => by have := q2 _ _ e; omega), fun _ _ => rfl, Nat.le_refl _, rfl, ⟨rfl, rfl, rfl, rfl⟩, Nat.le_refl _, Nat.le_refl _⟩
theorem FS.cg (F : FS ro R r c x) (f : FrV n k hi x h1 x1) (hn : 11 ≤ n) (hr : ro < n) : FS ro R r c x1 := by
  obtain ⟨f1, f2, f3, f4, f5, f6, f7, f8, f9⟩ := F
  have a : ∀ j, rdx x1 (da 12 1) j = rdx x (da 12 1) j := fun j => f.2.1 _ j (lo_d (by omega)) (fun K i e => by have := (da_i e).2; omega)
  have l := f.2.2.1
  exact ⟨⟨(a _).trans f1.1, (l _ hr).trans f1.2.1, f1.2.2⟩, ⟨(a _).trans f2.1, (l _ (by omega)).trans f2.2⟩, ⟨(a _).trans f3.1, (l _ (by omega)).trans f3.2⟩, ⟨(a _).trans f4.1, (l _ (by omega)).trans f4.2⟩, ⟨(a _).trans f5.1, (l _ (by omega)).trans f5.2⟩, ⟨(a _).trans f6.1, (l _ (by omega)).trans f6.2⟩, ⟨(a _).trans f7.1, (l _ (by omega)).trans f7.2⟩, (a _).trans f8, (a _).trans f9⟩
/-- the clouds' list, below n, past 10 -/
def CLs (n kc : Nat) (hi : HI) (x : AX) : Prop := hi (da 2 3) 2 = nI kc ∧ (0 < kc → ∃ e, rdx x (da 2 3) 1 = dr 104 e ∧ kc ≤ lnx x e ∧ lnx x e < 2 ^ 31 ∧ e < n ∧ 10 < e ∧ ∀ j, j < kc → ∃ p, rdx x (da 104 e) j = dr 100 p ∧ lnx x p = 2 ∧ p < n)
theorem CLs.ls {kc : Nat} (C : CLs n kc hi x) : LSt n 3 kc hi x := ⟨C.1, fun h => by
  obtain ⟨e, e1, e2, e3, e4, -, e5⟩ := C.2 h
  exact ⟨e, e1, e2, e3, e4, e5⟩⟩
theorem CLs.cg {kc : Nat} (C : CLs n kc hi x) (f : FrV n k hi x h1 x1) (hn : 11 ≤ n) : CLs n kc h1 x1 := by
  refine ⟨(f.1 _ _ (lo_d (by omega)) (fun K i e => by have := (da_i e).2; omega)).trans C.1, fun h => ?_⟩
  obtain ⟨e, e1, e2, e3, e4, e5, e6⟩ := C.2 h
  refine ⟨e, (f.2.1 _ _ (lo_d (by omega)) (fun K i e => by have := (da_i e).2; omega)).trans e1, by rw [f.2.2.1 e e4]; exact e2, by rw [f.2.2.1 e e4]; exact e3, e4, e5, fun j hj => ?_⟩
  obtain ⟨p, p1, p2, p3⟩ := e6 j hj
  exact ⟨p, (f.2.1 _ _ (lo_d e4) (fun K i q => by have := (da_i q).2; omega)).trans p1, (f.2.2.1 p p3).trans p2, p3⟩
/-- the records' list; its array is not below n -/
def RSt (n k : Nat) (hi : HI) (x : AX) : Prop := LSt (ndx x) 4 k hi x ∧ (k = 0 → rdx x (da 2 4) 1 = Sum.inr (za 3005)) ∧ (0 < k → ∃ e, rdx x (da 2 4) 1 = dr 104 e ∧ lnx x e = 10 ∧ n ≤ e)
theorem RSt.cg (S : RSt n k hi x) (h : h1 (da 2 4) 2 = hi (da 2 4) 2) : RSt n k h1 x := ⟨S.1.cg h, S.2⟩
theorem K_rank_l {a1 : Int32} (F : FS ro R r c x) (S : LSt m 4 k hi x) (hk : k < 100) : ∀ q f j s, j + q = k → q < f → s ≤ j → Gd (sl_X10_rank_4 G 1 a1 f (nI s) (nI j) hi x) (fun v => v.2 = (hi, x) ∧ ∃ u, u ≤ k ∧ v.1 = nI u) := fun q => by
  have f30 : rdx x (da 12 1) 30 = dr 2 4 := F.2.2.2.2.2.2.2.2
  have s1 := S.1
  induction q with
  | zero =>
    intro f j s hj hf hs
    obtain ⟨f, rfl⟩ : ∃ g, f = g + 1 := ⟨f - 1, by omega⟩
    show Gd (sl_X10_rank_4_b G 1 a1 (sl_X10_rank_4 G 1 a1 f) (nI s) (nI j) hi x) _
    unfold sl_X10_rank_4_b sl_Jx4a65c_size_8abf5
    rw [f30, cD_, cB3_, s1, if_pos (nI_le (by omega) (by omega))]
    exact gd_ret ⟨rfl, s, by omega, rfl⟩
  | succ q ih =>
    intro f j s hj hf hs
    obtain ⟨f, rfl⟩ : ∃ g, f = g + 1 := ⟨f - 1, by omega⟩
    show Gd (sl_X10_rank_4_b G 1 a1 (sl_X10_rank_4 G 1 a1 f) (nI s) (nI j) hi x) _
    unfold sl_X10_rank_4_b sl_Jx4a65c_size_8abf5
    rw [f30, cD_, cB3_, s1, if_neg (nI_ge (by omega) (by omega)), f30, cD_, nI_1, nI_1]
    refine gd_3 (K_get S hk (by omega)) (fun v k2 y q2 => ?_)
    obtain ⟨q1, q2⟩ := q2
    cases q1
    exact gd_G (by rw [q2]; omega) (gd_I (fun _ => ih f (j + 1) s (by omega) (by omega) (by omega)) (fun _ => ih f (j + 1) (s + 1) (by omega) (by omega) (by omega)))
theorem cE_ {ρ : Type} {T : Option ρ} : cE (Sum.inr (za 3005)) T = T := by
  show (if (3005 : Nat) = 3005 then T else none) = T
  rw [if_pos rfl]
theorem cps_0 {α : Type} {g : Nat → α} {f : AA → Nat → α} {b : AA} {sp dp : Nat} : am_cps g f b sp dp 0 = f := funext fun a => funext fun j => if_neg (fun q => by omega)
/-- a row of two goes into the list -/
theorem K_ains {u p : Nat} (S : RSt n k hi x) (hk : k ≤ 8) (hu : u ≤ k) (hn : n ≤ ndx x) (hn4 : 11 ≤ n) (hp : p < ndx x) (hp2 : lnx x p = 2) (Z : Z_ hi x) : Gd (sl_ains 4 (nI u) p hi x) (fun v => RSt n (k + 1) v.1 v.2 ∧ Z_ v.1 v.2 ∧ FrV n 1 hi x v.1 v.2 ∧ ∀ j, v.1 (da 12 1) j = hi (da 12 1) j) := by
  obtain ⟨⟨s1, s2⟩, s3, s4⟩ := S
  have rng : sl_Jx4a65c_rangeCheckForAdd_d00df 4 (nI u) hi x = some (hi, x) := by
    unfold sl_Jx4a65c_rangeCheckForAdd_d00df
    rw [s1, if_neg (nI_nlt hu (by omega)), if_pos (nI_pos' (by omega))]
  unfold sl_ains
  by_cases k0 : k = 0
  · subst k0
    obtain rfl : u = 0 := by omega
    rw [s3 rfl]
    show Gd (sl_Jx4a65c_add_7a177_e 4 (nI 0) p hi x) _
    unfold sl_Jx4a65c_add_7a177_e
    rw [rng, cB2_, cH_, s3 rfl]
    have g2 : ∀ v : Int32, am_u hi (da 2 4) 0 v (da 2 4) 2 = nI 0 := fun v => (gu_k (by omega)).trans s1
    rw [cE_, g2, if_neg (show ¬ (nI 0 ≠ (0 : Int32)) by decide)]
    generalize hh2 : am_u hi (da 2 4) 0 (hi (da 2 4) 0 + 1) = h2
    have hg2 : h2 (da 2 4) 2 = nI 0 := by rw [← hh2]; exact g2 _
    have hgr : sl_Jx4a65c_grow_d5877_e 4 h2 x = some (ndx x, h2, xr (xm x 104 10) (da 2 4) 1 (dr 104 (ndx x))) := by
      unfold sl_Jx4a65c_grow_d5877_e sl_Jx4a65c_grow_92f84_e
      rw [hg2, s3 rfl]
      rw [cE_, cE_, show (if (10 : Int32) < nI 0 + 1 then nI 0 + 1 else (10 : Int32)) = nI 10 by decide, cMk_ (by omega), cAx_, cB3_]
    rw [hgr, cB3_]
    have e0 : nI 0 - nI 0 = nI 0 := by decide
    have e1 : nI 0 + 1 = nI 1 := rfl
    have l10 : lnx (xr (xm x 104 10) (da 2 4) 1 (dr 104 (ndx x))) (ndx x) = 10 := if_pos rfl
    have hac : acR (ndx x) (nI 0) (ndx x) (nI 1) (nI 0) (xr (xm x 104 10) (da 2 4) 1 (dr 104 (ndx x))) = some (xr (xm x 104 10) (da 2 4) 1 (dr 104 (ndx x))) := by
      unfold acR
      rw [l10, if_pos ⟨by decide, by decide, by decide, by decide, by decide, (show (List.range 0).all _ = true from rfl)⟩, show (nI 0).toNatClampNeg = 0 by decide, cps_0]
    rw [e0, e1, hac, cBd_, l10, gi_ (by omega) (by omega), cAx_, cH_]
    generalize hx6 : xr (xr (xm x 104 10) (da 2 4) 1 (dr 104 (ndx x))) (da 104 (ndx x)) (nI 0).toNatClampNeg (dr 100 p) = x6
    have a1 : rdx x6 (da 2 4) 1 = dr 104 (ndx x) := by
      rw [← hx6]
      show am_u (am_u (rdx x) (da 2 4) 1 (dr 104 (ndx x))) (da 104 (ndx x)) (nI 0).toNatClampNeg (dr 100 p) (da 2 4) 1 = _
      rw [gu_a (da_nK (by omega)), gu_]
    have a2 : rdx x6 (da 104 (ndx x)) 0 = dr 100 p := by
      rw [← hx6]
      show am_u (am_u (rdx x) (da 2 4) 1 (dr 104 (ndx x))) (da 104 (ndx x)) (nI 0).toNatClampNeg (dr 100 p) (da 104 (ndx x)) 0 = _
      rw [show (nI 0).toNatClampNeg = 0 by decide, gu_]
    have a3 : ∀ i, lnx x6 i = if i = ndx x then 10 else lnx x i := fun i => by rw [← hx6]; rfl
    have a4 : ndx x6 = ndx x + 1 := by rw [← hx6]; rfl
    refine gd_ret ⟨⟨⟨show am_u h2 (da 2 4) 2 (nI 1) (da 2 4) 2 = nI 1 from gu_, fun _ => ⟨ndx x, a1, by rw [a3, if_pos rfl]; omega, by rw [a3, if_pos rfl]; omega, by show ndx x < ndx x6; omega, fun j hj => ?_⟩⟩, fun q => by omega, fun _ => ⟨ndx x, a1, by rw [a3, if_pos rfl], hn⟩⟩, ?_, ?_, ?_⟩
    · obtain rfl : j = 0 := by omega
      exact ⟨p, a2, by rw [a3, if_neg (by omega)]; exact hp2, by show p < ndx x6; omega⟩
    · rw [← hx6, ← hh2]
      exact (((Z.u (by omega)).m.r (by show 4 < ndx x + 1; omega)).r (by show ndx x < ndx x + 1; omega)).u (by show 4 < ndx x + 1; omega)
    · rw [← hx6, ← hh2]
      have f1 : FrV n 0 hi x (am_u hi (da 2 4) 0 (hi (da 2 4) 0 + 1)) x := FrV.u4
      have f2 : FrV n 1 (am_u hi (da 2 4) 0 (hi (da 2 4) 0 + 1)) x (am_u hi (da 2 4) 0 (hi (da 2 4) 0 + 1)) (xm x 104 10) := FrV.ofN (FrN.m hn (by omega))
      exact (((f1.trans f2).trans FrV.r4).trans (FrV.ofN (FrN.r hn))).trans FrV.u4
    · intro j
      show am_u h2 (da 2 4) 2 (nI 1) (da 12 1) j = hi (da 12 1) j
      rw [gu_a (da_nK (by omega)), ← hh2, gu_a (da_nK (by omega))]
  · obtain ⟨e, e1, e2, e3, e4, e5⟩ := s2 (by omega)
    obtain ⟨e', e1', l10, hne⟩ := s4 (by omega)
    rw [e1] at e1'
    injection e1' with e1'
    have ee := (da_i e1').2
    subst ee
    rw [e1]
    show Gd (sl_Jx4a65c_add_7a177_n 4 (nI u) p hi x) _
    unfold sl_Jx4a65c_add_7a177_n
    rw [rng, cB2_, cH_, e1, cD_]
    have g2 : ∀ v : Int32, am_u hi (da 2 4) 0 v (da 2 4) 2 = nI k := fun v => (gu_k (by omega)).trans s1
    rw [g2, l10, if_pos (fun q => by
      have q := (nI_eq (by omega) (by omega)).mp q
      omega), pk_sub hu, nI_1]
    have hall : (List.range (k - u)).all (fun j => is1 (rdx x (da 104 e) (u + j))) = true := by
      rw [List.all_eq_true]
      intro j hj
      have hj := List.mem_range.mp hj
      obtain ⟨p2, p3, -⟩ := e5 (u + j) (by omega)
      rw [p3]
      rfl
    generalize hxa : ((x.1, x.2.1, (am_cps (rdx x (da 104 e)) (rdx x) (da 104 e) u (u + 1) (k - u), x.2.2.1.2), x.2.2.2) : AX) = xa
    have hac : acR e (nI u) e (nI (u + 1)) (nI (k - u)) x = some xa := by
      unfold acR
      rw [nI_clamp (by omega), nI_clamp (by omega), nI_clamp (by omega), l10, if_pos ⟨nI_pos' (by omega), nI_pos' (by omega), nI_pos' (by omega), by omega, by omega, hall⟩, hxa]
    have la : ∀ i, lnx xa i = lnx x i := fun i => by rw [← hxa]
    rw [hac, cBd_, la, l10, gi_ (by omega) (by omega), cAx_, cH_, nI_clamp (by omega), nI_1]
    have ra : rdx xa = am_cps (rdx x (da 104 e)) (rdx x) (da 104 e) u (u + 1) (k - u) := by rw [← hxa]
    have nda : ndx xa = ndx x := by rw [← hxa]
    have rb : ∀ a j, a ≠ da 104 e → rdx (xr xa (da 104 e) u (dr 100 p)) a j = rdx x a j := fun a j q => by
      show am_u (rdx xa) (da 104 e) u (dr 100 p) a j = _
      rw [gu_a q, ra]
      exact if_neg (fun q2 => q q2.1)
    have rc : ∀ j, rdx (xr xa (da 104 e) u (dr 100 p)) (da 104 e) j = if j = u then dr 100 p else if u + 1 ≤ j ∧ j < u + 1 + (k - u) then rdx x (da 104 e) (u + (j - (u + 1))) else rdx x (da 104 e) j := fun j => by
      show am_u (rdx xa) (da 104 e) u (dr 100 p) (da 104 e) j = _
      by_cases q : j = u
      · rw [if_pos q, q, gu_]
      · rw [if_neg q, gu_k q, ra]
        unfold am_cps
        by_cases q2 : u + 1 ≤ j ∧ j < u + 1 + (k - u)
        · rw [if_pos ⟨rfl, q2⟩, if_pos q2]
        · rw [if_neg (fun q3 => q2 q3.2), if_neg q2]
    have a1 : rdx (xr xa (da 104 e) u (dr 100 p)) (da 2 4) 1 = dr 104 e := (rb _ _ (da_nK (by omega))).trans e1
    have lb : ∀ i, lnx (xr xa (da 104 e) u (dr 100 p)) i = lnx x i := fun i => la i
    have ndb : ndx (xr xa (da 104 e) u (dr 100 p)) = ndx x := nda
    refine gd_ret ⟨⟨⟨gu_ (f := am_u hi (da 2 4) 0 (hi (da 2 4) 0 + 1)) (a := da 2 4) (k := 2) (v := nI (k + 1)), fun _ => ⟨e, a1, by rw [lb, l10]; omega, by rw [lb, l10]; omega, by rw [ndb]; exact e4, fun j hj => ?_⟩⟩, fun q => by omega, fun _ => ⟨e, a1, by rw [lb, l10], hne⟩⟩, ?_, ?_, ?_⟩
    · show ∃ p1, rdx (xr xa (da 104 e) u (dr 100 p)) (da 104 e) j = dr 100 p1 ∧ lnx (xr xa (da 104 e) u (dr 100 p)) p1 = 2 ∧ p1 < ndx (xr xa (da 104 e) u (dr 100 p))
      rw [rc, ndb]
      by_cases q : j = u
      · rw [if_pos q]; exact ⟨p, rfl, (lb p).trans hp2, hp⟩
      · rw [if_neg q]
        by_cases q2 : u + 1 ≤ j ∧ j < u + 1 + (k - u)
        · rw [if_pos q2]
          obtain ⟨p2, p3, p4, p5⟩ := e5 (u + (j - (u + 1))) (by omega)
          exact ⟨p2, p3, (lb p2).trans p4, p5⟩
        · rw [if_neg q2]
          obtain ⟨p2, p3, p4, p5⟩ := e5 j (by omega)
          exact ⟨p2, p3, (lb p2).trans p4, p5⟩
    · intro i hi2
      rw [ndb] at hi2
      refine ⟨fun K j => ⟨?_, ?_⟩, ?_⟩
      · exact (gu_a (da_ni (by omega))).trans ((gu_a (da_ni (by omega))).trans ((Z i hi2).1 K j).1)
      · exact (rb _ _ (da_ni (by omega))).trans ((Z i hi2).1 K j).2
      · intro j
        show lgx xa i j = 0
        rw [← hxa]
        exact (Z i hi2).2 j
    · refine ⟨fun a j q q2 => (gu_a (fun e => by have := q2 _ _ e; omega)).trans (gu_a (fun e => by have := q2 _ _ e; omega)), fun a j q q2 => rb a j (lo_n q hne), fun i _ => lb i, by rw [ndb]; exact Nat.le_refl _, ?_, ?_, ?_, ?_⟩
      · show lgx xa = lgx x
        rw [← hxa]
      · show xa.1 = x.1 ∧ xa.2.1 = x.2.1 ∧ xa.2.2.2.1 = x.2.2.2.1 ∧ slx xa = slx x
        rw [← hxa]
        exact ⟨rfl, rfl, rfl, rfl⟩
      · show xa.2.2.2.2.1 ≤ _
        rw [← hxa]
        exact Nat.le_succ _
      · show xa.2.2.2.2.2.1 ≤ _
        rw [← hxa]
        show x.2.2.2.2.2.1 ≤ x.2.2.2.2.2.1 + 1000 * 1
        omega
    · intro j
      show am_u (am_u hi (da 2 4) 0 (hi (da 2 4) 0 + 1)) (da 2 4) 2 (nI (k + 1)) (da 12 1) j = hi (da 12 1) j
      rw [gu_a (da_nK (by omega)), gu_a (da_nK (by omega))]
theorem RSt.mk2 {tg z : Nat} (S : RSt n k hi x) : RSt n k hi (xm x tg z) := by
  obtain ⟨⟨s1, s2⟩, s3, s4⟩ := S
  have l : ∀ i, i < ndx x → lnx (xm x tg z) i = lnx x i := fun i q => if_neg (fun e => by have e : i = ndx x := e; omega)
  refine ⟨⟨s1, fun h => ?_⟩, s3, fun h => ?_⟩
  · obtain ⟨e, e1, e2, e3, e4, e5⟩ := s2 h
    refine ⟨e, e1, by rw [l e e4]; exact e2, by rw [l e e4]; exact e3, by show e < ndx x + 1; omega, fun j hj => ?_⟩
    obtain ⟨p, p1, p2, p3⟩ := e5 j hj
    exact ⟨p, p1, (l p p3).trans p2, by show p < ndx x + 1; omega⟩
  · obtain ⟨e, e1, e2, e3⟩ := s4 h
    obtain ⟨e', e1', -, -, e4, -⟩ := s2 h
    rw [e1] at e1'
    injection e1' with e1'
    have ee := (da_i e1').2
    exact ⟨e, e1, (l e (by omega)).trans e2, e3⟩
theorem FG.rs (g : FG r c R hi h1) (S : RSt n k hi x) : RSt n k h1 x := S.cg g.2.l4
theorem F1.Z (f : F1 hi h1) (Z : Z_ hi x) (hn : 11 ≤ ndx x) : Z_ h1 x := fun i q => ⟨fun K j => ⟨(f _ _ (fun K2 i2 e => by have := (da_i e).2; omega)).trans ((Z i q).1 K j).1, ((Z i q).1 K j).2⟩, (Z i q).2⟩
theorem K_dawn72 (N : FNu r c R hi) : Gd (sl_X10_dawn_72 G 1 hi x) (fun v => v.2 = x ∧ FG r c R hi v.1) := by
  unfold sl_X10_dawn_72
  exact gd_H (fun h2 e2 => gd_H (fun h3 e3 => gd_H (fun h4 e4 => gd_ret ⟨rfl, by rw [e4, e3, e2]; exact (((FG.refl N).f (by omega)).f (by omega)).f (by omega)⟩)))
theorem K_dawn (hG : 100 < G) (hn : 11 ≤ n) (hn2 : n ≤ ndx x) (hro : ro < n) (F : FS ro R r c x) (N : FNu r c R hi) (S : RSt n k hi x) (hk : k ≤ 8) (Z : Z_ hi x) : Gd (sl_X10_dawn G 1 hi x) (fun v => FNu r c R v.1 ∧ (∃ k', k' ≤ k + 1 ∧ RSt n k' v.1 v.2) ∧ Z_ v.1 v.2 ∧ FrV n 2 hi x v.1 v.2) := by
  have f30 : rdx x (da 12 1) 30 = dr 2 4 := F.2.2.2.2.2.2.2.2
  have h72 : Gd (sl_X10_dawn_72 G 1 hi x) (fun v => FNu r c R v.1 ∧ (∃ k', k' ≤ k + 1 ∧ RSt n k' v.1 v.2) ∧ Z_ v.1 v.2 ∧ FrV n 2 hi x v.1 v.2) := by
    refine gd_w (K_dawn72 N) (fun v q => ?_)
    obtain ⟨h, y⟩ := v
    obtain ⟨q1, q2⟩ := q
    have q1 : y = x := q1
    subst q1
    exact ⟨q2.1, ⟨k, by omega, q2.rs S⟩, q2.2.Z Z (show 11 ≤ ndx y by omega), (FrV.of1 q2.2).mono (by omega)⟩
  unfold sl_X10_dawn
  refine gd_3 (K_rank_l F S.1 (by omega) k G 0 0 (by omega) (by omega) (by omega)) (fun v k1 y q => ?_)
  obtain ⟨q1, u, hu, eu⟩ := q
  cases q1
  have eu : v = nI u := eu
  subst eu
  refine gd_I (fun _ => h72) (fun _ => gd_I (fun _ => h72) (fun _ => gd_D f30 ?_))
  rw [show (2 : Int32) = nI 2 from rfl, cMk_ (by omega)]
  have l2 : lnx (xm x 100 2) (ndx x) = 2 := if_pos rfl
  rw [l2]
  refine gd_G (by omega) (gd_H (fun h7 e7 => gd_G (by omega) (gd_H (fun h8 e8 => ?_))))
  have o8 : ∀ K i j, i ≠ ndx x → h8 (da K i) j = hi (da K i) j := fun K i j q => by
    rw [e8, e7, gu_a (da_ni q), gu_a (da_ni q)]
  have S8 : RSt n k h8 (xm x 100 2) := (RSt.mk2 S).cg (o8 2 4 2 (by omega))
  have Z8 : Z_ h8 (xm x 100 2) := fun i q => by
    have q : ndx x + 1 ≤ i := q
    exact ⟨fun K j => ⟨(o8 K i j (by omega)).trans ((Z i (by omega)).1 K j).1, ((Z i (by omega)).1 K j).2⟩, (Z i (by omega)).2⟩
  have f8 : FrV n 1 hi x h8 (xm x 100 2) := by
    have f1 : FrN n 0 hi x h7 x := by rw [e7]; exact FrN.u hn2
    have f2 : FrN n 0 h7 x h8 x := by rw [e8]; exact FrN.u hn2
    exact FrV.ofN ((f1.trans f2).trans (FrN.m hn2 (by omega)))
  refine gd_2 (K_ains S8 hk hu (by show n ≤ ndx x + 1; omega) hn (by show ndx x < ndx x + 1; omega) l2 Z8) (fun h9 x9 q => ?_)
  obtain ⟨S9, Z9, f9, a9⟩ := q
  have f09 := f8.trans f9
  have F9 : FS ro R r c x9 := F.cg f09 hn hro
  have N9 : FNu r c R h9 := N.o (fun j _ => (a9 j).trans (o8 12 1 j (by omega)))
  refine gd_D F9.2.2.2.2.2.2.2.2 ?_
  unfold sl_Jx4a65c_size_8abf5
  have s9 : h9 (da 2 4) 2 = nI (k + 1) := S9.1.1
  rw [cB3_, s9, if_pos (show nI (k + 1) ≤ (10 : Int32) from nI_le (b := 10) (by omega) (by omega))]
  refine gd_w (K_dawn72 N9) (fun v q => ?_)
  obtain ⟨h, y⟩ := v
  obtain ⟨q1, q2⟩ := q
  have q1 : y = x9 := q1
  subst q1
  have hm : ndx x ≤ ndx y := f09.2.2.2.1
  exact ⟨q2.1, ⟨k + 1, by omega, q2.rs S9⟩, q2.2.Z Z9 (show 11 ≤ ndx y by omega), f09.trans (FrV.of1 q2.2)⟩
section ADV
variable {P : Int32 × HI × AX → Prop} {rec7 : Int32 → Int32 → HI → AX → Option (Int32 × HI × AX)} {a1 l2 l3 : Int32} {kc : Nat}
/-- curtains, and the walker comes into the light -/
theorem K_adv105 (hG : 100 < G) (F : FS ro R r c x) (S : LSt m 3 kc hi x) (hkc : kc < 100) (hr : ∀ h2, FG r c R hi h2 → Gd (rec7 l2 (l3 + 1) h2 x) P) : ∀ q f j h1, j + q = c → q < f → FG r c R hi h1 → Gd (sl_X10_advance_105 G 1 a1 rec7 f l2 l3 (nI j) h1 x) P := fun q => by
  induction q with
  | zero =>
    intro f j h1 hj hf g
    obtain ⟨f, rfl⟩ : ∃ g, f = g + 1 := ⟨f - 1, by omega⟩
    show Gd (sl_X10_advance_105_b G 1 a1 rec7 (sl_X10_advance_105 G 1 a1 rec7 f) l2 l3 (nI j) h1 x) P
    unfold sl_X10_advance_105_b
    have hcc := g.1.1
    rw [g.1.2.2.1, if_pos (nI_le (by omega) (by omega))]
    refine gd_2 (K_relocate hG F g.1 (S.cg g.2.l3) hkc) (fun h y q => ?_)
    obtain ⟨q1, q2⟩ := q
    have q1 : y = x := q1
    subst q1
    exact hr h (g.trans q2)
  | succ q ih =>
    intro f j h1 hj hf g
    obtain ⟨f, rfl⟩ : ∃ g, f = g + 1 := ⟨f - 1, by omega⟩
    show Gd (sl_X10_advance_105_b G 1 a1 rec7 (sl_X10_advance_105 G 1 a1 rec7 f) l2 l3 (nI j) h1 x) P
    unfold sl_X10_advance_105_b
    have hcc := g.1.1
    have F6 := F.2.2.1
    have F5 := F.2.1
    have hj2 : j < c := by omega
    rw [g.1.2.2.1, if_neg (nI_ge hj2 (by omega)), nI_1]
    have ih1 : ∀ h2, FG r c R hi h2 → Gd (sl_X10_advance_105 G 1 a1 rec7 f l2 l3 (nI (j + 1)) h2 x) P := fun h2 g2 => ih f (j + 1) h2 (by omega) (by omega) g2
    refine gd_D F6.1 (gd_j rfl F6.2 hj2 (by omega) (gd_I (fun _ => ih1 _ g) (fun c1 => ?_)))
    refine gd_D F6.1 (gd_j rfl F6.2 hj2 (by omega) (gd_N (fun e => c1 (by rw [e]; decide)) (gd_I (fun _ => ih1 _ g) (fun _ => ?_))))
    refine gd_D F5.1 (gd_D F5.1 (gd_j rfl F5.2 hj2 (by omega) (gd_I (fun _ => ?_) (fun _ => ?_))))
    · exact gd_j rfl F5.2 hj2 (by omega) (gd_H (fun h e => ih1 _ (by rw [e]; exact g.a (by omega))))
    · exact gd_j rfl F5.2 hj2 (by omega) (gd_H (fun h e => ih1 _ (by rw [e]; exact g.a (by omega))))
/-- what holds between two minutes -/
def INV (ro R r c n kc k : Nat) (hi : HI) (x : AX) : Prop := FNu r c R hi ∧ FS ro R r c x ∧ CLs n kc hi x ∧ RSt n k hi x ∧ Z_ hi x ∧ n ≤ ndx x
theorem K_adv23 (hG : 100 < G) (hn : 11 ≤ n) (hro : ro < n) (hkc : kc < 100) (hk : k ≤ 8) (I : INV ro R r c n kc k hi x) (hr : ∀ h2 x2 k', k' ≤ k + 1 → INV ro R r c n kc k' h2 x2 → FrV n 2 hi x h2 x2 → Gd (rec7 l2 (l3 + 1) h2 x2) P) : ∀ q f t h1, t + q = r * c → q < f → FG r c R hi h1 → Gd (sl_X10_advance_23 G 1 a1 rec7 f l2 l3 (nI t) h1 x) P := fun q => by
  obtain ⟨N, F, C, S, Z, hnd⟩ := I
  have hT := N.tc
  induction q with
  | zero =>
    intro f t h1 ht hf g
    obtain ⟨f, rfl⟩ : ∃ g, f = g + 1 := ⟨f - 1, by omega⟩
    show Gd (sl_X10_advance_23_b G 1 a1 rec7 (sl_X10_advance_23 G 1 a1 rec7 f) l2 l3 (nI t) h1 x) P
    unfold sl_X10_advance_23_b
    rw [K_tiles g.1.2.1 g.1.2.2.1, cB3_, if_pos (nI_le (by omega) (by omega))]
    refine gd_H (fun h4 e4 => ?_)
    have g4 : FG r c R hi h4 := by rw [e4]; exact g.f (by omega)
    have hcc := N.1
    have Z4 : Z_ h4 x := g4.2.Z Z (by omega)
    have v4 : FrV n 0 hi x h4 x := FrV.of1 g4.2
    refine gd_I (fun _ => ?_) (fun _ => gd_2 (K_dawn hG hn hnd hro F g4.1 (g4.rs S) hk Z4) (fun h12 x12 q => ?_))
    · refine K_adv105 hG F (C.ls.cg g4.2.l3) hkc (fun h2 g2 => ?_) c G 0 h4 (by omega) (by omega) (FG.refl g4.1)
      have g5 := g4.trans g2
      have v5 : FrV n 0 hi x h2 x := FrV.of1 g5.2
      exact hr h2 x k (by omega) ⟨g5.1, F, C.cg v5 hn, g5.rs S, g5.2.Z Z (by omega), hnd⟩ (v5.mono (by omega))
    · obtain ⟨N12, ⟨k', hk', S12⟩, Z12, v12⟩ := q
      have F12 : FS ro R r c x12 := F.cg v12 hn hro
      have w12 := v4.trans v12
      have C12 := C.cg w12 hn
      have hm : ndx x ≤ ndx x12 := v12.2.2.2.1
      refine K_adv105 hG F12 C12.ls hkc (fun h2 g2 => ?_) c G 0 h12 (by omega) (by omega) (FG.refl N12)
      have v2 : FrV n 0 h12 x12 h2 x12 := FrV.of1 g2.2
      exact hr h2 x12 k' hk' ⟨g2.1, F12, C12.cg v2 hn, g2.rs S12, g2.2.Z Z12 (by omega), by omega⟩ ((w12.trans v2).mono (by omega))
  | succ q ih =>
    intro f t h1 ht hf g
    obtain ⟨f, rfl⟩ : ∃ g, f = g + 1 := ⟨f - 1, by omega⟩
    show Gd (sl_X10_advance_23_b G 1 a1 rec7 (sl_X10_advance_23 G 1 a1 rec7 f) l2 l3 (nI t) h1 x) P
    unfold sl_X10_advance_23_b
    have F9 := F.2.2.2.2.2.1
    have F8 := F.2.2.2.2.1
    have h2 : t < r * c := by omega
    rw [K_tiles g.1.2.1 g.1.2.2.1, cB3_, if_neg (nI_ge h2 (by omega))]
    have h61 : ∀ t0 t1 : Int32, Gd (sl_X10_advance_61 G 1 a1 rec7 (sl_X10_advance_23 G 1 a1 rec7 f) l2 l3 (nI t) t0 t1 0 (nI t) 9 h1 x) P := fun t0 t1 => by
      unfold sl_X10_advance_61
      rw [nI_1]
      exact gd_j rfl F9.2 h2 (by omega) (gd_H (fun h e => ih f (t + 1) h (by omega) (by omega) (by rw [e]; exact g.a (by omega))))
    refine gd_D F9.1 (gd_D F9.1 (gd_j rfl F9.2 h2 (by omega) (gd_D F8.1 (gd_j rfl F8.2 h2 (by omega) ?_))))
    exact gd_I (fun _ => h61 _ _) (fun _ => h61 _ _)
/-- minutes -/
theorem K_adv_l (hG : 100 < G) (hn : 11 ≤ n) (hro : ro < n) (hkc : kc < 100) {M : Nat} (hM : M < 100) : ∀ q f j k hi x, j + q = M → q < f → k + q ≤ 8 → INV ro R r c n kc k hi x → Gd (sl_X10_advance_7 G 1 (nI M) f l2 (nI j) hi x) (fun v => (∃ k', k' ≤ k + q ∧ INV ro R r c n kc k' v.2.1 v.2.2) ∧ FrV n (2 * q) hi x v.2.1 v.2.2) := fun q => by
  induction q with
  | zero =>
    intro f j k hi x hj hf hk I
    obtain ⟨f, rfl⟩ : ∃ g, f = g + 1 := ⟨f - 1, by omega⟩
    show Gd (sl_X10_advance_7_b G 1 (nI M) (sl_X10_advance_7 G 1 (nI M) f) l2 (nI j) hi x) _
    unfold sl_X10_advance_7_b
    rw [if_pos (nI_le (by omega) (by omega))]
    exact gd_ret ⟨⟨k, Nat.le_refl _, I⟩, FrV.refl⟩
  | succ q ih =>
    intro f j k hi x hj hf hk I
    obtain ⟨f, rfl⟩ : ∃ g, f = g + 1 := ⟨f - 1, by omega⟩
    show Gd (sl_X10_advance_7_b G 1 (nI M) (sl_X10_advance_7 G 1 (nI M) f) l2 (nI j) hi x) _
    unfold sl_X10_advance_7_b
    rw [if_neg (nI_ge (by omega) (by omega))]
    obtain ⟨N, F, C, S, Z, hnd⟩ := id I
    refine gd_2 (K_prowl F N) (fun h1 y q1 => ?_)
    obtain ⟨q1, g1⟩ := q1
    have q1 : y = x := q1
    subst q1
    refine gd_2 (K_walk hG F g1.1 (C.ls.cg g1.2.l3) hkc) (fun h2 y2 q2 => ?_)
    obtain ⟨q2, g2⟩ := q2
    have q2 : y2 = y := q2
    subst q2
    have g2 := g1.trans g2
    have hT := N.tc
    refine K_adv23 hG hn hro hkc (by omega) I (fun h3 x3 k' hk' I3 v3 => ?_) (r * c) G 0 h2 (by omega) (by omega) g2
    rw [nI_1]
    refine gd_w (ih f (j + 1) k' h3 x3 (by omega) (by omega) (by omega) I3) (fun v q => ?_)
    obtain ⟨⟨k2, hk2, I2⟩, v2⟩ := q
    exact ⟨⟨k2, by omega, I2⟩, (v3.trans v2).mono (by omega)⟩
theorem K_advance (hG : 100 < G) (hn : 11 ≤ n) (hro : ro < n) (hkc : kc < 100) (hk : k + 2 ≤ 8) (I : INV ro R r c n kc k hi x) : Gd (sl_X10_advance G 1 (2 : Int32) hi x) (fun v => (∃ k', k' ≤ k + 2 ∧ INV ro R r c n kc k' v.2.1 v.2.2) ∧ FrV n 4 hi x v.2.1 v.2.2) := by
  unfold sl_X10_advance
  exact K_adv_l hG hn hro hkc (M := 2) (by omega) 2 G 0 k hi x (by omega) (by omega) hk I
end ADV
end DAW
