/-! the two slots: both sides -/
section SL
variable {A B : As_} {hi h h1 : HI} {x : AX} {K G : Nat} {a c : Int32} {w : Wd}
def sv_ (A : As_) (k : Nat) (v : Wd) : As_ := (A.1, (A.ps, fun j => if j = k then some v else A.sv j), A.2.2)
def B_save (A : As_) (a : Int32) : As_ := sv_ A (an_ a) A.w
theorem wA2 {p : Nat} (hp : p < 2) : sh_worldAt 2 10 (nI p) = some (Fin.ofNat 12 (10 + p)) := by
  unfold sh_worldAt
  rw [nI_clamp (by omega), if_pos ⟨nI_pos' (by omega), hp⟩]
theorem qS_ : sh_X9_requireSlot a = some (if tk_ a 2 = true then Sum.inl () else Sum.inr 1) := rt_ (a := a) (n := 2)
theorem Cf_saveState (hO : Ok_ K A) (H : RC A hi x) : Ck_ (ch_ (lt2_ A (tk_ a 2)) A (B_save A a)) (sh_L_saveState a hi x) hi x (lt2_ A (tk_ a 2)) (A.w 6) := by
  refine CH_ H ?_
  unfold sh_X9_saveState lt2_
  rw [rq_ H, qS_]
  cases e : A.ld with
  | false => exact Or.inr ⟨0, rfl, (show (1 : Int32) ≠ 0 by decide), rfl⟩
  | true =>
    cases eo : tk_ a 2 with
    | false => exact Or.inr ⟨1, rfl, (show (2 : Int32) ≠ 0 by decide), rfl⟩
    | true =>
      have hI := hO.ib e
      obtain ⟨t1, t3⟩ := tk_n (by omega) eo
      obtain ⟨⟨a1, a2, a3, a4, a5, a6⟩, ⟨p, b1, b2', b3, b4⟩, c, d1, d2, d3, d4⟩ := H
      obtain ⟨h3, e3, v3, f3⟩ := C_copyV (i := Fin.ofNat 12 (10 + an_ a)) (j := 0) (h0 := hi) (fun q => by
        have := (fz12 (m := 10 + an_ a) (n := 0) (by omega) (by omega)).mp q
        omega) (by rw [a6 e]; exact in01 hI.2.2.1.1.2.2.2.1)
      rw [a6 e] at v3
      have z : ∀ n k, h3 (za n) k = hi (za n) k := fun n k => f3 _ _ (fun j q => by cases q)
      have ep : sh_put (za 44) 2 a 1 h3 = am_u h3 (za 44) (an_ a) 1 := by
        have := put_n (a := za 44) (n := 2) (t := an_ a) (v := 1) (hi := h3) t1 (by decide)
        rw [← t3] at this
        exact this
      have ew : sh_worldAt 2 10 a = some (Fin.ofNat 12 (10 + an_ a)) := by
        have := wA2 t1
        rw [← t3] at this
        exact this
      generalize hh : am_u h3 (za 44) (an_ a) 1 = h5
      have z5 : ∀ n k, n ≠ 44 → h5 (za n) k = hi (za n) k := fun n k hn => by
        have hne : za n ≠ za 44 := fun q => hn (by
          have q := za_inj q
          exact q)
        rw [← hh, au_a hne, z]
      have w5 : ∀ i, vw_ i h5 = vw_ i h3 := fun i => V_f (fun j k => by rw [← hh, au_a (fun q => by cases q)])
      have wo : ∀ i, i ≠ Fin.ofNat 12 (10 + an_ a) → vw_ i h5 = vw_ i hi := fun i hne => (w5 i).trans (V_fr f3 hne)
      have w0 : vw_ 0 h5 = A.w := (wo 0 (fun q => by
        have := (fz12 (m := 0) (n := 10 + an_ a) (by omega) (by omega)).mp q
        omega)).trans (a6 e)
      refine Or.inl ⟨rfl, h5, ?_, ⟨⟨(z5 _ _ (by omega)).trans a1, fun k hk => ?_, (z5 _ _ (by omega)).trans a3, (z5 _ _ (by omega)).trans a4, (z5 _ _ (by omega)).trans a5, fun _ => w0⟩, ⟨p, b1, (z5 _ _ (by omega)).trans b2', (z5 _ _ (by omega)).trans b3, fun j v q => (wo _ (fun q2 => ?_)).trans (b4 j v q)⟩, fun k hk => ?_, (z5 _ _ (by omega)).trans d1, (z5 _ _ (by omega)).trans d2, fun k hk => (z5 _ _ (by omega)).trans (d3 k hk), by_eq (fun k => (z5 _ _ (by omega))) d4⟩, fun b k m => ?_⟩
      · show ((bO (sh_worldAt 2 10 a) (some hi) (fun w1 => (sh_X8_copyFrom w1 0 hi).bind fun h3 => (some (sh_put (za 44) 2 a (1 : Int32) h3)).bind fun h4 => some h4)).bind fun h4 => some (Sum.inl (h4 (wa 0 0) 9, h4))) = _
        rw [ew]
        show (((sh_X8_copyFrom (Fin.ofNat 12 (10 + an_ a)) 0 hi).bind fun h3 => (some (sh_put (za 44) 2 a (1 : Int32) h3)).bind fun h4 => some h4).bind fun h4 => some (Sum.inl (h4 (wa 0 0) 9, h4))) = _
        rw [e3, bs, ep, bs, bs, hh, vr_6 0 h5, w0]
      · rw [z5 _ _ (by omega)]; exact a2 k hk
      · have := Nat.mod_lt (p + 7 - j) (show 0 < 8 by decide)
        have := (fz12 (m := 2 + (p + 7 - j) % 8) (n := 10 + an_ a) (by omega) (by omega)).mp q2
        omega
      · show h5 (za 44) k = b2 (if k = an_ a then some A.w else A.sv k).isSome ∧ ∀ v, (if k = an_ a then some A.w else A.sv k) = some v → vw_ (Fin.ofNat 12 (10 + k)) h5 = v
        by_cases q : k = an_ a
        · rw [if_pos q]
          refine ⟨by rw [q, ← hh, au_]; rfl, fun v qv => ?_⟩
          cases qv
          rw [q, w5, v3]
        · rw [if_neg q]
          refine ⟨by rw [← hh, au_k q, z]; exact (c k hk).1, fun v qv => ?_⟩
          rw [wo _ (fun q2 => q (by
            have := (fz12 (m := 10 + k) (n := 10 + an_ a) (by omega) (by omega)).mp q2
            omega))]
          exact (c k hk).2 v qv
      · rw [← hh, au_a (fun q => by
          rcases m with m | m
          · exact md_za (n := 44) (by omega) (q ▸ m)
          · rw [q] at m; cases m)]
        exact fr_fC f3 b k m
/-! restoring -/
def rs2_ (A : As_) (a : Int32) : Int32 := if tk_ a 2 = true then (if (A.sv (an_ a)).isSome = true then 0 else 2) else 1
def B_rest (A : As_) (a : Int32) : As_ := match A.sv (an_ a) with
  | none => A
  | some v => ((A.ld, v), ([], A.sv), A.2.2)
def V_rest (A : As_) (a : Int32) : Int32 := match A.sv (an_ a) with
  | none => 0
  | some v => v 6
theorem Cf_restoreState (hO : Ok_ K A) (H : RC A hi x) : Ck_ (ch_ (rs2_ A a) A (B_rest A a)) (sh_L_restoreState a hi x) hi x (rs2_ A a) (V_rest A a) := by
  have H0 := H
  unfold sh_L_restoreState sh_X9_restoreState rs2_ B_rest V_rest
  rw [qS_]
  cases eo : tk_ a 2 with
  | false =>
    show Ck_ (ch_ 1 A _) (some ((1 : Int32), hi, xc x)) hi x 1 _
    exact Ck_.no (by decide) H0
  | true =>
    obtain ⟨t1, t3⟩ := tk_n (by omega) eo
    obtain ⟨⟨a1, a2, a3, a4, a5, a6⟩, ⟨p, b1, b2', b3, b4⟩, c, d1, d2, d3, d4⟩ := H
    have ew : sh_worldAt 2 10 a = some (Fin.ofNat 12 (10 + an_ a)) := by
      have := wA2 t1
      rw [← t3] at this
      exact this
    have ea : sh_at (za 44) 2 a hi = b2 (A.sv (an_ a)).isSome := by
      have q := at_n (a := za 44) (n := 2) (t := an_ a) (hi := hi) t1 (by decide)
      rw [← t3] at q
      rw [q]
      exact (c _ t1).1
    show Ck_ _ (bW2 ((sh_X1_fetch 0 a hi).bind fun v2 => if v2.1 ≠ 0 then (sh_X1_forgetChanges v2.2).bind fun h4 => some (Sum.inl (h4 (wa 0 0) 9), h4, x) else some (Sum.inr 0, v2.2, xc x)) _ _) hi x _ _
    unfold sh_X1_fetch
    rw [ew]
    show Ck_ _ (bW2 ((if sh_at (za 44) 2 a hi ≠ 0 then (sh_X8_copyFrom 0 (Fin.ofNat 12 (10 + an_ a)) hi).bind fun h3 => some ((1 : Int32), h3) else some ((0 : Int32), hi)).bind fun v2 => if v2.1 ≠ 0 then (sh_X1_forgetChanges v2.2).bind fun h4 => some (Sum.inl (h4 (wa 0 0) 9), h4, x) else some (Sum.inr 0, v2.2, xc x)) _ _) hi x _ _
    rw [ea]
    cases es : A.sv (an_ a) with
    | none =>
      show Ck_ (ch_ 2 A _) (some ((2 : Int32), hi, xc x)) hi x 2 _
      exact Ck_.no (by decide) H0
    | some v =>
      have hI : ib_ K (5 * K) 0 v := hO.2.2.2.2.1 _ v es
      have hv : vw_ (Fin.ofNat 12 (10 + an_ a)) hi = v := (c _ t1).2 v es
      obtain ⟨h3, e3, v3, f3⟩ := C_copyV (i := 0) (j := Fin.ofNat 12 (10 + an_ a)) (h0 := hi) (fun q => by
        have := (fz12 (m := 0) (n := 10 + an_ a) (by omega) (by omega)).mp q
        omega) (by rw [hv]; exact in01 hI.2.2.1.1.2.2.2.1)
      rw [hv] at v3
      have z : ∀ n k, h3 (za n) k = hi (za n) k := fun n k => f3 _ _ (fun j q => by cases q)
      generalize hh : am_u h3 (za 41) 4 (0 : Int32) = h5
      have z5 : ∀ n k, ¬ (n = 41 ∧ k = 4) → h5 (za n) k = hi (za n) k := fun n k hn => by
        by_cases q : n = 41
        · subst q
          rw [← hh, au_k (fun q => hn ⟨rfl, q⟩), z]
        · have hne : za n ≠ za 41 := fun q2 => q (by
            have q2 := za_inj q2
            exact q2)
          rw [← hh, au_a hne, z]
      have w5 : ∀ i, vw_ i h5 = vw_ i h3 := fun i => V_f (fun j k => by rw [← hh, au_a (fun q => by cases q)])
      have wo : ∀ i, i ≠ 0 → vw_ i h5 = vw_ i hi := fun i hne => (w5 i).trans (V_fr f3 hne)
      have w0 : vw_ 0 h5 = v := (w5 0).trans v3
      have e6 : h5 (wa 0 0) 9 = v 6 := by rw [vr_6 0 h5, w0]
      show Ck_ ((A.ld, v), ([], A.sv), A.2.2) (bW2 (((sh_X8_copyFrom 0 (Fin.ofNat 12 (10 + an_ a)) hi).bind fun h3 => some ((1 : Int32), h3)).bind fun v2 => if v2.1 ≠ 0 then some (Sum.inl (am_u v2.2 (za 41) 4 (0 : Int32) (wa 0 0) 9), am_u v2.2 (za 41) 4 (0 : Int32), x) else some (Sum.inr 0, v2.2, xc x)) _ _) hi x 0 (v 6)
      rw [e3, bs, bs]
      show Ck_ ((A.ld, v), ([], A.sv), A.2.2) (some ((0 : Int32), am_u h3 (za 41) 4 (0 : Int32), xl x (am_u h3 (za 41) 4 (0 : Int32) (wa 0 0) 9).toInt64)) hi x 0 (v 6)
      rw [hh, e6]
      refine ⟨h5, _, rfl, fun _ => rfl, RC.cx (x := x) ⟨⟨(z5 _ _ (by omega)).trans a1, fun k hk => ?_, (z5 _ _ (by omega)).trans a3, (z5 _ _ (by omega)).trans a4, (z5 _ _ (by omega)).trans a5, fun _ => w0⟩, ⟨p, b1, (z5 _ _ (by omega)).trans b2', ?_, fun j u q => ?_⟩, fun k hk => ⟨(z5 _ _ (by omega)).trans (c k hk).1, fun u q => (wo _ (fun q2 => ?_)).trans ((c k hk).2 u q)⟩, (z5 _ _ (by omega)).trans d1, (z5 _ _ (by omega)).trans d2, fun k hk => (z5 _ _ (by omega)).trans (d3 k hk), by_eq (fun k => (z5 _ _ (by omega))) d4⟩ rfl, fun b k m => ?_, XB.l⟩
      · rw [z5 _ _ (by omega)]; exact a2 k hk
      · rw [← hh, au_]; rfl
      · have q : ([] : List Wd)[j]? = some u := q
        rw [List.getElem?_nil] at q
        cases q
      · have := (fz12 (m := 10 + k) (n := 0) (by omega) (by omega)).mp q2
        omega
      · rw [← hh, au_a (fun q => by
          rcases m with m | m
          · exact md_za (n := 41) (by omega) (q ▸ m)
          · rw [q] at m; cases m)]
        exact fr_fC f3 b k m
end SL
