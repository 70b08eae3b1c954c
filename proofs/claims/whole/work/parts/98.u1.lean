/-! calls that name a tile, a column, a rank -/
section TU
variable {A A1 : As_} {hi : HI} {x : AX} {K G : Nat} {a : Int32}
def an_ (a : Int32) : Nat := a.toNatClampNeg
theorem tk_n {n : Nat} (hn : n < 2 ^ 31) (h : tk_ a n = true) : an_ a < n ∧ a = nI (an_ a) := by
  obtain ⟨t, ht, rfl⟩ := tk_t hn h
  unfold an_
  rw [nI_clamp (by omega)]
  exact ⟨ht, rfl⟩
theorem tkT (hO : Ok_ K A) (e : A.ld = true) (h : tk_ a (p_rc A.w) = true) : an_ a < p_rc A.w ∧ an_ a < 80 ∧ a = nI (an_ a) := by
  have h80 := rc80 (hO.ib e)
  obtain ⟨h1, h2⟩ := tk_n (by omega) h
  exact ⟨h1, by omega, h2⟩
theorem tkC (hO : Ok_ K A) (e : A.ld = true) (h : tk_ a (nn A.w 1) = true) : an_ a < nn A.w 1 ∧ an_ a < 10 ∧ a = nI (an_ a) := by
  have hc := (hO.ib e).1.c
  obtain ⟨h1, h2⟩ := tk_n (by omega) h
  exact ⟨h1, by omega, h2⟩
theorem tkR (hO : Ok_ K A) (e : A.ld = true) (h : tk_ a (nn A.w 19) = true) : an_ a < nn A.w 19 ∧ an_ a < 10 ∧ a = nI (an_ a) := by
  have hc := i19 (hO.ib e)
  obtain ⟨h1, h2⟩ := tk_n (by omega) h
  exact ⟨h1, by omega, h2⟩
def cT_ (A : As_) (a : Int32) : Int32 := lt2_ A (tk_ a (p_rc A.w))
def cC_ (A : As_) (a : Int32) : Int32 := lt2_ A (tk_ a (nn A.w 1))
def cR_ (A : As_) (a : Int32) : Int32 := lt2_ A (tk_ a (nn A.w 19))
theorem n01 {w : Wd} {k : Nat} (hk : in_ w k 0 1) {α : Type} {p q : α} : (if w k ≠ 1 then p else q) = if w k = 0 then p else q := by
  rcases in01 hk with e | e <;> rw [e] <;> rfl
theorem Cf_isLit (hG : 5 ≤ G) (hO : Ok_ K A) (H : RC A hi x) : Ck_ A (sh_L_isLit G a hi x) hi x (cT_ A a) (b2 (p_lit A.w (an_ a))) := CTb_ H rfl (qT_ hO H) (fun e eo => by
  obtain ⟨h1, h2, h3⟩ := tkT hO e eo
  have hI := hO.ib e
  have hv := H.vw e
  rw [h3, C_lit (by rw [hv]; exact hI.1) (by rw [hv]; exact (i7b hI).1) (by rw [hv]; exact (i7b hI).2) h2 hG, bs, hv, ← h3]
  cases p_lit A.w (an_ a) <;> rfl)
theorem Mf_isLit (hG : 5 ≤ G) (hO : Ok_ K A) (H : RM A hi) : Mk_ A (sh_X10_isLit G a hi) hi (cT_ A a) (b2 (p_lit A.w (an_ a))) := Mg2_ (T := fun h => (sh_X10_shinesOn G a h).bind fun v2 => if v2 = 0 then some ((0 : Int32), h) else some ((1 : Int32), h)) H rfl (M_mayTile hO H) (fun e eo h1 em => by
  obtain ⟨g1, g2, g3⟩ := tkT hO e eo
  have hI := hO.ib e
  show (sh_X10_shinesOn G a h1).bind _ = _
  have hcu : cu_ A.w := hI.2.2.2.2.2.2.2.2.2.2.2.1
  rw [g3, M_lit (by rw [em]; exact hI.1) (by rw [em]; exact hcu) (by rw [em]; exact (i7b hI).1) (by rw [em]; exact (i7b hI).2) g2 hG, bs, em, ← g3]
  cases p_lit A.w (an_ a) <;> rfl)
theorem Cf_wear (hO : Ok_ K A) (H : RC A hi x) : Ck_ A (sh_L_wear a hi x) hi x (cT_ A a) (A.w (324 + an_ a)) := CT_ rfl (by decide) H rfl (qT_ hO H) (fun e eo => by
  obtain ⟨h1, h2, h3⟩ := tkT hO e eo
  rw [h3, at_n h2 (by decide), vr_wear 0 hi h2, H.vw e, ← h3])
theorem Mf_wear (hO : Ok_ K A) (H : RM A hi) : Mk_ A (sh_X10_wear a hi) hi (cT_ A a) (A.w (324 + an_ a)) := Mg2_ (T := fun h => if 0 ≤ (324 : Int32) + a ∧ ((324 : Int32) + a).toNatClampNeg < 424 then some (h (za 196) ((324 : Int32) + a).toNatClampNeg, h) else none) H rfl (M_mayTile hO H) (fun e eo h1 em => by
  obtain ⟨g1, g2, g3⟩ := tkT hO e eo
  have e2 : (324 : Int32) + a = nI (324 + an_ a) := by
    rw [show (324 : Int32) = nI 324 from rfl]
    exact (congrArg (nI 324 + ·) g3).trans (nI_add 324 (an_ a))
  rw [e2, if_pos (ok4 (by omega)), nI_clamp (by omega), M_r h1 (by omega), em])
theorem Cf_spillTime (hO : Ok_ K A) (H : RC A hi x) : Ck_ A (sh_L_spillTime a hi x) hi x (cT_ A a) (A.w (244 + an_ a)) := CT_ rfl (by decide) H rfl (qT_ hO H) (fun e eo => by
  obtain ⟨h1, h2, h3⟩ := tkT hO e eo
  rw [h3, at_n h2 (by decide), vr_spill 0 hi h2, H.vw e, ← h3])
theorem Mf_spillTime (hO : Ok_ K A) (H : RM A hi) : Mk_ A (sh_X10_spillTime a hi) hi (cT_ A a) (A.w (244 + an_ a)) := Mg2_ (T := fun h => if 0 ≤ (244 : Int32) + a ∧ ((244 : Int32) + a).toNatClampNeg < 424 then some (h (za 196) ((244 : Int32) + a).toNatClampNeg, h) else none) H rfl (M_mayTile hO H) (fun e eo h1 em => by
  obtain ⟨g1, g2, g3⟩ := tkT hO e eo
  have e2 : (244 : Int32) + a = nI (244 + an_ a) := (congrArg (nI 244 + ·) g3).trans (nI_add 244 (an_ a))
  rw [e2, if_pos (ok4 (by omega)), nI_clamp (by omega), M_r h1 (by omega), em])
theorem Cf_hasRug (hO : Ok_ K A) (H : RC A hi x) : Ck_ A (sh_L_hasRug a hi x) hi x (cT_ A a) (b2 (decide (A.w (164 + an_ a) ≠ 0))) := CTb_ H rfl (qT_ hO H) (fun e eo => by
  obtain ⟨h1, h2, h3⟩ := tkT hO e eo
  rw [h3, at_n h2 (by decide), vr_rug 0 hi h2, H.vw e, ← h3, le_if (le0_ (b := 1) (by omega) ((hO.ib e).2.1.2.1 _ h2)).1]
  by_cases c : A.w (164 + an_ a) = 0
  · rw [if_pos c, decide_eq_false (fun q => q c)]; rfl
  · rw [if_neg c, decide_eq_true c]; rfl)
theorem Mf_hasRug (hO : Ok_ K A) (H : RM A hi) : Mk_ A (sh_X10_hasRug a hi) hi (cT_ A a) (b2 (decide (A.w (164 + an_ a) ≠ 0))) := Mg2_ (T := fun h => if 0 ≤ (164 : Int32) + a ∧ ((164 : Int32) + a).toNatClampNeg < 424 then if h (za 196) ((164 : Int32) + a).toNatClampNeg ≠ (1 : Int32) then some ((0 : Int32), h) else some ((1 : Int32), h) else none) H rfl (M_mayTile hO H) (fun e eo h1 em => by
  obtain ⟨g1, g2, g3⟩ := tkT hO e eo
  have e2 : (164 : Int32) + a = nI (164 + an_ a) := (congrArg (nI 164 + ·) g3).trans (nI_add 164 (an_ a))
  rw [e2, if_pos (ok4 (by omega)), nI_clamp (by omega), M_r h1 (by omega), em, n01 ((hO.ib e).2.1.2.1 _ g2)]
  by_cases c : A.w (164 + an_ a) = 0
  · rw [if_pos c, decide_eq_false (fun q => q c)]; rfl
  · rw [if_neg c, decide_eq_true c]; rfl)
theorem Cf_hasBowl (hO : Ok_ K A) (H : RC A hi x) : Ck_ A (sh_L_hasBowl a hi x) hi x (cT_ A a) (b2 (decide (A.w (84 + an_ a) ≠ 0))) := CTb_ H rfl (qT_ hO H) (fun e eo => by
  obtain ⟨h1, h2, h3⟩ := tkT hO e eo
  rw [h3, at_n h2 (by decide), vr_bowl 0 hi h2, H.vw e, ← h3, le_if (le0_ (b := 1) (by omega) ((hO.ib e).2.1.1 _ h2)).1]
  by_cases c : A.w (84 + an_ a) = 0
  · rw [if_pos c, decide_eq_false (fun q => q c)]; rfl
  · rw [if_neg c, decide_eq_true c]; rfl)
theorem Mf_hasBowl (hO : Ok_ K A) (H : RM A hi) : Mk_ A (sh_X10_hasBowl a hi) hi (cT_ A a) (b2 (decide (A.w (84 + an_ a) ≠ 0))) := Mg2_ (T := fun h => if 0 ≤ (84 : Int32) + a ∧ ((84 : Int32) + a).toNatClampNeg < 424 then if h (za 196) ((84 : Int32) + a).toNatClampNeg ≠ (1 : Int32) then some ((0 : Int32), h) else some ((1 : Int32), h) else none) H rfl (M_mayTile hO H) (fun e eo h1 em => by
  obtain ⟨g1, g2, g3⟩ := tkT hO e eo
  have e2 : (84 : Int32) + a = nI (84 + an_ a) := (congrArg (nI 84 + ·) g3).trans (nI_add 84 (an_ a))
  rw [e2, if_pos (ok4 (by omega)), nI_clamp (by omega), M_r h1 (by omega), em, n01 ((hO.ib e).2.1.1 _ g2)]
  by_cases c : A.w (84 + an_ a) = 0
  · rw [if_pos c, decide_eq_false (fun q => q c)]; rfl
  · rw [if_neg c, decide_eq_true c]; rfl)
theorem Cf_isCurtainClosed (hO : Ok_ K A) (H : RC A hi x) : Ck_ A (sh_L_isCurtainClosed a hi x) hi x (cC_ A a) (b2 (decide (A.w (26 + an_ a) ≠ 0))) := CTb_ H rfl (qC_ hO H) (fun e eo => by
  obtain ⟨h1, h2, h3⟩ := tkC hO e eo
  have hcu : cu_ A.w := (hO.ib e).2.2.2.2.2.2.2.2.2.2.2.1
  rw [h3, at_n h2 (by decide), vr_cur 0 hi h2, H.vw e, ← h3, le_if (le0_ (b := 1) (by omega) (hcu _ h2)).1]
  by_cases c : A.w (26 + an_ a) = 0
  · rw [if_pos c, decide_eq_false (fun q => q c)]; rfl
  · rw [if_neg c, decide_eq_true c]; rfl)
theorem Mf_isCurtainClosed (hO : Ok_ K A) (H : RM A hi) : Mk_ A (sh_X10_isCurtainClosed a hi) hi (cC_ A a) (b2 (decide (A.w (26 + an_ a) ≠ 0))) := by
  unfold sh_X10_isCurtainClosed
  rw [M_isCol hO H, bs]
  refine Mg2_ (T := fun h => (sh_X10_isClosed a h).bind fun v3 => if v3 = 0 then some ((0 : Int32), h) else some ((1 : Int32), h)) H rfl (M_mayT H) (fun e eo h1 em => ?_)
  obtain ⟨g1, g2, g3⟩ := tkC hO e eo
  have hcu : cu_ A.w := (hO.ib e).2.2.2.2.2.2.2.2.2.2.2.1
  show (sh_X10_isClosed a h1).bind _ = _
  rw [g3, M_closed g2 (by rw [em]; exact hcu _ g2), bs, em, eq_of, ← g3]
  by_cases c : A.w (26 + an_ a) = 0
  · rw [decide_eq_true c, decide_eq_false (fun q => q c)]; rfl
  · rw [decide_eq_false c, decide_eq_true c]; rfl
theorem Cf_draughtPeriod (hO : Ok_ K A) (H : RC A hi x) : Ck_ A (sh_L_draughtPeriod a hi x) hi x (cC_ A a) (A.w (36 + an_ a)) := CT_ rfl (by decide) H rfl (qC_ hO H) (fun e eo => by
  obtain ⟨h1, h2, h3⟩ := tkC hO e eo
  rw [h3, at_n h2 (by decide), vr_dra 0 hi h2, H.vw e, ← h3])
theorem Mf_draughtPeriod (hO : Ok_ K A) (H : RM A hi) : Mk_ A (sh_X10_draughtPeriod a hi) hi (cC_ A a) (A.w (36 + an_ a)) := by
  unfold sh_X10_draughtPeriod
  rw [M_isCol hO H, bs]
  refine Mg2_ (T := fun h => if 0 ≤ (36 : Int32) + a ∧ ((36 : Int32) + a).toNatClampNeg < 424 then some (h (za 196) ((36 : Int32) + a).toNatClampNeg, h) else none) H rfl (M_mayT H) (fun e eo h1 em => ?_)
  obtain ⟨g1, g2, g3⟩ := tkC hO e eo
  have e2 : (36 : Int32) + a = nI (36 + an_ a) := (congrArg (nI 36 + ·) g3).trans (nI_add 36 (an_ a))
  rw [e2, if_pos (ok4 (by omega)), nI_clamp (by omega), M_r h1 (by omega), em]
theorem M_rk {h : HI} {k : Nat} (hk : k < 424) (h4 : 404 ≤ k) (hn : (k - 404) / 2 < nn (mw_ h) 19) : h (za 196) k = mw_ h k := by
  have e19 : nn (mw_ h) 19 = nn (rm_ h) 19 := by
    unfold nn mw_
    rw [nz_p (by omega)]
  rw [e19] at hn
  unfold mw_ nz
  rw [if_neg (by omega), if_neg (by omega), if_neg (by omega), if_neg (by omega), if_pos hk, if_pos hn]
  unfold rm_
  rw [if_pos ⟨hk, by omega⟩]
theorem Cf_recordNight (hO : Ok_ K A) (H : RC A hi x) : Ck_ A (sh_L_recordNight a hi x) hi x (cR_ A a) (A.w (404 + 2 * an_ a)) := CT_ rfl (by decide) H rfl (qR_ hO H) (fun e eo => by
  obtain ⟨h1, h2, h3⟩ := tkR hO e eo
  rw [h3, at_n h2 (by decide), vr_rec1 0 hi (by rw [H.vw e]; exact h1) h2, H.vw e, ← h3])
theorem Cf_recordSteps (hO : Ok_ K A) (H : RC A hi x) : Ck_ A (sh_L_recordSteps a hi x) hi x (cR_ A a) (A.w (405 + 2 * an_ a)) := CT_ rfl (by decide) H rfl (qR_ hO H) (fun e eo => by
  obtain ⟨h1, h2, h3⟩ := tkR hO e eo
  rw [h3, at_n h2 (by decide), vr_rec2 0 hi (by rw [H.vw e]; exact h1) h2, H.vw e, ← h3])
theorem Mf_recordNight (hO : Ok_ K A) (H : RM A hi) : Mk_ A (sh_X10_recordNight a hi) hi (cR_ A a) (A.w (404 + 2 * an_ a)) := Mg2_ (T := fun h => if 0 ≤ (404 : Int32) + ((2 : Int32) * a) ∧ ((404 : Int32) + ((2 : Int32) * a)).toNatClampNeg < 424 then some (h (za 196) ((404 : Int32) + ((2 : Int32) * a)).toNatClampNeg, h) else none) H rfl (M_mayRank hO H) (fun e eo h1 em => by
  obtain ⟨g1, g2, g3⟩ := tkR hO e eo
  have e2 : (404 : Int32) + ((2 : Int32) * a) = nI (404 + 2 * an_ a) := (congrArg (fun z => nI 404 + (nI 2 * z)) g3).trans (by show nI 404 + nI 2 * nI (an_ a) = _; rw [pk_mul, nI_add])
  rw [e2, if_pos (ok4 (by omega)), nI_clamp (by omega), M_rk (h := h1) (k := 404 + 2 * an_ a) (by omega) (by omega) (by rw [em]; omega), em])
theorem Mf_recordSteps (hO : Ok_ K A) (H : RM A hi) : Mk_ A (sh_X10_recordSteps a hi) hi (cR_ A a) (A.w (405 + 2 * an_ a)) := Mg2_ (T := fun h => if 0 ≤ ((404 : Int32) + ((2 : Int32) * a)) + (1 : Int32) ∧ (((404 : Int32) + ((2 : Int32) * a)) + (1 : Int32)).toNatClampNeg < 424 then some (h (za 196) (((404 : Int32) + ((2 : Int32) * a)) + (1 : Int32)).toNatClampNeg, h) else none) H rfl (M_mayRank hO H) (fun e eo h1 em => by
  obtain ⟨g1, g2, g3⟩ := tkR hO e eo
  have e2 : (404 : Int32) + ((2 : Int32) * a) + 1 = nI (405 + 2 * an_ a) := (congrArg (fun z => nI 404 + (nI 2 * z) + 1) g3).trans (by show nI 404 + nI 2 * nI (an_ a) + 1 = _; rw [pk_mul, nI_add, nI_1]; congr 1; omega)
  rw [e2, if_pos (ok4 (by omega)), nI_clamp (by omega), M_rk (h := h1) (k := 405 + 2 * an_ a) (by omega) (by omega) (by rw [em]; omega), em])
end TU
