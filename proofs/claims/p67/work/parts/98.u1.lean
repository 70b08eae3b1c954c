/-! calls that name a tile, a column, a rank -/
section TU
variable {A A1 : As_} {hi : HI} {x : AX} {K G : Nat} {a : Int32}
def an_ (a : Int32) : Nat := a.toNatClampNeg
theorem tk_n {n : Nat} (hn : n < 2 ^ 31) (h : tk_ a n = true) : an_ a < n ∧ a = nI (an_ a) := by
  obtain ⟨t, ht, rfl⟩ := tk_t hn h
  unfold an_
  rw [nI_clamp (by omega)]
  exact ⟨ht, rfl⟩
theorem tkT (hO : Ok_ K A) (e : A.ld = true) (h : tk_ a (p_rc A.w) = true) : an_ a < p_rc A.w ∧ an_ a < 80 ∧ a = nI (an_ a) := by
  have h80 := rc80 (hO.ib e)
  obtain ⟨h1, h2⟩ := tk_n (by omega) h
  exact ⟨h1, by omega, h2⟩
theorem tkC (hO : Ok_ K A) (e : A.ld = true) (h : tk_ a (nn A.w 1) = true) : an_ a < nn A.w 1 ∧ an_ a < 10 ∧ a = nI (an_ a) := by
  have hc := (hO.ib e).1.c
  obtain ⟨h1, h2⟩ := tk_n (by omega) h
  exact ⟨h1, by omega, h2⟩
theorem tkR (hO : Ok_ K A) (e : A.ld = true) (h : tk_ a (nn A.w 19) = true) : an_ a < nn A.w 19 ∧ an_ a < 10 ∧ a = nI (an_ a) := by
  have hc := i19 (hO.ib e)
  obtain ⟨h1, h2⟩ := tk_n (by omega) h
  exact ⟨h1, by omega, h2⟩
def cT_ (A : As_) (a : Int32) : Int32 := lt2_ A (tk_ a (p_rc A.w))
def cC_ (A : As_) (a : Int32) : Int32 := lt2_ A (tk_ a (nn A.w 1))
def cR_ (A : As_) (a : Int32) : Int32 := lt2_ A (tk_ a (nn A.w 19))
theorem n01 {w : Wd} {k : Nat} (hk : in_ w k 0 1) {α : Type} {p q : α} : (if w k ≠ 1 then p else q) = if w k = 0 then p else q := by
  rcases in01 hk with e | e <;> rw [e] <;> rfl
theorem Cf_isLit (hG : 5 ≤ G) (hO : Ok_ K A) (H : RC A hi x) : Ck_ A (sh_L_isLit G a hi x) hi x (cT_ A a) (b2 (p_lit A.w (an_ a))) := CTb_ H rfl (qT_ hO H) (fun e eo => by
  obtain ⟨h1, h2, h3⟩ := tkT hO e eo
  have hI := hO.ib e
  have hv := H.vw e
  rw [h3, C_lit (by rw [hv]; exact hI.1) (by rw [hv]; exact (i7b hI).1) (by rw [hv]; exact (i7b hI).2) h2 hG, bs, hv, ← h3]
  cases p_lit A.w (an_ a) <;> rfl)
theorem Cf_wear (hO : Ok_ K A) (H : RC A hi x) : Ck_ A (sh_L_wear a hi x) hi x (cT_ A a) (A.w (324 + an_ a)) := CT_ rfl (by decide) H rfl (qT_ hO H) (fun e eo => by
  obtain ⟨h1, h2, h3⟩ := tkT hO e eo
  rw [h3, at_n h2 (by decide), vr_wear 0 hi h2, H.vw e, ← h3])
theorem Cf_spillTime (hO : Ok_ K A) (H : RC A hi x) : Ck_ A (sh_L_spillTime a hi x) hi x (cT_ A a) (A.w (244 + an_ a)) := CT_ rfl (by decide) H rfl (qT_ hO H) (fun e eo => by
  obtain ⟨h1, h2, h3⟩ := tkT hO e eo
  rw [h3, at_n h2 (by decide), vr_spill 0 hi h2, H.vw e, ← h3])
theorem Cf_hasRug (hO : Ok_ K A) (H : RC A hi x) : Ck_ A (sh_L_hasRug a hi x) hi x (cT_ A a) (b2 (decide (A.w (164 + an_ a) ≠ 0))) := CTb_ H rfl (qT_ hO H) (fun e eo => by
  obtain ⟨h1, h2, h3⟩ := tkT hO e eo
  rw [h3, at_n h2 (by decide), vr_rug 0 hi h2, H.vw e, ← h3, le_if (le0_ (b := 1) (by omega) ((hO.ib e).2.1.2.1 _ h2)).1]
  by_cases c : A.w (164 + an_ a) = 0
  · rw [if_pos c, decide_eq_false (fun q => q c)]; rfl
  · rw [if_neg c, decide_eq_true c]; rfl)
theorem Cf_hasBowl (hO : Ok_ K A) (H : RC A hi x) : Ck_ A (sh_L_hasBowl a hi x) hi x (cT_ A a) (b2 (decide (A.w (84 + an_ a) ≠ 0))) := CTb_ H rfl (qT_ hO H) (fun e eo => by
  obtain ⟨h1, h2, h3⟩ := tkT hO e eo
  rw [h3, at_n h2 (by decide), vr_bowl 0 hi h2, H.vw e, ← h3, le_if (le0_ (b := 1) (by omega) ((hO.ib e).2.1.1 _ h2)).1]
  by_cases c : A.w (84 + an_ a) = 0
  · rw [if_pos c, decide_eq_false (fun q => q c)]; rfl
  · rw [if_neg c, decide_eq_true c]; rfl)
theorem Cf_isCurtainClosed (hO : Ok_ K A) (H : RC A hi x) : Ck_ A (sh_L_isCurtainClosed a hi x) hi x (cC_ A a) (b2 (decide (A.w (26 + an_ a) ≠ 0))) := CTb_ H rfl (qC_ hO H) (fun e eo => by
  obtain ⟨h1, h2, h3⟩ := tkC hO e eo
  have hcu : cu_ A.w := (hO.ib e).2.2.2.2.2.2.2.2.2.2.2.1
  rw [h3, at_n h2 (by decide), vr_cur 0 hi h2, H.vw e, ← h3, le_if (le0_ (b := 1) (by omega) (hcu _ h2)).1]
  by_cases c : A.w (26 + an_ a) = 0
  · rw [if_pos c, decide_eq_false (fun q => q c)]; rfl
  · rw [if_neg c, decide_eq_true c]; rfl)
theorem Cf_recordNight (hO : Ok_ K A) (H : RC A hi x) : Ck_ A (sh_L_recordNight a hi x) hi x (cR_ A a) (A.w (404 + 2 * an_ a)) := CT_ rfl (by decide) H rfl (qR_ hO H) (fun e eo => by
  obtain ⟨h1, h2, h3⟩ := tkR hO e eo
  rw [h3, at_n h2 (by decide), vr_rec1 0 hi (by rw [H.vw e]; exact h1) h2, H.vw e, ← h3])
theorem Cf_recordSteps (hO : Ok_ K A) (H : RC A hi x) : Ck_ A (sh_L_recordSteps a hi x) hi x (cR_ A a) (A.w (405 + 2 * an_ a)) := CT_ rfl (by decide) H rfl (qR_ hO H) (fun e eo => by
  obtain ⟨h1, h2, h3⟩ := tkR hO e eo
  rw [h3, at_n h2 (by decide), vr_rec2 0 hi (by rw [H.vw e]; exact h1) h2, H.vw e, ← h3])
end TU
