/-! what the law sees of the object, as a row of longs -/
def vL (f : Nat → Int64) (j : Nat) (y : Int64) : Nat → Int64 := fun k => if k = j then y else f k
def xL (x : AX) (v : Nat) (f : Nat → Int64) : AX := (x.1, x.2.1, (x.2.2.1.1, ((fun b k => if b = v then f k else x.2.2.1.2.1 b k), x.2.2.1.2.2)), x.2.2.2)
theorem xls_L {x : AX} {v j : Nat} {f : Nat → Int64} {y : Int64} : xls (xL x v f) v j y = xL x v (vL f j y) := by
  unfold xls xL vL
  have e : (fun b k => if b = v ∧ k = j then y else if b = v then f k else x.2.2.1.2.1 b k) = fun b k => if b = v then (if k = j then y else f k) else x.2.2.1.2.1 b k := by
    funext b k
    by_cases c : b = v
    · rw [if_pos c, if_pos c]
      by_cases c2 : k = j
      · rw [if_pos ⟨c, c2⟩, if_pos c2]
      · rw [if_neg (fun q => c2 q.2), if_neg c2]
    · rw [if_neg (fun q => c q.1), if_neg c, if_neg c]
  show (x.1, x.2.1, (x.2.2.1.1, ((fun b k => if b = v ∧ k = j then y else if b = v then f k else x.2.2.1.2.1 b k), x.2.2.1.2.2)), x.2.2.2) = _
  rw [e]
theorem xL_id {x : AX} {v : Nat} : xL x v (lgx x v) = x := by
  have e : (fun b k => if b = v then lgx x v k else x.2.2.1.2.1 b k) = x.2.2.1.2.1 := by
    funext b k
    by_cases c : b = v
    · rw [if_pos c, c]
    · rw [if_neg c]
  unfold xL
  rw [e]
theorem xL_v {x : AX} {v k : Nat} {f : Nat → Int64} : lgx (xL x v f) v k = f k := if_pos rfl
theorem xL_o {x : AX} {v b k : Nat} {f : Nat → Int64} (h : b ≠ v) : lgx (xL x v f) b k = lgx x b k := if_neg h
def se0 (w : Wd) (f : Nat → Int64) : Nat → Int64 := vL (vL (vL (vL (vL (vL (vL (vL (vL (vL (vL (vL (vL f 0 (w 6).toInt64) 1 (w 7).toInt64) 2 (w 12).toInt64) 3 (w 3).toInt64) 4 (w 8).toInt64) 5 (w 14).toInt64) 6 (w 15).toInt64) 7 (w 16).toInt64) 8 (w 11).toInt64) 9 (w 22).toInt64) 10 (if w 10 = 0 then Int64.ofNat 0 else Int64.ofNat 1)) 11 (w 23).toInt64) 12 (w 13).toInt64
def se1 (w : Wd) : Nat → Nat → (Nat → Int64) → (Nat → Int64)
  | 0, _, f => f
  | n + 1, k, f => se1 w n (k + 1) (vL f (15 + k) (10000 * (w (404 + 2 * k)).toInt64 + (w (405 + 2 * k)).toInt64))
def se2 (w : Wd) : Nat → Nat → (Nat → Int64) → (Nat → Int64)
  | 0, _, f => f
  | n + 1, k, f => se2 w n (k + 1) (vL f (30 + k) (if w (26 + k) = 0 then Int64.ofNat 0 else Int64.ofNat 1))
def se3 (w : Wd) : Nat → Nat → (Nat → Int64) → (Nat → Int64)
  | 0, _, f => f
  | n + 1, k, f => se3 w n (k + 1) (vL f (40 + k) (((1000 * (w (324 + k)).toInt64 + 4 * (w (244 + k)).toInt64) + (if w (84 + k) = 0 then Int64.ofNat 0 else 2)) + (if w (164 + k) = 0 then Int64.ofNat 0 else Int64.ofNat 1)))
def fz (f : Nat → Int64) : Nat → Int64 := fun j => if j < 100 then 0 else f j
def see (w : Wd) (f : Nat → Int64) : Nat → Int64 := se3 w (p_rc w) 0 (se2 w (nn w 1) 0 (se1 w (nn w 19) 0 (se0 w (fz f))))
theorem vL_e {f g : Nat → Int64} {j : Nat} {y : Int64} (h : ∀ k, k < 100 → f k = g k) : ∀ k, k < 100 → vL f j y k = vL g j y k := fun k hk => by
  unfold vL
  by_cases c : k = j
  · rw [if_pos c, if_pos c]
  · rw [if_neg c, if_neg c]; exact h k hk
theorem se1_e {w : Wd} : ∀ n k {f g : Nat → Int64}, (∀ k, k < 100 → f k = g k) → ∀ j, j < 100 → se1 w n k f j = se1 w n k g j
  | 0, _, _, _, h => h
  | n + 1, k, _, _, h => se1_e n (k + 1) (vL_e h)
theorem se2_e {w : Wd} : ∀ n k {f g : Nat → Int64}, (∀ k, k < 100 → f k = g k) → ∀ j, j < 100 → se2 w n k f j = se2 w n k g j
  | 0, _, _, _, h => h
  | n + 1, k, _, _, h => se2_e n (k + 1) (vL_e h)
theorem se3_e {w : Wd} : ∀ n k {f g : Nat → Int64}, (∀ k, k < 100 → f k = g k) → ∀ j, j < 100 → se3 w n k f j = se3 w n k g j
  | 0, _, _, _, h => h
  | n + 1, k, _, _, h => se3_e n (k + 1) (vL_e h)
/-- what is seen doesn't hang on what lay there -/
theorem see_e {w : Wd} {f g : Nat → Int64} : ∀ j, j < 100 → see w f j = see w g j := by
  refine se3_e _ _ (se2_e _ _ (se1_e _ _ ?_))
  unfold se0
  refine vL_e (vL_e (vL_e (vL_e (vL_e (vL_e (vL_e (vL_e (vL_e (vL_e (vL_e (vL_e (vL_e ?_))))))))))))
  intro k hk
  unfold fz
  rw [if_pos hk, if_pos hk]
theorem vL_o {f : Nat → Int64} {j k : Nat} {y : Int64} (h : k ≠ j) : vL f j y k = f k := if_neg h
theorem se1_o {w : Wd} {j : Nat} (hj : j < 15) : ∀ n k (f : Nat → Int64), se1 w n k f j = f j
  | 0, _, _ => rfl
  | n + 1, k, f => (se1_o hj n (k + 1) _).trans (vL_o (by omega))
theorem se2_o {w : Wd} {j : Nat} (hj : j < 15) : ∀ n k (f : Nat → Int64), se2 w n k f j = f j
  | 0, _, _ => rfl
  | n + 1, k, f => (se2_o hj n (k + 1) _).trans (vL_o (by omega))
theorem se3_o {w : Wd} {j : Nat} (hj : j < 15) : ∀ n k (f : Nat → Int64), se3 w n k f j = f j
  | 0, _, _ => rfl
  | n + 1, k, f => (se3_o hj n (k + 1) _).trans (vL_o (by omega))
theorem see_o {w : Wd} {f : Nat → Int64} {j : Nat} (hj : j < 15) : see w f j = se0 w (fz f) j := (se3_o hj _ _ _).trans ((se2_o hj _ _ _).trans (se1_o hj _ _ _))
theorem see_0 {w : Wd} {f : Nat → Int64} : see w f 0 = (w 6).toInt64 := see_o (by omega)
theorem see_2 {w : Wd} {f : Nat → Int64} : see w f 2 = (w 12).toInt64 := see_o (by omega)
theorem see_3 {w : Wd} {f : Nat → Int64} : see w f 3 = (w 3).toInt64 := see_o (by omega)
theorem see_5 {w : Wd} {f : Nat → Int64} : see w f 5 = (w 14).toInt64 := see_o (by omega)
theorem see_6 {w : Wd} {f : Nat → Int64} : see w f 6 = (w 15).toInt64 := see_o (by omega)
section SE
variable {A : As_} {hi : HI} {x : AX} {K G b v : Nat}
theorem K_fill_l : ∀ n F k (f : Nat → Int64), k + n = 100 → n < F → lnx x v = 100 → sl_J7_fill_d0a16_6 G v (Int64.ofNat 0) F (nI k) (nI 100) hi (xL x v f) = some (hi, xL x v (fun j => if k ≤ j ∧ j < 100 then 0 else f j)) := fun n => by
  induction n with
  | zero =>
    intro F k f hk hF hl
    obtain ⟨F, rfl⟩ : ∃ F2, F = F2 + 1 := ⟨F - 1, by omega⟩
    show sl_J7_fill_d0a16_6_b G v (Int64.ofNat 0) (sl_J7_fill_d0a16_6 G v (Int64.ofNat 0) F) (nI k) (nI 100) hi (xL x v f) = _
    unfold sl_J7_fill_d0a16_6_b
    rw [if_pos (nI_le (by omega) (by omega))]
    have e : (fun j => if k ≤ j ∧ j < 100 then 0 else f j) = f := funext fun j => if_neg (by omega)
    rw [e]
  | succ n ih =>
    intro F k f hk hF hl
    obtain ⟨F, rfl⟩ : ∃ F2, F = F2 + 1 := ⟨F - 1, by omega⟩
    show sl_J7_fill_d0a16_6_b G v (Int64.ofNat 0) (sl_J7_fill_d0a16_6 G v (Int64.ofNat 0) F) (nI k) (nI 100) hi (xL x v f) = _
    unfold sl_J7_fill_d0a16_6_b
    have hl2 : lnx (xL x v f) v = 100 := hl
    rw [if_neg (nI_ge (by omega) (by omega)), hl2, gi_ (by omega) (by omega), cAx_, nI_clamp (by omega), xls_L, nI_1, ih F (k + 1) _ (by omega) (by omega) hl]
    have e : (fun j => if k + 1 ≤ j ∧ j < 100 then 0 else vL f k (Int64.ofNat 0) j) = fun j => if k ≤ j ∧ j < 100 then 0 else f j := funext fun j => by
      unfold vL
      by_cases c : j = k
      · rw [if_neg (by omega), if_pos c, if_pos (by omega)]; rfl
      · by_cases c2 : k + 1 ≤ j ∧ j < 100
        · rw [if_pos c2, if_pos (by omega)]
        · rw [if_neg c2, if_neg c, if_neg (by omega)]
    rw [e]
theorem K_fill (hG : 100 < G) {f : Nat → Int64} (hl : lnx x v = 100) : sl_J7_fill_d0a16 G v (Int64.ofNat 0) hi (xL x v f) = some (hi, xL x v (fz f)) := by
  unfold sl_J7_fill_d0a16
  have hl2 : lnx (xL x v f) v = 100 := hl
  rw [hl2]
  have h := K_fill_l (G := G) (hi := hi) 100 G 0 f (by omega) hG hl
  have e : (fun j => if 0 ≤ j ∧ j < 100 then 0 else f j) = fz f := funext fun j => by
    unfold fz
    by_cases c : j < 100
    · rw [if_pos ⟨Nat.zero_le _, c⟩, if_pos c]
    · rw [if_neg (fun q => c q.2), if_neg c]
  rw [e] at h
  exact h
/-- tiles -/
theorem K_sees3 (hO : Ok_ K A) (e : A.ld = true) (f0 : hi (da 12 b) 0 = nI (nn A.w 0)) (f1 : hi (da 12 b) 1 = nI (nn A.w 1)) (hT : p_rc A.w ≤ 60) (hl : lnx x v = 100) : ∀ n F t (f : Nat → Int64), RC A hi x → t + n = p_rc A.w → n < F → sl_L_sees_199 G b v F (nI t) hi (xL x v f) = some (hi, xL x v (se3 A.w n t f)) := fun n => by
  induction n with
  | zero =>
    intro F t f H ht hF
    obtain ⟨F, rfl⟩ : ∃ F2, F = F2 + 1 := ⟨F - 1, by omega⟩
    show sl_L_sees_199_b G b v (sl_L_sees_199 G b v F) (nI t) hi (xL x v f) = _
    unfold sl_L_sees_199_b
    rw [K_tiles f0 f1, cB3_, if_pos (nI_le (show nn A.w 0 * nn A.w 1 ≤ t by show p_rc A.w ≤ t; omega) (by omega))]
    rfl
  | succ n ih =>
    intro F t f H ht hF
    obtain ⟨F, rfl⟩ : ∃ F2, F = F2 + 1 := ⟨F - 1, by omega⟩
    show sl_L_sees_199_b G b v (sl_L_sees_199 G b v F) (nI t) hi (xL x v f) = _
    unfold sl_L_sees_199_b
    have h2 : t < p_rc A.w := by omega
    have HL : ∀ f, RC A hi (xL x v f) := fun f => H.cx rfl
    have hl2 : ∀ f, lnx (xL x v f) v = 100 := fun f => hl
    rw [K_tiles f0 f1, cB3_, if_neg (nI_ge (show t < nn A.w 0 * nn A.w 1 from h2) (by show p_rc A.w < _; omega)), Cv_wear hO (HL f) e h2, cB3_, Cv_spillTime hO (HL f) e h2, cB3_, Cv_hasBowl hO (HL f) e h2, cB3_, show (40 : Int32) = nI 40 from rfl, nI_add]
    have fin : ∀ y0 y1 : Int64, sl_L_sees_248 G b v (sl_L_sees_199 G b v F) (nI t) y0 y1 (nI (40 + t)) v hi (xL x v f) = some (hi, xL x v (se3 A.w n (t + 1) (vL f (40 + t) ((y1 + y0) + (if A.w (164 + t) = 0 then Int64.ofNat 0 else Int64.ofNat 1))))) := fun y0 y1 => by
      unfold sl_L_sees_248
      rw [Cv_hasRug hO (HL f) e h2, cB3_]
      by_cases c : A.w (164 + t) = 0
      · rw [decide_eq_false (fun q => q c), if_pos (show b2 false = 0 from rfl), hl2, gi_ (by omega) (by omega), cAx_, nI_clamp (by omega), xls_L, nI_1, ih F (t + 1) _ H (by omega) (by omega), if_pos c]
      · rw [decide_eq_true c, if_neg (by decide), hl2, gi_ (by omega) (by omega), cAx_, nI_clamp (by omega), xls_L, nI_1, ih F (t + 1) _ H (by omega) (by omega), if_neg c]
    show _ = some (hi, xL x v (se3 A.w n (t + 1) (vL f (40 + t) (((1000 * (A.w (324 + t)).toInt64 + 4 * (A.w (244 + t)).toInt64) + (if A.w (84 + t) = 0 then Int64.ofNat 0 else 2)) + (if A.w (164 + t) = 0 then Int64.ofNat 0 else Int64.ofNat 1)))))
    by_cases c : A.w (84 + t) = 0
    · rw [decide_eq_false (fun q => q c), if_pos (show b2 false = 0 from rfl), if_pos c]
      exact fin _ _
    · rw [decide_eq_true c, if_neg (by decide), if_neg c]
      exact fin _ _
/-- curtains -/
theorem K_sees2 (hG : 100 < G) (hO : Ok_ K A) (e : A.ld = true) (f0 : hi (da 12 b) 0 = nI (nn A.w 0)) (f1 : hi (da 12 b) 1 = nI (nn A.w 1)) (hT : p_rc A.w ≤ 60) (hl : lnx x v = 100) : ∀ n F t (f : Nat → Int64), RC A hi x → t + n = nn A.w 1 → n < F → sl_L_sees_164 G b v F (nI t) hi (xL x v f) = some (hi, xL x v (se3 A.w (p_rc A.w) 0 (se2 A.w n t f))) := fun n => by
  have hc := (hO.ib e).1.c
  induction n with
  | zero =>
    intro F t f H ht hF
    obtain ⟨F, rfl⟩ : ∃ F2, F = F2 + 1 := ⟨F - 1, by omega⟩
    show sl_L_sees_164_b G b v (sl_L_sees_164 G b v F) (nI t) hi (xL x v f) = _
    unfold sl_L_sees_164_b
    rw [f1, if_pos (nI_le (by omega) (by omega))]
    exact K_sees3 hO e f0 f1 hT hl (p_rc A.w) G 0 f H (by omega) (by omega)
  | succ n ih =>
    intro F t f H ht hF
    obtain ⟨F, rfl⟩ : ∃ F2, F = F2 + 1 := ⟨F - 1, by omega⟩
    show sl_L_sees_164_b G b v (sl_L_sees_164 G b v F) (nI t) hi (xL x v f) = _
    unfold sl_L_sees_164_b
    have hl2 : ∀ f, lnx (xL x v f) v = 100 := fun f => hl
    have h2 : t < nn A.w 1 := by omega
    rw [f1, if_neg (nI_ge h2 (by omega)), Cv_isCurtainClosed hO (show RC A hi (xL x v f) from H.cx rfl) e h2, cB3_, show (30 : Int32) = nI 30 from rfl, nI_add]
    by_cases c : A.w (26 + t) = 0
    · rw [decide_eq_false (fun q => q c), if_pos (show b2 false = 0 from rfl), hl2, gi_ (by omega) (by omega), cAx_, nI_clamp (by omega), xls_L, nI_1, ih F (t + 1) _ H (by omega) (by omega)]
      show _ = some (hi, xL x v (se3 A.w (p_rc A.w) 0 (se2 A.w n (t + 1) (vL f (30 + t) (if A.w (26 + t) = 0 then Int64.ofNat 0 else Int64.ofNat 1)))))
      rw [if_pos c]
    · rw [decide_eq_true c, if_neg (by decide), hl2, gi_ (by omega) (by omega), cAx_, nI_clamp (by omega), xls_L, nI_1, ih F (t + 1) _ H (by omega) (by omega)]
      show _ = some (hi, xL x v (se3 A.w (p_rc A.w) 0 (se2 A.w n (t + 1) (vL f (30 + t) (if A.w (26 + t) = 0 then Int64.ofNat 0 else Int64.ofNat 1)))))
      rw [if_neg c]
/-- records -/
theorem K_sees1 (hG : 100 < G) (hO : Ok_ K A) (e : A.ld = true) (f0 : hi (da 12 b) 0 = nI (nn A.w 0)) (f1 : hi (da 12 b) 1 = nI (nn A.w 1)) (hT : p_rc A.w ≤ 60) (hl : lnx x v = 100) : ∀ n F t (f : Nat → Int64), RC A hi x → t + n = nn A.w 19 → n < F → sl_L_sees_125 G b v F (nI t) hi (xL x v f) = some (hi, xL x v (se3 A.w (p_rc A.w) 0 (se2 A.w (nn A.w 1) 0 (se1 A.w n t f)))) := fun n => by
  have hc := reOk hO e
  have hcc := (hO.ib e).1.c
  have h19 : A.w 19 = nI (nn A.w 19) := (hO.ib e).2.2.2.2.2.2.2.2.2.2.1.1
  induction n with
  | zero =>
    intro F t f H ht hF
    obtain ⟨F, rfl⟩ : ∃ F2, F = F2 + 1 := ⟨F - 1, by omega⟩
    show sl_L_sees_125_b G b v (sl_L_sees_125 G b v F) (nI t) hi (xL x v f) = _
    unfold sl_L_sees_125_b
    rw [Cv_recordCount (show RC A hi (xL x v f) from H.cx rfl) e, cB3_, h19, if_pos (nI_le (by omega) (by omega))]
    exact K_sees2 hG hO e f0 f1 hT hl (nn A.w 1) G 0 f H (by omega) (by omega)
  | succ n ih =>
    intro F t f H ht hF
    obtain ⟨F, rfl⟩ : ∃ F2, F = F2 + 1 := ⟨F - 1, by omega⟩
    show sl_L_sees_125_b G b v (sl_L_sees_125 G b v F) (nI t) hi (xL x v f) = _
    unfold sl_L_sees_125_b
    have hl2 : ∀ f, lnx (xL x v f) v = 100 := fun f => hl
    have HL : ∀ f, RC A hi (xL x v f) := fun f => H.cx rfl
    have h2 : t < nn A.w 19 := by omega
    rw [Cv_recordCount (HL f) e, cB3_, h19, if_neg (nI_ge h2 (by omega)), Cv_recordNight hO (HL f) e h2, cB3_, Cv_recordSteps hO (HL f) e h2, cB3_, show (15 : Int32) = nI 15 from rfl, nI_add, hl2, gi_ (by omega) (by omega), cAx_, nI_clamp (by omega), xls_L, nI_1, ih F (t + 1) _ H (by omega) (by omega)]
    rfl
theorem K_sees (hG : 100 < G) (hO : Ok_ K A) (H : RC A hi x) (e : A.ld = true) (f0 : hi (da 12 b) 0 = nI (nn A.w 0)) (f1 : hi (da 12 b) 1 = nI (nn A.w 1)) (hT : p_rc A.w ≤ 60) (hl : lnx x v = 100) : sl_L_sees G b v hi x = some (hi, xL x v (see A.w (lgx x v))) := by
  unfold sl_L_sees
  have HL : ∀ f, RC A hi (xL x v f) := fun f => H.cx rfl
  have hl2 : ∀ f, lnx (xL x v f) v = 100 := fun f => hl
  have hre := reOk hO e
  have hx : x = xL x v (lgx x v) := xL_id.symm
  have hfill := K_fill (G := G) (hi := hi) (f := lgx x v) hG hl
  rw [← hx] at hfill
  rw [hfill, cB2_]
  rw [Cv_night (HL _) e, cB3_, hl2, gl_ (by omega), cAx_, xls_L]
  rw [Cv_minute (HL _) e, cB3_, hl2, gl_ (by omega), cAx_, xls_L]
  rw [Cv_totalSteps (HL _) e, cB3_, hl2, gl_ (by omega), cAx_, xls_L]
  rw [Cv_pace (HL _) e, cB3_, hl2, gl_ (by omega), cAx_, xls_L]
  rw [Cv_walkerTile (HL _) e, cB3_, hl2, gl_ (by omega), cAx_, xls_L]
  rw [Cv_turnCount (HL _) e, cB3_, hl2, gl_ (by omega), cAx_, xls_L]
  rw [Cv_fallCount (HL _) e, cB3_, hl2, gl_ (by omega), cAx_, xls_L]
  rw [Cv_catTile (HL _) e, cB3_, hl2, gl_ (by omega), cAx_, xls_L]
  rw [Cv_restRemaining (HL _) e, cB3_, hl2, gl_ (by omega), cAx_, xls_L]
  rw [Cv_stepsSincePause (HL _) e, cB3_, hl2, gl_ (by omega), cAx_, xls_L]
  rw [Cv_facesRight hO (HL _) e, cB3_]
  have fin : ∀ y f, sl_L_sees_104 G b v y (10 : Int32) v hi (xL x v f) = some (hi, xL x v (se3 A.w (p_rc A.w) 0 (se2 A.w (nn A.w 1) 0 (se1 A.w (nn A.w 19) 0 (vL (vL (vL f 10 y) 11 (A.w 23).toInt64) 12 (A.w 13).toInt64))))) := fun y f => by
    unfold sl_L_sees_104
    rw [show (10 : Int32) = nI 10 from rfl, hl2, gi_ (by omega) (by omega), cAx_, nI_clamp (by omega), xls_L]
    rw [Cv_slideCount (HL _) e, cB3_, hl2, gl_ (by omega), cAx_, xls_L]
    rw [Cv_stepsTonight (HL _) e, cB3_, hl2, gl_ (by omega), cAx_, xls_L]
    exact K_sees1 hG hO e f0 f1 hT hl (nn A.w 19) G 0 _ H (by omega) (by omega)
  by_cases c : A.w 10 = 0
  · rw [if_pos c, fin]
    unfold see se0
    rw [if_pos c]
  · rw [if_neg c, fin]
    unfold see se0
    rw [if_neg c]
end SE
/-! rows of longs are held against each other -/
theorem of_k : ∀ k, k < 100 → lg_cmp (((16 : Int32).toInt64 + ((nI k).toInt64 <<< ((3 : Int32).toInt64 &&& 63))) &&& 7) (Int64.ofNat 0) = 0 ∧ ¬ ((16 : Int32).toInt64 + ((nI k).toInt64 <<< ((3 : Int32).toInt64 &&& 63))) < 0 ∧ ((16 : Int32).toInt64 + ((nI k).toInt64 <<< ((3 : Int32).toInt64 &&& 63))).toNatClampNeg = 16 + 8 * k := by decide +kernel
theorem lc_e {y : Int64} : lg_cmp y y = 0 := by
  unfold lg_cmp
  rw [if_neg (show ¬ y > y from Int64.lt_irrefl), if_pos rfl]
section EQ
variable {hi : HI} {x : AX} {G a c : Nat}
theorem K_unal {k : Nat} (hk : k < 100) (hl : lnx x a = 100) : sl_Jx9a822_getLongUnaligned_f02c6 a ((16 : Int32).toInt64 + ((nI k).toInt64 <<< ((3 : Int32).toInt64 &&& 63))) hi x = some (lgx x a k, hi, x) := by
  obtain ⟨h1, h2, h3⟩ := of_k k hk
  unfold sl_Jx9a822_getLongUnaligned_f02c6
  rw [h1, if_neg (by decide), h3]
  have e : (16 + 8 * k - 16) / 8 = k := by omega
  rw [e, if_pos ⟨h2, rfl, by omega⟩]
theorem K_vm (ha : lnx x a = 100) (hc : lnx x c = 100) (he : ∀ k, k < 100 → lgx x a k = lgx x c k) : ∀ n F k, k + n = 100 → n < F → sl_J8_vectorizedMismatch_456ae_11 G a (16 : Int32).toInt64 c (16 : Int32).toInt64 (nI 100) (3 : Int32) F ((3 : Int32) - (3 : Int32)) (nI k) hi x = some ((-1 : Int32), hi, x) := fun n => by
  have e0 : nI 100 >>> (((3 : Int32) - (3 : Int32)) &&& 31) = nI 100 := by decide +kernel
  induction n with
  | zero =>
    intro F k hk hF
    obtain ⟨F, rfl⟩ : ∃ F2, F = F2 + 1 := ⟨F - 1, by omega⟩
    show sl_J8_vectorizedMismatch_456ae_11_b G a (16 : Int32).toInt64 c (16 : Int32).toInt64 (nI 100) (3 : Int32) (sl_J8_vectorizedMismatch_456ae_11 G a (16 : Int32).toInt64 c (16 : Int32).toInt64 (nI 100) (3 : Int32) F) ((3 : Int32) - (3 : Int32)) (nI k) hi x = _
    unfold sl_J8_vectorizedMismatch_456ae_11_b
    obtain rfl : k = 100 := by omega
    rw [e0, if_pos (nI_le (Nat.le_refl _) (by omega)), if_pos (by decide)]
    have e1 : (nI 100 - (nI 100 <<< (((3 : Int32) - (3 : Int32)) &&& 31))) ^^^ (-1 : Int32) = -1 := by decide +kernel
    rw [e1]
  | succ n ih =>
    intro F k hk hF
    obtain ⟨F, rfl⟩ : ∃ F2, F = F2 + 1 := ⟨F - 1, by omega⟩
    show sl_J8_vectorizedMismatch_456ae_11_b G a (16 : Int32).toInt64 c (16 : Int32).toInt64 (nI 100) (3 : Int32) (sl_J8_vectorizedMismatch_456ae_11 G a (16 : Int32).toInt64 c (16 : Int32).toInt64 (nI 100) (3 : Int32) F) ((3 : Int32) - (3 : Int32)) (nI k) hi x = _
    unfold sl_J8_vectorizedMismatch_456ae_11_b
    rw [e0, if_neg (nI_ge (by omega) (by omega)), K_unal (by omega) ha, cB3_, K_unal (by omega) hc, cB3_, he k (by omega), lc_e, if_pos rfl, nI_1]
    exact ih F (k + 1) (by omega) (by omega)
theorem K_equals (hG : 100 < G) (ha : lnx x a = 100) (hc : lnx x c = 100) (he : ∀ k, k < 100 → lgx x a k = lgx x c k) : sl_J7_equals_331f6 G a c hi x = some ((1 : Int32), hi, x) := by
  unfold sl_J7_equals_331f6
  by_cases q : a = c
  · exact if_pos q
  · rw [if_neg q, ha, hc, if_pos rfl]
    have hm : sl_J8_mismatch_974f6 G a c (nI 100) hi x = some ((-1 : Int32), hi, x) := by
      unfold sl_J8_mismatch_974f6 sl_J8_vectorizedMismatch_456ae
      rw [if_pos (by decide), ha, hc, gl_ (by omega), gl_ (by omega), he 0 (by omega), lc_e, if_pos rfl, show (0 : Int32) = nI 0 from rfl, K_vm ha hc he 100 G 0 (by omega) hG, cB3_]
      exact if_pos (by decide)
    rw [hm, cB3_]
    exact if_neg (by decide)
end EQ
