/-! the class's calls as the law's code meets them -/
theorem i64_inj {a b : Int32} (h : a.toInt64 = b.toInt64) : a = b := Int32.toInt_inj.mp (by
  have h := congrArg Int64.toInt h
  rw [Int32.toInt_toInt64, Int32.toInt_toInt64] at h
  exact h)
section IV
variable {A A1 : As_} {hi : HI} {x : AX} {K G : Nat} {v : Int32}
theorem u0_ {S : Option (Int32 ⊕ Nat)} {Tx : Nat → Option (Int32 × HI × AX)} {c : Int32} (hc : c = 0) (h : Ck_ A1 (bW S (fun v2 => some ((0 : Int32), hi, xl x v2.toInt64)) Tx) hi x c v) (hT : ∀ E, (Tx E).map (fun r => r.1) ≠ some 0) : uT0 S hi x = some (v, hi, x) := by
  subst hc
  obtain ⟨h1, x1, e, e1, -⟩ := h
  cases S with
  | none => cases e
  | some s =>
    cases s with
    | inl v2 =>
      have e : some ((0 : Int32), hi, xl x v2.toInt64) = some (0, h1, x1) := e
      injection e with e
      injection e with _ e
      injection e with _ e
      have e2 := e1 rfl
      rw [← e] at e2
      have e3 : v2 = v := i64_inj e2
      subst e3
      rfl
    | inr E =>
      have e : Tx E = some (0, h1, x1) := e
      exact absurd (by rw [e]; rfl) (hT E)
theorem ne1_ {E : Nat} {a b : Nat} {h : HI} {x : AX} : ((if E = a then some ((1 : Int32), h, x) else if E = b then some ((2 : Int32), h, x) else none).map (fun r => r.1)) ≠ some 0 := by
  by_cases e : E = a
  · rw [if_pos e]; intro q; cases q
  · rw [if_neg e]
    by_cases e : E = b
    · rw [if_pos e]; intro q; cases q
    · rw [if_neg e]; intro q; cases q
theorem ne0_ {E : Nat} {a : Nat} {h : HI} {x : AX} : ((if E = a then some ((1 : Int32), h, x) else none).map (fun r => r.1)) ≠ some 0 := by
  by_cases e : E = a
  · rw [if_pos e]; intro q; cases q
  · rw [if_neg e]; intro q; cases q
theorem ne2_ {E : Nat} {a b c : Nat} {h : HI} {x : AX} : ((if E = a then some ((1 : Int32), h, x) else if E = b then some ((2 : Int32), h, x) else if E = c then some ((3 : Int32), h, x) else none).map (fun r => r.1)) ≠ some 0 := by
  by_cases e : E = a
  · rw [if_pos e]; intro q; cases q
  · rw [if_neg e]
    by_cases e : E = b
    · rw [if_pos e]; intro q; cases q
    · rw [if_neg e]
      by_cases e : E = c
      · rw [if_pos e]; intro q; cases q
      · rw [if_neg e]; intro q; cases q
/-- a yes or a no -/
theorem u0b_ {S : Option (Int32 ⊕ Nat)} {Tx : Nat → Option (Int32 × HI × AX)} {c : Int32} {v : Bool} (hc : c = 0) (h : Ck_ A1 (bW S (fun v2 => if v2 = 0 then some ((0 : Int32), hi, xl x (Int64.ofNat 0)) else some ((0 : Int32), hi, xl x (Int64.ofNat 1))) Tx) hi x c (b2 v)) (hT : ∀ E, (Tx E).map (fun r => r.1) ≠ some 0) (hB : ∀ w, S = some (Sum.inl w) → w = 0 ∨ w = 1) : uT0 S hi x = some (b2 v, hi, x) := by
  subst hc
  obtain ⟨h1, x1, e, e1, -⟩ := h
  cases S with
  | none => cases e
  | some s =>
    cases s with
    | inl v2 =>
      have e : (if v2 = 0 then some ((0 : Int32), hi, xl x (Int64.ofNat 0)) else some ((0 : Int32), hi, xl x (Int64.ofNat 1))) = some (0, h1, x1) := e
      have e2 := e1 rfl
      rcases hB v2 rfl with q | q
      · subst q
        rw [if_pos rfl] at e
        injection e with e
        injection e with _ e
        injection e with _ e
        rw [← e] at e2
        cases v with
        | false => rfl
        | true => exact absurd (show (Int64.ofNat 0) = (1 : Int32).toInt64 from e2) (by decide)
      · subst q
        rw [if_neg (by decide)] at e
        injection e with e
        injection e with _ e
        injection e with _ e
        rw [← e] at e2
        cases v with
        | true => rfl
        | false => exact absurd (show (Int64.ofNat 1) = (0 : Int32).toInt64 from e2) (by decide)
    | inr E =>
      have e : Tx E = some (0, h1, x1) := e
      exact absurd (by rw [e]; rfl) (hT E)
/-- what changes numbers -/
theorem u1_ {S : Option ((Int32 × HI) ⊕ Nat)} {Tx : Nat → Option (Int32 × HI × AX)} {c : Int32} (hc : c = 0) (h : Ck_ A1 (bW S (fun v2 => some ((0 : Int32), v2.2, xl x v2.1.toInt64)) Tx) hi x c v) (hT : ∀ E, (Tx E).map (fun r => r.1) ≠ some 0) : ∃ h1, uT1 S x = some (v, h1, x) ∧ RC A1 h1 x ∧ fC_ hi h1 := by
  subst hc
  obtain ⟨h1, x1, e, e1, r, f, -⟩ := h
  cases S with
  | none => cases e
  | some s =>
    cases s with
    | inl v2 =>
      have e : some ((0 : Int32), v2.2, xl x v2.1.toInt64) = some (0, h1, x1) := e
      injection e with e
      injection e with _ e
      injection e with eh e
      have e2 := e1 rfl
      rw [← e] at e2
      have e3 : v2.1 = v := i64_inj e2
      rw [← eh] at r f
      subst e3
      exact ⟨v2.2, rfl, r.cx (by rw [← e]; rfl), f⟩
    | inr E =>
      have e : Tx E = some (0, h1, x1) := e
      exact absurd (by rw [e]; rfl) (hT E)
theorem u1b_ {S : Option ((Int32 × HI) ⊕ Nat)} {Tx : Nat → Option (Int32 × HI × AX)} {c : Int32} {v : Bool} (hc : c = 0) (h : Ck_ A1 (bW S (fun v2 => if v2.1 = 0 then some ((0 : Int32), v2.2, xl x (Int64.ofNat 0)) else some ((0 : Int32), v2.2, xl x (Int64.ofNat 1))) Tx) hi x c (b2 v)) (hT : ∀ E, (Tx E).map (fun r => r.1) ≠ some 0) (hB : ∀ w h, S = some (Sum.inl (w, h)) → w = 0 ∨ w = 1) : ∃ h1, uT1 S x = some (b2 v, h1, x) ∧ RC A1 h1 x ∧ fC_ hi h1 := by
  subst hc
  obtain ⟨h1, x1, e, e1, r, f, -⟩ := h
  cases S with
  | none => cases e
  | some s =>
    cases s with
    | inl v2 =>
      obtain ⟨v2, h2⟩ := v2
      have e : (if v2 = 0 then some ((0 : Int32), h2, xl x (Int64.ofNat 0)) else some ((0 : Int32), h2, xl x (Int64.ofNat 1))) = some (0, h1, x1) := e
      have e2 := e1 rfl
      rcases hB v2 h2 rfl with q | q
      · subst q
        rw [if_pos rfl] at e
        injection e with e
        injection e with _ e
        injection e with eh e
        rw [← e] at e2
        rw [← eh] at r f
        cases v with
        | false => exact ⟨h2, rfl, r.cx (by rw [← e]; rfl), f⟩
        | true => exact absurd (show (Int64.ofNat 0) = (1 : Int32).toInt64 from e2) (by decide)
      · subst q
        rw [if_neg (by decide)] at e
        injection e with e
        injection e with _ e
        injection e with eh e
        rw [← e] at e2
        rw [← eh] at r f
        cases v with
        | true => exact ⟨h2, rfl, r.cx (by rw [← e]; rfl), f⟩
        | false => exact absurd (show (Int64.ofNat 1) = (0 : Int32).toInt64 from e2) (by decide)
    | inr E =>
      have e : Tx E = some (0, h1, x1) := e
      exact absurd (by rw [e]; rfl) (hT E)
theorem bT_inl {α β : Type} {S : Option (α ⊕ Nat)} {T : α → Option (β ⊕ Nat)} {v : β} (h : bT S T = some (Sum.inl v)) : ∃ a, T a = some (Sum.inl v) := by
  cases S with
  | none => cases h
  | some s =>
    cases s with
    | inl a => exact ⟨a, h⟩
    | inr E => cases h
theorem bd_inl {α β : Type} {S : Option α} {T : α → Option β} {v : β} (h : S.bind T = some v) : ∃ a, T a = some v := by
  cases S with
  | none => cases h
  | some a => exact ⟨a, h⟩
theorem gd_inl {v w : Int32} (h : (if v = 0 ∨ v = 1 then some (Sum.inl v : Int32 ⊕ Nat) else none) = some (Sum.inl w)) : w = 0 ∨ w = 1 := by
  by_cases c : v = 0 ∨ v = 1
  · rw [if_pos c] at h
    injection h with h
    injection h with h
    rw [← h]; exact c
  · rw [if_neg c] at h; cases h
theorem le_inl {c : Prop} [Decidable c] {w : Int32} (h : (if c then some (Sum.inl (0 : Int32) : Int32 ⊕ Nat) else some (Sum.inl (1 : Int32))) = some (Sum.inl w)) : w = 0 ∨ w = 1 := by
  by_cases q : c
  · rw [if_pos q] at h
    injection h with h
    injection h with h
    exact Or.inl h.symm
  · rw [if_neg q] at h
    injection h with h
    injection h with h
    exact Or.inr h.symm
theorem Cv_night (H : RC A hi x) (e : A.ld = true) : uT0 (sh_X9_night hi) hi x = some (A.w 6, hi, x) := u0_ (lc_t e) (Cf_night H) (fun E => ne0_)
theorem Cv_minute (H : RC A hi x) (e : A.ld = true) : uT0 (sh_X9_minute hi) hi x = some (A.w 7, hi, x) := u0_ (lc_t e) (Cf_minute H) (fun E => ne0_)
theorem Cv_pace (H : RC A hi x) (e : A.ld = true) : uT0 (sh_X9_pace hi) hi x = some (A.w 3, hi, x) := u0_ (lc_t e) (Cf_pace H) (fun E => ne0_)
theorem Cv_walkerTile (H : RC A hi x) (e : A.ld = true) : uT0 (sh_X9_walkerTile hi) hi x = some (A.w 8, hi, x) := u0_ (lc_t e) (Cf_walkerTile H) (fun E => ne0_)
theorem Cv_restRemaining (H : RC A hi x) (e : A.ld = true) : uT0 (sh_X9_restRemaining hi) hi x = some (A.w 11, hi, x) := u0_ (lc_t e) (Cf_restRemaining H) (fun E => ne0_)
theorem Cv_stepsSincePause (H : RC A hi x) (e : A.ld = true) : uT0 (sh_X9_stepsSincePause hi) hi x = some (A.w 22, hi, x) := u0_ (lc_t e) (Cf_stepsSincePause H) (fun E => ne0_)
theorem Cv_totalSteps (H : RC A hi x) (e : A.ld = true) : uT0 (sh_X9_totalSteps hi) hi x = some (A.w 12, hi, x) := u0_ (lc_t e) (Cf_totalSteps H) (fun E => ne0_)
theorem Cv_stepsTonight (H : RC A hi x) (e : A.ld = true) : uT0 (sh_X9_stepsTonight hi) hi x = some (A.w 13, hi, x) := u0_ (lc_t e) (Cf_stepsTonight H) (fun E => ne0_)
theorem Cv_turnCount (H : RC A hi x) (e : A.ld = true) : uT0 (sh_X9_turnCount hi) hi x = some (A.w 14, hi, x) := u0_ (lc_t e) (Cf_turnCount H) (fun E => ne0_)
theorem Cv_fallCount (H : RC A hi x) (e : A.ld = true) : uT0 (sh_X9_fallCount hi) hi x = some (A.w 15, hi, x) := u0_ (lc_t e) (Cf_fallCount H) (fun E => ne0_)
theorem Cv_catTile (H : RC A hi x) (e : A.ld = true) : uT0 (sh_X9_catTile hi) hi x = some (A.w 16, hi, x) := u0_ (lc_t e) (Cf_catTile H) (fun E => ne0_)
theorem Cv_slideCount (H : RC A hi x) (e : A.ld = true) : uT0 (sh_X9_slideCount hi) hi x = some (A.w 23, hi, x) := u0_ (lc_t e) (Cf_slideCount H) (fun E => ne0_)
theorem Cv_recordCount (H : RC A hi x) (e : A.ld = true) : uT0 (sh_X9_recordCount hi) hi x = some (A.w 19, hi, x) := u0_ (lc_t e) (Cf_recordCount H) (fun E => ne0_)
theorem Cv_moonRow (hO : Ok_ K A) (H : RC A hi x) (e : A.ld = true) : uT0 (sh_X9_moonRow hi) hi x = some (nI (p_row A.w), hi, x) := u0_ (lc_t e) (Cf_moonRow hO H) (fun E => ne0_)
theorem Cv_imbalance (hO : Ok_ K A) (H : RC A hi x) (e : A.ld = true) : uT0 (sh_X9_imbalance hi) hi x = some (p_imb A.w, hi, x) := u0_ (lc_t e) (Cf_imbalance hO H) (fun E => ne0_)
theorem Cv_moonShines (hG : 5 ≤ G) (hO : Ok_ K A) (H : RC A hi x) (e : A.ld = true) : uT0 (sh_X9_moonShines G hi) hi x = some (b2 (p_out A.w), hi, x) := u0b_ (lc_t e) (Cf_moonShines hG hO H) (fun E => ne0_) (fun w q => by
  obtain ⟨a, q⟩ := bT_inl q
  obtain ⟨a, q⟩ := bd_inl q
  exact gd_inl q)
theorem Cv_facesRight (hO : Ok_ K A) (H : RC A hi x) (e : A.ld = true) : uT0 (sh_X9_facesRight hi) hi x = some (A.w 10, hi, x) := by
  have h10 := in01 ((hO.ib e).2.2.1.1.2.2.2.1)
  have g : A.w 10 = b2 (decide (A.w 10 = 1)) := by
    rcases h10 with q | q <;> rw [q] <;> rfl
  have h := Cf_facesRight hO H
  rw [g] at h
  rw [u0b_ (lc_t e) h (fun E => ne0_) (fun w q => by
    obtain ⟨a, q⟩ := bT_inl q
    exact gd_inl q), ← g]
theorem lt2_t {ok : Bool} (e : A.ld = true) (eo : ok = true) : lt2_ A ok = 0 := by
  unfold lt2_
  rw [if_pos e, if_pos eo]
theorem lt3_t {o1 o2 : Bool} (e : A.ld = true) (e1 : o1 = true) (e2 : o2 = true) : lt3_ A o1 o2 = 0 := by
  unfold lt3_
  rw [if_pos e, if_pos e1, if_pos e2]
theorem tk_f {t n : Nat} (h : t < n) (hn : n < 2 ^ 31) : tk_ (nI t) n = true := decide_eq_true ⟨nI_pos (by omega), (nI_ltI (by omega) hn).mpr h⟩
theorem an_f {t : Nat} (h : t < 2 ^ 31) : an_ (nI t) = t := nI_clamp h
theorem rcOk (hO : Ok_ K A) (e : A.ld = true) : p_rc A.w ≤ 80 := rc80 (hO.ib e)
theorem clOk (hO : Ok_ K A) (e : A.ld = true) : nn A.w 1 ≤ 10 := (hO.ib e).1.c.2.2

theorem Cv_wear {t : Nat} (hO : Ok_ K A) (H : RC A hi x) (e : A.ld = true) (ht : t < p_rc A.w) : uT0 (sh_X9_wear (nI t) hi) hi x = some (A.w (324 + t), hi, x) := by
  have h := Cf_wear (a := nI t) hO H
  rw [an_f (by have := rcOk hO e; omega)] at h
  exact u0_ (lt2_t e (tk_f ht (by have := rcOk hO e; omega))) h (fun E => ne1_)
theorem Cv_spillTime {t : Nat} (hO : Ok_ K A) (H : RC A hi x) (e : A.ld = true) (ht : t < p_rc A.w) : uT0 (sh_X9_spillTime (nI t) hi) hi x = some (A.w (244 + t), hi, x) := by
  have h := Cf_spillTime (a := nI t) hO H
  rw [an_f (by have := rcOk hO e; omega)] at h
  exact u0_ (lt2_t e (tk_f ht (by have := rcOk hO e; omega))) h (fun E => ne1_)
theorem Cv_hasRug {t : Nat} (hO : Ok_ K A) (H : RC A hi x) (e : A.ld = true) (ht : t < p_rc A.w) : uT0 (sh_X9_hasRug (nI t) hi) hi x = some (b2 (decide (A.w (164 + t) ≠ 0)), hi, x) := by
  have h := Cf_hasRug (a := nI t) hO H
  rw [an_f (by have := rcOk hO e; omega)] at h
  exact u0b_ (lt2_t e (tk_f ht (by have := rcOk hO e; omega))) h (fun E => ne1_) (fun w q => by
    obtain ⟨a, q⟩ := bT_inl q
    obtain ⟨a, q⟩ := bT_inl q
    exact le_inl q)
theorem Cv_hasBowl {t : Nat} (hO : Ok_ K A) (H : RC A hi x) (e : A.ld = true) (ht : t < p_rc A.w) : uT0 (sh_X9_hasBowl (nI t) hi) hi x = some (b2 (decide (A.w (84 + t) ≠ 0)), hi, x) := by
  have h := Cf_hasBowl (a := nI t) hO H
  rw [an_f (by have := rcOk hO e; omega)] at h
  exact u0b_ (lt2_t e (tk_f ht (by have := rcOk hO e; omega))) h (fun E => ne1_) (fun w q => by
    obtain ⟨a, q⟩ := bT_inl q
    obtain ⟨a, q⟩ := bT_inl q
    exact le_inl q)
theorem Cv_isLit {t : Nat} (hG : 5 ≤ G) (hO : Ok_ K A) (H : RC A hi x) (e : A.ld = true) (ht : t < p_rc A.w) : uT0 (sh_X9_isLit G (nI t) hi) hi x = some (b2 (p_lit A.w t), hi, x) := by
  have h := Cf_isLit (a := nI t) hG hO H
  rw [an_f (by have := rcOk hO e; omega)] at h
  exact u0b_ (lt2_t e (tk_f ht (by have := rcOk hO e; omega))) h (fun E => ne1_) (fun w q => by
    obtain ⟨a, q⟩ := bT_inl q
    obtain ⟨a, q⟩ := bT_inl q
    obtain ⟨a, q⟩ := bd_inl q
    exact gd_inl q)
theorem Cv_isCurtainClosed {t : Nat} (hO : Ok_ K A) (H : RC A hi x) (e : A.ld = true) (ht : t < nn A.w 1) : uT0 (sh_X9_isCurtainClosed (nI t) hi) hi x = some (b2 (decide (A.w (26 + t) ≠ 0)), hi, x) := by
  have h := Cf_isCurtainClosed (a := nI t) hO H
  rw [an_f (by have := clOk hO e; omega)] at h
  exact u0b_ (lt2_t e (tk_f ht (by have := clOk hO e; omega))) h (fun E => ne1_) (fun w q => by
    obtain ⟨a, q⟩ := bT_inl q
    obtain ⟨a, q⟩ := bT_inl q
    exact le_inl q)
theorem reOk (hO : Ok_ K A) (e : A.ld = true) : nn A.w 19 ≤ 10 := (hO.ib e).2.2.2.2.2.2.2.2.2.2.1.2.2
theorem Cv_recordNight {t : Nat} (hO : Ok_ K A) (H : RC A hi x) (e : A.ld = true) (ht : t < nn A.w 19) : uT0 (sh_X9_recordNight (nI t) hi) hi x = some (A.w (404 + 2 * t), hi, x) := by
  have h := Cf_recordNight (a := nI t) hO H
  rw [an_f (by have := reOk hO e; omega)] at h
  exact u0_ (lt2_t e (tk_f ht (by have := reOk hO e; omega))) h (fun E => ne1_)
theorem Cv_recordSteps {t : Nat} (hO : Ok_ K A) (H : RC A hi x) (e : A.ld = true) (ht : t < nn A.w 19) : uT0 (sh_X9_recordSteps (nI t) hi) hi x = some (A.w (405 + 2 * t), hi, x) := by
  have h := Cf_recordSteps (a := nI t) hO H
  rw [an_f (by have := reOk hO e; omega)] at h
  exact u0_ (lt2_t e (tk_f ht (by have := reOk hO e; omega))) h (fun E => ne1_)
theorem Cv_stepsAfter {n : Nat} (hG : 501 < G) (hK : K ≤ 200000) (hO : Ok_ K A) (H : RC A hi x) (e : A.ld = true) (hn : n ≤ 300) : ∃ h1, uT1 (sh_X9_stepsAfter G (nI n) hi) x = some (p_passN n A.w 12, h1, x) ∧ RC A h1 x ∧ fC_ hi h1 := by
  have h := Cf_stepsAfter (a := nI n) hG hK hO H
  rw [an_f (by omega)] at h
  exact u1_ (lt2_t e (tk_f (by omega) (by decide))) h (fun E => ne1_)
theorem Cv_walkerTileAfter {n : Nat} (hG : 501 < G) (hK : K ≤ 200000) (hO : Ok_ K A) (H : RC A hi x) (e : A.ld = true) (hn : n ≤ 300) : ∃ h1, uT1 (sh_X9_walkerTileAfter G (nI n) hi) x = some (p_passN n A.w 8, h1, x) ∧ RC A h1 x ∧ fC_ hi h1 := by
  have h := Cf_walkerTileAfter (a := nI n) hG hK hO H
  rw [an_f (by omega)] at h
  exact u1_ (lt2_t e (tk_f (by omega) (by decide))) h (fun E => ne1_)
theorem Cv_bestPace {n : Nat} (hG : 501 < G) (hK : K ≤ 200000) (hO : Ok_ K A) (H : RC A hi x) (e : A.ld = true) (hn : n ≤ 300) : ∃ h1, uT1 (sh_X9_bestPace G (nI n) hi) x = some (p_bp n A.w 5 1 (-1) (-1), h1, x) ∧ RC A h1 x ∧ fC_ hi h1 := by
  have h := Cf_bestPace (a := nI n) hG hK hO H
  rw [an_f (by omega)] at h
  exact u1_ (lt2_t e (tk_f (by omega) (by decide))) h (fun E => ne1_)
theorem Cv_bestCurtain {n : Nat} (hG : 501 < G) (hK : K ≤ 200000) (hO : Ok_ K A) (H : RC A hi x) (e : A.ld = true) (hn : n ≤ 300) : ∃ h1, uT1 (sh_X9_bestCurtain G (nI n) hi) x = some (p_bc n A.w (nn A.w 1) 0 (-1) (-1), h1, x) ∧ RC A h1 x ∧ fC_ hi h1 := by
  have h := Cf_bestCurtain (a := nI n) hG hK hO H
  rw [an_f (by omega)] at h
  exact u1_ (lt2_t e (tk_f (by omega) (by decide))) h (fun E => ne1_)
theorem Cv_spillTimeAfter {t n : Nat} (hG : 501 < G) (hK : K ≤ 200000) (hO : Ok_ K A) (H : RC A hi x) (e : A.ld = true) (ht : t < p_rc A.w) (hn : n ≤ 300) : ∃ h1, uT1 (sh_X9_spillTimeAfter G (nI t) (nI n) hi) x = some (p_passN n A.w (244 + t), h1, x) ∧ RC A h1 x ∧ fC_ hi h1 := by
  have hr := rcOk hO e
  have h := Cf_spillTimeAfter (a := nI n) (c := nI t) hG hK hO H
  rw [an_f (by omega), an_f (by omega)] at h
  exact u1_ (lt3_t e (tk_f ht (by omega)) (tk_f (by omega) (by decide))) h (fun E => ne2_)
theorem Cv_minutesUntilLit {t : Nat} (hG : 510 < G) (hK : K ≤ 200000) (hO : Ok_ K A) (H : RC A hi x) (e : A.ld = true) (ht : t < p_rc A.w) : ∃ h1, uT1 (sh_X9_minutesUntilLit G (nI t) hi) x = some (p_ul A.w t 500 0 A.w, h1, x) ∧ RC A h1 x ∧ fC_ hi h1 := by
  have hr := rcOk hO e
  have h := Cf_minutesUntilLit (a := nI t) (by omega) hG hK hO H
  rw [an_f (by omega)] at h
  exact u1_ (lt2_t e (tk_f ht (by omega))) h (fun E => ne1_)
theorem Cv_minutesUntilFall (hG : 501 < G) (hK : K ≤ 200000) (hO : Ok_ K A) (H : RC A hi x) (e : A.ld = true) : ∃ h1, uT1 (sh_X9_minutesUntilFall G hi) x = some (p_gn (A.w 15) 15 500 0 A.w, h1, x) ∧ RC A h1 x ∧ fC_ hi h1 := u1_ (lc_t e) (Cf_minutesUntilFall hG hK hO H) (fun E => ne0_)
theorem pc_f {c : Nat} (h1 : 1 ≤ c) (h2 : c ≤ 5) : pc_ (nI c) = true := decide_eq_true ⟨fun q => absurd ((nI_ltI (a := c) (b := 1) (by omega) (by decide)).mp q) (by omega), nI_le (b := 5) h2 (by decide)⟩
theorem Cv_stepsAtPace {c n : Nat} (hG : 501 < G) (hK : K ≤ 200000) (hO : Ok_ K A) (H : RC A hi x) (e : A.ld = true) (h1 : 1 ≤ c) (h2 : c ≤ 5) (hn : n ≤ 300) : ∃ h1, uT1 (sh_X9_stepsAtPace G (nI c) (nI n) hi) x = some (p_passN n (upd A.w 3 (nI c)) 12, h1, x) ∧ RC A h1 x ∧ fC_ hi h1 := by
  have h := Cf_stepsAtPace (a := nI n) (c := nI c) hG hK hO H
  rw [an_f (by omega)] at h
  exact u1_ (lt2_t e (by rw [pc_f h1 h2, show mn_ (nI n) = true from tk_f (by omega) (by decide)]; rfl)) h (fun E => ne1_)
theorem ch_0 {B : As_} {c : Int32} (hc : c = 0) : ch_ c A B = B := if_pos hc
theorem Cv_advance {n : Nat} (hG : 501 < G) (hK : K ≤ 200000) (hO : Ok_ K A) (H : RC A hi x) (e : A.ld = true) (h1 : 1 ≤ n) (hn : n ≤ 300) : ∃ h1, uT1 (sh_X9_advance G (nI n) hi) x = some (p_passN n A.w 12 - A.w 12, h1, x) ∧ RC (B_adv A (nI n)) h1 x ∧ fC_ hi h1 ∧ Ok_ (K + 300) (B_adv A (nI n)) := by
  have ea : ad_ (nI n) = true := decide_eq_true ⟨fun q => absurd ((nI_ltI (a := n) (b := 1) (by omega) (by decide)).mp q) (by omega), nI_le (b := 300) hn (by decide)⟩
  have h := Cf_advance (a := nI n) hG hK hO H
  have hf := Of_adv (a := nI n) hK hO
  rw [ch_0 (lt2_t e ea)] at h hf
  rw [an_f (by omega)] at h
  obtain ⟨h2, e2, r, f⟩ := u1_ (lt2_t e ea) h (fun E => ne1_)
  exact ⟨h2, e2, r, f, hf⟩
theorem Cv_setPace {c : Nat} (hO : Ok_ K A) (H : RC A hi x) (e : A.ld = true) (h1 : 1 ≤ c) (h2 : c ≤ 5) : ∃ h1, uT1 (sh_X9_setPace (nI c) hi) x = some (A.w 3, h1, x) ∧ RC (B_pace A (nI c)) h1 x ∧ fC_ hi h1 ∧ Ok_ K (B_pace A (nI c)) := by
  have h := Cf_setPace (a := nI c) hO H
  have hf := Of_pace (a := nI c) hO
  rw [ch_0 (lt2_t e (pc_f h1 h2))] at h hf
  obtain ⟨h2, e2, r, f⟩ := u1_ (lt2_t e (pc_f h1 h2)) h (fun E => ne1_)
  exact ⟨h2, e2, r, f, hf⟩
theorem Cv_setCurtain {t : Nat} {v : Bool} (hO : Ok_ K A) (H : RC A hi x) (e : A.ld = true) (ht : t < nn A.w 1) : ∃ h1, uT1 (sh_X9_setCurtain (nI t) (b2 v) hi) x = some (b2 (decide (A.w (26 + t) ≠ 0)), h1, x) ∧ RC (B_cur A (nI t) v) h1 x ∧ fC_ hi h1 ∧ Ok_ K (B_cur A (nI t) v) := by
  have hc := clOk hO e
  have et : cC_ A (nI t) = 0 := lt2_t e (tk_f ht (by omega))
  have h := Cf_setCurtain (a := nI t) (v := v) hO H
  have hf := Of_cur (a := nI t) (v := v) hO
  rw [ch_0 et] at h hf
  rw [an_f (by omega)] at h
  have h57 : ∀ {a1 a2 l t0 t1 w : Int32} {hj h : HI}, l = 0 ∨ l = 1 → sh_X9_setCurtain_57 a1 a2 l t0 t1 hj = some (Sum.inl (w, h)) → w = 0 ∨ w = 1 := fun hl q => by
    unfold sh_X9_setCurtain_57 at q
    rw [bs, if_pos hl] at q
    injection q with q
    injection q with q
    injection q with q _
    rw [← q]; exact hl
  have h39 : ∀ {a1 a2 l w : Int32} {hj h : HI}, l = 0 ∨ l = 1 → sh_X9_setCurtain_39 a1 a2 l hj = some (Sum.inl (w, h)) → w = 0 ∨ w = 1 := fun {a1 a2 l w hj h} hl q => by
    unfold sh_X9_setCurtain_39 at q
    by_cases c : a2 = 0
    · rw [if_pos c] at q; exact h57 hl q
    · rw [if_neg c] at q; exact h57 hl q
  obtain ⟨h2, e2, r, f⟩ := u1b_ et h (fun E => ne1_) (fun w h q => by
    obtain ⟨a, q⟩ := bT_inl q
    obtain ⟨a, q⟩ := bT_inl q
    obtain ⟨h4, q⟩ := bd_inl q
    by_cases c : sh_at (wa 0 10) 10 (nI t) h4 ≤ 0
    · rw [if_pos c] at q; exact h39 (Or.inl rfl) q
    · rw [if_neg c] at q; exact h39 (Or.inr rfl) q)
  exact ⟨h2, e2, r, f, hf⟩
theorem Cv_turnWalker (hO : Ok_ K A) (H : RC A hi x) (e : A.ld = true) : ∃ h1, uT1 (sh_X9_turnWalker hi) x = some (b2 (decide (A.w 10 = 0)), h1, x) ∧ RC (B_turn A) h1 x ∧ fC_ hi h1 ∧ Ok_ K (B_turn A) := by
  have h := Cf_turnWalker hO H
  have hf := Of_turn hO
  rw [ch_0 (lc_t e)] at h hf
  have h40 : ∀ {l w : Int32} {hj h : HI}, l = 0 ∨ l = 1 → sh_X9_turnWalker_40 l hj = some (Sum.inl (w, h)) → w = 0 ∨ w = 1 := fun {l w hj h} hl q => by
    unfold sh_X9_turnWalker_40 at q
    rw [if_pos hl] at q
    by_cases c : (am_u hj (wa 0 6) 2 l) (wa 0 6) 2 = 0 ∨ (am_u hj (wa 0 6) 2 l) (wa 0 6) 2 = 1
    · rw [if_pos c] at q
      injection q with q
      injection q with q
      injection q with q _
      rw [← q]; exact c
    · rw [if_neg c] at q; cases q
  obtain ⟨h2, e2, r, f⟩ := u1b_ (lc_t e) h (fun E => ne0_) (fun w h q => by
    obtain ⟨a, q⟩ := bT_inl q
    obtain ⟨h3, q⟩ := bd_inl q
    by_cases c : h3 (wa 0 6) 2 ≠ 0
    · rw [if_pos c] at q; exact h40 (Or.inl rfl) q
    · rw [if_neg c] at q; exact h40 (Or.inr rfl) q)
  exact ⟨h2, e2, r, f, hf⟩
theorem Cv_placeBowl {t : Nat} (hO : Ok_ K A) (H : RC A hi x) (e : A.ld = true) (ht : t < p_rc A.w) (hf : p_free A.w t = true) : ∃ h1, uT1 (sh_X9_placeBowl (nI t) hi) x = some (nI (p_mk (upd A.w (84 + t) 1) 84 (p_rc A.w)), h1, x) ∧ RC (B_bowl A (nI t)) h1 x ∧ fC_ hi h1 ∧ Ok_ K (B_bowl A (nI t)) := by
  have hr := rcOk hO e
  have h := Cf_placeBowl (a := nI t) hO H
  have ho := Of_bowl (a := nI t) hO
  rw [an_f (by omega)] at h ho
  have et := lt3_t e (tk_f ht (by omega)) hf
  rw [ch_0 et] at h ho
  obtain ⟨h2, e2, r, f⟩ := u1_ et h (fun E => ne2_)
  exact ⟨h2, e2, r, f, ho⟩
theorem Cv_mop {t : Nat} (hO : Ok_ K A) (H : RC A hi x) (e : A.ld = true) (ht : t < p_rc A.w) (hf : A.w (244 + t) ≠ 0) : ∃ h1, uT1 (sh_X9_mop (nI t) hi) x = some (A.w (244 + t), h1, x) ∧ RC (B_mop A (nI t)) h1 x ∧ fC_ hi h1 ∧ Ok_ K (B_mop A (nI t)) := by
  have hr := rcOk hO e
  have h := Cf_mop (a := nI t) hO H
  have ho := Of_mop (a := nI t) hO
  rw [an_f (by omega)] at h ho
  have et := lt3_t e (tk_f ht (by omega)) (decide_eq_true hf)
  rw [ch_0 et] at h ho
  obtain ⟨h2, e2, r, f⟩ := u1_ et h (fun E => ne2_)
  exact ⟨h2, e2, r, f, ho⟩
theorem Cv_saveState {s : Nat} (hO : Ok_ K A) (H : RC A hi x) (e : A.ld = true) (hs : s < 2) : ∃ h1, uT1 (sh_X9_saveState (nI s) hi) x = some (A.w 6, h1, x) ∧ RC (B_save A (nI s)) h1 x ∧ fC_ hi h1 ∧ Ok_ K (B_save A (nI s)) := by
  have h := Cf_saveState (a := nI s) hO H
  have hf := Of_save (a := nI s) hO
  rw [ch_0 (lt2_t e (tk_f hs (by decide)))] at h hf
  obtain ⟨h2, e2, r, f⟩ := u1_ (lt2_t e (tk_f hs (by decide))) h (fun E => ne1_)
  exact ⟨h2, e2, r, f, hf⟩
theorem rs_x {a w : Int32} {h : HI} {x1 : AX} (q : sh_X9_restoreState a hi x = some (Sum.inl w, h, x1)) : x1 = x := by
  unfold sh_X9_restoreState at q
  cases e : sh_X9_requireSlot a with
  | none => rw [e] at q; cases q
  | some s =>
    rw [e] at q
    cases s with
    | inr E => cases q
    | inl u =>
      have q : ((sh_X1_fetch 0 a hi).bind fun v2 => if v2.1 ≠ 0 then (sh_X1_forgetChanges v2.2).bind fun h4 => some (Sum.inl (h4 (wa 0 0) 9), h4, x) else some (Sum.inr 0, v2.2, xc x)) = some (Sum.inl w, h, x1) := q
      obtain ⟨v2, q⟩ := bd_inl q
      by_cases c : v2.1 ≠ 0
      · rw [if_pos c] at q
        obtain ⟨h4, q⟩ := bd_inl q
        injection q with q
        injection q with _ q
        injection q with _ q
        exact q.symm
      · rw [if_neg c] at q; cases q
theorem Cv_restoreState {s : Nat} {v : Wd} (hO : Ok_ K A) (H : RC A hi x) (hs : s < 2) (es : A.sv s = some v) : ∃ h1, uT2 (sh_X9_restoreState (nI s) hi x) = some (v 6, h1, x) ∧ RC (B_rest A (nI s)) h1 x ∧ fC_ hi h1 ∧ Ok_ K (B_rest A (nI s)) := by
  have et : rs2_ A (nI s) = 0 := by
    unfold rs2_
    rw [if_pos (tk_f hs (by decide)), an_f (by omega), es]
    rfl
  have h := Cf_restoreState (a := nI s) hO H
  have hf := Of_rest (a := nI s) hO
  rw [ch_0 et] at h hf
  have ev : V_rest A (nI s) = v 6 := by
    unfold V_rest
    rw [an_f (by omega), es]
  rw [et, ev] at h
  obtain ⟨h1, x1, e, e1, r, f, -⟩ := h
  unfold sh_L_restoreState at e
  cases eS : sh_X9_restoreState (nI s) hi x with
  | none => rw [eS] at e; cases e
  | some p =>
    obtain ⟨p, h2, x2⟩ := p
    rw [eS] at e
    cases p with
    | inl w =>
      have e : some ((0 : Int32), h2, xl x2 w.toInt64) = some (0, h1, x1) := e
      injection e with e
      injection e with _ e
      injection e with eh e
      have e2 := e1 rfl
      rw [← e] at e2
      have e3 : w = v 6 := i64_inj e2
      have ex := rs_x eS
      subst ex
      subst e3
      rw [← eh] at r f
      exact ⟨h2, rfl, r.cx (by rw [← e]; rfl), f, hf⟩
    | inr E =>
      have e : (if E = 1 then some ((1 : Int32), h2, x2) else if E = 0 then some ((2 : Int32), h2, x2) else none) = some (0, h1, x1) := e
      exact absurd (by rw [e]; rfl) (ne1_ (E := E) (a := 1) (b := 0) (h := h2) (x := x2))

end IV
