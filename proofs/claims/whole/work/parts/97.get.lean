/-! getters: both sides -/
def lc_ (A : As_) : Int32 := if A.ld = true then 0 else 1
theorem lc_0 {A : As_} (h : lc_ A = 0) : A.ld = true := by
  unfold lc_ at h
  cases e : A.ld with
  | true => rfl
  | false => rw [e] at h; exact absurd h (by decide)
theorem lc_t {A : As_} (h : A.ld = true) : lc_ A = 0 := if_pos h
theorem lc_f {A : As_} (h : A.ld = false) : lc_ A = 1 := if_neg (by rw [h]; decide)
section GET
variable {A A1 : As_} {hi : HI} {x : AX} {K G : Nat}
theorem Ck_.to {S : Option (Int32 × HI × AX)} {c u v : Int32} (a : Ck_ A1 S hi x c u) (e : c = 0 → u = v) : Ck_ A1 S hi x c v := by
  obtain ⟨h1, x1, e1, e2, r⟩ := a
  exact ⟨h1, x1, e1, fun q => by rw [e2 q, e q], r⟩
theorem Mk_.to {S : Option (Int32 × HI)} {c u v : Int32} (a : Mk_ A1 S hi c u) (e : c = 0 → u = v) : Mk_ A1 S hi c v := by
  obtain ⟨u1, h1, e1, e2, e3, r⟩ := a
  exact ⟨u1, h1, e1, e2, fun q => (e3 q).trans (e q), r⟩
theorem CGc {v : Int32} {T : Option Int32} {S : Option (Int32 ⊕ Nat)} (H : RC A hi x) (hS : S = bT (sh_X9_requireSetup hi) fun _ => T.bind fun v2 => some (Sum.inl v2)) (hT : A.ld = true → T = some v) : Ck_ A (bW S (fun v2 => some ((0 : Int32), hi, xl x v2.toInt64)) (fun E => if E = 0 then some ((1 : Int32), hi, xc x) else none)) hi x (lc_ A) v := by
  rw [hS, rq_ H]
  cases e : A.ld with
  | true =>
    rw [lc_t e, hT e]
    exact Ck_.ok H
  | false =>
    rw [lc_f e]
    exact Ck_.no (by decide) H
theorem CGcb {v : Bool} {T : Option Int32} {S : Option (Int32 ⊕ Nat)} (H : RC A hi x) (hS : S = bT (sh_X9_requireSetup hi) fun _ => T.bind fun v2 => if v2 = 0 ∨ v2 = 1 then some (Sum.inl v2) else none) (hT : A.ld = true → T = some (b2 v)) : Ck_ A (bW S (fun v2 => if v2 = 0 then some ((0 : Int32), hi, xl x (Int64.ofNat 0)) else some ((0 : Int32), hi, xl x (Int64.ofNat 1))) (fun E => if E = 0 then some ((1 : Int32), hi, xc x) else none)) hi x (lc_ A) (b2 v) := by
  rw [hS, rq_ H]
  cases e : A.ld with
  | true =>
    rw [lc_t e, hT e]
    cases v with
    | true => exact ⟨hi, _, rfl, fun _ => rfl, H.cx rfl, fC_.refl hi, XB.l⟩
    | false => exact ⟨hi, _, rfl, fun _ => rfl, H.cx rfl, fC_.refl hi, XB.l⟩
  | false =>
    rw [lc_f e]
    exact Ck_.no (by decide) H
theorem Ok_.ib (h : Ok_ K A) (e : A.ld = true) : ib_ K (5 * K) 0 A.w := h.2.2.1 e
theorem RC.vw (H : RC A hi x) (e : A.ld = true) : vw_ 0 hi = A.w := H.1.2.2.2.2.2 e
theorem RM.mw (H : RM A hi) (e : A.ld = true) : mw_ hi = A.w := H.1.2.2.2.2.2 e
theorem Cf_rows (H : RC A hi x) : Ck_ A (sh_L_rows hi x) hi x (lc_ A) (A.w 0) := Ck_.to (CG H rfl) (fun q => by rw [vr_0 0 hi, H.vw (lc_0 q)])
theorem Mf_rows (H : RM A hi) : Mk_ A (sh_X10_rows hi) hi (lc_ A) (A.w 0) := MGl (k := 0) (by omega) H rfl (fun _ => rfl)
theorem Cf_columns (H : RC A hi x) : Ck_ A (sh_L_columns hi x) hi x (lc_ A) (A.w 1) := Ck_.to (CG H rfl) (fun q => by rw [vr_1 0 hi, H.vw (lc_0 q)])
theorem Mf_columns (H : RM A hi) : Mk_ A (sh_X10_columns hi) hi (lc_ A) (A.w 1) := MGl (k := 1) (by omega) H rfl (fun _ => rfl)
theorem Cf_minutesPerRow (H : RC A hi x) : Ck_ A (sh_L_minutesPerRow hi x) hi x (lc_ A) (A.w 2) := Ck_.to (CG H rfl) (fun q => by rw [vr_2 0 hi, H.vw (lc_0 q)])
theorem Mf_minutesPerRow (H : RM A hi) : Mk_ A (sh_X10_minutesPerRow hi) hi (lc_ A) (A.w 2) := MGl (k := 2) (by omega) H rfl (fun _ => rfl)
theorem Cf_night (H : RC A hi x) : Ck_ A (sh_L_night hi x) hi x (lc_ A) (A.w 6) := Ck_.to (CG H rfl) (fun q => by rw [vr_6 0 hi, H.vw (lc_0 q)])
theorem Mf_night (H : RM A hi) : Mk_ A (sh_X10_night hi) hi (lc_ A) (A.w 6) := MGl (k := 6) (by omega) H rfl (fun _ => rfl)
theorem Cf_minute (H : RC A hi x) : Ck_ A (sh_L_minute hi x) hi x (lc_ A) (A.w 7) := Ck_.to (CG H rfl) (fun q => by rw [vr_7 0 hi, H.vw (lc_0 q)])
theorem Mf_minute (H : RM A hi) : Mk_ A (sh_X10_minute hi) hi (lc_ A) (A.w 7) := MGl (k := 7) (by omega) H rfl (fun _ => rfl)
theorem Cf_pace (H : RC A hi x) : Ck_ A (sh_L_pace hi x) hi x (lc_ A) (A.w 3) := Ck_.to (CG H rfl) (fun q => by rw [vr_3 0 hi, H.vw (lc_0 q)])
theorem Mf_pace (H : RM A hi) : Mk_ A (sh_X10_pace hi) hi (lc_ A) (A.w 3) := MGl (k := 3) (by omega) H rfl (fun _ => rfl)
theorem Cf_walkerTile (H : RC A hi x) : Ck_ A (sh_L_walkerTile hi x) hi x (lc_ A) (A.w 8) := Ck_.to (CG H rfl) (fun q => by rw [vr_8 0 hi, H.vw (lc_0 q)])
theorem Mf_walkerTile (H : RM A hi) : Mk_ A (sh_X10_walkerTile hi) hi (lc_ A) (A.w 8) := MGl (k := 8) (by omega) H rfl (fun _ => rfl)
theorem Cf_restRemaining (H : RC A hi x) : Ck_ A (sh_L_restRemaining hi x) hi x (lc_ A) (A.w 11) := Ck_.to (CG H rfl) (fun q => by rw [vr_11 0 hi, H.vw (lc_0 q)])
theorem Mf_restRemaining (H : RM A hi) : Mk_ A (sh_X10_restRemaining hi) hi (lc_ A) (A.w 11) := MGl (k := 11) (by omega) H rfl (fun _ => rfl)
theorem Cf_stepsSincePause (H : RC A hi x) : Ck_ A (sh_L_stepsSincePause hi x) hi x (lc_ A) (A.w 22) := Ck_.to (CG H rfl) (fun q => by rw [vr_22 0 hi, H.vw (lc_0 q)])
theorem Mf_stepsSincePause (H : RM A hi) : Mk_ A (sh_X10_stepsSincePause hi) hi (lc_ A) (A.w 22) := MGl (k := 22) (by omega) H rfl (fun _ => rfl)
theorem Cf_totalSteps (H : RC A hi x) : Ck_ A (sh_L_totalSteps hi x) hi x (lc_ A) (A.w 12) := Ck_.to (CG H rfl) (fun q => by rw [vr_12 0 hi, H.vw (lc_0 q)])
theorem Mf_totalSteps (H : RM A hi) : Mk_ A (sh_X10_totalSteps hi) hi (lc_ A) (A.w 12) := MGl (k := 12) (by omega) H rfl (fun _ => rfl)
theorem Cf_stepsTonight (H : RC A hi x) : Ck_ A (sh_L_stepsTonight hi x) hi x (lc_ A) (A.w 13) := Ck_.to (CG H rfl) (fun q => by rw [vr_13 0 hi, H.vw (lc_0 q)])
theorem Mf_stepsTonight (H : RM A hi) : Mk_ A (sh_X10_stepsTonight hi) hi (lc_ A) (A.w 13) := MGl (k := 13) (by omega) H rfl (fun _ => rfl)
theorem Cf_turnCount (H : RC A hi x) : Ck_ A (sh_L_turnCount hi x) hi x (lc_ A) (A.w 14) := Ck_.to (CG H rfl) (fun q => by rw [vr_14 0 hi, H.vw (lc_0 q)])
theorem Mf_turnCount (H : RM A hi) : Mk_ A (sh_X10_turnCount hi) hi (lc_ A) (A.w 14) := MGl (k := 14) (by omega) H rfl (fun _ => rfl)
theorem Cf_fallCount (H : RC A hi x) : Ck_ A (sh_L_fallCount hi x) hi x (lc_ A) (A.w 15) := Ck_.to (CG H rfl) (fun q => by rw [vr_15 0 hi, H.vw (lc_0 q)])
theorem Mf_fallCount (H : RM A hi) : Mk_ A (sh_X10_fallCount hi) hi (lc_ A) (A.w 15) := MGl (k := 15) (by omega) H rfl (fun _ => rfl)
theorem Cf_catTile (H : RC A hi x) : Ck_ A (sh_L_catTile hi x) hi x (lc_ A) (A.w 16) := Ck_.to (CG H rfl) (fun q => by rw [vr_16 0 hi, H.vw (lc_0 q)])
theorem Mf_catTile (H : RM A hi) : Mk_ A (sh_X10_catTile hi) hi (lc_ A) (A.w 16) := MGl (k := 16) (by omega) H rfl (fun _ => rfl)
theorem Cf_slideCount (H : RC A hi x) : Ck_ A (sh_L_slideCount hi x) hi x (lc_ A) (A.w 23) := Ck_.to (CG H rfl) (fun q => by rw [vr_23 0 hi, H.vw (lc_0 q)])
theorem Mf_slideCount (H : RM A hi) : Mk_ A (sh_X10_slideCount hi) hi (lc_ A) (A.w 23) := MGl (k := 23) (by omega) H rfl (fun _ => rfl)
theorem Cf_recordCount (H : RC A hi x) : Ck_ A (sh_L_recordCount hi x) hi x (lc_ A) (A.w 19) := Ck_.to (CG H rfl) (fun q => by rw [vr_19 0 hi, H.vw (lc_0 q)])
theorem Mf_recordCount (H : RM A hi) : Mk_ A (sh_X10_recordCount hi) hi (lc_ A) (A.w 19) := MGl (k := 19) (by omega) H rfl (fun _ => rfl)
theorem Cf_brightness (H : RC A hi x) : Ck_ A (sh_L_brightness hi x) hi x (lc_ A) (p_shine A.w) := CGc H rfl (fun e => by rw [C_shine, H.vw e])
theorem Mf_brightness (H : RM A hi) : Mk_ A (sh_X10_brightness hi) hi (lc_ A) (p_shine A.w) := MG (T := sh_X10_shine) H rfl (fun _ h1 e => by rw [M_shine, e])
theorem i7b {w : Wd} {B : Nat} (h : ib_ K B 0 w) : w 7 = nI (nn w 7) ∧ nn w 7 < 2 ^ 31 := by
  have hr := h.1.r
  have hl := h.1.l
  have hb9 : nn w 0 * nn w 2 ≤ 8 * 20 := Nat.mul_le_mul hr.2.2 hl.2.2
  have h7 := h.2.2.2.2.2.1
  exact ⟨h7.1, by have := h7.2; omega⟩
theorem Cf_moonRow (hO : Ok_ K A) (H : RC A hi x) : Ck_ A (sh_L_moonRow hi x) hi x (lc_ A) (nI (p_row A.w)) := CGc H rfl (fun e => by
  have hI := hO.ib e
  rw [← H.vw e] at hI ⊢
  exact C_row hI.1 (i7b hI).1 (i7b hI).2)
theorem Mf_moonRow (hO : Ok_ K A) (H : RM A hi) : Mk_ A (sh_X10_moonRow hi) hi (lc_ A) (nI (p_row A.w)) := MG (T := sh_X10_litRow) H rfl (fun e h1 em => by
  have hI := hO.ib e
  rw [← em] at hI ⊢
  exact M_row hI.1 (i7b hI).1 (i7b hI).2)
theorem Cf_moonShines (hG : 5 ≤ G) (hO : Ok_ K A) (H : RC A hi x) : Ck_ A (sh_L_moonShines G hi x) hi x (lc_ A) (b2 (p_out A.w)) := CGcb H rfl (fun e => by
  have hI := hO.ib e
  rw [← H.vw e] at hI ⊢
  exact C_out hI.1.2.2.2.2.2.2.2.2.1 hG)
theorem Mf_moonShines (hG : 5 ≤ G) (hO : Ok_ K A) (H : RM A hi) : Mk_ A (sh_X10_moonShines G hi) hi (lc_ A) (b2 (p_out A.w)) := by
  refine MG (T := fun h => (sh_X10_doesShine G h).bind fun v2 => if v2 = 0 then some 0 else some 1) H ?_ (fun e h1 em => ?_)
  · unfold sh_X10_moonShines
    congr 1
    funext v1
    by_cases c : v1.1 = 0
    · rw [if_pos c, if_pos c]
    · rw [if_neg c, if_neg c]
      cases sh_X10_doesShine G v1.2 with
      | none => rfl
      | some v2 =>
        show (if v2 = 0 then _ else _) = ((if v2 = 0 then some (0 : Int32) else some 1).bind fun v2 => some (v2, v1.2))
        split <;> rfl
  · have hI := hO.ib e
    rw [← em] at hI ⊢
    show (sh_X10_doesShine G h1).bind _ = _
    rw [M_out hI.1.2.2.2.2.2.2.2.2.1 hG, bs]
    cases p_out (mw_ h1) <;> rfl
theorem Cf_stepsPerMinute (hG : 5 ≤ G) (hO : Ok_ K A) (H : RC A hi x) : Ck_ A (sh_L_stepsPerMinute G hi x) hi x (lc_ A) (p_tries A.w) := CGc H rfl (fun e => by
  have hI := hO.ib e
  rw [← H.vw e] at hI ⊢
  exact C_tries hI.1.2.2.2.2.2.2.2.2.1 hG)
theorem Mf_stepsPerMinute (hG : 5 ≤ G) (hO : Ok_ K A) (H : RM A hi) : Mk_ A (sh_X10_stepsPerMinute G hi) hi (lc_ A) (p_tries A.w) := MG (T := sh_X10_triesPerMinute G) H rfl (fun e h1 em => by
  have hI := hO.ib e
  rw [← em] at hI ⊢
  exact M_tries hI.1.2.2.2.2.2.2.2.2.1 hG)
theorem Cf_blockReason (hG : 5 ≤ G) (hO : Ok_ K A) (H : RC A hi x) : Ck_ A (sh_L_blockReason G hi x) hi x (lc_ A) (nI (p_why A.w)) := CGc H rfl (fun e => by
  have hI := hO.ib e
  rw [← H.vw e] at hI ⊢
  exact C_why hG hI)
theorem Mf_blockReason (hG : 5 ≤ G) (hO : Ok_ K A) (H : RM A hi) : Mk_ A (sh_X10_blockReason G hi) hi (lc_ A) (nI (p_why A.w)) := MG (T := sh_X10_whyBlocked G) H rfl (fun e h1 em => by
  have hI := hO.ib e
  rw [← em] at hI ⊢
  exact M_why hG hI)
theorem Cf_facesRight (hO : Ok_ K A) (H : RC A hi x) : Ck_ A (sh_L_facesRight hi x) hi x (lc_ A) (A.w 10) := by
  have g : Ck_ A (sh_L_facesRight hi x) hi x (lc_ A) (b2 (decide (A.w 10 ≠ 0))) := CGcb (T := some (hi (wa 0 6) 2)) H rfl (fun e => by
    have h10 := in01 ((hO.ib e).2.2.1.1.2.2.2.1)
    rw [vr_10 0 hi, H.vw e]
    rcases h10 with q | q <;> rw [q] <;> rfl)
  refine g.to (fun q => ?_)
  rcases in01 ((hO.ib (lc_0 q)).2.2.1.1.2.2.2.1) with q | q <;> rw [q] <;> rfl
theorem Mf_facesRight (hO : Ok_ K A) (H : RM A hi) : Mk_ A (sh_X10_facesRight hi) hi (lc_ A) (A.w 10) := by
  unfold sh_X10_facesRight sh_X10_look
  rw [M_mayLook H, bs]
  cases e : A.ld with
  | true =>
    rw [lc_t e]
    show Mk_ A ((if 0 ≤ (10 : Int32) ∧ (10 : Int32).toNatClampNeg < 424 then some (am_u hi (za 195) 0 0 (za 196) (10 : Int32).toNatClampNeg, am_u hi (za 195) 0 0) else none).bind fun v1 => if v1.1 ≠ (1 : Int32) then some ((0 : Int32), v1.2) else some ((1 : Int32), v1.2)) hi 0 (A.w 10)
    rw [if_pos (by decide), bs, show (10 : Int32).toNatClampNeg = 10 from rfl, M_r (am_u hi (za 195) 0 0) (k := 10) (by omega), mw_u0, H.mw e]
    rcases in01 ((hO.ib e).2.2.1.1.2.2.2.1) with q | q <;> rw [q] <;> exact Mk_.ok H
  | false =>
    rw [lc_f e]
    exact Mk_.no (by decide) H
theorem full_e {a : Int32} : (15 : Int32) - a + 30 = 45 - a := by
  rw [Int32.sub_eq_add_neg, Int32.sub_eq_add_neg, Int32.add_assoc, Int32.add_comm (-a), ← Int32.add_assoc]
  rfl
def p_full (w : Wd) : Int32 := (45 - (w 6 - w 6 / 30 * 30)) - (45 - (w 6 - w 6 / 30 * 30)) / 30 * 30
theorem Cf_nightsUntilFullMoon (H : RC A hi x) : Ck_ A (sh_L_nightsUntilFullMoon hi x) hi x (lc_ A) (p_full A.w) := Ck_.to (CG H rfl) (fun q => by
  rw [vr_6 0 hi, H.vw (lc_0 q), full_e]
  rfl)
theorem Mf_nightsUntilFullMoon (H : RM A hi) : Mk_ A (sh_X10_nightsUntilFullMoon hi) hi (lc_ A) (p_full A.w) := by
  refine MG (T := fun h => some (p_full (mw_ h))) H ?_ (fun _ h1 em => by rw [← em])
  unfold sh_X10_nightsUntilFullMoon p_full
  congr 1
/-! numbers that are there without a set-up -/
theorem Mf_parseErrorCode (H : RM A hi) : Mk_ A (sh_X10_parseErrorCode hi) hi 0 A.ec := by
  unfold sh_X10_parseErrorCode
  rw [H.1.2.2.1]
  exact Mk_.ok H
theorem Mf_parseErrorPosition (H : RM A hi) : Mk_ A (sh_X10_parseErrorPosition hi) hi 0 A.ep := by
  unfold sh_X10_parseErrorPosition
  rw [H.1.2.2.2.1]
  exact Mk_.ok H
theorem Mf_bufferLength (H : RM A hi) : Mk_ A (sh_X10_bufferLength hi) hi 0 (nI A.nb) := by
  unfold sh_X10_bufferLength
  rw [H.1.1]
  exact Mk_.ok H
theorem Mf_undoCount (H : RM A hi) : Mk_ A (sh_X10_undoCount hi) hi 0 (nI A.ps.length) := by
  unfold sh_X10_undoCount
  rw [H.2.1.1]
  exact Mk_.ok H
theorem Cf_parseErrorCode (H : RC A hi x) : sh_X9_parseErrorCode hi = A.ec := H.1.2.2.1
theorem Cf_parseErrorPosition (H : RC A hi x) : sh_X9_parseErrorPosition hi = A.ep := H.1.2.2.2.1
theorem Cf_bufferLength (H : RC A hi x) : sh_X9_bufferLength hi = nI A.nb := H.1.1
theorem Cf_undoCount (H : RC A hi x) : sh_X9_undoCount hi = nI A.ps.length := by
  obtain ⟨p, -, -, e, -⟩ := H.2.1
  exact e
end GET
