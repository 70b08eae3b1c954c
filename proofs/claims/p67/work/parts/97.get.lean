/-! getters: both sides -/
def lc_ (A : As_) : Int32 := if A.ld = true then 0 else 1
theorem lc_0 {A : As_} (h : lc_ A = 0) : A.ld = true := by
  unfold lc_ at h
  cases e : A.ld with
  | true => rfl
  | false => rw [e] at h; exact absurd h (by decide)
theorem lc_t {A : As_} (h : A.ld = true) : lc_ A = 0 := if_pos h
theorem lc_f {A : As_} (h : A.ld = false) : lc_ A = 1 := if_neg (by rw [h]; decide)
section GET
variable {A A1 : As_} {hi : HI} {x : AX} {K G : Nat}
theorem Ck_.to {S : Option (Int32 × HI × AX)} {c u v : Int32} (a : Ck_ A1 S hi x c u) (e : c = 0 → u = v) : Ck_ A1 S hi x c v := by
  obtain ⟨h1, x1, e1, e2, r⟩ := a
  exact ⟨h1, x1, e1, fun q => by rw [e2 q, e q], r⟩
theorem CGc {v : Int32} {T : Option Int32} {S : Option (Int32 ⊕ Nat)} (H : RC A hi x) (hS : S = bT (sh_X9_requireSetup hi) fun _ => T.bind fun v2 => some (Sum.inl v2)) (hT : A.ld = true → T = some v) : Ck_ A (bW S (fun v2 => some ((0 : Int32), hi, xl x v2.toInt64)) (fun E => if E = 0 then some ((1 : Int32), hi, xc x) else none)) hi x (lc_ A) v := by
  rw [hS, rq_ H]
  cases e : A.ld with
  | true =>
    rw [lc_t e, hT e]
    exact Ck_.ok H
  | false =>
    rw [lc_f e]
    exact Ck_.no (by decide) H
theorem CGcb {v : Bool} {T : Option Int32} {S : Option (Int32 ⊕ Nat)} (H : RC A hi x) (hS : S = bT (sh_X9_requireSetup hi) fun _ => T.bind fun v2 => if v2 = 0 ∨ v2 = 1 then some (Sum.inl v2) else none) (hT : A.ld = true → T = some (b2 v)) : Ck_ A (bW S (fun v2 => if v2 = 0 then some ((0 : Int32), hi, xl x (Int64.ofNat 0)) else some ((0 : Int32), hi, xl x (Int64.ofNat 1))) (fun E => if E = 0 then some ((1 : Int32), hi, xc x) else none)) hi x (lc_ A) (b2 v) := by
  rw [hS, rq_ H]
  cases e : A.ld with
  | true =>
    rw [lc_t e, hT e]
    cases v with
    | true => exact ⟨hi, _, rfl, fun _ => rfl, H.cx rfl, fC_.refl hi, XB.l⟩
    | false => exact ⟨hi, _, rfl, fun _ => rfl, H.cx rfl, fC_.refl hi, XB.l⟩
  | false =>
    rw [lc_f e]
    exact Ck_.no (by decide) H
theorem Ok_.ib (h : Ok_ K A) (e : A.ld = true) : ib_ K (5 * K) 0 A.w := h.2.2.1 e
theorem RC.vw (H : RC A hi x) (e : A.ld = true) : vw_ 0 hi = A.w := H.1.2.2.2.2.2 e
theorem Cf_night (H : RC A hi x) : Ck_ A (sh_L_night hi x) hi x (lc_ A) (A.w 6) := Ck_.to (CG H rfl) (fun q => by rw [vr_6 0 hi, H.vw (lc_0 q)])
theorem Cf_minute (H : RC A hi x) : Ck_ A (sh_L_minute hi x) hi x (lc_ A) (A.w 7) := Ck_.to (CG H rfl) (fun q => by rw [vr_7 0 hi, H.vw (lc_0 q)])
theorem Cf_pace (H : RC A hi x) : Ck_ A (sh_L_pace hi x) hi x (lc_ A) (A.w 3) := Ck_.to (CG H rfl) (fun q => by rw [vr_3 0 hi, H.vw (lc_0 q)])
theorem Cf_walkerTile (H : RC A hi x) : Ck_ A (sh_L_walkerTile hi x) hi x (lc_ A) (A.w 8) := Ck_.to (CG H rfl) (fun q => by rw [vr_8 0 hi, H.vw (lc_0 q)])
theorem Cf_restRemaining (H : RC A hi x) : Ck_ A (sh_L_restRemaining hi x) hi x (lc_ A) (A.w 11) := Ck_.to (CG H rfl) (fun q => by rw [vr_11 0 hi, H.vw (lc_0 q)])
theorem Cf_stepsSincePause (H : RC A hi x) : Ck_ A (sh_L_stepsSincePause hi x) hi x (lc_ A) (A.w 22) := Ck_.to (CG H rfl) (fun q => by rw [vr_22 0 hi, H.vw (lc_0 q)])
theorem Cf_totalSteps (H : RC A hi x) : Ck_ A (sh_L_totalSteps hi x) hi x (lc_ A) (A.w 12) := Ck_.to (CG H rfl) (fun q => by rw [vr_12 0 hi, H.vw (lc_0 q)])
theorem Cf_stepsTonight (H : RC A hi x) : Ck_ A (sh_L_stepsTonight hi x) hi x (lc_ A) (A.w 13) := Ck_.to (CG H rfl) (fun q => by rw [vr_13 0 hi, H.vw (lc_0 q)])
theorem Cf_turnCount (H : RC A hi x) : Ck_ A (sh_L_turnCount hi x) hi x (lc_ A) (A.w 14) := Ck_.to (CG H rfl) (fun q => by rw [vr_14 0 hi, H.vw (lc_0 q)])
theorem Cf_fallCount (H : RC A hi x) : Ck_ A (sh_L_fallCount hi x) hi x (lc_ A) (A.w 15) := Ck_.to (CG H rfl) (fun q => by rw [vr_15 0 hi, H.vw (lc_0 q)])
theorem Cf_catTile (H : RC A hi x) : Ck_ A (sh_L_catTile hi x) hi x (lc_ A) (A.w 16) := Ck_.to (CG H rfl) (fun q => by rw [vr_16 0 hi, H.vw (lc_0 q)])
theorem Cf_slideCount (H : RC A hi x) : Ck_ A (sh_L_slideCount hi x) hi x (lc_ A) (A.w 23) := Ck_.to (CG H rfl) (fun q => by rw [vr_23 0 hi, H.vw (lc_0 q)])
theorem Cf_recordCount (H : RC A hi x) : Ck_ A (sh_L_recordCount hi x) hi x (lc_ A) (A.w 19) := Ck_.to (CG H rfl) (fun q => by rw [vr_19 0 hi, H.vw (lc_0 q)])
theorem i7b {w : Wd} {B : Nat} (h : ib_ K B 0 w) : w 7 = nI (nn w 7) ∧ nn w 7 < 2 ^ 31 := by
  have hr := h.1.r
  have hl := h.1.l
  have hb9 : nn w 0 * nn w 2 ≤ 8 * 20 := Nat.mul_le_mul hr.2.2 hl.2.2
  have h7 := h.2.2.2.2.2.1
  exact ⟨h7.1, by have := h7.2; omega⟩
theorem Cf_moonRow (hO : Ok_ K A) (H : RC A hi x) : Ck_ A (sh_L_moonRow hi x) hi x (lc_ A) (nI (p_row A.w)) := CGc H rfl (fun e => by
  have hI := hO.ib e
  rw [← H.vw e] at hI ⊢
  exact C_row hI.1 (i7b hI).1 (i7b hI).2)
theorem Cf_moonShines (hG : 5 ≤ G) (hO : Ok_ K A) (H : RC A hi x) : Ck_ A (sh_L_moonShines G hi x) hi x (lc_ A) (b2 (p_out A.w)) := CGcb H rfl (fun e => by
  have hI := hO.ib e
  rw [← H.vw e] at hI ⊢
  exact C_out hI.1.2.2.2.2.2.2.2.2.1 hG)
theorem Cf_facesRight (hO : Ok_ K A) (H : RC A hi x) : Ck_ A (sh_L_facesRight hi x) hi x (lc_ A) (A.w 10) := by
  have g : Ck_ A (sh_L_facesRight hi x) hi x (lc_ A) (b2 (decide (A.w 10 ≠ 0))) := CGcb (T := some (hi (wa 0 6) 2)) H rfl (fun e => by
    have h10 := in01 ((hO.ib e).2.2.1.1.2.2.2.1)
    rw [vr_10 0 hi, H.vw e]
    rcases h10 with q | q <;> rw [q] <;> rfl)
  refine g.to (fun q => ?_)
  rcases in01 ((hO.ib (lc_0 q)).2.2.1.1.2.2.2.1) with q | q <;> rw [q] <;> rfl
theorem full_e {a : Int32} : (15 : Int32) - a + 30 = 45 - a := by
  rw [Int32.sub_eq_add_neg, Int32.sub_eq_add_neg, Int32.add_assoc, Int32.add_comm (-a), ← Int32.add_assoc]
  rfl
def p_full (w : Wd) : Int32 := (45 - (w 6 - w 6 / 30 * 30)) - (45 - (w 6 - w 6 / 30 * 30)) / 30 * 30
/-! numbers that are there without a set-up -/
theorem Cf_undoCount (H : RC A hi x) : sh_X9_undoCount hi = nI A.ps.length := by
  obtain ⟨p, -, -, e, -⟩ := H.2.1
  exact e
end GET
