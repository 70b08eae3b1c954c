/-! the law's loop: every call answers alike -/
section LIN
variable {A A' : As_} {hi h h1 : HI} {x x1 : AX} {K G : Nat} {l5 : Int32} {rec : Int32 → HI → AX → Option (Int32 × HI × AX)}
theorem lb_ite {c : Prop} [Decidable c] {S1 S2 : Option (Int32 × HI × AX)} (h1 : c → LB_ K S1 rec l5 hi x) (h2 : ¬ c → LB_ K S2 rec l5 hi x) : LB_ K (if c then S1 else S2) rec l5 hi x := by
  by_cases q : c
  · rw [if_pos q]; exact h1 q
  · rw [if_neg q]; exact h2 q
theorem lb_dflt (h : St_ G K A l5 hi x) : LB_ K (sh_L_law_3524 G rec l5 hi x) rec l5 hi x := by
  obtain ⟨hG, hK1, hK, hO, HC, HM, hw⟩ := h
  exact LB_.of (hO.mono (by omega)) ⟨hi, x, rfl, HC, HM, fun _ => rfl, XB.refl x⟩
set_option maxRecDepth 20000 in
theorem lb_all (h : St_ G K A l5 hi x) (h0 : ¬ nI x.2.2.2.2.2.2 - (6 : Int32) < l5) : LB_ K (sh_L_law_28_b G rec l5 hi x) rec l5 hi x := by
  have w0 : 0 ≤ l5 ∧ l5.toNatClampNeg < x.2.2.2.2.2.2 := by
    have q := h.2.2.2.2.2.2 0 (by decide)
    rw [show l5 + nI 0 = l5 from Int32.add_zero l5] at q
    exact q
  unfold sh_L_law_28_b
  rw [if_neg h0, if_pos w0]
  generalize hi (za 3004) l5.toNatClampNeg &&& (63 : Int32) = y
  exact lb_ite (fun _ => lb_append h) (fun _ => lb_ite (fun _ => lb_parseSetup h) (fun _ => lb_ite (fun _ => lb_parseErrorCode h) (fun _ => lb_ite (fun _ => lb_parseErrorPosition h) (fun _ => lb_ite (fun _ => lb_bufferLength h) (fun _ => lb_ite (fun _ => lb_rows h) (fun _ => lb_ite (fun _ => lb_columns h) (fun _ => lb_ite (fun _ => lb_minutesPerRow h) (fun _ => lb_ite (fun _ => lb_night h) (fun _ => lb_ite (fun _ => lb_minute h) (fun _ => lb_ite (fun _ => lb_brightness h) (fun _ => lb_ite (fun _ => lb_moonRow h) (fun _ => lb_ite (fun _ => lb_moonShines h) (fun _ => lb_ite (fun _ => lb_isLit h) (fun _ => lb_ite (fun _ => lb_isCurtainClosed h) (fun _ => lb_ite (fun _ => lb_draughtPeriod h) (fun _ => lb_ite (fun _ => lb_minutesUntilLit h) (fun _ => lb_ite (fun _ => lb_nightsUntilFullMoon h) (fun _ => lb_ite (fun _ => lb_pace h) (fun _ => lb_ite (fun _ => lb_stepsPerMinute h) (fun _ => lb_ite (fun _ => lb_walkerTile h) (fun _ => lb_ite (fun _ => lb_facesRight h) (fun _ => lb_ite (fun _ => lb_restRemaining h) (fun _ => lb_ite (fun _ => lb_stepsSincePause h) (fun _ => lb_ite (fun _ => lb_totalSteps h) (fun _ => lb_ite (fun _ => lb_stepsTonight h) (fun _ => lb_ite (fun _ => lb_turnCount h) (fun _ => lb_ite (fun _ => lb_fallCount h) (fun _ => lb_ite (fun _ => lb_blockReason h) (fun _ => lb_ite (fun _ => lb_wear h) (fun _ => lb_ite (fun _ => lb_catTile h) (fun _ => lb_ite (fun _ => lb_hasRug h) (fun _ => lb_ite (fun _ => lb_slideCount h) (fun _ => lb_ite (fun _ => lb_hasBowl h) (fun _ => lb_ite (fun _ => lb_spillTime h) (fun _ => lb_ite (fun _ => lb_spillCount h) (fun _ => lb_ite (fun _ => lb_recordCount h) (fun _ => lb_ite (fun _ => lb_recordNight h) (fun _ => lb_ite (fun _ => lb_recordSteps h) (fun _ => lb_ite (fun _ => lb_rankOf h) (fun _ => lb_ite (fun _ => lb_imbalance h) (fun _ => lb_ite (fun _ => lb_averageWear h) (fun _ => lb_ite (fun _ => lb_litShare h) (fun _ => lb_ite (fun _ => lb_stepsAfter h) (fun _ => lb_ite (fun _ => lb_walkerTileAfter h) (fun _ => lb_ite (fun _ => lb_spillTimeAfter h) (fun _ => lb_ite (fun _ => lb_minutesUntilStep h) (fun _ => lb_ite (fun _ => lb_minutesUntilFall h) (fun _ => lb_ite (fun _ => lb_stepsAtPace h) (fun _ => lb_ite (fun _ => lb_bestPace h) (fun _ => lb_ite (fun _ => lb_bestCurtain h) (fun _ => lb_ite (fun _ => lb_writeRow h) (fun _ => lb_ite (fun _ => lb_writeRecords h) (fun _ => lb_ite (fun _ => lb_outputByte h) (fun _ => lb_ite (fun _ => lb_advance h) (fun _ => lb_ite (fun _ => lb_setPace h) (fun _ => lb_ite (fun _ => lb_setCurtain h) (fun _ => lb_ite (fun _ => lb_placeBowl h) (fun _ => lb_ite (fun _ => lb_mop h) (fun _ => lb_ite (fun _ => lb_turnWalker h) (fun _ => lb_ite (fun _ => lb_undo h) (fun _ => lb_ite (fun _ => lb_undoCount h) (fun _ => lb_ite (fun _ => lb_saveState h) (fun _ => lb_ite (fun _ => lb_restoreState h) (fun _ => lb_dflt h))))))))))))))))))))))))))))))))))))))))))))))))))))))))))))))))
theorem lt6 {sl i : Nat} (h1 : sl ≤ 3072) (h2 : i ≤ 4000) : nI sl - (6 : Int32) < nI i ↔ sl < i + 6 := by
  rw [Int32.lt_iff_toInt_lt, show (6 : Int32) = nI 6 from rfl, pk_sub_toInt (by omega) (by omega), nI_toInt (by omega)]
  omega
/-- room used up to here, n calls -/
def XN (n : Nat) (x x1 : AX) : Prop := x1.2.2.2.2.2.2 = x.2.2.2.2.2.2 ∧ x1.2.2.2.2.1 + x.2.2.2.1 ≤ x.2.2.2.2.1 + x1.2.2.2.1 + 8 * n ∧ x1.2.2.2.2.2.1 + 2 * x.2.2.2.1 ≤ x.2.2.2.2.2.1 + 2 * x1.2.2.2.1 + 2000 * n
theorem lw_ind (hG : 70000 < G) : ∀ n F i K A hi x, x.2.2.2.2.2.2 ≤ 3072 → i ≤ 3080 → x.2.2.2.2.2.2 < i + 6 + 6 * n → n < F → 2000 ≤ K → K + 300 * n ≤ 200000 → Ok_ K A → RC A hi x → RM A hi → ∃ h1 x1, sh_L_law_28 G F (nI i) hi x = some (1, h1, x1) ∧ XN n x x1 ∧ x1.2.2.2.1 ≤ 30000 := fun n => by
  induction n with
  | zero =>
    intro F i K A hi x h1 h2 h3 hF hK hK2 hO HC HM
    obtain ⟨F, rfl⟩ : ∃ F2, F = F2 + 1 := ⟨F - 1, by omega⟩
    refine ⟨hi, x, ?_, ⟨rfl, Nat.le_add_right _ _, Nat.le_add_right _ _⟩, HC.2.2.2.2.2.2.2.1⟩
    show sh_L_law_28_b G (sh_L_law_28 G F) (nI i) hi x = _
    unfold sh_L_law_28_b
    rw [if_pos ((lt6 h1 (by omega)).mpr (by omega))]
  | succ n ih =>
    intro F i K A hi x h1 h2 h3 hF hK hK2 hO HC HM
    obtain ⟨F, rfl⟩ : ∃ F2, F = F2 + 1 := ⟨F - 1, by omega⟩
    show ∃ h1 x1, sh_L_law_28_b G (sh_L_law_28 G F) (nI i) hi x = _ ∧ _
    by_cases c : x.2.2.2.2.2.2 < i + 6
    · refine ⟨hi, x, ?_, ⟨rfl, Nat.le_trans (Nat.le_add_right _ _) (Nat.le_refl _), Nat.le_trans (Nat.le_add_right _ _) (Nat.le_refl _)⟩, HC.2.2.2.2.2.2.2.1⟩
      unfold sh_L_law_28_b
      rw [if_pos ((lt6 h1 (by omega)).mpr c)]
    · have hS : St_ G K A (nI i) hi x := ⟨hG, hK, by omega, hO, HC, HM, fun j hj => by
        rw [nI_add, nI_clamp (by omega)]
        exact ⟨nI_pos' (by omega), by omega⟩⟩
      obtain ⟨A', g3, x3, e, hO', HC', HM', -, X⟩ := lb_all (rec := sh_L_law_28 G F) hS (fun q => c ((lt6 h1 (by omega)).mp q))
      have e6 : nI i + (6 : Int32) = nI (i + 6) := nI_add i 6
      rw [e6] at e
      obtain ⟨X1, X2, X3⟩ := X
      have i6 : i + 6 ≤ 3080 := by
        generalize x.2.2.2.2.2.2 = sl at h1 c
        omega
      have e6n : i + 6 + 6 * (n + 1) = i + 6 + 6 + 6 * n := by omega
      have s6 : x.2.2.2.2.2.2 < i + 6 + 6 + 6 * n := Nat.lt_of_lt_of_eq h3 e6n
      have k6 : K + 300 + 300 * n ≤ 200000 := by
        generalize x.2.2.2.2.2.2 = sl at h1
        omega
      obtain ⟨h4, x4, e4, ⟨Y1, Y2, Y3⟩, c4⟩ := ih F (i + 6) (K + 300) A' g3 x3 (by rw [X1]; exact h1) i6 (by rw [X1]; exact s6) (Nat.lt_of_succ_lt_succ hF) (Nat.le_trans hK (Nat.le_add_right K 300)) k6 hO' HC' HM'
      exact ⟨h4, x4, e.trans e4, ⟨Y1.trans X1, by omega, by omega⟩, c4⟩
end LIN
