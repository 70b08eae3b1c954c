/-! the law's branches by the relation, by program (wip/whole/mkbr.py) -/
section LBR
variable {A A' : As_} {hi h h1 : HI} {x x1 : AX} {K G : Nat} {l5 : Int32} {rec : Int32 → HI → AX → Option (Int32 × HI × AX)}
def St_ (G K : Nat) (A : As_) (l5 : Int32) (hi : HI) (x : AX) : Prop := 70000 < G ∧ 2000 ≤ K ∧ K ≤ 200000 ∧ Ok_ K A ∧ RC A hi x ∧ RM A hi ∧ ∀ j : Nat, j < 6 → 0 ≤ l5 + nI j ∧ (l5 + nI j).toNatClampNeg < x.2.2.2.2.2.2
def LB_ (K : Nat) (S : Option (Int32 × HI × AX)) (rec : Int32 → HI → AX → Option (Int32 × HI × AX)) (l5 : Int32) (hi : HI) (x : AX) : Prop := ∃ A' h2 x2, S = rec (l5 + (6)) h2 x2 ∧ Ok_ (K + 300) A' ∧ RC A' h2 x2 ∧ RM A' h2 ∧ (∀ k, h2 (za 3004) k = hi (za 3004) k) ∧ XB x x2
theorem LB_.of {S : Option (Int32 × HI × AX)} (hO : Ok_ (K + 300) A') (h : ∃ h2 x2, S = sh_L_law_3524 G rec l5 h2 x2 ∧ RC A' h2 x2 ∧ RM A' h2 ∧ (∀ k, h2 (za 3004) k = hi (za 3004) k) ∧ XB x x2) : LB_ K S rec l5 hi x := by
  obtain ⟨h2, x2, e, r⟩ := h
  exact ⟨A', h2, x2, e, hO, r⟩
theorem XB.refl (x : AX) : XB x x := ⟨rfl, Nat.le_add_right _ _, Nat.le_add_right _ _⟩
theorem Ck_.val {S : Option (Int32 × HI × AX)} {code v w : Int32} (h : Ck_ A' S hi x code v) (e : code = 0 → v = w) : Ck_ A' S hi x code w := by
  obtain ⟨h1, x1, e1, ev, r⟩ := h
  exact ⟨h1, x1, e1, fun c => by rw [← e c]; exact ev c, r⟩
theorem Mk_.val {S : Option (Int32 × HI)} {code v w : Int32} (h : Mk_ A' S hi code v) (e : code = 0 → v = w) : Mk_ A' S hi code w := by
  obtain ⟨u, h1, e1, e0, ev, r⟩ := h
  exact ⟨u, h1, e1, e0, fun c => by rw [← e c]; exact ev c, r⟩
theorem fa_ (hO : Ok_ K A) (c : lc_ A = 0) : A.w 10 = b2 (decide (A.w 10 = 1)) := by
  obtain ⟨-, -, -, h, -⟩ := (hO.ib (lc_0 c)).2.2.1.1
  have h2 := h.2.2
  rw [h.1]
  rcases (show nn A.w 10 = 0 ∨ nn A.w 10 = 1 by omega) with q | q <;> rw [q] <;> rfl
theorem faC {S : Option (Int32 × HI × AX)} (hO : Ok_ K A) (h : Ck_ A' S hi x (lc_ A) (A.w 10)) : Ck_ A' S hi x (lc_ A) (b2 (decide (A.w 10 = 1))) := h.val (fa_ hO)
theorem faM {S : Option (Int32 × HI)} (hO : Ok_ K A) (h : Mk_ A' S hi (lc_ A) (A.w 10)) : Mk_ A' S hi (lc_ A) (b2 (decide (A.w 10 = 1))) := h.val (fa_ hO)
theorem lb_restoreState (h : St_ G K A l5 hi x) : LB_ K (sh_L_law_3468 G rec l5 hi x) rec l5 hi x := by
  obtain ⟨hG, hK1, hK, hO, HC, HM, hw⟩ := h
  exact LB_.of (G := G) ((Of_rest hO).mono (by omega)) (br1_ (i := l5 + (1 : Int32)) (S := (fun w => sh_L_restoreState w hi x)) (T := (fun w h => sh_X10_restoreState w h)) (J := fun h x => sh_L_law_3524 G rec l5 h x) (F0 := fun h x => some ((0 : Int32), h, x)) (F1 := fun h x => some ((0 : Int32), h, x)) (hw 1 (by decide)) HM (Cf_restoreState hO HC) (fun h1 H1 => Mf_restoreState hO H1))
theorem lb_saveState (h : St_ G K A l5 hi x) : LB_ K (sh_L_law_3412 G rec l5 hi x) rec l5 hi x := by
  obtain ⟨hG, hK1, hK, hO, HC, HM, hw⟩ := h
  exact LB_.of (G := G) ((Of_save hO).mono (by omega)) (br1_ (i := l5 + (1 : Int32)) (S := (fun w => sh_L_saveState w hi x)) (T := (fun w h => sh_X10_saveState w h)) (J := fun h x => sh_L_law_3524 G rec l5 h x) (F0 := fun h x => some ((0 : Int32), h, x)) (F1 := fun h x => some ((0 : Int32), h, x)) (hw 1 (by decide)) HM (Cf_saveState hO HC) (fun h1 H1 => Mf_saveState hO H1))
theorem lb_undo (h : St_ G K A l5 hi x) : LB_ K (sh_L_law_3355 G rec l5 hi x) rec l5 hi x := by
  obtain ⟨hG, hK1, hK, hO, HC, HM, hw⟩ := h
  exact LB_.of (G := G) ((Of_undo hO).mono (by omega)) (br0_ (S := (sh_L_undo hi x)) (T := (fun h => sh_X10_undo h)) (J := fun h x => sh_L_law_3524 G rec l5 h x) (F0 := fun h x => some ((0 : Int32), h, x)) (F1 := fun h x => some ((0 : Int32), h, x)) HM (Cf_undo hO HC) (fun h1 H1 => Mf_undo hO H1))
theorem lb_turnWalker (h : St_ G K A l5 hi x) : LB_ K (sh_L_law_3304 G rec l5 hi x) rec l5 hi x := by
  obtain ⟨hG, hK1, hK, hO, HC, HM, hw⟩ := h
  exact LB_.of (G := G) ((Of_turn hO).mono (by omega)) (br0b (S := (sh_L_turnWalker hi x)) (T := (fun h => sh_X10_turnWalker G h)) (J := fun h x => sh_L_law_3524 G rec l5 h x) (F0 := fun h x => some ((0 : Int32), h, x)) (F1 := fun h x => some ((0 : Int32), h, x)) (P := fun t l h x => sh_L_law_3346 G rec l5 t l h x) (fun _ _ _ _ => rfl) HM (Cf_turnWalker hO HC) (fun h1 H1 => Mf_turnWalker (by omega) hO H1))
theorem lb_mop (h : St_ G K A l5 hi x) : LB_ K (sh_L_law_3248 G rec l5 hi x) rec l5 hi x := by
  obtain ⟨hG, hK1, hK, hO, HC, HM, hw⟩ := h
  exact LB_.of (G := G) ((Of_mop hO).mono (by omega)) (br1_ (i := l5 + (1 : Int32)) (S := (fun w => sh_L_mop w hi x)) (T := (fun w h => sh_X10_mop G w h)) (J := fun h x => sh_L_law_3524 G rec l5 h x) (F0 := fun h x => some ((0 : Int32), h, x)) (F1 := fun h x => some ((0 : Int32), h, x)) (hw 1 (by decide)) HM (Cf_mop hO HC) (fun h1 H1 => Mf_mop (by omega) hO H1))
theorem lb_placeBowl (h : St_ G K A l5 hi x) : LB_ K (sh_L_law_3192 G rec l5 hi x) rec l5 hi x := by
  obtain ⟨hG, hK1, hK, hO, HC, HM, hw⟩ := h
  exact LB_.of (G := G) ((Of_bowl hO).mono (by omega)) (br1_ (i := l5 + (1 : Int32)) (S := (fun w => sh_L_placeBowl w hi x)) (T := (fun w h => sh_X10_placeBowl G w h)) (J := fun h x => sh_L_law_3524 G rec l5 h x) (F0 := fun h x => some ((0 : Int32), h, x)) (F1 := fun h x => some ((0 : Int32), h, x)) (hw 1 (by decide)) HM (Cf_placeBowl hO HC) (fun h1 H1 => Mf_placeBowl (by omega) hO H1))
theorem lb_setPace (h : St_ G K A l5 hi x) : LB_ K (sh_L_law_3045 G rec l5 hi x) rec l5 hi x := by
  obtain ⟨hG, hK1, hK, hO, HC, HM, hw⟩ := h
  exact LB_.of (G := G) ((Of_pace hO).mono (by omega)) (br1_ (i := l5 + (1 : Int32)) (S := (fun w => sh_L_setPace w hi x)) (T := (fun w h => sh_X10_setPace G w h)) (J := fun h x => sh_L_law_3524 G rec l5 h x) (F0 := fun h x => some ((0 : Int32), h, x)) (F1 := fun h x => some ((0 : Int32), h, x)) (hw 1 (by decide)) HM (Cf_setPace hO HC) (fun h1 H1 => Mf_setPace (by omega) hO H1))
theorem lb_advance (h : St_ G K A l5 hi x) : LB_ K (sh_L_law_2989 G rec l5 hi x) rec l5 hi x := by
  obtain ⟨hG, hK1, hK, hO, HC, HM, hw⟩ := h
  exact LB_.of (G := G) (Of_adv hK hO) (br1_ (i := l5 + (1 : Int32)) (S := (fun w => sh_L_advance G w hi x)) (T := (fun w h => sh_X10_advance G w h)) (J := fun h x => sh_L_law_3524 G rec l5 h x) (F0 := fun h x => some ((0 : Int32), h, x)) (F1 := fun h x => some ((0 : Int32), h, x)) (hw 1 (by decide)) HM (Cf_advance (by omega) (by omega) hO HC) (fun h1 H1 => Mf_advance (by omega) (by omega) hO H1))
theorem lb_outputByte (h : St_ G K A l5 hi x) : LB_ K (sh_L_law_2933 G rec l5 hi x) rec l5 hi x := by
  obtain ⟨hG, hK1, hK, hO, HC, HM, hw⟩ := h
  exact LB_.of (G := G) (hO.mono (by omega)) (br1_ (i := l5 + (1 : Int32)) (S := (fun w => sh_L_outputByte w hi x)) (T := (fun w h => sh_X10_outputByte w h)) (J := fun h x => sh_L_law_3524 G rec l5 h x) (F0 := fun h x => some ((0 : Int32), h, x)) (F1 := fun h x => some ((0 : Int32), h, x)) (hw 1 (by decide)) HM (Cf_outputByte hO HC) (fun h1 H1 => Mf_outputByte hO H1))
theorem lb_writeRecords (h : St_ G K A l5 hi x) : LB_ K (sh_L_law_2889 G rec l5 hi x) rec l5 hi x := by
  obtain ⟨hG, hK1, hK, hO, HC, HM, hw⟩ := h
  exact LB_.of (G := G) ((Of_rec hO).mono (by omega)) (br0_ (S := (sh_L_writeRecords G hi x)) (T := (fun h => sh_X10_writeRecords G h)) (J := fun h x => sh_L_law_3524 G rec l5 h x) (F0 := fun h x => some ((0 : Int32), h, x)) (F1 := fun h x => some ((0 : Int32), h, x)) HM (Cf_writeRecords (by omega) (by omega) hO HC) (fun h1 H1 => Mf_writeRecords (by omega) (by omega) hO H1))
theorem lb_writeRow (h : St_ G K A l5 hi x) : LB_ K (sh_L_law_2833 G rec l5 hi x) rec l5 hi x := by
  obtain ⟨hG, hK1, hK, hO, HC, HM, hw⟩ := h
  exact LB_.of (G := G) ((Of_row hO).mono (by omega)) (br1_ (i := l5 + (1 : Int32)) (S := (fun w => sh_L_writeRow G w hi x)) (T := (fun w h => sh_X10_writeRow G w h)) (J := fun h x => sh_L_law_3524 G rec l5 h x) (F0 := fun h x => some ((0 : Int32), h, x)) (F1 := fun h x => some ((0 : Int32), h, x)) (hw 1 (by decide)) HM (Cf_writeRow (by omega) hO HC) (fun h1 H1 => Mf_writeRow (by omega) hO H1))
theorem lb_bestCurtain (h : St_ G K A l5 hi x) : LB_ K (sh_L_law_2777 G rec l5 hi x) rec l5 hi x := by
  obtain ⟨hG, hK1, hK, hO, HC, HM, hw⟩ := h
  exact LB_.of (G := G) (hO.mono (by omega)) (br1_ (i := l5 + (1 : Int32)) (S := (fun w => sh_L_bestCurtain G w hi x)) (T := (fun w h => sh_X10_bestCurtain G w h)) (J := fun h x => sh_L_law_3524 G rec l5 h x) (F0 := fun h x => some ((0 : Int32), h, x)) (F1 := fun h x => some ((0 : Int32), h, x)) (hw 1 (by decide)) HM (Cf_bestCurtain (by omega) (by omega) hO HC) (fun h1 H1 => Mf_bestCurtain (by omega) (by omega) hO H1))
theorem lb_bestPace (h : St_ G K A l5 hi x) : LB_ K (sh_L_law_2721 G rec l5 hi x) rec l5 hi x := by
  obtain ⟨hG, hK1, hK, hO, HC, HM, hw⟩ := h
  exact LB_.of (G := G) (hO.mono (by omega)) (br1_ (i := l5 + (1 : Int32)) (S := (fun w => sh_L_bestPace G w hi x)) (T := (fun w h => sh_X10_bestPace G w h)) (J := fun h x => sh_L_law_3524 G rec l5 h x) (F0 := fun h x => some ((0 : Int32), h, x)) (F1 := fun h x => some ((0 : Int32), h, x)) (hw 1 (by decide)) HM (Cf_bestPace (by omega) (by omega) hO HC) (fun h1 H1 => Mf_bestPace (by omega) (by omega) hO H1))
theorem lb_stepsAtPace (h : St_ G K A l5 hi x) : LB_ K (sh_L_law_2653 G rec l5 hi x) rec l5 hi x := by
  obtain ⟨hG, hK1, hK, hO, HC, HM, hw⟩ := h
  exact LB_.of (G := G) (hO.mono (by omega)) (br2_ (i := l5 + (1 : Int32)) (j := l5 + (2 : Int32)) (S := (fun w u => sh_L_stepsAtPace G w u hi x)) (T := (fun w u h => sh_X10_stepsAtPace G w u h)) (J := fun h x => sh_L_law_3524 G rec l5 h x) (F0 := fun h x => some ((0 : Int32), h, x)) (F1 := fun h x => some ((0 : Int32), h, x)) (hw 1 (by decide)) (hw 2 (by decide)) HM (Cf_stepsAtPace (by omega) (by omega) hO HC) (fun h1 H1 => Mf_stepsAtPace (by omega) (by omega) hO H1))
theorem lb_minutesUntilFall (h : St_ G K A l5 hi x) : LB_ K (sh_L_law_2609 G rec l5 hi x) rec l5 hi x := by
  obtain ⟨hG, hK1, hK, hO, HC, HM, hw⟩ := h
  exact LB_.of (G := G) (hO.mono (by omega)) (br0_ (S := (sh_L_minutesUntilFall G hi x)) (T := (fun h => sh_X10_minutesUntilFall G h)) (J := fun h x => sh_L_law_3524 G rec l5 h x) (F0 := fun h x => some ((0 : Int32), h, x)) (F1 := fun h x => some ((0 : Int32), h, x)) HM (Cf_minutesUntilFall (by omega) (by omega) hO HC) (fun h1 H1 => Mf_minutesUntilFall (by omega) (by omega) hO H1))
theorem lb_minutesUntilStep (h : St_ G K A l5 hi x) : LB_ K (sh_L_law_2553 G rec l5 hi x) rec l5 hi x := by
  obtain ⟨hG, hK1, hK, hO, HC, HM, hw⟩ := h
  exact LB_.of (G := G) (hO.mono (by omega)) (br1_ (i := l5 + (1 : Int32)) (S := (fun w => sh_L_minutesUntilStep G w hi x)) (T := (fun w h => sh_X10_minutesUntilStep G w h)) (J := fun h x => sh_L_law_3524 G rec l5 h x) (F0 := fun h x => some ((0 : Int32), h, x)) (F1 := fun h x => some ((0 : Int32), h, x)) (hw 1 (by decide)) HM (Cf_minutesUntilStep (by omega) (by omega) hO HC) (fun h1 H1 => Mf_minutesUntilStep (by omega) (by omega) hO H1))
theorem lb_spillTimeAfter (h : St_ G K A l5 hi x) : LB_ K (sh_L_law_2485 G rec l5 hi x) rec l5 hi x := by
  obtain ⟨hG, hK1, hK, hO, HC, HM, hw⟩ := h
  exact LB_.of (G := G) (hO.mono (by omega)) (br2_ (i := l5 + (1 : Int32)) (j := l5 + (2 : Int32)) (S := (fun w u => sh_L_spillTimeAfter G w u hi x)) (T := (fun w u h => sh_X10_spillTimeAfter G w u h)) (J := fun h x => sh_L_law_3524 G rec l5 h x) (F0 := fun h x => some ((0 : Int32), h, x)) (F1 := fun h x => some ((0 : Int32), h, x)) (hw 1 (by decide)) (hw 2 (by decide)) HM (Cf_spillTimeAfter (by omega) (by omega) hO HC) (fun h1 H1 => Mf_spillTimeAfter (by omega) (by omega) hO H1))
theorem lb_walkerTileAfter (h : St_ G K A l5 hi x) : LB_ K (sh_L_law_2429 G rec l5 hi x) rec l5 hi x := by
  obtain ⟨hG, hK1, hK, hO, HC, HM, hw⟩ := h
  exact LB_.of (G := G) (hO.mono (by omega)) (br1_ (i := l5 + (1 : Int32)) (S := (fun w => sh_L_walkerTileAfter G w hi x)) (T := (fun w h => sh_X10_walkerTileAfter G w h)) (J := fun h x => sh_L_law_3524 G rec l5 h x) (F0 := fun h x => some ((0 : Int32), h, x)) (F1 := fun h x => some ((0 : Int32), h, x)) (hw 1 (by decide)) HM (Cf_walkerTileAfter (by omega) (by omega) hO HC) (fun h1 H1 => Mf_walkerTileAfter (by omega) (by omega) hO H1))
theorem lb_stepsAfter (h : St_ G K A l5 hi x) : LB_ K (sh_L_law_2373 G rec l5 hi x) rec l5 hi x := by
  obtain ⟨hG, hK1, hK, hO, HC, HM, hw⟩ := h
  exact LB_.of (G := G) (hO.mono (by omega)) (br1_ (i := l5 + (1 : Int32)) (S := (fun w => sh_L_stepsAfter G w hi x)) (T := (fun w h => sh_X10_stepsAfter G w h)) (J := fun h x => sh_L_law_3524 G rec l5 h x) (F0 := fun h x => some ((0 : Int32), h, x)) (F1 := fun h x => some ((0 : Int32), h, x)) (hw 1 (by decide)) HM (Cf_stepsAfter (by omega) (by omega) hO HC) (fun h1 H1 => Mf_stepsAfter (by omega) (by omega) hO H1))
theorem lb_litShare (h : St_ G K A l5 hi x) : LB_ K (sh_L_law_2307 G rec l5 hi x) rec l5 hi x := by
  obtain ⟨hG, hK1, hK, hO, HC, HM, hw⟩ := h
  exact LB_.of (G := G) (hO.mono (by omega)) (brL_ (S := (sh_L_litShare G hi x)) (T := (fun h => sh_X10_litShare G h)) (J := fun h x => sh_L_law_3524 G rec l5 h x) (F0 := fun h x => some ((0 : Int32), h, x)) (F1 := fun h x => some ((0 : Int32), h, x)) (fun c => by
    have e := lc_0 c
    exact ⟨(shr_ok (hO.ib e)).2, shr_c (hO.ib e)⟩) HM (Cf_litShare (by omega) hO HC) (fun h1 H1 => Mf_litShare (by omega) hO H1))
theorem lb_averageWear (h : St_ G K A l5 hi x) : LB_ K (sh_L_law_2242 G rec l5 hi x) rec l5 hi x := by
  obtain ⟨hG, hK1, hK, hO, HC, HM, hw⟩ := h
  exact LB_.of (G := G) (hO.mono (by omega)) (brA_ (S := (sh_L_averageWear hi x)) (T := (fun h => sh_X10_averageWear G h)) (J := fun h x => sh_L_law_3524 G rec l5 h x) (F0 := fun h x => some ((0 : Int32), h, x)) (F1 := fun h x => some ((0 : Int32), h, x)) HM (Cf_averageWear hO HC) (fun h1 H1 => Mf_averageWear (by omega) hO H1))
theorem lb_imbalance (h : St_ G K A l5 hi x) : LB_ K (sh_L_law_2198 G rec l5 hi x) rec l5 hi x := by
  obtain ⟨hG, hK1, hK, hO, HC, HM, hw⟩ := h
  exact LB_.of (G := G) (hO.mono (by omega)) (br0_ (S := (sh_L_imbalance hi x)) (T := (fun h => sh_X10_imbalance G h)) (J := fun h x => sh_L_law_3524 G rec l5 h x) (F0 := fun h x => some ((0 : Int32), h, x)) (F1 := fun h x => some ((0 : Int32), h, x)) HM (Cf_imbalance hO HC) (fun h1 H1 => Mf_imbalance (by omega) hO H1))
theorem lb_rankOf (h : St_ G K A l5 hi x) : LB_ K (sh_L_law_2142 G rec l5 hi x) rec l5 hi x := by
  obtain ⟨hG, hK1, hK, hO, HC, HM, hw⟩ := h
  exact LB_.of (G := G) (hO.mono (by omega)) (br1_ (i := l5 + (1 : Int32)) (S := (fun w => sh_L_rankOf G w hi x)) (T := (fun w h => sh_X10_rankOf G w h)) (J := fun h x => sh_L_law_3524 G rec l5 h x) (F0 := fun h x => some ((0 : Int32), h, x)) (F1 := fun h x => some ((0 : Int32), h, x)) (hw 1 (by decide)) HM (Cf_rankOf (by omega) hO HC) (fun h1 H1 => Mf_rankOf (by omega) hO H1))
theorem lb_recordSteps (h : St_ G K A l5 hi x) : LB_ K (sh_L_law_2086 G rec l5 hi x) rec l5 hi x := by
  obtain ⟨hG, hK1, hK, hO, HC, HM, hw⟩ := h
  exact LB_.of (G := G) (hO.mono (by omega)) (br1_ (i := l5 + (1 : Int32)) (S := (fun w => sh_L_recordSteps w hi x)) (T := (fun w h => sh_X10_recordSteps w h)) (J := fun h x => sh_L_law_3524 G rec l5 h x) (F0 := fun h x => some ((0 : Int32), h, x)) (F1 := fun h x => some ((0 : Int32), h, x)) (hw 1 (by decide)) HM (Cf_recordSteps hO HC) (fun h1 H1 => Mf_recordSteps hO H1))
theorem lb_recordNight (h : St_ G K A l5 hi x) : LB_ K (sh_L_law_2030 G rec l5 hi x) rec l5 hi x := by
  obtain ⟨hG, hK1, hK, hO, HC, HM, hw⟩ := h
  exact LB_.of (G := G) (hO.mono (by omega)) (br1_ (i := l5 + (1 : Int32)) (S := (fun w => sh_L_recordNight w hi x)) (T := (fun w h => sh_X10_recordNight w h)) (J := fun h x => sh_L_law_3524 G rec l5 h x) (F0 := fun h x => some ((0 : Int32), h, x)) (F1 := fun h x => some ((0 : Int32), h, x)) (hw 1 (by decide)) HM (Cf_recordNight hO HC) (fun h1 H1 => Mf_recordNight hO H1))
theorem lb_recordCount (h : St_ G K A l5 hi x) : LB_ K (sh_L_law_1986 G rec l5 hi x) rec l5 hi x := by
  obtain ⟨hG, hK1, hK, hO, HC, HM, hw⟩ := h
  exact LB_.of (G := G) (hO.mono (by omega)) (br0_ (S := (sh_L_recordCount hi x)) (T := (fun h => sh_X10_recordCount h)) (J := fun h x => sh_L_law_3524 G rec l5 h x) (F0 := fun h x => some ((0 : Int32), h, x)) (F1 := fun h x => some ((0 : Int32), h, x)) HM (Cf_recordCount HC) (fun h1 H1 => Mf_recordCount H1))
theorem lb_spillCount (h : St_ G K A l5 hi x) : LB_ K (sh_L_law_1942 G rec l5 hi x) rec l5 hi x := by
  obtain ⟨hG, hK1, hK, hO, HC, HM, hw⟩ := h
  exact LB_.of (G := G) (hO.mono (by omega)) (br0_ (S := (sh_L_spillCount hi x)) (T := (fun h => sh_X10_spillCount G h)) (J := fun h x => sh_L_law_3524 G rec l5 h x) (F0 := fun h x => some ((0 : Int32), h, x)) (F1 := fun h x => some ((0 : Int32), h, x)) HM (Cf_spillCount hO HC) (fun h1 H1 => Mf_spillCount (by omega) hO H1))
theorem lb_spillTime (h : St_ G K A l5 hi x) : LB_ K (sh_L_law_1886 G rec l5 hi x) rec l5 hi x := by
  obtain ⟨hG, hK1, hK, hO, HC, HM, hw⟩ := h
  exact LB_.of (G := G) (hO.mono (by omega)) (br1_ (i := l5 + (1 : Int32)) (S := (fun w => sh_L_spillTime w hi x)) (T := (fun w h => sh_X10_spillTime w h)) (J := fun h x => sh_L_law_3524 G rec l5 h x) (F0 := fun h x => some ((0 : Int32), h, x)) (F1 := fun h x => some ((0 : Int32), h, x)) (hw 1 (by decide)) HM (Cf_spillTime hO HC) (fun h1 H1 => Mf_spillTime hO H1))
theorem lb_hasBowl (h : St_ G K A l5 hi x) : LB_ K (sh_L_law_1823 G rec l5 hi x) rec l5 hi x := by
  obtain ⟨hG, hK1, hK, hO, HC, HM, hw⟩ := h
  exact LB_.of (G := G) (hO.mono (by omega)) (br1b (i := l5 + (1 : Int32)) (S := (fun w => sh_L_hasBowl w hi x)) (T := (fun w h => sh_X10_hasBowl w h)) (J := fun h x => sh_L_law_3524 G rec l5 h x) (F0 := fun h x => some ((0 : Int32), h, x)) (F1 := fun h x => some ((0 : Int32), h, x)) (P := fun t l h x => sh_L_law_1877 G rec l5 t l h x) (fun _ _ _ _ => rfl) (hw 1 (by decide)) HM (Cf_hasBowl hO HC) (fun h1 H1 => Mf_hasBowl hO H1))
theorem lb_slideCount (h : St_ G K A l5 hi x) : LB_ K (sh_L_law_1779 G rec l5 hi x) rec l5 hi x := by
  obtain ⟨hG, hK1, hK, hO, HC, HM, hw⟩ := h
  exact LB_.of (G := G) (hO.mono (by omega)) (br0_ (S := (sh_L_slideCount hi x)) (T := (fun h => sh_X10_slideCount h)) (J := fun h x => sh_L_law_3524 G rec l5 h x) (F0 := fun h x => some ((0 : Int32), h, x)) (F1 := fun h x => some ((0 : Int32), h, x)) HM (Cf_slideCount HC) (fun h1 H1 => Mf_slideCount H1))
theorem lb_hasRug (h : St_ G K A l5 hi x) : LB_ K (sh_L_law_1716 G rec l5 hi x) rec l5 hi x := by
  obtain ⟨hG, hK1, hK, hO, HC, HM, hw⟩ := h
  exact LB_.of (G := G) (hO.mono (by omega)) (br1b (i := l5 + (1 : Int32)) (S := (fun w => sh_L_hasRug w hi x)) (T := (fun w h => sh_X10_hasRug w h)) (J := fun h x => sh_L_law_3524 G rec l5 h x) (F0 := fun h x => some ((0 : Int32), h, x)) (F1 := fun h x => some ((0 : Int32), h, x)) (P := fun t l h x => sh_L_law_1770 G rec l5 t l h x) (fun _ _ _ _ => rfl) (hw 1 (by decide)) HM (Cf_hasRug hO HC) (fun h1 H1 => Mf_hasRug hO H1))
theorem lb_catTile (h : St_ G K A l5 hi x) : LB_ K (sh_L_law_1672 G rec l5 hi x) rec l5 hi x := by
  obtain ⟨hG, hK1, hK, hO, HC, HM, hw⟩ := h
  exact LB_.of (G := G) (hO.mono (by omega)) (br0_ (S := (sh_L_catTile hi x)) (T := (fun h => sh_X10_catTile h)) (J := fun h x => sh_L_law_3524 G rec l5 h x) (F0 := fun h x => some ((0 : Int32), h, x)) (F1 := fun h x => some ((0 : Int32), h, x)) HM (Cf_catTile HC) (fun h1 H1 => Mf_catTile H1))
theorem lb_wear (h : St_ G K A l5 hi x) : LB_ K (sh_L_law_1616 G rec l5 hi x) rec l5 hi x := by
  obtain ⟨hG, hK1, hK, hO, HC, HM, hw⟩ := h
  exact LB_.of (G := G) (hO.mono (by omega)) (br1_ (i := l5 + (1 : Int32)) (S := (fun w => sh_L_wear w hi x)) (T := (fun w h => sh_X10_wear w h)) (J := fun h x => sh_L_law_3524 G rec l5 h x) (F0 := fun h x => some ((0 : Int32), h, x)) (F1 := fun h x => some ((0 : Int32), h, x)) (hw 1 (by decide)) HM (Cf_wear hO HC) (fun h1 H1 => Mf_wear hO H1))
theorem lb_blockReason (h : St_ G K A l5 hi x) : LB_ K (sh_L_law_1572 G rec l5 hi x) rec l5 hi x := by
  obtain ⟨hG, hK1, hK, hO, HC, HM, hw⟩ := h
  exact LB_.of (G := G) (hO.mono (by omega)) (br0_ (S := (sh_L_blockReason G hi x)) (T := (fun h => sh_X10_blockReason G h)) (J := fun h x => sh_L_law_3524 G rec l5 h x) (F0 := fun h x => some ((0 : Int32), h, x)) (F1 := fun h x => some ((0 : Int32), h, x)) HM (Cf_blockReason (by omega) hO HC) (fun h1 H1 => Mf_blockReason (by omega) hO H1))
theorem lb_fallCount (h : St_ G K A l5 hi x) : LB_ K (sh_L_law_1528 G rec l5 hi x) rec l5 hi x := by
  obtain ⟨hG, hK1, hK, hO, HC, HM, hw⟩ := h
  exact LB_.of (G := G) (hO.mono (by omega)) (br0_ (S := (sh_L_fallCount hi x)) (T := (fun h => sh_X10_fallCount h)) (J := fun h x => sh_L_law_3524 G rec l5 h x) (F0 := fun h x => some ((0 : Int32), h, x)) (F1 := fun h x => some ((0 : Int32), h, x)) HM (Cf_fallCount HC) (fun h1 H1 => Mf_fallCount H1))
theorem lb_turnCount (h : St_ G K A l5 hi x) : LB_ K (sh_L_law_1484 G rec l5 hi x) rec l5 hi x := by
  obtain ⟨hG, hK1, hK, hO, HC, HM, hw⟩ := h
  exact LB_.of (G := G) (hO.mono (by omega)) (br0_ (S := (sh_L_turnCount hi x)) (T := (fun h => sh_X10_turnCount h)) (J := fun h x => sh_L_law_3524 G rec l5 h x) (F0 := fun h x => some ((0 : Int32), h, x)) (F1 := fun h x => some ((0 : Int32), h, x)) HM (Cf_turnCount HC) (fun h1 H1 => Mf_turnCount H1))
theorem lb_stepsTonight (h : St_ G K A l5 hi x) : LB_ K (sh_L_law_1440 G rec l5 hi x) rec l5 hi x := by
  obtain ⟨hG, hK1, hK, hO, HC, HM, hw⟩ := h
  exact LB_.of (G := G) (hO.mono (by omega)) (br0_ (S := (sh_L_stepsTonight hi x)) (T := (fun h => sh_X10_stepsTonight h)) (J := fun h x => sh_L_law_3524 G rec l5 h x) (F0 := fun h x => some ((0 : Int32), h, x)) (F1 := fun h x => some ((0 : Int32), h, x)) HM (Cf_stepsTonight HC) (fun h1 H1 => Mf_stepsTonight H1))
theorem lb_totalSteps (h : St_ G K A l5 hi x) : LB_ K (sh_L_law_1396 G rec l5 hi x) rec l5 hi x := by
  obtain ⟨hG, hK1, hK, hO, HC, HM, hw⟩ := h
  exact LB_.of (G := G) (hO.mono (by omega)) (br0_ (S := (sh_L_totalSteps hi x)) (T := (fun h => sh_X10_totalSteps h)) (J := fun h x => sh_L_law_3524 G rec l5 h x) (F0 := fun h x => some ((0 : Int32), h, x)) (F1 := fun h x => some ((0 : Int32), h, x)) HM (Cf_totalSteps HC) (fun h1 H1 => Mf_totalSteps H1))
theorem lb_stepsSincePause (h : St_ G K A l5 hi x) : LB_ K (sh_L_law_1352 G rec l5 hi x) rec l5 hi x := by
  obtain ⟨hG, hK1, hK, hO, HC, HM, hw⟩ := h
  exact LB_.of (G := G) (hO.mono (by omega)) (br0_ (S := (sh_L_stepsSincePause hi x)) (T := (fun h => sh_X10_stepsSincePause h)) (J := fun h x => sh_L_law_3524 G rec l5 h x) (F0 := fun h x => some ((0 : Int32), h, x)) (F1 := fun h x => some ((0 : Int32), h, x)) HM (Cf_stepsSincePause HC) (fun h1 H1 => Mf_stepsSincePause H1))
theorem lb_restRemaining (h : St_ G K A l5 hi x) : LB_ K (sh_L_law_1308 G rec l5 hi x) rec l5 hi x := by
  obtain ⟨hG, hK1, hK, hO, HC, HM, hw⟩ := h
  exact LB_.of (G := G) (hO.mono (by omega)) (br0_ (S := (sh_L_restRemaining hi x)) (T := (fun h => sh_X10_restRemaining h)) (J := fun h x => sh_L_law_3524 G rec l5 h x) (F0 := fun h x => some ((0 : Int32), h, x)) (F1 := fun h x => some ((0 : Int32), h, x)) HM (Cf_restRemaining HC) (fun h1 H1 => Mf_restRemaining H1))
theorem lb_facesRight (h : St_ G K A l5 hi x) : LB_ K (sh_L_law_1257 G rec l5 hi x) rec l5 hi x := by
  obtain ⟨hG, hK1, hK, hO, HC, HM, hw⟩ := h
  exact LB_.of (G := G) (hO.mono (by omega)) (br0b (S := (sh_L_facesRight hi x)) (T := (fun h => sh_X10_facesRight h)) (J := fun h x => sh_L_law_3524 G rec l5 h x) (F0 := fun h x => some ((0 : Int32), h, x)) (F1 := fun h x => some ((0 : Int32), h, x)) (P := fun t l h x => sh_L_law_1299 G rec l5 t l h x) (fun _ _ _ _ => rfl) HM (faC hO (Cf_facesRight hO HC)) (fun h1 H1 => faM hO (Mf_facesRight hO H1)))
theorem lb_walkerTile (h : St_ G K A l5 hi x) : LB_ K (sh_L_law_1213 G rec l5 hi x) rec l5 hi x := by
  obtain ⟨hG, hK1, hK, hO, HC, HM, hw⟩ := h
  exact LB_.of (G := G) (hO.mono (by omega)) (br0_ (S := (sh_L_walkerTile hi x)) (T := (fun h => sh_X10_walkerTile h)) (J := fun h x => sh_L_law_3524 G rec l5 h x) (F0 := fun h x => some ((0 : Int32), h, x)) (F1 := fun h x => some ((0 : Int32), h, x)) HM (Cf_walkerTile HC) (fun h1 H1 => Mf_walkerTile H1))
theorem lb_stepsPerMinute (h : St_ G K A l5 hi x) : LB_ K (sh_L_law_1169 G rec l5 hi x) rec l5 hi x := by
  obtain ⟨hG, hK1, hK, hO, HC, HM, hw⟩ := h
  exact LB_.of (G := G) (hO.mono (by omega)) (br0_ (S := (sh_L_stepsPerMinute G hi x)) (T := (fun h => sh_X10_stepsPerMinute G h)) (J := fun h x => sh_L_law_3524 G rec l5 h x) (F0 := fun h x => some ((0 : Int32), h, x)) (F1 := fun h x => some ((0 : Int32), h, x)) HM (Cf_stepsPerMinute (by omega) hO HC) (fun h1 H1 => Mf_stepsPerMinute (by omega) hO H1))
theorem lb_pace (h : St_ G K A l5 hi x) : LB_ K (sh_L_law_1125 G rec l5 hi x) rec l5 hi x := by
  obtain ⟨hG, hK1, hK, hO, HC, HM, hw⟩ := h
  exact LB_.of (G := G) (hO.mono (by omega)) (br0_ (S := (sh_L_pace hi x)) (T := (fun h => sh_X10_pace h)) (J := fun h x => sh_L_law_3524 G rec l5 h x) (F0 := fun h x => some ((0 : Int32), h, x)) (F1 := fun h x => some ((0 : Int32), h, x)) HM (Cf_pace HC) (fun h1 H1 => Mf_pace H1))
theorem lb_nightsUntilFullMoon (h : St_ G K A l5 hi x) : LB_ K (sh_L_law_1081 G rec l5 hi x) rec l5 hi x := by
  obtain ⟨hG, hK1, hK, hO, HC, HM, hw⟩ := h
  exact LB_.of (G := G) (hO.mono (by omega)) (br0_ (S := (sh_L_nightsUntilFullMoon hi x)) (T := (fun h => sh_X10_nightsUntilFullMoon h)) (J := fun h x => sh_L_law_3524 G rec l5 h x) (F0 := fun h x => some ((0 : Int32), h, x)) (F1 := fun h x => some ((0 : Int32), h, x)) HM (Cf_nightsUntilFullMoon HC) (fun h1 H1 => Mf_nightsUntilFullMoon H1))
theorem lb_minutesUntilLit (h : St_ G K A l5 hi x) : LB_ K (sh_L_law_1025 G rec l5 hi x) rec l5 hi x := by
  obtain ⟨hG, hK1, hK, hO, HC, HM, hw⟩ := h
  exact LB_.of (G := G) (hO.mono (by omega)) (br1_ (i := l5 + (1 : Int32)) (S := (fun w => sh_L_minutesUntilLit G w hi x)) (T := (fun w h => sh_X10_minutesUntilLit G w h)) (J := fun h x => sh_L_law_3524 G rec l5 h x) (F0 := fun h x => some ((0 : Int32), h, x)) (F1 := fun h x => some ((0 : Int32), h, x)) (hw 1 (by decide)) HM (Cf_minutesUntilLit (by omega) (by omega) (by omega) hO HC) (fun h1 H1 => Mf_minutesUntilLit (by omega) (by omega) hO H1))
theorem lb_draughtPeriod (h : St_ G K A l5 hi x) : LB_ K (sh_L_law_969 G rec l5 hi x) rec l5 hi x := by
  obtain ⟨hG, hK1, hK, hO, HC, HM, hw⟩ := h
  exact LB_.of (G := G) (hO.mono (by omega)) (br1_ (i := l5 + (1 : Int32)) (S := (fun w => sh_L_draughtPeriod w hi x)) (T := (fun w h => sh_X10_draughtPeriod w h)) (J := fun h x => sh_L_law_3524 G rec l5 h x) (F0 := fun h x => some ((0 : Int32), h, x)) (F1 := fun h x => some ((0 : Int32), h, x)) (hw 1 (by decide)) HM (Cf_draughtPeriod hO HC) (fun h1 H1 => Mf_draughtPeriod hO H1))
theorem lb_isCurtainClosed (h : St_ G K A l5 hi x) : LB_ K (sh_L_law_906 G rec l5 hi x) rec l5 hi x := by
  obtain ⟨hG, hK1, hK, hO, HC, HM, hw⟩ := h
  exact LB_.of (G := G) (hO.mono (by omega)) (br1b (i := l5 + (1 : Int32)) (S := (fun w => sh_L_isCurtainClosed w hi x)) (T := (fun w h => sh_X10_isCurtainClosed w h)) (J := fun h x => sh_L_law_3524 G rec l5 h x) (F0 := fun h x => some ((0 : Int32), h, x)) (F1 := fun h x => some ((0 : Int32), h, x)) (P := fun t l h x => sh_L_law_960 G rec l5 t l h x) (fun _ _ _ _ => rfl) (hw 1 (by decide)) HM (Cf_isCurtainClosed hO HC) (fun h1 H1 => Mf_isCurtainClosed hO H1))
theorem lb_isLit (h : St_ G K A l5 hi x) : LB_ K (sh_L_law_843 G rec l5 hi x) rec l5 hi x := by
  obtain ⟨hG, hK1, hK, hO, HC, HM, hw⟩ := h
  exact LB_.of (G := G) (hO.mono (by omega)) (br1b (i := l5 + (1 : Int32)) (S := (fun w => sh_L_isLit G w hi x)) (T := (fun w h => sh_X10_isLit G w h)) (J := fun h x => sh_L_law_3524 G rec l5 h x) (F0 := fun h x => some ((0 : Int32), h, x)) (F1 := fun h x => some ((0 : Int32), h, x)) (P := fun t l h x => sh_L_law_897 G rec l5 t l h x) (fun _ _ _ _ => rfl) (hw 1 (by decide)) HM (Cf_isLit (by omega) hO HC) (fun h1 H1 => Mf_isLit (by omega) hO H1))
theorem lb_moonShines (h : St_ G K A l5 hi x) : LB_ K (sh_L_law_792 G rec l5 hi x) rec l5 hi x := by
  obtain ⟨hG, hK1, hK, hO, HC, HM, hw⟩ := h
  exact LB_.of (G := G) (hO.mono (by omega)) (br0b (S := (sh_L_moonShines G hi x)) (T := (fun h => sh_X10_moonShines G h)) (J := fun h x => sh_L_law_3524 G rec l5 h x) (F0 := fun h x => some ((0 : Int32), h, x)) (F1 := fun h x => some ((0 : Int32), h, x)) (P := fun t l h x => sh_L_law_834 G rec l5 t l h x) (fun _ _ _ _ => rfl) HM (Cf_moonShines (by omega) hO HC) (fun h1 H1 => Mf_moonShines (by omega) hO H1))
theorem lb_moonRow (h : St_ G K A l5 hi x) : LB_ K (sh_L_law_748 G rec l5 hi x) rec l5 hi x := by
  obtain ⟨hG, hK1, hK, hO, HC, HM, hw⟩ := h
  exact LB_.of (G := G) (hO.mono (by omega)) (br0_ (S := (sh_L_moonRow hi x)) (T := (fun h => sh_X10_moonRow h)) (J := fun h x => sh_L_law_3524 G rec l5 h x) (F0 := fun h x => some ((0 : Int32), h, x)) (F1 := fun h x => some ((0 : Int32), h, x)) HM (Cf_moonRow hO HC) (fun h1 H1 => Mf_moonRow hO H1))
theorem lb_brightness (h : St_ G K A l5 hi x) : LB_ K (sh_L_law_704 G rec l5 hi x) rec l5 hi x := by
  obtain ⟨hG, hK1, hK, hO, HC, HM, hw⟩ := h
  exact LB_.of (G := G) (hO.mono (by omega)) (br0_ (S := (sh_L_brightness hi x)) (T := (fun h => sh_X10_brightness h)) (J := fun h x => sh_L_law_3524 G rec l5 h x) (F0 := fun h x => some ((0 : Int32), h, x)) (F1 := fun h x => some ((0 : Int32), h, x)) HM (Cf_brightness HC) (fun h1 H1 => Mf_brightness H1))
theorem lb_minute (h : St_ G K A l5 hi x) : LB_ K (sh_L_law_660 G rec l5 hi x) rec l5 hi x := by
  obtain ⟨hG, hK1, hK, hO, HC, HM, hw⟩ := h
  exact LB_.of (G := G) (hO.mono (by omega)) (br0_ (S := (sh_L_minute hi x)) (T := (fun h => sh_X10_minute h)) (J := fun h x => sh_L_law_3524 G rec l5 h x) (F0 := fun h x => some ((0 : Int32), h, x)) (F1 := fun h x => some ((0 : Int32), h, x)) HM (Cf_minute HC) (fun h1 H1 => Mf_minute H1))
theorem lb_night (h : St_ G K A l5 hi x) : LB_ K (sh_L_law_616 G rec l5 hi x) rec l5 hi x := by
  obtain ⟨hG, hK1, hK, hO, HC, HM, hw⟩ := h
  exact LB_.of (G := G) (hO.mono (by omega)) (br0_ (S := (sh_L_night hi x)) (T := (fun h => sh_X10_night h)) (J := fun h x => sh_L_law_3524 G rec l5 h x) (F0 := fun h x => some ((0 : Int32), h, x)) (F1 := fun h x => some ((0 : Int32), h, x)) HM (Cf_night HC) (fun h1 H1 => Mf_night H1))
theorem lb_minutesPerRow (h : St_ G K A l5 hi x) : LB_ K (sh_L_law_572 G rec l5 hi x) rec l5 hi x := by
  obtain ⟨hG, hK1, hK, hO, HC, HM, hw⟩ := h
  exact LB_.of (G := G) (hO.mono (by omega)) (br0_ (S := (sh_L_minutesPerRow hi x)) (T := (fun h => sh_X10_minutesPerRow h)) (J := fun h x => sh_L_law_3524 G rec l5 h x) (F0 := fun h x => some ((0 : Int32), h, x)) (F1 := fun h x => some ((0 : Int32), h, x)) HM (Cf_minutesPerRow HC) (fun h1 H1 => Mf_minutesPerRow H1))
theorem lb_columns (h : St_ G K A l5 hi x) : LB_ K (sh_L_law_528 G rec l5 hi x) rec l5 hi x := by
  obtain ⟨hG, hK1, hK, hO, HC, HM, hw⟩ := h
  exact LB_.of (G := G) (hO.mono (by omega)) (br0_ (S := (sh_L_columns hi x)) (T := (fun h => sh_X10_columns h)) (J := fun h x => sh_L_law_3524 G rec l5 h x) (F0 := fun h x => some ((0 : Int32), h, x)) (F1 := fun h x => some ((0 : Int32), h, x)) HM (Cf_columns HC) (fun h1 H1 => Mf_columns H1))
theorem lb_rows (h : St_ G K A l5 hi x) : LB_ K (sh_L_law_484 G rec l5 hi x) rec l5 hi x := by
  obtain ⟨hG, hK1, hK, hO, HC, HM, hw⟩ := h
  exact LB_.of (G := G) (hO.mono (by omega)) (br0_ (S := (sh_L_rows hi x)) (T := (fun h => sh_X10_rows h)) (J := fun h x => sh_L_law_3524 G rec l5 h x) (F0 := fun h x => some ((0 : Int32), h, x)) (F1 := fun h x => some ((0 : Int32), h, x)) HM (Cf_rows HC) (fun h1 H1 => Mf_rows H1))
theorem lb_undoCount (h : St_ G K A l5 hi x) : LB_ K (sh_L_law_3399 G rec l5 hi x) rec l5 hi x := by
  obtain ⟨hG, hK1, hK, hO, HC, HM, hw⟩ := h
  obtain ⟨v, h1, e, e0, ev, H1, f⟩ := Mf_undoCount HM
  refine LB_.of (G := G) (hO.mono (by omega)) ⟨h1, x, ?_, HC.cg f, H1, fun k => fM_w f k, XB.refl x⟩
  unfold sh_L_law_3399
  rw [e, bs]
  exact if_pos ((Cf_undoCount HC).trans (ev rfl).symm)
theorem lb_bufferLength (h : St_ G K A l5 hi x) : LB_ K (sh_L_law_471 G rec l5 hi x) rec l5 hi x := by
  obtain ⟨hG, hK1, hK, hO, HC, HM, hw⟩ := h
  obtain ⟨v, h1, e, e0, ev, H1, f⟩ := Mf_bufferLength HM
  refine LB_.of (G := G) (hO.mono (by omega)) ⟨h1, x, ?_, HC.cg f, H1, fun k => fM_w f k, XB.refl x⟩
  unfold sh_L_law_471
  rw [e, bs]
  exact if_pos ((Cf_bufferLength HC).trans (ev rfl).symm)
theorem lb_parseErrorPosition (h : St_ G K A l5 hi x) : LB_ K (sh_L_law_458 G rec l5 hi x) rec l5 hi x := by
  obtain ⟨hG, hK1, hK, hO, HC, HM, hw⟩ := h
  obtain ⟨v, h1, e, e0, ev, H1, f⟩ := Mf_parseErrorPosition HM
  refine LB_.of (G := G) (hO.mono (by omega)) ⟨h1, x, ?_, HC.cg f, H1, fun k => fM_w f k, XB.refl x⟩
  unfold sh_L_law_458
  rw [e, bs]
  exact if_pos ((Cf_parseErrorPosition HC).trans (ev rfl).symm)
theorem lb_parseErrorCode (h : St_ G K A l5 hi x) : LB_ K (sh_L_law_445 G rec l5 hi x) rec l5 hi x := by
  obtain ⟨hG, hK1, hK, hO, HC, HM, hw⟩ := h
  obtain ⟨v, h1, e, e0, ev, H1, f⟩ := Mf_parseErrorCode HM
  refine LB_.of (G := G) (hO.mono (by omega)) ⟨h1, x, ?_, HC.cg f, H1, fun k => fM_w f k, XB.refl x⟩
  unfold sh_L_law_445
  rw [e, bs]
  exact if_pos ((Cf_parseErrorCode HC).trans (ev rfl).symm)
theorem lb_parseSetup (h : St_ G K A l5 hi x) : LB_ K (sh_L_law_389 G rec l5 hi x) rec l5 hi x := by
  obtain ⟨hG, hK1, hK, hO, HC, HM, hw⟩ := h
  obtain ⟨A', code, val, cS, hO', cT⟩ := P_parse (a := hi (za 3004) (l5 + (1 : Int32)).toNatClampNeg) hG hK1 hO HC
  exact LB_.of (G := G) (hO'.mono (by omega)) (br1_ (i := l5 + (1 : Int32)) (S := (fun w => sh_L_parseSetup G w hi x)) (T := (fun w h => sh_parseS G w h)) (J := fun h x => sh_L_law_3524 G rec l5 h x) (F0 := fun h x => some ((0 : Int32), h, x)) (F1 := fun h x => some ((0 : Int32), h, x)) (hw 1 (by decide)) HM cS cT)
theorem lb_setCurtain (h : St_ G K A l5 hi x) : LB_ K (sh_L_law_3101 G rec l5 hi x) rec l5 hi x := by
  obtain ⟨hG, hK1, hK, hO, HC, HM, hw⟩ := h
  have w1 := hw 1 (by decide)
  have w2 := hw 2 (by decide)
  have w1 : 0 ≤ l5 + (1 : Int32) ∧ (l5 + (1 : Int32)).toNatClampNeg < x.2.2.2.2.2.2 := w1
  have w2 : 0 ≤ l5 + (2 : Int32) ∧ (l5 + (2 : Int32)).toNatClampNeg < x.2.2.2.2.2.2 := w2
  obtain ⟨v, hv⟩ : ∃ v, v = decide (hi (za 3004) (l5 + (2 : Int32)).toNatClampNeg ≠ 0) := ⟨_, rfl⟩
  obtain ⟨a, ha⟩ : ∃ a, a = hi (za 3004) (l5 + (1 : Int32)).toNatClampNeg := ⟨_, rfl⟩
  obtain ⟨h1, x1, e, ev, H1, HM1, k1, X⟩ := hd_ (Cf_setCurtain (a := a) (v := v) hO HC) HM
  obtain ⟨h2, e2, H2, f2⟩ := tlb_ (l := x1.2.1) (J := fun h => sh_L_law_3524 G rec l5 h x1) (F0 := fun h => some ((0 : Int32), h, x1)) (F1 := fun h => some ((0 : Int32), h, x1)) (P := fun t h => sh_L_law_3183 G rec l5 t x1.2.1 h x1) (fun t h => rfl) (Mf_setCurtain (G := G) (a := a) (v := v) (by omega) hO HM1) ev
  refine LB_.of (G := G) ((Of_cur (a := a) (v := v) hO).mono (by omega)) ⟨h2, x1, ?_, H1.cg f2, H2, fun k => (fM_w f2 k).trans (k1 k), X⟩
  have s1 : sh_L_law_3101 G rec l5 hi x = sh_L_law_3122 G rec l5 (b2 v) a hi x := by
    unfold sh_L_law_3101
    rw [if_pos w1, if_pos w2, ← ha, hv]
    by_cases c : hi (za 3004) (l5 + (2 : Int32)).toNatClampNeg = 0
    · rw [if_pos c, decide_eq_false (fun q => q c)]; rfl
    · rw [if_neg c, decide_eq_true c]; rfl
  have s2 : sh_L_law_3122 G rec l5 (b2 v) a hi x = sh_L_law_3149 G rec l5 (cC_ A a) (b2 v) a h1 x1 := by
    unfold sh_L_law_3122
    rw [e, bs]
    show (if 0 ≤ l5 + (1 : Int32) ∧ (l5 + (1 : Int32)).toNatClampNeg < x1.2.2.2.2.2.2 then if 0 ≤ l5 + (2 : Int32) ∧ (l5 + (2 : Int32)).toNatClampNeg < x1.2.2.2.2.2.2 then if h1 (za 3004) (l5 + (2 : Int32)).toNatClampNeg = 0 then sh_L_law_3149 G rec l5 (cC_ A a) (0 : Int32) (h1 (za 3004) (l5 + (1 : Int32)).toNatClampNeg) h1 x1 else sh_L_law_3149 G rec l5 (cC_ A a) (1 : Int32) (h1 (za 3004) (l5 + (1 : Int32)).toNatClampNeg) h1 x1 else none else none) = _
    rw [X.1, if_pos w1, if_pos w2, k1, k1, ← ha, hv]
    by_cases c : hi (za 3004) (l5 + (2 : Int32)).toNatClampNeg = 0
    · rw [if_pos c, decide_eq_false (fun q => q c)]; rfl
    · rw [if_neg c, decide_eq_true c]; rfl
  rw [s1, s2]
  exact e2
theorem lb_append (h : St_ G K A l5 hi x) : LB_ K (sh_L_law_316 G rec l5 hi x) rec l5 hi x := by
  obtain ⟨hG, hK1, hK, hO, HC, HM, hw⟩ := h
  have w1 : 0 ≤ l5 + (1 : Int32) ∧ (l5 + (1 : Int32)).toNatClampNeg < x.2.2.2.2.2.2 := hw 1 (by decide)
  have w2 : 0 ≤ l5 + (2 : Int32) ∧ (l5 + (2 : Int32)).toNatClampNeg < x.2.2.2.2.2.2 := hw 2 (by decide)
  have w3 : 0 ≤ l5 + (3 : Int32) ∧ (l5 + (3 : Int32)).toNatClampNeg < x.2.2.2.2.2.2 := hw 3 (by decide)
  have w4 : 0 ≤ l5 + (4 : Int32) ∧ (l5 + (4 : Int32)).toNatClampNeg < x.2.2.2.2.2.2 := hw 4 (by decide)
  have w5 : 0 ≤ l5 + (5 : Int32) ∧ (l5 + (5 : Int32)).toNatClampNeg < x.2.2.2.2.2.2 := hw 5 (by decide)
  obtain ⟨A', v, h1, e1, H1, f1, hO', cT⟩ := P_append (G := G) (a1 := hi (za 3004) (l5 + (1 : Int32)).toNatClampNeg) (a2 := hi (za 3004) (l5 + (2 : Int32)).toNatClampNeg) (a3 := hi (za 3004) (l5 + (3 : Int32)).toNatClampNeg) (a4 := hi (za 3004) (l5 + (4 : Int32)).toNatClampNeg) (a5 := hi (za 3004) (l5 + (5 : Int32)).toNatClampNeg) (by omega) hO HC
  obtain ⟨h3, e3, H3, f3⟩ := cT h1 (HM.cg f1)
  refine LB_.of (G := G) (hO'.mono (by omega)) ⟨h3, x, ?_, H1.cg f3, H3, fun k => (fM_w f3 k).trans (f1 _ _ (Or.inr rfl)), XB.refl x⟩
  have g : ∀ k, h1 (za 3004) k = hi (za 3004) k := fun k => f1 _ _ (Or.inr rfl)
  unfold sh_L_law_316
  rw [if_pos w1, if_pos w2, if_pos w3, if_pos w4, if_pos w5, e1, bs, if_pos w1, if_pos w2, if_pos w3, if_pos w4, if_pos w5]
  show ((sh_X10_append G (h1 (za 3004) (l5 + (1 : Int32)).toNatClampNeg) (h1 (za 3004) (l5 + (2 : Int32)).toNatClampNeg) (h1 (za 3004) (l5 + (3 : Int32)).toNatClampNeg) (h1 (za 3004) (l5 + (4 : Int32)).toNatClampNeg) (h1 (za 3004) (l5 + (5 : Int32)).toNatClampNeg) h1).bind fun v124 => if v = v124.1 then sh_L_law_3524 G rec l5 v124.2 x else some ((0 : Int32), v124.2, x)) = _
  rw [g, g, g, g, g, e3, bs]
  exact if_pos rfl
end LBR
