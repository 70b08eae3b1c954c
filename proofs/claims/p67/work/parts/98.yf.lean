/-! rows and columns stay -/
def Kp (w w1 : Wd) : Prop := w1 0 = w 0 ∧ w1 1 = w 1
section KP
variable {w w1 w2 : Wd}
theorem Kp.refl : Kp w w := ⟨rfl, rfl⟩
theorem Kp.trans (a : Kp w w1) (b : Kp w1 w2) : Kp w w2 := ⟨b.1.trans a.1, b.2.trans a.2⟩
theorem Kp.u {k : Nat} {v : Int32} (a : Kp w w1) (h : 2 ≤ k) : Kp w (upd w1 k v) := ⟨(upd_ne (by omega)).trans a.1, (upd_ne (by omega)).trans a.2⟩
theorem Kp.nn (a : Kp w w1) : nn w1 0 = nn w 0 ∧ nn w1 1 = nn w 1 := ⟨nn_cg a.1, nn_cg a.2⟩
theorem Kp.rc (a : Kp w w1) : p_rc w1 = p_rc w := by
  unfold p_rc
  rw [a.nn.1, a.nn.2]
theorem kp_bowl : Kp w (p_bowl w) := by
  have s : Kp w (p_spl w) := (Kp.refl.u (by omega)).u (by omega)
  unfold p_bowl
  split
  · split
    · exact s
    · split
      · exact s
      · unfold p_startle
        split
        · exact s
        · split
          · exact s.u (by omega)
          · exact s.u (by omega)
  · exact ((s.u (by omega)).u (by omega)).u (by omega)
theorem kp_cat : Kp w (p_cat w) := by
  have c : Kp w (p_catm w) := by
    unfold p_catm
    refine Kp.u ?_ (by omega)
    split
    · exact Kp.refl
    · split
      · exact Kp.refl.u (by omega)
      · exact Kp.refl
  unfold p_cat
  split
  · exact Kp.refl
  · split
    · exact c
    · exact c.trans kp_bowl
theorem kp_turn : Kp w (p_turn w) := (Kp.refl.u (by omega)).u (by omega)
theorem kp_enter {t : Nat} : Kp w (p_enter w t) := ((((((Kp.refl.u (by omega)).u (by omega)).u (by omega)).u (by omega)).u (by omega)).u (by omega))
theorem kp_slide {t m : Nat} : Kp w (p_slide w t m) := by
  unfold p_slide
  split
  · exact Kp.refl
  · split
    · exact Kp.refl
    · split
      · split
        · exact ((Kp.refl.u (by omega)).u (by omega)).u (by omega)
        · exact Kp.refl
      · exact Kp.refl
theorem kp_walk : ∀ (f : Nat) (w : Wd), Kp w (p_walk f w) := fun f => by
  induction f with
  | zero => exact fun w => Kp.refl
  | succ f ih =>
    intro w
    rw [p_walk_s]
    split
    · exact kp_turn.trans (ih _)
    · split
      · have a : ∀ t m, Kp w (p_enter (p_slide w t m) t) := fun t m => kp_slide.trans kp_enter
        split
        · exact (a _ _).trans (ih _)
        · split
          · exact (a _ _).trans (ih _)
          · exact ((a _ _).u (by omega)).u (by omega)
      · exact kp_turn.trans (ih _)
theorem kp_dry : ∀ f k (w : Wd), Kp w (p_dryN f k w) := fun f => by
  induction f with
  | zero => exact fun k w => Kp.refl
  | succ f ih =>
    intro k w
    rw [p_dryN_s]
    have a : Kp w (p_dry1 w k) := by
      unfold p_dry1
      split
      · exact Kp.refl
      · exact Kp.refl.u (by omega)
    exact a.trans (ih _ _)
theorem kp_blow : ∀ f k (w : Wd), Kp w (p_blowN f k w) := fun f => by
  induction f with
  | zero => exact fun k w => Kp.refl
  | succ f ih =>
    intro k w
    rw [p_blowN_s]
    have a : Kp w (p_blow1 w k) := by
      unfold p_blow1
      split
      · exact Kp.refl
      · split
        · exact Kp.refl
        · exact Kp.refl.u (by omega)
    exact a.trans (ih _ _)
theorem kp_reloc : Kp w (p_reloc w) := by
  unfold p_reloc
  split
  · split
    · exact Kp.refl.u (by omega)
    · exact ((Kp.refl.u (by omega)).u (by omega)).u (by omega)
  · exact Kp.refl
theorem kp_rec {n s : Int32} : Kp w (p_rec w n s) := by
  unfold p_rec
  split
  · exact ⟨rfl, rfl⟩
  · exact Kp.refl
theorem kp_nite : Kp w (p_nite w) := ((Kp.refl.u (by omega)).u (by omega)).u (by omega)
theorem kp_night : Kp w (p_night w) := by
  unfold p_night
  split
  · exact kp_nite
  · exact kp_rec.trans kp_nite
theorem kp_99 : Kp w (p_99 w) := (kp_blow _ _ _).trans kp_reloc
theorem kp_70 : Kp w (p_70 w) := by
  have a : Kp w (p_min (p_dryN (p_rc w) 0 w)) := (kp_dry _ _ _).trans (Kp.refl.u (by omega))
  unfold p_70
  split
  · exact a.trans kp_99
  · exact (a.trans kp_night).trans kp_99
theorem kp_pass : Kp w (p_pass w) := by
  unfold p_pass p_25
  refine kp_cat.trans ?_
  split
  · split
    · exact kp_70
    · exact (kp_walk _ _).trans kp_70
  · exact Kp.trans (Kp.refl.u (by omega)) kp_70
theorem kp_passN : ∀ (n : Nat) (w : Wd), Kp w (p_passN n w) := fun n => by
  induction n with
  | zero => exact fun w => Kp.refl
  | succ n ih => exact fun w => kp_pass.trans (ih _)
end KP
