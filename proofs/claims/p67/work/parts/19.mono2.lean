theorem am_ge_step {ih : AK} (hih : am_gk ih) : am_gk (am_step ih) := by
  intro a b mr rest ls st h d h1 h2
  have hi : ∀ (mr : MR) (r : List CI) (ls : AL) (st : List AV) (h3 : AH) (d : Nat), h3.nc = h.nc → h3.ns = h.ns → am_ge a b (ih mr r ls st h3 d) := fun _ _ _ _ _ _ e1 e2 => hih _ _ _ _ _ _ _ _ (by rw [e1]; exact h1) (by rw [e2]; exact h2)
  have hs : ∀ o, am_ge a b (some (o, h)) := fun o => am_ge.some h1 h2
  cases rest with
  | nil => exact am_ge.none
  | cons e r =>
    obtain ⟨pc, ins, len, tgt⟩ := e
    cases ins
    all_goals
      unfold am_step
      dsimp only
      repeat' first
        | (with_reducible exact am_ge.none)
        | (with_reducible refine hi _ _ _ _ _ _ ?_ ?_)
        | (with_reducible exact hs _)
        | (with_reducible exact am_ge_call hih h1 h2)
        | (refine am_ge_mk h1 h2 (fun x h3 g1 g2 => ?_); exact hih _ _ _ _ _ _ _ _ g1 g2)
        | (refine am_ge_pf h1 h2 (fun h3 g1 g2 => ?_); exact hih _ _ _ _ _ _ _ _ g1 g2)
        | (with_reducible refine am_ge_pr (fun v => ?_))
        | (with_reducible refine am_ge_tsw (fun v => ?_))
        | (with_reducible refine am_ge_lsw (fun v => ?_))
        | (with_reducible refine am_ge_nr ?_)
        | (with_reducible refine am_ge_aq ?_ ?_)
        | (with_reducible refine am_ge_bif ?_ ?_)
        | (with_reducible refine am_ge_ite ?_ ?_)
        | (with_reducible exact am_ge.some (Nat.le_succ_of_le h1) (Nat.le_add_right_of_le h2))
        | rfl
        | split
        | exact am_ge.some (Nat.le_succ_of_le h1) (Nat.le_add_right_of_le h2)
theorem am_ge_ev : ∀ f : Nat, am_gk (am_ev f)
  | 0 => fun _ _ _ _ _ _ _ _ _ _ => am_ge.none
  | f + 1 => am_ge_step (am_ge_ev f)
theorem am_mono {f d : Nat} {mr : MR} {r : List CI} {ls : AL} {st : List AV} {h h1 : AH} {o : AO} (hq : am_ev f mr r ls st h d = some (o, h1)) : h.nc ≤ h1.nc ∧ h.ns ≤ h1.ns := am_ge_ev f h.nc h.ns mr r ls st h d (Nat.le_refl _) (Nat.le_refl _) o h1 hq
