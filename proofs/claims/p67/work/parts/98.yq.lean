/-! THE LAW ANSWERS 1 -/
section KLL
variable {r c l4 l5 G : Nat} {A : As_} {hi : HI} {x : AX}
theorem XK.z {k : Nat} {x x1 x2 : AX} (a : XK k x x1) (b : XK 0 x1 x2) : XK k x x2 := by
  obtain ⟨⟨a1, a2⟩, a3, a4⟩ := a
  obtain ⟨⟨b1, b2⟩, b3, b4⟩ := b
  exact ⟨⟨b1.trans a1, b2.trans a2⟩, by omega, by omega⟩
theorem K_loop (hG : 600 < G) : ∀ n i F (A : As_) (hi : HI) (x : AX), i + n = 20 → n < F → LI (2000 + 300 * i) (10000 + 1500 * i) r c l4 l5 A hi x → Gd (sl_L_law_60 G F 1 l4 l5 (nI i) hi x) (fun v => v.1 = 1 ∧ XK 0 x v.2.2) := fun n => by
  induction n with
  | zero =>
    intro i F A hi x h1 h2 S
    obtain ⟨F, rfl⟩ : ∃ f, F = f + 1 := ⟨F - 1, by omega⟩
    exact K_step (rec60 := sl_L_law_60 G F) hG (by omega) (by omega) (by omega) S (fun _ => ⟨rfl, ⟨rfl, rfl⟩, Nat.le_refl _, Nat.le_refl _⟩) (fun q => by omega)
  | succ n ih =>
    intro i F A hi x h1 h2 S
    obtain ⟨F, rfl⟩ : ∃ f, F = f + 1 := ⟨F - 1, by omega⟩
    refine K_step (rec60 := sl_L_law_60 G F) hG (by omega) (by omega) (by omega) S (fun _ => ⟨rfl, ⟨rfl, rfl⟩, Nat.le_refl _, Nat.le_refl _⟩) (fun q A1 h1 x1 L X => ?_)
    have e : nI i + 1 = nI (i + 1) := nI_add i 1
    rw [e]
    exact gd_w (ih (i + 1) F A1 h1 x1 (by omega) (by omega) (L.mono (by omega) (by omega))) (fun v q => ⟨q.1, X.z q.2⟩)
theorem K_all (hG : 70000 < G) (H : RC A hi x) (hO : Ok_ 2000 A) (h0 : A.nb = 0) (Z : Z_ hi x) (hn : ndx x = 0) (hs : slx x < 2 ^ 31) : ∃ h1 x1, sl_L_law G hi x = some ((1 : Int32), h1, x1) ∧ XK 300 x x1 := by
  have g := K_law (P := fun v => v.1 = 1 ∧ XK 300 x v.2.2) hG H hO h0 Z hn hs (fun A r c l4 l5 hi1 x1 L X => gd_w (K_loop (by omega) 20 0 G A hi1 x1 (by omega) (by omega) (L.mono (by omega) (by omega))) (fun v q => ⟨q.1, X.z q.2⟩))
  obtain ⟨⟨v, h1, x1⟩, e, q1, q2⟩ := g
  have q1 : v = 1 := q1
  subst q1
  exact ⟨h1, x1, e, q2⟩
end KLL
