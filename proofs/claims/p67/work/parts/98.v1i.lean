/-! what a text leaves keeps the bounds -/
section IT
variable {V : TV}
theorem XS.IB {w : Wd} {sim : Nat} (h : XS w) (hm : sim ≤ 2000) : IBp sim w := ⟨h.ib.mono (Nat.zero_le _) (Nat.zero_le _), hm⟩
/-- what a text leaves keeps the bounds -/
theorem I_text : ∀ (f s : Nat) (w : Wd) (sim : Nat) (beg : Bool), IBp sim w → (beg = false → XS w) → ∀ s1 w1 sim1, r_text V f s w sim beg = Sum.inr (s1, w1, sim1) → IBp sim1 w1 := fun f => by
  induction f with
  | zero =>
    intro s w sim beg _ _ s1 w1 sim1 e
    cases e
  | succ f ih =>
    intro s w sim beg hI hX s1 w1 sim1 e
    have hI3 : IBp sim (if beg = true then w else p_reloc w) := by
      cases beg with
      | true => exact hI
      | false => exact ⟨hI.1.reloc, hI.2⟩
    rw [r_text_s] at e
    by_cases c31 : sgV V s = 31
    case neg =>
      rw [if_neg c31] at e
      by_cases c36 : sgV V s = 36
      · rw [if_pos c36] at e
        cases e
        exact hI3
      · rw [if_neg c36] at e
        cases e
    rw [if_pos c31] at e
    by_cases cs : beg = false ∧ 1 ≤ (sgV V (nxV V s)).val ∧ (sgV V (nxV V s)).val ≤ 13
    · rw [if_pos cs] at e
      obtain ⟨rfl, cs2⟩ := cs
      have hsl : nxV V s < V.2.1 := sg_lt_n (fun e => by rw [e] at cs2; revert cs2; decide)
      have gi := XI_set (V := V) (s := nxV V s) (sim := sim) hsl (hX rfl)
      cases e2 : x_set V (nxV V s) w sim with
      | inl cp => rw [e2] at e; cases e
      | inr r =>
        obtain ⟨s2, w2, sim2⟩ := r
        rw [e2] at e gi
        have es : sim2 = sim := SM_set _ _ _ e2
        subst es
        exact ih s2 w2 sim2 false ((gi.1 : XS w2).IB hI.2) (fun _ => gi.1) _ _ _ e
    · rw [if_neg cs] at e
      have gi := XI_rev (V := V) 3 (nxV V s) (if beg = true then w else p_reloc w) sim hI3
      cases e2 : r_ev V 3 (nxV V s) (if beg = true then w else p_reloc w) sim with
      | inl cp => rw [e2] at e; cases e
      | inr r =>
        obtain ⟨s2, w2, sim2⟩ := r
        rw [e2] at e gi
        exact ih s2 w2 sim2 true gi.1 (fun z => by cases z) _ _ _ e
theorem xb_as {α β γ : Type} {a : XR α} {k : α → XR β} {k2 : β → XR γ} : xb (xb a k) k2 = xb a fun v => xb (k v) k2 := by
  cases a <;> rfl
theorem r_all_I {s1 sim1 : Nat} {w1 : Wd} (hn : V.2.1 ≤ 500) (e : r_all V = Sum.inr (s1, w1, sim1)) : IBp sim1 w1 := by
  unfold r_all x_floor at e
  by_cases c : sgV V (t_skip V.1 V.2.1 0) = 0
  · rw [if_pos c, xb_as] at e
    cases er : x_num V (nxV V (t_skip V.1 V.2.1 0)) 2 8 with
    | inl q => rw [er] at e; cases e
    | inr r =>
      rw [er] at e
      have e : xb (xb (x_num V (nxV V (nxV V (t_skip V.1 V.2.1 0))) 2 10) fun c => Sum.inr (nxV V (nxV V (nxV V (t_skip V.1 V.2.1 0))), p_start (nI r) (nI c), 0)) (fun r => r_text V 501 r.1 r.2.1 r.2.2 false) = Sum.inr (s1, w1, sim1) := e
      cases ec : x_num V (nxV V (nxV V (t_skip V.1 V.2.1 0))) 2 10 with
      | inl q => rw [ec] at e; cases e
      | inr c =>
        rw [ec] at e
        obtain ⟨-, a2, a3, -⟩ := x_num_ok er
        obtain ⟨-, b2, b3, -⟩ := x_num_ok ec
        have hX := XS_start a2 a3 b2 b3
        exact I_text 501 _ _ 0 false (hX.IB (Nat.zero_le _)) (fun _ => hX) _ _ _ e
  · rw [if_neg c] at e
    cases e
end IT
