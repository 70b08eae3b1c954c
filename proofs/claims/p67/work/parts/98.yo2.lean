/-! steps only grow -/
section N12
variable {w w1 : Wd} {K B M : Nat}
theorem n12_walk : ∀ (f : Nat) (w : Wd), wi_ w → ∃ j, j ≤ f ∧ p_walk f w 12 = w 12 + nI j := fun f => by
  induction f with
  | zero => exact fun w _ => ⟨0, Nat.le_refl _, (Int32.add_zero _).symm⟩
  | succ f ih =>
    intro w hw
    have tn : ∃ j, j ≤ f + 1 ∧ p_walk f (p_turn w) 12 = w 12 + nI j := by
      obtain ⟨j, h1, h2⟩ := ih _ hw.turn
      refine ⟨j, by omega, ?_⟩
      rw [h2, show p_turn w 12 = w 12 from (ki_turn (w := w)).2.1]
    rw [p_walk_s]
    cases e : p_nb w (nn w 8) (p_way w) with
    | none => exact tn
    | some t =>
      have ht := p_nb_lt hw.1 hw.2.2 e
      show ∃ j, j ≤ f + 1 ∧ (if p_can w (some t) = true then _ else _ : Wd) 12 = w 12 + nI j
      split
      · have ks := ki_slide (m := p_way w) hw.1 ht
        have hw2 := wi_.step (m := p_way w) hw.1 ht
        have e1 : p_enter (p_slide w t (p_way w)) t 12 = w 12 + nI 1 := by
          rw [← ks.2.1]
          unfold p_enter p_count
          rw [upd_ne (by omega), upd_ne (by omega), upd_ne (by omega), upd_eq, upd_ne (by omega), upd_ne (by omega)]
          rfl
        have ne : ∃ j, j ≤ f + 1 ∧ p_walk f (p_enter (p_slide w t (p_way w)) t) 12 = w 12 + nI j := by
          obtain ⟨j, h1, h2⟩ := ih _ hw2
          exact ⟨1 + j, by omega, by rw [h2, e1, Int32.add_assoc, nI_add]⟩
        split
        · exact ne
        · split
          · exact ne
          · exact ⟨1, by omega, by
              unfold p_pause
              rw [upd_ne (by omega), upd_ne (by omega)]
              exact e1⟩
      · exact tn
theorem n12_70 (hst : st_ w) : p_70 w 12 = w 12 := by
  have hr := hst.rc.2
  have hc := hst.c.2.2
  have a : Ki w (p_min (p_dryN (p_rc w) 0 w)) := (ki_dry _ 0 _ (by omega)).trans (Ki.refl.u (by omega))
  have b : ∀ w1, Kp w w1 → p_99 w1 12 = w1 12 := fun w1 k => by
    have e := k.nn.2
    exact ((ki_blow _ 0 _ (by omega)).trans ki_reloc).2.1
  have nt : ∀ w1, p_nite w1 12 = w1 12 := fun w1 => by
    unfold p_nite
    rw [upd_ne (by omega), upd_ne (by omega), upd_ne (by omega)]
  have nn : ∀ w1, p_night w1 12 = w1 12 := fun w1 => by
    unfold p_night
    split
    · exact nt _
    · rw [nt]
      unfold p_rec
      split
      · show (if 12 = 19 then _ else if 404 ≤ 12 ∧ 12 < _ then _ else w1 12) = w1 12
        rw [if_neg (by omega), if_neg (by omega)]
      · rfl
  unfold p_70
  split
  · rw [b _ a.1]; exact a.2.1
  · rw [b _ (a.1.trans kp_night), nn]; exact a.2.1
theorem n12_pass (hK : K < 2 ^ 29) (hi : ib_ K B 0 w) : ∃ j, j ≤ 5 ∧ p_pass w 12 = w 12 + nI j := by
  have hc := hi.cat
  have ec : p_cat w 12 = w 12 := (ki_cat hi).2.1
  have z : ∀ y : Int32, y = y + nI 0 := fun y => (Int32.add_zero y).symm
  unfold p_pass p_25
  split
  · by_cases q : p_cat w 8 = -1
    · rw [if_pos q]
      exact ⟨0, by omega, by rw [n12_70 hc.1, ec]; exact z _⟩
    · rw [if_neg q]
      have hw : wi_ (p_cat w) := by
        rcases hc.2.2.1.1.1 with o | o
        · exact absurd o q
        · exact ⟨hc.1, o.1, o.2⟩
      have hrs := hc.2.2.2
      obtain ⟨n, hn, en⟩ := tries_n hrs.1 hrs.2.1.1 (by have := hrs.2.1.2.2; omega)
      have e : (p_tries (p_cat w)).toNatClampNeg = n := by rw [en, nI_clamp (by omega)]
      rw [e]
      obtain ⟨j, h1, h2⟩ := n12_walk n _ hw
      exact ⟨j, by omega, by rw [n12_70 (st_walk n _ hw), h2, ec]⟩
  · refine ⟨0, by omega, ?_⟩
    rw [n12_70 (hc.1.u (by unfold sk; omega)), upd_ne (by omega), ec]
    exact z _
theorem n12_passN : ∀ (n K B : Nat) (w : Wd), K + n < 2 ^ 29 → B + 5 * n < 2 ^ 30 → ib_ K B 0 w → ∃ j, j ≤ 5 * n ∧ p_passN n w 12 = w 12 + nI j
  | 0, _, _, w, _, _, _ => ⟨0, by omega, (Int32.add_zero (w 12)).symm⟩
  | n + 1, K, B, w, h1, h2, hi => by
    obtain ⟨j, a, b⟩ := n12_pass (by omega) hi
    obtain ⟨j2, a2, b2⟩ := n12_passN n (K + 1) (B + 5) (p_pass w) (by omega) (by omega) (hi.pass (by omega) (by omega))
    exact ⟨j + j2, by omega, by rw [p_passN_s, b2, b, Int32.add_assoc, nI_add]⟩
theorem sub64 {a j : Nat} (h : a + j < 2 ^ 30) : (nI a + nI j - nI a).toInt64 = (nI a + nI j).toInt64 - (nI a).toInt64 ∧ ¬ (nI a + nI j - nI a) < 0 := by
  rw [nI_add, pk_sub (by omega), Nat.add_sub_cancel_left]
  refine ⟨?_, nI_pos (by omega)⟩
  refine Int64.toInt_inj.mp ?_
  rw [Int64.toInt_sub, Int32.toInt_toInt64, Int32.toInt_toInt64, Int32.toInt_toInt64, nI_toInt (by omega), nI_toInt (by omega), nI_toInt (by omega), Int.bmod_def]
  omega
end N12
