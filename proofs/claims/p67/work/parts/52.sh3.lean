/-! the tokens' signs -/
def xs (x : AX) (j : Nat) (v : AV) : AX := (fun k => if k = j then v else x.1 k, x.2)
theorem rf_36 (sg : Nat → AV) (rd : AA → Nat → AV) (j : Nat) (v : AV) : am_u (am_RF sg rd) (za 36) j v = am_RF (fun k => if k = j then v else sg k) rd := by
  funext b k
  unfold am_u
  by_cases hk : k = j
  · subst hk
    rw [if_pos rfl]
    by_cases hb : b = za 36
    · subst hb
      rw [if_pos rfl]
      show v = (if k = k then v else sg k)
      rw [if_pos rfl]
    · rw [if_neg hb]
      rcases b with ⟨i, j2⟩ | y | n | q
      · rfl
      · rfl
      rotate_left
      · rfl
      · by_cases hn : n = 36
        · exact absurd (by rw [hn]) hb
        · have e : Nat.beq n 36 = false := by
            cases h9 : Nat.beq n 36 with
            | false => rfl
            | true => exact absurd (Nat.eq_of_beq_eq_true h9) hn
          show (bif Nat.beq n 36 then _ else _) = (bif Nat.beq n 36 then _ else _)
          rw [e]
          rfl
  · rw [if_neg hk]
    rcases b with ⟨i, j2⟩ | y | n | q
    · rfl
    · rfl
    rotate_left
    · rfl
    · show _ = (bif Nat.beq n 36 then (if k = j then v else sg k) else _)
      rw [if_neg hk]
      rfl
theorem st_aast {ih : AK} {mr : MR} {pc l tg : Nat} {r : List CI} {ls : AL} {st : List AV} {hi : HI} {x : AX} {d : Nat} {j : Int32} {q : Fin 37} : am_step ih mr ((pc, .aastore, l, tg) :: r) ls (Sum.inr (ga q) :: vi j :: Sum.inr (za 36) :: st) (hp hi x) d = if 0 ≤ j ∧ j.toNatClampNeg < 501 then ih mr r ls st (hp hi (xs x j.toNatClampNeg (gr' q))) d else none := by
  show (if 0 ≤ j ∧ j.toNatClampNeg < 501 then ih mr r ls st (hi, am_u (am_RF x.1 x.2.2.1.1) (za 36) j.toNatClampNeg (gr' q), (hp hi x).2.2) d else none) = _
  rw [rf_36]
  rfl
def sg_of : AV → Option (Fin 37)
  | Sum.inr (Sum.inr (Sum.inl q)) => some q
  | Sum.inl .null => some 36
  | _ => none
def sh_sign (sg : Nat → AV) (hi : HI) : Option (Fin 37) := if hi (za 35) 4 < 0 then some 36 else if hi (za 35) 3 ≤ hi (za 35) 4 then some 36 else if (501 : Int32) ≤ hi (za 35) 4 then some 36 else if 0 ≤ hi (za 35) 4 ∧ (hi (za 35) 4).toNatClampNeg < 501 then sg_of (sg (hi (za 35) 4).toNatClampNeg) else none
theorem ec_sign (sg : Nat → AV) (hi : HI) {y : AY} {d : Nat} {r : Fin 37} (H : sh_sign sg hi = some r) : Rn mX6_sign [Sum.inr (za 35)] (hp hi (sg, y)) (d + 1) (rG0 hi (sg, y) r) := Rn.of (C := (0, [some (Sum.inr (za 35)), none], [], hp hi (sg, y))) (fun g => rfl) (by
  have hnull : ∀ r : Fin 37, some (36 : Fin 37) = some r → Ec mX6_sign (d + 1) (42, [some (Sum.inr (za 35)), none], [], hp hi (sg, y)) (rG0 hi (sg, y) r) := fun r H => ec_ret H 7 (fun g => rfl)
  unfold sh_sign at H
  refine ec_ite H 3 (42, [some (Sum.inr (za 35)), none], [], hp hi (sg, y)) (7, [some (Sum.inr (za 35)), none], [], hp hi (sg, y)) (fun g => rfl) (hnull r) (fun H => ?_)
  refine ec_ite H 5 (42, [some (Sum.inr (za 35)), none], [], hp hi (sg, y)) (18, [some (Sum.inr (za 35)), none], [], hp hi (sg, y)) (fun g => rfl) (hnull r) (fun H => ?_)
  refine ec_ite H 6 (42, [some (Sum.inr (za 35)), none], [], hp hi (sg, y)) (30, [some (Sum.inr (za 35)), none], [], hp hi (sg, y)) (fun g => rfl) (hnull r) (fun H => ?_)
  by_cases hc : 0 ≤ hi (za 35) 4 ∧ (hi (za 35) 4).toNatClampNeg < 501
  case neg =>
    rw [if_neg hc] at H
    cases H
  rw [if_pos hc] at H
  have hk : ∀ ih : AK, Sv 5 ih mX6_sign (d + 1) (30, [some (Sum.inr (za 35)), none], [], hp hi (sg, y)) = if 0 ≤ hi (za 35) 4 ∧ (hi (za 35) 4).toNatClampNeg < 501 then am_pr (fun v => ih mX6_sign (am_jmp 39 mX6_sign.2.2.1) [some (Sum.inr (za 35)), none] [v] (hp hi (sg, y)) (d + 1)) (sg (hi (za 35) 4).toNatClampNeg) else none := fun ih => rfl
  cases hv : sg (hi (za 35) 4).toNatClampNeg with
  | inl v =>
    rw [hv] at H
    cases v with
    | null =>
      refine ec_seg 5 (39, [some (Sum.inr (za 35)), none], [Sum.inl .null], hp hi (sg, y)) (fun ih => ?_) (ec_ret H 7 (fun g => rfl))
      rw [hk, if_pos hc, hv]
      rfl
    | _ => cases H
  | inr a =>
    rw [hv] at H
    rcases a with a | q | n | q
    · cases H
    · refine ec_seg 5 (39, [some (Sum.inr (za 35)), none], [gr' q], hp hi (sg, y)) (fun ih => ?_) (ec_ret H 6 (fun g => rfl))
      rw [hk, if_pos hc, hv]
      rfl
    · cases H
    · cases H)
theorem ec_ordinal (q : Fin 37) (hi : HI) {x : AX} {d : Nat} : Rn mJx29ce0_ordinal_8abf5 [Sum.inr (ga q)] (hp hi x) (d + 1) (rI0 hi x (nI q.val)) := Rn.of (C := (0, [some (Sum.inr (ga q))], [], hp hi x)) (fun g => rfl) (ec_ret (R := rI0 hi x) (v := nI q.val) rfl 3 (fun g => rfl))
theorem st_swm {ih : AK} {mr : MR} {pc l tg : Nat} {r : List CI} {ls : AL} {st : List AV} {hi : HI} {x : AX} {d : Nat} {q : Fin 37} : am_step ih mr ((pc, .iaload, l, tg) :: r) ls (vi (nI q.val) :: Sum.inr (za 3001) :: st) (hp hi x) d = ih mr r ls (vi (nI (am_swm.getD q.val 0)) :: st) (hp hi x) d := by
  have hq : q.val < 2 ^ 31 := by omega
  show (if 0 ≤ nI q.val ∧ (nI q.val).toNatClampNeg < 37 then ih mr r ls (vi (nI (am_swm.getD (nI q.val).toNatClampNeg 0)) :: st) (hp hi x) d else none) = _
  rw [nI_clamp hq, if_pos ⟨nI_pos' hq, q.isLt⟩]
