/-! texts: length, charAt -/
section TXT
variable {w : Nat} {x : AX} {d : Nat}
theorem ec_slen (w : Nat) (hw : w < 60) (hi : HI) : Rn mJ0_length_8abf5 [Sum.inr (za (1000 + w))] (hp hi x) (d + 2) (rI0 hi x (sh_slen w)) := Rn.of (C := (0, [some (Sum.inr (za (1000 + w)))], [], hp hi x)) (fun g => rfl) (by
  have hno : am_noS (Sum.inr (za (1000 + w))) = true := rfl
  refine ec_seg 1 (1, [some (Sum.inr (za (1000 + w)))], [Sum.inr (za (1000 + w))], hp hi x) (fun g => rfl) ?_
  refine ec_seg 1 (4, [some (Sum.inr (za (1000 + w)))], [Sum.inr (za (2000 + w))], hp hi x) (fun g => st_gval (ih := g) (mr := mJ0_length_8abf5) (pc := 1) (l := 3) (tg := 0) (k := 9) (r := am_jmp 4 mJ0_length_8abf5.2.2.1) (ls := [some (Sum.inr (za (1000 + w)))]) (st := []) (hi := hi) (x := x) (d := d + 2) hw rfl) ?_
  refine ec_seg 1 (5, [some (Sum.inr (za (1000 + w)))], [vi (nI (am_strlen w))], hp hi x) (fun g => st_blen (pc := 4) (l := 1) (tg := 0) hw) ?_
  refine ec_seg 1 (6, [some (Sum.inr (za (1000 + w)))], [Sum.inr (za (1000 + w)), vi (nI (am_strlen w))], hp hi x) (fun g => rfl) ?_
  refine ec_call (kind := 0) (n0 := 0) (ci := 0) (n := 1) (v := vi 0) (h1 := hp hi x) 9 [Sum.inr (za (1000 + w))] [vi (nI (am_strlen w))] (fun ih => rfl) rfl rfl rfl ?_ rfl ?_ ?_ ?_
  · rfl
  · show (true && (false || (Nat.beq (am_ty (hp hi x) (za (1000 + w))).1 0 && true))) = true
    rw [ty_s hw]
    rfl
  · refine Rn.of (C := (0, [some (Sum.inr (za (1000 + w)))], [], hp hi x)) (fun g => rfl) ?_
    refine ec_seg 3 (7, [some (Sum.inr (za (1000 + w)))], [Sum.inr (za (1000 + w))], hp hi x) (fun g => rfl) ?_
    refine ec_seg 1 (10, [some (Sum.inr (za (1000 + w)))], [vi 0], hp hi x) (fun g => st_gcod (ih := g) (mr := mJ0_coder_7d493) (pc := 7) (l := 3) (tg := 0) (k := 15) (r := am_jmp 10 mJ0_coder_7d493.2.2.1) (ls := [some (Sum.inr (za (1000 + w)))]) (st := []) (hi := hi) (x := x) (d := d + 1) hw rfl) ?_
    exact ec_ret (R := rI0 hi x) (v := 0) rfl 2 (fun g => rfl)
  · refine ec_ret (R := rI0 hi x) (v := sh_slen w) rfl 2 (fun g => ?_)
    have e : nI (am_strlen w) >>> ((0 : Int32) &&& 31) = nI (am_strlen w) := by
      have h31 : ((0 : Int32) &&& 31) = 0 := by decide
      rw [h31]
      exact Int32.shiftRight_zero
    show some (Sum.inl (some (vi (nI (am_strlen w) >>> ((0 : Int32) &&& 31)))), hp hi x) = _
    rw [e]
    rfl)
theorem ch_small : ∀ w, w < 60 → ∀ c ∈ am_str.getD w [], c < 256 := by decide +kernel
theorem ch_len : ∀ w, w < 60 → am_strlen w < 2 ^ 31 := by decide +kernel
theorem ch_conv : ∀ c, c < 256 → ((nI c &&& 255).toUInt32 % 65536).toInt32 = nI c ∧ (nI c).toUInt32.toUInt16.toUInt32.toInt32 = nI c := by decide +kernel
theorem ec_schar (w : Nat) (hw : w < 60) (j : Int32) (hi : HI) {r : Int32} (H : sh_schar w j = some r) : Rn mJ0_charAt_5068e [Sum.inr (za (1000 + w)), vi j] (hp hi x) (d + 5) (rI0 hi x r) := Rn.of (C := (0, [some (Sum.inr (za (1000 + w))), some (vi j)], [], hp hi x)) (fun g => rfl) (by
  have hno : am_noS (Sum.inr (za (1000 + w))) = true := rfl
  have hno2 : am_noS (Sum.inr (za (2000 + w))) = true := rfl
  by_cases hj : 0 ≤ j ∧ j.toNatClampNeg < am_strlen w
  case neg =>
    have h2 : sh_schar w j = none := if_neg hj
    rw [h2] at H
    cases H
  have h2 : sh_schar w j = some (nI ((am_str.getD w []).getD j.toNatClampNeg 0)) := if_pos hj
  rw [h2] at H
  have hr : nI ((am_str.getD w []).getD j.toNatClampNeg 0) = r := Option.some.inj H
  have hc : (am_str.getD w []).getD j.toNatClampNeg 0 < 256 := by
    have hlt : j.toNatClampNeg < (am_str.getD w []).length := hj.2
    rw [List.getD_eq_getElem?_getD, List.getElem?_eq_getElem hlt]
    exact ch_small w hw _ (List.getElem_mem hlt)
  generalize hcc : (am_str.getD w []).getD j.toNatClampNeg 0 = c at hc hr
  subst hr
  refine ec_seg 1 (1, [some (Sum.inr (za (1000 + w))), some (vi j)], [Sum.inr (za (1000 + w))], hp hi x) (fun g => rfl) ?_
  refine ec_call (kind := 0) (n0 := 0) (ci := 0) (n := 1) (v := vi 1) (h1 := hp hi x) 4 [Sum.inr (za (1000 + w))] [] (fun ih => rfl) rfl rfl rfl ?_ rfl ?_ ?_ ?_
  · rfl
  · show (true && (false || (Nat.beq (am_ty (hp hi x) (za (1000 + w))).1 0 && true))) = true
    rw [ty_s hw]
    rfl
  · refine Rn.of (C := (0, [some (Sum.inr (za (1000 + w)))], [], hp hi x)) (fun g => rfl) ?_
    refine ec_seg 3 (7, [some (Sum.inr (za (1000 + w)))], [Sum.inr (za (1000 + w))], hp hi x) (fun g => rfl) ?_
    refine ec_seg 1 (10, [some (Sum.inr (za (1000 + w)))], [vi 0], hp hi x) (fun g => st_gcod (ih := g) (mr := mJ0_isLatin1_aae02) (pc := 7) (l := 3) (tg := 0) (k := 15) (r := am_jmp 10 mJ0_isLatin1_aae02.2.2.1) (ls := [some (Sum.inr (za (1000 + w)))]) (st := []) (hi := hi) (x := x) (d := d + 4) hw rfl) ?_
    exact ec_ret (R := rI0 hi x) (v := 1) rfl 4 (fun g => rfl)
  refine ec_seg 2 (8, [some (Sum.inr (za (1000 + w))), some (vi j)], [Sum.inr (za (1000 + w))], hp hi x) (fun g => rfl) ?_
  refine ec_seg 1 (11, [some (Sum.inr (za (1000 + w))), some (vi j)], [Sum.inr (za (2000 + w))], hp hi x) (fun g => st_gval (ih := g) (mr := mJ0_charAt_5068e) (pc := 8) (l := 3) (tg := 0) (k := 9) (r := am_jmp 11 mJ0_charAt_5068e.2.2.1) (ls := [some (Sum.inr (za (1000 + w))), some (vi j)]) (st := []) (hi := hi) (x := x) (d := d + 5) hw rfl) ?_
  refine ec_seg 1 (12, [some (Sum.inr (za (1000 + w))), some (vi j)], [vi j, Sum.inr (za (2000 + w))], hp hi x) (fun g => rfl) ?_
  refine ec_call (M := mJ1_charAt_3b067) (kind := 1) (n0 := 2) (ci := 0) (n := 2) (v := vi (nI c)) (h1 := hp hi x) 15 [Sum.inr (za (2000 + w)), vi j] [] (fun ih => rfl) rfl rfl rfl ?_ rfl rfl ?_ ?_
  · rfl
  · refine Rn.of (C := (0, [some (Sum.inr (za (2000 + w))), some (vi j)], [], hp hi x)) (fun g => rfl) ?_
    refine ec_seg 2 (2, [some (Sum.inr (za (2000 + w))), some (vi j)], [Sum.inr (za (2000 + w)), vi j], hp hi x) (fun g => rfl) ?_
    refine ec_seg 1 (3, [some (Sum.inr (za (2000 + w))), some (vi j)], [vi (nI (am_strlen w)), vi j], hp hi x) (fun g => st_blen (pc := 2) (l := 1) (tg := 0) hw) ?_
    refine ec_seg 1 (6, [some (Sum.inr (za (2000 + w))), some (vi j)], [], hp hi x) (fun g => ?_) ?_
    · show (if 0 ≤ j ∧ j < nI (am_strlen w) ∧ 3 ≤ d + 4 then g mJ1_charAt_3b067 (am_jmp 6 mJ1_charAt_3b067.2.2.1) [some (Sum.inr (za (2000 + w))), some (vi j)] [] (hp hi x) (d + 4) else none) = _
      have hlt : j < nI (am_strlen w) := by
        obtain ⟨k, hk, e⟩ : ∃ k : Nat, k < 2 ^ 31 ∧ j = nI k := nI_of (fun hlt => by
          have a1 := Int32.lt_iff_toInt_lt.mp hlt
          have a2 := Int32.le_iff_toInt_le.mp hj.1
          omega)
        subst e
        have h3 := hj.2
        rw [nI_clamp hk] at h3
        exact nI_lt h3 (ch_len w hw)
      rw [if_pos ⟨hj.1, hlt, by omega⟩]
      rfl
    · refine ec_seg 2 (8, [some (Sum.inr (za (2000 + w))), some (vi j)], [vi j, Sum.inr (za (2000 + w))], hp hi x) (fun g => rfl) ?_
      refine ec_seg 1 (9, [some (Sum.inr (za (2000 + w))), some (vi j)], [vi (nI c)], hp hi x) (fun g => ?_) ?_
      · have e := st_bald (ih := g) (mr := mJ1_charAt_3b067) (pc := 8) (l := 1) (tg := 0) (r := am_jmp 9 mJ1_charAt_3b067.2.2.1) (ls := [some (Sum.inr (za (2000 + w))), some (vi j)]) (st := []) (x := x) (hi := hi) (d := d + 4) (j := j) hw
        rw [if_pos hj, hcc] at e
        exact e
      · refine ec_ret (R := rI0 hi x) (v := nI c) rfl 4 (fun g => ?_)
        show (if ((nI c &&& 255).toUInt32 % 65536).toInt32.toUInt32.toUInt16.toUInt32.toInt32 = ((nI c &&& 255).toUInt32 % 65536).toInt32 then some (Sum.inl (some (vi ((nI c &&& 255).toUInt32 % 65536).toInt32)), hp hi x) else none) = _
        rw [(ch_conv c hc).1, if_pos (ch_conv c hc).2]
  · refine ec_ret (R := rI0 hi x) (v := nI c) rfl 1 (fun g => ?_)
    show (if (nI c).toUInt32.toUInt16.toUInt32.toInt32 = nI c then some (Sum.inl (some (vi (nI c))), hp hi x) else none) = _
    rw [if_pos (ch_conv c hc).2])
end TXT
