/-! texts: length, charAt; the model's lays -/
section TXT
variable {w : Nat} {x : AX} {d : Nat}
theorem ec_slen (w : Nat) (hw : w < 68) (hi : HI) : Rn mJ0_length_8abf5 [Sum.inr (za (1000 + w))] (hp hi x) (d + 2) (rI0 hi x (sh_slen w)) := Rn.of (C := (0, [some (Sum.inr (za (1000 + w)))], [], hp hi x)) (fun g => rfl) (by
  have hno : am_noS (Sum.inr (za (1000 + w))) = true := by
    show (!Nat.beq (1000 + w) 3) = true
    cases hb : Nat.beq (1000 + w) 3 with
    | false => rfl
    | true => have := Nat.eq_of_beq_eq_true hb; omega
  refine ec_seg 1 (1, [some (Sum.inr (za (1000 + w)))], [Sum.inr (za (1000 + w))], hp hi x) (fun g => rfl) ?_
  refine ec_seg 1 (4, [some (Sum.inr (za (1000 + w)))], [Sum.inr (za (2000 + w))], hp hi x) (fun g => st_gval (ih := g) (mr := mJ0_length_8abf5) (pc := 1) (l := 3) (tg := 0) (k := 9) (r := am_jmp 4 mJ0_length_8abf5.2.2.1) (ls := [some (Sum.inr (za (1000 + w)))]) (st := []) (hi := hi) (x := x) (d := d + 2) hw rfl) ?_
  refine ec_seg 1 (5, [some (Sum.inr (za (1000 + w)))], [vi (nI (am_strlen w))], hp hi x) (fun g => st_blen (pc := 4) (l := 1) (tg := 0) hw) ?_
  refine ec_seg 1 (6, [some (Sum.inr (za (1000 + w)))], [Sum.inr (za (1000 + w)), vi (nI (am_strlen w))], hp hi x) (fun g => rfl) ?_
  refine ec_call (kind := 0) (n0 := 0) (ci := 0) (n := 1) (v := vi 0) (h1 := hp hi x) 9 [Sum.inr (za (1000 + w))] [vi (nI (am_strlen w))] (fun ih => rfl) rfl rfl rfl ?_ rfl ?_ ?_ ?_
  · show (true && ((am_noS (Sum.inr (za (1000 + w))) && true) && (true && true)) && _) = true
    rw [hno]
    rfl
  · show (true && (false || (Nat.beq (am_ty (hp hi x) (za (1000 + w))).1 0 && true))) = true
    rw [ty_s hw]
    rfl
  · refine Rn.of (C := (0, [some (Sum.inr (za (1000 + w)))], [], hp hi x)) (fun g => rfl) ?_
    refine ec_seg 3 (7, [some (Sum.inr (za (1000 + w)))], [Sum.inr (za (1000 + w))], hp hi x) (fun g => rfl) ?_
    refine ec_seg 1 (10, [some (Sum.inr (za (1000 + w)))], [vi 0], hp hi x) (fun g => st_gcod (ih := g) (mr := mJ0_coder_7d493) (pc := 7) (l := 3) (tg := 0) (k := 15) (r := am_jmp 10 mJ0_coder_7d493.2.2.1) (ls := [some (Sum.inr (za (1000 + w)))]) (st := []) (hi := hi) (x := x) (d := d + 1) hw rfl) ?_
    exact ec_ret (R := rI0 hi x) (v := 0) rfl 2 (fun g => rfl)
  · refine ec_ret (R := rI0 hi x) (v := sh_slen w) rfl 2 (fun g => ?_)
    have e : nI (am_strlen w) >>> ((0 : Int32) &&& 31) = nI (am_strlen w) := by
      have h31 : ((0 : Int32) &&& 31) = 0 := by decide
      rw [h31]
      exact Int32.shiftRight_zero
    show some (Sum.inl (some (vi (nI (am_strlen w) >>> ((0 : Int32) &&& 31)))), hp hi x) = _
    rw [e]
    rfl)
theorem ch_small : ∀ w, w < 68 → ∀ c ∈ am_str.getD w [], c < 256 := by decide +kernel
theorem ch_len : ∀ w, w < 68 → am_strlen w < 2 ^ 31 := by decide +kernel
theorem ch_conv : ∀ c, c < 256 → ((nI c &&& 255).toUInt32 % 65536).toInt32 = nI c ∧ (nI c).toUInt32.toUInt16.toUInt32.toInt32 = nI c := by decide +kernel
theorem ec_schar (w : Nat) (hw : w < 68) (j : Int32) (hi : HI) {r : Int32} (H : sh_schar w j = some r) : Rn mJ0_charAt_5068e [Sum.inr (za (1000 + w)), vi j] (hp hi x) (d + 5) (rI0 hi x r) := Rn.of (C := (0, [some (Sum.inr (za (1000 + w))), some (vi j)], [], hp hi x)) (fun g => rfl) (by
  have hno : am_noS (Sum.inr (za (1000 + w))) = true := by
    show (!Nat.beq (1000 + w) 3) = true
    cases hb : Nat.beq (1000 + w) 3 with
    | false => rfl
    | true => have := Nat.eq_of_beq_eq_true hb; omega
  have hno2 : am_noS (Sum.inr (za (2000 + w))) = true := by
    show (!Nat.beq (2000 + w) 3) = true
    cases hb : Nat.beq (2000 + w) 3 with
    | false => rfl
    | true => have := Nat.eq_of_beq_eq_true hb; omega
  by_cases hj : 0 ≤ j ∧ j.toNatClampNeg < am_strlen w
  case neg =>
    have h2 : sh_schar w j = none := if_neg hj
    rw [h2] at H
    cases H
  have h2 : sh_schar w j = some (nI ((am_str.getD w []).getD j.toNatClampNeg 0)) := if_pos hj
  rw [h2] at H
  have hr : nI ((am_str.getD w []).getD j.toNatClampNeg 0) = r := Option.some.inj H
  have hc : (am_str.getD w []).getD j.toNatClampNeg 0 < 256 := by
    have hlt : j.toNatClampNeg < (am_str.getD w []).length := hj.2
    rw [List.getD_eq_getElem?_getD, List.getElem?_eq_getElem hlt]
    exact ch_small w hw _ (List.getElem_mem hlt)
  generalize hcc : (am_str.getD w []).getD j.toNatClampNeg 0 = c at hc hr
  subst hr
  refine ec_seg 1 (1, [some (Sum.inr (za (1000 + w))), some (vi j)], [Sum.inr (za (1000 + w))], hp hi x) (fun g => rfl) ?_
  refine ec_call (kind := 0) (n0 := 0) (ci := 0) (n := 1) (v := vi 1) (h1 := hp hi x) 4 [Sum.inr (za (1000 + w))] [] (fun ih => rfl) rfl rfl rfl ?_ rfl ?_ ?_ ?_
  · show (true && ((am_noS (Sum.inr (za (1000 + w))) && (true && true)) && true) && _) = true
    rw [hno]
    rfl
  · show (true && (false || (Nat.beq (am_ty (hp hi x) (za (1000 + w))).1 0 && true))) = true
    rw [ty_s hw]
    rfl
  · refine Rn.of (C := (0, [some (Sum.inr (za (1000 + w)))], [], hp hi x)) (fun g => rfl) ?_
    refine ec_seg 3 (7, [some (Sum.inr (za (1000 + w)))], [Sum.inr (za (1000 + w))], hp hi x) (fun g => rfl) ?_
    refine ec_seg 1 (10, [some (Sum.inr (za (1000 + w)))], [vi 0], hp hi x) (fun g => st_gcod (ih := g) (mr := mJ0_isLatin1_aae02) (pc := 7) (l := 3) (tg := 0) (k := 15) (r := am_jmp 10 mJ0_isLatin1_aae02.2.2.1) (ls := [some (Sum.inr (za (1000 + w)))]) (st := []) (hi := hi) (x := x) (d := d + 4) hw rfl) ?_
    exact ec_ret (R := rI0 hi x) (v := 1) rfl 4 (fun g => rfl)
  refine ec_seg 2 (8, [some (Sum.inr (za (1000 + w))), some (vi j)], [Sum.inr (za (1000 + w))], hp hi x) (fun g => rfl) ?_
  refine ec_seg 1 (11, [some (Sum.inr (za (1000 + w))), some (vi j)], [Sum.inr (za (2000 + w))], hp hi x) (fun g => st_gval (ih := g) (mr := mJ0_charAt_5068e) (pc := 8) (l := 3) (tg := 0) (k := 9) (r := am_jmp 11 mJ0_charAt_5068e.2.2.1) (ls := [some (Sum.inr (za (1000 + w))), some (vi j)]) (st := []) (hi := hi) (x := x) (d := d + 5) hw rfl) ?_
  refine ec_seg 1 (12, [some (Sum.inr (za (1000 + w))), some (vi j)], [vi j, Sum.inr (za (2000 + w))], hp hi x) (fun g => rfl) ?_
  refine ec_call (kind := 1) (n0 := 2) (ci := 0) (n := 2) (v := vi (nI c)) (h1 := hp hi x) 15 [Sum.inr (za (2000 + w)), vi j] [] (fun ih => rfl) rfl rfl rfl ?_ rfl rfl ?_ ?_
  · show (true && ((am_noS (Sum.inr (za (1000 + w))) && (true && true)) && true) && _) = true
    rw [hno]
    rfl
  · refine Rn.of (C := (0, [some (Sum.inr (za (2000 + w))), some (vi j)], [], hp hi x)) (fun g => rfl) ?_
    refine ec_seg 2 (2, [some (Sum.inr (za (2000 + w))), some (vi j)], [Sum.inr (za (2000 + w)), vi j], hp hi x) (fun g => rfl) ?_
    refine ec_seg 1 (3, [some (Sum.inr (za (2000 + w))), some (vi j)], [vi (nI (am_strlen w)), vi j], hp hi x) (fun g => st_blen (pc := 2) (l := 1) (tg := 0) hw) ?_
    refine ec_seg 1 (6, [some (Sum.inr (za (2000 + w))), some (vi j)], [], hp hi x) (fun g => ?_) ?_
    · show (if 0 ≤ j ∧ j < nI (am_strlen w) ∧ 3 ≤ d + 4 then g mJ1_charAt_3b067 (am_jmp 6 mJ1_charAt_3b067.2.2.1) [some (Sum.inr (za (2000 + w))), some (vi j)] [] (hp hi x) (d + 4) else none) = _
      have hlt : j < nI (am_strlen w) := by
        obtain ⟨k, hk, e⟩ : ∃ k : Nat, k < 2 ^ 31 ∧ j = nI k := nI_of (fun hlt => by
          have a1 := Int32.lt_iff_toInt_lt.mp hlt
          have a2 := Int32.le_iff_toInt_le.mp hj.1
          omega)
        subst e
        have h3 := hj.2
        rw [nI_clamp hk] at h3
        exact nI_lt h3 (ch_len w hw)
      rw [if_pos ⟨hj.1, hlt, by omega⟩]
      rfl
    · refine ec_seg 2 (8, [some (Sum.inr (za (2000 + w))), some (vi j)], [vi j, Sum.inr (za (2000 + w))], hp hi x) (fun g => rfl) ?_
      refine ec_seg 1 (9, [some (Sum.inr (za (2000 + w))), some (vi j)], [vi (nI c)], hp hi x) (fun g => ?_) ?_
      · have e := st_bald (ih := g) (mr := mJ1_charAt_3b067) (pc := 8) (l := 1) (tg := 0) (r := am_jmp 9 mJ1_charAt_3b067.2.2.1) (ls := [some (Sum.inr (za (2000 + w))), some (vi j)]) (st := []) (x := x) (hi := hi) (d := d + 4) (j := j) hw
        rw [if_pos hj, hcc] at e
        exact e
      · refine ec_ret (R := rI0 hi x) (v := nI c) rfl 4 (fun g => ?_)
        show (if ((nI c &&& 255).toUInt32 % 65536).toInt32.toUInt32.toUInt16.toUInt32.toInt32 = ((nI c &&& 255).toUInt32 % 65536).toInt32 then some (Sum.inl (some (vi ((nI c &&& 255).toUInt32 % 65536).toInt32)), hp hi x) else none) = _
        rw [(ch_conv c hc).1, if_pos (ch_conv c hc).2]
  · refine ec_ret (R := rI0 hi x) (v := nI c) rfl 1 (fun g => ?_)
    show (if (nI c).toUInt32.toUInt16.toUInt32.toInt32 = nI c then some (Sum.inl (some (vi (nI c))), hp hi x) else none) = _
    rw [if_pos (ch_conv c hc).2])
end TXT
def sh_laysN (a b : AA) (i j n : Nat) (hi : HI) : HI := fun c k => if c = b ∧ j ≤ k ∧ k < j + n then hi a (i + (k - j)) else hi c k
def sh_lays (a : AA) (n : Nat) (i : Int32) (b : AA) (m : Nat) (j : Int32) (hi : HI) : Option HI := if 0 ≤ i ∧ 0 ≤ j ∧ i.toNatClampNeg + 424 ≤ n ∧ j.toNatClampNeg + 424 ≤ m then some (sh_laysN a b i.toNatClampNeg j.toNatClampNeg 424 hi) else none
section LAYS
variable {a b : AA} {n m : Nat} {x : AX} {d : Nat} {hi : HI}
theorem lays_s {i j k : Nat} (hab : a ≠ b) : am_u (sh_laysN a b i j k hi) b (j + k) (sh_laysN a b i j k hi a (i + k)) = sh_laysN a b i j (k + 1) hi := by
  have e1 : sh_laysN a b i j k hi a (i + k) = hi a (i + k) := if_neg (fun h => hab h.1)
  rw [e1]
  funext c q
  unfold am_u sh_laysN
  by_cases hq : q = j + k
  · subst hq
    rw [if_pos rfl]
    by_cases hc : c = b
    · rw [if_pos hc, if_pos ⟨hc, by omega, by omega⟩, show i + (j + k - j) = i + k by omega]
    · rw [if_neg hc, if_neg (fun h => hc h.1), if_neg (fun h => hc h.1)]
  · rw [if_neg hq]
    by_cases hb : c = b ∧ j ≤ q ∧ q < j + k
    · rw [if_pos hb, if_pos ⟨hb.1, hb.2.1, by omega⟩]
    · rw [if_neg hb, if_neg (fun h => hb ⟨h.1, h.2.1, by omega⟩)]
theorem lays_0 {i j : Nat} : sh_laysN a b i j 0 hi = hi := by
  funext c q
  exact if_neg (fun h => by have := h.2; omega)
theorem ec_lays_3 (ha : Arr a n) (hb : Arr b m) (hn : n < 2 ^ 31) (hm : m < 2 ^ 31) (hab : a ≠ b) {i j : Nat} (hi9 : i + 424 ≤ n) (hj9 : j + 424 ≤ m) : ∀ (q k : Nat), k + q = 424 → Ec mX10_lays (d + 1) (3, [some (Sum.inr a), some (vi (nI i)), some (Sum.inr b), some (vi (nI j)), some (vi (nI k))], [], hp (sh_laysN a b i j k hi) x) (rV1 x (sh_laysN a b i j 424 hi))
  | 0, k, h => by
    have e : k = 424 := by omega
    subst e
    exact ec_seg 3 (29, [some (Sum.inr a), some (vi (nI i)), some (Sum.inr b), some (vi (nI j)), some (vi (nI 424))], [], hp (sh_laysN a b i j 424 hi) x) (fun g => (if_pos (Int32.le_refl _) : (if nI 424 ≤ nI 424 then Iv g mX10_lays (d + 1) (29, [some (Sum.inr a), some (vi (nI i)), some (Sum.inr b), some (vi (nI j)), some (vi (nI 424))], [], hp (sh_laysN a b i j 424 hi) x) else Iv g mX10_lays (d + 1) (11, [some (Sum.inr a), some (vi (nI i)), some (Sum.inr b), some (vi (nI j)), some (vi (nI 424))], [], hp (sh_laysN a b i j 424 hi) x)) = _)) (ec_ret (R := rV1 x) rfl 1 (fun g => rfl))
  | q + 1, k, h => by
    refine ec_seg 3 (11, [some (Sum.inr a), some (vi (nI i)), some (Sum.inr b), some (vi (nI j)), some (vi (nI k))], [], hp (sh_laysN a b i j k hi) x) (fun g => (if_neg (nI_ge (by omega) (by omega)) : (if nI 424 ≤ nI k then Iv g mX10_lays (d + 1) (29, [some (Sum.inr a), some (vi (nI i)), some (Sum.inr b), some (vi (nI j)), some (vi (nI k))], [], hp (sh_laysN a b i j k hi) x) else Iv g mX10_lays (d + 1) (11, [some (Sum.inr a), some (vi (nI i)), some (Sum.inr b), some (vi (nI j)), some (vi (nI k))], [], hp (sh_laysN a b i j k hi) x)) = _)) ?_
    refine ec_seg 8 (21, [some (Sum.inr a), some (vi (nI i)), some (Sum.inr b), some (vi (nI j)), some (vi (nI k))], [vi (nI i + nI k), Sum.inr a, vi (nI j + nI k), Sum.inr b], hp (sh_laysN a b i j k hi) x) (fun g => rfl) ?_
    rw [nI_add, nI_add]
    refine ec_seg 1 (22, [some (Sum.inr a), some (vi (nI i)), some (Sum.inr b), some (vi (nI j)), some (vi (nI k))], [vi (sh_laysN a b i j k hi a (i + k)), vi (nI (j + k)), Sum.inr b], hp (sh_laysN a b i j k hi) x) (fun g => ?_) ?_
    · have e := st_ald (ih := g) (mr := mX10_lays) (pc := 21) (l := 1) (tg := 0) (r := am_jmp 22 mX10_lays.2.2.1) (ls := [some (Sum.inr a), some (vi (nI i)), some (Sum.inr b), some (vi (nI j)), some (vi (nI k))]) (st := [vi (nI (j + k)), Sum.inr b]) (x := x) (hi := sh_laysN a b i j k hi) (d := d + 1) (j := nI (i + k)) ha
      rw [nI_clamp (show i + k < 2 ^ 31 by omega), if_pos ⟨nI_pos' (by omega), by omega⟩] at e
      exact e
    · refine ec_seg 1 (23, [some (Sum.inr a), some (vi (nI i)), some (Sum.inr b), some (vi (nI j)), some (vi (nI k))], [], hp (sh_laysN a b i j (k + 1) hi) x) (fun g => ?_) ?_
      · have e := st_ast (ih := g) (mr := mX10_lays) (pc := 22) (l := 1) (tg := 0) (r := am_jmp 23 mX10_lays.2.2.1) (ls := [some (Sum.inr a), some (vi (nI i)), some (Sum.inr b), some (vi (nI j)), some (vi (nI k))]) (st := []) (x := x) (hi := sh_laysN a b i j k hi) (d := d + 1) (j := nI (j + k)) (v := sh_laysN a b i j k hi a (i + k)) hb
        rw [nI_clamp (show j + k < 2 ^ 31 by omega), if_pos ⟨nI_pos' (by omega), by omega⟩, lays_s hab] at e
        exact e
      · have ih := ec_lays_3 ha hb hn hm hab hi9 hj9 q (k + 1) (by omega)
        rw [← nI_1 k] at ih
        exact ec_seg 2 _ (fun g => rfl) ih
theorem ec_lays (ha : Arr a n) (hb : Arr b m) (hn : n < 2 ^ 31) (hm : m < 2 ^ 31) (hab : a ≠ b) (i j : Int32) (hi : HI) {r : HI} (H : sh_lays a n i b m j hi = some r) : Rn mX10_lays [Sum.inr a, vi i, Sum.inr b, vi j] (hp hi x) (d + 1) (rV1 x r) := Rn.of (C := (0, [some (Sum.inr a), some (vi i), some (Sum.inr b), some (vi j), none], [], hp hi x)) (fun g => rfl) (by
  by_cases hc : 0 ≤ i ∧ 0 ≤ j ∧ i.toNatClampNeg + 424 ≤ n ∧ j.toNatClampNeg + 424 ≤ m
  case neg =>
    have h2 : sh_lays a n i b m j hi = none := if_neg hc
    rw [h2] at H
    cases H
  have h2 : sh_lays a n i b m j hi = some (sh_laysN a b i.toNatClampNeg j.toNatClampNeg 424 hi) := if_pos hc
  rw [h2] at H
  have hr := Option.some.inj H
  subst hr
  obtain ⟨c1, c2, c3, c4⟩ := hc
  obtain ⟨p, hp9, e⟩ : ∃ k : Nat, k < 2 ^ 31 ∧ i = nI k := nI_of (fun hlt => by
    have a1 := Int32.lt_iff_toInt_lt.mp hlt
    have a2 := Int32.le_iff_toInt_le.mp c1
    omega)
  subst e
  obtain ⟨q, hq9, e⟩ : ∃ k : Nat, k < 2 ^ 31 ∧ j = nI k := nI_of (fun hlt => by
    have a1 := Int32.lt_iff_toInt_lt.mp hlt
    have a2 := Int32.le_iff_toInt_le.mp c2
    omega)
  subst e
  rw [nI_clamp hp9] at c3 ⊢
  rw [nI_clamp hq9] at c4 ⊢
  have h := ec_lays_3 ha hb hn hm hab c3 c4 424 0 (by omega) (x := x) (d := d) (hi := hi)
  rw [lays_0] at h
  exact ec_seg 2 (3, [some (Sum.inr a), some (vi (nI p)), some (Sum.inr b), some (vi (nI q)), some (vi (nI 0))], [], hp hi x) (fun g => rfl) h)
end LAYS
