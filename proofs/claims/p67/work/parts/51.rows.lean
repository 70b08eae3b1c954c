/-! the class's own rows of numbers: at, put, copy, sum, countMarked; Arrays.fill; the model's lays -/
theorem ar_z (k : Nat) {n : Nat} (h : ∀ h, am_ty h (za k) = (100, n)) (h1 : Nat.ble 1000 k = false) (h3 : Nat.beq k 3 = false) : Arr (za k) n := by
  refine ⟨h, fun h9 j => ?_, ?_, ?_⟩
  · show (bif Nat.ble 1000 k then _ else _) = _
    rw [h1]
    rfl
  · show Nat.blt k 1000 = true
    rw [Nat.blt_eq]
    by_cases hk : k < 1000
    · exact hk
    · have h4 := Nat.ble_eq.mpr (Nat.le_of_not_lt hk)
      rw [h1] at h4
      cases h4
  · rfl
section ROWS
variable {ih : AK} {mr : MR} {pc l tg : Nat} {r : List CI} {ls : AL} {st : List AV} {a b : AA} {n m : Nat} {hi : HI} {x : AX} {d : Nat} {j v : Int32}
theorem st_len (ha : Arr a n) : am_step ih mr ((pc, .arraylength, l, tg) :: r) ls (Sum.inr a :: st) (hp hi x) d = ih mr r ls (vi (nI n) :: st) (hp hi x) d := by
  show (bif Nat.ble 100 (am_ty (hp hi x) a).1 && Nat.ble (am_ty (hp hi x) a).1 106 && am_ex (hp hi x) a then ih mr r ls (vi (nI (am_ty (hp hi x) a).2) :: st) (hp hi x) d else none) = _
  rw [ha.1]
  rfl
theorem st_ald (ha : Arr a n) : am_step ih mr ((pc, .iaload, l, tg) :: r) ls (vi j :: Sum.inr a :: st) (hp hi x) d = if 0 ≤ j ∧ j.toNatClampNeg < n then ih mr r ls (vi (hi a j.toNatClampNeg) :: st) (hp hi x) d else none := by
  show (bif Nat.beq (am_ty (hp hi x) a).1 100 && am_ex (hp hi x) a then (if 0 ≤ j ∧ j.toNatClampNeg < (am_ty (hp hi x) a).2 then ih mr r ls (vi (am_rI (hp hi x) a j.toNatClampNeg) :: st) (hp hi x) d else none) else none) = _
  rw [ha.1, ha.2.1]
  rfl
theorem st_ast (ha : Arr a n) : am_step ih mr ((pc, .iastore, l, tg) :: r) ls (vi v :: vi j :: Sum.inr a :: st) (hp hi x) d = if 0 ≤ j ∧ j.toNatClampNeg < n then ih mr r ls st (hp (am_u hi a j.toNatClampNeg v) x) d else none := by
  show (bif Nat.beq (am_ty (hp hi x) a).1 100 && am_ex (hp hi x) a && am_dyn a && (hp hi x).nx.isNone then (if 0 ≤ j ∧ j.toNatClampNeg < (am_ty (hp hi x) a).2 then ih mr r ls st (am_u (hp hi x).1 a j.toNatClampNeg v, (hp hi x).2) d else none) else none) = _
  rw [ha.1, ha.2.2.1]
  rfl
end ROWS
theorem ix_of {j : Int32} {n : Nat} (hn : n < 2 ^ 31) (h0 : ¬ j < 0) (h1 : ¬ nI n ≤ j) : 0 ≤ j ∧ j.toNatClampNeg < n := by
  obtain h | h | ⟨k, hk, e⟩ := pk_ix j hn
  · exact absurd h h0
  · exact absurd h h1
  · subst e
    rw [nI_clamp (by omega)]
    exact ⟨nI_pos' (by omega), hk⟩
theorem ix_neg {j : Int32} {n : Nat} (hn : n < 2 ^ 31) (h : j < 0 ∨ nI n ≤ j) : ¬ (0 ≤ j ∧ j.toNatClampNeg < n) := by
  rintro ⟨h0, h1⟩
  obtain ⟨k, hk, e⟩ : ∃ k : Nat, k < 2 ^ 31 ∧ j = nI k := nI_of (fun hlt => by
    have a1 := Int32.lt_iff_toInt_lt.mp hlt
    have a2 := Int32.le_iff_toInt_le.mp h0
    omega)
  subst e
  rw [nI_clamp hk] at h1
  rcases h with h | h
  · exact nI_pos hk h
  · have := (nI_leI hn hk).mp h
    omega
def sh_at (a : AA) (n : Nat) (j : Int32) (hi : HI) : Int32 := if 0 ≤ j ∧ j.toNatClampNeg < n then hi a j.toNatClampNeg else 0
def sh_put (a : AA) (n : Nat) (j v : Int32) (hi : HI) : HI := if 0 ≤ j ∧ j.toNatClampNeg < n then am_u hi a j.toNatClampNeg v else hi
def sh_copy (a : AA) (n : Nat) (b : AA) (m : Nat) (hi : HI) : HI := am_cpy hi a b 0 0 (min n m)
section AT
variable {a b : AA} {n m : Nat} {x : AX} {d : Nat}
theorem ec_at (ha : Arr a n) (hn : n < 2 ^ 31) (j : Int32) (hi : HI) : Rn mX9_at [Sum.inr a, vi j] (hp hi x) (d + 1) (rI0 hi x (sh_at a n j hi)) := Rn.of (C := (0, [some (Sum.inr a), some (vi j)], [], hp hi x)) (fun g => rfl) (by
  have H : some (sh_at a n j hi) = some (sh_at a n j hi) := rfl
  by_cases h0 : j < 0
  · have e : sh_at a n j hi = 0 := if_neg (ix_neg hn (Or.inl h0))
    rw [e]
    exact ec_seg 2 (16, [some (Sum.inr a), some (vi j)], [], hp hi x) (fun g => (if_pos h0 : (if j < 0 then Iv g mX9_at (d + 1) (16, [some (Sum.inr a), some (vi j)], [], hp hi x) else _) = _)) (ec_ret (R := rI0 hi x) rfl 2 (fun g => rfl))
  · refine ec_seg 2 (4, [some (Sum.inr a), some (vi j)], [], hp hi x) (fun g => (if_neg h0 : (if j < 0 then Iv g mX9_at (d + 1) (16, [some (Sum.inr a), some (vi j)], [], hp hi x) else _) = _)) ?_
    refine ec_seg 2 (6, [some (Sum.inr a), some (vi j)], [Sum.inr a, vi j], hp hi x) (fun g => rfl) ?_
    refine ec_seg 1 (7, [some (Sum.inr a), some (vi j)], [vi (nI n), vi j], hp hi x) (fun g => st_len (pc := 6) (l := 1) (tg := 0) ha) ?_
    by_cases h1 : nI n ≤ j
    · have e : sh_at a n j hi = 0 := if_neg (ix_neg hn (Or.inr h1))
      rw [e]
      exact ec_seg 1 (16, [some (Sum.inr a), some (vi j)], [], hp hi x) (fun g => (if_pos h1 : (if nI n ≤ j then Iv g mX9_at (d + 1) (16, [some (Sum.inr a), some (vi j)], [], hp hi x) else _) = _)) (ec_ret (R := rI0 hi x) rfl 2 (fun g => rfl))
    · refine ec_seg 1 (10, [some (Sum.inr a), some (vi j)], [], hp hi x) (fun g => (if_neg h1 : (if nI n ≤ j then Iv g mX9_at (d + 1) (16, [some (Sum.inr a), some (vi j)], [], hp hi x) else _) = _)) ?_
      refine ec_seg 2 (12, [some (Sum.inr a), some (vi j)], [vi j, Sum.inr a], hp hi x) (fun g => rfl) ?_
      have e : sh_at a n j hi = hi a j.toNatClampNeg := if_pos (ix_of hn h0 h1)
      rw [e]
      exact ec_seg 1 (13, [some (Sum.inr a), some (vi j)], [vi (hi a j.toNatClampNeg)], hp hi x) (fun g => (st_ald (pc := 12) (l := 1) (tg := 0) ha).trans (if_pos (ix_of hn h0 h1))) (ec_ret (R := rI0 hi x) rfl 2 (fun g => rfl)))
theorem ec_put (ha : Arr a n) (hn : n < 2 ^ 31) (j v : Int32) (hi : HI) : Rn mX9_put [Sum.inr a, vi j, vi v] (hp hi x) (d + 1) (rV1 x (sh_put a n j v hi)) := Rn.of (C := (0, [some (Sum.inr a), some (vi j), some (vi v)], [], hp hi x)) (fun g => rfl) (by
  by_cases h0 : j < 0
  · have e : sh_put a n j v hi = hi := if_neg (ix_neg hn (Or.inl h0))
    rw [e]
    exact ec_seg 2 (14, [some (Sum.inr a), some (vi j), some (vi v)], [], hp hi x) (fun g => (if_pos h0 : (if j < 0 then Iv g mX9_put (d + 1) (14, [some (Sum.inr a), some (vi j), some (vi v)], [], hp hi x) else _) = _)) (ec_ret (R := rV1 x) rfl 1 (fun g => rfl))
  · refine ec_seg 2 (4, [some (Sum.inr a), some (vi j), some (vi v)], [], hp hi x) (fun g => (if_neg h0 : (if j < 0 then Iv g mX9_put (d + 1) (14, [some (Sum.inr a), some (vi j), some (vi v)], [], hp hi x) else _) = _)) ?_
    refine ec_seg 2 (6, [some (Sum.inr a), some (vi j), some (vi v)], [Sum.inr a, vi j], hp hi x) (fun g => rfl) ?_
    refine ec_seg 1 (7, [some (Sum.inr a), some (vi j), some (vi v)], [vi (nI n), vi j], hp hi x) (fun g => st_len (pc := 6) (l := 1) (tg := 0) ha) ?_
    by_cases h1 : nI n ≤ j
    · have e : sh_put a n j v hi = hi := if_neg (ix_neg hn (Or.inr h1))
      rw [e]
      exact ec_seg 1 (14, [some (Sum.inr a), some (vi j), some (vi v)], [], hp hi x) (fun g => (if_pos h1 : (if nI n ≤ j then Iv g mX9_put (d + 1) (14, [some (Sum.inr a), some (vi j), some (vi v)], [], hp hi x) else _) = _)) (ec_ret (R := rV1 x) rfl 1 (fun g => rfl))
    · refine ec_seg 1 (10, [some (Sum.inr a), some (vi j), some (vi v)], [], hp hi x) (fun g => (if_neg h1 : (if nI n ≤ j then Iv g mX9_put (d + 1) (14, [some (Sum.inr a), some (vi j), some (vi v)], [], hp hi x) else _) = _)) ?_
      refine ec_seg 3 (13, [some (Sum.inr a), some (vi j), some (vi v)], [vi v, vi j, Sum.inr a], hp hi x) (fun g => rfl) ?_
      have e : sh_put a n j v hi = am_u hi a j.toNatClampNeg v := if_pos (ix_of hn h0 h1)
      rw [e]
      exact ec_seg 1 (14, [some (Sum.inr a), some (vi j), some (vi v)], [], hp (am_u hi a j.toNatClampNeg v) x) (fun g => (st_ast (pc := 13) (l := 1) (tg := 0) ha).trans (if_pos (ix_of hn h0 h1))) (ec_ret (R := rV1 x) rfl 1 (fun g => rfl)))
theorem am_mins {n m : Nat} (hn : n < 2 ^ 31) (hm : m < 2 ^ 31) : (if nI m < nI n then nI m else nI n) = nI (min n m) := by
  by_cases h : m < n
  · rw [if_pos ((nI_ltI hm hn).mpr h), Nat.min_eq_right (by omega)]
  · rw [if_neg (fun h2 => h ((nI_ltI hm hn).mp h2)), Nat.min_eq_left (by omega)]
theorem ec_copy (ha : Arr a n) (hb : Arr b m) (hn : n < 2 ^ 31) (hm : m < 2 ^ 31) (hi : HI) : Rn mX9_copy [Sum.inr a, Sum.inr b] (hp hi x) (d + 4) (rV1 x (sh_copy a n b m hi)) := Rn.of (C := (0, [some (Sum.inr a), some (Sum.inr b)], [], hp hi x)) (fun g => rfl) (by
  refine ec_seg 5 (5, [some (Sum.inr a), some (Sum.inr b)], [Sum.inr a, vi 0, Sum.inr b, vi 0, Sum.inr a], hp hi x) (fun g => rfl) ?_
  refine ec_seg 1 (6, [some (Sum.inr a), some (Sum.inr b)], [vi (nI n), vi 0, Sum.inr b, vi 0, Sum.inr a], hp hi x) (fun g => st_len (pc := 5) (l := 1) (tg := 0) ha) ?_
  refine ec_seg 1 (7, [some (Sum.inr a), some (Sum.inr b)], [Sum.inr b, vi (nI n), vi 0, Sum.inr b, vi 0, Sum.inr a], hp hi x) (fun g => rfl) ?_
  refine ec_seg 1 (8, [some (Sum.inr a), some (Sum.inr b)], [vi (nI m), vi (nI n), vi 0, Sum.inr b, vi 0, Sum.inr a], hp hi x) (fun g => st_len (pc := 7) (l := 1) (tg := 0) hb) ?_
  refine ec_seg 1 (11, [some (Sum.inr a), some (Sum.inr b)], [vi (nI (min n m)), vi 0, Sum.inr b, vi 0, Sum.inr a], hp hi x) (fun g => ?_) ?_
  · show g mX9_copy (am_jmp 11 mX9_copy.2.2.1) [some (Sum.inr a), some (Sum.inr b)] (vi (if nI m < nI n then nI m else nI n) :: [vi 0, Sum.inr b, vi 0, Sum.inr a]) (hp hi x) (d + 4) = _
    rw [am_mins hn hm]
    rfl
  · refine ec_seg 1 (14, [some (Sum.inr a), some (Sum.inr b)], [], hp (sh_copy a n b m hi) x) (fun g => ?_) (ec_ret (R := rV1 x) rfl 1 (fun g => rfl))
    have hmn : min n m < 2 ^ 31 := by omega
    have hacp : am_acp (hp hi x) a b (0 : Int32).toNatClampNeg (0 : Int32).toNatClampNeg (nI (min n m)).toNatClampNeg = some (hp (sh_copy a n b m hi) x) := by
      unfold am_acp
      rw [ha.1, hb.1, nI_clamp hmn]
      show (if am_dyn a = true then some (am_cpy hi a b (0 : Int32).toNatClampNeg (0 : Int32).toNatClampNeg (min n m), (hp hi x).2) else none) = _
      rw [if_pos ha.2.2.1]
      rfl
    show (if am_ex (hp hi x) a = true ∧ am_ex (hp hi x) b = true ∧ am_dyn b = true ∧ (hp hi x).nx = none ∧ 3 ≤ d + 4 ∧ (0 : Int32) ≤ 0 ∧ (0 : Int32) ≤ 0 ∧ 0 ≤ nI (min n m) ∧ (0 : Int32).toNatClampNeg + (nI (min n m)).toNatClampNeg ≤ (am_ty (hp hi x) a).2 ∧ (0 : Int32).toNatClampNeg + (nI (min n m)).toNatClampNeg ≤ (am_ty (hp hi x) b).2 then (match am_acp (hp hi x) a b (0 : Int32).toNatClampNeg (0 : Int32).toNatClampNeg (nI (min n m)).toNatClampNeg with | some h2 => g mX9_copy (am_jmp 14 mX9_copy.2.2.1) [some (Sum.inr a), some (Sum.inr b)] [] h2 (d + 4) | none => none) else none) = _
    rw [hacp, ha.1, hb.1, nI_clamp hmn, if_pos ⟨rfl, rfl, hb.2.2.1, rfl, by omega, by decide, by decide, nI_pos' hmn, by show 0 + min n m ≤ n; omega, by show 0 + min n m ≤ m; omega⟩]
    rfl)
end AT
/-! loops over a row -/
def sh_sum (a : AA) (n : Nat) (hi : HI) : Int32 := Nat.rec 0 (fun k s => s + hi a k) n
def sh_marked (a : AA) (n : Nat) (hi : HI) : Int32 := Nat.rec 0 (fun k s => if hi a k ≤ 0 then s else s + 1) n
def sh_fill (a : AA) (n : Nat) (v : Int32) (hi : HI) : HI := fun b k => if b = a ∧ k < n then v else hi b k
section LOOPS
variable {a : AA} {n : Nat} {x : AX} {d : Nat} {hi : HI}
theorem ec_sum_10 (ha : Arr a n) (hn : n < 2 ^ 31) : ∀ (m k : Nat) (o : Option Int32), k + m = n → Ec mX9_sum (d + 1) (10, [some (Sum.inr a), some (vi (sh_sum a k hi)), some (Sum.inr a), some (vi (nI n)), some (vi (nI k)), o.map (fun z => vi z)], [], hp hi x) (rI0 hi x (sh_sum a n hi))
  | 0, k, o, h => by
    have e : k = n := by omega
    subst e
    exact ec_seg 3 (33, [some (Sum.inr a), some (vi (sh_sum a k hi)), some (Sum.inr a), some (vi (nI k)), some (vi (nI k)), o.map (fun z => vi z)], [], hp hi x) (fun g => (if_pos (Int32.le_refl _) : (if nI k ≤ nI k then Iv g mX9_sum (d + 1) (33, [some (Sum.inr a), some (vi (sh_sum a k hi)), some (Sum.inr a), some (vi (nI k)), some (vi (nI k)), o.map (fun z => vi z)], [], hp hi x) else _) = _)) (ec_ret (R := rI0 hi x) rfl 2 (fun g => rfl))
  | m + 1, k, o, h => by
    refine ec_seg 3 (16, [some (Sum.inr a), some (vi (sh_sum a k hi)), some (Sum.inr a), some (vi (nI n)), some (vi (nI k)), o.map (fun z => vi z)], [], hp hi x) (fun g => (if_neg (nI_ge (by omega) hn) : (if nI n ≤ nI k then Iv g mX9_sum (d + 1) (33, [some (Sum.inr a), some (vi (sh_sum a k hi)), some (Sum.inr a), some (vi (nI n)), some (vi (nI k)), o.map (fun z => vi z)], [], hp hi x) else _) = _)) ?_
    refine ec_seg 2 (19, [some (Sum.inr a), some (vi (sh_sum a k hi)), some (Sum.inr a), some (vi (nI n)), some (vi (nI k)), o.map (fun z => vi z)], [vi (nI k), Sum.inr a], hp hi x) (fun g => rfl) ?_
    refine ec_seg 1 (20, [some (Sum.inr a), some (vi (sh_sum a k hi)), some (Sum.inr a), some (vi (nI n)), some (vi (nI k)), o.map (fun z => vi z)], [vi (hi a k)], hp hi x) (fun g => ?_) ?_
    · have e := st_ald (ih := g) (mr := mX9_sum) (pc := 19) (l := 1) (tg := 0) (r := am_jmp 20 mX9_sum.2.2.1) (ls := [some (Sum.inr a), some (vi (sh_sum a k hi)), some (Sum.inr a), some (vi (nI n)), some (vi (nI k)), o.map (fun z => vi z)]) (st := []) (x := x) (hi := hi) (d := d + 1) (j := nI k) ha
      rw [nI_clamp (show k < 2 ^ 31 by omega), if_pos ⟨nI_pos' (by omega), by omega⟩] at e
      exact e
    · refine ec_seg 7 (10, [some (Sum.inr a), some (vi (sh_sum a (k + 1) hi)), some (Sum.inr a), some (vi (nI n)), some (vi (nI (k + 1))), (some (hi a k)).map (fun z => vi z)], [], hp hi x) (fun g => ?_) (ec_sum_10 ha hn m (k + 1) (some (hi a k)) (by omega))
      rw [← nI_1 k]
      rfl
theorem ec_sum (ha : Arr a n) (hn : n < 2 ^ 31) (hi : HI) : Rn mX9_sum [Sum.inr a] (hp hi x) (d + 1) (rI0 hi x (sh_sum a n hi)) := Rn.of (C := (0, [some (Sum.inr a), none, none, none, none, none], [], hp hi x)) (fun g => rfl) (by
  refine ec_seg 5 (5, [some (Sum.inr a), some (vi 0), some (Sum.inr a), none, none, none], [Sum.inr a], hp hi x) (fun g => rfl) ?_
  refine ec_seg 1 (6, [some (Sum.inr a), some (vi 0), some (Sum.inr a), none, none, none], [vi (nI n)], hp hi x) (fun g => st_len (pc := 5) (l := 1) (tg := 0) ha) ?_
  exact ec_seg 3 (10, [some (Sum.inr a), some (vi (sh_sum a 0 hi)), some (Sum.inr a), some (vi (nI n)), some (vi (nI 0)), (none : Option Int32).map (fun z => vi z)], [], hp hi x) (fun g => rfl) (ec_sum_10 ha hn n 0 none (by omega)))
theorem ec_marked_10 (ha : Arr a n) (hn : n < 2 ^ 31) : ∀ (m k : Nat) (o : Option Int32), k + m = n → Ec mX9_countMarked (d + 1) (10, [some (Sum.inr a), some (vi (sh_marked a k hi)), some (Sum.inr a), some (vi (nI n)), some (vi (nI k)), o.map (fun z => vi z)], [], hp hi x) (rI0 hi x (sh_marked a n hi))
  | 0, k, o, h => by
    have e : k = n := by omega
    subst e
    exact ec_seg 3 (36, [some (Sum.inr a), some (vi (sh_marked a k hi)), some (Sum.inr a), some (vi (nI k)), some (vi (nI k)), o.map (fun z => vi z)], [], hp hi x) (fun g => (if_pos (Int32.le_refl _) : (if nI k ≤ nI k then Iv g mX9_countMarked (d + 1) (36, [some (Sum.inr a), some (vi (sh_marked a k hi)), some (Sum.inr a), some (vi (nI k)), some (vi (nI k)), o.map (fun z => vi z)], [], hp hi x) else _) = _)) (ec_ret (R := rI0 hi x) rfl 2 (fun g => rfl))
  | m + 1, k, o, h => by
    refine ec_seg 3 (16, [some (Sum.inr a), some (vi (sh_marked a k hi)), some (Sum.inr a), some (vi (nI n)), some (vi (nI k)), o.map (fun z => vi z)], [], hp hi x) (fun g => (if_neg (nI_ge (by omega) hn) : (if nI n ≤ nI k then Iv g mX9_countMarked (d + 1) (36, [some (Sum.inr a), some (vi (sh_marked a k hi)), some (Sum.inr a), some (vi (nI n)), some (vi (nI k)), o.map (fun z => vi z)], [], hp hi x) else _) = _)) ?_
    refine ec_seg 2 (19, [some (Sum.inr a), some (vi (sh_marked a k hi)), some (Sum.inr a), some (vi (nI n)), some (vi (nI k)), o.map (fun z => vi z)], [vi (nI k), Sum.inr a], hp hi x) (fun g => rfl) ?_
    refine ec_seg 1 (20, [some (Sum.inr a), some (vi (sh_marked a k hi)), some (Sum.inr a), some (vi (nI n)), some (vi (nI k)), o.map (fun z => vi z)], [vi (hi a k)], hp hi x) (fun g => ?_) ?_
    · have e := st_ald (ih := g) (mr := mX9_countMarked) (pc := 19) (l := 1) (tg := 0) (r := am_jmp 20 mX9_countMarked.2.2.1) (ls := [some (Sum.inr a), some (vi (sh_marked a k hi)), some (Sum.inr a), some (vi (nI n)), some (vi (nI k)), o.map (fun z => vi z)]) (st := []) (x := x) (hi := hi) (d := d + 1) (j := nI k) ha
      rw [nI_clamp (show k < 2 ^ 31 by omega), if_pos ⟨nI_pos' (by omega), by omega⟩] at e
      exact e
    · have ih := ec_marked_10 ha hn m (k + 1) (some (hi a k)) (by omega)
      by_cases hc : hi a k ≤ 0
      · have e : sh_marked a (k + 1) hi = sh_marked a k hi := if_pos hc
        rw [e, ← nI_1 k] at ih
        refine ec_seg 3 (30, [some (Sum.inr a), some (vi (sh_marked a k hi)), some (Sum.inr a), some (vi (nI n)), some (vi (nI k)), (some (hi a k)).map (fun z => vi z)], [], hp hi x) (fun g => (if_pos hc : (if hi a k ≤ 0 then Iv g mX9_countMarked (d + 1) (30, [some (Sum.inr a), some (vi (sh_marked a k hi)), some (Sum.inr a), some (vi (nI n)), some (vi (nI k)), (some (hi a k)).map (fun z => vi z)], [], hp hi x) else _) = _)) (ec_seg 2 _ (fun g => rfl) ih)
      · have e : sh_marked a (k + 1) hi = sh_marked a k hi + 1 := if_neg hc
        rw [e, ← nI_1 k] at ih
        refine ec_seg 3 (27, [some (Sum.inr a), some (vi (sh_marked a k hi)), some (Sum.inr a), some (vi (nI n)), some (vi (nI k)), (some (hi a k)).map (fun z => vi z)], [], hp hi x) (fun g => (if_neg hc : (if hi a k ≤ 0 then Iv g mX9_countMarked (d + 1) (30, [some (Sum.inr a), some (vi (sh_marked a k hi)), some (Sum.inr a), some (vi (nI n)), some (vi (nI k)), (some (hi a k)).map (fun z => vi z)], [], hp hi x) else _) = _)) (ec_seg 3 _ (fun g => rfl) ih)
theorem ec_marked (ha : Arr a n) (hn : n < 2 ^ 31) (hi : HI) : Rn mX9_countMarked [Sum.inr a] (hp hi x) (d + 1) (rI0 hi x (sh_marked a n hi)) := Rn.of (C := (0, [some (Sum.inr a), none, none, none, none, none], [], hp hi x)) (fun g => rfl) (by
  refine ec_seg 5 (5, [some (Sum.inr a), some (vi 0), some (Sum.inr a), none, none, none], [Sum.inr a], hp hi x) (fun g => rfl) ?_
  refine ec_seg 1 (6, [some (Sum.inr a), some (vi 0), some (Sum.inr a), none, none, none], [vi (nI n)], hp hi x) (fun g => st_len (pc := 5) (l := 1) (tg := 0) ha) ?_
  exact ec_seg 3 (10, [some (Sum.inr a), some (vi (sh_marked a 0 hi)), some (Sum.inr a), some (vi (nI n)), some (vi (nI 0)), (none : Option Int32).map (fun z => vi z)], [], hp hi x) (fun g => rfl) (ec_marked_10 ha hn n 0 none (by omega)))
theorem fill_s {v : Int32} (k : Nat) : am_u (sh_fill a k v hi) a k v = sh_fill a (k + 1) v hi := by
  funext b j
  unfold am_u sh_fill
  by_cases hj : j = k
  · subst hj
    rw [if_pos rfl]
    by_cases hb : b = a
    · rw [if_pos hb, if_pos ⟨hb, by omega⟩]
    · rw [if_neg hb, if_neg (fun h => hb h.1), if_neg (fun h => hb h.1)]
  · rw [if_neg hj]
    by_cases hb : b = a ∧ j < k
    · rw [if_pos hb, if_pos ⟨hb.1, by omega⟩]
    · rw [if_neg hb, if_neg (fun h => hb ⟨h.1, by omega⟩)]
theorem fill_0 {v : Int32} : sh_fill a 0 v hi = hi := by
  funext b j
  exact if_neg (fun h => Nat.not_lt_zero _ h.2)
theorem ec_fill_5 (ha : Arr a n) (hn : n < 2 ^ 31) (v : Int32) : ∀ (m k : Nat), k + m = n → Ec mJ7_fill_53178 (d + 1) (5, [some (Sum.inr a), some (vi v), some (vi (nI k)), some (vi (nI n))], [], hp (sh_fill a k v hi) x) (rV1 x (sh_fill a n v hi))
  | 0, k, h => by
    have e : k = n := by omega
    subst e
    exact ec_seg 3 (20, [some (Sum.inr a), some (vi v), some (vi (nI k)), some (vi (nI k))], [], hp (sh_fill a k v hi) x) (fun g => (if_pos (Int32.le_refl _) : (if nI k ≤ nI k then Iv g mJ7_fill_53178 (d + 1) (20, [some (Sum.inr a), some (vi v), some (vi (nI k)), some (vi (nI k))], [], hp (sh_fill a k v hi) x) else _) = _)) (ec_ret (R := rV1 x) rfl 1 (fun g => rfl))
  | m + 1, k, h => by
    refine ec_seg 3 (10, [some (Sum.inr a), some (vi v), some (vi (nI k)), some (vi (nI n))], [], hp (sh_fill a k v hi) x) (fun g => (if_neg (nI_ge (by omega) hn) : (if nI n ≤ nI k then Iv g mJ7_fill_53178 (d + 1) (20, [some (Sum.inr a), some (vi v), some (vi (nI k)), some (vi (nI n))], [], hp (sh_fill a k v hi) x) else _) = _)) ?_
    refine ec_seg 3 (13, [some (Sum.inr a), some (vi v), some (vi (nI k)), some (vi (nI n))], [vi v, vi (nI k), Sum.inr a], hp (sh_fill a k v hi) x) (fun g => rfl) ?_
    refine ec_seg 1 (14, [some (Sum.inr a), some (vi v), some (vi (nI k)), some (vi (nI n))], [], hp (sh_fill a (k + 1) v hi) x) (fun g => ?_) ?_
    · have e := st_ast (ih := g) (mr := mJ7_fill_53178) (pc := 13) (l := 1) (tg := 0) (r := am_jmp 14 mJ7_fill_53178.2.2.1) (ls := [some (Sum.inr a), some (vi v), some (vi (nI k)), some (vi (nI n))]) (st := []) (x := x) (hi := sh_fill a k v hi) (d := d + 1) (j := nI k) (v := v) ha
      rw [nI_clamp (show k < 2 ^ 31 by omega), if_pos ⟨nI_pos' (by omega), by omega⟩, fill_s] at e
      exact e
    · have ih := ec_fill_5 ha hn v m (k + 1) (by omega)
      rw [← nI_1 k] at ih
      exact ec_seg 2 _ (fun g => rfl) ih
theorem ec_fill (ha : Arr a n) (hn : n < 2 ^ 31) (v : Int32) (hi : HI) : Rn mJ7_fill_53178 [Sum.inr a, vi v] (hp hi x) (d + 1) (rV1 x (sh_fill a n v hi)) := Rn.of (C := (0, [some (Sum.inr a), some (vi v), none, none], [], hp hi x)) (fun g => rfl) (by
  refine ec_seg 3 (3, [some (Sum.inr a), some (vi v), some (vi 0), none], [Sum.inr a], hp hi x) (fun g => rfl) ?_
  refine ec_seg 1 (4, [some (Sum.inr a), some (vi v), some (vi 0), none], [vi (nI n)], hp hi x) (fun g => st_len (pc := 3) (l := 1) (tg := 0) ha) ?_
  have h := ec_fill_5 ha hn v n 0 (by omega) (x := x) (d := d) (hi := hi)
  rw [fill_0] at h
  exact ec_seg 1 (5, [some (Sum.inr a), some (vi v), some (vi (nI 0)), some (vi (nI n))], [], hp hi x) (fun g => rfl) h)
end LOOPS
/-! texts -/
def sh_slen (w : Nat) : Int32 := nI (am_strlen w)
def sh_schar (w : Nat) (j : Int32) : Option Int32 := if 0 ≤ j ∧ j.toNatClampNeg < am_strlen w then some (nI ((am_str.getD w []).getD j.toNatClampNeg 0)) else none
theorem sg_lt (x : Fin 37) : x.val < 60 := by omega
section STR
variable {ih : AK} {mr : MR} {pc l tg w k : Nat} {r : List CI} {ls : AL} {st : List AV} {hi : HI} {x : AX} {d : Nat} {h : AH}
theorem ty_s (hw : w < 60) : am_ty h (za (1000 + w)) = (0, 4) := by
  rw [am_ty_z]
  have e1 : Nat.ble 1000 (1000 + w) = true := Nat.ble_eq.mpr (by omega)
  have e2 : Nat.ble 3000 (1000 + w) = false := by
    cases hb : Nat.ble 3000 (1000 + w) with
    | false => rfl
    | true => have := Nat.ble_eq.mp hb; omega
  have e3 : Nat.ble 2000 (1000 + w) = false := by
    cases hb : Nat.ble 2000 (1000 + w) with
    | false => rfl
    | true => have := Nat.ble_eq.mp hb; omega
  have e4 : Nat.blt (1000 + w) (1000 + am_nstr) = true := Nat.blt_eq.mpr (by show 1000 + w < 1000 + 60; omega)
  rw [e1, e2, e3, e4]
  rfl
theorem ty_b (hw : w < 60) : am_ty h (za (2000 + w)) = (101, am_strlen w) := by
  rw [am_ty_z]
  have e1 : Nat.ble 1000 (2000 + w) = true := Nat.ble_eq.mpr (by omega)
  have e2 : Nat.ble 3000 (2000 + w) = false := by
    cases hb : Nat.ble 3000 (2000 + w) with
    | false => rfl
    | true => have := Nat.ble_eq.mp hb; omega
  have e3 : Nat.ble 2000 (2000 + w) = true := Nat.ble_eq.mpr (by omega)
  have e4 : Nat.blt (2000 + w) (2000 + am_nstr) = true := Nat.blt_eq.mpr (by show 2000 + w < 2000 + 60; omega)
  rw [e1, e2, e3, e4, show 2000 + w - 2000 = w by omega]
  rfl
theorem rR_s (hw : w < 60) : am_rR h (za (1000 + w)) k = zr (2000 + w) := by
  show (bif Nat.ble 1000 (1000 + w) then (bif Nat.beq (1000 + w) 3000 then gr' (Fin.ofNat 37 k) else zr (1000 + w + 1000)) else _) = _
  have e1 : Nat.ble 1000 (1000 + w) = true := Nat.ble_eq.mpr (by omega)
  have e2 : Nat.beq (1000 + w) 3000 = false := by
    cases hb : Nat.beq (1000 + w) 3000 with
    | false => rfl
    | true => have := Nat.eq_of_beq_eq_true hb; omega
  rw [e1, e2, show 1000 + w + 1000 = 2000 + w by omega]
  rfl
theorem rI_s1 (hw : w < 60) : am_rI h (za (1000 + w)) k = 0 := by
  show (bif Nat.ble 1000 (1000 + w) then (bif Nat.ble 3000 (1000 + w) then _ else bif Nat.ble 2000 (1000 + w) then _ else 0) else _) = _
  have e1 : Nat.ble 1000 (1000 + w) = true := Nat.ble_eq.mpr (by omega)
  have e2 : Nat.ble 3000 (1000 + w) = false := by
    cases hb : Nat.ble 3000 (1000 + w) with
    | false => rfl
    | true => have := Nat.ble_eq.mp hb; omega
  have e3 : Nat.ble 2000 (1000 + w) = false := by
    cases hb : Nat.ble 2000 (1000 + w) with
    | false => rfl
    | true => have := Nat.ble_eq.mp hb; omega
  rw [e1, e2, e3]
  rfl
/-- a text's bytes, its coder -/
theorem st_gval (hw : w < 60) (hF : am_F mr.1 k = some (0, 0, 1)) : am_step ih mr ((pc, .getfield k, l, tg) :: r) ls (Sum.inr (za (1000 + w)) :: st) (hp hi x) d = ih mr r ls (Sum.inr (za (2000 + w)) :: st) (hp hi x) d := by
  show (match am_F mr.1 k with | some (ci, j, kd) => bif Nat.beq (am_ty (hp hi x) (za (1000 + w))).1 ci && am_ex (hp hi x) (za (1000 + w)) then (bif Nat.beq kd 1 then am_pr (fun v => ih mr r ls (v :: st) (hp hi x) d) (am_rR (hp hi x) (za (1000 + w)) j) else ih mr r ls (vi (am_rI (hp hi x) (za (1000 + w)) j) :: st) (hp hi x) d) else none | none => none) = _
  rw [hF]
  show (bif Nat.beq (am_ty (hp hi x) (za (1000 + w))).1 0 && am_ex (hp hi x) (za (1000 + w)) then am_pr (fun v => ih mr r ls (v :: st) (hp hi x) d) (am_rR (hp hi x) (za (1000 + w)) 0) else none) = _
  rw [ty_s hw, rR_s hw]
  rfl
theorem st_gcod (hw : w < 60) (hF : am_F mr.1 k = some (0, 1, 3)) : am_step ih mr ((pc, .getfield k, l, tg) :: r) ls (Sum.inr (za (1000 + w)) :: st) (hp hi x) d = ih mr r ls (vi 0 :: st) (hp hi x) d := by
  show (match am_F mr.1 k with | some (ci, j, kd) => bif Nat.beq (am_ty (hp hi x) (za (1000 + w))).1 ci && am_ex (hp hi x) (za (1000 + w)) then (bif Nat.beq kd 1 then am_pr (fun v => ih mr r ls (v :: st) (hp hi x) d) (am_rR (hp hi x) (za (1000 + w)) j) else ih mr r ls (vi (am_rI (hp hi x) (za (1000 + w)) j) :: st) (hp hi x) d) else none | none => none) = _
  rw [hF]
  show (bif Nat.beq (am_ty (hp hi x) (za (1000 + w))).1 0 && am_ex (hp hi x) (za (1000 + w)) then ih mr r ls (vi (am_rI (hp hi x) (za (1000 + w)) 1) :: st) (hp hi x) d else none) = _
  rw [ty_s hw, rI_s1 hw]
  rfl
theorem st_blen (hw : w < 60) : am_step ih mr ((pc, .arraylength, l, tg) :: r) ls (Sum.inr (za (2000 + w)) :: st) (hp hi x) d = ih mr r ls (vi (nI (am_strlen w)) :: st) (hp hi x) d := by
  show (bif Nat.ble 100 (am_ty (hp hi x) (za (2000 + w))).1 && Nat.ble (am_ty (hp hi x) (za (2000 + w))).1 106 && am_ex (hp hi x) (za (2000 + w)) then ih mr r ls (vi (nI (am_ty (hp hi x) (za (2000 + w))).2) :: st) (hp hi x) d else none) = _
  rw [ty_b hw]
  have e1 : am_ex (hp hi x) (za (2000 + w)) = true := rfl
  rw [e1]
  rfl
theorem st_bald {j : Int32} (hw : w < 60) : am_step ih mr ((pc, .baload, l, tg) :: r) ls (vi j :: Sum.inr (za (2000 + w)) :: st) (hp hi x) d = if 0 ≤ j ∧ j.toNatClampNeg < am_strlen w then ih mr r ls (vi (nI ((am_str.getD w []).getD j.toNatClampNeg 0)) :: st) (hp hi x) d else none := by
  show (bif (Nat.beq (am_ty (hp hi x) (za (2000 + w))).1 101 || Nat.beq (am_ty (hp hi x) (za (2000 + w))).1 102) && am_ex (hp hi x) (za (2000 + w)) then (if 0 ≤ j ∧ j.toNatClampNeg < (am_ty (hp hi x) (za (2000 + w))).2 then ih mr r ls (vi (am_rI (hp hi x) (za (2000 + w)) j.toNatClampNeg) :: st) (hp hi x) d else none) else none) = _
  rw [ty_b hw, am_rI_s (show w < am_nstr from hw)]
  rfl
end STR
theorem noS_s (w : Nat) : am_noS (Sum.inr (za (1000 + w))) = true := rfl
theorem rck_s {w n k : Nat} (hw : w < 60) {t : List AV} {hi : HI} {x : AX} (hl : Nat.ble (am_args (Sum.inr (za (1000 + w)) :: t)).length n = true) : (Nat.ble (am_args (Sum.inr (za (1000 + w)) :: t)).length n && (am_stk k || am_rck 0 (hp hi x) (Sum.inr (za (1000 + w)) :: t))) = true := by
  rw [hl]
  show (true && (am_stk k || (Nat.beq (am_ty (hp hi x) (za (1000 + w))).1 0 && true))) = true
  rw [ty_s hw]
  cases am_stk k <;> rfl
