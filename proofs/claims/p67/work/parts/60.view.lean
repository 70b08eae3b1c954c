/-! THE WORLD AS ONE ROW OF NUMBERS: the class's World i and the model's rows, seen alike -/
abbrev Wd : Type := Nat → Int32
def nn (w : Wd) (k : Nat) : Nat := (w k).toNatClampNeg
def adrT : List (Nat × Nat) := [(1, 4), (1, 5), (1, 6), (0, 8), (1, 7), (1, 8), (0, 9), (0, 10), (6, 0), (6, 1), (6, 2), (6, 3), (6, 5), (6, 6), (6, 7), (6, 8), (0, 12), (1, 12), (0, 13), (7, 2), (1, 9), (1, 10), (6, 4), (0, 11), (1, 11), (99, 0)]
/-- where a number of the row lies in a World -/
def adr (k : Nat) : Nat × Nat :=
  if k < 26 then adrT.getD k (99, 0) else if k < 36 then (10, k - 26) else if k < 46 then (2, k - 36) else if k < 54 then (3 + (k - 46) % 2, (k - 46) / 2) else if k < 84 then (5, k - 54) else if k < 164 then (13, k - 84) else if k < 244 then (14, k - 164) else if k < 324 then (12, k - 244) else if k < 404 then (11, k - 324) else if k < 424 then (8 + (k - 404) % 2, (k - 404) / 2) else (99, 0)
/-- which number lies there -/
def ida (j m : Nat) : Nat :=
  if j = 0 then [0, 0, 0, 0, 0, 0, 0, 0, 3, 6, 7, 23, 16, 18].getD m 0 else if j = 1 then [0, 0, 0, 0, 0, 1, 2, 4, 5, 20, 21, 24, 17].getD m 0 else if j = 6 then [8, 9, 10, 11, 22, 12, 13, 14, 15].getD m 0 else if j = 7 then 19 else if j = 10 then 26 + m else if j = 2 then 36 + m else if j = 3 then 46 + 2 * m else if j = 4 then 47 + 2 * m else if j = 5 then 54 + m else if j = 13 then 84 + m else if j = 14 then 164 + m else if j = 12 then 244 + m else if j = 11 then 324 + m else if j = 8 then 404 + 2 * m else 405 + 2 * m
theorem ida_adr : ∀ k, k < 424 → k ≠ 25 → ida (adr k).1 (adr k).2 = k := by decide +kernel
def rv (i : Fin 12) (hi : HI) : Wd := fun k => if k < 424 ∧ k ≠ 25 then hi (wa i (adr k).1) (adr k).2 else 0
/-- what lies behind the counts counts for nothing -/
def nz (w : Wd) : Wd := fun k => if k < 46 then (if k = 25 then 0 else w k) else if k < 54 then (if (k - 46) / 2 < nn w 24 then w k else 0) else if k < 84 then (if k - 54 < nn w 17 then w k else 0) else if k < 404 then w k else if k < 424 then (if (k - 404) / 2 < nn w 19 then w k else 0) else 0
def vw_ (i : Fin 12) (hi : HI) : Wd := nz (rv i hi)
/-- nothing else has changed -/
def fr_ (i : Fin 12) (h h1 : HI) : Prop := ∀ a k, (∀ j, a ≠ wa i j) → h1 a k = h a k
theorem fr_.refl (i : Fin 12) (h : HI) : fr_ i h h := fun _ _ _ => rfl
theorem fr_.trans {i : Fin 12} {h h1 h2 : HI} (a : fr_ i h h1) (b : fr_ i h1 h2) : fr_ i h h2 := fun x k hx => (b x k hx).trans (a x k hx)
theorem fr_.u {i : Fin 12} {h h1 : HI} (a : fr_ i h h1) {j m : Nat} {v : Int32} : fr_ i h (am_u h1 (wa i j) m v) := fun x k hx => by
  unfold am_u
  by_cases hk : k = m
  · rw [if_pos hk, if_neg (hx j)]
    exact a x k hx
  · rw [if_neg hk]
    exact a x k hx
def fm_ (h h1 : HI) : Prop := ∀ a k, a ≠ za 196 → h1 a k = h a k
theorem fm_.refl (h : HI) : fm_ h h := fun _ _ _ => rfl
theorem fm_.trans {h h1 h2 : HI} (a : fm_ h h1) (b : fm_ h1 h2) : fm_ h h2 := fun x k hx => (b x k hx).trans (a x k hx)
theorem fm_.u {h h1 : HI} (a : fm_ h h1) {m : Nat} {v : Int32} : fm_ h (am_u h1 (za 196) m v) := fun x k hx => by
  unfold am_u
  by_cases hk : k = m
  · rw [if_pos hk, if_neg hx]
    exact a x k hx
  · rw [if_neg hk]
    exact a x k hx
section VIEW
variable {i : Fin 12} {hi : HI} {w : Wd}
theorem upd_e (f : Wd) (k : Nat) (v : Int32) (j : Nat) : upd f k v j = if j = k then v else f j := rfl
theorem rv_u {j m k : Nat} {v : Int32} (hk : k < 424) (h25 : k ≠ 25) (ha : adr k = (j, m)) : rv i (am_u hi (wa i j) m v) = upd (rv i hi) k v := by
  funext q
  rw [upd_e]
  unfold rv
  by_cases hq : q = k
  · subst hq
    rw [if_pos rfl, if_pos ⟨hk, h25⟩, ha]
    unfold am_u
    rw [if_pos rfl, if_pos rfl]
  · rw [if_neg hq]
    by_cases h9 : q < 424 ∧ q ≠ 25
    · rw [if_pos h9, if_pos h9]
      unfold am_u
      by_cases hm : (adr q).2 = m
      · rw [if_pos hm]
        by_cases hj : (adr q).1 = j
        · exfalso
          apply hq
          have e1 := ida_adr q h9.1 h9.2
          have e2 := ida_adr k hk h25
          rw [ha] at e2
          rw [hm, hj] at e1
          exact e1.symm.trans e2
        · rw [if_neg (fun h => hj (by injection h with h; injection h))]
      · rw [if_neg hm]
    · rw [if_neg h9, if_neg h9]
theorem rv_f {h1 : HI} (h : ∀ j k, h1 (wa i j) k = hi (wa i j) k) : rv i h1 = rv i hi := by
  funext q
  unfold rv
  rw [h]
theorem nz_p {k : Nat} (h : (k < 46 ∧ k ≠ 25) ∨ (84 ≤ k ∧ k < 404)) : nz w k = w k := by
  unfold nz
  rcases h with ⟨h1, h2⟩ | ⟨h1, h2⟩
  · rw [if_pos h1, if_neg h2]
  · rw [if_neg (by omega), if_neg (by omega), if_neg (by omega), if_pos h2]
theorem nz_u {k : Nat} {v : Int32} (h : (k < 46 ∧ k ≠ 25 ∧ k ≠ 17 ∧ k ≠ 19 ∧ k ≠ 24) ∨ (84 ≤ k ∧ k < 404)) : nz (upd w k v) = upd (nz w) k v := by
  have h24 : nn (upd w k v) 24 = nn w 24 := by unfold nn; rw [upd_e, if_neg (by omega)]
  have h17 : nn (upd w k v) 17 = nn w 17 := by unfold nn; rw [upd_e, if_neg (by omega)]
  have h19 : nn (upd w k v) 19 = nn w 19 := by unfold nn; rw [upd_e, if_neg (by omega)]
  funext q
  rw [upd_e]
  unfold nz
  rw [h24, h17, h19, upd_e]
  by_cases hq : q = k
  · subst hq
    rw [if_pos rfl]
    rcases h with h | h
    · rw [if_pos h.1, if_neg h.2.1, if_pos rfl]
    · rw [if_neg (by omega), if_neg (by omega), if_neg (by omega), if_pos h.2, if_pos rfl]
  · rw [if_neg hq, if_neg hq]
theorem V_u {j m k : Nat} {v : Int32} (hk : k < 424) (ha : adr k = (j, m)) (h : (k < 46 ∧ k ≠ 25 ∧ k ≠ 17 ∧ k ≠ 19 ∧ k ≠ 24) ∨ (84 ≤ k ∧ k < 404)) : vw_ i (am_u hi (wa i j) m v) = upd (vw_ i hi) k v := by
  unfold vw_
  rw [rv_u hk (by omega) ha, nz_u h]
theorem V_r {j m k : Nat} (hk : k < 424) (ha : adr k = (j, m)) (h : (k < 46 ∧ k ≠ 25) ∨ (84 ≤ k ∧ k < 404)) : vw_ i hi k = hi (wa i j) m := by
  unfold vw_
  rw [nz_p h]
  unfold rv
  rw [if_pos ⟨hk, by omega⟩, ha]
theorem V_f {h1 : HI} (h : ∀ j k, h1 (wa i j) k = hi (wa i j) k) : vw_ i h1 = vw_ i hi := by
  unfold vw_
  rw [rv_f h]
theorem V_fr {i2 : Fin 12} {h1 : HI} (h : fr_ i2 hi h1) (hne : i ≠ i2) : vw_ i h1 = vw_ i hi := V_f fun j k => h _ _ fun j2 e => hne (by injection e with e; injection e)
theorem V_frM {h1 : HI} (h : fm_ hi h1) : vw_ i h1 = vw_ i hi := V_f fun j k => h _ _ (fun e => by cases e)
end VIEW
