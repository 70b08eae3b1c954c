/-! THE MACHINE UNDER THE ABSTRACT ONE: what a real heap and a real frame have to do with an abstract one -/
/-- the launch's numbers: where the cells begin, classes and slots, the classes of arrays by kind, where the Signs and the other constants lie -/
abbrev AKx : Type := Nat × va_G × (Nat → ClassId) × (Fin 37 → Nat) × (Nat → Nat) × Nat × (Nat → Int32)
def am_ad (K : AKx) (va : Nat) : AA → Nat
  | Sum.inl w => K.1 + am_ix (Sum.inl w)
  | Sum.inr (Sum.inl x) => K.2.2.2.1 x
  | Sum.inr (Sum.inr n) => bif Nat.beq n 3 then va else bif Nat.ble 1000 n then K.2.2.2.2.1 n else K.1 + n
def am_rv (K : AKx) (va : Nat) : AV → Value
  | Sum.inl v => v
  | Sum.inr a => .ref (am_ad K va a)
def am_ro (K : AKx) (va : Nat) : AV → Option Nat
  | Sum.inr a => some (am_ad K va a)
  | Sum.inl _ => none
/-- which fields of a class hold references -/
def am_rt : List (Nat × List Nat) := [(0, [0]), (1, [0]), (4, [0, 1, 2]), (5, [0, 1, 2, 3]), (6, [0, 1]), (7, [0, 1, 2, 3]), (8, [0, 1, 2]), (10, [0, 1, 2, 3, 4, 5, 6, 7]), (11, [0, 1, 2, 3, 4, 5]), (12, [1, 2, 3, 4, 5, 8, 20]), (13, [0])]
def am_isR (t k : Nat) : Bool := match am_lk t am_rt with | some l => l.any (Nat.beq k) | none => false
def am_fv (K : AKx) (va : Nat) (h : AH) (a : AA) (t k : Nat) : Value := bif am_isR t k then va_rf (am_ro K va (h.r a k)) else .int (h.i a k)
def am_ac (K : AKx) (va : Nat) (h : AH) (a : AA) (t : Nat) : (Nat → Int32) ⊕ (Nat → Int64) ⊕ (Nat → UInt32) ⊕ (Nat → UInt64) ⊕ (Nat → Option Nat) :=
  bif Nat.beq t 103 then .inr (.inl (fun j => if j = 0 then h.2.2.1 else 0)) else bif Nat.beq t 104 then .inr (.inr (.inr (.inl (fun j => if j = 0 then h.2.2.2.1 else 0)))) else bif Nat.ble 105 t then .inr (.inr (.inr (.inr (fun j => am_ro K va (h.r a j))))) else .inl (fun j => h.i a j)
/-- what a cell holds -/
def am_ct (K : AKx) (va : Nat) (h : AH) (a : AA) : va_E :=
  bif Nat.blt (am_ty h a).1 100 then .inr ((am_ty h a).1, (List.range (am_ty h a).2).map (am_fv K va h a (am_ty h a).1)) else .inl (K.2.2.1 (am_ty h a).1, (am_ty h a).2, am_ac K va h a (am_ty h a).1)
/-- what a cell holds when it is made -/
def am_df (K : AKx) (va : Nat) (h : AH) (a : AA) : va_E := am_ct K va ((fun _ _ => 0), (fun _ _ => Sum.inl .null), 0, 0, h.2.2.2.2) a
def am_n (h : AH) : Nat := match h.nx with | none => am_all | some n => n
/-- the whole world, in the order of its making -/
def am_ws (K : AKx) (va : Nat) (h : AH) : va_W := (List.range (am_n h)).map (fun k => (am_ad K va (am_lay k), am_ct K va h (am_lay k)))
def am_fr (K : AKx) : Nat → Prop := fun q => K.1 ≤ q
/-- the text's value is named by the text alone -/
def am_NA (h : AH) : Prop := ∀ (a : AA) (j : Nat), a ≠ za 2 → am_noS (h.2.1 a j) = true
def am_Rel (K : AKx) (va : Nat) (h : AH) (H : Heap) : Prop := va_P K.2.1 vwCl (am_ws K va h) H ∧ va_D (am_fr K) (am_ws K va h) ∧ (match h.nx with | some n => H.size = K.1 + n ∧ va = K.1 + 3 ∧ n < am_all ∧ (∀ k, n ≤ k → k < am_all → am_ct K va h (am_lay k) = am_df K va h (am_lay k)) | none => True) ∧ h.sl = K.2.2.2.2.2.1 ∧ (∀ k, h.i (za 3004) k = K.2.2.2.2.2.2 k) ∧ am_NA h
/-- a cell of ours that is made -/
def am_val (h : AH) (a : AA) : Prop := am_dyn a = true ∧ am_ex h a = true ∧ (am_ty h a).1 ≠ 999
theorem am_lk_mem {α : Type} {n : Nat} {v : α} : ∀ {l : List (Nat × α)}, am_lk n l = some v → (n, v) ∈ l
  | [], h => by cases h
  | e :: t, h => by
    unfold am_lk at h
    cases hb : Nat.beq n e.1 with
    | true =>
      rw [hb] at h
      have h2 : e.2 = v := Option.some.inj h
      have h3 : n = e.1 := Nat.eq_of_beq_eq_true hb
      rw [h3, ← h2]
      exact List.mem_cons_self
    | false =>
      rw [hb] at h
      exact List.mem_cons_of_mem _ (am_lk_mem h)
theorem am_tw_lt : ∀ q ∈ am_tw, q.1 < 15 := by decide
theorem am_tz_ok : ∀ q ∈ am_tz, (q.1 < 4 ∨ (34 ≤ q.1 ∧ q.1 < 45) ∨ 195 ≤ q.1) ∧ q.1 < 205 := by decide
theorem am_ix_w (i : Fin 12) (j : Nat) : am_ix (Sum.inl (i, j)) = if i.val < 2 then 4 + 15 * i.val + j else 45 + 15 * (i.val - 2) + j := rfl
theorem am_ty_w (h : AH) (i : Fin 12) (j : Nat) : am_ty h (Sum.inl (i, j)) = match am_lk j am_tw with | some t => t | none => (999, 0) := rfl
theorem am_ty_z (h : AH) (n : Nat) : am_ty h (Sum.inr (Sum.inr n)) = bif Nat.ble 1000 n then (bif Nat.ble 3000 n then (bif Nat.beq n 3000 then (106, 37) else bif Nat.beq n 3001 then (100, 37) else bif Nat.beq n 3002 then (101, 100) else bif Nat.beq n 3003 then (101, 100) else bif Nat.beq n 3004 then (100, h.sl) else (999, 0)) else bif Nat.ble 2000 n then (bif Nat.blt n (2000 + am_nstr) then (101, am_strlen (n - 2000)) else (999, 0)) else bif Nat.blt n (1000 + am_nstr) then (0, 4) else (999, 0))
      else bif Nat.beq n 3 then (101, h.cp) else match am_lk n am_tz with | some t => t | none => (999, 0) := rfl
theorem am_lay_ix {h : AH} {a : AA} (hd : am_dyn a = true) (ht : (am_ty h a).1 ≠ 999) : am_lay (am_ix a) = a ∧ am_ix a < am_all := by
  rcases a with ⟨i, j⟩ | x | n
  · have hj : j < 15 := by
      rw [am_ty_w] at ht
      cases hl : am_lk j am_tw with
      | none => rw [hl] at ht; exact absurd rfl ht
      | some t => exact am_tw_lt _ (am_lk_mem hl)
    have hi := i.isLt
    rw [am_ix_w]
    by_cases h2 : i.val < 2
    · rw [if_pos h2]
      refine ⟨?_, by unfold am_all; omega⟩
      unfold am_lay
      rw [if_pos (by omega)]
      have e1 : (4 + 15 * i.val + j - 4) / 15 = i.val := by omega
      have e2 : (4 + 15 * i.val + j - 4) % 15 = j := by omega
      rw [e1, e2]
      exact congrArg (fun z => wa z j) (Fin.ext (Nat.mod_eq_of_lt hi))
    · rw [if_neg h2]
      refine ⟨?_, by unfold am_all; omega⟩
      unfold am_lay
      rw [if_neg (by omega), if_pos (by omega)]
      have e1 : 2 + (45 + 15 * (i.val - 2) + j - 45) / 15 = i.val := by omega
      have e2 : (45 + 15 * (i.val - 2) + j - 45) % 15 = j := by omega
      rw [e1, e2]
      exact congrArg (fun z => wa z j) (Fin.ext (Nat.mod_eq_of_lt hi))
  · cases hd
  · have hn : n < 1000 := by
      have h3 : Nat.blt n 1000 = true := hd
      exact Nat.blt_eq.mp h3
    have hk : (n < 4 ∨ (34 ≤ n ∧ n < 45) ∨ 195 ≤ n) ∧ n < 205 := by
      by_cases h3 : n = 3
      · subst h3; decide
      · have hb : Nat.ble 1000 n = false := by
          cases hb : Nat.ble 1000 n with
          | false => rfl
          | true => have := Nat.le_of_ble_eq_true hb; omega
        have hb3 : Nat.beq n 3 = false := by
          cases hb3 : Nat.beq n 3 with
          | false => rfl
          | true => exact absurd (Nat.eq_of_beq_eq_true hb3) h3
        rw [am_ty_z, hb, hb3] at ht
        cases hl : am_lk n am_tz with
        | none => rw [hl] at ht; exact absurd rfl ht
        | some t => exact am_tz_ok _ (am_lk_mem hl)
    refine ⟨?_, by show n < 205; omega⟩
    show am_lay n = za n
    unfold am_lay
    rw [if_neg (by omega), if_neg (by omega)]
theorem am_ex_lt {h : AH} {a : AA} (hv : am_val h a) : am_ix a < am_n h := by
  obtain ⟨hd, he, ht⟩ := hv
  have h2 := (am_lay_ix hd ht).2
  unfold am_n
  unfold am_ex at he
  cases hn : h.nx with
  | none => exact h2
  | some n =>
    rw [hn] at he
    rcases a with w | x | k
    · exact Nat.blt_eq.mp he
    · cases hd
    · have hk : Nat.blt k 1000 = true := hd
      have hk2 := Nat.blt_eq.mp hk
      have he2 : (Nat.ble 1000 k || Nat.blt k n) = true := he
      rcases Bool.or_eq_true_iff.mp he2 with q | q
      · have := Nat.le_of_ble_eq_true q; omega
      · exact Nat.blt_eq.mp q
theorem am_here {K : AKx} {va : Nat} {h : AH} {a : AA} (hv : am_val h a) : (am_ws K va h)[am_ix a]? = some (am_ad K va a, am_ct K va h a) := by
  have h1 := am_ex_lt hv
  unfold am_ws
  rw [List.getElem?_map, List.getElem?_range h1, Option.map_some, (am_lay_ix hv.1 hv.2.2).1]
theorem am_lay_at {k : Nat} (hk : k < am_all) : am_ix (am_lay k) = k := by
  unfold am_all at hk
  unfold am_lay
  by_cases h1 : 4 ≤ k ∧ k < 34
  · rw [if_pos h1]
    have h3 : (k - 4) / 15 < 12 := by omega
    rw [am_ix_w]
    have e : (Fin.ofNat 12 ((k - 4) / 15)).val = (k - 4) / 15 := Nat.mod_eq_of_lt h3
    rw [e]
    split <;> omega
  · rw [if_neg h1]
    by_cases h2 : 45 ≤ k ∧ k < 195
    · rw [if_pos h2]
      have h3 : 2 + (k - 45) / 15 < 12 := by omega
      rw [am_ix_w]
      have e : (Fin.ofNat 12 (2 + (k - 45) / 15)).val = 2 + (k - 45) / 15 := Nat.mod_eq_of_lt h3
      rw [e]
      split <;> omega
    · rw [if_neg h2]
      rfl
/-- one cell is written -/
theorem am_wset {K : AKx} {va : Nat} {h h2 : AH} {a : AA} (hv : am_val h a) (hn : h2.nx = h.nx) (ho : ∀ b : AA, b ≠ a → am_ct K va h2 b = am_ct K va h b) : (am_ws K va h).set (am_ix a) (am_ad K va a, am_ct K va h2 a) = am_ws K va h2 := by
  have h1 := am_ex_lt hv
  have hnn : am_n h2 = am_n h := by unfold am_n; rw [hn]
  apply List.ext_getElem?
  intro k
  unfold am_ws
  rw [hnn]
  by_cases hk : k = am_ix a
  · subst hk
    rw [List.getElem?_set_self (by simpa using h1), List.getElem?_map, List.getElem?_range h1, Option.map_some, (am_lay_ix hv.1 hv.2.2).1]
  · rw [List.getElem?_set_ne (Ne.symm hk), List.getElem?_map, List.getElem?_map]
    by_cases hl : k < am_n h
    · rw [List.getElem?_range hl, Option.map_some, Option.map_some]
      by_cases hk2 : am_lay k = a
      · by_cases hka : k < am_all
        · exact absurd (by rw [← hk2, am_lay_at hka]) hk
        · have hz : am_lay k = za k := by
            unfold am_all at hka
            unfold am_lay
            rw [if_neg (by omega), if_neg (by omega)]
          rw [hz] at hk2
          exact absurd (by rw [← hk2]; rfl) hk
      · rw [ho _ hk2]
    · have e : (List.range (am_n h))[k]? = none := by simp; omega
      rw [e]; rfl
/-- the locals -/
def am_LR (K : AKx) (va nL : Nat) (lsr : Array Slot) (l : AL) : Prop := lsr.size = nL ∧ lv_wf lsr ∧ ∀ (i : Nat) (v : AV), l[i]? = some (some v) → lsr[i]? = some (.val (am_rv K va v))
def am_al (K : AKx) (va : Nat) (l : AL) : List (Nat × Value) := (List.range l.length).filterMap (fun i => match l[i]? with | some (some v) => some (i, am_rv K va v) | _ => none)
theorem am_al_mem {K : AKx} {va : Nat} {l : AL} {q : Nat × Value} (h : q ∈ am_al K va l) : ∃ v, l[q.1]? = some (some v) ∧ q.2 = am_rv K va v := by
  obtain ⟨i, -, hi⟩ := List.mem_filterMap.mp h
  split at hi
  · next v hv =>
    cases hi
    exact ⟨v, hv, rfl⟩
  · cases hi
theorem am_al_in {K : AKx} {va : Nat} {l : AL} {i : Nat} {v : AV} (h : l[i]? = some (some v)) : (i, am_rv K va v) ∈ am_al K va l := by
  refine List.mem_filterMap.mpr ⟨i, List.mem_range.mpr (List.getElem?_eq_some_iff.mp h).1, ?_⟩
  rw [h]
theorem am_LR.has {K : AKx} {va nL : Nat} {lsr : Array Slot} {l : AL} (h : am_LR K va nL lsr l) : lv_has lsr nL (am_al K va l) := ⟨h.1, h.2.1, fun q hq => by
  obtain ⟨v, h1, h2⟩ := am_al_mem hq
  rw [h2]
  exact h.2.2 _ _ h1⟩
theorem am_get_at {ls : AL} {n : Nat} {v : AV} (h : am_get ls n = some v) : ls[n]? = some (some v) := by
  unfold am_get at h
  split at h
  · next w hw => rw [hw, h]
  · cases h
theorem am_LR.at {K : AKx} {va nL : Nat} {lsr : Array Slot} {l : AL} (h : am_LR K va nL lsr l) {n : Nat} {v : AV} (hv : am_get l n = some v) : lsr[n]? = some (.val (am_rv K va v)) := h.2.2 n v (am_get_at hv)
theorem am_cat {K : AKx} {va : Nat} (v : AV) : (am_rv K va v).category = if am_cat2 v = true then 2 else 1 := by
  rcases v with v | a
  · cases v <;> rfl
  · rfl
theorem am_clr_at {l : AL} {n : Nat} {j : Nat} {w : AV} (h : (am_clr l n)[j]? = some (some w)) : l[j]? = some (some w) ∧ ¬ (j + 1 = n ∧ am_cat2 w = true) := by
  cases n with
  | zero => exact ⟨h, fun q => by omega⟩
  | succ k =>
    have e : am_clr l (k + 1) = match l[k]? with | some (some w) => bif am_cat2 w then l.set k none else l | _ => l := rfl
    rw [e] at h
    split at h
    · next u hk =>
      cases hu : am_cat2 u with
      | false =>
        rw [hu] at h
        have h9 : l[j]? = some (some w) := h
        refine ⟨h9, fun q => ?_⟩
        have : j = k := by omega
        subst this
        rw [hk] at h9
        cases h9
        rw [hu] at q
        exact absurd q.2 (by decide)
      | true =>
        rw [hu] at h
        have h : (l.set k none)[j]? = some (some w) := h
        by_cases hj : j = k
        · subst hj
          rw [List.getElem?_set] at h
          simp at h
        · rw [List.getElem?_set_ne (Ne.symm hj)] at h
          exact ⟨h, fun q => hj (by omega)⟩
    · next hk =>
      refine ⟨h, fun q => ?_⟩
      have : j = k := by omega
      subst this
      exact hk w h
theorem am_put_at {l : AL} {n : Nat} {v w : AV} {j : Nat} (h : (am_put l n v)[j]? = some (some w)) : (j = n ∧ w = v) ∨ (j ≠ n ∧ l[j]? = some (some w) ∧ (am_cat2 v = true → j ≠ n + 1) ∧ ¬ (j + 1 = n ∧ am_cat2 w = true)) := by
  unfold am_put at h
  have h3 : ((am_clr l n).set n (some v))[j]? = some (some w) ∧ (am_cat2 v = true → j ≠ n + 1) := by
    cases hc : am_cat2 v with
    | false => rw [hc] at h; exact ⟨h, fun q => absurd q (by decide)⟩
    | true =>
      rw [hc] at h
      have h4 : (((am_clr l n).set n (some v)).set (n + 1) none)[j]? = some (some w) := h
      by_cases hj : j = n + 1
      · subst hj
        rw [List.getElem?_set] at h4
        simp at h4
      · rw [List.getElem?_set_ne (Ne.symm hj)] at h4
        exact ⟨h4, fun _ => hj⟩
  obtain ⟨h3, h5⟩ := h3
  by_cases hj : j = n
  · subst hj
    rw [List.getElem?_set] at h3
    simp at h3
    exact Or.inl ⟨rfl, h3.2.symm⟩
  · rw [List.getElem?_set_ne (Ne.symm hj)] at h3
    obtain ⟨h6, h7⟩ := am_clr_at h3
    exact Or.inr ⟨hj, h6, h5, h7⟩
theorem am_LR.put1 {K : AKx} {va nL : Nat} {lsr' : Array Slot} {l : AL} {n : Nat} {v : AV} {x : Value} (hx : am_rv K va v = x) (h : lv_has lsr' nL ((n, x) :: (am_al K va l).filter (fun q => !(q.1 == n) && !(q.1 + 1 == n && q.2.category == 2)))) : am_LR K va nL lsr' (am_put l n v) := by
  refine ⟨h.1, h.2.1, fun j w hw => ?_⟩
  rcases am_put_at hw with ⟨rfl, rfl⟩ | ⟨h1, h2, -, h4⟩
  · rw [hx]; exact h.2.2 (j, x) List.mem_cons_self
  · refine h.2.2 (j, am_rv K va w) (List.mem_cons_of_mem _ (List.mem_filter.mpr ⟨am_al_in h2, ?_⟩))
    have hc := am_cat (K := K) (va := va) w
    simp only [Bool.and_eq_true, Bool.not_eq_true', beq_eq_false_iff_ne, ne_eq, Bool.and_eq_false_iff]
    refine ⟨h1, ?_⟩
    by_cases hj : j + 1 = n
    · refine Or.inr fun z => h4 ⟨hj, ?_⟩
      by_cases hw2 : am_cat2 w = true
      · exact hw2
      · rw [if_neg hw2] at hc; rw [hc] at z; cases z
    · exact Or.inl hj
theorem am_LR.put2 {K : AKx} {va nL : Nat} {lsr' : Array Slot} {l : AL} {n : Nat} {v : AV} {x : Value} (hx : am_rv K va v = x) (hc2 : am_cat2 v = true) (h : lv_has lsr' nL ((n, x) :: (am_al K va l).filter (fun q => !(q.1 == n) && (!(q.1 == n + 1) && !(q.1 + 1 == n && q.2.category == 2))))) : am_LR K va nL lsr' (am_put l n v) := by
  refine ⟨h.1, h.2.1, fun j w hw => ?_⟩
  rcases am_put_at hw with ⟨rfl, rfl⟩ | ⟨h1, h2, h3, h4⟩
  · rw [hx]; exact h.2.2 (j, x) List.mem_cons_self
  · refine h.2.2 (j, am_rv K va w) (List.mem_cons_of_mem _ (List.mem_filter.mpr ⟨am_al_in h2, ?_⟩))
    have hc := am_cat (K := K) (va := va) w
    simp only [Bool.and_eq_true, Bool.not_eq_true', beq_eq_false_iff_ne, ne_eq, Bool.and_eq_false_iff]
    refine ⟨h1, h3 hc2, ?_⟩
    by_cases hj : j + 1 = n
    · refine Or.inr fun z => h4 ⟨hj, ?_⟩
      by_cases hw2 : am_cat2 w = true
      · exact hw2
      · rw [if_neg hw2] at hc; rw [hc] at z; cases z
    · exact Or.inl hj
