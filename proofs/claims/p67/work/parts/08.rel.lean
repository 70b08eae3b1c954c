/-! THE MACHINE UNDER THE ABSTRACT ONE: what a real heap and a real frame have to do with an abstract one -/
/-- the launch's numbers: where the cells begin, classes and slots, the classes of arrays by kind, where the Signs and the other constants lie -/
abbrev AKx : Type := Nat × va_G × (Nat → ClassId) × (Fin 37 → Nat) × (Nat → Nat) × Nat × (Nat → Int32) × (Nat × (Nat → Nat) × (Nat → Nat))
/-- .. with what the law has made already: how many cells, where, of which kinds -/
abbrev kB (K : AKx) (B : Nat × (Nat → Nat) × (Nat → Nat)) : AKx := (K.1, K.2.1, K.2.2.1, K.2.2.2.1, K.2.2.2.2.1, K.2.2.2.2.2.1, K.2.2.2.2.2.2.1, B)
def am_ad (K : AKx) (va : Nat → Nat) : AA → Nat
  | Sum.inl w => K.1 + am_ix (Sum.inl w)
  | Sum.inr (Sum.inl x) => K.2.2.2.1 x
  | Sum.inr (Sum.inr (Sum.inl n)) => bif Nat.ble 1000 n then K.2.2.2.2.1 n else K.1 + n
  | Sum.inr (Sum.inr (Sum.inr q)) => va q.2
def am_rv (K : AKx) (va : Nat → Nat) : AV → Value
  | Sum.inl v => v
  | Sum.inr a => .ref (am_ad K va a)
def am_ro (K : AKx) (va : Nat → Nat) : AV → Option Nat
  | Sum.inr a => some (am_ad K va a)
  | Sum.inl _ => none
/-- which fields of a class hold references -/
def am_rt : List (Nat × List Nat) := [(0, [0]), (1, [0]), (2, [1]), (4, [0, 1, 2]), (5, [0, 1, 2, 3]), (6, [0, 1]), (7, [0, 1, 2, 3]), (8, [0, 1, 2]), (10, [0, 1, 2, 3, 4, 5, 6, 7]), (11, [0, 1, 2, 3, 4, 5]), (12, [22, 23, 24, 25, 26, 27, 28, 29, 30]), (13, [0])]
def am_isR (t k : Nat) : Bool := match am_lk t am_rt with | some l => l.any (Nat.beq k) | none => false
def am_fv (K : AKx) (va : Nat → Nat) (h : AH) (a : AA) (t k : Nat) : Value := bif am_isR t k then va_rf (am_ro K va (h.r a k)) else .int (h.i a k)
def am_li : AA → Nat
  | Sum.inr (Sum.inr (Sum.inr q)) => q.2
  | _ => 0
def am_ac (K : AKx) (va : Nat → Nat) (h : AH) (a : AA) (t : Nat) : (Nat → Int32) ⊕ (Nat → Int64) ⊕ (Nat → UInt32) ⊕ (Nat → UInt64) ⊕ (Nat → Option Nat) :=
  bif Nat.beq t 103 then .inr (.inl (fun j => h.lg (am_li a) j)) else bif Nat.ble 104 t then .inr (.inr (.inr (.inr (fun j => am_ro K va (h.r a j))))) else .inl (fun j => h.i a j)
/-- what a cell holds -/
def am_ct (K : AKx) (va : Nat → Nat) (h : AH) (a : AA) : va_E :=
  bif Nat.blt (am_ty h a).1 100 then .inr ((am_ty h a).1, (List.range (am_ty h a).2).map (am_fv K va h a (am_ty h a).1)) else .inl (K.2.2.1 (am_ty h a).1, (am_ty h a).2, am_ac K va h a (am_ty h a).1)
/-- what a cell holds when it is made -/
def am_df (K : AKx) (va : Nat → Nat) (h : AH) (a : AA) : va_E := am_ct K va ((fun _ _ => 0), (fun _ _ => Sum.inl .null), 0, ((fun _ _ => 0), h.2.2.2.1.2), h.2.2.2.2) a
def am_n (h : AH) : Nat := match h.nx with | none => am_all | some n => n
/-- the whole world, in the order of its making: the class's cells, the law's -/
def am_ws (K : AKx) (va : Nat → Nat) (h : AH) : va_W := (List.range (am_n h)).map (fun k => (am_ad K va (am_lay k), am_ct K va h (am_lay k))) ++ (List.range h.nd).map (fun i => (va i, am_ct K va h (da (h.dk i) i)))
def am_fr (K : AKx) : Nat → Prop := fun q => K.1 ≤ q
/-- a name that names what it says -/
def am_oka (h : AH) : AA → Prop
  | Sum.inr (Sum.inr (Sum.inr q)) => q.2 < h.nd ∧ h.dk q.2 = q.1 ∧ am_kok q.1 = true
  | _ => True
def am_okv (h : AH) : AV → Prop
  | Sum.inr a => am_oka h a
  | _ => True
/-- what cells name is there; what isn't made yet is empty -/
def am_NA (h : AH) : Prop := (∀ (a : AA) (j : Nat), am_okv h (h.2.1 a j)) ∧ (∀ i, h.nd ≤ i → (∀ k j, h.i (da k i) j = 0 ∧ h.r (da k i) j = Sum.inl .null) ∧ ∀ j, h.lg i j = 0) ∧ (∀ i, i < h.nd → am_kok (h.dk i) = true) ∧ ((∃ n, h.nx = some n) → h.nd = 0)
def am_Rel (K : AKx) (va : Nat → Nat) (h : AH) (H : Heap) : Prop := va_P K.2.1 vwCl (am_ws K va h) H ∧ va_D (am_fr K) (am_ws K va h) ∧ (match h.nx with | some n => H.size = K.1 + n ∧ n < am_all ∧ (∀ k, n ≤ k → k < am_all → am_ct K va h (am_lay k) = am_df K va h (am_lay k)) | none => True) ∧ h.sl = K.2.2.2.2.2.1 ∧ (∀ k, h.i (za 3004) k = K.2.2.2.2.2.2.1 k) ∧ am_NA h
/-- a cell of ours that is made -/
def am_val (h : AH) (a : AA) : Prop := am_dyn a = true ∧ am_ex h a = true ∧ (am_ty h a).1 ≠ 999 ∧ am_oka h a
theorem am_lk_mem {α : Type} {n : Nat} {v : α} : ∀ {l : List (Nat × α)}, am_lk n l = some v → (n, v) ∈ l
  | [], h => by cases h
  | e :: t, h => by
    unfold am_lk at h
    cases hb : Nat.beq n e.1 with
    | true =>
      rw [hb] at h
      have h2 : e.2 = v := Option.some.inj h
      have h3 : n = e.1 := Nat.eq_of_beq_eq_true hb
      rw [h3, ← h2]
      exact List.mem_cons_self
    | false =>
      rw [hb] at h
      exact List.mem_cons_of_mem _ (am_lk_mem h)
theorem am_tw_lt : ∀ q ∈ am_tw, q.1 < 15 := by decide
theorem am_tz_ok : ∀ q ∈ am_tz, (q.1 < 4 ∨ (34 ≤ q.1 ∧ q.1 < 45)) ∧ q.1 < 195 := by decide
theorem am_ix_w (i : Fin 12) (j : Nat) : am_ix (Sum.inl (i, j)) = if i.val < 2 then 4 + 15 * i.val + j else 45 + 15 * (i.val - 2) + j := rfl
theorem am_ty_w (h : AH) (i : Fin 12) (j : Nat) : am_ty h (Sum.inl (i, j)) = match am_lk j am_tw with | some t => t | none => (999, 0) := rfl
theorem am_ty_z (h : AH) (n : Nat) : am_ty h (za n) = bif Nat.ble 1000 n then (bif Nat.ble 3000 n then (bif Nat.beq n 3000 then (106, 37) else bif Nat.beq n 3001 then (100, 37) else bif Nat.beq n 3002 then (101, 100) else bif Nat.beq n 3003 then (101, 100) else bif Nat.beq n 3004 then (100, h.sl) else bif Nat.beq n 3005 then (104, 0) else bif Nat.beq n 3007 then (15, 0) else (999, 0)) else bif Nat.ble 2000 n then (bif Nat.blt n (2000 + am_nstr) then (101, am_strlen (n - 2000)) else (999, 0)) else bif Nat.blt n (1000 + am_nstr) then (0, 4) else (999, 0))
      else match am_lk n am_tz with | some t => t | none => (999, 0) := rfl
theorem am_ble_f {n m : Nat} (h : n < m) : Nat.ble m n = false := by
  cases hb : Nat.ble m n with
  | false => rfl
  | true => have := Nat.le_of_ble_eq_true hb; omega
/-- a cell's name is the class's (the place of its making is below 195), or the law's -/
theorem am_lay_ix {h : AH} {a : AA} (hd : am_dyn a = true) (ht : (am_ty h a).1 ≠ 999) : (am_lay (am_ix a) = a ∧ am_ix a < am_all) ∨ ∃ k i, a = da k i := by
  rcases a with ⟨i, j⟩ | x | n | ⟨k, i⟩
  · have hj : j < 15 := by
      rw [am_ty_w] at ht
      cases hl : am_lk j am_tw with
      | none => rw [hl] at ht; exact absurd rfl ht
      | some t => exact am_tw_lt _ (am_lk_mem hl)
    have hi := i.isLt
    rw [am_ix_w]
    refine Or.inl ?_
    by_cases h2 : i.val < 2
    · rw [if_pos h2]
      refine ⟨?_, by unfold am_all; omega⟩
      unfold am_lay
      rw [if_pos (by omega)]
      have e1 : (4 + 15 * i.val + j - 4) / 15 = i.val := by omega
      have e2 : (4 + 15 * i.val + j - 4) % 15 = j := by omega
      rw [e1, e2]
      exact congrArg (fun z => wa z j) (Fin.ext (Nat.mod_eq_of_lt hi))
    · rw [if_neg h2]
      refine ⟨?_, by unfold am_all; omega⟩
      unfold am_lay
      rw [if_neg (by omega), if_pos (by omega)]
      have e1 : 2 + (45 + 15 * (i.val - 2) + j - 45) / 15 = i.val := by omega
      have e2 : (45 + 15 * (i.val - 2) + j - 45) % 15 = j := by omega
      rw [e1, e2]
      exact congrArg (fun z => wa z j) (Fin.ext (Nat.mod_eq_of_lt hi))
  · cases hd
  · have hn : n < 1000 := by
      have h3 : Nat.blt n 1000 = true := hd
      exact Nat.blt_eq.mp h3
    have hk : (n < 4 ∨ (34 ≤ n ∧ n < 45)) ∧ n < 195 := by
      rw [am_ty_z, am_ble_f hn] at ht
      cases hl : am_lk n am_tz with
      | none => rw [hl] at ht; exact absurd rfl ht
      | some t => exact am_tz_ok _ (am_lk_mem hl)
    refine Or.inl ⟨?_, by show n < 195; omega⟩
    show am_lay n = za n
    unfold am_lay
    rw [if_neg (by omega), if_neg (by omega)]
  · exact Or.inr ⟨k, i, rfl⟩
theorem am_ex_lt {h : AH} {a : AA} (hl : am_lay (am_ix a) = a ∧ am_ix a < am_all) (hd : am_dyn a = true) (he : am_ex h a = true) : am_ix a < am_n h := by
  have h2 := hl.2
  unfold am_n
  unfold am_ex at he
  cases hn : h.nx with
  | none => exact h2
  | some n =>
    rw [hn] at he
    rcases a with w | x | k | q
    · exact Nat.blt_eq.mp he
    · cases hd
    · have hk : Nat.blt k 1000 = true := hd
      have hk2 := Nat.blt_eq.mp hk
      have he2 : (Nat.ble 1000 k || Nat.blt k n) = true := he
      rcases Bool.or_eq_true_iff.mp he2 with q | q
      · have := Nat.le_of_ble_eq_true q; omega
      · exact Nat.blt_eq.mp q
    · cases he
/-- where a cell stands in the world -/
def am_jx (h : AH) : AA → Nat
  | Sum.inr (Sum.inr (Sum.inr q)) => am_n h + q.2
  | a => am_ix a
theorem am_jx_s {h : AH} {a : AA} (hl : am_lay (am_ix a) = a ∧ am_ix a < am_all) : am_jx h a = am_ix a := by
  rcases a with w | x | k | q
  · rfl
  · rfl
  · rfl
  · exfalso
    have h2 : 195 + q.2 < 195 := hl.2
    omega
theorem am_wl {K : AKx} {va : Nat → Nat} {h : AH} : ((List.range (am_n h)).map (fun k => (am_ad K va (am_lay k), am_ct K va h (am_lay k)))).length = am_n h := by rw [List.length_map, List.length_range]
theorem am_here {K : AKx} {va : Nat → Nat} {h : AH} {a : AA} (hv : am_val h a) : (am_ws K va h)[am_jx h a]? = some (am_ad K va a, am_ct K va h a) := by
  obtain ⟨hd, he, ht, ho⟩ := hv
  rcases am_lay_ix hd ht with hl | ⟨k, i, rfl⟩
  · have h1 := am_ex_lt hl hd he
    rw [am_jx_s hl]
    unfold am_ws
    rw [List.getElem?_append_left (by rw [am_wl]; exact h1), List.getElem?_map, List.getElem?_range h1, Option.map_some, hl.1]
  · obtain ⟨h1, h2, -⟩ : i < h.nd ∧ h.dk i = k ∧ am_kok k = true := ho
    show (am_ws K va h)[am_n h + i]? = _
    unfold am_ws
    rw [List.getElem?_append_right (by rw [am_wl]; omega), am_wl, Nat.add_sub_cancel_left, List.getElem?_map, List.getElem?_range h1, Option.map_some, h2]
    rfl
theorem am_lay_at {k : Nat} (hk : k < am_all) : am_ix (am_lay k) = k := by
  unfold am_all at hk
  unfold am_lay
  by_cases h1 : 4 ≤ k ∧ k < 34
  · rw [if_pos h1]
    have h3 : (k - 4) / 15 < 12 := by omega
    rw [am_ix_w]
    have e : (Fin.ofNat 12 ((k - 4) / 15)).val = (k - 4) / 15 := Nat.mod_eq_of_lt h3
    rw [e]
    split <;> omega
  · rw [if_neg h1]
    by_cases h2 : 45 ≤ k ∧ k < 195
    · rw [if_pos h2]
      have h3 : 2 + (k - 45) / 15 < 12 := by omega
      rw [am_ix_w]
      have e : (Fin.ofNat 12 (2 + (k - 45) / 15)).val = 2 + (k - 45) / 15 := Nat.mod_eq_of_lt h3
      rw [e]
      split <;> omega
    · rw [if_neg h2]
      rfl
theorem am_lay_nd (k c i : Nat) : am_lay k ≠ da c i := by
  unfold am_lay
  intro q
  by_cases h1 : 4 ≤ k ∧ k < 34
  · rw [if_pos h1] at q; cases q
  · rw [if_neg h1] at q
    by_cases h2 : 45 ≤ k ∧ k < 195
    · rw [if_pos h2] at q; cases q
    · rw [if_neg h2] at q; cases q
theorem am_lay_ne {a : AA} (hl : am_lay (am_ix a) = a ∧ am_ix a < am_all) {k : Nat} (hk : k ≠ am_ix a) : am_lay k ≠ a := by
  intro q
  by_cases hka : k < am_all
  · exact hk (by rw [← q, am_lay_at hka])
  · have hz : am_lay k = za k := by
      unfold am_all at hka
      unfold am_lay
      rw [if_neg (by omega), if_neg (by omega)]
    rw [hz] at q
    exact hk (by rw [← q]; rfl)
theorem am_da_inj {k c i j : Nat} (h : da k i = da c j) : k = c ∧ i = j := by
  injection h with h
  injection h with h
  injection h with h
  injection h with h1 h2
  exact ⟨h1, h2⟩
/-- one cell is written -/
theorem am_wset {K : AKx} {va : Nat → Nat} {h h2 : AH} {a : AA} (hv : am_val h a) (hn : h2.nx = h.nx) (hnd : h2.nd = h.nd) (hdk : h2.dk = h.dk) (ho : ∀ b : AA, b ≠ a → am_ct K va h2 b = am_ct K va h b) : (am_ws K va h).set (am_jx h a) (am_ad K va a, am_ct K va h2 a) = am_ws K va h2 := by
  have hnn : am_n h2 = am_n h := by unfold am_n; rw [hn]
  obtain ⟨hd, he, ht, hoa⟩ := hv
  rcases am_lay_ix hd ht with hl | ⟨k, i, rfl⟩
  · have h1 := am_ex_lt hl hd he
    rw [am_jx_s hl]
    have e2 : (List.range h2.nd).map (fun i => (va i, am_ct K va h2 (da (h2.dk i) i))) = (List.range h.nd).map (fun i => (va i, am_ct K va h (da (h.dk i) i))) := by
      rw [hnd]
      refine List.map_congr_left fun i hi => ?_
      rw [hdk, ho (da (h.dk i) i) (fun q => am_lay_nd _ _ _ (hl.1.trans q.symm))]
    unfold am_ws
    rw [e2, List.set_append_left _ _ (by rw [am_wl]; exact h1)]
    congr 1
    apply List.ext_getElem?
    intro k
    rw [hnn]
    by_cases hk : k = am_ix a
    · subst hk
      rw [List.getElem?_set_self (by simpa using h1), List.getElem?_map, List.getElem?_range h1, Option.map_some, hl.1]
    · rw [List.getElem?_set_ne (Ne.symm hk), List.getElem?_map, List.getElem?_map]
      by_cases hkl : k < am_n h
      · rw [List.getElem?_range hkl, Option.map_some, Option.map_some, ho _ (am_lay_ne hl hk)]
      · have e : (List.range (am_n h))[k]? = none := by simp; omega
        rw [e]; rfl
  · obtain ⟨h1, h3, -⟩ : i < h.nd ∧ h.dk i = k ∧ am_kok k = true := hoa
    have e1 : (List.range (am_n h2)).map (fun k => (am_ad K va (am_lay k), am_ct K va h2 (am_lay k))) = (List.range (am_n h)).map (fun k => (am_ad K va (am_lay k), am_ct K va h (am_lay k))) := by
      rw [hnn]
      refine List.map_congr_left fun c hc => ?_
      rw [ho _ (am_lay_nd c k i)]
    show (am_ws K va h).set (am_n h + i) (va i, am_ct K va h2 (da k i)) = am_ws K va h2
    unfold am_ws
    rw [e1, List.set_append_right _ _ (by rw [am_wl]; omega), am_wl, Nat.add_sub_cancel_left]
    congr 1
    apply List.ext_getElem?
    intro c
    rw [hnd, hdk]
    by_cases hc : c = i
    · subst hc
      rw [List.getElem?_set_self (by simpa using h1), List.getElem?_map, List.getElem?_range h1, Option.map_some, h3]
    · rw [List.getElem?_set_ne (Ne.symm hc), List.getElem?_map, List.getElem?_map]
      by_cases hkl : c < h.nd
      · rw [List.getElem?_range hkl, Option.map_some, Option.map_some, ho _ (fun q => hc (am_da_inj q).2)]
      · have e : (List.range h.nd)[c]? = none := by simp; omega
        rw [e]; rfl
/-- the locals -/
def am_LR (K : AKx) (va : Nat → Nat) (nL : Nat) (lsr : Array Slot) (l : AL) : Prop := lsr.size = nL ∧ lv_wf lsr ∧ ∀ (i : Nat) (v : AV), l[i]? = some (some v) → lsr[i]? = some (.val (am_rv K va v))
def am_al (K : AKx) (va : Nat → Nat) (l : AL) : List (Nat × Value) := (List.range l.length).filterMap (fun i => match l[i]? with | some (some v) => some (i, am_rv K va v) | _ => none)
theorem am_al_mem {K : AKx} {va : Nat → Nat} {l : AL} {q : Nat × Value} (h : q ∈ am_al K va l) : ∃ v, l[q.1]? = some (some v) ∧ q.2 = am_rv K va v := by
  obtain ⟨i, -, hi⟩ := List.mem_filterMap.mp h
  split at hi
  · next v hv =>
    cases hi
    exact ⟨v, hv, rfl⟩
  · cases hi
theorem am_al_in {K : AKx} {va : Nat → Nat} {l : AL} {i : Nat} {v : AV} (h : l[i]? = some (some v)) : (i, am_rv K va v) ∈ am_al K va l := by
  refine List.mem_filterMap.mpr ⟨i, List.mem_range.mpr (List.getElem?_eq_some_iff.mp h).1, ?_⟩
  rw [h]
theorem am_LR.has {K : AKx} {va : Nat → Nat} {nL : Nat} {lsr : Array Slot} {l : AL} (h : am_LR K va nL lsr l) : lv_has lsr nL (am_al K va l) := ⟨h.1, h.2.1, fun q hq => by
  obtain ⟨v, h1, h2⟩ := am_al_mem hq
  rw [h2]
  exact h.2.2 _ _ h1⟩
theorem am_get_at {ls : AL} {n : Nat} {v : AV} (h : am_get ls n = some v) : ls[n]? = some (some v) := by
  unfold am_get at h
  split at h
  · next w hw => rw [hw, h]
  · cases h
theorem am_LR.at {K : AKx} {va : Nat → Nat} {nL : Nat} {lsr : Array Slot} {l : AL} (h : am_LR K va nL lsr l) {n : Nat} {v : AV} (hv : am_get l n = some v) : lsr[n]? = some (.val (am_rv K va v)) := h.2.2 n v (am_get_at hv)
theorem am_cat {K : AKx} {va : Nat → Nat} (v : AV) : (am_rv K va v).category = if am_cat2 v = true then 2 else 1 := by
  rcases v with v | a
  · cases v <;> rfl
  · rfl
theorem am_clr_at {l : AL} {n : Nat} {j : Nat} {w : AV} (h : (am_clr l n)[j]? = some (some w)) : l[j]? = some (some w) ∧ ¬ (j + 1 = n ∧ am_cat2 w = true) := by
  cases n with
  | zero => exact ⟨h, fun q => by omega⟩
  | succ k =>
    have e : am_clr l (k + 1) = match l[k]? with | some (some w) => bif am_cat2 w then l.set k none else l | _ => l := rfl
    rw [e] at h
    split at h
    · next u hk =>
      cases hu : am_cat2 u with
      | false =>
        rw [hu] at h
        have h9 : l[j]? = some (some w) := h
        refine ⟨h9, fun q => ?_⟩
        have : j = k := by omega
        subst this
        rw [hk] at h9
        cases h9
        rw [hu] at q
        exact absurd q.2 (by decide)
      | true =>
        rw [hu] at h
        have h : (l.set k none)[j]? = some (some w) := h
        by_cases hj : j = k
        · subst hj
          rw [List.getElem?_set] at h
          simp at h
        · rw [List.getElem?_set_ne (Ne.symm hj)] at h
          exact ⟨h, fun q => hj (by omega)⟩
    · next hk =>
      refine ⟨h, fun q => ?_⟩
      have : j = k := by omega
      subst this
      exact hk w h
theorem am_put_at {l : AL} {n : Nat} {v w : AV} {j : Nat} (h : (am_put l n v)[j]? = some (some w)) : (j = n ∧ w = v) ∨ (j ≠ n ∧ l[j]? = some (some w) ∧ (am_cat2 v = true → j ≠ n + 1) ∧ ¬ (j + 1 = n ∧ am_cat2 w = true)) := by
  unfold am_put at h
  have h3 : ((am_clr l n).set n (some v))[j]? = some (some w) ∧ (am_cat2 v = true → j ≠ n + 1) := by
    cases hc : am_cat2 v with
    | false => rw [hc] at h; exact ⟨h, fun q => absurd q (by decide)⟩
    | true =>
      rw [hc] at h
      have h4 : (((am_clr l n).set n (some v)).set (n + 1) none)[j]? = some (some w) := h
      by_cases hj : j = n + 1
      · subst hj
        rw [List.getElem?_set] at h4
        simp at h4
      · rw [List.getElem?_set_ne (Ne.symm hj)] at h4
        exact ⟨h4, fun _ => hj⟩
  obtain ⟨h3, h5⟩ := h3
  by_cases hj : j = n
  · subst hj
    rw [List.getElem?_set] at h3
    simp at h3
    exact Or.inl ⟨rfl, h3.2.symm⟩
  · rw [List.getElem?_set_ne (Ne.symm hj)] at h3
    obtain ⟨h6, h7⟩ := am_clr_at h3
    exact Or.inr ⟨hj, h6, h5, h7⟩
theorem am_LR.put1 {K : AKx} {va : Nat → Nat} {nL : Nat} {lsr' : Array Slot} {l : AL} {n : Nat} {v : AV} {x : Value} (hx : am_rv K va v = x) (h : lv_has lsr' nL ((n, x) :: (am_al K va l).filter (fun q => !(q.1 == n) && !(q.1 + 1 == n && q.2.category == 2)))) : am_LR K va nL lsr' (am_put l n v) := by
  refine ⟨h.1, h.2.1, fun j w hw => ?_⟩
  rcases am_put_at hw with ⟨rfl, rfl⟩ | ⟨h1, h2, -, h4⟩
  · rw [hx]; exact h.2.2 (j, x) List.mem_cons_self
  · refine h.2.2 (j, am_rv K va w) (List.mem_cons_of_mem _ (List.mem_filter.mpr ⟨am_al_in h2, ?_⟩))
    have hc := am_cat (K := K) (va := va) w
    simp only [Bool.and_eq_true, Bool.not_eq_true', beq_eq_false_iff_ne, ne_eq, Bool.and_eq_false_iff]
    refine ⟨h1, ?_⟩
    by_cases hj : j + 1 = n
    · refine Or.inr fun z => h4 ⟨hj, ?_⟩
      by_cases hw2 : am_cat2 w = true
      · exact hw2
      · rw [if_neg hw2] at hc; rw [hc] at z; cases z
    · exact Or.inl hj
theorem am_LR.put2 {K : AKx} {va : Nat → Nat} {nL : Nat} {lsr' : Array Slot} {l : AL} {n : Nat} {v : AV} {x : Value} (hx : am_rv K va v = x) (hc2 : am_cat2 v = true) (h : lv_has lsr' nL ((n, x) :: (am_al K va l).filter (fun q => !(q.1 == n) && (!(q.1 == n + 1) && !(q.1 + 1 == n && q.2.category == 2))))) : am_LR K va nL lsr' (am_put l n v) := by
  refine ⟨h.1, h.2.1, fun j w hw => ?_⟩
  rcases am_put_at hw with ⟨rfl, rfl⟩ | ⟨h1, h2, h3, h4⟩
  · rw [hx]; exact h.2.2 (j, x) List.mem_cons_self
  · refine h.2.2 (j, am_rv K va w) (List.mem_cons_of_mem _ (List.mem_filter.mpr ⟨am_al_in h2, ?_⟩))
    have hc := am_cat (K := K) (va := va) w
    simp only [Bool.and_eq_true, Bool.not_eq_true', beq_eq_false_iff_ne, ne_eq, Bool.and_eq_false_iff]
    refine ⟨h1, h3 hc2, ?_⟩
    by_cases hj : j + 1 = n
    · refine Or.inr fun z => h4 ⟨hj, ?_⟩
      by_cases hw2 : am_cat2 w = true
      · exact hw2
      · rw [if_neg hw2] at hc; rw [hc] at z; cases z
    · exact Or.inl hj
/-! names that name what they say -/
/-- what the law had made at the method's start is where it was, and what it was -/
def am_agr (K : AKx) (va : Nat → Nat) (h : AH) : Prop := K.2.2.2.2.2.2.2.1 ≤ h.nd ∧ ∀ i, i < K.2.2.2.2.2.2.2.1 → va i = K.2.2.2.2.2.2.2.2.1 i ∧ h.dk i = K.2.2.2.2.2.2.2.2.2 i
/-- a frame's names -/
def am_ok (K : AKx) (va : Nat → Nat) (h : AH) (ls : AL) (st : List AV) : Prop := am_agr K va h ∧ (∀ (i : Nat) (v : AV), ls[i]? = some (some v) → am_okv h v) ∧ ∀ v ∈ st, am_okv h v
section OK
variable {K : AKx} {va : Nat → Nat} {h : AH} {ls : AL} {st t : List AV} {v w : AV}
theorem am_ok.pop (o : am_ok K va h ls (v :: t)) : am_ok K va h ls t := ⟨o.1, o.2.1, fun w hw => o.2.2 w (List.mem_cons_of_mem _ hw)⟩
theorem am_ok.top (o : am_ok K va h ls (v :: t)) : am_okv h v := o.2.2 v List.mem_cons_self
theorem am_ok.push (o : am_ok K va h ls t) (hv : am_okv h v) : am_ok K va h ls (v :: t) := ⟨o.1, o.2.1, fun w hw => by
  rcases List.mem_cons.mp hw with rfl | hw
  · exact hv
  · exact o.2.2 w hw⟩
theorem am_ok.num {x : Value} (o : am_ok K va h ls t) : am_ok K va h ls (Sum.inl x :: t) := o.push trivial
theorem am_ok.ld {n : Nat} (o : am_ok K va h ls st) (hg : am_get ls n = some v) : am_ok K va h ls (v :: st) := o.push (o.2.1 n v (am_get_at hg))
theorem am_ok.put {n : Nat} (o : am_ok K va h ls t) (hv : am_okv h v) : am_ok K va h (am_put ls n v) t := ⟨o.1, fun i u hu => by
  rcases am_put_at hu with ⟨-, rfl⟩ | ⟨-, h2, -⟩
  · exact hv
  · exact o.2.1 i u h2, o.2.2⟩
theorem am_ok.clr {n : Nat} (o : am_ok K va h ls st) : am_ok K va h ((am_clr ls n).set n none) [] := ⟨o.1, fun i u hu => by
  by_cases hi : i = n
  · subst hi
    rw [List.getElem?_set] at hu
    simp at hu
  · rw [List.getElem?_set_ne (Ne.symm hi)] at hu
    exact o.2.1 i u (am_clr_at hu).1, fun v hv => by cases hv⟩
end OK
/-- a heap in which what was there is what it was -/
def am_xt' (h h2 : AH) : Prop := h.nd ≤ h2.nd ∧ ∀ i, i < h.nd → h2.dk i = h.dk i
theorem am_oka.ext {h h2 : AH} {a : AA} (e : am_xt' h h2) (o : am_oka h a) : am_oka h2 a := by
  rcases a with w | x | n | q
  · trivial
  · trivial
  · trivial
  · exact ⟨Nat.lt_of_lt_of_le o.1 e.1, (e.2 _ o.1).trans o.2.1, o.2.2⟩
theorem am_okv.ext {h h2 : AH} {v : AV} (e : am_xt' h h2) (o : am_okv h v) : am_okv h2 v := by
  rcases v with v | a
  · trivial
  · exact am_oka.ext e o
/-- .. where it was -/
theorem am_rv_eq {K : AKx} {va va1 : Nat → Nat} {h : AH} {v : AV} (e : ∀ i, i < h.nd → va1 i = va i) (o : am_okv h v) : am_rv K va1 v = am_rv K va v := by
  rcases v with v | a
  · rfl
  · rcases a with w | x | n | q
    · rfl
    · rfl
    · rfl
    · exact congrArg Value.ref (e _ o.1)
theorem am_LR.eq {K : AKx} {va va1 : Nat → Nat} {h : AH} {nL : Nat} {lsr : Array Slot} {l : AL} (e : ∀ i, i < h.nd → va1 i = va i) (o : ∀ (i : Nat) (v : AV), l[i]? = some (some v) → am_okv h v) (hL : am_LR K va nL lsr l) : am_LR K va1 nL lsr l := ⟨hL.1, hL.2.1, fun i v hv => by
  rw [am_rv_eq e (o i v hv)]
  exact hL.2.2 i v hv⟩
