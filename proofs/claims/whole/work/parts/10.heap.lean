/-! the heap's instructions -/
def am_nf : List (Nat × Nat) := [(1, 4), (4, 5), (5, 13), (6, 3), (7, 11), (8, 5), (9, 9), (10, 14), (11, 8), (12, 22)]
def am_kd : FieldType → Nat
  | .int => 0
  | .boolean => 2
  | .byte => 3
  | .object _ => 1
  | .array _ => 1
  | _ => 9
/-- the constants' fields -/
def am_cf : Nat → Nat → String × String × String
  | 13, 0 => ("MoonlitFloor$Sign", "text", "Ljava/lang/String;")
  | 13, 1 => ("MoonlitFloor$Sign", "setting", "Z")
  | 13, 2 => ("MoonlitFloor$Sign", "event", "Z")
  | 13, _ => ("java/lang/Enum", "ordinal", "I")
  | _, 0 => ("java/lang/String", "value", "[B")
  | _, _ => ("java/lang/String", "coder", "B")
/-- the names of the classes -/
def am_cn : Nat → String
  | 0 => RJ0 | 1 => RJ4 | 4 => RX1 | 5 => RX2 | 6 => RX3 | 7 => RX4 | 8 => RX6 | 9 => RX7 | 10 => RX8 | 11 => RX9 | 12 => RX10 | 13 => RL | 16 => RJ5 | 17 => RJ6 | 18 => RJ7 | 19 => RJ9 | 20 => RJx29ce0 | 21 => RJ1 | 22 => RJ2 | 23 => RJ3 | 24 => RJ8
  | _ => ""
/-- a field that a class file names: of an object of ours (own: by the number of its class), or of a constant -/
def am_FO (own k : Nat) (v : Nat × Nat × Nat) : Prop :=
  (∃ (q : vw_C) (ty0 : Nat → FieldType), v.1 ≠ 0 ∧ v.1 ≠ 13 ∧ vwCl[v.1]? = some q ∧ v.2.1 < q.2.2 ∧ am_lk v.1 am_nf = some q.2.2 ∧ Cond.fieldLink (am_cn own) k (q.2.1 v.2.1).1 (q.2.1 v.2.1).2.1 (q.2.1 v.2.1).2.2.1 ∈ sg_T ∧ (∀ w ∈ u_ws q.1 q.2.1 q.2.2, w ∈ sg_T) ∧ (∀ j, j < q.2.2 → parseFieldDescriptor (q.2.1 j).2.2.1 = some (ty0 j)) ∧ am_kd (ty0 v.2.1) = v.2.2 ∧ (∀ a, a < q.2.2 → ∀ b, b < q.2.2 → a ≠ b → (q.2.1 a).2.1 ≠ (q.2.1 b).2.1) ∧ am_isR v.1 v.2.1 = Nat.beq v.2.2 1)
  ∨ ((v.1 = 13 ∧ v.2.1 < 4 ∧ Nat.beq v.2.2 1 = Nat.beq v.2.1 0 ∨ v.1 = 0 ∧ v.2.1 < 2 ∧ Nat.beq v.2.2 1 = Nat.beq v.2.1 0) ∧ Cond.fieldLink (am_cn own) k (am_cf v.1 v.2.1).1 (am_cf v.1 v.2.1).2.1 (am_cf v.1 v.2.1).2.2 ∈ sg_T)
def am_tys (K : AKx) : List (ClassId × FieldType) := [(K.2.2.1 100, .int), (K.2.2.1 101, .byte), (K.2.2.1 102, .boolean), (K.2.2.1 103, .long), (K.2.2.1 104, .double), (K.2.2.1 105, .object "MoonlitFloor$World"), (K.2.2.1 106, .object "MoonlitFloor$Sign")]
/-- an array that is constant -/
def am_CA (K : AKx) (n : Nat) (ty : FieldType) (len : Nat) (f : Nat → Value) (s : State) (H : Heap) : Prop := ∃ cell : Cell, H[K.2.2.2.2.1 n]? = some cell ∧ s.isArrayOf cell ty ∧ cell.vm ≠ .unknown ∧ (len ≤ cell.slots.size ∧ cell.slots.size.toInt32 = Int32.ofNat len) ∧ ∀ j, j < len → cell.slots[j]? = some (f j)
/-- the texts of the exceptions -/
def am_tx : List Nat := [64, 75, 229, 251, 270, 275, 283, 285, 293, 308, 313, 315, 317, 319, 321, 323, 325]
def am_Kn (K : AKx) (s : State) (H : Heap) : Prop :=
  va_K K.2.1 vwCl (am_tys K) s ∧ (∀ w ∈ lw_tbl, am_nw w = true → va_Nw w s) ∧
  (∀ (x : Fin 37) (j : Nat), j < 4 → va_OF (am_cf 13 j).1 (am_cf 13 j).2.1 (am_cf 13 j).2.2 (bif Nat.beq j 0 then .ref (K.2.2.2.2.1 (1000 + x.val)) else .int (bif Nat.beq j 1 then nI (am_set.getD x.val 0) else bif Nat.beq j 2 then nI (am_evt.getD x.val 0) else nI x.val)) (K.2.2.2.1 x) (am_fr K) s H) ∧
  (∀ n : Nat, n < am_nstr → ∀ j, j < 2 → va_OF (am_cf 0 j).1 (am_cf 0 j).2.1 (am_cf 0 j).2.2 (bif Nat.beq j 0 then .ref (K.2.2.2.2.1 (2000 + n)) else .int 0) (K.2.2.2.2.1 (1000 + n)) (am_fr K) s H) ∧
  (∀ x : Fin 37, va_O "MoonlitFloor$Sign" (K.2.2.2.1 x) (am_fr K) s H) ∧ (∀ n : Nat, n < am_nstr → va_O "java/lang/String" (K.2.2.2.2.1 (1000 + n)) (am_fr K) s H) ∧
  (∀ n : Nat, n < am_nstr → am_CA K (2000 + n) .byte (am_strlen n) (fun j => .int (nI ((am_str.getD n []).getD j 0))) s H) ∧
  am_CA K 3000 (.object "MoonlitFloor$Sign") 37 (fun j => .ref (K.2.2.2.1 (Fin.ofNat 37 j))) s H ∧ am_CA K 3001 .int 37 (fun j => .int (nI (am_swm.getD j 0))) s H ∧ am_CA K 3002 .byte 100 (fun j => .int (nI (48 + j / 10))) s H ∧ am_CA K 3003 .byte 100 (fun j => .int (nI (48 + j % 10))) s H ∧
  am_CA K 3004 .int K.2.2.2.2.2.1 (fun j => .int (K.2.2.2.2.2.2 j)) s H ∧ (∀ n, 1000 ≤ n → n < 4000 → ¬ am_fr K (K.2.2.2.2.1 n)) ∧ (∀ x y : Fin 37, K.2.2.2.1 x = K.2.2.2.1 y → x = y) ∧
  (∀ (own k : Nat) (v : AV), am_S own k = some v → am_noS v = true ∧ ∃ C n ds, (∀ va, va_Z C n ds (am_rv K va v) (am_fr K) s H) ∧ Cond.fieldLink (am_cn own) k C n ds ∈ sg_T) ∧
  (∀ (own k : Nat) (v : AV), am_C own k = some v → (∃ x, v = vi x ∧ Cond.constant (am_cn own) k x ∈ sg_T) ∨ ∃ n text, v = zr n ∧ 1000 ≤ n ∧ vk_R (am_cn own) k text (K.2.2.2.2.1 n) s) ∧
  vx_Zq Bundle.tN "UNASSIGNED_STACK" Bundle.steD (am_fr K) s H ∧ vx_Zq Bundle.tN "SUPPRESSED_SENTINEL" Bundle.listD (am_fr K) s H ∧
  (∀ k ∈ am_tx, ∃ text sa, vk_R RX9 k text sa s) ∧ va_AO "MoonlitFloor$World" s ∧ va_AO "MoonlitFloor$Sign" s ∧ (∀ i j : Nat, i < 3 → j < 3 → i ≠ j → va_Nc (am_xs i) (am_xs j) s) ∧ va_Zq "jdk/internal/util/Preconditions" "SIOOBE_FORMATTER" "Ljava/util/function/BiFunction;" (am_fr K) s H ∧ va_Nw (.selects "java/lang/StringBuilder" yJ5_ensureCapacityInternal_d00df yJ5_ensureCapacityInternal_d00df) s ∧ va_Nw (.selects "java/lang/StringBuilder" yJ5_newCapacity_0f7a4 yJ5_newCapacity_0f7a4) s
theorem am_lt {n m : Nat} (h : n < m) : Nat.blt n m = true := Nat.blt_eq.mpr h
theorem am_nlt {n m : Nat} (h : ¬ n < m) : Nat.blt n m = false := by
  cases hb : Nat.blt n m with
  | false => rfl
  | true => exact absurd (Nat.blt_eq.mp hb) h
theorem am_beq {n m : Nat} (h : n = m) : Nat.beq n m = true := by subst h; exact Nat.beq_refl n
theorem am_bne {n m : Nat} (h : n ≠ m) : Nat.beq n m = false := by
  cases hb : Nat.beq n m with
  | false => rfl
  | true => exact absurd (Nat.eq_of_beq_eq_true hb) h
theorem am_tw_nf : ∀ q ∈ am_tw, q.2.1 < 100 → am_lk q.2.1 am_nf = some q.2.2 := by decide
theorem am_tz_nf : ∀ q ∈ am_tz, q.2.1 < 100 → am_lk q.2.1 am_nf = some q.2.2 := by decide
theorem am_ty_nf {h : AH} {a : AA} (hd : am_dyn a = true) (ht : (am_ty h a).1 < 100) : am_lk (am_ty h a).1 am_nf = some (am_ty h a).2 := by
  rcases a with ⟨i, j⟩ | x | n
  · rw [am_ty_w] at ht ⊢
    cases hl : am_lk j am_tw with
    | none => rw [hl] at ht; exact absurd ht (by decide)
    | some t => rw [hl] at ht; exact am_tw_nf _ (am_lk_mem hl) ht
  · cases hd
  · have hn : Nat.ble 1000 n = false := by
      have h3 : Nat.blt n 1000 = true := hd
      have h4 := Nat.blt_eq.mp h3
      cases hb : Nat.ble 1000 n with
      | false => rfl
      | true => have := Nat.le_of_ble_eq_true hb; omega
    rw [am_ty_z, hn] at ht ⊢
    cases hb3 : Nat.beq n 3 with
    | true => rw [hb3] at ht; exact absurd ht (by show ¬ (101 < 100); decide)
    | false =>
      rw [hb3] at ht
      cases hl : am_lk n am_tz with
      | none => rw [hl] at ht; exact absurd ht (by show ¬ (999 < 100); decide)
      | some t => rw [hl] at ht; exact am_tz_nf _ (am_lk_mem hl) ht
theorem am_ty_eq {h h2 : AH} (h1 : h2.cp = h.cp) (h3 : h2.sl = h.sl) (a : AA) : am_ty h2 a = am_ty h a := by
  rcases a with ⟨i, j⟩ | x | n
  · rfl
  · rfl
  · rw [am_ty_z, am_ty_z, h1, h3]
theorem am_ct_obj {K : AKx} {va : Nat} {h : AH} {a : AA} (ht : (am_ty h a).1 < 100) : am_ct K va h a = .inr ((am_ty h a).1, (List.range (am_ty h a).2).map (am_fv K va h a (am_ty h a).1)) := by
  unfold am_ct
  rw [am_lt ht]; rfl
theorem am_ct_arr {K : AKx} {va : Nat} {h : AH} {a : AA} (ht : 100 ≤ (am_ty h a).1) : am_ct K va h a = .inl (K.2.2.1 (am_ty h a).1, (am_ty h a).2, am_ac K va h a (am_ty h a).1) := by
  unfold am_ct
  rw [am_nlt (by omega)]; rfl
theorem am_ct_int {K : AKx} {va : Nat} {h : AH} {a : AA} {t : Nat} (ht : (am_ty h a).1 = t) (h1 : 100 ≤ t) (h2 : t < 103) : am_ct K va h a = .inl (K.2.2.1 t, (am_ty h a).2, .inl (fun j => h.i a j)) := by
  rw [am_ct_arr (by omega), ht]
  unfold am_ac
  rw [am_bne (show t ≠ 103 by omega), am_bne (show t ≠ 104 by omega)]
  have hb : Nat.ble 105 t = false := by
    cases hb : Nat.ble 105 t with
    | false => rfl
    | true => have := Nat.le_of_ble_eq_true hb; omega
  rw [hb]; rfl
theorem am_ct_ref {K : AKx} {va : Nat} {h : AH} {a : AA} {t : Nat} (ht : (am_ty h a).1 = t) (h1 : 105 ≤ t) : am_ct K va h a = .inl (K.2.2.1 t, (am_ty h a).2, .inr (.inr (.inr (.inr (fun j => am_ro K va (h.r a j)))))) := by
  rw [am_ct_arr (by omega), ht]
  unfold am_ac
  rw [am_bne (show t ≠ 103 by omega), am_bne (show t ≠ 104 by omega), Nat.ble_eq_true_of_le h1]; rfl
theorem am_ct_long {K : AKx} {va : Nat} {h : AH} {a : AA} (ht : (am_ty h a).1 = 103) : am_ct K va h a = .inl (K.2.2.1 103, (am_ty h a).2, .inr (.inl (fun j => if j = 0 then h.2.2.1 else 0))) := by
  rw [am_ct_arr (by omega), ht]; rfl
theorem am_ct_double {K : AKx} {va : Nat} {h : AH} {a : AA} (ht : (am_ty h a).1 = 104) : am_ct K va h a = .inl (K.2.2.1 104, (am_ty h a).2, .inr (.inr (.inr (.inl (fun j => if j = 0 then h.2.2.2.1 else 0))))) := by
  rw [am_ct_arr (by omega), ht]; rfl
theorem am_u_ne {α : Type} {f : AA → Nat → α} {a b : AA} {k : Nat} {v : α} (h : b ≠ a) : am_u f a k v b = f b := by
  funext j
  unfold am_u
  by_cases hj : j = k
  · rw [if_pos hj, if_neg h]
  · rw [if_neg hj]
theorem am_u_nk {α : Type} {f : AA → Nat → α} {a b : AA} {k j : Nat} {v : α} (h : j ≠ k) : am_u f a k v b j = f b j := by
  unfold am_u
  rw [if_neg h]
theorem am_u_at {α : Type} {f : AA → Nat → α} {a : AA} {k : Nat} {v : α} : am_u f a k v a k = v := by
  unfold am_u
  rw [if_pos rfl, if_pos rfl]
theorem am_ct_eq {K : AKx} {va : Nat} {h h2 : AH} {b : AA} (ht : am_ty h2 b = am_ty h b) (hi : h2.i b = h.i b) (hr : h2.r b = h.r b) (hl : (am_ty h b).1 = 103 → h2.2.2.1 = h.2.2.1) (hd : (am_ty h b).1 = 104 → h2.2.2.2.1 = h.2.2.2.1) : am_ct K va h2 b = am_ct K va h b := by
  by_cases h1 : (am_ty h b).1 < 100
  · rw [am_ct_obj (h := h) h1, am_ct_obj (h := h2) (by rw [ht]; exact h1), ht]
    have e : am_fv K va h2 b (am_ty h b).1 = am_fv K va h b (am_ty h b).1 := by
      funext k
      unfold am_fv
      rw [hi, hr]
    rw [e]
  · rw [am_ct_arr (h := h2) (by rw [ht]; omega), am_ct_arr (h := h) (by omega), ht]
    have e : am_ac K va h2 b (am_ty h b).1 = am_ac K va h b (am_ty h b).1 := by
      by_cases h3 : (am_ty h b).1 = 103
      · rw [h3]
        show Sum.inr (Sum.inl (fun (j : Nat) => if j = 0 then h2.2.2.1 else 0)) = Sum.inr (Sum.inl (fun (j : Nat) => if j = 0 then h.2.2.1 else 0))
        rw [hl h3]
      · by_cases h4 : (am_ty h b).1 = 104
        · rw [h4]
          show Sum.inr (Sum.inr (Sum.inr (Sum.inl (fun (j : Nat) => if j = 0 then h2.2.2.2.1 else 0)))) = Sum.inr (Sum.inr (Sum.inr (Sum.inl (fun (j : Nat) => if j = 0 then h.2.2.2.1 else 0))))
          rw [hd h4]
        · unfold am_ac
          rw [hi, hr, am_bne h3, am_bne h4]
          rfl
    rw [e]
theorem am_setf {n j : Nat} {F G : Nat → Value} {v : Value} (hv : G j = v) (ho : ∀ k, k ≠ j → G k = F k) : ((List.range n).map F).set j v = (List.range n).map G := by
  apply List.ext_getElem?
  intro k
  by_cases hk : k < n
  · by_cases hj : k = j
    · subst hj
      rw [List.getElem?_set_self (by simpa using hk), List.getElem?_map, List.getElem?_range hk, Option.map_some, hv]
    · rw [List.getElem?_set_ne (Ne.symm hj), List.getElem?_map, List.getElem?_map, List.getElem?_range hk, Option.map_some, Option.map_some, ho k hj]
  · have e : (List.range n)[k]? = none := by simp; omega
    by_cases hj : k = j
    · subst hj
      rw [List.getElem?_set]
      simp [hk, e]
    · rw [List.getElem?_set_ne (Ne.symm hj), List.getElem?_map, List.getElem?_map, e]; rfl
theorem am_ty_c {h : AH} {n : Nat} (hn : 1000 ≤ n) : (n = 3000 ∧ am_ty h (za n) = (106, 37)) ∨ (n = 3001 ∧ am_ty h (za n) = (100, 37)) ∨ (n = 3002 ∧ am_ty h (za n) = (101, 100)) ∨ (n = 3003 ∧ am_ty h (za n) = (101, 100)) ∨ (n = 3004 ∧ am_ty h (za n) = (100, h.sl)) ∨ (∃ k, n = 2000 + k ∧ k < am_nstr ∧ am_ty h (za n) = (101, am_strlen k)) ∨ (∃ k, n = 1000 + k ∧ k < am_nstr ∧ am_ty h (za n) = (0, 4)) ∨ am_ty h (za n) = (999, 0) := by
  by_cases e0 : n = 3000
  · subst e0; exact Or.inl ⟨rfl, rfl⟩
  by_cases e1 : n = 3001
  · subst e1; exact Or.inr (Or.inl ⟨rfl, rfl⟩)
  by_cases e2 : n = 3002
  · subst e2; exact Or.inr (Or.inr (Or.inl ⟨rfl, rfl⟩))
  by_cases e3 : n = 3003
  · subst e3; exact Or.inr (Or.inr (Or.inr (Or.inl ⟨rfl, rfl⟩)))
  by_cases e4 : n = 3004
  · subst e4; exact Or.inr (Or.inr (Or.inr (Or.inr (Or.inl ⟨rfl, rfl⟩))))
  refine Or.inr (Or.inr (Or.inr (Or.inr (Or.inr ?_))))
  show _ ∨ _ ∨ am_ty h (Sum.inr (Sum.inr n)) = _
  rw [am_ty_z, Nat.ble_eq_true_of_le hn]
  cases h30 : Nat.ble 3000 n with
  | true =>
    rw [am_bne e0, am_bne e1, am_bne e2, am_bne e3, am_bne e4]
    exact Or.inr (Or.inr rfl)
  | false =>
    have hb30 : ¬ 3000 ≤ n := fun z => by rw [Nat.ble_eq_true_of_le z] at h30; cases h30
    cases h20 : Nat.ble 2000 n with
    | true =>
      have hb20 := Nat.le_of_ble_eq_true h20
      by_cases hk : n < 2000 + am_nstr
      · rw [am_lt hk]
        exact Or.inl ⟨n - 2000, by omega, by omega, rfl⟩
      · rw [am_nlt hk]
        exact Or.inr (Or.inr rfl)
    | false =>
      have hb20 : ¬ 2000 ≤ n := fun z => by rw [Nat.ble_eq_true_of_le z] at h20; cases h20
      by_cases hk : n < 1000 + am_nstr
      · rw [am_lt hk]
        exact Or.inr (Or.inl ⟨n - 1000, by omega, by omega, rfl⟩)
      · rw [am_nlt hk]
        exact Or.inr (Or.inr rfl)
theorem am_tw_t : ∀ q ∈ am_tw, q.2.1 ≠ 0 ∧ q.2.1 ≠ 13 ∧ (q.2.1 = 100 ∨ q.2.1 < 100) := by decide
theorem am_tz_t : ∀ q ∈ am_tz, q.2.1 ≠ 0 ∧ q.2.1 ≠ 13 ∧ (q.2.1 = 103 → q.1 = 203) ∧ (q.2.1 = 104 → q.1 = 204) := by decide
/-- which kinds our own cells have -/
theorem am_ty_d {h : AH} {a : AA} (hd : am_dyn a = true) : (am_ty h a).1 ≠ 0 ∧ (am_ty h a).1 ≠ 13 ∧ ((am_ty h a).1 = 103 → a = za 203) ∧ ((am_ty h a).1 = 104 → a = za 204) := by
  rcases a with ⟨i, j⟩ | x | n
  · rw [am_ty_w]
    cases hl : am_lk j am_tw with
    | none => exact ⟨by decide, by decide, fun z => absurd z (by decide), fun z => absurd z (by decide)⟩
    | some t =>
      have h1 := am_tw_t _ (am_lk_mem hl)
      dsimp only at h1 ⊢
      exact ⟨h1.1, h1.2.1, fun z => by omega, fun z => by omega⟩
  · cases hd
  · have hn : Nat.ble 1000 n = false := by
      have h3 : Nat.blt n 1000 = true := hd
      have h4 := Nat.blt_eq.mp h3
      cases hb : Nat.ble 1000 n with
      | false => rfl
      | true => have := Nat.le_of_ble_eq_true hb; omega
    rw [am_ty_z, hn]
    cases hb3 : Nat.beq n 3 with
    | true => exact ⟨(by decide : (101 : Nat) ≠ 0), (by decide : (101 : Nat) ≠ 13), fun z => absurd z (by decide : (101 : Nat) ≠ 103), fun z => absurd z (by decide : (101 : Nat) ≠ 104)⟩
    | false =>
      cases hl : am_lk n am_tz with
      | none => exact ⟨(by decide : (999 : Nat) ≠ 0), (by decide : (999 : Nat) ≠ 13), fun z => absurd z (by decide : (999 : Nat) ≠ 103), fun z => absurd z (by decide : (999 : Nat) ≠ 104)⟩
      | some t =>
        have h1 := am_tz_t _ (am_lk_mem hl)
        exact ⟨h1.1, h1.2.1, fun z => congrArg za (h1.2.2.1 z), fun z => congrArg za (h1.2.2.2 z)⟩
/-- a cell with a kind is ours, a Sign, or one of the other constants -/
theorem am_dyn_or (h : AH) (a : AA) : am_dyn a = true ∨ (∃ x, a = ga x) ∨ ∃ n, a = za n ∧ 1000 ≤ n := by
  rcases a with w | x | n
  · exact Or.inl rfl
  · exact Or.inr (Or.inl ⟨x, rfl⟩)
  · rcases Nat.lt_or_ge n 1000 with z | z
    · exact Or.inl (am_lt z)
    · exact Or.inr (Or.inr ⟨n, rfl, z⟩)
section HEAP
variable {K : AKx} {p : Program} {l : Launch} {e : Env} {R : Room} {s : State} {m : MethodId} {args : Array Value} {below : List Frame} {meth : Method} {c : Code} {bytes : ByteArray} {mr : MR} {o : AO} {h1 : AH} {ih : AK} {pc len tgt d : Nat} {r : List CI} {ls : AL} {st : List AV} {h : AH}
/-- behind a write of one cell -/
theorem am_Rel.wr {va : Nat} {h2 : AH} {H H1 : Heap} {a : AA} {e2 : va_E} (hR : am_Rel K va h H) (hv : am_val h a) (he : am_ct K va h2 a = e2) (ho : ∀ b : AA, b ≠ a → am_ct K va h2 b = am_ct K va h b) (htl : h2.2.2.2.2 = h.2.2.2.2) (hx : ∀ k, h2.i (za 3004) k = h.i (za 3004) k) (hz : match h.nx with | some _ => H1.size = H.size | none => True) (hP : va_P K.2.1 vwCl ((am_ws K va h).set (am_ix a) (am_ad K va a, e2)) H1) (hD : va_D (am_fr K) ((am_ws K va h).set (am_ix a) (am_ad K va a, e2))) (hna : am_NA h2) : am_Rel K va h2 H1 := by
  have hn : h2.nx = h.nx := by
    show h2.2.2.2.2.2.2.2.2 = h.2.2.2.2.2.2.2.2
    rw [htl]
  have hsl : h2.sl = h.sl := by
    show h2.2.2.2.2.2.2.2.1 = h.2.2.2.2.2.2.2.1
    rw [htl]
  rw [← he, am_wset hv hn ho] at hP hD
  refine ⟨hP, hD, ?_, by rw [hsl]; exact hR.2.2.2.1, fun k => by rw [hx]; exact hR.2.2.2.2.1 k, hna⟩
  rw [hn]
  have h3 := hR.2.2.1
  have hlt := am_ex_lt hv
  unfold am_n at hlt
  cases hnx : h.nx with
  | none => trivial
  | some n =>
    rw [hnx] at h3 hz hlt
    refine ⟨by rw [hz]; exact h3.1, h3.2.1, h3.2.2.1, fun k hk1 hk2 => ?_⟩
    have hne : am_lay k ≠ a := by
      intro q
      rw [← q, am_lay_at hk2] at hlt
      have hlt : k < n := hlt
      omega
    rw [ho _ hne, h3.2.2.2 k hk1 hk2]
    unfold am_df
    rw [htl]
theorem am_val_of {a : AA} {t : Nat} (hd : am_dyn a = true) (he : am_ex h a = true) (ht : (am_ty h a).1 = t) (hne : t ≠ 999) : am_val h a := ⟨hd, he, by rw [ht]; exact hne⟩
theorem am_rf {va : Nat} {v : AV} (hv : (∃ b, v = Sum.inr b) ∨ v = Sum.inl .null) : va_rf (am_ro K va v) = am_rv K va v := by
  rcases hv with ⟨b, rfl⟩ | rfl <;> rfl
theorem am_pr_of {k : AV → AR} {v : AV} {q : AO × AH} (h : am_pr k v = some q) : ((∃ b, v = Sum.inr b) ∨ v = Sum.inl .null) ∧ k v = some q := by
  unfold am_pr at h
  split at h
  · exact ⟨Or.inl ⟨_, rfl⟩, h⟩
  · exact ⟨Or.inr rfl, h⟩
  · cases h
/-- what the rows want of the frame -/
def am_Cx (K : AKx) (p : Program) (s : State) (m : MethodId) (args : Array Value) (c : Code) (bytes : ByteArray) (mr : MR) : Prop := p.tables.exec = Jvm.exec ∧ c.code = bytes ∧ c.maxLocals = mr.2.1 ∧ s.vm.findClass (am_cn mr.1) = some m.cls ∧ (∀ w ∈ sg_T, w.before args s = true) ∧ am_Kn K s s.heap
theorem am_s_getfield {k : Nat} (hC : am_Cx K p s m args c bytes mr) (hF : ∀ v, am_F mr.1 k = some v → am_FO mr.1 k v) (hdec : decode bytes pc = .ok (.getfield k, 3)) (nx : am_Nx K p l e R s m args below meth c mr o h1 (pc + 3) d ih r) (hrun : am_step ih mr ((pc, .getfield k, len, tgt) :: r) ls st h d = some (o, h1)) : am_G K p l e R s m args below meth c mr o h1 pc ls st h := by
  intro va H locs cells slots lsr hR hS hc hs hL
  obtain ⟨hx, hb, hml, hown, hts, hKn⟩ := hC
  have h9 : (match (generalizing := false) st with | Sum.inr a :: t => (match am_F mr.1 k with | some (ci, j, kd) => bif Nat.beq (am_ty h a).1 ci && am_ex h a then (bif Nat.beq kd 1 then am_pr (fun v => ih mr r ls (v :: t) h d) (am_rR h a j) else ih mr r ls (vi (am_rI h a j) :: t) h d) else none | none => none) | _ => none) = some (o, h1) := hrun
  split at h9
  · next a t =>
    cases hf : am_F mr.1 k with
    | none => rw [hf] at h9; cases h9
    | some q =>
      obtain ⟨ci, j, kd⟩ := q
      rw [hf] at h9
      dsimp only at h9
      cases hbb : (Nat.beq (am_ty h a).1 ci && am_ex h a) with
      | false => rw [hbb] at h9; cases h9
      | true =>
        rw [hbb, cond_true] at h9
        obtain ⟨hb1, hex⟩ := Bool.and_eq_true_iff.mp hbb
        have hty : (am_ty h a).1 = ci := Nat.eq_of_beq_eq_true hb1
        have key : ∀ v : Value, (Nat.beq kd 1 = true → am_rv K va (am_rR h a j) = v ∧ ((∃ b, am_rR h a j = Sum.inr b) ∨ am_rR h a j = Sum.inl .null)) → (Nat.beq kd 1 = false → .int (am_rI h a j) = v) → W p l e R s m args below meth c H locs cells slots (vx_MQ below (am_Post K o h1) (am_PostX K o h1) args s R.cells R.slots (am_fr K)) (F0 m (pc + 3) lsr (v :: t.map (am_rv K va))) := by
          intro v h3 h4
          cases hk1 : Nat.beq kd 1 with
          | true =>
            rw [hk1, cond_true] at h9
            obtain ⟨-, h10⟩ := am_pr_of h9
            rw [← (h3 hk1).1]
            exact nx _ _ _ h10 va H locs cells slots lsr hR hS hc hs hL
          | false =>
            rw [hk1, cond_false] at h9
            rw [← h4 hk1]
            exact nx _ _ _ h9 va H locs cells slots lsr hR hS hc hs hL
        have hpr : Nat.beq kd 1 = true → ((∃ b, am_rR h a j = Sum.inr b) ∨ am_rR h a j = Sum.inl .null) := by
          intro hk1
          rw [hk1, cond_true] at h9
          exact (am_pr_of h9).1
        rcases hF _ hf with ⟨q, ty0, hn0, hn13, hq, hj, hnf, hlink, hin, hpd, hkd, hnm, hisr⟩ | ⟨hci, hlink⟩
        · have hlt : ci < 100 := by
            have hl := (List.getElem?_eq_some_iff.mp hq).1
            exact Nat.lt_of_lt_of_le hl (by decide)
          have hdyn : am_dyn a = true := by
            rcases am_dyn_or h a with z | ⟨x, rfl⟩ | ⟨n, rfl, hn⟩
            · exact z
            · exact absurd hty.symm hn13
            · exfalso
              rcases am_ty_c (h := h) hn with ⟨-, e9⟩ | ⟨-, e9⟩ | ⟨-, e9⟩ | ⟨-, e9⟩ | ⟨-, e9⟩ | ⟨_, -, -, e9⟩ | ⟨_, -, -, e9⟩ | e9 <;> rw [e9] at hty <;> dsimp only at hty <;> first | omega | exact hn0 hty.symm
          have hv := am_val_of hdyn hex hty (by omega)
          have hat := am_here (K := K) (va := va) hv
          rw [am_ct_obj (by rw [hty]; exact hlt)] at hat
          have hnf2 := am_ty_nf hdyn (by rw [hty]; exact hlt)
          rw [hty, hnf] at hnf2
          have hN : q.2.2 = (am_ty h a).2 := Option.some.inj hnf2
          rw [hty] at hat
          refine va_get (ci := ci) (C := q.1) (T := q.2.1) (N := q.2.2) hx hb hts hin hown hKn.1 hR.1 (am_ix a) hat hq j hj (hts _ hlink) (fun _ h => h) (v := am_fv K va h a ci j) (by rw [List.getElem?_map, List.getElem?_range (by rw [← hN]; exact hj)]; rfl) hdec ?_
          have hrr : am_rR h a j = h.r a j ∧ am_rI h a j = h.i a j := by
            rcases a with w | x | n
            · exact ⟨rfl, rfl⟩
            · cases hdyn
            · have hn : Nat.ble 1000 n = false := by
                have h3 : Nat.blt n 1000 = true := hdyn
                have h4 := Nat.blt_eq.mp h3
                cases hb : Nat.ble 1000 n with
                | false => rfl
                | true => have := Nat.le_of_ble_eq_true hb; omega
              have e1 : am_rR h (Sum.inr (Sum.inr n)) j = bif Nat.ble 1000 n then (bif Nat.beq n 3000 then gr' (Fin.ofNat 37 j) else zr (n + 1000)) else h.r (za n) j := rfl
              have e2 : am_rI h (Sum.inr (Sum.inr n)) j = bif Nat.ble 1000 n then (bif Nat.ble 3000 n then (bif Nat.beq n 3001 then nI (am_swm.getD j 0) else bif Nat.beq n 3002 then nI (48 + j / 10) else bif Nat.beq n 3003 then nI (48 + j % 10) else h.i (za n) j) else bif Nat.ble 2000 n then nI ((am_str.getD (n - 2000) []).getD j 0) else 0) else h.i (za n) j := rfl
              rw [e1, e2, hn]
              exact ⟨rfl, rfl⟩
          refine key _ (fun hk1 => ⟨?_, hpr hk1⟩) (fun hk1 => ?_)
          · unfold am_fv
            rw [hisr, hk1]
            show _ = va_rf (am_ro K va (h.r a j))
            have h5 := hpr hk1
            rw [hrr.1] at h5 ⊢
            exact (am_rf h5).symm
          · unfold am_fv
            rw [hisr, hk1, hrr.2]; rfl
        · rcases hci with ⟨rfl, hj4, hkd⟩ | ⟨rfl, hj2, hkd⟩
          · rcases am_dyn_or h a with z | ⟨x, rfl⟩ | ⟨n, rfl, hn⟩
            · exact absurd hty (am_ty_d z).2.1
            · refine vk_getf hx hb (hKn.2.2.1 x j hj4) hS hown (hts _ hlink) (fun _ h => h) hdec (key _ (fun hk1 => ⟨?_, hpr hk1⟩) (fun hk1 => ?_))
              · rw [hk1] at hkd
                rw [← hkd]
                show Value.ref (am_ad K va (za (1000 + x.val))) = _
                show Value.ref (bif Nat.beq (1000 + x.val) 3 then va else bif Nat.ble 1000 (1000 + x.val) then K.2.2.2.2.1 (1000 + x.val) else K.1 + (1000 + x.val)) = _
                rw [am_bne (by omega), Nat.ble_eq_true_of_le (by omega)]; rfl
              · rw [hk1] at hkd
                rw [← hkd]
                rfl
            · exfalso
              rcases am_ty_c (h := h) hn with ⟨-, e9⟩ | ⟨-, e9⟩ | ⟨-, e9⟩ | ⟨-, e9⟩ | ⟨-, e9⟩ | ⟨_, -, -, e9⟩ | ⟨_, -, -, e9⟩ | e9 <;> rw [e9] at hty <;> dsimp only at hty <;> omega
          · rcases am_dyn_or h a with z | ⟨x, rfl⟩ | ⟨n, rfl, hn⟩
            · exact absurd hty (am_ty_d z).1
            · exact absurd hty (by show ¬ (13 = 0); decide)
            · rcases am_ty_c (h := h) hn with ⟨-, e9⟩ | ⟨-, e9⟩ | ⟨-, e9⟩ | ⟨-, e9⟩ | ⟨-, e9⟩ | ⟨_, -, -, e9⟩ | ⟨n2, rfl, hn2, e9⟩ | e9
              rotate_right 2
              · have had : am_ad K va (za (1000 + n2)) = K.2.2.2.2.1 (1000 + n2) := by
                  show (bif Nat.beq (1000 + n2) 3 then va else bif Nat.ble 1000 (1000 + n2) then K.2.2.2.2.1 (1000 + n2) else K.1 + (1000 + n2)) = _
                  rw [am_bne (by omega), Nat.ble_eq_true_of_le (by omega)]; rfl
                show W p l e R s m args below meth c H locs cells slots _ (F0 m pc lsr (.ref (am_ad K va (za (1000 + n2))) :: t.map (am_rv K va)))
                rw [had]
                have hn83 : n2 < 1000 := Nat.lt_of_lt_of_le hn2 (by decide)
                refine vk_getf hx hb (hKn.2.2.2.1 n2 hn2 j hj2) hS hown (hts _ hlink) (fun _ h => h) hdec (key _ (fun hk1 => ⟨?_, hpr hk1⟩) (fun hk1 => ?_))
                · rw [hk1] at hkd
                  rw [← hkd]
                  have e1 : am_rR h (za (1000 + n2)) j = bif Nat.ble 1000 (1000 + n2) then (bif Nat.beq (1000 + n2) 3000 then gr' (Fin.ofNat 37 j) else zr (1000 + n2 + 1000)) else h.r (za (1000 + n2)) j := rfl
                  rw [e1, Nat.ble_eq_true_of_le (by omega), am_bne (by omega)]
                  show Value.ref (am_ad K va (za (1000 + n2 + 1000))) = _
                  show Value.ref (bif Nat.beq (1000 + n2 + 1000) 3 then va else bif Nat.ble 1000 (1000 + n2 + 1000) then K.2.2.2.2.1 (1000 + n2 + 1000) else K.1 + (1000 + n2 + 1000)) = _
                  rw [am_bne (by omega), Nat.ble_eq_true_of_le (by omega)]
                  show Value.ref (K.2.2.2.2.1 (1000 + n2 + 1000)) = Value.ref (K.2.2.2.2.1 (2000 + n2))
                  rw [show 1000 + n2 + 1000 = 2000 + n2 by omega]
                · rw [hk1] at hkd
                  rw [← hkd]
                  have e2 : am_rI h (za (1000 + n2)) j = bif Nat.ble 1000 (1000 + n2) then (bif Nat.ble 3000 (1000 + n2) then (bif Nat.beq (1000 + n2) 3001 then nI (am_swm.getD j 0) else bif Nat.beq (1000 + n2) 3002 then nI (48 + j / 10) else bif Nat.beq (1000 + n2) 3003 then nI (48 + j % 10) else h.i (za (1000 + n2)) j) else bif Nat.ble 2000 (1000 + n2) then nI ((am_str.getD (1000 + n2 - 2000) []).getD j 0) else 0) else h.i (za (1000 + n2)) j := rfl
                  have f1 : Nat.ble 3000 (1000 + n2) = false := by
                    cases hb : Nat.ble 3000 (1000 + n2) with
                    | false => rfl
                    | true => have := Nat.le_of_ble_eq_true hb; omega
                  have f2 : Nat.ble 2000 (1000 + n2) = false := by
                    cases hb : Nat.ble 2000 (1000 + n2) with
                    | false => rfl
                    | true => have := Nat.le_of_ble_eq_true hb; omega
                  rw [e2, Nat.ble_eq_true_of_le (by omega), f1, f2]
                  rfl
              all_goals (exfalso; rw [e9] at hty; dsimp only at hty; omega)
  · cases h9
end HEAP
