/-! the heap's instructions -/
def am_kd : FieldType → Nat
  | .int => 0
  | .boolean => 2
  | .byte => 3
  | .object _ => 1
  | .array _ => 1
  | _ => 9
/-- the constants' fields -/
def am_cf : Nat → Nat → String × String × String
  | 13, 0 => ("MoonlitFloor$Sign", "text", "Ljava/lang/String;")
  | 13, 1 => ("MoonlitFloor$Sign", "setting", "Z")
  | 13, 2 => ("MoonlitFloor$Sign", "event", "Z")
  | 13, _ => ("java/lang/Enum", "ordinal", "I")
  | _, 0 => ("java/lang/String", "value", "[B")
  | _, _ => ("java/lang/String", "coder", "B")
/-- the names of the classes -/
def am_cn : Nat → String
  | 0 => RJ0 | 1 => RJ4 | 2 => RJx4a65c | 4 => RX1 | 5 => RX2 | 6 => RX3 | 7 => RX4 | 8 => RX6 | 9 => RX7 | 10 => RX8 | 11 => RX9 | 12 => RX10 | 13 => RL | 16 => RJ5 | 17 => RJ6 | 18 => RJ7 | 19 => RJ9 | 20 => RJx29ce0 | 21 => RJ1 | 22 => RJ2 | 23 => RJ3 | 24 => RJ8 | 25 => RJx9a822 | 26 => RJ15 | 27 => RJxc12de | 28 => RJxa1e45
  | _ => ""
/-- how a class file names a field: by itself, as a nest mate's, or as one that it inherits -/
def am_fk (own k : Nat) (o n ds : String) : Prop := Cond.fieldLink (am_cn own) k o n ds ∈ sg_T ∨ (am_cn own ≠ o ∧ ∃ host, Cond.fieldLinkNest (am_cn own) k o n ds host ∈ lw_tbl) ∨ ∃ ref, Cond.fieldLink (am_cn own) k ref n ds ∈ sg_T ∧ Cond.sameField ref o n ds ∈ sg_T
/-- a field that a class file names: of an object of ours (own: by the number of its class), or of a constant -/
def am_FO (own k : Nat) (v : Nat × Nat × Nat) : Prop :=
  (v.1 ≠ 13 → ∃ (q : vw_C) (ty0 : Nat → FieldType), vwCl[v.1]? = some q ∧ v.2.1 < q.2.2 ∧ am_lk v.1 am_nf = some q.2.2 ∧ am_fk own k (q.2.1 v.2.1).1 (q.2.1 v.2.1).2.1 (q.2.1 v.2.1).2.2.1 ∧ (∀ w ∈ u_ws q.1 q.2.1 q.2.2, w ∈ sg_T) ∧ (∀ j, j < q.2.2 → parseFieldDescriptor (q.2.1 j).2.2.1 = some (ty0 j)) ∧ am_kd (ty0 v.2.1) = v.2.2 ∧ (∀ a, a < q.2.2 → ∀ b, b < q.2.2 → a ≠ b → (q.2.1 a).2.1 ≠ (q.2.1 b).2.1) ∧ am_isR v.1 v.2.1 = Nat.beq v.2.2 1)
  ∧ (v.1 = 13 ∨ v.1 = 0 → (v.1 = 13 ∧ v.2.1 < 4 ∧ Nat.beq v.2.2 1 = Nat.beq v.2.1 0 ∨ v.1 = 0 ∧ v.2.1 < 2 ∧ Nat.beq v.2.2 1 = Nat.beq v.2.1 0) ∧ Cond.fieldLink (am_cn own) k (am_cf v.1 v.2.1).1 (am_cf v.1 v.2.1).2.1 (am_cf v.1 v.2.1).2.2 ∈ sg_T)
def am_tys (K : AKx) : List (ClassId × FieldType) := [(K.2.2.1 100, .int), (K.2.2.1 101, .byte), (K.2.2.1 102, .boolean), (K.2.2.1 103, .long), (K.2.2.1 104, .object "java/lang/Object"), (K.2.2.1 105, .object "MoonlitFloor$World"), (K.2.2.1 106, .object "MoonlitFloor$Sign")]
/-- an array that is constant -/
def am_CA (K : AKx) (n : Nat) (ty : FieldType) (len : Nat) (f : Nat → Value) (s : State) (H : Heap) : Prop := ∃ cell : Cell, H[K.2.2.2.2.1 n]? = some cell ∧ s.isArrayOf cell ty ∧ cell.vm ≠ .unknown ∧ (len ≤ cell.slots.size ∧ cell.slots.size.toInt32 = Int32.ofNat len) ∧ ∀ j, j < len → cell.slots[j]? = some (f j)
/-- the texts of the exceptions -/
def am_tx : List Nat := [64, 75, 275, 283, 285, 308, 313, 315, 317, 319, 321, 323, 325]
/-- no cell of the law's -/
def am_ndv : AV → Bool
  | Sum.inr (Sum.inr (Sum.inr (Sum.inr _))) => false
  | _ => true
theorem am_ndv_ok {h : AH} {v : AV} (z : am_ndv v = true) : am_okv h v := by
  rcases v with v | w | x | n | q
  · trivial
  · trivial
  · trivial
  · trivial
  · cases z
/-- private methods that are called through an abstract class -/
def am_pv : List MethodName := [yJ5_ensureCapacityInternal_d00df, yJ5_newCapacity_0f7a4, yJ5_putStringAt_47b60, yJ5_inflateIfNeededFor_a7421]
def yF_length : MethodName := ⟨RJx9f9b0, "length", "()I"⟩
def yF_charAt : MethodName := ⟨RJx9f9b0, "charAt", "(I)C"⟩
def am_Kn (K : AKx) (s : State) (H : Heap) : Prop :=
  va_K K.2.1 vwCl (am_tys K) s ∧ (∀ w ∈ lw_tbl, am_nw w = true → va_Nw w s) ∧
  (∀ (x : Fin 37) (j : Nat), j < 4 → va_OF (am_cf 13 j).1 (am_cf 13 j).2.1 (am_cf 13 j).2.2 (bif Nat.beq j 0 then .ref (K.2.2.2.2.1 (1000 + x.val)) else .int (bif Nat.beq j 1 then nI (am_set.getD x.val 0) else bif Nat.beq j 2 then nI (am_evt.getD x.val 0) else nI x.val)) (K.2.2.2.1 x) (am_fr K) s H) ∧
  (∀ n : Nat, n < am_nstr → ∀ j, j < 2 → va_OF (am_cf 0 j).1 (am_cf 0 j).2.1 (am_cf 0 j).2.2 (bif Nat.beq j 0 then .ref (K.2.2.2.2.1 (2000 + n)) else .int 0) (K.2.2.2.2.1 (1000 + n)) (am_fr K) s H) ∧
  (∀ x : Fin 37, va_O "MoonlitFloor$Sign" (K.2.2.2.1 x) (am_fr K) s H) ∧ (∀ n : Nat, n < am_nstr → va_O "java/lang/String" (K.2.2.2.2.1 (1000 + n)) (am_fr K) s H) ∧
  (∀ n : Nat, n < am_nstr → am_CA K (2000 + n) .byte (am_strlen n) (fun j => .int (nI ((am_str.getD n []).getD j 0))) s H) ∧
  am_CA K 3000 (.object "MoonlitFloor$Sign") 37 (fun j => .ref (K.2.2.2.1 (Fin.ofNat 37 j))) s H ∧ am_CA K 3001 .int 37 (fun j => .int (nI (am_swm.getD j 0))) s H ∧ am_CA K 3002 .byte 100 (fun j => .int (nI (48 + j / 10))) s H ∧ am_CA K 3003 .byte 100 (fun j => .int (nI (48 + j % 10))) s H ∧
  am_CA K 3004 .int K.2.2.2.2.2.1 (fun j => .int (K.2.2.2.2.2.2.1 j)) s H ∧ (∀ n, 1000 ≤ n → n < 4000 → ¬ am_fr K (K.2.2.2.2.1 n)) ∧ (∀ x y : Fin 37, K.2.2.2.1 x = K.2.2.2.1 y → x = y) ∧
  (∀ (own k : Nat) (v : AV), am_S own k = some v → am_ndv v = true ∧ ∃ C n ds, (∀ va, va_Z C n ds (am_rv K va v) (am_fr K) s H) ∧ Cond.fieldLink (am_cn own) k C n ds ∈ sg_T) ∧
  (∀ (own k : Nat) (v : AV), am_C own k = some v → (∃ x, v = vi x ∧ Cond.constant (am_cn own) k x ∈ sg_T) ∨ ∃ n text, v = zr n ∧ 1000 ≤ n ∧ vk_R (am_cn own) k text (K.2.2.2.2.1 n) s) ∧
  vx_Zq Bundle.tN "UNASSIGNED_STACK" Bundle.steD (am_fr K) s H ∧ vx_Zq Bundle.tN "SUPPRESSED_SENTINEL" Bundle.listD (am_fr K) s H ∧
  (∀ k ∈ am_tx, ∃ text sa, vk_R RX9 k text sa s) ∧ va_AO "MoonlitFloor$World" s ∧ va_AO "MoonlitFloor$Sign" s ∧ True ∧ va_Zq "jdk/internal/util/Preconditions" "SIOOBE_FORMATTER" "Ljava/util/function/BiFunction;" (am_fr K) s H ∧ (∀ y ∈ am_pv, va_Nw (.selects "java/lang/StringBuilder" y y) s) ∧ am_CA K 3005 (.object "java/lang/Object") 0 (fun _ => .null) s H ∧ va_O "jdk/internal/misc/Unsafe" (K.2.2.2.2.1 3007) (am_fr K) s H ∧ va_Fw "java/lang/String" yF_length yJ0_length_8abf5 s ∧ va_Fw "java/lang/String" yF_charAt yJ0_charAt_5068e s ∧ va_AO "java/lang/Object" s
theorem am_lt {n m : Nat} (h : n < m) : Nat.blt n m = true := Nat.blt_eq.mpr h
theorem am_nlt {n m : Nat} (h : ¬ n < m) : Nat.blt n m = false := by
  cases hb : Nat.blt n m with
  | false => rfl
  | true => exact absurd (Nat.blt_eq.mp hb) h
theorem am_beq {n m : Nat} (h : n = m) : Nat.beq n m = true := by subst h; exact Nat.beq_refl n
theorem am_bne {n m : Nat} (h : n ≠ m) : Nat.beq n m = false := by
  cases hb : Nat.beq n m with
  | false => rfl
  | true => exact absurd (Nat.eq_of_beq_eq_true hb) h
theorem am_tw_nf : ∀ q ∈ am_tw, q.2.1 < 100 → am_lk q.2.1 am_nf = some q.2.2 := by decide
theorem am_tz_nf : ∀ q ∈ am_tz, q.2.1 < 100 → am_lk q.2.1 am_nf = some q.2.2 := by decide
theorem am_kok_nf {k : Nat} (h : am_kok k = true) (hk : k < 100) : am_lk k am_nf = some (am_nfs k) := by
  unfold am_kok at h
  rcases Bool.or_eq_true_iff.mp h with z | z
  · unfold am_nfs
    cases hl : am_lk k am_nf with
    | none => rw [hl] at z; cases z
    | some n => rfl
  · have := Nat.le_of_ble_eq_true (Bool.and_eq_true_iff.mp z).1
    omega
theorem am_ty_nf {h : AH} {a : AA} (hd : am_dyn a = true) (hoa : am_oka h a) (ht : (am_ty h a).1 < 100) : am_lk (am_ty h a).1 am_nf = some (am_ty h a).2 := by
  rcases a with ⟨i, j⟩ | x | n | ⟨k, i⟩
  · rw [am_ty_w] at ht ⊢
    cases hl : am_lk j am_tw with
    | none => rw [hl] at ht; exact absurd ht (by decide)
    | some t => rw [hl] at ht; exact am_tw_nf _ (am_lk_mem hl) ht
  · cases hd
  · have hn : Nat.ble 1000 n = false := am_ble_f (Nat.blt_eq.mp hd)
    have e : am_ty h (Sum.inr (Sum.inr (Sum.inl n))) = am_ty h (za n) := rfl
    rw [e, am_ty_z, hn] at ht ⊢
    cases hl : am_lk n am_tz with
    | none => rw [hl] at ht; exact absurd ht (by show ¬ (999 < 100); decide)
    | some t => rw [hl] at ht; exact am_tz_nf _ (am_lk_mem hl) ht
  · have hk : k < 100 := ht
    show am_lk k am_nf = some (bif Nat.blt k 100 then am_nfs k else h.dl i)
    rw [am_lt hk]
    exact am_kok_nf hoa.2.2 hk
theorem am_ty_eq {h h2 : AH} (h1 : h2.dl = h.dl) (h3 : h2.sl = h.sl) (a : AA) : am_ty h2 a = am_ty h a := by
  rcases a with ⟨i, j⟩ | x | n | ⟨k, i⟩
  · rfl
  · rfl
  · have e : ∀ g : AH, am_ty g (Sum.inr (Sum.inr (Sum.inl n))) = am_ty g (za n) := fun _ => rfl
    rw [e, e, am_ty_z, am_ty_z, h3]
  · show (k, bif Nat.blt k 100 then am_nfs k else h2.dl i) = (k, bif Nat.blt k 100 then am_nfs k else h.dl i)
    rw [h1]
theorem am_ct_obj {K : AKx} {va : Nat → Nat} {h : AH} {a : AA} (ht : (am_ty h a).1 < 100) : am_ct K va h a = .inr ((am_ty h a).1, (List.range (am_ty h a).2).map (am_fv K va h a (am_ty h a).1)) := by
  unfold am_ct
  rw [am_lt ht]; rfl
theorem am_ct_arr {K : AKx} {va : Nat → Nat} {h : AH} {a : AA} (ht : 100 ≤ (am_ty h a).1) : am_ct K va h a = .inl (K.2.2.1 (am_ty h a).1, (am_ty h a).2, am_ac K va h a (am_ty h a).1) := by
  unfold am_ct
  rw [am_nlt (by omega)]; rfl
theorem am_ct_int {K : AKx} {va : Nat → Nat} {h : AH} {a : AA} {t : Nat} (ht : (am_ty h a).1 = t) (h1 : 100 ≤ t) (h2 : t < 103) : am_ct K va h a = .inl (K.2.2.1 t, (am_ty h a).2, .inl (fun j => h.i a j)) := by
  rw [am_ct_arr (by omega), ht]
  unfold am_ac
  rw [am_bne (show t ≠ 103 by omega), am_ble_f (show t < 104 by omega)]; rfl
theorem am_ct_ref {K : AKx} {va : Nat → Nat} {h : AH} {a : AA} {t : Nat} (ht : (am_ty h a).1 = t) (h1 : 104 ≤ t) : am_ct K va h a = .inl (K.2.2.1 t, (am_ty h a).2, .inr (.inr (.inr (.inr (fun j => am_ro K va (h.r a j)))))) := by
  rw [am_ct_arr (by omega), ht]
  unfold am_ac
  rw [am_bne (show t ≠ 103 by omega), Nat.ble_eq_true_of_le h1]; rfl
theorem am_ct_long {K : AKx} {va : Nat → Nat} {h : AH} {a : AA} (ht : (am_ty h a).1 = 103) : am_ct K va h a = .inl (K.2.2.1 103, (am_ty h a).2, .inr (.inl (fun j => h.lg (am_li a) j))) := by
  rw [am_ct_arr (by omega), ht]; rfl
theorem am_u_ne {α : Type} {f : AA → Nat → α} {a b : AA} {k : Nat} {v : α} (h : b ≠ a) : am_u f a k v b = f b := by
  funext j
  unfold am_u
  by_cases hj : j = k
  · rw [if_pos hj, if_neg h]
  · rw [if_neg hj]
theorem am_u_nk {α : Type} {f : AA → Nat → α} {a b : AA} {k j : Nat} {v : α} (h : j ≠ k) : am_u f a k v b j = f b j := by
  unfold am_u
  rw [if_neg h]
theorem am_u_at {α : Type} {f : AA → Nat → α} {a : AA} {k : Nat} {v : α} : am_u f a k v a k = v := by
  unfold am_u
  rw [if_pos rfl, if_pos rfl]
theorem am_ct_eq {K : AKx} {va : Nat → Nat} {h h2 : AH} {b : AA} (ht : am_ty h2 b = am_ty h b) (hi : h2.i b = h.i b) (hr : h2.r b = h.r b) (hl : (am_ty h b).1 = 103 → h2.lg (am_li b) = h.lg (am_li b)) : am_ct K va h2 b = am_ct K va h b := by
  by_cases h1 : (am_ty h b).1 < 100
  · rw [am_ct_obj (h := h) h1, am_ct_obj (h := h2) (by rw [ht]; exact h1), ht]
    have e : am_fv K va h2 b (am_ty h b).1 = am_fv K va h b (am_ty h b).1 := by
      funext k
      unfold am_fv
      rw [hi, hr]
    rw [e]
  · rw [am_ct_arr (h := h2) (by rw [ht]; omega), am_ct_arr (h := h) (by omega), ht]
    have e : am_ac K va h2 b (am_ty h b).1 = am_ac K va h b (am_ty h b).1 := by
      by_cases h3 : (am_ty h b).1 = 103
      · rw [h3]
        show Sum.inr (Sum.inl (fun (j : Nat) => h2.lg (am_li b) j)) = Sum.inr (Sum.inl (fun (j : Nat) => h.lg (am_li b) j))
        rw [hl h3]
      · unfold am_ac
        rw [hi, hr, am_bne h3]
        rfl
    rw [e]
theorem am_setf {n j : Nat} {F G : Nat → Value} {v : Value} (hv : G j = v) (ho : ∀ k, k ≠ j → G k = F k) : ((List.range n).map F).set j v = (List.range n).map G := by
  apply List.ext_getElem?
  intro k
  by_cases hk : k < n
  · by_cases hj : k = j
    · subst hj
      rw [List.getElem?_set_self (by simpa using hk), List.getElem?_map, List.getElem?_range hk, Option.map_some, hv]
    · rw [List.getElem?_set_ne (Ne.symm hj), List.getElem?_map, List.getElem?_map, List.getElem?_range hk, Option.map_some, Option.map_some, ho k hj]
  · have e : (List.range n)[k]? = none := by simp; omega
    by_cases hj : k = j
    · subst hj
      rw [List.getElem?_set]
      simp [hk, e]
    · rw [List.getElem?_set_ne (Ne.symm hj), List.getElem?_map, List.getElem?_map, e]; rfl
theorem am_ty_c {h : AH} {n : Nat} (hn : 1000 ≤ n) : (n = 3000 ∧ am_ty h (za n) = (106, 37)) ∨ (n = 3001 ∧ am_ty h (za n) = (100, 37)) ∨ (n = 3002 ∧ am_ty h (za n) = (101, 100)) ∨ (n = 3003 ∧ am_ty h (za n) = (101, 100)) ∨ (n = 3004 ∧ am_ty h (za n) = (100, h.sl)) ∨ (∃ k, n = 2000 + k ∧ k < am_nstr ∧ am_ty h (za n) = (101, am_strlen k)) ∨ (∃ k, n = 1000 + k ∧ k < am_nstr ∧ am_ty h (za n) = (0, 4)) ∨ (n = 3005 ∧ am_ty h (za n) = (104, 0)) ∨ (n = 3007 ∧ am_ty h (za n) = (15, 0)) ∨ am_ty h (za n) = (999, 0) := by
  by_cases e0 : n = 3000
  · subst e0; exact Or.inl ⟨rfl, rfl⟩
  by_cases e1 : n = 3001
  · subst e1; exact Or.inr (Or.inl ⟨rfl, rfl⟩)
  by_cases e2 : n = 3002
  · subst e2; exact Or.inr (Or.inr (Or.inl ⟨rfl, rfl⟩))
  by_cases e3 : n = 3003
  · subst e3; exact Or.inr (Or.inr (Or.inr (Or.inl ⟨rfl, rfl⟩)))
  by_cases e4 : n = 3004
  · subst e4; exact Or.inr (Or.inr (Or.inr (Or.inr (Or.inl ⟨rfl, rfl⟩))))
  by_cases e5 : n = 3005
  · subst e5; exact Or.inr (Or.inr (Or.inr (Or.inr (Or.inr (Or.inr (Or.inr (Or.inl ⟨rfl, rfl⟩)))))))
  by_cases e7 : n = 3007
  · subst e7; exact Or.inr (Or.inr (Or.inr (Or.inr (Or.inr (Or.inr (Or.inr (Or.inr (Or.inl ⟨rfl, rfl⟩))))))))
  refine Or.inr (Or.inr (Or.inr (Or.inr (Or.inr ?_))))
  rw [am_ty_z, Nat.ble_eq_true_of_le hn]
  cases h30 : Nat.ble 3000 n with
  | true =>
    rw [am_bne e0, am_bne e1, am_bne e2, am_bne e3, am_bne e4, am_bne e5, am_bne e7]
    exact Or.inr (Or.inr (Or.inr (Or.inr rfl)))
  | false =>
    have hb30 : ¬ 3000 ≤ n := fun z => by rw [Nat.ble_eq_true_of_le z] at h30; cases h30
    cases h20 : Nat.ble 2000 n with
    | true =>
      have hb20 := Nat.le_of_ble_eq_true h20
      by_cases hk : n < 2000 + am_nstr
      · rw [am_lt hk]
        exact Or.inl ⟨n - 2000, by omega, by omega, rfl⟩
      · rw [am_nlt hk]
        exact Or.inr (Or.inr (Or.inr (Or.inr rfl)))
    | false =>
      have hb20 : ¬ 2000 ≤ n := fun z => by rw [Nat.ble_eq_true_of_le z] at h20; cases h20
      by_cases hk : n < 1000 + am_nstr
      · rw [am_lt hk]
        exact Or.inr (Or.inl ⟨n - 1000, by omega, by omega, rfl⟩)
      · rw [am_nlt hk]
        exact Or.inr (Or.inr (Or.inr (Or.inr rfl)))
theorem am_tw_t : ∀ q ∈ am_tw, q.2.1 ≠ 0 ∧ q.2.1 ≠ 13 ∧ q.2.1 ≠ 15 ∧ q.2.1 ≠ 103 ∧ q.2.1 ≠ 104 ∧ am_kok q.2.1 = true := by decide
theorem am_tz_t : ∀ q ∈ am_tz, q.2.1 ≠ 0 ∧ q.2.1 ≠ 13 ∧ q.2.1 ≠ 15 ∧ q.2.1 ≠ 103 ∧ q.2.1 ≠ 104 ∧ am_kok q.2.1 = true := by decide
theorem am_kok_n {k : Nat} (h : am_kok k = true) : k ≠ 13 ∧ k ≠ 15 ∧ k ≠ 999 ∧ k ≠ 998 := by
  unfold am_kok at h
  rcases Bool.or_eq_true_iff.mp h with z | z
  · cases hl : am_lk k am_nf with
    | none => rw [hl] at z; cases z
    | some n =>
      have key : ∀ q ∈ am_nf, q.1 ≠ 13 ∧ q.1 ≠ 15 ∧ q.1 ≠ 999 ∧ q.1 ≠ 998 := by decide
      exact key _ (am_lk_mem hl)
  · obtain ⟨z1, z2⟩ := Bool.and_eq_true_iff.mp z
    have := Nat.le_of_ble_eq_true z1
    have := Nat.le_of_ble_eq_true z2
    omega
/-- which kinds our own cells have -/
theorem am_ty_d {h : AH} {a : AA} (hd : am_dyn a = true) (hoa : am_oka h a) : (am_ty h a).1 ≠ 13 ∧ (am_ty h a).1 ≠ 15 ∧ (((am_ty h a).1 = 103 ∨ (am_ty h a).1 = 104 ∨ (am_ty h a).1 = 0) → ∃ i, a = da (am_ty h a).1 i) ∧ ((am_ty h a).1 ≠ 999 → am_kok (am_ty h a).1 = true) := by
  rcases a with ⟨i, j⟩ | x | n | ⟨k, i⟩
  · rw [am_ty_w]
    cases hl : am_lk j am_tw with
    | none => exact ⟨by decide, by decide, fun z => absurd z (by decide), fun z => absurd rfl z⟩
    | some t =>
      have h1 := am_tw_t _ (am_lk_mem hl)
      dsimp only at h1 ⊢
      exact ⟨h1.2.1, h1.2.2.1, fun z => by omega, fun _ => h1.2.2.2.2.2⟩
  · cases hd
  · have hn : Nat.ble 1000 n = false := am_ble_f (Nat.blt_eq.mp hd)
    have e : am_ty h (Sum.inr (Sum.inr (Sum.inl n))) = am_ty h (za n) := rfl
    rw [e, am_ty_z, hn]
    cases hl : am_lk n am_tz with
    | none => exact ⟨(by decide : (999 : Nat) ≠ 13), (by decide : (999 : Nat) ≠ 15), fun z => absurd z (by decide : ¬ ((999 : Nat) = 103 ∨ (999 : Nat) = 104 ∨ (999 : Nat) = 0)), fun z => absurd rfl z⟩
    | some t =>
      have h1 := am_tz_t _ (am_lk_mem hl)
      dsimp only at h1
      exact ⟨h1.2.1, h1.2.2.1, fun z => absurd z (by show ¬ (t.1 = 103 ∨ t.1 = 104 ∨ t.1 = 0); omega), fun _ => h1.2.2.2.2.2⟩
  · have h1 := am_kok_n hoa.2.2
    exact ⟨h1.1, h1.2.1, fun _ => ⟨i, rfl⟩, fun _ => hoa.2.2⟩
/-- a cell with a kind is ours, a Sign, or one of the other constants -/
theorem am_dyn_or (h : AH) (a : AA) : am_dyn a = true ∨ (∃ x, a = ga x) ∨ ∃ n, a = za n ∧ 1000 ≤ n := by
  rcases a with w | x | n | q
  · exact Or.inl rfl
  · exact Or.inr (Or.inl ⟨x, rfl⟩)
  · rcases Nat.lt_or_ge n 1000 with z | z
    · exact Or.inl (am_lt z)
    · exact Or.inr (Or.inr ⟨n, rfl, z⟩)
  · exact Or.inl rfl
section HEAP
variable {K : AKx} {p : Program} {l : Launch} {e : Env} {R : Room} {s : State} {m : MethodId} {args : Array Value} {below : List Frame} {meth : Method} {c : Code} {bytes : ByteArray} {mr : MR} {o : AO} {h1 : AH} {ih : AK} {pc len tgt d : Nat} {r : List CI} {ls : AL} {st : List AV} {h : AH}
/-- behind a write of one cell -/
theorem am_Rel.wr {va : Nat → Nat} {h2 : AH} {H H1 : Heap} {a : AA} {e2 : va_E} (hR : am_Rel K va h H) (hv : am_val h a) (he : am_ct K va h2 a = e2) (ho : ∀ b : AA, b ≠ a → am_ct K va h2 b = am_ct K va h b) (hdy : h2.2.2.2.1.2 = h.2.2.2.1.2) (htl : h2.2.2.2.2 = h.2.2.2.2) (hx : ∀ k, h2.i (za 3004) k = h.i (za 3004) k) (hz : match h.nx with | some _ => H1.size = H.size | none => True) (hP : va_P K.2.1 vwCl ((am_ws K va h).set (am_jx h a) (am_ad K va a, e2)) H1) (hD : va_D (am_fr K) ((am_ws K va h).set (am_jx h a) (am_ad K va a, e2))) (hna : am_NA h2) : am_Rel K va h2 H1 := by
  have hn : h2.nx = h.nx := by
    show h2.2.2.2.2.2.2.2.2 = h.2.2.2.2.2.2.2.2
    rw [htl]
  have hsl : h2.sl = h.sl := by
    show h2.2.2.2.2.2.2.2.1 = h.2.2.2.2.2.2.2.1
    rw [htl]
  have hnd : h2.nd = h.nd := congrArg (fun z => z.1) hdy
  have hdk : h2.dk = h.dk := congrArg (fun z => z.2.1) hdy
  rw [← he, am_wset hv hn hnd hdk ho] at hP hD
  refine ⟨hP, hD, ?_, by rw [hsl]; exact hR.2.2.2.1, fun k => by rw [hx]; exact hR.2.2.2.2.1 k, hna⟩
  rw [hn]
  have h3 := hR.2.2.1
  cases hnx : h.nx with
  | none => trivial
  | some n =>
    rw [hnx] at h3 hz
    refine ⟨by rw [hz]; exact h3.1, h3.2.1, fun k hk1 hk2 => ?_⟩
    have hne : am_lay k ≠ a := by
      intro q
      rcases am_lay_ix hv.1 hv.2.2.1 with hl | ⟨c, i, rfl⟩
      · have hlt := am_ex_lt hl hv.1 hv.2.1
        rw [← q, am_lay_at hk2] at hlt
        unfold am_n at hlt
        rw [hnx] at hlt
        have hlt : k < n := hlt
        omega
      · exact am_lay_nd _ _ _ q
    rw [ho _ hne, h3.2.2 k hk1 hk2]
    unfold am_df
    rw [htl, hdy]
theorem am_val_of {a : AA} {t : Nat} (hd : am_dyn a = true) (he : am_ex h a = true) (ht : (am_ty h a).1 = t) (hne : t ≠ 999) (ho : am_oka h a) : am_val h a := ⟨hd, he, by rw [ht]; exact hne, ho⟩
theorem am_val.lt {k i : Nat} (hv : am_val h (da k i)) : i < h.nd := hv.2.2.2.1
theorem am_okv_dy {h2 : AH} {v : AV} (e : h2.2.2.2.1.2 = h.2.2.2.1.2) (q : am_okv h v) : am_okv h2 v := by
  refine q.ext ⟨?_, fun i _ => ?_⟩
  · show h.2.2.2.1.2.1 ≤ h2.2.2.2.1.2.1
    rw [e]; exact Nat.le_refl _
  · show h2.2.2.2.1.2.2.1 i = h.2.2.2.1.2.2.1 i
    rw [e]
/-- what isn't made yet is empty still: numbers are written, references, a long -/
theorem am_NA.ii {a : AA} {f : AA → Nat → Int32} (hv : am_val h a) (hf : ∀ b, b ≠ a → f b = h.1 b) (z : am_NA h) : am_NA (f, h.2) := by
  refine ⟨fun b j => ?_, fun i hi => ⟨fun k j => ?_, fun j => (z.2.1 i hi).2 j⟩, z.2.2.1, z.2.2.2⟩
  · exact am_okv_dy (h := h) rfl (z.1 b j)
  · refine ⟨?_, ((z.2.1 i hi).1 k j).2⟩
    show f (da k i) j = 0
    rw [hf (da k i) (fun q => by
      have hlt := am_val.lt (q ▸ hv)
      have hi : h.nd ≤ i := hi
      omega)]
    exact ((z.2.1 i hi).1 k j).1
theorem am_NA.rr {a : AA} {f : AA → Nat → AV} (hv : am_val h a) (hf : ∀ b, b ≠ a → f b = h.2.1 b) (ha : ∀ j, am_okv h (f a j)) (z : am_NA h) : am_NA (h.1, f, h.2.2) := by
  refine ⟨fun b j => ?_, fun i hi => ⟨fun k j => ?_, fun j => (z.2.1 i hi).2 j⟩, z.2.2.1, z.2.2.2⟩
  · show am_okv (h.1, f, h.2.2) (f b j)
    refine am_okv_dy (h := h) rfl ?_
    by_cases hb : b = a
    · rw [hb]; exact ha j
    · rw [hf b hb]; exact z.1 b j
  · refine ⟨((z.2.1 i hi).1 k j).1, ?_⟩
    show f (da k i) j = Sum.inl .null
    rw [hf (da k i) (fun q => by
      have hlt := am_val.lt (q ▸ hv)
      have hi : h.nd ≤ i := hi
      omega)]
    exact ((z.2.1 i hi).1 k j).2
theorem am_NA.ll {i0 j0 : Nat} {x : Int64} (hi0 : i0 < h.nd) (z : am_NA h) : am_NA (am_ls h i0 j0 x) := by
  refine ⟨fun b j => am_okv_dy (h := h) rfl (z.1 b j), fun i hi => ⟨fun k j => (z.2.1 i hi).1 k j, fun j => ?_⟩, z.2.2.1, z.2.2.2⟩
  show (if i = i0 ∧ j = j0 then x else h.lg i j) = 0
  have hi : h.nd ≤ i := hi
  rw [if_neg (fun q => by omega)]
  exact (z.2.1 i hi).2 j
/-- a frame's names, over a heap of the same cells -/
theorem am_ok.dy {va : Nat → Nat} {h2 : AH} (e : h2.2.2.2.1.2 = h.2.2.2.1.2) (q : am_ok K va h ls st) : am_ok K va h2 ls st := by
  refine ⟨?_, fun i v hv => am_okv_dy e (q.2.1 i v hv), fun v hv => am_okv_dy e (q.2.2 v hv)⟩
  have q1 := q.1
  unfold am_agr at q1 ⊢
  have e1 : h2.nd = h.nd := congrArg (fun z => z.1) e
  have e2 : h2.dk = h.dk := congrArg (fun z => z.2.1) e
  rw [e1, e2]
  exact q1
theorem am_rf {va : Nat → Nat} {v : AV} (hv : (∃ b, v = Sum.inr b) ∨ v = Sum.inl .null) : va_rf (am_ro K va v) = am_rv K va v := by
  rcases hv with ⟨b, rfl⟩ | rfl <;> rfl
theorem am_pr_of {k : AV → AR} {v : AV} {q : AO × AH} (h : am_pr k v = some q) : ((∃ b, v = Sum.inr b) ∨ v = Sum.inl .null) ∧ k v = some q := by
  unfold am_pr at h
  split at h
  · exact ⟨Or.inl ⟨_, rfl⟩, h⟩
  · exact ⟨Or.inr rfl, h⟩
  · cases h
/-- what the rows want of the frame -/
def am_Cx (K : AKx) (p : Program) (s : State) (m : MethodId) (args : Array Value) (c : Code) (bytes : ByteArray) (mr : MR) : Prop := p.tables.exec = Jvm.exec ∧ c.code = bytes ∧ c.maxLocals = mr.2.1 ∧ s.vm.findClass (am_cn mr.1) = some m.cls ∧ (∀ w ∈ sg_T, w.before args s = true) ∧ am_Kn K s s.heap
theorem am_rI_d {a : AA} (hd : am_dyn a = true) (k : Nat) : am_rI h a k = h.i a k ∧ am_rR h a k = h.r a k := by
  rcases a with w | x | n | q
  · exact ⟨rfl, rfl⟩
  · cases hd
  · have hn : Nat.ble 1000 n = false := am_ble_f (Nat.blt_eq.mp hd)
    have e1 : am_rR h (za n) k = bif Nat.ble 1000 n then (bif Nat.beq n 3000 then gr' (Fin.ofNat 37 k) else zr (n + 1000)) else h.r (za n) k := rfl
    have e2 : am_rI h (za n) k = bif Nat.ble 1000 n then (bif Nat.ble 3000 n then (bif Nat.beq n 3001 then nI (am_swm.getD k 0) else bif Nat.beq n 3002 then nI (48 + k / 10) else bif Nat.beq n 3003 then nI (48 + k % 10) else h.i (za n) k) else bif Nat.ble 2000 n then nI ((am_str.getD (n - 2000) []).getD k 0) else 0) else h.i (za n) k := rfl
    show am_rI h (za n) k = h.i (za n) k ∧ am_rR h (za n) k = h.r (za n) k
    rw [e1, e2, hn]
    exact ⟨rfl, rfl⟩
  · exact ⟨rfl, rfl⟩
/-- what a cell names is there -/
theorem am_okR {va : Nat → Nat} {H : Heap} (hR : am_Rel K va h H) (a : AA) (j : Nat) : am_okv h (am_rR h a j) := by
  cases hd : am_dyn a with
  | true => rw [(am_rI_d hd j).2]; exact hR.2.2.2.2.2.1 a j
  | false =>
    rcases a with w | x | n | q
    · cases hd
    · trivial
    · have e1 : am_rR h (Sum.inr (Sum.inr (Sum.inl n))) j = bif Nat.ble 1000 n then (bif Nat.beq n 3000 then gr' (Fin.ofNat 37 j) else zr (n + 1000)) else h.r (za n) j := rfl
      have hn : 1000 ≤ n := by
        rcases Nat.lt_or_ge n 1000 with z | z
        · have h3 : Nat.blt n 1000 = false := hd
          rw [am_lt z] at h3; cases h3
        · exact z
      rw [e1, Nat.ble_eq_true_of_le hn, cond_true]
      cases Nat.beq n 3000 <;> exact trivial
    · cases hd
theorem am_ad_c {va : Nat → Nat} {n : Nat} (h : 1000 ≤ n) : am_ad K va (za n) = K.2.2.2.2.1 n := by
  show (bif Nat.ble 1000 n then K.2.2.2.2.1 n else K.1 + n) = _
  rw [Nat.ble_eq_true_of_le h]; rfl
theorem am_fkN (hKn : am_Kn K s s.heap) {w : Cond} (hw : w ∈ lw_tbl) (hn : am_nw w = true) (ht : w.onTables = true) : w.before args s = true := va_Nw.use ht (hKn.2.1 _ hw hn)
theorem am_s_getfield {k : Nat} (hC : am_Cx K p s m args c bytes mr) (hF : ∀ v, am_F mr.1 k = some v → am_FO mr.1 k v) (hdec : decode bytes pc = .ok (.getfield k, 3)) (nx : am_Nx K p l e R s m args below meth c mr o h1 (pc + 3) d ih r) (hrun : am_step ih mr ((pc, .getfield k, len, tgt) :: r) ls st h d = some (o, h1)) : am_G K p l e R s m args below meth c mr o h1 pc ls st h := by
  intro va H locs cells slots lsr hR hS hc hs hL hO
  obtain ⟨hx, hb, hml, hown, hts, hKn⟩ := hC
  have h9 : (match (generalizing := false) st with | Sum.inr a :: t => (match am_F mr.1 k with | some (ci, j, kd) => bif Nat.beq (am_ty h a).1 ci && am_ex h a then (bif Nat.beq kd 1 then am_pr (fun v => ih mr r ls (v :: t) h d) (am_rR h a j) else ih mr r ls (vi (am_rI h a j) :: t) h d) else none | none => none) | _ => none) = some (o, h1) := hrun
  split at h9
  · next a t =>
    cases hf : am_F mr.1 k with
    | none => rw [hf] at h9; cases h9
    | some q =>
      obtain ⟨ci, j, kd⟩ := q
      rw [hf] at h9
      dsimp only at h9
      cases hbb : (Nat.beq (am_ty h a).1 ci && am_ex h a) with
      | false => rw [hbb] at h9; cases h9
      | true =>
        rw [hbb, cond_true] at h9
        obtain ⟨hb1, hex⟩ := Bool.and_eq_true_iff.mp hbb
        have hty : (am_ty h a).1 = ci := Nat.eq_of_beq_eq_true hb1
        have hoa : am_oka h a := hO.top
        have key : ∀ v : Value, (Nat.beq kd 1 = true → am_rv K va (am_rR h a j) = v ∧ ((∃ b, am_rR h a j = Sum.inr b) ∨ am_rR h a j = Sum.inl .null)) → (Nat.beq kd 1 = false → .int (am_rI h a j) = v) → W p l e R s m args below meth c H locs cells slots (vx_MQ below (am_Post K o h1) (am_PostX K o h1) args s R.cells R.slots (am_fr K)) (F0 m (pc + 3) lsr (v :: t.map (am_rv K va))) := by
          intro v h3 h4
          cases hk1 : Nat.beq kd 1 with
          | true =>
            rw [hk1, cond_true] at h9
            obtain ⟨-, h10⟩ := am_pr_of h9
            rw [← (h3 hk1).1]
            exact nx _ _ _ h10 va H locs cells slots lsr hR hS hc hs hL (hO.pop.push (am_okR hR a j))
          | false =>
            rw [hk1, cond_false] at h9
            rw [← h4 hk1]
            exact nx _ _ _ h9 va H locs cells slots lsr hR hS hc hs hL hO.pop.num
        have hpr : Nat.beq kd 1 = true → ((∃ b, am_rR h a j = Sum.inr b) ∨ am_rR h a j = Sum.inl .null) := by
          intro hk1
          rw [hk1, cond_true] at h9
          exact (am_pr_of h9).1
        obtain ⟨hF1, hF2⟩ := hF _ hf
        cases hdyn : am_dyn a with
        | true =>
          have htd := am_ty_d (h := h) hdyn hoa
          obtain ⟨q, ty0, hq, hj, hnf, hlink, hin, hpd, hkd, hnm, hisr⟩ := hF1 (by rw [← hty]; exact htd.1)
          have hlt : ci < 100 := by
            have hl := (List.getElem?_eq_some_iff.mp hq).1
            exact Nat.lt_of_lt_of_le hl (by decide)
          have hv := am_val_of hdyn hex hty (by omega) hoa
          have hat := am_here (K := K) (va := va) hv
          rw [am_ct_obj (by rw [hty]; exact hlt)] at hat
          have hnf2 := am_ty_nf hdyn hoa (by rw [hty]; exact hlt)
          rw [hty, hnf] at hnf2
          have hN : q.2.2 = (am_ty h a).2 := Option.some.inj hnf2
          rw [hty] at hat
          have hrr := am_rI_d (h := h) hdyn j
          have hfs : ((List.range (am_ty h a).2).map (am_fv K va h a ci))[j]? = some (am_fv K va h a ci j) := by
            rw [List.getElem?_map, List.getElem?_range (by rw [← hN]; exact hj)]; rfl
          have fin : W p l e R s m args below meth c H locs cells slots (vx_MQ below (am_Post K o h1) (am_PostX K o h1) args s R.cells R.slots (am_fr K)) (F0 m (pc + 3) lsr (am_fv K va h a ci j :: t.map (am_rv K va))) := by
            refine key _ (fun hk1 => ⟨?_, hpr hk1⟩) (fun hk1 => ?_)
            · unfold am_fv
              rw [hisr, hk1]
              show _ = va_rf (am_ro K va (h.r a j))
              have h5 := hpr hk1
              rw [hrr.2] at h5 ⊢
              exact (am_rf h5).symm
            · unfold am_fv
              rw [hisr, hk1, hrr.1]; rfl
          rcases hlink with hlink | ⟨-, host, hlink⟩ | ⟨ref, hlink, hsame⟩
          · exact va_get (ci := ci) (C := q.1) (T := q.2.1) (N := q.2.2) hx hb hts hin hown hKn.1 hR.1 (am_jx h a) hat hq j hj (hts _ hlink) (fun _ h => h) (v := am_fv K va h a ci j) hfs hdec fin
          · exact va_getN (ci := ci) (C := q.1) (T := q.2.1) (N := q.2.2) hx hb hts hin hown hKn.1 hR.1 (am_jx h a) hat hq j hj (am_fkN hKn hlink rfl rfl) (fun _ h => h) (v := am_fv K va h a ci j) hfs hdec fin
          · exact va_get (ref := ref) (ci := ci) (C := q.1) (T := q.2.1) (N := q.2.2) hx hb hts hin hown hKn.1 hR.1 (am_jx h a) hat hq j hj (hts _ hlink) (u_same (hts _ hsame)) (v := am_fv K va h a ci j) hfs hdec fin
        | false =>
          rcases a with w | x | n | q
          · cases hdyn
          · have hci : ci = 13 := hty.symm
            subst hci
            obtain ⟨hci, hlink⟩ := hF2 (Or.inl rfl)
            rcases hci with ⟨-, hj4, hkd⟩ | ⟨z, -⟩
            · refine vk_getf hx hb (hKn.2.2.1 x j hj4) hS hown (hts _ hlink) (fun _ h => h) hdec (key _ (fun hk1 => ⟨?_, hpr hk1⟩) (fun hk1 => ?_))
              · rw [hk1] at hkd
                rw [← hkd]
                show Value.ref (am_ad K va (za (1000 + x.val))) = _
                rw [am_ad_c (by omega)]; rfl
              · rw [hk1] at hkd
                rw [← hkd]
                rfl
            · cases z
          · have hn : 1000 ≤ n := by
              rcases Nat.lt_or_ge n 1000 with z | z
              · have h3 : Nat.blt n 1000 = false := hdyn
                rw [am_lt z] at h3; cases h3
              · exact z
            have hn9 : ∀ (tt : Nat × Nat), am_ty h (za n) = tt → tt.1 = ci := fun tt e9 => by rw [← e9]; exact hty
            have no : ci ≠ 0 → ci ≠ 13 → ci < 100 → ci ≠ 15 → False := fun z0 z1 z2 z3 => by
              rcases am_ty_c (h := h) hn with ⟨-, e9⟩ | ⟨-, e9⟩ | ⟨-, e9⟩ | ⟨-, e9⟩ | ⟨-, e9⟩ | ⟨_, -, -, e9⟩ | ⟨_, -, -, e9⟩ | ⟨-, e9⟩ | ⟨-, e9⟩ | e9 <;> have := hn9 _ e9 <;> dsimp only at this <;> omega
            have hcl : ci ≠ 13 → ci < 12 + 1 := fun z => by
              obtain ⟨q, ty0, hq, -⟩ := hF1 z
              exact Nat.lt_of_lt_of_le (List.getElem?_eq_some_iff.mp hq).1 (by decide)
            by_cases h0 : ci = 0
            · subst h0
              obtain ⟨hci, hlink⟩ := hF2 (Or.inr rfl)
              rcases hci with ⟨z, -⟩ | ⟨-, hj2, hkd⟩
              · cases z
              · rcases am_ty_c (h := h) hn with ⟨-, e9⟩ | ⟨-, e9⟩ | ⟨-, e9⟩ | ⟨-, e9⟩ | ⟨-, e9⟩ | ⟨_, -, -, e9⟩ | ⟨n2, rfl, hn2, e9⟩ | ⟨-, e9⟩ | ⟨-, e9⟩ | e9
                rotate_left 6
                · show W p l e R s m args below meth c H locs cells slots _ (F0 m pc lsr (.ref (am_ad K va (za (1000 + n2))) :: t.map (am_rv K va)))
                  rw [am_ad_c (by omega)]
                  have hn83 : n2 < 1000 := Nat.lt_of_lt_of_le hn2 (by decide)
                  refine vk_getf hx hb (hKn.2.2.2.1 n2 hn2 j hj2) hS hown (hts _ hlink) (fun _ h => h) hdec (key _ (fun hk1 => ⟨?_, hpr hk1⟩) (fun hk1 => ?_))
                  · rw [hk1] at hkd
                    rw [← hkd]
                    have e1 : am_rR h (za (1000 + n2)) j = bif Nat.ble 1000 (1000 + n2) then (bif Nat.beq (1000 + n2) 3000 then gr' (Fin.ofNat 37 j) else zr (1000 + n2 + 1000)) else h.r (za (1000 + n2)) j := rfl
                    show am_rv K va (am_rR h (za (1000 + n2)) j) = _
                    rw [e1, Nat.ble_eq_true_of_le (by omega), am_bne (by omega)]
                    show Value.ref (am_ad K va (za (1000 + n2 + 1000))) = Value.ref (K.2.2.2.2.1 (2000 + n2))
                    rw [am_ad_c (by omega), show 1000 + n2 + 1000 = 2000 + n2 by omega]
                  · rw [hk1] at hkd
                    rw [← hkd]
                    have e2 : am_rI h (za (1000 + n2)) j = bif Nat.ble 1000 (1000 + n2) then (bif Nat.ble 3000 (1000 + n2) then (bif Nat.beq (1000 + n2) 3001 then nI (am_swm.getD j 0) else bif Nat.beq (1000 + n2) 3002 then nI (48 + j / 10) else bif Nat.beq (1000 + n2) 3003 then nI (48 + j % 10) else h.i (za (1000 + n2)) j) else bif Nat.ble 2000 (1000 + n2) then nI ((am_str.getD (1000 + n2 - 2000) []).getD j 0) else 0) else h.i (za (1000 + n2)) j := rfl
                    show Value.int (am_rI h (za (1000 + n2)) j) = _
                    rw [e2, Nat.ble_eq_true_of_le (by omega), am_ble_f (by omega), am_ble_f (by omega)]
                    rfl
                all_goals (exfalso; have := hn9 _ e9; dsimp only at this; omega)
            · exfalso
              by_cases h13 : ci = 13
              · rcases am_ty_c (h := h) hn with ⟨-, e9⟩ | ⟨-, e9⟩ | ⟨-, e9⟩ | ⟨-, e9⟩ | ⟨-, e9⟩ | ⟨_, -, -, e9⟩ | ⟨_, -, -, e9⟩ | ⟨-, e9⟩ | ⟨-, e9⟩ | e9 <;> have := hn9 _ e9 <;> dsimp only at this <;> omega
              · have := hcl h13
                exact no h0 h13 (by omega) (by omega)
          · cases hdyn
  · cases h9
end HEAP
