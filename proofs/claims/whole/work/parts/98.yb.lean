/-! by hand: ArraysSupport.newLength, AbstractStringBuilder.newCapacity -/
section YN
theorem dnl_0 : decode cJ8_newLength_cabcc 0 = .ok (.iload_n 0, 1) := by decide +kernel
theorem dnl_1 : decode cJ8_newLength_cabcc 1 = .ok (.iload_n 1, 1) := by decide +kernel
theorem dnl_2 : decode cJ8_newLength_cabcc 2 = .ok (.iload_n 2, 1) := by decide +kernel
theorem dnl_3 : decode cJ8_newLength_cabcc 3 = .ok (.invokestatic 194, 3) := by decide +kernel
theorem dnl_6 : decode cJ8_newLength_cabcc 6 = .ok (.iadd, 1) := by decide +kernel
theorem dnl_7 : decode cJ8_newLength_cabcc 7 = .ok (.istore_n 3, 1) := by decide +kernel
theorem dnl_8 : decode cJ8_newLength_cabcc 8 = .ok (.iconst 0, 1) := by decide +kernel
theorem dnl_9 : decode cJ8_newLength_cabcc 9 = .ok (.iload_n 3, 1) := by decide +kernel
theorem dnl_10 : decode cJ8_newLength_cabcc 10 = .ok (.if_icmp .ge 11, 3) := by decide +kernel
theorem dnl_13 : decode cJ8_newLength_cabcc 13 = .ok (.iload_n 3, 1) := by decide +kernel
theorem dnl_14 : decode cJ8_newLength_cabcc 14 = .ok (.ldc 200, 2) := by decide +kernel
theorem dnl_16 : decode cJ8_newLength_cabcc 16 = .ok (.if_icmp .gt 5, 3) := by decide +kernel
theorem dnl_19 : decode cJ8_newLength_cabcc 19 = .ok (.iload_n 3, 1) := by decide +kernel
theorem dnl_20 : decode cJ8_newLength_cabcc 20 = .ok (.ireturn, 1) := by decide +kernel
theorem mx_ (g f : Nat) (hg : g < 2 ^ 31) (hf : f < 2 ^ 31) : (if nI g < nI f then nI f else nI g) = nI (max g f) := by
  by_cases c : g < f
  · rw [if_pos ((nI_ltI hg hf).mpr c), Nat.max_eq_right (Nat.le_of_lt c)]
  · rw [if_neg (fun q => c ((nI_ltI hg hf).mp q)), Nat.max_eq_left (Nat.not_lt.mp c)]
theorem mn_2 (g f : Nat) (hg : g < 2 ^ 31) (hf : f < 2 ^ 31) : (if nI f < nI g then nI f else nI g) = nI (min g f) := by
  by_cases c : f < g
  · rw [if_pos ((nI_ltI hf hg).mpr c), Nat.min_eq_right (Nat.le_of_lt c)]
  · rw [if_neg (fun q => c ((nI_ltI hf hg).mp q)), Nat.min_eq_left (Nat.not_lt.mp c)]
theorem c_nl (l : Launch) (Hp : Heap) (z g f : Nat) (hz : z ≤ 100000) (hg : g ≤ 100000) (hf : f ≤ 100000) (h0 : 0 < z + max g f) : Met l yJ8_newLength_cabcc (Cond.code yJ8_newLength_cabcc cJ8_newLength_cabcc 4 (some .int) :: sg_T) ({ frames := 1, cells := 0, slots := 0, locals := 22 }) (va_Pc [.int (nI z), .int (nI g), .int (nI f)] (fun U => U.heap = Hp)) (va_Qi (fun r (_ : Unit) => r = nI (z + max g f)) (fun _ t => t.heap = Hp) (fun _ => False)) 0 0 (fun _ => False) := by
  refine Met.ofW (cc := cJ8_newLength_cabcc) (maxL := 4) (ret := some .int) (by decide) rfl ?_
  intro p e s m args below meth c s₁ B hml hv9
  obtain ⟨rfl, h3⟩ := hv9
  have hx := B.exec
  have hb := B.bytes
  have hr := B.returns
  have hlocks := B.notSynchronized
  have hts0 := atoms_spec (ws := Cond.code yJ8_newLength_cabcc cJ8_newLength_cabcc 4 (some .int) :: sg_T) B.pre
  have hts : ∀ w ∈ sg_T, w.before #[.int (nI z), .int (nI g), .int (nI f)] s = true := fun w hw => hts0 w (List.mem_cons_of_mem _ hw)
  have hown : s.vm.findClass RJ8 = some m.cls := findClass_of_methodNamed B.named
  have hl := lv_entry ([.int (nI z), .int (nI g), .int (nI f)]) (n := 4) (Nat.le_of_ble_eq_true rfl)
  rw [lg_entry_eq]
  generalize (lg_sl ([.int (nI z), .int (nI g), .int (nI f)]) ++ List.replicate (4 - (lg_sl ([.int (nI z), .int (nI g), .int (nI f)])).length) Slot.unset).toArray = ls at hl ⊢
  have hl : lv_has ls 4 [(0, .int (nI z)), (1, .int (nI g)), (2, .int (nI f))] := hl
  have hS : va_S (fun _ => False) s.heap s.heap [] := va_S.rf
  have hmx : max g f ≤ 100000 := by omega
  refine lv_iload_n hx hb dnl_0 rfl (lv_at hl 0 rfl) ?_
  refine lv_iload_n hx hb dnl_1 rfl (lv_at hl 1 rfl) ?_
  refine lv_iload_n hx hb dnl_2 rfl (lv_at hl 2 rfl) ?_
  refine va_mmax (own := RJ8) hx hb (hml.trans hl.1.symm) hown (hts _ kt_6_234) (hts _ kt_4_173) (hts _ kt_1_24) (hts _ kt_4_174) (Nat.le_of_ble_eq_true rfl) (Nat.le_of_ble_eq_true rfl) (Nat.zero_le _) (Nat.zero_le _) dnl_3 ?_
  rw [mx_ g f (by omega) (by omega)]
  refine lv_iadd hx hb dnl_6 ?_
  rw [nI_add]
  refine lv_istore_n hx hb dnl_7 rfl hl (by decide) rfl (fun ls hl => ?_)
  refine lv_iconst (v := 0) hx hb dnl_8 (by decide) ?_
  refine lv_iload_n hx hb dnl_9 rfl (lv_at hl 0 rfl) ?_
  refine lv_icmp_ge (tgt := 21) hx hb dnl_10 (by decide) (fun h => absurd h (nI_ge (a := 0) h0 (by omega))) (fun _ => ?_)
  refine lv_iload_n hx hb dnl_13 rfl (lv_at hl 0 rfl) ?_
  refine lv_ldc (own := RJ8) (v := 2147483639) hx hb hown (hts _ kt_6_235) dnl_14 ?_
  refine lv_icmp_gt (tgt := 21) hx hb dnl_16 (by decide) (fun h => absurd h (Int32.not_lt.mpr (show nI (z + max g f) ≤ nI 2147483639 from nI_le (by omega) (by decide)))) (fun _ => ?_)
  refine lv_iload_n hx hb dnl_19 rfl (lv_at hl 0 rfl) ?_
  exact W.iret (v := nI (z + max g f)) hx hb hr (fun t ht hW => ⟨⟨nI (z + max g f), (), rfl, rfl, ht.trans h3⟩, hS.F ht⟩) hS.2.2 dnl_20
theorem dnc_0 : decode cJ5_newCapacity_0f7a4 0 = .ok (.aload_n 0, 1) := by decide +kernel
theorem dnc_1 : decode cJ5_newCapacity_0f7a4 1 = .ok (.getfield 15, 3) := by decide +kernel
theorem dnc_4 : decode cJ5_newCapacity_0f7a4 4 = .ok (.arraylength, 1) := by decide +kernel
theorem dnc_5 : decode cJ5_newCapacity_0f7a4 5 = .ok (.istore_n 2, 1) := by decide +kernel
theorem dnc_6 : decode cJ5_newCapacity_0f7a4 6 = .ok (.iload_n 1, 1) := by decide +kernel
theorem dnc_7 : decode cJ5_newCapacity_0f7a4 7 = .ok (.aload_n 0, 1) := by decide +kernel
theorem dnc_8 : decode cJ5_newCapacity_0f7a4 8 = .ok (.getfield 22, 3) := by decide +kernel
theorem dnc_11 : decode cJ5_newCapacity_0f7a4 11 = .ok (.ishl, 1) := by decide +kernel
theorem dnc_12 : decode cJ5_newCapacity_0f7a4 12 = .ok (.istore_n 3, 1) := by decide +kernel
theorem dnc_13 : decode cJ5_newCapacity_0f7a4 13 = .ok (.iload_n 3, 1) := by decide +kernel
theorem dnc_14 : decode cJ5_newCapacity_0f7a4 14 = .ok (.iload_n 2, 1) := by decide +kernel
theorem dnc_15 : decode cJ5_newCapacity_0f7a4 15 = .ok (.isub, 1) := by decide +kernel
theorem dnc_16 : decode cJ5_newCapacity_0f7a4 16 = .ok (.istore 4, 2) := by decide +kernel
theorem dnc_18 : decode cJ5_newCapacity_0f7a4 18 = .ok (.iload_n 2, 1) := by decide +kernel
theorem dnc_19 : decode cJ5_newCapacity_0f7a4 19 = .ok (.iload 4, 2) := by decide +kernel
theorem dnc_21 : decode cJ5_newCapacity_0f7a4 21 = .ok (.iload_n 2, 1) := by decide +kernel
theorem dnc_22 : decode cJ5_newCapacity_0f7a4 22 = .ok (.iconst 2, 1) := by decide +kernel
theorem dnc_23 : decode cJ5_newCapacity_0f7a4 23 = .ok (.aload_n 0, 1) := by decide +kernel
theorem dnc_24 : decode cJ5_newCapacity_0f7a4 24 = .ok (.getfield 22, 3) := by decide +kernel
theorem dnc_27 : decode cJ5_newCapacity_0f7a4 27 = .ok (.ishl, 1) := by decide +kernel
theorem dnc_28 : decode cJ5_newCapacity_0f7a4 28 = .ok (.iadd, 1) := by decide +kernel
theorem dnc_29 : decode cJ5_newCapacity_0f7a4 29 = .ok (.invokestatic 114, 3) := by decide +kernel
theorem dnc_32 : decode cJ5_newCapacity_0f7a4 32 = .ok (.istore 5, 2) := by decide +kernel
theorem dnc_34 : decode cJ5_newCapacity_0f7a4 34 = .ok (.iload 5, 2) := by decide +kernel
theorem dnc_36 : decode cJ5_newCapacity_0f7a4 36 = .ok (.ldc 39, 2) := by decide +kernel
theorem dnc_38 : decode cJ5_newCapacity_0f7a4 38 = .ok (.if_icmp .ne 13, 3) := by decide +kernel
theorem dnc_51 : decode cJ5_newCapacity_0f7a4 51 = .ok (.iload 5, 2) := by decide +kernel
theorem dnc_53 : decode cJ5_newCapacity_0f7a4 53 = .ok (.aload_n 0, 1) := by decide +kernel
theorem dnc_54 : decode cJ5_newCapacity_0f7a4 54 = .ok (.getfield 22, 3) := by decide +kernel
theorem dnc_57 : decode cJ5_newCapacity_0f7a4 57 = .ok (.ishr, 1) := by decide +kernel
theorem dnc_58 : decode cJ5_newCapacity_0f7a4 58 = .ok (.ireturn, 1) := by decide +kernel
/-- a text builder and its bytes -/
def bw_ (b a : Nat) (cB : ClassId) (m : Nat) (x : Nat → Int32) (f2 f3 : Value) : va_W := [(b, .inr (1, [.ref a, .int 0, f2, f3])), (a, .inl (cB, m, .inl x))]
theorem cap_e {q m : Nat} (h : m < q) : m + max (q - m) (m + 2) = sb_cap q m := by
  unfold sb_cap
  rw [if_neg (by omega)]
  split <;> omega
theorem c_nc (l : Launch) (D : va_G) (Hp : Heap) (b a : Nat) (cB : ClassId) (m q : Nat) (x : Nat → Int32) (f2 f3 : Value) (hm : m ≤ 30000) (hq : q ≤ 30000) (hmq : m < q) : Met l yJ5_newCapacity_0f7a4 (Cond.code yJ5_newCapacity_0f7a4 cJ5_newCapacity_0f7a4 6 (some .int) :: sg_T) ({ frames := 2, cells := 0, slots := 0, locals := 45 }) (va_Pc [.ref b, .int (nI q)] (fun U => U.heap = Hp ∧ va_K D vwCl [(cB, .byte)] U ∧ va_P D vwCl (bw_ b a cB m x f2 f3) U.heap)) (va_Qi (fun r (_ : Unit) => r = nI (sb_cap q m)) (fun _ t => t.heap = Hp) (fun _ => False)) 0 0 (fun _ => False) := by
  refine Met.ofW (cc := cJ5_newCapacity_0f7a4) (maxL := 6) (ret := some .int) (by decide) rfl ?_
  intro p e s m9 args below meth c s₁ B hml hv9
  obtain ⟨rfl, h3, hK, hP⟩ := hv9
  have hx := B.exec
  have hb := B.bytes
  have hr := B.returns
  have hlocks := B.notSynchronized
  have hts0 := atoms_spec (ws := Cond.code yJ5_newCapacity_0f7a4 cJ5_newCapacity_0f7a4 6 (some .int) :: sg_T) B.pre
  have hts : ∀ w ∈ sg_T, w.before #[.ref b, .int (nI q)] s = true := fun w hw => hts0 w (List.mem_cons_of_mem _ hw)
  have hown : s.vm.findClass RJ5 = some m9.cls := findClass_of_methodNamed B.named
  have hl := lv_entry ([.ref b, .int (nI q)]) (n := 6) (Nat.le_of_ble_eq_true rfl)
  rw [lg_entry_eq]
  generalize (lg_sl ([.ref b, .int (nI q)]) ++ List.replicate (6 - (lg_sl ([.ref b, .int (nI q)])).length) Slot.unset).toArray = ls at hl ⊢
  have hl : lv_has ls 6 [(0, .ref b), (1, .int (nI q))] := hl
  have hS : va_S (fun _ => False) s.heap s.heap [] := va_S.rf
  have gv : ∀ {pc : Nat} {ls : Array Slot} {rest : List Value} {Q : State → Prop}, decode cJ5_newCapacity_0f7a4 pc = .ok (.getfield 15, 3) → W p l e ({ frames := 2, cells := 0, slots := 0, locals := 45 } : Room) s m9 #[.ref b, .int (nI q)] below meth c s.heap [] 0 0 Q (F0 m9 (pc + 3) ls (.ref a :: rest)) → W p l e ({ frames := 2, cells := 0, slots := 0, locals := 45 } : Room) s m9 #[.ref b, .int (nI q)] below meth c s.heap [] 0 0 Q (F0 m9 pc ls (.ref b :: rest)) := fun hd k => va_get (D := D) (ci := 1) (v := .ref a) (own := RJ5) (ref := RJ5) (C := RJ4) (T := TJ4) (N := 4) hx hb hts fw_1 hown hK hP 0 rfl rfl 0 (by decide) (hts _ kt_1_59) (fun _ h9 => h9) rfl hd k
  have gc : ∀ {pc : Nat} {ls : Array Slot} {rest : List Value} {Q : State → Prop}, decode cJ5_newCapacity_0f7a4 pc = .ok (.getfield 22, 3) → W p l e ({ frames := 2, cells := 0, slots := 0, locals := 45 } : Room) s m9 #[.ref b, .int (nI q)] below meth c s.heap [] 0 0 Q (F0 m9 (pc + 3) ls (.int 0 :: rest)) → W p l e ({ frames := 2, cells := 0, slots := 0, locals := 45 } : Room) s m9 #[.ref b, .int (nI q)] below meth c s.heap [] 0 0 Q (F0 m9 pc ls (.ref b :: rest)) := fun hd k => va_get (D := D) (ci := 1) (v := .int 0) (own := RJ5) (ref := RJ5) (C := RJ4) (T := TJ4) (N := 4) hx hb hts fw_1 hown hK hP 0 rfl rfl 1 (by decide) (hts _ kt_1_60) (fun _ h9 => h9) rfl hd k
  refine lv_aload_n hx hb dnc_0 rfl (lv_at hl 0 rfl) ?_
  refine gv dnc_1 ?_
  refine va_alen (v := nI m) hx hb hK hP 1 0 rfl rfl rfl dnc_4 ?_
  refine lv_istore_n hx hb dnc_5 rfl hl (by decide) rfl (fun ls hl => ?_)
  have hl : lv_has ls 6 [(2, .int (nI m)), (0, .ref b), (1, .int (nI q))] := hl
  refine lv_iload_n hx hb dnc_6 rfl (lv_at hl 2 rfl) ?_
  refine lv_aload_n hx hb dnc_7 rfl (lv_at hl 1 rfl) ?_
  refine gc dnc_8 ?_
  refine lv_ishl hx hb dnc_11 ?_
  rw [sb_shl0]
  refine lv_istore_n hx hb dnc_12 rfl hl (by decide) rfl (fun ls hl => ?_)
  have hl : lv_has ls 6 [(3, .int (nI q)), (2, .int (nI m)), (0, .ref b), (1, .int (nI q))] := hl
  refine lv_iload_n hx hb dnc_13 rfl (lv_at hl 0 rfl) ?_
  refine lv_iload_n hx hb dnc_14 rfl (lv_at hl 1 rfl) ?_
  refine lv_isub hx hb dnc_15 ?_
  rw [pk_sub (Nat.le_of_lt hmq)]
  refine lv_istore hx hb dnc_16 hl (by decide) rfl (fun ls hl => ?_)
  have hl : lv_has ls 6 [(4, .int (nI (q - m))), (3, .int (nI q)), (2, .int (nI m)), (0, .ref b), (1, .int (nI q))] := hl
  refine lv_iload_n hx hb dnc_18 rfl (lv_at hl 2 rfl) ?_
  refine lv_iload hx hb dnc_19 (lv_at hl 0 rfl) ?_
  refine lv_iload_n hx hb dnc_21 rfl (lv_at hl 2 rfl) ?_
  refine lv_iconst (v := 2) hx hb dnc_22 (by decide) ?_
  refine lv_aload_n hx hb dnc_23 rfl (lv_at hl 3 rfl) ?_
  refine gc dnc_24 ?_
  refine lv_ishl hx hb dnc_27 ?_
  rw [sb_shl0]
  refine lv_iadd hx hb dnc_28 ?_
  rw [show (2 : Int32) = nI 2 from rfl, nI_add]
  refine va_calli (va_runS (own := RJ5) (ret := some .int) (bytes := cJ8_newLength_cabcc) (maxL := 4) (n := 3) (As := [.int (nI m), .int (nI (q - m)), .int (nI (m + 2))]) (rest := []) ⟨hx, hb, hml, hown, hts⟩ (c_nl l s.heap m (q - m) (m + 2) (by omega) (by omega) (by omega) (by omega)) ⟨⟨rfl, rfl, Nat.le_of_ble_eq_true rfl, Nat.le_of_ble_eq_true rfl, py_ hts kt_6_233, List.mem_cons_self, hts _ kt_6_233, hts _ kt_1_29, ⟨by decide, by decide⟩, pl_ (by decide +kernel), hts _ kt_6_231⟩, hts _ kt_6_232⟩ ⟨fun a U g mk q => q, fun U hU hW => ⟨rfl, hU⟩⟩ rfl rfl hl.1 rfl (lv_room (Nat.le_of_ble_eq_true rfl)) dnc_29 ⟨Nat.zero_le _, Nat.zero_le _⟩) hS (fun q _ h => h.elim) (fun q h => h.elim) (fun r u t H1 locs1 ht hvm hw hB hz hk hS1 => ?_)
  have e1 : H1 = s.heap := ht.symm.trans hB
  subst e1
  have hw : r = nI (m + max (q - m) (m + 2)) := hw
  rw [cap_e hmq] at hw
  subst hw
  have hcap : sb_cap q m ≤ 100000 := by
    rw [← cap_e hmq]
    omega
  have hcap0 : 0 < sb_cap q m := by
    rw [← cap_e hmq]
    omega
  generalize sb_cap q m = z at hcap hcap0 ⊢
  have gc2 : ∀ {pc : Nat} {ls : Array Slot} {rest : List Value} {Q : State → Prop}, decode cJ5_newCapacity_0f7a4 pc = .ok (.getfield 22, 3) → W p l e ({ frames := 2, cells := 0, slots := 0, locals := 45 } : Room) s m9 #[.ref b, .int (nI q)] below meth c s.heap locs1 0 0 Q (F0 m9 (pc + 3) ls (.int 0 :: rest)) → W p l e ({ frames := 2, cells := 0, slots := 0, locals := 45 } : Room) s m9 #[.ref b, .int (nI q)] below meth c s.heap locs1 0 0 Q (F0 m9 pc ls (.ref b :: rest)) := fun hd k => va_get (D := D) (ci := 1) (v := .int 0) (own := RJ5) (ref := RJ5) (C := RJ4) (T := TJ4) (N := 4) hx hb hts fw_1 hown hK hP 0 rfl rfl 1 (by decide) (hts _ kt_1_60) (fun _ h9 => h9) rfl hd k
  refine lv_istore hx hb dnc_32 hl (by decide) rfl (fun ls hl => ?_)
  have hl : lv_has ls 6 [(5, .int (nI z)), (4, .int (nI (q - m))), (3, .int (nI q)), (2, .int (nI m)), (0, .ref b), (1, .int (nI q))] := hl
  refine lv_iload hx hb dnc_34 (lv_at hl 0 rfl) ?_
  refine lv_ldc (own := RJ5) (v := 2147483647) hx hb hown (hts _ kt_6_239) dnc_36 ?_
  refine lv_icmp_ne (tgt := 51) hx hb dnc_38 (by decide) (fun _ => ?_) (fun h => absurd ((nI_eq (b := 2147483647) (by omega) (by decide)).mp h) (by omega))
  refine lv_iload hx hb dnc_51 (lv_at hl 0 rfl) ?_
  refine lv_aload_n hx hb dnc_53 rfl (lv_at hl 4 rfl) ?_
  refine gc2 dnc_54 ?_
  refine lv_ishr hx hb dnc_57 ?_
  rw [sb_shr0]
  exact W.iret (v := nI z) hx hb hr (fun t ht hW => ⟨⟨nI z, (), rfl, rfl, ht.trans h3⟩, hS1.F ht⟩) hS1.2.2 dnc_58
end YN
