/-! by hand: Arrays.copyOf of bytes -/
section YC
theorem dcp_0 : decode cJ7_copyOf_9075b 0 = .ok (.iload_n 1, 1) := by decide +kernel
theorem dcp_1 : decode cJ7_copyOf_9075b 1 = .ok (.aload_n 0, 1) := by decide +kernel
theorem dcp_2 : decode cJ7_copyOf_9075b 2 = .ok (.arraylength, 1) := by decide +kernel
theorem dcp_3 : decode cJ7_copyOf_9075b 3 = .ok (.if_icmp .ne 11, 3) := by decide +kernel
theorem dcp_14 : decode cJ7_copyOf_9075b 14 = .ok (.iload_n 1, 1) := by decide +kernel
theorem dcp_15 : decode cJ7_copyOf_9075b 15 = .ok (.newarray .byte, 2) := by decide +kernel
theorem dcp_17 : decode cJ7_copyOf_9075b 17 = .ok (.astore_n 2, 1) := by decide +kernel
theorem dcp_18 : decode cJ7_copyOf_9075b 18 = .ok (.aload_n 0, 1) := by decide +kernel
theorem dcp_19 : decode cJ7_copyOf_9075b 19 = .ok (.iconst 0, 1) := by decide +kernel
theorem dcp_20 : decode cJ7_copyOf_9075b 20 = .ok (.aload_n 2, 1) := by decide +kernel
theorem dcp_21 : decode cJ7_copyOf_9075b 21 = .ok (.iconst 0, 1) := by decide +kernel
theorem dcp_22 : decode cJ7_copyOf_9075b 22 = .ok (.aload_n 0, 1) := by decide +kernel
theorem dcp_23 : decode cJ7_copyOf_9075b 23 = .ok (.arraylength, 1) := by decide +kernel
theorem dcp_24 : decode cJ7_copyOf_9075b 24 = .ok (.iload_n 1, 1) := by decide +kernel
theorem dcp_25 : decode cJ7_copyOf_9075b 25 = .ok (.invokestatic 304, 3) := by decide +kernel
theorem dcp_28 : decode cJ7_copyOf_9075b 28 = .ok (.invokestatic 150, 3) := by decide +kernel
theorem dcp_31 : decode cJ7_copyOf_9075b 31 = .ok (.aload_n 2, 1) := by decide +kernel
theorem dcp_32 : decode cJ7_copyOf_9075b 32 = .ok (.areturn, 1) := by decide +kernel
theorem vD1 {A : Nat → Prop} {e : Nat × va_E} (h : A e.1) : va_D A [e] := ⟨fun i j p q hp hq _ => by
  have h1 := (List.getElem?_eq_some_iff.mp hp).1
  have h2 := (List.getElem?_eq_some_iff.mp hq).1
  have h1 : i < 1 := h1
  have h2 : j < 1 := h2
  omega, fun k q hk => by
  match k, hk with
  | 0, hk => cases hk; exact h
  | k + 1, hk => cases hk⟩
theorem c_cp (l : Launch) (D : va_G) (sz a : Nat) (cB : ClassId) (m n : Nat) (x : Nat → Int32) (hm : m ≤ 30000) (hn : n ≤ 100000) (hmn : m < n) (hx8 : ∀ j, j < m → (x j).toInt8.toInt32 = x j) : Met l yJ7_copyOf_9075b (Cond.code yJ7_copyOf_9075b cJ7_copyOf_9075b 3 (some (.array .byte)) :: sg_T) ({ frames := 1, cells := 1, slots := n, locals := 100 }) (va_Pc [.ref a, .int (nI n)] (fun U => U.heap.size = sz ∧ va_K D vwCl [(cB, .byte)] U ∧ va_P D vwCl [(a, .inl (cB, m, .inl x))] U.heap)) (va_Qr (fun (_ : Unit) => True) (fun _ ra t => va_P D vwCl [(ra, .inl (cB, n, .inl (fun j => if m ≤ j then 0 else x j)))] t.heap ∧ sz ≤ ra) (va_A [(a, .inl (cB, m, .inl x))] sz)) 1 n (va_A [(a, .inl (cB, m, .inl x))] sz) := by
  refine Met.ofW (cc := cJ7_copyOf_9075b) (maxL := 3) (ret := some (.array .byte)) (by decide) rfl ?_
  intro p e s m9 args below meth c s₁ B hml hv9
  obtain ⟨rfl, hsz, hK, hP⟩ := hv9
  have hx := B.exec
  have hb := B.bytes
  have hr := B.returns
  have hlocks := B.notSynchronized
  have hts0 := atoms_spec (ws := Cond.code yJ7_copyOf_9075b cJ7_copyOf_9075b 3 (some (.array .byte)) :: sg_T) B.pre
  have hts : ∀ w ∈ sg_T, w.before #[.ref a, .int (nI n)] s = true := fun w hw => hts0 w (List.mem_cons_of_mem _ hw)
  have hown : s.vm.findClass RJ7 = some m9.cls := findClass_of_methodNamed B.named
  subst hsz
  have hl := lv_entry ([.ref a, .int (nI n)]) (n := 3) (Nat.le_of_ble_eq_true rfl)
  rw [lg_entry_eq]
  generalize (lg_sl ([.ref a, .int (nI n)]) ++ List.replicate (3 - (lg_sl ([.ref a, .int (nI n)])).length) Slot.unset).toArray = ls at hl ⊢
  have hl : lv_has ls 3 [(0, .ref a), (1, .int (nI n))] := hl
  have hS : va_S (va_A [(a, .inl (cB, m, .inl x))] s.heap.size) s.heap s.heap [] := va_S.rf
  have hA : ∀ q : Nat, s.heap.size ≤ q → va_A [(a, .inl (cB, m, .inl x))] s.heap.size q := fun q h => Or.inr h
  have hD : va_D (va_A [(a, .inl (cB, m, .inl x))] s.heap.size) [(a, .inl (cB, m, .inl x))] := vD1 (Or.inl ⟨0, _, rfl⟩)
  have hP : va_P D vwCl [(a, .inl (cB, m, .inl x))] s.heap := hP
  refine lv_iload_n hx hb dcp_0 rfl (lv_at hl 1 rfl) ?_
  refine lv_aload_n hx hb dcp_1 rfl (lv_at hl 0 rfl) ?_
  refine va_alen (v := nI m) hx hb hK hP 0 0 rfl rfl rfl dcp_2 ?_
  refine lv_icmp_ne (tgt := 14) hx hb dcp_3 (by decide) (fun _ => ?_) (fun h => absurd ((nI_eq (by omega) (by omega)).mp h) (by omega))
  refine lv_iload_n hx hb dcp_14 rfl (lv_at hl 1 rfl) ?_
  refine va_newa (atype := .byte) (ty := .byte) (N' := n) (a0 := (n, .inl (fun _ => 0))) hx hb (hts _ kt_1_74) rfl hK hP hD hS hA (fun _ => rfl) (nI_pos (by omega)) (nI_clamp (by omega)) (by show n * 1 ≤ 536870912; omega) (Nat.le_refl _) (by show 0 + n ≤ n; omega) dcp_15 (fun q cA H1 hK1 hP1 hD1 hS1 => ?_)
  have hcc : cA = cB := by
    have e0 := (hK1.2 0 _ rfl).2
    have e1 := (hK1.2 1 _ rfl).2
    exact Option.some.inj (e1.symm.trans e0)
  subst hcc
  have hqa : q ≠ a := fun e => absurd (hD1.1 1 0 _ _ rfl rfl e) (by decide)
  have hqs : s.heap.size ≤ q := by
    rcases hD1.2 1 _ rfl with ⟨k, e9, hk⟩ | h
    · match k, hk with
      | 0, hk => cases hk; exact absurd rfl hqa
      | k + 1, hk => cases hk
    · exact h
  refine lv_astore_n hx hb dcp_17 rfl hl (by decide) rfl (fun ls hl => ?_)
  have hl : lv_has ls 3 [(2, .ref q), (0, .ref a), (1, .int (nI n))] := hl
  refine lv_aload_n hx hb dcp_18 rfl (lv_at hl 1 rfl) ?_
  refine lv_iconst (v := 0) hx hb dcp_19 (by decide) ?_
  refine lv_aload_n hx hb dcp_20 rfl (lv_at hl 0 rfl) ?_
  refine lv_iconst (v := 0) hx hb dcp_21 (by decide) ?_
  refine lv_aload_n hx hb dcp_22 rfl (lv_at hl 1 rfl) ?_
  refine va_alen (v := nI m) hx hb hK1 hP1 0 0 rfl rfl rfl dcp_23 ?_
  refine lv_iload_n hx hb dcp_24 rfl (lv_at hl 2 rfl) ?_
  refine va_mmin (own := RJ7) hx hb (hml.trans hl.1.symm) hown (hts _ kt_7_10) (hts _ kt_4_136) (hts _ kt_1_24) (hts _ kt_4_137) (Nat.le_of_ble_eq_true rfl) (Nat.le_of_ble_eq_true rfl) (Nat.le_refl _) (by show 0 + n ≤ n; omega) dcp_25 ?_
  rw [mn_2 m n (by omega) (by omega), Nat.min_eq_left (Nat.le_of_lt hmn)]
  refine va_copyi (own := RJ7) (ty := .byte) hx hb (hml.trans hl.1.symm) hown (hts _ kt_7_11) (hts _ kt_5_15) (hts _ kt_5_14) (hts _ kt_1_26) hK1 hP1 hD1 hS1 0 1 0 1 rfl rfl rfl rfl rfl (by decide) (by decide) (nI_pos (by omega)) (by rw [nI_clamp (by omega), sb_cl0]; omega) (by rw [nI_clamp (by omega), sb_cl0]; omega) (fun i hi => by
    rw [nI_clamp (by omega)] at hi
    rw [sb_cl0, Nat.zero_add, ← hx8 i hi]
    exact pk_fb _) (Nat.le_of_ble_eq_true rfl) (by show nativeFrameWords "java/lang/System" "arraycopy" 5 + 11 ≤ 100; decide) dcp_28 (fun H2 locs2 hP2 hD2 hS2 => ?_)
  refine lv_aload_n hx hb dcp_31 rfl (lv_at hl 0 rfl) ?_
  refine W.widen (k := 1) (n := n) (Nat.le_refl _) (by show 0 + n ≤ n; omega) ?_
  refine W.aret (v := .ref q) hx hb hr (Or.inr ⟨_, rfl⟩) (Or.inr ⟨_, rfl⟩) (fun t ht hW => ⟨⟨(), q, rfl, trivial, ?_, hqs⟩, hS2.F ht⟩) hS2.2.2 dcp_32
  have hP3 := hP2.sub [1] rfl
  have ef : va_cpy x (fun _ => 0) (0 : Int32).toNatClampNeg (0 : Int32).toNatClampNeg (nI m).toNatClampNeg = (fun j => if m ≤ j then 0 else x j) := by
    funext j
    rw [sb_cl0, nI_clamp (by omega)]
    unfold va_cpy
    by_cases c : m ≤ j
    · rw [if_neg (by omega), if_pos c]
    · rw [if_pos (by omega), if_neg c, Nat.zero_add, Nat.sub_zero]
  rw [ef] at hP3
  rw [ht]
  exact hP3
end YC
