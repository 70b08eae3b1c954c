/-! what is known at the law's entry, put together (laid by wip/p67/kn9gen.py) -/
theorem tq_64 : Cond.stringRef RX9 64 "the buffer does not hold so many bytes" ∈ lw_tbl ∧ Cond.exactly (.string RX9 64) "java/lang/String" ∈ am_nl := ⟨lw_in2 210 rfl, am_nli 528 (by decide +kernel)⟩
theorem tq_75 : Cond.stringRef RX9 75 "the setup is invalid" ∈ lw_tbl ∧ Cond.exactly (.string RX9 75) "java/lang/String" ∈ am_nl := ⟨lw_in4 201 rfl, am_nli 570 (by decide +kernel)⟩
theorem tq_275 : Cond.stringRef RX9 275 "minutes must be 1 to 300" ∈ lw_tbl ∧ Cond.exactly (.string RX9 275) "java/lang/String" ∈ am_nl := ⟨lw_in5 134 rfl, am_nli 729 (by decide +kernel)⟩
theorem tq_283 : Cond.stringRef RX9 283 "there is a bowl or a spill on the tile" ∈ lw_tbl ∧ Cond.exactly (.string RX9 283) "java/lang/String" ∈ am_nl := ⟨lw_in5 157 rfl, am_nli 757 (by decide +kernel)⟩
theorem tq_285 : Cond.stringRef RX9 285 "there is no spill on the tile" ∈ lw_tbl ∧ Cond.exactly (.string RX9 285) "java/lang/String" ∈ am_nl := ⟨lw_in5 163 rfl, am_nli 799 (by decide +kernel)⟩
theorem tq_308 : Cond.stringRef RX9 308 "no state is saved in the slot" ∈ lw_tbl ∧ Cond.exactly (.string RX9 308) "java/lang/String" ∈ am_nl := ⟨lw_in5 195 rfl, am_nli 857 (by decide +kernel)⟩
theorem tq_313 : Cond.stringRef RX9 313 "no setup has been loaded" ∈ lw_tbl ∧ Cond.exactly (.string RX9 313) "java/lang/String" ∈ am_nl := ⟨lw_in5 20 rfl, am_nli 594 (by decide +kernel)⟩
theorem tq_315 : Cond.stringRef RX9 315 "there is no such tile" ∈ lw_tbl ∧ Cond.exactly (.string RX9 315) "java/lang/String" ∈ am_nl := ⟨lw_in5 31 rfl, am_nli 622 (by decide +kernel)⟩
theorem tq_317 : Cond.stringRef RX9 317 "there is no such column" ∈ lw_tbl ∧ Cond.exactly (.string RX9 317) "java/lang/String" ∈ am_nl := ⟨lw_in5 44 rfl, am_nli 647 (by decide +kernel)⟩
theorem tq_319 : Cond.stringRef RX9 319 "there is no such record" ∈ lw_tbl ∧ Cond.exactly (.string RX9 319) "java/lang/String" ∈ am_nl := ⟨lw_in8 124 rfl, am_nli 1149 (by decide +kernel)⟩
theorem tq_321 : Cond.stringRef RX9 321 "there is no such slot" ∈ lw_tbl ∧ Cond.exactly (.string RX9 321) "java/lang/String" ∈ am_nl := ⟨lw_in5 180 rfl, am_nli 832 (by decide +kernel)⟩
theorem tq_323 : Cond.stringRef RX9 323 "minutes must be 0 to 300" ∈ lw_tbl ∧ Cond.exactly (.string RX9 323) "java/lang/String" ∈ am_nl := ⟨lw_in5 94 rfl, am_nli 674 (by decide +kernel)⟩
theorem tq_325 : Cond.stringRef RX9 325 "the pace must be 1 to 5" ∈ lw_tbl ∧ Cond.exactly (.string RX9 325) "java/lang/String" ∈ am_nl := ⟨lw_in5 120 rfl, am_nli 702 (by decide +kernel)⟩
section KN8
variable {p : Program} {s : State} {m : MethodId} {meth : Method} {c : Code} {b L : Nat} {xs : Nat → Int32}
theorem tq_of {args : Array Value} {k : Nat} {text : String} (hs : ∀ w ∈ am_nl, w.before args s = true) (hts : ∀ w ∈ lw_tbl, w.before args s = true) (h : Cond.stringRef RX9 k text ∈ lw_tbl ∧ Cond.exactly (.string RX9 k) "java/lang/String" ∈ am_nl) : ∃ text sa, vk_R RX9 k text sa s := by
  obtain ⟨a, c, cA, kA, q1, -⟩ := Cond.exactly_spec (args := args) (first := s) (o := none) (s := s) (idx := []) (t := .string RX9 k) (cls := "java/lang/String") (hs _ h.2)
  exact ⟨text, a, vk_R.of (hts _ h.1) q1⟩
theorem tq_all {args : Array Value} (hs : ∀ w ∈ am_nl, w.before args s = true) (hts : ∀ w ∈ lw_tbl, w.before args s = true) : ∀ k ∈ am_tx, ∃ text sa, vk_R RX9 k text sa s := List.forall_mem_cons.mpr ⟨tq_of hs hts tq_64, List.forall_mem_cons.mpr ⟨tq_of hs hts tq_75, List.forall_mem_cons.mpr ⟨tq_of hs hts tq_275, List.forall_mem_cons.mpr ⟨tq_of hs hts tq_283, List.forall_mem_cons.mpr ⟨tq_of hs hts tq_285, List.forall_mem_cons.mpr ⟨tq_of hs hts tq_308, List.forall_mem_cons.mpr ⟨tq_of hs hts tq_313, List.forall_mem_cons.mpr ⟨tq_of hs hts tq_315, List.forall_mem_cons.mpr ⟨tq_of hs hts tq_317, List.forall_mem_cons.mpr ⟨tq_of hs hts tq_319, List.forall_mem_cons.mpr ⟨tq_of hs hts tq_321, List.forall_mem_cons.mpr ⟨tq_of hs hts tq_323, List.forall_mem_cons.mpr ⟨tq_of hs hts tq_325, (fun _ h => by cases h)⟩⟩⟩⟩⟩⟩⟩⟩⟩⟩⟩⟩⟩
theorem sel_sub {C : String} {y : MethodName} {s : State} {args : Array Value} {n : Nat} (hy : y.cls ≠ "java/lang/invoke/MethodHandle" ∧ y.cls ≠ "java/lang/invoke/VarHandle") (hins : (Cond.instantiable C n).before args s = true) (hpriv : (Cond.privateMethod y).before args s = true) (hinst : (Cond.instanceMethod y).before args s = true) (hsame : (Cond.sameMethod y.cls y.cls y.name y.desc).before args s = true) : (Cond.selects C y y).before args s = true := by
  obtain ⟨c, k, hc, hk, -, -, -, -⟩ := Cond.instantiable_spec hins
  obtain ⟨mk, methM, hnamed, hmethM, -, -⟩ := Cond.instanceMethod_spec hinst
  have hfound : s.methodFound? y.cls y.name y.desc = some mk := State.methodFound?_of_named hnamed hy
  have hcls : s.vm.findClass y.cls = some mk.cls := findClass_of_methodNamed hnamed
  have hsel : selectMethod {} s.vm c mk = .method mk := selectMethod_private hmethM (Cond.privateMethod_at hpriv mk methM hnamed hmethM)
  obtain ⟨-, k2, hk2, hni⟩ := Cond.sameMethod_spec hcls hfound hsame
  simp only [Cond.before, Cond.holds, Cond.value, hc, hfound, hnamed, hsel, hk2]
  simp; exact hni
theorem nw_of {args : Array Value} {w : Cond} (hn : am_nw w = true) (h : w.before args s = true) : va_Nw w s := by
  cases w with
  | castable => exact h
  | methodLinkNest => exact h
  | declares => exact h
  | fieldLinkNest => exact h
  | _ => exact absurd (show false = true from hn) Bool.false_ne_true
theorem cs_0 : Cond.eq (.static "java/lang/String" "COMPACT_STRINGS" "Z") (.int 1) ∈ am_nl := am_nli 2 (by decide +kernel)
theorem cs_16 : Cond.eq (.static "jdk/internal/misc/Unsafe" "ARRAY_LONG_BASE_OFFSET" "I") (.int 16) ∈ am_nl := am_nli 386 (by decide +kernel)
theorem cs_3 : Cond.eq (.static "jdk/internal/util/ArraysSupport" "LOG2_ARRAY_LONG_INDEX_SCALE" "I") (.int 3) ∈ am_nl := am_nli 387 (by decide +kernel)
theorem cs_2 : Cond.eq (.static "jdk/internal/util/ArraysSupport" "LOG2_ARRAY_INT_INDEX_SCALE" "I") (.int 2) ∈ am_nl := am_nli 392 (by decide +kernel)
theorem us_0 : Cond.isRef (.static Bundle.tN "UNASSIGNED_STACK" Bundle.steD) ∈ am_nl := am_nli 3 (by decide +kernel)
theorem us_1 : Cond.isRef (.static Bundle.tN "SUPPRESSED_SENTINEL" Bundle.listD) ∈ am_nl := am_nli 4 (by decide +kernel)
theorem us_2 : Cond.isRef (.static "jdk/internal/util/Preconditions" "SIOOBE_FORMATTER" "Ljava/util/function/BiFunction;") ∈ am_nl := am_nli 57 (by decide +kernel)
theorem fin_s {P : Fin 37 → Prop} (h : ∀ n (hn : n < 37), P ⟨n, hn⟩) (x : Fin 37) : P x := h x.1 x.2
/-- one ordinal an address -/
theorem or_1 {A : Nat → Prop} {a x y : Nat} (hx : x < 37) (hy : y < 37) (h1 : va_OF "java/lang/Enum" "ordinal" "I" (.int (nI x)) a A s s.heap) (h2 : va_OF "java/lang/Enum" "ordinal" "I" (.int (nI y)) a A s s.heap) : x = y := by
  obtain ⟨cf, k, i, f, cell, q1, -, q3, -, q5, -⟩ := h1
  obtain ⟨cf', k', i', f', cell', r1, -, r3, -, r5, -⟩ := h2
  have e := q1.symm.trans r1
  cases e
  have e := q3.symm.trans r3
  cases e
  have e := Option.some.inj (q5.symm.trans r5)
  injection e with e
  exact (nI_eq (by omega) (by omega)).mp e
theorem O_lt {E : String} {t : Nat} {A : Nat → Prop} (h : va_O E t A s s.heap) : t < s.heap.size := by
  obtain ⟨cell, h, -⟩ := h
  exact (Array.getElem?_eq_some_iff.mp h).1
theorem T_lt {ty : FieldType} {t N : Nat} {f : Nat → Value} {A : Nat → Prop} (h : va_T ty t N f A s s.heap) : t < s.heap.size := by
  obtain ⟨cell, h, -⟩ := h
  exact (Array.getElem?_eq_some_iff.mp h).1
set_option maxRecDepth 20000 in
theorem am_entryK (C0 : lw_At p s m meth c b L xs) : ∃ K : AKx, am_Kn K s s.heap ∧ K.1 = s.heap.size ∧ K.2.2.2.2.1 3004 = b ∧ K.2.2.2.2.2.1 = L ∧ K.2.2.2.2.2.2.1 = xs ∧ K.2.2.2.2.2.2.2.1 = 0 := by
  obtain ⟨dC, dI, cl, adK, adV, adS, t0, t1, t2, t3, t5, t7, hcls, hty, hst, hsg, ⟨z0, r0⟩, ⟨z1, r1⟩, ⟨z2, r2⟩, ⟨z3, r3⟩, ⟨z5, r5⟩, ⟨z7, r7⟩⟩ := am_entry0 C0
  obtain ⟨-, -, -, -, -, hts, hX, hb, -, hgv⟩ := C0
  have hs := am_nl_ok hgv
  have hA : ∀ a : Nat, a < s.heap.size → ¬ s.heap.size ≤ a := fun a h => Nat.not_le.mpr h
  refine ⟨((s.heap.size, (dC, dI), cl, fun x => adS x.val, am_adC adK adV t0 t1 t2 t3 b t5 t7, L, xs, 0, (fun _ => 0), (fun _ => 0)) : AKx), ?_, rfl, rfl, rfl, rfl, rfl⟩
  generalize hKe : ((s.heap.size, (dC, dI), cl, fun x => adS x.val, am_adC adK adV t0 t1 t2 t3 b t5 t7, L, xs, 0, (fun _ => 0), (fun _ => 0)) : AKx) = K
  have k1 : am_fr K = (fun q => s.heap.size ≤ q) := by rw [← hKe]; rfl
  have k2 : K.2.1 = (dC, dI) := by rw [← hKe]
  have k3 : K.2.2.1 = cl := by rw [← hKe]
  have k4 : ∀ x, K.2.2.2.1 x = adS x.val := fun x => by rw [← hKe]
  have k5 : ∀ i, i < 60 → K.2.2.2.2.1 (1000 + i) = adK i := fun i hi => by rw [← hKe]; exact am_adC_K hi
  have k6 : ∀ i, i < 60 → K.2.2.2.2.1 (2000 + i) = adV i := fun i hi => by rw [← hKe]; exact am_adC_V hi
  have k70 : K.2.2.2.2.1 3000 = t0 := by rw [← hKe]; rfl
  have k71 : K.2.2.2.2.1 3001 = t1 := by rw [← hKe]; rfl
  have k72 : K.2.2.2.2.1 3002 = t2 := by rw [← hKe]; rfl
  have k73 : K.2.2.2.2.1 3003 = t3 := by rw [← hKe]; rfl
  have k75 : K.2.2.2.2.1 3005 = t5 := by rw [← hKe]; rfl
  have k77 : K.2.2.2.2.1 3007 = t7 := by rw [← hKe]; rfl
  have k74 : K.2.2.2.2.1 3004 = b := by rw [← hKe]; rfl
  have k8 : K.2.2.2.2.2.1 = L := by rw [← hKe]
  have k9 : K.2.2.2.2.2.2.1 = xs := by rw [← hKe]
  have kA : ∀ n, 1000 ≤ n → n < 4000 → K.2.2.2.2.1 n < s.heap.size := fun n h1 h2 => by
    rw [← hKe]
    show am_adC adK adV t0 t1 t2 t3 b t5 t7 n < s.heap.size
    unfold am_adC
    split
    · split
      · next q => exact O_lt (hst _ q).2.1
      · exact hb
    · split
      · split
        · next q => exact T_lt (hst _ q).2.2.2.2
        · exact hb
      · split
        · exact T_lt r0
        · split
          · exact T_lt r1
          · split
            · exact T_lt r2
            · split
              · exact T_lt r3
              · split
                · exact T_lt r5
                · split
                  · exact O_lt r7
                  · exact hb
  clear hKe
  have hn : am_nstr = 60 := rfl
  unfold am_Kn
  rw [k1]
  refine ⟨⟨?_, am_tys0 ?_⟩, fun w hw h => nw_of h (hts w hw), fun x j hj => ?_, fun n hn j hj => ?_, fun x => ?_, fun n hn => ?_, fun n hn => ?_, ?_, am_T_CA k71 r1, am_T_CA k72 r2, am_T_CA k73 r3, ?_, fun n h1 h2 => hA _ (kA n h1 h2), fun x y e => ?_, fun own k v h => ?_, fun own k v h => ?_, vx_Zqof (hts _ (lw_in2 196 rfl)) (hts _ (lw_in1 26 rfl)) (hs _ us_0) hA, vx_Zqof (hts _ (lw_in2 198 rfl)) (hts _ (lw_in1 26 rfl)) (hs _ us_1) hA, tq_all hs hts, va_AO.of (hts _ (lw_in2 121 rfl)), va_AO.of (hts _ (lw_in2 63 rfl)), True.intro, va_Zqof (hts _ (lw_in3 76 rfl)) (hts _ (lw_in1 21 rfl)) (hs _ us_2) hA, List.forall_mem_cons.mpr ⟨sel_sub ⟨by decide, by decide⟩ (hts _ (lw_in1 47 rfl)) (hts _ (lw_in6 204 rfl)) (hts _ (lw_in6 205 rfl)) (hts _ (lw_in9 8 rfl)), List.forall_mem_cons.mpr ⟨sel_sub ⟨by decide, by decide⟩ (hts _ (lw_in1 47 rfl)) (hts _ (lw_in6 208 rfl)) (hts _ (lw_in6 209 rfl)) (hts _ (lw_in9 9 rfl)), List.forall_mem_cons.mpr ⟨sel_sub ⟨by decide, by decide⟩ (hts _ (lw_in1 47 rfl)) (hts _ (lw_in7 3 rfl)) (hts _ (lw_in7 4 rfl)) (hts _ (lw_in9 10 rfl)), List.forall_mem_cons.mpr ⟨sel_sub ⟨by decide, by decide⟩ (hts _ (lw_in1 47 rfl)) (hts _ (lw_in7 7 rfl)) (hts _ (lw_in7 8 rfl)) (hts _ (lw_in9 11 rfl)), (fun _ h => by cases h)⟩⟩⟩⟩, am_T_CA k75 r5, by rw [k77]; exact r7, va_Fw.of (hts _ (lw_in8 13 rfl)) (hts _ (lw_in8 12 rfl)) (hts _ (lw_in8 17 rfl)) (hts _ (lw_in8 16 rfl)) (hts _ (lw_in8 14 rfl)), va_Fw.of (hts _ (lw_in8 25 rfl)) (hts _ (lw_in8 24 rfl)) (hts _ (lw_in8 28 rfl)) (hts _ (lw_in8 27 rfl)) (hts _ (lw_in8 14 rfl)), va_AO.of (hts _ (lw_in6 165 rfl))⟩
  · rw [k2]; exact hcls
  · rw [k3]; exact hty
  · obtain ⟨-, -, o1, o2, o3, o4⟩ := hsg x.val x.isLt
    rw [k5 x.val (by omega), k4]
    match j, hj with
    | 0, _ => exact o4
    | 1, _ => exact o2
    | 2, _ => exact o3
    | 3, _ => exact o1
  · rw [k5 n hn, k6 n hn]
    obtain ⟨-, -, o1, o2, -⟩ := hst n hn
    match j, hj with
    | 0, _ => exact o2
    | 1, _ => exact o1
  · rw [k4]; exact (hsg x.val x.isLt).2.1
  · rw [k5 n hn]; exact (hst n hn).2.1
  · exact am_T_CA (k6 n hn) (hst n hn).2.2.2.2
  · obtain ⟨cell, h1, h2, h3, h4, h5, h6, -⟩ := r0
    refine ⟨cell, by rw [k70]; exact h1, h2, h3, ⟨h4, h5⟩, fun j hj => ?_⟩
    rw [h6 j hj]
    show some (Value.ref (adS j)) = some (Value.ref (K.2.2.2.1 (Fin.ofNat 37 j)))
    rw [k4]
    exact congrArg (fun z => some (Value.ref (adS z))) (Nat.mod_eq_of_lt hj).symm
  · obtain ⟨scr, h1, h2, h3, h4, h5⟩ := hX
    rw [k8, k9]
    exact ⟨scr, by rw [k74]; exact h1, h2, h3, ⟨Nat.le_of_eq h4.symm, congrArg Nat.toInt32 h4⟩, h5⟩
  · rw [k4, k4] at e
    refine Fin.ext (or_1 x.isLt y.isLt (hsg x.val x.isLt).2.2.1 ?_)
    rw [e]
    exact (hsg y.val y.isLt).2.2.1
  · rcases so_all own k v h with ⟨x, rfl, hf⟩ | ⟨rfl, hf⟩ | ⟨rfl, hf⟩ | ⟨rfl, hf⟩ | ⟨rfl, hf⟩ | ⟨rfl, hf⟩ | ⟨rfl, hf⟩ | ⟨rfl, hf⟩ | ⟨rfl, hf⟩ | ⟨rfl, hf⟩ | ⟨rfl, hf⟩
    · refine ⟨rfl, _, _, _, fun va => ?_, hf⟩
      show va_Z _ _ _ (.ref (K.2.2.2.1 x)) _ s s.heap
      rw [k4]; exact (hsg x.val x.isLt).1
    · refine ⟨rfl, _, _, _, fun va => ?_, hf⟩
      show va_Z _ _ _ (.ref (K.2.2.2.2.1 3000)) _ s s.heap
      rw [k70]; exact z0
    · refine ⟨rfl, _, _, _, fun va => ?_, hf⟩
      show va_Z _ _ _ (.ref (K.2.2.2.2.1 3001)) _ s s.heap
      rw [k71]; exact z1
    · refine ⟨rfl, _, _, _, fun va => ?_, hf⟩
      show va_Z _ _ _ (.ref (K.2.2.2.2.1 3002)) _ s s.heap
      rw [k72]; exact z2
    · refine ⟨rfl, _, _, _, fun va => ?_, hf⟩
      show va_Z _ _ _ (.ref (K.2.2.2.2.1 3003)) _ s s.heap
      rw [k73]; exact z3
    · refine ⟨rfl, _, _, _, fun va => ?_, hf⟩
      show va_Z _ _ _ (.ref (K.2.2.2.2.1 3005)) _ s s.heap
      rw [k75]; exact z5
    · refine ⟨rfl, _, _, _, fun va => ?_, hf⟩
      show va_Z _ _ _ (.ref (K.2.2.2.2.1 3007)) _ s s.heap
      rw [k77]; exact z7
    · exact ⟨rfl, _, _, _, fun va => va_Zof (hts _ (lw_in1 56 rfl)) (hts _ (lw_in1 4 rfl)) (va_eqt (hs _ cs_0)) hA, hf⟩
    · exact ⟨rfl, _, _, _, fun va => va_Zof (hts _ (lw_in8 147 rfl)) (hts _ (lw_in1 35 rfl)) (va_eqt (hs _ cs_16)) hA, hf⟩
    · exact ⟨rfl, _, _, _, fun va => va_Zof (hts _ (lw_in8 225 rfl)) (hts _ (lw_in1 17 rfl)) (va_eqt (hs _ cs_2)) hA, hf⟩
    · exact ⟨rfl, _, _, _, fun va => va_Zof (hts _ (lw_in8 149 rfl)) (hts _ (lw_in1 17 rfl)) (va_eqt (hs _ cs_3)) hA, hf⟩
  · rcases cq_all own k v h with ⟨x, rfl, hf⟩ | ⟨i, text, rfl, hi, e, hf⟩
    · exact Or.inl ⟨x, rfl, hf⟩
    · refine Or.inr ⟨1000 + i, text, rfl, Nat.le_add_right _ _, ?_⟩
      rw [k5 i hi]
      have q := (hst i hi).1
      unfold am_tm at q
      rw [e] at q
      exact vk_R.of (hts _ hf) q
end KN8
