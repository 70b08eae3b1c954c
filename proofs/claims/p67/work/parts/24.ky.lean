/-! the two calls by hand: String.checkIndex -/
section YA
theorem dpre_0 : decode cJ3_checkIndex_8e157 0 = .ok (.iload_n 0, 1) := by decide +kernel
theorem dpre_1 : decode cJ3_checkIndex_8e157 1 = .ok (.ifCond .lt 8, 3) := by decide +kernel
theorem dpre_4 : decode cJ3_checkIndex_8e157 4 = .ok (.iload_n 0, 1) := by decide +kernel
theorem dpre_5 : decode cJ3_checkIndex_8e157 5 = .ok (.iload_n 1, 1) := by decide +kernel
theorem dpre_6 : decode cJ3_checkIndex_8e157 6 = .ok (.if_icmp .lt 10, 3) := by decide +kernel
theorem dpre_16 : decode cJ3_checkIndex_8e157 16 = .ok (.iload_n 0, 1) := by decide +kernel
theorem dpre_17 : decode cJ3_checkIndex_8e157 17 = .ok (.ireturn, 1) := by decide +kernel
theorem dchk_0 : decode cJ0_checkIndex_df160 0 = .ok (.iload_n 0, 1) := by decide +kernel
theorem dchk_1 : decode cJ0_checkIndex_df160 1 = .ok (.iload_n 1, 1) := by decide +kernel
theorem dchk_2 : decode cJ0_checkIndex_df160 2 = .ok (.getstatic 1053, 3) := by decide +kernel
theorem dchk_5 : decode cJ0_checkIndex_df160 5 = .ok (.invokestatic 1059, 3) := by decide +kernel
theorem dchk_8 : decode cJ0_checkIndex_df160 8 = .ok (.pop, 1) := by decide +kernel
theorem dchk_9 : decode cJ0_checkIndex_df160 9 = .ok (.return_, 1) := by decide +kernel
/-- the words that a callee asks for, paid -/
theorem py_ {s : State} {args : Array Value} (hts : ∀ w ∈ sg_T, w.before args s = true) {w0 : Cond} (h0 : w0 ∈ sg_T) : ∀ w ∈ w0 :: sg_T, ∀ (a' : Array Value) (U : State), s.WarmedH U.vm → w.before a' U = true := pay_in hts fun w hw => by
  rcases List.mem_cons.mp hw with rfl | hw
  · exact am_good _ h0
  · exact am_good _ hw
theorem pl_ {ds : String} {n : Nat} (h : (parseMethodDescriptor ds).map (fun d => d.parameters.length) = some n) : ∀ sig, parseMethodDescriptor ds = some sig → n = sig.parameters.length := fun sig hs => by
  rw [hs] at h
  exact (Option.some.inj h).symm
theorem c_pre (l : Launch) (Hp : Heap) (i n : Int32) (v : Value) (hv : v = .null ∨ ∃ t, v = .ref t) : Met l yJ3_checkIndex_8e157 (Cond.code yJ3_checkIndex_8e157 cJ3_checkIndex_8e157 3 (some .int) :: sg_T) ({ frames := 0, cells := 0, slots := 0, locals := 0 }) (va_Pc [.int i, .int n, v] (fun U => 0 ≤ i ∧ i < n ∧ U.heap = Hp)) (va_Qi (fun r (_ : Unit) => r = i) (fun _ t => t.heap = Hp) (fun _ => False)) 0 0 (fun _ => False) := by
  refine Met.ofW (cc := cJ3_checkIndex_8e157) (maxL := 3) (ret := some .int) (by decide) rfl ?_
  intro p e s m args below meth c s₁ B hml hv9
  obtain ⟨rfl, h1, h2, h3⟩ := hv9
  have hx := B.exec
  have hb := B.bytes
  have hr := B.returns
  have hlocks := B.notSynchronized
  have hl := lv_entry ([.int i, .int n, v]) (n := 3) (by rcases hv with rfl | ⟨t, rfl⟩ <;> exact Nat.le_of_ble_eq_true rfl)
  rw [lg_entry_eq]
  generalize (lg_sl ([.int i, .int n, v]) ++ List.replicate (3 - (lg_sl ([.int i, .int n, v])).length) Slot.unset).toArray = ls at hl ⊢
  have hl : lv_has ls 3 [(0, .int i), (1, .int n), (2, v)] := by
    rcases hv with rfl | ⟨t, rfl⟩ <;> exact hl
  have hS : va_S (fun _ => False) s.heap s.heap [] := va_S.rf
  refine lv_iload_n hx hb dpre_0 rfl (lv_at hl 0 rfl) ?_
  refine lv_if_lt (tgt := 9) hx hb dpre_1 (by decide) (fun h => absurd h (Int32.not_lt.mpr h1)) (fun _ => ?_)
  refine lv_iload_n hx hb dpre_4 rfl (lv_at hl 0 rfl) ?_
  refine lv_iload_n hx hb dpre_5 rfl (lv_at hl 1 rfl) ?_
  refine lv_icmp_lt (tgt := 16) hx hb dpre_6 (by decide) (fun _ => ?_) (fun h => absurd h2 h)
  refine lv_iload_n hx hb dpre_16 rfl (lv_at hl 0 rfl) ?_
  exact W.iret (v := i) hx hb hr (fun t ht hW => ⟨⟨i, (), rfl, rfl, ht.trans h3⟩, hS.F ht⟩) hS.2.2 dpre_17
theorem c_chk (l : Launch) (Hp : Heap) (i n : Int32) : Met l yJ0_checkIndex_df160 (Cond.code yJ0_checkIndex_df160 cJ0_checkIndex_df160 2 none :: sg_T) ({ frames := 1, cells := 0, slots := 0, locals := 22 }) (va_Pc [.int i, .int n] (fun U => 0 ≤ i ∧ i < n ∧ U.heap = Hp ∧ va_Zq "jdk/internal/util/Preconditions" "SIOOBE_FORMATTER" "Ljava/util/function/BiFunction;" (fun _ => False) U U.heap)) (va_Qv (fun (_ : Unit) => True) (fun _ t => t.heap = Hp) (fun _ => False)) 0 0 (fun _ => False) := by
  refine Met.ofW (cc := cJ0_checkIndex_df160) (maxL := 2) (ret := none) (by decide) rfl ?_
  intro p e s m args below meth c s₁ B hml hv9
  obtain ⟨rfl, h1, h2, h3, h4⟩ := hv9
  have hx := B.exec
  have hb := B.bytes
  have hr := B.returns
  have hlocks := B.notSynchronized
  have hts0 := atoms_spec (ws := Cond.code yJ0_checkIndex_df160 cJ0_checkIndex_df160 2 none :: sg_T) B.pre
  have hts : ∀ w ∈ sg_T, w.before #[.int i, .int n] s = true := fun w hw => hts0 w (List.mem_cons_of_mem _ hw)
  have hown : s.vm.findClass RJ0 = some m.cls := findClass_of_methodNamed B.named
  have hl := lv_entry ([.int i, .int n]) (n := 2) (Nat.le_of_ble_eq_true rfl)
  rw [lg_entry_eq]
  generalize (lg_sl ([.int i, .int n]) ++ List.replicate (2 - (lg_sl ([.int i, .int n])).length) Slot.unset).toArray = ls at hl ⊢
  have hl : lv_has ls 2 [(0, .int i), (1, .int n)] := hl
  have hS : va_S (fun _ => False) s.heap s.heap [] := va_S.rf
  refine lv_iload_n hx hb dchk_0 rfl (lv_at hl 0 rfl) ?_
  refine lv_iload_n hx hb dchk_1 rfl (lv_at hl 1 rfl) ?_
  have key : ∀ v, (v = .null ∨ ∃ t, v = .ref t) → va_Z "jdk/internal/util/Preconditions" "SIOOBE_FORMATTER" "Ljava/util/function/BiFunction;" v (fun _ => False) s s.heap → W p l e ({ frames := 1, cells := 0, slots := 0, locals := 22 } : Room) s m #[.int i, .int n] below meth c s.heap [] 0 0 (MQ below (va_Qv (fun (_ : Unit) => True) (fun _ t => t.heap = Hp) (fun _ => False)) #[.int i, .int n] s 0 0 (fun _ => False)) (F0 m 2 ls [.int n, .int i]) := by
    intro v hv hZ
    refine va_gets (own := RJ0) (ref := "jdk/internal/util/Preconditions") hx hb hZ hS hown (hts _ kt_3_75) (fun _ h9 => h9) dchk_2 ?_
    refine va_calli (va_runS (own := RJ0) (ret := some .int) (bytes := cJ3_checkIndex_8e157) (maxL := 3) (n := 3) (As := [.int i, .int n, v]) (rest := []) ⟨hx, hb, hml, hown, hts⟩ (c_pre l s.heap i n v hv) ⟨⟨rfl, rfl, Nat.le_of_ble_eq_true rfl, Nat.le_of_ble_eq_true rfl, py_ hts kt_3_79, List.mem_cons_self, hts _ kt_3_79, hts _ kt_1_21, ⟨by decide, by decide⟩, pl_ (by decide +kernel), hts _ kt_3_77⟩, hts _ kt_3_78⟩ ⟨fun a U g mk q => q, fun U hU hW => ⟨rfl, h1, h2, hU⟩⟩ rfl rfl hl.1 rfl (lv_room (Nat.le_of_ble_eq_true rfl)) dchk_5 ⟨Nat.zero_le _, Nat.zero_le _⟩) hS (fun q _ h => h.elim) (fun q h => h.elim) (fun r u t H1 locs1 ht hvm hw hB hz hk hS1 => ?_)
    have e1 : H1 = s.heap := ht.symm.trans hB
    subst e1
    refine lv_pop hx hb dchk_8 rfl ?_
    exact W.vret hx hb hr (fun t ht hW => ⟨⟨(), rfl, trivial, ht.trans h3⟩, hS1.F ht⟩) hS1.2.2 dchk_9
  rcases h4 with hZ | ⟨t, hZ⟩
  · exact key _ (Or.inl rfl) hZ
  · exact key _ (Or.inr ⟨t, rfl⟩) hZ
end YA
section YB
variable {K : AKx} {p : Program} {l : Launch} {e : Env} {R : Room} {s : State} {m : MethodId} {args : Array Value} {below : List Frame} {meth : Method} {c : Code} {bytes : ByteArray} {mr : MR} {o : AO} {h1 : AH} {ih : AK} {pc len tgt d : Nat} {r : List CI} {ls : AL} {st : List AV} {h : AH}
theorem am_two {v0 v1 : AV} {f : Int32 → Int32 → AR} {x : AO × AH} (h : (match [v0, v1] with | [Sum.inl (Value.int i), Sum.inl (Value.int n)] => f i n | _ => none) = some x) : ∃ i n, v0 = vi i ∧ v1 = vi n ∧ f i n = some x := by
  split at h
  · next heq =>
    cases heq
    exact ⟨_, _, rfl, rfl, h⟩
  · cases h
theorem Kn_zq (h : am_Kn K s s.heap) : va_Zq "jdk/internal/util/Preconditions" "SIOOBE_FORMATTER" "Ljava/util/function/BiFunction;" (am_fr K) s s.heap := h.2.2.2.2.2.2.2.2.2.2.2.2.2.2.2.2.2.2.2.2.2.2.1
theorem am_k11 {k : Nat} {q : Nat × Nat × Nat × MR} (hC : am_Cx K p s m args c bytes mr) (hfr : d ≤ R.frames ∧ 41 * d ≤ R.locals) (hq : q.1 = 11 ∧ q.2.1 = 2) (hw : Cond.methodLink (am_cn mr.1) k yJ0_checkIndex_df160 ∈ sg_T) (hdec : decode bytes pc = .ok (.invokestatic k, 3)) (nx : am_Nx K p l e R s m args below meth c mr o h1 (pc + 3) d ih r) (hg : am_gk ih) (hrun : am_call ih mr pc r ls st h d q = some (o, h1)) : am_G K p l e R s m args below meth c mr o h1 pc ls st h := by
  intro va H locs cells slots lsr hR hS hc hs hL hO
  obtain ⟨hx, hb, hml, hown, hts, hKn⟩ := hC
  unfold am_call at hrun
  dsimp only at hrun
  rw [hq.1, hq.2] at hrun
  have hn : (bif am_stk 11 || Nat.beq 11 10 || Nat.beq 11 11 then 2 else 2 + 1) = 2 := rfl
  rw [hn] at hrun
  rcases st with _ | ⟨v1, _ | ⟨v0, t⟩⟩
  · cases hrun
  · cases hrun
  · have hrun : (bif !(Nat.ble (am_sum t) 8) then none else (match (generalizing := false) [v0, v1] with | [Sum.inl (Value.int i), Sum.inl (Value.int n)] => (if 0 ≤ i ∧ i < n ∧ 3 ≤ d then ih mr r ls t h d else none) | _ => none)) = some (o, h1) := hrun
    cases g2 : Nat.ble (am_sum t) 8 with
    | false => rw [g2] at hrun; cases hrun
    | true =>
      rw [g2] at hrun
      have hsum := am_sum_cat (K := K) (va := va) g2
      have hrun : (match (generalizing := false) [v0, v1] with | [Sum.inl (Value.int i), Sum.inl (Value.int n)] => (if 0 ≤ i ∧ i < n ∧ 3 ≤ d then ih mr r ls t h d else none) | _ => none) = some (o, h1) := hrun
      obtain ⟨i, n, rfl, rfl, hrun2⟩ := am_two (f := fun i n => if 0 ≤ i ∧ i < n ∧ 3 ≤ d then ih mr r ls t h d else none) hrun
      by_cases hcond : 0 ≤ i ∧ i < n ∧ 3 ≤ d
      · rw [if_pos hcond] at hrun2
        obtain ⟨c1, c2, c3⟩ := hcond
        obtain ⟨m1, m2⟩ := hg h.nc h.ns _ _ _ _ _ _ (Nat.le_refl _) (Nat.le_refl _) _ _ hrun2
        have hz := Kn_zq hKn
        refine va_callv (va_runS (own := am_cn mr.1) (ret := none) (bytes := cJ0_checkIndex_df160) (maxL := 2) (n := 2) (As := [.int i, .int n]) (rest := t.map (am_rv K va)) ⟨hx, hb, hml, hown, hts⟩ (c_chk l H i n) ⟨⟨rfl, rfl, by show 1 + 1 ≤ R.frames; omega, by show 8 + (2 + 11) + 22 ≤ R.locals; omega, py_ hts kt_3_74, List.mem_cons_self, hts _ kt_3_74, hts _ kt_1_4, ⟨by decide, by decide⟩, pl_ (by decide +kernel), hts _ hw⟩, hts _ kt_3_73⟩ ⟨fun a U g mk q => ⟨q.1, q.2.1, q.2.2.1, q.2.2.2.1, va_Zq.moved (u := U) (U := U.calling g mk a) (Vm.Alike.refl U.vm) q.2.2.2.2⟩, fun U hU hW => ⟨rfl, c1, c2, hU, ((va_Zq.moved hW.alike hz).kept (fun q h1 h2 => by rw [hU]; exact hS.2.1 q h1 h2)).narrow (fun q h => h.elim)⟩⟩ rfl rfl hL.1 rfl (lv_room hsum) hdec ⟨by omega, by omega⟩) hS (fun q _ h => h.elim) (fun q h => h.elim) (fun u t2 H1 locs1 ht hvm hw hB hz hk hS1 => ?_)
        have e1 : H1 = H := ht.symm.trans hB
        subst e1
        exact nx _ _ _ hrun2 va H1 locs1 _ _ lsr hR hS1 (by omega) (by omega) hL hO.pop.pop
      · rw [if_neg hcond] at hrun2
        cases hrun2
end YB
