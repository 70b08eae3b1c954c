section HAND
variable {K : AKx} {p : Program} {l : Launch} {e : Env} {R : Room} {s : State} {m : MethodId} {args : Array Value} {below : List Frame} {meth : Method} {c : Code} {bytes : ByteArray} {mr : MR} {o : AO} {h1 : AH} {ih : AK} {pc len tgt d : Nat} {r : List CI} {ls : AL} {st : List AV} {h : AH} {H : Heap} {locs : List Loc} {cells slots : Nat} {Q : State → Prop}
/-- a row of a handlers' table: where it begins, and the local that takes the exception -/
def am_HA (maxL : Nat) (bytes : ByteArray) (hp t k : Nat) : Prop := k < maxL ∧ ((decode bytes hp = .ok (.astore k, 2) ∧ t = hp + 2) ∨ ∃ kf : Fin 4, kf.val = k ∧ decode bytes hp = .ok (.astore_n kf, 1) ∧ t = hp + 1)
/-- the machine's handlers are the method's -/
def am_HR (own maxL : Nat) (bytes : ByteArray) : List (Nat × Nat × Nat × Nat × Nat) → List (Nat × Nat × Nat × Nat) → Prop
  | [], [] => True
  | _, _ => False
/-- a row that doesn't take E -/
def am_ps (own : String) (s : State) (args : Array Value) (pc E : Nat) (z : ExceptionTableEntry) : Prop := covers z pc = false ∨ (z.catchType ≠ 0 ∧ ∃ nm : String, (Cond.classLink own z.catchType nm).before args s = true ∧ va_Nc (am_xs E) nm s)
def am_tp (x : ExceptionTableEntry) : Nat × Nat × Nat × Nat := (x.startPc, x.endPc, x.handlerPc, x.catchType)
theorem am_hand_spec {own maxL pc E : Nat} (hE : E < 3) (hts : ∀ w ∈ sg_T, w.before args s = true) (hKn : am_Kn K s s.heap) : ∀ (hs : List (Nat × Nat × Nat × Nat × Nat)) (hh : List (Nat × Nat × Nat × Nat)) (xs : List ExceptionTableEntry), am_HR own maxL bytes hs hh → xs.map am_tp = hh →
    (am_hand pc E hs = none ∧ ∀ z ∈ xs, am_ps (am_cn own) s args pc E z) ∨ ∃ t k pre x suf, am_hand pc E hs = some (t, k) ∧ xs = pre ++ x :: suf ∧ (∀ z ∈ pre, am_ps (am_cn own) s args pc E z) ∧ covers x pc = true ∧ x.catchType ≠ 0 ∧ Cond.classLink (am_cn own) x.catchType (am_xs E) ∈ sg_T ∧ Cond.castable (am_xs E) (am_xs E) ∈ lw_tbl ∧ am_HA maxL bytes x.handlerPc t k
  | [], [], [], _, _ => Or.inl ⟨rfl, fun _ h => nomatch h⟩
  | [], [], _ :: _, _, h => by cases h
  | [], _ :: _, _, h, _ => h.elim
  | _ :: _, [], _, h, _ => h.elim
  | _ :: _, _ :: _, [], _, h => by cases h
  | _ :: _, _ :: _, _ :: _, h, _ => h.elim
theorem am_LR.put0 {va : Nat → Nat} {nL : Nat} {lsr' : Array Slot} {l : AL} {n : Nat} {x : Value} (h : lv_has lsr' nL ((n, x) :: (am_al K va l).filter (fun q => !(q.1 == n) && !(q.1 + 1 == n && q.2.category == 2)))) : am_LR K va nL lsr' ((am_clr l n).set n none) := by
  refine ⟨h.1, h.2.1, fun j w hw => ?_⟩
  have hj : j ≠ n := fun z => by
    subst z
    rw [List.getElem?_set] at hw
    simp at hw
  rw [List.getElem?_set_ne (Ne.symm hj)] at hw
  obtain ⟨h2, h4⟩ := am_clr_at hw
  refine h.2.2 (j, am_rv K va w) (List.mem_cons_of_mem _ (List.mem_filter.mpr ⟨am_al_in h2, ?_⟩))
  have hc := am_cat (K := K) (va := va) w
  simp only [Bool.and_eq_true, Bool.not_eq_true', beq_eq_false_iff_ne, ne_eq, Bool.and_eq_false_iff]
  refine ⟨hj, ?_⟩
  by_cases hj : j + 1 = n
  · refine Or.inr fun z => h4 ⟨hj, ?_⟩
    by_cases hw2 : am_cat2 w = true
    · exact hw2
    · rw [if_neg hw2] at hc; rw [hc] at z; cases z
  · exact Or.inl hj
/-- an exception that a call brings: caught here, or not -/
theorem am_thrown {E : Nat} {va : Nat → Nat} {ce : Cell} {q9 : Addr} {lsr : Array Slot} {rest : List Value} {h2 : AH} {hh : List (Nat × Nat × Nat × Nat)} (hC : am_Cx K p s m args c bytes mr) (hlocks : meth.locks = false) (hH : am_HR mr.1 mr.2.1 bytes mr.2.2.2 hh) (hhe : c.exceptionTable.toList.map am_tp = hh) (hE : E < 3)
    (jm : am_Jm K p l e R s m args below meth c mr o h1 d ih) (hrun : am_thr pc E mr (fun tgt k => ih mr (am_jmp tgt mr.2.2.1) ((am_clr ls k).set k none) [] h2 d) h2 = some (o, h1))
    (hR : am_Rel K va h2 H) (hS : va_S (am_fr K) s.heap H locs) (hL : am_LR K va mr.2.1 lsr ls) (hO : am_ok K va h2 ls []) (hce : H[q9]? = some ce) (hcv : ce.vm = .none) (hcl : s.vm.findClass (am_xs E) = some ce.cls) (hc : cells + h1.nc ≤ R.cells + h2.nc) (hs : slots + h1.ns ≤ R.slots + h2.ns) :
    vx_W p l e R s m args below meth c H locs cells slots (vx_MQ below (am_Post K o h1) (am_PostX K o h1) args s R.cells R.slots (am_fr K)) (F0 m pc lsr rest) q9 := by
  obtain ⟨hx, hb, hml, hown, hts, hKn⟩ := hC
  unfold am_thr at hrun
  rcases am_hand_spec (pc := pc) hE hts hKn mr.2.2.2 hh c.exceptionTable.toList hH hhe with ⟨g1, g2⟩ | ⟨t, k, pre, x, suf, g1, g2, g3, g4, g5, g6, g7, g8, g9⟩
  · rw [g1] at hrun
    have hrun : some (Sum.inr E, h2) = some (o, h1) := hrun
    cases hrun
    exact vx_outP hown hlocks g2 hce hcv hcl (fun t ht hW => ⟨⟨E, hE, rfl, rfl⟩, ⟨va, by rw [ht]; exact hR, hO.1⟩, hS.F ht⟩) hS.2.2 (by omega) (by omega)
  · rw [g1] at hrun
    have hrun : ih mr (am_jmp t mr.2.2.1) ((am_clr ls k).set k none) [] h2 d = some (o, h1) := hrun
    refine vx_catch hown pre x suf g2 g3 g4 g5 (hts _ g6) (va_Nw.use rfl (hKn.2.1 _ g7 rfl)) hce hcv hcl ?_
    rcases g9 with ⟨d1, rfl⟩ | ⟨kf, rfl, d1, rfl⟩
    · exact lv_astore hx hb d1 hL.has g8 rfl (fun lsr' hl' => jm _ _ _ _ hrun va H locs cells slots lsr' hR hS hc hs (am_LR.put0 hl') hO.clr)
    · exact lv_astore_n hx hb d1 rfl hL.has g8 rfl (fun lsr' hl' => jm _ _ _ _ hrun va H locs cells slots lsr' hR hS hc hs (am_LR.put0 hl') hO.clr)
theorem am_rcv_of {tg : Nat} {as : List AV} (z : (match as with | Sum.inr a :: _ => Nat.beq (am_ty h a).1 tg && am_ex h a | _ => false) = true) : ∃ a as', as = Sum.inr a :: as' ∧ (am_ty h a).1 = tg ∧ am_ex h a = true := by
  split at z
  · next a as' =>
    obtain ⟨z1, z2⟩ := Bool.and_eq_true_iff.mp z
    exact ⟨a, as', rfl, Nat.eq_of_beq_eq_true z1, z2⟩
  · cases z
/-- a call -/
theorem am_s_call {k : Nat} {q : Nat × Nat × Nat × MR} {en : ME} {hh : List (Nat × Nat × Nat × Nat)} {ins : Instr} (hC : am_Cx K p s m args c bytes mr) (hlocks : meth.locks = false) (hH : am_HR mr.1 mr.2.1 bytes mr.2.2.2 hh) (hhe : c.exceptionTable.toList.map am_tp = hh) (hfr : d ≤ R.frames ∧ 41 * d ≤ R.locals)
    (hO : am_CO mr.1 k q en) (hih : am_gk ih) (hct : ∀ (d0 : Nat) (as : List AV) (h : AH) (o2 : AO) (h2 : AH), (am_args as).length ≤ q.2.2.2.2.1 → ih q.2.2.2 q.2.2.2.2.2.1 (am_pad q.2.2.2.2.1 (am_args as)) [] h d0 = some (o2, h2) → ∀ B, am_Ct (kB K B) l en d0 as h o2 h2)
    (hins : ins = .invokevirtual k ∧ (q.1 = 0 ∨ q.1 = 4 ∨ q.1 = 5) ∨ ins = .invokestatic k ∧ (q.1 = 1 ∨ q.1 = 12 ∨ q.1 = 14) ∨ ins = .invokespecial k ∧ (q.1 = 2 ∨ q.1 = 13 ∨ q.1 = 6)) (hdec : decode bytes pc = .ok (ins, 3)) (nx : am_Nx K p l e R s m args below meth c mr o h1 (pc + 3) d ih r) (jm : am_Jm K p l e R s m args below meth c mr o h1 d ih) (hrun : am_call ih mr pc r ls st h d q = some (o, h1)) : am_G K p l e R s m args below meth c mr o h1 pc ls st h := by
  intro va H locs cells slots lsr hR hS hc hs hL hOk
  have hk4 : q.1 = 0 ∨ q.1 = 4 ∨ q.1 = 5 ∨ q.1 = 1 ∨ q.1 = 12 ∨ q.1 = 14 ∨ q.1 = 2 ∨ q.1 = 13 ∨ q.1 = 6 := by omega
  have z3 : Nat.beq q.1 3 = false := am_bne (by omega)
  have z7 : Nat.beq q.1 7 = false := am_bne (by omega)
  have z8 : Nat.beq q.1 8 = false := am_bne (by omega)
  have z10 : Nat.beq q.1 10 = false := am_bne (by omega)
  have z11 : Nat.beq q.1 11 = false := am_bne (by omega)
  have z15 : Nat.ble 15 q.1 = false := by
    cases hb : Nat.ble 15 q.1 with
    | false => rfl
    | true => have := Nat.le_of_ble_eq_true hb; omega
  unfold am_call at hrun
  dsimp only at hrun
  rw [z3, z7, z8, z10, z11, z15, Bool.or_false, Bool.or_false, cond_false, cond_false, cond_false, cond_false, cond_false, cond_false] at hrun
  generalize hn : (bif am_stk q.1 then q.2.1 else q.2.1 + 1) = n at hrun
  generalize has : (List.take n st).reverse = as at hrun
  generalize ht : List.drop n st = t at hrun
  have hst : st = as.reverse ++ t := by rw [← has, ← ht, List.reverse_reverse, List.take_append_drop]
  cases hg : Nat.beq as.length n && am_cl q.1 ls t && Nat.ble (am_sum t) 8 with
  | false => rw [hg] at hrun; cases hrun
  | true =>
    rw [hg] at hrun
    obtain ⟨g12, g3⟩ := Bool.and_eq_true_iff.mp hg
    obtain ⟨g1, g2⟩ := Bool.and_eq_true_iff.mp g12
    have g1 := Nat.eq_of_beq_eq_true g1
    have g3 := Nat.le_of_ble_eq_true g3
    have hrun : (bif Nat.ble (am_args as).length q.2.2.2.2.1 && (am_stk q.1 || (match (generalizing := false) as with | Sum.inr a :: _ => Nat.beq (am_ty h a).1 q.2.2.1 && am_ex h a | _ => false)) then
      (match (generalizing := false) d with
      | 0 => none
      | d0 + 1 => match (generalizing := false) ih q.2.2.2 q.2.2.2.2.2.1 (am_pad q.2.2.2.2.1 (am_args as)) [] h d0 with
        | none => none
        | some (Sum.inl none, h1) => ih mr r ls t h1 d
        | some (Sum.inl (some v), h1) => ih mr r ls (v :: t) h1 d
        | some (Sum.inr E, h1) => bif !am_xck q.1 then none else am_thr pc E mr (fun tgt k => ih mr (am_jmp tgt mr.2.2.1) ((am_clr ls k).set k none) [] h1 d) h1)
      else none) = some (o, h1) := hrun
    cases hg2 : Nat.ble (am_args as).length q.2.2.2.2.1 && (am_stk q.1 || (match (generalizing := false) as with | Sum.inr a :: _ => Nat.beq (am_ty h a).1 q.2.2.1 && am_ex h a | _ => false)) with
    | false => rw [hg2] at hrun; cases hrun
    | true =>
      rw [hg2, cond_true] at hrun
      have hrc : am_stk q.1 = true ∨ ∃ a as', as = Sum.inr a :: as' ∧ (am_ty h a).1 = q.2.2.1 ∧ am_ex h a = true := by
        rcases Bool.or_eq_true_iff.mp (Bool.and_eq_true_iff.mp hg2).2 with z | z
        · exact Or.inl z
        · refine Or.inr ?_
          exact am_rcv_of z
      cases d with
      | zero => cases hrun
      | succ d0 =>
        dsimp only at hrun
        cases hq : ih q.2.2.2 q.2.2.2.2.2.1 (am_pad q.2.2.2.2.1 (am_args as)) [] h d0 with
        | none => rw [hq] at hrun; cases hrun
        | some x =>
          obtain ⟨o2, h2⟩ := x
          rw [hq] at hrun
          obtain ⟨m1, m2⟩ := hih h.nc h.ns _ _ _ _ _ _ (Nat.le_refl _) (Nat.le_refl _) _ _ hq
          have hM := hct d0 as h o2 h2 (Nat.le_of_ble_eq_true (Bool.and_eq_true_iff.mp hg2).1) hq (h.nd, va, h.dk)
          have hOt : am_ok K va h ls t := ⟨hOk.1, hOk.2.1, fun v hv => hOk.2.2 v (by rw [hst]; exact List.mem_append_right _ hv)⟩
          have hOas : ∀ v ∈ as, am_okv h v := fun v hv => hOk.2.2 v (by rw [hst]; exact List.mem_append_left _ (List.mem_reverse.mpr hv))
          have key : h2.nc ≤ h1.nc ∧ h2.ns ≤ h1.ns ∧ (am_xck q.1 = true ∨ ∃ v, o2 = Sum.inl v) := by
            rcases o2 with v | E
            · cases v with
              | none =>
                have := hih h2.nc h2.ns _ _ _ _ _ _ (Nat.le_refl _) (Nat.le_refl _) _ _ hrun
                exact ⟨this.1, this.2, Or.inr ⟨_, rfl⟩⟩
              | some v =>
                have := hih h2.nc h2.ns _ _ _ _ _ _ (Nat.le_refl _) (Nat.le_refl _) _ _ hrun
                exact ⟨this.1, this.2, Or.inr ⟨_, rfl⟩⟩
            · have hrun : (bif !am_xck q.1 then none else am_thr pc E mr (fun tgt k => ih mr (am_jmp tgt mr.2.2.1) ((am_clr ls k).set k none) [] h2 (d0 + 1)) h2) = some (o, h1) := hrun
              cases hxc : am_xck q.1 with
              | false => rw [hxc] at hrun; cases hrun
              | true =>
                rw [hxc] at hrun
                have hrun : am_thr pc E mr (fun tgt k => ih mr (am_jmp tgt mr.2.2.1) ((am_clr ls k).set k none) [] h2 (d0 + 1)) h2 = some (o, h1) := hrun
                unfold am_thr at hrun
                split at hrun
                · have := hih h2.nc h2.ns _ _ _ _ _ _ (Nat.le_refl _) (Nat.le_refl _) _ _ hrun
                  exact ⟨this.1, this.2, Or.inl rfl⟩
                · cases hrun
                  exact ⟨Nat.le_refl _, Nat.le_refl _, Or.inl rfl⟩
          obtain ⟨m3, m4, hxk⟩ := key
          have hrun9 := am_call_run (lsr := lsr) (cells := cells) (slots := slots) (R := R) (p := p) (e := e) (m := m) (below := below) (meth := meth) hC hO hM hOas hxk hR hS (by rw [g1, ← hn]) hrc hfr (hL.1) g3 hins hdec ⟨by omega, by omega⟩
          rw [hst]
          refine am_after hrun9 hS hOt hL ?_ ?_
          · intro v va1 H1 locs1 ho hR1 hS1 hL1 hO1
            subst ho
            cases v with
            | none => exact nx _ _ _ hrun va1 H1 locs1 _ _ lsr hR1 hS1 (by omega) (by omega) hL1 hO1
            | some v => exact nx _ _ _ hrun va1 H1 locs1 _ _ lsr hR1 hS1 (by omega) (by omega) hL1 hO1
          · intro E va1 H1 locs1 ce q9 hE ho hR1 hS1 hL1 hO1 hce hcv hcl
            subst ho
            rcases hxk with hxc | ⟨v, z⟩
            · have hrun : (bif !am_xck q.1 then none else am_thr pc E mr (fun tgt k => ih mr (am_jmp tgt mr.2.2.1) ((am_clr ls k).set k none) [] h2 (d0 + 1)) h2) = some (o, h1) := hrun
              rw [hxc] at hrun
              exact am_thrown hC hlocks hH hhe hE jm hrun hR1 hS1 hL1 hO1 hce hcv hcl (by omega) (by omega)
            · cases z
/-- a call through an interface -/
theorem am_s_callF {k cnt : Nat} {q : Nat × Nat × Nat × MR} {en : ME} (hC : am_Cx K p s m args c bytes mr) (hfr : d ≤ R.frames ∧ 41 * d ≤ R.locals)
    (hO : am_CF mr.1 k q en) (hih : am_gk ih) (hct : ∀ (d0 : Nat) (as : List AV) (h : AH) (o2 : AO) (h2 : AH), (am_args as).length ≤ q.2.2.2.2.1 → ih q.2.2.2 q.2.2.2.2.2.1 (am_pad q.2.2.2.2.1 (am_args as)) [] h d0 = some (o2, h2) → ∀ B, am_Ct (kB K B) l en d0 as h o2 h2)
    (hdec : decode bytes pc = .ok (.invokeinterface k cnt, 5)) (nx : am_Nx K p l e R s m args below meth c mr o h1 (pc + 5) d ih r) (hrun : am_call ih mr pc r ls st h d q = some (o, h1)) : am_G K p l e R s m args below meth c mr o h1 pc ls st h := by
  intro va H locs cells slots lsr hR hS hc hs hL hOk
  have hk4 : q.1 = 9 := hO.2.2.2.2.1
  have z3 : Nat.beq q.1 3 = false := am_bne (by omega)
  have z7 : Nat.beq q.1 7 = false := am_bne (by omega)
  have z8 : Nat.beq q.1 8 = false := am_bne (by omega)
  have z10 : Nat.beq q.1 10 = false := am_bne (by omega)
  have z11 : Nat.beq q.1 11 = false := am_bne (by omega)
  have z15 : Nat.ble 15 q.1 = false := by
    cases hb : Nat.ble 15 q.1 with
    | false => rfl
    | true => have := Nat.le_of_ble_eq_true hb; omega
  unfold am_call at hrun
  dsimp only at hrun
  rw [z3, z7, z8, z10, z11, z15, Bool.or_false, Bool.or_false, cond_false, cond_false, cond_false, cond_false, cond_false, cond_false] at hrun
  generalize hn : (bif am_stk q.1 then q.2.1 else q.2.1 + 1) = n at hrun
  generalize has : (List.take n st).reverse = as at hrun
  generalize ht : List.drop n st = t at hrun
  have hst : st = as.reverse ++ t := by rw [← has, ← ht, List.reverse_reverse, List.take_append_drop]
  cases hg : Nat.beq as.length n && am_cl q.1 ls t && Nat.ble (am_sum t) 8 with
  | false => rw [hg] at hrun; cases hrun
  | true =>
    rw [hg] at hrun
    obtain ⟨g12, g3⟩ := Bool.and_eq_true_iff.mp hg
    obtain ⟨g1, g2⟩ := Bool.and_eq_true_iff.mp g12
    have g1 := Nat.eq_of_beq_eq_true g1
    have g3 := Nat.le_of_ble_eq_true g3
    have hrun : (bif Nat.ble (am_args as).length q.2.2.2.2.1 && (am_stk q.1 || (match (generalizing := false) as with | Sum.inr a :: _ => Nat.beq (am_ty h a).1 q.2.2.1 && am_ex h a | _ => false)) then
      (match (generalizing := false) d with
      | 0 => none
      | d0 + 1 => match (generalizing := false) ih q.2.2.2 q.2.2.2.2.2.1 (am_pad q.2.2.2.2.1 (am_args as)) [] h d0 with
        | none => none
        | some (Sum.inl none, h1) => ih mr r ls t h1 d
        | some (Sum.inl (some v), h1) => ih mr r ls (v :: t) h1 d
        | some (Sum.inr E, h1) => bif !am_xck q.1 then none else am_thr pc E mr (fun tgt k => ih mr (am_jmp tgt mr.2.2.1) ((am_clr ls k).set k none) [] h1 d) h1)
      else none) = some (o, h1) := hrun
    cases hg2 : Nat.ble (am_args as).length q.2.2.2.2.1 && (am_stk q.1 || (match (generalizing := false) as with | Sum.inr a :: _ => Nat.beq (am_ty h a).1 q.2.2.1 && am_ex h a | _ => false)) with
    | false => rw [hg2] at hrun; cases hrun
    | true =>
      rw [hg2, cond_true] at hrun
      have hrc : am_stk q.1 = true ∨ ∃ a as', as = Sum.inr a :: as' ∧ (am_ty h a).1 = q.2.2.1 ∧ am_ex h a = true := by
        rcases Bool.or_eq_true_iff.mp (Bool.and_eq_true_iff.mp hg2).2 with z | z
        · exact Or.inl z
        · refine Or.inr ?_
          exact am_rcv_of z
      cases d with
      | zero => cases hrun
      | succ d0 =>
        dsimp only at hrun
        cases hq : ih q.2.2.2 q.2.2.2.2.2.1 (am_pad q.2.2.2.2.1 (am_args as)) [] h d0 with
        | none => rw [hq] at hrun; cases hrun
        | some x =>
          obtain ⟨o2, h2⟩ := x
          rw [hq] at hrun
          obtain ⟨m1, m2⟩ := hih h.nc h.ns _ _ _ _ _ _ (Nat.le_refl _) (Nat.le_refl _) _ _ hq
          have hM := hct d0 as h o2 h2 (Nat.le_of_ble_eq_true (Bool.and_eq_true_iff.mp hg2).1) hq (h.nd, va, h.dk)
          have hOt : am_ok K va h ls t := ⟨hOk.1, hOk.2.1, fun v hv => hOk.2.2 v (by rw [hst]; exact List.mem_append_right _ hv)⟩
          have hOas : ∀ v ∈ as, am_okv h v := fun v hv => hOk.2.2 v (by rw [hst]; exact List.mem_append_left _ (List.mem_reverse.mpr hv))
          rcases o2 with v2 | E
          · have key : h2.nc ≤ h1.nc ∧ h2.ns ≤ h1.ns := by
              cases v2 with
              | none => exact hih h2.nc h2.ns _ _ _ _ _ _ (Nat.le_refl _) (Nat.le_refl _) _ _ hrun
              | some v => exact hih h2.nc h2.ns _ _ _ _ _ _ (Nat.le_refl _) (Nat.le_refl _) _ _ hrun
            obtain ⟨m3, m4⟩ := key
            have hstk : am_stk q.1 = false := by rw [hk4]; rfl
            have hrc : ∃ a as', as = Sum.inr a :: as' ∧ (am_ty h a).1 = q.2.2.1 ∧ am_ex h a = true := by
              rcases hrc with z | z
              · rw [hstk] at z; cases z
              · exact z
            have hrun9 := am_call_runF (lsr := lsr) (cells := cells) (slots := slots) (R := R) (p := p) (e := e) (m := m) (below := below) (meth := meth) hC hO hM hOas hR hS (by rw [g1, ← hn, hstk]; rfl) hrc hfr (hL.1) g3 hdec ⟨by omega, by omega⟩
            rw [hst]
            refine am_after5 hrun9 hS hOt hL ?_
            intro v va1 H1 locs1 ho hR1 hS1 hL1 hO1
            cases ho
            cases v2 with
            | none => exact nx _ _ _ hrun va1 H1 locs1 _ _ lsr hR1 hS1 (by omega) (by omega) hL1 hO1
            | some v => exact nx _ _ _ hrun va1 H1 locs1 _ _ lsr hR1 hS1 (by omega) (by omega) hL1 hO1
          · have hrun : (bif !am_xck q.1 then none else am_thr pc E mr (fun tgt k => ih mr (am_jmp tgt mr.2.2.1) ((am_clr ls k).set k none) [] h2 (d0 + 1)) h2) = some (o, h1) := hrun
            have hxc : am_xck q.1 = false := by rw [hk4]; rfl
            rw [hxc] at hrun
            cases hrun
end HAND
