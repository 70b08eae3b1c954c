section MAIN
variable {K : AKx} {p : Program} {l : Launch} {e : Env} {R : Room} {s : State} {m : MethodId} {args : Array Value} {below : List Frame} {meth : Method} {c : Code} {bytes : ByteArray} {o : AO} {h1 : AH} {pc len tgt d : Nat} {r : List CI} {ls : AL} {st : List AV} {h : AH} {en : ME}
/-- a method's contract out of its body; also of a class of which the machine runs some methods by itself, but not this one -/
theorem am_ofW {l : Launch} {y : MethodName} {ws ws' : List Cond} {rm : Room} {Pc : Array Value → State → Prop} {Qc : Array Value → State → Outcome → State → Prop} {XC : String → State → State → Prop} {mc ms : Nat} {free : Addr → Prop} {cc : ByteArray} {maxL : Nat} {ret : Option FieldType} (hy : plainFor y = true) (hw : ws = Cond.code y cc maxL ret :: ws')
    (body : ∀ p e s m args below meth c s₁, BodyLoose p l y (headSpec ws rm) cc maxL ret e s m args below meth c s₁ → c.maxLocals = maxL → (∀ x ∈ c.exceptionTable.toList, False) → Pc args s → W p l e (headSpec ws rm).room s m args below meth c s.heap [] 0 0 (vx_MQ below Qc XC args s mc ms free) (entryFrame m args maxL)) : vx_Met l y ws rm Pc Qc XC mc ms free := by
  refine MetFree.of_bodySF (code := cc) (maxLocals := maxL) (ret := ret) hy (fun args s m h hn => ?_) (fun p e s m args below meth c s₁ B hml hP _ => ?_)
  · obtain ⟨meth, c, h1, h2, h3, h4, h5, h6, -⟩ := Cond.code_spec hn (atoms_spec (ws := ws) h _ (hw ▸ List.mem_cons_self))
    exact ⟨meth, c, h1, h2, h3, h4, h5, h6⟩
  · have ht : ∀ x ∈ c.exceptionTable.toList, False := by
      obtain ⟨meth9, c9, h1, h2, -, -, -, -, h7, -⟩ := Cond.code_spec B.named (atoms_spec (ws := ws) B.pre _ (hw ▸ List.mem_cons_self))
      cases Option.some.inj (h1.symm.trans B.method)
      cases Option.some.inj (h2.symm.trans (Stand.of_body B).code)
      rw [Array.isEmpty_iff.mp h7]
      exact fun x hx => by cases hx
    obtain ⟨t, a1, o, b1, b2, b3⟩ := body p e s m args below meth c s₁ B hml ht hP s₁ (by rw [B.state]; rfl) (Stand.of_body B)
    exact ⟨t, o, a1, b1, b2, b3⟩
theorem am_ofWH {l : Launch} {y : MethodName} {ws ws' : List Cond} {rm : Room} {Pc : Array Value → State → Prop} {Qc : Array Value → State → Outcome → State → Prop} {XC : String → State → State → Prop} {mc ms : Nat} {free : Addr → Prop} {cc : ByteArray} {maxL : Nat} {ret : Option FieldType} {hh : List (Nat × Nat × Nat × Nat)} (hy : plainFor y = true) (hw : ws = Cond.codeWith y cc maxL ret hh :: ws')
    (body : ∀ p e s m args below meth c s₁, BodyLoose p l y (headSpec ws rm) cc maxL ret e s m args below meth c s₁ → c.maxLocals = maxL → Pc args s → W p l e (headSpec ws rm).room s m args below meth c s.heap [] 0 0 (vx_MQ below Qc XC args s mc ms free) (entryFrame m args maxL)) : vx_Met l y ws rm Pc Qc XC mc ms free := by
  refine MetFree.of_bodySF (code := cc) (maxLocals := maxL) (ret := ret) hy (fun args s m h hn => ?_) (fun p e s m args below meth c s₁ B hml hP _ => ?_)
  · obtain ⟨m9, meth, c, hn9, h1, h2, h3, h4, -, h5, h6, -⟩ := Cond.codeWith_spec (atoms_spec (ws := ws) h _ (hw ▸ List.mem_cons_self))
    cases hn.symm.trans hn9
    exact ⟨meth, c, h1, h2, h3, h4, h5, h6⟩
  · obtain ⟨t, a1, o, b1, b2, b3⟩ := body p e s m args below meth c s₁ B hml hP s₁ (by rw [B.state]; rfl) (Stand.of_body B)
    exact ⟨t, o, a1, b1, b2, b3⟩
/-- a method whose code is checked -/
def am_EO (en : ME) : Prop := am_ck en en.1.2.2.1 = true ∧ am_wd en ∈ sg_T ∧ plainFor en.2.1 = true ∧ am_HR en.1.1 en.1.2.1 en.2.2.1 en.1.2.2.2 (en.2.2.2.2.getD []) ∧ am_cn en.1.1 = en.2.1.cls ∧ (match en.1.2.2.1 with | [] => true | e :: _ => Nat.beq e.1 0) = true
def am_iv (w k : Nat) : Instr := match w with
  | 0 => .invokevirtual k
  | 1 => .invokestatic k
  | _ => .invokespecial k
/-- what a call's entry is -/
def am_MO (own k : Nat) (q : Nat × Nat × Nat × MR) : Prop :=
  (q.1 = 3 ∧ q.2.1 = 0 ∧ Cond.methodLink (am_cn own) k Lib.objectInit ∈ sg_T ∧ Cond.instanceMethod Lib.objectInit ∈ sg_T ∧ Cond.code Lib.objectInit ⟨#[0xb1]⟩ 1 none ∈ sg_T)
  ∨ (q.1 = 10 ∧ q.2.1 = 5 ∧ Cond.methodLink (am_cn own) k arraycopyName ∈ sg_T ∧ Cond.native arraycopyName ∈ sg_T ∧ Cond.static arraycopyName ∈ sg_T ∧ Cond.initialized "java/lang/System" ∈ sg_T)
  ∨ (q.1 = 11 ∧ q.2.1 = 2 ∧ Cond.methodLink (am_cn own) k yJ0_checkIndex_df160 ∈ sg_T)
  ∨ ((q.1 = 15 ∧ q.2.1 = 2 ∧ am_MW own k Lib.Math.min.name Lib.Math.min.code 2) ∨ (q.1 = 16 ∧ q.2.1 = 2 ∧ am_MW own k Lib.Math.max.name Lib.Math.max.code 2) ∨ (q.1 = 17 ∧ q.2.1 = 1 ∧ am_MW own k Lib.Math.abs.name Lib.Math.abs.code 1))
  ∨ (q.1 = 7 ∧ q.2.1 = 0 ∧ Cond.methodLink (am_cn own) k yBclone ∈ sg_T ∧ Cond.sameMethod "[B" "java/lang/Object" "clone" "()Ljava/lang/Object;" ∈ sg_T ∧ Cond.native yOclone ∈ sg_T ∧ Cond.instanceMethod yOclone ∈ sg_T ∧ Cond.selects "[B" yBclone yOclone ∈ sg_T)
  ∨ (q.1 = 8 ∧ q.2.1 = 2 ∧ Cond.methodLink (am_cn own) k yUgetLong ∈ sg_T ∧ Cond.native yUgetLong ∈ sg_T ∧ Cond.instanceMethod yUgetLong ∈ sg_T ∧ Cond.selects "jdk/internal/misc/Unsafe" yUgetLong yUgetLong ∈ sg_T)
  ∨ (∃ en, am_EO en ∧ am_CF own k q en)
  ∨ ∃ en, am_EO en ∧ am_CO own k q en
/-- what the tables say, all of it -/
def am_TB : Prop := (∀ own k v, am_F own k = some v → am_FO own k v) ∧ (∀ own k tg E, am_N own k = some (0, tg, E) → am_NO own k tg) ∧ (∀ own k tg, am_A own k = some tg → (tg = 104 ∧ Cond.classLink (am_cn own) k "java/lang/Object" ∈ sg_T) ∨ (tg = 105 ∧ Cond.classLink (am_cn own) k "MoonlitFloor$World" ∈ sg_T) ∨ (tg = 106 ∧ Cond.classLink (am_cn own) k "MoonlitFloor$Sign" ∈ sg_T)) ∧ (∀ ty : ArrayType, am_at ty ≠ 998 → Cond.arrayClass (newarray.typeOf ty) ∈ sg_T) ∧ (∀ own k q, am_M own k = some q → am_MO own k q) ∧ (∀ own k tg, am_K own k = some tg → (tg = 100 ∧ Cond.classLink (am_cn own) k "[I" ∈ sg_T) ∨ (tg = 101 ∧ Cond.classLink (am_cn own) k "[B" ∈ sg_T)) ∧ ∀ own k v, am_D own k = some v → Cond.constantLong (am_cn own) k v ∈ sg_T
/-- what a frame of a method is -/
def am_FX (l : Launch) (R : Room) (meth : Method) (c : Code) (en : ME) (d : Nat) : Prop := meth.locks = false ∧ meth.sig.returnType = en.2.2.2.1 ∧ meth.name = en.2.1.name ∧ c.exceptionTable.toList.map am_tp = en.2.2.2.2.getD [] ∧ (d ≤ R.frames ∧ 41 * d ≤ R.locals) ∧ l.stackTraces = false
theorem am_no_anew {ih : AK} {mr : MR} {k : Nat} (hA : am_A mr.1 k = none) (hrun : am_step ih mr ((pc, .anewarray k, len, tgt) :: r) ls st h d = some (o, h1)) : False := by
  have h9 : (match (generalizing := false) st with | Sum.inl (Value.int x) :: t => (match am_A mr.1 k with | some tg => if x < 0 then none else am_mk (fun a h1 => ih mr r ls (Sum.inr a :: t) h1 d) h tg (some x.toNatClampNeg) | none => none) | _ => none) = some (o, h1) := hrun
  rw [hA] at h9
  split at h9 <;> cases h9
theorem am_no_new {ih : AK} {mr : MR} {k : Nat} (hN : am_N mr.1 k = none) (hrun : am_step ih mr ((pc, .new k, len, tgt) :: r) ls st h d = some (o, h1)) : False := by
  have h9 : (match am_N mr.1 k with | some (m, tg, E) => bif Nat.beq m 0 then am_mk (fun a h1 => ih mr r ls (Sum.inr a :: st) h1 d) h tg none else (match (generalizing := false) st, h.nx with | [], none => bif Nat.ble 6 d && am_xt mr.2.2.2 pc then some (Sum.inr E, am_cnt h 1 6) else none | _, _ => none) | none => none) = some (o, h1) := hrun
  rw [hN] at h9
  cases h9
theorem am_fin {k : Nat} {name : String} (hick : (match am_F en.1.1 k with | some v => (match vwCl[v.1]? with | some q => !(q.2.1 v.2.1).2.2.2 || (en.2.1.name == "<init>" && (q.2.1 v.2.1).1 == am_cn en.1.1) | none => true) | none => true) = true) (hn : name = en.2.1.name) : ∀ (v : Nat × Nat × Nat) (q : vw_C), am_F en.1.1 k = some v → vwCl[v.1]? = some q → (q.2.1 v.2.1).2.2.2 = false ∨ (name = "<init>" ∧ (q.2.1 v.2.1).1 = am_cn en.1.1) := by
  intro v q hv hq
  rw [hv] at hick
  have hick : (match vwCl[v.1]? with | some q => !(q.2.1 v.2.1).2.2.2 || (en.2.1.name == "<init>" && (q.2.1 v.2.1).1 == am_cn en.1.1) | none => true) = true := hick
  rw [hq] at hick
  have hick : (!(q.2.1 v.2.1).2.2.2 || (en.2.1.name == "<init>" && (q.2.1 v.2.1).1 == am_cn en.1.1)) = true := hick
  rcases Bool.or_eq_true_iff.mp hick with z | z
  · refine Or.inl ?_
    cases hb : (q.2.1 v.2.1).2.2.2 with
    | false => rfl
    | true => rw [hb] at z; cases z
  · obtain ⟨z1, z2⟩ := Bool.and_eq_true_iff.mp z
    exact Or.inr ⟨hn.trans (eq_of_beq z1), eq_of_beq z2⟩
theorem am_ref_ret {ret : Option FieldType} (hick : (match ret with | some (.object _) => true | some (.array _) => true | _ => false) = true) : ∃ rt9, ret = some rt9 ∧ ((∃ n, rt9 = .object n) ∨ ∃ t, rt9 = .array t) := by
  split at hick
  · next n => exact ⟨_, rfl, Or.inl ⟨n, rfl⟩⟩
  · next t => exact ⟨_, rfl, Or.inr ⟨t, rfl⟩⟩
  · cases hick
theorem am_TWE {E : Nat} (h : E < 3) : am_TW (am_ik E).1 (am_ik E).2 (am_xs E) := by
  match E, h with
  | 0, _ => exact am_TW3
  | 1, _ => exact am_TW1
  | 2, _ => exact am_TW2
theorem am_new_thr {ih : AK} {k m9 tg E : Nat} (hC : am_Cx K p s m args c en.2.2.1 en.1) (hX : am_FX l R meth c en d) (hN : am_N en.1.1 k = some (m9, tg, E)) (hick : (Nat.beq m9 1 && Nat.beq en.1.1 11 && Nat.blt E 3 && en.2.2.2.2.isNone && Nat.beq tg 0 && Nat.beq k (am_ik E).1 && am_tck en.2.2.1 pc (am_ik E).2) = true) (hdec : decode en.2.2.1 pc = .ok (.new k, 3)) (hrun : am_step ih en.1 ((pc, .new k, len, tgt) :: r) ls st h d = some (o, h1)) : am_G K p l e R s m args below meth c en.1 o h1 pc ls st h := by
  obtain ⟨hick, g7⟩ := Bool.and_eq_true_iff.mp hick
  obtain ⟨hick, g6⟩ := Bool.and_eq_true_iff.mp hick
  obtain ⟨hick, g5⟩ := Bool.and_eq_true_iff.mp hick
  obtain ⟨hick, g4⟩ := Bool.and_eq_true_iff.mp hick
  obtain ⟨hick, g3⟩ := Bool.and_eq_true_iff.mp hick
  obtain ⟨g1, g2⟩ := Bool.and_eq_true_iff.mp hick
  have g1 := Nat.eq_of_beq_eq_true g1
  have g2 := Nat.eq_of_beq_eq_true g2
  have g3 := Nat.blt_eq.mp g3
  have g5 := Nat.eq_of_beq_eq_true g5
  have g6 := Nat.eq_of_beq_eq_true g6
  subst g1
  subst g5
  have hxt : ∀ x ∈ c.exceptionTable.toList, False := by
    have h9 := hX.2.2.2.1
    have h0 : en.2.2.2.2 = none := Option.isNone_iff_eq_none.mp g4
    rw [h0] at h9
    have h8 : c.exceptionTable.toList = [] := List.map_eq_nil_iff.mp h9
    intro x hx
    rw [h8] at hx
    cases hx
  unfold am_tck at g7
  obtain ⟨t1, t2⟩ := Bool.and_eq_true_iff.mp g7
  have key : ∃ is, is ∈ am_tx ∧ ((decode en.2.2.1 (pc + 4) = .ok (.ldc is, 2) ∧ decode en.2.2.1 (pc + 6) = .ok (.invokespecial (am_ik E).2, 3) ∧ decode en.2.2.1 (pc + 9) = .ok (.athrow, 1)) ∨ (decode en.2.2.1 (pc + 4) = .ok (.ldc_w is, 3) ∧ decode en.2.2.1 (pc + 7) = .ok (.invokespecial (am_ik E).2, 3) ∧ decode en.2.2.1 (pc + 10) = .ok (.athrow, 1))) := by
    split at t2
    · next is hd =>
      obtain ⟨t2, t5⟩ := Bool.and_eq_true_iff.mp t2
      obtain ⟨t3, t4⟩ := Bool.and_eq_true_iff.mp t2
      obtain ⟨z, hz, hz2⟩ := List.any_eq_true.mp t3
      exact ⟨is, by rw [Nat.eq_of_beq_eq_true hz2]; exact hz, Or.inl ⟨hd, am_dck_ok t4, am_dck_ok t5⟩⟩
    · next is hd =>
      obtain ⟨t2, t5⟩ := Bool.and_eq_true_iff.mp t2
      obtain ⟨t3, t4⟩ := Bool.and_eq_true_iff.mp t2
      obtain ⟨z, hz, hz2⟩ := List.any_eq_true.mp t3
      exact ⟨is, by rw [Nat.eq_of_beq_eq_true hz2]; exact hz, Or.inr ⟨hd, am_dck_ok t4, am_dck_ok t5⟩⟩
    · cases t2
  obtain ⟨is, his, hd⟩ := key
  have hw := am_TWE g3
  rw [← g6] at hw
  exact am_s_throw g3 hC hX.2.2.2.2.2 hX.1 hxt hX.2.2.2.2.1 g2 hN hw his hdec (am_dck_ok t1) hd hrun
/-- a callee's contract -/
def am_mt (K : AKx) (l : Launch) (ih : AK) : Prop := ∀ (en : ME), am_EO en → ∀ (d0 : Nat) (as : List AV) (h : AH) (o2 : AO) (h2 : AH), (am_args as).length ≤ en.1.2.1 → ih en.1 en.1.2.2.1 (am_pad en.1.2.1 (am_args as)) [] h d0 = some (o2, h2) → ∀ B, am_Ct (kB K B) l en d0 as h o2 h2
theorem am_inv {ih : AK} {k w : Nat} (hC : am_Cx K p s m args c en.2.2.1 en.1) (hH : am_HR en.1.1 en.1.2.1 en.2.2.1 en.1.2.2.2 (en.2.2.2.2.getD [])) (hX : am_FX l R meth c en d) (hM : ∀ own k q, am_M own k = some q → am_MO own k q) (hg : am_gk ih) (hdec : decode en.2.2.1 pc = .ok (am_iv w k, 3)) (nx : am_Nx K p l e R s m args below meth c en.1 o h1 (pc + 3) d ih r) (jm : am_Jm K p l e R s m args below meth c en.1 o h1 d ih) (hmet : am_mt K l ih) (hw : ∀ q, am_M en.1.1 k = some q → am_ivk w q.1 = true) (hrun : (match am_M en.1.1 k with | some q => am_call ih en.1 pc r ls st h d q | none => none) = some (o, h1)) : am_G K p l e R s m args below meth c en.1 o h1 pc ls st h := by
  cases hq : am_M en.1.1 k with
  | none => rw [hq] at hrun; cases hrun
  | some q =>
    rw [hq] at hrun
    have hrun : am_call ih en.1 pc r ls st h d q = some (o, h1) := hrun
    have hwk := hw q hq
    rcases hM _ _ _ hq with ⟨a1, a2, a3⟩ | ⟨a1, a2, a3⟩ | ⟨a1, a2, a3⟩ | a1 | ⟨a1, a2, a3⟩ | ⟨a1, a2, a3⟩ | ⟨en2, a1, a2⟩ | ⟨en2, a1, a2⟩
    · have hw2 : am_iv w k = .invokespecial k := by
        rw [a1] at hwk
        match w, hwk with
        | 0, z => cases z
        | 1, z => cases z
        | w + 2, _ => rfl
      rw [hw2] at hdec
      exact am_s_call3 hC hX.2.2.2.2.1 ⟨a1, a2⟩ a3 hdec nx hrun
    · have hw2 : am_iv w k = .invokestatic k := by
        rw [a1] at hwk
        match w, hwk with
        | 0, z => cases z
        | 1, _ => rfl
        | w + 2, z => cases z
      rw [hw2] at hdec
      exact am_s_call10 hC hX.2.2.2.2.1 ⟨a1, a2⟩ a3 hdec nx hrun
    · have hw2 : am_iv w k = .invokestatic k := by
        rw [a1] at hwk
        match w, hwk with
        | 0, z => cases z
        | 1, _ => rfl
        | w + 2, z => cases z
      rw [hw2] at hdec
      exact am_k11 hC hX.2.2.2.2.1 ⟨a1, a2⟩ a3 hdec nx hg hrun
    · have hw2 : am_iv w k = .invokestatic k := by
        have hk : q.1 = 15 ∨ q.1 = 16 ∨ q.1 = 17 := by omega
        match w, hwk with
        | 0, z => rcases hk with y | y | y <;> (rw [y] at z; cases z)
        | 1, _ => rfl
        | w + 2, z => rcases hk with y | y | y <;> (rw [y] at z; cases z)
      rw [hw2] at hdec
      exact am_s_math hC hX.2.2.2.2.1 (fun _ _ _ z => hg _ _ _ _ _ _ _ _ (Nat.le_refl _) (Nat.le_refl _) _ _ z) a1 hdec nx hrun
    · have hw2 : am_iv w k = .invokevirtual k := by
        rw [a1] at hwk
        match w, hwk with
        | 0, _ => rfl
        | 1, z => cases z
        | w + 2, z => cases z
      rw [hw2] at hdec
      exact am_k7 hC hX.2.2.2.2.1 ⟨a1, a2⟩ a3 hdec nx hg hrun
    · have hw2 : am_iv w k = .invokevirtual k := by
        rw [a1] at hwk
        match w, hwk with
        | 0, _ => rfl
        | 1, z => cases z
        | w + 2, z => cases z
      rw [hw2] at hdec
      exact am_k8 hC hX.2.2.2.2.1 ⟨a1, a2⟩ a3 hdec nx hrun
    · exfalso
      rw [a2.2.2.2.2.1] at hwk
      match w, hwk with
      | 0, z => cases z
      | 1, z => cases z
      | w + 2, z => cases z
    · have hins : am_iv w k = .invokevirtual k ∧ (q.1 = 0 ∨ q.1 = 4 ∨ q.1 = 5) ∨ am_iv w k = .invokestatic k ∧ (q.1 = 1 ∨ q.1 = 12 ∨ q.1 = 14) ∨ am_iv w k = .invokespecial k ∧ (q.1 = 2 ∨ q.1 = 13 ∨ q.1 = 6) := by
        have hkd : q.1 = 0 ∨ q.1 = 1 ∨ q.1 = 14 ∨ q.1 = 2 ∨ q.1 = 13 ∨ q.1 = 12 ∨ q.1 = 4 ∨ q.1 = 6 ∨ q.1 = 5 := by
          rcases a2.2.2.2.2.2.2 with z | z | z | z | z | z | z | z | z | z <;> (have := z.1; omega)
        match w, hwk with
        | 0, z =>
          refine Or.inl ⟨rfl, ?_⟩
          rcases hkd with y | y | y | y | y | y | y | y | y <;> first | (exact Or.inl y) | (exact Or.inr (Or.inl y)) | (exact Or.inr (Or.inr y)) | (rw [y] at z; cases z)
        | 1, z =>
          refine Or.inr (Or.inl ⟨rfl, ?_⟩)
          rcases hkd with y | y | y | y | y | y | y | y | y <;> first | (exact Or.inl y) | (exact Or.inr (Or.inl y)) | (exact Or.inr (Or.inr y)) | (rw [y] at z; cases z)
        | w + 2, z =>
          refine Or.inr (Or.inr ⟨rfl, ?_⟩)
          rcases hkd with y | y | y | y | y | y | y | y | y <;> first | (exact Or.inl y) | (exact Or.inr (Or.inl y)) | (exact Or.inr (Or.inr y)) | (rw [y] at z; cases z)
      refine am_s_call hC hX.1 hH hX.2.2.2.1 hX.2.2.2.2.1 a2 hg (fun d0 as h o2 h2 hl hq9 => ?_) hins hdec nx jm hrun
      rw [← a2.1] at hl hq9
      exact hmet en2 a1 d0 as h o2 h2 hl hq9
theorem am_inv9 {ih : AK} {k cnt : Nat} (hC : am_Cx K p s m args c en.2.2.1 en.1) (hX : am_FX l R meth c en d) (hM : ∀ own k q, am_M own k = some q → am_MO own k q) (hg : am_gk ih) (hdec : decode en.2.2.1 pc = .ok (.invokeinterface k cnt, 5)) (nx : am_Nx K p l e R s m args below meth c en.1 o h1 (pc + 5) d ih r) (hmet : am_mt K l ih) (hw : (match am_M en.1.1 k with | some q => Nat.beq q.1 9 | none => true) = true) (hrun : (match am_M en.1.1 k with | some q => am_call ih en.1 pc r ls st h d q | none => none) = some (o, h1)) : am_G K p l e R s m args below meth c en.1 o h1 pc ls st h := by
  cases hq : am_M en.1.1 k with
  | none => rw [hq] at hrun; cases hrun
  | some q =>
    rw [hq] at hrun hw
    have hrun : am_call ih en.1 pc r ls st h d q = some (o, h1) := hrun
    have hk : q.1 = 9 := Nat.eq_of_beq_eq_true hw
    rcases hM _ _ _ hq with ⟨a1, a2, a3⟩ | ⟨a1, a2, a3⟩ | ⟨a1, a2, a3⟩ | a1 | ⟨a1, a2, a3⟩ | ⟨a1, a2, a3⟩ | ⟨en2, a1, a2⟩ | ⟨en2, a1, a2⟩
    · omega
    · omega
    · omega
    · rcases a1 with z | z | z <;> (have := z.1; omega)
    · omega
    · omega
    · refine am_s_callF hC hX.2.2.2.2.1 a2 hg (fun d0 as h o2 h2 hl hq9 => ?_) hdec nx hrun
      rw [← a2.1] at hl hq9
      exact hmet en2 a1 d0 as h o2 h2 hl hq9
    · exfalso
      rcases a2.2.2.2.2.2.2 with z | z | z | z | z | z | z | z | z | z <;> (have := z.1; omega)
theorem am_ivk_of {own k w : Nat} (h : (match am_M own k with | some q => am_ivk w q.1 | none => true) = true) : ∀ q, am_M own k = some q → am_ivk w q.1 = true := by
  intro q hq
  rw [hq] at h
  exact h
theorem am_jmp_ck {t : Nat} : ∀ {l : List CI}, am_ck en l = true → am_ck en (am_jmp t l) = true ∧ ∀ e r, am_jmp t l = e :: r → e.1 = t
  | [], _ => ⟨rfl, fun _ _ h => by cases h⟩
  | e :: r, hc => by
    have hu : am_jmp t (e :: r) = bif Nat.beq t e.1 then e :: r else am_jmp t r := rfl
    rw [hu]
    cases hb : Nat.beq t e.1 with
    | true => exact ⟨hc, fun e2 r2 h2 => by cases h2; exact (Nat.eq_of_beq_eq_true hb).symm⟩
    | false => exact am_jmp_ck (Bool.and_eq_true_iff.mp hc).2
/-- THE SIMULATION: what the abstract machine comes to, the machine comes to -/
theorem am_body (hT : am_TB) : ∀ (f : Nat), am_mt K l (am_ev f) → ∀ {p : Program} {e : Env} {R : Room} {s : State} {m : MethodId} {args : Array Value} {below : List Frame} {meth : Method} {c : Code} {o : AO} {h1 : AH} {d : Nat} {en : ME}, am_ck en en.1.2.2.1 = true → am_HR en.1.1 en.1.2.1 en.2.2.1 en.1.2.2.2 (en.2.2.2.2.getD []) → am_Cx K p s m args c en.2.2.1 en.1 → am_FX l R meth c en d → (∀ (pc : Nat) (rest : List CI) (ls : AL) (st : List AV) (h : AH), am_ck en rest = true → (∀ e r, rest = e :: r → e.1 = pc) → am_ev f en.1 rest ls st h d = some (o, h1) → am_G K p l e R s m args below meth c en.1 o h1 pc ls st h) → ∀ (pc : Nat) (rest : List CI) (ls : AL) (st : List AV) (h : AH), am_ck en rest = true → (∀ e r, rest = e :: r → e.1 = pc) → am_ev (f + 1) en.1 rest ls st h d = some (o, h1) → am_G K p l e R s m args below meth c en.1 o h1 pc ls st h := by
  intro f hmet p e R s m args below meth c o h1 d en hK hH hC hX ih pc rest ls st h hck hpc hrun
  have hrun : am_step (am_ev f) en.1 rest ls st h d = some (o, h1) := hrun
  have hx := hC.1
  have hb := hC.2.1
  cases rest with
  | nil => cases hrun
  | cons ci r =>
    obtain ⟨pc', ins, len, tgt⟩ := ci
    have hp : pc' = pc := hpc _ _ rfl
    subst hp
    obtain ⟨hck, hckr⟩ := Bool.and_eq_true_iff.mp hck
    obtain ⟨hck, hnck⟩ := Bool.and_eq_true_iff.mp hck
    obtain ⟨hck, hick⟩ := Bool.and_eq_true_iff.mp hck
    obtain ⟨hdck, hlck⟩ := Bool.and_eq_true_iff.mp hck
    have hdec : decode en.2.2.1 pc' = .ok (ins, len) := am_dck_ok hdck
    have hlen : am_sw ins = false → len = am_len ins := fun z => by
      have hlck : (am_sw ins || Nat.beq len (am_len ins)) = true := hlck
      rw [z] at hlck
      exact Nat.eq_of_beq_eq_true hlck
    have hnx : am_Nx K p l e R s m args below meth c en.1 o h1 (pc' + len) d (am_ev f) r := fun ls2 st2 h2 hq => ih _ r ls2 st2 h2 hckr (fun e2 r2 hr => by
      subst hr
      exact Nat.eq_of_beq_eq_true hnck) hq
    have hjm : am_Jm K p l e R s m args below meth c en.1 o h1 d (am_ev f) := fun t2 ls2 st2 h2 hq => ih _ _ ls2 st2 h2 (am_jmp_ck hK).1 (am_jmp_ck hK).2 hq
    cases ins with
    | iconst n =>
      have hl : len = 1 := hlen rfl
      subst hl
      exact am_s_iconst hx hb hdec (hnx) hrun
    | lconst n =>
      have hl : len = 1 := hlen rfl
      subst hl
      exact am_s_lconst hx hb hdec (hnx) hrun
    | aconst_null =>
      have hl : len = 1 := hlen rfl
      subst hl
      exact am_s_aconst_null hx hb hdec (hnx) hrun
    | fconst n =>
      have hl : len = 1 := hlen rfl
      subst hl
      exact am_s_fconst hx hb hdec (hnx) hrun
    | dconst n =>
      have hl : len = 1 := hlen rfl
      subst hl
      exact am_s_dconst hx hb hdec (hnx) hrun
    | iload_n k =>
      have hl : len = 1 := hlen rfl
      subst hl
      exact am_s_iload_n hx hb hdec (hnx) hrun
    | fload_n k =>
      have hl : len = 1 := hlen rfl
      subst hl
      exact am_s_fload_n hx hb hdec (hnx) hrun
    | dload_n k =>
      have hl : len = 1 := hlen rfl
      subst hl
      exact am_s_dload_n hx hb hdec (hnx) hrun
    | aload_n k =>
      have hl : len = 1 := hlen rfl
      subst hl
      exact am_s_aload_n hx hb hdec (hnx) hrun
    | dup =>
      have hl : len = 1 := hlen rfl
      subst hl
      exact am_s_dup hx hb hdec (hnx) hrun
    | pop =>
      have hl : len = 1 := hlen rfl
      subst hl
      exact am_s_pop hx hb hdec (hnx) hrun
    | dup_x1 =>
      have hl : len = 1 := hlen rfl
      subst hl
      exact am_s_dup_x1 hx hb hdec (hnx) hrun
    | dup2 =>
      have hl : len = 1 := hlen rfl
      subst hl
      exact am_s_dup2 hx hb hdec (hnx) hrun
    | iadd =>
      have hl : len = 1 := hlen rfl
      subst hl
      exact am_s_iadd hx hb hdec (hnx) hrun
    | isub =>
      have hl : len = 1 := hlen rfl
      subst hl
      exact am_s_isub hx hb hdec (hnx) hrun
    | imul =>
      have hl : len = 1 := hlen rfl
      subst hl
      exact am_s_imul hx hb hdec (hnx) hrun
    | iand =>
      have hl : len = 1 := hlen rfl
      subst hl
      exact am_s_iand hx hb hdec (hnx) hrun
    | ior =>
      have hl : len = 1 := hlen rfl
      subst hl
      exact am_s_ior hx hb hdec (hnx) hrun
    | ixor =>
      have hl : len = 1 := hlen rfl
      subst hl
      exact am_s_ixor hx hb hdec (hnx) hrun
    | ishl =>
      have hl : len = 1 := hlen rfl
      subst hl
      exact am_s_ishl hx hb hdec (hnx) hrun
    | ishr =>
      have hl : len = 1 := hlen rfl
      subst hl
      exact am_s_ishr hx hb hdec (hnx) hrun
    | iushr =>
      have hl : len = 1 := hlen rfl
      subst hl
      exact am_s_iushr hx hb hdec (hnx) hrun
    | idiv =>
      have hl : len = 1 := hlen rfl
      subst hl
      exact am_s_idiv hx hb hdec (hnx) hrun
    | irem =>
      have hl : len = 1 := hlen rfl
      subst hl
      exact am_s_irem hx hb hdec (hnx) hrun
    | ineg =>
      have hl : len = 1 := hlen rfl
      subst hl
      exact am_s_ineg hx hb hdec (hnx) hrun
    | i2b =>
      have hl : len = 1 := hlen rfl
      subst hl
      exact am_s_i2b hx hb hdec (hnx) hrun
    | i2c =>
      have hl : len = 1 := hlen rfl
      subst hl
      exact am_s_i2c hx hb hdec (hnx) hrun
    | i2l =>
      have hl : len = 1 := hlen rfl
      subst hl
      exact am_s_i2l hx hb hdec (hnx) hrun
    | i2d =>
      have hl : len = 1 := hlen rfl
      subst hl
      exact am_s_i2d hx hb hdec (hnx) hrun
    | i2f =>
      have hl : len = 1 := hlen rfl
      subst hl
      exact am_s_i2f hx hb hdec (hnx) hrun
    | lcmp =>
      have hl : len = 1 := hlen rfl
      subst hl
      exact am_s_lcmp hx hb hdec (hnx) hrun
    | dcmp op =>
      have hl : len = 1 := hlen rfl
      subst hl
      exact am_s_dcmp hx hb hdec (hnx) hrun
    | fcmp op =>
      have hl : len = 1 := hlen rfl
      subst hl
      exact am_s_fcmp hx hb hdec (hnx) hrun
    | ddiv =>
      have hl : len = 1 := hlen rfl
      subst hl
      exact am_s_ddiv hx hb hdec (hnx) hrun
    | fdiv =>
      have hl : len = 1 := hlen rfl
      subst hl
      exact am_s_fdiv hx hb hdec (hnx) hrun
    | f2d =>
      have hl : len = 1 := hlen rfl
      subst hl
      exact am_s_f2d hx hb hdec (hnx) hrun
    | bipush n =>
      have hl : len = 2 := hlen rfl
      subst hl
      exact am_s_bipush hx hb hdec (hnx) hrun
    | iload k =>
      have hl : len = 2 := hlen rfl
      subst hl
      exact am_s_iload hx hb hdec (hnx) hrun
    | fload k =>
      have hl : len = 2 := hlen rfl
      subst hl
      exact am_s_fload hx hb hdec (hnx) hrun
    | dload k =>
      have hl : len = 2 := hlen rfl
      subst hl
      exact am_s_dload hx hb hdec (hnx) hrun
    | aload k =>
      have hl : len = 2 := hlen rfl
      subst hl
      exact am_s_aload hx hb hdec (hnx) hrun
    | sipush n =>
      have hl : len = 3 := hlen rfl
      subst hl
      exact am_s_sipush hx hb hdec (hnx) hrun
    | istore_n k =>
      have hl : len = 1 := hlen rfl
      subst hl
      exact am_s_istore_n hx hb (Nat.blt_eq.mp hick) hdec (hnx) hrun
    | fstore_n k =>
      have hl : len = 1 := hlen rfl
      subst hl
      exact am_s_fstore_n hx hb (Nat.blt_eq.mp hick) hdec (hnx) hrun
    | astore_n k =>
      have hl : len = 1 := hlen rfl
      subst hl
      exact am_s_astore_n hx hb (Nat.blt_eq.mp hick) hdec (hnx) hrun
    | dstore_n k =>
      have hl : len = 1 := hlen rfl
      subst hl
      exact am_s_dstore_n hx hb (Nat.blt_eq.mp hick) hdec (hnx) hrun
    | istore k =>
      have hl : len = 2 := hlen rfl
      subst hl
      exact am_s_istore hx hb (Nat.blt_eq.mp hick) hdec (hnx) hrun
    | fstore k =>
      have hl : len = 2 := hlen rfl
      subst hl
      exact am_s_fstore hx hb (Nat.blt_eq.mp hick) hdec (hnx) hrun
    | astore k =>
      have hl : len = 2 := hlen rfl
      subst hl
      exact am_s_astore hx hb (Nat.blt_eq.mp hick) hdec (hnx) hrun
    | dstore k =>
      have hl : len = 2 := hlen rfl
      subst hl
      exact am_s_dstore hx hb (Nat.blt_eq.mp hick) hdec (hnx) hrun
    | iinc k n =>
      have hl : len = 3 := hlen rfl
      subst hl
      exact am_s_iinc hx hb (Nat.blt_eq.mp hick) hdec (hnx) hrun
    | iaload =>
      have hl : len = 1 := hlen rfl
      subst hl
      exact am_s_iaload hC hdec (hnx) hrun
    | baload =>
      have hl : len = 1 := hlen rfl
      subst hl
      exact am_s_baload hC hdec (hnx) hrun
    | laload =>
      have hl : len = 1 := hlen rfl
      subst hl
      exact am_s_laload hC hdec (hnx) hrun
    | aaload =>
      have hl : len = 1 := hlen rfl
      subst hl
      exact am_s_aaload hC hdec (hnx) hrun
    | arraylength =>
      have hl : len = 1 := hlen rfl
      subst hl
      exact am_s_arraylength hC hdec (hnx) hrun
    | iastore =>
      have hl : len = 1 := hlen rfl
      subst hl
      exact am_s_iastore hC hdec (hnx) hrun
    | bastore =>
      have hl : len = 1 := hlen rfl
      subst hl
      exact am_s_bastore hC hdec (hnx) hrun
    | lastore =>
      have hl : len = 1 := hlen rfl
      subst hl
      exact am_s_lastore hC hdec (hnx) hrun
    | aastore =>
      have hl : len = 1 := hlen rfl
      subst hl
      exact am_s_aastore hC hdec (hnx) hrun
    | ifCond cc off =>
      have hl : len = 3 := hlen rfl
      subst hl
      cases cc with
      | eq => exact am_s_if_eq hx hb (of_decide_eq_true hick) hdec (hnx) hjm hrun
      | ne => exact am_s_if_ne hx hb (of_decide_eq_true hick) hdec (hnx) hjm hrun
      | lt => exact am_s_if_lt hx hb (of_decide_eq_true hick) hdec (hnx) hjm hrun
      | ge => exact am_s_if_ge hx hb (of_decide_eq_true hick) hdec (hnx) hjm hrun
      | gt => exact am_s_if_gt hx hb (of_decide_eq_true hick) hdec (hnx) hjm hrun
      | le => exact am_s_if_le hx hb (of_decide_eq_true hick) hdec (hnx) hjm hrun
    | if_icmp cc off =>
      have hl : len = 3 := hlen rfl
      subst hl
      cases cc with
      | eq => exact am_s_icmp_eq hx hb (of_decide_eq_true hick) hdec (hnx) hjm hrun
      | ne => exact am_s_icmp_ne hx hb (of_decide_eq_true hick) hdec (hnx) hjm hrun
      | lt => exact am_s_icmp_lt hx hb (of_decide_eq_true hick) hdec (hnx) hjm hrun
      | ge => exact am_s_icmp_ge hx hb (of_decide_eq_true hick) hdec (hnx) hjm hrun
      | gt => exact am_s_icmp_gt hx hb (of_decide_eq_true hick) hdec (hnx) hjm hrun
      | le => exact am_s_icmp_le hx hb (of_decide_eq_true hick) hdec (hnx) hjm hrun
    | if_acmp cc off =>
      have hl : len = 3 := hlen rfl
      subst hl
      cases cc with
      | eq => exact am_s_acmp_eq hC (of_decide_eq_true hick) hdec (hnx) hjm hrun
      | ne => exact am_s_acmp_ne hC (of_decide_eq_true hick) hdec (hnx) hjm hrun
    | ifnull off =>
      have hl : len = 3 := hlen rfl
      subst hl
      exact am_s_ifnull hx hb (of_decide_eq_true hick) hdec (hnx) hjm hrun
    | ifnonnull off =>
      have hl : len = 3 := hlen rfl
      subst hl
      exact am_s_ifnonnull hx hb (of_decide_eq_true hick) hdec (hnx) hjm hrun
    | goto off =>
      have hl : len = 3 := hlen rfl
      subst hl
      exact am_s_goto hx hb (of_decide_eq_true hick) hdec hnx hjm hrun
    | tableswitch dflt lo hi offs => exact am_s_tableswitch hC hdec hjm hrun
    | lookupswitch dflt ps => exact am_s_lookupswitch hC hick hdec hjm hrun
    | getfield k =>
      have hl : len = 3 := hlen rfl
      subst hl
      exact am_s_getfield hC (hT.1 _ k) hdec (hnx) hrun
    | putfield k =>
      have hl : len = 3 := hlen rfl
      subst hl
      exact am_s_putfield hC (hT.1 _ k) (am_fin hick hX.2.2.1) hdec (hnx) hrun
    | getstatic k =>
      have hl : len = 3 := hlen rfl
      subst hl
      exact am_s_getstatic hC hdec (hnx) hrun
    | ldc k =>
      have hl : len = 2 := hlen rfl
      subst hl
      exact am_s_ldc hC hdec (hnx) hrun
    | ldc_w k =>
      have hl : len = 3 := hlen rfl
      subst hl
      exact am_s_ldc_w hC hdec (hnx) hrun
    | newarray ty =>
      have hl : len = 2 := hlen rfl
      subst hl
      exact am_s_newarray hC (hT.2.2.2.1 ty) (fun _ _ _ z => am_mono z) hdec (hnx) hrun
    | anewarray k =>
      have hl : len = 3 := hlen rfl
      subst hl
      cases hA : am_A en.1.1 k with
      | none => exact (am_no_anew hA hrun).elim
      | some tg => exact am_s_anewarray hC hA (hT.2.2.1 _ k tg hA) (fun _ _ _ z => am_mono z) hdec (hnx) hrun
    | new k =>
      have hl : len = 3 := hlen rfl
      subst hl
      cases hN : am_N en.1.1 k with
      | none => exact (am_no_new hN hrun).elim
      | some v =>
        obtain ⟨m9, tg, E⟩ := v
        have hick : (match am_N en.1.1 k with | some (m, tg, E) => bif Nat.beq m 0 then true else Nat.beq m 1 && Nat.beq en.1.1 11 && Nat.blt E 3 && en.2.2.2.2.isNone && Nat.beq tg 0 && Nat.beq k (am_ik E).1 && am_tck en.2.2.1 pc' (am_ik E).2 | none => true) = true := hick
        rw [hN] at hick
        have hick : (bif Nat.beq m9 0 then true else Nat.beq m9 1 && Nat.beq en.1.1 11 && Nat.blt E 3 && en.2.2.2.2.isNone && Nat.beq tg 0 && Nat.beq k (am_ik E).1 && am_tck en.2.2.1 pc' (am_ik E).2) = true := hick
        cases hm : Nat.beq m9 0 with
        | true =>
          have hm := Nat.eq_of_beq_eq_true hm
          subst hm
          exact am_s_new hC hN (hT.2.1 _ k tg E hN) (fun _ _ _ z => am_mono z) hdec (hnx) hrun
        | false =>
          rw [hm] at hick
          exact am_new_thr hC hX hN hick hdec hrun
    | return_ =>
      have hl : len = 1 := hlen rfl
      subst hl
      have hr9 : en.2.2.2.1 = none := Option.isNone_iff_eq_none.mp hick
      exact am_s_return_ hC hX.1 (hX.2.1.trans hr9) hdec hrun
    | ireturn =>
      have hl : len = 1 := hlen rfl
      subst hl
      exact am_s_ireturn hC hX.1 (hX.2.1.trans (of_decide_eq_true hick)) hdec hrun
    | freturn =>
      have hl : len = 1 := hlen rfl
      subst hl
      exact am_s_freturn hC hX.1 (hX.2.1.trans (of_decide_eq_true hick)) hdec hrun
    | dreturn =>
      have hl : len = 1 := hlen rfl
      subst hl
      exact am_s_dreturn hC hX.1 (hX.2.1.trans (of_decide_eq_true hick)) hdec hrun
    | areturn =>
      have hl : len = 1 := hlen rfl
      subst hl
      obtain ⟨rt9, e9, hro⟩ := am_ref_ret hick
      exact am_s_areturn hC hX.1 (hX.2.1.trans e9) hro hdec hrun
    | lload_n k =>
      have hl : len = 1 := hlen rfl
      subst hl
      exact am_s_lload_n hx hb hdec (hnx) hrun
    | lload k =>
      have hl : len = 2 := hlen rfl
      subst hl
      exact am_s_lload hx hb hdec (hnx) hrun
    | lstore_n k =>
      have hl : len = 1 := hlen rfl
      subst hl
      exact am_s_lstore_n hx hb (Nat.blt_eq.mp hick) hdec (hnx) hrun
    | lstore k =>
      have hl : len = 2 := hlen rfl
      subst hl
      exact am_s_lstore hx hb (Nat.blt_eq.mp hick) hdec (hnx) hrun
    | ladd =>
      have hl : len = 1 := hlen rfl
      subst hl
      exact am_s_ladd hx hb hdec (hnx) hrun
    | lsub =>
      have hl : len = 1 := hlen rfl
      subst hl
      exact am_s_lsub hx hb hdec (hnx) hrun
    | lmul =>
      have hl : len = 1 := hlen rfl
      subst hl
      exact am_s_lmul hx hb hdec (hnx) hrun
    | land =>
      have hl : len = 1 := hlen rfl
      subst hl
      exact am_s_land hx hb hdec (hnx) hrun
    | lshl =>
      have hl : len = 1 := hlen rfl
      subst hl
      exact am_s_lshl hx hb hdec (hnx) hrun
    | ldc2_w k =>
      have hl : len = 3 := hlen rfl
      subst hl
      exact am_s_ldc2_w hC (hT.2.2.2.2.2.2 _ k) hdec (hnx) hrun
    | checkcast k =>
      have hl : len = 3 := hlen rfl
      subst hl
      exact am_s_checkcast hC (hT.2.2.2.2.2.1 _ k) hdec (hnx) hrun
    | lreturn =>
      have hl : len = 1 := hlen rfl
      subst hl
      exact am_s_lreturn hC hX.1 (hX.2.1.trans (of_decide_eq_true hick)) hdec hrun
    | invokeinterface k cnt =>
      have hl : len = 5 := hlen rfl
      subst hl
      exact am_inv9 hC hX hT.2.2.2.2.1 (am_ge_ev f) hdec hnx hmet hick hrun
    | invokevirtual k =>
      have hl : len = 3 := hlen rfl
      subst hl
      exact am_inv (w := 0) hC hH hX hT.2.2.2.2.1 (am_ge_ev f) hdec hnx hjm hmet (am_ivk_of hick) hrun
    | invokestatic k =>
      have hl : len = 3 := hlen rfl
      subst hl
      exact am_inv (w := 1) hC hH hX hT.2.2.2.2.1 (am_ge_ev f) hdec hnx hjm hmet (am_ivk_of hick) hrun
    | invokespecial k =>
      have hl : len = 3 := hlen rfl
      subst hl
      exact am_inv (w := 2) hC hH hX hT.2.2.2.2.1 (am_ge_ev f) hdec hnx hjm hmet (am_ivk_of hick) hrun
    | _ => cases hrun
theorem am_args_len {va : Nat → Nat} : ∀ as : List AV, (lg_sl (as.map (am_rv K va))).length = (am_args as).length
  | [] => rfl
  | v :: t => by
    have h1 := am_args_len (va := va) t
    have h2 : lg_sl ((v :: t).map (am_rv K va)) = (if (am_rv K va v).category = 2 then [.val (am_rv K va v), .second] else [.val (am_rv K va v)]) ++ lg_sl (t.map (am_rv K va)) := rfl
    have h3 : am_args (v :: t) = bif am_cat2 v then some v :: none :: am_args t else some v :: am_args t := rfl
    rw [h2, h3, am_cat]
    cases am_cat2 v with
    | true =>
      rw [if_pos rfl, if_pos rfl, cond_true, List.length_append, h1]
      show 2 + _ = _ + 1 + 1
      omega
    | false =>
      have e1 : ¬ ((if (false : Bool) = true then 2 else 1) = 2) := by decide
      rw [if_neg e1, cond_false, List.length_append, h1]
      show 1 + _ = _ + 1
      omega
theorem am_args_in {va : Nat → Nat} : ∀ (as : List AV) (n i : Nat) (v : AV), (am_args as)[i]? = some (some v) → (n + i, am_rv K va v) ∈ lv_args n (as.map (am_rv K va))
  | [], n, i, v, h => by simp [am_args] at h
  | w :: t, n, i, v, h => by
    have h3 : am_args (w :: t) = bif am_cat2 w then some w :: none :: am_args t else some w :: am_args t := rfl
    have h4 : lv_args n ((w :: t).map (am_rv K va)) = (n, am_rv K va w) :: lv_args (if (am_rv K va w).category = 2 then n + 2 else n + 1) (t.map (am_rv K va)) := rfl
    rw [h3] at h
    rw [h4, am_cat]
    cases hw : am_cat2 w with
    | true =>
      rw [hw, cond_true] at h
      rw [if_pos rfl, if_pos rfl]
      match i, h with
      | 0, h =>
        have h : some (some w) = some (some v) := h
        cases h
        exact List.mem_cons_self
      | 1, h => cases h
      | i + 2, h =>
        have h5 := am_args_in (va := va) t (n + 2) i v h
        have e : n + 2 + i = n + (i + 2) := by omega
        rw [e] at h5
        exact List.mem_cons_of_mem _ h5
    | false =>
      rw [hw, cond_false] at h
      have e1 : ¬ ((if (false : Bool) = true then 2 else 1) = 2) := by decide
      rw [if_neg e1]
      match i, h with
      | 0, h =>
        have h : some (some w) = some (some v) := h
        cases h
        exact List.mem_cons_self
      | i + 1, h =>
        have h5 := am_args_in (va := va) t (n + 1) i v h
        have e : n + 1 + i = n + (i + 1) := by omega
        rw [e] at h5
        exact List.mem_cons_of_mem _ h5
theorem am_entry {va : Nat → Nat} {maxL : Nat} {as : List AV} (hl : (am_args as).length ≤ maxL) : am_LR K va maxL ((lg_sl (as.map (am_rv K va)) ++ List.replicate (maxL - (lg_sl (as.map (am_rv K va))).length) Slot.unset).toArray) (am_pad maxL (am_args as)) := by
  have h := lv_entry (as.map (am_rv K va)) (n := maxL) (by rw [am_args_len]; exact hl)
  refine ⟨h.1, h.2.1, fun i v hv => ?_⟩
  have hv2 : (am_args as)[i]? = some (some v) := by
    unfold am_pad at hv
    by_cases hi : i < (am_args as).length
    · rw [List.getElem?_append_left hi] at hv; exact hv
    · rw [List.getElem?_append_right (by omega), List.getElem?_replicate] at hv
      split at hv <;> cases hv
  have h5 := am_args_in (K := K) (va := va) as 0 i v hv2
  rw [Nat.zero_add] at h5
  exact h.2.2 _ h5
theorem am_run_body (hT : am_TB) {f : Nat} (hmt : ∀ g, g < f → am_mt K l (am_ev g)) {p : Program} {e : Env} {R : Room} {s : State} {m : MethodId} {args : Array Value} {below : List Frame} {meth : Method} {c : Code} {o : AO} {h1 : AH} {d : Nat} {en : ME} (hK : am_ck en en.1.2.2.1 = true) (hH : am_HR en.1.1 en.1.2.1 en.2.2.1 en.1.2.2.2 (en.2.2.2.2.getD [])) (hC : am_Cx K p s m args c en.2.2.1 en.1) (hX : am_FX l R meth c en d) : ∀ (g : Nat), g ≤ f → ∀ (pc : Nat) (rest : List CI) (ls : AL) (st : List AV) (h : AH), am_ck en rest = true → (∀ e r, rest = e :: r → e.1 = pc) → am_ev g en.1 rest ls st h d = some (o, h1) → am_G K p l e R s m args below meth c en.1 o h1 pc ls st h
  | 0, _, _, _, _, _, _, _, _, hq => by cases hq
  | g + 1, hg, pc, rest, ls, st, h, hck, hpc, hq => am_body hT g (hmt g (by omega)) hK hH hC hX (am_run_body hT hmt hK hH hC hX g (by omega)) pc rest ls st h hck hpc hq
theorem am_args_ok : ∀ (as : List AV) (i : Nat) (v : AV), (am_args as)[i]? = some (some v) → v ∈ as
  | [], i, v, h => by simp [am_args] at h
  | w :: t, i, v, h => by
    have h3 : am_args (w :: t) = bif am_cat2 w then some w :: none :: am_args t else some w :: am_args t := rfl
    rw [h3] at h
    cases hw : am_cat2 w with
    | true =>
      rw [hw, cond_true] at h
      match i, h with
      | 0, h =>
        have h : some (some w) = some (some v) := h
        cases h
        exact List.mem_cons_self
      | 1, h => cases h
      | i + 2, h => exact List.mem_cons_of_mem _ (am_args_ok t i v h)
    | false =>
      rw [hw, cond_false] at h
      match i, h with
      | 0, h =>
        have h : some (some w) = some (some v) := h
        cases h
        exact List.mem_cons_self
      | i + 1, h => exact List.mem_cons_of_mem _ (am_args_ok t i v h)
theorem am_ok_entry {va : Nat → Nat} {maxL : Nat} {as : List AV} (hag : am_agr K va h) (hok : ∀ v ∈ as, am_okv h v) : am_ok K va h (am_pad maxL (am_args as)) [] := by
  refine ⟨hag, fun i v hv => ?_, fun v hv => by cases hv⟩
  unfold am_pad at hv
  by_cases hi : i < (am_args as).length
  · rw [List.getElem?_append_left hi] at hv
    exact hok v (am_args_ok as i v hv)
  · rw [List.getElem?_append_right (by omega), List.getElem?_replicate] at hv
    split at hv <;> cases hv
theorem am_mtf (hT : am_TB) (hl : l.stackTraces = false) : ∀ f, am_mt K l (am_ev f) := by
  intro f
  induction f using Nat.strongRecOn with
  | _ f ih =>
    intro en hE d as h o h1 hlen hq B0
    have ih : ∀ g, g < f → am_mt (kB K B0) l (am_ev g) := ih
    show am_Ct (kB K B0) l en d as h o h1
    obtain ⟨hck, hwd, hpl, hHR, hcn, hz⟩ := hE
    have hE : am_EO en := ⟨hck, hwd, hpl, hHR, hcn, hz⟩
    have hz0 : ∀ e r, en.1.2.2.1 = e :: r → e.1 = 0 := fun e r he => by
      rw [he] at hz
      exact Nat.eq_of_beq_eq_true hz
    have core : ∀ (p : Program) (e : Env) (s : State) (m : MethodId) (args : Array Value) (below : List Frame) (meth : Method) (c : Code) (s₁ : State), BodyLoose p l en.2.1 (headSpec (am_wd en :: sg_T) (am_rm d h h1)) en.2.2.1 en.1.2.1 en.2.2.2.1 e s m args below meth c s₁ → c.maxLocals = en.1.2.1 → c.exceptionTable.toList.map am_tp = en.2.2.2.2.getD [] → am_Pc (kB K B0) as h args s → W p l e (headSpec (am_wd en :: sg_T) (am_rm d h h1)).room s m args below meth c s.heap [] 0 0 (vx_MQ below (am_Post (kB K B0) o h1) (am_PostX (kB K B0) o h1) args s (h1.nc - h.nc) (h1.ns - h.ns) (am_fr (kB K B0))) (entryFrame m args en.1.2.1) := by
      intro p e s m args below meth c s₁ B hml htab hPc
      obtain ⟨hargs, hR, hKn, hag, hok⟩ := hPc
      have hts := atoms_spec B.pre
      have hown : s.vm.findClass (am_cn en.1.1) = some m.cls := by rw [hcn]; exact findClass_of_methodNamed B.named
      have hC : am_Cx (kB K B0) p s m args c en.2.2.1 en.1 := ⟨B.exec, B.bytes, hml, hown, fun w hw => hts w (List.mem_cons_of_mem _ hw), hKn⟩
      have hX : am_FX l (am_rm d h h1) meth c en d := ⟨B.notSynchronized, B.returns, (name_of_methodNamed B.named B.method).1, htab, ⟨Nat.le_refl _, Nat.le_refl _⟩, hl⟩
      have hm := am_mono hq
      have hG := am_run_body (p := p) (e := e) (below := below) (K := kB K B0) hT ih hck hHR hC hX f (Nat.le_refl _) 0 en.1.2.2.1 _ [] h hck hz0 hq
      have hS : va_S (am_fr (kB K B0)) s.heap s.heap [] := ⟨Nat.le_refl _, fun _ _ _ => rfl, fun _ h => by cases h⟩
      have hw := hG (kv (kB K B0)) s.heap [] 0 0 _ hR hS (by show 0 + h1.nc ≤ (h1.nc - h.nc) + h.nc; omega) (by show 0 + h1.ns ≤ (h1.ns - h.ns) + h.ns; omega) (am_entry hlen) (am_ok_entry hag hok)
      rw [hargs, lg_entry_eq]
      rw [hargs] at hw
      exact hw
    show vx_Met l en.2.1 (am_wd en :: sg_T) (am_rm d h h1) (am_Pc (kB K B0) as h) (am_Post (kB K B0) o h1) (am_PostX (kB K B0) o h1) (h1.nc - h.nc) (h1.ns - h.ns) (am_fr (kB K B0))
    cases hh : en.2.2.2.2 with
    | none =>
      refine am_ofW (cc := en.2.2.1) (maxL := en.1.2.1) (ret := en.2.2.2.1) (ws' := sg_T) hpl (by unfold am_wd; rw [hh]) (fun p e s m args below meth c s₁ B hml hno hPc => core p e s m args below meth c s₁ B hml ?_ hPc)
      rw [hh]
      have h8 : c.exceptionTable.toList = [] := List.eq_nil_iff_forall_not_mem.mpr hno
      rw [h8]; rfl
    | some hl9 =>
      refine am_ofWH (cc := en.2.2.1) (maxL := en.1.2.1) (ret := en.2.2.2.1) (ws' := sg_T) (hh := hl9) hpl (by unfold am_wd; rw [hh]) (fun p e s m args below meth c s₁ B hml hPc => core p e s m args below meth c s₁ B hml ?_ hPc)
      rw [hh]
      have hwd9 : (am_wd en).before args s = true := atoms_spec B.pre _ List.mem_cons_self
      have hwe : am_wd en = Cond.codeWith en.2.1 en.2.2.1 en.1.2.1 en.2.2.2.1 hl9 := by unfold am_wd; rw [hh]
      rw [hwe] at hwd9
      obtain ⟨m9, meth9, c9, hn9, q1, q2, -, -, q3, -⟩ := Cond.codeWith_spec hwd9
      cases B.named.symm.trans hn9
      cases Option.some.inj (q1.symm.trans B.method)
      cases Option.some.inj (q2.symm.trans (Stand.of_body B).code)
      exact q3
end MAIN
