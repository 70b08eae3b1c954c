/-! Unsafe.getLong over a row of longs -/
def ug_p (r : NativeRow) : Bool := r.name == "getLong" && r.cls == "jdk/internal/misc/Unsafe" && r.desc == "(Ljava/lang/Object;J)J"
theorem ug_find_at.{u} {α : Type u} {p : α → Bool} : ∀ (n : Nat) (L : List α) (r : α), (L.take n).all (fun x => !p x) = true → L[n]? = some r → p r = true → L.find? p = some r
  | 0, [], r, _, h, _ => by cases h
  | 0, x :: L, r, _, h, hp => by
    have h : some x = some r := h
    cases h
    rw [List.find?_cons, hp]
  | n + 1, [], r, _, h, _ => by cases h
  | n + 1, x :: L, r, ha, h, hp => by
    have ha : (!p x && (L.take n).all (fun x => !p x)) = true := ha
    obtain ⟨h1, h2⟩ := Bool.and_eq_true_iff.mp ha
    have h3 : p x = false := by cases hx : p x <;> simp_all
    rw [List.find?_cons, h3]
    exact ug_find_at n L r h2 h hp
set_option maxRecDepth 1000000 in
theorem ug_pre : ((Jvm.natives.take 460).all (fun r => !ug_p r)) = true := by decide +kernel
set_option maxRecDepth 1000000 in
theorem ug_at : Jvm.natives[460]? = some (Native.jdk_internal_misc_Unsafe.memory.getRow "Long" "J" .long "" .plain) := by rfl
theorem ug_pp : ug_p (Native.jdk_internal_misc_Unsafe.memory.getRow "Long" "J" .long "" .plain) = true := by decide +kernel
set_option maxRecDepth 1000000 in
theorem ug_find : NativeRow.find? Jvm.natives "jdk/internal/misc/Unsafe" "getLong" "(Ljava/lang/Object;J)J" = some (Native.jdk_internal_misc_Unsafe.memory.getRow "Long" "J" .long "" .plain) := by
  show List.find? ug_p Jvm.natives = _
  exact @ug_find_at NativeRow ug_p 460 Jvm.natives (Native.jdk_internal_misc_Unsafe.memory.getRow "Long" "J" .long "" .plain) ug_pre ug_at ug_pp
set_option maxRecDepth 1000000 in
theorem ug_row (p : Program) : NativeRow.find? p.tables.natives "jdk/internal/misc/Unsafe" "getLong" "(Ljava/lang/Object;J)J" = some (Native.jdk_internal_misc_Unsafe.memory.getRow "Long" "J" .long "" .plain) := by
  cases p <;> exact ug_find

theorem ug_get {E : CtlPost} {e : Env} {d : Bool} {acts : List Action} {s : State} {a : Addr} {A : Cell} {k : Class} {comp : ClassId} {j : Nat} {off : Int64} {x : Int64} {Q : Value → Pre}
    (hA : s.heap[a]? = some A) (hvm : A.vm = .none) (hk : s.vm.classes[A.cls]? = some k) (hkind : k.kind = .array comp .long) (hneg : ¬ off < 0) (hoff : off.toNatClampNeg = 16 + 8 * j) (hx : A.slots[j]? = some (.long x))
    (hQ : ∀ d' acts', Q (.long x) d' acts' s) : wp (UnsafeMem.get .long (.ref a) off .plain) Q E e d acts s := by
  have e1 : 8 * j % 8 = 0 := by omega
  have e2 : 8 * j / 8 = j := by omega
  simp [UnsafeMem.get, UnsafeMem.locate, UnsafeMem.handedOut, hneg, hoff, hA, Cell.info, hvm, hk, hkind, UnsafeMem.arrayBase, UnsafeMem.scaleOf, UnsafeMem.isRefType, e1, e2, hx]
  exact hQ _ _
def yUgetLong : MethodName := ⟨"jdk/internal/misc/Unsafe", "getLong", "(Ljava/lang/Object;J)J"⟩
theorem ug_stand {p : Program} {l : Launch} {e : Env} {R : Room} {s : State} {m : MethodId} {args : Array Value} {below : List Frame} {meth : Method} {c : Code} {cells slots : Nat} {T : State} {locs : List Loc} (X : Stand p l e R s m args below meth c T locs cells slots) (hexec : p.tables.exec = Jvm.exec) {own : String} {index : Nat} (hown : s.vm.findClass own = some m.cls)
    (hlink : (Cond.methodLink own index yUgetLong).before args s = true) (hnat : (Cond.native yUgetLong).before args s = true) (hinst : (Cond.instanceMethod yUgetLong).before args s = true) (hsel : (Cond.selects "jdk/internal/misc/Unsafe" yUgetLong yUgetLong).before args s = true)
    {u a : Addr} {cu ca : Cell} (hu : T.heap[u]? = some cu) (huobj : cu.vm.isStatics = false) (hucls : s.vm.findClass "jdk/internal/misc/Unsafe" = some cu.cls)
    {ka : Class} {comp : ClassId} {j : Nat} {off x : Int64} (ha : T.heap[a]? = some ca) (hvm : ca.vm = .none) (hka : s.vm.classes[ca.cls]? = some ka) (hkind : ka.kind = .array comp .long) (hneg : ¬ off < 0) (hoff : off.toNatClampNeg = 16 + 8 * j) (hx : ca.slots[j]? = some (.long x))
    {g : JFrame} (hg : g.method = m) (hsize : g.locals.size = c.maxLocals) {rest : List Value} (hstack : g.stack = .long off :: .ref a :: .ref u :: rest) (hdg : decode c.code g.pc = .ok (.invokevirtual index, 3))
    (hframes : 1 ≤ R.frames) (hlocals : 2 * g.monitorRoom + (rest.map fun v => v.category).sum + 17 ≤ R.locals) :
    ∃ vm', Stand p l e R s m args below meth c (T.setVm vm') locs cells slots ∧
      ∀ target, Steps p.tables e below ((T.setVm vm').setTop { g with pc := g.pc + 3, stack := .long x :: rest }) target → Steps p.tables e below (T.setTop g) target := by
  obtain ⟨r, kO, methO, hnO, hmO, hkO, N⟩ := NativeOf.of_instance hnat hinst (ps := [.object "java/lang/Object", .long]) (ret := some .long) (by decide +kernel)
  obtain ⟨r', methO', hnO', hmO', -, habs⟩ := Cond.instanceMethod_spec hinst
  cases hnO.symm.trans hnO'
  cases hmO.symm.trans hmO'
  obtain ⟨c2, r2, m2, q1, q2, q3, q4, mk, hmk, hmki⟩ := Cond.selects_spec hsel
  cases hucls.symm.trans q1
  cases Option.some.inj (q2.symm.trans (State.methodFound?_of_named hnO (by decide)))
  cases hnO.symm.trans q3
  cases hkO.symm.trans hmk
  have hselP : selectMethod e.platform s.vm cu.cls r = .method r := by rw [Launch.admits_selectMethod X.admits]; exact q4
  obtain ⟨vm', X', step⟩ := X.invokevirtual hexec hown hlink hnO hmO N.static hkO hmki (by decide) hu (fun k hk => by rw [hk] at huobj; cases huobj) hselP hmO habs hkO hmki hg (argsL := [.ref a, .long off]) (rest := rest) (by rw [N.sig]; rfl) hstack hdg
  refine ⟨vm', X', fun target hrest => step target fun acts => ?_⟩
  subst hg
  have hA' : s.vm.Alike vm' := X'.warmed.alike
  obtain ⟨kO', N'⟩ := N.alike hA'
  obtain ⟨ka', hka', hea⟩ := hA'.2.2 _ _ hka
  have hseen : seenByNative methO #[.ref u, .ref a, .long off] = #[.ref u, .ref a, .long off] := by simp [seenByNative, N'.static, N'.sig, narrow]
  refine Steps.nativeEnds (g := { g with stack := rest }) (ig := .invokevirtual index) (len := 3) (row := Native.jdk_internal_misc_Unsafe.memory.getRow "Long" "J" .long "" .plain) (v := some (.long x)) (T := id) X'.here acts N'.cls N'.meth N'.boot N'.native N'.noCode N'.noLock
    (by rw [N'.className, N'.name, N'.desc]; exact ug_row p) (by rw [N'.className, N'.name]; exact X'.notFull (g := { g with stack := rest }) hsize (vars := nativeFrameWords "jdk/internal/misc/Unsafe" "getLong" 4) hframes (by rw [show nativeFrameWords "jdk/internal/misc/Unsafe" "getLong" 4 = 6 from by decide +kernel]; exact hlocals)) (fun _ => rfl) rfl (fun fs => X'.here.code) ?_ hdg hrest
  intro Q hq
  rw [hseen] at hq ⊢
  show wp (do let v ← UnsafeMem.get .long (.ref a) off .plain; mark "nat.jdk_internal_misc_Unsafe.get"; Pure.pure (some v)) Q _ e false [] _
  simp only [wp_bind']
  refine ug_get (A := ca) (k := ka') (comp := comp) (j := j) ha hvm hka' (by rw [hea]; exact hkind) hneg hoff hx fun d' acts' => ?_
  simp
  exact hq _ _
section KZ
variable {K : AKx} {p : Program} {l : Launch} {e : Env} {R : Room} {s : State} {m : MethodId} {args : Array Value} {below : List Frame} {meth : Method} {c : Code} {bytes : ByteArray} {mr : MR} {o : AO} {h1 : AH} {ih : AK} {pc len tgt d : Nat} {r : List CI} {ls : AL} {st : List AV} {h : AH}
theorem am_W_getLong {H : Heap} {locs : List Loc} {cells slots : Nat} {Q : State → Prop} {lsr : Array Slot} {rest : List Value} (hexec : p.tables.exec = Jvm.exec) (hb : c.code = bytes) (hml : c.maxLocals = lsr.size) {own : String} {index : Nat} (hown : s.vm.findClass own = some m.cls)
    (hlink : (Cond.methodLink own index yUgetLong).before args s = true) (hnat : (Cond.native yUgetLong).before args s = true) (hinst : (Cond.instanceMethod yUgetLong).before args s = true) (hsel : (Cond.selects "jdk/internal/misc/Unsafe" yUgetLong yUgetLong).before args s = true)
    {u a : Addr} {cu ca : Cell} (hu : H[u]? = some cu) (huobj : cu.vm.isStatics = false) (hucls : s.vm.findClass "jdk/internal/misc/Unsafe" = some cu.cls)
    {ka : Class} {comp : ClassId} {j : Nat} {off x : Int64} (ha : H[a]? = some ca) (hvm : ca.vm = .none) (hka : s.vm.classes[ca.cls]? = some ka) (hkind : ka.kind = .array comp .long) (hneg : ¬ off < 0) (hoff : off.toNatClampNeg = 16 + 8 * j) (hx : ca.slots[j]? = some (.long x))
    (hframes : 1 ≤ R.frames) (hlocals : (rest.map fun v => v.category).sum + 17 ≤ R.locals) (hdg : decode bytes pc = .ok (.invokevirtual index, 3))
    (kk : W p l e R s m args below meth c H locs cells slots Q (F0 m (pc + 3) lsr (.long x :: rest))) : W p l e R s m args below meth c H locs cells slots Q (F0 m pc lsr (.long off :: .ref a :: .ref u :: rest)) := by
  intro T hT X
  obtain ⟨vm', X', st⟩ := ug_stand X hexec hown hlink hnat hinst hsel (u := u) (a := a) (by rw [hT]; exact hu) huobj hucls (by rw [hT]; exact ha) hvm hka hkind hneg hoff hx (g := F0 m pc lsr (.long off :: .ref a :: .ref u :: rest)) rfl (by rw [hml]) rfl (by rw [hb]; exact hdg) hframes (by show 2 * 0 + _ + 17 ≤ _; omega)
  obtain ⟨t, a1, b1⟩ := kk (T.setVm vm') (by rw [← hT]; rfl) X'
  exact ⟨t, st t a1, b1⟩
theorem am_three {v0 v1 v2 : AV} {f : Nat → Nat × Nat → Int64 → AR} {x : AO × AH} (h : (match [v0, v1, v2] with | [Sum.inr (Sum.inr (Sum.inr (Sum.inl u))), Sum.inr (Sum.inr (Sum.inr (Sum.inr q))), Sum.inl (Value.long off)] => f u q off | _ => none) = some x) : ∃ u q off, v0 = zr u ∧ v1 = dr q.1 q.2 ∧ v2 = Sum.inl (Value.long off) ∧ f u q off = some x := by
  split at h
  · next heq =>
    cases heq
    exact ⟨_, _, _, rfl, rfl, rfl, h⟩
  · cases h
/-- Unsafe.getLong -/
theorem am_k8 {k : Nat} {q : Nat × Nat × Nat × MR} (hC : am_Cx K p s m args c bytes mr) (hfr : d ≤ R.frames ∧ 41 * d ≤ R.locals) (hq : q.1 = 8 ∧ q.2.1 = 2) (hw : Cond.methodLink (am_cn mr.1) k yUgetLong ∈ sg_T ∧ Cond.native yUgetLong ∈ sg_T ∧ Cond.instanceMethod yUgetLong ∈ sg_T ∧ Cond.selects "jdk/internal/misc/Unsafe" yUgetLong yUgetLong ∈ sg_T) (hdec : decode bytes pc = .ok (.invokevirtual k, 3)) (nx : am_Nx K p l e R s m args below meth c mr o h1 (pc + 3) d ih r) (hrun : am_call ih mr pc r ls st h d q = some (o, h1)) : am_G K p l e R s m args below meth c mr o h1 pc ls st h := by
  intro va H locs cells slots lsr hR hS hc hs hL hO
  obtain ⟨hx, hb, hml, hown, hts, hKn⟩ := hC
  unfold am_call at hrun
  dsimp only at hrun
  rw [hq.1, hq.2] at hrun
  have hn : (bif am_stk 8 || Nat.beq 8 10 || Nat.beq 8 11 then 2 else 2 + 1) = 3 := rfl
  rw [hn] at hrun
  rcases st with _ | ⟨v2, _ | ⟨v1, _ | ⟨v0, t⟩⟩⟩
  · cases hrun
  · cases hrun
  · cases hrun
  · have hrun : (bif !(Nat.ble (am_sum t) 8) then none else (match (generalizing := false) [v0, v1, v2] with | [Sum.inr (Sum.inr (Sum.inr (Sum.inl u))), Sum.inr (Sum.inr (Sum.inr (Sum.inr q))), Sum.inl (Value.long off)] => (if u = 3007 ∧ q.1 = 103 ∧ 3 ≤ d ∧ ¬ off < 0 ∧ off.toNatClampNeg = 16 + 8 * ((off.toNatClampNeg - 16) / 8) ∧ (off.toNatClampNeg - 16) / 8 < h.dl q.2 then ih mr r ls (Sum.inl (Value.long (h.lg q.2 ((off.toNatClampNeg - 16) / 8))) :: t) h d else none) | _ => none)) = some (o, h1) := hrun
    cases g2 : Nat.ble (am_sum t) 8 with
    | false => rw [g2] at hrun; cases hrun
    | true =>
      rw [g2] at hrun
      have hsum := am_sum_cat (K := K) (va := va) g2
      obtain ⟨u, q9, off, rfl, rfl, rfl, hrun2⟩ := am_three (f := fun u q off => if u = 3007 ∧ q.1 = 103 ∧ 3 ≤ d ∧ ¬ off < 0 ∧ off.toNatClampNeg = 16 + 8 * ((off.toNatClampNeg - 16) / 8) ∧ (off.toNatClampNeg - 16) / 8 < h.dl q.2 then ih mr r ls (Sum.inl (Value.long (h.lg q.2 ((off.toNatClampNeg - 16) / 8))) :: t) h d else none) hrun
      by_cases hcond : u = 3007 ∧ q9.1 = 103 ∧ 3 ≤ d ∧ ¬ off < 0 ∧ off.toNatClampNeg = 16 + 8 * ((off.toNatClampNeg - 16) / 8) ∧ (off.toNatClampNeg - 16) / 8 < h.dl q9.2
      · rw [if_pos hcond] at hrun2
        obtain ⟨rfl, c2, c3, c4, c5, c6⟩ := hcond
        obtain ⟨q1, q2⟩ := q9
        have c2 : q1 = 103 := c2
        subst c2
        have hoa : am_oka h (da 103 q2) := hO.pop.top
        have hnx : h.nx = none := by
          cases hx9 : h.nx with
          | none => rfl
          | some n =>
            have h0 := hR.2.2.2.2.2.2.2.2 ⟨n, hx9⟩
            have h1 : q2 < h.nd := hoa.1
            omega
        have hv := am_val_of (t := 103) (a := da 103 q2) rfl (by unfold am_ex; rw [hnx]) rfl (by decide) hoa
        have hat := am_here (K := K) (va := va) hv
        rw [am_ct_long rfl] at hat
        have hcell := hR.1 _ _ hat
        have hcell : H[am_ad K va (da 103 q2)]? = some (vp_cell (K.2.2.1 103) ((am_ty h (da 103 q2)).2, .inr (.inl (fun j => h.lg q2 j)))) := hcell
        obtain ⟨cu, u1, u2, u3, -⟩ := (hKn.2.2.2.2.2.2.2.2.2.2.2.2.2.2.2.2.2.2.2.2.2.2.2.2.2.1).kept hS.2.1
        obtain ⟨-, kA, hkA, comp, hkind⟩ := (hKn.1.2 3 (K.2.2.1 103, .long) rfl).1 0 (fun _ => .null)
        rw [← am_ad_c (K := K) (va := va) (show 1000 ≤ 3007 by decide)] at u1
        refine am_W_getLong (u := am_ad K va (za 3007)) (a := am_ad K va (da 103 q2)) hx hb (hml.trans hL.1.symm) hown (hts _ hw.1) (hts _ hw.2.1) (hts _ hw.2.2.1) (hts _ hw.2.2.2) u1 u2 u3 hcell rfl hkA hkind c4 c5 (arrV_read _ _ c6) (by omega) (Nat.le_trans (Nat.add_le_add_right hsum 17) (by omega)) hdec (nx _ _ _ hrun2 va H locs cells slots lsr hR hS hc hs hL hO.pop.pop.pop.num)
      · rw [if_neg hcond] at hrun2
        cases hrun2
end KZ
