section CALL
variable {K : AKx} {p : Program} {l : Launch} {e : Env} {R : Room} {s : State} {m : MethodId} {args : Array Value} {below : List Frame} {meth : Method} {c : Code} {bytes : ByteArray} {mr : MR} {o : AO} {h1 : AH} {ih : AK} {pc len tgt d : Nat} {r : List CI} {ls : AL} {st : List AV} {h : AH} {H : Heap} {locs : List Loc} {cells slots : Nat}
/-- the names of the receivers' classes -/
def am_tn : Nat → String
  | 15 => RJx9a822
  | t => am_cn t
/-- a call that a class file names: own's entry k, the callee -/
def am_CO (own k : Nat) (q : Nat × Nat × Nat × MR) (en : ME) : Prop :=
  en.1 = q.2.2.2 ∧ am_wd en ∈ sg_T ∧ Cond.initialized en.2.1.cls ∈ sg_T ∧ (en.2.1.cls ≠ "java/lang/invoke/MethodHandle" ∧ en.2.1.cls ≠ "java/lang/invoke/VarHandle") ∧ (parseMethodDescriptor en.2.1.desc).map (fun d => d.parameters.length) = some q.2.1 ∧ en.1.2.1 ≤ 22 ∧
  ((q.1 = 0 ∧ en.2.2.2.2 = none ∧ Cond.methodLink (am_cn own) k en.2.1 ∈ sg_T ∧ Cond.instanceMethod en.2.1 ∈ sg_T ∧ Cond.selects (am_tn q.2.2.1) en.2.1 en.2.1 ∈ sg_T ∧ (q.2.2.1 < 13 ∨ q.2.2.1 = 15))
  ∨ (q.1 = 1 ∧ en.2.2.2.2 = none ∧ Cond.methodLink (am_cn own) k en.2.1 ∈ sg_T ∧ Cond.static en.2.1 ∈ sg_T)
  ∨ (q.1 = 14 ∧ en.2.2.2.2.isSome = true ∧ Cond.methodLink (am_cn own) k en.2.1 ∈ sg_T ∧ Cond.static en.2.1 ∈ sg_T)
  ∨ (q.1 = 2 ∧ en.2.2.2.2 = none ∧ Cond.methodLink (am_cn own) k en.2.1 ∈ sg_T ∧ en.2.1.name = "<init>" ∧ en.2.2.2.1 = none ∧ Cond.instanceMethod en.2.1 ∈ sg_T)
  ∨ (q.1 = 13 ∧ en.2.2.2.2 = none ∧ (∃ host, Cond.methodLinkNest (am_cn own) k en.2.1 host ∈ lw_tbl) ∧ en.2.1.name = "<init>" ∧ en.2.2.2.1 = none ∧ Cond.instanceMethod en.2.1 ∈ sg_T)
  ∨ (q.1 = 12 ∧ en.2.2.2.2 = none ∧ (∃ host, Cond.methodLinkNest (am_cn own) k en.2.1 host ∈ lw_tbl) ∧ Cond.static en.2.1 ∈ sg_T)
  ∨ (q.1 = 4 ∧ en.2.2.2.2 = none ∧ q.2.2.1 = 13 ∧ ∃ (x : MethodName) (owner : String), Cond.methodLink (am_cn own) k x ∈ sg_T ∧ (owner ≠ "java/lang/invoke/MethodHandle" ∧ owner ≠ "java/lang/invoke/VarHandle") ∧ (parseMethodDescriptor x.desc).map (fun d => d.parameters.length) = some q.2.1 ∧ Cond.sameMethod x.cls owner x.name x.desc ∈ sg_T ∧ Cond.declares ⟨owner, x.name, x.desc⟩ ∈ lw_tbl ∧ Cond.selects "MoonlitFloor$Sign" x en.2.1 ∈ sg_T ∧ Cond.instanceMethod en.2.1 ∈ sg_T)
  ∨ (q.1 = 6 ∧ en.2.2.2.2 = none ∧ q.2.2.1 = 1 ∧ Cond.methodLink (am_cn own) k en.2.1 ∈ sg_T ∧ Cond.sameMethod en.2.1.cls en.2.1.cls en.2.1.name en.2.1.desc ∈ sg_T ∧ Cond.superclass (am_cn own) en.2.1.cls ∈ sg_T ∧ Cond.instanceMethod en.2.1 ∈ sg_T ∧ en.2.1.name ≠ "<init>")
  ∨ (q.1 = 4 ∧ en.2.2.2.2 = none ∧ q.2.2.1 = 1 ∧ ∃ (x : MethodName) (b0 : ByteArray) (m0 : Nat) (r0 : Option FieldType), Cond.methodLink (am_cn own) k x ∈ sg_T ∧ (x.cls ≠ "java/lang/invoke/MethodHandle" ∧ x.cls ≠ "java/lang/invoke/VarHandle") ∧ (parseMethodDescriptor x.desc).map (fun d => d.parameters.length) = some q.2.1 ∧ Cond.sameMethod x.cls x.cls x.name x.desc ∈ sg_T ∧ Cond.instanceMethod x ∈ sg_T ∧ Cond.code x b0 m0 r0 ∈ sg_T ∧ Cond.selects "java/lang/StringBuilder" x en.2.1 ∈ sg_T ∧ Cond.instanceMethod en.2.1 ∈ sg_T)
  ∨ (q.1 = 5 ∧ en.2.2.2.2 = none ∧ q.2.2.1 = 1 ∧ Cond.methodLink (am_cn own) k en.2.1 ∈ sg_T ∧ Cond.instanceMethod en.2.1 ∈ sg_T ∧ en.2.1 ∈ am_pv))
/-- .. through an interface -/
def am_CF (own k : Nat) (q : Nat × Nat × Nat × MR) (en : ME) : Prop := en.1 = q.2.2.2 ∧ am_wd en ∈ sg_T ∧ Cond.initialized en.2.1.cls ∈ sg_T ∧ en.1.2.1 ≤ 22 ∧ q.1 = 9 ∧ q.2.2.1 = 0 ∧ en.2.2.2.2 = none ∧ Cond.instanceMethod en.2.1 ∈ sg_T ∧ ∃ x : MethodName, (x.cls ≠ "java/lang/invoke/MethodHandle" ∧ x.cls ≠ "java/lang/invoke/VarHandle") ∧ (parseMethodDescriptor x.desc).map (fun d => d.parameters.length) = some q.2.1 ∧ Cond.methodLink (am_cn own) k x ∈ sg_T ∧ Cond.selects "java/lang/String" x en.2.1 ∈ sg_T ∧ ((x = yF_length ∧ en.2.1 = yJ0_length_8abf5) ∨ (x = yF_charAt ∧ en.2.1 = yJ0_charAt_5068e))
theorem am_tag_cn : ∀ t ∈ ([0, 1, 2, 4, 5, 6, 7, 8, 9, 10, 11, 12] : List Nat), (vwCl[t]?).map (fun q => q.1) = some (am_tn t) := by decide +kernel
/-- the cell that a call's receiver is -/
theorem am_rcv {va : Nat → Nat} {a : AA} {tag : Nat} (hR : am_Rel K va h H) (hS : va_S (am_fr K) s.heap H locs) (hKn : am_Kn K s s.heap) (hoa : am_oka h a) (hex : am_ex h a = true) (ht : (am_ty h a).1 = tag) (htg : tag < 13 ∨ tag = 15) : ∃ cellB : Cell, H[am_ad K va a]? = some cellB ∧ cellB.vm.isStatics = false ∧ s.vm.findClass (am_tn tag) = some cellB.cls := by
  cases hd : am_dyn a with
  | true =>
    have h0 := (am_ty_d (h := h) hd hoa)
    have htg : tag < 13 := by
      rcases htg with z | z
      · exact z
      · exact absurd (ht.trans z) h0.2.1
    have hP := hR.1 _ _ (am_here (K := K) (va := va) ⟨hd, hex, by omega, hoa⟩)
    rw [am_ct_obj (by omega)] at hP
    obtain ⟨q, hq, cell, e1, e2, e3, -⟩ := hP
    rw [ht] at hq e2
    have hlen := (List.getElem?_eq_some_iff.mp hq).1
    have hu := hKn.1.1 tag q hq
    have hcn : am_tn tag = q.1 := by
      have hnf := am_ty_nf (h := h) hd hoa (by omega)
      rw [ht] at h0 hnf
      have hmem : tag ∈ ([0, 1, 2, 4, 5, 6, 7, 8, 9, 10, 11, 12] : List Nat) := by
        have hm := am_lk_mem hnf
        have key : ∀ z ∈ am_nf, z.1 ∈ ([0, 1, 2, 4, 5, 6, 7, 8, 9, 10, 11, 12] : List Nat) := by decide
        exact key _ hm
      have e8 := am_tag_cn tag hmem
      rw [hq] at e8
      exact (Option.some.inj e8).symm
    exact ⟨cell, e1, by rw [e3]; rfl, by rw [hcn, hu.2.1, e2]⟩
  | false =>
    rcases am_dyn_or h a with z | ⟨x, rfl⟩ | ⟨n, rfl, hn⟩
    · rw [hd] at z; cases z
    · have : (13 : Nat) = tag := ht
      omega
    · rcases am_ty_c (h := h) hn with ⟨-, q⟩ | ⟨-, q⟩ | ⟨-, q⟩ | ⟨-, q⟩ | ⟨-, q⟩ | ⟨k, -, -, q⟩ | ⟨k, rfl, hk, q⟩ | ⟨-, q⟩ | ⟨rfl, q⟩ | q
      · rw [q] at ht; omega
      · rw [q] at ht; omega
      · rw [q] at ht; omega
      · rw [q] at ht; omega
      · rw [q] at ht; omega
      · rw [q] at ht; omega
      · rw [q] at ht
        have : tag = 0 := ht.symm
        subst this
        obtain ⟨cell, e1, e2, e3, e4⟩ := (hKn.2.2.2.2.2.1 k hk).kept hS.2.1
        refine ⟨cell, ?_, e2, e3⟩
        rw [am_ad_c (by omega)]; exact e1
      · rw [q] at ht; omega
      · rw [q] at ht
        have : tag = 15 := ht.symm
        subst this
        obtain ⟨cell, e1, e2, e3, e4⟩ := (hKn.2.2.2.2.2.2.2.2.2.2.2.2.2.2.2.2.2.2.2.2.2.2.2.2.2.1).kept hS.2.1
        refine ⟨cell, ?_, e2, e3⟩
        rw [am_ad_c (by decide)]; exact e1
      · rw [q] at ht; omega
theorem am_good : GoodIn sg_T sg_T := fun w hw => ⟨hw, good_of_word (List.mem_filter.mp hw).2⟩
theorem am_call_run {k d0 : Nat} {va : Nat → Nat} {q : Nat × Nat × Nat × MR} {en : ME} {as t : List AV} {o2 : AO} {h2 : AH} {lsr : Array Slot} {ins : Instr}
    (hC : am_Cx K p s m args c bytes mr) (hO : am_CO mr.1 k q en) (hM : am_Ct (kH K va h) l en d0 as h o2 h2) (hOas : ∀ v ∈ as, am_okv h v) (hxk : am_xck q.1 = true ∨ ∃ v, o2 = Sum.inl v) (hR : am_Rel K va h H) (hS : va_S (am_fr K) s.heap H locs) (hlen : as.length = bif am_stk q.1 then q.2.1 else q.2.1 + 1) (hrc : am_stk q.1 = true ∨ ∃ a as', as = Sum.inr a :: as' ∧ (am_ty h a).1 = q.2.2.1 ∧ am_ex h a = true)
    (hfr : d0 + 1 ≤ R.frames ∧ 41 * (d0 + 1) ≤ R.locals) (hsz : lsr.size = mr.2.1) (hsum : am_sum t ≤ 8) (hins : ins = .invokevirtual k ∧ (q.1 = 0 ∨ q.1 = 4 ∨ q.1 = 5) ∨ ins = .invokestatic k ∧ (q.1 = 1 ∨ q.1 = 12 ∨ q.1 = 14) ∨ ins = .invokespecial k ∧ (q.1 = 2 ∨ q.1 = 13 ∨ q.1 = 6)) (hdec : decode bytes pc = .ok (ins, 3)) (hroom : cells + (h2.nc - h.nc) ≤ R.cells ∧ slots + (h2.ns - h.ns) ≤ R.slots) :
    vx_Run p l e R s m args below meth c H locs cells slots (h2.nc - h.nc) (h2.ns - h.ns) (F0 m pc lsr ((as.reverse ++ t).map (am_rv K va))) (t.map (am_rv K va)) (am_Post (kH K va h) o2 h2 (as.map (am_rv K va)).toArray) (am_PostX (kH K va h) o2 h2) (am_fr K) := by
  obtain ⟨hx, hb, hml, hown, hts, hKn⟩ := hC
  obtain ⟨he, hwd, hini, hcls, hpd, h22, hkind⟩ := hO
  have hFix : CallFix p m c bytes mr.2.1 s args sg_T (am_cn mr.1) := ⟨hx, hb, hml, hown, hts⟩
  have hws : ∀ w ∈ am_wd en :: sg_T, ∀ (a' : Array Value) (U : State), s.WarmedH U.vm → w.before a' U = true := pay_in hts fun w hw => by
    rcases List.mem_cons.mp hw with rfl | hw
    · exact am_good _ hwd
    · exact am_good _ hw
  have hPre : ∀ U : State, U.heap = H → s.WarmedH U.vm → am_Pc (kH K va h) as h (as.map (am_rv K va)).toArray U := fun U hU hW => ⟨rfl, by rw [hU]; exact hR, hKn.moved hW (fun q h1 h2 => by rw [hU]; exact hS.2.1 q h1 h2), am_agr.self, hOas⟩
  have hlen9 : ∀ n, n = q.2.1 → ∀ sig, parseMethodDescriptor en.2.1.desc = some sig → n = sig.parameters.length := fun n hn sig hs => by
    rw [hs] at hpd
    rw [hn]
    exact (Option.some.inj hpd).symm
  have hsum9 : 2 * (F0 m pc lsr ((as.reverse ++ t).map (am_rv K va))).monitorRoom + ((t.map (am_rv K va)).map fun v => v.category).sum ≤ 8 := by
    have e1 : ((t.map (am_rv K va)).map fun v => v.category) = t.map (fun v => bif am_cat2 v then 2 else 1) := by
      rw [List.map_map]
      refine List.map_congr_left fun v _ => ?_
      show (am_rv K va v).category = _
      rw [am_cat]
      cases am_cat2 v <;> rfl
    rw [e1]
    show 2 * 0 + am_sum t ≤ 8
    omega
  have hstk : ∀ as : List AV, (as.reverse ++ t).map (am_rv K va) = (as.map (am_rv K va)).reverse ++ t.map (am_rv K va) := fun as => by
    rw [List.map_append, List.map_reverse]
  have hrm : (am_rm d0 h h2).frames + 1 ≤ R.frames ∧ 8 + (en.1.2.1 + 11) + (am_rm d0 h h2).locals ≤ R.locals := by
    refine ⟨hfr.1, ?_⟩
    show 8 + (en.1.2.1 + 11) + 41 * d0 ≤ R.locals
    omega
  have hB : ∀ n, n = q.2.1 → en.2.2.2.2 = none → Cond.methodLink (am_cn mr.1) k en.2.1 ∈ sg_T → CallB R s args (am_cn mr.1) k en.2.1 en.2.2.1 en.1.2.1 en.2.2.2.1 (am_wd en :: sg_T) (am_rm d0 h h2) (h2.nc - h.nc) (h2.ns - h.ns) n := fun n hn hh hl => by
    have hwe : am_wd en = Cond.code en.2.1 en.2.2.1 en.1.2.1 en.2.2.2.1 := by unfold am_wd; rw [hh]
    exact ⟨rfl, rfl, hrm.1, hrm.2, hws, by rw [hwe]; exact List.mem_cons_self, by rw [← hwe]; exact hts _ hwd, hts _ hini, hcls, hlen9 n hn, hts _ hl⟩
  rcases hkind with ⟨g0, hh, g1, g2, g3, g4⟩ | ⟨g0, hh, g1, g2⟩ | ⟨g0, hh, g1, g2⟩ | ⟨g0, hh, g1, g2, g3, g4⟩ | ⟨g0, hh, ⟨host, g1⟩, g2, g3, g4⟩ | ⟨g0, hh, ⟨host, g1⟩, g2⟩ | ⟨g0, hh, g1, x, owner, g2, g3, g4, g5, g6, g7, g8⟩ | ⟨g0, hh, g1, g2, g3, g4, g5, g6⟩ | ⟨g0, hh, g1, x, b0, m0, r0, g2, g3, g4, g5, g6, g7, g8, g9⟩ | ⟨g0, hh, g1, g2, g3, g4⟩
  · have hst : am_stk q.1 = false := by rw [g0]; rfl
    rw [hst] at hlen hrc
    rcases hrc with z | ⟨a, as', rfl, ht, hex⟩
    · cases z
    have hdec : decode bytes pc = .ok (.invokevirtual k, 3) := by
      rcases hins with ⟨rfl, -⟩ | ⟨-, z⟩ | ⟨-, z⟩
      · exact hdec
      · omega
      · omega
    exact vx_runV (C := am_tn q.2.2.1) (b := am_ad K va a) (As := as'.map (am_rv K va)) hFix hM ⟨hB q.2.1 rfl hh g1, hts _ g2, hts _ g3⟩ ⟨am_Pc.blind, am_rcv hR hS hKn (hOas _ List.mem_cons_self) hex ht g4, hPre⟩ rfl (by simpa using hlen) hsz (by show ((Sum.inr a :: as').reverse ++ t).map (am_rv K va) = _; rw [hstk]; simp; rfl) hsum9 hdec hroom
  · have hst : am_stk q.1 = true := by rw [g0]; rfl
    rw [hst] at hlen
    have hdec : decode bytes pc = .ok (.invokestatic k, 3) := by
      rcases hins with ⟨-, z⟩ | ⟨rfl, -⟩ | ⟨-, z⟩
      · omega
      · exact hdec
      · omega
    exact vx_runS (As := as.map (am_rv K va)) hFix hM ⟨hB q.2.1 rfl hh g1, hts _ g2⟩ ⟨am_Pc.blind, hPre⟩ rfl (by simpa using hlen) hsz (hstk as) hsum9 hdec hroom
  · have hst : am_stk q.1 = true := by rw [g0]; rfl
    rw [hst] at hlen
    have hdec : decode bytes pc = .ok (.invokestatic k, 3) := by
      rcases hins with ⟨-, z⟩ | ⟨rfl, -⟩ | ⟨-, z⟩
      · omega
      · exact hdec
      · omega
    cases hh9 : en.2.2.2.2 with
    | none => rw [hh9] at hh; cases hh
    | some hl9 =>
      have hwe : am_wd en = Cond.codeWith en.2.1 en.2.2.1 en.1.2.1 en.2.2.2.1 hl9 := by unfold am_wd; rw [hh9]
      exact vx_runSX (hh := hl9) (As := as.map (am_rv K va)) hFix hM ⟨⟨rfl, rfl, hrm.1, hrm.2, hws, by rw [hwe]; exact List.mem_cons_self⟩, by rw [← hwe]; exact hts _ hwd, hts _ hini, hcls, hlen9 _ rfl, hts _ g1, hts _ g2⟩ ⟨am_Pc.blind, hPre⟩ rfl (by simpa using hlen) hsz (hstk as) hsum9 hdec hroom
  · have hst : am_stk q.1 = false := by rw [g0]; rfl
    have hxf : am_xck q.1 = false := by rw [g0]; rfl
    rw [hxf] at hxk
    rw [hst] at hlen hrc
    rcases hrc with z | ⟨a, as', rfl, ht, hex⟩
    · cases z
    rcases hxk with z | ⟨v, rfl⟩
    · cases z
    have hdec : decode bytes pc = .ok (.invokespecial k, 3) := by
      rcases hins with ⟨-, z⟩ | ⟨-, z⟩ | ⟨rfl, -⟩
      · omega
      · omega
      · exact hdec
    have hB2 := hB q.2.1 rfl hh g1
    rw [g3] at hB2
    exact am_runx (va_runI (b := am_ad K va a) (As := as'.map (am_rv K va)) hFix hM.met ⟨hB2, g2, hts _ g4⟩ ⟨am_Pc.blind, hPre⟩ rfl (by simpa using hlen) hsz (by show ((Sum.inr a :: as').reverse ++ t).map (am_rv K va) = _; rw [hstk]; simp; rfl) hsum9 hdec hroom)
  · have hst : am_stk q.1 = false := by rw [g0]; rfl
    have hxf : am_xck q.1 = false := by rw [g0]; rfl
    rw [hxf] at hxk
    rw [hst] at hlen hrc
    rcases hrc with z | ⟨a, as', rfl, ht, hex⟩
    · cases z
    rcases hxk with z | ⟨v, rfl⟩
    · cases z
    have hdec : decode bytes pc = .ok (.invokespecial k, 3) := by
      rcases hins with ⟨-, z⟩ | ⟨-, z⟩ | ⟨rfl, -⟩
      · omega
      · omega
      · exact hdec
    have hwe : am_wd en = Cond.code en.2.1 en.2.2.1 en.1.2.1 none := by unfold am_wd; rw [hh, g3]
    exact am_runx (va_runIN (host := host) (b := am_ad K va a) (As := as'.map (am_rv K va)) hFix hM.met ⟨⟨⟨rfl, rfl, hrm.1, hrm.2, hws, by rw [hwe]; exact List.mem_cons_self⟩, by rw [← hwe]; exact hts _ hwd, hts _ hini, hcls, hlen9 q.2.1 rfl, va_Nw.use rfl (hKn.2.1 _ g1 rfl)⟩, g2, hts _ g4⟩ ⟨am_Pc.blind, hPre⟩ rfl (by simpa using hlen) hsz (by show ((Sum.inr a :: as').reverse ++ t).map (am_rv K va) = _; rw [hstk]; simp; rfl) hsum9 hdec hroom)
  · have hst : am_stk q.1 = true := by rw [g0]; rfl
    have hxf : am_xck q.1 = false := by rw [g0]; rfl
    rw [hxf] at hxk
    rw [hst] at hlen
    rcases hxk with z | ⟨v, rfl⟩
    · cases z
    have hdec : decode bytes pc = .ok (.invokestatic k, 3) := by
      rcases hins with ⟨-, z⟩ | ⟨rfl, -⟩ | ⟨-, z⟩
      · omega
      · exact hdec
      · omega
    have hwe : am_wd en = Cond.code en.2.1 en.2.2.1 en.1.2.1 en.2.2.2.1 := by unfold am_wd; rw [hh]
    exact am_runx (va_runSN (host := host) (As := as.map (am_rv K va)) hFix hM.met ⟨⟨⟨rfl, rfl, hrm.1, hrm.2, hws, by rw [hwe]; exact List.mem_cons_self⟩, by rw [← hwe]; exact hts _ hwd, hts _ hini, hcls, hlen9 q.2.1 rfl, va_Nw.use rfl (hKn.2.1 _ g1 rfl)⟩, hts _ g2, trivial⟩ ⟨am_Pc.blind, hPre⟩ rfl (by simpa using hlen) hsz (hstk as) hsum9 hdec hroom)
  · have hst : am_stk q.1 = false := by rw [g0]; rfl
    have hxf : am_xck q.1 = false := by rw [g0]; rfl
    rw [hxf] at hxk
    rw [hst] at hlen hrc
    rcases hrc with z | ⟨a, as', rfl, ht, hex⟩
    · cases z
    rcases hxk with z | ⟨v, rfl⟩
    · cases z
    have hdec : decode bytes pc = .ok (.invokevirtual k, 3) := by
      rcases hins with ⟨rfl, -⟩ | ⟨-, z⟩ | ⟨-, z⟩
      · exact hdec
      · omega
      · omega
    have hwe : am_wd en = Cond.code en.2.1 en.2.2.1 en.1.2.1 en.2.2.2.1 := by unfold am_wd; rw [hh]
    have ha : ∃ y : Fin 37, a = ga y := by
      rw [g1] at ht
      rcases am_dyn_or h a with z | z | ⟨n, rfl, hn⟩
      · exact absurd ht (am_ty_d (h := h) z (hOas _ List.mem_cons_self)).1
      · exact z
      · rcases am_ty_c (h := h) hn with ⟨-, z⟩ | ⟨-, z⟩ | ⟨-, z⟩ | ⟨-, z⟩ | ⟨-, z⟩ | ⟨k9, -, -, z⟩ | ⟨k9, -, -, z⟩ | ⟨-, z⟩ | ⟨-, z⟩ | z <;> (rw [z] at ht; cases ht)
    obtain ⟨y, rfl⟩ := ha
    have hrcv : ∃ cellB : Cell, H[am_ad K va (ga y)]? = some cellB ∧ cellB.vm.isStatics = false ∧ s.vm.findClass "MoonlitFloor$Sign" = some cellB.cls := by
      obtain ⟨cell, e1, e2, e3, -⟩ := (hKn.2.2.2.2.1 y).kept hS.2.1
      exact ⟨cell, e1, e2, e3⟩
    have hx9 : ∀ sig, parseMethodDescriptor x.desc = some sig → q.2.1 = sig.parameters.length := fun sig hs => by
      rw [hs] at g4
      exact (Option.some.inj g4).symm
    exact am_runx (va_runU (C := "MoonlitFloor$Sign") (owner := owner) (x := x) (b := am_ad K va (ga y)) (As := as'.map (am_rv K va)) hFix hM.met ⟨⟨rfl, rfl, hrm.1, hrm.2, hws, by rw [hwe]; exact List.mem_cons_self⟩, by rw [← hwe]; exact hts _ hwd, hts _ hini, g3, hx9, hts _ g2, hts _ g5, va_Decl.abs (hKn.2.1 _ g6 rfl), hts _ g7, hts _ g8⟩ ⟨am_Pc.blind, hrcv, hPre⟩ rfl (by simpa using hlen) hsz (by show ((Sum.inr (ga y) :: as').reverse ++ t).map (am_rv K va) = _; rw [hstk]; simp; rfl) hsum9 hdec hroom)
  · have hst : am_stk q.1 = false := by rw [g0]; rfl
    have hxf : am_xck q.1 = false := by rw [g0]; rfl
    rw [hxf] at hxk
    rw [hst] at hlen hrc
    rcases hrc with z | ⟨a, as', rfl, ht, hex⟩
    · cases z
    rcases hxk with z | ⟨v, rfl⟩
    · cases z
    have hdec : decode bytes pc = .ok (.invokespecial k, 3) := by
      rcases hins with ⟨-, z⟩ | ⟨-, z⟩ | ⟨rfl, -⟩
      · omega
      · omega
      · exact hdec
    have hwe : am_wd en = Cond.code en.2.1 en.2.2.1 en.1.2.1 en.2.2.2.1 := by unfold am_wd; rw [hh]
    obtain ⟨cq, hcq⟩ : ∃ cq, vwCl[1]? = some cq := ⟨_, rfl⟩
    have hat := (hKn.1.1 1 cq hcq).2
    have hcn : cq.1 = am_tn 1 := by
      have e8 := am_tag_cn 1 (by decide)
      rw [hcq] at e8
      exact Option.some.inj e8
    rw [hcn] at hat
    exact am_runx (va_runSU (b := am_ad K va a) (As := as'.map (am_rv K va)) hat hFix hM.met ⟨⟨rfl, rfl, hrm.1, hrm.2, hws, by rw [hwe]; exact List.mem_cons_self⟩, hts _ g2, hts _ g3, hts _ g4, hts _ g5, hts _ hini, by rw [← hwe]; exact hts _ hwd, g6, hlen9 q.2.1 rfl⟩ ⟨am_Pc.blind, am_rcv hR hS hKn (hOas _ List.mem_cons_self) hex (ht.trans g1) (by decide), hPre⟩ rfl (by simpa using hlen) hsz (by show ((Sum.inr a :: as').reverse ++ t).map (am_rv K va) = _; rw [hstk]; simp; rfl) hsum9 hdec hroom)
  · have hst : am_stk q.1 = false := by rw [g0]; rfl
    have hxf : am_xck q.1 = false := by rw [g0]; rfl
    rw [hxf] at hxk
    rw [hst] at hlen hrc
    rcases hrc with z | ⟨a, as', rfl, ht, hex⟩
    · cases z
    rcases hxk with z | ⟨v, rfl⟩
    · cases z
    have hdec : decode bytes pc = .ok (.invokevirtual k, 3) := by
      rcases hins with ⟨rfl, -⟩ | ⟨-, z⟩ | ⟨-, z⟩
      · exact hdec
      · omega
      · omega
    have hwe : am_wd en = Cond.code en.2.1 en.2.2.1 en.1.2.1 en.2.2.2.1 := by unfold am_wd; rw [hh]
    have hx9 : ∀ sig, parseMethodDescriptor x.desc = some sig → q.2.1 = sig.parameters.length := fun sig hs => by
      rw [hs] at g4
      exact (Option.some.inj g4).symm
    exact am_runx (va_runU (C := "java/lang/StringBuilder") (owner := x.cls) (x := x) (b := am_ad K va a) (As := as'.map (am_rv K va)) hFix hM.met ⟨⟨rfl, rfl, hrm.1, hrm.2, hws, by rw [hwe]; exact List.mem_cons_self⟩, by rw [← hwe]; exact hts _ hwd, hts _ hini, g3, hx9, hts _ g2, hts _ g5, va_Decl.of (hts _ g6) (hts _ g7), hts _ g8, hts _ g9⟩ ⟨am_Pc.blind, am_rcv hR hS hKn (hOas _ List.mem_cons_self) hex (ht.trans g1) (by decide), hPre⟩ rfl (by simpa using hlen) hsz (by show ((Sum.inr a :: as').reverse ++ t).map (am_rv K va) = _; rw [hstk]; simp; rfl) hsum9 hdec hroom)
  · have hst : am_stk q.1 = false := by rw [g0]; rfl
    have hxf : am_xck q.1 = false := by rw [g0]; rfl
    rw [hxf] at hxk
    rw [hst] at hlen hrc
    rcases hrc with z | ⟨a, as', rfl, ht, hex⟩
    · cases z
    rcases hxk with z | ⟨v, rfl⟩
    · cases z
    have hdec : decode bytes pc = .ok (.invokevirtual k, 3) := by
      rcases hins with ⟨rfl, -⟩ | ⟨-, z⟩ | ⟨-, z⟩
      · exact hdec
      · omega
      · omega
    exact am_runx (va_runV (C := "java/lang/StringBuilder") (b := am_ad K va a) (As := as'.map (am_rv K va)) hFix hM.met ⟨hB q.2.1 rfl hh g2, hts _ g3, va_Nw.use rfl (hKn.2.2.2.2.2.2.2.2.2.2.2.2.2.2.2.2.2.2.2.2.2.2.2.1 _ g4)⟩ ⟨am_Pc.blind, am_rcv hR hS hKn (hOas _ List.mem_cons_self) hex (ht.trans g1) (by decide), hPre⟩ rfl (by simpa using hlen) hsz (by show ((Sum.inr a :: as').reverse ++ t).map (am_rv K va) = _; rw [hstk]; simp; rfl) hsum9 hdec hroom)
/-- .. through an interface -/
theorem am_call_runF {k d0 cnt : Nat} {va : Nat → Nat} {q : Nat × Nat × Nat × MR} {en : ME} {as t : List AV} {v2 : Option AV} {h2 : AH} {lsr : Array Slot}
    (hC : am_Cx K p s m args c bytes mr) (hO : am_CF mr.1 k q en) (hM : am_Ct (kH K va h) l en d0 as h (Sum.inl v2) h2) (hOas : ∀ v ∈ as, am_okv h v) (hR : am_Rel K va h H) (hS : va_S (am_fr K) s.heap H locs) (hlen : as.length = q.2.1 + 1) (hrc : ∃ a as', as = Sum.inr a :: as' ∧ (am_ty h a).1 = q.2.2.1 ∧ am_ex h a = true)
    (hfr : d0 + 1 ≤ R.frames ∧ 41 * (d0 + 1) ≤ R.locals) (hsz : lsr.size = mr.2.1) (hsum : am_sum t ≤ 8) (hdec : decode bytes pc = .ok (.invokeinterface k cnt, 5)) (hroom : cells + (h2.nc - h.nc) ≤ R.cells ∧ slots + (h2.ns - h.ns) ≤ R.slots) :
    va_Run5 p l e R s m args below meth c H locs cells slots (h2.nc - h.nc) (h2.ns - h.ns) (F0 m pc lsr ((as.reverse ++ t).map (am_rv K va))) (t.map (am_rv K va)) (am_Post (kH K va h) (Sum.inl v2) h2 (as.map (am_rv K va)).toArray) (am_fr K) := by
  obtain ⟨hx, hb, hml, hown, hts, hKn⟩ := hC
  obtain ⟨he, hwd, hini, h22, g0, g1, hh, g2, x, g3, g4, g5, g6, g7⟩ := hO
  have hFix : CallFix p m c bytes mr.2.1 s args sg_T (am_cn mr.1) := ⟨hx, hb, hml, hown, hts⟩
  have hws : ∀ w ∈ am_wd en :: sg_T, ∀ (a' : Array Value) (U : State), s.WarmedH U.vm → w.before a' U = true := pay_in hts fun w hw => by
    rcases List.mem_cons.mp hw with rfl | hw
    · exact am_good _ hwd
    · exact am_good _ hw
  have hPre : ∀ U : State, U.heap = H → s.WarmedH U.vm → am_Pc (kH K va h) as h (as.map (am_rv K va)).toArray U := fun U hU hW => ⟨rfl, by rw [hU]; exact hR, hKn.moved hW (fun q h1 h2 => by rw [hU]; exact hS.2.1 q h1 h2), am_agr.self, hOas⟩
  have hsum9 : 2 * (F0 m pc lsr ((as.reverse ++ t).map (am_rv K va))).monitorRoom + ((t.map (am_rv K va)).map fun v => v.category).sum ≤ 8 := by
    have e1 : ((t.map (am_rv K va)).map fun v => v.category) = t.map (fun v => bif am_cat2 v then 2 else 1) := by
      rw [List.map_map]
      refine List.map_congr_left fun v _ => ?_
      show (am_rv K va v).category = _
      rw [am_cat]
      cases am_cat2 v <;> rfl
    rw [e1]
    show 2 * 0 + am_sum t ≤ 8
    omega
  have hstk : ∀ as : List AV, (as.reverse ++ t).map (am_rv K va) = (as.map (am_rv K va)).reverse ++ t.map (am_rv K va) := fun as => by
    rw [List.map_append, List.map_reverse]
  have hrm : (am_rm d0 h h2).frames + 1 ≤ R.frames ∧ 8 + (en.1.2.1 + 11) + (am_rm d0 h h2).locals ≤ R.locals := by
    refine ⟨hfr.1, ?_⟩
    show 8 + (en.1.2.1 + 11) + 41 * d0 ≤ R.locals
    omega
  obtain ⟨a, as', rfl, ht, hex⟩ := hrc
  have hwe : am_wd en = Cond.code en.2.1 en.2.2.1 en.1.2.1 en.2.2.2.1 := by unfold am_wd; rw [hh]
  have hFw : va_Fw "java/lang/String" x en.2.1 s := by
    rcases g7 with ⟨rfl, e⟩ | ⟨rfl, e⟩
    · rw [e]; exact hKn.2.2.2.2.2.2.2.2.2.2.2.2.2.2.2.2.2.2.2.2.2.2.2.2.2.2.1
    · rw [e]; exact hKn.2.2.2.2.2.2.2.2.2.2.2.2.2.2.2.2.2.2.2.2.2.2.2.2.2.2.2.1
  have hx9 : ∀ sig, parseMethodDescriptor x.desc = some sig → q.2.1 = sig.parameters.length := fun sig hs => by
    rw [hs] at g4
    exact (Option.some.inj g4).symm
  obtain ⟨cq, hcq⟩ : ∃ cq, vwCl[0]? = some cq := ⟨_, rfl⟩
  have hat := (hKn.1.1 0 cq hcq).2
  have hcn : cq.1 = "java/lang/String" := by
    have e8 := am_tag_cn 0 (by decide)
    rw [hcq] at e8
    exact Option.some.inj e8
  rw [hcn] at hat
  exact va_runF (C := "java/lang/String") (x := x) (b := am_ad K va a) (As := as'.map (am_rv K va)) hat hFix hM.met ⟨⟨rfl, rfl, hrm.1, hrm.2, hws, by rw [hwe]; exact List.mem_cons_self⟩, hts _ g5, va_Nw.use rfl hFw.1, va_any rfl hFw.2.1, hts _ g6, hts _ g2, va_any rfl hFw.2.2.1, va_any rfl hFw.2.2.2.1, va_any rfl hFw.2.2.2.2, hts _ hini, by rw [← hwe]; exact hts _ hwd, g3, hx9⟩ ⟨am_Pc.blind, am_rcv hR hS hKn (hOas _ List.mem_cons_self) hex (ht.trans g1) (by decide), hPre⟩ rfl (by simpa using hlen) hsz (by show ((Sum.inr a :: as').reverse ++ t).map (am_rv K va) = _; rw [hstk]; simp; rfl) hsum9 hdec hroom
end CALL
