section HEAP2
variable {K : AKx} {p : Program} {l : Launch} {e : Env} {R : Room} {s : State} {m : MethodId} {args : Array Value} {below : List Frame} {meth : Method} {c : Code} {bytes : ByteArray} {mr : MR} {o : AO} {h1 : AH} {ih : AK} {pc len tgt d : Nat} {r : List CI} {ls : AL} {st : List AV} {h : AH}
/-- a field is written, the heap's size is known -/
theorem am_vput {H : Heap} {locs : List Loc} {cells slots : Nat} {Q : State → Prop} {lsr : Array Slot} {rest : List Value} {D : va_G} {cl : List vw_C} {tys : List (ClassId × FieldType)} {ws : va_W} {A : Nat → Prop} {H0 : Heap} {a : Nat} (hexec : p.tables.exec = Jvm.exec) (hb : c.code = bytes) {own ref C : String} {T : u_T} {N ci index : Nat} {Ts : List Cond} (hts : ∀ w ∈ Ts, w.before args s = true) (hin : ∀ w ∈ u_ws C T N, w ∈ Ts) (ty0 : Nat → FieldType) (hty : ∀ k, k < N → parseFieldDescriptor (T k).2.2.1 = some (ty0 k)) (hnm : ∀ a, a < N → ∀ b, b < N → a ≠ b → (T a).2.1 ≠ (T b).2.1) (hown : s.vm.findClass own = some m.cls) (hK : va_K D cl tys s) (hP : va_P D cl ws H) (hD : va_D A ws) (hS0 : va_S A H0 H locs) (q0 : Nat) {fs : List Value} (he : ws[q0]? = some (a, .inr (ci, fs))) (hc : cl[ci]? = some (C, T, N)) (k : Nat) (hk : k < N) (hlink : (Cond.fieldLink own index ref (T k).2.1 (T k).2.2.1).before args s = true) (hsame : ∀ x, s.fieldFound? (T k).1 (T k).2.1 (T k).2.2.1 = some x → s.fieldFound? ref (T k).2.1 (T k).2.2.1 = some x) (hfin : (T k).2.2.2 = false ∨ (meth.name = "<init>" ∧ (T k).1 = own)) {ty : FieldType} {v : Value} (hd : parseFieldDescriptor (T k).2.2.1 = some ty) (hn : narrow ty v = v) (hfit : fits ty v = true) (hl : k < fs.length)
    (hdg : decode bytes pc = .ok (.putfield index, 3)) (kk : ∀ (H1 : Heap) (locs1 : List Loc), H1.size = H.size → va_P D cl (ws.set q0 (a, .inr (ci, fs.set k v))) H1 → va_D A (ws.set q0 (a, .inr (ci, fs.set k v))) → va_S A H0 H1 locs1 → W p l e R s m args below meth c H1 locs1 cells slots Q (F0 m (pc + 3) lsr rest)) : W p l e R s m args below meth c H locs cells slots Q (F0 m pc lsr (v :: .ref a :: rest)) := by
  have hap := va_apart (own := own) hts hin ty0 hty hnm hK hc
  obtain ⟨r, h1, cell, q1, q2, q3, q4⟩ := hP q0 _ he
  have hr : r = (C, T, N) := Option.some.inj (h1.symm.trans hc)
  subst hr
  obtain ⟨hS, hfc, kC, hkC, hkind⟩ := hK.1 ci _ hc
  obtain ⟨cf, kf, fi, f, hi, hsl⟩ := hS k hk
  have hlay := hts _ (hin _ (u_in_lay hk))
  have hst := (u_facts hfc hkC (u_lays hts hin hk) hi).1
  rcases hfx : (T k).2.2.2 with _ | _
  · unfold u_lay at hlay
    rw [if_neg (by rw [hfx]; decide)] at hlay
    have h6 := u_store hfc hkC hkind hlay hi hd hn hfit
    refine W.putK hexec hb (f := f) ⟨hown, hlink, ⟨_, _, _, hsame _ hi⟩, hst⟩ (by rw [q2]; exact h6) q1 q3 (by rw [hsl]; exact k2_hasslot (q4 k hk)) rfl rfl hdg fun H' e1 e2 e3 => ?_
    rw [hsl] at e1 ⊢
    exact kk H' _ e2 (hP.set hD he ⟨_, hc, t_OB.to (V := updV (vp_V fs) k v) ⟨_, e1, q2, q3, t_set q4 hap hk v⟩ (fun j _ => vp_updV_set hl v j)⟩ e3) (hD.set he) (hS0.put e2 e3 (hD.2 q0 _ he))
  · obtain ⟨hin2, hdecl⟩ := hfin.resolve_left (by rw [hfx]; decide)
    unfold u_lay at hlay
    rw [if_pos hfx] at hlay
    have hcf : m.cls = cf := by
      obtain ⟨_, _, c', _, _, _, -, -, hf', -, -, -, hown2, -⟩ := Cond.laysFinal_spec hlay
      have e1 : c' = cf := by have := hi.symm.trans hf'; simp at this; exact this.1.symm
      rw [hdecl] at hown2
      rw [← e1]; exact Option.some.inj (hown.symm.trans hown2)
    have h6 := u_fits hfc hkC hkind (Or.inr hlay) hi hd hn hfit
    refine W.putFinK hexec hb hown hlink (hsame _ hi) hst hcf hin2 (by rw [q2]; exact h6) q1 q3 (by rw [hsl]; exact k2_hasslot (q4 k hk)) rfl rfl hdg fun H' e1 e2 e3 => ?_
    rw [hsl] at e1 ⊢
    exact kk H' _ e2 (hP.set hD he ⟨_, hc, t_OB.to (V := updV (vp_V fs) k v) ⟨_, e1, q2, q3, t_set q4 hap hk v⟩ (fun j _ => vp_updV_set hl v j)⟩ e3) (hD.set he) (hS0.put e2 e3 (hD.2 q0 _ he))
/-- .. a nest mate's -/
theorem am_vputN {H : Heap} {locs : List Loc} {cells slots : Nat} {Q : State → Prop} {lsr : Array Slot} {rest : List Value} {D : va_G} {cl : List vw_C} {tys : List (ClassId × FieldType)} {ws : va_W} {A : Nat → Prop} {H0 : Heap} {a : Nat} (hexec : p.tables.exec = Jvm.exec) (hb : c.code = bytes) {own C host : String} {T : u_T} {N ci index : Nat} {Ts : List Cond} (hts : ∀ w ∈ Ts, w.before args s = true) (hin : ∀ w ∈ u_ws C T N, w ∈ Ts) (ty0 : Nat → FieldType) (hty : ∀ k, k < N → parseFieldDescriptor (T k).2.2.1 = some (ty0 k)) (hnm : ∀ a, a < N → ∀ b, b < N → a ≠ b → (T a).2.1 ≠ (T b).2.1) (hown : s.vm.findClass own = some m.cls) (hK : va_K D cl tys s) (hP : va_P D cl ws H) (hD : va_D A ws) (hS0 : va_S A H0 H locs) (q0 : Nat) {fs : List Value} (he : ws[q0]? = some (a, .inr (ci, fs))) (hc : cl[ci]? = some (C, T, N)) (k : Nat) (hk : k < N) (hlink : (Cond.fieldLinkNest own index (T k).1 (T k).2.1 (T k).2.2.1 host).before args s = true) (hfin : (T k).2.2.2 = false) {ty : FieldType} {v : Value} (hd : parseFieldDescriptor (T k).2.2.1 = some ty) (hn : narrow ty v = v) (hfit : fits ty v = true) (hl : k < fs.length)
    (hdg : decode bytes pc = .ok (.putfield index, 3)) (kk : ∀ (H1 : Heap) (locs1 : List Loc), H1.size = H.size → va_P D cl (ws.set q0 (a, .inr (ci, fs.set k v))) H1 → va_D A (ws.set q0 (a, .inr (ci, fs.set k v))) → va_S A H0 H1 locs1 → W p l e R s m args below meth c H1 locs1 cells slots Q (F0 m (pc + 3) lsr rest)) : W p l e R s m args below meth c H locs cells slots Q (F0 m pc lsr (v :: .ref a :: rest)) := by
  have hap := va_apart (own := own) hts hin ty0 hty hnm hK hc
  obtain ⟨r, h1, cell, q1, q2, q3, q4⟩ := hP q0 _ he
  have hr : r = (C, T, N) := Option.some.inj (h1.symm.trans hc)
  subst hr
  obtain ⟨hS, hfc, kC, hkC, hkind⟩ := hK.1 ci _ hc
  obtain ⟨cf, kf, fi, f, hi, hsl⟩ := hS k hk
  have hlay := hts _ (hin _ (u_in_lay hk))
  unfold u_lay at hlay
  rw [if_neg (by rw [hfin]; decide)] at hlay
  have hst := (u_facts hfc hkC (u_lays hts hin hk) hi).1
  have h6 := u_store hfc hkC hkind hlay hi hd hn hfit
  refine va_WputK hexec hb (f := f) hown hlink hi hst (by rw [q2]; exact h6) q1 q3 (by rw [hsl]; exact k2_hasslot (q4 k hk)) rfl rfl hdg fun H' e1 e2 e3 => ?_
  rw [hsl] at e1 ⊢
  exact kk H' _ e2 (hP.set hD he ⟨_, hc, t_OB.to (V := updV (vp_V fs) k v) ⟨_, e1, q2, q3, t_set q4 hap hk v⟩ (fun j _ => vp_updV_set hl v j)⟩ e3) (hD.set he) (hS0.put e2 e3 (hD.2 q0 _ he))
theorem am_pf_of {k : AH → AR} {a : AA} {j kd : Nat} {v : AV} {q : AO × AH} (h9 : am_pf k h a j kd v = some q) : (∃ x, v = vi x ∧ k (am_u h.1 a j x, h.2) = some q ∧ (kd = 0 ∨ (kd = 2 ∧ (x = 0 ∨ x = 1)) ∨ (kd = 3 ∧ x.toInt8.toInt32 = x))) ∨ ∃ b, v = Sum.inr b ∧ kd = 1 ∧ k (h.1, am_u h.2.1 a j (Sum.inr b), h.2.2) = some q := by
  unfold am_pf at h9
  split at h9
  · next x =>
    cases h0 : Nat.beq kd 0 with
    | true => rw [h0] at h9; exact Or.inl ⟨x, rfl, h9, Or.inl (Nat.eq_of_beq_eq_true h0)⟩
    | false =>
      cases h2 : Nat.beq kd 2 with
      | true =>
        rw [h0, h2, cond_false, cond_true] at h9
        split at h9
        · next hx => exact Or.inl ⟨x, rfl, h9, Or.inr (Or.inl ⟨Nat.eq_of_beq_eq_true h2, hx⟩)⟩
        · cases h9
      | false =>
        cases h3 : Nat.beq kd 3 with
        | true =>
          rw [h0, h2, h3, cond_false, cond_false, cond_true] at h9
          split at h9
          · next hx => exact Or.inl ⟨x, rfl, h9, Or.inr (Or.inr ⟨Nat.eq_of_beq_eq_true h3, hx⟩)⟩
          · cases h9
        | false => rw [h0, h2, h3] at h9; cases h9
  · next b =>
    cases h1 : Nat.beq kd 1 with
    | true =>
      rw [h1] at h9
      exact Or.inr ⟨b, rfl, Nat.eq_of_beq_eq_true h1, h9⟩
    | false => rw [h1] at h9; cases h9
  · cases h9
theorem am_uokv {a : AA} {j : Nat} {b : AV} (hb : am_okv h b) (z : am_NA h) : ∀ i, am_okv h (am_u h.2.1 a j b a i) := fun i => by
  unfold am_u
  by_cases hi : i = j
  · rw [if_pos hi, if_pos rfl]; exact hb
  · rw [if_neg hi]; exact z.1 a i
theorem am_s_putfield {k : Nat} (hC : am_Cx K p s m args c bytes mr) (hF : ∀ v, am_F mr.1 k = some v → am_FO mr.1 k v) (hfin : ∀ v q, am_F mr.1 k = some v → vwCl[v.1]? = some q → (q.2.1 v.2.1).2.2.2 = false ∨ (meth.name = "<init>" ∧ (q.2.1 v.2.1).1 = am_cn mr.1)) (hdec : decode bytes pc = .ok (.putfield k, 3)) (nx : am_Nx K p l e R s m args below meth c mr o h1 (pc + 3) d ih r) (hrun : am_step ih mr ((pc, .putfield k, len, tgt) :: r) ls st h d = some (o, h1)) : am_G K p l e R s m args below meth c mr o h1 pc ls st h := by
  intro va H locs cells slots lsr hR hS hc hs hL hO
  obtain ⟨hx, hb, hml, hown, hts, hKn⟩ := hC
  have h9 : (match am_F mr.1 k with | some (ci, j, kd) => (match (generalizing := false) st with | v :: Sum.inr a :: t => bif Nat.beq (am_ty h a).1 ci && am_ex h a && am_dyn a then am_pf (fun h1 => ih mr r ls t h1 d) h a j kd v else none | _ => none) | none => none) = some (o, h1) := hrun
  cases hf : am_F mr.1 k with
  | none => rw [hf] at h9; cases h9
  | some q0 =>
    obtain ⟨ci, j, kd⟩ := q0
    rw [hf] at h9
    dsimp only at h9
    split at h9
    · next v a t =>
      cases hbb : (Nat.beq (am_ty h a).1 ci && am_ex h a && am_dyn a) with
      | false => rw [hbb] at h9; cases h9
      | true =>
        rw [hbb, cond_true] at h9
        obtain ⟨hbb, hdyn⟩ := Bool.and_eq_true_iff.mp hbb
        obtain ⟨hb1, hex⟩ := Bool.and_eq_true_iff.mp hbb
        have hty : (am_ty h a).1 = ci := Nat.eq_of_beq_eq_true hb1
        have hoa : am_oka h a := hO.pop.top
        obtain ⟨q, ty0, hq, hj, hnf, hlink, hin, hpd, hkd, hnm, hisr⟩ := (hF _ hf).1 (by rw [← hty]; exact (am_ty_d hdyn hoa).1)
        · have hlt : ci < 100 := by
            have hl := (List.getElem?_eq_some_iff.mp hq).1
            exact Nat.lt_of_lt_of_le hl (by decide)
          have hv := am_val_of hdyn hex hty (by omega) hoa
          have hat := am_here (K := K) (va := va) hv
          rw [am_ct_obj (by rw [hty]; exact hlt)] at hat
          have hnf2 := am_ty_nf hdyn hoa (by rw [hty]; exact hlt)
          rw [hty, hnf] at hnf2
          have hN : q.2.2 = (am_ty h a).2 := Option.some.inj hnf2
          rw [hty] at hat
          have hsz : ∀ (H1 : Heap), H1.size = H.size → (match h.nx with | some _ => H1.size = H.size | none => True) := by
            intro H1 hz
            cases h.nx with
            | none => trivial
            | some n => exact hz
          have hne4 : a ≠ za 3004 := by
            intro z
            subst z
            cases hdyn
          have put : ∀ (v : Value), narrow (ty0 j) v = v → fits (ty0 j) v = true → (∀ (H1 : Heap) (locs1 : List Loc), H1.size = H.size → va_P K.2.1 vwCl ((am_ws K va h).set (am_jx h a) (am_ad K va a, .inr (ci, ((List.range (am_ty h a).2).map (am_fv K va h a ci)).set j v))) H1 → va_D (am_fr K) ((am_ws K va h).set (am_jx h a) (am_ad K va a, .inr (ci, ((List.range (am_ty h a).2).map (am_fv K va h a ci)).set j v))) → va_S (am_fr K) s.heap H1 locs1 → W p l e R s m args below meth c H1 locs1 cells slots (vx_MQ below (am_Post K o h1) (am_PostX K o h1) args s R.cells R.slots (am_fr K)) (F0 m (pc + 3) lsr (t.map (am_rv K va)))) → W p l e R s m args below meth c H locs cells slots (vx_MQ below (am_Post K o h1) (am_PostX K o h1) args s R.cells R.slots (am_fr K)) (F0 m pc lsr (v :: .ref (am_ad K va a) :: t.map (am_rv K va))) := by
            intro v hn1 hn2 kk
            have hl9 : j < ((List.range (am_ty h a).2).map (am_fv K va h a ci)).length := by simp; rw [← hN]; exact hj
            rcases hlink with hlink | ⟨hne, host, hlink⟩ | ⟨ref, hlink, hsame⟩
            · exact am_vput (v := v) hx hb hts hin ty0 hpd hnm hown hKn.1 hR.1 hR.2.1 hS (am_jx h a) hat hq j hj (hts _ hlink) (fun _ h => h) (hfin _ q hf hq) (hpd j hj) hn1 hn2 hl9 hdec kk
            · refine am_vputN (v := v) hx hb hts hin ty0 hpd hnm hown hKn.1 hR.1 hR.2.1 hS (am_jx h a) hat hq j hj (am_fkN hKn hlink rfl rfl) ?_ (hpd j hj) hn1 hn2 hl9 hdec kk
              rcases hfin _ q hf hq with z | ⟨-, z⟩
              · exact z
              · exact absurd z.symm hne
            · exact am_vput (v := v) hx hb hts hin ty0 hpd hnm hown hKn.1 hR.1 hR.2.1 hS (am_jx h a) hat hq j hj (hts _ hlink) (u_same (hts _ hsame)) (hfin _ q hf hq) (hpd j hj) hn1 hn2 hl9 hdec kk
          rcases am_pf_of h9 with ⟨x, rfl, h10, hk3⟩ | ⟨b, rfl, rfl, h10⟩
          · have hir : am_isR ci j = false := by
              rw [hisr]
              exact am_bne (by rcases hk3 with z | ⟨z, -⟩ | ⟨z, -⟩ <;> (dsimp only at z ⊢; omega))
            have hty9 : narrow (ty0 j) (.int x) = .int x ∧ fits (ty0 j) (.int x) = true := by
              dsimp only at hkd
              rcases hk3 with z | ⟨z, hx2⟩ | ⟨z, hx3⟩ <;> rw [z] at hkd
              · cases hq9 : ty0 j <;> rw [hq9] at hkd <;> first | (exact absurd hkd (by decide)) | (exfalso; revert hkd; simp [am_kd]; done) | exact ⟨rfl, rfl⟩
              · cases hq9 : ty0 j <;> rw [hq9] at hkd <;> first | (exact absurd hkd (by decide)) | (exfalso; revert hkd; simp [am_kd]; done) | (rcases hx2 with rfl | rfl <;> exact ⟨by decide, by decide⟩)
              · cases hq9 : ty0 j <;> rw [hq9] at hkd <;> first | (exact absurd hkd (by decide)) | (exfalso; revert hkd; simp [am_kd]; done) | (refine ⟨by show Value.int x.toInt8.toInt32 = _; rw [hx3], ?_⟩; rw [← hx3]; exact pk_fb x)
            refine put (.int x) hty9.1 hty9.2 (fun H2 locs2 hz hP2 hD2 hS2 => ?_)
            refine nx _ _ _ h10 va H2 locs2 cells slots lsr (hR.wr hv ?_ ?_ rfl rfl ?_ (hsz H2 hz) hP2 hD2 (hR.2.2.2.2.2.ii hv (fun b hb9 => am_u_ne hb9))) hS2 hc hs hL hO.pop.pop
            · have ht2 : am_ty (am_u h.1 a j x, h.2) a = am_ty h a := am_ty_eq rfl rfl a
              rw [am_ct_obj (by rw [ht2, hty]; exact hlt), ht2, hty]
              refine congrArg (fun z => Sum.inr (ci, z)) (am_setf ?_ ?_).symm
              · unfold am_fv
                rw [hir]
                exact congrArg Value.int am_u_at
              · intro k2 hk2
                unfold am_fv
                show (bif am_isR ci k2 then va_rf (am_ro K va (h.r a k2)) else Value.int (am_u h.1 a j x a k2)) = _
                rw [am_u_nk hk2]
            · intro b hb9
              exact am_ct_eq (am_ty_eq rfl rfl b) (am_u_ne hb9) rfl (fun _ => rfl)
            · intro k2
              show am_u h.1 a j x (za 3004) k2 = _
              rw [am_u_ne (Ne.symm hne4)]
          · have hir : am_isR ci j = true := by rw [hisr]; rfl
            have hty9 : narrow (ty0 j) (.ref (am_ad K va b)) = .ref (am_ad K va b) ∧ fits (ty0 j) (.ref (am_ad K va b)) = true := by
              dsimp only at hkd
              cases hq9 : ty0 j <;> rw [hq9] at hkd <;> first | (exact absurd hkd (by decide)) | (exfalso; revert hkd; simp [am_kd]; done) | exact ⟨rfl, rfl⟩
            refine put (.ref (am_ad K va b)) hty9.1 hty9.2 (fun H2 locs2 hz hP2 hD2 hS2 => ?_)
            refine nx _ _ _ h10 va H2 locs2 cells slots lsr (hR.wr hv ?_ ?_ rfl rfl (fun _ => rfl) (hsz H2 hz) hP2 hD2 (hR.2.2.2.2.2.rr hv (fun b hb9 => am_u_ne hb9) (am_uokv hO.top hR.2.2.2.2.2))) hS2 hc hs hL hO.pop.pop
            · have ht2 : am_ty (h.1, am_u h.2.1 a j (Sum.inr b), h.2.2) a = am_ty h a := am_ty_eq rfl rfl a
              rw [am_ct_obj (by rw [ht2, hty]; exact hlt), ht2, hty]
              refine congrArg (fun z => Sum.inr (ci, z)) (am_setf ?_ ?_).symm
              · unfold am_fv
                rw [hir]
                show va_rf (am_ro K va (am_u h.2.1 a j (Sum.inr b) a j)) = _
                rw [am_u_at]; rfl
              · intro k2 hk2
                unfold am_fv
                show (bif am_isR ci k2 then va_rf (am_ro K va (am_u h.2.1 a j (Sum.inr b) a k2)) else Value.int (h.i a k2)) = _
                rw [am_u_nk hk2]
            · intro b2 hb9
              exact am_ct_eq (am_ty_eq rfl rfl b2) rfl (am_u_ne hb9) (fun _ => rfl)
    · cases h9
end HEAP2
