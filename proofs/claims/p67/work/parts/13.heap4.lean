section HEAP4
variable {K : AKx} {p : Program} {l : Launch} {e : Env} {R : Room} {s : State} {m : MethodId} {args : Array Value} {below : List Frame} {meth : Method} {c : Code} {bytes : ByteArray} {mr : MR} {o : AO} {h1 : AH} {ih : AK} {pc len tgt d : Nat} {r : List CI} {ls : AL} {st : List AV} {h : AH}
theorem am_nnx (hn : h.nx.isNone = true) : h.nx = none := by
  cases hx : h.nx with
  | none => rfl
  | some n => rw [hx] at hn; cases hn
theorem am_ne3004 {a : AA} (hd : am_dyn a = true) : a ≠ za 3004 := by
  intro z
  subst z
  cases hd
theorem am_upd {f : AA → Nat → Int32} {a : AA} {k : Nat} {x : Int32} : (fun j => am_u f a k x a j) = upd (fun j => f a j) k x := by
  funext j
  unfold am_u upd
  by_cases hj : j = k
  · rw [if_pos hj, if_pos rfl, if_pos hj]
  · rw [if_neg hj, if_neg hj]
theorem am_s_iastore (hC : am_Cx K p s m args c bytes mr) (hdec : decode bytes pc = .ok (.iastore, 1)) (nx : am_Nx K p l e R s m args below meth c mr o h1 (pc + 1) d ih r) (hrun : am_step ih mr ((pc, .iastore, len, tgt) :: r) ls st h d = some (o, h1)) : am_G K p l e R s m args below meth c mr o h1 pc ls st h := by
  intro va H locs cells slots lsr hR hS hc hs hL hO
  obtain ⟨hx, hb, hml, hown, hts, hKn⟩ := hC
  have h9 : (match (generalizing := false) st with | Sum.inl (Value.int x) :: Sum.inl (Value.int j) :: Sum.inr a :: t => bif Nat.beq (am_ty h a).1 100 && am_ex h a && am_dyn a && h.nx.isNone then (if 0 ≤ j ∧ j.toNatClampNeg < (am_ty h a).2 then ih mr r ls t (am_u h.1 a j.toNatClampNeg x, h.2) d else none) else none | _ => none) = some (o, h1) := hrun
  split at h9
  · next x j a t =>
    cases hbb : (Nat.beq (am_ty h a).1 100 && am_ex h a && am_dyn a && h.nx.isNone) with
    | false => rw [hbb] at h9; cases h9
    | true =>
      rw [hbb, cond_true] at h9
      obtain ⟨hbb, hnn⟩ := Bool.and_eq_true_iff.mp hbb
      obtain ⟨hbb, hd⟩ := Bool.and_eq_true_iff.mp hbb
      obtain ⟨hb1, hex⟩ := Bool.and_eq_true_iff.mp hbb
      have hnn := am_nnx hnn
      have hty : (am_ty h a).1 = 100 := Nat.eq_of_beq_eq_true hb1
      split at h9
      · next hj =>
        have hv := am_val_of hd hex hty (by decide) hO.pop.pop.top
        have hat := am_here (K := K) (va := va) hv
        rw [am_ct_int hty (by decide) (by decide)] at hat
        refine va_iast hx hb hKn.1 hR.1 hR.2.1 hS (am_jx h a) 0 hat rfl (am_vin hj) hdec (fun H2 locs2 hP2 hD2 hS2 => ?_)
        have ht2 : am_ty (am_u h.1 a j.toNatClampNeg x, h.2) a = am_ty h a := am_ty_eq rfl rfl a
        refine nx _ _ _ h9 va H2 locs2 cells slots lsr (hR.wr hv ?_ (fun b hb9 => am_ct_eq (am_ty_eq rfl rfl b) (am_u_ne hb9) rfl (fun _ => rfl)) rfl rfl (fun k2 => by show am_u h.1 a _ x (za 3004) k2 = _; rw [am_u_ne (Ne.symm (am_ne3004 hd))]) (by rw [hnn]; trivial) hP2 hD2 (hR.2.2.2.2.2.ii hv (fun b hb9 => am_u_ne hb9))) hS2 hc hs hL hO.pop.pop.pop
        rw [am_ct_int (t := 100) (by rw [ht2]; exact hty) (by decide) (by decide), ht2]
        exact congrArg (fun z => Sum.inl (K.2.2.1 100, (am_ty h a).2, Sum.inl z)) am_upd
      · cases h9
  · cases h9
theorem am_s_bastore (hC : am_Cx K p s m args c bytes mr) (hdec : decode bytes pc = .ok (.bastore, 1)) (nx : am_Nx K p l e R s m args below meth c mr o h1 (pc + 1) d ih r) (hrun : am_step ih mr ((pc, .bastore, len, tgt) :: r) ls st h d = some (o, h1)) : am_G K p l e R s m args below meth c mr o h1 pc ls st h := by
  intro va H locs cells slots lsr hR hS hc hs hL hO
  obtain ⟨hx, hb, hml, hown, hts, hKn⟩ := hC
  have h9 : (match (generalizing := false) st with | Sum.inl (Value.int x) :: Sum.inl (Value.int j) :: Sum.inr a :: t => bif (Nat.beq (am_ty h a).1 101 || Nat.beq (am_ty h a).1 102) && am_ex h a && am_dyn a && h.nx.isNone then (if 0 ≤ j ∧ j.toNatClampNeg < (am_ty h a).2 then ih mr r ls t (am_u h.1 a j.toNatClampNeg (vp_nar (bif Nat.beq (am_ty h a).1 101 then .byte else .boolean) x), h.2) d else none) else none | _ => none) = some (o, h1) := hrun
  split at h9
  · next x j a t =>
    cases hbb : ((Nat.beq (am_ty h a).1 101 || Nat.beq (am_ty h a).1 102) && am_ex h a && am_dyn a && h.nx.isNone) with
    | false => rw [hbb] at h9; cases h9
    | true =>
      rw [hbb, cond_true] at h9
      obtain ⟨hbb, hnn⟩ := Bool.and_eq_true_iff.mp hbb
      obtain ⟨hbb, hd⟩ := Bool.and_eq_true_iff.mp hbb
      obtain ⟨hb1, hex⟩ := Bool.and_eq_true_iff.mp hbb
      have hnn := am_nnx hnn
      have hty : (am_ty h a).1 = 101 ∨ (am_ty h a).1 = 102 := by
        rcases Bool.or_eq_true_iff.mp hb1 with z | z
        · exact Or.inl (Nat.eq_of_beq_eq_true z)
        · exact Or.inr (Nat.eq_of_beq_eq_true z)
      split at h9
      · next hj =>
        rcases hty with hty | hty
        · have hv := am_val_of hd hex hty (by decide) hO.pop.pop.top
          have hat := am_here (K := K) (va := va) hv
          rw [am_ct_int hty (by decide) (by decide)] at hat
          have e1 : Nat.beq (am_ty h a).1 101 = true := am_beq hty
          rw [e1, cond_true] at h9
          refine va_bast hx hb hKn.1 hR.1 hR.2.1 hS (am_jx h a) 1 hat rfl (am_vin hj) hdec (fun H2 locs2 hP2 hD2 hS2 => ?_)
          have ht2 : am_ty (am_u h.1 a j.toNatClampNeg (vp_nar .byte x), h.2) a = am_ty h a := am_ty_eq rfl rfl a
          refine nx _ _ _ h9 va H2 locs2 cells slots lsr (hR.wr hv ?_ (fun b hb9 => am_ct_eq (am_ty_eq rfl rfl b) (am_u_ne hb9) rfl (fun _ => rfl)) rfl rfl (fun k2 => by show am_u h.1 a _ _ (za 3004) k2 = _; rw [am_u_ne (Ne.symm (am_ne3004 hd))]) (by rw [hnn]; trivial) hP2 hD2 (hR.2.2.2.2.2.ii hv (fun b hb9 => am_u_ne hb9))) hS2 hc hs hL hO.pop.pop.pop
          rw [am_ct_int (t := 101) (by rw [ht2]; exact hty) (by decide) (by decide), ht2]
          exact congrArg (fun z => Sum.inl (K.2.2.1 101, (am_ty h a).2, Sum.inl z)) am_upd
        · have hv := am_val_of hd hex hty (by decide) hO.pop.pop.top
          have hat := am_here (K := K) (va := va) hv
          rw [am_ct_int hty (by decide) (by decide)] at hat
          have e1 : Nat.beq (am_ty h a).1 101 = false := am_bne (by rw [hty]; decide)
          rw [e1, cond_false] at h9
          refine va_zast hx hb hKn.1 hR.1 hR.2.1 hS (am_jx h a) 2 hat rfl (am_vin hj) hdec (fun H2 locs2 hP2 hD2 hS2 => ?_)
          have ht2 : am_ty (am_u h.1 a j.toNatClampNeg (vp_nar .boolean x), h.2) a = am_ty h a := am_ty_eq rfl rfl a
          refine nx _ _ _ h9 va H2 locs2 cells slots lsr (hR.wr hv ?_ (fun b hb9 => am_ct_eq (am_ty_eq rfl rfl b) (am_u_ne hb9) rfl (fun _ => rfl)) rfl rfl (fun k2 => by show am_u h.1 a _ _ (za 3004) k2 = _; rw [am_u_ne (Ne.symm (am_ne3004 hd))]) (by rw [hnn]; trivial) hP2 hD2 (hR.2.2.2.2.2.ii hv (fun b hb9 => am_u_ne hb9))) hS2 hc hs hL hO.pop.pop.pop
          rw [am_ct_int (t := 102) (by rw [ht2]; exact hty) (by decide) (by decide), ht2]
          exact congrArg (fun z => Sum.inl (K.2.2.1 102, (am_ty h a).2, Sum.inl z)) am_upd
      · cases h9
  · cases h9
theorem am_s_lastore (hC : am_Cx K p s m args c bytes mr) (hdec : decode bytes pc = .ok (.lastore, 1)) (nx : am_Nx K p l e R s m args below meth c mr o h1 (pc + 1) d ih r) (hrun : am_step ih mr ((pc, .lastore, len, tgt) :: r) ls st h d = some (o, h1)) : am_G K p l e R s m args below meth c mr o h1 pc ls st h := by
  intro va H locs cells slots lsr hR hS hc hs hL hO
  obtain ⟨hx, hb, hml, hown, hts, hKn⟩ := hC
  have h9 : (match (generalizing := false) st with | Sum.inl (Value.long x) :: Sum.inl (Value.int j) :: Sum.inr (Sum.inr (Sum.inr (Sum.inr q))) :: t => (if q.1 = 103 ∧ h.nx = none ∧ 0 ≤ j ∧ j.toNatClampNeg < h.dl q.2 then ih mr r ls t (am_ls h q.2 j.toNatClampNeg x) d else none) | _ => none) = some (o, h1) := hrun
  split at h9
  · next x j q t =>
    split at h9
    · next hq =>
      obtain ⟨q1, q2⟩ := q
      obtain ⟨e1, hnx, hj⟩ := hq
      have e1 : q1 = 103 := e1
      subst e1
      have hoa : am_oka h (da 103 q2) := hO.pop.pop.top
      have hty : (am_ty h (da 103 q2)).1 = 103 := rfl
      have hv := am_val_of (t := 103) (a := da 103 q2) rfl (by unfold am_ex; rw [hnx]) hty (by decide) hoa
      have hat := am_here (K := K) (va := va) hv
      rw [am_ct_long hty] at hat
      refine va_last hx hb hKn.1 hR.1 hR.2.1 hS (am_jx h (da 103 q2)) 3 hat rfl (am_vin hj) hdec (fun H2 locs2 hP2 hD2 hS2 => ?_)
      have ht2 : ∀ b, am_ty (am_ls h q2 j.toNatClampNeg x) b = am_ty h b := am_ty_eq rfl rfl
      refine nx _ _ _ h9 va H2 locs2 cells slots lsr (hR.wr hv ?_ (fun b hb9 => am_ct_eq (ht2 b) rfl rfl (fun z => ?_)) rfl rfl (fun _ => rfl) (by rw [hnx]; trivial) hP2 hD2 (hR.2.2.2.2.2.ll hoa.1)) hS2 hc hs hL hO.pop.pop.pop
      · rw [am_ct_long (by rw [ht2]; exact hty), ht2]
        refine congrArg (fun z => Sum.inl (K.2.2.1 103, (am_ty h (da 103 q2)).2, Sum.inr (Sum.inl z))) ?_
        funext i
        show (if q2 = q2 ∧ i = j.toNatClampNeg then x else h.lg q2 i) = vp_updL (fun j => h.lg q2 j) j.toNatClampNeg x i
        unfold vp_updL
        by_cases hi : i = j.toNatClampNeg
        · rw [if_pos ⟨rfl, hi⟩, if_pos hi]
        · rw [if_neg (fun z => hi z.2), if_neg hi]
      · rcases b with w | y | n | ⟨k, i⟩
        · exfalso
          rw [am_ty_w] at z
          cases hl : am_lk w.2 am_tw with
          | none => rw [hl] at z; cases z
          | some t9 => rw [hl] at z; exact (am_tw_t _ (am_lk_mem hl)).2.2.2.1 z
        · exact absurd z (by show ¬ (13 = 103); decide)
        · exfalso
          rcases Nat.lt_or_ge n 1000 with hn | hn
          · have z : (am_ty h (za n)).1 = 103 := z
            rw [am_ty_z, am_ble_f hn] at z
            cases hl : am_lk n am_tz with
            | none => rw [hl] at z; exact absurd z (by show ¬ (999 = 103); decide)
            | some t9 => rw [hl] at z; exact (am_tz_t _ (am_lk_mem hl)).2.2.2.1 z
          · have z : (am_ty h (za n)).1 = 103 := z
            rcases am_ty_c (h := h) hn with ⟨-, e9⟩ | ⟨-, e9⟩ | ⟨-, e9⟩ | ⟨-, e9⟩ | ⟨-, e9⟩ | ⟨_, -, -, e9⟩ | ⟨_, -, -, e9⟩ | ⟨-, e9⟩ | ⟨-, e9⟩ | e9 <;> rw [e9] at z <;> dsimp only at z <;> omega
        · have hk : k = 103 := z
          subst hk
          funext i2
          show (if i = q2 ∧ i2 = j.toNatClampNeg then x else h.lg i i2) = h.lg i i2
          rw [if_neg (fun q => hb9 (by rw [q.1]))]
    · cases h9
  · cases h9
theorem am_cIO : Cond.castable "[I" "java/lang/Object" ∈ lw_tbl := List.mem_append_right _ (show Cond.castable "[I" "java/lang/Object" ∈ tables_1_1 ++ (tables_1_2 ++ (tables_1_3 ++ (tables_1_4 ++ (tables_1_5 ++ (tables_1_6 ++ (tables_1_7 ++ (tables_1_8 ++ (tables_1_9)))))))) from (List.mem_append_right _ (List.mem_append_right _ (List.mem_append_right _ (List.mem_append_right _ (List.mem_append_right _ (List.mem_append_right _ (List.mem_append_right _ (List.mem_append_right _ (List.mem_of_getElem? (i := 37) rfl))))))))))
/-- an array of ints may stand in a row of objects -/
theorem am_anyO {va : Nat → Nat} {b : AA} {H : Heap} (hKn : am_Kn K s s.heap) (hR : am_Rel K va h H) (hv : am_val h b) (ht : (am_ty h b).1 = 100) : va_Any "java/lang/Object" s H (am_ad K va b) := by
  have hat := am_here (K := K) (va := va) hv
  rw [am_ct_int ht (by decide) (by decide)] at hat
  have hcell : H[am_ad K va b]? = some (vp_cell (K.2.2.1 100) ((am_ty h b).2, .inl (fun j => h.i b j))) := hR.1 _ _ hat
  have hra := (hKn.1.2 0 (K.2.2.1 100, .int) rfl).2
  have hnm : s.vm.findClass "[I" = some (K.2.2.1 100) := hra
  obtain ⟨c0, t1, f1, f2, f3⟩ := Cond.castable_spec (va_Nw.use (A := #[]) rfl (hKn.2.1 (.castable "[I" "java/lang/Object") am_cIO rfl))
  cases hnm.symm.trans f1
  obtain ⟨kC, hkC, -⟩ := Vm.findClass_spec hnm
  exact ⟨_, hcell, rfl, ⟨kC, hkC⟩, fun comp hcomp => by
    cases f2.symm.trans hcomp
    exact f3⟩
/-- a reference is stored in a row, the heap's size is known -/
theorem am_vastq {H : Heap} {locs : List Loc} {cells slots : Nat} {Q : State → Prop} {lsr : Array Slot} {rest : List Value} {D : va_G} {cl : List vw_C} {tys : List (ClassId × FieldType)} {ws : va_W} {A : Nat → Prop} {H0 : Heap} {a : Nat} (hexec : p.tables.exec = Jvm.exec) (hb : c.code = bytes) (hK : va_K D cl tys s) (hP : va_P D cl ws H) (hD : va_D A ws) (hS : va_S A H0 H locs) (q0 t0 : Nat) {E : String} {cA : ClassId} {n v : Nat} {f : Nat → Option Nat} (ha : ws[q0]? = some (a, .inl (cA, n, .inr (.inr (.inr (.inr f)))))) (ht : tys[t0]? = some (cA, .object E)) (hr : va_Any E s H v) {i : Int32} (hin : vp_in i n) (hdg : decode bytes pc = .ok (.aastore, 1))
    (kk : ∀ (H1 : Heap) (locs1 : List Loc), H1.size = H.size → va_P D cl (ws.set q0 (a, .inl (cA, n, .inr (.inr (.inr (.inr (va_up f i.toNatClampNeg (some v)))))))) H1 → va_D A (ws.set q0 (a, .inl (cA, n, .inr (.inr (.inr (.inr (va_up f i.toNatClampNeg (some v)))))))) → va_S A H0 H1 locs1 → W p l e R s m args below meth c H1 locs1 cells slots Q (F0 m (pc + 1) lsr rest)) : W p l e R s m args below meth c H locs cells slots Q (F0 m pc lsr (.ref v :: .int i :: .ref a :: rest)) := by
  have hlt : i.toNatClampNeg < n := Nat.not_le.mp fun q => hin (Or.inr q)
  have h0 : ¬ i < 0 := fun q => hin (Or.inl q)
  obtain ⟨cellV, g1, g3, ⟨kC, hkC⟩, hasg⟩ := hr
  obtain ⟨kA, comp, k1, k2, k3, -⟩ := (hK.2 t0 _ ht).2
  obtain ⟨kE, hkE, -⟩ := Vm.findClass_spec k3
  refine W.aast hexec hb (hP q0 _ ha) (fun q h => by cases h) (fun h => by cases h) k1 k2 rfl hkE ⟨h0, by show _ < (arrV _ _ _).slots.size; rw [arrV_size]; exact hlt⟩ g1 (fun q h => by rw [h] at g3; cases g3) hkC (hasg _ k3) rfl rfl hdg fun H1 e z oq => ?_
  refine kk H1 _ z (hP.set hD ha ?_ oq) (hD.set ha) (hS.put z oq (hD.2 q0 _ ha))
  show H1[a]? = some (vp_cell _ _)
  rw [e]
  rw [vp_cell_q, vp_cell_q, arrV_store]
  congr 2
  funext q
  by_cases hq : q = i.toNatClampNeg
  · subst hq
    simp [updV, va_up, va_rf]
  · simp [updV, va_up, hq]
theorem am_s_aastore (hC : am_Cx K p s m args c bytes mr) (hdec : decode bytes pc = .ok (.aastore, 1)) (nx : am_Nx K p l e R s m args below meth c mr o h1 (pc + 1) d ih r) (hrun : am_step ih mr ((pc, .aastore, len, tgt) :: r) ls st h d = some (o, h1)) : am_G K p l e R s m args below meth c mr o h1 pc ls st h := by
  intro va H locs cells slots lsr hR hS hc hs hL hO
  obtain ⟨hx, hb, hml, hown, hts, hKn⟩ := hC
  have h9 : (match (generalizing := false) st with | Sum.inr b :: Sum.inl (Value.int j) :: Sum.inr a :: t => bif am_sto (am_ty h a).1 (am_ty h b).1 && am_ex h a && am_dyn a && am_ex h b && (am_dyn b || Nat.beq (am_ty h b).1 13) then (if 0 ≤ j ∧ j.toNatClampNeg < (am_ty h a).2 then ih mr r ls t (h.1, am_u h.2.1 a j.toNatClampNeg (Sum.inr b), h.2.2) d else none) else none | _ => none) = some (o, h1) := hrun
  split at h9
  · next b j a t =>
    cases hbb : (am_sto (am_ty h a).1 (am_ty h b).1 && am_ex h a && am_dyn a && am_ex h b && (am_dyn b || Nat.beq (am_ty h b).1 13)) with
    | false => rw [hbb] at h9; cases h9
    | true =>
      rw [hbb, cond_true] at h9
      obtain ⟨hbb, hdb9⟩ := Bool.and_eq_true_iff.mp hbb
      obtain ⟨hbb, hexb⟩ := Bool.and_eq_true_iff.mp hbb
      obtain ⟨hbb, hd⟩ := Bool.and_eq_true_iff.mp hbb
      obtain ⟨hb1, hex⟩ := Bool.and_eq_true_iff.mp hbb
      have hty : ((am_ty h a).1 = 104 ∧ (am_ty h b).1 = 100) ∨ ((am_ty h a).1 = 105 ∧ (am_ty h b).1 = 10) ∨ ((am_ty h a).1 = 106 ∧ (am_ty h b).1 = 13) := by
        unfold am_sto at hb1
        rcases Bool.or_eq_true_iff.mp hb1 with z | z
        · rcases Bool.or_eq_true_iff.mp z with z | z
          · obtain ⟨z1, z2⟩ := Bool.and_eq_true_iff.mp z
            exact Or.inl ⟨Nat.eq_of_beq_eq_true z1, Nat.eq_of_beq_eq_true z2⟩
          · obtain ⟨z1, z2⟩ := Bool.and_eq_true_iff.mp z
            exact Or.inr (Or.inl ⟨Nat.eq_of_beq_eq_true z1, Nat.eq_of_beq_eq_true z2⟩)
        · obtain ⟨z1, z2⟩ := Bool.and_eq_true_iff.mp z
          exact Or.inr (Or.inr ⟨Nat.eq_of_beq_eq_true z1, Nat.eq_of_beq_eq_true z2⟩)
      have hob : am_oka h b := hO.top
      split at h9
      · next hj =>
        have ht2 : am_ty (h.1, am_u h.2.1 a j.toNatClampNeg (Sum.inr b), h.2.2) a = am_ty h a := am_ty_eq rfl rfl a
        have hsz : ∀ (H1 : Heap), H1.size = H.size → (match h.nx with | some _ => H1.size = H.size | none => True) := by
          intro H1 hz
          cases h.nx with
          | none => trivial
          | some n => exact hz
        have fin : ∀ (t9 : Nat) (H2 : Heap) (locs2 : List Loc), 104 ≤ t9 → t9 ≠ 999 → (am_ty h a).1 = t9 → H2.size = H.size → va_P K.2.1 vwCl ((am_ws K va h).set (am_jx h a) (am_ad K va a, .inl (K.2.2.1 t9, (am_ty h a).2, .inr (.inr (.inr (.inr (va_up (fun j => am_ro K va (h.r a j)) j.toNatClampNeg (some (am_ad K va b))))))))) H2 → va_D (am_fr K) ((am_ws K va h).set (am_jx h a) (am_ad K va a, .inl (K.2.2.1 t9, (am_ty h a).2, .inr (.inr (.inr (.inr (va_up (fun j => am_ro K va (h.r a j)) j.toNatClampNeg (some (am_ad K va b))))))))) → va_S (am_fr K) s.heap H2 locs2 → W p l e R s m args below meth c H2 locs2 cells slots (vx_MQ below (am_Post K o h1) (am_PostX K o h1) args s R.cells R.slots (am_fr K)) (F0 m (pc + 1) lsr (t.map (am_rv K va))) := by
          intro t9 H2 locs2 h105 h999 hty hz hP2 hD2 hS2
          have hv := am_val_of hd hex hty h999 hO.pop.pop.top
          refine nx _ _ _ h9 va H2 locs2 cells slots lsr (hR.wr hv ?_ (fun b hb9 => am_ct_eq (am_ty_eq rfl rfl b) rfl (am_u_ne hb9) (fun _ => rfl)) rfl rfl (fun _ => rfl) (hsz H2 hz) hP2 hD2 (hR.2.2.2.2.2.rr hv (fun b hb9 => am_u_ne hb9) (am_uokv hob hR.2.2.2.2.2))) hS2 hc hs hL hO.pop.pop.pop
          rw [am_ct_ref (t := t9) (by rw [ht2]; exact hty) h105, ht2]
          refine congrArg (fun z => Sum.inl (K.2.2.1 t9, (am_ty h a).2, Sum.inr (Sum.inr (Sum.inr (Sum.inr z))))) ?_
          funext q
          show am_ro K va (am_u h.2.1 a j.toNatClampNeg (Sum.inr b) a q) = va_up (fun j => am_ro K va (h.r a j)) j.toNatClampNeg (some (am_ad K va b)) q
          unfold va_up
          by_cases hq : q = j.toNatClampNeg
          · rw [if_pos hq, hq, am_u_at]; rfl
          · rw [if_neg hq, am_u_nk hq]
        rcases hty with ⟨hty, htb⟩ | ⟨hty, htb⟩ | ⟨hty, htb⟩
        · have hv := am_val_of hd hex hty (by decide) hO.pop.pop.top
          have hat := am_here (K := K) (va := va) hv
          rw [am_ct_ref hty (by decide)] at hat
          have hdb : am_dyn b = true := by
            rcases Bool.or_eq_true_iff.mp hdb9 with z | z
            · exact z
            · have := Nat.eq_of_beq_eq_true z
              omega
          exact am_vastq hx hb hKn.1 hR.1 hR.2.1 hS (am_jx h a) 4 hat rfl (am_anyO hKn hR (am_val_of hdb hexb htb (by decide) hob) htb) (am_vin hj) hdec (fun H2 locs2 hz hP2 hD2 hS2 => fin 104 H2 locs2 (by decide) (by decide) hty hz hP2 hD2 hS2)
        · have hv := am_val_of hd hex hty (by decide) hO.pop.pop.top
          have hat := am_here (K := K) (va := va) hv
          rw [am_ct_ref hty (by decide)] at hat
          have hdb : am_dyn b = true := by
            rcases am_dyn_or h b with z | ⟨x, rfl⟩ | ⟨n, rfl, hn⟩
            · exact z
            · exact absurd htb (by show ¬ (13 = 10); decide)
            · exfalso
              rcases am_ty_c (h := h) hn with ⟨-, e9⟩ | ⟨-, e9⟩ | ⟨-, e9⟩ | ⟨-, e9⟩ | ⟨-, e9⟩ | ⟨_, -, -, e9⟩ | ⟨_, -, -, e9⟩ | ⟨-, e9⟩ | ⟨-, e9⟩ | e9 <;> rw [e9] at htb <;> dsimp only at htb <;> omega
          have hvb := am_val_of hdb hexb htb (by decide) hob
          have hatb := am_here (K := K) (va := va) hvb
          rw [am_ct_obj (by rw [htb]; decide), htb] at hatb
          have hany : va_Any "MoonlitFloor$World" s H (am_ad K va b) := va_rAny (ci := 10) hKn.1 hR.1 hatb rfl (fun comp c0 g1 g2 => by
            have : comp = c0 := Option.some.inj (g1.symm.trans g2)
            rw [this]
            exact Vm.assignable_self _ _)
          exact am_vastq hx hb hKn.1 hR.1 hR.2.1 hS (am_jx h a) 5 hat rfl hany (am_vin hj) hdec (fun H2 locs2 hz hP2 hD2 hS2 => fin 105 H2 locs2 (by decide) (by decide) hty hz hP2 hD2 hS2)
        · have hv := am_val_of hd hex hty (by decide) hO.pop.pop.top
          have hat := am_here (K := K) (va := va) hv
          rw [am_ct_ref hty (by decide)] at hat
          have hxb : ∃ x, b = ga x := by
            rcases am_dyn_or h b with z | z | ⟨n, rfl, hn⟩
            · exact absurd htb (am_ty_d z hob).1
            · exact z
            · exfalso
              rcases am_ty_c (h := h) hn with ⟨-, e9⟩ | ⟨-, e9⟩ | ⟨-, e9⟩ | ⟨-, e9⟩ | ⟨-, e9⟩ | ⟨_, -, -, e9⟩ | ⟨_, -, -, e9⟩ | ⟨-, e9⟩ | ⟨-, e9⟩ | e9 <;> rw [e9] at htb <;> dsimp only at htb <;> omega
          obtain ⟨x, rfl⟩ := hxb
          have hany : va_Any "MoonlitFloor$Sign" s H (am_ad K va (ga x)) := by
            obtain ⟨cell, g1, g2, g3, -⟩ := (hKn.2.2.2.2.1 x).kept hS.2.1
            obtain ⟨kC, hkC, -⟩ := Vm.findClass_spec g3
            exact ⟨cell, g1, g2, ⟨kC, hkC⟩, fun comp hcomp => by
              have : cell.cls = comp := Option.some.inj (g3.symm.trans hcomp)
              rw [this]
              exact Vm.assignable_self _ _⟩
          exact am_vastq hx hb hKn.1 hR.1 hR.2.1 hS (am_jx h a) 6 hat rfl hany (am_vin hj) hdec (fun H2 locs2 hz hP2 hD2 hS2 => fin 106 H2 locs2 (by decide) (by decide) hty hz hP2 hD2 hS2)
      · cases h9
  · cases h9
/-- two references are held against each other -/
theorem am_aq_of {va : Nat → Nat} {H : Heap} {k1 k2 : AR} {x y : AA} {q : AO × AH} (hKn : am_Kn K s s.heap) (hR : am_Rel K va h H) (hx : am_oka h x) (hy : am_oka h y) (h9 : am_aq k1 k2 x y = some q) : (k1 = some q ∧ am_ad K va x = am_ad K va y) ∨ (k2 = some q ∧ am_ad K va x ≠ am_ad K va y) := by
  have hfr : ∀ k i, am_oka h (da k i) → am_fr K (va i) := fun k i ho => by
    have hat : (am_ws K va h)[am_n h + i]? = some (va i, am_ct K va h (da k i)) := by
      obtain ⟨h1, h2, -⟩ : i < h.nd ∧ h.dk i = k ∧ am_kok k = true := ho
      unfold am_ws
      rw [List.getElem?_append_right (by rw [am_wl]; omega), am_wl, Nat.add_sub_cancel_left, List.getElem?_map, List.getElem?_range h1, Option.map_some, h2]
    exact hR.2.1.2 _ _ hat
  have h3005 : ¬ am_fr K (K.2.2.2.2.1 3005) := hKn.2.2.2.2.2.2.2.2.2.2.2.2.1 3005 (by decide) (by decide)
  rcases x with x | x | x | ⟨k, i⟩ <;> rcases y with y | y | y | ⟨k2', i2⟩
  · cases h9
  · cases h9
  · cases h9
  · cases h9
  · cases h9
  · have h9 : (if x = y then k1 else k2) = some q := h9
    by_cases hxy : x = y
    · rw [if_pos hxy] at h9; exact Or.inl ⟨h9, by rw [hxy]⟩
    · rw [if_neg hxy] at h9; exact Or.inr ⟨h9, fun z => hxy (hKn.2.2.2.2.2.2.2.2.2.2.2.2.2.1 x y z)⟩
  · cases h9
  · cases h9
  · cases h9
  · cases h9
  · have h9 : (if x = 3005 ∧ y = 3005 then k1 else none) = some q := h9
    by_cases hxy : x = 3005 ∧ y = 3005
    · rw [if_pos hxy] at h9; exact Or.inl ⟨h9, by rw [hxy.1, hxy.2]⟩
    · rw [if_neg hxy] at h9; cases h9
  · have h9 : (if x = 3005 then k2 else none) = some q := h9
    by_cases hxy : x = 3005
    · rw [if_pos hxy] at h9
      subst hxy
      refine Or.inr ⟨h9, fun z => h3005 ?_⟩
      have e : am_ad K va (za 3005) = K.2.2.2.2.1 3005 := am_ad_c (by decide)
      have z : am_ad K va (za 3005) = va i2 := z
      rw [← e, z]
      exact hfr _ _ hy
    · rw [if_neg hxy] at h9; cases h9
  · cases h9
  · cases h9
  · have h9 : (if y = 3005 then k2 else none) = some q := h9
    by_cases hxy : y = 3005
    · rw [if_pos hxy] at h9
      subst hxy
      refine Or.inr ⟨h9, fun z => h3005 ?_⟩
      have e : am_ad K va (za 3005) = K.2.2.2.2.1 3005 := am_ad_c (by decide)
      have z : va i = am_ad K va (za 3005) := z
      rw [← e, ← z]
      exact hfr _ _ hx
    · rw [if_neg hxy] at h9; cases h9
  · have h9 : (if i = i2 then k1 else k2) = some q := h9
    by_cases hxy : i = i2
    · rw [if_pos hxy] at h9; exact Or.inl ⟨h9, by rw [hxy]; rfl⟩
    · rw [if_neg hxy] at h9
      refine Or.inr ⟨h9, fun z => hxy ?_⟩
      have hz : ∀ k i, am_oka h (da k i) → (am_ws K va h)[am_n h + i]? = some (va i, am_ct K va h (da k i)) := fun k i ho => by
        obtain ⟨h1, h2, -⟩ : i < h.nd ∧ h.dk i = k ∧ am_kok k = true := ho
        unfold am_ws
        rw [List.getElem?_append_right (by rw [am_wl]; omega), am_wl, Nat.add_sub_cancel_left, List.getElem?_map, List.getElem?_range h1, Option.map_some, h2]
      have := hR.2.1.1 _ _ _ _ (hz _ _ hx) (hz _ _ hy) z
      omega
theorem am_s_acmp_eq {off : Int} (hC : am_Cx K p s m args c bytes mr) (ht : (pc : Int) + off = (tgt : Int)) (hdec : decode bytes pc = .ok (.if_acmp .eq off, 3)) (nx : am_Nx K p l e R s m args below meth c mr o h1 (pc + 3) d ih r) (jm : am_Jm K p l e R s m args below meth c mr o h1 d ih) (hrun : am_step ih mr ((pc, .if_acmp .eq off, len, tgt) :: r) ls st h d = some (o, h1)) : am_G K p l e R s m args below meth c mr o h1 pc ls st h := by
  intro va H locs cells slots lsr hR hS hc hs hL hO
  obtain ⟨hx, hb, hml, hown, hts, hKn⟩ := hC
  have h9 : (match (generalizing := false) st with | Sum.inr y :: Sum.inr x :: t => am_aq (ih mr (am_jmp tgt mr.2.2.1) ls t h d) (ih mr r ls t h d) x y | _ => none) = some (o, h1) := hrun
  split at h9
  · next y x t =>
    have h8 := am_aq_of hKn hR hO.pop.top hO.top h9
    refine lv_acmp_eq (rx := some (am_ad K va x)) (ry := some (am_ad K va y)) hx hb hdec ht (fun hq => ?_) (fun hq => ?_)
    · rcases h8 with ⟨h8, -⟩ | ⟨-, h7⟩
      · exact jm _ _ _ _ h8 va H locs cells slots lsr hR hS hc hs hL hO.pop.pop
      · exact absurd (Option.some.inj hq) h7
    · rcases h8 with ⟨-, h7⟩ | ⟨h8, -⟩
      · exact absurd (congrArg some h7) hq
      · exact nx _ _ _ h8 va H locs cells slots lsr hR hS hc hs hL hO.pop.pop
  · cases h9
theorem am_s_acmp_ne {off : Int} (hC : am_Cx K p s m args c bytes mr) (ht : (pc : Int) + off = (tgt : Int)) (hdec : decode bytes pc = .ok (.if_acmp .ne off, 3)) (nx : am_Nx K p l e R s m args below meth c mr o h1 (pc + 3) d ih r) (jm : am_Jm K p l e R s m args below meth c mr o h1 d ih) (hrun : am_step ih mr ((pc, .if_acmp .ne off, len, tgt) :: r) ls st h d = some (o, h1)) : am_G K p l e R s m args below meth c mr o h1 pc ls st h := by
  intro va H locs cells slots lsr hR hS hc hs hL hO
  obtain ⟨hx, hb, hml, hown, hts, hKn⟩ := hC
  have h9 : (match (generalizing := false) st with | Sum.inr y :: Sum.inr x :: t => am_aq (ih mr r ls t h d) (ih mr (am_jmp tgt mr.2.2.1) ls t h d) x y | _ => none) = some (o, h1) := hrun
  split at h9
  · next y x t =>
    have h8 := am_aq_of hKn hR hO.pop.top hO.top h9
    refine lv_acmp_ne (rx := some (am_ad K va x)) (ry := some (am_ad K va y)) hx hb hdec ht (fun hq => ?_) (fun hq => ?_)
    · rcases h8 with ⟨-, h7⟩ | ⟨h8, -⟩
      · exact absurd (congrArg some h7) hq
      · exact jm _ _ _ _ h8 va H locs cells slots lsr hR hS hc hs hL hO.pop.pop
    · rcases h8 with ⟨h8, -⟩ | ⟨-, h7⟩
      · exact nx _ _ _ h8 va H locs cells slots lsr hR hS hc hs hL hO.pop.pop
      · exact absurd (Option.some.inj hq) h7
  · cases h9
/-- an array, seen as what it is -/
theorem am_s_checkcast {k : Nat} (hC : am_Cx K p s m args c bytes mr) (hw : ∀ tg, am_K mr.1 k = some tg → (tg = 100 ∧ Cond.classLink (am_cn mr.1) k "[I" ∈ sg_T) ∨ (tg = 101 ∧ Cond.classLink (am_cn mr.1) k "[B" ∈ sg_T)) (hdec : decode bytes pc = .ok (.checkcast k, 3)) (nx : am_Nx K p l e R s m args below meth c mr o h1 (pc + 3) d ih r) (hrun : am_step ih mr ((pc, .checkcast k, len, tgt) :: r) ls st h d = some (o, h1)) : am_G K p l e R s m args below meth c mr o h1 pc ls st h := by
  intro va H locs cells slots lsr hR hS hc hs hL hO
  obtain ⟨hx, hb, hml, hown, hts, hKn⟩ := hC
  have h9 : (match am_K mr.1 k with | some tg => (match (generalizing := false) st with | Sum.inr a :: t => bif Nat.beq (am_ty h a).1 tg && am_dyn a && am_ex h a then ih mr r ls (Sum.inr a :: t) h d else none | _ => none) | none => none) = some (o, h1) := hrun
  cases hf : am_K mr.1 k with
  | none => rw [hf] at h9; cases h9
  | some tg =>
    rw [hf] at h9
    dsimp only at h9
    split at h9
    · next a t =>
      cases hbb : (Nat.beq (am_ty h a).1 tg && am_dyn a && am_ex h a) with
      | false => rw [hbb] at h9; cases h9
      | true =>
        rw [hbb, cond_true] at h9
        obtain ⟨hbb, hex⟩ := Bool.and_eq_true_iff.mp hbb
        obtain ⟨hb1, hd⟩ := Bool.and_eq_true_iff.mp hbb
        have hty : (am_ty h a).1 = tg := Nat.eq_of_beq_eq_true hb1
        have hk := nx _ _ _ h9 va H locs cells slots lsr hR hS hc hs hL hO
        rcases hw tg hf with ⟨rfl, hlk⟩ | ⟨rfl, hlk⟩
        · have hat := am_here (K := K) (va := va) (am_val_of hd hex hty (by decide) hO.top)
          rw [am_ct_int hty (by decide) (by decide)] at hat
          exact va_castA hx hb hown (hts _ hlk) hR.1 (am_jx h a) hat (hKn.1.2 0 (K.2.2.1 100, .int) rfl).2 hdec hk
        · have hat := am_here (K := K) (va := va) (am_val_of hd hex hty (by decide) hO.top)
          rw [am_ct_int hty (by decide) (by decide)] at hat
          exact va_castA hx hb hown (hts _ hlk) hR.1 (am_jx h a) hat (hKn.1.2 1 (K.2.2.1 101, .byte) rfl).2 hdec hk
    · cases h9
theorem am_s_ldc2_w {k : Nat} (hC : am_Cx K p s m args c bytes mr) (hw : ∀ v, am_D mr.1 k = some v → Cond.constantLong (am_cn mr.1) k v ∈ sg_T) (hdec : decode bytes pc = .ok (.ldc2_w k, 3)) (nx : am_Nx K p l e R s m args below meth c mr o h1 (pc + 3) d ih r) (hrun : am_step ih mr ((pc, .ldc2_w k, len, tgt) :: r) ls st h d = some (o, h1)) : am_G K p l e R s m args below meth c mr o h1 pc ls st h := by
  intro va H locs cells slots lsr hR hS hc hs hL hO
  obtain ⟨hx, hb, hml, hown, hts, hKn⟩ := hC
  have h9 : (match am_D mr.1 k with | some v => ih mr r ls (Sum.inl (Value.long v) :: st) h d | none => none) = some (o, h1) := hrun
  cases hf : am_D mr.1 k with
  | none => rw [hf] at h9; cases h9
  | some v =>
    rw [hf] at h9
    exact lv_ldc2 hx hb hown (hts _ (hw v hf)) hdec (nx _ _ _ h9 va H locs cells slots lsr hR hS hc hs hL hO.num)
theorem am_s_getstatic {k : Nat} (hC : am_Cx K p s m args c bytes mr) (hdec : decode bytes pc = .ok (.getstatic k, 3)) (nx : am_Nx K p l e R s m args below meth c mr o h1 (pc + 3) d ih r) (hrun : am_step ih mr ((pc, .getstatic k, len, tgt) :: r) ls st h d = some (o, h1)) : am_G K p l e R s m args below meth c mr o h1 pc ls st h := by
  intro va H locs cells slots lsr hR hS hc hs hL hO
  obtain ⟨hx, hb, hml, hown, hts, hKn⟩ := hC
  have h9 : (match am_S mr.1 k with | some v => ih mr r ls (v :: st) h d | none => none) = some (o, h1) := hrun
  split at h9
  · next v hv =>
    obtain ⟨hnd, C, n, ds, hZ, hlink⟩ := hKn.2.2.2.2.2.2.2.2.2.2.2.2.2.2.1 _ _ _ hv
    exact va_gets hx hb (hZ va) hS hown (hts _ hlink) (fun _ h => h) hdec (nx _ _ _ h9 va H locs cells slots lsr hR hS hc hs hL (hO.push (am_ndv_ok hnd)))
  · cases h9
theorem am_ldcSW {H : Heap} {locs : List Loc} {cells slots : Nat} {Q : State → Prop} {lsr : Array Slot} {rest : List Value} (hexec : p.tables.exec = Jvm.exec) (hb : c.code = bytes) {own tx : String} {index q : Nat} (hown : s.vm.findClass own = some m.cls) (hZ : vk_R own index tx q s) (hdg : decode bytes pc = .ok (.ldc_w index, 3))
    (k : W p l e R s m args below meth c H locs cells slots Q (F0 m (pc + 3) lsr (.ref q :: rest))) : W p l e R s m args below meth c H locs cells slots Q (F0 m pc lsr rest) := by
  intro T hT X
  obtain ⟨t, a1, b1⟩ := k T hT X
  have h9 : (Cond.stringRef own index tx).before args s = true := by
    have := hZ.1
    exact this
  exact ⟨t, X.ldcStringW hexec hown (text := tx) (a := q) h9 hZ.2 (g := F0 m pc lsr rest) rfl (by rw [hb]; exact hdg) t a1, b1⟩
theorem am_s_ldc {k : Nat} (hC : am_Cx K p s m args c bytes mr) (hdec : decode bytes pc = .ok (.ldc k, 2)) (nx : am_Nx K p l e R s m args below meth c mr o h1 (pc + 2) d ih r) (hrun : am_step ih mr ((pc, .ldc k, len, tgt) :: r) ls st h d = some (o, h1)) : am_G K p l e R s m args below meth c mr o h1 pc ls st h := by
  intro va H locs cells slots lsr hR hS hc hs hL hO
  obtain ⟨hx, hb, hml, hown, hts, hKn⟩ := hC
  have h9 : (match am_C mr.1 k with | some v => ih mr r ls (v :: st) h d | none => none) = some (o, h1) := hrun
  split at h9
  · next v hv =>
    rcases hKn.2.2.2.2.2.2.2.2.2.2.2.2.2.2.2.1 _ _ _ hv with ⟨x, rfl, hw⟩ | ⟨n, text, rfl, hn, hw⟩
    · exact lv_ldc hx hb hown (hts _ hw) hdec (nx _ _ _ h9 va H locs cells slots lsr hR hS hc hs hL hO.num)
    · have hk := nx _ _ _ h9 va H locs cells slots lsr hR hS hc hs hL (hO.push trivial)
      refine va_ldcS hx hb hown hw hdec ?_
      rw [← am_ad_c (K := K) (va := va) hn]
      exact hk
  · cases h9
theorem am_s_ldc_w {k : Nat} (hC : am_Cx K p s m args c bytes mr) (hdec : decode bytes pc = .ok (.ldc_w k, 3)) (nx : am_Nx K p l e R s m args below meth c mr o h1 (pc + 3) d ih r) (hrun : am_step ih mr ((pc, .ldc_w k, len, tgt) :: r) ls st h d = some (o, h1)) : am_G K p l e R s m args below meth c mr o h1 pc ls st h := by
  intro va H locs cells slots lsr hR hS hc hs hL hO
  obtain ⟨hx, hb, hml, hown, hts, hKn⟩ := hC
  have h9 : (match am_C mr.1 k with | some v => ih mr r ls (v :: st) h d | none => none) = some (o, h1) := hrun
  split at h9
  · next v hv =>
    rcases hKn.2.2.2.2.2.2.2.2.2.2.2.2.2.2.2.1 _ _ _ hv with ⟨x, rfl, hw⟩ | ⟨n, text, rfl, hn, hw⟩
    · exact lv_ldcw hx hb hown (hts _ hw) hdec (nx _ _ _ h9 va H locs cells slots lsr hR hS hc hs hL hO.num)
    · have hk := nx _ _ _ h9 va H locs cells slots lsr hR hS hc hs hL (hO.push trivial)
      refine am_ldcSW hx hb hown hw hdec ?_
      rw [← am_ad_c (K := K) (va := va) hn]
      exact hk
  · cases h9
theorem am_s_tableswitch {dflt lo hi : Int} {offs : Array Int} {len2 : Nat} (hC : am_Cx K p s m args c bytes mr) (hdec : decode bytes pc = .ok (.tableswitch dflt lo hi offs, len2)) (jm : am_Jm K p l e R s m args below meth c mr o h1 d ih) (hrun : am_step ih mr ((pc, .tableswitch dflt lo hi offs, len, tgt) :: r) ls st h d = some (o, h1)) : am_G K p l e R s m args below meth c mr o h1 pc ls st h := by
  intro va H locs cells slots lsr hR hS hc hs hL hO
  obtain ⟨hx, hb, hml, hown, hts, hKn⟩ := hC
  have h9 : (match (generalizing := false) st with | Sum.inl (Value.int x) :: t => am_tsw (fun tgt => ih mr (am_jmp tgt mr.2.2.1) ls t h d) pc dflt lo hi offs x | _ => none) = some (o, h1) := hrun
  split at h9
  · next x t =>
    unfold am_tsw at h9
    split at h9
    · next hout =>
      split at h9
      · next hpos => exact lv_tableOut hx hb hdec hout (Int.toNat_of_nonneg hpos).symm (jm _ _ _ _ h9 va H locs cells slots lsr hR hS hc hs hL hO.pop)
      · cases h9
    · next hin =>
      split at h9
      · next of hof =>
        split at h9
        · next hpos => exact lv_tableIn hx hb hdec (fun z => hin (Or.inl z)) (fun z => hin (Or.inr z)) (by rw [← Array.getElem?_toList]; exact hof) (Int.toNat_of_nonneg hpos).symm (jm _ _ _ _ h9 va H locs cells slots lsr hR hS hc hs hL hO.pop)
        · cases h9
      · cases h9
  · cases h9
theorem am_s_lookupswitch {dflt : Int} {ps : Array (Int × Int)} {len2 : Nat} (hC : am_Cx K p s m args c bytes mr) (hps : (ps.toList.zip (ps.toList.drop 1)).all (fun (a, next) => a.1 < next.1) = true) (hdec : decode bytes pc = .ok (.lookupswitch dflt ps, len2)) (jm : am_Jm K p l e R s m args below meth c mr o h1 d ih) (hrun : am_step ih mr ((pc, .lookupswitch dflt ps, len, tgt) :: r) ls st h d = some (o, h1)) : am_G K p l e R s m args below meth c mr o h1 pc ls st h := by
  intro va H locs cells slots lsr hR hS hc hs hL hO
  obtain ⟨hx, hb, hml, hown, hts, hKn⟩ := hC
  have h9 : (match (generalizing := false) st with | Sum.inl (Value.int x) :: t => am_lsw (fun tgt => ih mr (am_jmp tgt mr.2.2.1) ls t h d) pc dflt ps x | _ => none) = some (o, h1) := hrun
  split at h9
  · next x t =>
    unfold am_lsw at h9
    split at h9
    · next hpos => exact lv_lookup hx hb hdec hps rfl (Int.toNat_of_nonneg hpos).symm (jm _ _ _ _ h9 va H locs cells slots lsr hR hS hc hs hL hO.pop)
    · cases h9
  · cases h9
end HEAP4
