/-! by hand: AbstractStringBuilder.ensureCapacityInternal -/
section YD
theorem den_0 : decode cJ5_ensureCapacityInternal_d00df 0 = .ok (.aload_n 0, 1) := by decide +kernel
theorem den_1 : decode cJ5_ensureCapacityInternal_d00df 1 = .ok (.getfield 15, 3) := by decide +kernel
theorem den_4 : decode cJ5_ensureCapacityInternal_d00df 4 = .ok (.arraylength, 1) := by decide +kernel
theorem den_5 : decode cJ5_ensureCapacityInternal_d00df 5 = .ok (.aload_n 0, 1) := by decide +kernel
theorem den_6 : decode cJ5_ensureCapacityInternal_d00df 6 = .ok (.getfield 22, 3) := by decide +kernel
theorem den_9 : decode cJ5_ensureCapacityInternal_d00df 9 = .ok (.ishr, 1) := by decide +kernel
theorem den_10 : decode cJ5_ensureCapacityInternal_d00df 10 = .ok (.istore_n 2, 1) := by decide +kernel
theorem den_11 : decode cJ5_ensureCapacityInternal_d00df 11 = .ok (.iload_n 1, 1) := by decide +kernel
theorem den_12 : decode cJ5_ensureCapacityInternal_d00df 12 = .ok (.iload_n 2, 1) := by decide +kernel
theorem den_13 : decode cJ5_ensureCapacityInternal_d00df 13 = .ok (.isub, 1) := by decide +kernel
theorem den_14 : decode cJ5_ensureCapacityInternal_d00df 14 = .ok (.ifCond .le 24, 3) := by decide +kernel
theorem den_17 : decode cJ5_ensureCapacityInternal_d00df 17 = .ok (.aload_n 0, 1) := by decide +kernel
theorem den_18 : decode cJ5_ensureCapacityInternal_d00df 18 = .ok (.aload_n 0, 1) := by decide +kernel
theorem den_19 : decode cJ5_ensureCapacityInternal_d00df 19 = .ok (.getfield 15, 3) := by decide +kernel
theorem den_22 : decode cJ5_ensureCapacityInternal_d00df 22 = .ok (.aload_n 0, 1) := by decide +kernel
theorem den_23 : decode cJ5_ensureCapacityInternal_d00df 23 = .ok (.iload_n 1, 1) := by decide +kernel
theorem den_24 : decode cJ5_ensureCapacityInternal_d00df 24 = .ok (.invokevirtual 104, 3) := by decide +kernel
theorem den_27 : decode cJ5_ensureCapacityInternal_d00df 27 = .ok (.aload_n 0, 1) := by decide +kernel
theorem den_28 : decode cJ5_ensureCapacityInternal_d00df 28 = .ok (.getfield 22, 3) := by decide +kernel
theorem den_31 : decode cJ5_ensureCapacityInternal_d00df 31 = .ok (.ishl, 1) := by decide +kernel
theorem den_32 : decode cJ5_ensureCapacityInternal_d00df 32 = .ok (.invokestatic 108, 3) := by decide +kernel
theorem den_35 : decode cJ5_ensureCapacityInternal_d00df 35 = .ok (.putfield 15, 3) := by decide +kernel
theorem den_38 : decode cJ5_ensureCapacityInternal_d00df 38 = .ok (.return_, 1) := by decide +kernel
def en_ens : ME := ((16, 3, [], []), yJ5_ensureCapacityInternal_d00df, cJ5_ensureCapacityInternal_d00df, none, none)
theorem le_sub0 {a b : Nat} (ha : a < 2 ^ 30) (hb : b < 2 ^ 30) : nI a - nI b ≤ 0 ↔ a ≤ b := by
  rw [Int32.le_iff_toInt_le, pk_sub_toInt ha hb]
  show (a : Int) - b ≤ 0 ↔ a ≤ b
  omega
theorem am_ty_3 {h h2 : AH} {a : AA} (ha : a ≠ za 3) (hsl : h2.sl = h.sl) : am_ty h2 a = am_ty h a := by
  rcases a with ⟨i, j⟩ | x | n
  · rfl
  · rfl
  · have hn : n ≠ 3 := fun e => ha (congrArg za e)
    rw [am_ty_z, am_ty_z, am_bne hn, hsl]
    rfl
theorem am_ct_va {K : AKx} {va ra : Nat} {h : AH} {a : AA} (h0 : am_NA h) (ha : a ≠ za 2) : am_ct K ra h a = am_ct K va h a := by
  have hr : ∀ k, am_ro K ra (h.r a k) = am_ro K va (h.r a k) := fun k => by
    have g := am_rv_noS (K := K) (va := ra) (va1 := va) (h0 a k ha)
    cases e : h.2.1 a k with
    | inl v =>
      show am_ro K ra (h.2.1 a k) = am_ro K va (h.2.1 a k)
      rw [e]; rfl
    | inr b =>
      show am_ro K ra (h.2.1 a k) = am_ro K va (h.2.1 a k)
      rw [e] at g ⊢
      have g : Value.ref (am_ad K ra b) = Value.ref (am_ad K va b) := g
      injection g with g
      exact congrArg some g
  have hf : ∀ t k, am_fv K ra h a t k = am_fv K va h a t k := fun t k => by
    unfold am_fv
    rw [hr]
  have hac : ∀ t, am_ac K ra h a t = am_ac K va h a t := fun t => by
    unfold am_ac
    rw [show (fun j => am_ro K ra (h.r a j)) = (fun j => am_ro K va (h.r a j)) from funext hr]
  unfold am_ct
  rw [hac, show am_fv K ra h a (am_ty h a).1 = am_fv K va h a (am_ty h a).1 from funext (hf _)]
theorem lay_ne {k : Nat} (hk : k < am_all) : (k ≠ 2 → am_lay k ≠ za 2) ∧ (k ≠ 3 → am_lay k ≠ za 3) := by
  refine ⟨fun h e => h ?_, fun h e => h ?_⟩
  · have g := am_lay_at hk
    rw [e] at g
    exact g.symm
  · have g := am_lay_at hk
    rw [e] at g
    exact g.symm
section YD1
variable {K : AKx} {va ra : Nat} {h : AH} {q : Nat}
/-- the heap with a longer text -/
theorem am_ws_grow (hnx : h.nx = none) (h0 : am_NA h) (hv3 : h.2.1 (za 2) 0 = zr 3) (hco : h.1 (za 2) 1 = 0) (hcap : ¬ q ≤ h.cp) : (((am_ws K va h).set 3 (ra, .inl (K.2.2.1 101, sb_cap q h.cp, .inl (fun j => if h.cp ≤ j then 0 else h.1 (za 3) j)))).set 2 (am_ad K va (za 2), .inr (1, [.ref ra, .int 0, .int (h.1 (za 2) 2), .int (h.1 (za 2) 3)]))) = am_ws K ra (am_grow h q) := by
  have eg : am_grow h q = ((fun b j => if b = za 3 ∧ h.cp ≤ j then 0 else h.1 b j), h.2.1, h.2.2.1, h.2.2.2.1, sb_cap q h.cp, h.nc + 1, h.ns + sb_cap q h.cp, h.sl, h.nx) := if_neg hcap
  have hn0 : am_n h = 205 := by
    unfold am_n
    rw [hnx]
    rfl
  have hn1 : am_n (am_grow h q) = 205 := by
    rw [eg]
    unfold am_n
    show (match h.nx with | none => am_all | some n => n) = 205
    rw [hnx]
    rfl
  have hl : (am_ws K va h).length = 205 := by
    unfold am_ws
    rw [List.length_map, List.length_range, hn0]
  have gk : ∀ k, k < 205 → (am_ws K ra (am_grow h q))[k]? = some (am_ad K ra (am_lay k), am_ct K ra (am_grow h q) (am_lay k)) := fun k hk => by
    unfold am_ws
    rw [List.getElem?_map, hn1, List.getElem?_range hk]
    rfl
  have gk0 : ∀ k, k < 205 → (am_ws K va h)[k]? = some (am_ad K va (am_lay k), am_ct K va h (am_lay k)) := fun k hk => by
    unfold am_ws
    rw [List.getElem?_map, hn0, List.getElem?_range hk]
    rfl
  apply List.ext_getElem?
  intro k
  by_cases k2 : k = 2
  · subst k2
    rw [List.getElem?_set_self (by rw [List.length_set, hl]; decide), gk 2 (by decide)]
    have e : am_ct K ra (am_grow h q) (am_lay 2) = .inr (1, [va_rf (am_ro K ra (h.2.1 (za 2) 0)), .int (h.1 (za 2) 1), .int (h.1 (za 2) 2), .int (h.1 (za 2) 3)]) := by
      rw [eg]
      rfl
    rw [e, hv3, hco]
    rfl
  · rw [List.getElem?_set_ne (Ne.symm k2)]
    by_cases k3 : k = 3
    · subst k3
      rw [List.getElem?_set_self (by rw [hl]; decide), gk 3 (by decide), eg]
      have e : (fun j => if h.cp ≤ j then (0 : Int32) else h.1 (za 3) j) = (fun j => if za 3 = za 3 ∧ h.cp ≤ j then (0 : Int32) else h.1 (za 3) j) := by
        funext j
        by_cases c : h.cp ≤ j
        · rw [if_pos c, if_pos ⟨rfl, c⟩]
        · rw [if_neg c, if_neg (fun z => c z.2)]
      rw [e]
      rfl
    · rw [List.getElem?_set_ne (Ne.symm k3)]
      by_cases hk : k < 205
      · rw [gk0 k hk, gk k hk]
        obtain ⟨n2, n3⟩ := lay_ne (k := k) hk
        have n2 := n2 k2
        have n3 := n3 k3
        have ea : am_ad K ra (am_lay k) = am_ad K va (am_lay k) := by
          generalize am_lay k = a at n3
          rcases a with w | x | n
          · rfl
          · rfl
          · have hn : n ≠ 3 := fun e => n3 (congrArg za e)
            show (bif Nat.beq n 3 then ra else _) = (bif Nat.beq n 3 then va else _)
            rw [am_bne hn]
            rfl
        have ec : am_ct K ra (am_grow h q) (am_lay k) = am_ct K ra h (am_lay k) := by
          rw [eg]
          refine am_ct_eq (am_ty_3 n3 rfl) (funext fun j => if_neg (fun z => n3 z.1)) rfl (fun _ => rfl) (fun _ => rfl)
        rw [ea, ec, am_ct_va h0 n2]
      · have e1 : (am_ws K va h)[k]? = none := List.getElem?_eq_none (by rw [hl]; omega)
        have e2 : (am_ws K ra (am_grow h q))[k]? = none := by
          refine List.getElem?_eq_none ?_
          unfold am_ws
          rw [List.length_map, List.length_range, hn1]
          omega
        rw [e1, e2]
end YD1
theorem Kn_sel {K : AKx} {s : State} (h : am_Kn K s s.heap) : va_Nw (.selects "java/lang/StringBuilder" yJ5_ensureCapacityInternal_d00df yJ5_ensureCapacityInternal_d00df) s ∧ va_Nw (.selects "java/lang/StringBuilder" yJ5_newCapacity_0f7a4 yJ5_newCapacity_0f7a4) s := by
  obtain ⟨-, -, -, -, -, -, -, -, -, -, -, -, -, -, -, -, -, -, -, -, -, -, -, z1, z2⟩ := h
  exact ⟨z1, z2⟩
set_option maxHeartbeats 1000000 in
theorem c_ens {K : AKx} {l : Launch} {d q : Nat} {h : AH} (hd : 5 ≤ d) (hq : q ≤ 30000) (hcp : h.cp ≤ 30000) (hnx : h.nx = none) (hco : h.1 (za 2) 1 = 0) (hby : am_by (h.1 (za 3)) h.cp = true) (hv3 : h.2.1 (za 2) 0 = zr 3) : am_Ct K l en_ens d [zr 2, vi (nI q)] h (Sum.inl none) (am_grow h q) := by
  refine vx_ofW (cc := cJ5_ensureCapacityInternal_d00df) (maxL := 3) (ret := none) (ws' := sg_T) (by decide) rfl (fun p e s m args below meth c s₁ B hml hno hPc => ?_)
  obtain ⟨va, rfl, hR, hKn⟩ := hPc
  have hx := B.exec
  have hb := B.bytes
  have hr := B.returns
  have hlocks := B.notSynchronized
  have hts0 := atoms_spec (ws := am_wd en_ens :: sg_T) B.pre
  have hts : ∀ w ∈ sg_T, w.before #[.ref (am_ad K va (za 2)), .int (nI q)] s = true := fun w hw => hts0 w (List.mem_cons_of_mem _ hw)
  have hown : s.vm.findClass RJ5 = some m.cls := findClass_of_methodNamed B.named
  show W p l e (am_rm d h (am_grow h q)) s m #[.ref (am_ad K va (za 2)), .int (nI q)] below meth c s.heap [] 0 0 (vx_MQ below (am_Post K (Sum.inl none) (am_grow h q)) (am_PostX K (Sum.inl none) (am_grow h q)) #[.ref (am_ad K va (za 2)), .int (nI q)] s ((am_grow h q).nc - h.nc) ((am_grow h q).ns - h.ns) (am_fr K)) (entryFrame m ([.ref (am_ad K va (za 2)), .int (nI q)] : List Value).toArray 3)
  have hl := lv_entry ([.ref (am_ad K va (za 2)), .int (nI q)]) (n := 3) (Nat.le_of_ble_eq_true rfl)
  rw [lg_entry_eq]
  generalize (lg_sl ([.ref (am_ad K va (za 2)), .int (nI q)]) ++ List.replicate (3 - (lg_sl ([.ref (am_ad K va (za 2)), .int (nI q)])).length) Slot.unset).toArray = ls at hl ⊢
  have hl : lv_has ls 3 [(0, .ref (am_ad K va (za 2))), (1, .int (nI q))] := hl
  have hP := hR.1
  have hD := hR.2.1
  have hex : ∀ a, am_ex h a = true := fun a => by
    unfold am_ex
    rw [hnx]
  have e2 : (am_ws K va h)[2]? = some (am_ad K va (za 2), .inr (1, [.ref va, .int 0, .int (h.1 (za 2) 2), .int (h.1 (za 2) 3)])) := by
    have g := am_here (K := K) (va := va) (am_val_of (h := h) (a := za 2) rfl (hex _) (t := 1) rfl (by decide))
    have g2 : am_ct K va h (za 2) = .inr (1, [va_rf (am_ro K va (h.2.1 (za 2) 0)), .int (h.1 (za 2) 1), .int (h.1 (za 2) 2), .int (h.1 (za 2) 3)]) := rfl
    rw [g2, hv3, hco] at g
    exact g
  have e3 : (am_ws K va h)[3]? = some (va, .inl (K.2.2.1 101, h.cp, .inl (h.1 (za 3)))) := am_here (K := K) (va := va) (am_val_of (h := h) (a := za 3) rfl (hex _) (t := 101) rfl (by decide))
  have hPs : va_P K.2.1 vwCl (bw_ (am_ad K va (za 2)) va (K.2.2.1 101) h.cp (h.1 (za 3)) (.int (h.1 (za 2) 2)) (.int (h.1 (za 2) 3))) s.heap := hP.sub [2, 3] (by
    show List.filterMap (fun i => (am_ws K va h)[i]?) [2, 3] = _
    rw [List.filterMap_cons, e2, List.filterMap_cons, e3]
    rfl)
  have hKs : va_K K.2.1 vwCl [(K.2.2.1 101, .byte)] s := hKn.1.sub [1] rfl
  have hS : va_S (am_fr K) s.heap s.heap [] := va_S.rf
  have hK1 : K.1 + 2 < s.heap.size := (hP 2 _ e2).lt
  obtain ⟨s1, s2⟩ := Kn_sel hKn
  generalize hbb : am_ad K va (za 2) = b at *
  refine lv_aload_n hx hb den_0 rfl (lv_at hl 0 rfl) ?_
  refine va_get (D := K.2.1) (ci := 1) (v := .ref va) (own := RJ5) (ref := RJ5) (C := RJ4) (T := TJ4) (N := 4) hx hb hts fw_1 hown hKs hPs 0 rfl rfl 0 (by decide) (hts _ kt_1_59) (fun _ h9 => h9) rfl den_1 ?_
  refine va_alen (v := nI h.cp) hx hb hKs hPs 1 0 rfl rfl rfl den_4 ?_
  refine lv_aload_n hx hb den_5 rfl (lv_at hl 0 rfl) ?_
  refine va_get (D := K.2.1) (ci := 1) (v := .int 0) (own := RJ5) (ref := RJ5) (C := RJ4) (T := TJ4) (N := 4) hx hb hts fw_1 hown hKs hPs 0 rfl rfl 1 (by decide) (hts _ kt_1_60) (fun _ h9 => h9) rfl den_6 ?_
  refine lv_ishr hx hb den_9 ?_
  rw [sb_shr0]
  refine lv_istore_n hx hb den_10 rfl hl (by decide) rfl (fun ls hl => ?_)
  have hl : lv_has ls 3 [(2, .int (nI h.cp)), (0, .ref b), (1, .int (nI q))] := hl
  refine lv_iload_n hx hb den_11 rfl (lv_at hl 2 rfl) ?_
  refine lv_iload_n hx hb den_12 rfl (lv_at hl 0 rfl) ?_
  refine lv_isub hx hb den_13 ?_
  by_cases c0 : q ≤ h.cp
  · refine lv_if_le (tgt := 38) hx hb den_14 (by decide) (fun _ => ?_) (fun h9 => absurd ((le_sub0 (by omega) (by omega)).mpr c0) h9)
    have eg : am_grow h q = h := if_pos c0
    rw [eg]
    refine vx_ret (W.widen (k := h.nc - h.nc) (n := h.ns - h.ns) (Nat.zero_le _) (Nat.zero_le _) ?_)
    exact W.vret hx hb hr (fun t ht hW => ⟨none, va, rfl, rfl, by rw [ht]; exact hR, hS.F ht⟩) hS.2.2 den_38
  · refine lv_if_le (tgt := 38) hx hb den_14 (by decide) (fun h9 => absurd ((le_sub0 (by omega) (by omega)).mp h9) c0) (fun _ => ?_)
    have eg : am_grow h q = ((fun b j => if b = za 3 ∧ h.cp ≤ j then 0 else h.1 b j), h.2.1, h.2.2.1, h.2.2.2.1, sb_cap q h.cp, h.nc + 1, h.ns + sb_cap q h.cp, h.sl, h.nx) := if_neg c0
    have en : (am_grow h q).nc - h.nc = 1 := by
      rw [eg]
      show h.nc + 1 - h.nc = 1
      omega
    have es : (am_grow h q).ns - h.ns = sb_cap q h.cp := by
      rw [eg]
      show h.ns + sb_cap q h.cp - h.ns = sb_cap q h.cp
      omega
    have hcap : sb_cap q h.cp ≤ 100000 ∧ h.cp < sb_cap q h.cp := by
      rw [← cap_e (show h.cp < q by omega)]
      omega
    have eR : am_rm d h (am_grow h q) = ({ frames := d, cells := 1, slots := sb_cap q h.cp, locals := 41 * d } : Room) := by
      unfold am_rm
      rw [en, es]
    rw [eR, en, es]
    refine lv_aload_n hx hb den_17 rfl (lv_at hl 1 rfl) ?_
    refine lv_aload_n hx hb den_18 rfl (lv_at hl 1 rfl) ?_
    refine va_get (D := K.2.1) (ci := 1) (v := .ref va) (own := RJ5) (ref := RJ5) (C := RJ4) (T := TJ4) (N := 4) hx hb hts fw_1 hown hKs hPs 0 rfl rfl 0 (by decide) (hts _ kt_1_59) (fun _ h9 => h9) rfl den_19 ?_
    refine lv_aload_n hx hb den_22 rfl (lv_at hl 1 rfl) ?_
    refine lv_iload_n hx hb den_23 rfl (lv_at hl 2 rfl) ?_
    refine va_calli (va_runV (own := RJ5) (C := RJ4) (ret := some .int) (bytes := cJ5_newCapacity_0f7a4) (maxL := 6) (n := 1) (As := [.int (nI q)]) (rest := [.ref va, .ref b]) ⟨hx, hb, hml, hown, hts⟩ (c_nc l K.2.1 s.heap b va (K.2.2.1 101) h.cp q (h.1 (za 3)) (.int (h.1 (za 2) 2)) (.int (h.1 (za 2) 3)) hcp hq (by omega)) ⟨⟨rfl, rfl, by show 2 + 1 ≤ d; omega, by show 8 + (6 + 11) + 45 ≤ 41 * d; omega, py_ hts kt_6_230, List.mem_cons_self, hts _ kt_6_230, hts _ kt_1_2, ⟨by decide, by decide⟩, pl_ (by decide +kernel), hts _ kt_6_227⟩, hts _ kt_6_229, s2⟩ ⟨fun a U g mk q => ⟨q.1, q.2.1, va_K.moved (u := U) (U := U.calling g mk a) (Vm.Alike.refl U.vm) q.2.2.1, q.2.2.2⟩, va_recv hKs hPs (ci := 1) (q0 := 0) rfl rfl, fun U hU hW => ⟨rfl, hU, va_K.moved hW.alike hKs, by rw [hU]; exact hPs⟩⟩ rfl rfl hl.1 rfl (lv_room (Nat.le_of_ble_eq_true rfl)) den_24 ⟨Nat.zero_le _, Nat.zero_le _⟩) hS (fun q _ h => h.elim) (fun q h => h.elim) (fun r u t H1 locs1 ht hvm hw hB hz hk hS1 => ?_)
    have e1 : H1 = s.heap := ht.symm.trans hB
    subst e1
    have hw : r = nI (sb_cap q h.cp) := hw
    subst hw
    refine lv_aload_n hx hb den_27 rfl (lv_at hl 1 rfl) ?_
    refine va_get (D := K.2.1) (ci := 1) (v := .int 0) (own := RJ5) (ref := RJ5) (C := RJ4) (T := TJ4) (N := 4) hx hb hts fw_1 hown hKs hPs 0 rfl rfl 1 (by decide) (hts _ kt_1_60) (fun _ h9 => h9) rfl den_28 ?_
    refine lv_ishl hx hb den_31 ?_
    rw [sb_shl0]
    have nA : ∀ z, va_A [(va, .inl (K.2.2.1 101, h.cp, .inl (h.1 (za 3))))] s.heap.size z → z = va ∨ s.heap.size ≤ z := fun z hz => by
      rcases hz with ⟨k, e9, hk⟩ | hz
      · match k, hk with
        | 0, hk => cases hk; exact Or.inl rfl
        | k + 1, hk => cases hk
      · exact Or.inr hz
    have fva : am_fr K va := hD.2 3 _ e3
    have hPv : va_P K.2.1 vwCl [(va, .inl (K.2.2.1 101, h.cp, .inl (h.1 (za 3))))] s.heap := hPs.sub [1] rfl
    refine va_callr (va_runS (own := RJ5) (ret := some (.array .byte)) (bytes := cJ7_copyOf_9075b) (maxL := 3) (n := 2) (As := [.ref va, .int (nI (sb_cap q h.cp))]) (rest := [.ref b]) ⟨hx, hb, hml, hown, hts⟩ (c_cp l K.2.1 s.heap.size va (K.2.2.1 101) h.cp (sb_cap q h.cp) (h.1 (za 3)) hcp hcap.1 hcap.2 (by_iff.mp hby)) ⟨⟨rfl, rfl, by show 1 + 1 ≤ d; omega, by show 8 + (3 + 11) + 100 ≤ 41 * d; omega, py_ hts kt_7_2, List.mem_cons_self, hts _ kt_7_2, hts _ kt_1_18, ⟨by decide, by decide⟩, pl_ (by decide +kernel), hts _ kt_7_0⟩, hts _ kt_7_1⟩ ⟨fun a U g mk q => ⟨q.1, q.2.1, va_K.moved (u := U) (U := U.calling g mk a) (Vm.Alike.refl U.vm) q.2.2.1, q.2.2.2⟩, fun U hU hW => ⟨rfl, by rw [hU], va_K.moved hW.alike hKs, by rw [hU]; exact hPv⟩⟩ rfl rfl hl.1 rfl (lv_room (Nat.le_of_ble_eq_true rfl)) den_32 ⟨by show 0 + 0 + 1 ≤ 1; omega, by show 0 + 0 + sb_cap q h.cp ≤ sb_cap q h.cp; omega⟩) hS1 (fun z hz h9 => by
      rcases nA z h9 with rfl | h9
      · exact fva
      · omega) (fun z h9 => by
      rcases nA z h9 with rfl | h9
      · exact fva
      · show K.1 ≤ z
        omega) (fun u ra t2 H2 locs2 ht2 hvm2 hw2 hB2 hz2 hk2 hS2 => ?_)
    obtain ⟨hB2, hra⟩ := hB2
    rw [ht2] at hB2
    have hP4 : va_P K.2.1 vwCl ((am_ws K va h).set 3 (ra, .inl (K.2.2.1 101, sb_cap q h.cp, .inl (fun j => if h.cp ≤ j then 0 else h.1 (za 3) j)))) H2 := fun k e9 he => by
      by_cases k3 : k = 3
      · subst k3
        rw [List.getElem?_set_self (List.getElem?_eq_some_iff.mp e3).1] at he
        cases he
        exact hB2 0 _ rfl
      · rw [List.getElem?_set_ne (Ne.symm k3)] at he
        have hlt := (hP k e9 he).lt
        refine (hP k e9 he).kept (hk2 _ hlt fun z => ?_)
        rcases nA _ z with z | z
        · exact k3 (hD.1 k 3 _ _ he e3 z)
        · omega
    have hD4 : va_D (am_fr K) ((am_ws K va h).set 3 (ra, .inl (K.2.2.1 101, sb_cap q h.cp, .inl (fun j => if h.cp ≤ j then 0 else h.1 (za 3) j)))) := by
      refine ⟨fun i j p9 q9 hi hj e9 => ?_, fun k e9 he => ?_⟩
      · by_cases i3 : i = 3
        · by_cases j3 : j = 3
          · rw [i3, j3]
          · exfalso
            subst i3
            rw [List.getElem?_set_self (List.getElem?_eq_some_iff.mp e3).1] at hi
            cases hi
            rw [List.getElem?_set_ne (Ne.symm j3)] at hj
            have hlt := (hP j q9 hj).lt
            have e9 : ra = q9.1 := e9
            omega
        · rw [List.getElem?_set_ne (Ne.symm i3)] at hi
          by_cases j3 : j = 3
          · exfalso
            subst j3
            rw [List.getElem?_set_self (List.getElem?_eq_some_iff.mp e3).1] at hj
            cases hj
            have hlt := (hP i p9 hi).lt
            have e9 : p9.1 = ra := e9
            omega
          · rw [List.getElem?_set_ne (Ne.symm j3)] at hj
            exact hD.1 i j p9 q9 hi hj e9
      · by_cases k3 : k = 3
        · subst k3
          rw [List.getElem?_set_self (List.getElem?_eq_some_iff.mp e3).1] at he
          cases he
          show K.1 ≤ ra
          omega
        · rw [List.getElem?_set_ne (Ne.symm k3)] at he
          exact hD.2 k e9 he
    have e24 : ((am_ws K va h).set 3 (ra, .inl (K.2.2.1 101, sb_cap q h.cp, .inl (fun j => if h.cp ≤ j then 0 else h.1 (za 3) j))))[2]? = some (b, .inr (1, [.ref va, .int 0, .int (h.1 (za 2) 2), .int (h.1 (za 2) 3)])) := by
      rw [List.getElem?_set_ne (by decide)]
      exact e2
    refine va_put (D := K.2.1) (ci := 1) (v := .ref ra) (ty := .array .byte) (own := RJ5) (ref := RJ5) (C := RJ4) (T := TJ4) (N := 4) hx hb hts fw_1 tyJ4 tyJ4_ok fd_1 hown hKn.1 hP4 hD4 hS2 2 e24 rfl 0 (by decide) (hts _ kt_1_59) (fun _ h9 => h9) rfl (tyJ4_ok 0 (by decide)) rfl rfl (Nat.zero_lt_succ _) den_35 (fun H3 locs3 hP5 hD5 hS5 => ?_)
    have ews : (((am_ws K va h).set 3 (ra, .inl (K.2.2.1 101, sb_cap q h.cp, .inl (fun j => if h.cp ≤ j then 0 else h.1 (za 3) j)))).set 2 (b, .inr (1, [.ref ra, .int 0, .int (h.1 (za 2) 2), .int (h.1 (za 2) 3)]))) = am_ws K ra (am_grow h q) := by
      rw [← hbb]
      exact am_ws_grow hnx hR.2.2.2.2.2 hv3 hco c0
    have hP5 : va_P K.2.1 vwCl (((am_ws K va h).set 3 (ra, .inl (K.2.2.1 101, sb_cap q h.cp, .inl (fun j => if h.cp ≤ j then 0 else h.1 (za 3) j)))).set 2 (b, .inr (1, [.ref ra, .int 0, .int (h.1 (za 2) 2), .int (h.1 (za 2) 3)]))) H3 := hP5
    have hD5 : va_D (am_fr K) (((am_ws K va h).set 3 (ra, .inl (K.2.2.1 101, sb_cap q h.cp, .inl (fun j => if h.cp ≤ j then 0 else h.1 (za 3) j)))).set 2 (b, .inr (1, [.ref ra, .int 0, .int (h.1 (za 2) 2), .int (h.1 (za 2) 3)]))) := hD5
    rw [ews] at hP5 hD5
    have hR2 : am_Rel K ra (am_grow h q) H3 := by
      refine ⟨hP5, hD5, ?_, ?_, fun k => ?_, ?_⟩
      · rw [eg]
        show (match h.nx with | some n => _ | none => True)
        rw [hnx]
        trivial
      · rw [eg]; exact hR.2.2.2.1
      · rw [eg]
        show (if za 3004 = za 3 ∧ h.cp ≤ k then (0 : Int32) else h.1 (za 3004) k) = _
        rw [if_neg (fun z => ne_za (n := 3004) (m := 3) (by decide) z.1)]
        exact hR.2.2.2.2.1 k
      · rw [eg]; exact hR.2.2.2.2.2
    refine vx_ret (W.widen (k := 1) (n := sb_cap q h.cp) (by omega) (by omega) ?_)
    exact W.vret hx hb hr (fun t ht hW => ⟨none, ra, rfl, rfl, by rw [ht]; exact hR2, hS5.F ht⟩) hS5.2.2 den_38
end YD
