section HEAP3
variable {K : AKx} {p : Program} {l : Launch} {e : Env} {R : Room} {s : State} {m : MethodId} {args : Array Value} {below : List Frame} {meth : Method} {c : Code} {bytes : ByteArray} {mr : MR} {o : AO} {h1 : AH} {ih : AK} {pc len tgt d : Nat} {r : List CI} {ls : AL} {st : List AV} {h : AH}
theorem am_CA.keep {n len : Nat} {ty : FieldType} {f : Nat → Value} {H : Heap} {locs : List Loc} (hA : am_CA K n ty len f s s.heap) (hn : ¬ am_fr K (K.2.2.2.2.1 n)) (hS : va_S (am_fr K) s.heap H locs) : am_CA K n ty len f s H := by
  obtain ⟨cell, h1, h2⟩ := hA
  exact ⟨cell, by rw [hS.2.1 _ (Array.getElem?_eq_some_iff.mp h1).1 hn]; exact h1, h2⟩
theorem am_vin {j : Int32} {n : Nat} (h : 0 ≤ j ∧ j.toNatClampNeg < n) : vp_in j n := by
  rintro (z | z)
  · exact absurd h.1 (Int32.not_le.mpr z)
  · omega
theorem am_rI_s {k n2 : Nat} (hn : n2 < am_nstr) : am_rI h (za (2000 + n2)) k = nI ((am_str.getD n2 []).getD k 0) := by
  have hn83 : n2 < 1000 := Nat.lt_of_lt_of_le hn (by decide)
  have e2 : am_rI h (za (2000 + n2)) k = bif Nat.ble 1000 (2000 + n2) then (bif Nat.ble 3000 (2000 + n2) then (bif Nat.beq (2000 + n2) 3001 then nI (am_swm.getD k 0) else bif Nat.beq (2000 + n2) 3002 then nI (48 + k / 10) else bif Nat.beq (2000 + n2) 3003 then nI (48 + k % 10) else h.i (za (2000 + n2)) k) else bif Nat.ble 2000 (2000 + n2) then nI ((am_str.getD (2000 + n2 - 2000) []).getD k 0) else 0) else h.i (za (2000 + n2)) k := rfl
  have f1 : Nat.ble 3000 (2000 + n2) = false := by
    cases hb : Nat.ble 3000 (2000 + n2) with
    | false => rfl
    | true => have := Nat.le_of_ble_eq_true hb; omega
  rw [e2, Nat.ble_eq_true_of_le (by omega), f1, Nat.ble_eq_true_of_le (by omega), cond_true, cond_false, cond_true]
  rw [show 2000 + n2 - 2000 = n2 by omega]
theorem am_s_iaload (hC : am_Cx K p s m args c bytes mr) (hdec : decode bytes pc = .ok (.iaload, 1)) (nx : am_Nx K p l e R s m args below meth c mr o h1 (pc + 1) d ih r) (hrun : am_step ih mr ((pc, .iaload, len, tgt) :: r) ls st h d = some (o, h1)) : am_G K p l e R s m args below meth c mr o h1 pc ls st h := by
  intro va H locs cells slots lsr hR hS hc hs hL hO
  obtain ⟨hx, hb, hml, hown, hts, hKn⟩ := hC
  have h9 : (match (generalizing := false) st with | Sum.inl (Value.int j) :: Sum.inr a :: t => bif Nat.beq (am_ty h a).1 100 && am_ex h a then (if 0 ≤ j ∧ j.toNatClampNeg < (am_ty h a).2 then ih mr r ls (vi (am_rI h a j.toNatClampNeg) :: t) h d else none) else none | _ => none) = some (o, h1) := hrun
  split at h9
  · next j a t =>
    cases hbb : (Nat.beq (am_ty h a).1 100 && am_ex h a) with
    | false => rw [hbb] at h9; cases h9
    | true =>
      rw [hbb, cond_true] at h9
      obtain ⟨hb1, hex⟩ := Bool.and_eq_true_iff.mp hbb
      have hty : (am_ty h a).1 = 100 := Nat.eq_of_beq_eq_true hb1
      split at h9
      · next hj =>
        have hk := nx _ _ _ h9 va H locs cells slots lsr hR hS hc hs hL hO.pop.pop.num
        have hoa : am_oka h a := hO.pop.top
        rcases am_dyn_or h a with hd | ⟨x, rfl⟩ | ⟨n, rfl, hn⟩
        · have hat := am_here (K := K) (va := va) (am_val_of hd hex hty (by decide) hoa)
          rw [am_ct_int hty (by decide) (by decide)] at hat
          refine va_iald hx hb hKn.1 hR.1 (am_jx h a) 0 hat rfl (am_vin hj) hdec ?_
          rw [(am_rI_d hd _).1] at hk
          exact hk
        · exact absurd hty (by show ¬ (13 = 100); decide)
        · have go : ∀ (f : Nat → Value) (ln : Nat), am_CA K n .int ln f s s.heap → n < 4000 → (am_ty h (za n)).2 = ln → f j.toNatClampNeg = .int (am_rI h (za n) j.toNatClampNeg) → W p l e R s m args below meth c H locs cells slots (vx_MQ below (am_Post K o h1) (am_PostX K o h1) args s R.cells R.slots (am_fr K)) (F0 m pc lsr ((Sum.inl (Value.int j) :: Sum.inr (za n) :: t).map (am_rv K va))) := by
            intro f ln hA hn4 hln hf
            obtain ⟨cell, g1, g2, g3, g4, g5⟩ := hA.keep (hKn.2.2.2.2.2.2.2.2.2.2.2.2.1 n hn hn4) hS
            show W p l e R s m args below meth c H locs cells slots _ (F0 m pc lsr (.int j :: .ref (am_ad K va (za n)) :: t.map (am_rv K va)))
            rw [am_ad_c hn]
            rw [hln] at hj
            exact W.iald hx hb g1 g2 g3 (am_vin ⟨hj.1, Nat.lt_of_lt_of_le hj.2 g4.1⟩) (g5 _ hj.2) rfl rfl hdec (by rw [hf]; exact hk)
          rcases am_ty_c (h := h) hn with ⟨-, e9⟩ | ⟨rfl, e9⟩ | ⟨-, e9⟩ | ⟨-, e9⟩ | ⟨rfl, e9⟩ | ⟨_, -, -, e9⟩ | ⟨_, -, -, e9⟩ | ⟨-, e9⟩ | ⟨-, e9⟩ | e9
          · rw [e9] at hty; exact absurd hty (by decide)
          · exact go _ _ hKn.2.2.2.2.2.2.2.2.1 (by decide) (by rw [e9]) rfl
          · rw [e9] at hty; exact absurd hty (by decide)
          · rw [e9] at hty; exact absurd hty (by decide)
          · refine go _ _ hKn.2.2.2.2.2.2.2.2.2.2.2.1 (by decide) (by rw [e9]; exact hR.2.2.2.1) ?_
            exact congrArg Value.int (hR.2.2.2.2.1 _).symm
          · rw [e9] at hty; exact absurd hty (by show ¬ (101 = 100); decide)
          all_goals (rw [e9] at hty; exact absurd hty (by decide))
      · cases h9
  · cases h9
theorem am_s_baload (hC : am_Cx K p s m args c bytes mr) (hdec : decode bytes pc = .ok (.baload, 1)) (nx : am_Nx K p l e R s m args below meth c mr o h1 (pc + 1) d ih r) (hrun : am_step ih mr ((pc, .baload, len, tgt) :: r) ls st h d = some (o, h1)) : am_G K p l e R s m args below meth c mr o h1 pc ls st h := by
  intro va H locs cells slots lsr hR hS hc hs hL hO
  obtain ⟨hx, hb, hml, hown, hts, hKn⟩ := hC
  have h9 : (match (generalizing := false) st with | Sum.inl (Value.int j) :: Sum.inr a :: t => bif (Nat.beq (am_ty h a).1 101 || Nat.beq (am_ty h a).1 102) && am_ex h a then (if 0 ≤ j ∧ j.toNatClampNeg < (am_ty h a).2 then ih mr r ls (vi (am_rI h a j.toNatClampNeg) :: t) h d else none) else none | _ => none) = some (o, h1) := hrun
  split at h9
  · next j a t =>
    cases hbb : ((Nat.beq (am_ty h a).1 101 || Nat.beq (am_ty h a).1 102) && am_ex h a) with
    | false => rw [hbb] at h9; cases h9
    | true =>
      rw [hbb, cond_true] at h9
      obtain ⟨hb1, hex⟩ := Bool.and_eq_true_iff.mp hbb
      have hty : (am_ty h a).1 = 101 ∨ (am_ty h a).1 = 102 := by
        rcases Bool.or_eq_true_iff.mp hb1 with z | z
        · exact Or.inl (Nat.eq_of_beq_eq_true z)
        · exact Or.inr (Nat.eq_of_beq_eq_true z)
      split at h9
      · next hj =>
        have hk := nx _ _ _ h9 va H locs cells slots lsr hR hS hc hs hL hO.pop.pop.num
        have hoa : am_oka h a := hO.pop.top
        rcases am_dyn_or h a with hd | ⟨x, rfl⟩ | ⟨n, rfl, hn⟩
        · rw [(am_rI_d hd _).1] at hk
          rcases hty with hty | hty
          · have hat := am_here (K := K) (va := va) (am_val_of hd hex hty (by decide) hoa)
            rw [am_ct_int hty (by decide) (by decide)] at hat
            exact va_bald hx hb hKn.1 hR.1 (am_jx h a) 1 hat rfl (am_vin hj) hdec hk
          · have hat := am_here (K := K) (va := va) (am_val_of hd hex hty (by decide) hoa)
            rw [am_ct_int hty (by decide) (by decide)] at hat
            exact va_zald hx hb hKn.1 hR.1 (am_jx h a) 2 hat rfl (am_vin hj) hdec hk
        · rcases hty with hty | hty
          · exact absurd hty (by show ¬ (13 = 101); decide)
          · exact absurd hty (by show ¬ (13 = 102); decide)
        · have go : ∀ (f : Nat → Value) (ln : Nat), am_CA K n .byte ln f s s.heap → n < 4000 → (am_ty h (za n)).2 = ln → f j.toNatClampNeg = .int (am_rI h (za n) j.toNatClampNeg) → W p l e R s m args below meth c H locs cells slots (vx_MQ below (am_Post K o h1) (am_PostX K o h1) args s R.cells R.slots (am_fr K)) (F0 m pc lsr ((Sum.inl (Value.int j) :: Sum.inr (za n) :: t).map (am_rv K va))) := by
            intro f ln hA hn4 hln hf
            obtain ⟨cell, g1, g2, g3, g4, g5⟩ := hA.keep (hKn.2.2.2.2.2.2.2.2.2.2.2.2.1 n hn hn4) hS
            show W p l e R s m args below meth c H locs cells slots _ (F0 m pc lsr (.int j :: .ref (am_ad K va (za n)) :: t.map (am_rv K va)))
            rw [am_ad_c hn]
            rw [hln] at hj
            exact W.bald hx hb g1 g2 g3 (am_vin ⟨hj.1, Nat.lt_of_lt_of_le hj.2 g4.1⟩) (g5 _ hj.2) rfl rfl hdec (by rw [hf]; exact hk)
          rcases am_ty_c (h := h) hn with ⟨-, e9⟩ | ⟨-, e9⟩ | ⟨rfl, e9⟩ | ⟨rfl, e9⟩ | ⟨-, e9⟩ | ⟨n2, rfl, hn2, e9⟩ | ⟨_, -, -, e9⟩ | ⟨-, e9⟩ | ⟨-, e9⟩ | e9
          · rw [e9] at hty; exact absurd hty (by decide)
          · rw [e9] at hty; exact absurd hty (by decide)
          · exact go _ _ hKn.2.2.2.2.2.2.2.2.2.1 (by decide) (by rw [e9]) rfl
          · exact go _ _ hKn.2.2.2.2.2.2.2.2.2.2.1 (by decide) (by rw [e9]) rfl
          · rw [e9] at hty; rcases hty with z | z <;> exact absurd z (by dsimp only; decide)
          · refine go _ _ (hKn.2.2.2.2.2.2.1 n2 hn2) (by have : n2 < 1000 := Nat.lt_of_lt_of_le hn2 (by decide)
                                                         omega) (by rw [e9]) ?_
            rw [am_rI_s hn2]
          all_goals (rw [e9] at hty; exact absurd hty (by decide))
      · cases h9
  · cases h9
theorem am_s_laload (hC : am_Cx K p s m args c bytes mr) (hdec : decode bytes pc = .ok (.laload, 1)) (nx : am_Nx K p l e R s m args below meth c mr o h1 (pc + 1) d ih r) (hrun : am_step ih mr ((pc, .laload, len, tgt) :: r) ls st h d = some (o, h1)) : am_G K p l e R s m args below meth c mr o h1 pc ls st h := by
  intro va H locs cells slots lsr hR hS hc hs hL hO
  obtain ⟨hx, hb, hml, hown, hts, hKn⟩ := hC
  have h9 : (match (generalizing := false) st with | Sum.inl (Value.int j) :: Sum.inr (Sum.inr (Sum.inr (Sum.inr q))) :: t => (if q.1 = 103 ∧ h.nx = none ∧ 0 ≤ j ∧ j.toNatClampNeg < h.dl q.2 then ih mr r ls (Sum.inl (Value.long (h.lg q.2 j.toNatClampNeg)) :: t) h d else none) | _ => none) = some (o, h1) := hrun
  split at h9
  · next j q t =>
    split at h9
    · next hq =>
      obtain ⟨q1, q2⟩ := q
      obtain ⟨e1, hnx, hj⟩ := hq
      have e1 : q1 = 103 := e1
      subst e1
      have hk := nx _ _ _ h9 va H locs cells slots lsr hR hS hc hs hL hO.pop.pop.num
      have hoa : am_oka h (da 103 q2) := hO.pop.top
      have hty : (am_ty h (da 103 q2)).1 = 103 := rfl
      have hat := am_here (K := K) (va := va) (am_val_of (t := 103) (a := da 103 q2) rfl (by unfold am_ex; rw [hnx]) hty (by decide) hoa)
      rw [am_ct_long hty] at hat
      exact va_lald hx hb hKn.1 hR.1 (am_jx h (da 103 q2)) 3 hat rfl (am_vin hj) hdec hk
    · cases h9
  · cases h9
theorem am_s_aaload (hC : am_Cx K p s m args c bytes mr) (hdec : decode bytes pc = .ok (.aaload, 1)) (nx : am_Nx K p l e R s m args below meth c mr o h1 (pc + 1) d ih r) (hrun : am_step ih mr ((pc, .aaload, len, tgt) :: r) ls st h d = some (o, h1)) : am_G K p l e R s m args below meth c mr o h1 pc ls st h := by
  intro va H locs cells slots lsr hR hS hc hs hL hO
  obtain ⟨hx, hb, hml, hown, hts, hKn⟩ := hC
  have h9 : (match (generalizing := false) st with | Sum.inl (Value.int j) :: Sum.inr a :: t => bif (Nat.beq (am_ty h a).1 104 || Nat.beq (am_ty h a).1 105 || Nat.beq (am_ty h a).1 106) && am_ex h a then (if 0 ≤ j ∧ j.toNatClampNeg < (am_ty h a).2 then am_pr (fun v => ih mr r ls (v :: t) h d) (am_rR h a j.toNatClampNeg) else none) else none | _ => none) = some (o, h1) := hrun
  split at h9
  · next j a t =>
    cases hbb : ((Nat.beq (am_ty h a).1 104 || Nat.beq (am_ty h a).1 105 || Nat.beq (am_ty h a).1 106) && am_ex h a) with
    | false => rw [hbb] at h9; cases h9
    | true =>
      rw [hbb, cond_true] at h9
      obtain ⟨hb1, hex⟩ := Bool.and_eq_true_iff.mp hbb
      have hty : (am_ty h a).1 = 104 ∨ (am_ty h a).1 = 105 ∨ (am_ty h a).1 = 106 := by
        rcases Bool.or_eq_true_iff.mp hb1 with z | z
        · rcases Bool.or_eq_true_iff.mp z with z | z
          · exact Or.inl (Nat.eq_of_beq_eq_true z)
          · exact Or.inr (Or.inl (Nat.eq_of_beq_eq_true z))
        · exact Or.inr (Or.inr (Nat.eq_of_beq_eq_true z))
      split at h9
      · next hj =>
        obtain ⟨hpr, h10⟩ := am_pr_of h9
        have hk := nx _ _ _ h10 va H locs cells slots lsr hR hS hc hs hL (hO.pop.pop.push (am_okR hR a _))
        have hoa : am_oka h a := hO.pop.top
        rcases am_dyn_or h a with hd | ⟨x, rfl⟩ | ⟨n, rfl, hn⟩
        · rw [(am_rI_d hd _).2] at hk hpr
          have hk2 : W p l e R s m args below meth c H locs cells slots (vx_MQ below (am_Post K o h1) (am_PostX K o h1) args s R.cells R.slots (am_fr K)) (F0 m (pc + 1) lsr (va_rf (am_ro K va (h.r a j.toNatClampNeg)) :: t.map (am_rv K va))) := by
            rw [am_rf hpr]
            exact hk
          rcases hty with hty | hty | hty
          · have hat := am_here (K := K) (va := va) (am_val_of hd hex hty (by decide) hoa)
            rw [am_ct_ref hty (by decide)] at hat
            exact va_aldq hx hb hKn.1 hR.1 (am_jx h a) 4 hat rfl (am_vin hj) hdec hk2
          · have hat := am_here (K := K) (va := va) (am_val_of hd hex hty (by decide) hoa)
            rw [am_ct_ref hty (by decide)] at hat
            exact va_aldq hx hb hKn.1 hR.1 (am_jx h a) 5 hat rfl (am_vin hj) hdec hk2
          · have hat := am_here (K := K) (va := va) (am_val_of hd hex hty (by decide) hoa)
            rw [am_ct_ref hty (by decide)] at hat
            exact va_aldq hx hb hKn.1 hR.1 (am_jx h a) 6 hat rfl (am_vin hj) hdec hk2
        · rcases hty with hty | hty | hty
          · exact absurd hty (by show ¬ (13 = 104); decide)
          · exact absurd hty (by show ¬ (13 = 105); decide)
          · exact absurd hty (by show ¬ (13 = 106); decide)
        · rcases am_ty_c (h := h) hn with ⟨rfl, e9⟩ | ⟨-, e9⟩ | ⟨-, e9⟩ | ⟨-, e9⟩ | ⟨-, e9⟩ | ⟨_, -, -, e9⟩ | ⟨_, -, -, e9⟩ | ⟨rfl, e9⟩ | ⟨-, e9⟩ | e9
          · obtain ⟨cell, g1, g2, g3, g4, g5⟩ := (hKn.2.2.2.2.2.2.2.1).keep (hKn.2.2.2.2.2.2.2.2.2.2.2.2.1 3000 hn (by decide)) hS
            show W p l e R s m args below meth c H locs cells slots _ (F0 m pc lsr (.int j :: .ref (am_ad K va (za 3000)) :: t.map (am_rv K va)))
            rw [am_ad_c hn]
            have hj37 : 0 ≤ j ∧ j.toNatClampNeg < 37 := hj
            exact W.aald (ty := .object "MoonlitFloor$Sign") hx hb g1 g2 rfl g3 (am_vin ⟨hj37.1, Nat.lt_of_lt_of_le hj37.2 g4.1⟩) (g5 _ hj37.2) rfl rfl hdec hk
          rotate_left 6
          · exfalso
            rw [e9] at hj
            have := hj.2
            dsimp only at this
            omega
          all_goals (exfalso; rw [e9] at hty; dsimp only at hty; omega)
      · cases h9
  · cases h9
theorem am_s_arraylength (hC : am_Cx K p s m args c bytes mr) (hdec : decode bytes pc = .ok (.arraylength, 1)) (nx : am_Nx K p l e R s m args below meth c mr o h1 (pc + 1) d ih r) (hrun : am_step ih mr ((pc, .arraylength, len, tgt) :: r) ls st h d = some (o, h1)) : am_G K p l e R s m args below meth c mr o h1 pc ls st h := by
  intro va H locs cells slots lsr hR hS hc hs hL hO
  obtain ⟨hx, hb, hml, hown, hts, hKn⟩ := hC
  have h9 : (match (generalizing := false) st with | Sum.inr a :: t => bif Nat.ble 100 (am_ty h a).1 && Nat.ble (am_ty h a).1 106 && am_ex h a then ih mr r ls (vi (nI (am_ty h a).2) :: t) h d else none | _ => none) = some (o, h1) := hrun
  split at h9
  · next a t =>
    cases hbb : (Nat.ble 100 (am_ty h a).1 && Nat.ble (am_ty h a).1 106 && am_ex h a) with
    | false => rw [hbb] at h9; cases h9
    | true =>
      rw [hbb, cond_true] at h9
      obtain ⟨hb1, hex⟩ := Bool.and_eq_true_iff.mp hbb
      obtain ⟨hb1, hb2⟩ := Bool.and_eq_true_iff.mp hb1
      have ht1 := Nat.le_of_ble_eq_true hb1
      have ht2 := Nat.le_of_ble_eq_true hb2
      have hk := nx _ _ _ h9 va H locs cells slots lsr hR hS hc hs hL hO.pop.num
      have hoa : am_oka h a := hO.top
      rcases am_dyn_or h a with hd | ⟨x, rfl⟩ | ⟨n, rfl, hn⟩
      · have hat := am_here (K := K) (va := va) (am_val_of hd hex rfl (by omega) hoa)
        rw [am_ct_arr ht1] at hat
        have hq : ∃ ty, (am_tys K)[(am_ty h a).1 - 100]? = some (K.2.2.1 (am_ty h a).1, ty) := by
          generalize (am_ty h a).1 = z at ht1 ht2 ⊢
          have h3 : z = 100 ∨ z = 101 ∨ z = 102 ∨ z = 103 ∨ z = 104 ∨ z = 105 ∨ z = 106 := by omega
          rcases h3 with rfl | rfl | rfl | rfl | rfl | rfl | rfl <;> exact ⟨_, rfl⟩
        obtain ⟨ty, hq⟩ := hq
        exact va_alen hx hb hKn.1 hR.1 (am_jx h a) _ hat hq rfl hdec hk
      · exact absurd ht1 (by show ¬ (100 ≤ 13); decide)
      · have go : ∀ (f : Nat → Value) (ln : Nat) (ty : FieldType), am_CA K n ty ln f s s.heap → n < 4000 → (am_ty h (za n)).2 = ln → W p l e R s m args below meth c H locs cells slots (vx_MQ below (am_Post K o h1) (am_PostX K o h1) args s R.cells R.slots (am_fr K)) (F0 m pc lsr ((Sum.inr (za n) :: t).map (am_rv K va))) := by
          intro f ln ty hA hn4 hln
          obtain ⟨cell, g1, g2, g3, g4, g5⟩ := hA.keep (hKn.2.2.2.2.2.2.2.2.2.2.2.2.1 n hn hn4) hS
          show W p l e R s m args below meth c H locs cells slots _ (F0 m pc lsr (.ref (am_ad K va (za n)) :: t.map (am_rv K va)))
          rw [am_ad_c hn]
          exact W.alen (n := nI (am_ty h (za n)).2) hx hb g1 g2 (by rw [g4.2, hln]; rfl) rfl rfl hdec hk
        rcases am_ty_c (h := h) hn with ⟨rfl, e9⟩ | ⟨rfl, e9⟩ | ⟨rfl, e9⟩ | ⟨rfl, e9⟩ | ⟨rfl, e9⟩ | ⟨n2, rfl, hn2, e9⟩ | ⟨_, -, -, e9⟩ | ⟨rfl, e9⟩ | ⟨-, e9⟩ | e9
        · exact go _ _ _ hKn.2.2.2.2.2.2.2.1 (by decide) (by rw [e9])
        · exact go _ _ _ hKn.2.2.2.2.2.2.2.2.1 (by decide) (by rw [e9])
        · exact go _ _ _ hKn.2.2.2.2.2.2.2.2.2.1 (by decide) (by rw [e9])
        · exact go _ _ _ hKn.2.2.2.2.2.2.2.2.2.2.1 (by decide) (by rw [e9])
        · exact go _ _ _ hKn.2.2.2.2.2.2.2.2.2.2.2.1 (by decide) (by rw [e9]; exact hR.2.2.2.1)
        · exact go _ _ _ (hKn.2.2.2.2.2.2.1 n2 hn2) (by have : n2 < 1000 := Nat.lt_of_lt_of_le hn2 (by decide)
                                                        omega) (by rw [e9])
        · rw [e9] at ht1; exact absurd ht1 (by decide)
        · exact go _ _ _ hKn.2.2.2.2.2.2.2.2.2.2.2.2.2.2.2.2.2.2.2.2.2.2.2.2.1 (by decide) (by rw [e9])
        · rw [e9] at ht1; exact absurd ht1 (by decide)
        · rw [e9] at ht2; exact absurd ht2 (by decide)
  · cases h9
end HEAP3
