section CALL2
variable {K : AKx} {p : Program} {l : Launch} {e : Env} {R : Room} {s : State} {m : MethodId} {args : Array Value} {below : List Frame} {meth : Method} {c : Code} {bytes : ByteArray} {mr : MR} {o : AO} {h1 : AH} {ih : AK} {pc len tgt d : Nat} {r : List CI} {ls : AL} {st : List AV} {h : AH}
theorem am_sum_cat {va : Nat → Nat} {t : List AV} (h : Nat.ble (am_sum t) 8 = true) : ((t.map (am_rv K va)).map fun v => v.category).sum ≤ 8 := by
  have e1 : ((t.map (am_rv K va)).map fun v => v.category) = t.map (fun v => bif am_cat2 v then 2 else 1) := by
    rw [List.map_map]
    refine List.map_congr_left fun v _ => ?_
    show (am_rv K va v).category = _
    rw [am_cat]
    cases am_cat2 v <;> rfl
  rw [e1]
  exact Nat.le_of_ble_eq_true h
/-- the constructor of Object -/
theorem am_s_call3 {k : Nat} {q : Nat × Nat × Nat × MR} (hC : am_Cx K p s m args c bytes mr) (hfr : d ≤ R.frames ∧ 41 * d ≤ R.locals) (hq : q.1 = 3 ∧ q.2.1 = 0) (hw : Cond.methodLink (am_cn mr.1) k Lib.objectInit ∈ sg_T ∧ Cond.instanceMethod Lib.objectInit ∈ sg_T ∧ Cond.code Lib.objectInit ⟨#[0xb1]⟩ 1 none ∈ sg_T) (hdec : decode bytes pc = .ok (.invokespecial k, 3)) (nx : am_Nx K p l e R s m args below meth c mr o h1 (pc + 3) d ih r) (hrun : am_call ih mr pc r ls st h d q = some (o, h1)) : am_G K p l e R s m args below meth c mr o h1 pc ls st h := by
  intro va H locs cells slots lsr hR hS hc hs hL hO
  obtain ⟨hx, hb, hml, hown, hts, hKn⟩ := hC
  unfold am_call at hrun
  dsimp only at hrun
  rw [hq.1, hq.2] at hrun
  have hn : (bif am_stk 3 || Nat.beq 3 10 || Nat.beq 3 11 then 0 else 0 + 1) = 1 := rfl
  rw [hn] at hrun
  cases st with
  | nil => cases hrun
  | cons v t =>
    have hrun : (bif !(Nat.ble (am_sum t) 8) then none else (match (generalizing := false) [v] with | [Sum.inr _] => bif Nat.ble 1 d then ih mr r ls t h d else none | _ => none)) = some (o, h1) := hrun
    cases g2 : Nat.ble (am_sum t) 8 with
    | false => rw [g2] at hrun; cases hrun
    | true =>
      rw [g2] at hrun
      rcases v with v | a
      · cases hrun
      · have hrun : (bif Nat.ble 1 d then ih mr r ls t h d else none) = some (o, h1) := hrun
        cases hd : Nat.ble 1 d with
        | false => rw [hd] at hrun; cases hrun
        | true =>
          rw [hd] at hrun
          have hd := Nat.le_of_ble_eq_true hd
          have hsum := am_sum_cat (K := K) (va := va) g2
          exact W.objInit hx hb hown (hts _ hw.1) (hts _ hw.2.1) (hts _ hw.2.2) rfl (hL.1.trans hml.symm) (a := am_ad K va a) (rest := t.map (am_rv K va)) rfl hdec (by omega) (by show 2 * 0 + ((t.map (am_rv K va)).map fun v => v.category).sum + 12 ≤ R.locals; omega) (nx _ _ _ hrun va H locs cells slots lsr hR hS hc hs hL hO.pop)
theorem am_five {v0 v1 v2 v3 v4 : AV} {f : AA → Int32 → AA → Int32 → Int32 → AR} {x : AO × AH} (h : (match [v0, v1, v2, v3, v4] with | [Sum.inr a, Sum.inl (Value.int sp), Sum.inr b, Sum.inl (Value.int dp), Sum.inl (Value.int len)] => f a sp b dp len | _ => none) = some x) : ∃ a sp b dp len, v0 = Sum.inr a ∧ v1 = vi sp ∧ v2 = Sum.inr b ∧ v3 = vi dp ∧ v4 = vi len ∧ f a sp b dp len = some x := by
  split at h
  · next heq =>
    cases heq
    exact ⟨_, _, _, _, _, rfl, rfl, rfl, rfl, rfl, h⟩
  · cases h
/-- numbers that fit -/
theorem am_by_fit {f : Nat → Int32} {n : Nat} (h : am_by f n = true) : ∀ i, i < n → fits .byte (.int (f i)) = true := fun i hi => by
  have h1 := of_decide_eq_true (List.all_eq_true.mp h i (List.mem_range.mpr hi))
  rw [← h1]
  exact pk_fb _
theorem am_CA.T {n len : Nat} {ty : FieldType} {f : Nat → Value} (hKn : am_Kn K s s.heap) (h1 : 1000 ≤ n) (h2 : n < 4000) (h : am_CA K n ty len f s s.heap) : va_T ty (K.2.2.2.2.1 n) len f (am_fr K) s s.heap := by
  obtain ⟨cell, q1, q2, q3, q4, q5⟩ := h
  exact ⟨cell, q1, q2, q3, q4.1, q4.2, q5, hKn.2.2.2.2.2.2.2.2.2.2.2.2.1 n h1 h2⟩
/-- a constant row of bytes -/
theorem am_cbytes {va : Nat → Nat} {a : AA} (hKn : am_Kn K s s.heap) (hd : am_dyn a = false) (ht : (am_ty h a).1 = 101) : va_T .byte (am_ad K va a) (am_ty h a).2 (fun j => .int (am_rI h a j)) (am_fr K) s s.heap := by
  rcases am_dyn_or h a with z | ⟨x, rfl⟩ | ⟨n, rfl, hn⟩
  · rw [hd] at z; cases z
  · exact absurd ht (by show ¬ (13 = 101); decide)
  · rw [am_ad_c hn]
    rcases am_ty_c (h := h) hn with ⟨-, e9⟩ | ⟨-, e9⟩ | ⟨rfl, e9⟩ | ⟨rfl, e9⟩ | ⟨-, e9⟩ | ⟨k, rfl, hk, e9⟩ | ⟨_, -, -, e9⟩ | ⟨-, e9⟩ | ⟨-, e9⟩ | e9
    · rw [e9] at ht; exact absurd ht (by decide)
    · rw [e9] at ht; exact absurd ht (by decide)
    · rw [e9]; exact (hKn.2.2.2.2.2.2.2.2.2.1).T hKn (by decide) (by decide)
    · rw [e9]; exact (hKn.2.2.2.2.2.2.2.2.2.2.1).T hKn (by decide) (by decide)
    · rw [e9] at ht; exact absurd ht (by show ¬ (100 = 101); decide)
    · rw [e9]
      have q := (hKn.2.2.2.2.2.2.1 k hk).T hKn (by omega) (by unfold am_nstr at hk; omega)
      have e : (fun j => Value.int (am_rI h (za (2000 + k)) j)) = fun j => .int (nI ((am_str.getD k []).getD j 0)) := by
        funext j
        have e1 : am_rI h (za (2000 + k)) j = bif Nat.ble 1000 (2000 + k) then (bif Nat.ble 3000 (2000 + k) then (bif Nat.beq (2000 + k) 3001 then nI (am_swm.getD j 0) else bif Nat.beq (2000 + k) 3002 then nI (48 + j / 10) else bif Nat.beq (2000 + k) 3003 then nI (48 + j % 10) else h.i (za (2000 + k)) j) else bif Nat.ble 2000 (2000 + k) then nI ((am_str.getD (2000 + k - 2000) []).getD j 0) else 0) else h.i (za (2000 + k)) j := rfl
        rw [e1, Nat.ble_eq_true_of_le hn, am_ble_f (show 2000 + k < 3000 by unfold am_nstr at hk; omega), Nat.ble_eq_true_of_le (show 2000 ≤ 2000 + k by omega), Nat.add_sub_cancel_left]
        rfl
      rw [e]; exact q
    · rw [e9] at ht; exact absurd ht (by show ¬ (0 = 101); decide)
    · rw [e9] at ht; exact absurd ht (by show ¬ (104 = 101); decide)
    · rw [e9] at ht; exact absurd ht (by show ¬ (15 = 101); decide)
    · rw [e9] at ht; exact absurd ht (by show ¬ (999 = 101); decide)
theorem am_cps_ne {α : Type} {g : Nat → α} {f : AA → Nat → α} {b b2 : AA} {sp dp n : Nat} (hb : b2 ≠ b) : am_cps g f b sp dp n b2 = f b2 := by
  funext j
  unfold am_cps
  rw [if_neg (fun z => hb z.1)]
theorem am_cps_at {α : Type} {g : Nat → α} {f : AA → Nat → α} {b : AA} {sp dp n : Nat} : am_cps g f b sp dp n b = va_cpy g (f b) sp dp n := by
  funext j
  unfold am_cps va_cpy
  by_cases hz : dp ≤ j ∧ j < dp + n
  · rw [if_pos ⟨rfl, hz⟩, if_pos hz]
  · rw [if_neg (fun z => hz z.2), if_neg hz]
/-- System.arraycopy -/
theorem am_s_call10 {k : Nat} {q : Nat × Nat × Nat × MR} (hC : am_Cx K p s m args c bytes mr) (hfr : d ≤ R.frames ∧ 41 * d ≤ R.locals) (hq : q.1 = 10 ∧ q.2.1 = 5) (hw : Cond.methodLink (am_cn mr.1) k arraycopyName ∈ sg_T ∧ Cond.native arraycopyName ∈ sg_T ∧ Cond.static arraycopyName ∈ sg_T ∧ Cond.initialized "java/lang/System" ∈ sg_T) (hdec : decode bytes pc = .ok (.invokestatic k, 3)) (nx : am_Nx K p l e R s m args below meth c mr o h1 (pc + 3) d ih r) (hrun : am_call ih mr pc r ls st h d q = some (o, h1)) : am_G K p l e R s m args below meth c mr o h1 pc ls st h := by
  intro va H locs cells slots lsr hR hS hc hs hL hO
  obtain ⟨hx, hb, hml, hown, hts, hKn⟩ := hC
  unfold am_call at hrun
  dsimp only at hrun
  rw [hq.1, hq.2] at hrun
  have hn : (bif am_stk 10 || Nat.beq 10 10 || Nat.beq 10 11 then 5 else 5 + 1) = 5 := rfl
  rw [hn] at hrun
  rcases st with _ | ⟨v4, _ | ⟨v3, _ | ⟨v2, _ | ⟨v1, _ | ⟨v0, t⟩⟩⟩⟩⟩
  · cases hrun
  · cases hrun
  · cases hrun
  · cases hrun
  · cases hrun
  · have hrun : (bif !(Nat.ble (am_sum t) 8) then none else (match (generalizing := false) [v0, v1, v2, v3, v4] with
      | [Sum.inr a, Sum.inl (Value.int sp), Sum.inr b, Sum.inl (Value.int dp), Sum.inl (Value.int len)] => (if am_ex h a = true ∧ am_ex h b = true ∧ am_dyn b = true ∧ h.nx = none ∧ 3 ≤ d ∧ 0 ≤ sp ∧ 0 ≤ dp ∧ 0 ≤ len ∧ sp.toNatClampNeg + len.toNatClampNeg ≤ (am_ty h a).2 ∧ dp.toNatClampNeg + len.toNatClampNeg ≤ (am_ty h b).2 then (match am_acp h a b sp.toNatClampNeg dp.toNatClampNeg len.toNatClampNeg with | some h2 => ih mr r ls t h2 d | none => none) else none)
      | _ => none)) = some (o, h1) := hrun
    cases g2 : Nat.ble (am_sum t) 8 with
    | false => rw [g2] at hrun; cases hrun
    | true =>
      rw [g2] at hrun
      have hsum := am_sum_cat (K := K) (va := va) g2
      have hrun : (match (generalizing := false) [v0, v1, v2, v3, v4] with
        | [Sum.inr a, Sum.inl (Value.int sp), Sum.inr b, Sum.inl (Value.int dp), Sum.inl (Value.int len)] => (if am_ex h a = true ∧ am_ex h b = true ∧ am_dyn b = true ∧ h.nx = none ∧ 3 ≤ d ∧ 0 ≤ sp ∧ 0 ≤ dp ∧ 0 ≤ len ∧ sp.toNatClampNeg + len.toNatClampNeg ≤ (am_ty h a).2 ∧ dp.toNatClampNeg + len.toNatClampNeg ≤ (am_ty h b).2 then (match am_acp h a b sp.toNatClampNeg dp.toNatClampNeg len.toNatClampNeg with | some h2 => ih mr r ls t h2 d | none => none) else none)
        | _ => none) = some (o, h1) := hrun
      obtain ⟨a, sp, b, dp, n, rfl, rfl, rfl, rfl, rfl, hrun2⟩ := am_five (f := fun a sp b dp len => if am_ex h a = true ∧ am_ex h b = true ∧ am_dyn b = true ∧ h.nx = none ∧ 3 ≤ d ∧ 0 ≤ sp ∧ 0 ≤ dp ∧ 0 ≤ len ∧ sp.toNatClampNeg + len.toNatClampNeg ≤ (am_ty h a).2 ∧ dp.toNatClampNeg + len.toNatClampNeg ≤ (am_ty h b).2 then (match am_acp h a b sp.toNatClampNeg dp.toNatClampNeg len.toNatClampNeg with | some h2 => ih mr r ls t h2 d | none => none) else none) hrun
      by_cases hcond : am_ex h a = true ∧ am_ex h b = true ∧ am_dyn b = true ∧ h.nx = none ∧ 3 ≤ d ∧ 0 ≤ sp ∧ 0 ≤ dp ∧ 0 ≤ n ∧ sp.toNatClampNeg + n.toNatClampNeg ≤ (am_ty h a).2 ∧ dp.toNatClampNeg + n.toNatClampNeg ≤ (am_ty h b).2
      · rw [if_pos hcond] at hrun2
        obtain ⟨c3, c4, c6, c7, c8, c9, c10, c11, c12, c13⟩ := hcond
        have hOt : am_ok K va h ls t := hO.pop.pop.pop.pop.pop
        have hoa : am_oka h a := hO.pop.pop.pop.pop.top
        have hob : am_oka h b := hO.pop.pop.top
        cases hacp : am_acp h a b sp.toNatClampNeg dp.toNatClampNeg n.toNatClampNeg with
        | none => rw [hacp] at hrun2; cases hrun2
        | some h2 =>
          rw [hacp] at hrun2
          have hrun2 : ih mr r ls t h2 d = some (o, h1) := hrun2
          have hlo : ((t.map (am_rv K va)).map fun v => v.category).sum + (nativeFrameWords "java/lang/System" "arraycopy" 5 + 11) ≤ R.locals := Nat.le_trans (Nat.add_le_add hsum (show nativeFrameWords "java/lang/System" "arraycopy" 5 + 11 ≤ 100 by decide)) (by omega)
          unfold am_acp at hacp
          cases q1 : (Nat.beq (am_ty h a).1 100 && Nat.beq (am_ty h b).1 100) with
          | true =>
            rw [q1, cond_true] at hacp
            split at hacp
            · next c5 =>
              cases hacp
              obtain ⟨q11, q12⟩ := Bool.and_eq_true_iff.mp q1
              have c1 := Nat.eq_of_beq_eq_true q11
              have c2 := Nat.eq_of_beq_eq_true q12
              have hva := am_val_of c5 c3 c1 (by decide) hoa
              have hvb := am_val_of c6 c4 c2 (by decide) hob
              have hata := am_here (K := K) (va := va) hva
              have hatb := am_here (K := K) (va := va) hvb
              rw [am_ct_int c1 (by decide) (by decide)] at hata
              rw [am_ct_int c2 (by decide) (by decide)] at hatb
              refine va_copyi (ty := .int) hx hb (hml.trans hL.1.symm) hown (hts _ hw.1) (hts _ hw.2.1) (hts _ hw.2.2.1) (hts _ hw.2.2.2) hKn.1 hR.1 hR.2.1 hS (am_jx h a) (am_jx h b) 0 0 hata hatb rfl rfl rfl (Int32.not_lt.mpr c9) (Int32.not_lt.mpr c10) (Int32.not_lt.mpr c11) c12 c13 (fun _ _ => rfl) (by omega) hlo hdec (fun H2 locs2 hP2 hD2 hS2 => ?_)
              have ht2 : am_ty (am_cpy h.1 a b sp.toNatClampNeg dp.toNatClampNeg n.toNatClampNeg, h.2) b = am_ty h b := am_ty_eq rfl rfl b
              have hne : ∀ b2 : AA, b2 ≠ b → am_cpy h.1 a b sp.toNatClampNeg dp.toNatClampNeg n.toNatClampNeg b2 = h.1 b2 := fun b2 hb2 => by
                funext j
                unfold am_cpy
                rw [if_neg (fun z => hb2 z.1)]
              refine nx _ _ _ hrun2 va H2 locs2 cells slots lsr (hR.wr hvb ?_ (fun b2 hb9 => am_ct_eq (am_ty_eq rfl rfl b2) (hne b2 hb9) rfl (fun _ => rfl)) rfl rfl (fun k2 => by show am_cpy h.1 a b _ _ _ (za 3004) k2 = _; rw [hne _ (Ne.symm (am_ne3004 c6))]) (by rw [c7]; trivial) hP2 hD2 (hR.2.2.2.2.2.ii hvb hne)) hS2 hc hs hL (hOt.dy rfl)
              rw [am_ct_int (t := 100) (by rw [ht2]; exact c2) (by decide) (by decide), ht2]
              refine congrArg (fun z => Sum.inl (K.2.2.1 100, (am_ty h b).2, Sum.inl z)) ?_
              funext j
              show am_cpy h.1 a b sp.toNatClampNeg dp.toNatClampNeg n.toNatClampNeg b j = va_cpy (fun j => h.i a j) (fun j => h.i b j) sp.toNatClampNeg dp.toNatClampNeg n.toNatClampNeg j
              unfold am_cpy va_cpy
              by_cases hz : dp.toNatClampNeg ≤ j ∧ j < dp.toNatClampNeg + n.toNatClampNeg
              · rw [if_pos ⟨rfl, hz⟩, if_pos hz]
              · rw [if_neg (fun z => hz z.2), if_neg hz]
            · cases hacp
          | false =>
            rw [q1, cond_false] at hacp
            cases q2 : (Nat.beq (am_ty h a).1 101 && Nat.beq (am_ty h b).1 101) with
            | true =>
              rw [q2, cond_true] at hacp
              split at hacp
              · next hby =>
                cases hacp
                obtain ⟨q11, q12⟩ := Bool.and_eq_true_iff.mp q2
                have c1 := Nat.eq_of_beq_eq_true q11
                have c2 := Nat.eq_of_beq_eq_true q12
                have hvb := am_val_of c6 c4 c2 (by decide) hob
                have hatb := am_here (K := K) (va := va) hvb
                rw [am_ct_int c2 (by decide) (by decide)] at hatb
                have hfit := am_by_fit hby
                have fin : ∀ (H2 : Heap) (locs2 : List Loc), va_P K.2.1 vwCl ((am_ws K va h).set (am_jx h b) (am_ad K va b, .inl (K.2.2.1 101, (am_ty h b).2, .inl (va_cpy (fun j => am_rI h a j) (fun j => h.i b j) sp.toNatClampNeg dp.toNatClampNeg n.toNatClampNeg)))) H2 → va_D (am_fr K) ((am_ws K va h).set (am_jx h b) (am_ad K va b, .inl (K.2.2.1 101, (am_ty h b).2, .inl (va_cpy (fun j => am_rI h a j) (fun j => h.i b j) sp.toNatClampNeg dp.toNatClampNeg n.toNatClampNeg)))) → va_S (am_fr K) s.heap H2 locs2 → W p l e R s m args below meth c H2 locs2 cells slots (vx_MQ below (am_Post K o h1) (am_PostX K o h1) args s R.cells R.slots (am_fr K)) (F0 m (pc + 3) lsr (t.map (am_rv K va))) := by
                  intro H2 locs2 hP2 hD2 hS2
                  have ht2 : am_ty (am_cps (fun j => am_rI h a j) h.1 b sp.toNatClampNeg dp.toNatClampNeg n.toNatClampNeg, h.2) b = am_ty h b := am_ty_eq rfl rfl b
                  refine nx _ _ _ hrun2 va H2 locs2 cells slots lsr (hR.wr hvb ?_ (fun b2 hb9 => am_ct_eq (am_ty_eq rfl rfl b2) (am_cps_ne hb9) rfl (fun _ => rfl)) rfl rfl (fun k2 => by show am_cps _ h.1 b _ _ _ (za 3004) k2 = _; rw [am_cps_ne (Ne.symm (am_ne3004 c6))]) (by rw [c7]; trivial) hP2 hD2 (hR.2.2.2.2.2.ii hvb (fun b2 hb9 => am_cps_ne hb9))) hS2 hc hs hL (hOt.dy rfl)
                  rw [am_ct_int (t := 101) (by rw [ht2]; exact c2) (by decide) (by decide), ht2]
                  exact congrArg (fun z => Sum.inl (K.2.2.1 101, (am_ty h b).2, Sum.inl z)) (am_cps_at (g := fun j => am_rI h a j) (f := h.1))
                cases c5 : am_dyn a with
                | true =>
                  have hva := am_val_of c5 c3 c1 (by decide) hoa
                  have hata := am_here (K := K) (va := va) hva
                  rw [am_ct_int c1 (by decide) (by decide)] at hata
                  have er : (fun j => h.i a j) = fun j => am_rI h a j := funext fun j => (am_rI_d c5 j).1.symm
                  rw [er] at hata
                  exact va_copyi (ty := .byte) hx hb (hml.trans hL.1.symm) hown (hts _ hw.1) (hts _ hw.2.1) (hts _ hw.2.2.1) (hts _ hw.2.2.2) hKn.1 hR.1 hR.2.1 hS (am_jx h a) (am_jx h b) 1 1 hata hatb rfl rfl rfl (Int32.not_lt.mpr c9) (Int32.not_lt.mpr c10) (Int32.not_lt.mpr c11) c12 c13 hfit (by omega) hlo hdec fin
                | false =>
                  exact vk_copyt hx hb (hml.trans hL.1.symm) hown (hts _ hw.1) (hts _ hw.2.1) (hts _ hw.2.2.1) (hts _ hw.2.2.2) hKn.1 hR.1 hR.2.1 hS (am_cbytes hKn c5 c1) (am_jx h b) 1 hatb rfl (Int32.not_lt.mpr c9) (Int32.not_lt.mpr c10) (Int32.not_lt.mpr c11) c12 c13 hfit (by omega) hlo hdec fin
              · cases hacp
            | false =>
              rw [q2, cond_false] at hacp
              cases q3 : (Nat.beq (am_ty h a).1 104 && Nat.beq (am_ty h b).1 104) with
              | false => rw [q3, cond_false] at hacp; cases hacp
              | true =>
                rw [q3, cond_true] at hacp
                split at hacp
                · next hcc =>
                  cases hacp
                  obtain ⟨c5, hall⟩ := hcc
                  obtain ⟨q11, q12⟩ := Bool.and_eq_true_iff.mp q3
                  have c1 := Nat.eq_of_beq_eq_true q11
                  have c2 := Nat.eq_of_beq_eq_true q12
                  have hva := am_val_of c5 c3 c1 (by decide) hoa
                  have hvb := am_val_of c6 c4 c2 (by decide) hob
                  have hata := am_here (K := K) (va := va) hva
                  have hatb := am_here (K := K) (va := va) hvb
                  rw [am_ct_ref c1 (by decide)] at hata
                  rw [am_ct_ref c2 (by decide)] at hatb
                  refine va_copyM (E0 := "java/lang/Object") (E1 := "java/lang/Object") hx hb (hml.trans hL.1.symm) hown (hts _ hw.1) (hts _ hw.2.1) (hts _ hw.2.2.1) (hts _ hw.2.2.2) hKn.1 hR.1 hR.2.1 hS (am_jx h a) (am_jx h b) 4 4 hata hatb rfl rfl (Int32.not_lt.mpr c9) (Int32.not_lt.mpr c10) (Int32.not_lt.mpr c11) c12 c13 (fun i hi y hy => ?_) (by omega) hlo hdec (fun H2 locs2 hP2 hD2 hS2 => ?_)
                  · have h5 := List.all_eq_true.mp hall i (List.mem_range.mpr hi)
                    have h6 := hR.2.2.2.2.2.1 a (sp.toNatClampNeg + i)
                    have h6 : am_okv h (h.r a (sp.toNatClampNeg + i)) := h6
                    cases hv : h.r a (sp.toNatClampNeg + i) with
                    | inl v => rw [hv] at hy; cases hy
                    | inr c =>
                      rw [hv] at h5 hy h6
                      obtain ⟨h7, h8⟩ := Bool.and_eq_true_iff.mp h5
                      cases hy
                      exact am_anyO hKn hR (am_val_of h8 (by unfold am_ex; rw [c7]) (Nat.eq_of_beq_eq_true h7) (by decide) h6) (Nat.eq_of_beq_eq_true h7)
                  · have ht2 : am_ty (h.1, am_cps (fun j => h.2.1 a j) h.2.1 b sp.toNatClampNeg dp.toNatClampNeg n.toNatClampNeg, h.2.2) b = am_ty h b := am_ty_eq rfl rfl b
                    refine nx _ _ _ hrun2 va H2 locs2 cells slots lsr (hR.wr hvb ?_ (fun b2 hb9 => am_ct_eq (am_ty_eq rfl rfl b2) rfl (am_cps_ne hb9) (fun _ => rfl)) rfl rfl (fun _ => rfl) (by rw [c7]; trivial) hP2 hD2 (hR.2.2.2.2.2.rr hvb (fun b2 hb9 => am_cps_ne hb9) (fun j => ?_))) hS2 hc hs hL (hOt.dy rfl)
                    · rw [am_ct_ref (t := 104) (by rw [ht2]; exact c2) (by decide), ht2]
                      refine congrArg (fun z => Sum.inl (K.2.2.1 104, (am_ty h b).2, Sum.inr (Sum.inr (Sum.inr (Sum.inr z))))) ?_
                      funext j
                      show am_ro K va (am_cps (fun j => h.2.1 a j) h.2.1 b sp.toNatClampNeg dp.toNatClampNeg n.toNatClampNeg b j) = _
                      rw [am_cps_at]
                      unfold va_cpy
                      by_cases hz : dp.toNatClampNeg ≤ j ∧ j < dp.toNatClampNeg + n.toNatClampNeg
                      · rw [if_pos hz, if_pos hz]
                      · rw [if_neg hz, if_neg hz]
                    · rw [am_cps_at]
                      unfold va_cpy
                      by_cases hz : dp.toNatClampNeg ≤ j ∧ j < dp.toNatClampNeg + n.toNatClampNeg
                      · rw [if_pos hz]; exact hR.2.2.2.2.2.1 a _
                      · rw [if_neg hz]; exact hR.2.2.2.2.2.1 b _
                · cases hacp
      · rw [if_neg hcond] at hrun2
        cases hrun2
def am_MW (own k : Nat) (y : MethodName) (bs : ByteArray) (n : Nat) : Prop := Cond.methodLink (am_cn own) k y ∈ sg_T ∧ Cond.static y ∈ sg_T ∧ Cond.initialized "java/lang/Math" ∈ sg_T ∧ Cond.code y bs n (some .int) ∈ sg_T
theorem am_mth_two {k : Nat} {v0 v1 : AV} {z : Int32} (h : am_mth k [v0, v1] = some z) : ∃ x y, v0 = vi x ∧ v1 = vi y ∧ ((k = 15 ∧ z = if y < x then y else x) ∨ (k = 16 ∧ z = if x < y then y else x)) := by
  unfold am_mth at h
  split at h
  · next x y heq =>
    cases heq
    refine ⟨x, y, rfl, rfl, ?_⟩
    cases b5 : Nat.beq k 15 with
    | true =>
      rw [b5] at h
      exact Or.inl ⟨Nat.eq_of_beq_eq_true b5, (Option.some.inj h).symm⟩
    | false =>
      rw [b5, cond_false] at h
      cases b6 : Nat.beq k 16 with
      | true =>
        rw [b6] at h
        exact Or.inr ⟨Nat.eq_of_beq_eq_true b6, (Option.some.inj h).symm⟩
      | false => rw [b6] at h; cases h
  · next heq => cases heq
  · cases h
theorem am_mth_one {k : Nat} {v0 : AV} {z : Int32} (h : am_mth k [v0] = some z) : ∃ x, v0 = vi x ∧ k = 17 ∧ z = if 0 ≤ x then x else 0 - x := by
  unfold am_mth at h
  split at h
  · next heq => cases heq
  · next x heq =>
    cases heq
    cases b5 : Nat.beq k 17 with
    | true =>
      rw [b5] at h
      exact ⟨x, rfl, Nat.eq_of_beq_eq_true b5, (Option.some.inj h).symm⟩
    | false => rw [b5] at h; cases h
  · cases h
/-- Math's min, max and abs -/
theorem am_s_math {k : Nat} {q : Nat × Nat × Nat × MR} (hC : am_Cx K p s m args c bytes mr) (hfr : d ≤ R.frames ∧ 41 * d ≤ R.locals) (hmono : ∀ (ls2 : AL) (st2 : List AV) (h2 : AH), ih mr r ls2 st2 h2 d = some (o, h1) → h2.nc ≤ h1.nc ∧ h2.ns ≤ h1.ns) (hq : (q.1 = 15 ∧ q.2.1 = 2 ∧ am_MW mr.1 k Lib.Math.min.name Lib.Math.min.code 2) ∨ (q.1 = 16 ∧ q.2.1 = 2 ∧ am_MW mr.1 k Lib.Math.max.name Lib.Math.max.code 2) ∨ (q.1 = 17 ∧ q.2.1 = 1 ∧ am_MW mr.1 k Lib.Math.abs.name Lib.Math.abs.code 1)) (hdec : decode bytes pc = .ok (.invokestatic k, 3)) (nx : am_Nx K p l e R s m args below meth c mr o h1 (pc + 3) d ih r) (hrun : am_call ih mr pc r ls st h d q = some (o, h1)) : am_G K p l e R s m args below meth c mr o h1 pc ls st h := by
  intro va H locs cells slots lsr hR hS hc hs hL hO
  obtain ⟨hx, hb, hml, hown, hts, hKn⟩ := hC
  have z3 : Nat.beq q.1 3 = false := am_bne (by omega)
  have z7 : Nat.beq q.1 7 = false := am_bne (by omega)
  have z8 : Nat.beq q.1 8 = false := am_bne (by omega)
  have z10 : Nat.beq q.1 10 = false := am_bne (by omega)
  have z11 : Nat.beq q.1 11 = false := am_bne (by omega)
  have z15 : Nat.ble 15 q.1 = true := Nat.ble_eq_true_of_le (by omega)
  have zs : am_stk q.1 = true := by
    unfold am_stk
    rw [Nat.ble_eq_true_of_le (show 14 ≤ q.1 by omega), Bool.or_true]
  unfold am_call at hrun
  dsimp only at hrun
  rw [z3, z7, z8, z10, z11, z15, zs, Bool.true_or, Bool.true_or, cond_true, cond_false, cond_false, cond_false, cond_false, cond_false, cond_true] at hrun
  generalize has : (List.take q.2.1 st).reverse = as at hrun
  generalize ht : List.drop q.2.1 st = t at hrun
  have hst : st = as.reverse ++ t := by rw [← has, ← ht, List.reverse_reverse, List.take_append_drop]
  cases hg : Nat.beq as.length q.2.1 && am_cl q.1 ls t && Nat.ble (am_sum t) 8 with
  | false => rw [hg] at hrun; cases hrun
  | true =>
    rw [hg] at hrun
    obtain ⟨g12, g3⟩ := Bool.and_eq_true_iff.mp hg
    obtain ⟨g1, g2⟩ := Bool.and_eq_true_iff.mp g12
    have g1 := Nat.eq_of_beq_eq_true g1
    have hsum := am_sum_cat (K := K) (va := va) g3
    have hrun : (match am_mth q.1 as with | some v => bif Nat.ble 1 d then ih mr r ls (vi v :: t) h d else none | none => none) = some (o, h1) := hrun
    cases hm : am_mth q.1 as with
    | none => rw [hm] at hrun; cases hrun
    | some v =>
      rw [hm] at hrun
      have hrun : (bif Nat.ble 1 d then ih mr r ls (vi v :: t) h d else none) = some (o, h1) := hrun
      cases hd : Nat.ble 1 d with
      | false => rw [hd] at hrun; cases hrun
      | true =>
        rw [hd] at hrun
        have hrun : ih mr r ls (vi v :: t) h d = some (o, h1) := hrun
        have hd := Nat.le_of_ble_eq_true hd
        obtain ⟨m1, m2⟩ := hmono _ _ _ hrun
        have hOt : am_ok K va h ls t := ⟨hO.1, hO.2.1, fun v hv => hO.2.2 v (by rw [hst]; exact List.mem_append_right _ hv)⟩
        have hgo := nx _ _ _ hrun va H locs cells slots lsr hR hS hc hs hL hOt.num
        rw [hst]
        rcases hq with ⟨k1, k2, k3⟩ | ⟨k1, k2, k3⟩ | ⟨k1, k2, k3⟩
        · rw [k2] at g1
          match as, g1 with
          | [v0, v1], _ =>
            obtain ⟨x, y, rfl, rfl, ⟨-, hv⟩ | ⟨hk, -⟩⟩ := am_mth_two hm
            · rw [hv] at hgo
              exact va_mmin hx hb (hml.trans hL.1.symm) hown (hts _ k3.1) (hts _ k3.2.1) (hts _ k3.2.2.1) (hts _ k3.2.2.2) (by omega) (Nat.le_trans (Nat.add_le_add_right hsum 13) (by omega)) (by omega) (by omega) hdec hgo
            · omega
        · rw [k2] at g1
          match as, g1 with
          | [v0, v1], _ =>
            obtain ⟨x, y, rfl, rfl, ⟨hk, -⟩ | ⟨-, hv⟩⟩ := am_mth_two hm
            · omega
            · rw [hv] at hgo
              exact va_mmax hx hb (hml.trans hL.1.symm) hown (hts _ k3.1) (hts _ k3.2.1) (hts _ k3.2.2.1) (hts _ k3.2.2.2) (by omega) (Nat.le_trans (Nat.add_le_add_right hsum 13) (by omega)) (by omega) (by omega) hdec hgo
        · rw [k2] at g1
          match as, g1 with
          | [v0], _ =>
            obtain ⟨x, rfl, -, hv⟩ := am_mth_one hm
            rw [hv] at hgo
            exact va_mabs hx hb (hml.trans hL.1.symm) hown (hts _ k3.1) (hts _ k3.2.1) (hts _ k3.2.2.1) (hts _ k3.2.2.2) (by omega) (Nat.le_trans (Nat.add_le_add_right hsum 13) (by omega)) (by omega) (by omega) hdec hgo
end CALL2
