section CALL2
variable {K : AKx} {p : Program} {l : Launch} {e : Env} {R : Room} {s : State} {m : MethodId} {args : Array Value} {below : List Frame} {meth : Method} {c : Code} {bytes : ByteArray} {mr : MR} {o : AO} {h1 : AH} {ih : AK} {pc len tgt d : Nat} {r : List CI} {ls : AL} {st : List AV} {h : AH}
theorem am_sum_cat {va : Nat} {t : List AV} (h : Nat.ble (am_sum t) 8 = true) : ((t.map (am_rv K va)).map fun v => v.category).sum ≤ 8 := by
  have e1 : ((t.map (am_rv K va)).map fun v => v.category) = t.map (fun v => bif am_cat2 v then 2 else 1) := by
    rw [List.map_map]
    refine List.map_congr_left fun v _ => ?_
    show (am_rv K va v).category = _
    rw [am_cat]
    cases am_cat2 v <;> rfl
  rw [e1]
  exact Nat.le_of_ble_eq_true h
/-- the constructor of Object -/
theorem am_s_call3 {k : Nat} {q : Nat × Nat × Nat × MR} (hC : am_Cx K p s m args c bytes mr) (hfr : R.frames = d ∧ 41 * d ≤ R.locals) (hq : q.1 = 3 ∧ q.2.1 = 0) (hw : Cond.methodLink (am_cn mr.1) k Lib.objectInit ∈ sg_T ∧ Cond.instanceMethod Lib.objectInit ∈ sg_T ∧ Cond.code Lib.objectInit ⟨#[0xb1]⟩ 1 none ∈ sg_T) (hdec : decode bytes pc = .ok (.invokespecial k, 3)) (nx : am_Nx K p l e R s m args below meth c mr o h1 (pc + 3) d ih r) (hrun : am_call ih mr pc r ls st h d q = some (o, h1)) : am_G K p l e R s m args below meth c mr o h1 pc ls st h := by
  intro va H locs cells slots lsr hR hS hc hs hL
  obtain ⟨hx, hb, hml, hown, hts, hKn⟩ := hC
  unfold am_call at hrun
  dsimp only at hrun
  rw [hq.1, hq.2] at hrun
  have hn : (bif am_stk 3 || Nat.beq 3 10 || Nat.beq 3 11 then 0 else 0 + 1) = 1 := rfl
  rw [hn] at hrun
  cases st with
  | nil => cases hrun
  | cons v t =>
    have hrun : (bif !(am_clean ls t && Nat.ble (am_sum t) 8) then none else (match (generalizing := false) [v] with | [Sum.inr _] => bif Nat.ble 1 d then ih mr r ls t h d else none | _ => none)) = some (o, h1) := hrun
    cases hg : am_clean ls t && Nat.ble (am_sum t) 8 with
    | false => rw [hg] at hrun; cases hrun
    | true =>
      rw [hg] at hrun
      obtain ⟨g1, g2⟩ := Bool.and_eq_true_iff.mp hg
      rcases v with v | a
      · cases hrun
      · have hrun : (bif Nat.ble 1 d then ih mr r ls t h d else none) = some (o, h1) := hrun
        cases hd : Nat.ble 1 d with
        | false => rw [hd] at hrun; cases hrun
        | true =>
          rw [hd] at hrun
          have hd := Nat.le_of_ble_eq_true hd
          have hsum := am_sum_cat (K := K) (va := va) g2
          exact W.objInit hx hb hown (hts _ hw.1) (hts _ hw.2.1) (hts _ hw.2.2) rfl (hL.1.trans hml.symm) (a := am_ad K va a) (rest := t.map (am_rv K va)) rfl hdec (by omega) (by show 2 * 0 + ((t.map (am_rv K va)).map fun v => v.category).sum + 12 ≤ R.locals; omega) (nx _ _ _ hrun va H locs cells slots lsr hR hS hc hs hL)
theorem am_five {v0 v1 v2 v3 v4 : AV} {f : AA → Int32 → AA → Int32 → Int32 → AR} {x : AO × AH} (h : (match [v0, v1, v2, v3, v4] with | [Sum.inr a, Sum.inl (Value.int sp), Sum.inr b, Sum.inl (Value.int dp), Sum.inl (Value.int len)] => f a sp b dp len | _ => none) = some x) : ∃ a sp b dp len, v0 = Sum.inr a ∧ v1 = vi sp ∧ v2 = Sum.inr b ∧ v3 = vi dp ∧ v4 = vi len ∧ f a sp b dp len = some x := by
  split at h
  · next heq =>
    cases heq
    exact ⟨_, _, _, _, _, rfl, rfl, rfl, rfl, rfl, h⟩
  · cases h
/-- System.arraycopy over ints -/
theorem am_s_call10 {k : Nat} {q : Nat × Nat × Nat × MR} (hC : am_Cx K p s m args c bytes mr) (hfr : R.frames = d ∧ 41 * d ≤ R.locals) (hq : q.1 = 10 ∧ q.2.1 = 5) (hw : Cond.methodLink (am_cn mr.1) k arraycopyName ∈ sg_T ∧ Cond.native arraycopyName ∈ sg_T ∧ Cond.static arraycopyName ∈ sg_T ∧ Cond.initialized "java/lang/System" ∈ sg_T) (hdec : decode bytes pc = .ok (.invokestatic k, 3)) (nx : am_Nx K p l e R s m args below meth c mr o h1 (pc + 3) d ih r) (hrun : am_call ih mr pc r ls st h d q = some (o, h1)) : am_G K p l e R s m args below meth c mr o h1 pc ls st h := by
  intro va H locs cells slots lsr hR hS hc hs hL
  obtain ⟨hx, hb, hml, hown, hts, hKn⟩ := hC
  unfold am_call at hrun
  dsimp only at hrun
  rw [hq.1, hq.2] at hrun
  have hn : (bif am_stk 10 || Nat.beq 10 10 || Nat.beq 10 11 then 5 else 5 + 1) = 5 := rfl
  rw [hn] at hrun
  rcases st with _ | ⟨v4, _ | ⟨v3, _ | ⟨v2, _ | ⟨v1, _ | ⟨v0, t⟩⟩⟩⟩⟩
  · cases hrun
  · cases hrun
  · cases hrun
  · cases hrun
  · cases hrun
  · have hrun : (bif !(am_clean ls t && Nat.ble (am_sum t) 8) then none else (match (generalizing := false) [v0, v1, v2, v3, v4] with
      | [Sum.inr a, Sum.inl (Value.int sp), Sum.inr b, Sum.inl (Value.int dp), Sum.inl (Value.int len)] => (if (am_ty h a).1 = 100 ∧ (am_ty h b).1 = 100 ∧ am_ex h a ∧ am_ex h b ∧ am_dyn a ∧ am_dyn b ∧ h.nx = none ∧ 3 ≤ d ∧ 0 ≤ sp ∧ 0 ≤ dp ∧ 0 ≤ len ∧ sp.toNatClampNeg + len.toNatClampNeg ≤ (am_ty h a).2 ∧ dp.toNatClampNeg + len.toNatClampNeg ≤ (am_ty h b).2 then ih mr r ls t (am_cpy h.1 a b sp.toNatClampNeg dp.toNatClampNeg len.toNatClampNeg, h.2) d else none)
      | _ => none)) = some (o, h1) := hrun
    cases hg : am_clean ls t && Nat.ble (am_sum t) 8 with
    | false => rw [hg] at hrun; cases hrun
    | true =>
      rw [hg] at hrun
      obtain ⟨g1, g2⟩ := Bool.and_eq_true_iff.mp hg
      have hsum := am_sum_cat (K := K) (va := va) g2
      have hrun : (match (generalizing := false) [v0, v1, v2, v3, v4] with
        | [Sum.inr a, Sum.inl (Value.int sp), Sum.inr b, Sum.inl (Value.int dp), Sum.inl (Value.int len)] => (if (am_ty h a).1 = 100 ∧ (am_ty h b).1 = 100 ∧ am_ex h a ∧ am_ex h b ∧ am_dyn a ∧ am_dyn b ∧ h.nx = none ∧ 3 ≤ d ∧ 0 ≤ sp ∧ 0 ≤ dp ∧ 0 ≤ len ∧ sp.toNatClampNeg + len.toNatClampNeg ≤ (am_ty h a).2 ∧ dp.toNatClampNeg + len.toNatClampNeg ≤ (am_ty h b).2 then ih mr r ls t (am_cpy h.1 a b sp.toNatClampNeg dp.toNatClampNeg len.toNatClampNeg, h.2) d else none)
        | _ => none) = some (o, h1) := hrun
      obtain ⟨a, sp, b, dp, n, rfl, rfl, rfl, rfl, rfl, hrun2⟩ := am_five (f := fun a sp b dp len => if (am_ty h a).1 = 100 ∧ (am_ty h b).1 = 100 ∧ am_ex h a = true ∧ am_ex h b = true ∧ am_dyn a = true ∧ am_dyn b = true ∧ h.nx = none ∧ 3 ≤ d ∧ 0 ≤ sp ∧ 0 ≤ dp ∧ 0 ≤ len ∧ sp.toNatClampNeg + len.toNatClampNeg ≤ (am_ty h a).2 ∧ dp.toNatClampNeg + len.toNatClampNeg ≤ (am_ty h b).2 then ih mr r ls t (am_cpy h.1 a b sp.toNatClampNeg dp.toNatClampNeg len.toNatClampNeg, h.2) d else none) hrun
      · by_cases hcond : (am_ty h a).1 = 100 ∧ (am_ty h b).1 = 100 ∧ am_ex h a = true ∧ am_ex h b = true ∧ am_dyn a = true ∧ am_dyn b = true ∧ h.nx = none ∧ 3 ≤ d ∧ 0 ≤ sp ∧ 0 ≤ dp ∧ 0 ≤ n ∧ sp.toNatClampNeg + n.toNatClampNeg ≤ (am_ty h a).2 ∧ dp.toNatClampNeg + n.toNatClampNeg ≤ (am_ty h b).2
        · rw [if_pos hcond] at hrun2
          obtain ⟨c1, c2, c3, c4, c5, c6, c7, c8, c9, c10, c11, c12, c13⟩ := hcond
          have hva := am_val_of c5 c3 c1 (by decide)
          have hvb := am_val_of c6 c4 c2 (by decide)
          have hata := am_here (K := K) (va := va) hva
          have hatb := am_here (K := K) (va := va) hvb
          rw [am_ct_int c1 (by decide) (by decide)] at hata
          rw [am_ct_int c2 (by decide) (by decide)] at hatb
          refine va_copyi (ty := .int) hx hb (hml.trans hL.1.symm) hown (hts _ hw.1) (hts _ hw.2.1) (hts _ hw.2.2.1) (hts _ hw.2.2.2) hKn.1 hR.1 hR.2.1 hS (am_ix a) (am_ix b) 0 0 hata hatb rfl rfl rfl (Int32.not_lt.mpr c9) (Int32.not_lt.mpr c10) (Int32.not_lt.mpr c11) c12 c13 (fun _ _ => rfl) (by omega) (Nat.le_trans (Nat.add_le_add hsum (show nativeFrameWords "java/lang/System" "arraycopy" 5 + 11 ≤ 100 by decide)) (by omega)) hdec (fun H2 locs2 hP2 hD2 hS2 => ?_)
          have ht2 : am_ty (am_cpy h.1 a b sp.toNatClampNeg dp.toNatClampNeg n.toNatClampNeg, h.2) b = am_ty h b := am_ty_eq rfl rfl b
          have hne : ∀ b2 : AA, b2 ≠ b → am_cpy h.1 a b sp.toNatClampNeg dp.toNatClampNeg n.toNatClampNeg b2 = h.1 b2 := fun b2 hb2 => by
            funext j
            unfold am_cpy
            rw [if_neg (fun z => hb2 z.1)]
          refine nx _ _ _ hrun2 va H2 locs2 cells slots lsr (hR.wr hvb ?_ (fun b2 hb9 => am_ct_eq (am_ty_eq rfl rfl b2) (hne b2 hb9) rfl (fun _ => rfl) (fun _ => rfl)) rfl (fun k2 => by show am_cpy h.1 a b _ _ _ (za 3004) k2 = _; rw [hne _ (Ne.symm (am_ne3004 c6))]) (by rw [c7]; trivial) hP2 hD2 hR.2.2.2.2.2) hS2 hc hs hL
          rw [am_ct_int (t := 100) (by rw [ht2]; exact c2) (by decide) (by decide), ht2]
          refine congrArg (fun z => Sum.inl (K.2.2.1 100, (am_ty h b).2, Sum.inl z)) ?_
          funext j
          show am_cpy h.1 a b sp.toNatClampNeg dp.toNatClampNeg n.toNatClampNeg b j = va_cpy (fun j => h.i a j) (fun j => h.i b j) sp.toNatClampNeg dp.toNatClampNeg n.toNatClampNeg j
          unfold am_cpy va_cpy
          by_cases hz : dp.toNatClampNeg ≤ j ∧ j < dp.toNatClampNeg + n.toNatClampNeg
          · rw [if_pos ⟨rfl, hz⟩, if_pos hz]
          · rw [if_neg (fun z => hz z.2), if_neg hz]
        · rw [if_neg hcond] at hrun2
          cases hrun2
def am_MW (own k : Nat) (y : MethodName) (bs : ByteArray) (n : Nat) : Prop := Cond.methodLink (am_cn own) k y ∈ sg_T ∧ Cond.static y ∈ sg_T ∧ Cond.initialized "java/lang/Math" ∈ sg_T ∧ Cond.code y bs n (some .int) ∈ sg_T
theorem am_mth_two {k : Nat} {v0 v1 : AV} {z : Int32} (h : am_mth k [v0, v1] = some z) : ∃ x y, v0 = vi x ∧ v1 = vi y ∧ ((k = 15 ∧ z = if y < x then y else x) ∨ (k = 16 ∧ z = if x < y then y else x)) := by
  unfold am_mth at h
  split at h
  · next x y heq =>
    cases heq
    refine ⟨x, y, rfl, rfl, ?_⟩
    cases b5 : Nat.beq k 15 with
    | true =>
      rw [b5] at h
      exact Or.inl ⟨Nat.eq_of_beq_eq_true b5, (Option.some.inj h).symm⟩
    | false =>
      rw [b5, cond_false] at h
      cases b6 : Nat.beq k 16 with
      | true =>
        rw [b6] at h
        exact Or.inr ⟨Nat.eq_of_beq_eq_true b6, (Option.some.inj h).symm⟩
      | false => rw [b6] at h; cases h
  · next heq => cases heq
  · cases h
theorem am_mth_one {k : Nat} {v0 : AV} {z : Int32} (h : am_mth k [v0] = some z) : ∃ x, v0 = vi x ∧ k = 17 ∧ z = if 0 ≤ x then x else 0 - x := by
  unfold am_mth at h
  split at h
  · next heq => cases heq
  · next x heq =>
    cases heq
    cases b5 : Nat.beq k 17 with
    | true =>
      rw [b5] at h
      exact ⟨x, rfl, Nat.eq_of_beq_eq_true b5, (Option.some.inj h).symm⟩
    | false => rw [b5] at h; cases h
  · cases h
/-- Math's min, max and abs -/
theorem am_s_math {k : Nat} {q : Nat × Nat × Nat × MR} (hC : am_Cx K p s m args c bytes mr) (hfr : R.frames = d ∧ 41 * d ≤ R.locals) (hmono : ∀ (ls2 : AL) (st2 : List AV) (h2 : AH), ih mr r ls2 st2 h2 d = some (o, h1) → h2.nc ≤ h1.nc ∧ h2.ns ≤ h1.ns) (hq : (q.1 = 15 ∧ q.2.1 = 2 ∧ am_MW mr.1 k Lib.Math.min.name Lib.Math.min.code 2) ∨ (q.1 = 16 ∧ q.2.1 = 2 ∧ am_MW mr.1 k Lib.Math.max.name Lib.Math.max.code 2) ∨ (q.1 = 17 ∧ q.2.1 = 1 ∧ am_MW mr.1 k Lib.Math.abs.name Lib.Math.abs.code 1)) (hdec : decode bytes pc = .ok (.invokestatic k, 3)) (nx : am_Nx K p l e R s m args below meth c mr o h1 (pc + 3) d ih r) (hrun : am_call ih mr pc r ls st h d q = some (o, h1)) : am_G K p l e R s m args below meth c mr o h1 pc ls st h := by
  intro va H locs cells slots lsr hR hS hc hs hL
  obtain ⟨hx, hb, hml, hown, hts, hKn⟩ := hC
  have z3 : Nat.beq q.1 3 = false := am_bne (by omega)
  have z9 : Nat.beq q.1 9 = false := am_bne (by omega)
  have z10 : Nat.beq q.1 10 = false := am_bne (by omega)
  have z11 : Nat.beq q.1 11 = false := am_bne (by omega)
  have z15 : Nat.ble 15 q.1 = true := Nat.ble_eq_true_of_le (by omega)
  have zs : am_stk q.1 = true := by
    unfold am_stk
    rw [Nat.ble_eq_true_of_le (show 14 ≤ q.1 by omega), Bool.or_true]
  unfold am_call at hrun
  dsimp only at hrun
  rw [z3, z9, z10, z11, z15, zs, Bool.true_or, Bool.true_or, cond_true, cond_false, cond_false, cond_false, cond_false, cond_true] at hrun
  generalize has : (List.take q.2.1 st).reverse = as at hrun
  generalize ht : List.drop q.2.1 st = t at hrun
  have hst : st = as.reverse ++ t := by rw [← has, ← ht, List.reverse_reverse, List.take_append_drop]
  cases hg : Nat.beq as.length q.2.1 && am_cl q.1 ls t && Nat.ble (am_sum t) 8 with
  | false => rw [hg] at hrun; cases hrun
  | true =>
    rw [hg] at hrun
    obtain ⟨g12, g3⟩ := Bool.and_eq_true_iff.mp hg
    obtain ⟨g1, g2⟩ := Bool.and_eq_true_iff.mp g12
    have g1 := Nat.eq_of_beq_eq_true g1
    have hsum := am_sum_cat (K := K) (va := va) g3
    have hrun : (match am_mth q.1 as with | some v => bif Nat.ble 1 d then ih mr r ls (vi v :: t) h d else none | none => none) = some (o, h1) := hrun
    cases hm : am_mth q.1 as with
    | none => rw [hm] at hrun; cases hrun
    | some v =>
      rw [hm] at hrun
      have hrun : (bif Nat.ble 1 d then ih mr r ls (vi v :: t) h d else none) = some (o, h1) := hrun
      cases hd : Nat.ble 1 d with
      | false => rw [hd] at hrun; cases hrun
      | true =>
        rw [hd] at hrun
        have hrun : ih mr r ls (vi v :: t) h d = some (o, h1) := hrun
        have hd := Nat.le_of_ble_eq_true hd
        obtain ⟨m1, m2⟩ := hmono _ _ _ hrun
        have hgo := nx _ _ _ hrun va H locs cells slots lsr hR hS hc hs hL
        rw [hst]
        rcases hq with ⟨k1, k2, k3⟩ | ⟨k1, k2, k3⟩ | ⟨k1, k2, k3⟩
        · rw [k2] at g1
          match as, g1 with
          | [v0, v1], _ =>
            obtain ⟨x, y, rfl, rfl, ⟨-, hv⟩ | ⟨hk, -⟩⟩ := am_mth_two hm
            · rw [hv] at hgo
              exact va_mmin hx hb (hml.trans hL.1.symm) hown (hts _ k3.1) (hts _ k3.2.1) (hts _ k3.2.2.1) (hts _ k3.2.2.2) (by omega) (Nat.le_trans (Nat.add_le_add_right hsum 13) (by omega)) (by omega) (by omega) hdec hgo
            · omega
        · rw [k2] at g1
          match as, g1 with
          | [v0, v1], _ =>
            obtain ⟨x, y, rfl, rfl, ⟨hk, -⟩ | ⟨-, hv⟩⟩ := am_mth_two hm
            · omega
            · rw [hv] at hgo
              exact va_mmax hx hb (hml.trans hL.1.symm) hown (hts _ k3.1) (hts _ k3.2.1) (hts _ k3.2.2.1) (hts _ k3.2.2.2) (by omega) (Nat.le_trans (Nat.add_le_add_right hsum 13) (by omega)) (by omega) (by omega) hdec hgo
        · rw [k2] at g1
          match as, g1 with
          | [v0], _ =>
            obtain ⟨x, rfl, -, hv⟩ := am_mth_one hm
            rw [hv] at hgo
            exact va_mabs hx hb (hml.trans hL.1.symm) hown (hts _ k3.1) (hts _ k3.2.1) (hts _ k3.2.2.1) (hts _ k3.2.2.2) (by omega) (Nat.le_trans (Nat.add_le_add_right hsum 13) (by omega)) (by omega) (by omega) hdec hgo
end CALL2
