section NEW
variable {K : AKx} {p : Program} {l : Launch} {e : Env} {R : Room} {s : State} {m : MethodId} {args : Array Value} {below : List Frame} {meth : Method} {c : Code} {bytes : ByteArray} {mr : MR} {o : AO} {h1 : AH} {ih : AK} {pc len tgt d : Nat} {r : List CI} {ls : AL} {st : List AV} {h : AH}
theorem am_ad_lay {va n : Nat} (hva : va = K.1 + 3) (hn : n < am_all) : am_ad K va (am_lay n) = K.1 + n := by
  have h1 := am_lay_at hn
  unfold am_all at hn
  have key : ∀ a : AA, am_ix a = n → (∃ w, a = Sum.inl w) ∨ a = za n → am_ad K va a = K.1 + n := by
    intro a ha hc
    rcases hc with ⟨w, rfl⟩ | rfl
    · show K.1 + am_ix (Sum.inl w) = _
      rw [ha]
    · show (bif Nat.beq n 3 then va else bif Nat.ble 1000 n then K.2.2.2.2.1 n else K.1 + n) = _
      have hb : Nat.ble 1000 n = false := by
        cases hb : Nat.ble 1000 n with
        | false => rfl
        | true => have := Nat.le_of_ble_eq_true hb; omega
      rw [hb]
      cases h3 : Nat.beq n 3 with
      | true => have := Nat.eq_of_beq_eq_true h3; subst this; exact hva
      | false => rfl
  refine key _ h1 ?_
  unfold am_lay
  by_cases z1 : 4 ≤ n ∧ n < 34
  · rw [if_pos z1]; exact Or.inl ⟨_, rfl⟩
  · rw [if_neg z1]
    by_cases z2 : 45 ≤ n ∧ n < 195
    · rw [if_pos z2]; exact Or.inl ⟨_, rfl⟩
    · rw [if_neg z2]; exact Or.inr rfl
theorem am_ws_nx {va : Nat} {h2 : AH} {n : Nat} (hn : h.nx = some n) (hall : n < am_all) (h2n : h2.nx = if n + 1 = am_all then none else some (n + 1)) (hct : ∀ k, k < n → am_ct K va h2 (am_lay k) = am_ct K va h (am_lay k)) : am_ws K va h2 = am_ws K va h ++ [(am_ad K va (am_lay n), am_ct K va h2 (am_lay n))] := by
  have e1 : am_n h = n := by unfold am_n; rw [hn]
  have e2 : am_n h2 = n + 1 := by
    unfold am_n
    rw [h2n]
    by_cases hz : n + 1 = am_all
    · rw [if_pos hz]; exact hz.symm
    · rw [if_neg hz]
  unfold am_ws
  rw [e1, e2, List.range_succ, List.map_append]
  congr 1
  refine List.map_congr_left fun k hk => ?_
  rw [hct k (List.mem_range.mp hk)]
/-- a cell is made -/
theorem am_Rel.mk {va : Nat} {h2 : AH} {H H1 : Heap} {n : Nat} (hR : am_Rel K va h H) (hn : h.nx = some n) (h2n : h2.nx = if n + 1 = am_all then none else some (n + 1)) (hi : h2.1 = h.1) (hr : h2.2.1 = h.2.1) (hl : h2.2.2.1 = h.2.2.1) (hd : h2.2.2.2.1 = h.2.2.2.1) (hty : ∀ k, k < am_all → k ≠ n → am_ty h2 (am_lay k) = am_ty h (am_lay k)) (hsl : h2.sl = h.sl) (hz : H1.size = H.size + 1) (ho : ∀ q, q < H.size → H1[q]? = H[q]?) (hat : va_at K.2.1 vwCl (K.1 + n, am_ct K va h2 (am_lay n)) H1) : am_Rel K va h2 H1 := by
  obtain ⟨hP, hD, h3, h4, h5⟩ := hR
  rw [hn] at h3
  obtain ⟨g1, g2, g3, g4⟩ := h3
  have hct : ∀ k, k < am_all → k ≠ n → am_ct K va h2 (am_lay k) = am_ct K va h (am_lay k) := fun k hk1 hk2 => am_ct_eq (hty k hk1 hk2) (by show h2.1 _ = h.1 _; rw [hi]) (by show h2.2.1 _ = h.2.1 _; rw [hr]) (fun _ => hl) (fun _ => hd)
  have hws := am_ws_nx (K := K) (va := va) (h := h) (h2 := h2) hn g3 h2n (fun k hk => hct k (by omega) (by omega))
  rw [am_ad_lay g2 g3] at hws
  refine ⟨?_, ?_, ?_, by rw [hsl]; exact h4, fun k => by show h2.1 (za 3004) k = _; rw [hi]; exact h5.1 k, fun a j ha => by show am_noS (h2.2.1 a j) = true; rw [hr]; exact h5.2 a j ha⟩
  · rw [hws]
    refine (hP.kept fun k x hx => ho x.1 ((hP k x hx).lt)).app fun k x hx => ?_
    have hk1 : k < 1 := (List.getElem?_eq_some_iff.mp hx).1
    rw [show k = 0 by omega] at hx
    cases hx
    exact hat
  · rw [hws]
    exact hD.push hP (by rw [g1]) (Nat.le_add_right _ _)
  · rw [h2n]
    by_cases hz9 : n + 1 = am_all
    · rw [if_pos hz9]; trivial
    · rw [if_neg hz9]
      refine ⟨by rw [hz, g1]; rfl, g2, by unfold am_all at *; omega, fun k hk1 hk2 => ?_⟩
      rw [hct k hk2 (by omega), g4 k (by omega) hk2]
      unfold am_df
      have e0 := hty k hk2 (by omega)
      have e1 : am_ty ((fun _ _ => 0), (fun _ _ => Sum.inl .null), 0, 0, h2.2.2.2.2) (am_lay k) = am_ty h2 (am_lay k) := am_ty_eq rfl rfl _
      have e2 : am_ty ((fun _ _ => 0), (fun _ _ => Sum.inl .null), 0, 0, h.2.2.2.2) (am_lay k) = am_ty h (am_lay k) := am_ty_eq rfl rfl _
      exact am_ct_eq (e2.trans (e0.symm.trans e1.symm)) rfl rfl (fun _ => rfl) (fun _ => rfl)
/-- a class that a class file makes objects of -/
def am_NO (own k tg : Nat) : Prop := ∃ (q : vw_C) (ty0 : Nat → FieldType), vwCl[tg]? = some q ∧ am_lk tg am_nf = some q.2.2 ∧ Cond.classLink (am_cn own) k q.1 ∈ sg_T ∧ Cond.instantiable q.1 q.2.2 ∈ sg_T ∧ Cond.initialized q.1 ∈ sg_T ∧ (∀ w ∈ u_ws q.1 q.2.1 q.2.2, w ∈ sg_T) ∧ (∀ j, j < q.2.2 → parseFieldDescriptor (q.2.1 j).2.2.1 = some (ty0 j)) ∧ (∀ j, j < q.2.2 → defaultValue (ty0 j) = bif am_isR tg j then .null else .int 0)
theorem am_lay_dyn {n : Nat} (hn : n < am_all) : am_dyn (am_lay n) = true := by
  unfold am_all at hn
  unfold am_lay
  by_cases z1 : 4 ≤ n ∧ n < 34
  · rw [if_pos z1]; rfl
  · rw [if_neg z1]
    by_cases z2 : 45 ≤ n ∧ n < 195
    · rw [if_pos z2]; rfl
    · rw [if_neg z2]
      exact am_lt (by omega)
theorem am_ne_lay {n k : Nat} (hn : n < am_all) (hk : k < am_all) (h : k ≠ n) : am_lay k ≠ am_lay n := fun z => h (by rw [← am_lay_at hk, ← am_lay_at hn, z])
theorem am_s_new {k tg E : Nat} (hC : am_Cx K p s m args c bytes mr) (hq9 : am_N mr.1 k = some (0, tg, E)) (hN : am_NO mr.1 k tg) (hmono : ∀ (ls2 : AL) (st2 : List AV) (h2 : AH), ih mr r ls2 st2 h2 d = some (o, h1) → h2.nc ≤ h1.nc ∧ h2.ns ≤ h1.ns) (hdec : decode bytes pc = .ok (.new k, 3)) (nx : am_Nx K p l e R s m args below meth c mr o h1 (pc + 3) d ih r) (hrun : am_step ih mr ((pc, .new k, len, tgt) :: r) ls st h d = some (o, h1)) : am_G K p l e R s m args below meth c mr o h1 pc ls st h := by
  intro va H locs cells slots lsr hR hS hc hs hL
  obtain ⟨hx, hb, hml, hown, hts, hKn⟩ := hC
  have h9 : (match am_N mr.1 k with | some (m, tg, E) => bif Nat.beq m 0 then am_mk (fun a h1 => ih mr r ls (Sum.inr a :: st) h1 d) h tg none else (match (generalizing := false) st, h.nx with | [], none => bif Nat.ble 6 d && am_xt mr.2.2.2 pc then some (Sum.inr E, am_cnt h 1 6) else none | _, _ => none) | none => none) = some (o, h1) := hrun
  rw [hq9] at h9
  have h9 : am_mk (fun a h1 => ih mr r ls (Sum.inr a :: st) h1 d) h tg none = some (o, h1) := h9
  unfold am_mk at h9
  cases hnx : h.nx with
  | none => rw [hnx] at h9; cases h9
  | some n =>
    rw [hnx] at h9
    dsimp only at h9
    cases hn3 : Nat.beq n 3 with
    | true => rw [hn3] at h9; cases h9
    | false =>
      rw [hn3, cond_false] at h9
      split at h9
      · next hcond =>
        obtain ⟨hty, -⟩ := hcond
        obtain ⟨q, ty0, hq, hnf, w1, w2, w3, hin, hpd, hdv⟩ := hN
        have h3 := hR.2.2.1
        rw [hnx] at h3
        obtain ⟨g1, g2, g3, g4⟩ := h3
        have hd := am_lay_dyn g3
        have hlt : tg < 100 := by
          have hl := (List.getElem?_eq_some_iff.mp hq).1
          exact Nat.lt_of_lt_of_le hl (by decide)
        have hnf2 := am_ty_nf hd (by rw [hty]; exact hlt)
        rw [hty, hnf] at hnf2
        have hNN : q.2.2 = (am_ty h (am_lay n)).2 := Option.some.inj hnf2
        obtain ⟨m1, m2⟩ := hmono _ _ _ h9
        have m1 : h.nc + 1 ≤ h1.nc := m1
        have m2 : h.ns + (am_ty h (am_lay n)).2 ≤ h1.ns := m2
        have hKn1 := hKn.1.1 tg q hq
        refine W.newcK hx hb hown (hts _ w1) (hts _ w2) (hts _ w3) rfl hdec (by omega) (by omega) hKn1.2.1 rfl fun H2 kC hkC e1 z1 o1 => ?_
        have hk := nx _ _ _ h9 va H2 locs (cells + 1) (slots + q.2.2) lsr ?_ ?_ ?_ ?_ hL
        · have e9 : am_rv K va (Sum.inr (am_lay n)) = .ref H.size := by
            show Value.ref (am_ad K va (am_lay n)) = _
            rw [am_ad_lay g2 g3, g1]
          rw [List.map_cons, e9] at hk
          exact hk
        · have ht2 : ∀ b, am_ty (h.1, h.2.1, h.2.2.1, h.2.2.2.1, h.cp, h.nc + 1, h.ns + (am_ty h (am_lay n)).2, h.sl, if n + 1 = am_all then none else some (n + 1)) b = am_ty h b := fun b => am_ty_eq rfl rfl b
          refine hR.mk hnx rfl rfl rfl rfl rfl (fun k _ _ => ht2 _) rfl z1 o1 ?_
          have hct : am_ct K va (h.1, h.2.1, h.2.2.1, h.2.2.2.1, h.cp, h.nc + 1, h.ns + (am_ty h (am_lay n)).2, h.sl, if n + 1 = am_all then none else some (n + 1)) (am_lay n) = am_df K va h (am_lay n) := by
            rw [← g4 n (Nat.le_refl _) g3]
            exact am_ct_eq (ht2 _) rfl rfl (fun _ => rfl) (fun _ => rfl)
          rw [hct]
          unfold am_df
          have ht3 : am_ty ((fun _ _ => 0), (fun _ _ => Sum.inl .null), 0, 0, h.2.2.2.2) (am_lay n) = am_ty h (am_lay n) := am_ty_eq rfl rfl _
          rw [am_ct_obj (by rw [ht3, hty]; exact hlt), ht3, hty, ← hNN, ← g1]
          refine ⟨q, hq, (u_born ty0 hts hin hKn1 hkC e1 hpd).to fun j hj => ?_⟩
          rw [hdv j hj]
          unfold vp_V
          rw [List.getD_eq_getElem?_getD, List.getElem?_map, List.getElem?_range hj]
          show _ = am_fv K va ((fun _ _ => 0), (fun _ _ => Sum.inl .null), 0, 0, h.2.2.2.2) (am_lay n) tg j
          unfold am_fv
          rfl
        · exact ⟨Nat.le_trans hS.1 (by omega), fun x q1 q2 => (o1 x (Nat.lt_of_lt_of_le q1 hS.1)).trans (hS.2.1 x q1 q2), hS.2.2⟩
        · show cells + 1 + h1.nc ≤ R.cells + (h.nc + 1)
          omega
        · show slots + q.2.2 + h1.ns ≤ R.slots + (h.ns + (am_ty h (am_lay n)).2)
          omega
      · cases h9
end NEW
