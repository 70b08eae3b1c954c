section ARR
variable {K : AKx} {p : Program} {l : Launch} {e : Env} {R : Room} {s : State} {m : MethodId} {args : Array Value} {below : List Frame} {meth : Method} {c : Code} {bytes : ByteArray} {mr : MR} {o : AO} {h1 : AH} {ih : AK} {pc len tgt d : Nat} {r : List CI} {ls : AL} {st : List AV} {h : AH}
theorem am_tw_len : ∀ q ∈ am_tw, q.2.2 ≤ 4000 := by decide
theorem am_tz_len : ∀ q ∈ am_tz, q.2.2 ≤ 4000 := by decide
theorem am_ty_len {a : AA} (hd : am_dyn a = true) (hs : ∀ k i, a ≠ da k i) : (am_ty h a).2 ≤ 4000 := by
  rcases a with ⟨i, j⟩ | x | n | ⟨k, i⟩
  · rw [am_ty_w]
    cases hl : am_lk j am_tw with
    | none => exact Nat.zero_le _
    | some t => exact am_tw_len _ (am_lk_mem hl)
  · cases hd
  · have hn : Nat.ble 1000 n = false := am_ble_f (Nat.blt_eq.mp hd)
    have e : am_ty h (Sum.inr (Sum.inr (Sum.inl n))) = am_ty h (za n) := rfl
    rw [e, am_ty_z, hn]
    show (match am_lk n am_tz with | some t => t | none => (999, 0)).2 ≤ 4000
    cases hl : am_lk n am_tz with
    | none => exact Nat.zero_le _
    | some t => exact am_tz_len _ (am_lk_mem hl)
  · exact absurd rfl (hs k i)
theorem am_ty_998 {a : AA} (hd : am_dyn a = true) (hoa : am_oka h a) (ht : (am_ty h a).1 = 998) : False := by
  have h1 := (am_ty_d (h := h) hd hoa).2.2.2 (by rw [ht]; decide)
  rw [ht] at h1
  exact absurd h1 (by decide)
theorem am_nx_lt {va : Nat → Nat} {n : Nat} {H : Heap} (hR : am_Rel K va h H) (hnx : h.nx = some n) : n < am_all := by
  have h3 := hR.2.2.1
  rw [hnx] at h3
  exact h3.2.1
/-- what an array holds when it is made -/
def am_dv (t : Nat) : Value := bif Nat.beq t 103 then .long 0 else bif Nat.ble 104 t then .null else .int 0
theorem am_at_new {va : Nat → Nat} {h0 : AH} {H1 : Heap} {q : Nat} {b : AA} {tg N : Nat} (h100 : 100 ≤ tg) (ht : am_ty h0 b = (tg, N)) (hi : ∀ j, h0.i b j = 0) (hr : ∀ j, h0.r b j = Sum.inl .null) (hl : tg = 103 → ∀ j, h0.lg (am_li b) j = 0) (he : H1[q]? = some (arrV (K.2.2.1 tg) N (fun _ => am_dv tg))) : va_at K.2.1 vwCl (q, am_ct K va h0 b) H1 := by
  have e1 : (am_ty h0 b).1 = tg := by rw [ht]
  have e2 : (am_ty h0 b).2 = N := by rw [ht]
  by_cases c3 : tg = 103
  · subst c3
    rw [am_ct_long e1, e2]
    show H1[q]? = some (vp_cell _ _)
    rw [vp_cell_l, he]
    congr 2
    funext j
    rw [hl rfl j]; rfl
  · by_cases c5 : 104 ≤ tg
    · rw [am_ct_ref e1 c5, e2]
      show H1[q]? = some (vp_cell _ _)
      rw [vp_cell_q, he]
      congr 2
      funext j
      rw [hr j]
      unfold am_dv
      rw [am_bne c3, Nat.ble_eq_true_of_le c5]; rfl
    · rw [am_ct_int e1 h100 (by omega), e2]
      show H1[q]? = some (vp_cell _ _)
      rw [vp_cell_i, he]
      congr 2
      funext j
      rw [hi j]
      unfold am_dv
      rw [am_bne c3, am_ble_f (show tg < 104 by omega)]; rfl
theorem am_mk_arr {va : Nat → Nat} {tg N : Nat} {H : Heap} {k : AA → AH → AR} {x : AO × AH} (hR : am_Rel K va h H) (h100 : 100 ≤ tg) (hm : am_mk k h tg (some N) = some x) :
    ∃ (b : AA) (va2 : Nat → Nat) (h2 : AH), am_rv K va2 (Sum.inr b) = .ref H.size ∧ k b h2 = some x ∧ h2.nc = h.nc + 1 ∧ h2.ns = h.ns + N ∧ N ≤ 65536 ∧ tg ≠ 998 ∧ (∀ i, i < h.nd → va2 i = va i) ∧ (∀ (ls : AL) (st : List AV), am_ok K va h ls st → am_ok K va2 h2 ls (Sum.inr b :: st)) ∧ ∀ H1 : Heap, H1.size = H.size + 1 → (∀ q : Nat, q < H.size → H1[q]? = H[q]?) → H1[H.size]? = some (arrV (K.2.2.1 tg) N (fun _ => am_dv tg)) → am_Rel K va2 h2 H1 := by
  unfold am_mk at hm
  cases hnx : h.nx with
  | none =>
    rw [hnx] at hm
    dsimp only at hm
    split at hm
    · next hc =>
      obtain ⟨hkk, hN⟩ := hc
      refine ⟨da tg h.nd, am_va1 va h.nd H.size, am_mkd h tg N, ?_, hm, rfl, rfl, hN, (am_kok_n hkk).2.2.2, am_va1_old, fun ls st ho => ho.mkd (f := h.1) hkk, fun H1 z1 o1 e1 => hR.mkd (f := h.1) hnx hkk (fun _ _ => rfl) z1 o1 ?_⟩
      · show Value.ref (am_va1 va h.nd H.size h.nd) = _
        unfold am_va1
        rw [if_pos rfl]
      · have hna := (hR.2.2.2.2.2).2.1 h.nd (Nat.le_refl _)
        refine am_at_new h100 ?_ (fun j => (hna.1 tg j).1) (fun j => (hna.1 tg j).2) (fun _ j => hna.2 j) e1
        show (tg, bif Nat.blt tg 100 then am_nfs tg else (if h.nd = h.nd then N else h.dl h.nd)) = _
        rw [am_nlt (by omega), if_pos rfl]; rfl
    · cases hm
  | some n =>
    rw [hnx] at hm
    dsimp only at hm
    have h3 := hR.2.2.1
    rw [hnx] at h3
    obtain ⟨g1, g3, g4⟩ := h3
    have hd := am_lay_dyn g3
    have hrv : am_rv K va (Sum.inr (am_lay n)) = .ref H.size := by
      show Value.ref (am_ad K va (am_lay n)) = _
      rw [am_ad_lay g3, g1]
    have hz : am_ct K va h (am_lay n) = am_df K va h (am_lay n) := g4 n (Nat.le_refl _) g3
    split at hm
    · next hc =>
      obtain ⟨hty, hlen⟩ := hc
      have hlen := Nat.eq_of_beq_eq_true hlen
      refine ⟨am_lay n, va, _, hrv, hm, rfl, by rw [← hlen], by rw [← hlen]; exact Nat.le_trans (am_ty_len hd (fun k i => am_lay_nd n k i)) (by decide), fun z => ?_, fun _ _ => rfl, fun ls st ho => ho.mks, fun H1 z1 o1 e1 => ?_⟩
      · exact am_ty_998 hd am_lay_oka (hty.trans z)
      have ht2 : ∀ b, am_ty (h.1, h.2.1, h.2.2.1, h.2.2.2.1, h.cp, h.nc + 1, h.ns + (am_ty h (am_lay n)).2, h.sl, if n + 1 = am_all then none else some (n + 1)) b = am_ty h b := fun b => am_ty_eq rfl rfl b
      refine hR.mk hnx rfl rfl rfl rfl (fun k _ _ => ht2 _) rfl z1 o1 ?_
      have hct : am_ct K va (h.1, h.2.1, h.2.2.1, h.2.2.2.1, h.cp, h.nc + 1, h.ns + (am_ty h (am_lay n)).2, h.sl, if n + 1 = am_all then none else some (n + 1)) (am_lay n) = am_df K va h (am_lay n) := by
        rw [← hz]
        exact am_ct_eq (ht2 _) rfl rfl (fun _ => rfl)
      rw [hct, ← g1]
      exact am_at_new h100 (by rw [← hty, ← hlen]; exact am_ty_eq rfl rfl _) (fun _ => rfl) (fun _ => rfl) (fun _ _ => rfl) e1
    · cases hm
theorem am_s_newarray {ty : ArrayType} (hC : am_Cx K p s m args c bytes mr) (hw : am_at ty ≠ 998 → Cond.arrayClass (newarray.typeOf ty) ∈ sg_T) (hmono : ∀ (ls2 : AL) (st2 : List AV) (h2 : AH), ih mr r ls2 st2 h2 d = some (o, h1) → h2.nc ≤ h1.nc ∧ h2.ns ≤ h1.ns) (hdec : decode bytes pc = .ok (.newarray ty, 2)) (nx : am_Nx K p l e R s m args below meth c mr o h1 (pc + 2) d ih r) (hrun : am_step ih mr ((pc, .newarray ty, len, tgt) :: r) ls st h d = some (o, h1)) : am_G K p l e R s m args below meth c mr o h1 pc ls st h := by
  intro va H locs cells slots lsr hR hS hc hs hL hO
  obtain ⟨hx, hb, hml, hown, hts, hKn⟩ := hC
  have h9 : (match (generalizing := false) st with | Sum.inl (Value.int x) :: t => (if x < 0 then none else am_mk (fun a h1 => ih mr r ls (Sum.inr a :: t) h1 d) h (am_at ty) (some x.toNatClampNeg)) | _ => none) = some (o, h1) := hrun
  split at h9
  · next x t =>
    split at h9
    · cases h9
    · next hx0 =>
      have key : ∃ T, newarray.typeOf ty = T ∧ 100 ≤ am_at ty ∧ componentBytes T ≤ 8 ∧ (am_at ty ≠ 998 → defaultValue T = am_dv (am_at ty) ∧ ((K.2.2.1 (am_at ty), T) ∈ am_tys K) ∧ (∀ q, va_RA s q T → s.vm.findClass ("[" ++ T.toString) = some q)) := by
        cases ty
        all_goals first
          | exact ⟨_, rfl, by decide, by decide, fun z => absurd rfl z⟩
          | exact ⟨_, rfl, by decide, by decide, fun _ => ⟨rfl, List.mem_of_getElem? (i := 0) rfl, fun q h => h⟩⟩
          | exact ⟨_, rfl, by decide, by decide, fun _ => ⟨rfl, List.mem_of_getElem? (i := 1) rfl, fun q h => h⟩⟩
          | exact ⟨_, rfl, by decide, by decide, fun _ => ⟨rfl, List.mem_of_getElem? (i := 2) rfl, fun q h => h⟩⟩
          | exact ⟨_, rfl, by decide, by decide, fun _ => ⟨rfl, List.mem_of_getElem? (i := 3) rfl, fun q h => h⟩⟩
      obtain ⟨T, hT, h100, hcb, hk9⟩ := key
      obtain ⟨b, va2, h2, hrv, hk, e3, e4, hN, hne, hva, hok, hrel⟩ := am_mk_arr hR h100 h9
      obtain ⟨m1, m2⟩ := hmono _ _ _ hk
      obtain ⟨hdv, hmem, hra⟩ := hk9 hne
      obtain ⟨t0, ht0⟩ := List.getElem?_of_mem hmem
      have hK9 := hKn.1.2 t0 _ ht0
      refine va_newaK (N := x.toNatClampNeg) hx hb (hts _ (hw hne)) rfl hdec rfl hx0 rfl ?_ (by omega) (by omega) rfl fun H2 cA e1 z1 o1 hAr hNm => ?_
      · rw [hT]
        exact Nat.le_trans (Nat.mul_le_mul hN hcb) (by decide)
      · rw [hT] at e1 hNm
        have hcA : cA = K.2.2.1 (am_at ty) := Option.some.inj (hNm.symm.trans (hra _ hK9.2))
        rw [hcA, hdv] at e1
        have hk2 := nx _ _ _ hk va2 H2 locs (cells + 1) (slots + x.toNatClampNeg) lsr (hrel H2 z1 o1 e1) ⟨Nat.le_trans hS.1 (by omega), fun x q1 q2 => (o1 x (Nat.lt_of_lt_of_le q1 hS.1)).trans (hS.2.1 x q1 q2), hS.2.2⟩ (by omega) (by omega) (hL.eq hva hO.2.1) (hok _ _ hO.pop)
        rw [List.map_cons, hrv, am_rv_mapeq hva hO.pop.2.2] at hk2
        exact hk2
  · cases h9
theorem am_s_anewarray {k tg : Nat} (hC : am_Cx K p s m args c bytes mr) (hA : am_A mr.1 k = some tg) (hw : (tg = 104 ∧ Cond.classLink (am_cn mr.1) k "java/lang/Object" ∈ sg_T) ∨ (tg = 105 ∧ Cond.classLink (am_cn mr.1) k "MoonlitFloor$World" ∈ sg_T) ∨ (tg = 106 ∧ Cond.classLink (am_cn mr.1) k "MoonlitFloor$Sign" ∈ sg_T)) (hmono : ∀ (ls2 : AL) (st2 : List AV) (h2 : AH), ih mr r ls2 st2 h2 d = some (o, h1) → h2.nc ≤ h1.nc ∧ h2.ns ≤ h1.ns) (hdec : decode bytes pc = .ok (.anewarray k, 3)) (nx : am_Nx K p l e R s m args below meth c mr o h1 (pc + 3) d ih r) (hrun : am_step ih mr ((pc, .anewarray k, len, tgt) :: r) ls st h d = some (o, h1)) : am_G K p l e R s m args below meth c mr o h1 pc ls st h := by
  intro va H locs cells slots lsr hR hS hc hs hL hO
  obtain ⟨hx, hb, hml, hown, hts, hKn⟩ := hC
  have h9 : (match (generalizing := false) st with | Sum.inl (Value.int x) :: t => (match am_A mr.1 k with | some tg => if x < 0 then none else am_mk (fun a h1 => ih mr r ls (Sum.inr a :: t) h1 d) h tg (some x.toNatClampNeg) | none => none) | _ => none) = some (o, h1) := hrun
  rw [hA] at h9
  dsimp only at h9
  split at h9
  · next x t =>
    split at h9
    · cases h9
    · next hx0 =>
      have key : ∃ C, 104 ≤ tg ∧ Cond.classLink (am_cn mr.1) k C ∈ sg_T ∧ va_AO C s ∧ (K.2.2.1 tg, FieldType.object C) ∈ am_tys K := by
        rcases hw with ⟨rfl, hw⟩ | ⟨rfl, hw⟩ | ⟨rfl, hw⟩
        · exact ⟨_, by decide, hw, hKn.2.2.2.2.2.2.2.2.2.2.2.2.2.2.2.2.2.2.2.2.2.2.2.2.2.2.2.2, List.mem_of_getElem? (i := 4) rfl⟩
        · exact ⟨_, by decide, hw, hKn.2.2.2.2.2.2.2.2.2.2.2.2.2.2.2.2.2.2.2.1, List.mem_of_getElem? (i := 5) rfl⟩
        · exact ⟨_, by decide, hw, hKn.2.2.2.2.2.2.2.2.2.2.2.2.2.2.2.2.2.2.2.2.1, List.mem_of_getElem? (i := 6) rfl⟩
      obtain ⟨C, h105, hlink, hao, hmem⟩ := key
      obtain ⟨b, va2, h2, hrv, hk, e3, e4, hN, hne, hva, hok, hrel⟩ := am_mk_arr hR (by omega) h9
      obtain ⟨m1, m2⟩ := hmono _ _ _ hk
      obtain ⟨t0, ht0⟩ := List.getElem?_of_mem hmem
      obtain ⟨kA9, comp9, -, -, -, hnm9⟩ := (hKn.1.2 t0 _ ht0).2
      refine W.anew hx hb hown (hts _ hlink) (va_AO.use hao) rfl hdec rfl hx0 (Nat.le_trans (Nat.mul_le_mul_right 4 hN) (by decide)) (by omega) (by omega) fun cA kA comp f1 f2 f3 f4 => ?_
      generalize hH1 : H.push ({ cls := cA, slots := Array.replicate x.toNatClampNeg .null, vm := .none } : Cell) = H1
      have z1 : H1.size = H.size + 1 := by rw [← hH1, Array.size_push]
      have e1 : H1[H.size]? = some (arrV cA x.toNatClampNeg (fun _ => .null)) := by rw [← hH1, Array.getElem?_push_size, ← arrV_new]
      have o1 : ∀ q : Nat, q < H.size → H1[q]? = H[q]? := fun q hq => by rw [← hH1, Array.getElem?_push, if_neg (Nat.ne_of_lt hq)]
      have hcA : cA = K.2.2.1 tg := Option.some.inj (f1.symm.trans hnm9)
      have hne3 : tg ≠ 103 := by omega
      have hdv : am_dv tg = .null := by
        unfold am_dv
        rw [am_bne hne3, Nat.ble_eq_true_of_le h105]; rfl
      rw [hcA] at e1
      have hk2 := nx _ _ _ hk va2 H1 locs (cells + 1) (slots + x.toNatClampNeg) lsr (hrel H1 z1 o1 (by rw [hdv]; exact e1)) ⟨Nat.le_trans hS.1 (by omega), fun x q1 q2 => (o1 x (Nat.lt_of_lt_of_le q1 hS.1)).trans (hS.2.1 x q1 q2), hS.2.2⟩ (by omega) (by omega) (hL.eq hva hO.2.1) (hok _ _ hO.pop)
      rw [List.map_cons, hrv, am_rv_mapeq hva hO.pop.2.2] at hk2
      exact hk2
  · cases h9
end ARR
