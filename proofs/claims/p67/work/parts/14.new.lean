section NEW
variable {K : AKx} {p : Program} {l : Launch} {e : Env} {R : Room} {s : State} {m : MethodId} {args : Array Value} {below : List Frame} {meth : Method} {c : Code} {bytes : ByteArray} {mr : MR} {o : AO} {h1 : AH} {ih : AK} {pc len tgt d : Nat} {r : List CI} {ls : AL} {st : List AV} {h : AH}
theorem am_ad_lay {va : Nat → Nat} {n : Nat} (hn : n < am_all) : am_ad K va (am_lay n) = K.1 + n := by
  have h1 := am_lay_at hn
  unfold am_all at hn
  have key : ∀ a : AA, am_ix a = n → (∃ w, a = Sum.inl w) ∨ a = za n → am_ad K va a = K.1 + n := by
    intro a ha hc
    rcases hc with ⟨w, rfl⟩ | rfl
    · show K.1 + am_ix (Sum.inl w) = _
      rw [ha]
    · show (bif Nat.ble 1000 n then K.2.2.2.2.1 n else K.1 + n) = _
      rw [am_ble_f (show n < 1000 by omega)]; rfl
  refine key _ h1 ?_
  unfold am_lay
  by_cases z1 : 4 ≤ n ∧ n < 34
  · rw [if_pos z1]; exact Or.inl ⟨_, rfl⟩
  · rw [if_neg z1]
    by_cases z2 : 45 ≤ n ∧ n < 195
    · rw [if_pos z2]; exact Or.inl ⟨_, rfl⟩
    · rw [if_neg z2]; exact Or.inr rfl
theorem am_ws_nx {va : Nat → Nat} {h2 : AH} {n : Nat} (hn : h.nx = some n) (hnd : h.nd = 0) (hnd2 : h2.nd = 0) (h2n : h2.nx = if n + 1 = am_all then none else some (n + 1)) (hct : ∀ k, k < n → am_ct K va h2 (am_lay k) = am_ct K va h (am_lay k)) : am_ws K va h2 = am_ws K va h ++ [(am_ad K va (am_lay n), am_ct K va h2 (am_lay n))] := by
  have e1 : am_n h = n := by unfold am_n; rw [hn]
  have e2 : am_n h2 = n + 1 := by
    unfold am_n
    rw [h2n]
    by_cases hz : n + 1 = am_all
    · rw [if_pos hz]; exact hz.symm
    · rw [if_neg hz]
  unfold am_ws
  rw [e1, e2, hnd, hnd2, List.range_zero, List.map_nil, List.map_nil, List.append_nil, List.append_nil, List.range_succ, List.map_append]
  congr 1
  refine List.map_congr_left fun k hk => ?_
  rw [hct k (List.mem_range.mp hk)]
/-- a cell is made -/
theorem am_Rel.mk {va : Nat → Nat} {h2 : AH} {H H1 : Heap} {n : Nat} (hR : am_Rel K va h H) (hn : h.nx = some n) (h2n : h2.nx = if n + 1 = am_all then none else some (n + 1)) (hi : h2.1 = h.1) (hr : h2.2.1 = h.2.1) (hdy : h2.2.2.2.1 = h.2.2.2.1) (hty : ∀ k, k < am_all → k ≠ n → am_ty h2 (am_lay k) = am_ty h (am_lay k)) (hsl : h2.sl = h.sl) (hz : H1.size = H.size + 1) (ho : ∀ q, q < H.size → H1[q]? = H[q]?) (hat : va_at K.2.1 vwCl (K.1 + n, am_ct K va h2 (am_lay n)) H1) : am_Rel K va h2 H1 := by
  obtain ⟨hP, hD, h3, h4, h5, h6⟩ := hR
  rw [hn] at h3
  obtain ⟨g1, g3, g4⟩ := h3
  have hnd : h.nd = 0 := h6.2.2.2 ⟨n, hn⟩
  have hnd2 : h2.nd = 0 := by
    show h2.2.2.2.1.2.1 = 0
    rw [hdy]; exact hnd
  have hct : ∀ k, k < am_all → k ≠ n → am_ct K va h2 (am_lay k) = am_ct K va h (am_lay k) := fun k hk1 hk2 => am_ct_eq (hty k hk1 hk2) (by show h2.1 _ = h.1 _; rw [hi]) (by show h2.2.1 _ = h.2.1 _; rw [hr]) (fun _ => by show h2.2.2.2.1.1 _ = h.2.2.2.1.1 _; rw [hdy])
  have hws := am_ws_nx (K := K) (va := va) (h := h) (h2 := h2) hn hnd hnd2 h2n (fun k hk => hct k (by omega) (by omega))
  rw [am_ad_lay g3] at hws
  have hna : am_NA h2 := by
    refine ⟨fun a j => ?_, fun i hi2 => ⟨fun k j => ?_, fun j => ?_⟩, fun i hi2 => ?_, fun _ => hnd2⟩
    · refine am_okv_dy (h := h) (by rw [hdy]) ?_
      show am_okv h (h2.2.1 a j)
      rw [hr]; exact h6.1 a j
    · have q := (h6.2.1 i (by rw [hnd]; exact Nat.zero_le _)).1 k j
      refine ⟨?_, ?_⟩
      · show h2.1 _ _ = 0
        rw [hi]; exact q.1
      · show h2.2.1 _ _ = _
        rw [hr]; exact q.2
    · show h2.2.2.2.1.1 i j = 0
      rw [hdy]; exact (h6.2.1 i (by rw [hnd]; exact Nat.zero_le _)).2 j
    · rw [hnd2] at hi2; omega
  refine ⟨?_, ?_, ?_, by rw [hsl]; exact h4, fun k => by show h2.1 (za 3004) k = _; rw [hi]; exact h5 k, hna⟩
  · rw [hws]
    refine (hP.kept fun k x hx => ho x.1 ((hP k x hx).lt)).app fun k x hx => ?_
    have hk1 : k < 1 := (List.getElem?_eq_some_iff.mp hx).1
    rw [show k = 0 by omega] at hx
    cases hx
    exact hat
  · rw [hws]
    exact hD.push hP (by rw [g1]) (Nat.le_add_right _ _)
  · rw [h2n]
    by_cases hz9 : n + 1 = am_all
    · rw [if_pos hz9]; trivial
    · rw [if_neg hz9]
      refine ⟨by rw [hz, g1]; rfl, by unfold am_all at *; omega, fun k hk1 hk2 => ?_⟩
      rw [hct k hk2 (by omega), g4 k (by omega) hk2]
      unfold am_df
      have e0 := hty k hk2 (by omega)
      have e1 : am_ty ((fun _ _ => 0), (fun _ _ => Sum.inl .null), 0, ((fun _ _ => 0), h2.2.2.2.1.2), h2.2.2.2.2) (am_lay k) = am_ty h2 (am_lay k) := am_ty_eq rfl rfl _
      have e2 : am_ty ((fun _ _ => 0), (fun _ _ => Sum.inl .null), 0, ((fun _ _ => 0), h.2.2.2.1.2), h.2.2.2.2) (am_lay k) = am_ty h (am_lay k) := am_ty_eq rfl rfl _
      exact am_ct_eq (e2.trans (e0.symm.trans e1.symm)) rfl rfl (fun _ => rfl)
/-- the addresses, with one more -/
def am_va1 (va : Nat → Nat) (n q : Nat) : Nat → Nat := fun i => if i = n then q else va i
theorem am_ro_va {va : Nat → Nat} {q : Nat} {v : AV} (o : am_okv h v) : am_ro K (am_va1 va h.nd q) v = am_ro K va v := by
  rcases v with v | a
  · rfl
  · rcases a with w | x | n | k
    · rfl
    · rfl
    · rfl
    · have o : k.2 < h.nd := o.1
      show some (am_va1 va h.nd q k.2) = some (va k.2)
      unfold am_va1
      rw [if_neg (by omega)]
theorem am_xt_mkd {tg z : Nat} {f : AA → Nat → Int32} : am_xt' h (f, (am_mkd h tg z).2) := ⟨Nat.le_succ _, fun i hi => if_neg (Nat.ne_of_lt hi)⟩
/-- a cell of the law's is made (f: the numbers, with the new cell's) -/
theorem am_Rel.mkq {va : Nat → Nat} {H H1 : Heap} {tg z q : Nat} {f : AA → Nat → Int32} (hR : am_Rel K va h H) (hn : h.nx = none) (hk : am_kok tg = true) (hf : ∀ b, b ≠ da tg h.nd → f b = h.1 b) (hP1 : va_P K.2.1 vwCl (am_ws K va h ++ [(q, am_ct K (am_va1 va h.nd q) (f, (am_mkd h tg z).2) (da tg h.nd))]) H1) (hD1 : va_D (am_fr K) (am_ws K va h ++ [(q, am_ct K (am_va1 va h.nd q) (f, (am_mkd h tg z).2) (da tg h.nd))])) : am_Rel K (am_va1 va h.nd q) (f, (am_mkd h tg z).2) H1 := by
  obtain ⟨hP, hD, h3, h4, h5, h6⟩ := hR
  obtain ⟨h2, hh2⟩ : ∃ h2 : AH, (f, (am_mkd h tg z).2) = h2 := ⟨_, rfl⟩
  rw [hh2] at hP1 hD1 ⊢
  have e_nd : h2.nd = h.nd + 1 := by rw [← hh2]; rfl
  have e_nx : h2.nx = none := by rw [← hh2]; rfl
  have e_dk : ∀ i, h2.dk i = if i = h.nd then tg else h.dk i := fun i => by rw [← hh2]; rfl
  have e_dl : ∀ i, h2.dl i = if i = h.nd then z else h.dl i := fun i => by rw [← hh2]; rfl
  have e_r : h2.2.1 = h.2.1 := by rw [← hh2]; rfl
  have e_lg : h2.lg = h.lg := by rw [← hh2]; rfl
  have e_i : ∀ b, b ≠ da tg h.nd → h2.1 b = h.1 b := fun b hb => by rw [← hh2]; exact hf b hb
  have e_sl : h2.sl = h.sl := by rw [← hh2]; rfl
  have hxt : am_xt' h h2 := by rw [← hh2]; exact am_xt_mkd
  have e1 : am_n h = 195 := by unfold am_n; rw [hn]; rfl
  have e2 : am_n h2 = 195 := by unfold am_n; rw [e_nx]; rfl
  -- old cells
  have hty : ∀ b : AA, (∀ k, b ≠ da k h.nd) → am_ty h2 b = am_ty h b := by
    intro b hb
    rcases b with w | x | n | ⟨k, i⟩
    · rfl
    · rfl
    · have e : ∀ g : AH, am_ty g (Sum.inr (Sum.inr (Sum.inl n))) = am_ty g (za n) := fun _ => rfl
      rw [e, e, am_ty_z, am_ty_z, e_sl]
    · show (k, bif Nat.blt k 100 then am_nfs k else h2.dl i) = (k, bif Nat.blt k 100 then am_nfs k else h.dl i)
      rw [e_dl, if_neg (fun q9 => hb k (by rw [q9]))]
  have hct : ∀ b : AA, (∀ k, b ≠ da k h.nd) → am_ct K (am_va1 va h.nd q) h2 b = am_ct K va h b := by
    intro b hb
    have hi : h2.i b = h.i b := e_i b (hb tg)
    have hr : ∀ j, am_ro K (am_va1 va h.nd q) (h2.r b j) = am_ro K va (h.r b j) := fun j => by
      show am_ro K (am_va1 va h.nd q) (h2.2.1 b j) = _
      rw [e_r]; exact am_ro_va (h6.1 b j)
    by_cases c1 : (am_ty h b).1 < 100
    · rw [am_ct_obj (h := h) c1, am_ct_obj (h := h2) (by rw [hty b hb]; exact c1), hty b hb]
      have e : am_fv K (am_va1 va h.nd q) h2 b (am_ty h b).1 = am_fv K va h b (am_ty h b).1 := by
        funext k
        unfold am_fv
        rw [hi, hr]
      rw [e]
    · rw [am_ct_arr (h := h2) (by rw [hty b hb]; omega), am_ct_arr (h := h) (by omega), hty b hb]
      have e : am_ac K (am_va1 va h.nd q) h2 b (am_ty h b).1 = am_ac K va h b (am_ty h b).1 := by
        unfold am_ac
        rw [hi, e_lg]
        have e3 : (fun j => am_ro K (am_va1 va h.nd q) (h2.r b j)) = fun j => am_ro K va (h.r b j) := funext hr
        rw [e3]
      rw [e]
  have had : ∀ k, k < 195 → am_ad K (am_va1 va h.nd q) (am_lay k) = am_ad K va (am_lay k) := fun k hk => by rw [am_ad_lay hk, am_ad_lay hk]
  have hws : am_ws K (am_va1 va h.nd q) h2 = am_ws K va h ++ [(q, am_ct K (am_va1 va h.nd q) h2 (da tg h.nd))] := by
    unfold am_ws
    rw [e1, e2, e_nd, List.range_succ (n := h.nd), List.map_append, List.append_assoc]
    congr 1
    · refine List.map_congr_left fun k hk => ?_
      rw [had k (List.mem_range.mp hk), hct _ (fun c => am_lay_nd _ _ _)]
    · congr 1
      · refine List.map_congr_left fun i hi => ?_
        have hi := List.mem_range.mp hi
        rw [e_dk, if_neg (by omega), hct _ (fun c q9 => by have := (am_da_inj q9).2; omega)]
        unfold am_va1
        rw [if_neg (by omega)]
      · show [(am_va1 va h.nd q h.nd, am_ct K (am_va1 va h.nd q) h2 (da (h2.dk h.nd) h.nd))] = _
        rw [e_dk, if_pos rfl]
        have : am_va1 va h.nd q h.nd = q := if_pos rfl
        rw [this]
  have hna : am_NA h2 := by
    refine ⟨fun a j => ?_, fun i hi2 => ⟨fun k j => ?_, fun j => ?_⟩, fun i hi2 => ?_, fun ⟨n, q9⟩ => by rw [e_nx] at q9; cases q9⟩
    · show am_okv h2 (h2.2.1 a j)
      rw [e_r]; exact (h6.1 a j).ext hxt
    · rw [e_nd] at hi2
      have q9 := (h6.2.1 i (by omega)).1 k j
      refine ⟨?_, ?_⟩
      · show h2.1 _ _ = 0
        rw [e_i _ (fun z => by have := (am_da_inj z).2; omega)]; exact q9.1
      · show h2.2.1 _ _ = _
        rw [e_r]; exact q9.2
    · rw [e_nd] at hi2
      rw [e_lg]; exact (h6.2.1 i (by omega)).2 j
    · rw [e_nd] at hi2
      rw [e_dk]
      by_cases hi3 : i = h.nd
      · rw [if_pos hi3]; exact hk
      · rw [if_neg hi3]; exact h6.2.2.1 i (by omega)
  refine ⟨?_, ?_, ?_, by rw [e_sl]; exact h4, fun k => by show h2.1 (za 3004) k = _; rw [e_i _ (fun z => by cases z)]; exact h5 k, hna⟩
  · rw [hws]; exact hP1
  · rw [hws]; exact hD1
  · rw [e_nx]; trivial
theorem am_Rel.lo {va : Nat → Nat} {H : Heap} (hR : am_Rel K va h H) (hn : h.nx = none) : K.1 ≤ H.size := by
  have e1 : am_n h = 195 := by unfold am_n; rw [hn]; rfl
  have h0 : (am_ws K va h)[0]? = some (am_ad K va (am_lay 0), am_ct K va h (am_lay 0)) := by
    unfold am_ws
    rw [e1, List.getElem?_append_left (by rw [List.length_map, List.length_range]; decide), List.getElem?_map, List.getElem?_range (by decide), Option.map_some]
  have h1 := (hR.1 0 _ h0).lt
  have h1 : am_ad K va (am_lay 0) < H.size := h1
  rw [am_ad_lay (by decide)] at h1
  omega
theorem am_Rel.mkd {va : Nat → Nat} {H H1 : Heap} {tg z : Nat} {f : AA → Nat → Int32} (hR : am_Rel K va h H) (hn : h.nx = none) (hk : am_kok tg = true) (hf : ∀ b, b ≠ da tg h.nd → f b = h.1 b) (hz : H1.size = H.size + 1) (ho : ∀ q, q < H.size → H1[q]? = H[q]?) (hat : va_at K.2.1 vwCl (H.size, am_ct K (am_va1 va h.nd H.size) (f, (am_mkd h tg z).2) (da tg h.nd)) H1) : am_Rel K (am_va1 va h.nd H.size) (f, (am_mkd h tg z).2) H1 := by
  refine hR.mkq hn hk hf ?_ (hR.2.1.push hR.1 rfl (hR.lo hn))
  refine (hR.1.kept fun k x hx => ho x.1 ((hR.1 k x hx).lt)).app fun k x hx => ?_
  have hk1 : k < 1 := (List.getElem?_eq_some_iff.mp hx).1
  rw [show k = 0 by omega] at hx
  cases hx
  exact hat
/-- a frame's names behind the making of a cell -/
theorem am_ok.mkd {va : Nat → Nat} {tg z q : Nat} {f : AA → Nat → Int32} (hk : am_kok tg = true) (o : am_ok K va h ls st) : am_ok K (am_va1 va h.nd q) (f, (am_mkd h tg z).2) ls (dr tg h.nd :: st) := by
  refine ⟨⟨Nat.le_trans o.1.1 (Nat.le_succ _), fun i hi => ?_⟩, fun i v hv => (o.2.1 i v hv).ext am_xt_mkd, fun v hv => ?_⟩
  · obtain ⟨a1, a2⟩ := o.1.2 i hi
    have hlt : i < h.nd := Nat.lt_of_lt_of_le hi o.1.1
    refine ⟨?_, ?_⟩
    · show (if i = h.nd then q else va i) = _
      rw [if_neg (by omega)]; exact a1
    · show (if i = h.nd then tg else h.dk i) = _
      rw [if_neg (by omega)]; exact a2
  · rcases List.mem_cons.mp hv with rfl | hv
    · exact ⟨Nat.lt_succ_self _, if_pos rfl, hk⟩
    · exact (o.2.2 v hv).ext am_xt_mkd
theorem am_va1_old {va : Nat → Nat} {q : Nat} : ∀ i, i < h.nd → am_va1 va h.nd q i = va i := fun i hi => by
  unfold am_va1
  rw [if_neg (by omega)]
theorem am_rv_mapeq {va va1 : Nat → Nat} (e : ∀ i, i < h.nd → va1 i = va i) (o : ∀ v ∈ st, am_okv h v) : st.map (am_rv K va1) = st.map (am_rv K va) := List.map_congr_left fun v hv => am_rv_eq e (o v hv)
/-- a class that a class file makes objects of -/
def am_NO (own k tg : Nat) : Prop := ∃ (q : vw_C) (ty0 : Nat → FieldType), vwCl[tg]? = some q ∧ am_lk tg am_nf = some q.2.2 ∧ Cond.classLink (am_cn own) k q.1 ∈ sg_T ∧ Cond.instantiable q.1 q.2.2 ∈ sg_T ∧ Cond.initialized q.1 ∈ sg_T ∧ (∀ w ∈ u_ws q.1 q.2.1 q.2.2, w ∈ sg_T) ∧ (∀ j, j < q.2.2 → parseFieldDescriptor (q.2.1 j).2.2.1 = some (ty0 j)) ∧ (∀ j, j < q.2.2 → defaultValue (ty0 j) = bif am_isR tg j then .null else .int 0)
theorem am_lay_dyn {n : Nat} (hn : n < am_all) : am_dyn (am_lay n) = true := by
  unfold am_all at hn
  unfold am_lay
  by_cases z1 : 4 ≤ n ∧ n < 34
  · rw [if_pos z1]; rfl
  · rw [if_neg z1]
    by_cases z2 : 45 ≤ n ∧ n < 195
    · rw [if_pos z2]; rfl
    · rw [if_neg z2]
      exact am_lt (by omega)
theorem am_lay_oka {n : Nat} : am_oka h (am_lay n) := by
  unfold am_lay
  by_cases z1 : 4 ≤ n ∧ n < 34
  · rw [if_pos z1]; trivial
  · rw [if_neg z1]
    by_cases z2 : 45 ≤ n ∧ n < 195
    · rw [if_pos z2]; trivial
    · rw [if_neg z2]; trivial
theorem am_ne_lay {n k : Nat} (hn : n < am_all) (hk : k < am_all) (h : k ≠ n) : am_lay k ≠ am_lay n := fun z => h (by rw [← am_lay_at hk, ← am_lay_at hn, z])
theorem am_ok.mks {va : Nat → Nat} {n : Nat} {w : Nat × Nat × Nat × Option Nat} (o : am_ok K va h ls st) : am_ok K va (h.1, h.2.1, h.2.2.1, h.2.2.2.1, h.cp, w) ls (Sum.inr (am_lay n) :: st) := (o.dy (h2 := (h.1, h.2.1, h.2.2.1, h.2.2.2.1, h.cp, w)) rfl).push am_lay_oka
theorem am_s_new {k tg E : Nat} (hC : am_Cx K p s m args c bytes mr) (hq9 : am_N mr.1 k = some (0, tg, E)) (hN : am_NO mr.1 k tg) (hmono : ∀ (ls2 : AL) (st2 : List AV) (h2 : AH), ih mr r ls2 st2 h2 d = some (o, h1) → h2.nc ≤ h1.nc ∧ h2.ns ≤ h1.ns) (hdec : decode bytes pc = .ok (.new k, 3)) (nx : am_Nx K p l e R s m args below meth c mr o h1 (pc + 3) d ih r) (hrun : am_step ih mr ((pc, .new k, len, tgt) :: r) ls st h d = some (o, h1)) : am_G K p l e R s m args below meth c mr o h1 pc ls st h := by
  intro va H locs cells slots lsr hR hS hc hs hL hO
  obtain ⟨hx, hb, hml, hown, hts, hKn⟩ := hC
  have h9 : (match am_N mr.1 k with | some (m, tg, E) => bif Nat.beq m 0 then am_mk (fun a h1 => ih mr r ls (Sum.inr a :: st) h1 d) h tg none else (match (generalizing := false) st, h.nx with | [], none => bif Nat.ble 6 d && am_xt mr.2.2.2 pc then some (Sum.inr E, am_cnt h 1 6) else none | _, _ => none) | none => none) = some (o, h1) := hrun
  rw [hq9] at h9
  have h9 : am_mk (fun a h1 => ih mr r ls (Sum.inr a :: st) h1 d) h tg none = some (o, h1) := h9
  unfold am_mk at h9
  obtain ⟨q, ty0, hq, hnf, w1, w2, w3, hin, hpd, hdv⟩ := hN
  have hlt : tg < 100 := by
    have hl := (List.getElem?_eq_some_iff.mp hq).1
    exact Nat.lt_of_lt_of_le hl (by decide)
  have hKn1 := hKn.1.1 tg q hq
  cases hnx : h.nx with
  | none =>
    rw [hnx] at h9
    dsimp only at h9
    cases hkk : am_kok tg with
    | false => rw [hkk] at h9; cases h9
    | true =>
      rw [hkk, cond_true] at h9
      have hNN : am_nfs tg = q.2.2 := by unfold am_nfs; rw [hnf]
      obtain ⟨m1, m2⟩ := hmono _ _ _ h9
      have m1 : h.nc + 1 ≤ h1.nc := m1
      have m2 : h.ns + am_nfs tg ≤ h1.ns := m2
      rw [hNN] at m2
      refine W.newcK hx hb hown (hts _ w1) (hts _ w2) (hts _ w3) rfl hdec (by omega) (by omega) hKn1.2.1 rfl fun H2 kC hkC e1 z1 o1 => ?_
      have hk := nx _ _ _ h9 (am_va1 va h.nd H.size) H2 locs (cells + 1) (slots + q.2.2) lsr ?_ ?_ ?_ ?_ (hL.eq am_va1_old hO.2.1) (hO.mkd hkk)
      · have e9 : am_rv K (am_va1 va h.nd H.size) (dr tg h.nd) = .ref H.size := by
          show Value.ref (am_va1 va h.nd H.size h.nd) = _
          unfold am_va1
          rw [if_pos rfl]
        rw [List.map_cons, e9, am_rv_mapeq am_va1_old hO.2.2] at hk
        exact hk
      · refine hR.mkd (f := h.1) hnx hkk (fun _ _ => rfl) z1 o1 ?_
        have ht3 : am_ty (h.1, (am_mkd h tg (am_nfs tg)).2) (da tg h.nd) = (tg, am_nfs tg) := by
          show (tg, bif Nat.blt tg 100 then am_nfs tg else _) = _
          rw [am_lt hlt]; rfl
        rw [am_ct_obj (by rw [ht3]; exact hlt), ht3, hNN]
        refine ⟨q, hq, (u_born ty0 hts hin hKn1 hkC e1 hpd).to fun j hj => ?_⟩
        rw [hdv j hj]
        unfold vp_V
        rw [List.getD_eq_getElem?_getD, List.getElem?_map, List.getElem?_range hj]
        show _ = am_fv K (am_va1 va h.nd H.size) (h.1, (am_mkd h tg (am_nfs tg)).2) (da tg h.nd) tg j
        unfold am_fv
        have hna := ((hR.2.2.2.2.2).2.1 h.nd (Nat.le_refl _)).1 tg j
        have e1 : AH.r (h.1, (am_mkd h tg (am_nfs tg)).2) (da tg h.nd) j = Sum.inl Value.null := hna.2
        have e2 : AH.i (h.1, (am_mkd h tg (am_nfs tg)).2) (da tg h.nd) j = 0 := hna.1
        rw [e1, e2]
        rfl
      · exact ⟨Nat.le_trans hS.1 (by omega), fun x q1 q2 => (o1 x (Nat.lt_of_lt_of_le q1 hS.1)).trans (hS.2.1 x q1 q2), hS.2.2⟩
      · show cells + 1 + h1.nc ≤ R.cells + (h.nc + 1)
        omega
      · show slots + q.2.2 + h1.ns ≤ R.slots + (h.ns + am_nfs tg)
        rw [hNN]
        omega
  | some n =>
    rw [hnx] at h9
    dsimp only at h9
    · split at h9
      · next hcond =>
        obtain ⟨hty, -⟩ := hcond
        have h3 := hR.2.2.1
        rw [hnx] at h3
        obtain ⟨g1, g3, g4⟩ := h3
        have hd := am_lay_dyn g3
        have hnf2 := am_ty_nf (h := h) hd am_lay_oka (by rw [hty]; exact hlt)
        rw [hty, hnf] at hnf2
        have hNN : q.2.2 = (am_ty h (am_lay n)).2 := Option.some.inj hnf2
        obtain ⟨m1, m2⟩ := hmono _ _ _ h9
        have m1 : h.nc + 1 ≤ h1.nc := m1
        have m2 : h.ns + (am_ty h (am_lay n)).2 ≤ h1.ns := m2
        refine W.newcK hx hb hown (hts _ w1) (hts _ w2) (hts _ w3) rfl hdec (by omega) (by omega) hKn1.2.1 rfl fun H2 kC hkC e1 z1 o1 => ?_
        have hk := nx _ _ _ h9 va H2 locs (cells + 1) (slots + q.2.2) lsr ?_ ?_ ?_ ?_ hL hO.mks
        · have e9 : am_rv K va (Sum.inr (am_lay n)) = .ref H.size := by
            show Value.ref (am_ad K va (am_lay n)) = _
            rw [am_ad_lay g3, g1]
          rw [List.map_cons, e9] at hk
          exact hk
        · have ht2 : ∀ b, am_ty (h.1, h.2.1, h.2.2.1, h.2.2.2.1, h.cp, h.nc + 1, h.ns + (am_ty h (am_lay n)).2, h.sl, if n + 1 = am_all then none else some (n + 1)) b = am_ty h b := fun b => am_ty_eq rfl rfl b
          refine hR.mk hnx rfl rfl rfl rfl (fun k _ _ => ht2 _) rfl z1 o1 ?_
          have hct : am_ct K va (h.1, h.2.1, h.2.2.1, h.2.2.2.1, h.cp, h.nc + 1, h.ns + (am_ty h (am_lay n)).2, h.sl, if n + 1 = am_all then none else some (n + 1)) (am_lay n) = am_df K va h (am_lay n) := by
            rw [← g4 n (Nat.le_refl _) g3]
            exact am_ct_eq (ht2 _) rfl rfl (fun _ => rfl)
          rw [hct]
          unfold am_df
          have ht3 : am_ty ((fun _ _ => 0), (fun _ _ => Sum.inl .null), 0, ((fun _ _ => 0), h.2.2.2.1.2), h.2.2.2.2) (am_lay n) = am_ty h (am_lay n) := am_ty_eq rfl rfl _
          rw [am_ct_obj (by rw [ht3, hty]; exact hlt), ht3, hty, ← hNN, ← g1]
          refine ⟨q, hq, (u_born ty0 hts hin hKn1 hkC e1 hpd).to fun j hj => ?_⟩
          rw [hdv j hj]
          unfold vp_V
          rw [List.getD_eq_getElem?_getD, List.getElem?_map, List.getElem?_range hj]
          show _ = am_fv K va ((fun _ _ => 0), (fun _ _ => Sum.inl .null), 0, ((fun _ _ => 0), h.2.2.2.1.2), h.2.2.2.2) (am_lay n) tg j
          unfold am_fv
          rfl
        · exact ⟨Nat.le_trans hS.1 (by omega), fun x q1 q2 => (o1 x (Nat.lt_of_lt_of_le q1 hS.1)).trans (hS.2.1 x q1 q2), hS.2.2⟩
        · show cells + 1 + h1.nc ≤ R.cells + (h.nc + 1)
          omega
        · show slots + q.2.2 + h1.ns ≤ R.slots + (h.ns + (am_ty h (am_lay n)).2)
          omega
      · cases h9
end NEW
