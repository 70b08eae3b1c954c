/-! the floor is made -/
section FLI
variable {r c R ro G n kc q k tg z l p : Nat} {hi h1 h h0 : HI} {x x0 x2 : AX}
theorem K_alinit : sl_Jx4a65c_init_da8c8 l h x = some (am_u h (da 2 l) 0 0, xr x (da 2 l) 1 (Sum.inr (za 3005))) := by
  unfold sl_Jx4a65c_init_da8c8 sl_Jxc12de_init_da8c8 sl_Jxa1e45_init_da8c8
  rw [cB2_, cH_, cB2_, cAx_]
/-- how the floor's object begins -/
theorem K_init (hx : ndx x = 2) (Z : Z_ h x) {P : HI × AX → Prop} (H : ∀ x', ndx x' = 5 → rdx x' (da 12 1) 29 = dr 2 3 → rdx x' (da 12 1) 30 = dr 2 4 → rdx x' (da 2 3) 1 = Sum.inr (za 3005) → rdx x' (da 2 4) 1 = Sum.inr (za 3005) → slx x' = slx x → (∀ h, Z_ h x → Z_ h x') → (∀ h, FrN 1 3 h x h x') → P (am_u (am_u (am_u (am_u h (da 12 1) 10 (-1)) (da 12 1) 19 (-1)) (da 2 3) 0 0) (da 2 4) 0 0, x')) : Gd (sl_X10_init 1 h x) P := by
  unfold sl_X10_init
  refine gd_H (fun h1 e1 => gd_H (fun h2 e2 => ?_))
  refine gd_MX (k := 22) (z := 0) hx (by omega) (by omega) (fun x4 M => ?_)
  obtain ⟨m1, -, -, m4, -, m6, m7, m8⟩ := M
  refine gd_X (fun x5 e5 => ?_)
  rw [K_alinit, cB2_]
  refine gd_X (fun x7 e7 => gd_X (fun x8 e8 => ?_))
  rw [K_alinit, cB2_]
  refine gd_X (fun x10 e10 => gd_ret ?_)
  have n5 : ndx x5 = 4 := by rw [e5]; show ndx x4 + 1 = 4; omega
  have n7 : ndx x7 = 4 := by rw [e7]; exact n5
  have n8 : ndx x8 = 5 := by rw [e8]; show ndx x7 + 1 = 5; omega
  have n10 : ndx x10 = 5 := by rw [e10]; exact n8
  rw [n7, m1]
  have E1 : h1 = am_u h (da 12 1) 10 (-1) := e1
  rw [e2, e1]
  rw [m1] at e7
  rw [n7] at e10
  have r7 : rdx x7 = am_u (am_u (rdx x4) (da 2 3) 1 (Sum.inr (za 3005))) (da 12 1) 29 (dr 2 3) := by rw [e7, e5]; rfl
  have r10 : rdx x10 = am_u (am_u (rdx x7) (da 2 4) 1 (Sum.inr (za 3005))) (da 12 1) 30 (dr 2 4) := by rw [e10, e8]; rfl
  refine H x10 n10 ?_ ?_ ?_ ?_ ?_ (fun k Zk => ?_) (fun k => ?_)
  · rw [r10, gu_k (by omega), gu_a (da_nK (by omega)), r7, gu_]
  · rw [r10, gu_]
  · rw [r10, gu_a (da_nK (by omega)), gu_a (da_ni (by omega)), r7, gu_a (da_nK (by omega)), gu_]
  · rw [r10, gu_a (da_nK (by omega)), gu_]
  · rw [e10, e8, e7, e5]; exact m6
  · have z4 := m7 k Zk
    have z7 : Z_ k x7 := by
      rw [e7, e5]
      exact (z4.m.r (show 3 < ndx x4 + 1 by omega)).r (show 1 < ndx x4 + 1 by omega)
    rw [e10, e8]
    exact (z7.m.r (show 4 < ndx x7 + 1 by omega)).r (show 1 < ndx x7 + 1 by omega)
  · have f7 : FrN 1 1 k x4 k x7 := by
      rw [e7, e5]
      exact ((FrN.m (by omega) (by decide)).trans (FrN.r (by omega))).trans (FrN.r (by omega))
    have f10 : FrN 1 1 k x7 k x10 := by
      rw [e10, e8]
      exact ((FrN.m (by omega) (by decide)).trans (FrN.r (by omega))).trans (FrN.r (by omega))
    exact ((m8 k).trans f7).trans f10
/-- the curtains' loop, and the cloud -/
theorem K_f218e (hG : 100 < G) (hx : ndx x = 11) (hs : slx x < 2 ^ 31) (F : FS0 r c x) {P : Nat × HI × AX → Prop} (hc : 2 ≤ r ∧ r ≤ 3 ∧ 2 ≤ c ∧ c ≤ 5) {v u : Int32} (f0 : h (da 12 1) 0 = nI r) (f1 : h (da 12 1) 1 = nI c) (f10 : h (da 12 1) 10 = -1) (f20 : h (da 12 1) 20 = 0) (Hn : FRn r c h) (Hc : FRc h) (b0 : ∀ i, h (da 102 8) i = 0) (s3 : h (da 2 3) 2 = 0) (r3 : rdx x (da 2 3) 1 = Sum.inr (za 3005)) (s4 : h (da 2 4) 2 = 0) (r4 : rdx x (da 2 4) 1 = Sum.inr (za 3005)) (Z : Z_ h x) (hP : ∀ ro R kc h' x', FLR ro R r c (ndx x') kc h' x' → FrN 1 4 h x h' x' → P (1, h', x')) : Gd (sl_L_floor_218_b G (fun _ _ _ _ _ _ => none) 1 v u (nI c) h x) P := by
  unfold sl_L_floor_218_b
  rw [f1, if_pos (nI_le (Nat.le_refl _) (by omega))]
  refine gd_I (fun _ => ?_) (fun _ => gd_D F.2.2.2.2.2.2.1 ?_)
  · exact K_f326 (kc := 0) hG (by omega) hs F hc f0 f1 f10 f20 Hn Hc b0 ⟨s3, fun q => by omega⟩ (by omega) (fun q => by omega) s4 r4 Z (fun ro R h' x' H f => hP ro R 0 h' x' H (f.mono (by omega)))
  · rw [show (2 : Int32) = nI 2 from rfl, cMk_ (by omega)]
    obtain ⟨a, ha, ea⟩ := an3 (u.toUInt32 >>> ((22 : Int32).toUInt32 &&& Int32.toUInt32 31)).toInt32
    have l2 : lnx (xm x 100 2) (ndx x) = 2 := if_pos rfl
    rw [ea, nI_1, l2, hx]
    refine gd_G (by omega) (gd_H (fun h7 e7 => gd_G (by omega) (gd_H (fun h8 e8 => ?_))))
    have o8 : Oi (fun i => i = 11) h h8 := by
      rw [e8, e7]
      refine Oi.u (Oi.u Oi.refl ?_) ?_
      all_goals exact rfl
    have q0 : h8 (da 100 11) 0 = nI a := by rw [e8, gu_k (by omega), e7, gu_]
    have q1 : h8 (da 100 11) 1 = nI (a + 1) := by rw [e8, gu_]
    have s38 : h8 (da 2 3) 2 = 0 := (o8.d (by omega)).trans s3
    rw [K_add_e (x := xm x 100 2) r3 s38, cB3_]
    have n46 : ndx (xm x 100 2) = 12 := by show ndx x + 1 = 12; omega
    rw [n46]
    generalize hx9 : xr (xr (xm (xm x 100 2) 104 10) (da 2 3) 1 (dr 104 12)) (da 104 12) 0 (dr 100 11) = x9
    generalize hh9 : am_u (am_u h8 (da 2 3) 0 (h8 (da 2 3) 0 + 1)) (da 2 3) 2 (nI 1) = h9
    have nd : ndx x9 = 13 := by rw [← hx9]; show ndx x + 1 + 1 = 13; omega
    have ln : ∀ i, lnx x9 i = if i = 12 then 10 else if i = 11 then 2 else lnx x i := fun i => by
      rw [← hx9]
      show (if i = ndx x + 1 then 10 else if i = ndx x then 2 else lnx x i) = _
      rw [hx]
    have rd : rdx x9 = am_u (am_u (rdx x) (da 2 3) 1 (dr 104 12)) (da 104 12) 0 (dr 100 11) := by rw [← hx9]; rfl
    have o9 : Oi (fun i => i = 11 ∨ i = 3) h h9 := by
      rw [← hh9]
      refine Oi.u (Oi.u (o8.m (fun i q => Or.inl q)) ?_) ?_
      all_goals exact Or.inr rfl
    have r12 : ∀ j, rdx x9 (da 12 1) j = rdx x (da 12 1) j := fun j => by rw [rd, gu_a (da_nK (by omega)), gu_a (da_nK (by omega))]
    obtain ⟨F5, F6, F7, F8, F9, F10, F29, F30⟩ := F
    have FX : FS0 r c x9 := ⟨⟨(r12 _).trans F5.1, by rw [ln, if_neg (by omega), if_neg (by omega)]; exact F5.2⟩, ⟨(r12 _).trans F6.1, by rw [ln, if_neg (by omega), if_neg (by omega)]; exact F6.2⟩, ⟨(r12 _).trans F7.1, by rw [ln, if_neg (by omega), if_neg (by omega)]; exact F7.2⟩, ⟨(r12 _).trans F8.1, by rw [ln, if_neg (by omega), if_neg (by omega)]; exact F8.2⟩, ⟨(r12 _).trans F9.1, by rw [ln, if_neg (by omega), if_neg (by omega)]; exact F9.2⟩, ⟨(r12 _).trans F10.1, by rw [ln, if_neg (by omega), if_neg (by omega)]; exact F10.2⟩, (r12 _).trans F29, (r12 _).trans F30⟩
    have sl : slx x9 = slx x := by rw [← hx9]; rfl
    have q9 : ∀ j, h9 (da 100 11) j = h8 (da 100 11) j := fun j => by rw [← hh9, gu_a (da_nK (by omega)), gu_a (da_nK (by omega))]
    have Z9 : Z_ h9 x9 := by
      have Zx : Z_ h x9 := by
        rw [← hx9]
        exact (Z.m.m.r (show 3 < ndx x + 1 + 1 by omega)).r (show 12 < ndx x + 1 + 1 by omega)
      exact o9.Z Zx (fun i q => by omega)
    have rA : rdx x9 (da 2 3) 1 = dr 104 12 := by rw [rd, gu_a (da_nK (by omega)), gu_]
    have rB : rdx x9 (da 104 12) 0 = dr 100 11 := by rw [rd, gu_]
    refine K_f326 (kc := 1) hG (by omega) (by rw [sl]; exact hs) FX hc ((o9.d (by omega)).trans f0) ((o9.d (by omega)).trans f1) ((o9.d (by omega)).trans f10) ((o9.d (by omega)).trans f20) (Hn.o (fun j _ _ _ _ => o9.d (by omega))) ⟨fun j => by rw [o9.d (by omega)]; exact Hc.1 j, fun j => by rw [o9.d (by omega)]; exact Hc.2 j⟩ (fun i => (o9.d (by omega)).trans (b0 i)) ⟨by rw [← hh9]; exact gu_, fun _ => ⟨12, rA, by rw [ln, if_pos rfl]; omega, by rw [ln, if_pos rfl]; omega, by omega, by omega, fun j hj => ?_⟩⟩ (by omega) (fun _ => ⟨12, 11, a, rA, rB, by omega, (q9 0).trans q0, (q9 1).trans q1, by omega, by omega⟩) ((o9.d (by omega)).trans s4) ?_ Z9 (fun ro R h' x' H f => hP ro R 1 h' x' H ?_)
    · obtain rfl : j = 0 := by omega
      exact ⟨11, rB, by rw [ln, if_neg (by omega), if_pos rfl], by omega⟩
    · rw [rd, gu_a (da_nK (by omega)), gu_a (da_ni (by omega))]; exact r4
    · have f1 : FrN 1 0 h x h9 x := FrN.oi o9 (fun i q => by omega)
      have f2 : FrN 1 2 h9 x h9 x9 := by
        rw [← hx9]
        exact (((FrN.m (by omega) (by omega)).trans (FrN.m (show 1 ≤ ndx x + 1 by omega) (by omega))).trans (FrN.r (by omega))).trans (FrN.r (by omega))
      exact ((f1.trans f2).trans f).mono (by omega)
/-- the arrays -/
theorem K_f146 (hG : 100 < G) (hx : ndx x = 5) (hs : slx x < 2 ^ 31) {P : Nat × HI × AX → Prop} (hc : 2 ≤ r ∧ r ≤ 3 ∧ 2 ≤ c ∧ c ≤ 5) {v t0 : Int32} (ht : t0 = 0 ∨ t0 = 1) (f0 : h (da 12 1) 0 = nI r) (f1 : h (da 12 1) 1 = nI c) (f10 : h (da 12 1) 10 = -1) (f20 : h (da 12 1) 20 = 0) (Hn : ∀ t, (t = 0 ∨ t = 1) → FRn r c (am_u h (da 12 1) 21 t)) (s3 : h (da 2 3) 2 = 0) (r3 : rdx x (da 2 3) 1 = Sum.inr (za 3005)) (s4 : h (da 2 4) 2 = 0) (r4 : rdx x (da 2 4) 1 = Sum.inr (za 3005)) (r29 : rdx x (da 12 1) 29 = dr 2 3) (r30 : rdx x (da 12 1) 30 = dr 2 4) (Z : Z_ h x) (hP : ∀ ro R kc h' x', FLR ro R r c (ndx x') kc h' x' → FrN 1 10 h x h' x' → P (1, h', x')) : Gd (sl_L_floor_146 G 1 v t0 1 h x) P := by
  have hT : 4 ≤ r * c ∧ r * c ≤ 15 := ⟨Nat.mul_le_mul hc.1 hc.2.2.1, Nat.mul_le_mul hc.2.1 hc.2.2.2⟩
  unfold sl_L_floor_146
  refine gd_G ht (gd_H (fun k ek => ?_))
  have o : ∀ j, j ≠ 21 → k (da 12 1) j = h (da 12 1) j := fun j q => by rw [ek, gu_k q]
  have od : ∀ K i j, i ≠ 1 → k (da K i) j = h (da K i) j := fun K i j q => by rw [ek, gu_a (da_ni q)]
  have g0 := (o 0 (by omega)).trans f0
  have g1 := (o 1 (by omega)).trans f1
  rw [g1]
  refine gd_MX (k := 23) hx (by omega) (by omega) (fun x1 A1 => gd_MX (k := 26) A1.1 (by omega) (by omega) (fun x2 A2 => ?_))
  rw [K_tiles g0 g1, cB3_]
  refine gd_MX (k := 24) A2.1 (by omega) (by omega) (fun x3 A3 => ?_)
  rw [K_tiles g0 g1, cB3_]
  refine gd_MX (k := 25) A3.1 (by omega) (by omega) (fun x4 A4 => ?_)
  rw [K_tiles g0 g1, cB3_]
  refine gd_MX (k := 27) A4.1 (by omega) (by omega) (fun x5 A5 => ?_)
  rw [K_tiles g0 g1, cB3_]
  refine gd_MX (k := 28) A5.1 (by omega) (by omega) (fun x6 A6 => ?_)
  obtain ⟨n1, d1, l1, p1, q1, w1, z1, b1⟩ := A1
  obtain ⟨n2, d2, l2, p2, q2, w2, z2, b2⟩ := A2
  obtain ⟨n3, d3, l3, p3, q3, w3, z3, b3⟩ := A3
  obtain ⟨n4, d4, l4, p4, q4, w4, z4, b4⟩ := A4
  obtain ⟨n5, d5, l5, p5, q5, w5, z5, b5⟩ := A5
  obtain ⟨n6, d6, l6, p6, q6, w6, z6, b6⟩ := A6
  have sl : slx x6 = slx x := by rw [w6, w5, w4, w3, w2, w1]
  obtain ⟨u, eu⟩ := K_cell (hi := k) (x := x6) (k := 2) (by omega) (by rw [sl]; exact hs)
  have eu : sl_L_cell (2 : Int32) k x6 = some (u, k, x6) := eu
  rw [eu, cB3_]
  have FX : FS0 r c x6 := by
    refine ⟨⟨?_, ?_⟩, ⟨?_, ?_⟩, ⟨?_, ?_⟩, ⟨?_, ?_⟩, ⟨?_, ?_⟩, ⟨d6, l6⟩, ?_, ?_⟩
    · rw [p6 _ _ (fun e => by omega), p5 _ _ (fun e => by omega), p4 _ _ (fun e => by omega), p3 _ _ (fun e => by omega), p2 _ _ (fun e => by omega)]; exact d1
    · rw [q6 _ (by omega), q5 _ (by omega), q4 _ (by omega), q3 _ (by omega), q2 _ (by omega)]; exact l1
    · rw [p6 _ _ (fun e => by omega), p5 _ _ (fun e => by omega), p4 _ _ (fun e => by omega), p3 _ _ (fun e => by omega)]; exact d2
    · rw [q6 _ (by omega), q5 _ (by omega), q4 _ (by omega), q3 _ (by omega)]; exact l2
    · rw [p6 _ _ (fun e => by omega), p5 _ _ (fun e => by omega), p4 _ _ (fun e => by omega)]; exact d3
    · rw [q6 _ (by omega), q5 _ (by omega), q4 _ (by omega)]; exact l3
    · rw [p6 _ _ (fun e => by omega), p5 _ _ (fun e => by omega)]; exact d4
    · rw [q6 _ (by omega), q5 _ (by omega)]; exact l4
    · rw [p6 _ _ (fun e => by omega)]; exact d5
    · rw [q6 _ (by omega)]; exact l5
    · rw [p6 _ _ (fun e => by omega), p5 _ _ (fun e => by omega), p4 _ _ (fun e => by omega), p3 _ _ (fun e => by omega), p2 _ _ (fun e => by omega), p1 _ _ (fun e => by omega)]; exact r29
    · rw [p6 _ _ (fun e => by omega), p5 _ _ (fun e => by omega), p4 _ _ (fun e => by omega), p3 _ _ (fun e => by omega), p2 _ _ (fun e => by omega), p1 _ _ (fun e => by omega)]; exact r30
  have rl : ∀ l, rdx x6 (da 2 l) 1 = rdx x (da 2 l) 1 := fun l => by
    rw [p6 _ _ (fun e => by omega), p5 _ _ (fun e => by omega), p4 _ _ (fun e => by omega), p3 _ _ (fun e => by omega), p2 _ _ (fun e => by omega), p1 _ _ (fun e => by omega)]
  have Zk : Z_ k x6 := z6 k (z5 k (z4 k (z3 k (z2 k (z1 k (by rw [ek]; exact Z.u (by omega)))))))
  have fk : FrN 1 6 h x k x6 := by
    have f1 : FrN 1 0 h x k x := by rw [ek]; exact FrN.u (Nat.le_refl _)
    exact (((((f1.trans (b1 k)).trans (b2 k)).trans (b3 k)).trans (b4 k)).trans (b5 k)).trans (b6 k)
  have Hk : FRn r c k := by rw [ek]; exact Hn t0 ht
  have zz : ∀ K i j, 5 ≤ i → i < 11 → k (da K i) j = 0 := fun K i j a b => (od K i j (by omega)).trans ((Z i (by omega)).1 K j).1
  refine K_f218 hG FX hc g1 (fun h' o' Hc => ?_) c G 0 k (by omega) (by omega) Oi.refl ⟨fun j => Or.inl (zz 102 5 j (by omega) (by omega)), fun j => ⟨0, Or.inl rfl, zz 100 6 j (by omega) (by omega)⟩⟩
  refine K_f218e hG (by omega) (by rw [sl]; exact hs) FX hc ((o'.d (by omega)).trans g0) ((o'.d (by omega)).trans g1) ((o'.d (by omega)).trans ((o 10 (by omega)).trans f10)) ((o'.d (by omega)).trans ((o 20 (by omega)).trans f20)) (Hk.o (fun j _ _ _ _ => o'.d (by omega))) Hc (fun i => (o'.d (by omega)).trans (zz 102 8 i (by omega) (by omega))) ((o'.d (by omega)).trans ((od 2 3 2 (by omega)).trans s3)) ((rl 3).trans r3) ((o'.d (by omega)).trans ((od 2 4 2 (by omega)).trans s4)) ((rl 4).trans r4) (o'.Z Zk (fun i q => by omega)) (fun ro R kc h2 x2 H f => hP ro R kc h2 x2 H ?_)
  have f2 : FrN 1 0 k x6 h' x6 := FrN.oi o' (fun i q => by omega)
  exact ((fk.trans f2).trans f).mono (by omega)
theorem K_floor (hG : 100 < G) (hx : ndx x = 1) (hs : slx x < 2 ^ 31) (Z : Z_ hi x) {P : Nat × HI × AX → Prop} (hP : ∀ ro R r c kc h' x', FLR ro R r c (ndx x') kc h' x' → FrN 1 20 hi x h' x' → P (1, h', x')) : Gd (sl_L_floor G hi x) P := by
  unfold sl_L_floor
  refine gd_X (fun x1 e1 => ?_)
  have n1 : ndx x1 = 2 := by rw [e1]; show ndx x + 1 = 2; omega
  have Z1 : Z_ hi x1 := by rw [e1]; exact Z.m
  have fr1 : FrN 1 1 hi x hi x1 := by rw [e1]; exact FrN.m (by omega) (by decide)
  have sl1 : slx x1 = slx x := by rw [e1]; rfl
  rw [hx]
  refine gd_2 (Q := fun v => ∃ x2, v = (am_u (am_u (am_u (am_u hi (da 12 1) 10 (-1)) (da 12 1) 19 (-1)) (da 2 3) 0 0) (da 2 4) 0 0, x2) ∧ ndx x2 = 5 ∧ rdx x2 (da 12 1) 29 = dr 2 3 ∧ rdx x2 (da 12 1) 30 = dr 2 4 ∧ rdx x2 (da 2 3) 1 = Sum.inr (za 3005) ∧ rdx x2 (da 2 4) 1 = Sum.inr (za 3005) ∧ slx x2 = slx x1 ∧ Z_ hi x2 ∧ FrN 1 3 hi x1 hi x2) (K_init n1 Z1 (fun x' a1 a2 a3 a4 a5 a6 a7 a8 => ⟨x', rfl, a1, a2, a3, a4, a5, a6, a7 hi Z1, a8 hi⟩)) (fun h3 x3 q => ?_)
  obtain ⟨x2, e, a1, a2, a3, a4, a5, a6, a7, a8⟩ := q
  injection e with e3 ex
  subst ex
  have sl3 : slx x3 = slx x := a6.trans sl1
  obtain ⟨v, ev⟩ := K_cell (hi := h3) (x := x3) (k := 0) (by omega) (by rw [sl3]; exact hs)
  have ev : sl_L_cell (0 : Int32) h3 x3 = some (v, h3, x3) := ev
  rw [ev, cB3_]
  obtain ⟨j0, b0, c0⟩ := an1 v
  obtain ⟨j1, b1, c1⟩ := an3 (v.toUInt32 >>> ((1 : Int32).toUInt32 &&& Int32.toUInt32 31)).toInt32
  obtain ⟨j2, b2, c2⟩ := an3 (v.toUInt32 >>> ((3 : Int32).toUInt32 &&& Int32.toUInt32 31)).toInt32
  obtain ⟨j3, b3, c3⟩ := an3 (v.toUInt32 >>> ((5 : Int32).toUInt32 &&& Int32.toUInt32 31)).toInt32
  obtain ⟨j4, b4, c4⟩ := an7 (v.toUInt32 >>> ((7 : Int32).toUInt32 &&& Int32.toUInt32 31)).toInt32
  obtain ⟨j5, b5, c5⟩ := an3 (v.toUInt32 >>> ((10 : Int32).toUInt32 &&& Int32.toUInt32 31)).toInt32
  obtain ⟨j6, b6, c6⟩ := an7 (v.toUInt32 >>> ((12 : Int32).toUInt32 &&& Int32.toUInt32 31)).toInt32
  obtain ⟨j7, b7, c7⟩ := an3 (v.toUInt32 >>> ((15 : Int32).toUInt32 &&& Int32.toUInt32 31)).toInt32
  obtain ⟨jc, bc, cc⟩ := an7 (v.toUInt32 >>> ((17 : Int32).toUInt32 &&& Int32.toUInt32 31)).toInt32
  rw [c0, c1, c2, c3, c4, c5, c6, c7, cc, show (2 : Int32) = nI 2 from rfl, nI_add, nI_add, show (1 : Int32) = nI 1 from rfl, nI_add, nI_add, nI_add]
  refine gd_H (fun h4 e4 => gd_H (fun h5 e5 => gd_H (fun h6 e6 => gd_H (fun h7 e7 => gd_H (fun h8 e8 => gd_H (fun h9 e9 => gd_H (fun h10 e10 => gd_H (fun h11 e11 => ?_))))))))
  obtain ⟨v2, ev2⟩ := K_cell (hi := h11) (x := x3) (k := 1) (by omega) (by rw [sl3]; exact hs)
  rw [ev2, cB3_]
  obtain ⟨j8, b8, c8⟩ := an31 v2
  rw [c8, show (10 : Int32) = nI 10 from rfl, nI_add]
  refine gd_H (fun h13 e13 => ?_)
  have g131 : h13 (da 12 1) 1 = nI (2 + j1) := by rw [e13, gu_k (by omega), e11, gu_k (by omega), e10, gu_k (by omega), e9, gu_k (by omega), e8, gu_k (by omega), e7, gu_k (by omega), e6, gu_k (by omega), e5, gu_]
  rw [g131, pk_rem (by omega) (by omega) (by omega)]
  refine gd_N (nI_ne0 (by omega) (by omega)) (gd_H (fun h14 e14 => ?_))
  have w0 : h14 (da 12 1) 0 = nI (2 + j0) := by rw [e14, gu_k (by omega), e13, gu_k (by omega), e11, gu_k (by omega), e10, gu_k (by omega), e9, gu_k (by omega), e8, gu_k (by omega), e7, gu_k (by omega), e6, gu_k (by omega), e5, gu_k (by omega), e4, gu_]
  have w1 : h14 (da 12 1) 1 = nI (2 + j1) := by rw [e14, gu_k (by omega), e13, gu_k (by omega), e11, gu_k (by omega), e10, gu_k (by omega), e9, gu_k (by omega), e8, gu_k (by omega), e7, gu_k (by omega), e6, gu_k (by omega), e5, gu_]
  have w2 : h14 (da 12 1) 2 = nI (1 + j2) := by rw [e14, gu_k (by omega), e13, gu_k (by omega), e11, gu_k (by omega), e10, gu_k (by omega), e9, gu_k (by omega), e8, gu_k (by omega), e7, gu_k (by omega), e6, gu_]
  have w3 : h14 (da 12 1) 3 = nI (1 + j3) := by rw [e14, gu_k (by omega), e13, gu_k (by omega), e11, gu_k (by omega), e10, gu_k (by omega), e9, gu_k (by omega), e8, gu_k (by omega), e7, gu_]
  have w4 : h14 (da 12 1) 4 = nI (1 + j4) := by rw [e14, gu_k (by omega), e13, gu_k (by omega), e11, gu_k (by omega), e10, gu_k (by omega), e9, gu_k (by omega), e8, gu_]
  have w5 : h14 (da 12 1) 5 = nI j5 := by rw [e14, gu_k (by omega), e13, gu_k (by omega), e11, gu_k (by omega), e10, gu_k (by omega), e9, gu_]
  have w6 : h14 (da 12 1) 6 = nI j6 := by rw [e14, gu_k (by omega), e13, gu_k (by omega), e11, gu_k (by omega), e10, gu_]
  have w7 : h14 (da 12 1) 7 = nI j7 := by rw [e14, gu_k (by omega), e13, gu_k (by omega), e11, gu_]
  have w8 : h14 (da 12 1) 8 = nI (j8 + 10) := by rw [e14, gu_k (by omega), e13, gu_]
  have w11 : h14 (da 12 1) 11 = nI (jc % (2 + j1)) := by rw [e14, gu_]
  have o14 : Oi (fun i => i = 1) h3 h14 := by
    rw [e14, e13, e11, e10, e9, e8, e7, e6, e5, e4]
    refine Oi.u (Oi.u (Oi.u (Oi.u (Oi.u (Oi.u (Oi.u (Oi.u (Oi.u (Oi.u Oi.refl ?_) ?_) ?_) ?_) ?_) ?_) ?_) ?_) ?_) ?_
    all_goals exact rfl
  have w10 : h14 (da 12 1) 10 = -1 := by rw [e14, gu_k (by omega), e13, gu_k (by omega), e11, gu_k (by omega), e10, gu_k (by omega), e9, gu_k (by omega), e8, gu_k (by omega), e7, gu_k (by omega), e6, gu_k (by omega), e5, gu_k (by omega), e4, gu_k (by omega), e3, gu_a (da_nK (by omega)), gu_a (da_nK (by omega)), gu_k (by omega), gu_]
  have w20 : h14 (da 12 1) 20 = 0 := by rw [e14, gu_k (by omega), e13, gu_k (by omega), e11, gu_k (by omega), e10, gu_k (by omega), e9, gu_k (by omega), e8, gu_k (by omega), e7, gu_k (by omega), e6, gu_k (by omega), e5, gu_k (by omega), e4, gu_k (by omega), e3, gu_a (da_nK (by omega)), gu_a (da_nK (by omega)), gu_k (by omega), gu_k (by omega)]; exact ((Z 1 (by omega)).1 12 20).1
  have t3 : h14 (da 2 3) 2 = 0 := by rw [o14.d (by omega), e3, gu_a (da_ni (by omega)), gu_k (by omega), gu_a (da_nK (by omega)), gu_a (da_nK (by omega))]; exact ((Z 3 (by omega)).1 2 2).1
  have t4 : h14 (da 2 4) 2 = 0 := by rw [o14.d (by omega), e3, gu_k (by omega), gu_a (da_ni (by omega)), gu_a (da_nK (by omega)), gu_a (da_nK (by omega))]; exact ((Z 4 (by omega)).1 2 2).1
  have o3 : Oi (fun i => i = 1 ∨ i = 3 ∨ i = 4) hi h3 := by
    rw [e3]
    exact (((Oi.refl.u (Or.inl rfl)).u (Or.inl rfl)).u (Or.inr (Or.inl rfl))).u (Or.inr (Or.inr rfl))
  have oa : Oi (fun i => i = 1 ∨ i = 3 ∨ i = 4) hi h14 := o3.trans (o14.m (fun i q => Or.inl q))
  have Z14 : Z_ h14 x3 := oa.Z a7 (fun i q => by omega)
  have hn : ∀ t, (t = 0 ∨ t = 1) → FRn (2 + j0) (2 + j1) (am_u h14 (da 12 1) 21 t) := fun t ht => by
    refine ⟨⟨_, ?_, ?_, (gu_k (by omega)).trans w2⟩, ⟨_, ?_, ?_, (gu_k (by omega)).trans w3⟩, ⟨_, ?_, ?_, (gu_k (by omega)).trans w4⟩, ⟨_, ?_, (gu_k (by omega)).trans w5⟩, ⟨_, ?_, (gu_k (by omega)).trans w6⟩, ⟨_, ?_, (gu_k (by omega)).trans w7⟩, ⟨_, ?_, ?_, (gu_k (by omega)).trans w8⟩, ⟨_, Nat.mod_lt _ (by omega), (gu_k (by omega)).trans w11⟩, ?_⟩
    all_goals first | omega | (rw [gu_]; exact ht)
  have fin : ∀ t, (t = 0 ∨ t = 1) → Gd (sl_L_floor_146 G 1 v t 1 h14 x3) P := fun t ht => K_f146 hG a1 (by rw [sl3]; exact hs) (by omega) ht w0 w1 w10 w20 hn t3 a4 t4 a5 a2 a3 Z14 (fun ro R kc h' x' H f => hP ro R _ _ kc h' x' H (by
    have f1 : FrN 1 0 hi x3 h14 x3 := FrN.oi oa (fun i q => by omega)
    exact (((fr1.trans a8).trans f1).trans f).mono (by omega)))
  exact gd_I (fun _ => fin 0 (Or.inl rfl)) (fun _ => fin 1 (Or.inr rfl))
end FLI
