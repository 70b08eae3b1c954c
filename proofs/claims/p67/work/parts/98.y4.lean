/-! the text as a String; its bytes are said to the object -/
def ST (n s : Nat) (L : List Nat) (hi : HI) (x : AX) : Prop := ∃ u, rdx x (da 0 s) 0 = dr 101 u ∧ hi (da 0 s) 1 = 0 ∧ lnx x u = L.length ∧ (∀ i, i < L.length → hi (da 101 u) i = nI (L.getD i 0)) ∧ n ≤ u ∧ n ≤ s
section TOS
variable {hi : HI} {x : AX} {n b G : Nat} {L : List Nat}
theorem K_cor {v : Nat} (hl : L.length ≤ lnx x v) (hl2 : lnx x v ≤ 802) (hv : v < ndx x) (hb : ∀ j, (hi (da 101 v) j).toInt8.toInt32 = hi (da 101 v) j) : ∃ h8, sl_J7_copyOfRange_39247 v 0 (nI L.length) hi x = some (ndx x, h8, xm x 101 L.length) ∧ (∀ a j, a ≠ da 101 (ndx x) → h8 a j = hi a j) ∧ ∀ j, j < L.length → h8 (da 101 (ndx x)) j = hi (da 101 v) j := by
  unfold sl_J7_copyOfRange_39247
  rw [if_neg (by decide)]
  by_cases c : L.length = lnx x v
  · rw [c, if_pos rfl]
    unfold clB
    rw [if_pos ⟨by omega, by_iff.mpr (fun k _ => hb k)⟩, cB2_]
    exact ⟨_, rfl, fun a j q => if_neg (fun q2 => q q2.1), fun j hj => if_pos ⟨rfl, hj⟩⟩
  · rw [if_neg (fun q => by
      have q := (nI_eq (by omega) (by omega)).mp q
      omega)]
    unfold sl_J7_copyOfRange_39247_10 sl_J7_copyOfRangeByte_39247 sl_J7_checkLength_df160
    have e0 : nI L.length - (0 : Int32) = nI L.length := Int32.sub_zero _
    have e1 : nI (lnx x v) - (0 : Int32) = nI (lnx x v) := Int32.sub_zero _
    have el : lnx (xm x 101 L.length) v = lnx x v := if_neg (fun e => by have e : v = ndx x := e; omega)
    have el2 : lnx (xm x 101 L.length) (ndx x) = L.length := if_pos rfl
    rw [if_pos (nI_pos' (by omega)), cB2_, e0, cMk_ (by omega), el, e1, if_pos ((nI_ltI (by omega) (by omega)).mpr (by omega))]
    unfold acB
    rw [nI_clamp (by omega), el, el2, if_pos ⟨by decide, by decide, nI_pos' (by omega), by show 0 + L.length ≤ lnx x v; omega, by show 0 + L.length ≤ L.length; omega, by_all hb⟩, cBd_, cB3_]
    refine ⟨_, rfl, fun a j q => if_neg (fun q2 => q q2.1), fun j hj => ?_⟩
    show (if da 101 (ndx x) = da 101 (ndx x) ∧ 0 ≤ j ∧ j < 0 + L.length then hi (da 101 v) (0 + (j - 0)) else _) = _
    rw [if_pos ⟨rfl, Nat.zero_le _, by omega⟩, Nat.zero_add, Nat.sub_zero]
theorem K_toS (hL : L.length ≤ 400) (Z : Z_ hi x) (S : SB n b L hi x) : ∃ s h1 x1, sl_J4_toString_0e30d b hi x = some (s, h1, x1) ∧ ST n s L h1 x1 ∧ Z_ h1 x1 ∧ FrN n 2 hi x h1 x1 := by
  obtain ⟨v, ⟨s1, s2, s3⟩, ⟨s4, s5⟩, s6, s7, ⟨s8, s9⟩, ⟨s10, s11⟩, s12⟩ := S
  unfold sl_J4_toString_0e30d sl_J0_init_81219 sl_J0_init_db425 sl_J5_getValue_6d5f1 sl_J4_length_8abf5 sl_J5_length_8abf5 sl_J5_isLatin1_aae02
  have r1 : rdx (xm x 0 (am_nfs 0)) (da 1 b) 0 = dr 101 v := s1
  rw [cAx_, r1, cD_, cB3_, cB3_, cB3_, s2, if_neg (by decide), cB3_, if_neg (by decide), cH_, s3]
  have hne : v ≠ ndx x := by omega
  have hu : ∀ j, am_u hi (da 0 (ndx x)) 1 (0 : Int32) (da 101 v) j = hi (da 101 v) j := fun j => gu_a (da_nK (by omega))
  have el : lnx (xm x 0 (am_nfs 0)) v = lnx x v := if_neg (fun e => by have e : v = ndx x := e; omega)
  obtain ⟨h8, e8, q1, q2⟩ := K_cor (hi := am_u hi (da 0 (ndx x)) 1 (0 : Int32)) (x := xm x 0 (am_nfs 0)) (v := v) (L := L) (by rw [el]; exact s4) (by rw [el]; exact s5) (by show v < ndx x + 1; omega) (fun j => by rw [hu]; exact s7 j)
  rw [e8, cB3_, cAx_, cB2_, cB2_]
  have en : ndx (xm x 0 (am_nfs 0)) = ndx x + 1 := rfl
  have hlo : ∀ a j, (∀ K i, a = da K i → i < ndx x) → h8 a j = hi a j := fun a j q => (q1 a j (fun e => by have := q _ _ e; omega)).trans (gu_a (fun e => by have := q _ _ e; omega))
  refine ⟨_, _, _, rfl, ⟨ndx x + 1, show am_u (rdx x) (da 0 (ndx x)) 0 (dr 101 (ndx x + 1)) (da 0 (ndx x)) 0 = dr 101 (ndx x + 1) from gu_, ?_, ?_, fun i hi2 => ?_, by omega, by omega⟩, ?_, ?_⟩
  · exact (q1 _ _ (da_nK (by omega))).trans gu_
  · show (if ndx x + 1 = ndx x + 1 then L.length else _) = L.length
    rw [if_pos rfl]
  · exact (q2 i hi2).trans ((hu i).trans (s6 i hi2))
  · have hZ : Z_ h8 (xm (xm x 0 (am_nfs 0)) 101 L.length) := fun m hm => by
      have hm : ndx x + 1 + 1 ≤ m := hm
      exact ⟨fun K j => ⟨(q1 _ _ (da_ni (by omega))).trans ((gu_a (da_ni (by omega))).trans ((Z m (by omega)).1 K j).1), ((Z m (by omega)).1 K j).2⟩, (Z m (by omega)).2⟩
    exact hZ.r (by show ndx x < ndx x + 1 + 1; omega)
  · have f1 : FrN n 1 hi x hi (xm x 0 (am_nfs 0)) := FrN.m (by omega) (by decide)
    have f2 : FrN n 0 hi (xm x 0 (am_nfs 0)) (am_u hi (da 0 (ndx x)) 1 (0 : Int32)) (xm x 0 (am_nfs 0)) := FrN.u (by omega)
    have f3 : FrN n 1 (am_u hi (da 0 (ndx x)) 1 (0 : Int32)) (xm x 0 (am_nfs 0)) (am_u hi (da 0 (ndx x)) 1 (0 : Int32)) (xm (xm x 0 (am_nfs 0)) 101 L.length) := FrN.m (by omega) (by omega)
    have f4 : FrN n 0 (am_u hi (da 0 (ndx x)) 1 (0 : Int32)) (xm (xm x 0 (am_nfs 0)) 101 L.length) h8 (xm (xm x 0 (am_nfs 0)) 101 L.length) := ⟨fun a j q => q1 a j (lo_n q (by omega)), fun _ _ _ => rfl, fun _ _ => rfl, Nat.le_refl _, rfl, ⟨rfl, rfl, rfl, rfl⟩, Nat.le_refl _, Nat.le_refl _⟩
    exact (((f1.trans f2).trans f3).trans f4).trans (FrN.r (by omega))
theorem K_len {s : Nat} (hL : L.length ≤ 400) (S : ST n s L hi x) : sl_J0_length_8abf5 s hi x = some (nI L.length, hi, x) := by
  obtain ⟨u, s1, s2, s3, -⟩ := S
  unfold sl_J0_length_8abf5 sl_J0_coder_7d493
  rw [s1, cD_, s2, if_pos (by decide), cB3_, sr0, s3]
theorem K_chr {s i : Nat} (hL : L.length ≤ 400) (S : ST n s L hi x) (hi2 : i < L.length) (hc : L.getD i 0 < 256) : sl_J0_charAt_5068e s (nI i) hi x = some (nI (L.getD i 0), hi, x) := by
  obtain ⟨u, s1, s2, s3, s4, -⟩ := S
  obtain ⟨c1, c2⟩ := ch_conv _ hc
  unfold sl_J0_charAt_5068e sl_J0_isLatin1_aae02 sl_J1_charAt_3b067
  rw [s2, if_neg (by decide), cB3_, if_neg (by decide), s1, cD_, s3, if_pos ⟨nI_pos' (by omega), (nI_ltI (by omega) (by omega)).mpr hi2⟩, gi_ hi2 (by omega), nI_clamp (by omega), s4 i hi2, c1, c2, if_pos rfl, cB3_, if_pos c2]
end TOS
/-! bytes into words -/
theorem by_e (a : Int32) {l : Nat} (hl : l < 4) : by_ a l = a.toBitVec.toNat / 2 ^ (8 * l) % 256 := by
  unfold by_
  have hs : (((nI (8 * l)).toUInt32 &&& Int32.toUInt32 31).toBitVec % 32).toNat = 8 * l := by
    have : l = 0 ∨ l = 1 ∨ l = 2 ∨ l = 3 := by omega
    rcases this with rfl | rfl | rfl | rfl <;> rfl
  rw [pk_and _ 8 (by decide), pk_ushr a _ (8 * l) hs, nI_clamp (by have := Nat.mod_lt (a.toBitVec.toNat / 2 ^ (8 * l)) (show 0 < 2 ^ 8 by decide); omega)]
theorem by_push (a : Int32) {c : Nat} (hc : c < 256) : by_ ((a <<< ((8 : Int32) &&& 31)) ||| nI c) 0 = c ∧ ∀ l, l < 3 → by_ ((a <<< ((8 : Int32) &&& 31)) ||| nI c) (l + 1) = by_ a l := by
  have e : ((a <<< ((8 : Int32) &&& 31)) ||| nI c).toBitVec.toNat = 256 * (a.toBitVec.toNat % 2 ^ 24) + c := by
    have e1 : ((a <<< ((8 : Int32) &&& 31)) ||| nI c).toBitVec = (a <<< ((8 : Int32) &&& 31)).toBitVec ||| (nI c).toBitVec := rfl
    rw [e1, BitVec.toNat_or, pk_shl a _ 8 (by decide), pk_tn (by omega)]
    have e2 : a.toBitVec.toNat * 2 ^ 8 % 2 ^ 32 = 2 ^ 8 * (a.toBitVec.toNat % 2 ^ 24) := by omega
    rw [e2, ← Nat.two_pow_add_eq_or_of_lt (i := 8) hc]
  constructor
  · rw [by_e _ (by omega), e]
    omega
  · intro l hl
    rw [by_e _ (by omega), by_e _ (by omega), e]
    have : l = 0 ∨ l = 1 ∨ l = 2 := by omega
    rcases this with rfl | rfl | rfl
    · show (256 * (a.toBitVec.toNat % 2 ^ 24) + c) / 2 ^ 8 % 256 = a.toBitVec.toNat / 2 ^ 0 % 256
      omega
    · show (256 * (a.toBitVec.toNat % 2 ^ 24) + c) / 2 ^ 16 % 256 = a.toBitVec.toNat / 2 ^ 8 % 256
      omega
    · show (256 * (a.toBitVec.toNat % 2 ^ 24) + c) / 2 ^ 24 % 256 = a.toBitVec.toNat / 2 ^ 16 % 256
      omega
theorem wd_b (a : Int32) (A : As_) (k : Nat) : (wd_ a 4 A).b k = if k = A.nb + 3 then by_ a 0 else if k = A.nb + 2 then by_ a 1 else if k = A.nb + 1 then by_ a 2 else if k = A.nb then by_ a 3 else A.b k := rfl
theorem wd_lo (a : Int32) (A : As_) {k : Nat} (h : k < A.nb) : (wd_ a 4 A).b k = A.b k := by
  rw [wd_b, if_neg (by omega), if_neg (by omega), if_neg (by omega), if_neg (by omega)]
theorem wd_hi (a : Int32) (A : As_) {r : Nat} (h : r < 4) : (wd_ a 4 A).b (A.nb + r) = by_ a (3 - r) := by
  rw [wd_b]
  have : r = 0 ∨ r = 1 ∨ r = 2 ∨ r = 3 := by omega
  rcases this with rfl | rfl | rfl | rfl
  · rw [if_neg (by omega), if_neg (by omega), if_neg (by omega), if_pos (show A.nb + 0 = A.nb from rfl)]
  · rw [if_neg (by omega), if_neg (by omega), if_pos rfl]
  · rw [if_neg (by omega), if_pos rfl]
  · rw [if_pos rfl]
theorem ws_lo (A : As_) (a1 a2 a3 a4 a5 : Int32) {k : Nat} (h : k < A.nb) : (ws_a A a1 a2 a3 a4 a5).b k = A.b k := by
  unfold ws_a
  have n1 := wd_nb a1 4 A
  have n2 := wd_nb a2 4 (wd_ a1 4 A)
  have n3 := wd_nb a3 4 (wd_ a2 4 (wd_ a1 4 A))
  have n4 := wd_nb a4 4 (wd_ a3 4 (wd_ a2 4 (wd_ a1 4 A)))
  rw [wd_lo _ _ (by omega), wd_lo _ _ (by omega), wd_lo _ _ (by omega), wd_lo _ _ (by omega), wd_lo _ _ h]
theorem ws_hi (A : As_) (g : Nat → Int32) {p : Nat} (h : p < 20) : (ws_a A (g 0) (g 1) (g 2) (g 3) (g 4)).b (A.nb + p) = by_ (g (p / 4)) (3 - p % 4) := by
  unfold ws_a
  have n1 := wd_nb (g 0) 4 A
  have n2 := wd_nb (g 1) 4 (wd_ (g 0) 4 A)
  have n3 := wd_nb (g 2) 4 (wd_ (g 1) 4 (wd_ (g 0) 4 A))
  have n4 := wd_nb (g 3) 4 (wd_ (g 2) 4 (wd_ (g 1) 4 (wd_ (g 0) 4 A)))
  have hr : p % 4 < 4 := Nat.mod_lt _ (by omega)
  have : p / 4 = 0 ∨ p / 4 = 1 ∨ p / 4 = 2 ∨ p / 4 = 3 ∨ p / 4 = 4 := by omega
  rcases this with e | e | e | e | e
  · rw [e, wd_lo _ _ (by omega), wd_lo _ _ (by omega), wd_lo _ _ (by omega), wd_lo _ _ (by omega), show A.nb + p = A.nb + p % 4 by omega, wd_hi _ _ hr]
  · rw [e, wd_lo _ _ (by omega), wd_lo _ _ (by omega), wd_lo _ _ (by omega), show A.nb + p = (wd_ (g 0) 4 A).nb + p % 4 by omega, wd_hi _ _ hr]
  · rw [e, wd_lo _ _ (by omega), wd_lo _ _ (by omega), show A.nb + p = (wd_ (g 1) 4 (wd_ (g 0) 4 A)).nb + p % 4 by omega, wd_hi _ _ hr]
  · rw [e, wd_lo _ _ (by omega), show A.nb + p = (wd_ (g 2) 4 (wd_ (g 1) 4 (wd_ (g 0) 4 A))).nb + p % 4 by omega, wd_hi _ _ hr]
  · rw [e, show A.nb + p = (wd_ (g 3) 4 (wd_ (g 2) 4 (wd_ (g 1) 4 (wd_ (g 0) 4 A)))).nb + p % 4 by omega, wd_hi _ _ hr]
/-- i bytes c 0, c 1, .. are said; m: the row of words -/
def TS (K m : Nat) (c : Nat → Nat) (i : Nat) (A : As_) (hi : HI) (x : AX) : Prop := RC A hi x ∧ Ok_ K A ∧ A.nb + i % 20 = i ∧ (∀ k, k < A.nb → A.b k = c k) ∧ hi (da 100 m) 5 = nI (i % 20) ∧ lnx x m = 7 ∧ ∀ p, p < i % 20 → by_ (hi (da 100 m) (p / 4)) (if p / 4 < i % 20 / 4 then 3 - p % 4 else i % 20 % 4 - 1 - p % 4) = c (A.nb + p)
section PUT
variable {A : As_} {hi : HI} {x : AX} {K G m n : Nat} {c : Nat → Nat} {L : List Nat}
theorem fM_u {k i j : Nat} {v : Int32} : fM_ hi (am_u hi (da k i) j v) := fun a q h => gu_a (fun e => h ⟨_, _, e⟩)
theorem K_put {i t : Nat} (hG : 10 < G) (hi3 : i < 480) (ht : t < 1000) (hc : c i < 256) (H : TS K m c i A hi x) (h6 : hi (da 100 m) 6 = nI t) : ∃ A1 h1, sl_L_put G m (nI (c i)) hi x = some (h1, x) ∧ TS K m c (i + 1) A1 h1 x ∧ h1 (da 100 m) 6 = nI (t + 1) ∧ (∀ k q j, ¬ (k = 100 ∧ q = m) → h1 (da k q) j = hi (da k q) j) ∧ ∀ j, h1 (za 3004) j = hi (za 3004) j := by
  obtain ⟨H1, H2, H3, H4, H5, H6, H7⟩ := H
  have hm := Nat.mod_lt i (show 0 < 20 by omega)
  unfold sl_L_put
  rw [H6, gl_ (by omega), H5, show (4 : Int32) = nI 4 from rfl, pk_div (by omega) (by omega) (by omega), gi_ (by omega) (by omega), gi_ (by omega) (by omega), cH_, gl_ (by omega), gl_ (by omega), cH_, gl_ (by omega), gl_ (by omega), cH_, gl_ (by omega), nI_clamp (by omega)]
  generalize hw : (hi (da 100 m) (i % 20 / 4) <<< ((8 : Int32) &&& 31)) ||| nI (c i) = w
  have hpush := by_push (hi (da 100 m) (i % 20 / 4)) hc
  rw [hw] at hpush
  have e5 : am_u hi (da 100 m) (i % 20 / 4) w (da 100 m) 5 = nI (i % 20) := (gu_k (by omega)).trans H5
  rw [e5, nI_1]
  have e6 : am_u (am_u hi (da 100 m) (i % 20 / 4) w) (da 100 m) 5 (nI (i % 20 + 1)) (da 100 m) 6 = nI t := (gu_k (by omega)).trans ((gu_k (by omega)).trans h6)
  rw [e6, nI_1]
  generalize hh : am_u (am_u (am_u hi (da 100 m) (i % 20 / 4) w) (da 100 m) 5 (nI (i % 20 + 1))) (da 100 m) 6 (nI (t + 1)) = h3
  have g5 : h3 (da 100 m) 5 = nI (i % 20 + 1) := by rw [← hh, gu_k (by omega), gu_]
  have g6 : h3 (da 100 m) 6 = nI (t + 1) := by rw [← hh, gu_]
  have gw : ∀ j, j < 5 → h3 (da 100 m) j = if j = i % 20 / 4 then w else hi (da 100 m) j := fun j hj => by
    rw [← hh, gu_k (by omega), gu_k (by omega)]
    by_cases q : j = i % 20 / 4
    · rw [if_pos q, q, gu_]
    · rw [if_neg q, gu_k q]
  have go : ∀ k q j, ¬ (k = 100 ∧ q = m) → h3 (da k q) j = hi (da k q) j := fun k q j h => by
    rw [← hh, gu_a (fun e => h (da_i e)), gu_a (fun e => h (da_i e)), gu_a (fun e => h (da_i e))]
  have gz : ∀ j, h3 (za 3004) j = hi (za 3004) j := fun j => by
    rw [← hh, gu_a (fun e => by cases e), gu_a (fun e => by cases e), gu_a (fun e => by cases e)]
  have gM : fM_ hi h3 := by
    rw [← hh]
    exact (fM_u.trans fM_u).trans fM_u
  have H1' : RC A h3 x := H1.cg gM
  -- all bytes of the words so far
  have hby : ∀ p, p < i % 20 + 1 → by_ (h3 (da 100 m) (p / 4)) (if p / 4 < (i % 20 + 1) / 4 then 3 - p % 4 else (i % 20 + 1) % 4 - 1 - p % 4) = c (A.nb + p) := fun p hp => by
    rw [gw _ (by omega)]
    by_cases q : p = i % 20
    · subst q
      rw [if_pos rfl, show A.nb + i % 20 = i from H3]
      have e0 : (if i % 20 / 4 < (i % 20 + 1) / 4 then 3 - i % 20 % 4 else (i % 20 + 1) % 4 - 1 - i % 20 % 4) = 0 := by
        split <;> omega
      rw [e0]
      exact hpush.1
    · have hp2 : p < i % 20 := by omega
      have hc2 := H7 p hp2
      by_cases q2 : p / 4 = i % 20 / 4
      · rw [if_pos q2]
        rw [q2, if_neg (by omega)] at hc2
        have e1 : (if p / 4 < (i % 20 + 1) / 4 then 3 - p % 4 else (i % 20 + 1) % 4 - 1 - p % 4) = (i % 20 % 4 - 1 - p % 4) + 1 := by
          split <;> omega
        rw [e1, hpush.2 _ (by omega)]
        exact hc2
      · rw [if_neg q2]
        rw [if_pos (by omega)] at hc2
        rw [if_pos (by omega)]
        exact hc2
  by_cases q20 : i % 20 = 19
  · have hnb : A.nb + 20 ≤ 500 := by omega
    rw [g5, q20, if_neg (fun q => q rfl)]
    obtain ⟨h4, e4, r4, f4, o4, n4⟩ := Q_append (G := G) (a1 := h3 (da 100 m) 0) (a2 := h3 (da 100 m) 1) (a3 := h3 (da 100 m) 2) (a4 := h3 (da 100 m) 3) (a5 := h3 (da 100 m) 4) hG H2 H1' hnb
    unfold sl_L_flush
    have e4' : uI1 (sh_X9_append G (h3 (da 100 m) 0) (h3 (da 100 m) 1) (h3 (da 100 m) 2) (h3 (da 100 m) 3) (h3 (da 100 m) 4) h3) x = some (nI (A.nb + 20), h4, x) := by rw [e4]; rfl
    rw [H6, gl_ (by omega), gl_ (by omega), gl_ (by omega), gl_ (by omega), gl_ (by omega), e4', cB3_, H6, gl_ (by omega), cH_, cB2_]
    have f5 : ∀ k q j, h4 (da k q) j = h3 (da k q) j := fun k q j => f4 _ _ (Or.inl ⟨_, _, rfl⟩)
    have hi20 : (i + 1) % 20 = 0 := by omega
    refine ⟨_, _, rfl, ⟨r4.cg fM_u, o4, ?_, fun k hk => ?_, ?_, H6, fun p hp => ?_⟩, ?_, fun k q j h => ?_, fun j => ?_⟩
    · rw [n4]; omega
    · rw [n4] at hk
      by_cases ck : k < A.nb
      · rw [ws_lo _ _ _ _ _ _ ck]; exact H4 k ck
      · obtain ⟨p, rfl⟩ : ∃ p, k = A.nb + p := ⟨k - A.nb, by omega⟩
        have hp : p < 20 := by omega
        rw [ws_hi A (h3 (da 100 m)) hp]
        have := hby p (by omega)
        rw [q20, if_pos (by omega)] at this
        exact this
    · rw [gu_, hi20]; rfl
    · omega
    · rw [gu_k (by omega), f5]; exact g6
    · rw [gu_a (fun e => h (da_i e)), f5]; exact go k q j h
    · rw [gu_a (fun e => by cases e), f4 _ _ (Or.inr rfl)]; exact gz j
  · have hi1 : (i + 1) % 20 = i % 20 + 1 := by omega
    rw [g5, if_pos (fun q => by
      have q := (nI_eq (b := 20) (by omega) (by omega)).mp q
      omega)]
    exact ⟨A, h3, rfl, ⟨H1', H2, by omega, H4, by rw [hi1]; exact g5, H6, by rw [hi1]; exact hby⟩, g6, go, gz⟩
theorem K_said_l (hG : 10 < G) {r : Int32} : ∀ F i t (A : As_) (hi : HI), (20 - i % 20) % 20 < F → i ≤ 440 → t ≤ i → (∀ k, i ≤ k → c k = 32) → TS K m c i A hi x → hi (da 100 m) 6 = nI t → ∃ i1 A1 h1, sl_L_said_5 G m F r hi x = some (r, h1, x) ∧ i ≤ i1 ∧ TS K m c i1 A1 h1 x ∧ i1 % 20 = 0 ∧ (∀ k q j, ¬ (k = 100 ∧ q = m) → h1 (da k q) j = hi (da k q) j) ∧ ∀ j, h1 (za 3004) j = hi (za 3004) j := fun F => by
  induction F with
  | zero => intro i t A hi h; omega
  | succ F ih =>
    intro i t A hi hF hi4 hti hc H h6
    have hm := Nat.mod_lt i (show 0 < 20 by omega)
    show ∃ i1 A1 h1, sl_L_said_5_b G m (sl_L_said_5 G m F) r hi x = _ ∧ _
    unfold sl_L_said_5_b
    obtain ⟨H1, H2, H3, H4, H5, H6, H7⟩ := id H
    rw [H6, gl_ (by omega), H5]
    by_cases q : i % 20 = 0
    · rw [q, if_pos (by decide), gl_ (by omega), cH_]
      refine ⟨i, A, _, rfl, Nat.le_refl _, ⟨H1.cg fM_u, H2, H3, H4, (gu_k (by omega)).trans H5, H6, fun p hp => by omega⟩, q, fun k q2 j h => gu_a (fun e => h (da_i e)), fun j => gu_a (fun e => by cases e)⟩
    · rw [if_neg (nI_nle (by omega) (by omega))]
      obtain ⟨A1, h1, e1, T1, g6, go, gz⟩ := K_put (t := t) hG (by omega) (by omega) (by rw [hc i (Nat.le_refl _)]; omega) H h6
      rw [hc i (Nat.le_refl _)] at e1
      have e1' : sl_L_put G m (32 : Int32) hi x = some (h1, x) := e1
      rw [e1', cB2_]
      obtain ⟨i1, A2, h2, e2, l2, T2, z2, go2, gz2⟩ := ih (i + 1) (t + 1) A1 h1 (by omega) (by omega) (by omega) (fun k hk => hc k (by omega)) T1 g6
      exact ⟨i1, A2, h2, e2, by omega, T2, z2, fun k q2 j h => (go2 k q2 j h).trans (go k q2 j h), fun j => (gz2 j).trans (gz j)⟩
theorem K_said {i t : Nat} (hG : 21 < G) (hi4 : i ≤ 440) (hti : t ≤ i) (hc : ∀ k, i ≤ k → c k = 32) (H : TS K m c i A hi x) (h6 : hi (da 100 m) 6 = nI t) : ∃ i1 A1 h1, sl_L_said G m hi x = some (nI t, h1, x) ∧ i ≤ i1 ∧ TS K m c i1 A1 h1 x ∧ i1 % 20 = 0 ∧ (∀ k q j, ¬ (k = 100 ∧ q = m) → h1 (da k q) j = hi (da k q) j) ∧ ∀ j, h1 (za 3004) j = hi (za 3004) j := by
  have hl : lnx x m = 7 := H.2.2.2.2.2.1
  unfold sl_L_said
  rw [hl, gl_ (by omega), h6]
  exact K_said_l (by omega) G i t A hi (by omega) hi4 hti hc H h6
theorem ST.cg {s : Nat} {h1 : HI} (S : ST n s L hi x) (hm : m < n) (h : ∀ k q j, ¬ (k = 100 ∧ q = m) → h1 (da k q) j = hi (da k q) j) : ST n s L h1 x := by
  obtain ⟨u, s1, s2, s3, s4, s5, s6⟩ := S
  exact ⟨u, s1, (h _ _ _ (by omega)).trans s2, s3, fun i hi2 => (h _ _ _ (by omega)).trans (s4 i hi2), s5, s6⟩
/-- what is said: the text's bytes, and blanks -/
def sayc (L : List Nat) : Nat → Nat := fun k => if k < L.length then L.getD k 0 else 32
theorem K_told_l {s : Nat} (hG : 21 < G) (hm : m < n) (hL : L.length ≤ 400) (hB : ∀ k, k < L.length → L.getD k 0 < 256) : ∀ r F i (A : As_) (hi : HI), i + r = L.length → r < F → ST n s L hi x → TS K m (sayc L) i A hi x → hi (da 100 m) 6 = nI i → ∃ i1 A1 h1, sl_L_told_2 G m s F (nI i) hi x = some (nI L.length, h1, x) ∧ L.length ≤ i1 ∧ TS K m (sayc L) i1 A1 h1 x ∧ i1 % 20 = 0 ∧ (∀ k q j, ¬ (k = 100 ∧ q = m) → h1 (da k q) j = hi (da k q) j) ∧ ∀ j, h1 (za 3004) j = hi (za 3004) j := fun r => by
  induction r with
  | zero =>
    intro F i A hi hr hF S H h6
    obtain ⟨F, rfl⟩ : ∃ F2, F = F2 + 1 := ⟨F - 1, by omega⟩
    show ∃ i1 A1 h1, sl_L_told_2_b G m s (sl_L_told_2 G m s F) (nI i) hi x = _ ∧ _
    unfold sl_L_told_2_b
    obtain rfl : i = L.length := by omega
    obtain ⟨i1, A1, h1, e1, q⟩ := K_said hG (by omega) (Nat.le_refl _) (fun k hk => if_neg (by omega)) H h6
    rw [K_len hL S, cB3_, if_pos (nI_le (Nat.le_refl _) (by omega)), e1, cB3_]
    exact ⟨i1, A1, h1, rfl, q⟩
  | succ r ih =>
    intro F i A hi hr hF S H h6
    obtain ⟨F, rfl⟩ : ∃ F2, F = F2 + 1 := ⟨F - 1, by omega⟩
    show ∃ i1 A1 h1, sl_L_told_2_b G m s (sl_L_told_2 G m s F) (nI i) hi x = _ ∧ _
    unfold sl_L_told_2_b
    have hi2 : i < L.length := by omega
    have ec : sayc L i = L.getD i 0 := if_pos hi2
    obtain ⟨A1, h1, e1, T1, g6, go, gz⟩ := K_put (t := i) (G := G) (by omega) (by omega) (by omega) (by rw [ec]; exact hB i hi2) H h6
    rw [ec] at e1
    rw [K_len hL S, cB3_, if_neg (nI_ge hi2 (by omega)), K_chr hL S hi2 (hB i hi2), cB3_, e1, cB2_, nI_1]
    obtain ⟨i1, A2, h2, e2, l2, T2, z2, go2, gz2⟩ := ih F (i + 1) A1 h1 (by omega) (by omega) (S.cg hm go) T1 g6
    exact ⟨i1, A2, h2, e2, l2, T2, z2, fun k q j h => (go2 k q j h).trans (go k q j h), fun j => (gz2 j).trans (gz j)⟩
/-- the text is told -/
theorem K_told {s : Nat} (hG : 500 < G) (hm : m < n) (hL : L.length ≤ 400) (hB : ∀ k, k < L.length → L.getD k 0 < 256) (S : ST n s L hi x) (H : RC A hi x) (hO : Ok_ K A) (h0 : A.nb = 0) (h5 : hi (da 100 m) 5 = 0) (h6 : hi (da 100 m) 6 = 0) (hl : lnx x m = 7) : ∃ A1 h1, sl_L_told G m s hi x = some (nI L.length, h1, x) ∧ RC A1 h1 x ∧ Ok_ K A1 ∧ L.length ≤ A1.nb ∧ (∀ k, k < L.length → A1.b k = L.getD k 0) ∧ (∀ k q j, ¬ (k = 100 ∧ q = m) → h1 (da k q) j = hi (da k q) j) ∧ ∀ j, h1 (za 3004) j = hi (za 3004) j := by
  obtain ⟨i1, A1, h1, e1, l1, ⟨t1, t2, t3, t4, -⟩, z1, go, gz⟩ := K_told_l (K := K) (G := G) (by omega) hm hL hB L.length G 0 A hi (by omega) (by omega) S ⟨H, hO, h0, fun k hk => by omega, h5, hl, fun p hp => absurd hp (by omega)⟩ h6
  have hn : A1.nb = i1 := by omega
  refine ⟨A1, h1, e1, t1, t2, by omega, fun k hk => ?_, go, gz⟩
  rw [t4 k (by omega)]
  exact if_pos hk
end PUT
