/-! the law's StringBuilder: a list of bytes -/
theorem gu_ {α : Type} {f : AA → Nat → α} {a : AA} {k : Nat} {v : α} : am_u f a k v a k = v := by
  unfold am_u
  rw [if_pos rfl, if_pos rfl]
theorem gu_o {α : Type} {f : AA → Nat → α} {a b : AA} {k j : Nat} {v : α} (h : ¬ (b = a ∧ j = k)) : am_u f a k v b j = f b j := by
  unfold am_u
  by_cases c : j = k
  · rw [if_pos c, if_neg (fun q => h ⟨q, c⟩)]
  · rw [if_neg c]
theorem gu_a {α : Type} {f : AA → Nat → α} {a b : AA} {k j : Nat} {v : α} (h : b ≠ a) : am_u f a k v b j = f b j := gu_o (fun q => h q.1)
theorem gu_k {α : Type} {f : AA → Nat → α} {a b : AA} {k j : Nat} {v : α} (h : j ≠ k) : am_u f a k v b j = f b j := gu_o (fun q => h q.2)
theorem da_i {K K1 i i1 : Nat} (h : da K i = da K1 i1) : K = K1 ∧ i = i1 := by
  injection h with h
  injection h with h
  injection h with h
  injection h with h1 h2
  exact ⟨h1, h2⟩
theorem da_nK {K K1 i i1 : Nat} (h : K ≠ K1) : da K i ≠ da K1 i1 := fun q => h (da_i q).1
theorem da_ni {K K1 i i1 : Nat} (h : i ≠ i1) : da K i ≠ da K1 i1 := fun q => h (da_i q).2
/-- below n: a cell with such a number, or none of the law's -/
def lo_ (n : Nat) (a : AA) : Prop := ∀ K i, a = da K i → i < n
theorem lo_d {n K i : Nat} (h : i < n) : lo_ n (da K i) := fun K1 i1 q => by
  have := (da_i q).2
  omega
theorem lo_n {n K i : Nat} {a : AA} (h : lo_ n a) (hi : n ≤ i) : a ≠ da K i := fun q => by
  have := h K i q
  omega
theorem lo_m {n m : Nat} {a : AA} (h : lo_ n a) (hm : n ≤ m) : lo_ m a := fun K i q => Nat.lt_of_lt_of_le (h K i q) hm
/-- a piece that leaves what lies below n; k: how many cells it makes at most -/
def FrN (n k : Nat) (hi : HI) (x : AX) (h1 : HI) (x1 : AX) : Prop := (∀ a j, lo_ n a → h1 a j = hi a j) ∧ (∀ a j, lo_ n a → rdx x1 a j = rdx x a j) ∧ (∀ i, i < n → lnx x1 i = lnx x i) ∧ ndx x ≤ ndx x1 ∧ lgx x1 = lgx x ∧ (x1.1 = x.1 ∧ x1.2.1 = x.2.1 ∧ x1.2.2.2.1 = x.2.2.2.1 ∧ slx x1 = slx x) ∧ x1.2.2.2.2.1 ≤ x.2.2.2.2.1 + k ∧ x1.2.2.2.2.2.1 ≤ x.2.2.2.2.2.1 + 1000 * k
theorem FrN.refl {n : Nat} {hi : HI} {x : AX} : FrN n 0 hi x hi x := ⟨fun _ _ _ => rfl, fun _ _ _ => rfl, fun _ _ => rfl, Nat.le_refl _, rfl, ⟨rfl, rfl, rfl, rfl⟩, Nat.le_refl _, Nat.le_refl _⟩
theorem FrN.trans {n k k2 : Nat} {hi h1 h2 : HI} {x x1 x2 : AX} (a : FrN n k hi x h1 x1) (b : FrN n k2 h1 x1 h2 x2) : FrN n (k + k2) hi x h2 x2 := by
  obtain ⟨a1, a2, a3, a4, a5, ⟨a6, a7, a8, a9⟩, a10, a11⟩ := a
  obtain ⟨b1, b2, b3, b4, b5, ⟨b6, b7, b8, b9⟩, b10, b11⟩ := b
  exact ⟨fun c j h => (b1 c j h).trans (a1 c j h), fun c j h => (b2 c j h).trans (a2 c j h), fun i h => (b3 i h).trans (a3 i h), Nat.le_trans a4 b4, b5.trans a5, ⟨b6.trans a6, b7.trans a7, b8.trans a8, b9.trans a9⟩, by omega, by omega⟩
theorem FrN.mono {n k k2 : Nat} {hi h1 : HI} {x x1 : AX} (a : FrN n k hi x h1 x1) (h : k ≤ k2) : FrN n k2 hi x h1 x1 := ⟨a.1, a.2.1, a.2.2.1, a.2.2.2.1, a.2.2.2.2.1, a.2.2.2.2.2.1, by have := a.2.2.2.2.2.2.1; omega, by have := a.2.2.2.2.2.2.2; omega⟩
theorem FrN.low {n m k : Nat} {hi h1 : HI} {x x1 : AX} (a : FrN m k hi x h1 x1) (h : n ≤ m) : FrN n k hi x h1 x1 := ⟨fun c j q => a.1 c j (lo_m q h), fun c j q => a.2.1 c j (lo_m q h), fun i q => a.2.2.1 i (by omega), a.2.2.2⟩
theorem FrN.u {n K i j : Nat} {hi : HI} {x : AX} {v : Int32} (h : n ≤ i) : FrN n 0 hi x (am_u hi (da K i) j v) x := ⟨fun a k q => gu_a (lo_n q h), fun _ _ _ => rfl, fun _ _ => rfl, Nat.le_refl _, rfl, ⟨rfl, rfl, rfl, rfl⟩, Nat.le_refl _, Nat.le_refl _⟩
theorem FrN.r {n K i j : Nat} {hi : HI} {x : AX} {v : AV} (h : n ≤ i) : FrN n 0 hi x hi (xr x (da K i) j v) := ⟨fun _ _ _ => rfl, fun a k q => gu_a (lo_n q h), fun _ _ => rfl, Nat.le_refl _, rfl, ⟨rfl, rfl, rfl, rfl⟩, Nat.le_refl _, Nat.le_refl _⟩
theorem FrN.m {n tg z : Nat} {hi : HI} {x : AX} (h : n ≤ ndx x) (hz : z ≤ 1000) : FrN n 1 hi x hi (xm x tg z) := ⟨fun _ _ _ => rfl, fun _ _ _ => rfl, fun i q => if_neg (fun e => by have e : i = ndx x := e; omega), Nat.le_succ _, rfl, ⟨rfl, rfl, rfl, rfl⟩, Nat.le_refl _, by show x.2.2.2.2.2.1 + z ≤ _; omega⟩
theorem FrN.c {n K i sp dp m : Nat} {hi : HI} {x : AX} {g : Nat → Int32} (h : n ≤ i) : FrN n 0 hi x (am_cps g hi (da K i) sp dp m) x := ⟨fun a k q => if_neg (fun q2 => lo_n q h q2.1), fun _ _ _ => rfl, fun _ _ => rfl, Nat.le_refl _, rfl, ⟨rfl, rfl, rfl, rfl⟩, Nat.le_refl _, Nat.le_refl _⟩
/-- what isn't made yet is empty -/
def Z_ (hi : HI) (x : AX) : Prop := ∀ i, ndx x ≤ i → (∀ K j, hi (da K i) j = 0 ∧ rdx x (da K i) j = Sum.inl .null) ∧ ∀ j, lgx x i j = 0
theorem Z_.u {K i j : Nat} {hi : HI} {x : AX} {v : Int32} (Z : Z_ hi x) (h : i < ndx x) : Z_ (am_u hi (da K i) j v) x := fun m hm => ⟨fun K2 j2 => ⟨(gu_a (da_ni (by omega))).trans ((Z m hm).1 K2 j2).1, ((Z m hm).1 K2 j2).2⟩, (Z m hm).2⟩
theorem Z_.r {K i j : Nat} {hi : HI} {x : AX} {v : AV} (Z : Z_ hi x) (h : i < ndx x) : Z_ hi (xr x (da K i) j v) := fun m hm => ⟨fun K2 j2 => ⟨((Z m hm).1 K2 j2).1, (gu_a (da_ni (by have : ndx x ≤ m := hm; omega))).trans ((Z m hm).1 K2 j2).2⟩, (Z m hm).2⟩
theorem Z_.m {tg z : Nat} {hi : HI} {x : AX} (Z : Z_ hi x) : Z_ hi (xm x tg z) := fun m hm => Z m (Nat.le_of_succ_le hm)
theorem lnm {x : AX} {tg z i : Nat} : lnx (xm x tg z) i = if i = ndx x then z else lnx x i := rfl
/-- the builder b: its bytes L; it and its row are not below n -/
def SB (n b : Nat) (L : List Nat) (hi : HI) (x : AX) : Prop := ∃ v, (rdx x (da 1 b) 0 = dr 101 v ∧ hi (da 1 b) 1 = 0 ∧ hi (da 1 b) 3 = nI L.length) ∧ (L.length ≤ lnx x v ∧ lnx x v ≤ 802) ∧ (∀ i, i < L.length → hi (da 101 v) i = nI (L.getD i 0)) ∧ (∀ j, (hi (da 101 v) j).toInt8.toInt32 = hi (da 101 v) j) ∧ (n ≤ v ∧ v < ndx x) ∧ (n ≤ b ∧ b < ndx x) ∧ b ≠ v
section SBS
variable {hi : HI} {x : AX} {n b G : Nat} {L : List Nat}
theorem sh0 (a : Int32) : a <<< ((0 : Int32) &&& 31) = a := by
  rw [show ((0 : Int32) &&& 31) = 0 by decide]; exact Int32.shiftLeft_zero
theorem sr0 (a : Int32) : a >>> ((0 : Int32) &&& 31) = a := by
  rw [show ((0 : Int32) &&& 31) = 0 by decide]; exact Int32.shiftRight_zero
theorem by_all {f : Nat → Int32} {s m : Nat} (h : ∀ j, (f j).toInt8.toInt32 = f j) : am_by (fun j => f (s + j)) m = true := by_iff.mpr (fun k _ => h _)
/-- room for M bytes -/
theorem K_ens {M : Nat} (hM : M ≤ 400) (Z : Z_ hi x) (S : SB n b L hi x) : ∃ h1 x1, sl_J5_ensureCapacityInternal_d00df b (nI M) hi x = some (h1, x1) ∧ SB n b L h1 x1 ∧ Z_ h1 x1 ∧ FrN n 1 hi x h1 x1 ∧ (∀ v, rdx x1 (da 1 b) 0 = dr 101 v → M ≤ lnx x1 v) ∧ (∀ j, h1 (da 1 b) j = hi (da 1 b) j) := by
  obtain ⟨v, ⟨s1, s2, s3⟩, ⟨s4, s5⟩, s6, s7, ⟨s8, s9⟩, ⟨s10, s11⟩, s12⟩ := id S
  unfold sl_J5_ensureCapacityInternal_d00df
  rw [s1, cD_, s2, sr0]
  by_cases c : M ≤ lnx x v
  · have c2 : nI M - nI (lnx x v) ≤ 0 := by
      by_cases c3 : M = lnx x v
      · rw [c3, pk_sub (Nat.le_refl _), Nat.sub_self]; decide
      · exact Int32.le_of_lt (pk_sneg (by omega) (by omega))
    rw [if_pos c2]
    refine ⟨hi, x, rfl, S, Z, FrN.refl.mono (by omega), fun u hu => ?_, fun _ => rfl⟩
    rw [s1] at hu
    injection hu with hu
    rw [← (da_i hu).2]
    exact c
  · have hc : lnx x v < M := by omega
    rw [pk_sub (by omega), if_neg (nI_nle (by omega) (by omega)), cD_]
    have hN : sl_J5_newCapacity_0f7a4 b (nI M) hi x = some (nI (lnx x v + (if lnx x v + 2 ≤ M - lnx x v then M - lnx x v else lnx x v + 2)), hi, x) := by
      unfold sl_J5_newCapacity_0f7a4 sl_J8_newLength_cabcc
      rw [s1, cD_, s2, sh0, sh0, pk_sub (by omega), show (2 : Int32) = nI 2 from rfl, nI_add]
      have em : (if nI (M - lnx x v) < nI (lnx x v + 2) then nI (lnx x v + 2) else nI (M - lnx x v)) = nI (if lnx x v + 2 ≤ M - lnx x v then M - lnx x v else lnx x v + 2) := by
        by_cases q : lnx x v + 2 ≤ M - lnx x v
        · rw [if_neg (nI_nlt q (by omega)), if_pos q]
        · rw [if_pos ((nI_ltI (by omega) (by omega)).mpr (by omega)), if_neg q]
      rw [em, nI_add]
      have hlt : lnx x v + (if lnx x v + 2 ≤ M - lnx x v then M - lnx x v else lnx x v + 2) ≤ 2000 := by split <;> omega
      have hgt : 0 < lnx x v + (if lnx x v + 2 ≤ M - lnx x v then M - lnx x v else lnx x v + 2) := by split <;> omega
      rw [if_neg (nI_nle hgt (by omega)), if_neg (show ¬ (2147483639 : Int32) < nI (lnx x v + (if lnx x v + 2 ≤ M - lnx x v then M - lnx x v else lnx x v + 2)) from nI_nlt (a := 2147483639) (by omega) (by decide)), cB3_, if_pos (fun q => by
        have q := (nI_eq (b := 2147483647) (by omega) (by omega)).mp q
        omega), s2, sr0]
    have hz : ∃ z, z = lnx x v + (if lnx x v + 2 ≤ M - lnx x v then M - lnx x v else lnx x v + 2) ∧ M ≤ z ∧ z ≤ 802 ∧ lnx x v < z := ⟨_, rfl, by split <;> omega, by split <;> omega, by split <;> omega⟩
    obtain ⟨z, ez, z1, z2, z3⟩ := hz
    rw [hN, ← ez, cB3_, s2, sh0]
    have hcp : sl_J7_copyOf_9075b v (nI z) hi x = some (ndx x, am_cps (hi (da 101 v)) hi (da 101 (ndx x)) 0 0 (lnx x v), xm x 101 z) := by
      unfold sl_J7_copyOf_9075b
      rw [if_pos (fun q => by
        have q := (nI_eq (by omega) (by omega)).mp q
        omega), cMk_ (by omega)]
      have el : lnx (xm x 101 z) v = lnx x v := if_neg (fun e => by have e : v = ndx x := e; omega)
      have el2 : lnx (xm x 101 z) (ndx x) = z := if_pos rfl
      unfold acB
      rw [el, el2, if_neg (nI_nlt (by omega) (by omega)), nI_clamp (by omega), if_pos ⟨by decide, by decide, nI_pos' (by omega), by show 0 + lnx x v ≤ lnx x v; omega, by show 0 + lnx x v ≤ z; omega, by_all s7⟩, cBd_]
      rfl
    have hv : ∀ K i j, i ≠ ndx x → am_cps (hi (da 101 v)) hi (da 101 (ndx x)) 0 0 (lnx x v) (da K i) j = hi (da K i) j := fun K i j q => if_neg (fun q2 => q (da_i q2.1).2)
    have hn : ∀ j, am_cps (hi (da 101 v)) hi (da 101 (ndx x)) 0 0 (lnx x v) (da 101 (ndx x)) j = if j < lnx x v then hi (da 101 v) j else 0 := fun j => by
      unfold am_cps
      by_cases q : j < lnx x v
      · rw [if_pos ⟨rfl, Nat.zero_le _, by omega⟩, if_pos q, Nat.zero_add, Nat.sub_zero]
      · rw [if_neg (fun q2 => q (by omega)), if_neg q]
        exact ((Z (ndx x) (Nat.le_refl _)).1 101 j).1
    rw [hcp, cB3_, cAx_]
    refine ⟨_, _, rfl, ?_, ?_, ?_, ?_, ?_⟩
    · refine ⟨ndx x, ⟨show am_u (rdx x) (da 1 b) 0 (dr 101 (ndx x)) (da 1 b) 0 = dr 101 (ndx x) from gu_, (hv 1 b 1 (by omega)).trans s2, (hv 1 b 3 (by omega)).trans s3⟩, ⟨?_, ?_⟩, fun i hi2 => ?_, fun j => ?_, ⟨by omega, by show ndx x < ndx x + 1; omega⟩, ⟨s10, by show b < ndx x + 1; omega⟩, by omega⟩
      · show L.length ≤ lnx (xm x 101 z) (ndx x)
        rw [lnm, if_pos rfl]; omega
      · show lnx (xm x 101 z) (ndx x) ≤ 802
        rw [lnm, if_pos rfl]; omega
      · rw [hn, if_pos (by omega)]; exact s6 i hi2
      · rw [hn]
        by_cases q : j < lnx x v
        · rw [if_pos q]; exact s7 j
        · rw [if_neg q]; decide
    · have hZ : Z_ (am_cps (hi (da 101 v)) hi (da 101 (ndx x)) 0 0 (lnx x v)) (xm x 101 z) := fun m hm => by
        have hm : ndx x + 1 ≤ m := hm
        exact ⟨fun K j => ⟨(hv K m j (by omega)).trans ((Z m (by omega)).1 K j).1, ((Z m (by omega)).1 K j).2⟩, (Z m (by omega)).2⟩
      exact hZ.r (by show b < ndx x + 1; omega)
    · have f1 : FrN n 1 hi x hi (xm x 101 z) := FrN.m (by omega) (by omega)
      exact (f1.trans (FrN.c (by omega))).trans (FrN.r s10)
    · intro u hu
      have hu : am_u (rdx x) (da 1 b) 0 (dr 101 (ndx x)) (da 1 b) 0 = dr 101 u := hu
      rw [gu_] at hu
      injection hu with hu
      rw [← (da_i hu).2]
      show M ≤ lnx (xm x 101 z) (ndx x)
      rw [lnm, if_pos rfl]
      exact z1
    · intro j
      exact hv 1 b j (by omega)
/-- a constant text -/
theorem K_apS {w : Nat} (hw : w < 60) (hL : L.length + am_strlen w ≤ 400) (Z : Z_ hi x) (S : SB n b L hi x) : ∃ h1 x1, sl_J4_append_15ec4 b w hi x = some (b, h1, x1) ∧ SB n b (L ++ am_str.getD w []) h1 x1 ∧ Z_ h1 x1 ∧ FrN n 1 hi x h1 x1 := by
  unfold sl_J4_append_15ec4 sl_J5_append_cf1ce sl_J5_putStringAt_47b60 sl_J5_inflateIfNeededFor_a7421
  have e1 : uI0 (some (sh_slen w)) hi x = some (nI (am_strlen w), hi, x) := rfl
  have s3 : hi (da 1 b) 3 = nI L.length := by obtain ⟨v, ⟨-, -, s3⟩, -⟩ := S; exact s3
  rw [e1, cB3_, s3, nI_add]
  obtain ⟨h1, x1, e2, S1, Z1, F1, room, -⟩ := K_ens hL Z S
  obtain ⟨v, ⟨s1, s2, s3⟩, ⟨s4, s5⟩, s6, s7, ⟨s8, s9⟩, ⟨s10, s11⟩, s12⟩ := S1
  have rm := room v s1
  have e3 : uI0 (some 0) h1 x1 = some ((0 : Int32), h1, x1) := rfl
  rw [e2, cB2_, e3, cB3_, if_pos s2, cB2_, s1, cD_, s2, s3]
  have e4 : sl_gB w v (nI L.length) 0 h1 x1 = some (am_cps (fun j => nI ((am_str.getD w []).getD j 0)) h1 (da 101 v) 0 L.length (am_strlen w), x1) := by
    unfold sl_gB
    rw [nI_clamp (by omega), if_pos ⟨rfl, nI_pos' (by omega), by omega⟩]
  rw [e4, cB2_, cB2_, cH_, cB3_]
  have hv : ∀ K i j, i ≠ v → am_cps (fun j => nI ((am_str.getD w []).getD j 0)) h1 (da 101 v) 0 L.length (am_strlen w) (da K i) j = h1 (da K i) j := fun K i j q => if_neg (fun q2 => q (da_i q2.1).2)
  have hb := by_iff.mp (ch_by w hw)
  have ew : (am_str.getD w []).length = am_strlen w := rfl
  refine ⟨_, _, rfl, ⟨v, ⟨s1, ?_, ?_⟩, ⟨?_, s5⟩, fun i hi2 => ?_, fun j => ?_, ⟨s8, s9⟩, ⟨s10, s11⟩, s12⟩, ?_, ?_⟩
  · rw [gu_k (by omega), hv 1 b 1 s12]; exact s2
  · rw [gu_, hv 1 b 3 s12, s3, nI_add, List.length_append, ew]
  · rw [List.length_append, ew]; omega
  · rw [gu_a (da_nK (by omega))]
    rw [List.length_append, ew] at hi2
    unfold am_cps
    by_cases q : i < L.length
    · rw [if_neg (fun q2 => by omega), s6 i q, List.getD_eq_getElem?_getD, List.getD_eq_getElem?_getD, List.getElem?_append_left q]
    · rw [if_pos ⟨rfl, by omega, by omega⟩, List.getD_eq_getElem?_getD (l := L ++ _), List.getElem?_append_right (by omega), ← List.getD_eq_getElem?_getD, Nat.zero_add]
  · rw [gu_a (da_nK (by omega))]
    unfold am_cps
    by_cases q : da 101 v = da 101 v ∧ L.length ≤ j ∧ j < L.length + am_strlen w
    · rw [if_pos q, Nat.zero_add]; exact hb _ (by omega)
    · rw [if_neg q]; exact s7 j
  · have hZ : Z_ (am_cps (fun j => nI ((am_str.getD w []).getD j 0)) h1 (da 101 v) 0 L.length (am_strlen w)) x1 := fun m hm => ⟨fun K j => ⟨(hv K m j (by omega)).trans ((Z1 m hm).1 K j).1, ((Z1 m hm).1 K j).2⟩, (Z1 m hm).2⟩
    exact hZ.u s11
  · exact (F1.trans (FrN.c s8)).trans (FrN.u s10)
theorem nb_ : ∀ c, c < 128 → vp_nar .byte (nI c) = nI c ∧ (nI c).toInt8.toInt32 = nI c ∧ ¬ (255 : Int32) < nI c := by decide +kernel
/-- a character -/
theorem K_apC {c : Nat} (hc : c < 128) (hL : L.length + 1 ≤ 400) (Z : Z_ hi x) (S : SB n b L hi x) : ∃ h1 x1, sl_J4_append_cf468 b (nI c) hi x = some (b, h1, x1) ∧ SB n b (L ++ [c]) h1 x1 ∧ Z_ h1 x1 ∧ FrN n 1 hi x h1 x1 := by
  unfold sl_J4_append_cf468 sl_J5_append_3fe6f
  obtain ⟨nb1, nb2, nb3⟩ := nb_ c hc
  have s3 : hi (da 1 b) 3 = nI L.length := by obtain ⟨v, ⟨-, -, s3⟩, -⟩ := S; exact s3
  rw [s3, nI_1]
  obtain ⟨h1, x1, e2, S1, Z1, F1, room, -⟩ := K_ens hL Z S
  obtain ⟨v, ⟨s1, s2, s3⟩, ⟨s4, s5⟩, s6, s7, ⟨s8, s9⟩, ⟨s10, s11⟩, s12⟩ := S1
  have rm := room v s1
  have e3 : sl_J5_isLatin1_aae02 b h1 x1 = some ((1 : Int32), h1, x1) := by
    unfold sl_J5_isLatin1_aae02
    rw [s2, if_neg (by decide)]
  have e4 : sl_J1_canEncode_fc78d (nI c) h1 x1 = some ((1 : Int32), h1, x1) := if_neg nb3
  rw [e2, cB2_, e3, cB3_, if_neg (by decide), e4, cB3_, if_neg (by decide), s1, cD_, s3, cH_, gi_ (by omega) (by omega), cH_, nI_clamp (by omega), nb2, nb1, nI_1, cB3_]
  refine ⟨_, _, rfl, ⟨v, ⟨s1, ?_, ?_⟩, ⟨?_, s5⟩, fun i hi2 => ?_, fun j => ?_, ⟨s8, s9⟩, ⟨s10, s11⟩, s12⟩, (Z1.u s11).u s9, (F1.trans (FrN.u s10)).trans (FrN.u s8)⟩
  · rw [gu_a (da_nK (by omega)), gu_k (by omega)]; exact s2
  · rw [gu_a (da_nK (by omega)), gu_, List.length_append]; rfl
  · rw [List.length_append]; exact rm
  · rw [List.length_append] at hi2
    have hi2 : i < L.length + 1 := hi2
    by_cases q : i < L.length
    · rw [gu_k (by omega), gu_a (da_nK (by omega)), s6 i q, List.getD_eq_getElem?_getD, List.getD_eq_getElem?_getD, List.getElem?_append_left q]
    · obtain rfl : i = L.length := by omega
      rw [gu_, List.getD_eq_getElem?_getD, List.getElem?_append_right (Nat.le_refl _), Nat.sub_self]
      rfl
  · by_cases q : j = L.length
    · subst q; rw [gu_]; exact nb2
    · rw [gu_k q, gu_a (da_nK (by omega))]; exact s7 j
/-- a number's digits -/
def dec (m : Nat) : List Nat := if m < 10 then [48 + m] else [48 + m / 10, 48 + m % 10]
theorem dec_n : ∀ m, m < 100 → ((-(nI m) ≤ (-10 : Int32)) ↔ 10 ≤ m) ∧ ¬ (-(nI m) ≤ (10 : Int32) * (-10)) ∧ (-100 : Int32) < -(nI m) ∧ -(-(nI m)) = nI m ∧ ((-9 : Int32) ≤ -(nI m) ↔ m < 10) := by decide +kernel
theorem K_ssz {m : Nat} (hm : m < 100) (hG : 3 ≤ G) : sl_J6_stringSize_0f7a4 G (nI m) hi x = some (nI (dec m).length, hi, x) := by
  obtain ⟨d1, d2, -⟩ := dec_n m hm
  obtain ⟨G, rfl⟩ : ∃ g, G = g + 2 := ⟨G - 2, by omega⟩
  unfold sl_J6_stringSize_0f7a4
  rw [if_neg (nI_pos (by omega))]
  show sl_J6_stringSize_0f7a4_16_b _ (sl_J6_stringSize_0f7a4_16 _ (G + 1)) (-(nI m)) 0 (-10) 1 hi x = _
  unfold sl_J6_stringSize_0f7a4_16_b
  rw [if_neg (by decide)]
  by_cases c : m < 10
  · rw [if_neg (fun q => by have := d1.mp q; omega)]
    unfold dec
    rw [if_pos c]
    rfl
  · rw [if_pos (d1.mpr (by omega))]
    show sl_J6_stringSize_0f7a4_16_b _ (sl_J6_stringSize_0f7a4_16 _ G) (-(nI m)) 0 (10 * (-10)) (1 + 1) hi x = _
    unfold sl_J6_stringSize_0f7a4_16_b
    rw [if_neg (by decide), if_neg d2]
    unfold dec
    rw [if_neg c]
    rfl
theorem m1_ {p : Nat} (h : 1 ≤ p) : nI p + Int32.ofInt (-1) = nI (p - 1) := by
  obtain ⟨q, rfl⟩ : ∃ q, p = q + 1 := ⟨p - 1, by omega⟩
  exact pk_m1 q
def hdec (v p m : Nat) (hi : HI) : HI := if m < 10 then am_u hi (da 101 v) (p - 1) (nI (48 + m % 10)) else am_u (am_u hi (da 101 v) (p - 1) (nI (48 + m % 10))) (da 101 v) (p - 2) (nI (48 + m / 10))
theorem K_gch {m p v : Nat} (hm : m < 100) (hp : (dec m).length ≤ p) (hl : p ≤ lnx x v) (hl2 : lnx x v < 2 ^ 31) (hG : 1 ≤ G) : ∃ q, sl_J6_getChars_ba4f3 G (nI m) (nI p) v hi x = some (q, hdec v p m hi, x) := by
  obtain ⟨-, -, d3, d4, d5⟩ := dec_n m hm
  obtain ⟨G, rfl⟩ : ∃ g, G = g + 1 := ⟨G - 1, by omega⟩
  have hp1 : 1 ≤ p := by
    unfold dec at hp
    split at hp <;> simp only [List.length_cons, List.length_nil] at hp <;> omega
  have hb : ∀ k, k < 10 → vp_nar .byte (nI (48 + k)) = nI (48 + k) := fun k hk => (nb_ _ (by omega)).1
  unfold sl_J6_getChars_ba4f3
  rw [if_pos (nI_pos' (by omega))]
  unfold sl_J6_getChars_ba4f3_12
  rw [if_neg (by decide)]
  show ∃ q, sl_J6_getChars_ba4f3_22_b _ (nI p) v (sl_J6_getChars_ba4f3_22 _ (nI p) v G) (-(nI m)) (nI p) 0 hi x = _
  unfold sl_J6_getChars_ba4f3_22_b hdec
  rw [if_pos d3, d4, gi_ hm (by omega), m1_ hp1, gi_ (by omega) hl2, cH_, nI_clamp (by omega), nI_clamp (by omega), hb _ (Nat.mod_lt _ (by omega))]
  by_cases c : m < 10
  · rw [if_pos (d5.mpr c), if_pos c]
    unfold sl_J6_getChars_ba4f3_104
    exact ⟨_, if_pos rfl⟩
  · have hp2 : 2 ≤ p := by
      unfold dec at hp
      rw [if_neg c] at hp
      exact hp
    rw [if_neg (fun q => c (d5.mp q)), if_neg c, if_pos ⟨nI_pos' (by omega), hm⟩, m1_ (by omega), show p - 1 - 1 = p - 2 by omega, gi_ (by omega) hl2, cH_, nI_clamp (by omega), hb _ (by omega)]
    unfold sl_J6_getChars_ba4f3_104
    exact ⟨_, if_pos rfl⟩
theorem dec_l (m : Nat) : (dec m).length ≤ 2 := by
  unfold dec
  split
  · exact Nat.le_succ 1
  · exact Nat.le_refl 2
theorem K_apI {m : Nat} (hG : 3 ≤ G) (hm : m < 100) (hL : L.length + 2 ≤ 400) (Z : Z_ hi x) (S : SB n b L hi x) : ∃ h1 x1, sl_J4_append_bf812 G b (nI m) hi x = some (b, h1, x1) ∧ SB n b (L ++ dec m) h1 x1 ∧ Z_ h1 x1 ∧ FrN n 1 hi x h1 x1 := by
  have hd := dec_l m
  have hd1 : 1 ≤ (dec m).length := by
    unfold dec
    split
    · exact Nat.le_refl 1
    · exact Nat.le_succ 1
  unfold sl_J4_append_bf812 sl_J5_append_c97b9
  have s3 : hi (da 1 b) 3 = nI L.length := by obtain ⟨v, ⟨-, -, s3⟩, -⟩ := S; exact s3
  rw [K_ssz hm hG, cB3_, s3, nI_add]
  obtain ⟨h1, x1, e2, S1, Z1, F1, room, -⟩ := K_ens (M := L.length + (dec m).length) (by omega) Z S
  obtain ⟨v, ⟨s1, s2, s3⟩, ⟨s4, s5⟩, s6, s7, ⟨s8, s9⟩, ⟨s10, s11⟩, s12⟩ := S1
  have rm := room v s1
  have e3 : sl_J5_isLatin1_aae02 b h1 x1 = some ((1 : Int32), h1, x1) := by
    unfold sl_J5_isLatin1_aae02
    rw [s2, if_neg (by decide)]
  obtain ⟨q, e4⟩ := K_gch (hi := h1) (x := x1) (p := L.length + (dec m).length) (v := v) hm (by omega) rm (by omega) (show 1 ≤ G by omega)
  rw [e2, cB2_, e3, cB3_, if_neg (by decide), s1, cD_, e4, cB3_]
  unfold sl_J5_append_c97b9_48
  rw [cH_, cB3_]
  have hv : ∀ K i j, ¬ (K = 101 ∧ i = v) → hdec v (L.length + (dec m).length) m h1 (da K i) j = h1 (da K i) j := fun K i j q => by
    unfold hdec
    split
    · exact gu_a (fun q2 => q (da_i q2))
    · exact (gu_a (fun q2 => q (da_i q2))).trans (gu_a (fun q2 => q (da_i q2)))
  have hw : ∀ j, hdec v (L.length + (dec m).length) m h1 (da 101 v) j = if L.length ≤ j ∧ j < L.length + (dec m).length then nI ((dec m).getD (j - L.length) 0) else h1 (da 101 v) j := fun j => by
    unfold hdec dec
    by_cases c : m < 10
    · rw [if_pos c, if_pos c]
      show am_u h1 (da 101 v) (L.length + 1 - 1) (nI (48 + m % 10)) (da 101 v) j = if L.length ≤ j ∧ j < L.length + 1 then nI (([48 + m] : List Nat).getD (j - L.length) 0) else h1 (da 101 v) j
      by_cases q : j = L.length
      · subst q
        rw [Nat.add_sub_cancel, gu_, if_pos ⟨Nat.le_refl _, by omega⟩, Nat.sub_self, Nat.mod_eq_of_lt c]
        rfl
      · rw [gu_k (by omega), if_neg (by omega)]
    · rw [if_neg c, if_neg c]
      show am_u (am_u h1 (da 101 v) (L.length + 2 - 1) (nI (48 + m % 10))) (da 101 v) (L.length + 2 - 2) (nI (48 + m / 10)) (da 101 v) j = if L.length ≤ j ∧ j < L.length + 2 then nI (([48 + m / 10, 48 + m % 10] : List Nat).getD (j - L.length) 0) else h1 (da 101 v) j
      by_cases q : j = L.length
      · subst q
        rw [Nat.add_sub_cancel, gu_, if_pos ⟨Nat.le_refl _, by omega⟩, Nat.sub_self]
        rfl
      · rw [gu_k (by omega)]
        by_cases q1 : j = L.length + 1
        · subst q1
          rw [show L.length + 2 - 1 = L.length + 1 by omega, gu_, if_pos ⟨by omega, by omega⟩, show L.length + 1 - L.length = 1 by omega]
          rfl
        · rw [gu_k (by omega), if_neg (by omega)]
  have hlt : ∀ k, k < (dec m).length → (dec m).getD k 0 < 128 := fun k hk => by
    unfold dec at hk ⊢
    split at hk
    · next c =>
      rw [if_pos c]
      obtain rfl : k = 0 := by have : k < 1 := hk; omega
      show 48 + m < 128
      omega
    · next c =>
      rw [if_neg c]
      have hk : k < 2 := hk
      have : k = 0 ∨ k = 1 := by omega
      rcases this with rfl | rfl
      · show 48 + m / 10 < 128
        omega
      · show 48 + m % 10 < 128
        omega
  refine ⟨_, _, rfl, ⟨v, ⟨s1, ?_, ?_⟩, ⟨?_, s5⟩, fun i hi2 => ?_, fun j => ?_, ⟨s8, s9⟩, ⟨s10, s11⟩, s12⟩, ?_, ?_⟩
  · rw [gu_k (by omega), hv 1 b 1 (fun q => by omega)]; exact s2
  · rw [gu_, List.length_append]
  · rw [List.length_append]; exact rm
  · rw [gu_a (da_nK (by omega)), hw]
    rw [List.length_append] at hi2
    by_cases q : i < L.length
    · rw [if_neg (by omega), s6 i q, List.getD_eq_getElem?_getD, List.getD_eq_getElem?_getD, List.getElem?_append_left q]
    · rw [if_pos ⟨by omega, hi2⟩, List.getD_eq_getElem?_getD (l := L ++ _), List.getElem?_append_right (by omega), ← List.getD_eq_getElem?_getD]
  · rw [gu_a (da_nK (by omega)), hw]
    by_cases q : L.length ≤ j ∧ j < L.length + (dec m).length
    · rw [if_pos q]; exact (nb_ _ (hlt _ (by omega))).2.1
    · rw [if_neg q]; exact s7 j
  · have hZ : Z_ (hdec v (L.length + (dec m).length) m h1) x1 := fun k hk => ⟨fun K j => ⟨(hv K k j (fun q => by omega)).trans ((Z1 k hk).1 K j).1, ((Z1 k hk).1 K j).2⟩, (Z1 k hk).2⟩
    exact hZ.u s11
  · have fD : FrN n 0 h1 x1 (hdec v (L.length + (dec m).length) m h1) x1 := by
      unfold hdec
      split
      · exact FrN.u s8
      · exact (FrN.u s8).trans (FrN.u s8)
    exact (F1.trans fD).trans (FrN.u s10)
end SBS
