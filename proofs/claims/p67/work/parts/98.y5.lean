/-! a function of the law's comes to an end, and what then holds -/
def Gd {α : Type} (S : Option α) (P : α → Prop) : Prop := ∃ v, S = some v ∧ P v
section GD
variable {α β ρ : Type} {P : ρ → Prop}
theorem gd_ret {v : ρ} (h : P v) : Gd (some v) P := ⟨v, rfl, h⟩
theorem gd_H {v : HI} {T : HI → Option ρ} (h : ∀ k, k = v → Gd (T k) P) : Gd (cH v T) P := h v rfl
theorem gd_X {v : AX} {T : AX → Option ρ} (h : ∀ k, k = v → Gd (T k) P) : Gd (cAx v T) P := h v rfl
theorem gd_G {c : Prop} [Decidable c] {T : Option ρ} (hc : c) (h : Gd T P) : Gd (if c then T else none) P := by rw [if_pos hc]; exact h
theorem gd_N {c : Prop} [Decidable c] {T : Option ρ} (hc : ¬ c) (h : Gd T P) : Gd (if c then none else T) P := by rw [if_neg hc]; exact h
theorem gd_I {c : Prop} [Decidable c] {T1 T2 : Option ρ} (h1 : c → Gd T1 P) (h2 : ¬ c → Gd T2 P) : Gd (if c then T1 else T2) P := by
  by_cases hc : c
  · rw [if_pos hc]; exact h1 hc
  · rw [if_neg hc]; exact h2 hc
theorem gd_D {K i : Nat} {v : AV} {T : Nat → Option ρ} (e : v = dr K i) (h : Gd (T i) P) : Gd (cD K v T) P := by rw [e, cD_]; exact h
theorem gd_3 {S : Option (α × HI × AX)} {T : α → HI → AX → Option ρ} {Q : α × HI × AX → Prop} (hs : Gd S Q) (h : ∀ v k x, Q (v, k, x) → Gd (T v k x) P) : Gd (cB3 S T) P := by
  obtain ⟨⟨v, k, x⟩, e, q⟩ := hs
  rw [e, cB3_]; exact h v k x q
theorem gd_2 {S : Option (HI × AX)} {T : HI → AX → Option ρ} {Q : HI × AX → Prop} (hs : Gd S Q) (h : ∀ k x, Q (k, x) → Gd (T k x) P) : Gd (cB2 S T) P := by
  obtain ⟨⟨k, x⟩, e, q⟩ := hs
  rw [e, cB2_]; exact h k x q
theorem gd_e {S : Option ρ} {v : ρ} (e : S = some v) (h : P v) : Gd S P := ⟨v, e, h⟩
theorem gd_w {S : Option ρ} {Q : ρ → Prop} (hs : Gd S Q) (h : ∀ v, Q v → P v) : Gd S P := by
  obtain ⟨v, e, q⟩ := hs
  exact ⟨v, e, h v q⟩
/-- an index that is below -/
theorem gd_i {t n : Nat} {j : Int32} {T : Option ρ} (e : j = nI t) (ht : t < n) (hn : n < 2 ^ 31) (h : Gd T P) : Gd (if 0 ≤ j ∧ j.toNatClampNeg < n then T else none) P := by
  subst e
  rw [gi_ ht hn]; exact h
theorem gd_j {t n m : Nat} {j : Int32} {T : Option ρ} (e : j = nI t) (hm : m = n) (ht : t < n) (hn : n < 2 ^ 31) (h : Gd T P) : Gd (if 0 ≤ j ∧ j.toNatClampNeg < m then T else none) P := by
  subst hm
  exact gd_i e ht hn h
end GD
/-- the law's floor: what names what; its numbers -/
def FS (ro R r c : Nat) (x : AX) : Prop := (rdx x (da 12 1) 22 = dr 100 ro ∧ lnx x ro = R ∧ R < 8) ∧ (rdx x (da 12 1) 23 = dr 102 5 ∧ lnx x 5 = c) ∧ (rdx x (da 12 1) 26 = dr 100 6 ∧ lnx x 6 = c) ∧ (rdx x (da 12 1) 24 = dr 102 7 ∧ lnx x 7 = r * c) ∧ (rdx x (da 12 1) 25 = dr 102 8 ∧ lnx x 8 = r * c) ∧ (rdx x (da 12 1) 27 = dr 100 9 ∧ lnx x 9 = r * c) ∧ (rdx x (da 12 1) 28 = dr 100 10 ∧ lnx x 10 = r * c) ∧ rdx x (da 12 1) 29 = dr 2 3 ∧ rdx x (da 12 1) 30 = dr 2 4
def FNu (r c R : Nat) (hi : HI) : Prop := (2 ≤ r ∧ r ≤ 3 ∧ 2 ≤ c ∧ c ≤ 5) ∧ hi (da 12 1) 0 = nI r ∧ hi (da 12 1) 1 = nI c ∧ hi (da 12 1) 2 ≠ 0 ∧ (∃ p, p ≤ 4 ∧ hi (da 12 1) 3 = nI p) ∧ (hi (da 12 1) 10 < 0 ∨ ∃ t, t < r * c ∧ hi (da 12 1) 10 = nI t) ∧ (∃ t, t < r * c ∧ hi (da 12 1) 19 = nI t) ∧ (R = 0 ∨ ∃ q, q < R ∧ hi (da 12 1) 20 = nI q)
/-- a list of k rows of two -/
def LSt (m l k : Nat) (hi : HI) (x : AX) : Prop := hi (da 2 l) 2 = nI k ∧ (0 < k → ∃ e, rdx x (da 2 l) 1 = dr 104 e ∧ k ≤ lnx x e ∧ lnx x e < 2 ^ 31 ∧ e < m ∧ ∀ j, j < k → ∃ p, rdx x (da 104 e) j = dr 100 p ∧ lnx x p = 2 ∧ p < m)
/-- only the floor's own cells change -/
def F1 (hi h1 : HI) : Prop := ∀ a j, (∀ K i, a = da K i → i ≠ 1 ∧ i ≠ 5 ∧ i ≠ 7 ∧ i ≠ 8 ∧ i ≠ 9 ∧ i ≠ 10) → h1 a j = hi a j
def FG (r c R : Nat) (hi h1 : HI) : Prop := FNu r c R h1 ∧ F1 hi h1
section FLO
variable {ro R r c G n m : Nat} {hi h1 h2 : HI} {x : AX}
theorem F1.refl : F1 hi hi := fun _ _ _ => rfl
theorem F1.trans (a : F1 hi h1) (b : F1 h1 h2) : F1 hi h2 := fun e j q => (b e j q).trans (a e j q)
theorem F1.u {K i j : Nat} {v : Int32} (a : F1 hi h1) (h : i = 1 ∨ i = 5 ∨ i = 7 ∨ i = 8 ∨ i = 9 ∨ i = 10) : F1 hi (am_u h1 (da K i) j v) := fun e k q => (gu_a (fun e2 => by have := q _ _ e2; omega)).trans (a e k q)
theorem FNu.tc (h : FNu r c R hi) : 4 ≤ r * c ∧ r * c ≤ 15 := ⟨Nat.mul_le_mul h.1.1 h.1.2.2.1, Nat.mul_le_mul h.1.2.1 h.1.2.2.2⟩
theorem FNu.o (h : FNu r c R hi) (e : ∀ j, j ≤ 3 ∨ j = 10 ∨ j = 19 ∨ j = 20 → h1 (da 12 1) j = hi (da 12 1) j) : FNu r c R h1 := by
  obtain ⟨a, b1, b2, b3, b4, b5, b6, b7⟩ := h
  refine ⟨a, (e 0 (by omega)).trans b1, (e 1 (by omega)).trans b2, by rw [e 2 (by omega)]; exact b3, by rw [e 3 (by omega)]; exact b4, by rw [e 10 (by omega)]; exact b5, by rw [e 19 (by omega)]; exact b6, by rw [e 20 (by omega)]; exact b7⟩
theorem FG.refl (h : FNu r c R hi) : FG r c R hi hi := ⟨h, F1.refl⟩
theorem FG.trans (a : FG r c R hi h1) (b : FG r c R h1 h2) : FG r c R hi h2 := ⟨b.1, a.2.trans b.2⟩
/-- a field that isn't named above -/
theorem FG.f {k : Nat} {v : Int32} (a : FG r c R hi h1) (h : 3 < k ∧ k ≠ 10 ∧ k ≠ 19 ∧ k ≠ 20) : FG r c R hi (am_u h1 (da 12 1) k v) := ⟨a.1.o (fun j q => gu_k (by omega)), a.2.u (by omega)⟩
theorem FG.a {K i j : Nat} {v : Int32} (a : FG r c R hi h1) (h : i = 5 ∨ i = 7 ∨ i = 8 ∨ i = 9 ∨ i = 10) : FG r c R hi (am_u h1 (da K i) j v) := ⟨a.1.o (fun j q => gu_a (da_ni (by omega))), a.2.u (by omega)⟩
theorem FG.w {v : Int32} (a : FG r c R hi h1) (h : v < 0 ∨ ∃ t, t < r * c ∧ v = nI t) : FG r c R hi (am_u h1 (da 12 1) 10 v) := by
  obtain ⟨⟨a0, b1, b2, b3, b4, b5, b6, b7⟩, f⟩ := a
  exact ⟨⟨a0, (gu_k (by omega)).trans b1, (gu_k (by omega)).trans b2, by rw [gu_k (by omega)]; exact b3, by rw [gu_k (by omega)]; exact b4, by rw [gu_]; exact h, by rw [gu_k (by omega)]; exact b6, by rw [gu_k (by omega)]; exact b7⟩, f.u (by omega)⟩
theorem FG.ca {v : Int32} (a : FG r c R hi h1) (h : ∃ t, t < r * c ∧ v = nI t) : FG r c R hi (am_u h1 (da 12 1) 19 v) := by
  obtain ⟨⟨a0, b1, b2, b3, b4, b5, b6, b7⟩, f⟩ := a
  exact ⟨⟨a0, (gu_k (by omega)).trans b1, (gu_k (by omega)).trans b2, by rw [gu_k (by omega)]; exact b3, by rw [gu_k (by omega)]; exact b4, by rw [gu_k (by omega)]; exact b5, by rw [gu_]; exact h, by rw [gu_k (by omega)]; exact b7⟩, f.u (by omega)⟩
theorem FG.nx {v : Int32} (a : FG r c R hi h1) (h : ∃ q, q < R ∧ v = nI q) : FG r c R hi (am_u h1 (da 12 1) 20 v) := by
  obtain ⟨⟨a0, b1, b2, b3, b4, b5, b6, b7⟩, f⟩ := a
  exact ⟨⟨a0, (gu_k (by omega)).trans b1, (gu_k (by omega)).trans b2, by rw [gu_k (by omega)]; exact b3, by rw [gu_k (by omega)]; exact b4, by rw [gu_k (by omega)]; exact b5, by rw [gu_k (by omega)]; exact b6, by rw [gu_]; exact Or.inr h⟩, f.u (by omega)⟩
theorem LSt.cg {l k : Nat} (S : LSt m l k hi x) (h : h1 (da 2 l) 2 = hi (da 2 l) 2) : LSt m l k h1 x := ⟨h.trans S.1, S.2⟩
theorem F1.l3 (h : F1 hi h1) : h1 (da 2 3) 2 = hi (da 2 3) 2 := h _ _ (fun K i e => by have := (da_i e).2; omega)
theorem F1.l4 (h : F1 hi h1) : h1 (da 2 4) 2 = hi (da 2 4) 2 := h _ _ (fun K i e => by have := (da_i e).2; omega)
theorem nz_c (h : FNu r c R hi) : ¬ hi (da 12 1) 1 = 0 := by
  rw [h.2.2.1]; exact nI_ne0 (by have := h.1.2.2.1; omega) (by have := h.1.2.2.2; omega)
/-- a row or a column beside -/
theorem be_d {a m : Nat} (h : a < m) (hm : m < 100) {v : Int32} (hv : v = -1 ∨ v = 0 ∨ v = 1) : nI a + v < 0 ∨ ∃ k, k ≤ m ∧ nI a + v = nI k := by
  rcases hv with rfl | rfl | rfl
  · cases a with
    | zero => left; decide
    | succ a => right; exact ⟨a, by omega, pk_m1 a⟩
  · right; exact ⟨a, by omega, Int32.add_zero _⟩
  · right; exact ⟨a + 1, by omega, nI_1 a⟩
theorem K_be52 (h : FNu r c R hi) {a1 a2 l3 t0 t1 : Int32} (h3 : l3 < 0 ∨ ∃ k, k ≤ r ∧ l3 = nI k) (h4 : t1 + t0 < 0 ∨ ∃ k, k ≤ c ∧ t1 + t0 = nI k) : Gd (sl_X10_beside_52 1 a1 a2 l3 t0 t1 hi x) (fun v => v.2 = (hi, x) ∧ (v.1 < 0 ∨ ∃ t, t < r * c ∧ v.1 = nI t)) := by
  obtain ⟨⟨q1, q2, q3, q4⟩, b1, b2, -⟩ := h
  have hm : ((-1 : Int32) < 0) := by decide
  unfold sl_X10_beside_52
  refine gd_I (fun _ => gd_ret ⟨rfl, Or.inl hm⟩) (fun c1 => ?_)
  obtain ⟨k, hk, ek⟩ := h3.resolve_left c1
  refine gd_I (fun _ => gd_ret ⟨rfl, Or.inl hm⟩) (fun c2 => ?_)
  refine gd_I (fun _ => gd_ret ⟨rfl, Or.inl hm⟩) (fun c3 => ?_)
  obtain ⟨k2, hk2, ek2⟩ := h4.resolve_left c3
  refine gd_I (fun c4 => gd_ret ⟨rfl, Or.inr ⟨k * c + k2, ?_, ?_⟩⟩) (fun _ => gd_ret ⟨rfl, Or.inl hm⟩)
  · have hk3 : k < r := by
      rcases Nat.lt_or_ge k r with q | q
      · exact q
      · exact absurd (by rw [ek, b1, show k = r by omega]) c2
    have hk4 : k2 < c := by
      rcases Nat.lt_or_ge k2 c with q | q
      · exact q
      · exact absurd (by rw [ek2, b2, show k2 = c by omega]) c4
    have : (k + 1) * c ≤ r * c := Nat.mul_le_mul_right c hk3
    rw [Nat.add_mul] at this
    omega
  · show l3 * hi (da 12 1) 1 + (t1 + t0) = _
    rw [ek, ek2, b2, pk_mul, nI_add]
theorem K_beside (h : FNu r c R hi) {t : Nat} (ht : t < r * c) (mv : Int32) : Gd (sl_X10_beside 1 (nI t) mv hi x) (fun v => v.2 = (hi, x) ∧ (v.1 < 0 ∨ ∃ t, t < r * c ∧ v.1 = nI t)) := by
  have hT := h.tc
  obtain ⟨q1, q2, q3, q4⟩ := h.1
  have b2 := h.2.2.1
  have hr : t / c < r := Nat.div_lt_of_lt_mul (by rw [Nat.mul_comm]; exact ht)
  have hc : t % c < c := Nat.mod_lt _ (by omega)
  have h25 : ∀ v : Int32, (v = -1 ∨ v = 0 ∨ v = 1) → Gd (sl_X10_beside_25 1 (nI t) mv v (nI (t / c)) hi x) (fun v => v.2 = (hi, x) ∧ (v.1 < 0 ∨ ∃ t, t < r * c ∧ v.1 = nI t)) := fun v hv => by
    unfold sl_X10_beside_25
    rw [b2, pk_rem (by omega) (by omega) (by omega)]
    have hrow := be_d hr (by omega) hv
    refine gd_N (nI_ne0 (by omega) (by omega)) (gd_I (fun _ => gd_I (fun _ => ?_) (fun _ => ?_)) (fun _ => ?_))
    · exact K_be52 h hrow (be_d hc (by omega) (Or.inr (Or.inl rfl)))
    · exact K_be52 h hrow (be_d hc (by omega) (Or.inr (Or.inr rfl)))
    · exact K_be52 h hrow (be_d hc (by omega) (Or.inl rfl))
  unfold sl_X10_beside
  rw [b2, pk_div (by omega) (by omega) (by omega)]
  refine gd_N (nI_ne0 (by omega) (by omega)) (gd_I (fun _ => gd_I (fun _ => ?_) (fun _ => ?_)) (fun _ => ?_))
  · exact h25 _ (Or.inr (Or.inl rfl))
  · exact h25 _ (Or.inr (Or.inr rfl))
  · exact h25 _ (Or.inl rfl)
theorem K_ahead (h : FNu r c R hi) {t : Nat} (ht : t < r * c) (e : hi (da 12 1) 10 = nI t) : Gd (sl_X10_ahead 1 hi x) (fun v => v.2 = (hi, x) ∧ (v.1 < 0 ∨ ∃ t, t < r * c ∧ v.1 = nI t)) := by
  unfold sl_X10_ahead sl_X10_ahead_17
  rw [e]
  refine gd_I (fun _ => gd_3 (K_beside h ht _) (fun v k y q => ?_)) (fun _ => gd_3 (K_beside h ht _) (fun v k y q => ?_))
  · exact gd_ret q
  · exact gd_ret q
/-- a list's element -/
theorem K_get {l k j : Nat} (S : LSt m l k hi x) (hk : k < 100) (hj : j < k) : Gd (sl_Jx4a65c_get_915e3 l (nI j) hi x) (fun v => v.2 = (hi, x) ∧ lnx x v.1 = 2) := by
  obtain ⟨s1, s2⟩ := S
  obtain ⟨e, e1, e2, e3, -, e4⟩ := s2 (by omega)
  obtain ⟨p, p1, p2, -⟩ := e4 j hj
  unfold sl_Jx4a65c_get_915e3 sl_J15_checkIndex_7cf53 sl_J3_checkIndex_8e157 sl_Jx4a65c_elementData_915e3
  rw [s1, if_neg (nI_pos (by omega)), if_pos ((nI_ltI (by omega) (by omega)).mpr hj), cB3_, cB3_, e1, cD_, gi_ (by omega) e3, nI_clamp (by omega), p1, cD_, cB3_]
  exact gd_ret ⟨rfl, p2⟩
theorem K_shi_l {k : Nat} (F : FS ro R r c x) (S : LSt m 3 k hi x) (hk : k < 100) : ∀ n f j (l1 : Int32), j + n = k → n < f → (l1 = 0 ∨ l1 = 1) → Gd (sl_X10_shines_15 G 1 f l1 (nI j) hi x) (fun v => v.2 = (hi, x) ∧ (v.1 = 0 ∨ v.1 = 1)) := fun n => by
  have f29 : rdx x (da 12 1) 29 = dr 2 3 := F.2.2.2.2.2.2.2.1
  have s1 := S.1
  induction n with
  | zero =>
    intro f j l1 hj hf hl
    obtain ⟨f, rfl⟩ : ∃ g, f = g + 1 := ⟨f - 1, by omega⟩
    show Gd (sl_X10_shines_15_b G 1 (sl_X10_shines_15 G 1 f) l1 (nI j) hi x) _
    unfold sl_X10_shines_15_b sl_Jx4a65c_size_8abf5
    rw [f29, cD_, cB3_, s1, if_pos (nI_le (by omega) (by omega))]
    exact gd_G hl (gd_ret ⟨rfl, hl⟩)
  | succ n ih =>
    intro f j l1 hj hf hl
    obtain ⟨f, rfl⟩ : ∃ g, f = g + 1 := ⟨f - 1, by omega⟩
    show Gd (sl_X10_shines_15_b G 1 (sl_X10_shines_15 G 1 f) l1 (nI j) hi x) _
    unfold sl_X10_shines_15_b sl_Jx4a65c_size_8abf5
    rw [f29, cD_, cB3_, s1, if_neg (nI_ge (by omega) (by omega)), f29, cD_, nI_1]
    refine gd_3 (K_get S hk (by omega)) (fun v k y q => ?_)
    obtain ⟨q1, q2⟩ := q
    cases q1
    refine gd_G (by rw [q2]; omega) (gd_I (fun _ => ih f (j + 1) l1 (by omega) (by omega) hl) (fun _ => ?_))
    refine gd_D f29 (gd_3 (K_get S hk (by omega)) (fun v k y q => ?_))
    obtain ⟨q1, q2⟩ := q
    cases q1
    exact gd_G (by rw [q2]; omega) (gd_I (fun _ => ih f (j + 1) l1 (by omega) (by omega) hl) (fun _ => ih f (j + 1) 0 (by omega) (by omega) (Or.inl rfl)))
theorem K_shines {k : Nat} (hG : 100 < G) (F : FS ro R r c x) (S : LSt m 3 k hi x) (hk : k < 100) : Gd (sl_X10_shines G 1 hi x) (fun v => v.2 = (hi, x) ∧ (v.1 = 0 ∨ v.1 = 1)) := by
  unfold sl_X10_shines sl_X10_bright
  rw [cB3_]
  exact gd_I (fun _ => K_shi_l F S hk k G 0 0 (by omega) (by omega) (Or.inl rfl)) (fun _ => K_shi_l F S hk k G 0 1 (by omega) (by omega) (Or.inr rfl))
theorem K_lit {k t : Nat} (hG : 100 < G) (F : FS ro R r c x) (N : FNu r c R hi) (S : LSt m 3 k hi x) (hk : k < 100) (ht : t < r * c) : Gd (sl_X10_lit G 1 (nI t) hi x) (fun v => v.2 = (hi, x)) := by
  have hT := N.tc
  have b2 := N.2.2.1
  have hc : t % c < c := Nat.mod_lt _ (by have := N.1.2.2.1; omega)
  unfold sl_X10_lit
  refine gd_3 (K_shines hG F S hk) (fun v k y q => ?_)
  obtain ⟨q1, -⟩ := q
  cases q1
  refine gd_I (fun _ => gd_ret rfl) (fun _ => gd_D F.2.1.1 (gd_N (nz_c N) ?_))
  have hcc := N.1.2.2.2
  have hc2 := N.1.2.2.1
  rw [b2, pk_rem (by omega) (by omega) (by omega), F.2.1.2]
  refine gd_i rfl hc (by omega) (gd_I (fun _ => gd_ret rfl) (fun _ => gd_N (nI_ne0 (by omega) (by omega)) (gd_N N.2.2.2.1 (gd_I (fun _ => gd_ret rfl) (fun _ => gd_ret rfl)))))
theorem K_steps {k : Nat} (hG : 100 < G) (F : FS ro R r c x) (N : FNu r c R hi) (S : LSt m 3 k hi x) (hk : k < 100) : Gd (sl_X10_steps G 1 hi x) (fun v => v.2 = (hi, x) ∧ v.1 ≤ 4) := by
  obtain ⟨p, hp, ep⟩ := N.2.2.2.2.1
  unfold sl_X10_steps sl_X10_bright
  refine gd_3 (K_shines hG F S hk) (fun v k y q => ?_)
  obtain ⟨q1, -⟩ := q
  cases q1
  refine gd_I (fun _ => gd_ret ⟨rfl, by show (0 : Int32) ≤ 4; decide⟩) (fun _ => ?_)
  rw [cB3_]
  refine gd_ret ⟨rfl, ?_⟩
  have h4 : hi (da 12 1) 3 ≤ 4 := by rw [ep]; exact nI_le (b := 4) hp (by omega)
  have hm : ∀ z : Int32, (if z < hi (da 12 1) 3 then z else hi (da 12 1) 3) ≤ 4 := fun z => by
    by_cases q : z < hi (da 12 1) 3
    · rw [if_pos q]; exact Int32.le_trans (Int32.le_of_lt q) h4
    · rw [if_neg q]; exact h4
  exact hm _
theorem K_block {k : Nat} (hG : 100 < G) (F : FS ro R r c x) (N : FNu r c R hi) (S : LSt m 3 k hi x) (hk : k < 100) : Gd (sl_X10_block G 1 hi x) (fun v => v.2 = (hi, x) ∧ (v.1 ≤ 0 → (∃ t, t < r * c ∧ hi (da 12 1) 10 = nI t) ∧ ∃ u, u < r * c ∧ sl_X10_ahead 1 hi x = some (nI u, hi, x))) := by
  have hT := N.tc
  have hcc := N.1.2.2
  unfold sl_X10_block
  refine gd_I (fun c1 => ?_) (fun _ => gd_ret ⟨rfl, fun q => absurd (show (1 : Int32) ≤ 0 from q) (by decide)⟩)
  have hw : ∃ t, t < r * c ∧ hi (da 12 1) 10 = nI t := N.2.2.2.2.2.1.resolve_left (fun q => absurd c1 (Int32.not_le.mpr q))
  obtain ⟨t, ht, et⟩ := id hw
  refine gd_3 (K_shines hG F S hk) (fun v k y q => ?_)
  obtain ⟨q1, -⟩ := q
  cases q1
  refine gd_I (fun _ => gd_I (fun _ => ?_) (fun _ => gd_ret ⟨rfl, fun q => absurd (show (3 : Int32) ≤ 0 from q) (by decide)⟩)) (fun _ => gd_ret ⟨rfl, fun q => absurd (show (2 : Int32) ≤ 0 from q) (by decide)⟩)
  obtain ⟨⟨u, h9, x9⟩, eu, eq9, hu⟩ := K_ahead (x := x) N ht et
  cases eq9
  rw [eu, cB3_]
  refine gd_I (fun c3 => ?_) (fun _ => gd_ret ⟨rfl, fun q => absurd (show (4 : Int32) ≤ 0 from q) (by decide)⟩)
  obtain ⟨u2, hu2, rfl⟩ := hu.resolve_left (fun q => absurd c3 (Int32.not_le.mpr q))
  refine gd_D F.2.1.1 (gd_N (nz_c N) ?_)
  rw [N.2.2.1, pk_rem (by omega) (by omega) (by omega), F.2.1.2]
  refine gd_i rfl (Nat.mod_lt _ (by omega)) (by omega) (gd_I (fun _ => ?_) (fun _ => gd_ret ⟨rfl, fun q => absurd (show (5 : Int32) ≤ 0 from q) (by decide)⟩))
  refine gd_D F.2.2.2.2.2.1.1 ?_
  rw [F.2.2.2.2.2.1.2]
  refine gd_i rfl hu2 (by omega) (gd_I (fun _ => gd_ret ⟨rfl, fun _ => ⟨hw, u2, hu2, rfl⟩⟩) (fun _ => gd_ret ⟨rfl, fun q => absurd (show (6 : Int32) ≤ 0 from q) (by decide)⟩))
end FLO
