/-! the text's bytes: both sides -/
section TX
variable {A B : As_} {hi h h1 : HI} {x x1 x2 : AX} {K G : Nat} {a c : Int32} {w : Wd}
def tx_ (A : As_) (n : Nat) (t : Nat → Nat) : As_ := (A.1, A.2.1, A.2.2.1, A.2.2.2.1, (n, t))
def tp_ (A : As_) (y : Nat) : As_ := tx_ A (A.tn + 1) (fun k => if k = A.tn then y else A.tx k)
def t0_ (A : As_) : As_ := tx_ A 0 A.tx
/-- room: what a growing text takes -/
def XT (x x1 : AX) : Prop := x1.2.2.2.2.2.2 = x.2.2.2.2.2.2 ∧ x1.2.2.2.2.1 + x.2.2.2.1 ≤ x.2.2.2.2.1 + x1.2.2.2.1 ∧ x1.2.2.2.2.2.1 + 2 * x.2.2.2.1 ≤ x.2.2.2.2.2.1 + 2 * x1.2.2.2.1
theorem XT.refl (x : AX) : XT x x := ⟨rfl, Nat.le_refl _, Nat.le_refl _⟩
theorem XT.trans (a : XT x x1) (b : XT x1 x2) : XT x x2 := by
  obtain ⟨a1, a2, a3⟩ := a
  obtain ⟨b1, b2, b3⟩ := b
  exact ⟨b1.trans a1, by omega, by omega⟩
theorem XT.l {v : Int64} (a : XT x x1) : XB x (xl x1 v) := by
  obtain ⟨a1, a2, a3⟩ := a
  exact ⟨a1, by show x1.2.2.2.2.1 + x.2.2.2.1 ≤ x.2.2.2.2.1 + x1.2.2.2.1 + 8; omega, by show x1.2.2.2.2.2.1 + 2 * x.2.2.2.1 ≤ x.2.2.2.2.2.1 + 2 * x1.2.2.2.1 + 2000; omega⟩
theorem ne_za {n m : Nat} (hne : n ≠ m) : za n ≠ za m := fun e => hne (by
  have e : (Sum.inr (Sum.inr n) : AA) = Sum.inr (Sum.inr m) := e
  injection e with e
  injection e)
theorem RC.t {n : Nat} {t : Nat → Nat} (H : RC A h x) (f : ∀ a k, a ≠ za 2 → a ≠ za 3 → h1 a k = h a k) (g1 : h1 (za 2) 1 = 0) (g2 : h1 (za 2) 3 = nI n) (g3 : ∀ k, k < n → h1 (za 3) k = nI (t k)) (g4 : n ≤ x1.2.2.2.1 ∧ x1.2.2.2.1 ≤ 30000 ∧ am_by (h1 (za 3)) x1.2.2.2.1 = true) : RC (tx_ A n t) h1 x1 := by
  have z : ∀ m k, m ≠ 2 → m ≠ 3 → h1 (za m) k = h (za m) k := fun m k q1 q2 => f _ _ (ne_za q1) (ne_za q2)
  obtain ⟨⟨a1, a2, a3, a4, a5, a6⟩, ⟨p, b1, b2', b3, b4⟩, c, -⟩ := H
  have hv : ∀ i, vw_ i h1 = vw_ i h := fun i => V_f fun j k => f _ _ (fun q => by cases q) (fun q => by cases q)
  refine ⟨⟨(z _ _ (by omega) (by omega)).trans a1, fun k hk => ?_, (z _ _ (by omega) (by omega)).trans a3, (z _ _ (by omega) (by omega)).trans a4, (z _ _ (by omega) (by omega)).trans a5, fun q => (hv 0).trans (a6 q)⟩, ⟨p, b1, (z _ _ (by omega) (by omega)).trans b2', (z _ _ (by omega) (by omega)).trans b3, fun j v q => (hv _).trans (b4 j v q)⟩, fun k hk => ⟨(z _ _ (by omega) (by omega)).trans (c k hk).1, fun v q => (hv _).trans ((c k hk).2 v q)⟩, g1, g2, g3, g4⟩
  rw [z _ _ (by omega) (by omega)]
  exact a2 k hk
theorem RM.t {n : Nat} {t : Nat → Nat} (H : RM A h) (f : ∀ a k, a ≠ za 202 → ¬ (a = za 195 ∧ k = 21) → h1 a k = h a k) (g2 : h1 (za 195) 21 = nI n) (g3 : ∀ k, k < n → h1 (za 202) k = nI (t k)) : RM (tx_ A n t) h1 := by
  have z : ∀ m k, m ≠ 202 → m ≠ 195 → h1 (za m) k = h (za m) k := fun m k q1 q2 => f _ _ (ne_za q1) (fun q => ne_za q2 q.1)
  have z5 : ∀ k, k ≠ 21 → h1 (za 195) k = h (za 195) k := fun k hk => f _ _ (ne_za (by omega)) (fun q => hk q.2)
  obtain ⟨⟨a1, a2, a3, a4, a5, a6⟩, ⟨b1, b2'⟩, c, -⟩ := H
  refine ⟨⟨(z5 _ (by omega)).trans a1, fun k hk => ?_, (z5 _ (by omega)).trans a3, (z5 _ (by omega)).trans a4, (z5 _ (by omega)).trans a5, fun q => (M_o (fun k => z _ _ (by omega) (by omega))).trans (a6 q)⟩, ⟨(z5 _ (by omega)).trans b1, fun j v q => ?_⟩, fun k hk => ⟨(z _ _ (by omega) (by omega)).trans (c k hk).1, fun v q => ?_⟩, g2, g3⟩
  · rw [z _ _ (by omega) (by omega)]; exact a2 k hk
  · rw [← b2' j v q]
    exact rw_e (fun i hi9 => z _ _ (by omega) (by omega))
  · rw [← (c k hk).2 v q]
    exact rw_e (fun i hi9 => z _ _ (by omega) (by omega))
theorem fC_t (f : ∀ a k, a ≠ za 2 → a ≠ za 3 → h1 a k = h a k) : fC_ h h1 := fun b k m => f b k (fun q => by
  rcases m with m | m
  · exact md_za (n := 2) (by omega) (q ▸ m)
  · rw [q] at m; cases m) (fun q => by
  rcases m with m | m
  · exact md_za (n := 3) (by omega) (q ▸ m)
  · rw [q] at m; cases m)
/-- room for q bytes -/
theorem C_room2 {q : Nat} (hq : q ≤ 1000) (hc : x.2.2.2.1 ≤ 30000) : q ≤ (gx x (nI q)).2.2.2.1 ∧ (gx x (nI q)).2.2.2.1 ≤ 30000 ∧ XT x (gx x (nI q)) ∧ (∀ b k, b ≠ za 3 → gh h x (nI q) b k = h b k) ∧ (∀ k, k < x.2.2.2.1 → gh h x (nI q) (za 3) k = h (za 3) k) := by
  unfold gx gh
  rw [nI_clamp (by omega)]
  by_cases c : q ≤ x.2.2.2.1
  · rw [if_pos c, if_pos c]
    exact ⟨c, hc, XT.refl x, fun _ _ _ => rfl, fun _ _ => rfl⟩
  · rw [if_neg c, if_neg c]
    have e : sb_cap q x.2.2.2.1 = if 2 * x.2.2.2.1 + 2 < q then q else 2 * x.2.2.2.1 + 2 := by
      unfold sb_cap
      rw [if_neg c]
    have g : q ≤ sb_cap q x.2.2.2.1 ∧ 2 * x.2.2.2.1 + 2 ≤ sb_cap q x.2.2.2.1 ∧ sb_cap q x.2.2.2.1 ≤ 30000 := by
      rw [e]
      split <;> omega
    refine ⟨g.1, g.2.2, ⟨rfl, ?_, ?_⟩, fun b k hb => if_neg (fun z => hb z.1), fun k hk => if_neg (fun z => by omega)⟩
    · show x.2.2.2.2.1 + 1 + x.2.2.2.1 ≤ x.2.2.2.2.1 + sb_cap q x.2.2.2.1
      omega
    · show x.2.2.2.2.2.1 + sb_cap q x.2.2.2.1 + 2 * x.2.2.2.1 ≤ x.2.2.2.2.2.1 + 2 * sb_cap q x.2.2.2.1
      omega
theorem C_room3 {q : Nat} (hq : q ≤ 1000) (hb : am_by (h (za 3)) x.2.2.2.1 = true) : am_by (gh h x (nI q) (za 3)) (gx x (nI q)).2.2.2.1 = true := by
  unfold gx gh
  rw [nI_clamp (by omega)]
  by_cases c : q ≤ x.2.2.2.1
  · rw [if_pos c, if_pos c]
    exact hb
  · rw [if_neg c, if_neg c]
    refine by_iff.mpr (fun k hk => ?_)
    by_cases c2 : x.2.2.2.1 ≤ k
    · rw [if_pos ⟨rfl, c2⟩]; decide
    · rw [if_neg (fun z => c2 z.2)]
      exact by_iff.mp hb k (by omega)
theorem C_put {y : Nat} (hy : y < 128) (hn : A.tn < 200) (H : RC A h x) : ∃ h1 x1, sh_J4_append_cf468 (nI y) h x = some (h1, x1) ∧ RC (tp_ A y) h1 x1 ∧ fC_ h h1 ∧ XT x x1 := by
  obtain ⟨d1, d2, d3, d4⟩ := H.2.2.2
  have r6 := C_room3 (h := h) (x := x) (q := A.tn + 1) (by omega) d4.2.2
  obtain ⟨r1, r2, r3, r4, r5⟩ := C_room2 (h := h) (x := x) (q := A.tn + 1) (by omega) d4.2.1
  unfold sh_J4_append_cf468 sh_J5_append_3fe6f
  rw [d2, nI_1, if_pos ⟨nI_pos' (by omega), nI_le (b := 30000) (by omega) (by omega), d4.2.1, d1, d4.2.2⟩, bs]
  generalize gx x (nI (A.tn + 1)) = g2 at r1 r2 r3 r6
  generalize gh h x (nI (A.tn + 1)) = g at r4 r5 r6
  have e1 : g (za 2) 1 = 0 := (r4 _ _ (ne_za (by omega))).trans d1
  have e3 : g (za 2) 3 = nI A.tn := (r4 _ _ (ne_za (by omega))).trans d2
  have el : sh_J5_isLatin1_aae02 g = 1 := by
    unfold sh_J5_isLatin1_aae02
    rw [e1, if_neg (by decide)]
  have ee : sh_J1_canEncode_fc78d (nI y) = 1 := by
    unfold sh_J1_canEncode_fc78d
    rw [if_neg (show ¬ (255 : Int32) < nI y from fun q => by have := (nI_ltI (a := 255) (by omega) (by omega)).mp q; omega)]
  have ev : vp_nar .byte (nI y).toInt8.toInt32 = nI y := by
    rw [vp_nar_byte, Int8.toInt8_toInt32]
    exact sb_lo y hy
  show ∃ h1 x1, ((if sh_J5_isLatin1_aae02 g = 0 then sh_J5_append_3fe6f_45 (nI y) g g2 else if sh_J1_canEncode_fc78d (nI y) = 0 then sh_J5_append_3fe6f_45 (nI y) g g2 else if 0 ≤ g (za 2) 3 ∧ (g (za 2) 3).toNatClampNeg < g2.2.2.2.1 then (some (am_u (am_u g (za 2) 3 ((g (za 2) 3) + (1 : Int32))) (za 3) (g (za 2) 3).toNatClampNeg (vp_nar .byte (nI y).toInt8.toInt32))).bind fun h2 => some (h2, g2) else none).bind fun v1 => some (v1.1, v1.2)) = some (h1, x1) ∧ _
  rw [el, if_neg (by decide), ee, if_neg (by decide), e3, nI_clamp (by omega), if_pos ⟨nI_pos' (by omega), by omega⟩, bs, bs, nI_1, ev]
  have f : ∀ b k, b ≠ za 2 → b ≠ za 3 → am_u (am_u g (za 2) 3 (nI (A.tn + 1))) (za 3) A.tn (nI y) b k = h b k := fun b k q1 q2 => by rw [au_a q2, au_a q1, r4 _ _ q2]
  have r7 : am_by (am_u (am_u g (za 2) 3 (nI (A.tn + 1))) (za 3) A.tn (nI y) (za 3)) g2.2.2.2.1 = true := by_iff.mpr (fun k hk => by
    by_cases q : k = A.tn
    · rw [q, au_]
      exact sb_lo y hy
    · rw [au_k q, au_a (ne_za (by omega))]
      exact by_iff.mp r6 k hk)
  refine ⟨am_u (am_u g (za 2) 3 (nI (A.tn + 1))) (za 3) A.tn (nI y), g2, rfl, H.t f ?_ ?_ (fun k hk => ?_) ⟨r1, r2, r7⟩, fC_t f, r3⟩
  · rw [au_a (ne_za (by omega)), au_k (by omega), e1]
  · rw [au_a (ne_za (by omega)), au_]
  · by_cases q : k = A.tn
    · rw [if_pos q, q, au_]
    · rw [if_neg q, au_k q, au_a (ne_za (by omega)), r5 _ (by omega)]
      exact d3 k (by omega)
theorem C_clear (H : RC A h x) : ∃ h1, sh_J4_setLength_d00df (0 : Int32) h x = some (h1, x) ∧ RC (t0_ A) h1 x ∧ fC_ h h1 := by
  obtain ⟨d1, d2, d3, d4⟩ := H.2.2.2
  have eh : gh h x 0 = h := if_pos (Nat.zero_le _)
  have ex : gx x 0 = x := if_pos (Nat.zero_le _)
  unfold sh_J4_setLength_d00df sh_J5_setLength_d00df
  rw [if_pos (Int32.le_refl _), if_pos ⟨Int32.le_refl _, by decide, d4.2.1, d1, d4.2.2⟩, bs, eh, ex]
  show ∃ h1, ((if 0 ≤ h (za 2) 3 then if h (za 2) 3 ≤ 0 then some (am_u h (za 2) 3 0, x) else some (am_u (am_u h (za 2) 2 (1 : Int32)) (za 2) 3 0, x) else _).bind fun v1 => some (v1.1, v1.2)) = some (h1, x) ∧ _
  rw [d2, if_pos (nI_pos' (by have := d4.1; have := d4.2.1; omega))]
  by_cases q : nI A.tn ≤ 0
  · rw [if_pos q, bs]
    have f : ∀ b k, b ≠ za 2 → b ≠ za 3 → am_u h (za 2) 3 0 b k = h b k := fun b k q1 _ => au_a q1
    exact ⟨am_u h (za 2) 3 0, rfl, H.t f ((au_k (by omega)).trans d1) au_ (fun k hk => absurd hk (Nat.not_lt_zero _)) ⟨Nat.zero_le _, by_eq (a := True) (fun k => au_a (ne_za (by omega))) ⟨trivial, d4.2⟩ |>.2⟩, fC_t f⟩
  · rw [if_neg q, bs]
    have f : ∀ b k, b ≠ za 2 → b ≠ za 3 → am_u (am_u h (za 2) 2 1) (za 2) 3 0 b k = h b k := fun b k q1 _ => (au_a q1).trans (au_a q1)
    exact ⟨am_u (am_u h (za 2) 2 1) (za 2) 3 0, rfl, H.t f ((au_k (by omega)).trans ((au_k (by omega)).trans d1)) au_ (fun k hk => absurd hk (Nat.not_lt_zero _)) ⟨Nat.zero_le _, by_eq (a := True) (fun k => (au_a (ne_za (by omega))).trans (au_a (ne_za (by omega)))) ⟨trivial, d4.2⟩ |>.2⟩, fC_t f⟩
theorem M_put {y : Nat} (hy : y < 128) (hn : A.tn < 200) (H : RM A h) : ∃ h1, sh_X10_writesByte (nI y) h = some h1 ∧ RM (tp_ A y) h1 ∧ fM_ h h1 ∧ h1 (za 195) 0 = h (za 195) 0 := by
  obtain ⟨d1, d2⟩ := H.2.2.2
  have ev : vp_nar .byte (nI y).toInt8.toInt32 = nI y := by
    rw [vp_nar_byte, Int8.toInt8_toInt32]
    exact sb_lo y hy
  unfold sh_X10_writesByte
  rw [d1, nI_clamp (by omega), if_pos ⟨nI_pos' (by omega), by omega⟩, bs, ev, au_a (ne_za (by omega)), d1, nI_1]
  refine ⟨_, rfl, H.t (fun b k q1 q2 => ?_) au_ (fun k hk => ?_), fun b k m => ?_, (au_k (by omega)).trans (au_a (ne_za (by omega)))⟩
  · by_cases e : b = za 195
    · subst e
      rw [au_k (fun q => q2 ⟨rfl, q⟩), au_a q1]
    · rw [au_a e, au_a q1]
  · rw [au_a (ne_za (by omega))]
    by_cases q : k = A.tn
    · rw [if_pos q, q, au_]
    · rw [if_neg q, au_k q]
      exact d2 k (by omega)
  · rw [au_a (fun q => m (Or.inl q)), au_a (fun q => m (by rw [q]; exact Or.inr (Or.inr (Or.inr (Or.inr (Or.inr (Or.inr (Or.inr rfl))))))))]
end TX
