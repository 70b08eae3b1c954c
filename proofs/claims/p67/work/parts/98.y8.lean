/-! the law makes its floor -/
theorem an1 (x : Int32) : ∃ j, j < 2 ∧ x &&& (1 : Int32) = nI j := pk_andE x 1 (by decide)
theorem an3 (x : Int32) : ∃ j, j < 4 ∧ x &&& (3 : Int32) = nI j := pk_andE x 2 (by decide)
theorem an7 (x : Int32) : ∃ j, j < 8 ∧ x &&& (7 : Int32) = nI j := pk_andE x 3 (by decide)
theorem an15 (x : Int32) : ∃ j, j < 16 ∧ x &&& (15 : Int32) = nI j := pk_andE x 4 (by decide)
theorem an31 (x : Int32) : ∃ j, j < 32 ∧ x &&& (31 : Int32) = nI j := pk_andE x 5 (by decide)
def Oi (s : Nat → Prop) (h h1 : HI) : Prop := ∀ a j, (∀ K i, a = da K i → ¬ s i) → h1 a j = h a j
section OI
variable {s t : Nat → Prop} {h h1 h2 : HI}
theorem Oi.refl : Oi s h h := fun _ _ _ => rfl
theorem Oi.trans (a : Oi s h h1) (b : Oi s h1 h2) : Oi s h h2 := fun x j q => (b x j q).trans (a x j q)
theorem Oi.u {K i j : Nat} {v : Int32} (a : Oi s h h1) (q : s i) : Oi s h (am_u h1 (da K i) j v) := fun x k e => (gu_a (fun e2 => e _ _ e2 q)).trans (a x k e)
theorem Oi.d (a : Oi s h h1) {K i j : Nat} (q : ¬ s i) : h1 (da K i) j = h (da K i) j := a _ _ (fun K2 i2 e => by rw [← (da_i e).2]; exact q)
theorem Oi.m (a : Oi s h h1) (f : ∀ i, s i → t i) : Oi t h h1 := fun x j q => a x j (fun K i e c => q K i e (f i c))
end OI
theorem bo0 : vp_nar .boolean (0 : Int32) = 0 := by decide
theorem bo1 : vp_nar .boolean (1 : Int32) = 1 := by decide
/-- how many aren't 0 -/
def cnt (f : Nat → Int32) : Nat → Nat
  | 0 => 0
  | k + 1 => cnt f k + (if f k = 0 then 0 else 1)
theorem cnt_u {f : Nat → Int32} {t : Nat} {v : Int32} : ∀ k, cnt (fun j => if j = t then v else f j) k ≤ cnt f k + 1 ∧ (k ≤ t → cnt (fun j => if j = t then v else f j) k = cnt f k)
  | 0 => ⟨Nat.zero_le _, fun _ => rfl⟩
  | k + 1 => by
    obtain ⟨a, b⟩ := cnt_u (f := f) (t := t) (v := v) k
    have e1 : cnt (fun j => if j = t then v else f j) (k + 1) = cnt (fun j => if j = t then v else f j) k + (if (if k = t then v else f k) = 0 then 0 else 1) := rfl
    have e2 : cnt f (k + 1) = cnt f k + (if f k = 0 then 0 else 1) := rfl
    rw [e1, e2]
    refine ⟨?_, fun h => ?_⟩
    · by_cases c : k = t
      · rw [b (by omega), if_pos c]
        split <;> split <;> omega
      · rw [if_neg c]
        split <;> omega
    · rw [if_neg (show ¬ k = t by omega), b (by omega)]
/-- the floor's numbers, as the text gives them -/
def FRn (r c : Nat) (h : HI) : Prop := (∃ q, 1 ≤ q ∧ q ≤ 4 ∧ h (da 12 1) 2 = nI q) ∧ (∃ q, 1 ≤ q ∧ q ≤ 4 ∧ h (da 12 1) 3 = nI q) ∧ (∃ q, 1 ≤ q ∧ q ≤ 8 ∧ h (da 12 1) 4 = nI q) ∧ (∃ q, q ≤ 3 ∧ h (da 12 1) 5 = nI q) ∧ (∃ q, q ≤ 7 ∧ h (da 12 1) 6 = nI q) ∧ (∃ q, q ≤ 3 ∧ h (da 12 1) 7 = nI q) ∧ (∃ q, 10 ≤ q ∧ q ≤ 41 ∧ h (da 12 1) 8 = nI q) ∧ (∃ q, q < c ∧ h (da 12 1) 11 = nI q) ∧ (h (da 12 1) 21 = 0 ∨ h (da 12 1) 21 = 1)
/-- curtains, draughts, rugs -/
def FRc (h : HI) : Prop := (∀ j, h (da 102 5) j = 0 ∨ h (da 102 5) j = 1) ∧ ∀ j, ∃ q, (q = 0 ∨ (2 ≤ q ∧ q ≤ 5)) ∧ h (da 100 6) j = nI q
def FRg (T : Nat) (h : HI) : Prop := (∀ j, h (da 102 8) j = 0 ∨ h (da 102 8) j = 1) ∧ cnt (h (da 102 8)) T ≤ 2
def FRr (ro R : Nat) (h : HI) : Prop := ∀ j, j < R → ∃ q, q < 5 ∧ h (da 100 ro) j = nI q
def FRk (n kc : Nat) (h : HI) (x : AX) : Prop := 0 < kc → ∃ e p a, rdx x (da 2 3) 1 = dr 104 e ∧ rdx x (da 104 e) 0 = dr 100 p ∧ a ≤ 3 ∧ h (da 100 p) 0 = nI a ∧ h (da 100 p) 1 = nI (a + 1) ∧ 10 < p ∧ p < n
def FLR (ro R r c n kc : Nat) (h : HI) (x : AX) : Prop := INV ro R r c n kc 0 h x ∧ n = ndx x ∧ 11 ≤ n ∧ ro < n ∧ 10 < ro ∧ kc ≤ 1 ∧ FRn r c h ∧ FRc h ∧ FRg (r * c) h ∧ FRr ro R h ∧ FRk n kc h x
/-- the floor but for the route -/
def FS0 (r c : Nat) (x : AX) : Prop := (rdx x (da 12 1) 23 = dr 102 5 ∧ lnx x 5 = c) ∧ (rdx x (da 12 1) 26 = dr 100 6 ∧ lnx x 6 = c) ∧ (rdx x (da 12 1) 24 = dr 102 7 ∧ lnx x 7 = r * c) ∧ (rdx x (da 12 1) 25 = dr 102 8 ∧ lnx x 8 = r * c) ∧ (rdx x (da 12 1) 27 = dr 100 9 ∧ lnx x 9 = r * c) ∧ (rdx x (da 12 1) 28 = dr 100 10 ∧ lnx x 10 = r * c) ∧ rdx x (da 12 1) 29 = dr 2 3 ∧ rdx x (da 12 1) 30 = dr 2 4
section FLM
variable {r c R ro G n kc : Nat} {hi h1 h : HI} {x : AX}
theorem FRn.o (H : FRn r c h) (e : ∀ j, 1 < j → j < 22 → j ≠ 19 → j ≠ 20 → h1 (da 12 1) j = h (da 12 1) j) : FRn r c h1 := by
  obtain ⟨a1, a2, a3, a4, a5, a6, a7, a8, a9⟩ := H
  refine ⟨?_, ?_, ?_, ?_, ?_, ?_, ?_, ?_, ?_⟩
  · rw [e 2 (by omega) (by omega) (by omega) (by omega)]; exact a1
  · rw [e 3 (by omega) (by omega) (by omega) (by omega)]; exact a2
  · rw [e 4 (by omega) (by omega) (by omega) (by omega)]; exact a3
  · rw [e 5 (by omega) (by omega) (by omega) (by omega)]; exact a4
  · rw [e 6 (by omega) (by omega) (by omega) (by omega)]; exact a5
  · rw [e 7 (by omega) (by omega) (by omega) (by omega)]; exact a6
  · rw [e 8 (by omega) (by omega) (by omega) (by omega)]; exact a7
  · rw [e 11 (by omega) (by omega) (by omega) (by omega)]; exact a8
  · rw [e 21 (by omega) (by omega) (by omega) (by omega)]; exact a9
/-- rugs -/
theorem K_f404 (hG : 100 < G) (F : FS ro R r c x) {P : Nat × HI × AX → Prop} (hc : 2 ≤ r ∧ r ≤ 3 ∧ 2 ≤ c ∧ c ≤ 5) (f0 : hi (da 12 1) 0 = nI r) (f1 : hi (da 12 1) 1 = nI c) {v : Int32} (hr : ∀ h, Oi (fun i => i = 8) hi h → FRg (r * c) h → P (1, h, x)) : ∀ q f j h, j + q = 2 → q < f → Oi (fun i => i = 8) hi h → (∀ i, h (da 102 8) i = 0 ∨ h (da 102 8) i = 1) → cnt (h (da 102 8)) (r * c) ≤ j → Gd (sl_L_floor_404 G f 1 v (nI j) h x) P := fun q => by
  have hT : 4 ≤ r * c ∧ r * c ≤ 15 := ⟨Nat.mul_le_mul hc.1 hc.2.2.1, Nat.mul_le_mul hc.2.1 hc.2.2.2⟩
  have F8 := F.2.2.2.2.1
  induction q with
  | zero =>
    intro f j h hj hf o hb hn
    obtain ⟨f, rfl⟩ : ∃ g, f = g + 1 := ⟨f - 1, by omega⟩
    show Gd (sl_L_floor_404_b G (sl_L_floor_404 G f) 1 v (nI j) h x) P
    unfold sl_L_floor_404_b
    rw [if_pos (show (2 : Int32) ≤ nI j from nI_le (a := 2) (by omega) (by omega))]
    exact gd_ret (hr h o ⟨hb, by omega⟩)
  | succ q ih =>
    intro f j h hj hf o hb hn
    obtain ⟨f, rfl⟩ : ∃ g, f = g + 1 := ⟨f - 1, by omega⟩
    show Gd (sl_L_floor_404_b G (sl_L_floor_404 G f) 1 v (nI j) h x) P
    unfold sl_L_floor_404_b
    have g0 : h (da 12 1) 0 = nI r := (o.d (by omega)).trans f0
    have g1 : h (da 12 1) 1 = nI c := (o.d (by omega)).trans f1
    rw [if_neg (show ¬ (2 : Int32) ≤ nI j from nI_ge (b := 2) (by omega) (by omega))]
    refine gd_D F8.1 ?_
    rw [K_tiles g0 g1, cB3_]
    obtain ⟨y, hy, ey⟩ := an15 (v.toUInt32 >>> (((7 : Int32) + ((4 : Int32) * nI j)).toUInt32 &&& Int32.toUInt32 31)).toInt32
    rw [ey, pk_rem (by omega) (by omega) (by omega), nI_1, F8.2]
    refine gd_N (nI_ne0 (by omega) (by omega)) (gd_i rfl (Nat.mod_lt _ (by omega)) (by omega) (gd_H (fun k e => ?_)))
    have ht := Nat.mod_lt y (show 0 < r * c by omega)
    rw [nI_clamp (by omega), bo1] at e
    have ek : k (da 102 8) = fun i => if i = y % (r * c) then 1 else h (da 102 8) i := funext fun i => by
      rw [e]
      by_cases q2 : i = y % (r * c)
      · rw [if_pos q2, q2, gu_]
      · rw [if_neg q2, gu_k q2]
    refine ih f (j + 1) k (by omega) (by omega) (by rw [e]; exact o.u rfl) (fun i => ?_) ?_
    · rw [ek]
      show (if i = y % (r * c) then (1 : Int32) else h (da 102 8) i) = 0 ∨ (if i = y % (r * c) then (1 : Int32) else h (da 102 8) i) = 1
      by_cases q2 : i = y % (r * c)
      · rw [if_pos q2]; exact Or.inr rfl
      · rw [if_neg q2]; exact hb i
    · rw [ek]
      have := (cnt_u (f := h (da 102 8)) (t := y % (r * c)) (v := (1 : Int32)) (r * c)).1
      omega
/-- the route -/
theorem K_f363 (hG : 100 < G) (F : FS ro R r c x) (hro : 10 < ro) {P : Nat × HI × AX → Prop} (hc : 2 ≤ r ∧ r ≤ 3 ∧ 2 ≤ c ∧ c ≤ 5) (hs : slx x < 2 ^ 31) (f0 : hi (da 12 1) 0 = nI r) (f1 : hi (da 12 1) 1 = nI c) {v : Int32} (b0 : ∀ i, hi (da 102 8) i = 0) (hr : ∀ h, Oi (fun i => i = 8 ∨ i = ro) hi h → FRg (r * c) h → FRr ro R h → P (1, h, x)) : ∀ q f j h, j + q = R → q < f → Oi (fun i => i = ro) hi h → FRr ro j h → Gd (sl_L_floor_363 G f 1 v (nI j) h x) P := fun q => by
  have F1' := F.1
  induction q with
  | zero =>
    intro f j h hj hf o hb
    obtain ⟨f, rfl⟩ : ∃ g, f = g + 1 := ⟨f - 1, by omega⟩
    show Gd (sl_L_floor_363_b G (sl_L_floor_363 G f) 1 v (nI j) h x) P
    unfold sl_L_floor_363_b
    refine gd_D F1'.1 ?_
    rw [F1'.2.1, if_pos (nI_le (by omega) (by omega))]
    refine K_f404 hG F hc ((o.d (by omega)).trans f0) ((o.d (by omega)).trans f1) (fun h2 o2 g2 => hr h2 ((o.m (fun i q => Or.inr q)).trans (o2.m (fun i q => Or.inl q))) g2 (fun i hi2 => ?_)) 2 G 0 h (by omega) (by omega) Oi.refl (fun i => Or.inl ((o.d (by omega)).trans (b0 i))) ?_
    · rw [o2.d (by omega)]
      exact hb i (by omega)
    · have : ∀ k, cnt (h (da 102 8)) k = 0 := fun k => by
        induction k with
        | zero => rfl
        | succ k ih =>
          show cnt (h (da 102 8)) k + (if h (da 102 8) k = 0 then 0 else 1) = 0
          rw [ih, if_pos ((o.d (by omega)).trans (b0 k))]
      rw [this]
      exact Nat.le_refl _
  | succ q ih =>
    intro f j h hj hf o hb
    obtain ⟨f, rfl⟩ : ∃ g, f = g + 1 := ⟨f - 1, by omega⟩
    show Gd (sl_L_floor_363_b G (sl_L_floor_363 G f) 1 v (nI j) h x) P
    unfold sl_L_floor_363_b
    have hR := F1'.2.2
    refine gd_D F1'.1 ?_
    rw [F1'.2.1, if_neg (nI_ge (show j < R by omega) (by omega)), nI_1]
    refine gd_D F1'.1 ?_
    obtain ⟨z, ez⟩ := K_cell (hi := h) (x := x) (k := 4) (by omega) hs
    have ez : sl_L_cell (4 : Int32) h x = some (z, h, x) := ez
    rw [ez, cB3_]
    refine gd_j rfl F1'.2.1 (by omega) (by omega) (gd_H (fun k e => ?_))
    obtain ⟨y, hy, ey⟩ := an7 (z.toUInt32 >>> (((3 : Int32) * nI j).toUInt32 &&& Int32.toUInt32 31)).toInt32
    rw [ey, show (5 : Int32) = nI 5 from rfl, pk_rem (by omega) (by omega) (by omega), nI_clamp (by omega)] at e
    refine ih f (j + 1) k (by omega) (by omega) (by rw [e]; exact o.u rfl) (fun i hi2 => ?_)
    rw [e]
    by_cases q2 : i = j
    · rw [q2, gu_]
      exact ⟨_, Nat.mod_lt _ (by omega), rfl⟩
    · rw [gu_k q2]
      exact hb i (by omega)
/-- curtains and draughts -/
theorem K_f218 (hG : 100 < G) (F : FS0 r c x) {P : Nat × HI × AX → Prop} (hc : 2 ≤ r ∧ r ≤ 3 ∧ 2 ≤ c ∧ c ≤ 5) (f1 : hi (da 12 1) 1 = nI c) {v u : Int32} (hr : ∀ h, Oi (fun i => i = 5 ∨ i = 6) hi h → FRc h → Gd (sl_L_floor_218_b G (fun _ _ _ _ _ _ => none) 1 v u (nI c) h x) P) : ∀ q f j h, j + q = c → q < f → Oi (fun i => i = 5 ∨ i = 6) hi h → FRc h → Gd (sl_L_floor_218 G f 1 v u (nI j) h x) P := fun q => by
  induction q with
  | zero =>
    intro f j h hj hf o hb
    obtain ⟨f, rfl⟩ : ∃ g, f = g + 1 := ⟨f - 1, by omega⟩
    have h2 := hr h o hb
    obtain rfl : j = c := by omega
    show Gd (sl_L_floor_218_b G (sl_L_floor_218 G f) 1 v u (nI j) h x) P
    unfold sl_L_floor_218_b at h2 ⊢
    have g1 : h (da 12 1) 1 = nI j := (o.d (by omega)).trans f1
    rw [g1, if_pos (nI_le (Nat.le_refl _) (by omega))] at h2 ⊢
    exact h2
  | succ q ih =>
    intro f j h hj hf o hb
    obtain ⟨f, rfl⟩ : ∃ g, f = g + 1 := ⟨f - 1, by omega⟩
    show Gd (sl_L_floor_218_b G (sl_L_floor_218 G f) 1 v u (nI j) h x) P
    unfold sl_L_floor_218_b
    have g1 : h (da 12 1) 1 = nI c := (o.d (by omega)).trans f1
    rw [g1, if_neg (nI_ge (show j < c by omega) (by omega))]
    refine gd_D F.1.1 ?_
    have h250 : ∀ t : Int32, (t = 0 ∨ t = 1) → Gd (sl_L_floor_250 G (sl_L_floor_218 G f) 1 v u (nI j) t (nI j) 5 h x) P := fun t ht => by
      unfold sl_L_floor_250
      rw [nI_1]
      refine gd_j rfl F.1.2 (by omega) (by omega) (gd_H (fun k e => ?_))
      rw [nI_clamp (by omega)] at e
      have hk : FRc k := by
        refine ⟨fun i => ?_, fun i => ?_⟩
        · rw [e]
          by_cases q2 : i = j
          · rw [q2, gu_]
            rcases ht with rfl | rfl
            · exact Or.inl bo0
            · exact Or.inr bo1
          · rw [gu_k q2]; exact hb.1 i
        · rw [e, gu_a (da_ni (by omega))]; exact hb.2 i
      have ok : Oi (fun i => i = 5 ∨ i = 6) hi k := by rw [e]; exact o.u (Or.inl rfl)
      refine gd_I (fun _ => ih f (j + 1) k (by omega) (by omega) ok hk) (fun _ => gd_D F.2.1.1 (gd_j rfl F.2.1.2 (by omega) (by omega) (gd_H (fun k2 e2 => ?_))))
      obtain ⟨y, hy, ey⟩ := an3 (v.toUInt32 >>> ((nI j).toUInt32 &&& Int32.toUInt32 31)).toInt32
      rw [ey, show (2 : Int32) = nI 2 from rfl, nI_add, nI_clamp (by omega)] at e2
      refine ih f (j + 1) k2 (by omega) (by omega) (by rw [e2]; exact ok.u (Or.inr rfl)) ⟨fun i => ?_, fun i => ?_⟩
      · rw [e2, gu_a (da_ni (by omega))]; exact hk.1 i
      · rw [e2]
        by_cases q2 : i = j
        · rw [q2, gu_]; exact ⟨2 + y, Or.inr (by omega), rfl⟩
        · rw [gu_k q2]; exact hk.2 i
    exact gd_I (fun _ => h250 0 (Or.inl rfl)) (fun _ => h250 1 (Or.inr rfl))
end FLM
section FLH
variable {r c R ro G n kc q k tg z l p : Nat} {hi h1 h h0 : HI} {x x0 x2 : AX}
theorem FrN.oi {s : Nat → Prop} (o : Oi s hi h) (hs : ∀ i, s i → n ≤ i) : FrN n 0 hi x h x := ⟨fun a j q => o a j (fun K i e e2 => by have := q K i e; have := hs i e2; omega), fun _ _ _ => rfl, fun _ _ => rfl, Nat.le_refl _, rfl, ⟨rfl, rfl, rfl, rfl⟩, Nat.le_refl _, Nat.le_refl _⟩
theorem Oi.Z {s : Nat → Prop} (o : Oi s hi h) (Z : Z_ hi x) (hs : ∀ i, s i → i < ndx x) : Z_ h x := fun i q => ⟨fun K j => ⟨(o.d (fun e => by have := hs i e; omega)).trans ((Z i q).1 K j).1, ((Z i q).1 K j).2⟩, (Z i q).2⟩
/-- a cell is made and the floor names it -/
def MKs (q k tg z : Nat) (x x2 : AX) : Prop := ndx x2 = q + 1 ∧ rdx x2 (da 12 1) k = dr tg q ∧ lnx x2 q = z ∧ (∀ a j, ¬ (a = da 12 1 ∧ j = k) → rdx x2 a j = rdx x a j) ∧ (∀ i, i ≠ q → lnx x2 i = lnx x i) ∧ slx x2 = slx x ∧ (∀ h, Z_ h x → Z_ h x2) ∧ ∀ h, FrN 1 1 h x h x2
theorem mk_s (hq : ndx x = q) (h1 : 1 ≤ q) (hz : z ≤ 1000) (hq2 : 1 < q) : MKs q k tg z x (xr (xm x tg z) (da 12 1) k (dr tg (ndx x))) := by
  subst hq
  exact ⟨rfl, gu_, if_pos rfl, fun a j e => gu_o e, fun i e => if_neg e, rfl, fun h Z => Z.m.r (show 1 < ndx x + 1 by omega), fun h => (FrN.m (by omega) hz).trans (FrN.r (Nat.le_refl _))⟩
theorem gd_MX {ρ : Type} {P : ρ → Prop} {T : AX → Option ρ} (hq : ndx x = q) (hq2 : 1 < q) (hz : z ≤ 1000) (H : ∀ x2, MKs q k tg z x x2 → Gd (T x2) P) : Gd (cMk x tg (nI z) fun x16 => cAx (xr x16 (da 12 1) k (dr tg (ndx x))) fun x17 => T x17) P := by
  rw [cMk_ (by omega), cAx_]
  exact H _ (mk_s hq (by omega) hz hq2)
theorem K_f326 (hG : 100 < G) (hx : 11 ≤ ndx x ∧ ndx x ≤ 20) (hs : slx x < 2 ^ 31) (F : FS0 r c x) {P : Nat × HI × AX → Prop} (hc : 2 ≤ r ∧ r ≤ 3 ∧ 2 ≤ c ∧ c ≤ 5) (f0 : h (da 12 1) 0 = nI r) (f1 : h (da 12 1) 1 = nI c) (f10 : h (da 12 1) 10 = -1) (f20 : h (da 12 1) 20 = 0) (Hn : FRn r c h) (Hc : FRc h) (b0 : ∀ i, h (da 102 8) i = 0) (C : CLs (ndx x) kc h x) (hkc : kc ≤ 1) (Hk : FRk (ndx x) kc h x) (s4 : h (da 2 4) 2 = 0) (r4 : rdx x (da 2 4) 1 = Sum.inr (za 3005)) (Z : Z_ h x) (hP : ∀ ro R h' x', FLR ro R r c (ndx x') kc h' x' → FrN 1 1 h x h' x' → P (1, h', x')) : Gd (sl_L_floor_326 G 1 h x) P := by
  have hT : 4 ≤ r * c ∧ r * c ≤ 15 := ⟨Nat.mul_le_mul hc.1 hc.2.2.1, Nat.mul_le_mul hc.2.1 hc.2.2.2⟩
  unfold sl_L_floor_326
  obtain ⟨v, ev⟩ := K_cell (hi := h) (x := x) (k := 3) (by omega) hs
  have ev : sl_L_cell (3 : Int32) h x = some (v, h, x) := ev
  rw [ev, cB3_, K_tiles f0 f1, cB3_]
  obtain ⟨y, hy, ey⟩ := an15 v
  obtain ⟨R, hR, eR⟩ := an7 (v.toUInt32 >>> ((4 : Int32).toUInt32 &&& Int32.toUInt32 31)).toInt32
  rw [ey, eR, pk_rem (by omega) (by omega) (by omega)]
  refine gd_N (nI_ne0 (by omega) (by omega)) (gd_H (fun k ek => gd_MX (q := ndx x) rfl (by omega) (by omega) (fun x2 M => ?_)))
  obtain ⟨m1, m2, m3, m4, m5, m6, m7, m8⟩ := M
  have oc : ∀ j, j ≠ 19 → k (da 12 1) j = h (da 12 1) j := fun j q => by rw [ek, gu_k q]
  have od : ∀ K i j, i ≠ 1 → k (da K i) j = h (da K i) j := fun K i j q => by rw [ek, gu_a (da_ni q)]
  have g0 := (oc 0 (by omega)).trans f0
  have g1 := (oc 1 (by omega)).trans f1
  obtain ⟨F5, F6, F7, F8, F9, F10, F29, F30⟩ := F
  have rr : ∀ j, j ≠ 22 → rdx x2 (da 12 1) j = rdx x (da 12 1) j := fun j q => m4 _ _ (fun e => q e.2)
  have FX : FS (ndx x) R r c x2 := ⟨⟨m2, m3, hR⟩, ⟨(rr 23 (by omega)).trans F5.1, (m5 5 (by omega)).trans F5.2⟩, ⟨(rr 26 (by omega)).trans F6.1, (m5 6 (by omega)).trans F6.2⟩, ⟨(rr 24 (by omega)).trans F7.1, (m5 7 (by omega)).trans F7.2⟩, ⟨(rr 25 (by omega)).trans F8.1, (m5 8 (by omega)).trans F8.2⟩, ⟨(rr 27 (by omega)).trans F9.1, (m5 9 (by omega)).trans F9.2⟩, ⟨(rr 28 (by omega)).trans F10.1, (m5 10 (by omega)).trans F10.2⟩, (rr 29 (by omega)).trans F29, (rr 30 (by omega)).trans F30⟩
  have Zk : Z_ k x := by rw [ek]; exact Z.u (by omega)
  refine K_f363 hG FX (by omega) hc (by rw [m6]; exact hs) g0 g1 (fun i => (od 102 8 i (by omega)).trans (b0 i)) (fun h' o' Hg Hr => ?_) R G 0 k (by omega) (by omega) Oi.refl (fun i hi2 => absurd hi2 (by omega))
  have p1 : ∀ j, h' (da 12 1) j = k (da 12 1) j := fun j => o'.d (by omega)
  have pd : ∀ K i j, i ≠ 1 → i ≠ 8 → i ≠ ndx x → h' (da K i) j = h (da K i) j := fun K i j q1 q2 q3 => (o'.d (by omega)).trans (od K i j q1)
  have hP2 : FrN 1 1 h x h' x2 := by
    have f1 : FrN 1 0 h x k x := by rw [ek]; exact FrN.u (Nat.le_refl _)
    exact (f1.trans (m8 k)).trans (FrN.oi o' (fun i q => by omega))
  refine hP (ndx x) R h' x2 ⟨⟨⟨hc, (p1 0).trans g0, (p1 1).trans g1, ?_, ?_, Or.inl ?_, ?_, ?_⟩, FX, ⟨(pd 2 3 2 (by omega) (by omega) (by omega)).trans C.1, fun hk => ?_⟩, ⟨⟨(pd 2 4 2 (by omega) (by omega) (by omega)).trans s4, fun q => by omega⟩, fun _ => (m4 _ _ (fun e => by have := (da_i e.1).1; omega)).trans r4, fun q => by omega⟩, o'.Z (m7 k Zk) (fun i q => by omega), Nat.le_refl _⟩, rfl, by omega, by omega, by omega, hkc, ?_, ?_, Hg, Hr, fun hk => ?_⟩ hP2
  · rw [p1 2, oc 2 (by omega)]
    obtain ⟨q, q1, q2, q3⟩ := Hn.1
    rw [q3]
    exact nI_ne0 (by omega) (by omega)
  · rw [p1 3, oc 3 (by omega)]
    obtain ⟨q, q1, q2, q3⟩ := Hn.2.1
    exact ⟨q, q2, q3⟩
  · rw [p1 10, oc 10 (by omega), f10]; decide
  · rw [p1 19, ek, gu_]
    exact ⟨_, Nat.mod_lt _ (by omega), rfl⟩
  · rw [p1 20, oc 20 (by omega), f20]
    by_cases c0 : R = 0
    · exact Or.inl c0
    · exact Or.inr ⟨0, by omega, rfl⟩
  · obtain ⟨e, e1, e2, e3, e4, e5, e6⟩ := C.2 hk
    have n2 : ∀ a j, a ≠ da 12 1 → rdx x2 a j = rdx x a j := fun a j q => m4 _ _ (fun e => q e.1)
    refine ⟨e, (n2 _ _ (da_nK (by omega))).trans e1, by rw [m5 e (by omega)]; exact e2, by rw [m5 e (by omega)]; exact e3, by omega, e5, fun j hj => ?_⟩
    obtain ⟨p, p1, p2, p3⟩ := e6 j hj
    exact ⟨p, (n2 _ _ (da_nK (by omega))).trans p1, (m5 p (by omega)).trans p2, by omega⟩
  · exact Hn.o (fun j q1 q2 q3 q4 => (p1 j).trans (oc j q3))
  · exact ⟨fun j => by rw [pd 102 5 j (by omega) (by omega) (by omega)]; exact Hc.1 j, fun j => by rw [pd 100 6 j (by omega) (by omega) (by omega)]; exact Hc.2 j⟩
  · obtain ⟨e, p, a, e1, e2, e3, e4, e5, e6, e7⟩ := Hk hk
    exact ⟨e, p, a, (m4 _ _ (fun e => by have := (da_i e.1).1; omega)).trans e1, (m4 _ _ (fun e => by have := (da_i e.1).1; omega)).trans e2, e3, (pd 100 p 0 (by omega) (by omega) (by omega)).trans e4, (pd 100 p 1 (by omega) (by omega) (by omega)).trans e5, e6, by omega⟩
/-- a first element of an empty list -/
theorem K_add_e (s3 : rdx x (da 2 l) 1 = Sum.inr (za 3005)) (s1 : h (da 2 l) 2 = 0) : sl_Jx4a65c_add_9ea2d_e l p h x = some ((1 : Int32), am_u (am_u h (da 2 l) 0 (h (da 2 l) 0 + 1)) (da 2 l) 2 (nI 1), xr (xr (xm x 104 10) (da 2 l) 1 (dr 104 (ndx x))) (da 104 (ndx x)) 0 (dr 100 p)) := by
  unfold sl_Jx4a65c_add_9ea2d_e sl_Jx4a65c_add_72be8_e
  have g2 : am_u h (da 2 l) 0 (h (da 2 l) 0 + 1) (da 2 l) 2 = 0 := (gu_k (by omega)).trans s1
  rw [cH_, s3, cE_, g2, if_neg (show ¬ ((0 : Int32) ≠ 0) by decide)]
  have hgr : sl_Jx4a65c_grow_d5877_e l (am_u h (da 2 l) 0 (h (da 2 l) 0 + 1)) x = some (ndx x, am_u h (da 2 l) 0 (h (da 2 l) 0 + 1), xr (xm x 104 10) (da 2 l) 1 (dr 104 (ndx x))) := by
    unfold sl_Jx4a65c_grow_d5877_e sl_Jx4a65c_grow_92f84_e
    rw [g2, s3, cE_, cE_, show (if (10 : Int32) < 0 + 1 then 0 + 1 else (10 : Int32)) = nI 10 by decide, cMk_ (by omega), cAx_, cB3_]
  have l10 : lnx (xr (xm x 104 10) (da 2 l) 1 (dr 104 (ndx x))) (ndx x) = 10 := if_pos rfl
  rw [hgr, cB3_, l10, if_pos (show (0 : Int32) ≤ 0 ∧ (0 : Int32).toNatClampNeg < 10 by decide), cAx_, cH_, cB2_, show (0 : Int32).toNatClampNeg = 0 by decide]
  rfl
end FLH
