/-! the setup's text as a list of bytes -/
abbrev Sw (w : Nat) : List Nat := am_str.getD w []
def nv (y : Int32) : Nat := y.toNatClampNeg
theorem nv_n {m : Nat} (h : m < 2 ^ 31) : nv (nI m) = m := nI_clamp h
theorem nv_e {y : Int32} {m : Nat} (e : y = nI m) (h : m < 2 ^ 31) : y = nI (nv y) := by rw [e, nv_n h]
/-- the first settings: fields f, faces right -/
def tx0 (f : Nat → Nat) (rg : Bool) : List Nat := Sw 37 ++ dec (f 0) ++ [32] ++ dec (f 1) ++ Sw 38 ++ dec (f 2) ++ Sw 39 ++ dec (f 3) ++ Sw 40 ++ dec (f 4) ++ Sw 41 ++ dec (f 5) ++ Sw 42 ++ dec (f 6) ++ Sw 43 ++ dec (f 7) ++ Sw 44 ++ dec (f 8) ++ Sw 45 ++ dec (f 11) ++ Sw (if rg = true then 46 else 47) ++ Sw 48 ++ dec (f 19)
def mvw (m : Nat) : Nat := if m = 0 then 49 else if m = 1 then 50 else if m = 2 then 51 else if m = 3 then 47 else 46
def txR (rt : Nat → Nat) : Nat → Nat → List Nat
  | 0, _ => []
  | n + 1, j => Sw (mvw (rt j)) ++ txR rt n (j + 1)
def txC (cl dr : Nat → Nat) : Nat → Nat → List Nat
  | 0, _ => []
  | n + 1, j => (if cl j = 0 then [] else Sw 52 ++ dec j) ++ ((if dr j = 0 then [] else Sw 53 ++ dec j ++ [32] ++ dec (dr j)) ++ txC cl dr n (j + 1))
def txK (a : Nat) : Nat → List Nat
  | 0 => []
  | _ + 1 => Sw 54 ++ dec a ++ [32] ++ dec (a + 1)
def txG (ru : Nat → Nat) : Nat → Nat → List Nat
  | 0, _ => []
  | n + 1, t => (if ru t = 0 then [] else Sw 55 ++ dec t) ++ txG ru n (t + 1)
def txE (sp row tm : Nat) : List Nat := Sw 56 ++ dec sp ++ Sw 57 ++ dec row ++ Sw 58 ++ dec tm ++ Sw 59
/-- the builder b holds L; since h0, x0 nothing below n changed -/
def TXs (n b : Nat) (L : List Nat) (k : Nat) (h0 : HI) (x0 : AX) (h : HI) (x : AX) : Prop := SB n b L h x ∧ Z_ h x ∧ FrN n k h0 x0 h x
section TXS
variable {n b k G m : Nat} {L : List Nat} {h0 h h1 : HI} {x0 x x1 : AX} {ρ : Type} {P : ρ → Prop} {T : Nat → HI → AX → Option ρ}
theorem gd_S {w : Nat} (t : TXs n b L k h0 x0 h x) (hw : w < 60) (hL : L.length + (Sw w).length ≤ 400) (nx : ∀ h x, TXs n b (L ++ Sw w) (k + 1) h0 x0 h x → Gd (T b h x) P) : Gd (cB3 (sl_J4_append_15ec4 b w h x) T) P := by
  obtain ⟨h1, x1, e, s, z, f⟩ := K_apS hw hL t.2.1 t.1
  rw [e, cB3_]
  exact nx h1 x1 ⟨s, z, t.2.2.trans f⟩
theorem gd_C {c : Nat} {v : Int32} (t : TXs n b L k h0 x0 h x) (e : v = nI c) (hc : c < 128) (hL : L.length + 1 ≤ 400) (nx : ∀ h x, TXs n b (L ++ [c]) (k + 1) h0 x0 h x → Gd (T b h x) P) : Gd (cB3 (sl_J4_append_cf468 b v h x) T) P := by
  subst e
  obtain ⟨h1, x1, e, s, z, f⟩ := K_apC hc hL t.2.1 t.1
  rw [e, cB3_]
  exact nx h1 x1 ⟨s, z, t.2.2.trans f⟩
theorem gd_A {v : Int32} (hG : 3 ≤ G) (t : TXs n b L k h0 x0 h x) (e : v = nI m) (hm : m < 100) (hL : L.length + 2 ≤ 400) (nx : ∀ h x, TXs n b (L ++ dec m) (k + 1) h0 x0 h x → Gd (T b h x) P) : Gd (cB3 (sl_J4_append_bf812 G b v h x) T) P := by
  subst e
  obtain ⟨h1, x1, e, s, z, f⟩ := K_apI hG hm hL t.2.1 t.1
  rw [e, cB3_]
  exact nx h1 x1 ⟨s, z, t.2.2.trans f⟩
theorem TXs.hh (t : TXs n b L k h0 x0 h x) {K i j : Nat} (q : i < n) : h (da K i) j = h0 (da K i) j := t.2.2.1 _ _ (lo_d q)
theorem TXs.r (t : TXs n b L k h0 x0 h x) {K i j : Nat} (q : i < n) : rdx x (da K i) j = rdx x0 (da K i) j := t.2.2.2.1 _ _ (lo_d q)
theorem TXs.l (t : TXs n b L k h0 x0 h x) {i : Nat} (q : i < n) : lnx x i = lnx x0 i := t.2.2.2.2.1 i q
theorem TXs.len (t : TXs n b L k h0 x0 h x) : L.length ≤ 802 := by
  obtain ⟨v, -, ⟨a, b⟩, -⟩ := t.1
  omega
/-- a new builder -/
theorem K_sb0 (hx : ndx x = n) (Z : Z_ h x) {T : HI → AX → Option ρ} (nx : ∀ h1 x1, TXs n n (Sw 37) 3 h x h1 x1 → Gd (T h1 x1) P) : Gd (cAx (xm x 1 (am_nfs 1)) fun x1 => cB2 (sl_J4_init_a7421 (ndx x) 37 h x1) T) P := by
  rw [cAx_]
  unfold sl_J4_init_a7421 sl_J5_init_a7421
  have e1 : uI0 (some (sh_slen 37)) h (xm x 1 (am_nfs 1)) = some (nI 6, h, xm x 1 (am_nfs 1)) := rfl
  rw [e1, cB3_, if_neg (by decide)]
  unfold sl_J5_init_a7421_24
  have e2 : uI0 (some 0) h (xm x 1 (am_nfs 1)) = some ((0 : Int32), h, xm x 1 (am_nfs 1)) := rfl
  rw [e2, cB3_, if_pos (by decide), cH_, if_neg (by decide), show nI 6 + 16 = nI 22 from rfl, cMk_ (by omega)]
  unfold sl_J5_init_a7421_53 sl_J4_append_cf1ce
  rw [cAx_, hx]
  have n1 : ndx (xm x 1 (am_nfs 1)) = n + 1 := by show ndx x + 1 = n + 1; omega
  rw [n1]
  generalize hx5 : xr (xm (xm x 1 (am_nfs 1)) 101 22) (da 1 n) 0 (dr 101 (n + 1)) = x5
  have nd : ndx x5 = n + 2 := by rw [← hx5]; show ndx x + 1 + 1 = n + 2; omega
  have r5 : rdx x5 (da 1 n) 0 = dr 101 (n + 1) := by
    rw [← hx5]
    show am_u (rdx x) (da 1 n) 0 (dr 101 (n + 1)) (da 1 n) 0 = dr 101 (n + 1)
    exact gu_
  have l5 : lnx x5 (n + 1) = 22 := by
    rw [← hx5]
    show (if n + 1 = ndx x + 1 then 22 else _) = 22
    rw [if_pos (by omega)]
  have zz := Z (n + 1) (by omega)
  have z0 := Z n (by omega)
  have f5 : FrN n 2 h x (am_u h (da 1 n) 1 0) x5 := by
    rw [← hx5]
    exact (((FrN.u (Nat.le_refl _)).trans (FrN.m (by omega) (by decide))).trans (FrN.m (by show n ≤ ndx x + 1; omega) (by omega))).trans (FrN.r (Nat.le_refl _))
  have S0 : SB n n [] (am_u h (da 1 n) 1 0) x5 := by
    refine ⟨n + 1, ⟨r5, gu_, ?_⟩, ⟨Nat.zero_le _, by rw [l5]; omega⟩, fun i hi => absurd hi (Nat.not_lt_zero i), fun j => ?_, ⟨by omega, by omega⟩, ⟨Nat.le_refl _, by omega⟩, by omega⟩
    · rw [gu_k (by omega)]; exact (z0.1 1 3).1
    · rw [gu_a (da_nK (by omega)), (zz.1 101 j).1]; decide
  have Z5 : Z_ (am_u h (da 1 n) 1 0) x5 := by
    have Zx : Z_ h x5 := by
      rw [← hx5]
      exact Z.m.m.r (show n < ndx x + 1 + 1 by omega)
    exact Zx.u (by omega)
  obtain ⟨h6, x6, e6, s6, z6, f6⟩ := K_apS (w := 37) (by omega) (by decide) Z5 S0
  rw [e6, cB3_, cB3_, cB2_, cB2_]
  exact nx h6 x6 ⟨s6, z6, f5.trans f6⟩
end TXS
