/-! averageWear, litShare: both sides -/
theorem dv_ok (s : Int32) {n : Nat} (h1 : 1 ≤ n) (h2 : n ≤ 80) : FP.ddiv (FP.i2d s) (FP.i2d (nI n)) &&& 0x7fffffffffffffff ≤ 0x7ff0000000000000 := by
  apply nan_b
  have e : FP.Core.decode FP.Core.b64 (FP.ddiv (FP.i2d s) (FP.i2d (nI n))).toNat = FP.Core.quotient FP.Core.b64 (FP.Core.decode FP.Core.b64 (FP.i2d s).toNat) (FP.Core.decode FP.Core.b64 (FP.i2d (nI n)).toNat) := FP.Core.val64_ddiv (FP.i2d s) (FP.i2d (nI n))
  rw [e]
  have hs : FP.Core.Whole s.toInt (FP.Core.decode FP.Core.b64 (FP.i2d s).toNat) := FP.Core.i2d_int s
  have hd := dd_t (n - 1) (by omega)
  rw [show n - 1 + 1 = n by omega] at hd
  generalize FP.Core.decode FP.Core.b64 (FP.i2d s).toNat = u at hs
  generalize FP.Core.decode FP.Core.b64 (FP.i2d (nI n)).toNat = v at hd
  cases u with
  | nan => exact hs.elim
  | inf _ => exact hs.elim
  | fin a c q =>
    cases v with
    | nan => cases hd
    | inf _ => cases hd
    | fin t d r =>
      show (if d = 0 then _ else FP.Core.roundRatio FP.Core.b64 (a != t) c d (q - r)) ≠ _
      rw [if_neg (of_decide_eq_true hd)]
      exact rr_n
section AV
variable {A A1 : As_} {hi h : HI} {x : AX} {K G : Nat} {a : Int32} {w : Wd}
def CkD (A' : As_) (S : Option (Int32 × HI × AX)) (hi : HI) (x : AX) (code : Int32) (v : UInt64) : Prop := ∃ h1 x1, S = some (code, h1, x1) ∧ (code = 0 → x1.2.2.1 = v) ∧ RC A' h1 x1 ∧ fC_ hi h1 ∧ XB x x1
def MkD {τ : Type} (A' : As_) (S : Option (τ × HI)) (hi : HI) (code : Int32) (v : τ) : Prop := ∃ u h1, S = some (u, h1) ∧ h1 (za 195) 0 = code ∧ (code = 0 → u = v) ∧ RM A' h1 ∧ fM_ hi h1
theorem XB.d {v : UInt64} : XB x (xd x v) := ⟨rfl, Nat.le_add_right _ _, Nat.le_add_right _ _⟩
def p_avg (w : Wd) : UInt64 := FP.ddiv (FP.i2d (p_sum w 324 (p_rc w))) (FP.i2d (nI (p_rc w)))
theorem rc4 {B e : Nat} (h : ib_ K B e w) : 1 ≤ p_rc w := by
  have hr := h.1.r
  have hc := h.1.c
  have : 2 * 2 ≤ nn w 0 * nn w 1 := Nat.mul_le_mul hr.2.1 hc.2.1
  show 1 ≤ nn w 0 * nn w 1
  omega
theorem Cf_averageWear (hO : Ok_ K A) (H : RC A hi x) : CkD A (sh_L_averageWear hi x) hi x (lc_ A) (p_avg A.w) := by
  unfold sh_L_averageWear sh_X9_averageWear
  rw [rq_ H]
  cases e : A.ld with
  | false =>
    rw [lc_f e]
    exact ⟨hi, _, rfl, fun q => absurd q (by decide), H.cx rfl, fC_.refl hi, XB.c⟩
  | true =>
    have hI := hO.ib e
    have h80 := rc80 hI
    have h4 := rc4 hI
    have es : sh_sum (wa 0 11) 80 hi = p_sum A.w 324 (p_rc A.w) := by
      rw [← sum80 hI]
      exact sum_e 80 (fun k hk => by rw [vr_wear 0 hi hk, H.vw e])
    rw [lc_t e]
    show CkD A (bW (if sh_X8_tileCount 0 hi ≤ 0 then some (Sum.inl FP.dconst0) else if FP.ddiv (FP.i2d (sh_sum (wa 0 11) 80 hi)) (FP.i2d (sh_X8_tileCount 0 hi)) &&& 0x7fffffffffffffff ≤ 0x7ff0000000000000 then some (Sum.inl (FP.ddiv (FP.i2d (sh_sum (wa 0 11) 80 hi)) (FP.i2d (sh_X8_tileCount 0 hi)))) else none) _ _) hi x 0 _
    rw [C_tiles (by rw [H.vw e]; exact hI.1), H.vw e, es, if_neg (nI_nle (by omega) (by omega)), if_pos (dv_ok _ h4 h80)]
    exact ⟨hi, _, rfl, fun _ => rfl, H.cx rfl, fC_.refl hi, XB.d⟩
theorem Mf_averageWear (hG : 501 < G) (hO : Ok_ K A) (H : RM A hi) : MkD A (sh_X10_averageWear G hi) hi (lc_ A) (p_avg A.w) := by
  unfold sh_X10_averageWear
  rw [M_mayLook H, bs]
  cases e : A.ld with
  | false =>
    rw [lc_f e]
    exact ⟨FP.dconst0, am_u hi (za 195) 0 1, rfl, au_, fun q => absurd q (by decide), H.u0, (fM_.refl hi).u0⟩
  | true =>
    have hI := hO.ib e
    have h80 := rc80 hI
    have h4 := rc4 hI
    have hw : mw_ (am_u hi (za 195) 0 0) = A.w := mw_u0.trans (H.mw e)
    rw [lc_t e]
    show MkD A ((sh_X10_allWear G (am_u hi (za 195) 0 0)).bind fun v2 => (sh_X10_tiles (am_u hi (za 195) 0 0)).bind fun v3 => if FP.ddiv (FP.i2d v2) (FP.i2d v3) &&& 0x7fffffffffffffff ≤ 0x7ff0000000000000 then some (FP.ddiv (FP.i2d v2) (FP.i2d v3), am_u hi (za 195) 0 0) else none) hi 0 _
    rw [M_allWear hG hw hI, bs, M_tiles (by rw [hw]; exact hI.1), bs, hw, if_pos (dv_ok _ h4 h80)]
    exact ⟨_, _, rfl, au_, fun _ => rfl, H.u0, (fM_.refl hi).u0⟩
def p_ln (w : Wd) : Nat → Nat
  | 0 => 0
  | k + 1 => p_ln w k + (if p_lit w k = true then 1 else 0)
theorem p_ln_le : ∀ n, p_ln w n ≤ n
  | 0 => Nat.le_refl _
  | n + 1 => by
    have := p_ln_le n
    show p_ln w n + (if p_lit w n = true then 1 else 0) ≤ n + 1
    split <;> omega
def p_shr (w : Wd) : UInt32 := FP.fdiv (FP.i2f (nI (p_ln w (p_rc w)))) (FP.i2f (nI (p_rc w)))
theorem shr_ok {B e : Nat} (h : ib_ K B e w) : p_shr w &&& 0x7fffffff ≤ 0x7f800000 ∧ FP.f2d (p_shr w) &&& 0x7fffffffffffffff ≤ 0x7ff0000000000000 := by
  have h80 := rc80 h
  have h4 := rc4 h
  have hl := p_ln_le (w := w) (p_rc w)
  have q := fl_t (p_ln w (p_rc w)) (by omega) (p_rc w - 1) (by omega)
  rw [show p_rc w - 1 + 1 = p_rc w by omega] at q
  exact q
theorem C_ls {B : Nat} (hG : 501 < G) (hI : ib_ K B 0 w) (hv : vw_ 0 hi = w) : ∀ f k F, k + f = p_rc w → f < F → sh_X9_litShare_16 G hi F (nI (p_rc w)) (nI (p_ln w k)) (nI k) = some (Sum.inl (p_shr w)) := fun f => by
  have h80 := rc80 hI
  have h4 := rc4 hI
  induction f with
  | zero =>
    intro k F hk hF
    obtain ⟨F, rfl⟩ : ∃ F2, F = F2 + 1 := ⟨F - 1, by omega⟩
    show sh_X9_litShare_16_b G hi (sh_X9_litShare_16 G hi F) (nI (p_rc w)) (nI (p_ln w k)) (nI k) = _
    unfold sh_X9_litShare_16_b
    obtain rfl : k = p_rc w := by omega
    rw [if_pos (Int32.le_refl _), if_neg (nI_nle (by omega) (by omega))]
    exact if_pos (shr_ok hI).1
  | succ f ih =>
    intro k F hk hF
    obtain ⟨F, rfl⟩ : ∃ F2, F = F2 + 1 := ⟨F - 1, by omega⟩
    show sh_X9_litShare_16_b G hi (sh_X9_litShare_16 G hi F) (nI (p_rc w)) (nI (p_ln w k)) (nI k) = _
    unfold sh_X9_litShare_16_b
    have g := ih (k + 1) F (by omega) (by omega)
    have e1 : p_ln w (k + 1) = p_ln w k + (if p_lit w k = true then 1 else 0) := rfl
    rw [e1] at g
    rw [if_neg (nI_ge (by omega) (by omega)), C_lit (by rw [hv]; exact hI.1) (by rw [hv]; exact (i7b hI).1) (by rw [hv]; exact (i7b hI).2) (by omega) (by omega), bs, hv, eq_of]
    by_cases c : p_lit w k = true
    · rw [if_pos c] at g
      rw [if_pos c, nI_1, nI_1]
      exact g
    · rw [if_neg c] at g
      rw [if_neg c, nI_1]
      exact g
theorem Cf_litShare (hG : 501 < G) (hO : Ok_ K A) (H : RC A hi x) : CkD A (sh_L_litShare G hi x) hi x (lc_ A) (FP.f2d (p_shr A.w)) := by
  unfold sh_L_litShare sh_X9_litShare
  rw [rq_ H]
  cases e : A.ld with
  | false =>
    rw [lc_f e]
    exact ⟨hi, _, rfl, fun q => absurd q (by decide), H.cx rfl, fC_.refl hi, XB.c⟩
  | true =>
    have hI := hO.ib e
    have h80 := rc80 hI
    have q := C_ls (G := G) hG hI (H.vw e) (p_rc A.w) 0 G (by omega) (by omega)
    rw [lc_t e]
    show CkD A (bW (sh_X9_litShare_16 G hi G (sh_X8_tileCount 0 hi) (nI (p_ln A.w 0)) (nI 0)) _ _) hi x 0 _
    rw [C_tiles (by rw [H.vw e]; exact hI.1), H.vw e, q]
    show CkD A (if FP.f2d (p_shr A.w) &&& 0x7fffffffffffffff ≤ 0x7ff0000000000000 then some ((0 : Int32), hi, xd x (FP.f2d (p_shr A.w))) else none) hi x 0 _
    rw [if_pos (shr_ok hI).2]
    exact ⟨hi, _, rfl, fun _ => rfl, H.cx rfl, fC_.refl hi, XB.d⟩
theorem M_lm {B : Nat} (hG : 501 < G) (hI : ib_ K B 0 w) (hv : mw_ h = w) : ∀ f k F, k + f = p_rc w → f < F → sh_X10_litMany_4 G h F (nI (p_ln w k)) (nI k) = some (nI (p_ln w (p_rc w))) := fun f => by
  have h80 := rc80 hI
  have hcu : cu_ w := hI.2.2.2.2.2.2.2.2.2.2.2.1
  induction f with
  | zero =>
    intro k F hk hF
    obtain ⟨F, rfl⟩ : ∃ F2, F = F2 + 1 := ⟨F - 1, by omega⟩
    show sh_X10_litMany_4_b G h (sh_X10_litMany_4 G h F) (nI (p_ln w k)) (nI k) = _
    unfold sh_X10_litMany_4_b
    rw [M_tiles (by rw [hv]; exact hI.1), bs, hv, if_pos (nI_le (by omega) (by omega)), show k = p_rc w by omega]
  | succ f ih =>
    intro k F hk hF
    obtain ⟨F, rfl⟩ : ∃ F2, F = F2 + 1 := ⟨F - 1, by omega⟩
    show sh_X10_litMany_4_b G h (sh_X10_litMany_4 G h F) (nI (p_ln w k)) (nI k) = _
    unfold sh_X10_litMany_4_b
    have g := ih (k + 1) F (by omega) (by omega)
    have e1 : p_ln w (k + 1) = p_ln w k + (if p_lit w k = true then 1 else 0) := rfl
    rw [e1] at g
    rw [M_tiles (by rw [hv]; exact hI.1), bs, hv, if_neg (nI_ge (by omega) (by omega)), M_lit (by rw [hv]; exact hI.1) (by rw [hv]; exact hcu) (by rw [hv]; exact (i7b hI).1) (by rw [hv]; exact (i7b hI).2) (by omega) (by omega), bs, hv, nI_1]
    by_cases c : p_lit w k = true
    · rw [if_pos c, ← nI_1] at g
      rw [c]
      exact g
    · rw [if_neg c] at g
      have c : p_lit w k = false := by
        cases q : p_lit w k with
        | true => exact absurd q c
        | false => rfl
      rw [c, show sh_X10_one (b2 false) = 0 from rfl, Int32.add_zero]
      exact g
theorem Mf_litShare (hG : 501 < G) (hO : Ok_ K A) (H : RM A hi) : MkD A (sh_X10_litShare G hi) hi (lc_ A) (p_shr A.w) := by
  unfold sh_X10_litShare
  rw [M_mayLook H, bs]
  cases e : A.ld with
  | false =>
    rw [lc_f e]
    exact ⟨FP.fconst0, am_u hi (za 195) 0 1, rfl, au_, fun q => absurd q (by decide), H.u0, (fM_.refl hi).u0⟩
  | true =>
    have hI := hO.ib e
    have h80 := rc80 hI
    have hw : mw_ (am_u hi (za 195) 0 0) = A.w := mw_u0.trans (H.mw e)
    have q : sh_X10_litMany G (am_u hi (za 195) 0 0) = some (nI (p_ln A.w (p_rc A.w))) := M_lm (G := G) hG hI hw (p_rc A.w) 0 G (by omega) (by omega)
    rw [lc_t e]
    show MkD A ((sh_X10_litMany G (am_u hi (za 195) 0 0)).bind fun v2 => (sh_X10_tiles (am_u hi (za 195) 0 0)).bind fun v3 => if FP.fdiv (FP.i2f v2) (FP.i2f v3) &&& 0x7fffffff ≤ 0x7f800000 then some (FP.fdiv (FP.i2f v2) (FP.i2f v3), am_u hi (za 195) 0 0) else none) hi 0 _
    rw [q, bs, M_tiles (by rw [hw]; exact hI.1), bs, hw]
    have g : FP.fdiv (FP.i2f (nI (p_ln A.w (p_rc A.w)))) (FP.i2f (nI (p_rc A.w))) &&& 0x7fffffff ≤ 0x7f800000 := (shr_ok hI).1
    rw [if_pos g]
    exact ⟨_, _, rfl, au_, fun _ => rfl, H.u0, (fM_.refl hi).u0⟩
end AV
