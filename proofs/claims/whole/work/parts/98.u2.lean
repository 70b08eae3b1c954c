/-! sums over the tiles: both sides -/
def p_sum (w : Wd) (o : Nat) : Nat → Int32
  | 0 => 0
  | k + 1 => p_sum w o k + w (o + k)
theorem p_sum_z {w : Wd} {o n : Nat} : ∀ m, (∀ k, n ≤ k → k < n + m → w (o + k) = 0) → p_sum w o (n + m) = p_sum w o n
  | 0, _ => rfl
  | m + 1, h => by
    show p_sum w o (n + m) + w (o + (n + m)) = _
    rw [p_sum_z m (fun k a b => h k a (by omega)), h (n + m) (by omega) (by omega), Int32.add_zero]
theorem p_mk_z {w : Wd} {o n : Nat} : ∀ m, (∀ k, n ≤ k → k < n + m → w (o + k) = 0) → p_mk w o (n + m) = p_mk w o n
  | 0, _ => rfl
  | m + 1, h => by
    show p_mk w o (n + m) + (if w (o + (n + m)) = 0 then 0 else 1) = _
    rw [p_mk_z m (fun k a b => h k a (by omega)), h (n + m) (by omega) (by omega), if_pos rfl, Nat.add_zero]
theorem sum_e {w : Wd} {o : Nat} {a : AA} {hi : HI} : ∀ n, (∀ k, k < n → hi a k = w (o + k)) → sh_sum a n hi = p_sum w o n
  | 0, _ => rfl
  | n + 1, h => by
    show sh_sum a n hi + hi a n = _
    rw [sum_e n (fun k hk => h k (by omega)), h n (by omega)]
    rfl
theorem marked_e {w : Wd} {o : Nat} {a : AA} {hi : HI} : ∀ n, (∀ k, k < n → hi a k = w (o + k) ∧ (hi a k ≤ 0 ↔ hi a k = 0)) → sh_marked a n hi = nI (p_mk w o n)
  | 0, _ => rfl
  | n + 1, h => by
    show (if hi a n ≤ 0 then sh_marked a n hi else sh_marked a n hi + 1) = nI (p_mk w o n + (if w (o + n) = 0 then 0 else 1))
    obtain ⟨h1, h2⟩ := h n (by omega)
    rw [marked_e n (fun k hk => h k (by omega)), le_if h2, h1]
    by_cases c : w (o + n) = 0
    · rw [if_pos c, if_pos c, Nat.add_zero]
    · rw [if_neg c, if_neg c, nI_1]
section SU
variable {A A1 : As_} {hi : HI} {x : AX} {K G : Nat} {a : Int32} {w : Wd}
theorem sum80 {B e : Nat} (h : ib_ K B e w) : p_sum w 324 80 = p_sum w 324 (p_rc w) := by
  have h80 := rc80 h
  have e1 : 80 = p_rc w + (80 - p_rc w) := by omega
  rw [e1, p_sum_z (n := p_rc w) _ (fun k a b => (h.2.1.2.2.2 k a (by omega)).2.2.2)]
theorem mk80 {B e : Nat} (h : ib_ K B e w) : p_mk w 244 80 = p_mk w 244 (p_rc w) ∧ p_mk w 84 80 = p_mk w 84 (p_rc w) := by
  have h80 := rc80 h
  have e1 : 80 = p_rc w + (80 - p_rc w) := by omega
  rw [e1]
  exact ⟨p_mk_z (n := p_rc w) _ (fun k a b => (h.2.1.2.2.2 k a (by omega)).2.2.1), p_mk_z (n := p_rc w) _ (fun k a b => (h.2.1.2.2.2 k a (by omega)).1)⟩
theorem Cf_spillCount (hO : Ok_ K A) (H : RC A hi x) : Ck_ A (sh_L_spillCount hi x) hi x (lc_ A) (nI (p_mk A.w 244 (p_rc A.w))) := Ck_.to (CG H rfl) (fun q => by
  have e := lc_0 q
  have hI := hO.ib e
  rw [← (mk80 hI).1]
  refine marked_e 80 (fun k hk => ?_)
  rw [vr_spill 0 hi hk, H.vw e]
  exact ⟨rfl, (le0_ (b := 99) (by omega) (hI.2.1.2.2.1 k hk)).1⟩)
theorem M_spc {B e : Nat} {h : HI} (hw : mw_ h = w) (hI : ib_ K B e w) : ∀ f k F, k + f = p_rc w → f < F → sh_X10_spillCount_13 G F (nI (p_mk w 244 k)) (nI k) h = some (nI (p_mk w 244 (p_rc w)), h)
  | f, k, 0, _, hF => absurd hF (Nat.not_lt_zero _)
  | 0, k, F + 1, hk, hF => by
    have h80 := rc80 hI
    show sh_X10_spillCount_13_b G (sh_X10_spillCount_13 G F) (nI (p_mk w 244 k)) (nI k) h = _
    unfold sh_X10_spillCount_13_b
    rw [M_tiles (by rw [hw]; exact hI.1), bs, hw, if_pos (nI_le (by omega) (by omega)), show k = p_rc w by omega]
  | f + 1, k, F + 1, hk, hF => by
    have h80 := rc80 hI
    show sh_X10_spillCount_13_b G (sh_X10_spillCount_13 G F) (nI (p_mk w 244 k)) (nI k) h = _
    unfold sh_X10_spillCount_13_b sh_X10_spillCount_35
    rw [M_tiles (by rw [hw]; exact hI.1), bs, hw, if_neg (nI_ge (by omega) (by omega)), M_dry (by omega), bs, ne_of, hw, nI_1]
    have ih := M_spc hw hI f (k + 1) F (by omega) (by omega)
    have e1 : p_mk w 244 (k + 1) = p_mk w 244 k + (if w (244 + k) = 0 then 0 else 1) := rfl
    rw [e1] at ih
    by_cases c : w (244 + k) = 0
    · rw [if_pos c] at ih
      rw [decide_eq_true c, if_pos rfl, show sh_X10_one 0 = 0 from rfl, Int32.add_zero]
      exact ih
    · rw [if_neg c, ← nI_1] at ih
      rw [decide_eq_false c, if_neg (by decide), show sh_X10_one 1 = 1 from rfl]
      exact ih
theorem Mf_spillCount (hG : 501 < G) (hO : Ok_ K A) (H : RM A hi) : Mk_ A (sh_X10_spillCount G hi) hi (lc_ A) (nI (p_mk A.w 244 (p_rc A.w))) := by
  unfold sh_X10_spillCount
  rw [M_mayLook H, bs]
  cases e : A.ld with
  | true =>
    have hI := hO.ib e
    have h80 := rc80 hI
    rw [lc_t e]
    show Mk_ A (sh_X10_spillCount_13 G G (nI (p_mk A.w 244 0)) (nI 0) (am_u hi (za 195) 0 0)) hi 0 _
    rw [M_spc (mw_u0.trans (H.mw e)) hI (p_rc A.w) 0 G (by omega) (by omega)]
    exact Mk_.ok H
  | false =>
    rw [lc_f e]
    exact Mk_.no (c := 1) (by decide) H
theorem M_aw {B e : Nat} {h : HI} (hw : mw_ h = w) (hI : ib_ K B e w) : ∀ f k F, k + f = p_rc w → f < F → sh_X10_allWear_4 G h F (p_sum w 324 k) (nI k) = some (p_sum w 324 (p_rc w))
  | f, k, 0, _, hF => absurd hF (Nat.not_lt_zero _)
  | 0, k, F + 1, hk, hF => by
    have h80 := rc80 hI
    show sh_X10_allWear_4_b G h (sh_X10_allWear_4 G h F) (p_sum w 324 k) (nI k) = _
    unfold sh_X10_allWear_4_b
    rw [M_tiles (by rw [hw]; exact hI.1), bs, hw, if_pos (nI_le (by omega) (by omega)), show k = p_rc w by omega]
  | f + 1, k, F + 1, hk, hF => by
    have h80 := rc80 hI
    show sh_X10_allWear_4_b G h (sh_X10_allWear_4 G h F) (p_sum w 324 k) (nI k) = _
    unfold sh_X10_allWear_4_b
    have e2 : (324 : Int32) + nI k = nI (324 + k) := nI_add 324 k
    rw [M_tiles (by rw [hw]; exact hI.1), bs, hw, if_neg (nI_ge (by omega) (by omega)), e2, if_pos (ok4 (by omega)), nI_clamp (by omega), M_r h (k := 324 + k) (by omega), hw, nI_1]
    exact M_aw hw hI f (k + 1) F (by omega) (by omega)
theorem M_allWear {B e : Nat} {h : HI} (hG : 501 < G) (hw : mw_ h = w) (hI : ib_ K B e w) : sh_X10_allWear G h = some (p_sum w 324 (p_rc w)) := by
  have h80 := rc80 hI
  exact M_aw hw hI (p_rc w) 0 G (by omega) (by omega)
def p_imb (w : Wd) : Int32 := (if 0 ≤ p_sum w 324 (p_rc w) - w 12 then p_sum w 324 (p_rc w) - w 12 else 0 - (p_sum w 324 (p_rc w) - w 12)) + (if w 13 ≤ w 12 then 0 else 1)
theorem Cf_imbalance (hO : Ok_ K A) (H : RC A hi x) : Ck_ A (sh_L_imbalance hi x) hi x (lc_ A) (p_imb A.w) := by
  refine CGc (T := some (p_imb A.w)) H ?_ (fun _ => rfl)
  unfold sh_X9_imbalance
  rw [rq_ H]
  cases e : A.ld with
  | false => rfl
  | true =>
    have hI := hO.ib e
    have es : sh_sum (wa 0 11) 80 hi = p_sum A.w 324 (p_rc A.w) := by
      rw [← sum80 hI]
      exact sum_e 80 (fun k hk => by rw [vr_wear 0 hi hk, H.vw e])
    show (if hi (wa 0 6) 6 ≤ hi (wa 0 6) 5 then _ else _) = some (Sum.inl (p_imb A.w))
    unfold sh_X9_imbalance_54 p_imb
    rw [vr_13 0 hi, vr_12 0 hi, es, H.vw e, Int32.zero_sub]
    by_cases c1 : A.w 13 ≤ A.w 12
    · rw [if_pos c1, if_pos c1]
      split <;> rfl
    · rw [if_neg c1, if_neg c1]
      split <;> rfl
theorem Mf_imbalance (hG : 501 < G) (hO : Ok_ K A) (H : RM A hi) : Mk_ A (sh_X10_imbalance G hi) hi (lc_ A) (p_imb A.w) := by
  unfold sh_X10_imbalance sh_X10_imbalance_44
  rw [M_mayLook H, bs]
  cases e : A.ld with
  | true =>
    have hI := hO.ib e
    rw [lc_t e]
    have hw : mw_ (am_u hi (za 195) 0 0) = A.w := mw_u0.trans (H.mw e)
    show Mk_ A ((sh_X10_allWear G (am_u hi (za 195) 0 0)).bind fun v2 => if am_u hi (za 195) 0 0 (za 196) 13 ≤ am_u hi (za 195) 0 0 (za 196) 12 then some ((if 0 ≤ v2 - am_u hi (za 195) 0 0 (za 196) 12 then v2 - am_u hi (za 195) 0 0 (za 196) 12 else 0 - (v2 - am_u hi (za 195) 0 0 (za 196) 12)) + sh_X10_one 0, am_u hi (za 195) 0 0) else some ((if 0 ≤ v2 - am_u hi (za 195) 0 0 (za 196) 12 then v2 - am_u hi (za 195) 0 0 (za 196) 12 else 0 - (v2 - am_u hi (za 195) 0 0 (za 196) 12)) + sh_X10_one 1, am_u hi (za 195) 0 0)) hi 0 _
    rw [M_allWear hG hw hI, bs, M_r (am_u hi (za 195) 0 0) (k := 13) (by omega), M_r (am_u hi (za 195) 0 0) (k := 12) (by omega), hw]
    unfold p_imb
    by_cases c1 : A.w 13 ≤ A.w 12
    · rw [if_pos c1, if_pos c1]
      exact Mk_.ok H
    · rw [if_neg c1, if_neg c1]
      exact Mk_.ok H
  | false =>
    rw [lc_f e]
    exact Mk_.no (c := 1) (by decide) H
def p_rk (w : Wd) (a : Int32) : Int32 := if p_rank w a 10 0 = 10 then -1 else nI (p_rank w a 10 0)
def ok1_ (a : Int32) : Bool := decide ((1 : Int32) ≤ a)
theorem rk_le {B e : Nat} (h : ib_ K B e w) : p_rank w a 10 0 ≤ 10 := by
  have h19 := i19 h
  have := p_rank_le (w := w) (s := a) h19.2 (f := 10) (k := 0) rfl (Nat.zero_le _)
  omega
theorem Cf_rankOf (hG : 501 < G) (hO : Ok_ K A) (H : RC A hi x) : Ck_ A (sh_L_rankOf G a hi x) hi x (lt2_ A (ok1_ a)) (p_rk A.w a) := by
  refine CT_ (Q := some (if ok1_ a = true then Sum.inl () else Sum.inr 2)) (T := (sh_X3_rankFor G 0 a hi).bind fun v2 => if (10 : Int32) ≤ v2 then some (Sum.inl (-1 : Int32)) else some (Sum.inl v2)) rfl (by decide) H ?_ (fun _ => rfl) (fun e eo => ?_)
  · unfold sh_X9_rankOf ok1_
    congr 1
    funext v1
    by_cases c : (1 : Int32) ≤ a
    · rw [if_pos c, decide_eq_true c]; rfl
    · rw [if_neg c, decide_eq_false c]; rfl
  · have hI := hO.ib e
    have hr := rk_le (a := a) hI
    rw [C_rank (by rw [H.vw e]; exact hI.2.2.2.2.2.2.2.2.2.2.1) (by omega), bs, H.vw e]
    unfold p_rk
    by_cases c : p_rank A.w a 10 0 = 10
    · rw [if_pos c, c, if_pos (by decide)]
    · rw [if_neg c, if_neg (show ¬ (10 : Int32) ≤ nI (p_rank A.w a 10 0) from fun q => by have := (nI_leI (a := 10) (by omega) (by omega)).mp q; omega)]
theorem Mf_rankOf (hG : 501 < G) (hO : Ok_ K A) (H : RM A hi) : Mk_ A (sh_X10_rankOf G a hi) hi (lt2_ A (ok1_ a)) (p_rk A.w a) := by
  have e0 : sh_X10_rankOf G a hi = sh_X10_rankOf_15 G a (b2 (ok1_ a)) (hi (za 195) 6) hi := by
    unfold sh_X10_rankOf ok1_
    by_cases c : (1 : Int32) ≤ a
    · rw [if_neg (fun q => Int32.lt_irrefl (Int32.lt_of_lt_of_le q c)), decide_eq_true c]; rfl
    · rw [if_pos (Int32.not_le.mp c), decide_eq_false c]; rfl
  rw [e0]
  unfold sh_X10_rankOf_15
  rw [H.1.2.2.2.2.1, M_mayTwo, bs]
  unfold lt2_
  cases e : A.ld with
  | true =>
    cases eo : ok1_ a with
    | true =>
      have hI := hO.ib e
      have hr := rk_le (a := a) hI
      have hw : mw_ (am_u hi (za 195) 0 0) = A.w := mw_u0.trans (H.mw e)
      show Mk_ A ((sh_X10_placeOf G a (am_u hi (za 195) 0 0)).bind fun v2 => if v2 ≠ (10 : Int32) then some (v2, am_u hi (za 195) 0 0) else some ((-1 : Int32), am_u hi (za 195) 0 0)) hi 0 _
      rw [M_rank (by rw [hw]; exact hI.2.2.2.2.2.2.2.2.2.2.1) (by omega), bs, hw]
      unfold p_rk
      by_cases c : p_rank A.w a 10 0 = 10
      · rw [if_pos c, c, if_neg (by decide)]
        exact Mk_.ok H
      · rw [if_neg c, if_pos (show nI (p_rank A.w a 10 0) ≠ (10 : Int32) from fun q => c ((nI_eq (b := 10) (by omega) (by omega)).mp q))]
        exact Mk_.ok H
    | false => exact Mk_.no (c := 2) (by decide) H
  | false => exact Mk_.no (c := 1) (by decide) H
end SU
