/-! sums over the tiles: both sides -/
def p_sum (w : Wd) (o : Nat) : Nat → Int32
  | 0 => 0
  | k + 1 => p_sum w o k + w (o + k)
theorem p_sum_z {w : Wd} {o n : Nat} : ∀ m, (∀ k, n ≤ k → k < n + m → w (o + k) = 0) → p_sum w o (n + m) = p_sum w o n
  | 0, _ => rfl
  | m + 1, h => by
    show p_sum w o (n + m) + w (o + (n + m)) = _
    rw [p_sum_z m (fun k a b => h k a (by omega)), h (n + m) (by omega) (by omega), Int32.add_zero]
theorem p_mk_z {w : Wd} {o n : Nat} : ∀ m, (∀ k, n ≤ k → k < n + m → w (o + k) = 0) → p_mk w o (n + m) = p_mk w o n
  | 0, _ => rfl
  | m + 1, h => by
    show p_mk w o (n + m) + (if w (o + (n + m)) = 0 then 0 else 1) = _
    rw [p_mk_z m (fun k a b => h k a (by omega)), h (n + m) (by omega) (by omega), if_pos rfl, Nat.add_zero]
theorem sum_e {w : Wd} {o : Nat} {a : AA} {hi : HI} : ∀ n, (∀ k, k < n → hi a k = w (o + k)) → sh_sum a n hi = p_sum w o n
  | 0, _ => rfl
  | n + 1, h => by
    show sh_sum a n hi + hi a n = _
    rw [sum_e n (fun k hk => h k (by omega)), h n (by omega)]
    rfl
theorem marked_e {w : Wd} {o : Nat} {a : AA} {hi : HI} : ∀ n, (∀ k, k < n → hi a k = w (o + k) ∧ (hi a k ≤ 0 ↔ hi a k = 0)) → sh_marked a n hi = nI (p_mk w o n)
  | 0, _ => rfl
  | n + 1, h => by
    show (if hi a n ≤ 0 then sh_marked a n hi else sh_marked a n hi + 1) = nI (p_mk w o n + (if w (o + n) = 0 then 0 else 1))
    obtain ⟨h1, h2⟩ := h n (by omega)
    rw [marked_e n (fun k hk => h k (by omega)), le_if h2, h1]
    by_cases c : w (o + n) = 0
    · rw [if_pos c, if_pos c, Nat.add_zero]
    · rw [if_neg c, if_neg c, nI_1]
section SU
variable {A A1 : As_} {hi : HI} {x : AX} {K G : Nat} {a : Int32} {w : Wd}
theorem sum80 {B e : Nat} (h : ib_ K B e w) : p_sum w 324 80 = p_sum w 324 (p_rc w) := by
  have h80 := rc80 h
  have e1 : 80 = p_rc w + (80 - p_rc w) := by omega
  rw [e1, p_sum_z (n := p_rc w) _ (fun k a b => (h.2.1.2.2.2 k a (by omega)).2.2.2)]
theorem mk80 {B e : Nat} (h : ib_ K B e w) : p_mk w 244 80 = p_mk w 244 (p_rc w) ∧ p_mk w 84 80 = p_mk w 84 (p_rc w) := by
  have h80 := rc80 h
  have e1 : 80 = p_rc w + (80 - p_rc w) := by omega
  rw [e1]
  exact ⟨p_mk_z (n := p_rc w) _ (fun k a b => (h.2.1.2.2.2 k a (by omega)).2.2.1), p_mk_z (n := p_rc w) _ (fun k a b => (h.2.1.2.2.2 k a (by omega)).1)⟩
def p_imb (w : Wd) : Int32 := (if 0 ≤ p_sum w 324 (p_rc w) - w 12 then p_sum w 324 (p_rc w) - w 12 else 0 - (p_sum w 324 (p_rc w) - w 12)) + (if w 13 ≤ w 12 then 0 else 1)
theorem Cf_imbalance (hO : Ok_ K A) (H : RC A hi x) : Ck_ A (sh_L_imbalance hi x) hi x (lc_ A) (p_imb A.w) := by
  refine CGc (T := some (p_imb A.w)) H ?_ (fun _ => rfl)
  unfold sh_X9_imbalance
  rw [rq_ H]
  cases e : A.ld with
  | false => rfl
  | true =>
    have hI := hO.ib e
    have es : sh_sum (wa 0 11) 80 hi = p_sum A.w 324 (p_rc A.w) := by
      rw [← sum80 hI]
      exact sum_e 80 (fun k hk => by rw [vr_wear 0 hi hk, H.vw e])
    show (if hi (wa 0 6) 6 ≤ hi (wa 0 6) 5 then _ else _) = some (Sum.inl (p_imb A.w))
    unfold sh_X9_imbalance_54 p_imb
    rw [vr_13 0 hi, vr_12 0 hi, es, H.vw e, Int32.zero_sub]
    by_cases c1 : A.w 13 ≤ A.w 12
    · rw [if_pos c1, if_pos c1]
      split <;> rfl
    · rw [if_neg c1, if_neg c1]
      split <;> rfl
def p_rk (w : Wd) (a : Int32) : Int32 := if p_rank w a 10 0 = 10 then -1 else nI (p_rank w a 10 0)
def ok1_ (a : Int32) : Bool := decide ((1 : Int32) ≤ a)
theorem rk_le {B e : Nat} (h : ib_ K B e w) : p_rank w a 10 0 ≤ 10 := by
  have h19 := i19 h
  have := p_rank_le (w := w) (s := a) h19.2 (f := 10) (k := 0) rfl (Nat.zero_le _)
  omega
end SU
