/-! calls that name a tile, a column, a rank: both sides -/
def tk_ (a : Int32) (n : Nat) : Bool := decide (¬ a < 0 ∧ a < nI n)
theorem tk_t {a : Int32} {n : Nat} (hn : n < 2 ^ 31) (h : tk_ a n = true) : ∃ t, t < n ∧ a = nI t := by
  obtain ⟨h0, h1⟩ := of_decide_eq_true h
  obtain ⟨t, ht, rfl⟩ := nI_of h0
  exact ⟨t, (nI_ltI ht hn).mp h1, rfl⟩
theorem rt_ {a : Int32} {n : Nat} : (if a < 0 then some (Sum.inr 1) else if a < nI n then some (Sum.inl ()) else some (Sum.inr 1) : Option (Unit ⊕ Nat)) = some (if tk_ a n = true then Sum.inl () else Sum.inr 1) := by
  unfold tk_
  by_cases c : a < 0
  · rw [if_pos c, decide_eq_false (fun q => q.1 c), if_neg (by decide)]
  · rw [if_neg c]
    by_cases c2 : a < nI n
    · rw [if_pos c2, decide_eq_true ⟨c, c2⟩, if_pos rfl]
    · rw [if_neg c2, decide_eq_false (fun q => c2 q.2), if_neg (by decide)]
theorem in_tk {a : Int32} {n : Nat} (hn : n < 2 ^ 31) : sh_X10_in a 0 (nI n - 1) = b2 (tk_ a n) := by
  by_cases c : a < 0
  · rw [in_neg c]
    unfold tk_
    rw [decide_eq_false (fun q => q.1 c)]
    rfl
  · obtain ⟨t, ht, rfl⟩ := nI_of c
    unfold tk_
    by_cases h1 : 1 ≤ n
    · rw [S1_ h1, show (0 : Int32) = nI 0 from rfl, in_n (by omega) (by omega) (by omega)]
      congr 1
      by_cases c2 : t < n
      · rw [decide_eq_true (show 0 ≤ t by omega), decide_eq_true (show t ≤ n - 1 by omega), decide_eq_true ⟨c, nI_lt c2 (by omega)⟩]
        rfl
      · rw [decide_eq_false (show ¬ t ≤ n - 1 by omega), decide_eq_false (show ¬ (¬ nI t < nI 0 ∧ nI t < nI n) from fun q => c2 ((nI_ltI (by omega) (by omega)).mp q.2))]
        cases decide (0 ≤ t) <;> rfl
    · obtain rfl : n = 0 := by omega
      rw [decide_eq_false (fun q => c q.2)]
      unfold sh_X10_in
      rw [if_neg c, if_pos (show nI 0 - 1 < nI t from Int32.lt_of_lt_of_le (by decide) (nI_pos' (by omega)))]
      rfl
def lt2_ (A : As_) (ok : Bool) : Int32 := if A.ld = true then (if ok = true then 0 else 2) else 1
theorem lt2_0 {A : As_} {ok : Bool} (h : lt2_ A ok = 0) : A.ld = true ∧ ok = true := by
  unfold lt2_ at h
  cases e : A.ld with
  | true =>
    rw [e, if_pos rfl] at h
    cases ok with
    | true => exact ⟨rfl, rfl⟩
    | false => exact absurd h (by decide)
  | false => rw [e] at h; exact absurd (show (1 : Int32) = 0 from h) (by decide)
section TIL
variable {A A1 : As_} {hi : HI} {x : AX} {K G : Nat}
theorem CT_ {v : Int32} {ok : Bool} {Q : Option (Unit ⊕ Nat)} {T S : Option (Int32 ⊕ Nat)} {z : Nat} {R : Nat → Option (Int32 × HI × AX)} (hR : R = fun E => if E = 0 then some ((1 : Int32), hi, xc x) else if E = z then some ((2 : Int32), hi, xc x) else none) (hz : z ≠ 0) (H : RC A hi x) (hS : S = bT (sh_X9_requireSetup hi) fun _ => bT Q fun _ => T) (hQ : A.ld = true → Q = some (if ok = true then Sum.inl () else Sum.inr z)) (hT : A.ld = true → ok = true → T = some (Sum.inl v)) : Ck_ A (bW S (fun v2 => some ((0 : Int32), hi, xl x v2.toInt64)) R) hi x (lt2_ A ok) v := by
  rw [hS, rq_ H, hR]
  unfold lt2_
  cases e : A.ld with
  | true =>
    show Ck_ A (bW (bT Q fun _ => T) _ _) hi x (if ok = true then 0 else 2) v
    rw [hQ e]
    cases eo : ok with
    | true =>
      show Ck_ A (bW T _ _) hi x 0 v
      rw [hT e eo]
      exact Ck_.ok H
    | false =>
      show Ck_ A (if z = 0 then some ((1 : Int32), hi, xc x) else if z = z then some ((2 : Int32), hi, xc x) else none) hi x 2 v
      rw [if_neg hz, if_pos rfl]
      exact Ck_.no (by decide) H
  | false => exact Ck_.no (by decide) H
theorem CTb_ {v : Bool} {ok : Bool} {Q : Option (Unit ⊕ Nat)} {T S : Option (Int32 ⊕ Nat)} (H : RC A hi x) (hS : S = bT (sh_X9_requireSetup hi) fun _ => bT Q fun _ => T) (hQ : A.ld = true → Q = some (if ok = true then Sum.inl () else Sum.inr 1)) (hT : A.ld = true → ok = true → T = some (Sum.inl (b2 v))) : Ck_ A (bW S (fun v2 => if v2 = 0 then some ((0 : Int32), hi, xl x (Int64.ofNat 0)) else some ((0 : Int32), hi, xl x (Int64.ofNat 1))) (fun E => if E = 0 then some ((1 : Int32), hi, xc x) else if E = 1 then some ((2 : Int32), hi, xc x) else none)) hi x (lt2_ A ok) (b2 v) := by
  rw [hS, rq_ H]
  unfold lt2_
  cases e : A.ld with
  | true =>
    show Ck_ A (bW (bT Q fun _ => T) _ _) hi x (if ok = true then 0 else 2) (b2 v)
    rw [hQ e]
    cases eo : ok with
    | true =>
      show Ck_ A (bW T _ _) hi x 0 (b2 v)
      rw [hT e eo]
      cases v with
      | true => exact ⟨hi, _, rfl, fun _ => rfl, H.cx rfl, fC_.refl hi, XB.l⟩
      | false => exact ⟨hi, _, rfl, fun _ => rfl, H.cx rfl, fC_.refl hi, XB.l⟩
    | false => exact Ck_.no (c := 2) (by decide) H
  | false => exact Ck_.no (c := 1) (by decide) H
theorem Mg2_ {v : Int32} {ok : Bool} {Q : Option (Int32 × HI)} {T : HI → Option (Int32 × HI)} {S : Option (Int32 × HI)} (H : RM A hi) (hS : S = Q.bind fun v1 => if v1.1 = 0 then some ((0 : Int32), v1.2) else T v1.2) (hQ : Q = some (b2 (A.ld && ok), am_u hi (za 195) 0 (lt2_ A ok))) (hT : A.ld = true → ok = true → ∀ h1, mw_ h1 = A.w → T h1 = some (v, h1)) : Mk_ A S hi (lt2_ A ok) v := by
  rw [hS, hQ, bs]
  unfold lt2_
  cases e : A.ld with
  | true =>
    cases eo : ok with
    | true =>
      show Mk_ A (T (am_u hi (za 195) 0 0)) hi 0 v
      rw [hT e eo _ (mw_u0.trans (H.mw e))]
      exact Mk_.ok H
    | false => exact Mk_.no (c := 2) (by decide) H
  | false => exact Mk_.no (c := 1) (by decide) H
theorem rc80 {w : Wd} {B e : Nat} (h : ib_ K B e w) : p_rc w ≤ 80 := h.1.rc.2
/-! the questions -/
theorem qT_ {a : Int32} (hO : Ok_ K A) (H : RC A hi x) (e : A.ld = true) : sh_X9_requireTile a hi = some (if tk_ a (p_rc A.w) = true then Sum.inl () else Sum.inr 1) := by
  unfold sh_X9_requireTile
  have hI := hO.ib e
  rw [C_tiles (by rw [H.vw e]; exact hI.1), H.vw e]
  exact rt_
theorem qC_ {a : Int32} (hO : Ok_ K A) (H : RC A hi x) (e : A.ld = true) : sh_X9_requireColumn a hi = some (if tk_ a (nn A.w 1) = true then Sum.inl () else Sum.inr 1) := by
  unfold sh_X9_requireColumn
  have hI := hO.ib e
  rw [vr_1 0 hi, H.vw e, hI.1.c.1]
  exact rt_
theorem i19 {w : Wd} {B e : Nat} (h : ib_ K B e w) : w 19 = nI (nn w 19) ∧ nn w 19 ≤ 10 := by
  have h19 := h.2.2.2.2.2.2.2.2.2.2.1
  exact ⟨h19.1, h19.2.2⟩
theorem qR_ {a : Int32} (hO : Ok_ K A) (H : RC A hi x) (e : A.ld = true) : sh_X9_requireRecord a hi = some (if tk_ a (nn A.w 19) = true then Sum.inl () else Sum.inr 1) := by
  unfold sh_X9_requireRecord
  rw [vr_19 0 hi, H.vw e, (i19 (hO.ib e)).1]
  exact rt_
theorem M_isTile {a : Int32} (hO : Ok_ K A) (H : RM A hi) : sh_X10_isTile a hi = some (b2 (A.ld && tk_ a (p_rc A.w))) := by
  unfold sh_X10_isTile
  rw [H.1.2.2.2.2.1]
  cases e : A.ld with
  | false => rfl
  | true =>
    have hI := hO.ib e
    have h80 := rc80 hI
    rw [if_neg (by decide), M_tiles (by rw [H.mw e]; exact hI.1), bs, H.mw e, in_tk (by omega), eq_of]
    cases tk_ a (p_rc A.w) <;> rfl
theorem M_mayT {ok : Bool} (H : RM A hi) : sh_X10_mayTwo (hi (za 195) 6) (b2 (A.ld && ok)) hi = some (b2 (A.ld && ok), am_u hi (za 195) 0 (lt2_ A ok)) := by
  rw [H.1.2.2.2.2.1, M_mayTwo]
  unfold lt2_
  cases A.ld <;> cases ok <;> rfl
theorem M_mayTile {a : Int32} (hO : Ok_ K A) (H : RM A hi) : sh_X10_mayTile a hi = some (b2 (A.ld && tk_ a (p_rc A.w)), am_u hi (za 195) 0 (lt2_ A (tk_ a (p_rc A.w)))) := by
  unfold sh_X10_mayTile
  rw [M_isTile hO H, bs, M_mayT H, bs]
  cases A.ld && tk_ a (p_rc A.w) <;> rfl
theorem M_isCol {a : Int32} (hO : Ok_ K A) (H : RM A hi) : sh_X10_isColumn a hi = some (b2 (A.ld && tk_ a (nn A.w 1))) := by
  unfold sh_X10_isColumn
  rw [H.1.2.2.2.2.1]
  cases e : A.ld with
  | false => rfl
  | true =>
    have hI := hO.ib e
    have hc := hI.1.c
    rw [if_neg (by decide), m_1 hi, H.mw e, hc.1, in_tk (by omega), eq_of]
    cases tk_ a (nn A.w 1) <;> rfl
theorem M_mayRank {a : Int32} (hO : Ok_ K A) (H : RM A hi) : sh_X10_mayRank a hi = some (b2 (A.ld && tk_ a (nn A.w 19)), am_u hi (za 195) 0 (lt2_ A (tk_ a (nn A.w 19)))) := by
  have h6 := H.1.2.2.2.2.1
  unfold sh_X10_mayRank sh_X10_mayRank_33 sh_X10_mayRank_34
  cases e : A.ld with
  | false =>
    rw [e] at h6
    rw [h6, if_pos (by decide), show (0 : Int32) = b2 false from rfl, M_mayTwo, bs]
    unfold lt2_
    rw [e]
    rfl
  | true =>
    rw [e] at h6
    have hI := hO.ib e
    have h19 := i19 hI
    rw [h6, if_neg (by decide), M_r hi (k := 19) (by omega), H.mw e, h19.1, in_tk (by omega), eq_of]
    unfold lt2_
    rw [e]
    cases tk_ a (nn A.w 19) with
    | true =>
      rw [if_pos rfl, show (1 : Int32) = b2 true from rfl, M_mayTwo, bs]
      rfl
    | false =>
      rw [if_neg (by decide), show (0 : Int32) = b2 false from rfl, M_mayTwo, bs]
      rfl
end TIL
