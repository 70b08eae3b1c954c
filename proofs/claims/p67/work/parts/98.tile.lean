/-! calls that name a tile, a column, a rank: both sides -/
def tk_ (a : Int32) (n : Nat) : Bool := decide (¬ a < 0 ∧ a < nI n)
theorem tk_t {a : Int32} {n : Nat} (hn : n < 2 ^ 31) (h : tk_ a n = true) : ∃ t, t < n ∧ a = nI t := by
  obtain ⟨h0, h1⟩ := of_decide_eq_true h
  obtain ⟨t, ht, rfl⟩ := nI_of h0
  exact ⟨t, (nI_ltI ht hn).mp h1, rfl⟩
theorem rt_ {a : Int32} {n : Nat} : (if a < 0 then some (Sum.inr 1) else if a < nI n then some (Sum.inl ()) else some (Sum.inr 1) : Option (Unit ⊕ Nat)) = some (if tk_ a n = true then Sum.inl () else Sum.inr 1) := by
  unfold tk_
  by_cases c : a < 0
  · rw [if_pos c, decide_eq_false (fun q => q.1 c), if_neg (by decide)]
  · rw [if_neg c]
    by_cases c2 : a < nI n
    · rw [if_pos c2, decide_eq_true ⟨c, c2⟩, if_pos rfl]
    · rw [if_neg c2, decide_eq_false (fun q => c2 q.2), if_neg (by decide)]
def lt2_ (A : As_) (ok : Bool) : Int32 := if A.ld = true then (if ok = true then 0 else 2) else 1
theorem lt2_0 {A : As_} {ok : Bool} (h : lt2_ A ok = 0) : A.ld = true ∧ ok = true := by
  unfold lt2_ at h
  cases e : A.ld with
  | true =>
    rw [e, if_pos rfl] at h
    cases ok with
    | true => exact ⟨rfl, rfl⟩
    | false => exact absurd h (by decide)
  | false => rw [e] at h; exact absurd (show (1 : Int32) = 0 from h) (by decide)
section TIL
variable {A A1 : As_} {hi : HI} {x : AX} {K G : Nat}
theorem CT_ {v : Int32} {ok : Bool} {Q : Option (Unit ⊕ Nat)} {T S : Option (Int32 ⊕ Nat)} {z : Nat} {R : Nat → Option (Int32 × HI × AX)} (hR : R = fun E => if E = 0 then some ((1 : Int32), hi, xc x) else if E = z then some ((2 : Int32), hi, xc x) else none) (hz : z ≠ 0) (H : RC A hi x) (hS : S = bT (sh_X9_requireSetup hi) fun _ => bT Q fun _ => T) (hQ : A.ld = true → Q = some (if ok = true then Sum.inl () else Sum.inr z)) (hT : A.ld = true → ok = true → T = some (Sum.inl v)) : Ck_ A (bW S (fun v2 => some ((0 : Int32), hi, xl x v2.toInt64)) R) hi x (lt2_ A ok) v := by
  rw [hS, rq_ H, hR]
  unfold lt2_
  cases e : A.ld with
  | true =>
    show Ck_ A (bW (bT Q fun _ => T) _ _) hi x (if ok = true then 0 else 2) v
    rw [hQ e]
    cases eo : ok with
    | true =>
      show Ck_ A (bW T _ _) hi x 0 v
      rw [hT e eo]
      exact Ck_.ok H
    | false =>
      show Ck_ A (if z = 0 then some ((1 : Int32), hi, xc x) else if z = z then some ((2 : Int32), hi, xc x) else none) hi x 2 v
      rw [if_neg hz, if_pos rfl]
      exact Ck_.no (by decide) H
  | false => exact Ck_.no (by decide) H
theorem CTb_ {v : Bool} {ok : Bool} {Q : Option (Unit ⊕ Nat)} {T S : Option (Int32 ⊕ Nat)} (H : RC A hi x) (hS : S = bT (sh_X9_requireSetup hi) fun _ => bT Q fun _ => T) (hQ : A.ld = true → Q = some (if ok = true then Sum.inl () else Sum.inr 1)) (hT : A.ld = true → ok = true → T = some (Sum.inl (b2 v))) : Ck_ A (bW S (fun v2 => if v2 = 0 then some ((0 : Int32), hi, xl x (Int64.ofNat 0)) else some ((0 : Int32), hi, xl x (Int64.ofNat 1))) (fun E => if E = 0 then some ((1 : Int32), hi, xc x) else if E = 1 then some ((2 : Int32), hi, xc x) else none)) hi x (lt2_ A ok) (b2 v) := by
  rw [hS, rq_ H]
  unfold lt2_
  cases e : A.ld with
  | true =>
    show Ck_ A (bW (bT Q fun _ => T) _ _) hi x (if ok = true then 0 else 2) (b2 v)
    rw [hQ e]
    cases eo : ok with
    | true =>
      show Ck_ A (bW T _ _) hi x 0 (b2 v)
      rw [hT e eo]
      cases v with
      | true => exact ⟨hi, _, rfl, fun _ => rfl, H.cx rfl, fC_.refl hi, XB.l⟩
      | false => exact ⟨hi, _, rfl, fun _ => rfl, H.cx rfl, fC_.refl hi, XB.l⟩
    | false => exact Ck_.no (c := 2) (by decide) H
  | false => exact Ck_.no (c := 1) (by decide) H
theorem rc80 {w : Wd} {B e : Nat} (h : ib_ K B e w) : p_rc w ≤ 80 := h.1.rc.2
/-! the questions -/
theorem qT_ {a : Int32} (hO : Ok_ K A) (H : RC A hi x) (e : A.ld = true) : sh_X9_requireTile a hi = some (if tk_ a (p_rc A.w) = true then Sum.inl () else Sum.inr 1) := by
  unfold sh_X9_requireTile
  have hI := hO.ib e
  rw [C_tiles (by rw [H.vw e]; exact hI.1), H.vw e]
  exact rt_
theorem qC_ {a : Int32} (hO : Ok_ K A) (H : RC A hi x) (e : A.ld = true) : sh_X9_requireColumn a hi = some (if tk_ a (nn A.w 1) = true then Sum.inl () else Sum.inr 1) := by
  unfold sh_X9_requireColumn
  have hI := hO.ib e
  rw [vr_1 0 hi, H.vw e, hI.1.c.1]
  exact rt_
theorem i19 {w : Wd} {B e : Nat} (h : ib_ K B e w) : w 19 = nI (nn w 19) ∧ nn w 19 ≤ 10 := by
  have h19 := h.2.2.2.2.2.2.2.2.2.2.1
  exact ⟨h19.1, h19.2.2⟩
theorem qR_ {a : Int32} (hO : Ok_ K A) (H : RC A hi x) (e : A.ld = true) : sh_X9_requireRecord a hi = some (if tk_ a (nn A.w 19) = true then Sum.inl () else Sum.inr 1) := by
  unfold sh_X9_requireRecord
  rw [vr_19 0 hi, H.vw e, (i19 (hO.ib e)).1]
  exact rt_
end TIL
