/-! the text is short, and of bytes -/
def tB (L : List Nat) : Prop := ∀ k, k < L.length → L.getD k 0 < 256
section TBS
variable {L M : List Nat} {f : Nat → Nat} {rg : Bool} {rt : Nat → Nat} {R : Nat} {cl dg : Nat → Nat} {r c a kc : Nat} {ru : Nat → Nat} {sp row tm : Nat}
theorem tB.app (a : tB L) (b : tB M) : tB (L ++ M) := fun k hk => by
  rw [List.length_append] at hk
  by_cases q : k < L.length
  · rw [gd_app q]; exact a k q
  · obtain ⟨j, rfl⟩ : ∃ j, k = L.length + j := ⟨k - L.length, by omega⟩
    rw [gd_app2]
    exact b j (by omega)
theorem tB.nil : tB [] := fun k hk => absurd hk (Nat.not_lt_zero k)
theorem tB_all : ∀ {L : List Nat}, L.all (fun c => decide (c < 256)) = true → tB L
  | [], _ => tB.nil
  | c :: l, h => fun k hk => by
    rw [List.all_cons, Bool.and_eq_true] at h
    cases k with
    | zero => exact of_decide_eq_true h.1
    | succ k => exact tB_all h.2 k (Nat.lt_of_succ_lt_succ hk)
theorem tB_dec {m : Nat} (h : m < 100) : tB (dec m) := by
  unfold dec
  split
  · refine tB_all ?_
    rw [List.all_cons, decide_eq_true (show 48 + m < 256 by omega)]
    rfl
  · refine tB_all ?_
    rw [List.all_cons, List.all_cons, decide_eq_true (show 48 + m / 10 < 256 by omega), decide_eq_true (show 48 + m % 10 < 256 by omega)]
    rfl
theorem tB_w0 : ((List.range 60).all fun w => (Sw w).all fun c => decide (c < 256)) = true := by decide
theorem tB_w {w : Nat} (h : w < 60) : tB (Sw w) := tB_all (List.all_eq_true.mp tB_w0 w (List.mem_range.mpr h))
theorem tB_32 : tB [32] := tB_all (by decide)
theorem tB_mv {m : Nat} : tB (Sw (mvw m)) := by
  unfold mvw
  repeat' split
  all_goals exact tB_w (by omega)
theorem tB_R : ∀ n j, tB (txR rt n j)
  | 0, _ => tB.nil
  | n + 1, j => tB_mv.app (tB_R n (j + 1))
theorem tB_C (h : ∀ j, dg j < 100) : ∀ n j, j + n ≤ 100 → tB (txC cl dg n j)
  | 0, _, _ => tB.nil
  | n + 1, j, hj => by
    refine tB.app ?_ (tB.app ?_ (tB_C h n (j + 1) (by omega)))
    · split
      · exact tB.nil
      · exact (tB_w (by omega)).app (tB_dec (by omega))
    · split
      · exact tB.nil
      · exact (((tB_w (by omega)).app (tB_dec (by omega))).app tB_32).app (tB_dec (h j))
theorem tB_K (h : a < 99) : ∀ n, tB (txK a n)
  | 0 => tB.nil
  | n + 1 => (((tB_w (by omega)).app (tB_dec (by omega))).app tB_32).app (tB_dec (by omega))
theorem tB_G : ∀ n t, t + n ≤ 100 → tB (txG ru n t)
  | 0, _, _ => tB.nil
  | n + 1, t, ht => by
    refine tB.app ?_ (tB_G n (t + 1) (by omega))
    split
    · exact tB.nil
    · exact (tB_w (by omega)).app (tB_dec (by omega))
theorem tB_0 (h : ∀ k, k ≤ 8 ∨ k = 11 ∨ k = 19 → f k < 100) : tB (tx0 f rg) := by
  have d : ∀ {m}, m ≤ 8 ∨ m = 11 ∨ m = 19 → tB (dec (f m)) := fun q => tB_dec (h _ q)
  unfold tx0
  refine tB.app (tB.app (tB.app (tB.app (tB.app (tB.app (tB.app (tB.app (tB.app (tB.app (tB.app (tB.app (tB.app (tB.app (tB.app (tB.app (tB.app (tB.app (tB.app (tB.app (tB.app (tB.app ?_ ?_) ?_) ?_) ?_) ?_) ?_) ?_) ?_) ?_) ?_) ?_) ?_) ?_) ?_) ?_) ?_) ?_) ?_) ?_) ?_) ?_) ?_
  all_goals first
    | exact d (by omega)
    | exact tB_32
    | exact tB_w (by omega)
    | skip
  cases rg
  · exact tB_w (show 47 < 60 by omega)
  · exact tB_w (show 46 < 60 by omega)
theorem tB_E (h1 : sp < 100) (h2 : row < 100) (h3 : tm < 100) : tB (txE sp row tm) := ((((((tB_w (by omega)).app (tB_dec h1)).app (tB_w (by omega))).app (tB_dec h2)).app (tB_w (by omega))).app (tB_dec h3)).app (tB_w (by omega))
theorem txt_B (ok : txok f rt R cl dg r c a kc ru sp row tm) : tB (txt f rg rt R cl dg c a kc ru (r * c) sp row tm) := by
  obtain ⟨hcc, ⟨f0, f1, f2, f3, f4, f5, f6, f7, f8, f11, f19⟩, -, ⟨hcl, hdg⟩, ⟨hkc, ha⟩, -, ⟨hsp, hrow, htm1, htm⟩⟩ := ok
  have hT : r * c ≤ 15 := Nat.mul_le_mul hcc.2.1 hcc.2.2.2
  have h : ∀ k, k ≤ 8 ∨ k = 11 ∨ k = 19 → f k < 100 := fun k hk => by
    have : k = 0 ∨ k = 1 ∨ k = 2 ∨ k = 3 ∨ k = 4 ∨ k = 5 ∨ k = 6 ∨ k = 7 ∨ k = 8 ∨ k = 11 ∨ k = 19 := by omega
    rcases this with rfl | rfl | rfl | rfl | rfl | rfl | rfl | rfl | rfl | rfl | rfl <;> omega
  exact (((((tB_0 h).app (tB_R _ _)).app (tB_C (fun j => by rcases hdg j with q | q <;> omega) _ _ (by omega))).app (tB_K (by omega) _)).app (tB_G _ _ (by omega))).app (tB_E (by omega) (by omega) (by omega))
theorem txt_h : ∃ t, txt f rg rt R cl dg c a kc ru (r * c) sp row tm = 102 :: t := by
  have e : ∃ t, Sw 37 = 102 :: t := ⟨_, rfl⟩
  obtain ⟨t, e⟩ := e
  unfold txt tx0
  rw [e]
  simp only [List.cons_append]
  exact ⟨_, rfl⟩
theorem txt_l (ok : txok f rt R cl dg r c a kc ru sp row tm) : (txt f rg rt R cl dg c a kc ru (r * c) sp row tm).length ≤ 400 := by
  obtain ⟨hcc, ⟨f0, f1, f2, f3, f4, f5, f6, f7, f8, f11, f19⟩, ⟨hR, hrt⟩, ⟨hcl, hdg⟩, ⟨hkc, ha⟩, ⟨hru, hcn⟩, ⟨hsp, hrow, htm1, htm⟩⟩ := ok
  have hT : r * c ≤ 15 := Nat.mul_le_mul hcc.2.1 hcc.2.2.2
  have dl : ∀ m, (dec m).length ≤ 2 := dec_l
  have l0 : (tx0 f rg).length ≤ 102 := by
    have := dl (f 0); have := dl (f 1); have := dl (f 2); have := dl (f 3); have := dl (f 4); have := dl (f 5); have := dl (f 6); have := dl (f 7); have := dl (f 8); have := dl (f 11); have := dl (f 19)
    have w37 : (Sw 37).length = 6 := rfl
    have w38 : (Sw 38).length = 7 := rfl
    have w39 : (Sw 39).length = 6 := rfl
    have w40 : (Sw 40).length = 8 := rfl
    have w41 : (Sw 41).length = 6 := rfl
    have w42 : (Sw 42).length = 9 := rfl
    have w43 : (Sw 43).length = 7 := rfl
    have w44 : (Sw 44).length = 7 := rfl
    have w45 : (Sw 45).length = 8 := rfl
    have w46 : (Sw 46).length = 6 := rfl
    have w47 : (Sw 47).length = 5 := rfl
    have w48 : (Sw 48).length = 5 := rfl
    unfold tx0
    cases rg
    · simp only [List.length_append, List.length_cons, List.length_nil]
      show _ + (Sw 47).length + _ + _ ≤ _
      omega
    · simp only [List.length_append, List.length_cons, List.length_nil]
      show _ + (Sw 46).length + _ + _ ≤ _
      omega
  have lR := txR_l (rt := rt) R 0
  have lC := txC_l (cl := cl) (dg := dg) c 0
  have lK := txK_l (a := a) kc
  have lG := txG_l (ru := ru) hru (r * c) 0 (by omega)
  rw [Nat.zero_add] at lG
  have lE : (txE sp row tm).length ≤ 50 := by
    have := dl sp; have := dl row; have := dl tm
    have w56 : (Sw 56).length = 7 := rfl
    have w57 : (Sw 57).length = 12 := rfl
    have w58 : (Sw 58).length = 8 := rfl
    have w59 : (Sw 59).length = 17 := rfl
    unfold txE
    simp only [List.length_append]
    omega
  unfold txt
  simp only [List.length_append]
  omega
/-- the text as a whole is read, and wear is steps -/
theorem txt_read {V : TV} (ok : txok f rt R cl dg r c a kc ru sp row tm) (h : Lt V 0 (txt f rg rt R cl dg c a kc ru (r * c) sp row tm)) : ∃ s1 w1 sim1, r_all V = Sum.inr (s1, w1, sim1) ∧ nn w1 0 = r ∧ nn w1 1 = c ∧ Im 10000 w1 := by
  obtain ⟨t, et⟩ := txt_h (f := f) (rg := rg) (rt := rt) (R := R) (cl := cl) (dg := dg) (r := r) (c := c) (a := a) (kc := kc) (ru := ru) (sp := sp) (row := row) (tm := tm)
  have h2 := h.skip
  have e : stp (txt f rg rt R cl dg c a kc ru (r * c) sp row tm) = txt f rg rt R cl dg c a kc ru (r * c) sp row tm := by
    rw [et]
    exact if_neg (by decide)
  rw [e] at h2
  obtain ⟨s1, w1, sim1, e1, a1, a2⟩ := rs_all ok (lx_txt ok h2)
  have j := r_all_J e1
  have j2 := j.1.2
  exact ⟨s1, w1, sim1, e1, a1, a2, j.2.2.mono (by omega)⟩
end TBS
