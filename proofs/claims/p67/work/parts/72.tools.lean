/-! tools over numbers and rows -/
theorem A26 (n : Nat) : (26 : Int32) + nI n = nI (26 + n) := nI_add 26 n
theorem A36 (n : Nat) : (36 : Int32) + nI n = nI (36 + n) := nI_add 36 n
theorem A46 (n : Nat) : (46 : Int32) + nI n = nI (46 + n) := nI_add 46 n
theorem A54 (n : Nat) : (54 : Int32) + nI n = nI (54 + n) := nI_add 54 n
theorem A84 (n : Nat) : (84 : Int32) + nI n = nI (84 + n) := nI_add 84 n
theorem A164 (n : Nat) : (164 : Int32) + nI n = nI (164 + n) := nI_add 164 n
theorem A244 (n : Nat) : (244 : Int32) + nI n = nI (244 + n) := nI_add 244 n
theorem A324 (n : Nat) : (324 : Int32) + nI n = nI (324 + n) := nI_add 324 n
theorem A404 (n : Nat) : (404 : Int32) + nI n = nI (404 + n) := nI_add 404 n
theorem T2_ (n : Nat) : (2 : Int32) * nI n = nI (2 * n) := pk_mul 2 n
theorem S1_ {n : Nat} (h : 1 ≤ n) : nI n - 1 = nI (n - 1) := pk_sub (b := 1) h
theorem S2_ {n : Nat} (h : 2 ≤ n) : nI n - 2 = nI (n - 2) := pk_sub (b := 2) h
theorem ok_ {m n : Nat} (h : m < n) (hn : n < 2 ^ 31) : 0 ≤ nI m ∧ (nI m).toNatClampNeg < n := by
  rw [nI_clamp (by omega)]
  exact ⟨nI_pos' (by omega), h⟩
theorem ok4 {m : Nat} (h : m < 424) : 0 ≤ nI m ∧ (nI m).toNatClampNeg < 424 := ok_ h (by decide)
theorem b2_ite {p : Prop} [Decidable p] : (if p then some (0 : Int32) else some 1) = some (b2 (!decide p)) := by
  by_cases h : p
  · rw [if_pos h, decide_eq_true h]; rfl
  · rw [if_neg h, decide_eq_false h]; rfl
theorem b2_ite1 {p : Prop} [Decidable p] : (if p then some (1 : Int32) else some 0) = some (b2 (decide p)) := by
  by_cases h : p
  · rw [if_pos h, decide_eq_true h]; rfl
  · rw [if_neg h, decide_eq_false h]; rfl
theorem in01 {w : Wd} {k : Nat} (h : in_ w k 0 1) : w k = 0 ∨ w k = 1 := by
  have h2 := h.2.2
  rcases Nat.lt_or_ge (nn w k) 1 with c | c
  · left; rw [h.1, show nn w k = 0 by omega]; rfl
  · right; rw [h.1, show nn w k = 1 by omega]; rfl
def cu_ (w : Wd) : Prop := ∀ k, k < 10 → in_ w (26 + k) 0 1
theorem le0_ {w : Wd} {k a b : Nat} (hb : b < 2 ^ 31) (h : in_ w k a b) : (w k ≤ 0 ↔ w k = 0) ∧ (0 < w k ↔ w k ≠ 0) := by
  have h2 := h.2.2
  by_cases c : nn w k = 0
  · rw [h.1, c]; decide
  · have h0 : 0 < nn w k := by omega
    rw [h.1]
    exact ⟨⟨fun e => absurd e (nI_nle h0 (by omega)), fun e => absurd e (nI_ne0 h0 (by omega))⟩, ⟨fun _ => nI_ne0 h0 (by omega), fun _ => (nI_ltI (a := 0) (by omega) (by omega)).mpr h0⟩⟩
theorem au_ {hi : HI} {a : AA} {k : Nat} {v : Int32} : am_u hi a k v a k = v := by
  unfold am_u
  rw [if_pos rfl, if_pos rfl]
theorem au_n {hi : HI} {a : AA} {k j : Nat} {v : Int32} (h : j ≠ k) : am_u hi a k v a j = hi a j := by
  unfold am_u
  rw [if_neg h]
theorem upd_comm {w : Wd} {a b : Nat} {x y : Int32} (h : a ≠ b) : upd (upd w a x) b y = upd (upd w b y) a x := by
  funext q
  rw [upd_e, upd_e, upd_e, upd_e]
  by_cases h1 : q = b
  · rw [if_pos h1, if_neg (by omega), if_pos h1]
  · rw [if_neg h1, if_neg h1]
theorem le_if {x : Int32} {α : Type} {a b : α} (h : x ≤ 0 ↔ x = 0) : (if x ≤ 0 then a else b) = if x = 0 then a else b := by
  by_cases c : x = 0
  · rw [if_pos c, if_pos (h.mpr c)]
  · rw [if_neg c, if_neg (fun q => c (h.mp q))]
theorem za_inj {n m : Nat} (h : za n = za m) : n = m := by
  injection h with h
  injection h with h
  injection h
