/-! TOKENS: bytes b (0..255), n of them; the class's table of tokens, the model's token -/
def t_L (c : Nat) : Bool := decide (97 ≤ c) && decide (c ≤ 122)
def t_D (c : Nat) : Bool := decide (48 ≤ c) && decide (c ≤ 57)
def t_S (c : Nat) : Bool := decide (c = 32)
def t_run (p : Nat → Bool) (b : Nat → Nat) : Nat → Nat → Nat
  | 0, k => k
  | f + 1, k => if p (b k) = true then t_run p b f (k + 1) else k
theorem t_run_s (p : Nat → Bool) (b : Nat → Nat) (f k : Nat) : t_run p b (f + 1) k = if p (b k) = true then t_run p b f (k + 1) else k := rfl
theorem t_run_b (p : Nat → Bool) (b : Nat → Nat) : ∀ f k, k ≤ t_run p b f k ∧ t_run p b f k ≤ k + f
  | 0, k => ⟨Nat.le_refl _, Nat.le_refl _⟩
  | f + 1, k => by
    rw [t_run_s]
    have h := t_run_b p b f (k + 1)
    split <;> omega
theorem t_run_1 {p : Nat → Bool} {b : Nat → Nat} {n s : Nat} (h : s < n) (hp : p (b s) = true) : t_run p b (n - s) s = t_run p b (n - (s + 1)) (s + 1) := by
  rw [show n - s = (n - (s + 1)) + 1 by omega, t_run_s, if_pos hp]
def t_end (b : Nat → Nat) (n s : Nat) : Nat := if t_L (b s) = true then t_run t_L b (n - s) s else if t_D (b s) = true then t_run t_D b (n - s) s else s + 1
def t_skip (b : Nat → Nat) (n s : Nat) : Nat := t_run t_S b (n - s) s
def t_nx (b : Nat → Nat) (n s : Nat) : Nat := if n ≤ s then s else t_skip b n (t_end b n s)
def t_w (b : Nat → Nat) : Nat → Nat → List Nat
  | _, 0 => []
  | s, m + 1 => b s :: t_w b (s + 1) m
def t_lk (W : List Nat) : Nat → Nat → Fin 37
  | 0, _ => 35
  | f + 1, k => if am_str.getD k [] = W then Fin.ofNat 37 k else t_lk W f (k + 1)
theorem t_lk_s (W : List Nat) (f k : Nat) : t_lk W (f + 1) k = if am_str.getD k [] = W then Fin.ofNat 37 k else t_lk W f (k + 1) := rfl
def t_sg (b : Nat → Nat) (n s : Nat) : Fin 37 := if n ≤ s then 36 else if t_D (b s) = true then (if t_end b n s - s ≤ 3 then 34 else 35) else t_lk (t_w b s (t_end b n s - s)) 37 0
def t_nv (b : Nat → Nat) : Nat → Nat → Nat → Nat
  | 0, _, a => a
  | m + 1, s, a => t_nv b m (s + 1) (a * 10 + (b s - 48))
theorem t_nv_s (b : Nat → Nat) (m s a : Nat) : t_nv b (m + 1) s a = t_nv b m (s + 1) (a * 10 + (b s - 48)) := rfl
def t_nu (b : Nat → Nat) (n s : Nat) : Nat := t_nv b (t_end b n s - s) s 0
theorem t_w_len (b : Nat → Nat) : ∀ m s, (t_w b s m).length = m
  | 0, s => rfl
  | m + 1, s => by show (t_w b (s + 1) m).length + 1 = m + 1; rw [t_w_len b m (s + 1)]
theorem t_end_b {b : Nat → Nat} {n s : Nat} (h : s < n) : s + 1 ≤ t_end b n s ∧ t_end b n s ≤ n := by
  unfold t_end
  split
  · next hp =>
    rw [t_run_1 h hp]
    have := t_run_b t_L b (n - (s + 1)) (s + 1)
    omega
  · split
    · next hp =>
      rw [t_run_1 h hp]
      have := t_run_b t_D b (n - (s + 1)) (s + 1)
      omega
    · omega
theorem t_skip_b {b : Nat → Nat} {n s : Nat} (h : s ≤ n) : s ≤ t_skip b n s ∧ t_skip b n s ≤ n := by
  have := t_run_b t_S b (n - s) s
  unfold t_skip
  omega
theorem t_skip_n {b : Nat → Nat} {n : Nat} : t_skip b n n = n := by
  unfold t_skip
  rw [Nat.sub_self]
  rfl
theorem t_skip_1 {b : Nat → Nat} {n s : Nat} (h : s < n) (hb : b s = 32) : t_skip b n s = t_skip b n (s + 1) := t_run_1 h (decide_eq_true hb)
theorem t_skip_0 {b : Nat → Nat} {n s : Nat} (hb : b s ≠ 32) : t_skip b n s = s := by
  unfold t_skip
  cases n - s with
  | zero => rfl
  | succ f => rw [t_run_s, if_neg (show ¬ t_S (b s) = true from fun h => hb (of_decide_eq_true h))]
theorem t_nx_b {b : Nat → Nat} {n s : Nat} (h : s < n) : s + 1 ≤ t_nx b n s ∧ t_nx b n s ≤ n := by
  unfold t_nx
  rw [if_neg (by omega)]
  have h1 := t_end_b (b := b) h
  have h2 := t_skip_b (b := b) h1.2
  omega
theorem t_nx_n {b : Nat → Nat} {n : Nat} : t_nx b n n = n := if_pos (Nat.le_refl _)
theorem t_nx_le {b : Nat → Nat} {n s : Nat} (h : s ≤ n) : s ≤ t_nx b n s ∧ t_nx b n s ≤ n := by
  by_cases c : s < n
  · have := t_nx_b (b := b) c; omega
  · obtain rfl : s = n := by omega
    rw [t_nx_n]; omega
/-- the starts of the tokens -/
def t_it (b : Nat → Nat) (n : Nat) : Nat → Nat
  | 0 => t_skip b n 0
  | p + 1 => t_nx b n (t_it b n p)
theorem t_it_le {b : Nat → Nat} {n : Nat} : ∀ p, t_it b n p ≤ n
  | 0 => (t_skip_b (Nat.zero_le _)).2
  | p + 1 => (t_nx_le (t_it_le p)).2
theorem t_it_ge {b : Nat → Nat} {n : Nat} : ∀ p, p ≤ t_it b n p ∨ t_it b n p = n
  | 0 => Or.inl (Nat.zero_le _)
  | p + 1 => by
    have hl := t_it_le (b := b) (n := n) p
    show p + 1 ≤ t_nx b n (t_it b n p) ∨ t_nx b n (t_it b n p) = n
    by_cases c : t_it b n p < n
    · have := t_nx_b (b := b) c
      rcases t_it_ge (b := b) (n := n) p with h | h <;> omega
    · have e : t_it b n p = n := by omega
      right; rw [e, t_nx_n]
def By_ (hi : HI) (b : Nat → Nat) : Prop := ∀ k, k < 500 → hi (za 1) k = nI (b k) ∧ b k < 256
section LX
variable {hi : HI} {b : Nat → Nat} {n : Nat}
theorem C_isL (c : Nat) (h : c < 256) : sh_X6_isLetter (nI c) = b2 (t_L c) := by
  have : ∀ c, c < 256 → sh_X6_isLetter (nI c) = b2 (t_L c) := by decide +kernel
  exact this c h
theorem C_isD (c : Nat) (h : c < 256) : sh_X6_isDigit (nI c) = b2 (t_D c) := by
  have : ∀ c, c < 256 → sh_X6_isDigit (nI c) = b2 (t_D c) := by decide +kernel
  exact this c h
theorem LD_ (c : Nat) : t_L c = true → t_D c = false := by
  unfold t_L t_D
  intro h
  have h1 := of_decide_eq_true (Bool.and_eq_true_iff.mp h).1
  have : ¬ c ≤ 57 := by omega
  rw [decide_eq_false this, Bool.and_false]
theorem by_at (hb : By_ hi b) {k : Nat} (hk : k < 500) : sh_at (za 1) 500 (nI k) hi = nI (b k) := by rw [at_n hk (by decide), (hb k hk).1]
theorem C_tend_11 {G s : Nat} (hb : By_ hi b) (hn : n ≤ 500) (hs : s < n) : ∀ f k F, k + f = n → f < F → sh_X6_tokenEnd_11 G (nI s) (nI n) hi F (nI (b s)) (nI k) = some (nI (if t_L (b s) = true then t_run t_L b f k else if t_D (b s) = true then t_run t_D b f k else k))
  | f, k, 0, h, hF => absurd hF (Nat.not_lt_zero _)
  | 0, k, F + 1, h, hF => by
    show sh_X6_tokenEnd_11_b G (nI s) (nI n) hi (sh_X6_tokenEnd_11 G (nI s) (nI n) hi F) (nI (b s)) (nI k) = _
    unfold sh_X6_tokenEnd_11_b
    rw [if_pos (nI_le (by omega) (by omega))]
    split
    · rfl
    · split <;> rfl
  | f + 1, k, F + 1, h, hF => by
    show sh_X6_tokenEnd_11_b G (nI s) (nI n) hi (sh_X6_tokenEnd_11 G (nI s) (nI n) hi F) (nI (b s)) (nI k) = _
    have hbs := (hb s (by omega)).2
    have hbk := (hb k (by omega)).2
    have ih := C_tend_11 (G := G) hb hn hs f (k + 1) F (by omega) (by omega)
    unfold sh_X6_tokenEnd_11_b sh_X6_tokenEnd_36
    rw [if_neg (nI_ge (by omega) (by omega)), by_at hb (by omega), C_isL _ hbs, C_isL _ hbk, C_isD _ hbs, C_isD _ hbk, nI_1, ih, t_run_s, t_run_s]
    rw [eq_of, eq_of, eq_of, ne_of]
    cases hL : t_L (b s)
    · cases t_D (b s) <;> cases t_L (b k) <;> cases t_D (b k) <;> rfl
    · rw [LD_ _ hL]
      cases t_L (b k) <;> cases t_D (b k) <;> rfl
theorem C_tend {G s : Nat} (hb : By_ hi b) (hn : n ≤ 500) (hs : s < n) (hG : 500 < G) : sh_X6_tokenEnd G (nI s) (nI n) hi = some (nI (t_end b n s)) := by
  unfold sh_X6_tokenEnd
  rw [by_at hb (by omega), nI_1, C_tend_11 hb hn hs (n - (s + 1)) (s + 1) G (by omega) (by omega)]
  unfold t_end
  split
  · next h => rw [t_run_1 hs h]
  · split
    · next h => rw [t_run_1 hs h]
    · rfl
/-- a text, letter by letter -/
theorem ch_eq : ∀ w, w < 60 → ∀ j, j < am_strlen w → (am_str.getD w []).getD j 0 < 128 ∧ (am_str.getD w []).drop j = (am_str.getD w []).getD j 0 :: (am_str.getD w []).drop (j + 1) := by decide +kernel
theorem C_spells_2 {G w s : Nat} (hb : By_ hi b) (hw : w < 60) (hs : s + am_strlen w ≤ 500) : ∀ f k F, k + f = am_strlen w → f < F → sh_X6_spells_2 G w (nI s) hi F (nI k) = some (b2 (decide ((am_str.getD w []).drop k = t_w b (s + k) f)))
  | f, k, 0, h, hF => absurd hF (Nat.not_lt_zero _)
  | 0, k, F + 1, h, hF => by
    show sh_X6_spells_2_b G w (nI s) hi (sh_X6_spells_2 G w (nI s) hi F) (nI k) = _
    unfold sh_X6_spells_2_b sh_slen
    have hl := ch_len w hw
    have e : (am_str.getD w []).drop k = [] := List.drop_eq_nil_of_le (by show am_strlen w ≤ k; omega)
    rw [if_pos (nI_le (by omega) (by omega)), e]
    rfl
  | f + 1, k, F + 1, h, hF => by
    show sh_X6_spells_2_b G w (nI s) hi (sh_X6_spells_2 G w (nI s) hi F) (nI k) = _
    have hl := ch_len w hw
    have hc := ch_eq w hw k (by omega)
    have ih := C_spells_2 (G := G) hb hw hs f (k + 1) F (by omega) (by omega)
    unfold sh_X6_spells_2_b sh_slen sh_schar
    rw [if_neg (nI_ge (by omega) (by omega)), if_pos (ok_ (by omega) hl), nI_clamp (by omega), bs, nI_add, by_at hb (by omega), nI_1, ih, hc.2]
    have hbk := (hb (s + k) (by omega)).2
    show (if nI ((am_str.getD w []).getD k 0) = nI (b (s + k)) then _ else _) = some (b2 (decide ((am_str.getD w []).getD k 0 :: (am_str.getD w []).drop (k + 1) = b (s + k) :: t_w b (s + k + 1) f)))
    by_cases c : (am_str.getD w []).getD k 0 = b (s + k)
    · rw [c, if_pos rfl]
      congr 2
      apply decide_eq_decide.mpr
      constructor
      · intro q; rw [q]; rfl
      · intro q; injection q
    · rw [if_neg (fun q => c ((nI_eq (by omega) (by omega)).mp q)), decide_eq_false (fun q => c (by injection q))]
      rfl
theorem C_spells {G w s : Nat} (hb : By_ hi b) (hw : w < 60) (hs : s + am_strlen w ≤ 500) (hG : am_strlen w < G) : sh_X6_spells G w (nI s) hi = some (b2 (decide (am_str.getD w [] = t_w b s (am_strlen w)))) := C_spells_2 hb hw hs (am_strlen w) 0 G (by omega) hG
theorem st_short : ∀ w, w < 37 → am_strlen w ≤ 7 := by decide +kernel
theorem f37 {k : Nat} (h : k < 37) : (Fin.ofNat 37 k).val = k := Nat.mod_eq_of_lt h
theorem C_sign_39 {G s e : Nat} (hb : By_ hi b) (hs : s ≤ e) (he : e ≤ 500) (hG : 7 < G) : ∀ f k F, k + f = 37 → f < F → sh_X6_signOf_39 G (nI s) (nI e) hi F (37 : Int32) (nI k) = some (t_lk (t_w b s (e - s)) f k)
  | f, k, 0, h, hF => absurd hF (Nat.not_lt_zero _)
  | 0, k, F + 1, h, hF => by
    show sh_X6_signOf_39_b G (nI s) (nI e) hi (sh_X6_signOf_39 G (nI s) (nI e) hi F) (37 : Int32) (nI k) = _
    unfold sh_X6_signOf_39_b
    rw [if_pos (show (37 : Int32) ≤ nI k from nI_le (a := 37) (by omega) (by omega))]
    rfl
  | f + 1, k, F + 1, h, hF => by
    show sh_X6_signOf_39_b G (nI s) (nI e) hi (sh_X6_signOf_39 G (nI s) (nI e) hi F) (37 : Int32) (nI k) = _
    have ih := C_sign_39 (G := G) hb hs he hG f (k + 1) F (by omega) (by omega)
    have hl := st_short k (by omega)
    unfold sh_X6_signOf_39_b sh_slen
    rw [if_neg (show ¬ (37 : Int32) ≤ nI k from nI_ge (b := 37) (by omega) (by omega)), if_pos (ok_ (by omega) (by decide)), nI_clamp (by omega), f37 (by omega), pk_sub hs, nI_1, ih, t_lk_s]
    by_cases c : am_strlen k = e - s
    · rw [c, if_neg (fun q => q rfl), C_spells hb (by omega) (by omega) (by omega), bs, eq_of, c]
      by_cases c2 : am_str.getD k [] = t_w b s (e - s)
      · rw [decide_eq_true c2, if_pos rfl, if_pos c2]
      · rw [decide_eq_false c2, if_neg (by decide), if_neg c2]
    · rw [if_pos (fun q => c ((nI_eq (by omega) (by omega)).mp q)), if_neg (fun q => c (by
        have := congrArg List.length q
        rw [t_w_len] at this
        exact this))]
theorem C_sign {G s : Nat} (hb : By_ hi b) (hn : n ≤ 500) (hs : s < n) (hG : 37 < G) : sh_X6_signOf G (nI s) (nI (t_end b n s)) hi = some (t_sg b n s) := by
  have he := t_end_b (b := b) hs
  have hbs := (hb s (by omega)).2
  unfold sh_X6_signOf t_sg
  rw [by_at hb (by omega), C_isD _ hbs, if_neg (show ¬ n ≤ s by omega), show sh_X6_signOf_39 G (nI s) (nI (t_end b n s)) hi G (37 : Int32) (0 : Int32) = _ from C_sign_39 hb (by omega) (by omega) (by omega) 37 0 G (by omega) hG, pk_sub (by omega), eq_of]
  cases t_D (b s)
  · rw [if_neg (by decide), if_neg (by decide)]
  · rw [if_pos rfl, if_pos rfl]
    by_cases c : t_end b n s - s ≤ 3
    · rw [if_neg (show ¬ (3 : Int32) < _ from fun q => by have := (nI_ltI (a := 3) (by omega) (by omega)).mp q; omega), if_pos c]
    · rw [if_pos (show (3 : Int32) < _ from nI_lt (a := 3) (by omega) (by omega)), if_neg c]
theorem C_num_5 {G s e : Nat} (hb : By_ hi b) (he : e ≤ 500) : ∀ f k F (v : Int32), k + f = e → f < F → ∃ r, sh_X6_numberOf_5 G (nI s) (nI e) hi F v (nI k) = some r
  | f, k, 0, _, h, hF => absurd hF (Nat.not_lt_zero _)
  | 0, k, F + 1, v, h, hF => by
    refine ⟨v, ?_⟩
    show sh_X6_numberOf_5_b G (nI s) (nI e) hi (sh_X6_numberOf_5 G (nI s) (nI e) hi F) v (nI k) = _
    unfold sh_X6_numberOf_5_b
    rw [if_pos (nI_le (by omega) (by omega))]
  | f + 1, k, F + 1, v, h, hF => by
    show ∃ r, sh_X6_numberOf_5_b G (nI s) (nI e) hi (sh_X6_numberOf_5 G (nI s) (nI e) hi F) v (nI k) = some r
    unfold sh_X6_numberOf_5_b
    rw [if_neg (nI_ge (by omega) (by omega)), nI_1]
    by_cases c : nI s + 3 ≤ nI k
    · rw [if_pos c]; exact ⟨v, rfl⟩
    · rw [if_neg c]; exact C_num_5 hb he f (k + 1) F _ (by omega) (by omega)
theorem C_numD {G s e : Nat} (hb : By_ hi b) (he : e ≤ 500) (h3 : e ≤ s + 3) : ∀ f k F (v : Nat), s ≤ k → k + f = e → f < F → (∀ j, k ≤ j → j < e → t_D (b j) = true) → sh_X6_numberOf_5 G (nI s) (nI e) hi F (nI v) (nI k) = some (nI (t_nv b f k v))
  | f, k, 0, _, _, h, hF, _ => absurd hF (Nat.not_lt_zero _)
  | 0, k, F + 1, v, _, h, hF, _ => by
    show sh_X6_numberOf_5_b G (nI s) (nI e) hi (sh_X6_numberOf_5 G (nI s) (nI e) hi F) (nI v) (nI k) = _
    unfold sh_X6_numberOf_5_b
    rw [if_pos (nI_le (by omega) (by omega))]
    rfl
  | f + 1, k, F + 1, v, hk, h, hF, hd => by
    show sh_X6_numberOf_5_b G (nI s) (nI e) hi (sh_X6_numberOf_5 G (nI s) (nI e) hi F) (nI v) (nI k) = _
    have ih := C_numD (G := G) hb he h3 f (k + 1) F (v * 10 + (b k - 48)) (by omega) (by omega) (by omega) (fun j h1 h2 => hd j (by omega) h2)
    have h48 : 48 ≤ b k := of_decide_eq_true (Bool.and_eq_true_iff.mp (hd k (by omega) (by omega))).1
    have e3 : nI s + 3 = nI (s + 3) := nI_add s 3
    have e10 : nI v * 10 = nI (v * 10) := pk_mul v 10
    have e48 : nI (v * 10 + b k) - 48 = nI (v * 10 + b k - 48) := pk_sub (b := 48) (by omega)
    unfold sh_X6_numberOf_5_b
    rw [if_neg (nI_ge (by omega) (by omega)), e3, if_neg (nI_ge (by omega) (by omega)), by_at hb (by omega), nI_1, e10, nI_add, e48, t_nv_s, show v * 10 + b k - 48 = v * 10 + (b k - 48) by omega]
    exact ih
end LX
theorem t_run_p {p : Nat → Bool} {b : Nat → Nat} : ∀ f k j, k ≤ j → j < t_run p b f k → p (b j) = true
  | 0, k, j, h1, h2 => by have : j < k := h2; omega
  | f + 1, k, j, h1, h2 => by
    rw [t_run_s] at h2
    by_cases c : p (b k) = true
    · rw [if_pos c] at h2
      by_cases e : j = k
      · rw [e]; exact c
      · exact t_run_p f (k + 1) j (by omega) h2
    · rw [if_neg c] at h2; omega
/-- a number -/
theorem t_sg34 {b : Nat → Nat} {n s : Nat} (h : t_sg b n s = 34) : s < n ∧ t_D (b s) = true ∧ t_end b n s - s ≤ 3 ∧ ∀ j, s ≤ j → j < t_end b n s → t_D (b j) = true := by
  unfold t_sg at h
  by_cases c : n ≤ s
  · rw [if_pos c] at h; cases h
  rw [if_neg c] at h
  by_cases c1 : t_D (b s) = true
  · rw [if_pos c1] at h
    by_cases c2 : t_end b n s - s ≤ 3
    · refine ⟨by omega, c1, c2, fun j h1 h2 => ?_⟩
      have hL : ¬ t_L (b s) = true := fun q => by rw [LD_ _ q] at c1; cases c1
      unfold t_end at h2
      rw [if_neg hL, if_pos c1] at h2
      exact t_run_p _ _ _ h1 h2
    · rw [if_neg c2] at h; cases h
  · rw [if_neg c1] at h
    have : ∀ f k, k + f = 37 → t_lk (t_w b s (t_end b n s - s)) f k = 34 → False := fun f => by
      induction f with
      | zero => intro k _ q; cases q
      | succ f ih =>
        intro k hk q
        rw [t_lk_s] at q
        by_cases c3 : am_str.getD k [] = t_w b s (t_end b n s - s)
        · rw [if_pos c3] at q
          have e : k = 34 := by
            have := congrArg Fin.val q
            rw [f37 (by omega)] at this
            exact this
          have hl := congrArg List.length c3
          rw [t_w_len, e] at hl
          have := (t_end_b (b := b) (n := n) (s := s) (by omega)).1
          have h0 : (am_str.getD 34 []).length = 0 := rfl
          omega
        · rw [if_neg c3] at q
          exact ih (k + 1) (by omega) q
    exact absurd h (fun q => this 37 0 rfl q)
theorem t_nv_b {b : Nat → Nat} : ∀ m s a, (∀ j, s ≤ j → j < s + m → t_D (b j) = true) → t_nv b m s a < (a + 1) * 10 ^ m
  | 0, s, a, _ => by show a < (a + 1) * 1; omega
  | m + 1, s, a, h => by
    have h1 := t_nv_b m (s + 1) (a * 10 + (b s - 48)) (fun j h1 h2 => h j (by omega) (by omega))
    have h57 : b s ≤ 57 := of_decide_eq_true (Bool.and_eq_true_iff.mp (h s (by omega) (by omega))).2
    rw [t_nv_s]
    refine Nat.lt_of_lt_of_le h1 ?_
    rw [Nat.pow_succ, Nat.mul_comm (10 ^ m) 10, ← Nat.mul_assoc]
    exact Nat.mul_le_mul_right _ (by omega)
theorem t_nu_b {b : Nat → Nat} {n s : Nat} (h : t_sg b n s = 34) : t_nu b n s < 1000 := by
  obtain ⟨h1, h2, h3, h4⟩ := t_sg34 h
  have he := t_end_b (b := b) h1
  have := t_nv_b (b := b) (t_end b n s - s) s 0 (fun j a c => h4 j a (by omega))
  unfold t_nu
  have hp : 10 ^ (t_end b n s - s) ≤ 10 ^ 3 := Nat.pow_le_pow_right (by decide) h3
  omega
