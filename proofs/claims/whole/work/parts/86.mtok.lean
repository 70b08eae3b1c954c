/-! the model's token -/
def sb (c : Nat) : Int32 := (nI c).toInt8.toInt32
def Mb_ (hi : HI) (b : Nat → Nat) : Prop := ∀ k, k < 500 → hi (za 201) k = sb (b k) ∧ b k < 256
def t_kd (b : Nat → Nat) (n s : Nat) : Nat := if n ≤ s then 1 else if t_L (b s) = true then (if t_end b n s - s ≤ 7 then 2 else 0) else if t_D (b s) = true then (if t_end b n s - s ≤ 3 then 3 else 0) else if b s = 59 then 4 else if b s = 40 then 5 else if b s = 41 then 6 else 0
def t_cu (b : Nat → Nat) (n s : Nat) : Nat := if n ≤ s then s else t_end b n s
/-- the token that starts at s is at hand -/
def MT (b : Nat → Nat) (n : Nat) (h : HI) (s : Nat) : Prop := h (za 195) 14 = nI s ∧ h (za 195) 13 = nI (t_cu b n s) ∧ h (za 195) 15 = nI (t_kd b n s) ∧ (t_sg b n s = 34 → h (za 195) 16 = nI (t_nu b n s))
/-- only the token has changed -/
def fg_ (h h1 : HI) : Prop := ∀ a k, ¬ (a = za 195 ∧ 13 ≤ k ∧ k ≤ 16) → h1 a k = h a k
theorem fg_.refl (h : HI) : fg_ h h := fun _ _ _ => rfl
theorem fg_.trans {h h1 h2 : HI} (a : fg_ h h1) (b : fg_ h1 h2) : fg_ h h2 := fun x k c => (b x k c).trans (a x k c)
theorem fg_.u {h h1 : HI} (a : fg_ h h1) {k : Nat} {v : Int32} (hk : 13 ≤ k ∧ k ≤ 16) : fg_ h (am_u h1 (za 195) k v) := fun x j c => by
  by_cases q : x = za 195
  · subst q
    rw [au_k (fun q => c ⟨rfl, by omega⟩)]
    exact a _ j c
  · rw [au_a q]
    exact a x j c
theorem sb_L (c : Nat) (h : c < 256) : sh_X10_in (sb c) (97 : Int32) (122 : Int32) = b2 (t_L c) := by
  have : ∀ c, c < 256 → sh_X10_in (sb c) (97 : Int32) (122 : Int32) = b2 (t_L c) := by decide +kernel
  exact this c h
theorem sb_D (c : Nat) (h : c < 256) : sh_X10_in (sb c) (48 : Int32) (57 : Int32) = b2 (t_D c) := by
  have : ∀ c, c < 256 → sh_X10_in (sb c) (48 : Int32) (57 : Int32) = b2 (t_D c) := by decide +kernel
  exact this c h
theorem sb_S (c : Nat) (h : c < 256) : (sb c = 32 ↔ c = 32) := by
  have : ∀ c, c < 256 → (sb c = 32 ↔ c = 32) := by decide +kernel
  exact this c h
theorem sb_sign (c : Nat) (h : c < 256) : sh_X10_signOfByte (sb c) = nI (if c = 59 then 4 else if c = 40 then 5 else if c = 41 then 6 else 0) := by
  have : ∀ c, c < 256 → sh_X10_signOfByte (sb c) = nI (if c = 59 then 4 else if c = 40 then 5 else if c = 41 then 6 else 0) := by decide +kernel
  exact this c h
theorem sb_lo (c : Nat) (h : c < 128) : sb c = nI c := by
  have : ∀ c, c < 128 → sb c = nI c := by decide +kernel
  exact this c h
theorem sb_ch (c d : Nat) (h : c < 256) (hd : d < 128) : (sb c = nI d ↔ c = d) := by
  by_cases q : c < 128
  · rw [sb_lo c q]
    exact nI_eq (by omega) (by omega)
  · have hn : ∀ c, c < 256 → ¬ c < 128 → sb c < 0 := by decide +kernel
    constructor
    · intro e
      have := hn c h q
      rw [e] at this
      exact absurd this (nI_pos (by omega))
    · intro e; omega
section MTK
variable {b : Nat → Nat} {n : Nat}
theorem Mb_.fg {h h1 : HI} (f : fg_ h h1) (hb : Mb_ h b) : Mb_ h1 b := fun k hk => by
  rw [f _ _ (fun q => by cases q.1)]
  exact hb k hk
theorem M_isL {h : HI} {k : Nat} (hb : Mb_ h b) (h12 : h (za 195) 12 = nI n) (hn : n ≤ 500) (hk : k ≤ n) : sh_X10_isLetter (nI k) h = some (b2 (decide (k < n) && t_L (b k))) := by
  unfold sh_X10_isLetter
  rw [h12]
  by_cases c : k < n
  · rw [if_neg (nI_ge c (by omega)), if_pos (ok_ (by omega) (by decide)), nI_clamp (by omega), (hb k (by omega)).1, sb_L _ (hb k (by omega)).2, decide_eq_true c]
    cases t_L (b k) <;> rfl
  · rw [if_pos (nI_le (by omega) (by omega)), decide_eq_false c]; rfl
theorem M_isD {h : HI} {k : Nat} (hb : Mb_ h b) (h12 : h (za 195) 12 = nI n) (hn : n ≤ 500) (hk : k ≤ n) : sh_X10_isDigit (nI k) h = some (b2 (decide (k < n) && t_D (b k))) := by
  unfold sh_X10_isDigit
  rw [h12]
  by_cases c : k < n
  · rw [if_neg (nI_ge c (by omega)), if_pos (ok_ (by omega) (by decide)), nI_clamp (by omega), (hb k (by omega)).1, sb_D _ (hb k (by omega)).2, decide_eq_true c]
    cases t_D (b k) <;> rfl
  · rw [if_pos (nI_le (by omega) (by omega)), decide_eq_false c]; rfl
theorem M_94 {G s : Nat} (hn : n ≤ 500) : ∀ (f k F : Nat) (h : HI), k + f = n → f < F → s ≤ k → Mb_ h b → h (za 195) 12 = nI n → h (za 195) 13 = nI k → h (za 195) 14 = nI s → ∃ h1, sh_X10_goes_94 G F h = some h1 ∧ h1 (za 195) 13 = nI (t_run t_L b f k) ∧ h1 (za 195) 14 = nI s ∧ h1 (za 195) 15 = nI (if t_run t_L b f k - s ≤ 7 then 2 else 0) ∧ fg_ h h1
  | f, k, 0, h, _, hF, _, _, _, _, _ => absurd hF (Nat.not_lt_zero _)
  | f, k, F + 1, h, hk, hF, hs, hb, h12, h13, h14 => by
    show ∃ h1, sh_X10_goes_94_b G (sh_X10_goes_94 G F) h = some h1 ∧ _
    have hrun := t_run_b t_L b f k
    unfold sh_X10_goes_94_b
    rw [h13, M_isL hb h12 hn (by omega), bs, eq_of]
    have stop : t_run t_L b f k = k → ∃ h1, (if (7 : Int32) < nI k - h (za 195) 14 then some (am_u h (za 195) 15 (0 : Int32)) else some (am_u h (za 195) 15 (2 : Int32))) = some h1 ∧ h1 (za 195) 13 = nI (t_run t_L b f k) ∧ h1 (za 195) 14 = nI s ∧ h1 (za 195) 15 = nI (if t_run t_L b f k - s ≤ 7 then 2 else 0) ∧ fg_ h h1 := fun e => by
      rw [e, h14, pk_sub hs]
      by_cases c : k - s ≤ 7
      · rw [if_neg (show ¬ (7 : Int32) < nI (k - s) from fun q => by have := (nI_ltI (a := 7) (by omega) (by omega)).mp q; omega), if_pos c]
        exact ⟨_, rfl, (au_k (by omega)).trans h13, (au_k (by omega)).trans h14, au_, (fg_.refl h).u (by omega)⟩
      · rw [if_pos (show (7 : Int32) < nI (k - s) from nI_lt (a := 7) (by omega) (by omega)), if_neg c]
        exact ⟨_, rfl, (au_k (by omega)).trans h13, (au_k (by omega)).trans h14, au_, (fg_.refl h).u (by omega)⟩
    cases f with
    | zero =>
      rw [decide_eq_false (show ¬ k < n by omega), Bool.false_and, if_neg (by decide)]
      exact stop rfl
    | succ f =>
      rw [decide_eq_true (show k < n by omega), Bool.true_and]
      by_cases c : t_L (b k) = true
      · rw [if_pos c, nI_1]
        have f1 : fg_ h (am_u h (za 195) 13 (nI (k + 1))) := (fg_.refl h).u (by omega)
        obtain ⟨h1, e1, a1, a2, a3, a4⟩ := M_94 (G := G) hn f (k + 1) F (am_u h (za 195) 13 (nI (k + 1))) (by omega) (by omega) (by omega) (hb.fg f1) ((au_k (by omega)).trans h12) au_ ((au_k (by omega)).trans h14)
        rw [t_run_s, if_pos c]
        exact ⟨h1, e1, a1, a2, a3, f1.trans a4⟩
      · rw [if_neg c]
        exact stop (by rw [t_run_s, if_neg c])
theorem t_nv_snoc (b : Nat → Nat) : ∀ m s a, t_nv b (m + 1) s a = t_nv b m s a * 10 + (b (s + m) - 48)
  | 0, s, a => rfl
  | m + 1, s, a => by
    rw [t_nv_s, t_nv_snoc b m, t_nv_s, show s + 1 + m = s + (m + 1) by omega]
theorem M_158 {G s : Nat} (hn : n ≤ 500) : ∀ (f k F : Nat) (h : HI), k + f = n → f < F → s ≤ k → (∀ j, s ≤ j → j < k → t_D (b j) = true) → Mb_ h b → h (za 195) 12 = nI n → h (za 195) 13 = nI k → h (za 195) 14 = nI s → h (za 195) 16 = nI (t_nv b (min (k - s) 3) s 0) → ∃ h1, sh_X10_goes_158 G F h = some h1 ∧ h1 (za 195) 13 = nI (t_run t_D b f k) ∧ h1 (za 195) 14 = nI s ∧ h1 (za 195) 15 = nI (if t_run t_D b f k - s ≤ 3 then 3 else 0) ∧ (t_run t_D b f k - s ≤ 3 → h1 (za 195) 16 = nI (t_nv b (t_run t_D b f k - s) s 0)) ∧ fg_ h h1
  | f, k, 0, h, _, hF, _, _, _, _, _, _, _ => absurd hF (Nat.not_lt_zero _)
  | f, k, F + 1, h, hk, hF, hs, hd, hb, h12, h13, h14, h16 => by
    show ∃ h1, sh_X10_goes_158_b G (sh_X10_goes_158 G F) h = some h1 ∧ _
    have hrun := t_run_b t_D b f k
    unfold sh_X10_goes_158_b sh_X10_goes_206
    rw [h13, M_isD hb h12 hn (by omega), bs, eq_of, h14, pk_sub hs]
    have stop : t_run t_D b f k = k → ∃ h1, (if (3 : Int32) < nI (k - s) then some (am_u h (za 195) 15 (0 : Int32)) else some (am_u h (za 195) 15 (3 : Int32))) = some h1 ∧ h1 (za 195) 13 = nI (t_run t_D b f k) ∧ h1 (za 195) 14 = nI s ∧ h1 (za 195) 15 = nI (if t_run t_D b f k - s ≤ 3 then 3 else 0) ∧ (t_run t_D b f k - s ≤ 3 → h1 (za 195) 16 = nI (t_nv b (t_run t_D b f k - s) s 0)) ∧ fg_ h h1 := fun e => by
      rw [e]
      by_cases c : k - s ≤ 3
      · rw [if_neg (show ¬ (3 : Int32) < nI (k - s) from fun q => by have := (nI_ltI (a := 3) (by omega) (by omega)).mp q; omega), if_pos c]
        refine ⟨_, rfl, (au_k (by omega)).trans h13, (au_k (by omega)).trans h14, au_, fun _ => ?_, (fg_.refl h).u (by omega)⟩
        rw [au_k (by omega), h16, Nat.min_eq_left c]
      · rw [if_pos (show (3 : Int32) < nI (k - s) from nI_lt (a := 3) (by omega) (by omega)), if_neg c]
        exact ⟨_, rfl, (au_k (by omega)).trans h13, (au_k (by omega)).trans h14, au_, fun q => absurd q c, (fg_.refl h).u (by omega)⟩
    cases f with
    | zero =>
      rw [decide_eq_false (show ¬ k < n by omega), Bool.false_and, if_neg (by decide)]
      exact stop rfl
    | succ f =>
      rw [decide_eq_true (show k < n by omega), Bool.true_and]
      by_cases c : t_D (b k) = true
      · rw [if_pos c]
        have hd1 : ∀ j, s ≤ j → j < k + 1 → t_D (b j) = true := fun j a1 a2 => by
          by_cases e : j = k
          · rw [e]; exact c
          · exact hd j a1 (by omega)
        have hbk := hb k (by omega)
        have h48 : 48 ≤ b k := of_decide_eq_true (Bool.and_eq_true_iff.mp c).1
        have h57 : b k ≤ 57 := of_decide_eq_true (Bool.and_eq_true_iff.mp c).2
        have e13 : h (za 195) 13 = nI k := h13
        rw [t_run_s, if_pos c]
        by_cases c3 : k - s < 3
        · rw [if_neg (show ¬ (3 : Int32) ≤ nI (k - s) from nI_ge (b := 3) c3 (by omega)), if_pos (ok_ (by omega) (by decide)), nI_clamp (by omega), au_k (by omega), h13, nI_1]
          have e16 : (10 : Int32) * h (za 195) 16 + h (za 201) k - 48 = nI (t_nv b (min (k + 1 - s) 3) s 0) := by
            rw [h16, hbk.1, sb_lo _ (by omega), show (10 : Int32) * nI (t_nv b (min (k - s) 3) s 0) = nI (10 * t_nv b (min (k - s) 3) s 0) from pk_mul 10 _, nI_add, Nat.min_eq_left (by omega), Nat.min_eq_left (by omega), show k + 1 - s = (k - s) + 1 by omega, t_nv_snoc, show s + (k - s) = k by omega, show nI (10 * t_nv b (k - s) s 0 + b k) - 48 = nI (10 * t_nv b (k - s) s 0 + b k - 48) from pk_sub (b := 48) (by omega)]
            congr 1
            omega
          rw [e16]
          have f1 : fg_ h (am_u (am_u h (za 195) 16 (nI (t_nv b (min (k + 1 - s) 3) s 0))) (za 195) 13 (nI (k + 1))) := ((fg_.refl h).u (by omega)).u (by omega)
          obtain ⟨h1, e1, a1, a2, a3, a4, a5⟩ := M_158 (G := G) hn f (k + 1) F _ (by omega) (by omega) (by omega) hd1 (hb.fg f1) (by rw [au_k (by omega), au_k (by omega)]; exact h12) au_ (by rw [au_k (by omega), au_k (by omega)]; exact h14) (by rw [au_k (by omega), au_])
          exact ⟨h1, e1, a1, a2, a3, a4, f1.trans a5⟩
        · rw [if_pos (show (3 : Int32) ≤ nI (k - s) from nI_le (a := 3) (by omega) (by omega)), nI_1]
          have f1 : fg_ h (am_u h (za 195) 13 (nI (k + 1))) := (fg_.refl h).u (by omega)
          obtain ⟨h1, e1, a1, a2, a3, a4, a5⟩ := M_158 (G := G) hn f (k + 1) F _ (by omega) (by omega) (by omega) hd1 (hb.fg f1) ((au_k (by omega)).trans h12) au_ ((au_k (by omega)).trans h14) (by rw [au_k (by omega), h16, Nat.min_eq_right (by omega), Nat.min_eq_right (by omega)])
          exact ⟨h1, e1, a1, a2, a3, a4, f1.trans a5⟩
      · rw [if_neg c]
        exact stop (by rw [t_run_s, if_neg c])
/-- the token that starts here -/
theorem M_46 {G s : Nat} {h : HI} (hn : n ≤ 500) (hG : 501 < G) (hs : s ≤ n) (hb : Mb_ h b) (h12 : h (za 195) 12 = nI n) (h13 : h (za 195) 13 = nI s) : ∃ h1, sh_X10_goes_46 G h = some h1 ∧ MT b n h1 s ∧ fg_ h h1 := by
  unfold sh_X10_goes_46 sh_X10_goes_71 MT
  rw [h12, h13]
  have f14 : fg_ h (am_u h (za 195) 14 (nI s)) := (fg_.refl h).u (by omega)
  by_cases c : s = n
  · subst c
    rw [if_neg (fun q => q rfl), au_, if_neg (fun q => q rfl)]
    unfold t_cu t_kd
    rw [if_pos (Nat.le_refl _), if_pos (Nat.le_refl _)]
    refine ⟨_, rfl, ⟨(au_k (by omega)).trans au_, by rw [au_k (by omega), au_k (by omega)]; exact h13, au_, fun q => ?_⟩, f14.u (by omega)⟩
    have := (t_sg34 q).1
    omega
  have hlt : s < n := by omega
  have hbs := hb s (by omega)
  have e13 : am_u h (za 195) 14 (nI s) (za 195) 13 = nI s := (au_k (by omega)).trans h13
  have f15 : fg_ h (am_u (am_u h (za 195) 14 (nI s)) (za 195) 15 (0 : Int32)) := f14.u (by omega)
  have g12 : am_u (am_u h (za 195) 14 (nI s)) (za 195) 15 (0 : Int32) (za 195) 12 = nI n := by rw [au_k (by omega), au_k (by omega)]; exact h12
  have g13 : am_u (am_u h (za 195) 14 (nI s)) (za 195) 15 (0 : Int32) (za 195) 13 = nI s := by rw [au_k (by omega), au_k (by omega)]; exact h13
  have g14 : am_u (am_u h (za 195) 14 (nI s)) (za 195) 15 (0 : Int32) (za 195) 14 = nI s := by rw [au_k (by omega), au_]
  rw [if_pos (fun q => c ((nI_eq (by omega) (by omega)).mp q)), au_, if_pos (by decide), e13, M_isL (hb.fg f15) g12 hn (by omega), bs, eq_of, M_isD (hb.fg f15) g12 hn (by omega), bs, eq_of, decide_eq_true hlt, Bool.true_and, Bool.true_and]
  unfold t_cu t_kd
  rw [if_neg (show ¬ n ≤ s by omega), if_neg (show ¬ n ≤ s by omega)]
  by_cases cL : t_L (b s) = true
  · rw [if_pos cL, if_pos cL]
    obtain ⟨h1, e1, a1, a2, a3, a4⟩ := M_94 (G := G) (s := s) hn (n - s) s G _ (by omega) (by omega) (Nat.le_refl _) (hb.fg f15) g12 g13 g14
    have ee : t_end b n s = t_run t_L b (n - s) s := by unfold t_end; rw [if_pos cL]
    rw [ee]
    refine ⟨h1, e1, ⟨a2, a1, a3, fun q => ?_⟩, f15.trans a4⟩
    have := (t_sg34 q).2.1
    rw [LD_ _ cL] at this
    cases this
  · rw [if_neg cL, if_neg cL]
    by_cases cD : t_D (b s) = true
    · rw [if_pos cD, if_pos cD]
      have f16 : fg_ h (am_u (am_u (am_u h (za 195) 14 (nI s)) (za 195) 15 (0 : Int32)) (za 195) 16 (0 : Int32)) := f15.u (by omega)
      obtain ⟨h1, e1, a1, a2, a3, a4, a5⟩ := M_158 (G := G) (s := s) hn (n - s) s G (am_u (am_u (am_u h (za 195) 14 (nI s)) (za 195) 15 (0 : Int32)) (za 195) 16 (0 : Int32)) (by omega) (by omega) (Nat.le_refl _) (fun j a b => by omega) (hb.fg f16) (by rw [au_k (by omega)]; exact g12) (by rw [au_k (by omega)]; exact g13) (by rw [au_k (by omega)]; exact g14) (by rw [au_, Nat.sub_self]; rfl)
      have ee : t_end b n s = t_run t_D b (n - s) s := by unfold t_end; rw [if_neg cL, if_pos cD]
      unfold t_nu
      rw [ee]
      refine ⟨h1, e1, ⟨a2, a1, a3, fun q => a4 ?_⟩, f16.trans a5⟩
      have := (t_sg34 q).2.2.1
      rw [ee] at this
      exact this
    · rw [if_neg cD, if_neg cD, if_pos (ok_ (by omega) (by decide)), nI_clamp (by omega), au_a (fun q => by cases q), au_a (fun q => by cases q), hbs.1, sb_sign _ hbs.2, nI_1]
      have ee : t_end b n s = s + 1 := by unfold t_end; rw [if_neg cL, if_neg cD]
      rw [ee]
      refine ⟨_, rfl, ⟨?_, au_, ?_, fun q => ?_⟩, (f15.u (by omega)).u (by omega)⟩
      · rw [au_k (by omega), au_k (by omega)]; exact g14
      · rw [au_k (by omega), au_]
      · exact absurd (t_sg34 q).2.1 cD
theorem M_goes_8 {G : Nat} (hn : n ≤ 500) (hG : 501 < G) : ∀ (f k F : Nat) (h : HI), k + f = n → f < F → Mb_ h b → h (za 195) 12 = nI n → h (za 195) 13 = nI k → ∃ h1, sh_X10_goes_8 G F h = some h1 ∧ MT b n h1 (t_run t_S b f k) ∧ fg_ h h1
  | f, k, 0, h, _, hF, _, _, _ => absurd hF (Nat.not_lt_zero _)
  | 0, k, F + 1, h, hk, hF, hb, h12, h13 => by
    show ∃ h1, sh_X10_goes_8_b G (sh_X10_goes_8 G F) h = some h1 ∧ MT b n h1 k ∧ fg_ h h1
    unfold sh_X10_goes_8_b
    rw [h12, h13, if_pos (nI_le (by omega) (by omega))]
    exact M_46 hn hG (by omega) hb h12 h13
  | f + 1, k, F + 1, h, hk, hF, hb, h12, h13 => by
    show ∃ h1, sh_X10_goes_8_b G (sh_X10_goes_8 G F) h = some h1 ∧ MT b n h1 (t_run t_S b (f + 1) k) ∧ fg_ h h1
    have hbk := hb k (by omega)
    have hS := sb_S (b k) hbk.2
    unfold sh_X10_goes_8_b
    rw [h12, h13, if_neg (nI_ge (by omega) (by omega)), if_pos (ok_ (by omega) (by decide)), nI_clamp (by omega), hbk.1, t_run_s, nI_1]
    by_cases c : b k = 32
    · rw [if_neg (fun q => q (hS.mpr c)), if_pos (show t_S (b k) = true from decide_eq_true c)]
      have f1 : fg_ h (am_u h (za 195) 13 (nI (k + 1))) := (fg_.refl h).u (by omega)
      obtain ⟨h1, e1, a1, a2⟩ := M_goes_8 (G := G) hn hG f (k + 1) F _ (by omega) (by omega) (hb.fg f1) ((au_k (by omega)).trans h12) au_
      exact ⟨h1, e1, a1, f1.trans a2⟩
    · rw [if_pos (fun q => c (hS.mp q)), if_neg (show ¬ t_S (b k) = true from fun q => c (of_decide_eq_true q))]
      exact M_46 hn hG (by omega) hb h12 h13
theorem M_goes0 {G k : Nat} {h : HI} (hn : n ≤ 500) (hG : 501 < G) (hk : k ≤ n) (hb : Mb_ h b) (h10 : h (za 195) 10 = 0) (h12 : h (za 195) 12 = nI n) (h13 : h (za 195) 13 = nI k) : ∃ h1, sh_X10_goes G h = some h1 ∧ MT b n h1 (t_skip b n k) ∧ fg_ h h1 := by
  unfold sh_X10_goes
  rw [h10, if_pos (Int32.le_refl _)]
  exact M_goes_8 hn hG (n - k) k G h (by omega) (by omega) hb h12 h13
/-! what a token is, told both ways -/
theorem t_lk_inj {W : List Nat} : ∀ (f k : Nat), k + f = 37 → (∀ j, k ≤ j → j < 34 → am_str.getD j [] = W → t_lk W f k = Fin.ofNat 37 j ∨ ∃ i, k ≤ i ∧ i < j ∧ am_str.getD i [] = W)
  | 0, k, hk, j, h1, h2, _ => by omega
  | f + 1, k, hk, j, h1, h2, e => by
    rw [t_lk_s]
    by_cases c : am_str.getD k [] = W
    · by_cases ek : k = j
      · left; rw [if_pos c, ek]
      · right; exact ⟨k, Nat.le_refl _, by omega, c⟩
    · rw [if_neg c]
      have hkj : k ≠ j := fun q => c (by rw [q]; exact e)
      rcases t_lk_inj f (k + 1) (by omega) j (by omega) h2 e with q | ⟨i, a, b, c⟩
      · exact Or.inl q
      · exact Or.inr ⟨i, by omega, b, c⟩
theorem str_inj : ∀ i, i < 34 → ∀ j, j < 34 → am_str.getD i [] = am_str.getD j [] → i = j := by decide +kernel
theorem t_lk_of {W : List Nat} {j : Nat} (hj : j < 34) (e : am_str.getD j [] = W) : t_lk W 37 0 = Fin.ofNat 37 j := by
  rcases t_lk_inj 37 0 rfl j (Nat.zero_le _) hj e with q | ⟨i, a, b, c⟩
  · exact q
  · have := str_inj i (by omega) j hj (c.trans e.symm)
    omega
theorem t_lk_to {W : List Nat} (hW : W ≠ []) : ∀ (f k j : Nat), k + f = 37 → j < 34 → t_lk W f k = Fin.ofNat 37 j → am_str.getD j [] = W
  | 0, k, j, _, hj, h => by
    have := congrArg Fin.val h
    rw [f37 (by omega)] at this
    have : 35 = j := this
    omega
  | f + 1, k, j, hk, hj, h => by
    rw [t_lk_s] at h
    by_cases c : am_str.getD k [] = W
    · rw [if_pos c] at h
      have := congrArg Fin.val h
      rw [f37 (by omega), f37 (by omega)] at this
      rw [← this]; exact c
    · rw [if_neg c] at h
      exact t_lk_to hW f (k + 1) j (by omega) hj h
theorem t_w_ne {b : Nat → Nat} {s m : Nat} (h : 0 < m) : t_w b s m ≠ [] := by
  intro q
  have := congrArg List.length q
  rw [t_w_len] at this
  have : m = 0 := this
  omega
/-- the sign is the j-th word's or mark's -/
theorem sg_iff {s j : Nat} (hj : j < 34) : t_sg b n s = Fin.ofNat 37 j ↔ s < n ∧ t_D (b s) = false ∧ am_str.getD j [] = t_w b s (t_end b n s - s) := by
  have ne : ∀ m, m = 34 ∨ m = 35 ∨ m = 36 → ∀ q : (Fin.ofNat 37 m : Fin 37) = Fin.ofNat 37 j, False := fun m hm q => by
    have := congrArg Fin.val q
    rw [f37 (by omega), f37 (by omega)] at this
    omega
  unfold t_sg
  by_cases c : n ≤ s
  · rw [if_pos c]
    exact ⟨fun q => absurd q (ne 36 (by omega)), fun q => by omega⟩
  rw [if_neg c]
  have he := t_end_b (b := b) (show s < n by omega)
  cases hD : t_D (b s)
  · rw [if_neg (by decide)]
    exact ⟨fun q => ⟨by omega, rfl, t_lk_to (t_w_ne (by omega)) 37 0 j rfl hj q⟩, fun q => t_lk_of hj q.2.2⟩
  · rw [if_pos rfl]
    refine ⟨fun q => ?_, fun q => by cases q.2.1⟩
    by_cases c3 : t_end b n s - s ≤ 3
    · rw [if_pos c3] at q; exact absurd q (ne 34 (by omega))
    · rw [if_neg c3] at q; exact absurd q (ne 35 (by omega))
end MTK
