/-! how many minutes until a step, a fall; the best pace, the best curtain: both sides -/
def p_gn (v0 : Int32) (c : Nat) : Nat → Nat → Wd → Int32
  | 0, _, _ => -1
  | f + 1, k, w => p_gr v0 c f (k + 1) (p_pass w)
theorem p_gr_e {v0 : Int32} {c f k : Nat} {w : Wd} : p_gr v0 c f k w = if v0 < w c then nI k else p_gn v0 c f k w := by cases f <;> rfl
section UM
variable {A A1 : As_} {hi h h1 : HI} {x : AX} {K G : Nat} {a c : Int32} {w : Wd}
theorem C_gr_S {t : Nat} {w0 : Wd} (hG : 501 < G) (ht : t < 80) (ea : a = nI t) : ∀ (f k F K B : Nat) (h : HI) (w : Wd), k + f = 500 → f < F → K + f < 2 ^ 28 → B + 5 * f < 2 ^ 29 → ib_ K B 0 w → vw_ 1 h = w → vw_ 0 h = w0 → ∃ h1, sh_X9_minutesUntilStep_22 G (nI t) F (nI (k + 1)) h = some (Sum.inl (p_gn (w0 (324 + t)) (324 + t) f k w, h1)) ∧ fr_ 1 h h1 := fun f => by
  subst ea
  induction f with
  | zero =>
    intro k F K B h w hk hF hK hB hI hv h0
    obtain ⟨F, rfl⟩ : ∃ F2, F = F2 + 1 := ⟨F - 1, by omega⟩
    show ∃ h1, sh_X9_minutesUntilStep_22_b G (nI t) (sh_X9_minutesUntilStep_22 G (nI t) F) (nI (k + 1)) h = _ ∧ _
    unfold sh_X9_minutesUntilStep_22_b
    rw [if_pos (show (500 : Int32) < nI (k + 1) from nI_lt (a := 500) (by omega) (by omega))]
    exact ⟨h, rfl, fr_.refl 1 h⟩
  | succ f ih =>
    intro k F K B h w hk hF hK hB hI hv h0
    obtain ⟨F, rfl⟩ : ∃ F2, F = F2 + 1 := ⟨F - 1, by omega⟩
    obtain ⟨h2, e2, v2, f2⟩ := C_pass (i := 1) (G := G) (K := K) (B := B) (hi := h) (by omega) (by omega) (by omega) (by rw [hv]; exact hI)
    rw [hv] at v2
    have v0 : vw_ 0 h2 = w0 := (f2.f0).trans h0
    show ∃ h1, sh_X9_minutesUntilStep_22_b G (nI t) (sh_X9_minutesUntilStep_22 G (nI t) F) (nI (k + 1)) h = some (Sum.inl (p_gr (w0 (324 + t)) (324 + t) f (k + 1) (p_pass w), h1)) ∧ _
    unfold sh_X9_minutesUntilStep_22_b
    rw [if_neg (show ¬ (500 : Int32) < nI (k + 1) from fun q => by have := (nI_ltI (a := 500) (by omega) (by omega)).mp q; omega), e2, bs, at_n ht (by decide), at_n ht (by decide), vr_wear 1 h2 ht, vr_wear 0 h2 ht, v2, v0, p_gr_e, nI_1]
    by_cases q : p_pass w (324 + t) ≤ w0 (324 + t)
    · rw [if_pos q, if_neg (fun z => Int32.lt_irrefl (Int32.lt_of_lt_of_le z q))]
      obtain ⟨h3, e3, f3⟩ := ih (k + 1) F (K + 1) (B + 5) h2 (p_pass w) (by omega) (by omega) (by omega) (by omega) (hI.pass (by omega) (by omega)) v2 v0
      exact ⟨h3, e3, f2.trans f3⟩
    · rw [if_neg q, if_pos (Int32.not_le.mp q)]
      exact ⟨h2, rfl, f2⟩
theorem C_gr_F {w0 : Wd} (hG : 501 < G) : ∀ (f k F K B : Nat) (h : HI) (w : Wd), k + f = 500 → f < F → K + f < 2 ^ 28 → B + 5 * f < 2 ^ 29 → ib_ K B 0 w → vw_ 1 h = w → vw_ 0 h = w0 → ∃ h1, sh_X9_minutesUntilFall_17 G F (nI (k + 1)) h = some (Sum.inl (p_gn (w0 (15)) (15) f k w, h1)) ∧ fr_ 1 h h1 := fun f => by
  induction f with
  | zero =>
    intro k F K B h w hk hF hK hB hI hv h0
    obtain ⟨F, rfl⟩ : ∃ F2, F = F2 + 1 := ⟨F - 1, by omega⟩
    show ∃ h1, sh_X9_minutesUntilFall_17_b G (sh_X9_minutesUntilFall_17 G F) (nI (k + 1)) h = _ ∧ _
    unfold sh_X9_minutesUntilFall_17_b
    rw [if_pos (show (500 : Int32) < nI (k + 1) from nI_lt (a := 500) (by omega) (by omega))]
    exact ⟨h, rfl, fr_.refl 1 h⟩
  | succ f ih =>
    intro k F K B h w hk hF hK hB hI hv h0
    obtain ⟨F, rfl⟩ : ∃ F2, F = F2 + 1 := ⟨F - 1, by omega⟩
    obtain ⟨h2, e2, v2, f2⟩ := C_pass (i := 1) (G := G) (K := K) (B := B) (hi := h) (by omega) (by omega) (by omega) (by rw [hv]; exact hI)
    rw [hv] at v2
    have v0 : vw_ 0 h2 = w0 := (f2.f0).trans h0
    show ∃ h1, sh_X9_minutesUntilFall_17_b G (sh_X9_minutesUntilFall_17 G F) (nI (k + 1)) h = some (Sum.inl (p_gr (w0 (15)) (15) f (k + 1) (p_pass w), h1)) ∧ _
    unfold sh_X9_minutesUntilFall_17_b
    rw [if_neg (show ¬ (500 : Int32) < nI (k + 1) from fun q => by have := (nI_ltI (a := 500) (by omega) (by omega)).mp q; omega), e2, bs, vr_15 1 h2, vr_15 0 h2, v2, v0, p_gr_e, nI_1]
    by_cases q : p_pass w (15) ≤ w0 (15)
    · rw [if_pos q, if_neg (fun z => Int32.lt_irrefl (Int32.lt_of_lt_of_le z q))]
      obtain ⟨h3, e3, f3⟩ := ih (k + 1) F (K + 1) (B + 5) h2 (p_pass w) (by omega) (by omega) (by omega) (by omega) (hI.pass (by omega) (by omega)) v2 v0
      exact ⟨h3, e3, f2.trans f3⟩
    · rw [if_neg q, if_pos (Int32.not_le.mp q)]
      exact ⟨h2, rfl, f2⟩
theorem M_gr {v0 : Int32} {c : Nat} {hb : HI} (hG : 501 < G) (hc : (c < 46 ∧ c ≠ 25) ∨ (84 ≤ c ∧ c < 404)) : ∀ (f k F K B : Nat) (h : HI) (w : Wd), k + f = 500 → f < F → K + f < 2 ^ 28 → B + 5 * f < 2 ^ 29 → ib_ K B 0 w → mw_ h = w → fm_ (sh_laysN (za 196) (za 197) 0 0 424 hb) h → ∃ h1, sh_X10_growsIn_13 G (nI c) F v0 (nI k) h = some (p_gr v0 c f k w, h1) ∧ tb_ hb h1 := fun f => by
  have h40 : ∀ (k : Nat) (h : HI) (w : Wd), mw_ h = w → fm_ (sh_laysN (za 196) (za 197) 0 0 424 hb) h → ∃ h1, sh_X10_growsIn_40 G (nI c) v0 (nI k) h = some (if v0 < w c then nI k else -1, h1) ∧ tb_ hb h1 := fun k h w hv fb => by
    unfold sh_X10_growsIn_40 sh_X10_growsIn_56
    rw [if_pos (ok4 (by omega)), nI_clamp (by omega), M_r h hc, hv]
    by_cases q : w c ≤ v0
    · obtain ⟨h5, e5, t5⟩ := M_tb (v := -1) fb
      rw [if_pos q, if_neg (fun z => Int32.lt_irrefl (Int32.lt_of_lt_of_le z q)), e5, bs]
      exact ⟨h5, rfl, t5⟩
    · obtain ⟨h5, e5, t5⟩ := M_tb (v := nI k) fb
      rw [if_neg q, if_pos (Int32.not_le.mp q), e5, bs]
      exact ⟨h5, rfl, t5⟩
  induction f with
  | zero =>
    intro k F K B h w hk hF hK hB hI hv fb
    obtain ⟨F, rfl⟩ : ∃ F2, F = F2 + 1 := ⟨F - 1, by omega⟩
    show ∃ h1, sh_X10_growsIn_13_b G (nI c) (sh_X10_growsIn_13 G (nI c) F) v0 (nI k) h = _ ∧ _
    unfold sh_X10_growsIn_13_b
    rw [if_pos (show (500 : Int32) ≤ nI k from nI_le (a := 500) (by omega) (by omega))]
    exact h40 k h w hv fb
  | succ f ih =>
    intro k F K B h w hk hF hK hB hI hv fb
    obtain ⟨F, rfl⟩ : ∃ F2, F = F2 + 1 := ⟨F - 1, by omega⟩
    show ∃ h1, sh_X10_growsIn_13_b G (nI c) (sh_X10_growsIn_13 G (nI c) F) v0 (nI k) h = _ ∧ _
    unfold sh_X10_growsIn_13_b
    rw [if_neg (show ¬ (500 : Int32) ≤ nI k from nI_ge (b := 500) (by omega) (by omega)), if_pos (ok4 (by omega)), nI_clamp (by omega), M_r h hc, hv]
    show ∃ h1, _ = some (if v0 < w c then nI k else p_gr v0 c f (k + 1) (p_pass w), h1) ∧ _
    by_cases q : v0 < w c
    · obtain ⟨h5, e5, t5⟩ := h40 k h w hv fb
      rw [if_pos q] at e5
      rw [if_pos q, if_pos q, e5]
      exact ⟨h5, rfl, t5⟩
    · rw [if_neg q, if_neg q]
      obtain ⟨h2, e2, v2, f2⟩ := M_pass (G := G) (K := K) (B := B) (hi := h) (by omega) (by omega) (by omega) (by rw [hv]; exact hI)
      rw [hv] at v2
      rw [e2, bs, nI_1]
      exact ih (k + 1) F (K + 1) (B + 5) h2 (p_pass w) (by omega) (by omega) (by omega) (by omega) (hI.pass (by omega) (by omega)) v2 (fb.trans f2)
theorem M_gi {c : Nat} {B : Nat} (hG : 501 < G) (hK : K ≤ 200000) (hB : B < 2 ^ 28) (hc : (c < 46 ∧ c ≠ 25) ∨ (84 ≤ c ∧ c < 404)) (hI : ib_ K B 0 w) (hv : mw_ h = w) : ∃ h1, sh_X10_growsIn G (nI c) h = some (p_gn (w c) c 500 0 w, h1) ∧ tb_ h h1 := by
  unfold sh_X10_growsIn
  rw [if_pos (ok4 (by omega)), M_thinks, bs, nI_clamp (by omega), M_r h hc, hv]
  obtain ⟨h1, e1, t1⟩ := M_gr (hb := h) (v0 := w c) (c := c) (G := G) hG hc 500 0 G K B _ w rfl (by omega) (by omega) (by omega) hI (mw_th.trans hv) (fm_.refl _)
  rw [p_gr_e, if_neg Int32.lt_irrefl] at e1
  exact ⟨h1, e1, t1⟩
theorem Cf_minutesUntilStep (hG : 501 < G) (hK : K ≤ 200000) (hO : Ok_ K A) (H : RC A hi x) : Ck_ A (sh_L_minutesUntilStep G a hi x) hi x (cT_ A a) (p_gn (A.w (324 + an_ a)) (324 + an_ a) 500 0 A.w) := C2_ (z := 1) H rfl rfl rfl (fun e => qT_ hO H e) (fun e eo => by
  have hI := hO.ib e
  obtain ⟨t1, t2, t3⟩ := tkT hO e eo
  obtain ⟨h2, e2, v2, f2⟩ := C_draft hI (H.vw e)
  obtain ⟨h4, e4, f4⟩ := C_gr_S (w0 := A.w) (G := G) (a := a) hG t2 t3 500 0 G K (5 * K) h2 A.w rfl (by omega) (by omega) (by omega) hI v2 ((f2.f0).trans (H.vw e))
  rw [← t3] at e4
  rw [e2, bs]
  exact ⟨h4, e4, f2.trans f4⟩)
theorem Mf_minutesUntilStep (hG : 501 < G) (hK : K ≤ 200000) (hO : Ok_ K A) (H : RM A hi) : Mk_ A (sh_X10_minutesUntilStep G a hi) hi (cT_ A a) (p_gn (A.w (324 + an_ a)) (324 + an_ a) 500 0 A.w) := M2_ (T := fun h => (sh_X10_growsIn G ((324 : Int32) + a) h).bind fun v2 => some (v2.1, v2.2)) H rfl (M_mayTile hO H) (fun e eo h hw => by
  have hI := hO.ib e
  obtain ⟨t1, t2, t3⟩ := tkT hO e eo
  obtain ⟨h4, e4, f4⟩ := M_gi (G := G) (c := 324 + an_ a) (B := 5 * K) hG hK (by omega) (by omega) hI hw
  have e2 : (324 : Int32) + a = nI (324 + an_ a) := (congrArg (nI 324 + ·) t3).trans (nI_add 324 (an_ a))
  rw [← e2] at e4
  refine ⟨h4, ?_, f4⟩
  show (sh_X10_growsIn G ((324 : Int32) + a) h).bind _ = _
  rw [e4, bs])
theorem Cf_minutesUntilFall (hG : 501 < G) (hK : K ≤ 200000) (hO : Ok_ K A) (H : RC A hi x) : Ck_ A (sh_L_minutesUntilFall G hi x) hi x (lc_ A) (p_gn (A.w 15) 15 500 0 A.w) := by
  refine CX_ H ?_
  unfold sh_X9_minutesUntilFall
  rw [rq_ H]
  cases e : A.ld with
  | false =>
    rw [lc_f e]
    exact Or.inr ⟨0, rfl, (show (1 : Int32) ≠ 0 by decide), rfl, rfl⟩
  | true =>
    rw [lc_t e]
    have hI := hO.ib e
    obtain ⟨h2, e2, v2, f2⟩ := C_draft hI (H.vw e)
    obtain ⟨h4, e4, f4⟩ := C_gr_F (w0 := A.w) (G := G) hG 500 0 G K (5 * K) h2 A.w rfl (by omega) (by omega) (by omega) hI v2 ((f2.f0).trans (H.vw e))
    refine Or.inl ⟨rfl, h4, ?_, H.f1 (f2.trans f4), fr_fC (f2.trans f4)⟩
    show (sh_X8_copyFrom 1 0 hi).bind (fun h3 => sh_X9_minutesUntilFall_17 G G (1 : Int32) h3) = _
    rw [e2, bs]
    exact e4
theorem Mf_minutesUntilFall (hG : 501 < G) (hK : K ≤ 200000) (hO : Ok_ K A) (H : RM A hi) : Mk_ A (sh_X10_minutesUntilFall G hi) hi (lc_ A) (p_gn (A.w 15) 15 500 0 A.w) := by
  have e0 : sh_X10_mayLook hi = some (b2 (A.ld && true), am_u hi (za 195) 0 (lt2_ A true)) := by
    rw [M_mayLook H]
    unfold lt2_
    cases A.ld <;> rfl
  have g := M2_ (ok := true) (v := p_gn (A.w 15) 15 500 0 A.w) (S := sh_X10_minutesUntilFall G hi) (T := fun h => (sh_X10_growsIn G (15 : Int32) h).bind fun v2 => some (v2.1, v2.2)) H rfl e0 (fun e eo h hw => by
    have hI := hO.ib e
    obtain ⟨h4, e4, f4⟩ := M_gi (G := G) (c := 15) (B := 5 * K) hG hK (by omega) (by omega) hI hw
    refine ⟨h4, ?_, f4⟩
    show (sh_X10_growsIn G (nI 15) h).bind _ = _
    rw [e4, bs])
  have ec : lt2_ A true = lc_ A := by
    unfold lt2_ lc_
    cases A.ld <;> rfl
  rw [ec] at g
  exact g
/-! the best pace, the best curtain -/
def p_bp (n : Nat) (w : Wd) : Nat → Nat → Int32 → Int32 → Int32
  | 0, _, b, _ => b
  | f + 1, k, b, v => if p_passN n (upd w 3 (nI k)) 12 ≤ v then p_bp n w f (k + 1) b v else p_bp n w f (k + 1) (nI k) (p_passN n (upd w 3 (nI k)) 12)
def p_bc (n : Nat) (w : Wd) : Nat → Nat → Int32 → Int32 → Int32
  | 0, _, b, _ => b
  | f + 1, k, b, v => if w (26 + k) = 0 then p_bc n w f (k + 1) b v else if p_passN n (upd w (26 + k) 0) 12 ≤ v then p_bc n w f (k + 1) b v else p_bc n w f (k + 1) (nI k) (p_passN n (upd w (26 + k) 0) 12)
theorem C_bp {B n : Nat} (hG : 501 < G) (hK : K < 2 ^ 28) (hB : B < 2 ^ 29) (hn : n ≤ 300) (hI : ib_ K B 0 w) : ∀ (f k F : Nat) (b v : Int32) (h : HI), k + f = 6 → 1 ≤ k → f < F → vw_ 0 h = w → ∃ h1, sh_X9_bestPace_16 G (nI n) F b v (nI k) h = some (Sum.inl (p_bp n w f k b v, h1)) ∧ fr_ 1 h h1 := fun f => by
  induction f with
  | zero =>
    intro k F b v h hk h1 hF hv
    obtain ⟨F, rfl⟩ : ∃ F2, F = F2 + 1 := ⟨F - 1, by omega⟩
    show ∃ h1, sh_X9_bestPace_16_b G (nI n) (sh_X9_bestPace_16 G (nI n) F) b v (nI k) h = _ ∧ _
    unfold sh_X9_bestPace_16_b
    rw [if_pos (show (5 : Int32) < nI k from nI_lt (a := 5) (by omega) (by omega))]
    exact ⟨h, rfl, fr_.refl 1 h⟩
  | succ f ih =>
    intro k F b v h hk h1 hF hv
    obtain ⟨F, rfl⟩ : ∃ F2, F = F2 + 1 := ⟨F - 1, by omega⟩
    show ∃ h1, sh_X9_bestPace_16_b G (nI n) (sh_X9_bestPace_16 G (nI n) F) b v (nI k) h = some (Sum.inl (if p_passN n (upd w 3 (nI k)) 12 ≤ v then p_bp n w f (k + 1) b v else p_bp n w f (k + 1) (nI k) (p_passN n (upd w 3 (nI k)) 12), h1)) ∧ _
    unfold sh_X9_bestPace_16_b
    obtain ⟨h2, e2, f2⟩ := C_fore (G := G) (n := n) (p := k) hG hK hB hn (by omega) hI hv
    rw [if_neg (show ¬ (5 : Int32) < nI k from fun q => by have := (nI_ltI (a := 5) (by omega) (by omega)).mp q; omega), e2, bs, nI_1]
    by_cases q : p_passN n (upd w 3 (nI k)) 12 ≤ v
    · obtain ⟨h3, e3, f3⟩ := ih (k + 1) F b v h2 (by omega) (by omega) (by omega) ((f2.f0).trans hv)
      rw [if_pos q, if_pos q]
      exact ⟨h3, e3, f2.trans f3⟩
    · obtain ⟨h3, e3, f3⟩ := ih (k + 1) F (nI k) (p_passN n (upd w 3 (nI k)) 12) h2 (by omega) (by omega) (by omega) ((f2.f0).trans hv)
      rw [if_neg q, if_neg q]
      exact ⟨h3, e3, f2.trans f3⟩
theorem M_bp {B n : Nat} (hG : 501 < G) (hK : K < 2 ^ 28) (hB : B < 2 ^ 29) (hn : n ≤ 300) (hI : ib_ K B 0 w) : ∀ (f k F : Nat) (b v : Int32) (h : HI), k + f = 6 → 1 ≤ k → f < F → mw_ h = w → ∃ h1, sh_X10_bestPace_24 G (nI n) F b v (nI k) h = some (p_bp n w f k b v, h1) ∧ tb_ h h1 := fun f => by
  induction f with
  | zero =>
    intro k F b v h hk h1 hF hv
    obtain ⟨F, rfl⟩ : ∃ F2, F = F2 + 1 := ⟨F - 1, by omega⟩
    obtain rfl : k = 6 := by omega
    show ∃ h1, sh_X10_bestPace_24_b G (nI n) (sh_X10_bestPace_24 G (nI n) F) b v (nI 6) h = _ ∧ _
    unfold sh_X10_bestPace_24_b
    rw [M_ip, bs, show pc_ (nI 6) = false by decide, if_pos (by decide)]
    exact ⟨h, rfl, tb_.refl h⟩
  | succ f ih =>
    intro k F b v h hk h1 hF hv
    obtain ⟨F, rfl⟩ : ∃ F2, F = F2 + 1 := ⟨F - 1, by omega⟩
    show ∃ h1, sh_X10_bestPace_24_b G (nI n) (sh_X10_bestPace_24 G (nI n) F) b v (nI k) h = some (if p_passN n (upd w 3 (nI k)) 12 ≤ v then p_bp n w f (k + 1) b v else p_bp n w f (k + 1) (nI k) (p_passN n (upd w 3 (nI k)) 12), h1) ∧ _
    unfold sh_X10_bestPace_24_b
    have hpc : pc_ (nI k) = true := decide_eq_true ⟨fun q => by have := (nI_ltI (b := 1) (by omega) (by omega)).mp q; omega, nI_le (b := 5) (by omega) (by omega)⟩
    obtain ⟨h2, e2, t2⟩ := M_with (K := K) (B := B) (G := G) (n := n) (k := 3) (v := nI k) (h := h) (w := w) hG hK hB hn (by omega) (hI.k3b (by omega)) hv
    rw [M_ip, bs, hpc, if_neg (show ¬ b2 true = 0 by decide), show (3 : Int32) = nI 3 from rfl, e2, bs, nI_1]
    by_cases q : p_passN n (upd w 3 (nI k)) 12 ≤ v
    · obtain ⟨h3, e3, f3⟩ := ih (k + 1) F b v h2 (by omega) (by omega) (by omega) ((t2.mw).trans hv)
      rw [if_pos q, if_neg (fun z => Int32.lt_irrefl (Int32.lt_of_lt_of_le z q))]
      exact ⟨h3, e3, t2.trans f3⟩
    · obtain ⟨h3, e3, f3⟩ := ih (k + 1) F (nI k) (p_passN n (upd w 3 (nI k)) 12) h2 (by omega) (by omega) (by omega) ((t2.mw).trans hv)
      rw [if_neg q, if_pos (Int32.not_le.mp q)]
      exact ⟨h3, e3, t2.trans f3⟩
theorem i12 {B e : Nat} {w : Wd} (h : ib_ K B e w) (hB : B < 2 ^ 31) : ¬ w 12 ≤ -1 := fun q => by
  have h12 := h.2.2.2.2.2.2.1
  rw [h12.1] at q
  exact nI_pos (n := nn w 12) (by have := h12.2.2; omega) (Int32.lt_of_le_of_lt q (by decide))
theorem bp_e {B n : Nat} (hK : K < 2 ^ 28) (hB : B < 2 ^ 29) (hn : n ≤ 300) (hI : ib_ K B 0 w) {b : Int32} : p_bp n w 5 1 b (-1) = p_bp n w 5 1 (-1) (-1) := by
  have h := ib_.passN n K B (upd w 3 (nI 1)) (by omega) (by omega) (hI.k3b (n := 1) (by omega))
  have q := i12 h (by omega)
  show (if p_passN n (upd w 3 (nI 1)) 12 ≤ -1 then p_bp n w 4 2 b (-1) else p_bp n w 4 2 (nI 1) (p_passN n (upd w 3 (nI 1)) 12)) = (if p_passN n (upd w 3 (nI 1)) 12 ≤ -1 then p_bp n w 4 2 (-1) (-1) else p_bp n w 4 2 (nI 1) (p_passN n (upd w 3 (nI 1)) 12))
  rw [if_neg q, if_neg q]
theorem Cf_bestPace (hG : 501 < G) (hK : K ≤ 200000) (hO : Ok_ K A) (H : RC A hi x) : Ck_ A (sh_L_bestPace G a hi x) hi x (lt2_ A (mn_ a)) (p_bp (an_ a) A.w 5 1 (-1) (-1)) := C2_ (z := 2) H rfl rfl rfl (fun _ => qF_) (fun e eo => by
  have hI := hO.ib e
  obtain ⟨g1, g2⟩ := mn_n eo
  obtain ⟨h1, e1, f1⟩ := C_bp (G := G) (n := an_ a) hG (by omega) (by omega) g1 hI 5 1 G (-1) (-1) hi rfl (by omega) (by omega) (H.vw e)
  rw [← g2] at e1
  exact ⟨h1, e1, f1⟩)
theorem M_mayM (H : RM A hi) {ok : Bool} : sh_X10_mayTwo (hi (za 195) 6) (b2 ok) hi = some (b2 (A.ld && ok), am_u hi (za 195) 0 (lt2_ A ok)) := by
  rw [H.1.2.2.2.2.1, M_mayTwo]
  rfl
theorem Mf_bestPace (hG : 501 < G) (hK : K ≤ 200000) (hO : Ok_ K A) (H : RM A hi) : Mk_ A (sh_X10_bestPace G a hi) hi (lt2_ A (mn_ a)) (p_bp (an_ a) A.w 5 1 (-1) (-1)) := by
  unfold sh_X10_bestPace
  rw [M_am, bs]
  refine M2n (T := fun h => sh_X10_bestPace_24 G a G (1 : Int32) (-1 : Int32) (1 : Int32) h) H rfl (M_mayM H) (fun e eo h hw => ?_)
  have hI := hO.ib e
  obtain ⟨g1, g2⟩ := mn_n eo
  obtain ⟨h1, e1, f1⟩ := M_bp (G := G) (n := an_ a) hG (by omega) (by omega) g1 hI 5 1 G 1 (-1) h rfl (by omega) (by omega) hw
  rw [bp_e (K := K) (B := 5 * K) (by omega) (by omega) g1 hI, ← g2] at e1
  exact ⟨h1, e1, f1⟩
theorem C_bc {B n : Nat} (hG : 501 < G) (hK : K < 2 ^ 28) (hB : B < 2 ^ 29) (hn : n ≤ 300) (hI : ib_ K B 0 w) : ∀ (f k F : Nat) (b v : Int32) (h : HI), k + f = nn w 1 → f < F → vw_ 0 h = w → ∃ h1, sh_X9_bestCurtain_16 G (nI n) F b v (nI k) h = some (Sum.inl (p_bc n w f k b v, h1)) ∧ fr_ 1 h h1 := fun f => by
  have hc := hI.1.c
  induction f with
  | zero =>
    intro k F b v h hk hF hv
    obtain ⟨F, rfl⟩ : ∃ F2, F = F2 + 1 := ⟨F - 1, by omega⟩
    show ∃ h1, sh_X9_bestCurtain_16_b G (nI n) (sh_X9_bestCurtain_16 G (nI n) F) b v (nI k) h = _ ∧ _
    unfold sh_X9_bestCurtain_16_b
    rw [vr_1 0 h, hv, hc.1, if_pos (nI_le (by omega) (by omega))]
    exact ⟨h, rfl, fr_.refl 1 h⟩
  | succ f ih =>
    intro k F b v h hk hF hv
    obtain ⟨F, rfl⟩ : ∃ F2, F = F2 + 1 := ⟨F - 1, by omega⟩
    show ∃ h1, sh_X9_bestCurtain_16_b G (nI n) (sh_X9_bestCurtain_16 G (nI n) F) b v (nI k) h = some (Sum.inl (if w (26 + k) = 0 then p_bc n w f (k + 1) b v else if p_passN n (upd w (26 + k) 0) 12 ≤ v then p_bc n w f (k + 1) b v else p_bc n w f (k + 1) (nI k) (p_passN n (upd w (26 + k) 0) 12), h1)) ∧ _
    unfold sh_X9_bestCurtain_16_b
    rw [vr_1 0 h, hv, hc.1, if_neg (nI_ge (by omega) (by omega)), at_n (show k < 10 by omega) (by decide), vr_cur 0 h (show k < 10 by omega), hv, nI_1]
    by_cases c0 : w (26 + k) = 0
    · obtain ⟨h3, e3, f3⟩ := ih (k + 1) F b v h (by omega) (by omega) hv
      rw [if_neg (fun q => q c0), if_pos c0]
      exact ⟨h3, e3, f3⟩
    · obtain ⟨h2, e2, v2, f2⟩ := C_draft hI hv
      have v3 : vw_ 1 (am_u h2 (wa 1 10) k (0 : Int32)) = upd w (26 + k) 0 := by rw [uw_cur (by omega), v2]
      obtain ⟨h4, e4, v4, f4⟩ := C_mins (G := G) (n := n) hG hK hB hn (hI.kcu (c := k) (cl := 0) (by omega) (by omega)) v3
      have F4 : fr_ 1 h h4 := (f2.u).trans f4
      rw [if_pos c0, if_neg c0, e2, bs, put_n (show k < 10 by omega) (by decide), bs, e4, bs, vr_12 1 h4, v4]
      by_cases q : p_passN n (upd w (26 + k) 0) 12 ≤ v
      · obtain ⟨h3, e3, f3⟩ := ih (k + 1) F b v h4 (by omega) (by omega) ((F4.f0).trans hv)
        have q' : p_passN n (upd w (26 + k) (nI 0)) 12 ≤ v := q
        rw [if_pos q', if_pos q]
        exact ⟨h3, e3, F4.trans f3⟩
      · obtain ⟨h3, e3, f3⟩ := ih (k + 1) F (nI k) (p_passN n (upd w (26 + k) 0) 12) h4 (by omega) (by omega) ((F4.f0).trans hv)
        have q' : ¬ p_passN n (upd w (26 + k) (nI 0)) 12 ≤ v := q
        rw [if_neg q', if_neg q]
        exact ⟨h3, e3, F4.trans f3⟩
theorem M_bc {B n : Nat} (hG : 501 < G) (hK : K < 2 ^ 28) (hB : B < 2 ^ 29) (hn : n ≤ 300) (hI : ib_ K B 0 w) : ∀ (f k F : Nat) (b v : Int32) (h : HI), k + f = nn w 1 → f < F → ¬ v < -1 → mw_ h = w → ∃ h1, sh_X10_bestCurtain_24 G (nI n) F b v (nI k) h = some (p_bc n w f k b v, h1) ∧ tb_ h h1 := fun f => by
  have hc := hI.1.c
  have hcu : cu_ w := hI.2.2.2.2.2.2.2.2.2.2.2.1
  induction f with
  | zero =>
    intro k F b v h hk hF hv1 hv
    obtain ⟨F, rfl⟩ : ∃ F2, F = F2 + 1 := ⟨F - 1, by omega⟩
    show ∃ h1, sh_X10_bestCurtain_24_b G (nI n) (sh_X10_bestCurtain_24 G (nI n) F) b v (nI k) h = _ ∧ _
    unfold sh_X10_bestCurtain_24_b
    rw [m_1 h, hv, hc.1, if_pos (nI_le (by omega) (by omega))]
    exact ⟨h, rfl, tb_.refl h⟩
  | succ f ih =>
    intro k F b v h hk hF hv1 hv
    obtain ⟨F, rfl⟩ : ∃ F2, F = F2 + 1 := ⟨F - 1, by omega⟩
    show ∃ h1, sh_X10_bestCurtain_24_b G (nI n) (sh_X10_bestCurtain_24 G (nI n) F) b v (nI k) h = some (if w (26 + k) = 0 then p_bc n w f (k + 1) b v else if p_passN n (upd w (26 + k) 0) 12 ≤ v then p_bc n w f (k + 1) b v else p_bc n w f (k + 1) (nI k) (p_passN n (upd w (26 + k) 0) 12), h1) ∧ _
    unfold sh_X10_bestCurtain_24_b sh_X10_bestCurtain_59
    have e26 : (26 : Int32) + nI k = nI (26 + k) := nI_add 26 k
    rw [m_1 h, hv, hc.1, if_neg (nI_ge (by omega) (by omega)), M_closed (show k < 10 by omega) (by rw [hv]; exact hcu _ (by omega)), bs, eq_of, hv, nI_1, e26]
    by_cases c0 : w (26 + k) = 0
    · obtain ⟨h3, e3, f3⟩ := ih (k + 1) F b v h (by omega) (by omega) hv1 hv
      rw [decide_eq_true c0, if_neg (show ¬ (!true) = true by decide), if_neg hv1, if_pos c0]
      exact ⟨h3, e3, f3⟩
    · have hI2 := hI.kcu (c := k) (cl := 0) (by omega) (by omega)
      obtain ⟨h2, e2, t2⟩ := M_with (K := K) (B := B) (G := G) (n := n) (k := 26 + k) (v := 0) (h := h) (w := w) hG hK hB hn (by omega) hI2 hv
      rw [decide_eq_false c0, if_pos (show (!false) = true by decide), if_neg c0, e2, bs]
      by_cases q : p_passN n (upd w (26 + k) 0) 12 ≤ v
      · obtain ⟨h3, e3, f3⟩ := ih (k + 1) F b v h2 (by omega) (by omega) hv1 ((t2.mw).trans hv)
        rw [if_neg (fun z => Int32.lt_irrefl (Int32.lt_of_lt_of_le z q)), if_pos q]
        exact ⟨h3, e3, t2.trans f3⟩
      · have hv2 : ¬ p_passN n (upd w (26 + k) 0) 12 < -1 := fun z => i12 (ib_.passN n K B _ (by omega) (by omega) hI2) (by omega) (Int32.le_of_lt z)
        obtain ⟨h3, e3, f3⟩ := ih (k + 1) F (nI k) (p_passN n (upd w (26 + k) 0) 12) h2 (by omega) (by omega) hv2 ((t2.mw).trans hv)
        rw [if_pos (Int32.not_le.mp q), if_neg q]
        exact ⟨h3, e3, t2.trans f3⟩
theorem Cf_bestCurtain (hG : 501 < G) (hK : K ≤ 200000) (hO : Ok_ K A) (H : RC A hi x) : Ck_ A (sh_L_bestCurtain G a hi x) hi x (lt2_ A (mn_ a)) (p_bc (an_ a) A.w (nn A.w 1) 0 (-1) (-1)) := C2_ (z := 2) H rfl rfl rfl (fun _ => qF_) (fun e eo => by
  have hI := hO.ib e
  have hc := hI.1.c
  obtain ⟨g1, g2⟩ := mn_n eo
  obtain ⟨h1, e1, f1⟩ := C_bc (G := G) (n := an_ a) hG (by omega) (by omega) g1 hI (nn A.w 1) 0 G (-1) (-1) hi (Nat.zero_add _) (by omega) (H.vw e)
  rw [← g2] at e1
  exact ⟨h1, e1, f1⟩)
theorem Mf_bestCurtain (hG : 501 < G) (hK : K ≤ 200000) (hO : Ok_ K A) (H : RM A hi) : Mk_ A (sh_X10_bestCurtain G a hi) hi (lt2_ A (mn_ a)) (p_bc (an_ a) A.w (nn A.w 1) 0 (-1) (-1)) := by
  unfold sh_X10_bestCurtain
  rw [M_am, bs]
  refine M2n (T := fun h => sh_X10_bestCurtain_24 G a G (-1 : Int32) (-1 : Int32) (0 : Int32) h) H rfl (M_mayM H) (fun e eo h hw => ?_)
  have hI := hO.ib e
  have hc := hI.1.c
  obtain ⟨g1, g2⟩ := mn_n eo
  obtain ⟨h1, e1, f1⟩ := M_bc (G := G) (n := an_ a) hG (by omega) (by omega) g1 hI (nn A.w 1) 0 G (-1) (-1) h (Nat.zero_add _) (by omega) Int32.lt_irrefl hw
  rw [← g2] at e1
  exact ⟨h1, e1, f1⟩
end UM
