/-! how many minutes until a step, a fall; the best pace, the best curtain: both sides -/
def p_gn (v0 : Int32) (c : Nat) : Nat → Nat → Wd → Int32
  | 0, _, _ => -1
  | f + 1, k, w => p_gr v0 c f (k + 1) (p_pass w)
theorem p_gr_e {v0 : Int32} {c f k : Nat} {w : Wd} : p_gr v0 c f k w = if v0 < w c then nI k else p_gn v0 c f k w := by cases f <;> rfl
section UM
variable {A A1 : As_} {hi h h1 : HI} {x : AX} {K G : Nat} {a c : Int32} {w : Wd}
theorem C_gr_F {w0 : Wd} (hG : 501 < G) : ∀ (f k F K B : Nat) (h : HI) (w : Wd), k + f = 500 → f < F → K + f < 2 ^ 28 → B + 5 * f < 2 ^ 29 → ib_ K B 0 w → vw_ 1 h = w → vw_ 0 h = w0 → ∃ h1, sh_X9_minutesUntilFall_17 G F (nI (k + 1)) h = some (Sum.inl (p_gn (w0 (15)) (15) f k w, h1)) ∧ fr_ 1 h h1 := fun f => by
  induction f with
  | zero =>
    intro k F K B h w hk hF hK hB hI hv h0
    obtain ⟨F, rfl⟩ : ∃ F2, F = F2 + 1 := ⟨F - 1, by omega⟩
    show ∃ h1, sh_X9_minutesUntilFall_17_b G (sh_X9_minutesUntilFall_17 G F) (nI (k + 1)) h = _ ∧ _
    unfold sh_X9_minutesUntilFall_17_b
    rw [if_pos (show (500 : Int32) < nI (k + 1) from nI_lt (a := 500) (by omega) (by omega))]
    exact ⟨h, rfl, fr_.refl 1 h⟩
  | succ f ih =>
    intro k F K B h w hk hF hK hB hI hv h0
    obtain ⟨F, rfl⟩ : ∃ F2, F = F2 + 1 := ⟨F - 1, by omega⟩
    obtain ⟨h2, e2, v2, f2⟩ := C_pass (i := 1) (G := G) (K := K) (B := B) (hi := h) (by omega) (by omega) (by omega) (by rw [hv]; exact hI)
    rw [hv] at v2
    have v0 : vw_ 0 h2 = w0 := (f2.f0).trans h0
    show ∃ h1, sh_X9_minutesUntilFall_17_b G (sh_X9_minutesUntilFall_17 G F) (nI (k + 1)) h = some (Sum.inl (p_gr (w0 (15)) (15) f (k + 1) (p_pass w), h1)) ∧ _
    unfold sh_X9_minutesUntilFall_17_b
    rw [if_neg (show ¬ (500 : Int32) < nI (k + 1) from fun q => by have := (nI_ltI (a := 500) (by omega) (by omega)).mp q; omega), e2, bs, vr_15 1 h2, vr_15 0 h2, v2, v0, p_gr_e, nI_1]
    by_cases q : p_pass w (15) ≤ w0 (15)
    · rw [if_pos q, if_neg (fun z => Int32.lt_irrefl (Int32.lt_of_lt_of_le z q))]
      obtain ⟨h3, e3, f3⟩ := ih (k + 1) F (K + 1) (B + 5) h2 (p_pass w) (by omega) (by omega) (by omega) (by omega) (hI.pass (by omega) (by omega)) v2 v0
      exact ⟨h3, e3, f2.trans f3⟩
    · rw [if_neg q, if_pos (Int32.not_le.mp q)]
      exact ⟨h2, rfl, f2⟩
theorem Cf_minutesUntilFall (hG : 501 < G) (hK : K ≤ 200000) (hO : Ok_ K A) (H : RC A hi x) : Ck_ A (sh_L_minutesUntilFall G hi x) hi x (lc_ A) (p_gn (A.w 15) 15 500 0 A.w) := by
  refine CX_ H ?_
  unfold sh_X9_minutesUntilFall
  rw [rq_ H]
  cases e : A.ld with
  | false =>
    rw [lc_f e]
    exact Or.inr ⟨0, rfl, (show (1 : Int32) ≠ 0 by decide), rfl, rfl⟩
  | true =>
    rw [lc_t e]
    have hI := hO.ib e
    obtain ⟨h2, e2, v2, f2⟩ := C_draft hI (H.vw e)
    obtain ⟨h4, e4, f4⟩ := C_gr_F (w0 := A.w) (G := G) hG 500 0 G K (5 * K) h2 A.w rfl (by omega) (by omega) (by omega) hI v2 ((f2.f0).trans (H.vw e))
    refine Or.inl ⟨rfl, h4, ?_, H.f1 (f2.trans f4), fr_fC (f2.trans f4)⟩
    show (sh_X8_copyFrom 1 0 hi).bind (fun h3 => sh_X9_minutesUntilFall_17 G G (1 : Int32) h3) = _
    rw [e2, bs]
    exact e4
/-! the best pace, the best curtain -/
def p_bp (n : Nat) (w : Wd) : Nat → Nat → Int32 → Int32 → Int32
  | 0, _, b, _ => b
  | f + 1, k, b, v => if p_passN n (upd w 3 (nI k)) 12 ≤ v then p_bp n w f (k + 1) b v else p_bp n w f (k + 1) (nI k) (p_passN n (upd w 3 (nI k)) 12)
def p_bc (n : Nat) (w : Wd) : Nat → Nat → Int32 → Int32 → Int32
  | 0, _, b, _ => b
  | f + 1, k, b, v => if w (26 + k) = 0 then p_bc n w f (k + 1) b v else if p_passN n (upd w (26 + k) 0) 12 ≤ v then p_bc n w f (k + 1) b v else p_bc n w f (k + 1) (nI k) (p_passN n (upd w (26 + k) 0) 12)
theorem C_bp {B n : Nat} (hG : 501 < G) (hK : K < 2 ^ 28) (hB : B < 2 ^ 29) (hn : n ≤ 300) (hI : ib_ K B 0 w) : ∀ (f k F : Nat) (b v : Int32) (h : HI), k + f = 6 → 1 ≤ k → f < F → vw_ 0 h = w → ∃ h1, sh_X9_bestPace_16 G (nI n) F b v (nI k) h = some (Sum.inl (p_bp n w f k b v, h1)) ∧ fr_ 1 h h1 := fun f => by
  induction f with
  | zero =>
    intro k F b v h hk h1 hF hv
    obtain ⟨F, rfl⟩ : ∃ F2, F = F2 + 1 := ⟨F - 1, by omega⟩
    show ∃ h1, sh_X9_bestPace_16_b G (nI n) (sh_X9_bestPace_16 G (nI n) F) b v (nI k) h = _ ∧ _
    unfold sh_X9_bestPace_16_b
    rw [if_pos (show (5 : Int32) < nI k from nI_lt (a := 5) (by omega) (by omega))]
    exact ⟨h, rfl, fr_.refl 1 h⟩
  | succ f ih =>
    intro k F b v h hk h1 hF hv
    obtain ⟨F, rfl⟩ : ∃ F2, F = F2 + 1 := ⟨F - 1, by omega⟩
    show ∃ h1, sh_X9_bestPace_16_b G (nI n) (sh_X9_bestPace_16 G (nI n) F) b v (nI k) h = some (Sum.inl (if p_passN n (upd w 3 (nI k)) 12 ≤ v then p_bp n w f (k + 1) b v else p_bp n w f (k + 1) (nI k) (p_passN n (upd w 3 (nI k)) 12), h1)) ∧ _
    unfold sh_X9_bestPace_16_b
    obtain ⟨h2, e2, f2⟩ := C_fore (G := G) (n := n) (p := k) hG hK hB hn (by omega) hI hv
    rw [if_neg (show ¬ (5 : Int32) < nI k from fun q => by have := (nI_ltI (a := 5) (by omega) (by omega)).mp q; omega), e2, bs, nI_1]
    by_cases q : p_passN n (upd w 3 (nI k)) 12 ≤ v
    · obtain ⟨h3, e3, f3⟩ := ih (k + 1) F b v h2 (by omega) (by omega) (by omega) ((f2.f0).trans hv)
      rw [if_pos q, if_pos q]
      exact ⟨h3, e3, f2.trans f3⟩
    · obtain ⟨h3, e3, f3⟩ := ih (k + 1) F (nI k) (p_passN n (upd w 3 (nI k)) 12) h2 (by omega) (by omega) (by omega) ((f2.f0).trans hv)
      rw [if_neg q, if_neg q]
      exact ⟨h3, e3, f2.trans f3⟩
theorem i12 {B e : Nat} {w : Wd} (h : ib_ K B e w) (hB : B < 2 ^ 31) : ¬ w 12 ≤ -1 := fun q => by
  have h12 := h.2.2.2.2.2.2.1
  rw [h12.1] at q
  exact nI_pos (n := nn w 12) (by have := h12.2.2; omega) (Int32.lt_of_le_of_lt q (by decide))
theorem bp_e {B n : Nat} (hK : K < 2 ^ 28) (hB : B < 2 ^ 29) (hn : n ≤ 300) (hI : ib_ K B 0 w) {b : Int32} : p_bp n w 5 1 b (-1) = p_bp n w 5 1 (-1) (-1) := by
  have h := ib_.passN n K B (upd w 3 (nI 1)) (by omega) (by omega) (hI.k3b (n := 1) (by omega))
  have q := i12 h (by omega)
  show (if p_passN n (upd w 3 (nI 1)) 12 ≤ -1 then p_bp n w 4 2 b (-1) else p_bp n w 4 2 (nI 1) (p_passN n (upd w 3 (nI 1)) 12)) = (if p_passN n (upd w 3 (nI 1)) 12 ≤ -1 then p_bp n w 4 2 (-1) (-1) else p_bp n w 4 2 (nI 1) (p_passN n (upd w 3 (nI 1)) 12))
  rw [if_neg q, if_neg q]
theorem Cf_bestPace (hG : 501 < G) (hK : K ≤ 200000) (hO : Ok_ K A) (H : RC A hi x) : Ck_ A (sh_L_bestPace G a hi x) hi x (lt2_ A (mn_ a)) (p_bp (an_ a) A.w 5 1 (-1) (-1)) := C2_ (z := 2) H rfl rfl rfl (fun _ => qF_) (fun e eo => by
  have hI := hO.ib e
  obtain ⟨g1, g2⟩ := mn_n eo
  obtain ⟨h1, e1, f1⟩ := C_bp (G := G) (n := an_ a) hG (by omega) (by omega) g1 hI 5 1 G (-1) (-1) hi rfl (by omega) (by omega) (H.vw e)
  rw [← g2] at e1
  exact ⟨h1, e1, f1⟩)
theorem C_bc {B n : Nat} (hG : 501 < G) (hK : K < 2 ^ 28) (hB : B < 2 ^ 29) (hn : n ≤ 300) (hI : ib_ K B 0 w) : ∀ (f k F : Nat) (b v : Int32) (h : HI), k + f = nn w 1 → f < F → vw_ 0 h = w → ∃ h1, sh_X9_bestCurtain_16 G (nI n) F b v (nI k) h = some (Sum.inl (p_bc n w f k b v, h1)) ∧ fr_ 1 h h1 := fun f => by
  have hc := hI.1.c
  induction f with
  | zero =>
    intro k F b v h hk hF hv
    obtain ⟨F, rfl⟩ : ∃ F2, F = F2 + 1 := ⟨F - 1, by omega⟩
    show ∃ h1, sh_X9_bestCurtain_16_b G (nI n) (sh_X9_bestCurtain_16 G (nI n) F) b v (nI k) h = _ ∧ _
    unfold sh_X9_bestCurtain_16_b
    rw [vr_1 0 h, hv, hc.1, if_pos (nI_le (by omega) (by omega))]
    exact ⟨h, rfl, fr_.refl 1 h⟩
  | succ f ih =>
    intro k F b v h hk hF hv
    obtain ⟨F, rfl⟩ : ∃ F2, F = F2 + 1 := ⟨F - 1, by omega⟩
    show ∃ h1, sh_X9_bestCurtain_16_b G (nI n) (sh_X9_bestCurtain_16 G (nI n) F) b v (nI k) h = some (Sum.inl (if w (26 + k) = 0 then p_bc n w f (k + 1) b v else if p_passN n (upd w (26 + k) 0) 12 ≤ v then p_bc n w f (k + 1) b v else p_bc n w f (k + 1) (nI k) (p_passN n (upd w (26 + k) 0) 12), h1)) ∧ _
    unfold sh_X9_bestCurtain_16_b
    rw [vr_1 0 h, hv, hc.1, if_neg (nI_ge (by omega) (by omega)), at_n (show k < 10 by omega) (by decide), vr_cur 0 h (show k < 10 by omega), hv, nI_1]
    by_cases c0 : w (26 + k) = 0
    · obtain ⟨h3, e3, f3⟩ := ih (k + 1) F b v h (by omega) (by omega) hv
      rw [if_neg (fun q => q c0), if_pos c0]
      exact ⟨h3, e3, f3⟩
    · obtain ⟨h2, e2, v2, f2⟩ := C_draft hI hv
      have v3 : vw_ 1 (am_u h2 (wa 1 10) k (0 : Int32)) = upd w (26 + k) 0 := by rw [uw_cur (by omega), v2]
      obtain ⟨h4, e4, v4, f4⟩ := C_mins (G := G) (n := n) hG hK hB hn (hI.kcu (c := k) (cl := 0) (by omega) (by omega)) v3
      have F4 : fr_ 1 h h4 := (f2.u).trans f4
      rw [if_pos c0, if_neg c0, e2, bs, put_n (show k < 10 by omega) (by decide), bs, e4, bs, vr_12 1 h4, v4]
      by_cases q : p_passN n (upd w (26 + k) 0) 12 ≤ v
      · obtain ⟨h3, e3, f3⟩ := ih (k + 1) F b v h4 (by omega) (by omega) ((F4.f0).trans hv)
        have q' : p_passN n (upd w (26 + k) (nI 0)) 12 ≤ v := q
        rw [if_pos q', if_pos q]
        exact ⟨h3, e3, F4.trans f3⟩
      · obtain ⟨h3, e3, f3⟩ := ih (k + 1) F (nI k) (p_passN n (upd w (26 + k) 0) 12) h4 (by omega) (by omega) ((F4.f0).trans hv)
        have q' : ¬ p_passN n (upd w (26 + k) (nI 0)) 12 ≤ v := q
        rw [if_neg q', if_neg q]
        exact ⟨h3, e3, F4.trans f3⟩
theorem Cf_bestCurtain (hG : 501 < G) (hK : K ≤ 200000) (hO : Ok_ K A) (H : RC A hi x) : Ck_ A (sh_L_bestCurtain G a hi x) hi x (lt2_ A (mn_ a)) (p_bc (an_ a) A.w (nn A.w 1) 0 (-1) (-1)) := C2_ (z := 2) H rfl rfl rfl (fun _ => qF_) (fun e eo => by
  have hI := hO.ib e
  have hc := hI.1.c
  obtain ⟨g1, g2⟩ := mn_n eo
  obtain ⟨h1, e1, f1⟩ := C_bc (G := G) (n := an_ a) hG (by omega) (by omega) g1 hI (nn A.w 1) 0 G (-1) (-1) hi (Nat.zero_add _) (by omega) (H.vw e)
  rw [← g2] at e1
  exact ⟨h1, e1, f1⟩)
end UM
