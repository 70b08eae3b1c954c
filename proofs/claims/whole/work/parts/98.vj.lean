/-! writeRecords: both sides -/
section RCW
variable {A A' B : As_} {hi h h1 : HI} {x x1 : AX} {K G : Nat}
def tm_ (v : Nat) (A : As_) : As_ := tw_ v (p_dg v 8 0) A
/-- the same but for the text -/
def sm_ (A B : As_) : Prop := B.1 = A.1 ∧ B.2.1 = A.2.1 ∧ B.2.2.1 = A.2.2.1 ∧ B.2.2.2.1 = A.2.2.2.1
theorem sm_.trans {C : As_} (a : sm_ A B) (b : sm_ B C) : sm_ A C := ⟨b.1.trans a.1, b.2.1.trans a.2.1, b.2.2.1.trans a.2.2.1, b.2.2.2.trans a.2.2.2⟩
theorem sm_.tp {y : Nat} (a : sm_ A B) : sm_ A (tp_ B y) := a
theorem sm_.tm {v : Nat} (a : sm_ A B) : sm_ A (tm_ v B) := by
  obtain ⟨-, h⟩ := tw_n v (p_dg v 8 0) B
  exact a.trans h
/-- bytes below 128 -/
def sb8_ (A : As_) : Prop := ∀ k, k < A.tn → A.tx k < 128
theorem sb8_.tp {y : Nat} (a : sb8_ A) (hy : y < 128) : sb8_ (tp_ A y) := fun k hk => by
  show (if k = A.tn then y else A.tx k) < 128
  have hk : k < A.tn + 1 := hk
  split
  · exact hy
  · exact a k (by omega)
theorem sb8_.tm {v : Nat} (a : sb8_ A) : sb8_ (tm_ v A) := fun k hk => by
  obtain ⟨h1, h2⟩ := tw_tx v (p_dg v 8 0) A
  have hk : k < (tw_ v (p_dg v 8 0) A).tn := hk
  rw [(tw_n v (p_dg v 8 0) A).1] at hk
  show (tw_ v (p_dg v 8 0) A).tx k < 128
  by_cases c : k < A.tn
  · rw [h1 k c]; exact a k c
  · obtain ⟨j, rfl⟩ : ∃ j, k = A.tn + j := ⟨k - A.tn, by omega⟩
    rw [h2 j (by omega)]
    have := Nat.mod_lt (v / 10 ^ (p_dg v 8 0 - 1 - j)) (show 0 < 10 by decide)
    omega
theorem tm_n (v : Nat) (A : As_) : A.tn + 1 ≤ (tm_ v A).tn ∧ (tm_ v A).tn ≤ A.tn + 9 := by
  have h := (tw_n v (p_dg v 8 0) A).1
  obtain ⟨l1, l2⟩ := p_dg_le v 8 0
  have h : (tm_ v A).tn = A.tn + p_dg v 8 0 := h
  omega
/-- a record more -/
def to_ (A : As_) (k : Nat) (B : As_) : As_ := tm_ (nn A.w (405 + 2 * k)) (tp_ (tm_ (nn A.w (404 + 2 * k)) (if k = 0 then B else tp_ B 32)) 58)
def tc_ (A : As_) : Nat → As_
  | 0 => t0_ A
  | k + 1 => to_ A k (tc_ A k)
theorem tc_n (A : As_) : ∀ k, sm_ A (tc_ A k) ∧ sb8_ (tc_ A k) ∧ (if k = 0 then (tc_ A k).tn = 0 else 1 ≤ (tc_ A k).tn ∧ (tc_ A k).tn + 1 ≤ 20 * k)
  | 0 => ⟨⟨rfl, rfl, rfl, rfl⟩, fun k hk => absurd hk (Nat.not_lt_zero _), rfl⟩
  | k + 1 => by
    obtain ⟨h1, h2, h3⟩ := tc_n A k
    rw [if_neg (Nat.succ_ne_zero k)]
    show sm_ A (to_ A k (tc_ A k)) ∧ sb8_ (to_ A k (tc_ A k)) ∧ 1 ≤ (to_ A k (tc_ A k)).tn ∧ (to_ A k (tc_ A k)).tn + 1 ≤ 20 * (k + 1)
    unfold to_
    have g : sm_ A (if k = 0 then tc_ A k else tp_ (tc_ A k) 32) ∧ sb8_ (if k = 0 then tc_ A k else tp_ (tc_ A k) 32) ∧ (if k = 0 then tc_ A k else tp_ (tc_ A k) 32).tn ≤ 20 * k := by
      by_cases c : k = 0
      · rw [if_pos c] at h3 ⊢
        exact ⟨h1, h2, by omega⟩
      · rw [if_neg c] at h3 ⊢
        exact ⟨h1.tp, h2.tp (by omega), by show (tc_ A k).tn + 1 ≤ 20 * k; omega⟩
    obtain ⟨g1, g2, g3⟩ := g
    generalize (if k = 0 then tc_ A k else tp_ (tc_ A k) 32) = B at g1 g2 g3
    have n1 := tm_n (nn A.w (404 + 2 * k)) B
    have n2 := tm_n (nn A.w (405 + 2 * k)) (tp_ (tm_ (nn A.w (404 + 2 * k)) B) 58)
    have n3 : (tp_ (tm_ (nn A.w (404 + 2 * k)) B) 58).tn = (tm_ (nn A.w (404 + 2 * k)) B).tn + 1 := rfl
    exact ⟨g1.tm.tp.tm, (g2.tm.tp (by omega)).tm, by omega, by omega⟩
def B_rec (A : As_) : As_ := if nn A.w 19 = 0 then tp_ (t0_ A) 45 else tc_ A (nn A.w 19)
theorem rec_v (hO : Ok_ K A) (hK : K ≤ 199000000) (e : A.ld = true) : A.w 19 = nI (nn A.w 19) ∧ nn A.w 19 ≤ 10 ∧ ∀ k, k < nn A.w 19 → (A.w (404 + 2 * k) = nI (nn A.w (404 + 2 * k)) ∧ nn A.w (404 + 2 * k) < 10 ^ 9) ∧ (A.w (405 + 2 * k) = nI (nn A.w (405 + 2 * k)) ∧ nn A.w (405 + 2 * k) < 10 ^ 9) := by
  obtain ⟨-, -, -, -, -, -, -, h19, -, hr⟩ := (hO.ib e).2.2.2
  refine ⟨h19.1, h19.2.2, fun k hk => ?_⟩
  obtain ⟨⟨a1, a2, a3⟩, b1, b2', b3⟩ := hr k hk
  exact ⟨⟨a1, by omega⟩, b1, by omega⟩
theorem sm_w (s : sm_ A B) : B.ld = A.ld ∧ B.w = A.w := ⟨congrArg (·.1) s.1, congrArg (·.2) s.1⟩
theorem C_rc1 {k : Nat} {rec : Int32 → HI → AX → Option ((Int32 ⊕ Nat) × HI × AX)} (hG : 501 < G) (hO : Ok_ K A) (hK : K ≤ 199000000) (e : A.ld = true) (hk : k < nn A.w 19) (s : sm_ A B) (hn : B.tn ≤ 20 * k) (H : RC B h x) : ∃ h1 x1, sh_X9_writeRecords_61 G rec (nI k) h x = rec (nI (k + 1)) h1 x1 ∧ RC (tm_ (nn A.w (405 + 2 * k)) (tp_ (tm_ (nn A.w (404 + 2 * k)) B) 58)) h1 x1 ∧ fC_ h h1 ∧ XT x x1 := by
  obtain ⟨v1, v2, v3⟩ := rec_v hO (by omega) e
  obtain ⟨⟨a1, a2⟩, b1, b2'⟩ := v3 k hk
  obtain ⟨s1, s2⟩ := sm_w s
  have hv : vw_ 0 h = A.w := (H.1.2.2.2.2.2 (s1.trans e)).trans s2
  have n1 := tm_n (nn A.w (404 + 2 * k)) B
  have hb := b2'
  obtain ⟨h2, x2, e2, H2, f2, X2⟩ := C_num (G := G) (by omega) a2 (by omega) H
  obtain ⟨h3, x3, e3, H3, f3, X3⟩ := C_put (y := 58) (by omega) (show (tm_ (nn A.w (404 + 2 * k)) B).tn < 200 by omega) H2
  have hv3 : vw_ 0 h3 = A.w := (H3.1.2.2.2.2.2 ((sm_w (s.tm (v := nn A.w (404 + 2 * k))).tp).1.trans e)).trans (sm_w (s.tm (v := nn A.w (404 + 2 * k))).tp).2
  obtain ⟨h4, x4, e4, H4, f4, X4⟩ := C_num (A := tp_ (tm_ (nn A.w (404 + 2 * k)) B) 58) (G := G) (v := nn A.w (405 + 2 * k)) (by omega) hb (show (tm_ (nn A.w (404 + 2 * k)) B).tn + 1 + 9 ≤ 200 by omega) H3
  refine ⟨h4, x4, ?_, H4, (f2.trans f3).trans f4, (X2.trans X3).trans X4⟩
  unfold sh_X9_writeRecords_61
  rw [at_n (by omega) (by decide), vr_rec1 0 h (by rw [hv]; exact hk) (by omega), hv, a1, e2, bs]
  show ((sh_J4_append_cf468 (nI 58) h2 x2).bind fun v4 => (sh_J4_append_bf812 G (sh_at (wa 0 9) 10 (nI k) v4.1) v4.1 v4.2).bind fun v5 => rec (nI k + 1) v5.1 v5.2) = _
  rw [e3, bs]
  show ((sh_J4_append_bf812 G (sh_at (wa 0 9) 10 (nI k) h3) h3 x3).bind fun v5 => rec (nI k + 1) v5.1 v5.2) = _
  rw [at_n (by omega) (by decide), vr_rec2 0 h3 (by rw [hv3]; exact hk) (by omega), hv3, b1, e4, bs, nI_1]
theorem C_rcs (hG : 501 < G) (hO : Ok_ K A) (hK : K ≤ 199000000) (e : A.ld = true) : ∀ f k F h x, k + f = nn A.w 19 → f < F → RC (tc_ A k) h x → ∃ h1 x1, sh_X9_writeRecords_39 G F (nI k) h x = some (Sum.inl (nI (tc_ A (nn A.w 19)).tn), h1, x1) ∧ RC (tc_ A (nn A.w 19)) h1 x1 ∧ fC_ h h1 ∧ XT x x1 := fun f => by
  obtain ⟨v1, v2, v3⟩ := rec_v hO (by omega) e
  induction f with
  | zero =>
    intro k F h x hk hF H
    obtain ⟨F, rfl⟩ : ∃ F2, F = F2 + 1 := ⟨F - 1, by omega⟩
    obtain rfl : k = nn A.w 19 := by omega
    obtain ⟨s, -, -⟩ := tc_n A (nn A.w 19)
    have hv : vw_ 0 h = A.w := (H.1.2.2.2.2.2 ((sm_w s).1.trans e)).trans (sm_w s).2
    show ∃ h1 x1, sh_X9_writeRecords_39_b G (sh_X9_writeRecords_39 G F) (nI (nn A.w 19)) h x = _ ∧ _
    unfold sh_X9_writeRecords_39_b
    rw [vr_19 0 h, hv, v1, if_pos (Int32.le_refl _)]
    have el : sh_J4_length_8abf5 h = nI (tc_ A (nn A.w 19)).tn := H.2.2.2.2.1
    rw [el]
    exact ⟨h, x, rfl, H, fC_.refl h, XT.refl x⟩
  | succ f ih =>
    intro k F h x hk hF H
    obtain ⟨F, rfl⟩ : ∃ F2, F = F2 + 1 := ⟨F - 1, by omega⟩
    obtain ⟨s, -, hn⟩ := tc_n A k
    have hv : vw_ 0 h = A.w := (H.1.2.2.2.2.2 ((sm_w s).1.trans e)).trans (sm_w s).2
    show ∃ h1 x1, sh_X9_writeRecords_39_b G (sh_X9_writeRecords_39 G F) (nI k) h x = _ ∧ _
    unfold sh_X9_writeRecords_39_b
    rw [vr_19 0 h, hv, v1, if_neg (nI_ge (by omega) (by omega))]
    have ek : tc_ A (k + 1) = tm_ (nn A.w (405 + 2 * k)) (tp_ (tm_ (nn A.w (404 + 2 * k)) (if k = 0 then tc_ A k else tp_ (tc_ A k) 32)) 58) := rfl
    by_cases c : k = 0
    · rw [if_pos c] at ek hn
      rw [if_pos (show nI k ≤ (0 : Int32) from nI_le (b := 0) (by omega) (by omega))]
      obtain ⟨h2, x2, e2, H2, f2, X2⟩ := C_rc1 (rec := sh_X9_writeRecords_39 G F) hG hO hK e (show k < nn A.w 19 by omega) s (by omega) H
      rw [← ek] at H2
      obtain ⟨h3, x3, e3, H3, f3, X3⟩ := ih (k + 1) F h2 x2 (by omega) (by omega) H2
      rw [e2]
      exact ⟨h3, x3, e3, H3, f2.trans f3, X2.trans X3⟩
    · rw [if_neg c] at ek hn
      rw [if_neg (show ¬ nI k ≤ (0 : Int32) from nI_ge (a := 0) (by omega) (by omega))]
      obtain ⟨h1, x1, e1, H1, f1, X1⟩ := C_put (y := 32) (by omega) (show (tc_ A k).tn < 200 by omega) H
      obtain ⟨h2, x2, e2, H2, f2, X2⟩ := C_rc1 (rec := sh_X9_writeRecords_39 G F) hG hO hK e (show k < nn A.w 19 by omega) s.tp (show (tc_ A k).tn + 1 ≤ 20 * k by omega) H1
      rw [← ek] at H2
      obtain ⟨h3, x3, e3, H3, f3, X3⟩ := ih (k + 1) F h2 x2 (by omega) (by omega) H2
      show ∃ h9 x9, ((sh_J4_append_cf468 (nI 32) h x).bind fun v6 => sh_X9_writeRecords_61 G (sh_X9_writeRecords_39 G F) (nI k) v6.1 v6.2) = some (_, h9, x9) ∧ _
      rw [e1, bs]
      show ∃ h9 x9, sh_X9_writeRecords_61 G (sh_X9_writeRecords_39 G F) (nI k) h1 x1 = some (_, h9, x9) ∧ _
      rw [e2]
      exact ⟨h3, x3, e3, H3, (f1.trans f2).trans f3, (X1.trans X2).trans X3⟩
theorem Cf_writeRecords (hG : 501 < G) (hK : K ≤ 199000000) (hO : Ok_ K A) (H : RC A hi x) : Ck_ (ch_ (lc_ A) A (B_rec A)) (sh_L_writeRecords G hi x) hi x (lc_ A) (nI (B_rec A).tn) := by
  unfold sh_L_writeRecords sh_X9_writeRecords lc_
  rw [rq_ H]
  cases e : A.ld with
  | false =>
    show Ck_ (ch_ 1 A _) (some ((1 : Int32), hi, xc x)) hi x 1 _
    exact Ck_.no (by decide) H
  | true =>
    obtain ⟨v1, v2, v3⟩ := rec_v hO (by omega) e
    obtain ⟨h2, e2, H2, f2⟩ := C_clear H
    have hv : vw_ 0 h2 = A.w := H2.1.2.2.2.2.2 e
    show Ck_ (B_rec A) (bW2 ((sh_J4_setLength_d00df (0 : Int32) hi x).bind fun v2 => if v2.1 (wa 0 7) 2 ≠ 0 then sh_X9_writeRecords_39 G G (0 : Int32) v2.1 v2.2 else (sh_J4_append_cf468 (45 : Int32) v2.1 v2.2).bind fun v7 => sh_X9_writeRecords_39 G G (0 : Int32) v7.1 v7.2) _ _) hi x 0 _
    rw [e2, bs]
    show Ck_ (B_rec A) (bW2 (if h2 (wa 0 7) 2 ≠ 0 then sh_X9_writeRecords_39 G G (0 : Int32) h2 x else (sh_J4_append_cf468 (nI 45) h2 x).bind fun v7 => sh_X9_writeRecords_39 G G (0 : Int32) v7.1 v7.2) _ _) hi x 0 _
    rw [vr_19 0 h2, hv, v1]
    unfold B_rec
    by_cases c : nn A.w 19 = 0
    · rw [if_pos c, c, if_neg (fun q => q rfl)]
      obtain ⟨h3, x3, e3, H3, f3, X3⟩ := C_put (y := 45) (by omega) (show (t0_ A).tn < 200 from Nat.zero_lt_succ _) H2
      have hv3 : vw_ 0 h3 = A.w := H3.1.2.2.2.2.2 e
      have el : sh_J4_length_8abf5 h3 = nI (tp_ (t0_ A) 45).tn := H3.2.2.2.2.1
      have e4 : sh_X9_writeRecords_39 G G (0 : Int32) h3 x3 = some (Sum.inl (nI (tp_ (t0_ A) 45).tn), h3, x3) := by
        obtain ⟨G', eG⟩ : ∃ F2, G = F2 + 1 := ⟨G - 1, by omega⟩
        have q : sh_X9_writeRecords_39 G (G' + 1) (0 : Int32) h3 x3 = sh_X9_writeRecords_39_b G (sh_X9_writeRecords_39 G G') (0 : Int32) h3 x3 := rfl
        rw [← eG] at q
        rw [q]
        unfold sh_X9_writeRecords_39_b
        rw [vr_19 0 h3, hv3, v1, c, el]
        exact if_pos (Int32.le_refl _)
      rw [e3, bs]
      show Ck_ _ (bW2 (sh_X9_writeRecords_39 G G (0 : Int32) h3 x3) _ _) hi x 0 _
      rw [e4]
      exact ⟨h3, _, rfl, fun _ => rfl, H3.cx rfl, f2.trans f3, X3.l⟩
    · rw [if_neg c, if_pos (nI_ne0 (by omega) (by omega))]
      obtain ⟨h3, x3, e3, H3, f3, X3⟩ := C_rcs hG hO hK e (nn A.w 19) 0 G h2 x (Nat.zero_add _) (by omega) H2
      have e3 : sh_X9_writeRecords_39 G G (0 : Int32) h2 x = some (Sum.inl (nI (tc_ A (nn A.w 19)).tn), h3, x3) := e3
      rw [e3]
      exact ⟨h3, _, rfl, fun _ => rfl, H3.cx rfl, f2.trans f3, X3.l⟩
/-! the model -/
theorem M_rc1 {k : Nat} {rec : Int32 → HI → Option (Int32 × HI)} (hG : 501 < G) (hO : Ok_ K A) (hK : K ≤ 199000000) (e : A.ld = true) (hk : k < nn A.w 19) (s : sm_ A B) (hn : B.tn ≤ 20 * k) (H : RM B h) : ∃ h1, sh_X10_writeRecords_37 G rec (nI k) h = rec (nI (k + 1)) h1 ∧ RM (tm_ (nn A.w (405 + 2 * k)) (tp_ (tm_ (nn A.w (404 + 2 * k)) B) 58)) h1 ∧ fM_ h h1 ∧ h1 (za 195) 0 = h (za 195) 0 := by
  obtain ⟨v1, v2, v3⟩ := rec_v hO (by omega) e
  obtain ⟨⟨a1, a2⟩, b1, b2'⟩ := v3 k hk
  obtain ⟨s1, s2⟩ := sm_w s
  have hv : mw_ h = A.w := (H.1.2.2.2.2.2 (s1.trans e)).trans s2
  have n1 := tm_n (nn A.w (404 + 2 * k)) B
  have hb := b2'
  obtain ⟨h2, e2, H2, f2, c2⟩ := M_num2 (G := G) (by omega) a2 (by omega) H
  obtain ⟨h3, e3, H3, f3, c3⟩ := M_put (y := 58) (by omega) (show (tm_ (nn A.w (404 + 2 * k)) B).tn < 200 by omega) H2
  have hv3 : mw_ h3 = A.w := (H3.1.2.2.2.2.2 ((sm_w (s.tm (v := nn A.w (404 + 2 * k))).tp).1.trans e)).trans (sm_w (s.tm (v := nn A.w (404 + 2 * k))).tp).2
  obtain ⟨h4, e4, H4, f4, c4⟩ := M_num2 (A := tp_ (tm_ (nn A.w (404 + 2 * k)) B) 58) (G := G) (v := nn A.w (405 + 2 * k)) (by omega) hb (show (tm_ (nn A.w (404 + 2 * k)) B).tn + 1 + 9 ≤ 200 by omega) H3
  refine ⟨h4, ?_, H4, (f2.trans f3).trans f4, c4.trans (c3.trans c2)⟩
  have i1 : (404 : Int32) + ((2 : Int32) * nI k) = nI (404 + 2 * k) := (by show nI 404 + nI 2 * nI k = _; rw [pk_mul, nI_add])
  have i2 : nI (404 + 2 * k) + 1 = nI (405 + 2 * k) := by rw [nI_1]; congr 1; omega
  unfold sh_X10_writeRecords_37
  rw [i1, i2, if_pos (ok4 (by omega)), nI_clamp (by omega), nI_clamp (by omega), M_rk (h := h) (k := 404 + 2 * k) (by omega) (by omega) (by rw [hv]; omega), hv, a1, e2, bs]
  show ((sh_X10_writesByte (nI 58) h2).bind fun h7 => if 0 ≤ nI (405 + 2 * k) ∧ 405 + 2 * k < 424 then (sh_X10_writesNumber G (h7 (za 196) (405 + 2 * k)) h7).bind fun h9 => rec (nI k + 1) h9 else none) = _
  rw [e3, bs, if_pos ⟨nI_pos' (by omega), by omega⟩, M_rk (h := h3) (k := 405 + 2 * k) (by omega) (by omega) (by rw [hv3]; omega), hv3, b1, e4, bs, nI_1]
theorem M_rcs (hG : 501 < G) (hO : Ok_ K A) (hK : K ≤ 199000000) (e : A.ld = true) : ∀ f k F h, k + f = nn A.w 19 → f < F → RM (tc_ A k) h → ∃ h1, sh_X10_writeRecords_16 G F (nI k) h = some (nI (B_rec A).tn, h1) ∧ RM (B_rec A) h1 ∧ fM_ h h1 ∧ h1 (za 195) 0 = h (za 195) 0 := fun f => by
  obtain ⟨v1, v2, v3⟩ := rec_v hO (by omega) e
  induction f with
  | zero =>
    intro k F h hk hF H
    obtain ⟨F, rfl⟩ : ∃ F2, F = F2 + 1 := ⟨F - 1, by omega⟩
    obtain rfl : k = nn A.w 19 := by omega
    obtain ⟨s, -, hn⟩ := tc_n A (nn A.w 19)
    have hv : mw_ h = A.w := (H.1.2.2.2.2.2 ((sm_w s).1.trans e)).trans (sm_w s).2
    have el : h (za 195) 21 = nI (tc_ A (nn A.w 19)).tn := H.2.2.2.1
    show ∃ h1, sh_X10_writeRecords_16_b G (sh_X10_writeRecords_16 G F) (nI (nn A.w 19)) h = _ ∧ _
    unfold sh_X10_writeRecords_16_b B_rec
    rw [m_19 h, hv, v1, if_pos (Int32.le_refl _), el]
    by_cases c : nn A.w 19 = 0
    · rw [c] at H hn el ⊢
      rw [if_pos rfl] at hn
      rw [hn, if_neg (fun q => q rfl), if_pos rfl]
      obtain ⟨h1, e1, H1, f1, c1⟩ := M_put (y := 45) (by omega) (show (tc_ A 0).tn < 200 by omega) H
      have el1 : h1 (za 195) 21 = nI (tp_ (t0_ A) 45).tn := H1.2.2.2.1
      show ∃ h9, ((sh_X10_writesByte (nI 45) h).bind fun h3 => some (h3 (za 195) 21, h3)) = some (_, h9) ∧ _
      rw [e1, bs, el1]
      exact ⟨h1, rfl, H1, f1, c1⟩
    · rw [if_neg c] at hn ⊢
      have := tc_n A (nn A.w 19)
      rw [if_pos (nI_ne0 (by omega) (by omega))]
      exact ⟨h, rfl, H, fM_.refl h, rfl⟩
  | succ f ih =>
    intro k F h hk hF H
    obtain ⟨F, rfl⟩ : ∃ F2, F = F2 + 1 := ⟨F - 1, by omega⟩
    obtain ⟨s, -, hn⟩ := tc_n A k
    have hv : mw_ h = A.w := (H.1.2.2.2.2.2 ((sm_w s).1.trans e)).trans (sm_w s).2
    show ∃ h1, sh_X10_writeRecords_16_b G (sh_X10_writeRecords_16 G F) (nI k) h = _ ∧ _
    unfold sh_X10_writeRecords_16_b
    rw [m_19 h, hv, v1, if_neg (nI_ge (by omega) (by omega))]
    have ek : tc_ A (k + 1) = tm_ (nn A.w (405 + 2 * k)) (tp_ (tm_ (nn A.w (404 + 2 * k)) (if k = 0 then tc_ A k else tp_ (tc_ A k) 32)) 58) := rfl
    by_cases c : k = 0
    · rw [if_pos c] at ek hn
      rw [if_pos (show nI k ≤ (0 : Int32) from nI_le (b := 0) (by omega) (by omega))]
      obtain ⟨h2, e2, H2, f2, c2⟩ := M_rc1 (rec := sh_X10_writeRecords_16 G F) hG hO hK e (show k < nn A.w 19 by omega) s (by omega) H
      rw [← ek] at H2
      obtain ⟨h3, e3, H3, f3, c3⟩ := ih (k + 1) F h2 (by omega) (by omega) H2
      rw [e2]
      exact ⟨h3, e3, H3, f2.trans f3, c3.trans c2⟩
    · rw [if_neg c] at ek hn
      rw [if_neg (show ¬ nI k ≤ (0 : Int32) from nI_ge (a := 0) (by omega) (by omega))]
      obtain ⟨h1, e1, H1, f1, c1⟩ := M_put (y := 32) (by omega) (show (tc_ A k).tn < 200 by omega) H
      obtain ⟨h2, e2, H2, f2, c2⟩ := M_rc1 (rec := sh_X10_writeRecords_16 G F) hG hO hK e (show k < nn A.w 19 by omega) s.tp (show (tc_ A k).tn + 1 ≤ 20 * k by omega) H1
      rw [← ek] at H2
      obtain ⟨h3, e3, H3, f3, c3⟩ := ih (k + 1) F h2 (by omega) (by omega) H2
      show ∃ h9, ((sh_X10_writesByte (nI 32) h).bind fun h11 => sh_X10_writeRecords_37 G (sh_X10_writeRecords_16 G F) (nI k) h11) = some (_, h9) ∧ _
      rw [e1, bs, e2]
      exact ⟨h3, e3, H3, (f1.trans f2).trans f3, c3.trans (c2.trans c1)⟩
theorem Mf_writeRecords (hG : 501 < G) (hK : K ≤ 199000000) (hO : Ok_ K A) (H : RM A hi) : Mk_ (ch_ (lc_ A) A (B_rec A)) (sh_X10_writeRecords G hi) hi (lc_ A) (nI (B_rec A).tn) := by
  refine MH_ H ?_
  unfold sh_X10_writeRecords lc_
  rw [M_mayLook H, bs]
  cases e : A.ld with
  | false => exact Or.inr ⟨(show (1 : Int32) ≠ 0 by decide), rfl⟩
  | true =>
    have H0 := H.u0 (v := 0)
    have H2 : RM (t0_ A) (am_u (am_u hi (za 195) 0 0) (za 195) 21 0) := H0.t (fun b k q1 q2 => by
      by_cases e : b = za 195
      · subst e
        exact au_k (fun q => q2 ⟨rfl, q⟩)
      · exact au_a e) au_ (fun k hk => absurd hk (Nat.not_lt_zero _))
    obtain ⟨h3, e3, H3, f3, c3⟩ := M_rcs hG hO hK e (nn A.w 19) 0 G _ (Nat.zero_add _) (by have := (rec_v hO (by omega) e).2.1; omega) H2
    have e3 : sh_X10_writeRecords_16 G G (0 : Int32) (am_u (am_u hi (za 195) 0 0) (za 195) 21 0) = some (nI (B_rec A).tn, h3) := e3
    refine Or.inl ⟨rfl, h3, e3, c3.trans ((au_k (by omega)).trans au_), H3, (((fM_.refl hi).u0).u0).trans f3⟩
theorem Of_rec (h : Ok_ K A) : Ok_ K (ch_ (lc_ A) A (B_rec A)) := h.ch (fun q => by
  have e := lc_0 q
  obtain ⟨-, -, -, -, -, -, -, h19, -, hr⟩ := (h.ib e).2.2.2
  have h10 := h19.2.2
  have g : sm_ A (B_rec A) ∧ sb8_ (B_rec A) ∧ (B_rec A).tn ≤ 200 := by
    unfold B_rec
    by_cases c : nn A.w 19 = 0
    · rw [if_pos c]
      obtain ⟨s1, s2, s3⟩ := tc_n A 0
      exact ⟨s1.tp, s2.tp (by omega), by show 0 + 1 ≤ 200; omega⟩
    · obtain ⟨s1, s2, s3⟩ := tc_n A (nn A.w 19)
      rw [if_neg c] at s3 ⊢
      exact ⟨s1, s2, by omega⟩
  obtain ⟨⟨t2, t3, t4, t5⟩, t6, t1⟩ := g
  obtain ⟨a1, a2, a3, a4, a5, a6⟩ := h
  refine ⟨?_, ?_, ?_, ?_, ?_, t1, t6⟩
  · show (B_rec A).2.2.1.1 ≤ 500
    rw [t4]; exact a1
  · show (B_rec A).2.1.1.length ≤ 8
    rw [t3]; exact a2
  · show (B_rec A).1.1 = true → ib_ K (5 * K) 0 (B_rec A).1.2
    rw [t2]; exact a3
  · show ∀ v ∈ (B_rec A).2.1.1, ib_ K (5 * K) 0 v
    rw [t3]; exact a4
  · show ∀ k v, (B_rec A).2.1.2 k = some v → ib_ K (5 * K) 0 v
    rw [t3]; exact a5)
end RCW
