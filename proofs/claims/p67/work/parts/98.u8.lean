/-! calls that change the floor: both sides -/
def ch_ (c : Int32) (A B : As_) : As_ := if c = 0 then B else A
section CG
variable {A B : As_} {hi h h1 : HI} {x : AX} {K G : Nat} {a c : Int32} {w : Wd}
theorem CH_ {S : Option ((Int32 × HI) ⊕ Nat)} {R : Nat → Option (Int32 × HI × AX)} {code v : Int32} (H : RC A hi x) (g : (code = 0 ∧ ∃ h1, S = some (Sum.inl (v, h1)) ∧ RC B h1 x ∧ fC_ hi h1) ∨ (∃ E, S = some (Sum.inr E) ∧ code ≠ 0 ∧ R E = some (code, hi, xc x))) : Ck_ (ch_ code A B) (bW S (fun v2 => some ((0 : Int32), v2.2, xl x v2.1.toInt64)) R) hi x code v := by
  refine CX_ H ?_
  unfold ch_
  rcases g with ⟨rfl, h1, e, H1, f⟩ | ⟨E, e, hc, eR⟩
  · exact Or.inl ⟨rfl, h1, e, by rw [if_pos rfl]; exact H1, f⟩
  · exact Or.inr ⟨E, e, hc, if_neg hc, eR⟩
theorem CHb_ {S : Option ((Int32 × HI) ⊕ Nat)} {R : Nat → Option (Int32 × HI × AX)} {code : Int32} {v : Bool} (H : RC A hi x) (g : (code = 0 ∧ ∃ h1, S = some (Sum.inl (b2 v, h1)) ∧ RC B h1 x ∧ fC_ hi h1) ∨ (∃ E, S = some (Sum.inr E) ∧ code ≠ 0 ∧ R E = some (code, hi, xc x))) : Ck_ (ch_ code A B) (bW S (fun v2 => if v2.1 = 0 then some ((0 : Int32), v2.2, xl x (Int64.ofNat 0)) else some ((0 : Int32), v2.2, xl x (Int64.ofNat 1))) R) hi x code (b2 v) := by
  have g2 := CH_ (B := B) (S := S) (R := R) (v := b2 v) H g
  rcases g with ⟨rfl, h1, e, -, -⟩ | ⟨E, e, -, -⟩
  · rw [e] at g2 ⊢
    cases v <;> exact g2
  · rw [e] at g2 ⊢
    exact g2
def ad_ (a : Int32) : Bool := decide (¬ a < 1 ∧ a ≤ 300)
theorem ad_n (e : ad_ a = true) : an_ a ≤ 300 ∧ a = nI (an_ a) := by
  obtain ⟨h0, h1⟩ := of_decide_eq_true e
  obtain ⟨t, ht, rfl⟩ := nI_of (show ¬ a < 0 from fun q => h0 (Int32.lt_trans q (by decide)))
  unfold an_
  rw [nI_clamp ht]
  exact ⟨(nI_leI (b := 300) ht (by omega)).mp h1, rfl⟩
def B_adv (A : As_) (a : Int32) : As_ := A.pu.sw (p_passN (an_ a) A.w)
theorem Cf_advance (hG : 501 < G) (hK : K ≤ 200000) (hO : Ok_ K A) (H : RC A hi x) : Ck_ (ch_ (lt2_ A (ad_ a)) A (B_adv A a)) (sh_L_advance G a hi x) hi x (lt2_ A (ad_ a)) (p_passN (an_ a) A.w 12 - A.w 12) := by
  refine CH_ H ?_
  unfold sh_X9_advance lt2_
  rw [rq_ H]
  cases e : A.ld with
  | false => exact Or.inr ⟨0, rfl, (show (1 : Int32) ≠ 0 by decide), rfl⟩
  | true =>
    show ((if ad_ a = true then (0 : Int32) else 2) = 0 ∧ ∃ h1, (if a < (1 : Int32) then some (Sum.inr 2) else if a ≤ (300 : Int32) then (sh_X1_keep 0 hi).bind fun h3 => (sh_X8_passMinutes G 0 a h3).bind fun h5 => some (Sum.inl ((h5 (wa 0 6) 5) - (h3 (wa 0 6) 5), h5)) else some (Sum.inr 2)) = _ ∧ _) ∨ _
    cases eo : ad_ a with
    | false =>
      refine Or.inr ⟨2, ?_, (show (2 : Int32) ≠ 0 by decide), rfl⟩
      show (if a < (1 : Int32) then some (Sum.inr 2) else if a ≤ (300 : Int32) then (sh_X1_keep 0 hi).bind fun h3 => (sh_X8_passMinutes G 0 a h3).bind fun h5 => some (Sum.inl ((h5 (wa 0 6) 5) - (h3 (wa 0 6) 5), h5)) else some (Sum.inr 2)) = some (Sum.inr 2)
      have q := of_decide_eq_false eo
      by_cases c1 : a < 1
      · rw [if_pos c1]
      · rw [if_neg c1, if_neg (fun z => q ⟨c1, z⟩)]
    | true =>
      have hI := hO.ib e
      obtain ⟨c1, c2⟩ := of_decide_eq_true eo
      obtain ⟨g1, g2⟩ := ad_n eo
      obtain ⟨h3, e3, H3, v3, f3⟩ := C_keep hO e H
      obtain ⟨h5, e5, v5, f5⟩ := C_passN (i := 0) (G := G) (n := an_ a) (hi := h3) (K := K) (B := 5 * K) (by omega) (by omega) (by omega) (by omega) (by rw [v3]; exact hI)
      rw [v3] at v5
      rw [← g2] at e5
      refine Or.inl ⟨rfl, h5, ?_, H3.w0 f5 v5, f3.trans (fr_fC f5)⟩
      rw [if_neg c1, if_pos c2, e3, bs, e5, bs, vr_12 0 h5, vr_12 0 h3, v5, v3]
def B_pace (A : As_) (a : Int32) : As_ := A.pu.sw (upd A.w 3 a)
theorem Cf_setPace (hO : Ok_ K A) (H : RC A hi x) : Ck_ (ch_ (lt2_ A (pc_ a)) A (B_pace A a)) (sh_L_setPace a hi x) hi x (lt2_ A (pc_ a)) (A.w 3) := by
  refine CH_ H ?_
  unfold sh_X9_setPace lt2_
  rw [rq_ H, qP_]
  cases e : A.ld with
  | false => exact Or.inr ⟨0, rfl, (show (1 : Int32) ≠ 0 by decide), rfl⟩
  | true =>
    cases eo : pc_ a with
    | false => exact Or.inr ⟨2, rfl, (show (2 : Int32) ≠ 0 by decide), rfl⟩
    | true =>
      obtain ⟨h3, e3, H3, v3, f3⟩ := C_keep hO e H
      have f5 : fr_ 0 h3 (am_u h3 (wa 0 0) 8 a) := (fr_.refl 0 h3).u
      refine Or.inl ⟨rfl, am_u h3 (wa 0 0) 8 a, ?_, H3.w0 f5 (by rw [uw_3, v3]), f3.trans (fr_fC f5)⟩
      show ((sh_X1_keep 0 hi).bind fun h4 => some (Sum.inl (h4 (wa 0 0) 8, am_u h4 (wa 0 0) 8 a))) = _
      rw [e3, bs, vr_3 0 h3, v3]
def B_cur (A : As_) (a : Int32) (v : Bool) : As_ := A.pu.sw (upd A.w (26 + an_ a) (b2 v))
theorem Cf_setCurtain {v : Bool} (hO : Ok_ K A) (H : RC A hi x) : Ck_ (ch_ (cC_ A a) A (B_cur A a v)) (sh_L_setCurtain a (b2 v) hi x) hi x (cC_ A a) (b2 (decide (A.w (26 + an_ a) ≠ 0))) := by
  refine CHb_ H ?_
  unfold sh_X9_setCurtain cC_ lt2_
  rw [rq_ H]
  cases e : A.ld with
  | false => exact Or.inr ⟨0, rfl, (show (1 : Int32) ≠ 0 by decide), rfl⟩
  | true =>
    rw [qC_ hO H e]
    cases eo : tk_ a (nn A.w 1) with
    | false => exact Or.inr ⟨1, rfl, (show (2 : Int32) ≠ 0 by decide), rfl⟩
    | true =>
      have hI := hO.ib e
      have hcu : cu_ A.w := hI.2.2.2.2.2.2.2.2.2.2.2.1
      obtain ⟨t1, t2, t3⟩ := tkC hO e eo
      obtain ⟨h3, e3, H3, v3, f3⟩ := C_keep hO e H
      have f5 : fr_ 0 h3 (am_u h3 (wa 0 10) (an_ a) (b2 v)) := (fr_.refl 0 h3).u
      refine Or.inl ⟨rfl, _, ?_, H3.w0 f5 (by rw [uw_cur t2, v3]), f3.trans (fr_fC f5)⟩
      show ((sh_X1_keep 0 hi).bind fun h4 => if sh_at (wa 0 10) 10 a h4 ≤ 0 then sh_X9_setCurtain_39 a (b2 v) (0 : Int32) h4 else sh_X9_setCurtain_39 a (b2 v) (1 : Int32) h4) = _
      have ea : sh_at (wa 0 10) 10 a h3 = A.w (26 + an_ a) := by
        rw [t3, at_n t2 (by decide), vr_cur 0 h3 t2, v3, ← t3]
      have ep : ∀ u, sh_put (wa 0 10) 10 a u h3 = am_u h3 (wa 0 10) (an_ a) u := fun u => by
        have := put_n (a := wa 0 10) (n := 10) (t := an_ a) (v := u) (hi := h3) t2 (by decide)
        rw [← t3] at this
        exact this
      rw [e3, bs, ea, le_if (le0_ (b := 1) (by omega) (hcu _ t2)).1]
      unfold sh_X9_setCurtain_39 sh_X9_setCurtain_57
      rw [ep, ep, eq_of, eq_of]
      by_cases c0 : A.w (26 + an_ a) = 0
      · rw [if_pos c0, decide_eq_false (fun q => q c0)]
        cases v <;> rfl
      · rw [if_neg c0, decide_eq_true c0]
        cases v <;> rfl
def B_turn (A : As_) : As_ := A.pu.sw (upd A.w 10 (1 - A.w 10))
theorem Cf_turnWalker (hO : Ok_ K A) (H : RC A hi x) : Ck_ (ch_ (lc_ A) A (B_turn A)) (sh_L_turnWalker hi x) hi x (lc_ A) (b2 (decide (A.w 10 = 0))) := by
  refine CHb_ H ?_
  unfold sh_X9_turnWalker lc_
  rw [rq_ H]
  cases e : A.ld with
  | false => exact Or.inr ⟨0, rfl, (show (1 : Int32) ≠ 0 by decide), rfl⟩
  | true =>
    have hI := hO.ib e
    obtain ⟨h3, e3, H3, v3, f3⟩ := C_keep hO e H
    have f5 : ∀ v, fr_ 0 h3 (am_u h3 (wa 0 6) 2 v) := fun v => (fr_.refl 0 h3).u
    rcases in01 hI.2.2.1.1.2.2.2.1 with q | q
    · refine Or.inl ⟨rfl, am_u h3 (wa 0 6) 2 1, ?_, H3.w0 (f5 1) (by rw [uw_10, v3, q]; rfl), f3.trans (fr_fC (f5 1))⟩
      show ((sh_X1_keep 0 hi).bind fun h3 => if h3 (wa 0 6) 2 ≠ 0 then sh_X9_turnWalker_40 (0 : Int32) h3 else sh_X9_turnWalker_40 (1 : Int32) h3) = _
      unfold sh_X9_turnWalker_40
      rw [e3, bs, vr_10 0 h3, v3, q, if_neg (by decide), au_]
      rfl
    · refine Or.inl ⟨rfl, am_u h3 (wa 0 6) 2 0, ?_, H3.w0 (f5 0) (by rw [uw_10, v3, q]; rfl), f3.trans (fr_fC (f5 0))⟩
      show ((sh_X1_keep 0 hi).bind fun h3 => if h3 (wa 0 6) 2 ≠ 0 then sh_X9_turnWalker_40 (0 : Int32) h3 else sh_X9_turnWalker_40 (1 : Int32) h3) = _
      unfold sh_X9_turnWalker_40
      rw [e3, bs, vr_10 0 h3, v3, q, if_pos (by decide), au_]
      rfl
end CG
