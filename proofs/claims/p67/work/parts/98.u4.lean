/-! predictions: both sides -/
section PR
variable {A A1 : As_} {hi h h1 : HI} {x : AX} {K G : Nat} {a c : Int32} {w : Wd}
theorem C2_ {Q : Option (Unit ⊕ Nat)} {T S : Option ((Int32 × HI) ⊕ Nat)} {R : Nat → Option (Int32 × HI × AX)} {z : Nat} {v : Int32} {ok : Bool} (H : RC A hi x) (hS : S = bT (sh_X9_requireSetup hi) fun _ => bT Q fun _ => T) (hR0 : R 0 = some (1, hi, xc x)) (hRz : R z = some (2, hi, xc x)) (hQ : A.ld = true → Q = some (if ok = true then Sum.inl () else Sum.inr z)) (hT : A.ld = true → ok = true → ∃ h1, T = some (Sum.inl (v, h1)) ∧ fr_ 1 hi h1) : Ck_ A (bW S (fun v2 => some ((0 : Int32), v2.2, xl x v2.1.toInt64)) R) hi x (lt2_ A ok) v := by
  refine CX_ H ?_
  rw [hS, rq_ H]
  unfold lt2_
  cases e : A.ld with
  | false => exact Or.inr ⟨0, rfl, (show (1 : Int32) ≠ 0 by decide), rfl, hR0⟩
  | true =>
    rw [hQ e]
    cases eo : ok with
    | false => exact Or.inr ⟨z, rfl, (show (2 : Int32) ≠ 0 by decide), rfl, hRz⟩
    | true =>
      obtain ⟨h1, e1, f1⟩ := hT e eo
      exact Or.inl ⟨rfl, h1, e1, H.f1 f1, fr_fC f1⟩
theorem i3_ {B e : Nat} (h : ib_ K B e w) : w 3 = nI (nn w 3) ∧ 1 ≤ nn w 3 ∧ nn w 3 ≤ 5 := h.2.2.2.1
theorem upd_id {k : Nat} : upd w k (w k) = w := by
  funext j
  rw [upd_e]
  by_cases q : j = k
  · rw [if_pos q, q]
  · rw [if_neg q]
theorem Cf_stepsAfter (hG : 501 < G) (hK : K ≤ 200000) (hO : Ok_ K A) (H : RC A hi x) : Ck_ A (sh_L_stepsAfter G a hi x) hi x (lt2_ A (mn_ a)) (p_passN (an_ a) A.w 12) := C2_ (z := 2) H rfl rfl rfl (fun _ => qF_) (fun e eo => by
  have hI := hO.ib e
  obtain ⟨g1, g2⟩ := mn_n eo
  have h3 := i3_ hI
  obtain ⟨h1, e1, f1⟩ := C_fore (G := G) (n := an_ a) (p := nn A.w 3) hG (by omega) (by omega) g1 h3.2 hI (H.vw e)
  rw [← h3.1, upd_id, ← g2] at e1
  rw [vr_3 0 hi, H.vw e, e1, bs]
  exact ⟨h1, rfl, f1⟩)
theorem Cf_walkerTileAfter (hG : 501 < G) (hK : K ≤ 200000) (hO : Ok_ K A) (H : RC A hi x) : Ck_ A (sh_L_walkerTileAfter G a hi x) hi x (lt2_ A (mn_ a)) (p_passN (an_ a) A.w 8) := C2_ (z := 2) H rfl rfl rfl (fun _ => qF_) (fun e eo => by
  have hI := hO.ib e
  obtain ⟨g1, g2⟩ := mn_n eo
  obtain ⟨h2, e2, v2, f2⟩ := C_draft hI (H.vw e)
  obtain ⟨h4, e4, v4, f4⟩ := C_mins (G := G) (n := an_ a) hG (by omega) (by omega) g1 hI v2
  rw [← g2] at e4
  rw [e2, bs, e4, bs, vr_8 1 h4, v4]
  exact ⟨h4, rfl, f2.trans f4⟩)
def lt3_ (A : As_) (o1 o2 : Bool) : Int32 := if A.ld = true then (if o1 = true then (if o2 = true then 0 else 3) else 2) else 1
theorem Cf_spillTimeAfter (hG : 501 < G) (hK : K ≤ 200000) (hO : Ok_ K A) (H : RC A hi x) : Ck_ A (sh_L_spillTimeAfter G c a hi x) hi x (lt3_ A (tk_ c (p_rc A.w)) (mn_ a)) (p_passN (an_ a) A.w (244 + an_ c)) := by
  refine CX_ H ?_
  unfold sh_X9_spillTimeAfter lt3_
  rw [rq_ H]
  cases e : A.ld with
  | false => exact Or.inr ⟨0, rfl, (show (1 : Int32) ≠ 0 by decide), rfl, rfl⟩
  | true =>
    rw [qT_ hO H e, qF_]
    cases eo : tk_ c (p_rc A.w) with
    | false => exact Or.inr ⟨1, rfl, (show (2 : Int32) ≠ 0 by decide), rfl, rfl⟩
    | true =>
      cases em : mn_ a with
      | false => exact Or.inr ⟨2, rfl, (show (3 : Int32) ≠ 0 by decide), rfl, rfl⟩
      | true =>
        have hI := hO.ib e
        obtain ⟨g1, g2⟩ := mn_n em
        obtain ⟨t1, t2, t3⟩ := tkT hO e eo
        obtain ⟨h2, e2, v2, f2⟩ := C_draft hI (H.vw e)
        obtain ⟨h4, e4, v4, f4⟩ := C_mins (G := G) (n := an_ a) hG (by omega) (by omega) g1 hI v2
        rw [← g2] at e4
        refine Or.inl ⟨rfl, h4, ?_, H.f1 (f2.trans f4), fr_fC (f2.trans f4)⟩
        show (sh_X8_copyFrom 1 0 hi).bind (fun h5 => (sh_X8_passMinutes G 1 a h5).bind fun h7 => some (Sum.inl (sh_at (wa 1 12) 80 c h7, h7))) = _
        rw [e2, bs, e4, bs]
        have e9 : sh_at (wa 1 12) 80 c h4 = p_passN (an_ a) A.w (244 + an_ c) := by
          rw [t3, at_n t2 (by decide), vr_spill 1 h4 t2, v4, ← t3]
        rw [e9]
theorem Cf_stepsAtPace (hG : 501 < G) (hK : K ≤ 200000) (hO : Ok_ K A) (H : RC A hi x) : Ck_ A (sh_L_stepsAtPace G c a hi x) hi x (lt2_ A (pc_ c && mn_ a)) (p_passN (an_ a) (upd A.w 3 c) 12) := by
  refine CX_ H ?_
  unfold sh_X9_stepsAtPace lt2_
  rw [rq_ H, qP_, qF_]
  cases e : A.ld with
  | false => exact Or.inr ⟨0, rfl, (show (1 : Int32) ≠ 0 by decide), rfl, rfl⟩
  | true =>
    cases eo : pc_ c with
    | false => exact Or.inr ⟨2, rfl, (show (2 : Int32) ≠ 0 by decide), rfl, rfl⟩
    | true =>
      cases em : mn_ a with
      | false => exact Or.inr ⟨2, rfl, (show (2 : Int32) ≠ 0 by decide), rfl, rfl⟩
      | true =>
        have hI := hO.ib e
        obtain ⟨g1, g2⟩ := mn_n em
        obtain ⟨t1, t2⟩ := pc_n eo
        obtain ⟨h1, e1, f1⟩ := C_fore (G := G) (n := an_ a) (p := an_ c) hG (by omega) (by omega) g1 t1 hI (H.vw e)
        rw [← g2, ← t2] at e1
        refine Or.inl ⟨rfl, h1, ?_, H.f1 f1, fr_fC f1⟩
        show (sh_X9_foretellSteps G c a hi).bind (fun v4 => some (Sum.inl (v4.1, v4.2))) = _
        rw [e1, bs]
end PR
