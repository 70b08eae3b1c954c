/-! predictions: both sides -/
section PR
variable {A A1 : As_} {hi h h1 : HI} {x : AX} {K G : Nat} {a c : Int32} {w : Wd}
theorem C2_ {Q : Option (Unit ⊕ Nat)} {T S : Option ((Int32 × HI) ⊕ Nat)} {R : Nat → Option (Int32 × HI × AX)} {z : Nat} {v : Int32} {ok : Bool} (H : RC A hi x) (hS : S = bT (sh_X9_requireSetup hi) fun _ => bT Q fun _ => T) (hR0 : R 0 = some (1, hi, xc x)) (hRz : R z = some (2, hi, xc x)) (hQ : A.ld = true → Q = some (if ok = true then Sum.inl () else Sum.inr z)) (hT : A.ld = true → ok = true → ∃ h1, T = some (Sum.inl (v, h1)) ∧ fr_ 1 hi h1) : Ck_ A (bW S (fun v2 => some ((0 : Int32), v2.2, xl x v2.1.toInt64)) R) hi x (lt2_ A ok) v := by
  refine CX_ H ?_
  rw [hS, rq_ H]
  unfold lt2_
  cases e : A.ld with
  | false => exact Or.inr ⟨0, rfl, (show (1 : Int32) ≠ 0 by decide), rfl, hR0⟩
  | true =>
    rw [hQ e]
    cases eo : ok with
    | false => exact Or.inr ⟨z, rfl, (show (2 : Int32) ≠ 0 by decide), rfl, hRz⟩
    | true =>
      obtain ⟨h1, e1, f1⟩ := hT e eo
      exact Or.inl ⟨rfl, h1, e1, H.f1 f1, fr_fC f1⟩
theorem M2_ {Q S : Option (Int32 × HI)} {T : HI → Option (Int32 × HI)} {v : Int32} {ok : Bool} (H : RM A hi) (hS : S = Q.bind fun v1 => if v1.1 = 0 then some ((0 : Int32), v1.2) else T v1.2) (hQ : Q = some (b2 (A.ld && ok), am_u hi (za 195) 0 (lt2_ A ok))) (hT : A.ld = true → ok = true → ∀ h, mw_ h = A.w → ∃ h1, T h = some (v, h1) ∧ tb_ h h1) : Mk_ A S hi (lt2_ A ok) v := by
  rw [hS, hQ, bs]
  unfold lt2_
  cases e : A.ld with
  | false => exact Mk_.no (c := 1) (by decide) H
  | true =>
    cases eo : ok with
    | false => exact Mk_.no (c := 2) (by decide) H
    | true =>
      obtain ⟨h1, e1, t1⟩ := hT e eo (am_u hi (za 195) 0 0) (mw_u0.trans (H.mw e))
      show Mk_ A (T (am_u hi (za 195) 0 0)) hi 0 v
      rw [e1]
      exact ⟨v, h1, rfl, t1.c0.trans au_, fun _ => rfl, t1.rm H.u0, ((fM_.refl hi).u0).trans t1.fm⟩
theorem M2n {Q S : Option (Int32 × HI)} {T : HI → Option (Int32 × HI)} {v : Int32} {ok : Bool} (H : RM A hi) (hS : S = Q.bind fun v1 => if v1.1 ≠ 0 then T v1.2 else some ((0 : Int32), v1.2)) (hQ : Q = some (b2 (A.ld && ok), am_u hi (za 195) 0 (lt2_ A ok))) (hT : A.ld = true → ok = true → ∀ h, mw_ h = A.w → ∃ h1, T h = some (v, h1) ∧ tb_ h h1) : Mk_ A S hi (lt2_ A ok) v := by
  refine M2_ (T := T) H ?_ hQ hT
  rw [hS]
  congr 1
  funext v1
  by_cases q : v1.1 = 0
  · rw [if_pos q, if_neg (fun z => z q)]
  · rw [if_neg q, if_pos q]
theorem i3_ {B e : Nat} (h : ib_ K B e w) : w 3 = nI (nn w 3) ∧ 1 ≤ nn w 3 ∧ nn w 3 ≤ 5 := h.2.2.2.1
theorem upd_id {k : Nat} : upd w k (w k) = w := by
  funext j
  rw [upd_e]
  by_cases q : j = k
  · rw [if_pos q, q]
  · rw [if_neg q]
theorem Cf_stepsAfter (hG : 501 < G) (hK : K ≤ 200000) (hO : Ok_ K A) (H : RC A hi x) : Ck_ A (sh_L_stepsAfter G a hi x) hi x (lt2_ A (mn_ a)) (p_passN (an_ a) A.w 12) := C2_ (z := 2) H rfl rfl rfl (fun _ => qF_) (fun e eo => by
  have hI := hO.ib e
  obtain ⟨g1, g2⟩ := mn_n eo
  have h3 := i3_ hI
  obtain ⟨h1, e1, f1⟩ := C_fore (G := G) (n := an_ a) (p := nn A.w 3) hG (by omega) (by omega) g1 h3.2 hI (H.vw e)
  rw [← h3.1, upd_id, ← g2] at e1
  rw [vr_3 0 hi, H.vw e, e1, bs]
  exact ⟨h1, rfl, f1⟩)
theorem Mf_stepsAfter (hG : 501 < G) (hK : K ≤ 200000) (hO : Ok_ K A) (H : RM A hi) : Mk_ A (sh_X10_stepsAfter G a hi) hi (lt2_ A (mn_ a)) (p_passN (an_ a) A.w 12) := by
  unfold sh_X10_stepsAfter
  rw [M_am, bs]
  have e0 : sh_X10_mayTwo (hi (za 195) 6) (b2 (mn_ a)) hi = some (b2 (A.ld && mn_ a), am_u hi (za 195) 0 (lt2_ A (mn_ a))) := by
    rw [H.1.2.2.2.2.1, M_mayTwo]
    rfl
  refine M2_ (T := fun h => (sh_X10_later G (12 : Int32) a h).bind fun v3 => some (v3.1, v3.2)) H rfl e0 (fun e eo h hw => ?_)
  have hI := hO.ib e
  obtain ⟨g1, g2⟩ := mn_n eo
  obtain ⟨h1, e1, t1⟩ := M_later (G := G) (n := an_ a) (k := 12) hG (by omega) (by omega) g1 (by omega) hI hw
  rw [← g2] at e1
  exact ⟨h1, by show (sh_X10_later G (nI 12) a h).bind _ = _; rw [e1, bs], t1⟩
theorem Cf_walkerTileAfter (hG : 501 < G) (hK : K ≤ 200000) (hO : Ok_ K A) (H : RC A hi x) : Ck_ A (sh_L_walkerTileAfter G a hi x) hi x (lt2_ A (mn_ a)) (p_passN (an_ a) A.w 8) := C2_ (z := 2) H rfl rfl rfl (fun _ => qF_) (fun e eo => by
  have hI := hO.ib e
  obtain ⟨g1, g2⟩ := mn_n eo
  obtain ⟨h2, e2, v2, f2⟩ := C_draft hI (H.vw e)
  obtain ⟨h4, e4, v4, f4⟩ := C_mins (G := G) (n := an_ a) hG (by omega) (by omega) g1 hI v2
  rw [← g2] at e4
  rw [e2, bs, e4, bs, vr_8 1 h4, v4]
  exact ⟨h4, rfl, f2.trans f4⟩)
theorem Mf_walkerTileAfter (hG : 501 < G) (hK : K ≤ 200000) (hO : Ok_ K A) (H : RM A hi) : Mk_ A (sh_X10_walkerTileAfter G a hi) hi (lt2_ A (mn_ a)) (p_passN (an_ a) A.w 8) := by
  unfold sh_X10_walkerTileAfter
  rw [M_am, bs]
  have e0 : sh_X10_mayTwo (hi (za 195) 6) (b2 (mn_ a)) hi = some (b2 (A.ld && mn_ a), am_u hi (za 195) 0 (lt2_ A (mn_ a))) := by
    rw [H.1.2.2.2.2.1, M_mayTwo]
    rfl
  refine M2_ (T := fun h => (sh_X10_later G (8 : Int32) a h).bind fun v3 => some (v3.1, v3.2)) H rfl e0 (fun e eo h hw => ?_)
  have hI := hO.ib e
  obtain ⟨g1, g2⟩ := mn_n eo
  obtain ⟨h1, e1, t1⟩ := M_later (G := G) (n := an_ a) (k := 8) hG (by omega) (by omega) g1 (by omega) hI hw
  rw [← g2] at e1
  exact ⟨h1, by show (sh_X10_later G (nI 8) a h).bind _ = _; rw [e1, bs], t1⟩
def lt3_ (A : As_) (o1 o2 : Bool) : Int32 := if A.ld = true then (if o1 = true then (if o2 = true then 0 else 3) else 2) else 1
theorem Cf_spillTimeAfter (hG : 501 < G) (hK : K ≤ 200000) (hO : Ok_ K A) (H : RC A hi x) : Ck_ A (sh_L_spillTimeAfter G c a hi x) hi x (lt3_ A (tk_ c (p_rc A.w)) (mn_ a)) (p_passN (an_ a) A.w (244 + an_ c)) := by
  refine CX_ H ?_
  unfold sh_X9_spillTimeAfter lt3_
  rw [rq_ H]
  cases e : A.ld with
  | false => exact Or.inr ⟨0, rfl, (show (1 : Int32) ≠ 0 by decide), rfl, rfl⟩
  | true =>
    rw [qT_ hO H e, qF_]
    cases eo : tk_ c (p_rc A.w) with
    | false => exact Or.inr ⟨1, rfl, (show (2 : Int32) ≠ 0 by decide), rfl, rfl⟩
    | true =>
      cases em : mn_ a with
      | false => exact Or.inr ⟨2, rfl, (show (3 : Int32) ≠ 0 by decide), rfl, rfl⟩
      | true =>
        have hI := hO.ib e
        obtain ⟨g1, g2⟩ := mn_n em
        obtain ⟨t1, t2, t3⟩ := tkT hO e eo
        obtain ⟨h2, e2, v2, f2⟩ := C_draft hI (H.vw e)
        obtain ⟨h4, e4, v4, f4⟩ := C_mins (G := G) (n := an_ a) hG (by omega) (by omega) g1 hI v2
        rw [← g2] at e4
        refine Or.inl ⟨rfl, h4, ?_, H.f1 (f2.trans f4), fr_fC (f2.trans f4)⟩
        show (sh_X8_copyFrom 1 0 hi).bind (fun h5 => (sh_X8_passMinutes G 1 a h5).bind fun h7 => some (Sum.inl (sh_at (wa 1 12) 80 c h7, h7))) = _
        rw [e2, bs, e4, bs]
        have e9 : sh_at (wa 1 12) 80 c h4 = p_passN (an_ a) A.w (244 + an_ c) := by
          rw [t3, at_n t2 (by decide), vr_spill 1 h4 t2, v4, ← t3]
        rw [e9]
theorem Mf_spillTimeAfter (hG : 501 < G) (hK : K ≤ 200000) (hO : Ok_ K A) (H : RM A hi) : Mk_ A (sh_X10_spillTimeAfter G c a hi) hi (lt3_ A (tk_ c (p_rc A.w)) (mn_ a)) (p_passN (an_ a) A.w (244 + an_ c)) := by
  unfold sh_X10_spillTimeAfter
  rw [M_isTile hO H, bs, M_am, bs, H.1.2.2.2.2.1, M_may, bs]
  unfold lt3_
  cases e : A.ld with
  | false => exact Mk_.no (c := 1) (by decide) H
  | true =>
    cases eo : tk_ c (p_rc A.w) with
    | false => exact Mk_.no (c := 2) (by decide) H
    | true =>
      cases em : mn_ a with
      | false => exact Mk_.no (c := 3) (by decide) H
      | true =>
        have hI := hO.ib e
        obtain ⟨g1, g2⟩ := mn_n em
        obtain ⟨t1, t2, t3⟩ := tkT hO e eo
        obtain ⟨h1, e1, tb⟩ := M_later (G := G) (n := an_ a) (k := 244 + an_ c) hG (by omega) (by omega) g1 (by omega) hI (mw_u0.trans (H.mw e))
        have e2 : (244 : Int32) + c = nI (244 + an_ c) := (congrArg (nI 244 + ·) t3).trans (nI_add 244 (an_ c))
        rw [← g2, ← e2] at e1
        show Mk_ A ((sh_X10_later G ((244 : Int32) + c) a (am_u hi (za 195) 0 0)).bind fun v4 => some (v4.1, v4.2)) hi 0 _
        rw [e1, bs]
        exact ⟨_, h1, rfl, tb.c0.trans au_, fun _ => rfl, tb.rm H.u0, ((fM_.refl hi).u0).trans tb.fm⟩
theorem Cf_stepsAtPace (hG : 501 < G) (hK : K ≤ 200000) (hO : Ok_ K A) (H : RC A hi x) : Ck_ A (sh_L_stepsAtPace G c a hi x) hi x (lt2_ A (pc_ c && mn_ a)) (p_passN (an_ a) (upd A.w 3 c) 12) := by
  refine CX_ H ?_
  unfold sh_X9_stepsAtPace lt2_
  rw [rq_ H, qP_, qF_]
  cases e : A.ld with
  | false => exact Or.inr ⟨0, rfl, (show (1 : Int32) ≠ 0 by decide), rfl, rfl⟩
  | true =>
    cases eo : pc_ c with
    | false => exact Or.inr ⟨2, rfl, (show (2 : Int32) ≠ 0 by decide), rfl, rfl⟩
    | true =>
      cases em : mn_ a with
      | false => exact Or.inr ⟨2, rfl, (show (2 : Int32) ≠ 0 by decide), rfl, rfl⟩
      | true =>
        have hI := hO.ib e
        obtain ⟨g1, g2⟩ := mn_n em
        obtain ⟨t1, t2⟩ := pc_n eo
        obtain ⟨h1, e1, f1⟩ := C_fore (G := G) (n := an_ a) (p := an_ c) hG (by omega) (by omega) g1 t1 hI (H.vw e)
        rw [← g2, ← t2] at e1
        refine Or.inl ⟨rfl, h1, ?_, H.f1 f1, fr_fC f1⟩
        show (sh_X9_foretellSteps G c a hi).bind (fun v4 => some (Sum.inl (v4.1, v4.2))) = _
        rw [e1, bs]
theorem Mf_stepsAtPace (hG : 501 < G) (hK : K ≤ 200000) (hO : Ok_ K A) (H : RM A hi) : Mk_ A (sh_X10_stepsAtPace G c a hi) hi (lt2_ A (pc_ c && mn_ a)) (p_passN (an_ a) (upd A.w 3 c) 12) := by
  have e9 : sh_X10_stepsAtPace G c a hi = sh_X10_stepsAtPace_24 G c a (b2 (pc_ c && mn_ a)) (hi (za 195) 6) hi := by
    unfold sh_X10_stepsAtPace sh_X10_stepsAtPace_23
    rw [M_ip, bs, eq_of]
    cases pc_ c with
    | false => rfl
    | true =>
      rw [if_pos rfl, M_am, bs, eq_of]
      cases mn_ a <;> rfl
  rw [e9]
  unfold sh_X10_stepsAtPace_24
  have e0 : sh_X10_mayTwo (hi (za 195) 6) (b2 (pc_ c && mn_ a)) hi = some (b2 (A.ld && (pc_ c && mn_ a)), am_u hi (za 195) 0 (lt2_ A (pc_ c && mn_ a))) := by
    rw [H.1.2.2.2.2.1, M_mayTwo]
    rfl
  refine M2_ (T := fun h => (sh_X10_stepsWith G (3 : Int32) c a h).bind fun v3 => some (v3.1, v3.2)) H rfl e0 (fun e eo h hw => ?_)
  obtain ⟨eo1, eo2⟩ := Bool.and_eq_true_iff.mp eo
  have hI := hO.ib e
  obtain ⟨g1, g2⟩ := mn_n eo2
  obtain ⟨t1, t2⟩ := pc_n eo1
  obtain ⟨h1, e1, tb⟩ := M_with (K := K) (B := 5 * K) (G := G) (n := an_ a) (k := 3) (v := c) (h := h) (w := A.w) hG (by omega) (by omega) g1 (by omega) (by rw [t2]; exact hI.k3b t1) hw
  rw [← g2] at e1
  exact ⟨h1, by show (sh_X10_stepsWith G (nI 3) c a h).bind _ = _; rw [e1, bs], tb⟩
end PR
