/-! bowls, mopping, undo, slots: both sides -/
section CH
variable {A B : As_} {hi h h1 : HI} {x : AX} {K G : Nat} {a c : Int32} {w : Wd}
def B_bowl (A : As_) (a : Int32) : As_ := A.pu.sw (upd A.w (84 + an_ a) 1)
def B_mop (A : As_) (a : Int32) : As_ := A.pu.sw (upd A.w (244 + an_ a) 0)
theorem mk80b {t B e : Nat} (h : ib_ K B e w) (ht : t < p_rc w) : p_mk (upd w (84 + t) 1) 84 80 = p_mk (upd w (84 + t) 1) 84 (p_rc w) := by
  have h80 := rc80 h
  have e1 : 80 = p_rc w + (80 - p_rc w) := by omega
  rw [e1]
  exact p_mk_z (n := p_rc w) _ (fun k a b => by rw [upd_ne (by omega)]; exact (h.2.1.2.2.2 k a (by omega)).1)
theorem sum_mk {o : Nat} : ∀ n, (∀ k, k < n → w (o + k) = 0 ∨ w (o + k) = 1) → p_sum w o n = nI (p_mk w o n)
  | 0, _ => rfl
  | n + 1, h => by
    show p_sum w o n + w (o + n) = nI (p_mk w o n + (if w (o + n) = 0 then 0 else 1))
    rw [sum_mk n (fun k hk => h k (by omega))]
    rcases h n (by omega) with q | q
    · rw [q, if_pos rfl, Int32.add_zero, Nat.add_zero]
    · rw [q, if_neg (by decide), nI_1]
theorem Cf_placeBowl (hO : Ok_ K A) (H : RC A hi x) : Ck_ (ch_ (lt3_ A (tk_ a (p_rc A.w)) (p_free A.w (an_ a))) A (B_bowl A a)) (sh_L_placeBowl a hi x) hi x (lt3_ A (tk_ a (p_rc A.w)) (p_free A.w (an_ a))) (nI (p_mk (upd A.w (84 + an_ a) 1) 84 (p_rc A.w))) := by
  refine CH_ H ?_
  unfold sh_X9_placeBowl lt3_
  rw [rq_ H]
  cases e : A.ld with
  | false => exact Or.inr ⟨0, rfl, (show (1 : Int32) ≠ 0 by decide), rfl⟩
  | true =>
    rw [qT_ hO H e]
    cases eo : tk_ a (p_rc A.w) with
    | false => exact Or.inr ⟨1, rfl, (show (2 : Int32) ≠ 0 by decide), rfl⟩
    | true =>
      have hI := hO.ib e
      obtain ⟨t1, t2, t3⟩ := tkT hO e eo
      have er : sh_X8_hasRoomForBowl 0 a hi = b2 (p_free A.w (an_ a)) := by
        have q := C_room (i := 0) (hi := hi) t2
        rw [← t3, H.vw e] at q
        exact q
      rw [er, ne_of]
      cases ef : p_free A.w (an_ a) with
      | false => exact Or.inr ⟨2, rfl, (show (3 : Int32) ≠ 0 by decide), rfl⟩
      | true =>
        obtain ⟨h3, e3, H3, v3, f3⟩ := C_keep hO e H
        have f5 : fr_ 0 h3 (am_u h3 (wa 0 13) (an_ a) 1) := (fr_.refl 0 h3).u
        have v5 : vw_ 0 (am_u h3 (wa 0 13) (an_ a) 1) = upd A.w (84 + an_ a) 1 := by rw [uw_bowl t2, v3]
        refine Or.inl ⟨rfl, _, ?_, H3.w0 f5 v5, f3.trans (fr_fC f5)⟩
        show ((sh_X1_keep 0 hi).bind fun h4 => (some (sh_put (wa 0 13) 80 a (1 : Int32) h4)).bind fun h5 => some (Sum.inl (sh_marked (wa 0 13) 80 h5, h5))) = _
        have ep : sh_put (wa 0 13) 80 a 1 h3 = am_u h3 (wa 0 13) (an_ a) 1 := by
          have := put_n (a := wa 0 13) (n := 80) (t := an_ a) (v := 1) (hi := h3) t2 (by decide)
          rw [← t3] at this
          exact this
        rw [e3, bs, ep, bs, ← mk80b hI t1]
        have em : sh_marked (wa 0 13) 80 (am_u h3 (wa 0 13) (an_ a) 1) = nI (p_mk (upd A.w (84 + an_ a) 1) 84 80) := by
          refine marked_e 80 (fun k hk => ?_)
          rw [vr_bowl 0 (am_u h3 (wa 0 13) (an_ a) 1) hk, v5]
          refine ⟨rfl, ?_⟩
          by_cases q : 84 + k = 84 + an_ a
          · rw [q, upd_eq]; decide
          · rw [upd_ne q]; exact (le0_ (b := 1) (by omega) (hI.2.1.1 k hk)).1
        rw [em]
theorem M_bw {B e t : Nat} {h : HI} (hw : mw_ h = upd w (84 + t) 1) (hI : ib_ K B e w) (ht : t < p_rc w) : ∀ f k F, k + f = p_rc w → f < F → sh_X10_bowls_4 G h F (p_sum (upd w (84 + t) 1) 84 k) (nI k) = some (p_sum (upd w (84 + t) 1) 84 (p_rc w)) := fun f => by
  have h80 := rc80 hI
  have hs : st_ (upd w (84 + t) 1) := hI.1.u (by unfold sk; omega)
  have er : p_rc (upd w (84 + t) 1) = p_rc w := by
    unfold p_rc
    rw [nn_cg (upd_ne (by omega)), nn_cg (upd_ne (by omega))]
  induction f with
  | zero =>
    intro k F hk hF
    obtain ⟨F, rfl⟩ : ∃ F2, F = F2 + 1 := ⟨F - 1, by omega⟩
    show sh_X10_bowls_4_b G h (sh_X10_bowls_4 G h F) (p_sum (upd w (84 + t) 1) 84 k) (nI k) = _
    unfold sh_X10_bowls_4_b
    rw [M_tiles (by rw [hw]; exact hs), bs, hw, er, if_pos (nI_le (by omega) (by omega)), show k = p_rc w by omega]
  | succ f ih =>
    intro k F hk hF
    obtain ⟨F, rfl⟩ : ∃ F2, F = F2 + 1 := ⟨F - 1, by omega⟩
    show sh_X10_bowls_4_b G h (sh_X10_bowls_4 G h F) (p_sum (upd w (84 + t) 1) 84 k) (nI k) = _
    unfold sh_X10_bowls_4_b
    rw [M_tiles (by rw [hw]; exact hs), bs, hw, er, if_neg (nI_ge (by omega) (by omega)), A84, if_pos (ok4 (by omega)), nI_clamp (by omega), M_r h (k := 84 + k) (by omega), hw, nI_1]
    exact ih (k + 1) F (by omega) (by omega)
theorem M_q3 {o1 o2 : Bool} (H : RM A hi) : sh_X10_may (hi (za 195) 6) (b2 o1) (b2 o2) hi = some (b2 (A.ld && o1 && o2), am_u hi (za 195) 0 (lt3_ A o1 o2)) := by
  rw [H.1.2.2.2.2.1, M_may]
  rfl
theorem Mf_placeBowl (hG : 3000 < G) (hO : Ok_ K A) (H : RM A hi) : Mk_ (ch_ (lt3_ A (tk_ a (p_rc A.w)) (p_free A.w (an_ a))) A (B_bowl A a)) (sh_X10_placeBowl G a hi) hi (lt3_ A (tk_ a (p_rc A.w)) (p_free A.w (an_ a))) (nI (p_mk (upd A.w (84 + an_ a) 1) 84 (p_rc A.w))) := by
  refine MH_ H ?_
  unfold sh_X10_placeBowl sh_X10_placeBowl_28
  rw [M_isTile hO H, bs]
  cases e : A.ld with
  | false =>
    show _ ∨ (_ ∧ sh_X10_placeBowl_29 G a (b2 false) (b2 false) (hi (za 195) 6) hi = _)
    unfold sh_X10_placeBowl_29
    rw [M_q3 H, bs]
    unfold lt3_
    rw [e]
    exact Or.inr ⟨(show (1 : Int32) ≠ 0 by decide), rfl⟩
  | true =>
    cases eo : tk_ a (p_rc A.w) with
    | false =>
      show _ ∨ (_ ∧ sh_X10_placeBowl_29 G a (b2 false) (b2 false) (hi (za 195) 6) hi = _)
      unfold sh_X10_placeBowl_29
      rw [M_q3 H, bs]
      unfold lt3_
      rw [e]
      exact Or.inr ⟨(show (2 : Int32) ≠ 0 by decide), rfl⟩
    | true =>
      have hI := hO.ib e
      obtain ⟨t1, t2, t3⟩ := tkT hO e eo
      have er : sh_X10_isEmpty a hi = some (b2 (p_free A.w (an_ a))) := by
        have q := M_empty (hi := hi) t2
        rw [← t3, H.mw e] at q
        exact q
      have em : (if b2 (true && true) = 0 then sh_X10_placeBowl_29 G a (0 : Int32) (b2 (true && true)) (hi (za 195) 6) hi else (sh_X10_isEmpty a hi).bind fun v7 => if v7 = 0 then sh_X10_placeBowl_29 G a (0 : Int32) (b2 (true && true)) (hi (za 195) 6) hi else sh_X10_placeBowl_29 G a (1 : Int32) (b2 (true && true)) (hi (za 195) 6) hi) = sh_X10_placeBowl_29 G a (b2 (p_free A.w (an_ a))) (b2 true) (hi (za 195) 6) hi := by
        rw [er, bs]
        cases p_free A.w (an_ a) <;> rfl
      rw [em]
      unfold sh_X10_placeBowl_29
      rw [M_q3 H, bs]
      unfold lt3_
      rw [e]
      cases ef : p_free A.w (an_ a) with
      | false => exact Or.inr ⟨(show (3 : Int32) ≠ 0 by decide), rfl⟩
      | true =>
        obtain ⟨h3, e3, H3, v3, f3, c3⟩ := M_rem0 hG hO e H
        have f5 : fm_ h3 (am_u h3 (za 196) (84 + an_ a) 1) := (fm_.refl h3).u
        have v5 : mw_ (am_u h3 (za 196) (84 + an_ a) 1) = upd A.w (84 + an_ a) 1 := by rw [M_u (by omega), v3]
        have e84 : (84 : Int32) + a = nI (84 + an_ a) := (congrArg (nI 84 + ·) t3).trans (nI_add 84 (an_ a))
        refine Or.inl ⟨rfl, _, ?_, (fm_c0 f5).trans c3, H3.w0 f5 v5, f3.trans (fm_fM f5)⟩
        show ((sh_X10_remembers G (am_u hi (za 195) 0 0)).bind fun h4 => if 0 ≤ (84 : Int32) + a ∧ ((84 : Int32) + a).toNatClampNeg < 424 then (some (am_u h4 (za 196) ((84 : Int32) + a).toNatClampNeg (1 : Int32))).bind fun h5 => (sh_X10_bowls G h5).bind fun v6 => some (v6, h5) else none) = _
        have eb : sh_X10_bowls G (am_u h3 (za 196) (84 + an_ a) 1) = some (nI (p_mk (upd A.w (84 + an_ a) 1) 84 (p_rc A.w))) := by
          have h80 := rc80 hI
          have q := M_bw (G := G) v5 hI t1 (p_rc A.w) 0 G (by omega) (by omega)
          rw [← sum_mk (p_rc A.w) (fun k hk => by
            by_cases q : 84 + k = 84 + an_ a
            · rw [q, upd_eq]; exact Or.inr rfl
            · rw [upd_ne q]; exact in01 (hI.2.1.1 k (by omega)))]
          exact q
        rw [e3, bs, e84, if_pos (ok4 (by omega)), nI_clamp (by omega), bs, eb, bs]
theorem Cf_mop (hO : Ok_ K A) (H : RC A hi x) : Ck_ (ch_ (lt3_ A (tk_ a (p_rc A.w)) (decide (A.w (244 + an_ a) ≠ 0))) A (B_mop A a)) (sh_L_mop a hi x) hi x (lt3_ A (tk_ a (p_rc A.w)) (decide (A.w (244 + an_ a) ≠ 0))) (A.w (244 + an_ a)) := by
  refine CH_ H ?_
  unfold sh_X9_mop lt3_
  rw [rq_ H]
  cases e : A.ld with
  | false => exact Or.inr ⟨0, rfl, (show (1 : Int32) ≠ 0 by decide), rfl⟩
  | true =>
    rw [qT_ hO H e]
    cases eo : tk_ a (p_rc A.w) with
    | false => exact Or.inr ⟨1, rfl, (show (2 : Int32) ≠ 0 by decide), rfl⟩
    | true =>
      obtain ⟨t1, t2, t3⟩ := tkT hO e eo
      have er : sh_at (wa 0 12) 80 a hi = A.w (244 + an_ a) := by
        rw [t3, at_n t2 (by decide), vr_spill 0 hi t2, H.vw e, ← t3]
      rw [er]
      by_cases ef : A.w (244 + an_ a) = 0
      · rw [decide_eq_false (fun q => q ef), if_neg (show ¬ A.w (244 + an_ a) ≠ 0 from fun q => q ef)]
        exact Or.inr ⟨2, rfl, (show (3 : Int32) ≠ 0 by decide), rfl⟩
      · rw [decide_eq_true ef, if_pos ef]
        obtain ⟨h3, e3, H3, v3, f3⟩ := C_keep hO e H
        have f5 : fr_ 0 h3 (am_u h3 (wa 0 12) (an_ a) 0) := (fr_.refl 0 h3).u
        refine Or.inl ⟨rfl, _, ?_, H3.w0 f5 (by rw [uw_spill t2, v3]), f3.trans (fr_fC f5)⟩
        show ((sh_X1_keep 0 hi).bind fun h4 => (some (sh_put (wa 0 12) 80 a (0 : Int32) h4)).bind fun h5 => some (Sum.inl (A.w (244 + an_ a), h5))) = _
        have ep : sh_put (wa 0 12) 80 a 0 h3 = am_u h3 (wa 0 12) (an_ a) 0 := by
          have := put_n (a := wa 0 12) (n := 80) (t := an_ a) (v := 0) (hi := h3) t2 (by decide)
          rw [← t3] at this
          exact this
        rw [e3, bs, ep, bs]
theorem Mf_mop (hG : 3000 < G) (hO : Ok_ K A) (H : RM A hi) : Mk_ (ch_ (lt3_ A (tk_ a (p_rc A.w)) (decide (A.w (244 + an_ a) ≠ 0))) A (B_mop A a)) (sh_X10_mop G a hi) hi (lt3_ A (tk_ a (p_rc A.w)) (decide (A.w (244 + an_ a) ≠ 0))) (A.w (244 + an_ a)) := by
  refine MH_ H ?_
  unfold sh_X10_mop sh_X10_mop_28
  rw [M_isTile hO H, bs]
  cases e : A.ld with
  | false =>
    show _ ∨ (_ ∧ sh_X10_mop_29 G a (b2 false) (b2 false) (hi (za 195) 6) hi = _)
    unfold sh_X10_mop_29
    rw [M_q3 H, bs]
    unfold lt3_
    rw [e]
    exact Or.inr ⟨(show (1 : Int32) ≠ 0 by decide), rfl⟩
  | true =>
    cases eo : tk_ a (p_rc A.w) with
    | false =>
      show _ ∨ (_ ∧ sh_X10_mop_29 G a (b2 false) (b2 false) (hi (za 195) 6) hi = _)
      unfold sh_X10_mop_29
      rw [M_q3 H, bs]
      unfold lt3_
      rw [e]
      exact Or.inr ⟨(show (2 : Int32) ≠ 0 by decide), rfl⟩
    | true =>
      obtain ⟨t1, t2, t3⟩ := tkT hO e eo
      have er : sh_X10_isDry a hi = some (b2 (decide (A.w (244 + an_ a) = 0))) := by
        have q := M_dry (hi := hi) t2
        rw [← t3, H.mw e] at q
        exact q
      have em : (if b2 (true && true) = 0 then sh_X10_mop_29 G a (0 : Int32) (b2 (true && true)) (hi (za 195) 6) hi else (sh_X10_isDry a hi).bind fun v6 => if v6 ≠ 0 then sh_X10_mop_29 G a (0 : Int32) (b2 (true && true)) (hi (za 195) 6) hi else sh_X10_mop_29 G a (1 : Int32) (b2 (true && true)) (hi (za 195) 6) hi) = sh_X10_mop_29 G a (b2 (decide (A.w (244 + an_ a) ≠ 0))) (b2 true) (hi (za 195) 6) hi := by
        rw [er, bs]
        by_cases ef : A.w (244 + an_ a) = 0
        · rw [decide_eq_true ef, decide_eq_false (fun q => q ef)]; rfl
        · rw [decide_eq_false ef, decide_eq_true ef]; rfl
      rw [em]
      unfold sh_X10_mop_29
      rw [M_q3 H, bs]
      unfold lt3_
      rw [e]
      by_cases ef : A.w (244 + an_ a) = 0
      · rw [decide_eq_false (fun q => q ef)]
        exact Or.inr ⟨(show (3 : Int32) ≠ 0 by decide), rfl⟩
      · rw [decide_eq_true ef]
        obtain ⟨h3, e3, H3, v3, f3, c3⟩ := M_rem0 hG hO e H
        have f5 : fm_ h3 (am_u h3 (za 196) (244 + an_ a) 0) := (fm_.refl h3).u
        have e84 : (244 : Int32) + a = nI (244 + an_ a) := (congrArg (nI 244 + ·) t3).trans (nI_add 244 (an_ a))
        refine Or.inl ⟨rfl, _, ?_, (fm_c0 f5).trans c3, H3.w0 f5 (by rw [M_u (by omega), v3]), f3.trans (fm_fM f5)⟩
        show ((sh_X10_remembers G (am_u hi (za 195) 0 0)).bind fun h4 => if 0 ≤ (244 : Int32) + a ∧ ((244 : Int32) + a).toNatClampNeg < 424 then if 0 ≤ (244 : Int32) + a ∧ ((244 : Int32) + a).toNatClampNeg < 424 then (some (am_u h4 (za 196) ((244 : Int32) + a).toNatClampNeg (0 : Int32))).bind fun h5 => some (h4 (za 196) ((244 : Int32) + a).toNatClampNeg, h5) else none else none) = _
        rw [e3, bs, e84, if_pos (ok4 (by omega)), if_pos (ok4 (by omega)), nI_clamp (by omega), bs, M_r h3 (k := 244 + an_ a) (by omega), v3]
/-! undo -/
def B_undo (A : As_) : As_ := match A.ps with
  | [] => A
  | v :: l => ((A.ld, v), (l, A.sv), A.2.2)
def un_ (A : As_) : Int32 := if A.ps = [] then 1 else 0
theorem B_undo_c {v : Wd} {l : List Wd} (e : A.ps = v :: l) : B_undo A = ((A.ld, v), (l, A.sv), A.2.2) := by
  unfold B_undo
  rw [e]
theorem Cf_undo (hO : Ok_ K A) (H : RC A hi x) : Ck_ (ch_ (un_ A) A (B_undo A)) (sh_L_undo hi x) hi x (un_ A) (nI (A.ps.length - 1)) := by
  have H0 := H
  obtain ⟨⟨a1, a2, a3, a4, a5, a6⟩, ⟨p, b1, b2', b3, b4⟩, c, d1, d2, d3, d4⟩ := H
  have hl := hO.2.1
  unfold sh_L_undo sh_X9_undo sh_X1_takeBack
  have e8 : nI p + 8 - 1 = nI (p + 7) := by rw [show (8 : Int32) = nI 8 from rfl, nI_add]; exact S1_ (n := p + 8) (by omega)
  rw [b2', e8, show (8 : Int32) = nI 8 from rfl, pk_rem (by omega) (by omega) (by omega), wAt (Nat.mod_lt _ (by decide)), b3]
  cases ep : A.ps with
  | nil =>
    have eu : un_ A = 1 := if_pos ep
    rw [eu]
    exact Ck_.no (by decide) H0
  | cons v l =>
    have eu : un_ A = 0 := if_neg (by rw [ep]; exact fun q => by cases q)
    have elen : A.ps.length = l.length + 1 := by rw [ep]; rfl
    rw [eu]
    have hI : ib_ K (5 * K) 0 v := hO.2.2.2.1 v (by rw [ep]; exact List.mem_cons_self)
    have hv : vw_ (Fin.ofNat 12 (2 + (p + 7) % 8)) hi = v := b4 0 v (by rw [ep]; rfl)
    obtain ⟨h3, e3, v3, f3⟩ := C_copyV (i := 0) (j := Fin.ofNat 12 (2 + (p + 7) % 8)) (h0 := hi) (fun q => by
      have := (fz12 (m := 0) (n := 2 + (p + 7) % 8) (by omega) (by omega)).mp q
      omega) (by rw [hv]; exact in01 hI.2.2.1.1.2.2.2.1)
    rw [hv] at v3
    have z : ∀ n k, h3 (za n) k = hi (za n) k := fun n k => f3 _ _ (fun j q => by cases q)
    generalize hh : am_u (am_u h3 (za 41) 3 (nI ((p + 7) % 8))) (za 41) 4 (nI l.length) = h5
    have e5 : bW2 ((bO (some (Fin.ofNat 12 (2 + (p + 7) % 8))) (if nI (v :: l).length ≤ 0 then some ((0 : Int32), hi) else some ((0 : Int32), hi)) (fun w1 => if nI (v :: l).length ≤ 0 then some ((0 : Int32), hi) else (sh_X8_copyFrom 0 w1 hi).bind fun h3 => some ((1 : Int32), am_u (am_u h3 (za 41) 3 (nI ((p + 7) % 8))) (za 41) 4 ((h3 (za 41) 4) - (1 : Int32))))).bind fun v1 => if v1.1 ≠ 0 then some (Sum.inl (v1.2 (za 41) 4), v1.2, x) else some (Sum.inr 0, v1.2, xc x)) (fun v2 v2h v2x => some ((0 : Int32), v2h, xl v2x v2.toInt64)) (fun E v2h v2x => if E = 0 then some ((1 : Int32), v2h, v2x) else none) = some (0, h5, xl x (nI l.length).toInt64) := by
      show bW2 ((if nI (l.length + 1) ≤ 0 then some ((0 : Int32), hi) else (sh_X8_copyFrom 0 (Fin.ofNat 12 (2 + (p + 7) % 8)) hi).bind fun h3 => some ((1 : Int32), am_u (am_u h3 (za 41) 3 (nI ((p + 7) % 8))) (za 41) 4 ((h3 (za 41) 4) - (1 : Int32)))).bind _) _ _ = _
      rw [if_neg (nI_nle (by omega) (by omega)), e3, bs, bs, z, b3, elen, nI_pred, hh]
      have e4 : h5 (za 41) 4 = nI l.length := by rw [← hh, au_]
      show some ((0 : Int32), h5, xl x (h5 (za 41) 4).toInt64) = _
      rw [e4]
    have z5 : ∀ n k, n ≠ 41 → h5 (za n) k = hi (za n) k := fun n k hn => by
      have hne : za n ≠ za 41 := fun q => hn (by
        have q : (Sum.inr (Sum.inr n) : AA) = Sum.inr (Sum.inr 41) := q
        injection q with q
        injection q)
      rw [← hh, au_a hne, au_a hne, z]
    have w5 : ∀ i, vw_ i h5 = vw_ i h3 := fun i => V_f (fun j k => by rw [← hh, au_a (fun q => by cases q), au_a (fun q => by cases q)])
    have wo : ∀ i, i ≠ 0 → vw_ i h5 = vw_ i hi := fun i hne => (w5 i).trans (V_fr f3 hne)
    have eC : ch_ 0 A (B_undo A) = ((A.ld, v), (l, A.sv), A.2.2) := B_undo_c ep
    rw [eC]
    refine ⟨h5, _, e5, fun _ => rfl, RC.cx (x := x) ⟨⟨(z5 _ _ (by omega)).trans a1, fun k hk => ?_, (z5 _ _ (by omega)).trans a3, (z5 _ _ (by omega)).trans a4, (z5 _ _ (by omega)).trans a5, fun _ => (w5 0).trans v3⟩, ⟨(p + 7) % 8, Nat.mod_lt _ (by decide), ?_, ?_, fun j u q => ?_⟩, fun k hk => ⟨(z5 _ _ (by omega)).trans (c k hk).1, fun u q => (wo _ (fun q2 => ?_)).trans ((c k hk).2 u q)⟩, (z5 _ _ (by omega)).trans d1, (z5 _ _ (by omega)).trans d2, fun k hk => (z5 _ _ (by omega)).trans (d3 k hk), by_eq (fun k => (z5 _ _ (by omega))) d4⟩ rfl, fun b k m => ?_, XB.l⟩
    · rw [z5 _ _ (by omega)]; exact a2 k hk
    · rw [← hh, au_k (by omega), au_]
    · rw [← hh, au_]; rfl
    · have q : l[j]? = some u := q
      have hj : j < l.length := (List.getElem?_eq_some_iff.mp q).1
      have q9 : A.ps[j + 1]? = some u := by rw [ep]; exact q
      have g := b4 (j + 1) u q9
      have ej : ((p + 7) % 8 + 7 - j) % 8 = (p + 7 - (j + 1)) % 8 := by omega
      rw [ej, wo _ (fun q2 => by
        have := (fz12 (m := 2 + (p + 7 - (j + 1)) % 8) (n := 0) (by omega) (by omega)).mp q2
        omega)]
      exact g
    · have := (fz12 (m := 10 + k) (n := 0) (by omega) (by omega)).mp q2
      omega
    · rw [← hh, au_a (fun q => by
        rcases m with m | m
        · exact md_za (n := 41) (by omega) (q ▸ m)
        · rw [q] at m; cases m), au_a (fun q => by
        rcases m with m | m
        · exact md_za (n := 41) (by omega) (q ▸ m)
        · rw [q] at m; cases m)]
      exact fr_fC f3 b k m
theorem Mf_undo (hO : Ok_ K A) (H : RM A hi) : Mk_ (ch_ (un_ A) A (B_undo A)) (sh_X10_undo hi) hi (un_ A) (nI (A.ps.length - 1)) := by
  have H0 := H
  obtain ⟨⟨a1, a2, a3, a4, a5, a6⟩, ⟨b1, b2'⟩, c, d1, d2⟩ := H
  have hl := hO.2.1
  unfold sh_X10_undo sh_X10_undo_13
  rw [b1]
  cases ep : A.ps with
  | nil =>
    have eu : un_ A = 1 := if_pos ep
    rw [eu, if_pos (show nI ([] : List Wd).length ≤ 0 from by decide), show (0 : Int32) = b2 false from rfl, show (1 : Int32) = b2 true from rfl, M_may, bs]
    exact Mk_.no (c := 1) (by decide) H0
  | cons v l =>
    have eu : un_ A = 0 := if_neg (by rw [ep]; exact fun q => by cases q)
    have elen : A.ps.length = l.length + 1 := by rw [ep]; rfl
    have eC : ch_ 0 A (B_undo A) = ((A.ld, v), (l, A.sv), A.2.2) := B_undo_c ep
    rw [eu, eC, if_neg (show ¬ nI (v :: l).length ≤ 0 from nI_nle (Nat.zero_lt_succ _) (by show l.length + 1 < 2 ^ 31; omega)), show (1 : Int32) = b2 true from rfl, M_may, bs]
    show Mk_ _ ((sh_lays (za 198) 3392 (((am_u (am_u hi (za 195) 0 0) (za 195) 7 ((am_u hi (za 195) 0 0 (za 195) 7) - (1 : Int32))) (za 195) 7) * (424 : Int32)) (za 196) 424 (0 : Int32) (am_u (am_u hi (za 195) 0 0) (za 195) 7 ((am_u hi (za 195) 0 0 (za 195) 7) - (1 : Int32)))).bind fun h3 => some (h3 (za 195) 7, h3)) hi 0 _
    have e7 : am_u hi (za 195) 0 0 (za 195) 7 = nI (l.length + 1) := by rw [au_k (by omega), b1, elen]
    have e9 : nI l.length * (424 : Int32) = nI (424 * l.length) := by rw [show (424 : Int32) = nI 424 from rfl, pk_mul, Nat.mul_comm]
    rw [e7, nI_pred, au_, e9]
    generalize hh : am_u (am_u hi (za 195) 0 0) (za 195) 7 (nI l.length) = h2
    unfold sh_lays
    rw [nI_clamp (by omega), if_pos ⟨nI_pos' (by omega), by decide, by omega, by decide⟩, bs]
    have o : ∀ b k, b ≠ za 196 → sh_laysN (za 198) (za 196) (424 * l.length) (0 : Int32).toNatClampNeg 424 h2 b k = h2 b k := fun b k hb => if_neg (fun q => hb q.1)
    have e196 : ∀ k, k < 424 → sh_laysN (za 198) (za 196) (424 * l.length) (0 : Int32).toNatClampNeg 424 h2 (za 196) k = h2 (za 198) (424 * l.length + k) := fun k hk => by
      unfold sh_laysN
      rw [if_pos ⟨rfl, Nat.zero_le _, by show k < 0 + 424; omega⟩]
      congr 1
    generalize hn : sh_laysN (za 198) (za 196) (424 * l.length) (0 : Int32).toNatClampNeg 424 h2 = h3 at o e196
    have z2 : ∀ b k, b ≠ za 195 → h2 b k = hi b k := fun b k hb => by rw [← hh, au_a hb, au_a hb]
    have z25 : ∀ k, k ≠ 0 → k ≠ 7 → h2 (za 195) k = hi (za 195) k := fun k q1 q2 => by rw [← hh, au_k q2, au_k q1]
    have z5 : ∀ k, k ≠ 0 → k ≠ 7 → h3 (za 195) k = hi (za 195) k := fun k q1 q2 => (o _ _ (fun q => by cases q)).trans (z25 k q1 q2)
    have e37 : h3 (za 195) 7 = nI l.length := by rw [o _ _ (fun q => by cases q), ← hh, au_]
    have zo : ∀ b k, b ≠ za 195 → b ≠ za 196 → h3 b k = hi b k := fun b k q1 q2 => (o b k q2).trans (z2 b k q1)
    have hv : mw_ h3 = v := by
      rw [← rw_mw, ← b2' 0 v (by rw [ep]; rfl), elen]
      refine rw_e (fun k hk => ?_)
      rw [Nat.zero_add, e196 k hk, z2 _ _ (fun q => by cases q)]
      rfl
    refine ⟨_, h3, rfl, ?_, fun _ => ?_, ⟨⟨(z5 _ (by omega) (by omega)).trans a1, fun k hk => ?_, (z5 _ (by omega) (by omega)).trans a3, (z5 _ (by omega) (by omega)).trans a4, (z5 _ (by omega) (by omega)).trans a5, fun _ => hv⟩, ⟨e37, fun j u q => ?_⟩, fun k hk => ⟨(zo _ _ (fun q => by cases q) (fun q => by cases q)).trans (c k hk).1, fun u q => ?_⟩, (z5 _ (by omega) (by omega)).trans d1, fun k hk => (zo _ _ (fun q => by cases q) (fun q => by cases q)).trans (d2 k hk)⟩, fun b k cm => zo b k (fun q => cm (Or.inl q)) (fun q => cm (Or.inr (Or.inl q)))⟩
    · rw [o _ _ (fun q => by cases q), ← hh, au_k (by omega), au_]
    · rw [e37]; rfl
    · rw [zo _ _ (fun q => by cases q) (fun q => by cases q)]; exact a2 k hk
    · have q : l[j]? = some u := q
      have hj : j < l.length := (List.getElem?_eq_some_iff.mp q).1
      have q9 : A.ps[j + 1]? = some u := by rw [ep]; exact q
      have g := b2' (j + 1) u q9
      rw [← g]
      show rw_ h3 (za 198) (424 * (l.length - 1 - j)) = rw_ hi (za 198) (424 * (A.ps.length - 1 - (j + 1)))
      rw [elen, show l.length + 1 - 1 - (j + 1) = l.length - 1 - j by omega]
      exact rw_e (fun k hk => zo _ _ (fun q => by cases q) (fun q => by cases q))
    · rw [← (c k hk).2 u q]
      exact rw_e (fun i hi9 => zo _ _ (fun q => by cases q) (fun q => by cases q))
end CH
