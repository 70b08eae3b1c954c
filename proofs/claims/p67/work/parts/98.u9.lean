/-! bowls, mopping, undo, slots: both sides -/
section CH
variable {A B : As_} {hi h h1 : HI} {x : AX} {K G : Nat} {a c : Int32} {w : Wd}
def B_bowl (A : As_) (a : Int32) : As_ := A.pu.sw (upd A.w (84 + an_ a) 1)
def B_mop (A : As_) (a : Int32) : As_ := A.pu.sw (upd A.w (244 + an_ a) 0)
theorem mk80b {t B e : Nat} (h : ib_ K B e w) (ht : t < p_rc w) : p_mk (upd w (84 + t) 1) 84 80 = p_mk (upd w (84 + t) 1) 84 (p_rc w) := by
  have h80 := rc80 h
  have e1 : 80 = p_rc w + (80 - p_rc w) := by omega
  rw [e1]
  exact p_mk_z (n := p_rc w) _ (fun k a b => by rw [upd_ne (by omega)]; exact (h.2.1.2.2.2 k a (by omega)).1)
theorem sum_mk {o : Nat} : ∀ n, (∀ k, k < n → w (o + k) = 0 ∨ w (o + k) = 1) → p_sum w o n = nI (p_mk w o n)
  | 0, _ => rfl
  | n + 1, h => by
    show p_sum w o n + w (o + n) = nI (p_mk w o n + (if w (o + n) = 0 then 0 else 1))
    rw [sum_mk n (fun k hk => h k (by omega))]
    rcases h n (by omega) with q | q
    · rw [q, if_pos rfl, Int32.add_zero, Nat.add_zero]
    · rw [q, if_neg (by decide), nI_1]
theorem Cf_placeBowl (hO : Ok_ K A) (H : RC A hi x) : Ck_ (ch_ (lt3_ A (tk_ a (p_rc A.w)) (p_free A.w (an_ a))) A (B_bowl A a)) (sh_L_placeBowl a hi x) hi x (lt3_ A (tk_ a (p_rc A.w)) (p_free A.w (an_ a))) (nI (p_mk (upd A.w (84 + an_ a) 1) 84 (p_rc A.w))) := by
  refine CH_ H ?_
  unfold sh_X9_placeBowl lt3_
  rw [rq_ H]
  cases e : A.ld with
  | false => exact Or.inr ⟨0, rfl, (show (1 : Int32) ≠ 0 by decide), rfl⟩
  | true =>
    rw [qT_ hO H e]
    cases eo : tk_ a (p_rc A.w) with
    | false => exact Or.inr ⟨1, rfl, (show (2 : Int32) ≠ 0 by decide), rfl⟩
    | true =>
      have hI := hO.ib e
      obtain ⟨t1, t2, t3⟩ := tkT hO e eo
      have er : sh_X8_hasRoomForBowl 0 a hi = b2 (p_free A.w (an_ a)) := by
        have q := C_room (i := 0) (hi := hi) t2
        rw [← t3, H.vw e] at q
        exact q
      rw [er, ne_of]
      cases ef : p_free A.w (an_ a) with
      | false => exact Or.inr ⟨2, rfl, (show (3 : Int32) ≠ 0 by decide), rfl⟩
      | true =>
        obtain ⟨h3, e3, H3, v3, f3⟩ := C_keep hO e H
        have f5 : fr_ 0 h3 (am_u h3 (wa 0 13) (an_ a) 1) := (fr_.refl 0 h3).u
        have v5 : vw_ 0 (am_u h3 (wa 0 13) (an_ a) 1) = upd A.w (84 + an_ a) 1 := by rw [uw_bowl t2, v3]
        refine Or.inl ⟨rfl, _, ?_, H3.w0 f5 v5, f3.trans (fr_fC f5)⟩
        show ((sh_X1_keep 0 hi).bind fun h4 => (some (sh_put (wa 0 13) 80 a (1 : Int32) h4)).bind fun h5 => some (Sum.inl (sh_marked (wa 0 13) 80 h5, h5))) = _
        have ep : sh_put (wa 0 13) 80 a 1 h3 = am_u h3 (wa 0 13) (an_ a) 1 := by
          have := put_n (a := wa 0 13) (n := 80) (t := an_ a) (v := 1) (hi := h3) t2 (by decide)
          rw [← t3] at this
          exact this
        rw [e3, bs, ep, bs, ← mk80b hI t1]
        have em : sh_marked (wa 0 13) 80 (am_u h3 (wa 0 13) (an_ a) 1) = nI (p_mk (upd A.w (84 + an_ a) 1) 84 80) := by
          refine marked_e 80 (fun k hk => ?_)
          rw [vr_bowl 0 (am_u h3 (wa 0 13) (an_ a) 1) hk, v5]
          refine ⟨rfl, ?_⟩
          by_cases q : 84 + k = 84 + an_ a
          · rw [q, upd_eq]; decide
          · rw [upd_ne q]; exact (le0_ (b := 1) (by omega) (hI.2.1.1 k hk)).1
        rw [em]
theorem Cf_mop (hO : Ok_ K A) (H : RC A hi x) : Ck_ (ch_ (lt3_ A (tk_ a (p_rc A.w)) (decide (A.w (244 + an_ a) ≠ 0))) A (B_mop A a)) (sh_L_mop a hi x) hi x (lt3_ A (tk_ a (p_rc A.w)) (decide (A.w (244 + an_ a) ≠ 0))) (A.w (244 + an_ a)) := by
  refine CH_ H ?_
  unfold sh_X9_mop lt3_
  rw [rq_ H]
  cases e : A.ld with
  | false => exact Or.inr ⟨0, rfl, (show (1 : Int32) ≠ 0 by decide), rfl⟩
  | true =>
    rw [qT_ hO H e]
    cases eo : tk_ a (p_rc A.w) with
    | false => exact Or.inr ⟨1, rfl, (show (2 : Int32) ≠ 0 by decide), rfl⟩
    | true =>
      obtain ⟨t1, t2, t3⟩ := tkT hO e eo
      have er : sh_at (wa 0 12) 80 a hi = A.w (244 + an_ a) := by
        rw [t3, at_n t2 (by decide), vr_spill 0 hi t2, H.vw e, ← t3]
      rw [er]
      by_cases ef : A.w (244 + an_ a) = 0
      · rw [decide_eq_false (fun q => q ef), if_neg (show ¬ A.w (244 + an_ a) ≠ 0 from fun q => q ef)]
        exact Or.inr ⟨2, rfl, (show (3 : Int32) ≠ 0 by decide), rfl⟩
      · rw [decide_eq_true ef, if_pos ef]
        obtain ⟨h3, e3, H3, v3, f3⟩ := C_keep hO e H
        have f5 : fr_ 0 h3 (am_u h3 (wa 0 12) (an_ a) 0) := (fr_.refl 0 h3).u
        refine Or.inl ⟨rfl, _, ?_, H3.w0 f5 (by rw [uw_spill t2, v3]), f3.trans (fr_fC f5)⟩
        show ((sh_X1_keep 0 hi).bind fun h4 => (some (sh_put (wa 0 12) 80 a (0 : Int32) h4)).bind fun h5 => some (Sum.inl (A.w (244 + an_ a), h5))) = _
        have ep : sh_put (wa 0 12) 80 a 0 h3 = am_u h3 (wa 0 12) (an_ a) 0 := by
          have := put_n (a := wa 0 12) (n := 80) (t := an_ a) (v := 0) (hi := h3) t2 (by decide)
          rw [← t3] at this
          exact this
        rw [e3, bs, ep, bs]
/-! undo -/
def B_undo (A : As_) : As_ := match A.ps with
  | [] => A
  | v :: l => ((A.ld, v), (l, A.sv), A.2.2)
def un_ (A : As_) : Int32 := if A.ps = [] then 1 else 0
theorem B_undo_c {v : Wd} {l : List Wd} (e : A.ps = v :: l) : B_undo A = ((A.ld, v), (l, A.sv), A.2.2) := by
  unfold B_undo
  rw [e]
end CH
