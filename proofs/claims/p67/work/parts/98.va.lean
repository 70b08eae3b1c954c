/-! the invariants hold behind each call -/
section OK
variable {A B : As_} {hi h h1 : HI} {x x1 : AX} {K G : Nat} {a c : Int32} {w : Wd}
theorem Ok_.ch {code : Int32} (h : Ok_ K A) (g : code = 0 → Ok_ K B) : Ok_ K (ch_ code A B) := by
  unfold ch_
  by_cases q : code = 0
  · rw [if_pos q]; exact g q
  · rw [if_neg q]; exact h
theorem Of_adv (hK : K ≤ 200000) (h : Ok_ K A) : Ok_ (K + 300) (ch_ (lt2_ A (ad_ a)) A (B_adv A a)) := by
  refine (h.mono (by omega)).ch (fun q => ?_)
  obtain ⟨e, eo⟩ := lt2_0 q
  obtain ⟨g1, -⟩ := ad_n eo
  have g := ib_.passN (an_ a) K (5 * K) A.w (by omega) (by omega) (h.ib e)
  exact (h.pu e |>.mono (by omega)).sw (g.mono (by omega) (by omega))
theorem Of_pace (h : Ok_ K A) : Ok_ K (ch_ (lt2_ A (pc_ a)) A (B_pace A a)) := h.ch (fun q => by
  obtain ⟨e, eo⟩ := lt2_0 q
  obtain ⟨g1, g2⟩ := pc_n eo
  have g := (h.ib e).k3b g1
  rw [← g2] at g
  exact (h.pu e).sw g)
theorem Of_cur {v : Bool} (h : Ok_ K A) : Ok_ K (ch_ (cC_ A a) A (B_cur A a v)) := h.ch (fun q => by
  obtain ⟨e, eo⟩ := lt2_0 q
  obtain ⟨t1, t2, t3⟩ := tkC h e eo
  cases v with
  | true => exact (h.pu e).sw ((h.ib e).kcu (c := an_ a) (cl := 1) t2 (by omega))
  | false => exact (h.pu e).sw ((h.ib e).kcu (c := an_ a) (cl := 0) t2 (by omega)))
theorem Of_turn (h : Ok_ K A) : Ok_ K (ch_ (lc_ A) A (B_turn A)) := h.ch (fun q => by
  have e := lc_0 q
  exact (h.pu e).sw (h.ib e).k10)
theorem lt3_0 {o1 o2 : Bool} (q : lt3_ A o1 o2 = 0) : A.ld = true ∧ o1 = true ∧ o2 = true := by
  unfold lt3_ at q
  cases e : A.ld with
  | false => rw [e] at q; exact absurd (show (1 : Int32) = 0 from q) (by decide)
  | true =>
    rw [e] at q
    cases o1 with
    | false => exact absurd (show (2 : Int32) = 0 from q) (by decide)
    | true =>
      cases o2 with
      | false => exact absurd (show (3 : Int32) = 0 from q) (by decide)
      | true => exact ⟨rfl, rfl, rfl⟩
theorem Of_bowl (h : Ok_ K A) : Ok_ K (ch_ (lt3_ A (tk_ a (p_rc A.w)) (p_free A.w (an_ a))) A (B_bowl A a)) := h.ch (fun q => by
  obtain ⟨e, eo, ef⟩ := lt3_0 q
  obtain ⟨t1, t2, t3⟩ := tkT h e eo
  have hI := h.ib e
  have ew : x_want 14 A.w (an_ a) = true := by
    unfold x_want
    rw [if_neg (by decide), if_pos rfl]
    exact ef
  have eh : x_h1 14 A.w (an_ a) = upd A.w (84 + an_ a) 1 := by
    unfold x_h1
    rw [if_pos ew, if_neg (by decide), if_pos rfl]
  have g : ib_ K (5 * K) 0 (x_h1 14 A.w (an_ a)) := hI.ti (hI.2.1.h1 t1 t2) (fun k hk => x_h1_lo t2 hk)
  rw [eh] at g
  exact (h.pu e).sw g)
theorem Of_mop (h : Ok_ K A) : Ok_ K (ch_ (lt3_ A (tk_ a (p_rc A.w)) (decide (A.w (244 + an_ a) ≠ 0))) A (B_mop A a)) := h.ch (fun q => by
  obtain ⟨e, eo, ef⟩ := lt3_0 q
  obtain ⟨t1, t2, t3⟩ := tkT h e eo
  exact (h.pu e).sw ((h.ib e).ksp (t := an_ a) (v := 0) t1 (by omega)))
theorem Of_undo (h : Ok_ K A) : Ok_ K (ch_ (un_ A) A (B_undo A)) := h.ch (fun q => by
  cases ep : A.ps with
  | nil =>
    have eu : un_ A = 1 := if_pos ep
    rw [eu] at q
    exact absurd q (by decide)
  | cons v l =>
    rw [B_undo_c ep]
    obtain ⟨a1, a2, a3, a4, a5, a6⟩ := h
    refine ⟨a1, ?_, fun _ => a4 v (by rw [ep]; exact List.mem_cons_self), fun u hu => a4 u (by rw [ep]; exact List.mem_cons_of_mem _ hu), a5, a6⟩
    rw [ep] at a2
    have a2 : l.length + 1 ≤ 8 := a2
    show l.length ≤ 8
    omega)
theorem Of_save (h : Ok_ K A) : Ok_ K (ch_ (lt2_ A (tk_ a 2)) A (B_save A a)) := h.ch (fun q => by
  obtain ⟨e, eo⟩ := lt2_0 q
  obtain ⟨a1, a2, a3, a4, a5, a6⟩ := h
  refine ⟨a1, a2, a3, a4, fun k v hv => ?_, a6⟩
  have hv : (if k = an_ a then some A.w else A.sv k) = some v := hv
  by_cases z : k = an_ a
  · rw [if_pos z] at hv
    cases hv
    exact a3 e
  · rw [if_neg z] at hv
    exact a5 k v hv)
theorem Of_rest (h : Ok_ K A) : Ok_ K (ch_ (rs2_ A a) A (B_rest A a)) := h.ch (fun _ => by
  unfold B_rest
  cases es : A.sv (an_ a) with
  | none => exact h
  | some v =>
    obtain ⟨a1, a2, a3, a4, a5, a6⟩ := h
    exact ⟨a1, Nat.zero_le _, fun _ => a5 _ v es, (fun u hu => by cases hu), a5, a6⟩)
end OK
