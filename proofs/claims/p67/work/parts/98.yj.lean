/-! whatever a text says, wear is steps -/
def Rb (w : Wd) : Prop := (2 ≤ nn w 0 ∧ nn w 0 ≤ 8) ∧ 2 ≤ nn w 1 ∧ nn w 1 ≤ 10
def IR (m : Nat) (w : Wd) : Prop := Rb w ∧ Im (5 * m) w
def Jo (X : XR (Nat × Wd × Nat)) : Prop := ∀ s1 w1 sim1, X = Sum.inr (s1, w1, sim1) → IR sim1 w1
def Jp (m : Nat) (w : Wd) : Prop := IBp m w ∧ IR m w
section IOS
variable {V : TV} {s sim : Nat} {w w1 : Wd}
theorem Rb.rc (h : Rb w) : p_rc w ≤ 80 := Nat.mul_le_mul h.1.2 h.2.2
theorem IR.ki (h : IR sim w) (k : Ki w w1) : IR sim w1 := by
  have e := k.1.nn
  refine ⟨?_, h.2.ki k h.1.rc⟩
  unfold Rb
  rw [e.1, e.2]
  exact h.1
theorem IR.v {k : Nat} {v : Int32} (a : IR sim w) (h : 2 ≤ k ∧ k ≠ 12 ∧ k ≠ 13 ∧ (k < 324 ∨ 404 ≤ k)) : IR sim (upd w k v) := a.ki (Ki.refl.u h)
theorem Jo.l {e : Nat × Nat} : Jo (Sum.inl e) := fun _ _ _ h => by cases h
theorem Jo.r (a : IR sim w) : Jo (Sum.inr (s, w, sim)) := fun _ _ _ h => by cases h; exact a
theorem Jo.b {α : Type} {r : XR α} {k : α → XR (Nat × Wd × Nat)} (h : ∀ v, r = Sum.inr v → Jo (k v)) : Jo (xb r k) := by
  cases r with
  | inl e => exact Jo.l
  | inr v => exact h v rfl
theorem Jo.i {c : Prop} [Decidable c] {a b : XR (Nat × Wd × Nat)} (h1 : c → Jo a) (h2 : ¬ c → Jo b) : Jo (if c then a else b) := by
  by_cases q : c
  · rw [if_pos q]; exact h1 q
  · rw [if_neg q]; exact h2 q
theorem ki_h1 {q : Fin 37} {u : Nat} (hu : u < 80) : Ki w (x_h1 q w u) := by
  unfold x_h1
  split
  · split
    · exact Ki.refl.u (by omega)
    · split
      · exact Ki.refl.u (by omega)
      · exact Ki.refl.u (by omega)
  · exact Ki.refl
theorem ki_hd {q : Fin 37} {a d : Nat} : ∀ n, (∀ i, i < n → a + i * d < 80) → Ki w (x_hd q a d n w)
  | 0, _ => Ki.refl
  | n + 1, h => (ki_hd n (fun i hi => h i (by omega))).trans (ki_h1 (h n (by omega)))
theorem Jo_line {q : Fin 37} {a d len : Nat} (h : IR sim w) (hl : ∀ i, i < len → a + i * d < 80) : Jo (x_line V q s w sim a d len) := Jo.i (fun _ => Jo.l) (fun _ => Jo.r (h.ki (ki_hd _ hl)))
theorem Jo_item {q : Fin 37} (h : IR sim w) : Jo (x_item V q s w sim) := by
  have h8 : nn w 0 * nn w 1 ≤ 80 := h.1.rc
  obtain ⟨⟨a1, a2⟩, b1, b2⟩ := h.1
  refine Jo.i (fun _ => Jo.b fun r hr => Jo_line h (fun i hi => ?_)) (fun _ => Jo.i (fun _ => Jo.b fun c hc => Jo_line h (fun i hi => ?_)) (fun _ => Jo.b fun t ht => Jo.i (fun _ => Jo_line h (fun i hi => ?_)) (fun _ => Jo.l)))
  · have r1 := (x_num_ok hr).2.2.1
    have m : (r + 1) * nn w 1 ≤ nn w 0 * nn w 1 := Nat.mul_le_mul_right _ (by omega)
    rw [Nat.add_mul] at m
    omega
  · have c1 := (x_num_ok hc).2.2.1
    have m : i * nn w 1 ≤ (nn w 0 - 1) * nn w 1 := Nat.mul_le_mul_right _ (by omega)
    have e : nn w 0 * nn w 1 = (nn w 0 - 1 + 1) * nn w 1 := by rw [Nat.sub_add_cancel (by omega)]
    rw [Nat.add_mul] at e
    omega
  · have t1 := (x_num_ok ht).2.2.1
    have := h.1.rc
    omega
theorem Jo_items {q : Fin 37} : ∀ (f s : Nat) (w : Wd) (sim : Nat), IR sim w → Jo (x_items V q f s w sim)
  | 0, _, _, _, _ => Jo.l
  | f + 1, s, w, sim, h => by
    rw [x_items_s]
    refine Jo.b fun r hr => ?_
    obtain ⟨s1, w1, sim1⟩ := r
    have h1 := Jo_item h s1 w1 sim1 hr
    exact Jo.i (fun _ => Jo_items f s1 w1 sim1 h1) (fun _ => Jo.r h1)
theorem Jo_cur {cl : Nat} : ∀ (f s : Nat) (w : Wd), IR sim w → Jo (x_cur V cl f s w sim)
  | 0, _, _, _ => Jo.l
  | f + 1, s, w, h => by
    rw [x_cur_s]
    refine Jo.b fun c hc => ?_
    have c1 := (x_num_ok hc).2.2.1
    have c2 := h.1.2
    have h1 : IR sim (upd w (26 + c) (nI cl)) := h.v (by omega)
    exact Jo.i (fun _ => Jo.l) (fun _ => Jo.i (fun _ => Jo_cur f _ _ h1) (fun _ => Jo.r h1))
theorem Jo_nset {k lo hi : Nat} (h : IR sim w) (hk : 2 ≤ k ∧ k ≠ 12 ∧ k ≠ 13 ∧ k < 324) : Jo (x_nset V k lo hi s w sim) := Jo.b fun _ _ => Jo.r (h.v (by omega))
theorem Jo_route : ∀ (f k s : Nat) (w : Wd), k + f ≤ 31 → IR sim w → Jo (x_route V f k s w sim)
  | 0, _, _, _, _, h => Jo.r h
  | f + 1, k, s, w, hk, h => by
    rw [x_route_s]
    cases x_mv (sgV V s) with
    | none => exact Jo.r h
    | some m => exact Jo.i (fun _ => Jo.l) (fun _ => Jo_route f _ _ _ (by omega) ((h.v (by omega)).v (by omega)))
theorem ki_m0 : Ki w (p_m0 w) := by
  have n : ∀ k, k ≠ 17 → ¬ (54 ≤ k ∧ k < 84) → p_m0 w k = w k := fun k h1 h2 => by
    unfold p_m0
    rw [if_neg h1, if_neg h2]
  exact ⟨⟨n _ (by omega) (by omega), n _ (by omega) (by omega)⟩, n _ (by omega) (by omega), n _ (by omega) (by omega), fun k h1 h2 => n _ (by omega) (by omega)⟩
theorem Jo_set (hX : XS w) (h : IR sim w) : Jo (x_set V s w sim) := by
  have n := fun {k lo hi : Nat} (hk : 2 ≤ k ∧ k ≠ 12 ∧ k ≠ 13 ∧ k < 324) => Jo_nset (V := V) (s := nxV V s) (lo := lo) (hi := hi) h hk
  have b := h.1.2
  unfold x_set
  refine Jo.i (fun _ => n (by omega)) (fun _ => Jo.i (fun _ => n (by omega)) (fun _ => Jo.i (fun _ => n (by omega)) (fun _ => Jo.i (fun _ => n (by omega)) (fun _ => Jo.i (fun _ => n (by omega)) (fun _ => Jo.i (fun _ => n (by omega)) (fun _ => Jo.i (fun _ => n (by omega)) (fun _ => ?_)))))))
  refine Jo.i (fun _ => Jo.b fun _ _ => Jo.i (fun _ => Jo.r ((h.v (by omega)).v (by omega))) (fun _ => Jo.i (fun _ => Jo.r ((h.v (by omega)).v (by omega))) (fun _ => Jo.l))) (fun _ => Jo.i (fun _ => Jo.b fun t _ => Jo_route _ _ _ _ (by omega) (IR.ki (h.v (by omega)) ki_m0)) (fun _ => Jo.i (fun _ => Jo_cur _ _ _ h) (fun _ => ?_)))
  refine Jo.i (fun _ => Jo.b fun c hc => Jo.b fun _ _ => Jo.r (h.v (by have := (x_num_ok hc).2.2.1; omega))) (fun _ => Jo.i (fun _ => Jo.i (fun _ => Jo.l) (fun q => Jo.b fun _ _ => Jo.b fun _ _ => Jo.r ?_)) (fun _ => Jo_items _ _ _ _ h))
  have h4 := hX.1.2.2.2.2.2.2.2.2.1.2.2
  unfold p_cld
  exact ((h.v (by omega)).v (by omega)).v (by omega)
theorem Jo_mins {m : Nat} (hI : IBp sim w) (h : IR sim w) (hm : m ≤ 300) : Jo (x_mins V s w sim m) := by
  have h2 := hI.2
  refine Jo.i (fun _ => Jo.l) (fun _ => Jo.r ⟨?_, ?_⟩)
  · have e := (kp_passN m w).nn
    unfold Rb
    rw [e.1, e.2]
    exact h.1
  · have g := Im.passN m sim (5 * sim) (5 * sim) w (by omega) (by omega) hI.1 h.2
    rw [show 5 * (sim + m) = 5 * sim + 5 * m by omega]
    exact g
theorem Jo_ev (hI : IBp sim w) (h : IR sim w) : Jo (x_ev V s w sim) := by
  have h8 := h.1.rc
  have b := h.1
  unfold Rb at b
  unfold x_ev
  refine Jo.i (fun _ => Jo_nset h (by omega)) (fun _ => Jo.i (fun _ => Jo.b fun t ht => Jo.i (fun _ => Jo.b fun _ _ => Jo.r (h.v (by have := (x_num_ok ht).2.2.1; omega))) (fun _ => Jo.l)) (fun _ => Jo.i (fun _ => Jo.r (h.v (by omega))) (fun _ => Jo.i (fun _ => Jo_cur _ _ _ h) (fun _ => Jo.i (fun _ => Jo_cur _ _ _ h) (fun _ => ?_)))))
  refine Jo.i (fun _ => Jo.b fun t _ => Jo.i (fun _ => Jo.l) (fun _ => Jo.r (h.v (by omega)))) (fun _ => Jo.i (fun _ => Jo.b fun m hm => Jo_mins hI h (x_num_ok hm).2.2.1) (fun _ => Jo.i (fun _ => Jo_mins hI h ?_) (fun _ => Jo_items _ _ _ _ h)))
  have hb9 : nn w 0 * nn w 2 ≤ 8 * 20 := Nat.mul_le_mul hI.1.1.r.2.2 hI.1.1.l.2.2
  omega
theorem XI.jp {X : XR (Nat × Wd × Nat)} (a : XI V IBp s sim X) (b : Jo X) : XI V Jp s sim X := by
  cases X with
  | inl e => trivial
  | inr r => exact ⟨⟨a.1, b _ _ _ rfl⟩, a.2⟩
theorem XJ_ev (hs : s < V.2.1) (h : Jp sim w) : XI V Jp (s + 1) sim (x_ev V s w sim) := XI.jp (XI_ev hs h.1) (Jo_ev h.1 h.2)
theorem XJ_one {rep : Nat → Wd → Nat → XR (Nat × Wd × Nat)} (hr : ∀ s w sim, s < V.2.1 → Jp sim w → XI V Jp (s + 1) sim (rep s w sim)) (hI : Jp sim w) : XI V Jp (s + 1) sim (r_one V rep s w sim) := by
  refine XI.ite (fun q => hr _ _ _ (sg_lt_n (by rw [q]; decide)) hI) (fun _ => XI.ite (fun q => XJ_ev (sg_lt_n (fun e => by rw [e] at q; revert q; decide)) hI) (fun _ => trivial))
theorem XJ_bb {A : XR (Nat × Wd × Nat)} {k : Nat × Wd × Nat → XR (Nat × Wd × Nat)} {s2 : Nat} (h : XI V Jp s sim A) (hk : ∀ s1 w1 sim1, Jp sim1 w1 → s ≤ s1 → s1 ≤ V.2.1 → sim ≤ sim1 → XI V Jp s2 sim (k (s1, w1, sim1))) : XI V Jp s2 sim (xb A k) := by
  cases A with
  | inl e => trivial
  | inr r => exact hk _ _ _ h.1 h.2.1 h.2.2.1 h.2.2.2
theorem XJ_evs {ev : Nat → Wd → Nat → XR (Nat × Wd × Nat)} (he : ∀ s w sim, Jp sim w → XI V Jp (s + 1) sim (ev s w sim)) : ∀ (f s : Nat) (w : Wd) (sim : Nat), Jp sim w → XI V Jp (s + 1) sim (r_evs V ev f s w sim)
  | 0, _, _, _, _ => trivial
  | f + 1, s, w, sim, hI => by
    rw [r_evs_s]
    refine XJ_bb (he _ _ _ hI) fun s1 w1 sim1 i1 a1 a2 a3 => ?_
    refine XI.ite (fun q => ?_) fun _ => XI.ite (fun _ => XI.ret i1 a1 a2 a3) fun _ => trivial
    have := nxV_b (V := V) (sg_lt_n (by rw [q]; decide))
    exact (XJ_evs he f _ _ _ i1).mono (by omega) a3
theorem XJ_rep {s0 : Nat} {evs : Wd → Nat → XR (Nat × Wd × Nat)} (he : ∀ w sim, Jp sim w → XI V Jp s0 sim (evs w sim)) : ∀ (m sl : Nat) (w : Wd) (sim : Nat), (s0 ≤ sl ∨ 0 < m) → (m = 0 → sl ≤ V.2.1) → Jp sim w → XI V Jp s0 sim (r_rep evs m sl w sim)
  | 0, sl, w, sim, h0, hl, hI => XI.ret hI (by omega) (hl rfl) (Nat.le_refl _)
  | m + 1, sl, w, sim, h0, hl, hI => by
    rw [r_rep_s]
    exact XJ_bb (he _ _ hI) fun s1 w1 sim1 i1 a1 a2 a3 => (XJ_rep he m s1 w1 sim1 (Or.inl a1) (fun _ => a2) i1).mono (Nat.le_refl _) a3
theorem XJ_brk {ev : Nat → Wd → Nat → XR (Nat × Wd × Nat)} (he : ∀ s w sim, Jp sim w → XI V Jp (s + 1) sim (ev s w sim)) (s : Nat) (w : Wd) (sim : Nat) (hs : s < V.2.1) (hI : Jp sim w) : XI V Jp (s + 1) sim (r_brk V ev s w sim) := by
  have h1 := nxV_b (V := V) hs
  have h2 := nxV_le h1.2
  have h3 := nxV_le h2.2
  refine XI.b fun m hm => XI.ite (fun _ => ?_) fun _ => trivial
  have hm1 := (x_num_ok hm).2.1
  refine XJ_bb (s := bod V s + 1) (XJ_rep (fun w sim hI => XJ_evs he _ _ _ _ hI) m 0 w sim (Or.inr (by omega)) (fun q => by omega) hI) fun s1 w1 sim1 i1 a1 a2 a3 => ?_
  have h4 := nxV_le a2
  unfold bod at a1
  exact XI.ret i1 (show s + 1 ≤ nxV V s1 by omega) h4.2 a3
theorem XJ_rev : ∀ (L s : Nat) (w : Wd) (sim : Nat), Jp sim w → XI V Jp (s + 1) sim (r_ev V L s w sim)
  | 0, _, _, _, hI => XJ_one (rep := fun s _ _ => Sum.inl (4, s)) (fun _ _ _ _ _ => trivial) hI
  | L + 1, _, _, _, hI => XJ_one (XJ_brk (XJ_rev L)) hI
theorem J_text : ∀ (f s : Nat) (w : Wd) (sim : Nat) (beg : Bool), Jp sim w → (beg = false → XS w) → ∀ s1 w1 sim1, r_text V f s w sim beg = Sum.inr (s1, w1, sim1) → Jp sim1 w1 := fun f => by
  induction f with
  | zero =>
    intro s w sim beg _ _ s1 w1 sim1 e
    cases e
  | succ f ih =>
    intro s w sim beg hI hX s1 w1 sim1 e
    have hI3 : Jp sim (if beg = true then w else p_reloc w) := by
      cases beg with
      | true => exact hI
      | false => exact ⟨⟨hI.1.1.reloc, hI.1.2⟩, hI.2.ki ki_reloc⟩
    rw [r_text_s] at e
    by_cases c31 : sgV V s = 31
    case neg =>
      rw [if_neg c31] at e
      by_cases c36 : sgV V s = 36
      · rw [if_pos c36] at e
        cases e
        exact hI3
      · rw [if_neg c36] at e
        cases e
    rw [if_pos c31] at e
    by_cases cs : beg = false ∧ 1 ≤ (sgV V (nxV V s)).val ∧ (sgV V (nxV V s)).val ≤ 13
    · rw [if_pos cs] at e
      obtain ⟨rfl, cs2⟩ := cs
      have hsl : nxV V s < V.2.1 := sg_lt_n (fun e => by rw [e] at cs2; revert cs2; decide)
      have gi := XI_set (V := V) (s := nxV V s) (sim := sim) hsl (hX rfl)
      cases e2 : x_set V (nxV V s) w sim with
      | inl cp => rw [e2] at e; cases e
      | inr r =>
        obtain ⟨s2, w2, sim2⟩ := r
        have gr := Jo_set (hX rfl) hI.2 s2 w2 sim2 e2
        rw [e2] at e gi
        have es : sim2 = sim := SM_set _ _ _ e2
        subst es
        exact ih s2 w2 sim2 false ⟨(gi.1 : XS w2).IB hI.1.2, gr⟩ (fun _ => gi.1) _ _ _ e
    · rw [if_neg cs] at e
      have gi := XJ_rev (V := V) 3 (nxV V s) (if beg = true then w else p_reloc w) sim hI3
      cases e2 : r_ev V 3 (nxV V s) (if beg = true then w else p_reloc w) sim with
      | inl cp => rw [e2] at e; cases e
      | inr r =>
        obtain ⟨s2, w2, sim2⟩ := r
        rw [e2] at e gi
        exact ih s2 w2 sim2 true gi.1 (fun z => by cases z) _ _ _ e
theorem IR_start {r c : Nat} (h1 : 2 ≤ r) (h2 : r ≤ 8) (h3 : 2 ≤ c) (h4 : c ≤ 10) : IR 0 (p_start (nI r) (nI c)) := by
  have e0 : nn (p_start (nI r) (nI c)) 0 = r := nn_of (show p_start (nI r) (nI c) 0 = nI r from rfl) (by omega)
  have e1 : nn (p_start (nI r) (nI c)) 1 = c := nn_of (show p_start (nI r) (nI c) 1 = nI c from rfl) (by omega)
  refine ⟨⟨by omega, by omega⟩, 0, 0, rfl, rfl, Nat.le_refl _, Nat.zero_le _, ?_⟩
  have z : ∀ k, 16 < k → p_start (nI r) (nI c) k = 0 := fun k hk => by
    unfold p_start
    rw [if_neg (by omega), if_neg (by omega), if_neg (by omega), if_neg (by omega), if_neg (by omega), if_neg (by omega), if_neg (by omega), if_neg (by omega), if_neg (by omega)]
  generalize p_rc (p_start (nI r) (nI c)) = n
  induction n with
  | zero => rfl
  | succ n ih =>
    show p_sum _ 324 n + p_start (nI r) (nI c) (324 + n) = nI 0
    rw [ih, z _ (by omega)]
    rfl
theorem r_all_J {s1 sim1 : Nat} {w1 : Wd} (e : r_all V = Sum.inr (s1, w1, sim1)) : Jp sim1 w1 := by
  unfold r_all x_floor at e
  by_cases c : sgV V (t_skip V.1 V.2.1 0) = 0
  · rw [if_pos c, xb_as] at e
    cases er : x_num V (nxV V (t_skip V.1 V.2.1 0)) 2 8 with
    | inl q => rw [er] at e; cases e
    | inr r =>
      rw [er] at e
      have e : xb (xb (x_num V (nxV V (nxV V (t_skip V.1 V.2.1 0))) 2 10) fun c => Sum.inr (nxV V (nxV V (nxV V (t_skip V.1 V.2.1 0))), p_start (nI r) (nI c), 0)) (fun r => r_text V 501 r.1 r.2.1 r.2.2 false) = Sum.inr (s1, w1, sim1) := e
      cases ec : x_num V (nxV V (nxV V (t_skip V.1 V.2.1 0))) 2 10 with
      | inl q => rw [ec] at e; cases e
      | inr c =>
        rw [ec] at e
        obtain ⟨-, a2, a3, -⟩ := x_num_ok er
        obtain ⟨-, b2, b3, -⟩ := x_num_ok ec
        have hX := XS_start a2 a3 b2 b3
        exact J_text 501 _ _ 0 false ⟨hX.IB (Nat.zero_le _), IR_start a2 a3 b2 b3⟩ (fun _ => hX) _ _ _ e
  · rw [if_neg c] at e
    cases e
end IOS
