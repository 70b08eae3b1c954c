/-! THE TEXT: events in brackets, the whole (r_..) -/
def r_one (V : TV) (rep : Nat → Wd → Nat → XR (Nat × Wd × Nat)) (s : Nat) (w : Wd) (sim : Nat) : XR (Nat × Wd × Nat) := if sgV V s = 23 then rep s w sim else if (sgV V s).val = 2 ∨ (14 ≤ (sgV V s).val ∧ (sgV V s).val ≤ 22) then x_ev V s w sim else Sum.inl (1, s)
def r_evs (V : TV) (ev : Nat → Wd → Nat → XR (Nat × Wd × Nat)) : Nat → Nat → Wd → Nat → XR (Nat × Wd × Nat)
  | 0, s, _, _ => Sum.inl (1, s)
  | f + 1, s, w, sim => xb (ev s w sim) fun r => if sgV V r.1 = 31 then r_evs V ev f (nxV V r.1) r.2.1 r.2.2 else if sgV V r.1 = 33 then Sum.inr r else Sum.inl (1, r.1)
theorem r_evs_s (V : TV) (ev : Nat → Wd → Nat → XR (Nat × Wd × Nat)) (f s : Nat) (w : Wd) (sim : Nat) : r_evs V ev (f + 1) s w sim = xb (ev s w sim) fun r => if sgV V r.1 = 31 then r_evs V ev f (nxV V r.1) r.2.1 r.2.2 else if sgV V r.1 = 33 then Sum.inr r else Sum.inl (1, r.1) := rfl
def r_rep (evs : Wd → Nat → XR (Nat × Wd × Nat)) : Nat → Nat → Wd → Nat → XR (Nat × Wd × Nat)
  | 0, sl, w, sim => Sum.inr (sl, w, sim)
  | m + 1, _, w, sim => xb (evs w sim) fun r => r_rep evs m r.1 r.2.1 r.2.2
theorem r_rep_s (evs : Wd → Nat → XR (Nat × Wd × Nat)) (m sl : Nat) (w : Wd) (sim : Nat) : r_rep evs (m + 1) sl w sim = xb (evs w sim) fun r => r_rep evs m r.1 r.2.1 r.2.2 := rfl
/-- where the body of a "repeat" begins -/
def bod (V : TV) (s : Nat) : Nat := nxV V (nxV V (nxV V s))
def r_brk (V : TV) (ev : Nat → Wd → Nat → XR (Nat × Wd × Nat)) (s : Nat) (w : Wd) (sim : Nat) : XR (Nat × Wd × Nat) := xb (x_num V (nxV V s) 1 5) fun m => if sgV V (nxV V (nxV V s)) = 32 then xb (r_rep (r_evs V ev 501 (bod V s)) m 0 w sim) fun r => Sum.inr (nxV V r.1, r.2.1, r.2.2) else Sum.inl (1, nxV V (nxV V s))
def r_ev (V : TV) : Nat → Nat → Wd → Nat → XR (Nat × Wd × Nat)
  | 0 => r_one V fun s _ _ => Sum.inl (4, s)
  | L + 1 => r_one V (r_brk V (r_ev V L))
def r_text (V : TV) : Nat → Nat → Wd → Nat → Bool → XR (Nat × Wd × Nat)
  | 0, s, _, _, _ => Sum.inl (1, s)
  | f + 1, s, w, sim, beg => if sgV V s = 31 then (if beg = false ∧ 1 ≤ (sgV V (nxV V s)).val ∧ (sgV V (nxV V s)).val ≤ 13 then xb (x_set V (nxV V s) w sim) fun r => r_text V f r.1 r.2.1 r.2.2 false else xb (r_ev V 3 (nxV V s) (if beg = true then w else p_reloc w) sim) fun r => r_text V f r.1 r.2.1 r.2.2 true) else if sgV V s = 36 then Sum.inr (s, if beg = true then w else p_reloc w, sim) else Sum.inl (1, s)
theorem r_text_s (V : TV) (f s : Nat) (w : Wd) (sim : Nat) (beg : Bool) : r_text V (f + 1) s w sim beg = if sgV V s = 31 then (if beg = false ∧ 1 ≤ (sgV V (nxV V s)).val ∧ (sgV V (nxV V s)).val ≤ 13 then xb (x_set V (nxV V s) w sim) fun r => r_text V f r.1 r.2.1 r.2.2 false else xb (r_ev V 3 (nxV V s) (if beg = true then w else p_reloc w) sim) fun r => r_text V f r.1 r.2.1 r.2.2 true) else if sgV V s = 36 then Sum.inr (s, if beg = true then w else p_reloc w, sim) else Sum.inl (1, s) := rfl
def x_floor (V : TV) (s : Nat) : XR (Nat × Wd × Nat) := if sgV V s = 0 then xb (x_num V (nxV V s) 2 8) fun r => xb (x_num V (nxV V (nxV V s)) 2 10) fun c => Sum.inr (nxV V (nxV V (nxV V s)), p_start (nI r) (nI c), 0) else Sum.inl (1, s)
def r_all (V : TV) : XR (Nat × Wd × Nat) := xb (x_floor V (t_skip V.1 V.2.1 0)) fun r => r_text V 501 r.1 r.2.1 r.2.2 false
/-! where a piece ends doesn't hang on the row -/
def PD (A B : XR (Nat × Wd × Nat)) : Prop := ∀ r r', A = Sum.inr r → B = Sum.inr r' → r.1 = r'.1
section PDS
variable {V : TV}
theorem PD.nl {e : Nat × Nat} {B : XR (Nat × Wd × Nat)} : PD (Sum.inl e) B := fun r r' h _ => by cases h
theorem PD.nr {e : Nat × Nat} {A : XR (Nat × Wd × Nat)} : PD A (Sum.inl e) := fun r r' _ h => by cases h
theorem PD.rt {s s' : Nat} {w w' : Wd} {sim sim' : Nat} (h : s = s') : PD (Sum.inr (s, w, sim)) (Sum.inr (s', w', sim')) := fun r r' a b => by
  cases a; cases b; exact h
theorem PD.n {s lo hi lo' hi' : Nat} {k k' : Nat → XR (Nat × Wd × Nat)} (h : ∀ v, PD (k v) (k' v)) : PD (xb (x_num V s lo hi) k) (xb (x_num V s lo' hi') k') := by
  unfold x_num
  by_cases c : t_sg V.1 V.2.1 s = 34
  · rw [if_pos c, if_pos c]
    by_cases c1 : lo ≤ t_nu V.1 V.2.1 s ∧ t_nu V.1 V.2.1 s ≤ hi
    · by_cases c2 : lo' ≤ t_nu V.1 V.2.1 s ∧ t_nu V.1 V.2.1 s ≤ hi'
      · rw [if_pos c1, if_pos c2]; exact h _
      · rw [if_neg c2]; exact PD.nr
    · rw [if_neg c1]; exact PD.nl
  · rw [if_neg c]; exact PD.nl
theorem PD.e1 {c c' : Prop} [Decidable c] [Decidable c'] {e e' : Nat × Nat} {A A' : XR (Nat × Wd × Nat)} (h : PD A A') : PD (if c then Sum.inl e else A) (if c' then Sum.inl e' else A') := by
  by_cases q : c
  · rw [if_pos q]; exact PD.nl
  · rw [if_neg q]
    by_cases q2 : c'
    · rw [if_pos q2]; exact PD.nr
    · rw [if_neg q2]; exact h
theorem PD.e2 {c c' : Prop} [Decidable c] [Decidable c'] {e e' : Nat × Nat} {A A' : XR (Nat × Wd × Nat)} (h : PD A A') : PD (if c then A else Sum.inl e) (if c' then A' else Sum.inl e') := by
  by_cases q : c
  · rw [if_pos q]
    by_cases q2 : c'
    · rw [if_pos q2]; exact h
    · rw [if_neg q2]; exact PD.nr
  · rw [if_neg q]; exact PD.nl
theorem PD.i {c : Prop} [Decidable c] {A A' B B' : XR (Nat × Wd × Nat)} (h1 : c → PD A A') (h2 : ¬ c → PD B B') : PD (if c then A else B) (if c then A' else B') := by
  by_cases q : c
  · rw [if_pos q, if_pos q]; exact h1 q
  · rw [if_neg q, if_neg q]; exact h2 q
theorem PD.b {A A' : XR (Nat × Wd × Nat)} {k k' : Nat × Wd × Nat → XR (Nat × Wd × Nat)} (h : PD A A') (hk : ∀ s w w' sim sim', PD (k (s, w, sim)) (k' (s, w', sim'))) : PD (xb A k) (xb A' k') := by
  cases A with
  | inl e => exact PD.nl
  | inr r =>
    cases A' with
    | inl e => exact PD.nr
    | inr r' =>
      obtain ⟨s, w, sim⟩ := r
      obtain ⟨s', w', sim'⟩ := r'
      have e : s = s' := h _ _ rfl rfl
      subst e
      exact hk s w w' sim sim'
theorem PD_cur {cl : Nat} : ∀ (f s : Nat) (w w' : Wd) (sim sim' : Nat), PD (x_cur V cl f s w sim) (x_cur V cl f s w' sim')
  | 0, _, _, _, _, _ => PD.nl
  | f + 1, s, w, w', sim, sim' => by
    rw [x_cur_s, x_cur_s]
    exact PD.n fun v => PD.e1 (PD.i (fun _ => PD_cur f _ _ _ _ _) (fun _ => PD.rt rfl))
theorem PD_line {q : Fin 37} {s a d len a' d' len' : Nat} {w w' : Wd} {sim sim' : Nat} : PD (x_line V q s w sim a d len) (x_line V q s w' sim' a' d' len') := PD.e1 (PD.rt rfl)
theorem PD_item {q : Fin 37} {s : Nat} {w w' : Wd} {sim sim' : Nat} : PD (x_item V q s w sim) (x_item V q s w' sim') := PD.i (fun _ => PD.n fun _ => PD_line) (fun _ => PD.i (fun _ => PD.n fun _ => PD_line) (fun _ => PD.n fun _ => PD.e2 PD_line))
theorem PD_items {q : Fin 37} : ∀ (f s : Nat) (w w' : Wd) (sim sim' : Nat), PD (x_items V q f s w sim) (x_items V q f s w' sim')
  | 0, _, _, _, _, _ => PD.nl
  | f + 1, s, w, w', sim, sim' => by
    rw [x_items_s, x_items_s]
    exact PD.b PD_item fun s1 w1 w1' m m' => PD.i (fun _ => PD_items f _ _ _ _ _) (fun _ => PD.rt rfl)
theorem PD_mins {s m m' : Nat} {w w' : Wd} {sim sim' : Nat} : PD (x_mins V s w sim m) (x_mins V s w' sim' m') := PD.e1 (PD.rt rfl)
theorem PD_ev {s : Nat} {w w' : Wd} {sim sim' : Nat} : PD (x_ev V s w sim) (x_ev V s w' sim') := by
  unfold x_ev
  refine PD.i (fun _ => PD.n fun _ => PD.rt rfl) fun _ => ?_
  refine PD.i (fun _ => PD.n fun _ => PD.e2 (PD.n fun _ => PD.rt rfl)) fun _ => ?_
  refine PD.i (fun _ => PD.rt rfl) fun _ => ?_
  refine PD.i (fun _ => PD_cur _ _ _ _ _ _) fun _ => ?_
  refine PD.i (fun _ => PD_cur _ _ _ _ _ _) fun _ => ?_
  refine PD.i (fun _ => PD.n fun _ => PD.e1 (PD.rt rfl)) fun _ => ?_
  refine PD.i (fun _ => PD.n fun _ => PD_mins) fun _ => ?_
  exact PD.i (fun _ => PD_mins) fun _ => PD_items _ _ _ _ _ _
theorem PD_one {rep : Nat → Wd → Nat → XR (Nat × Wd × Nat)} (hr : ∀ s w w' sim sim', PD (rep s w sim) (rep s w' sim')) {s : Nat} {w w' : Wd} {sim sim' : Nat} : PD (r_one V rep s w sim) (r_one V rep s w' sim') := PD.i (fun _ => hr _ _ _ _ _) fun _ => PD.i (fun _ => PD_ev) fun _ => PD.nl
theorem PD_evs {ev : Nat → Wd → Nat → XR (Nat × Wd × Nat)} (he : ∀ s w w' sim sim', PD (ev s w sim) (ev s w' sim')) : ∀ (f s : Nat) (w w' : Wd) (sim sim' : Nat), PD (r_evs V ev f s w sim) (r_evs V ev f s w' sim')
  | 0, _, _, _, _, _ => PD.nl
  | f + 1, s, w, w', sim, sim' => by
    rw [r_evs_s, r_evs_s]
    exact PD.b (he _ _ _ _ _) fun s1 w1 w1' m m' => PD.i (fun _ => PD_evs he f _ _ _ _ _) fun _ => PD.i (fun _ => PD.rt rfl) fun _ => PD.nl
theorem PD_rep {evs : Wd → Nat → XR (Nat × Wd × Nat)} (he : ∀ w w' sim sim', PD (evs w sim) (evs w' sim')) : ∀ (m sl : Nat) (w w' : Wd) (sim sim' : Nat), PD (r_rep evs m sl w sim) (r_rep evs m sl w' sim')
  | 0, _, _, _, _, _ => PD.rt rfl
  | m + 1, sl, w, w', sim, sim' => by
    rw [r_rep_s, r_rep_s]
    exact PD.b (he _ _ _ _) fun s1 w1 w1' n n' => PD_rep he m _ _ _ _ _
theorem PD_brk {ev : Nat → Wd → Nat → XR (Nat × Wd × Nat)} (he : ∀ s w w' sim sim', PD (ev s w sim) (ev s w' sim')) (s : Nat) (w w' : Wd) (sim sim' : Nat) : PD (r_brk V ev s w sim) (r_brk V ev s w' sim') := PD.n fun m => PD.i (fun _ => PD.b (PD_rep (fun _ _ _ _ => PD_evs he _ _ _ _ _ _) _ _ _ _ _ _) fun _ _ _ _ _ => PD.rt rfl) fun _ => PD.nl
theorem PD_rev : ∀ (L s : Nat) (w w' : Wd) (sim sim' : Nat), PD (r_ev V L s w sim) (r_ev V L s w' sim')
  | 0, _, _, _, _, _ => PD_one fun _ _ _ _ _ => PD.nl
  | L + 1, _, _, _, _, _ => PD_one (PD_brk (PD_rev L))
/-! what events in brackets keep -/
theorem sg_lt_n {s : Nat} (h : sgV V s ≠ 36) : s < V.2.1 := by
  rcases Nat.lt_or_ge s V.2.1 with q | q
  · exact q
  · exact absurd (if_pos q) h
theorem XI_one {rep : Nat → Wd → Nat → XR (Nat × Wd × Nat)} (hr : ∀ s w sim, s < V.2.1 → IBp sim w → XI V IBp (s + 1) sim (rep s w sim)) {s sim : Nat} {w : Wd} (hI : IBp sim w) : XI V IBp (s + 1) sim (r_one V rep s w sim) := by
  refine XI.ite (fun q => hr _ _ _ (sg_lt_n (by rw [q]; decide)) hI) (fun _ => XI.ite (fun q => XI_ev (sg_lt_n (fun e => by rw [e] at q; revert q; decide)) hI) (fun _ => trivial))
theorem XI.bb {s sim : Nat} {A : XR (Nat × Wd × Nat)} {k : Nat × Wd × Nat → XR (Nat × Wd × Nat)} {s2 : Nat} (h : XI V IBp s sim A) (hk : ∀ s1 w1 sim1, IBp sim1 w1 → s ≤ s1 → s1 ≤ V.2.1 → sim ≤ sim1 → XI V IBp s2 sim (k (s1, w1, sim1))) : XI V IBp s2 sim (xb A k) := by
  cases A with
  | inl e => trivial
  | inr r => exact hk _ _ _ h.1 h.2.1 h.2.2.1 h.2.2.2
theorem XI_evs {ev : Nat → Wd → Nat → XR (Nat × Wd × Nat)} (he : ∀ s w sim, IBp sim w → XI V IBp (s + 1) sim (ev s w sim)) : ∀ (f s : Nat) (w : Wd) (sim : Nat), IBp sim w → XI V IBp (s + 1) sim (r_evs V ev f s w sim)
  | 0, _, _, _, _ => trivial
  | f + 1, s, w, sim, hI => by
    rw [r_evs_s]
    refine XI.bb (he _ _ _ hI) fun s1 w1 sim1 i1 a1 a2 a3 => ?_
    refine XI.ite (fun q => ?_) fun _ => XI.ite (fun _ => XI.ret i1 a1 a2 a3) fun _ => trivial
    have := nxV_b (V := V) (sg_lt_n (by rw [q]; decide))
    exact (XI_evs he f _ _ _ i1).mono (by omega) a3
theorem XI_rep {s0 : Nat} {evs : Wd → Nat → XR (Nat × Wd × Nat)} (he : ∀ w sim, IBp sim w → XI V IBp s0 sim (evs w sim)) : ∀ (m sl : Nat) (w : Wd) (sim : Nat), (s0 ≤ sl ∨ 0 < m) → (m = 0 → sl ≤ V.2.1) → IBp sim w → XI V IBp s0 sim (r_rep evs m sl w sim)
  | 0, sl, w, sim, h0, hl, hI => XI.ret hI (by omega) (hl rfl) (Nat.le_refl _)
  | m + 1, sl, w, sim, h0, hl, hI => by
    rw [r_rep_s]
    exact XI.bb (he _ _ hI) fun s1 w1 sim1 i1 a1 a2 a3 => (XI_rep he m s1 w1 sim1 (Or.inl a1) (fun _ => a2) i1).mono (Nat.le_refl _) a3
theorem XI_brk {ev : Nat → Wd → Nat → XR (Nat × Wd × Nat)} (he : ∀ s w sim, IBp sim w → XI V IBp (s + 1) sim (ev s w sim)) (s : Nat) (w : Wd) (sim : Nat) (hs : s < V.2.1) (hI : IBp sim w) : XI V IBp (s + 1) sim (r_brk V ev s w sim) := by
  have h1 := nxV_b (V := V) hs
  have h2 := nxV_le h1.2
  have h3 := nxV_le h2.2
  refine XI.b fun m hm => XI.ite (fun _ => ?_) fun _ => trivial
  have hm1 := (x_num_ok hm).2.1
  refine XI.bb (s := bod V s + 1) (XI_rep (fun w sim hI => XI_evs he _ _ _ _ hI) m 0 w sim (Or.inr (by omega)) (fun q => by omega) hI) fun s1 w1 sim1 i1 a1 a2 a3 => ?_
  have h4 := nxV_le a2
  unfold bod at a1
  exact XI.ret i1 (show s + 1 ≤ nxV V s1 by omega) h4.2 a3
theorem XI_rev : ∀ (L s : Nat) (w : Wd) (sim : Nat), IBp sim w → XI V IBp (s + 1) sim (r_ev V L s w sim)
  | 0, _, _, _, hI => XI_one (rep := fun s _ _ => Sum.inl (4, s)) (fun _ _ _ _ _ => trivial) hI
  | L + 1, _, _, _, hI => XI_one (XI_brk (XI_rev L)) hI
end PDS
