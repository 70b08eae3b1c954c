/-! a list of bytes gives tokens -/
def Lt (V : TV) (s : Nat) (l : List Nat) : Prop := s + l.length = V.2.1 ∧ ∀ i, i < l.length → V.1 (s + i) = l.getD i 0
/-- leading blanks off -/
def stp : List Nat → List Nat
  | [] => []
  | c :: l => if c = 32 then stp l else c :: l
/-- the first is none that p takes -/
def hn (p : Nat → Bool) : List Nat → Prop
  | [] => True
  | c :: _ => p c = false
theorem gd_app {l m : List Nat} {i : Nat} (h : i < l.length) : (l ++ m).getD i 0 = l.getD i 0 := by
  rw [List.getD_eq_getElem?_getD, List.getD_eq_getElem?_getD, List.getElem?_append_left h]
theorem gd_app2 {l m : List Nat} {i : Nat} : (l ++ m).getD (l.length + i) 0 = m.getD i 0 := by
  rw [List.getD_eq_getElem?_getD, List.getD_eq_getElem?_getD, List.getElem?_append_right (Nat.le_add_right _ _), Nat.add_sub_cancel_left]
section LEX
variable {V : TV} {s : Nat} {l w : List Nat}
theorem Lt.drop (h : Lt V s (w ++ l)) : Lt V (s + w.length) l := by
  obtain ⟨a, b⟩ := h
  rw [List.length_append] at a
  refine ⟨by omega, fun i hi => ?_⟩
  have := b (w.length + i) (by rw [List.length_append]; omega)
  rw [gd_app2] at this
  rw [Nat.add_assoc]; exact this
theorem Lt.c1 {c : Nat} (h : Lt V s (c :: l)) : V.1 s = c ∧ s < V.2.1 := by
  obtain ⟨a, b⟩ := h
  have ha : s + (l.length + 1) = V.2.1 := a
  exact ⟨b 0 (Nat.succ_pos _), by omega⟩
theorem run_ {p : Nat → Bool} {b : Nat → Nat} : ∀ m f s, m ≤ f → (∀ i, i < m → p (b (s + i)) = true) → (m = f ∨ p (b (s + m)) = false) → t_run p b f s = s + m
  | 0, f, s, _, _, h => by
    cases f with
    | zero => rfl
    | succ f =>
      rw [t_run_s]
      rcases h with h | h
      · omega
      · rw [if_neg (by rw [show s + 0 = s from rfl] at h; rw [h]; decide)]; rfl
  | m + 1, 0, s, h, _, _ => by omega
  | m + 1, f + 1, s, h1, h2, h3 => by
    rw [t_run_s, if_pos (show p (b s) = true from h2 0 (by omega)), run_ m f (s + 1) (by omega) (fun i hi => by rw [show s + 1 + i = s + (i + 1) by omega]; exact h2 (i + 1) (by omega)) (by
      rcases h3 with h3 | h3
      · exact Or.inl (by omega)
      · exact Or.inr (by rw [show s + 1 + m = s + (m + 1) by omega]; exact h3))]
    omega
/-- blanks are passed over -/
theorem Lt.skip : ∀ (l : List Nat) (s : Nat), Lt V s l → Lt V (t_skip V.1 V.2.1 s) (stp l)
  | [], s, h => by
    have e : s = V.2.1 := h.1
    rw [e, t_skip_n]
    rw [e] at h
    exact h
  | c :: l, s, h => by
    obtain ⟨c1, c2⟩ := h.c1
    by_cases q : c = 32
    · have e : stp (c :: l) = stp l := if_pos q
      rw [e, t_skip_1 c2 (c1.trans q)]
      exact Lt.skip l (s + 1) (Lt.drop (w := [c]) h)
    · have e : stp (c :: l) = c :: l := if_neg q
      rw [e, t_skip_0 (by rw [c1]; exact q)]
      exact h
theorem hn_at {p : Nat → Bool} (h : Lt V s l) (hp : hn p l) : l.length = 0 ∨ p (V.1 s) = false := by
  cases l with
  | nil => exact Or.inl rfl
  | cons c l => exact Or.inr (by rw [h.c1.1]; exact hp)
/-- the end of a run -/
theorem Lt.run {p : Nat → Bool} (h : Lt V s (w ++ l)) (hw : w.all p = true) (hl : hn p l) : t_run p V.1 (V.2.1 - s) s = s + w.length := by
  have h1 := h.1
  rw [List.length_append] at h1
  refine run_ w.length _ s (by omega) (fun i hi => ?_) ?_
  · have e := h.2 i (by rw [List.length_append]; omega)
    rw [e, gd_app hi]
    have hm := List.all_eq_true.mp hw
    rw [List.getD_eq_getElem?_getD, List.getElem?_eq_getElem hi]
    exact hm _ (List.getElem_mem hi)
  · rcases hn_at h.drop hl with q | q
    · exact Or.inl (by omega)
    · exact Or.inr q
theorem t_w_e : ∀ (w : List Nat) (s : Nat) (l : List Nat), Lt V s (w ++ l) → t_w V.1 s w.length = w
  | [], _, _, _ => rfl
  | c :: w, s, l, h => by
    have h0 : Lt V s (c :: (w ++ l)) := h
    have e := t_w_e w (s + 1) l (Lt.drop (w := [c]) h0)
    show V.1 s :: t_w V.1 (s + 1) w.length = c :: w
    rw [e, h0.c1.1]
theorem LD {c : Nat} (h : t_L c = true) : t_D c = false := by
  unfold t_L at h
  unfold t_D
  simp only [Bool.and_eq_true, decide_eq_true_eq] at h
  rw [decide_eq_false (show ¬ c ≤ 57 by omega), Bool.and_false]
theorem DL {c : Nat} (h : t_D c = true) : t_L c = false := by
  unfold t_D at h
  unfold t_L
  simp only [Bool.and_eq_true, decide_eq_true_eq] at h
  rw [decide_eq_false (show ¬ 97 ≤ c by omega), Bool.false_and]
/-- a word -/
theorem lx_w {c : Nat} (h : Lt V s (c :: w ++ l)) (hw : (c :: w).all t_L = true) (hl : hn t_L l) : sgV V s = t_lk (c :: w) 37 0 ∧ Lt V (nxV V s) (stp l) := by
  have h0 : Lt V s (c :: (w ++ l)) := h
  obtain ⟨c1, c2⟩ := h0.c1
  have hc : t_L c = true := by
    have := List.all_eq_true.mp hw c List.mem_cons_self
    exact this
  have he : t_end V.1 V.2.1 s = s + (c :: w).length := by
    unfold t_end
    rw [c1, if_pos hc]
    exact h.run hw hl
  constructor
  · show t_sg V.1 V.2.1 s = _
    unfold t_sg
    rw [if_neg (by omega), c1, LD hc, if_neg (by decide), he, Nat.add_sub_cancel_left, t_w_e _ _ _ h]
  · show Lt V (t_nx V.1 V.2.1 s) (stp l)
    unfold t_nx
    rw [if_neg (by omega), he]
    exact Lt.skip l _ h.drop
/-- a sign -/
theorem lx_s {c : Nat} (h : Lt V s (c :: l)) (hL : t_L c = false) (hD : t_D c = false) : sgV V s = t_lk [c] 37 0 ∧ Lt V (nxV V s) (stp l) := by
  obtain ⟨c1, c2⟩ := h.c1
  have he : t_end V.1 V.2.1 s = s + 1 := by
    unfold t_end
    rw [c1, hL, hD, if_neg (by decide), if_neg (by decide)]
  constructor
  · show t_sg V.1 V.2.1 s = _
    unfold t_sg
    rw [if_neg (by omega), c1, hD, if_neg (by decide), he, Nat.add_sub_cancel_left]
    show t_lk [V.1 s] 37 0 = _
    rw [c1]
  · show Lt V (t_nx V.1 V.2.1 s) (stp l)
    unfold t_nx
    rw [if_neg (by omega), he]
    exact Lt.skip l _ (Lt.drop (w := [c]) h)
theorem dec_D {m : Nat} (hm : m < 100) : (dec m).all t_D = true ∧ ∃ c d, dec m = c :: d ∧ t_D c = true ∧ c ≠ 32 := by
  have h : ∀ m, m < 100 → (dec m).all t_D = true ∧ t_D ((dec m).getD 0 0) = true ∧ (dec m).length ≠ 0 ∧ (dec m).getD 0 0 ≠ 32 := by decide +kernel
  obtain ⟨h1, h2, h3, h4⟩ := h m hm
  refine ⟨h1, ?_⟩
  cases e : dec m with
  | nil => rw [e] at h3; exact absurd rfl h3
  | cons c d => rw [e] at h2 h4; exact ⟨c, d, rfl, h2, h4⟩
/-- a number -/
theorem lx_d {m : Nat} (hm : m < 100) (h : Lt V s (dec m ++ l)) (hl : hn t_D l) : sgV V s = 34 ∧ t_nu V.1 V.2.1 s = m ∧ Lt V (nxV V s) (stp l) := by
  obtain ⟨hall, c, d, ed, hc, -⟩ := dec_D hm
  have h0 : Lt V s (c :: (d ++ l)) := by rw [ed] at h; exact h
  obtain ⟨c1, c2⟩ := h0.c1
  have he : t_end V.1 V.2.1 s = s + (dec m).length := by
    unfold t_end
    rw [c1, DL hc, if_neg (by decide), if_pos hc]
    exact h.run hall hl
  have hlen := dec_l m
  refine ⟨?_, ?_, ?_⟩
  · show t_sg V.1 V.2.1 s = _
    unfold t_sg
    rw [if_neg (by omega), c1, if_pos hc, he, Nat.add_sub_cancel_left, if_pos (by omega)]
  · unfold t_nu
    rw [he, Nat.add_sub_cancel_left]
    have e0 := h.2
    by_cases q : m < 10
    · have ed : dec m = [48 + m] := if_pos q
      rw [ed] at e0 ⊢
      show t_nv V.1 1 s 0 = m
      rw [t_nv_s]
      have := e0 0 (by rw [List.length_append]; show 0 < 1 + _; omega)
      have this : V.1 s = 48 + m := this
      rw [this]
      show 0 * 10 + (48 + m - 48) = m
      omega
    · have ed : dec m = [48 + m / 10, 48 + m % 10] := if_neg q
      rw [ed] at e0 ⊢
      show t_nv V.1 2 s 0 = m
      rw [t_nv_s, t_nv_s]
      have q0 : V.1 s = 48 + m / 10 := e0 0 (by rw [List.length_append]; show 0 < 2 + _; omega)
      have q1 : V.1 (s + 1) = 48 + m % 10 := e0 1 (by rw [List.length_append]; show 1 < 2 + _; omega)
      rw [q0, q1]
      show (0 * 10 + (48 + m / 10 - 48)) * 10 + (48 + m % 10 - 48) = m
      omega
  · show Lt V (t_nx V.1 V.2.1 s) (stp l)
    unfold t_nx
    rw [if_neg (by omega), he]
    exact Lt.skip l _ h.drop
theorem stp_dec {m : Nat} (hm : m < 100) : stp (dec m ++ l) = dec m ++ l := by
  obtain ⟨-, c, d, ed, -, hc⟩ := dec_D hm
  rw [ed]
  exact if_neg hc
theorem hn_dec {m : Nat} (hm : m < 100) : hn t_L (dec m ++ l) := by
  obtain ⟨-, c, d, ed, hc, -⟩ := dec_D hm
  rw [ed]
  exact DL hc
/-- from s the tokens T, then l -/
def TK (V : TV) : List (Fin 37 × Nat) → List Nat → Nat → Prop
  | [], l, s => Lt V s l
  | (q, n) :: T, l, s => sgV V s = q ∧ (q = 34 → t_nu V.1 V.2.1 s = n) ∧ TK V T l (nxV V s)
theorem TK.app : ∀ (T1 : List (Fin 37 × Nat)) {T2 : List (Fin 37 × Nat)} {l1 l2 : List Nat} {s : Nat}, TK V T1 l1 s → (∀ s, Lt V s l1 → TK V T2 l2 s) → TK V (T1 ++ T2) l2 s
  | [], _, _, _, _, h, f => f _ h
  | (_, _) :: T1, _, _, _, _, h, f => ⟨h.1, h.2.1, TK.app T1 h.2.2 f⟩
theorem TK.wd {c : Nat} {T : List (Fin 37 × Nat)} {q : Fin 37} {l2 : List Nat} (h : Lt V s (c :: w ++ l)) (hw : (c :: w).all t_L = true) (hl : hn t_L l) (e : t_lk (c :: w) 37 0 = q) (hq : q ≠ 34) (f : ∀ s, Lt V s (stp l) → TK V T l2 s) : TK V ((q, 0) :: T) l2 s := by
  obtain ⟨a, b⟩ := lx_w h hw hl
  exact ⟨a.trans e, fun z => absurd z hq, f _ b⟩
theorem TK.sg {c : Nat} {T : List (Fin 37 × Nat)} {q : Fin 37} {l2 : List Nat} (h : Lt V s (c :: l)) (hL : t_L c = false) (hD : t_D c = false) (e : t_lk [c] 37 0 = q) (hq : q ≠ 34) (f : ∀ s, Lt V s (stp l) → TK V T l2 s) : TK V ((q, 0) :: T) l2 s := by
  obtain ⟨a, b⟩ := lx_s h hL hD
  exact ⟨a.trans e, fun z => absurd z hq, f _ b⟩
theorem TK.d {m : Nat} {T : List (Fin 37 × Nat)} {l2 : List Nat} (hm : m < 100) (h : Lt V s (dec m ++ l)) (hl : hn t_D l) (f : ∀ s, Lt V s (stp l) → TK V T l2 s) : TK V ((34, m) :: T) l2 s := by
  obtain ⟨a, b, d⟩ := lx_d hm h hl
  exact ⟨a, fun _ => b, f _ d⟩
end LEX
