/-! wear is steps -/
def Ki (w w1 : Wd) : Prop := Kp w w1 ∧ w1 12 = w 12 ∧ w1 13 = w 13 ∧ ∀ k, 324 ≤ k → k < 404 → w1 k = w k
def Im (M : Nat) (w : Wd) : Prop := ∃ a b, w 12 = nI a ∧ w 13 = nI b ∧ b ≤ a ∧ a ≤ M ∧ p_sum w 324 (p_rc w) = nI a
section KI
variable {w w1 w2 : Wd} {M : Nat}
theorem Ki.refl : Ki w w := ⟨Kp.refl, rfl, rfl, fun _ _ _ => rfl⟩
theorem Ki.trans (a : Ki w w1) (b : Ki w1 w2) : Ki w w2 := ⟨a.1.trans b.1, b.2.1.trans a.2.1, b.2.2.1.trans a.2.2.1, fun k h1 h2 => (b.2.2.2 k h1 h2).trans (a.2.2.2 k h1 h2)⟩
theorem Ki.u {k : Nat} {v : Int32} (a : Ki w w1) (h : 2 ≤ k ∧ k ≠ 12 ∧ k ≠ 13 ∧ (k < 324 ∨ 404 ≤ k)) : Ki w (upd w1 k v) := ⟨a.1.u h.1, (upd_ne (by omega)).trans a.2.1, (upd_ne (by omega)).trans a.2.2.1, fun j h1 h2 => (upd_ne (by omega)).trans (a.2.2.2 j h1 h2)⟩
theorem sum_cg : ∀ n, (∀ k, k < n → w1 (324 + k) = w (324 + k)) → p_sum w1 324 n = p_sum w 324 n
  | 0, _ => rfl
  | n + 1, h => by
    show p_sum w1 324 n + w1 (324 + n) = p_sum w 324 n + w (324 + n)
    rw [sum_cg n (fun k hk => h k (by omega)), h n (by omega)]
theorem Im.ki (h : Im M w) (k : Ki w w1) (hr : p_rc w ≤ 80) : Im M w1 := by
  obtain ⟨a, b, h1, h2, h3, h4, h5⟩ := h
  exact ⟨a, b, k.2.1.trans h1, k.2.2.1.trans h2, h3, h4, by rw [k.1.rc, sum_cg _ (fun j hj => k.2.2.2 _ (by omega) (by omega))]; exact h5⟩
theorem Im.mono {M2 : Nat} (h : Im M w) (q : M ≤ M2) : Im M2 w := by
  obtain ⟨a, b, h1, h2, h3, h4, h5⟩ := h
  exact ⟨a, b, h1, h2, h3, by omega, h5⟩
theorem Im.imb (h : Im M w) (hM : M < 2 ^ 31) : p_imb w = 0 := by
  obtain ⟨a, b, h1, h2, h3, h4, h5⟩ := h
  unfold p_imb
  rw [h5, h1, h2, pk_sub (Nat.le_refl _), Nat.sub_self, if_pos (show (0 : Int32) ≤ nI 0 by decide), if_pos (nI_le h3 (by omega))]
  rfl
theorem ki_bowl : Ki w (p_bowl w) ∨ 80 ≤ nn w 16 := by
  by_cases q : 80 ≤ nn w 16
  · exact Or.inr q
  · left
    have s : Ki w (p_spl w) := by
      unfold p_spl
      exact (Ki.refl.u (by omega)).u (by omega)
    unfold p_bowl
    split
    · split
      · exact s
      · split
        · exact s
        · unfold p_startle
          split
          · exact s
          · split
            · exact s.u (by omega)
            · exact s.u (by omega)
    · exact ((s.u (by omega)).u (by omega)).u (by omega)
theorem ki_catm : Ki w (p_catm w) := by
  unfold p_catm
  refine Ki.u ?_ (by omega)
  split
  · exact Ki.refl
  · split
    · exact Ki.refl.u (by omega)
    · exact Ki.refl
theorem ki_cat {K B x : Nat} (h : ib_ K B x w) : Ki w (p_cat w) := by
  unfold p_cat
  by_cases c : w 16 = -1 ∨ nn w 17 = 0
  · rw [if_pos c]; exact Ki.refl
  · rw [if_neg c]
    have hc := h.catm (fun q => c (Or.inl q)) (fun q => c (Or.inr q))
    split
    · exact ki_catm
    · refine ki_catm.trans (ki_bowl.resolve_right (fun q => ?_))
      have o := hc.1.2.2.2.2.2.2.2.2.1
      rcases o with o | o
      · exact hc.2 o
      · have hr := hc.1.1.rc.2
        have o2 := o.2
        have : nn (p_catm w) 0 * nn (p_catm w) 1 ≤ 80 := hr
        omega
theorem ki_turn : Ki w (p_turn w) := (Ki.refl.u (by omega)).u (by omega)
theorem ki_slide {t m : Nat} (hst : st_ w) (ht : t < p_rc w) : Ki w (p_slide w t m) := by
  have hr := hst.rc.2
  unfold p_slide
  split
  · exact Ki.refl
  · cases e : p_nb w t m with
    | none => exact Ki.refl
    | some u =>
      have hu := p_nb_lt hst ht e
      show Ki w (if w (164 + u) = 0 then (if p_free w u = true then upd (upd (upd w (164 + t) 0) (164 + u) 1) 23 (w 23 + 1) else w) else w)
      split
      · split
        · exact ((Ki.refl.u (by omega)).u (by omega)).u (by omega)
        · exact Ki.refl
      · exact Ki.refl
theorem sum_up {t : Nat} : ∀ n, (t < n → p_sum (upd w (324 + t) (w (324 + t) + 1)) 324 n = p_sum w 324 n + 1) ∧ (n ≤ t → p_sum (upd w (324 + t) (w (324 + t) + 1)) 324 n = p_sum w 324 n)
  | 0 => ⟨fun h => by omega, fun _ => rfl⟩
  | n + 1 => by
    obtain ⟨a, b⟩ := sum_up (t := t) n
    have e1 : p_sum (upd w (324 + t) (w (324 + t) + 1)) 324 (n + 1) = p_sum (upd w (324 + t) (w (324 + t) + 1)) 324 n + upd w (324 + t) (w (324 + t) + 1) (324 + n) := rfl
    have e2 : p_sum w 324 (n + 1) = p_sum w 324 n + w (324 + n) := rfl
    rw [e1, e2]
    constructor
    · intro h
      by_cases q : n = t
      · subst q
        rw [b (Nat.le_refl _), upd_eq, Int32.add_assoc]
      · rw [a (by omega), upd_ne (by omega), Int32.add_assoc, Int32.add_comm 1, ← Int32.add_assoc]
    · intro h
      rw [b (by omega), upd_ne (by omega)]
/-- a step -/
theorem Im.enter {t : Nat} (h : Im M w) (ht : t < p_rc w) (hr : p_rc w ≤ 80) : Im (M + 1) (p_enter w t) := by
  obtain ⟨a, b, h1, h2, h3, h4, h5⟩ := h
  have k := kp_enter (w := w) (t := t)
  refine ⟨a + 1, b + 1, ?_, ?_, by omega, by omega, ?_⟩
  · unfold p_enter p_count
    rw [upd_ne (by omega), upd_ne (by omega), upd_ne (by omega), upd_eq, upd_ne (by omega), upd_ne (by omega), h1, nI_1]
  · unfold p_enter p_count
    rw [upd_ne (by omega), upd_ne (by omega), upd_eq, upd_ne (by omega), upd_ne (by omega), h2, nI_1]
  · rw [k.rc, sum_cg (w := upd w (324 + t) (w (324 + t) + 1)) (p_rc w) (fun j hj => ?_), (sum_up (p_rc w)).1 ht, h5, nI_1]
    unfold p_enter p_count
    by_cases q : j = t
    · subst q
      rw [upd_eq, upd_eq]
    · rw [upd_ne (by omega), upd_ne (by omega), upd_ne (by omega), upd_ne (by omega), upd_ne (by omega), upd_ne (by omega), upd_ne (by omega)]
theorem Im.walk : ∀ (f M : Nat) (w : Wd), wi_ w → Im M w → Im (M + f) (p_walk f w) := fun f => by
  induction f with
  | zero => exact fun M w _ h => h
  | succ f ih =>
    intro M w hw h
    have hr := hw.1.rc.2
    have tn : Im (M + (f + 1)) (p_walk f (p_turn w)) := (ih M _ hw.turn (h.ki ki_turn hr)).mono (by omega)
    rw [p_walk_s]
    cases e : p_nb w (nn w 8) (p_way w) with
    | none => exact tn
    | some t =>
      have ht := p_nb_lt hw.1 hw.2.2 e
      show Im (M + (f + 1)) (if p_can w (some t) = true then _ else _)
      split
      · have ks := ki_slide (m := p_way w) hw.1 ht
        have h2 : Im (M + 1) (p_enter (p_slide w t (p_way w)) t) := (h.ki ks hr).enter (by rw [ks.1.rc]; exact ht) (by rw [ks.1.rc]; exact hr)
        have hw2 := wi_.step (m := p_way w) hw.1 ht
        have ne : Im (M + (f + 1)) (p_walk f (p_enter (p_slide w t (p_way w)) t)) := (ih (M + 1) _ hw2 h2).mono (by omega)
        split
        · exact ne
        · split
          · exact ne
          · exact (h2.ki ((Ki.refl.u (by omega)).u (by omega)) hw2.1.rc.2).mono (by omega)
      · exact tn
theorem ki_dry : ∀ f k (w : Wd), k + f ≤ 80 → Ki w (p_dryN f k w) := fun f => by
  induction f with
  | zero => exact fun k w _ => Ki.refl
  | succ f ih =>
    intro k w hk
    rw [p_dryN_s]
    have a : Ki w (p_dry1 w k) := by
      unfold p_dry1
      split
      · exact Ki.refl
      · exact Ki.refl.u (by omega)
    exact a.trans (ih _ _ (by omega))
theorem ki_blow : ∀ f k (w : Wd), k + f ≤ 10 → Ki w (p_blowN f k w) := fun f => by
  induction f with
  | zero => exact fun k w _ => Ki.refl
  | succ f ih =>
    intro k w hk
    rw [p_blowN_s]
    have a : Ki w (p_blow1 w k) := by
      unfold p_blow1
      split
      · exact Ki.refl
      · split
        · exact Ki.refl
        · exact Ki.refl.u (by omega)
    exact a.trans (ih _ _ (by omega))
theorem ki_reloc : Ki w (p_reloc w) := by
  unfold p_reloc
  split
  · split
    · exact Ki.refl.u (by omega)
    · exact ((Ki.refl.u (by omega)).u (by omega)).u (by omega)
  · exact Ki.refl
theorem st_walk : ∀ (f : Nat) (w : Wd), wi_ w → st_ (p_walk f w) := fun f => by
  induction f with
  | zero => exact fun w h => h.1
  | succ f ih =>
    intro w hw
    have tn : st_ (p_walk f (p_turn w)) := ih _ hw.turn
    rw [p_walk_s]
    cases e : p_nb w (nn w 8) (p_way w) with
    | none => exact tn
    | some t =>
      have ht := p_nb_lt hw.1 hw.2.2 e
      show st_ (if p_can w (some t) = true then _ else _)
      split
      · have hw2 := wi_.step (m := p_way w) hw.1 ht
        split
        · exact ih _ hw2
        · split
          · exact ih _ hw2
          · exact hw2.1.pause
      · exact tn
theorem Im.night (h : Im M w) (hr : p_rc w ≤ 80) : Im M (p_night w) := by
  have nt : ∀ w1, Ki w w1 → Im M (p_nite w1) := fun w1 k => by
    obtain ⟨a, b, h1, h2, h3, h4, h5⟩ := h.ki k hr
    have kk : Kp w1 (p_nite w1) := kp_nite
    refine ⟨a, 0, ?_, upd_eq, Nat.zero_le _, h4, ?_⟩
    · unfold p_nite
      rw [upd_ne (by omega), upd_ne (by omega), upd_ne (by omega)]; exact h1
    · rw [kk.rc, sum_cg (w := w1) (p_rc w1) (fun j hj => ?_)]
      · exact h5
      · have := k.1.rc
        unfold p_nite
        rw [upd_ne (by omega), upd_ne (by omega), upd_ne (by omega)]
  unfold p_night
  split
  · exact nt w Ki.refl
  · refine nt _ ?_
    unfold p_rec
    split
    · refine ⟨⟨rfl, rfl⟩, rfl, rfl, fun k h1 h2 => ?_⟩
      show (if k = 19 then _ else if 404 ≤ k ∧ k < _ then _ else w k) = w k
      rw [if_neg (by omega), if_neg (by omega)]
    · exact Ki.refl
theorem Im.p70 (h : Im M w) (hst : st_ w) : Im M (p_70 w) := by
  have hr := hst.rc.2
  have hc := hst.c.2.2
  have a : Ki w (p_min (p_dryN (p_rc w) 0 w)) := (ki_dry _ 0 _ (by omega)).trans (Ki.refl.u (by omega))
  have h1 := h.ki a hr
  have r1 : p_rc (p_min (p_dryN (p_rc w) 0 w)) ≤ 80 := by rw [a.1.rc]; exact hr
  have b : ∀ w1, Kp w w1 → Ki w1 (p_99 w1) := fun w1 k => by
    have e := k.nn.2
    exact (ki_blow _ 0 _ (by omega)).trans ki_reloc
  unfold p_70
  split
  · exact h1.ki (b _ a.1) r1
  · have k2 := a.1.trans kp_night
    exact (h1.night r1).ki (b _ k2) (by rw [k2.rc]; exact hr)
theorem Im.pass {K B : Nat} (hK : K < 2 ^ 29) (hi : ib_ K B 0 w) (h : Im M w) : Im (M + 5) (p_pass w) := by
  have hc := hi.cat
  have h1 := h.ki (ki_cat hi) hi.1.rc.2
  have hr := hc.1.rc.2
  unfold p_pass p_25
  split
  · by_cases q : p_cat w 8 = -1
    · rw [if_pos q]; exact (h1.p70 hc.1).mono (by omega)
    · rw [if_neg q]
      have hw : wi_ (p_cat w) := by
        rcases hc.2.2.1.1.1 with o | o
        · exact absurd o q
        · exact ⟨hc.1, o.1, o.2⟩
      have hrs := hc.2.2.2
      obtain ⟨n, hn, en⟩ := tries_n hrs.1 hrs.2.1.1 (by have := hrs.2.1.2.2; omega)
      have e : (p_tries (p_cat w)).toNatClampNeg = n := by rw [en, nI_clamp (by omega)]
      rw [e]
      have h2 := Im.walk n M _ hw h1
      have k2 := kp_walk n (p_cat w)
      have hst2 : st_ (p_walk n (p_cat w)) := st_walk n _ hw
      exact (h2.p70 hst2).mono (by omega)
  · have k3 : Ki (p_cat w) (upd (p_cat w) 11 (p_cat w 11 - 1)) := Ki.refl.u (by omega)
    exact ((h1.ki k3 hr).p70 (hc.1.u (by unfold sk; omega))).mono (by omega)
theorem Im.passN : ∀ (n K B M : Nat) (w : Wd), K + n < 2 ^ 29 → B + 5 * n < 2 ^ 30 → ib_ K B 0 w → Im M w → Im (M + 5 * n) (p_passN n w) := fun n => by
  induction n with
  | zero => exact fun K B M w _ _ _ h => h
  | succ n ih =>
    intro K B M w h1 h2 hi h
    have a := ih (K + 1) (B + 5) (M + 5) (p_pass w) (by omega) (by omega) (hi.pass (by omega) (by omega)) (h.pass (by omega) hi)
    exact a.mono (by omega)
end KI
