/-! what is known of the row while settings are read (XS), and while events take place (ib_) -/
def zk (k : Nat) : Prop := k = 7 ∨ k = 11 ∨ k = 12 ∨ k = 13 ∨ k = 18 ∨ k = 19 ∨ k = 22
def XS (w : Wd) : Prop := st_ w ∧ ti_ w ∧ cu_ w ∧ in_ w 3 1 5 ∧ in_ w 6 0 999 ∧ ot_ w 16 ∧ (in_ w 9 0 9 ∧ nn w 9 < nn w 1) ∧ in_ w 10 0 1 ∧ w 8 = -1 ∧ (∀ k, zk k → w k = 0)
theorem iu2 {w : Wd} {k j a b n : Nat} {v : Int32} (h : in_ w j a b) (hv : v = nI n) (hn : n < 2 ^ 31) (hj : j = k → a ≤ n ∧ n ≤ b) : in_ (upd w k v) j a b := by
  by_cases e : j = k
  · subst e
    have e2 : nn (upd w j v) j = n := nn_of (by rw [upd_eq]; exact hv) hn
    exact ⟨by rw [e2, upd_eq]; exact hv, by rw [e2]; exact (hj rfl).1, by rw [e2]; exact (hj rfl).2⟩
  · exact h.cg (upd_ne e)
theorem z_in {w : Wd} {k b : Nat} (h : w k = 0) : in_ w k 0 b := by
  have e : nn w k = 0 := nn_of (n := 0) h (by omega)
  exact ⟨by rw [e]; exact h, Nat.zero_le _, by omega⟩
theorem XS.ib {w : Wd} (h : XS w) : ib_ 0 0 0 w := by
  obtain ⟨hs, ht, hc, h3, h6, h16, ⟨h9, h9b⟩, h10, h8, hz⟩ := h
  have hr := hs.r
  have hl := hs.l
  have z7 := hz 7 (by unfold zk; omega)
  have n7 : nn w 7 = 0 := nn_of (n := 0) z7 (by omega)
  have z22 := hz 22 (by unfold zk; omega)
  have n22 : nn w 22 = 0 := nn_of (n := 0) z22 (by omega)
  have z18 := hz 18 (by unfold zk; omega)
  have n18 : nn w 18 = 0 := nn_of (n := 0) z18 (by omega)
  have z19 := hz 19 (by unfold zk; omega)
  have n19 : nn w 19 = 0 := nn_of (n := 0) z19 (by omega)
  have hm : 0 < nn w 0 * nn w 2 := Nat.mul_pos (by omega) (by omega)
  refine ⟨hs, ht, ⟨⟨Or.inl h8, ⟨h9.1, h9b⟩, fun q => absurd h8 q, h10, z_in (hz 11 (by unfold zk; omega))⟩, fun q => ⟨by rw [n22]; exact z22, by rw [n22]; exact q⟩⟩, h3, h6, ⟨by rw [n7]; exact z7, by rw [n7]; omega⟩, z_in (hz 12 (by unfold zk; omega)), z_in (hz 13 (by unfold zk; omega)), h16, ⟨by rw [n18]; exact z18, Or.inr n18⟩, z_in z19, hc, fun k hk => by rw [n19] at hk; omega⟩
def kb (k n : Nat) : Prop := (k = 2 → 1 ≤ n ∧ n ≤ 20) ∧ (k = 4 → 1 ≤ n ∧ n ≤ 99) ∧ (k = 5 → n ≤ 9) ∧ (k = 20 → n ≤ 99) ∧ (k = 21 → n ≤ 20) ∧ (36 ≤ k → k < 46 → n ≤ 60) ∧ k ≠ 0 ∧ k ≠ 1 ∧ k ≠ 17 ∧ k ≠ 24 ∧ ¬ (54 ≤ k ∧ k < 84)
theorem st_.key {w : Wd} {k n : Nat} {v : Int32} (h : st_ w) (hv : v = nI n) (hn : n < 2 ^ 30) (hk : kb k n) : st_ (upd w k v) := by
  obtain ⟨h0, h1, h2, h4, h5, h17, h20, h21, h24, hd, hr⟩ := h
  obtain ⟨k2, k4, k5, k20, k21, kd, n0, n1, n17, n24, nr⟩ := hk
  refine ⟨h0.cg (upd_ne (by omega)), h1.cg (upd_ne (by omega)), iu2 h2 hv (by omega) (fun e => k2 e.symm), iu2 h4 hv (by omega) (fun e => k4 e.symm), iu2 h5 hv (by omega) (fun e => ⟨Nat.zero_le _, k5 e.symm⟩), h17.cg (upd_ne (by omega)), iu2 h20 hv (by omega) (fun e => ⟨Nat.zero_le _, k20 e.symm⟩), iu2 h21 hv (by omega) (fun e => ⟨Nat.zero_le _, k21 e.symm⟩), h24.cg (upd_ne (by omega)), fun j hj => iu2 (hd j hj) hv (by omega) (fun e => ⟨Nat.zero_le _, kd (by omega) (by omega)⟩), fun j hj => ?_⟩
  rw [nn_cg (upd_ne (by omega) : upd w k v 17 = w 17)] at hj
  have := h17.2.2
  exact (hr j hj).cg (upd_ne (by omega))
theorem XS.u1 {w : Wd} {k n : Nat} {v : Int32} (h : XS w) (hv : v = nI n) (hn : n < 2 ^ 30) (hs : st_ (upd w k v)) (hk : k ≠ 0 ∧ k ≠ 1 ∧ k ≠ 8 ∧ k < 84 ∧ ¬ zk k) (h3 : k = 3 → 1 ≤ n ∧ n ≤ 5) (h6 : k = 6 → n ≤ 999) (h16 : k = 16 → n < nn w 0 * nn w 1) (h9 : k = 9 → n < nn w 1) (h10 : k = 10 → n ≤ 1) (hc : 26 ≤ k → k < 36 → n ≤ 1) : XS (upd w k v) := by
  obtain ⟨hs0, ht, hcu, g3, g6, g16, ⟨g9, g9b⟩, g10, g8, gz⟩ := h
  obtain ⟨k0, k1, k8, k84, kz⟩ := hk
  have hcc := hs0.c
  have e0 : upd w k v 0 = w 0 := upd_ne (by omega)
  have e1 : upd w k v 1 = w 1 := upd_ne (by omega)
  refine ⟨hs, ht.lo (by omega), fun j hj => iu2 (hcu j hj) hv (by omega) (fun e => ⟨Nat.zero_le _, hc (by omega) (by omega)⟩), iu2 g3 hv (by omega) (fun e => h3 e.symm), iu2 g6 hv (by omega) (fun e => ⟨Nat.zero_le _, h6 e.symm⟩), ?_, ⟨iu2 g9 hv (by omega) (fun e => ⟨Nat.zero_le _, by have := h9 e.symm; omega⟩), ?_⟩, iu2 g10 hv (by omega) (fun e => ⟨Nat.zero_le _, h10 e.symm⟩), (upd_ne (by omega)).trans g8, fun j hj => (upd_ne (w := w) (k := k) (j := j) (v := v) (fun e => kz (e ▸ hj))).trans (gz j hj)⟩
  · by_cases e : k = 16
    · subst e
      have e2 : nn (upd w 16 v) 16 = n := nn_of (by rw [upd_eq]; exact hv) (by omega)
      exact Or.inr ⟨by rw [e2, upd_eq]; exact hv, by rw [e2, nn_cg e0, nn_cg e1]; exact h16 rfl⟩
    · exact g16.cg (upd_ne (by omega)) e0 e1
  · rw [nn_cg e1]
    by_cases e : k = 9
    · subst e
      rw [nn_of (by rw [upd_eq]; exact hv) (by omega)]
      exact h9 rfl
    · rw [nn_cg (upd_ne (by omega) : upd w k v 9 = w 9)]
      exact g9b
/-- only tiles have changed -/
theorem XS.ti {w w1 : Wd} (h : XS w) (ht : ti_ w1) (e : ∀ k, k < 84 ∨ 404 ≤ k → w1 k = w k) : XS w1 := by
  obtain ⟨hs0, -, hcu, g3, g6, g16, ⟨g9, g9b⟩, g10, g8, gz⟩ := h
  refine ⟨hs0.cg (fun k hk => e k (by unfold sk at hk; omega)), ht, fun j hj => (hcu j hj).cg (e _ (by omega)), g3.cg (e _ (by omega)), g6.cg (e _ (by omega)), g16.cg (e _ (by omega)) (e _ (by omega)) (e _ (by omega)), ⟨g9.cg (e _ (by omega)), ?_⟩, g10.cg (e _ (by omega)), (e _ (by omega)).trans g8, fun j hj => (e _ (by unfold zk at hj; omega)).trans (gz j hj)⟩
  rw [nn_cg (e 9 (by omega)), nn_cg (e 1 (by omega))]
  exact g9b
theorem ib_.ti {K B x : Nat} {w w1 : Wd} (h : ib_ K B x w) (ht : ti_ w1) (e : ∀ k, k < 84 ∨ 404 ≤ k → w1 k = w k) : ib_ K B x w1 := by
  obtain ⟨hs, -, ⟨hq, hw⟩, hr⟩ := h
  exact ⟨hs.cg (fun k hk => e k (by unfold sk at hk; omega)), ht, ⟨hq.cg (e _ (by omega)) (e _ (by omega)) (e _ (by omega)) (e _ (by omega)) (e _ (by omega)) (e _ (by omega)), hw.cg (e _ (by omega)) (e _ (by omega))⟩, hr.cg (fun k hk => e k (by unfold rk at hk; omega))⟩
/-! a tile's change -/
theorem x_h1_lo {q : Fin 37} {w : Wd} {t k : Nat} (ht : t < 80) (hk : k < 84 ∨ 404 ≤ k) : x_h1 q w t k = w k := by
  unfold x_h1
  split
  · split
    · exact upd_ne (by omega)
    · split
      · exact upd_ne (by omega)
      · exact upd_ne (by omega)
  · rfl
theorem ti_.h1 {q : Fin 37} {w : Wd} {t : Nat} (h : ti_ w) (ht : t < nn w 0 * nn w 1) (h8 : t < 80) : ti_ (x_h1 q w t) := by
  unfold x_h1
  split
  · split
    · exact h.rug (n := 1) ht h8 rfl (by omega)
    · split
      · exact h.bowl (n := 1) ht h8 rfl (by omega)
      · exact h.spill (n := 0) ht h8 rfl (by omega)
  · exact h
theorem x_hd_inv {q : Fin 37} {a d : Nat} {w : Wd} (h : ti_ w) (h80 : nn w 0 * nn w 1 ≤ 80) : ∀ len, (∀ i, i < len → a + i * d < nn w 0 * nn w 1) → ti_ (x_hd q a d len w) ∧ ∀ k, k < 84 ∨ 404 ≤ k → x_hd q a d len w k = w k
  | 0, _ => ⟨h, fun _ _ => rfl⟩
  | i + 1, hi => by
    obtain ⟨g1, g2⟩ := x_hd_inv h h80 i (fun j hj => hi j (by omega))
    have hlt := hi i (by omega)
    have e0 : nn (x_hd q a d i w) 0 = nn w 0 := nn_cg (g2 0 (by omega))
    have e1 : nn (x_hd q a d i w) 1 = nn w 1 := nn_cg (g2 1 (by omega))
    rw [x_hd_s]
    exact ⟨g1.h1 (by rw [e0, e1]; exact hlt) (by omega), fun k hk => (x_h1_lo (by omega) hk).trans (g2 k hk)⟩
/-! numbers and lines -/
section XN
variable {V : TV}
theorem x_num_ok {s lo hi v : Nat} (h : x_num V s lo hi = Sum.inr v) : sgV V s = 34 ∧ lo ≤ v ∧ v ≤ hi ∧ v < 1000 ∧ s < V.2.1 := by
  unfold x_num at h
  by_cases c : t_sg V.1 V.2.1 s = 34
  · rw [if_pos c] at h
    by_cases c2 : lo ≤ t_nu V.1 V.2.1 s ∧ t_nu V.1 V.2.1 s ≤ hi
    · rw [if_pos c2] at h
      cases h
      exact ⟨c, c2.1, c2.2, t_nu_b c, (t_sg34 c).1⟩
    · rw [if_neg c2] at h; cases h
  · rw [if_neg c] at h; cases h
/-- what a piece of the text leaves: P of the row, the place moved on from s, the minutes not less -/
def XI (V : TV) (P : Nat → Wd → Prop) (s sim : Nat) : XR (Nat × Wd × Nat) → Prop
  | Sum.inl _ => True
  | Sum.inr (s1, w1, sim1) => P sim1 w1 ∧ s ≤ s1 ∧ s1 ≤ V.2.1 ∧ sim ≤ sim1
theorem XI.b {P : Nat → Wd → Prop} {s sim : Nat} {α : Type} {r : XR α} {k : α → XR (Nat × Wd × Nat)} (h : ∀ v, r = Sum.inr v → XI V P s sim (k v)) : XI V P s sim (xb r k) := by
  cases r with
  | inl e => trivial
  | inr v => exact h v rfl
theorem XI.mono {P : Nat → Wd → Prop} {s s2 sim sim2 : Nat} {r : XR (Nat × Wd × Nat)} (hs : s ≤ s2) (hm : sim ≤ sim2) (h : XI V P s2 sim2 r) : XI V P s sim r := by
  cases r with
  | inl e => trivial
  | inr v => exact ⟨h.1, by have := h.2.1; omega, h.2.2.1, by have := h.2.2.2; omega⟩
theorem XI.ret {P : Nat → Wd → Prop} {s s1 sim sim1 : Nat} {w : Wd} (h : P sim1 w) (h1 : s ≤ s1) (h2 : s1 ≤ V.2.1) (h3 : sim ≤ sim1) : XI V P s sim (Sum.inr (s1, w, sim1)) := ⟨h, h1, h2, h3⟩
theorem XI.ite {P : Nat → Wd → Prop} {s sim : Nat} {c : Prop} [Decidable c] {a b : XR (Nat × Wd × Nat)} (h1 : c → XI V P s sim a) (h2 : ¬ c → XI V P s sim b) : XI V P s sim (if c then a else b) := by
  by_cases q : c
  · rw [if_pos q]; exact h1 q
  · rw [if_neg q]; exact h2 q
theorem nxV_b {s : Nat} (h : s < V.2.1) : s + 1 ≤ nxV V s ∧ nxV V s ≤ V.2.1 := t_nx_b h
theorem nxV_le {s : Nat} (h : s ≤ V.2.1) : s ≤ nxV V s ∧ nxV V s ≤ V.2.1 := t_nx_le h
def XSp (_ : Nat) (w : Wd) : Prop := XS w
def IBp (m : Nat) (w : Wd) : Prop := ib_ m (5 * m) 0 w ∧ m ≤ 2000
/-- a line of tiles lies on the floor -/
theorem row_in {w : Wd} {r : Nat} (hs : st_ w) (hr : r ≤ nn w 0 - 1) : ∀ i, i < nn w 1 → r * nn w 1 + i * 1 < nn w 0 * nn w 1 := fun i hi => by
  have h0 := hs.r
  have h2 : (r + 1) * nn w 1 ≤ nn w 0 * nn w 1 := Nat.mul_le_mul_right _ (by omega)
  rw [Nat.succ_mul] at h2
  omega
theorem col_in {w : Wd} {c : Nat} (hs : st_ w) (hc : c ≤ nn w 1 - 1) : ∀ i, i < nn w 0 → c + i * nn w 1 < nn w 0 * nn w 1 := fun i hi => by
  have h1 := hs.c
  have h2 : (i + 1) * nn w 1 ≤ nn w 0 * nn w 1 := Nat.mul_le_mul_right _ (by omega)
  rw [Nat.succ_mul] at h2
  omega
theorem XI_line {P : Nat → Wd → Prop} (hP : ∀ m w w1, P m w → ti_ w1 → (∀ k, k < 84 ∨ 404 ≤ k → w1 k = w k) → P m w1) {q : Fin 37} {s sim a d len : Nat} {w : Wd} (hs : s ≤ V.2.1) (hi : P sim w) (ht : ti_ w) (h80 : nn w 0 * nn w 1 ≤ 80) (hl : ∀ i, i < len → a + i * d < nn w 0 * nn w 1) : XI V P s sim (x_line V q s w sim a d len) := by
  unfold x_line
  split
  · trivial
  · obtain ⟨g1, g2⟩ := x_hd_inv (q := q) ht h80 len hl
    have := nxV_le hs
    exact XI.ret (hP _ _ _ hi g1 g2) this.1 this.2 (Nat.le_refl _)
theorem XI_item {P : Nat → Wd → Prop} (hP : ∀ m w w1, P m w → ti_ w1 → (∀ k, k < 84 ∨ 404 ≤ k → w1 k = w k) → P m w1) (hQ : ∀ m w, P m w → st_ w ∧ ti_ w) {q : Fin 37} {s sim : Nat} {w : Wd} (hs : s ≤ V.2.1) (hi : P sim w) : XI V P s sim (x_item V q s w sim) := by
  obtain ⟨hst, ht⟩ := hQ _ _ hi
  have h80 := hst.rc.2
  have hn := nxV_le hs
  unfold x_item
  split
  · exact XI.b fun v hv => (XI_line hP hn.2 hi ht h80 (row_in hst (x_num_ok hv).2.2.1)).mono hn.1 (Nat.le_refl _)
  · split
    · exact XI.b fun v hv => (XI_line hP hn.2 hi ht h80 (col_in hst (x_num_ok hv).2.2.1)).mono hn.1 (Nat.le_refl _)
    · refine XI.b fun v hv => ?_
      split
      · refine XI_line hP hs hi ht h80 (fun i hi => ?_)
        have h1 := (x_num_ok hv).2.2.1
        have h2 : p_rc w = nn w 0 * nn w 1 := rfl
        have h3 := hst.rc.1
        omega
      · trivial
theorem XI_items {P : Nat → Wd → Prop} (hP : ∀ m w w1, P m w → ti_ w1 → (∀ k, k < 84 ∨ 404 ≤ k → w1 k = w k) → P m w1) (hQ : ∀ m w, P m w → st_ w ∧ ti_ w) {q : Fin 37} : ∀ (f s sim : Nat) (w : Wd), s ≤ V.2.1 → P sim w → XI V P s sim (x_items V q f s w sim)
  | 0, _, _, _, _, _ => trivial
  | f + 1, s, sim, w, hs, hi => by
    rw [x_items_s]
    refine XI.b fun r hr => ?_
    have g := XI_item (V := V) hP hQ (q := q) hs hi
    rw [hr] at g
    obtain ⟨g1, g2, g3, g4⟩ := g
    split
    · exact (XI_items hP hQ f _ _ _ g3 g1).mono g2 g4
    · exact ⟨g1, g2, g3, g4⟩
theorem XSp.t : ∀ m w w1, XSp m w → ti_ w1 → (∀ k, k < 84 ∨ 404 ≤ k → w1 k = w k) → XSp m w1 := fun _ _ _ h => XS.ti h
theorem IBp.t : ∀ m w w1, IBp m w → ti_ w1 → (∀ k, k < 84 ∨ 404 ≤ k → w1 k = w k) → IBp m w1 := fun _ _ _ h a b => ⟨h.1.ti a b, h.2⟩
theorem XSp.q : ∀ m w, XSp m w → st_ w ∧ ti_ w := fun _ _ h => ⟨h.1, h.2.1⟩
theorem IBp.q : ∀ m w, IBp m w → st_ w ∧ ti_ w := fun _ _ h => ⟨h.1.1, h.1.2.1⟩
theorem XI_cur {P : Nat → Wd → Prop} {cl : Nat} (hP : ∀ m w c, P m w → c < nn w 1 → P m (upd w (26 + c) (nI cl))) (hQ : ∀ m w, P m w → st_ w) : ∀ (f s sim : Nat) (w : Wd), s ≤ V.2.1 → P sim w → XI V P s sim (x_cur V cl f s w sim)
  | 0, _, _, _, _, _ => trivial
  | f + 1, s, sim, w, hs, hi => by
    have hn := nxV_le hs
    rw [x_cur_s]
    refine XI.b fun v hv => ?_
    have hc := (hQ _ _ hi).c
    have hv1 := (x_num_ok hv).2.2.1
    have g := hP _ _ v hi (by omega)
    split
    · trivial
    · split
      · exact (XI_cur hP hQ f _ _ _ hn.2 g).mono hn.1 (Nat.le_refl _)
      · exact XI.ret g hn.1 hn.2 (Nat.le_refl _)
/-! settings -/
theorem XI_nset {s k lo hi : Nat} {w : Wd} {sim : Nat} (hs : s ≤ V.2.1) (h : XS w) (hk : ∀ v, lo ≤ v → v ≤ hi → kb k v) (hz : k ≠ 8 ∧ k < 84 ∧ ¬ zk k ∧ k ≠ 16 ∧ k ≠ 9 ∧ k ≠ 10 ∧ ¬ (26 ≤ k ∧ k < 36)) (h3 : k = 3 → 1 ≤ lo ∧ hi ≤ 5) (h6 : k = 6 → hi ≤ 999) : XI V XSp s sim (x_nset V k lo hi s w sim) := by
  have hn := nxV_le hs
  refine XI.b fun v hv => XI.ret ?_ hn.1 hn.2 (Nat.le_refl _)
  obtain ⟨-, v1, v2, v3, -⟩ := x_num_ok hv
  have hkk := hk v v1 v2
  exact h.u1 (n := v) rfl (by omega) (h.1.key rfl (by omega) hkk) ⟨hkk.2.2.2.2.2.2.1, hkk.2.2.2.2.2.2.2.1, by omega, by omega, hz.2.2.1⟩ (fun e => by have := h3 e; omega) (fun e => by have := h6 e; omega) (fun e => by omega) (fun e => by omega) (fun e => by omega) (fun e1 e2 => by omega)
theorem XI_walk {s sim : Nat} {w : Wd} (hs : s ≤ V.2.1) (h : XS w) : XI V XSp s sim (x_walk V s w sim) := by
  have hn := nxV_le hs
  have hn2 := nxV_le hn.2
  refine XI.b fun v hv => ?_
  obtain ⟨-, v1, v2, v3, -⟩ := x_num_ok hv
  have hc := h.1.c
  have g : ∀ m, m ≤ 1 → XS (upd (upd w 9 (nI v)) 10 (nI m)) := fun m hm => by
    have g1 : XS (upd w 9 (nI v)) := h.u1 (n := v) rfl (by omega) (h.1.u (by unfold sk; omega)) (by unfold zk; omega) (fun e => by omega) (fun e => by omega) (fun e => by omega) (fun e => by omega) (fun e => by omega) (fun e1 e2 => by omega)
    exact g1.u1 (n := m) rfl (by omega) (g1.1.u (by unfold sk; omega)) (by unfold zk; omega) (fun e => by omega) (fun e => by omega) (fun e => by omega) (fun e => by omega) (fun e => by omega) (fun e1 e2 => by omega)
  split
  · exact XI.ret (g 0 (by omega)) (by omega) hn2.2 (Nat.le_refl _)
  · split
    · exact XI.ret (g 1 (by omega)) (by omega) hn2.2 (Nat.le_refl _)
    · trivial
theorem x_mv_lt {q : Fin 37} {m : Nat} (h : x_mv q = some m) : m < 5 := by
  unfold x_mv at h
  split at h
  · cases h; omega
  · split at h
    · cases h; omega
    · split at h
      · cases h; omega
      · split at h
        · cases h; omega
        · split at h
          · cases h; omega
          · cases h
theorem XS.push {w : Wd} {k m : Nat} (h : XS w) (hk : nn w 17 = k) (h30 : k < 30) (hm : m < 5) : XS (p_push w k m) := by
  have e : ∀ j, j ≠ 17 → j ≠ 54 + k → p_push w k m j = w j := fun j a b => by unfold p_push; rw [upd_ne a, upd_ne b]
  have e17 : nn (p_push w k m) 17 = k + 1 := nn_of upd_eq (by omega)
  obtain ⟨⟨h0, h1, h2, h4, h5, h17, h20, h21, h24, hd, hr⟩, ht, hcu, g3, g6, g16, ⟨g9, g9b⟩, g10, g8, gz⟩ := h
  refine ⟨⟨h0.cg (e _ (by omega) (by omega)), h1.cg (e _ (by omega) (by omega)), h2.cg (e _ (by omega) (by omega)), h4.cg (e _ (by omega) (by omega)), h5.cg (e _ (by omega) (by omega)), ⟨by rw [e17]; exact upd_eq, by omega, by omega⟩, h20.cg (e _ (by omega) (by omega)), h21.cg (e _ (by omega) (by omega)), h24.cg (e _ (by omega) (by omega)), fun j hj => (hd j hj).cg (e _ (by omega) (by omega)), fun j hj => ?_⟩, ht.cg (e _ (by omega) (by omega)) (e _ (by omega) (by omega)) (fun j _ _ => e _ (by omega) (by omega)), fun j hj => (hcu j hj).cg (e _ (by omega) (by omega)), g3.cg (e _ (by omega) (by omega)), g6.cg (e _ (by omega) (by omega)), g16.cg (e _ (by omega) (by omega)) (e _ (by omega) (by omega)) (e _ (by omega) (by omega)), ⟨g9.cg (e _ (by omega) (by omega)), ?_⟩, g10.cg (e _ (by omega) (by omega)), (e _ (by omega) (by omega)).trans g8, fun j hj => (e _ (by unfold zk at hj; omega) (by unfold zk at hj; omega)).trans (gz j hj)⟩
  · rw [e17] at hj
    by_cases c : j = k
    · subst c
      exact in_.of (n := m) (by unfold p_push; rw [upd_ne (by omega), upd_eq]) (by omega) (by omega) (by omega)
    · exact (hr j (by omega)).cg (e _ (by omega) (by omega))
  · rw [nn_cg (e 9 (by omega) (by omega)), nn_cg (e 1 (by omega) (by omega))]
    exact g9b
theorem p_m0_e {w : Wd} {j : Nat} (h : j ≠ 17 ∧ ¬ (54 ≤ j ∧ j < 84)) : p_m0 w j = w j := by
  unfold p_m0
  rw [if_neg h.1, if_neg h.2]
theorem XS.m0 {w : Wd} (h : XS w) : XS (p_m0 w) ∧ nn (p_m0 w) 17 = 0 := by
  have e17 : nn (p_m0 w) 17 = 0 := nn_of (n := 0) (if_pos rfl) (by omega)
  obtain ⟨⟨h0, h1, h2, h4, h5, h17, h20, h21, h24, hd, hr⟩, ht, hcu, g3, g6, g16, ⟨g9, g9b⟩, g10, g8, gz⟩ := h
  refine ⟨⟨⟨h0.cg (p_m0_e (by omega)), h1.cg (p_m0_e (by omega)), h2.cg (p_m0_e (by omega)), h4.cg (p_m0_e (by omega)), h5.cg (p_m0_e (by omega)), z_in (if_pos rfl), h20.cg (p_m0_e (by omega)), h21.cg (p_m0_e (by omega)), h24.cg (p_m0_e (by omega)), fun j hj => (hd j hj).cg (p_m0_e (by omega)), fun j hj => by rw [e17] at hj; omega⟩, ht.cg (p_m0_e (by omega)) (p_m0_e (by omega)) (fun j _ _ => p_m0_e (by omega)), fun j hj => (hcu j hj).cg (p_m0_e (by omega)), g3.cg (p_m0_e (by omega)), g6.cg (p_m0_e (by omega)), g16.cg (p_m0_e (by omega)) (p_m0_e (by omega)) (p_m0_e (by omega)), ⟨g9.cg (p_m0_e (by omega)), ?_⟩, g10.cg (p_m0_e (by omega)), (p_m0_e (by omega)).trans g8, fun j hj => (p_m0_e (by unfold zk at hj; omega)).trans (gz j hj)⟩, e17⟩
  rw [nn_cg (p_m0_e (by omega) : p_m0 w 9 = w 9), nn_cg (p_m0_e (by omega) : p_m0 w 1 = w 1)]
  exact g9b
theorem XI_route : ∀ (f k s sim : Nat) (w : Wd), k + f = 31 → s ≤ V.2.1 → XS w → nn w 17 = k → XI V XSp s sim (x_route V f k s w sim)
  | 0, k, s, sim, w, hk, hs, h, h17 => XI.ret h (Nat.le_refl _) hs (Nat.le_refl _)
  | f + 1, k, s, sim, w, hk, hs, h, h17 => by
    rw [x_route_s]
    cases hm : x_mv (sgV V s) with
    | none => exact XI.ret h (Nat.le_refl _) hs (Nat.le_refl _)
    | some m =>
      have hn := nxV_le hs
      show XI V XSp s sim (if k = 30 then Sum.inl (4, s) else x_route V f (k + 1) (nxV V s) (p_push w k m) sim)
      split
      · trivial
      · exact (XI_route f (k + 1) _ sim _ (by omega) hn.2 (h.push h17 (by omega) (x_mv_lt hm)) (nn_of upd_eq (by omega))).mono hn.1 (Nat.le_refl _)
theorem XI_cat {s sim : Nat} {w : Wd} (hs : s ≤ V.2.1) (h : XS w) : XI V XSp s sim (x_cat V s w sim) := by
  have hn := nxV_le hs
  refine XI.b fun v hv => ?_
  obtain ⟨-, v1, v2, v3, -⟩ := x_num_ok hv
  have h4 := h.1.rc
  have h2 : p_rc w = nn w 0 * nn w 1 := rfl
  have g1 : XS (upd w 16 (nI v)) := h.u1 (n := v) rfl (by omega) (h.1.u (by unfold sk; omega)) (by unfold zk; omega) (fun e => by omega) (fun e => by omega) (fun e => by omega) (fun e => by omega) (fun e => by omega) (fun e1 e2 => by omega)
  exact (XI_route 31 0 _ sim _ rfl hn.2 g1.m0.1 g1.m0.2).mono hn.1 (Nat.le_refl _)
theorem XI_drau {s sim : Nat} {w : Wd} (hs : s ≤ V.2.1) (h : XS w) : XI V XSp s sim (x_drau V s w sim) := by
  have hn := nxV_le hs
  have hn2 := nxV_le hn.2
  refine XI.b fun c hc => XI.b fun v hv => XI.ret ?_ (by omega) hn2.2 (Nat.le_refl _)
  obtain ⟨-, c1, c2, c3, -⟩ := x_num_ok hc
  obtain ⟨-, v1, v2, v3, -⟩ := x_num_ok hv
  have hcc := h.1.c
  exact h.u1 (n := v) rfl (by omega) (h.1.key rfl (by omega) (by unfold kb; omega)) (by unfold zk; omega) (fun e => by omega) (fun e => by omega) (fun e => by omega) (fun e => by omega) (fun e => by omega) (fun e1 e2 => by omega)
theorem XS.cld {w : Wd} {a z : Nat} (h : XS w) (h4 : nn w 24 < 4) : XS (p_cld w a z) := by
  have e : ∀ j, j ≠ 24 → j ≠ 46 + 2 * nn w 24 → j ≠ 47 + 2 * nn w 24 → p_cld w a z j = w j := fun j b1 b2 b3 => by unfold p_cld; rw [upd_ne b1, upd_ne b3, upd_ne b2]
  have e24 : nn (p_cld w a z) 24 = nn w 24 + 1 := nn_of upd_eq (by omega)
  obtain ⟨⟨h0, h1, h2, h4', h5, h17, h20, h21, h24, hd, hr⟩, ht, hcu, g3, g6, g16, ⟨g9, g9b⟩, g10, g8, gz⟩ := h
  have h17b := h17.2.2
  refine ⟨⟨h0.cg (e _ (by omega) (by omega) (by omega)), h1.cg (e _ (by omega) (by omega) (by omega)), h2.cg (e _ (by omega) (by omega) (by omega)), h4'.cg (e _ (by omega) (by omega) (by omega)), h5.cg (e _ (by omega) (by omega) (by omega)), h17.cg (e _ (by omega) (by omega) (by omega)), h20.cg (e _ (by omega) (by omega) (by omega)), h21.cg (e _ (by omega) (by omega) (by omega)), ⟨by rw [e24]; exact upd_eq, by omega, by omega⟩, fun j hj => (hd j hj).cg (e _ (by omega) (by omega) (by omega)), fun j hj => ?_⟩, ht.cg (e _ (by omega) (by omega) (by omega)) (e _ (by omega) (by omega) (by omega)) (fun j _ _ => e _ (by omega) (by omega) (by omega)), fun j hj => (hcu j hj).cg (e _ (by omega) (by omega) (by omega)), g3.cg (e _ (by omega) (by omega) (by omega)), g6.cg (e _ (by omega) (by omega) (by omega)), g16.cg (e _ (by omega) (by omega) (by omega)) (e _ (by omega) (by omega) (by omega)) (e _ (by omega) (by omega) (by omega)), ⟨g9.cg (e _ (by omega) (by omega) (by omega)), ?_⟩, g10.cg (e _ (by omega) (by omega) (by omega)), (e _ (by omega) (by omega) (by omega)).trans g8, fun j hj => (e _ (by unfold zk at hj; omega) (by unfold zk at hj; omega) (by unfold zk at hj; omega)).trans (gz j hj)⟩
  · rw [nn_cg (e 17 (by omega) (by omega) (by omega))] at hj
    exact (hr j hj).cg (e _ (by omega) (by omega) (by omega))
  · rw [nn_cg (e 9 (by omega) (by omega) (by omega)), nn_cg (e 1 (by omega) (by omega) (by omega))]
    exact g9b
theorem XI_cloud {s sim : Nat} {w : Wd} (hs : s ≤ V.2.1) (h : XS w) (h4 : nn w 24 < 4) : XI V XSp s sim (x_cloud V s w sim) := by
  have hn := nxV_le hs
  have hn2 := nxV_le hn.2
  exact XI.b fun a ha => XI.b fun z hz => XI.ret (h.cld h4) (by omega) hn2.2 (Nat.le_refl _)
theorem XS.cu {cl : Nat} (hcl : cl ≤ 1) : ∀ m w c, XSp m w → c < nn w 1 → XSp m (upd w (26 + c) (nI cl)) := fun _ w c h hc => by
  have hcc := h.1.c
  exact XS.u1 h (n := cl) rfl (by omega) (h.1.u (by unfold sk; omega)) (by unfold zk; omega) (fun e => by omega) (fun e => by omega) (fun e => by omega) (fun e => by omega) (fun e => by omega) (fun e1 e2 => by omega)
theorem XI_set {s sim : Nat} {w : Wd} (hs : s < V.2.1) (h : XS w) : XI V XSp (s + 1) sim (x_set V s w sim) := by
  have hn := nxV_b hs
  have g := fun {r} (q : XI V XSp (nxV V s) sim r) => q.mono hn.1 (Nat.le_refl sim)
  unfold x_set
  refine XI.ite (fun _ => g (XI_nset hn.2 h (fun v a b => by unfold kb; omega) (by unfold zk; omega) (by omega) (by omega))) (fun _ => ?_)
  refine XI.ite (fun _ => g (XI_nset hn.2 h (fun v a b => by unfold kb; omega) (by unfold zk; omega) (by omega) (by omega))) (fun _ => ?_)
  refine XI.ite (fun _ => g (XI_nset hn.2 h (fun v a b => by unfold kb; omega) (by unfold zk; omega) (by omega) (by omega))) (fun _ => ?_)
  refine XI.ite (fun _ => g (XI_nset hn.2 h (fun v a b => by unfold kb; omega) (by unfold zk; omega) (by omega) (by omega))) (fun _ => ?_)
  refine XI.ite (fun _ => g (XI_nset hn.2 h (fun v a b => by unfold kb; omega) (by unfold zk; omega) (by omega) (by omega))) (fun _ => ?_)
  refine XI.ite (fun _ => g (XI_nset hn.2 h (fun v a b => by unfold kb; omega) (by unfold zk; omega) (by omega) (by omega))) (fun _ => ?_)
  refine XI.ite (fun _ => g (XI_nset hn.2 h (fun v a b => by unfold kb; omega) (by unfold zk; omega) (by omega) (by omega))) (fun _ => ?_)
  refine XI.ite (fun _ => g (XI_walk hn.2 h)) (fun _ => ?_)
  refine XI.ite (fun _ => g (XI_cat hn.2 h)) (fun _ => ?_)
  refine XI.ite (fun _ => g (XI_cur (XS.cu (by omega)) (fun _ _ q => q.1) _ _ _ _ hn.2 h)) (fun _ => ?_)
  refine XI.ite (fun _ => g (XI_drau hn.2 h)) (fun _ => ?_)
  refine XI.ite (fun _ => XI.ite (fun _ => trivial) (fun c => g (XI_cloud hn.2 h (by have := h.1.2.2.2.2.2.2.2.2.1.2.2; omega)))) (fun _ => ?_)
  exact g (XI_items XSp.t XSp.q _ _ _ _ hn.2 h)
/-! events -/
theorem ib_.k3 {K B n : Nat} {w : Wd} (h : ib_ K B 0 w) (h1 : 1 ≤ n) (h5 : n ≤ 5) : ib_ K B 0 (upd w 3 (nI n)) := by
  obtain ⟨hs, ht, ⟨hq, hw⟩, hr⟩ := h
  refine ⟨hs.u (by unfold sk; omega), ht.lo (by omega), ⟨hq.lo (by omega), hw.lo (by omega)⟩, ?_⟩
  obtain ⟨h3, h6, h7, h12, h13, h16, h18, h19, hc, hr⟩ := hr
  have e : ∀ k, k ≠ 3 → upd w 3 (nI n) k = w k := fun k hk => upd_ne hk
  refine ⟨in_.of upd_eq h1 h5 (by omega), h6.cg (e _ (by omega)), ?_, h12.cg (e _ (by omega)), h13.cg (e _ (by omega)), h16.cg (e _ (by omega)) (e _ (by omega)) (e _ (by omega)), ?_, h19.cg (e _ (by omega)), fun k hk => (hc k hk).cg (e _ (by omega)), fun k hk => ?_⟩
  · rw [nn_cg (e 7 (by omega)), nn_cg (e 0 (by omega)), nn_cg (e 2 (by omega)), e 7 (by omega)]; exact h7
  · rw [nn_cg (e 18 (by omega)), nn_cg (e 17 (by omega)), e 18 (by omega)]; exact h18
  · rw [nn_cg (e 19 (by omega))] at hk
    have := h19.2.2
    exact ⟨(hr k hk).1.cg (e _ (by omega)), (hr k hk).2.cg (e _ (by omega))⟩
theorem ib_.k16 {K B n : Nat} {w : Wd} (h : ib_ K B 0 w) (h1 : n < p_rc w) : ib_ K B 0 (upd w 16 (nI n)) := by
  have h80 := h.1.rc.2
  obtain ⟨hs, ht, ⟨hq, hw⟩, hr⟩ := h
  exact ⟨hs.u (by unfold sk; omega), ht.lo (by omega), ⟨hq.lo (by omega), hw.lo (by omega)⟩, hr.w16 h1 (by omega)⟩
theorem ib_.k10 {K B : Nat} {w : Wd} (h : ib_ K B 0 w) : ib_ K B 0 (upd w 10 (1 - w 10)) := by
  obtain ⟨hs, ht, ⟨hq, hw⟩, hr⟩ := h
  have h10 := hq.2.2.2.1
  exact ⟨hs.u (by unfold sk; omega), ht.lo (by omega), ⟨hq.w10 (one_sub h10.1 h10.2.2) (by omega), hw.lo (by omega)⟩, hr.lo (by unfold rk; omega)⟩
theorem ib_.kcu {K B c cl : Nat} {w : Wd} (h : ib_ K B 0 w) (hc : c < 10) (hcl : cl ≤ 1) : ib_ K B 0 (upd w (26 + c) (nI cl)) := by
  obtain ⟨hs, ht, ⟨hq, hw⟩, hr⟩ := h
  exact ⟨hs.u (by unfold sk; omega), ht.lo (by omega), ⟨hq.lo (by omega), hw.lo (by omega)⟩, hr.w26 hc rfl hcl⟩
theorem ib_.ksp {K B t v : Nat} {w : Wd} (h : ib_ K B 0 w) (ht9 : t < p_rc w) (hv : v ≤ 99) : ib_ K B 0 (upd w (244 + t) (nI v)) := by
  have h80 := h.1.rc.2
  exact h.ti (h.2.1.spill ht9 (by omega) rfl hv) (fun k hk => upd_ne (by omega))
theorem XI_mins {s sim m : Nat} {w : Wd} (hs : s ≤ V.2.1) (h : IBp sim w) (hm : m ≤ 300) : XI V IBp s sim (x_mins V s w sim m) := by
  have hn := nxV_le hs
  have h2 := h.2
  unfold x_mins
  split
  · trivial
  · refine XI.ret ⟨?_, by omega⟩ hn.1 hn.2 (by omega)
    have g := ib_.passN m sim (5 * sim) w (by omega) (by omega) h.1
    rw [show 5 * (sim + m) = 5 * sim + 5 * m by omega]
    exact g
theorem XI_ev {s sim : Nat} {w : Wd} (hs : s < V.2.1) (h : IBp sim w) : XI V IBp (s + 1) sim (x_ev V s w sim) := by
  have hn := nxV_b hs
  have g := fun {r} (q : XI V IBp (nxV V s) sim r) => q.mono hn.1 (Nat.le_refl sim)
  have h4 := h.1.1.rc
  have cu : ∀ cl, cl ≤ 1 → ∀ m w c, IBp m w → c < nn w 1 → IBp m (upd w (26 + c) (nI cl)) := fun cl hcl m w c q hc => ⟨q.1.kcu (by have := q.1.1.c; omega) hcl, q.2⟩
  unfold x_ev
  have hn2 := nxV_le hn.2
  have hn3 := nxV_le hn2.2
  refine XI.ite (fun _ => g (XI.b fun v hv => XI.ret ⟨h.1.k3 (x_num_ok hv).2.1 (x_num_ok hv).2.2.1, h.2⟩ hn2.1 hn2.2 (Nat.le_refl _))) (fun _ => ?_)
  refine XI.ite (fun _ => g (XI.b fun t ht => ?_)) (fun _ => ?_)
  · have ht2 := (x_num_ok ht).2.2.1
    exact XI.ite (fun _ => XI.b fun v hv => XI.ret ⟨h.1.ksp (by omega) (x_num_ok hv).2.2.1, h.2⟩ (by omega) hn3.2 (Nat.le_refl _)) (fun _ => trivial)
  refine XI.ite (fun _ => XI.ret ⟨h.1.k10, h.2⟩ hn.1 hn.2 (Nat.le_refl _)) (fun _ => ?_)
  refine XI.ite (fun _ => g (XI_cur (cu 0 (by omega)) (fun _ _ q => q.1.1) _ _ _ _ hn.2 h)) (fun _ => ?_)
  refine XI.ite (fun _ => g (XI_cur (cu 1 (by omega)) (fun _ _ q => q.1.1) _ _ _ _ hn.2 h)) (fun _ => ?_)
  refine XI.ite (fun _ => g (XI.b fun t ht => ?_)) (fun _ => ?_)
  · have ht2 := (x_num_ok ht).2.2.1
    exact XI.ite (fun _ => trivial) (fun _ => XI.ret ⟨h.1.k16 (by omega), h.2⟩ hn2.1 hn2.2 (Nat.le_refl _))
  refine XI.ite (fun _ => g (XI.b fun m hm => XI_mins hn.2 h (x_num_ok hm).2.2.1)) (fun _ => ?_)
  refine XI.ite (fun _ => ?_) (fun _ => g (XI_items IBp.t IBp.q _ _ _ _ hn.2 h))
  have hr := h.1.1.r
  have hl := h.1.1.l
  have hb9 : nn w 0 * nn w 2 ≤ 8 * 20 := Nat.mul_le_mul hr.2.2 hl.2.2
  have q := XI_mins (V := V) (s := s) (sim := sim) (m := nn w 0 * nn w 2 - nn w 7) (by omega) h (by omega)
  unfold x_mins at q ⊢
  by_cases c : 2000 < sim + (nn w 0 * nn w 2 - nn w 7)
  · rw [if_pos c]; trivial
  · rw [if_neg c] at q ⊢
    exact ⟨q.1, hn.1, hn.2, q.2.2.2⟩
end XN
