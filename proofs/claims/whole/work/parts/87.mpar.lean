/-! the model's token at hand, alive or behind an error -/
section KD
variable {b : Nat → Nat} {n s : Nat}
theorem kd_34 : t_kd b n s = 3 ↔ t_sg b n s = 34 := by
  have g : ∀ j, j < 34 → (34 : Fin 37) = Fin.ofNat 37 j → False := fun j hj q => by
    have := congrArg Fin.val q
    rw [f37 (by omega)] at this
    have : 34 = j := this
    omega
  constructor
  · intro h
    unfold t_kd at h
    by_cases c : n ≤ s
    · rw [if_pos c] at h; omega
    rw [if_neg c] at h
    by_cases cL : t_L (b s) = true
    · rw [if_pos cL] at h; split at h <;> omega
    rw [if_neg cL] at h
    by_cases cD : t_D (b s) = true
    · rw [if_pos cD] at h
      by_cases c3 : t_end b n s - s ≤ 3
      · unfold t_sg
        rw [if_neg c, if_pos cD, if_pos c3]
      · rw [if_neg c3] at h; omega
    · rw [if_neg cD] at h
      split at h
      · omega
      · split at h
        · omega
        · split at h <;> omega
  · intro h
    obtain ⟨h1, h2, h3, -⟩ := t_sg34 h
    have hL : ¬ t_L (b s) = true := fun q => by rw [LD_ _ q] at h2; cases h2
    unfold t_kd
    rw [if_neg (by omega), if_neg hL, if_pos h2, if_pos h3]
theorem kd_36 (hs : s ≤ n) : t_kd b n s = 1 ↔ t_sg b n s = 36 := by
  constructor
  · intro h
    unfold t_kd at h
    by_cases c : n ≤ s
    · exact if_pos c
    rw [if_neg c] at h
    split at h
    · split at h <;> omega
    · split at h
      · split at h <;> omega
      · split at h
        · omega
        · split at h
          · omega
          · split at h <;> omega
  · intro h
    by_cases c : n ≤ s
    · unfold t_kd; rw [if_pos c]
    · exfalso
      unfold t_sg at h
      rw [if_neg c] at h
      by_cases cD : t_D (b s) = true
      · rw [if_pos cD] at h
        split at h <;> cases h
      · rw [if_neg cD] at h
        have : ∀ f k, k + f = 37 → t_lk (t_w b s (t_end b n s - s)) f k = 36 → False := fun f => by
          induction f with
          | zero => intro k _ q; cases q
          | succ f ih =>
            intro k hk q
            rw [t_lk_s] at q
            by_cases c3 : am_str.getD k [] = t_w b s (t_end b n s - s)
            · rw [if_pos c3] at q
              have e : k = 36 := by
                have := congrArg Fin.val q
                rw [f37 (by omega)] at this
                exact this
              rw [e] at c3
              exact t_w_ne (by have := (t_end_b (b := b) (n := n) (s := s) (by omega)).1; omega) c3.symm
            · rw [if_neg c3] at q
              exact ih (k + 1) (by omega) q
        exact this 37 0 rfl h
theorem kd_mark {j c k : Nat} (hj : j = 31 ∧ c = 59 ∧ k = 4 ∨ j = 32 ∧ c = 40 ∧ k = 5 ∨ j = 33 ∧ c = 41 ∧ k = 6) : t_kd b n s = k ↔ t_sg b n s = Fin.ofNat 37 j := by
  have ej : am_str.getD j [] = [c] := by rcases hj with ⟨a, b, -⟩ | ⟨a, b, -⟩ | ⟨a, b, -⟩ <;> subst a <;> subst b <;> rfl
  have hD : t_D c = false := by rcases hj with ⟨-, a, -⟩ | ⟨-, a, -⟩ | ⟨-, a, -⟩ <;> subst a <;> rfl
  have hL : t_L c = false := by rcases hj with ⟨-, a, -⟩ | ⟨-, a, -⟩ | ⟨-, a, -⟩ <;> subst a <;> rfl
  rw [sg_iff (by omega)]
  unfold t_kd
  constructor
  · intro h
    by_cases c0 : n ≤ s
    · rw [if_pos c0] at h; omega
    rw [if_neg c0] at h
    by_cases cL : t_L (b s) = true
    · rw [if_pos cL] at h; split at h <;> omega
    rw [if_neg cL] at h
    by_cases cD : t_D (b s) = true
    · rw [if_pos cD] at h; split at h <;> omega
    rw [if_neg cD] at h
    have ee : t_end b n s = s + 1 := by unfold t_end; rw [if_neg cL, if_neg cD]
    have eb : b s = c := by
      split at h
      · omega
      · split at h
        · omega
        · split at h <;> omega
    refine ⟨by omega, by rw [eb]; exact hD, ?_⟩
    rw [ej, ee, show s + 1 - s = 1 by omega, ← eb]
    rfl
  · rintro ⟨h1, h2, h3⟩
    have he := t_end_b (b := b) h1
    rw [ej] at h3
    obtain ⟨m, hm⟩ : ∃ m, t_end b n s - s = m + 1 := ⟨t_end b n s - s - 1, by omega⟩
    rw [hm] at h3
    have eb : c = b s := by injection h3
    rw [← eb, if_neg (by omega), hL, hD, if_neg (by decide), if_neg (by decide)]
    rcases hj with ⟨-, a, d⟩ | ⟨-, a, d⟩ | ⟨-, a, d⟩ <;> subst a <;> subst d <;> rfl
theorem str_L : ∀ j, j ≤ 30 → ∃ c l, am_str.getD j [] = c :: l ∧ t_L c = true := by
  have : ∀ j, j ≤ 30 → (am_str.getD j []).length ≠ 0 ∧ t_L ((am_str.getD j []).getD 0 0) = true := by decide +kernel
  intro j hj
  obtain ⟨h1, h2⟩ := this j hj
  cases e : am_str.getD j [] with
  | nil => rw [e] at h1; exact absurd rfl h1
  | cons c l => rw [e] at h2; exact ⟨c, l, rfl, h2⟩
theorem kd_word {j : Nat} (hj : j ≤ 30) : t_sg b n s = Fin.ofNat 37 j ↔ t_kd b n s = 2 ∧ am_str.getD j [] = t_w b s (t_end b n s - s) := by
  rw [sg_iff (by omega)]
  obtain ⟨c, l, ej, hL⟩ := str_L j hj
  constructor
  · rintro ⟨h1, h2, h3⟩
    have he := t_end_b (b := b) h1
    obtain ⟨m, hm⟩ : ∃ m, t_end b n s - s = m + 1 := ⟨t_end b n s - s - 1, by omega⟩
    have h3' := h3
    rw [ej, hm] at h3'
    have eb : c = b s := by injection h3'
    have hl := congrArg List.length h3
    rw [t_w_len] at hl
    have h7 := st_short j (by omega)
    have h7' : (am_str.getD j []).length ≤ 7 := h7
    refine ⟨?_, h3⟩
    unfold t_kd
    rw [if_neg (by omega), ← eb, if_pos hL, if_pos (by omega)]
  · rintro ⟨h1, h2⟩
    have hs : s < n := by
      rcases Nat.lt_or_ge s n with q | q
      · exact q
      · unfold t_kd at h1
        rw [if_pos q] at h1; omega
    refine ⟨hs, ?_, h2⟩
    have he := t_end_b (b := b) hs
    obtain ⟨m, hm⟩ : ∃ m, t_end b n s - s = m + 1 := ⟨t_end b n s - s - 1, by omega⟩
    rw [ej, hm] at h2
    have eb : c = b s := by injection h2
    rw [← eb]
    exact LD_ _ hL
end KD
/-- what a piece of the parser may change -/
def fq_ (h h1 : HI) : Prop := ∀ a k, a ≠ za 196 → ¬ (a = za 195 ∧ 10 ≤ k ∧ k ≤ 19 ∧ k ≠ 12) → h1 a k = h a k
theorem fq_.refl (h : HI) : fq_ h h := fun _ _ _ _ => rfl
theorem fq_.trans {h h1 h2 : HI} (a : fq_ h h1) (b : fq_ h1 h2) : fq_ h h2 := fun x k c1 c2 => (b x k c1 c2).trans (a x k c1 c2)
theorem fq_.g {h h1 : HI} (a : fg_ h h1) : fq_ h h1 := fun x k _ c2 => a x k (fun q => c2 ⟨q.1, by omega⟩)
theorem fq_.m {h h1 : HI} (a : fm_ h h1) : fq_ h h1 := fun x k c1 _ => a x k c1
theorem fq_.u {h h1 : HI} (a : fq_ h h1) {k : Nat} {v : Int32} (hk : 10 ≤ k ∧ k ≤ 19 ∧ k ≠ 12) : fq_ h (am_u h1 (za 195) k v) := fun x j c1 c2 => by
  by_cases q : x = za 195
  · subst q
    rw [au_k (fun q => c2 ⟨rfl, by omega⟩)]
    exact a _ j c1 c2
  · rw [au_a q]
    exact a x j c1 c2
theorem fq_.u6 {h h1 : HI} (a : fq_ h h1) {k : Nat} {v : Int32} : fq_ h (am_u h1 (za 196) k v) := fun x j c1 c2 => by
  rw [au_a c1]
  exact a x j c1 c2
/-- behind an error -/
def Dd (h : HI) : Prop := ¬ h (za 195) 10 ≤ 0
def MB (V : TV) (h : HI) (s : Nat) (w : Wd) (sim : Nat) (beg : Bool) (dep : Nat) : Prop := (Mb_ h V.1 ∧ h (za 195) 12 = nI V.2.1 ∧ V.2.1 ≤ 500 ∧ s ≤ V.2.1) ∧ MT V.1 V.2.1 h s ∧ h (za 195) 10 = 0 ∧ h (za 195) 11 = -1 ∧ mw_ h = w ∧ h (za 195) 18 = nI sim ∧ h (za 195) 19 = b2 beg ∧ h (za 195) 17 = nI dep ∧ (beg = false → h (za 196) 25 = nI (p_mk w 164 80))
def MD (h : HI) (c p : Nat) : Prop := h (za 195) 10 = nI c ∧ h (za 195) 11 = nI p ∧ 1 ≤ c ∧ c ≤ 4
theorem MD.d {h : HI} {c p : Nat} (H : MD h c p) : Dd h := by
  unfold Dd
  rw [H.1]
  exact nI_nle H.2.2.1 (by have := H.2.2.2; omega)
theorem MD.cg {h h1 : HI} {c p : Nat} (H : MD h c p) (e10 : h1 (za 195) 10 = h (za 195) 10) (e11 : h1 (za 195) 11 = h (za 195) 11) : MD h1 c p := ⟨e10.trans H.1, e11.trans H.2.1, H.2.2⟩
section MP
variable {V : TV} {h h0 : HI} {s sim dep G : Nat} {w : Wd} {beg : Bool}
theorem Dd.ne (H : Dd h) : h (za 195) 10 ≠ 0 := fun q => H (by rw [q]; exact Int32.le_refl _)
theorem D_go (H : Dd h) : sh_X10_goes G h = some h := by
  unfold sh_X10_goes
  rw [if_neg H]
theorem D_is (H : Dd h) {k : Int32} : sh_X10_is k h = 0 := by
  unfold sh_X10_is
  rw [if_pos H.ne]
theorem D_word (H : Dd h) {w : Nat} : sh_X10_isWord G w h = some 0 := by
  unfold sh_X10_isWord
  rw [D_is H, if_pos rfl]
theorem D_flt (H : Dd h) {c : Int32} : sh_X10_faults c h = some h := by
  unfold sh_X10_faults
  rw [if_neg H]
theorem D_nh (H : Dd h) {lo hi : Int32} : sh_X10_numberHere lo hi h = some (lo, h) := by
  unfold sh_X10_numberHere sh_X10_numberHere_33
  rw [D_is H, if_neg (fun q => q rfl), D_flt H, bs, if_neg H]
theorem D_num (H : Dd h) {lo hi : Int32} : sh_X10_number G lo hi h = some (lo, h) := by
  unfold sh_X10_number
  rw [D_nh H, bs]
  show (sh_X10_goes G h).bind (fun h3 => some (lo, h3)) = _
  rw [D_go H, bs]
theorem M_is {k : Nat} (hk : k < 10) (H : MB V h s w sim beg dep) : sh_X10_is (nI k) h = b2 (decide (t_kd V.1 V.2.1 s = k)) := by
  have hkd : t_kd V.1 V.2.1 s < 10 := by
    unfold t_kd
    repeat' split
    all_goals omega
  unfold sh_X10_is
  rw [H.2.2.1, if_neg (fun q => q rfl), H.2.1.2.2.1]
  by_cases c : t_kd V.1 V.2.1 s = k
  · rw [c, if_neg (fun q => q rfl), decide_eq_true rfl]; rfl
  · rw [if_pos (fun q => c ((nI_eq (by omega) (by omega)).mp q)), decide_eq_false c]; rfl
theorem M_word_28 {j : Nat} (hw : j < 68) (hs : s + am_strlen j ≤ 500) (hb : Mb_ h V.1) (h14 : h (za 195) 14 = nI s) : ∀ f k F, k + f = am_strlen j → f < F → sh_X10_isWord_28 G j h F (nI k) = some (b2 (decide ((am_str.getD j []).drop k = t_w V.1 (s + k) f)))
  | f, k, 0, _, hF => absurd hF (Nat.not_lt_zero _)
  | 0, k, F + 1, hk, hF => by
    show sh_X10_isWord_28_b G j h (sh_X10_isWord_28 G j h F) (nI k) = _
    unfold sh_X10_isWord_28_b sh_slen
    have hl := ch_len j hw
    have e : (am_str.getD j []).drop k = [] := List.drop_eq_nil_of_le (by show am_strlen j ≤ k; omega)
    rw [if_pos (nI_le (by omega) (by omega)), e]
    rfl
  | f + 1, k, F + 1, hk, hF => by
    show sh_X10_isWord_28_b G j h (sh_X10_isWord_28 G j h F) (nI k) = _
    have hl := ch_len j hw
    have hc := ch_eq j hw k (by omega)
    have ih := M_word_28 hw hs hb h14 f (k + 1) F (by omega) (by omega)
    have hbk := hb (s + k) (by omega)
    unfold sh_X10_isWord_28_b sh_slen sh_schar
    rw [if_neg (nI_ge (by omega) (by omega)), h14, nI_add, if_pos (ok_ (by omega) (by decide)), if_pos (ok_ (by omega) hl), nI_clamp (by omega), nI_clamp (by omega), bs, hbk.1, nI_1, ih, hc.2]
    show (if sb (V.1 (s + k)) = nI ((am_str.getD j []).getD k 0) then _ else _) = some (b2 (decide ((am_str.getD j []).getD k 0 :: (am_str.getD j []).drop (k + 1) = V.1 (s + k) :: t_w V.1 (s + k + 1) f)))
    have hiff := sb_ch (V.1 (s + k)) ((am_str.getD j []).getD k 0) hbk.2 hc.1
    by_cases c : V.1 (s + k) = (am_str.getD j []).getD k 0
    · rw [if_pos (hiff.mpr c), c]
      congr 2
      apply decide_eq_decide.mpr
      constructor
      · intro q; rw [q]; rfl
      · intro q; injection q
    · rw [if_neg (fun q => c (hiff.mp q)), decide_eq_false (fun q => c (by injection q with q1 q2; exact q1.symm))]
      rfl
theorem M_word {j : Nat} {q : Fin 37} (hw : j < 68) (hq : q.val ≤ 30) (e : am_str.getD j [] = am_str.getD q.val []) (hG : 7 < G) (H : MB V h s w sim beg dep) : sh_X10_isWord G j h = some (b2 (decide (sgV V s = q))) := by
  obtain ⟨⟨hb, h12, hn, hs⟩, hT, -⟩ := id H
  have eq : q = Fin.ofNat 37 q.val := by
    apply Fin.ext
    rw [f37 (by omega)]
  have hiff := kd_word (b := V.1) (n := V.2.1) (s := s) hq
  rw [← eq] at hiff
  have hl := ch_len j hw
  have h7 := st_short j hw
  unfold sh_X10_isWord sh_slen
  rw [show (2 : Int32) = nI 2 from rfl, M_is (by omega) H, eq_of]
  by_cases c : t_kd V.1 V.2.1 s = 2
  · rw [decide_eq_true c, if_pos rfl]
    have hs2 : s < V.2.1 := by
      rcases Nat.lt_or_ge s V.2.1 with z | z
      · exact z
      · unfold t_kd at c
        rw [if_pos z] at c; omega
    have he := t_end_b (b := V.1) hs2
    have ecu : t_cu V.1 V.2.1 s = t_end V.1 V.2.1 s := if_neg (by omega)
    rw [hT.1, hT.2.1, ecu, pk_sub (by omega)]
    by_cases c2 : t_end V.1 V.2.1 s - s = am_strlen j
    · rw [c2, if_pos rfl, show sh_X10_isWord_28 G j h G (0 : Int32) = _ from M_word_28 (V := V) hw (by omega) hb hT.1 (am_strlen j) 0 G (by omega) (by omega)]
      congr 2
      apply decide_eq_decide.mpr
      rw [← c2, ← e] at *
      exact ⟨fun z => hiff.mpr ⟨c, z⟩, fun z => (hiff.mp z).2⟩
    · rw [if_neg (fun z => c2 ((nI_eq (by omega) (by omega)).mp z)), decide_eq_false (fun z => c2 (by
        have := congrArg List.length (hiff.mp z).2
        rw [t_w_len, ← e] at this
        exact this.symm))]
      rfl
  · rw [decide_eq_false c, if_neg (by decide), decide_eq_false (fun z => c (hiff.mp z).1)]
    rfl
theorem MB.cgG {h1 : HI} {s1 : Nat} (H : MB V h s w sim beg dep) (f : fg_ h h1) (hs : s1 ≤ V.2.1) (hT : MT V.1 V.2.1 h1 s1) : MB V h1 s1 w sim beg dep := by
  obtain ⟨⟨hb, h12, hn, -⟩, -, h10, h11, hw, h18, h19, h17, h25⟩ := H
  have z : ∀ k, ¬ (13 ≤ k ∧ k ≤ 16) → h1 (za 195) k = h (za 195) k := fun k hk => f _ _ (fun q => hk q.2)
  have z6 : ∀ k, h1 (za 196) k = h (za 196) k := fun k => f _ _ (fun q => by cases q.1)
  exact ⟨⟨hb.fg f, (z 12 (by omega)).trans h12, hn, hs⟩, hT, (z 10 (by omega)).trans h10, (z 11 (by omega)).trans h11, (M_o z6).trans hw, (z 18 (by omega)).trans h18, (z 19 (by omega)).trans h19, (z 17 (by omega)).trans h17, fun q => (z6 25).trans (h25 q)⟩
theorem M_go (hG : 501 < G) (H : MB V h s w sim beg dep) : ∃ h1, sh_X10_goes G h = some h1 ∧ MB V h1 (nxV V s) w sim beg dep ∧ fq_ h h1 := by
  obtain ⟨⟨hb, h12, hn, hs⟩, hT, h10, -⟩ := id H
  have hcu : t_cu V.1 V.2.1 s ≤ V.2.1 := by
    unfold t_cu
    by_cases c : V.2.1 ≤ s
    · rw [if_pos c]; exact hs
    · rw [if_neg c]; exact (t_end_b (b := V.1) (by omega)).2
  obtain ⟨h1, e1, T1, f1⟩ := M_goes0 (G := G) (b := V.1) (n := V.2.1) (k := t_cu V.1 V.2.1 s) hn hG hcu hb h10 h12 hT.2.1
  have e : t_skip V.1 V.2.1 (t_cu V.1 V.2.1 s) = nxV V s := by
    show _ = t_nx V.1 V.2.1 s
    unfold t_cu t_nx
    by_cases c : V.2.1 ≤ s
    · rw [if_pos c, if_pos c]
      obtain rfl : s = V.2.1 := by omega
      exact t_skip_n
    · rw [if_neg c, if_neg c]
  rw [e] at T1
  exact ⟨h1, e1, H.cgG f1 (nxV_le hs).2 T1, fq_.g f1⟩
/-- the row alone has changed -/
theorem MB.wd {h1 : HI} {w1 : Wd} (H : MB V h s w sim beg dep) (hw : mw_ h1 = w1) (f : fm_ h h1) (h25 : beg = false → h1 (za 196) 25 = nI (p_mk w1 164 80)) : MB V h1 s w1 sim beg dep := by
  obtain ⟨⟨hb, h12, hn, hs⟩, hT, h10, h11, -, h18, h19, h17, -⟩ := H
  have z : ∀ k, h1 (za 195) k = h (za 195) k := fun k => f _ _ (fun q => by cases q)
  refine ⟨⟨fun k hk => ?_, (z 12).trans h12, hn, hs⟩, ⟨(z _).trans hT.1, (z _).trans hT.2.1, (z _).trans hT.2.2.1, fun q => (z _).trans (hT.2.2.2 q)⟩, (z 10).trans h10, (z 11).trans h11, hw, (z 18).trans h18, (z 19).trans h19, (z 17).trans h17, h25⟩
  rw [f _ _ (fun q => by cases q)]
  exact hb k hk
theorem MB.mw (H : MB V h s w sim beg dep) : mw_ h = w := H.2.2.2.2.1
theorem MB.al (H : MB V h s w sim beg dep) : h (za 195) 10 = 0 := H.2.2.1
theorem MB.sn (H : MB V h s w sim beg dep) : s ≤ V.2.1 := H.1.2.2.2
theorem M_flt {c : Nat} (hc : 1 ≤ c ∧ c ≤ 4) (H : MB V h s w sim beg dep) : ∃ h1, sh_X10_faults (nI c) h = some h1 ∧ MD h1 c s ∧ fq_ h h1 := by
  unfold sh_X10_faults
  rw [H.al, if_pos (Int32.le_refl _), H.2.1.1]
  exact ⟨_, rfl, ⟨(au_k (by omega)).trans au_, au_, hc⟩, ((fq_.refl h).u (by omega)).u (by omega)⟩
/-- piece S ends as r says -/
def mr_ (V : TV) (beg : Bool) (dep : Nat) (S : Option HI) (h : HI) : XR (Nat × Wd × Nat) → Prop
  | Sum.inl (c, p) => ∃ h1, S = some h1 ∧ MD h1 c p ∧ fq_ h h1
  | Sum.inr (s, w, sim) => ∃ h1, S = some h1 ∧ MB V h1 s w sim beg dep ∧ fq_ h h1
theorem mr_ret (H : MB V h s w sim beg dep) (f : fq_ h0 h) : mr_ V beg dep (some h) h0 (Sum.inr (s, w, sim)) := ⟨h, rfl, H, f⟩
theorem mr_dead {c p : Nat} (H : MD h c p) (f : fq_ h0 h) : mr_ V beg dep (some h) h0 (Sum.inl (c, p)) := ⟨h, rfl, H, f⟩
theorem mr_bs {S : Option HI} {r : XR (Nat × Wd × Nat)} (g : mr_ V beg dep S h0 r) : mr_ V beg dep (S.bind fun h1 => some h1) h0 r := by
  cases r with
  | inl e => obtain ⟨h1, a, b, c⟩ := g; exact ⟨h1, by rw [a]; rfl, b, c⟩
  | inr e => obtain ⟨h1, a, b, c⟩ := g; exact ⟨h1, by rw [a]; rfl, b, c⟩
theorem M_nh {lo hi : Nat} (hh : hi < 2 ^ 30) (hl : lo < 2 ^ 30) (H : MB V h s w sim beg dep) : match x_num V s lo hi with
    | Sum.inl (c, p) => ∃ h1, sh_X10_numberHere (nI lo) (nI hi) h = some (nI lo, h1) ∧ MD h1 c p ∧ fq_ h h1
    | Sum.inr v => sh_X10_numberHere (nI lo) (nI hi) h = some (nI v, h) ∧ v < 1000 ∧ lo ≤ v ∧ v ≤ hi := by
  unfold sh_X10_numberHere sh_X10_numberHere_33 x_num
  rw [show (3 : Int32) = nI 3 from rfl, M_is (by omega) H, ne_of]
  by_cases c : t_sg V.1 V.2.1 s = 34
  · have hv := t_nu_b c
    have h16 := H.2.1.2.2.2 c
    rw [if_pos c, decide_eq_true (kd_34.mpr c), if_pos (show true = true from rfl), h16, in_n (by omega) (by omega) (by omega), ne_of, H.al, if_pos (Int32.le_refl _)]
    by_cases c1 : lo ≤ t_nu V.1 V.2.1 s ∧ t_nu V.1 V.2.1 s ≤ hi
    · rw [if_pos c1, decide_eq_true c1.1, decide_eq_true c1.2]
      exact ⟨rfl, hv, c1.1, c1.2⟩
    · have e : (decide (lo ≤ t_nu V.1 V.2.1 s) && decide (t_nu V.1 V.2.1 s ≤ hi)) = false := by
        rw [← Bool.decide_and]
        exact decide_eq_false c1
      rw [if_neg c1, e, if_neg (show ¬ false = true by decide)]
      obtain ⟨h1, e1, x1, f1⟩ := M_flt (c := 2) (by omega) H
      rw [show (2 : Int32) = nI 2 from rfl, e1, bs, if_neg x1.d]
      exact ⟨h1, rfl, x1, f1⟩
  · rw [if_neg c, decide_eq_false (fun q => c (kd_34.mp q)), if_neg (show ¬ false = true by decide)]
    obtain ⟨h1, e1, x1, f1⟩ := M_flt (c := 1) (by omega) H
    rw [show (1 : Int32) = nI 1 from rfl, e1, bs, if_neg x1.d]
    exact ⟨h1, rfl, x1, f1⟩
/-- a number, and what follows -/
theorem mr_nh {lo hi : Nat} {T : Int32 × HI → Option HI} {k : Nat → XR (Nat × Wd × Nat)} (f0 : fq_ h0 h) (hh : hi < 2 ^ 30) (hl : lo < 2 ^ 30) (H : MB V h s w sim beg dep) (hT : ∀ v, v < 1000 → lo ≤ v → v ≤ hi → mr_ V beg dep (T (nI v, h)) h0 (k v)) (hE : ∀ h1, Dd h1 → ∃ h2, T (nI lo, h1) = some h2 ∧ h2 (za 195) 10 = h1 (za 195) 10 ∧ h2 (za 195) 11 = h1 (za 195) 11 ∧ fq_ h1 h2) : mr_ V beg dep ((sh_X10_numberHere (nI lo) (nI hi) h).bind T) h0 (xb (x_num V s lo hi) k) := by
  have g := M_nh hh hl H
  cases e : x_num V s lo hi with
  | inl q =>
    rw [e] at g
    obtain ⟨h1, e1, x1, f1⟩ := g
    obtain ⟨h2, e2, a, b, f2⟩ := hE h1 x1.d
    rw [e1, bs, e2]
    exact ⟨h2, rfl, x1.cg a b, f0.trans (f1.trans f2)⟩
  | inr v =>
    rw [e] at g
    obtain ⟨e1, g1, g2, g3⟩ := g
    rw [e1, bs]
    exact hT v g1 g2 g3
theorem mr_num {lo hi : Nat} {T : Int32 × HI → Option HI} {k : Nat → XR (Nat × Wd × Nat)} (hG : 501 < G) (f0 : fq_ h0 h) (hh : hi < 2 ^ 30) (hl : lo < 2 ^ 30) (H : MB V h s w sim beg dep) (hT : ∀ v h1, v < 1000 → lo ≤ v → v ≤ hi → MB V h1 (nxV V s) w sim beg dep → fq_ h0 h1 → mr_ V beg dep (T (nI v, h1)) h0 (k v)) (hE : ∀ h1, Dd h1 → ∃ h2, T (nI lo, h1) = some h2 ∧ h2 (za 195) 10 = h1 (za 195) 10 ∧ h2 (za 195) 11 = h1 (za 195) 11 ∧ fq_ h1 h2) : mr_ V beg dep ((sh_X10_number G (nI lo) (nI hi) h).bind T) h0 (xb (x_num V s lo hi) k) := by
  have g := M_nh hh hl H
  unfold sh_X10_number
  cases e : x_num V s lo hi with
  | inl q =>
    rw [e] at g
    obtain ⟨h1, e1, x1, f1⟩ := g
    obtain ⟨h2, e2, a, b, f2⟩ := hE h1 x1.d
    rw [e1, bs]
    show mr_ V beg dep (((sh_X10_goes G h1).bind fun h3 => some (nI lo, h3)).bind T) h0 (Sum.inl q)
    rw [D_go x1.d, bs, bs, e2]
    exact ⟨h2, rfl, x1.cg a b, f0.trans (f1.trans f2)⟩
  | inr v =>
    rw [e] at g
    obtain ⟨e1, g1, g2, g3⟩ := g
    obtain ⟨h1, e2, H1, f1⟩ := M_go hG H
    rw [e1, bs]
    show mr_ V beg dep (((sh_X10_goes G h).bind fun h3 => some (nI v, h3)).bind T) h0 (k v)
    rw [e2, bs, bs]
    exact hT v h1 g1 g2 g3 H1 (f0.trans f1)
theorem dk_ (h1 : HI) : ∃ h2, some h1 = some h2 ∧ h2 (za 195) 10 = h1 (za 195) 10 ∧ h2 (za 195) 11 = h1 (za 195) 11 ∧ fq_ h1 h2 := ⟨h1, rfl, rfl, rfl, fq_.refl h1⟩
end MP
