/-! the model: brackets, the whole text -/
section MW
variable {V : TV} {h h0 : HI} {s sim dep G : Nat} {w : Wd} {beg : Bool}
theorem mr_.fq {S : Option HI} {r : XR (Nat × Wd × Nat)} (f : fq_ h0 h) (g : mr_ V beg dep S h r) : mr_ V beg dep S h0 r := by
  cases r with
  | inl e => obtain ⟨h1, a, b, c⟩ := g; exact ⟨h1, a, b, f.trans c⟩
  | inr e => obtain ⟨h1, a, b, c⟩ := g; exact ⟨h1, a, b, f.trans c⟩
/-- a piece, and the next one -/
theorem mr_seq {S : Option HI} {T : HI → Option HI} {beg1 beg2 : Bool} {dep1 dep2 : Nat} {r : XR (Nat × Wd × Nat)} {k : Nat × Wd × Nat → XR (Nat × Wd × Nat)} (g : mr_ V beg1 dep1 S h0 r) (hT : ∀ s1 w1 sim1 h1, r = Sum.inr (s1, w1, sim1) → MB V h1 s1 w1 sim1 beg1 dep1 → fq_ h0 h1 → mr_ V beg2 dep2 (T h1) h0 (k (s1, w1, sim1))) (hE : ∀ h1, Dd h1 → ∃ h2, T h1 = some h2 ∧ h2 (za 195) 10 = h1 (za 195) 10 ∧ h2 (za 195) 11 = h1 (za 195) 11 ∧ fq_ h1 h2) : mr_ V beg2 dep2 (S.bind T) h0 (xb r k) := by
  cases r with
  | inl e =>
    obtain ⟨h1, a, b, c⟩ := g
    obtain ⟨h2, e2, x, y, f⟩ := hE h1 b.d
    rw [a, bs, e2]
    exact ⟨h2, rfl, b.cg x y, c.trans f⟩
  | inr e =>
    obtain ⟨s1, w1, sim1⟩ := e
    obtain ⟨h1, a, b, c⟩ := g
    rw [a, bs]
    exact hT s1 w1 sim1 h1 rfl b c
theorem D_begins (D : Dd h) : sh_X10_begins G h = some h := by
  unfold sh_X10_begins
  rw [if_neg D]
  split <;> rfl
theorem ev19_e {rep : HI → Option HI} : sh_X10_readsEvent_19 G rep h = (sh_X10_begins G h).bind fun h3 => D_ev G rep h3 := rfl
theorem D_event {rep : HI → Option HI} (D : Dd h) : sh_X10_readsEvent G rep h = some h := by
  unfold sh_X10_readsEvent sh_X10_isTileEvent sh_X10_isOtherEvent
  simp only [D_word D, bs, ne_eq, eq_self, not_true_eq_false, if_true, if_false]
  rw [D_flt D, bs, ev19_e, D_begins D, bs, D_ev_d D]
theorem mr_event {rep : HI → Option HI} {repx : Nat → Wd → Nat → XR (Nat × Wd × Nat)} (hG : 501 < G) (hI : IBp sim w) (H : MB V h s w sim beg dep) (hr : ∀ h3 w3, sgV V s = 23 → IBp sim w3 → MB V h3 s w3 sim true dep → mr_ V true dep (rep h3) h3 (repx s w3 sim)) : mr_ V true dep (sh_X10_readsEvent G rep h) h (r_one V repx s (if beg = true then w else p_reloc w) sim) := by
  have hI3 : IBp sim (if beg = true then w else p_reloc w) := by
    cases beg with
    | true => exact hI
    | false => exact ⟨hI.1.reloc, hI.2⟩
  have g : ((sgV V s).val = 2 ∨ (14 ≤ (sgV V s).val ∧ (sgV V s).val ≤ 23)) → mr_ V true dep (sh_X10_readsEvent_19 G rep h) h (r_one V repx s (if beg = true then w else p_reloc w) sim) := fun c => by
    obtain ⟨h3, e3, H3, f3⟩ := M_begins hG hI.1 H
    rw [ev19_e, e3, bs]
    have hs : s < V.2.1 := sg_lt_n (fun e => by rw [e] at c; revert c; decide)
    exact (mr_evd hG hI3 hs c H3 (fun q => hr h3 _ q hI3 H3)).fq f3
  unfold sh_X10_readsEvent
  rw [M_tev hG H, bs, ne_of]
  by_cases c1 : 14 ≤ (sgV V s).val ∧ (sgV V s).val ≤ 16
  · rw [decide_eq_true c1, if_pos rfl]
    exact g (by omega)
  · rw [decide_eq_false c1, if_neg (by decide), M_oev hG H, bs, ne_of]
    by_cases c2 : (sgV V s).val = 2 ∨ (17 ≤ (sgV V s).val ∧ (sgV V s).val ≤ 23)
    · rw [decide_eq_true c2, if_pos rfl]
      exact g (by omega)
    · rw [decide_eq_false c2, if_neg (by decide)]
      obtain ⟨h1, e1, x1, f1⟩ := M_flt (c := 1) (by omega) H
      rw [show (1 : Int32) = nI 1 from rfl, e1, bs, ev19_e, D_begins x1.d, bs, D_ev_d x1.d]
      unfold r_one
      rw [if_neg (fun q => by rw [q] at c2; exact c2 (by decide)), if_neg (fun q => by omega)]
      exact mr_dead x1 f1
theorem D_evs8 {rep : HI → Option HI} {F : Nat} (D : Dd h) : sh_X10_readsEvents_8 G rep (F + 1) h = some h := by
  show sh_X10_readsEvents_8_b G rep (sh_X10_readsEvents_8 G rep F) h = some h
  unfold sh_X10_readsEvents_8_b
  rw [D_is D, D_is D, if_pos rfl, if_neg (fun q => q rfl), D_flt D, bs]
theorem M_kd {c j k : Nat} (hk : k < 10) (hj : j = 31 ∧ c = 59 ∧ k = 4 ∨ j = 32 ∧ c = 40 ∧ k = 5 ∨ j = 33 ∧ c = 41 ∧ k = 6) (H : MB V h s w sim beg dep) : sh_X10_is (nI k) h = b2 (decide (sgV V s = Fin.ofNat 37 j)) := by
  rw [M_is hk H]
  congr 1
  exact decide_eq_decide.mpr (kd_mark hj)
theorem M_k1 (H : MB V h s w sim beg dep) : sh_X10_is (1 : Int32) h = b2 (decide (sgV V s = 36)) := by
  rw [show (1 : Int32) = nI 1 from rfl, M_is (by omega) H]
  congr 1
  exact decide_eq_decide.mpr (kd_36 H.sn)
theorem mr_evs {rep : HI → Option HI} {ev : Nat → Wd → Nat → XR (Nat × Wd × Nat)} (hG : 501 < G) (hev : ∀ s w sim h, IBp sim w → MB V h s w sim true dep → mr_ V true dep (sh_X10_readsEvent G rep h) h (ev s w sim)) (hx : ∀ s w sim, IBp sim w → XI V IBp (s + 1) sim (ev s w sim)) : ∀ (f s : Nat) (w : Wd) (sim : Nat) (h : HI) (F : Nat), f ≤ F → V.2.1 < s + f → IBp sim w → MB V h s w sim true dep → fq_ h0 h → mr_ V true dep ((sh_X10_readsEvent G rep h).bind fun h4 => sh_X10_readsEvents_8 G rep F h4) h0 (r_evs V ev f s w sim) := fun f => by
  induction f with
  | zero =>
    intro s w sim h F _ hf _ H _
    have := H.sn
    omega
  | succ f ih =>
    intro s w sim h F hF hf hI H f0
    obtain ⟨F, rfl⟩ : ∃ F2, F = F2 + 1 := ⟨F - 1, by omega⟩
    have gx := hx s w sim hI
    rw [r_evs_s]
    refine mr_seq ((hev s w sim h hI H).fq f0) (fun s1 w1 sim1 h1 e H1 f1 => ?_) (fun h1 D => ⟨h1, D_evs8 D, rfl, rfl, fq_.refl h1⟩)
    rw [e] at gx
    obtain ⟨i1, i2, i3, i4⟩ := gx
    show mr_ V true dep (sh_X10_readsEvents_8_b G rep (sh_X10_readsEvents_8 G rep F) h1) h0 (if sgV V s1 = 31 then r_evs V ev f (nxV V s1) w1 sim1 else if sgV V s1 = 33 then Sum.inr (s1, w1, sim1) else Sum.inl (1, s1))
    unfold sh_X10_readsEvents_8_b
    rw [show (4 : Int32) = nI 4 from rfl, show (6 : Int32) = nI 6 from rfl, M_kd (j := 31) (c := 59) (by omega) (Or.inl ⟨rfl, rfl, rfl⟩) H1, M_kd (j := 33) (c := 41) (by omega) (Or.inr (Or.inr ⟨rfl, rfl, rfl⟩)) H1, eq_of, ne_of]
    by_cases c31 : sgV V s1 = 31
    · rw [decide_eq_true (show sgV V s1 = Fin.ofNat 37 31 from c31), if_pos rfl, if_pos c31]
      obtain ⟨h2, e2, H2, f2⟩ := M_go hG H1
      rw [e2, bs]
      have := (nxV_b (V := V) (sg_lt_n (s := s1) (by rw [c31]; decide))).1
      exact ih _ _ _ _ F (by omega) (by omega) i1 H2 (f1.trans f2)
    · rw [decide_eq_false (show ¬ sgV V s1 = Fin.ofNat 37 31 from c31), if_neg (by decide), if_neg c31]
      by_cases c33 : sgV V s1 = 33
      · rw [decide_eq_true (show sgV V s1 = Fin.ofNat 37 33 from c33), if_pos rfl, if_pos c33]
        exact mr_ret H1 f1
      · rw [decide_eq_false (show ¬ sgV V s1 = Fin.ofNat 37 33 from c33), if_neg (by decide), if_neg c33]
        obtain ⟨h2, e2, x2, f2⟩ := M_flt (c := 1) (by omega) H1
        rw [show (1 : Int32) = nI 1 from rfl, e2, bs]
        exact mr_dead x2 (f1.trans f2)
/-- a state between tokens: the place alone is known -/
def Mq_ (V : TV) (h : HI) (k : Nat) (w : Wd) (sim : Nat) (beg : Bool) (dep : Nat) : Prop := (Mb_ h V.1 ∧ h (za 195) 12 = nI V.2.1 ∧ V.2.1 ≤ 500 ∧ k ≤ V.2.1) ∧ h (za 195) 13 = nI k ∧ h (za 195) 10 = 0 ∧ h (za 195) 11 = -1 ∧ mw_ h = w ∧ h (za 195) 18 = nI sim ∧ h (za 195) 19 = b2 beg ∧ h (za 195) 17 = nI dep ∧ (beg = false → h (za 196) 25 = nI (p_mk w 164 80))
theorem Mq_.go {k : Nat} (hG : 501 < G) (H : Mq_ V h k w sim beg dep) : ∃ h1, sh_X10_goes G h = some h1 ∧ MB V h1 (t_skip V.1 V.2.1 k) w sim beg dep ∧ fq_ h h1 := by
  obtain ⟨⟨hb, h12, hn, hk⟩, h13, h10, h11, hw, h18, h19, h17, h25⟩ := H
  obtain ⟨h1, e1, T1, f⟩ := M_goes0 (G := G) (b := V.1) (n := V.2.1) (k := k) hn hG hk hb h10 h12 h13
  have z : ∀ k, ¬ (13 ≤ k ∧ k ≤ 16) → h1 (za 195) k = h (za 195) k := fun k hk => f _ _ (fun q => hk q.2)
  have z6 : ∀ k, h1 (za 196) k = h (za 196) k := fun k => f _ _ (fun q => by cases q.1)
  exact ⟨h1, e1, ⟨⟨hb.fg f, (z 12 (by omega)).trans h12, hn, (t_skip_b hk).2⟩, T1, (z 10 (by omega)).trans h10, (z 11 (by omega)).trans h11, (M_o z6).trans hw, (z 18 (by omega)).trans h18, (z 19 (by omega)).trans h19, (z 17 (by omega)).trans h17, fun q => (z6 25).trans (h25 q)⟩, fq_.g f⟩
theorem MB.jump {k : Nat} (hk : k ≤ V.2.1) (H : MB V h s w sim beg dep) : Mq_ V (am_u h (za 195) 13 (nI k)) k w sim beg dep := by
  obtain ⟨⟨hb, h12, hn, hs⟩, hT, h10, h11, hw, h18, h19, h17, h25⟩ := H
  refine ⟨⟨fun j hj => ?_, (au_k (by omega)).trans h12, hn, hk⟩, au_, (au_k (by omega)).trans h10, (au_k (by omega)).trans h11, (M_o (fun j => au_a (fun q => by cases q))).trans hw, (au_k (by omega)).trans h18, (au_k (by omega)).trans h19, (au_k (by omega)).trans h17, fun q => (au_a (fun q => by cases q)).trans (h25 q)⟩
  rw [au_a (fun q => by cases q)]
  exact hb j hj
theorem D_rep81 {rep : HI → Option HI} (D : Dd h) : ∃ h2, sh_X10_readsRepeat_81 G rep h = some h2 ∧ h2 (za 195) 10 = h (za 195) 10 ∧ h2 (za 195) 11 = h (za 195) 11 ∧ fq_ h h2 := by
  unfold sh_X10_readsRepeat_81
  have e10 : am_u h (za 195) 17 (h (za 195) 17 - 1) (za 195) 10 = h (za 195) 10 := au_k (by omega)
  have D2 : Dd (am_u h (za 195) 17 (h (za 195) 17 - 1)) := by
    unfold Dd at D ⊢
    rw [e10]
    exact D
  rw [D_go D2, bs]
  exact ⟨_, rfl, e10, au_k (by omega), (fq_.refl h).u (by omega)⟩
theorem D_rep54 {rep : HI → Option HI} {F : Nat} {l1 l2 l3 : Int32} (D : Dd h) : ∃ h2, sh_X10_readsRepeat_54 G rep (F + 1) l1 l2 l3 h = some h2 ∧ h2 (za 195) 10 = h (za 195) 10 ∧ h2 (za 195) 11 = h (za 195) 11 ∧ fq_ h h2 := by
  obtain ⟨h2, e2, a, b, c⟩ := D_rep81 (G := G) (rep := rep) D
  refine ⟨h2, ?_, a, b, c⟩
  show sh_X10_readsRepeat_54_b G rep (sh_X10_readsRepeat_54 G rep F) l1 l2 l3 h = some h2
  unfold sh_X10_readsRepeat_54_b
  rw [if_pos D.ne, e2]
  split <;> rfl
theorem D_rep37 {rep : HI → Option HI} {l1 : Int32} (hG : 501 < G) (D : Dd h) : ∃ h2, sh_X10_readsRepeat_37 G rep l1 h = some h2 ∧ h2 (za 195) 10 = h (za 195) 10 ∧ h2 (za 195) 11 = h (za 195) 11 ∧ fq_ h h2 := by
  unfold sh_X10_readsRepeat_37
  obtain ⟨F, hF⟩ : ∃ F, G = F + 1 := ⟨G - 1, by omega⟩
  have e10 : am_u h (za 195) 17 (h (za 195) 17 + 1) (za 195) 10 = h (za 195) 10 := au_k (by omega)
  have D2 : Dd (am_u h (za 195) 17 (h (za 195) 17 + 1)) := by
    unfold Dd at D ⊢
    rw [e10]
    exact D
  obtain ⟨h2, e2, a, b, c⟩ := D_rep54 (G := G) (rep := rep) (F := F) (l1 := l1) (l2 := h (za 195) 13) (l3 := 0) D2
  rw [← hF] at e2
  exact ⟨h2, e2, a.trans e10, b.trans (au_k (by omega)), ((fq_.refl h).u (by omega)).trans c⟩
/-- the rounds of a "repeat" -/
theorem mr_loop {rep : HI → Option HI} {ev : Nat → Wd → Nat → XR (Nat × Wd × Nat)} {sP m : Nat} (hG : 501 < G) (hP : t_cu V.1 V.2.1 sP ≤ V.2.1) (hb : t_skip V.1 V.2.1 (t_cu V.1 V.2.1 sP) = bod V s) (hb1 : 1 ≤ bod V s) (hm : m ≤ 5) (hd : dep < 3) (hev : ∀ s w sim h, IBp sim w → MB V h s w sim true (dep + 1) → mr_ V true (dep + 1) (sh_X10_readsEvent G rep h) h (ev s w sim)) (hx : ∀ s w sim, IBp sim w → XI V IBp (s + 1) sim (ev s w sim)) : ∀ (k i sl : Nat) (w : Wd) (sim : Nat) (h : HI) (F : Nat), i + k = m → k < F → IBp sim w → MB V h sl w sim true (dep + 1) → fq_ h0 h → mr_ V true dep (sh_X10_readsRepeat_54 G rep F (nI m) (nI (t_cu V.1 V.2.1 sP)) (nI i) h) h0 (xb (r_rep (r_evs V ev 501 (bod V s)) k sl w sim) fun r => Sum.inr (nxV V r.1, r.2.1, r.2.2)) := fun k => by
  induction k with
  | zero =>
    intro i sl w sim h F hi hF hI H f0
    obtain ⟨F, rfl⟩ : ∃ F2, F = F2 + 1 := ⟨F - 1, by omega⟩
    show mr_ V true dep (sh_X10_readsRepeat_54_b G rep (sh_X10_readsRepeat_54 G rep F) (nI m) (nI (t_cu V.1 V.2.1 sP)) (nI i) h) h0 (Sum.inr (nxV V sl, w, sim))
    unfold sh_X10_readsRepeat_54_b sh_X10_readsRepeat_81
    rw [if_pos (nI_le (by omega) (by omega)), H.2.2.2.2.2.2.2.1, S1_ (by omega), show dep + 1 - 1 = dep by omega]
    obtain ⟨h2, e2, H2, f2⟩ := M_go hG (H.u17 (m := dep))
    rw [e2, bs]
    exact mr_ret H2 ((f0.u (by omega)).trans f2)
  | succ k ih =>
    intro i sl w sim h F hi hF hI H f0
    obtain ⟨F, rfl⟩ : ∃ F2, F = F2 + 1 := ⟨F - 1, by omega⟩
    show mr_ V true dep (sh_X10_readsRepeat_54_b G rep (sh_X10_readsRepeat_54 G rep F) (nI m) (nI (t_cu V.1 V.2.1 sP)) (nI i) h) h0 (xb (r_rep (r_evs V ev 501 (bod V s)) (k + 1) sl w sim) fun r => Sum.inr (nxV V r.1, r.2.1, r.2.2))
    unfold sh_X10_readsRepeat_54_b sh_X10_readsEvents
    rw [if_neg (nI_ge (by omega) (by omega)), if_neg (fun z => z H.al), r_rep_s]
    obtain ⟨h2, e2, H2, f2⟩ := (H.jump (k := t_cu V.1 V.2.1 sP) hP).go hG
    rw [hb] at H2
    rw [e2, bs]
    have hn := H.1.2.2.1
    have g := mr_evs (h0 := h0) hG hev hx 501 (bod V s) w sim h2 G (by omega) (by omega) hI H2 ((f0.u (by omega)).trans f2)
    have gx := XI_evs hx 501 (bod V s) w sim hI
    have e : (xb (xb (r_evs V ev 501 (bod V s) w sim) fun r => r_rep (r_evs V ev 501 (bod V s)) k r.1 r.2.1 r.2.2) fun r => Sum.inr (nxV V r.1, r.2.1, r.2.2) : XR (Nat × Wd × Nat)) = xb (r_evs V ev 501 (bod V s) w sim) fun r => xb (r_rep (r_evs V ev 501 (bod V s)) k r.1 r.2.1 r.2.2) fun r => Sum.inr (nxV V r.1, r.2.1, r.2.2) := by
      cases r_evs V ev 501 (bod V s) w sim <;> rfl
    rw [e]
    refine mr_seq g (fun s1 w1 sim1 h1 er H1 f1 => ?_) (fun h1 D => ?_)
    · rw [er] at gx
      have g2 := ih (i + 1) s1 w1 sim1 h1 F (by omega) (by omega) gx.1 H1 f1
      rw [← nI_1 i] at g2
      exact g2
    · obtain ⟨F, rfl⟩ : ∃ F2, F = F2 + 1 := ⟨F - 1, by omega⟩
      exact D_rep54 D
end MW
