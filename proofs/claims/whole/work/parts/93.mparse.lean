/-! the model reads a setup as r_all says -/
section MX
variable {V : TV} {h h0 : HI} {s sim dep G : Nat} {w : Wd} {beg : Bool}
theorem t_cu_le (hs : s ≤ V.2.1) : t_cu V.1 V.2.1 s ≤ V.2.1 := by
  unfold t_cu
  by_cases c : V.2.1 ≤ s
  · rw [if_pos c]; exact hs
  · rw [if_neg c]; exact (t_end_b (b := V.1) (by omega)).2
theorem skip_cu (hs : s ≤ V.2.1) : t_skip V.1 V.2.1 (t_cu V.1 V.2.1 s) = nxV V s := by
  show _ = t_nx V.1 V.2.1 s
  unfold t_cu t_nx
  by_cases c : V.2.1 ≤ s
  · rw [if_pos c, if_pos c]
    obtain rfl : s = V.2.1 := by omega
    exact t_skip_n
  · rw [if_neg c, if_neg c]
theorem mr_brk {rep : HI → Option HI} {ev : Nat → Wd → Nat → XR (Nat × Wd × Nat)} (hG : 501 < G) (hd : dep < 3) (hsg : sgV V s = 23) (hev : ∀ s w sim h, IBp sim w → MB V h s w sim true (dep + 1) → mr_ V true (dep + 1) (sh_X10_readsEvent G rep h) h (ev s w sim)) (hx : ∀ s w sim, IBp sim w → XI V IBp (s + 1) sim (ev s w sim)) (hI : IBp sim w) (H : MB V h s w sim true dep) : mr_ V true dep (sh_X10_readsRepeat G rep h) h (r_brk V ev s w sim) := by
  have h17 := H.2.2.2.2.2.2.2.1
  unfold sh_X10_readsRepeat sh_X10_readsRepeat_13 r_brk
  rw [h17, if_pos (show nI dep ≠ (3 : Int32) from fun q => by have := (nI_eq (b := 3) (by omega) (by omega)).mp q; omega)]
  obtain ⟨h2, e2, H2, f2⟩ := M_go hG H
  rw [e2, bs]
  have hs0 := nxV_b (V := V) (sg_lt_n (s := s) (by rw [hsg]; decide))
  refine mr_num (lo := 1) (hi := 5) hG f2 (by omega) (by omega) H2 (fun m h1 a1 a2 a3 H1 f1 => ?_) (fun h1 D => ?_)
  · show mr_ V true dep (if sh_X10_is (5 : Int32) h1 ≠ 0 then sh_X10_readsRepeat_37 G rep (nI m) h1 else (sh_X10_faults (1 : Int32) h1).bind fun h9 => sh_X10_readsRepeat_37 G rep (nI m) h9) h _
    rw [show (5 : Int32) = nI 5 from rfl, M_kd (j := 32) (c := 40) (by omega) (Or.inr (Or.inl ⟨rfl, rfl, rfl⟩)) H1, ne_of]
    by_cases c : sgV V (nxV V (nxV V s)) = 32
    · rw [decide_eq_true (show sgV V (nxV V (nxV V s)) = Fin.ofNat 37 32 from c), if_pos rfl, if_pos c]
      unfold sh_X10_readsRepeat_37
      have hle := H1.sn
      have hb3 := nxV_b (V := V) (sg_lt_n (s := nxV V (nxV V s)) (by rw [c]; decide))
      rw [H1.2.1.2.1, H1.2.2.2.2.2.2.2.1, nI_1]
      obtain ⟨k, rfl⟩ : ∃ k, m = k + 1 := ⟨m - 1, by omega⟩
      have g := mr_loop (V := V) (h0 := h) (s := s) (rep := rep) (ev := ev) (sP := nxV V (nxV V s)) (m := k + 1) hG (t_cu_le hle) (skip_cu hle) (by show 1 ≤ nxV V (nxV V (nxV V s)); omega) (by omega) hd hev hx (k + 1) 0 (nxV V (nxV V s)) w sim _ G (by omega) (by omega) hI (H1.u17 (m := dep + 1)) (f1.u (by omega))
      exact g
    · rw [decide_eq_false (show ¬ sgV V (nxV V (nxV V s)) = Fin.ofNat 37 32 from c), if_neg (by decide), if_neg c]
      obtain ⟨h3, e3, x3, f3⟩ := M_flt (c := 1) (by omega) H1
      obtain ⟨h4, e4, a, b, f4⟩ := D_rep37 (rep := rep) (l1 := nI m) hG x3.d
      rw [show (1 : Int32) = nI 1 from rfl, e3, bs, e4]
      exact ⟨h4, rfl, x3.cg a b, (f1.trans f3).trans f4⟩
  · show ∃ h2, (if sh_X10_is (5 : Int32) h1 ≠ 0 then sh_X10_readsRepeat_37 G rep (nI 1) h1 else (sh_X10_faults (1 : Int32) h1).bind fun h9 => sh_X10_readsRepeat_37 G rep (nI 1) h9) = some h2 ∧ _
    rw [D_is D, if_neg (fun q => q rfl), D_flt D, bs]
    exact D_rep37 hG D
theorem mr_rev (hG : 501 < G) : ∀ (L R dep s : Nat) (h : HI) (w : Wd) (sim : Nat) (beg : Bool), dep + L = 3 → L < R → IBp sim w → MB V h s w sim beg dep → mr_ V true dep (sh_X10_readsEvent G (sh_rep G R) h) h (r_ev V L s (if beg = true then w else p_reloc w) sim) := fun L => by
  induction L with
  | zero =>
    intro R dep s h w sim beg hd hR hI H
    obtain ⟨R, rfl⟩ : ∃ R2, R = R2 + 1 := ⟨R - 1, by omega⟩
    refine mr_event (repx := fun s _ _ => Sum.inl (4, s)) hG hI H (fun h3 w3 q hI3 H3 => ?_)
    show mr_ V true dep (sh_X10_readsRepeat G (sh_rep G R) h3) h3 (Sum.inl (4, s))
    unfold sh_X10_readsRepeat sh_X10_readsRepeat_13
    rw [H3.2.2.2.2.2.2.2.1, show dep = 3 by omega, if_neg (fun z => z rfl)]
    obtain ⟨h1, e1, x1, f1⟩ := M_flt (c := 4) (by omega) H3
    obtain ⟨h2, e2, a, b, f2⟩ := D_rep37 (rep := sh_rep G R) (l1 := 1) hG x1.d
    rw [show (4 : Int32) = nI 4 from rfl, e1, bs, D_go x1.d, bs, D_num x1.d, bs]
    show mr_ V true 3 (if sh_X10_is (5 : Int32) h1 ≠ 0 then sh_X10_readsRepeat_37 G (sh_rep G R) 1 h1 else (sh_X10_faults (1 : Int32) h1).bind fun h9 => sh_X10_readsRepeat_37 G (sh_rep G R) 1 h9) h3 _
    rw [D_is x1.d, if_neg (fun q => q rfl), D_flt x1.d, bs, e2]
    exact ⟨h2, rfl, x1.cg a b, f1.trans f2⟩
  | succ L ih =>
    intro R dep s h w sim beg hd hR hI H
    obtain ⟨R, rfl⟩ : ∃ R2, R = R2 + 1 := ⟨R - 1, by omega⟩
    refine mr_event (repx := r_brk V (r_ev V L)) hG hI H (fun h3 w3 q hI3 H3 => ?_)
    exact mr_brk hG (by omega) q (fun s w sim h a b => ih R (dep + 1) s h w sim true (by omega) (by omega) a b) (XI_rev L) hI3 H3
theorem D_text {rep : HI → Option HI} {F : Nat} (D : Dd h) : sh_X10_readsText_49 G rep (F + 1) h = some h := by
  show sh_X10_readsText_49_b G rep (sh_X10_readsText_49 G rep F) h = some h
  unfold sh_X10_readsText_49_b sh_X10_readsText_102
  rw [D_is D, D_is D, if_pos rfl, if_neg (fun q => q rfl), D_flt D, bs, D_begins D, bs]
theorem XS.IB (h : XS w) (hm : sim ≤ 2000) : IBp sim w := ⟨h.ib.mono (Nat.zero_le _) (Nat.zero_le _), hm⟩
theorem mr_text (hG : 501 < G) : ∀ (f s : Nat) (w : Wd) (sim : Nat) (beg : Bool) (h : HI) (F : Nat), f ≤ F → V.2.1 < s + f → IBp sim w → (beg = false → XS w ∧ RG w) → MB V h s w sim beg 0 → fq_ h0 h → mr_ V true 0 (sh_X10_readsText_49 G (sh_rep G 5) F h) h0 (r_text V f s w sim beg) := fun f => by
  induction f with
  | zero =>
    intro s w sim beg h F _ hf _ _ H _
    have := H.sn
    omega
  | succ f ih =>
    intro s w sim beg h F hF hf hI hX H f0
    obtain ⟨F, rfl⟩ : ∃ F2, F = F2 + 1 := ⟨F - 1, by omega⟩
    have hlt : f = 0 → ¬ sgV V s = 31 := fun q c => by
      have := (nxV_b (V := V) (sg_lt_n (s := s) (by rw [c]; decide)))
      omega
    rw [r_text_s]
    show mr_ V true 0 (sh_X10_readsText_49_b G (sh_rep G 5) (sh_X10_readsText_49 G (sh_rep G 5) F) h) h0 _
    unfold sh_X10_readsText_49_b sh_X10_readsText_102 sh_X10_readsText_82
    rw [show (4 : Int32) = nI 4 from rfl, M_kd (j := 31) (c := 59) (by omega) (Or.inl ⟨rfl, rfl, rfl⟩) H, eq_of]
    by_cases c31 : sgV V s = 31
    case neg =>
      rw [decide_eq_false (show ¬ sgV V s = Fin.ofNat 37 31 from c31), if_neg (by decide), if_neg c31, M_k1 H, ne_of]
      by_cases c36 : sgV V s = 36
      · rw [decide_eq_true c36, if_pos rfl, if_pos c36]
        obtain ⟨h1, e1, H1, f1⟩ := M_begins hG hI.1 H
        rw [e1, bs]
        exact mr_ret H1 (f0.trans f1)
      · rw [decide_eq_false c36, if_neg (by decide), if_neg c36]
        obtain ⟨h1, e1, x1, f1⟩ := M_flt (c := 1) (by omega) H
        rw [show (1 : Int32) = nI 1 from rfl, e1, bs, D_begins x1.d, bs]
        exact mr_dead x1 (f0.trans f1)
    rw [decide_eq_true (show sgV V s = Fin.ofNat 37 31 from c31), if_pos rfl, if_pos c31]
    obtain ⟨F, rfl⟩ : ∃ F2, F = F2 + 1 := ⟨F - 1, by have := hlt; omega⟩
    have hs := nxV_b (V := V) (sg_lt_n (s := s) (by rw [c31]; decide))
    obtain ⟨h3, e3, H3, f3⟩ := M_go hG H
    rw [e3, bs, H3.2.2.2.2.2.2.1, M_iset hG H3, bs, eq_of]
    by_cases cs : beg = false ∧ 1 ≤ (sgV V (nxV V s)).val ∧ (sgV V (nxV V s)).val ≤ 13
    · rw [if_pos cs]
      obtain ⟨rfl, cs2⟩ := cs
      obtain ⟨hX1, hR1⟩ := hX rfl
      have hsl : nxV V s < V.2.1 := sg_lt_n (fun e => by rw [e] at cs2; revert cs2; decide)
      rw [if_neg (show ¬ b2 false ≠ 0 by decide), decide_eq_true cs2, if_pos rfl]
      have g := (mr_set hG hsl hX1 hR1 cs2 H3).fq (f0.trans f3)
      have gi := XI_set (V := V) (s := nxV V s) (sim := sim) hsl hX1
      have gr := RS_set (V := V) (s := nxV V s) (sim := sim) hsl hX1 hR1
      refine mr_seq g (fun s1 w1 sim1 h1 e H1 f1 => ?_) (fun h1 D => ⟨h1, D_text D, rfl, rfl, fq_.refl h1⟩)
      rw [e] at gi
      obtain ⟨i1, i2, i3, i4⟩ := gi
      have es : sim1 = sim := SM_set _ _ _ e
      subst es
      exact ih s1 w1 sim1 false h1 (F + 1) (by omega) (by omega) ((i1 : XS w1).IB hI.2) (fun _ => ⟨i1, gr _ _ _ e⟩) H1 f1
    · rw [if_neg cs]
      have hI3 : IBp sim (if beg = true then w else p_reloc w) := by
        cases beg with
        | true => exact hI
        | false => exact ⟨hI.1.reloc, hI.2⟩
      have gi := XI_rev (V := V) 3 (nxV V s) (if beg = true then w else p_reloc w) sim hI3
      have g : mr_ V true 0 ((sh_X10_readsEvent G (sh_rep G 5) h3).bind fun h15 => sh_X10_readsText_49 G (sh_rep G 5) (F + 1) h15) h0 (xb (r_ev V 3 (nxV V s) (if beg = true then w else p_reloc w) sim) fun r => r_text V f r.1 r.2.1 r.2.2 true) := by
        refine mr_seq ((mr_rev hG 3 5 0 _ h3 w sim beg rfl (by omega) hI H3).fq (f0.trans f3)) (fun s1 w1 sim1 h1 e H1 f1 => ?_) (fun h1 D => ⟨h1, D_text D, rfl, rfl, fq_.refl h1⟩)
        rw [e] at gi
        obtain ⟨i1, i2, i3, i4⟩ := gi
        exact ih s1 w1 sim1 true h1 (F + 1) (by omega) (by omega) i1 (fun z => by cases z) H1 f1
      cases beg with
      | true =>
        rw [if_pos (show b2 true ≠ 0 by decide)]
        exact g
      | false =>
        rw [if_neg (show ¬ b2 false ≠ 0 by decide), decide_eq_false (fun z => cs ⟨rfl, z⟩), if_neg (by decide)]
        exact g
/-- what a text leaves keeps the bounds -/
theorem I_text : ∀ (f s : Nat) (w : Wd) (sim : Nat) (beg : Bool), IBp sim w → (beg = false → XS w) → ∀ s1 w1 sim1, r_text V f s w sim beg = Sum.inr (s1, w1, sim1) → IBp sim1 w1 := fun f => by
  induction f with
  | zero =>
    intro s w sim beg _ _ s1 w1 sim1 e
    cases e
  | succ f ih =>
    intro s w sim beg hI hX s1 w1 sim1 e
    have hI3 : IBp sim (if beg = true then w else p_reloc w) := by
      cases beg with
      | true => exact hI
      | false => exact ⟨hI.1.reloc, hI.2⟩
    rw [r_text_s] at e
    by_cases c31 : sgV V s = 31
    case neg =>
      rw [if_neg c31] at e
      by_cases c36 : sgV V s = 36
      · rw [if_pos c36] at e
        cases e
        exact hI3
      · rw [if_neg c36] at e
        cases e
    rw [if_pos c31] at e
    by_cases cs : beg = false ∧ 1 ≤ (sgV V (nxV V s)).val ∧ (sgV V (nxV V s)).val ≤ 13
    · rw [if_pos cs] at e
      obtain ⟨rfl, cs2⟩ := cs
      have hsl : nxV V s < V.2.1 := sg_lt_n (fun e => by rw [e] at cs2; revert cs2; decide)
      have gi := XI_set (V := V) (s := nxV V s) (sim := sim) hsl (hX rfl)
      cases e2 : x_set V (nxV V s) w sim with
      | inl cp => rw [e2] at e; cases e
      | inr r =>
        obtain ⟨s2, w2, sim2⟩ := r
        rw [e2] at e gi
        have es : sim2 = sim := SM_set _ _ _ e2
        subst es
        exact ih s2 w2 sim2 false ((gi.1 : XS w2).IB hI.2) (fun _ => gi.1) _ _ _ e
    · rw [if_neg cs] at e
      have gi := XI_rev (V := V) 3 (nxV V s) (if beg = true then w else p_reloc w) sim hI3
      cases e2 : r_ev V 3 (nxV V s) (if beg = true then w else p_reloc w) sim with
      | inl cp => rw [e2] at e; cases e
      | inr r =>
        obtain ⟨s2, w2, sim2⟩ := r
        rw [e2] at e gi
        exact ih s2 w2 sim2 true gi.1 (fun z => by cases z) _ _ _ e
theorem p_mk_0 {o : Nat} : ∀ n, (∀ k, k < n → w (o + k) = 0) → p_mk w o n = 0 := fun n => by
  induction n with
  | zero => intro _; rfl
  | succ n ih =>
    intro hz
    have e : p_mk w o (n + 1) = p_mk w o n + (if w (o + n) = 0 then 0 else 1) := rfl
    rw [e, ih (fun k hk => hz k (by omega)), if_pos (hz n (by omega))]
theorem RG_start {r c : Int32} : p_mk (p_start r c) 164 80 = 0 := p_mk_0 80 (fun k _ => by
  unfold p_start
  rw [if_neg (by omega), if_neg (by omega), if_neg (by omega), if_neg (by omega), if_neg (by omega), if_neg (by omega), if_neg (by omega), if_neg (by omega), if_neg (by omega)])
theorem start_upd0 {a b r c : Int32} : upd (upd (p_start a b) 0 r) 1 c = p_start r c := by
  funext k
  rw [upd_e, upd_e]
  unfold p_start
  by_cases h1 : k = 1
  · subst h1; rfl
  · rw [if_neg h1]
    by_cases h0 : k = 0
    · rw [if_pos h0, if_pos h0]
    · rw [if_neg h0, if_neg h0, if_neg h0, if_neg h1, if_neg h1]
theorem xb_as {α β γ : Type} {a : XR α} {k : α → XR β} {k2 : β → XR γ} : xb (xb a k) k2 = xb a fun v => xb (k v) k2 := by
  cases a <;> rfl
theorem mr_nu2 {beg2 : Bool} {lo hi : Nat} {T : Int32 × HI → Option HI} {k : Nat → XR (Nat × Wd × Nat)} (hG : 501 < G) (f0 : fq_ h0 h) (hh : hi < 2 ^ 30) (hl : lo < 2 ^ 30) (H : MB V h s w sim beg dep) (hT : ∀ v h1, v < 1000 → lo ≤ v → v ≤ hi → MB V h1 (nxV V s) w sim beg dep → fq_ h0 h1 → mr_ V beg2 dep (T (nI v, h1)) h0 (k v)) (hE : ∀ h1, Dd h1 → ∃ h2, T (nI lo, h1) = some h2 ∧ h2 (za 195) 10 = h1 (za 195) 10 ∧ h2 (za 195) 11 = h1 (za 195) 11 ∧ fq_ h1 h2) : mr_ V beg2 dep ((sh_X10_number G (nI lo) (nI hi) h).bind T) h0 (xb (x_num V s lo hi) k) := by
  have g := M_nh hh hl H
  unfold sh_X10_number
  cases e : x_num V s lo hi with
  | inl q =>
    rw [e] at g
    obtain ⟨h1, e1, x1, f1⟩ := g
    obtain ⟨h2, e2, a, b, f2⟩ := hE h1 x1.d
    rw [e1, bs]
    show mr_ V beg2 dep (((sh_X10_goes G h1).bind fun h3 => some (nI lo, h3)).bind T) h0 (Sum.inl q)
    rw [D_go x1.d, bs, bs, e2]
    exact ⟨h2, rfl, x1.cg a b, f0.trans (f1.trans f2)⟩
  | inr v =>
    rw [e] at g
    obtain ⟨e1, g1, g2, g3⟩ := g
    obtain ⟨h1, e2, H1, f1⟩ := M_go hG H
    rw [e1, bs]
    show mr_ V beg2 dep (((sh_X10_goes G h).bind fun h3 => some (nI v, h3)).bind T) h0 (k v)
    rw [e2, bs, bs]
    exact hT v h1 g1 g2 g3 H1 (f0.trans f1)
theorem M_rtext (hG : 501 < G) (H : Mq_ V h 0 (p_start 0 0) 0 false 0) : mr_ V true 0 (sh_X10_readsText G (sh_rep G 5) h) h (r_all V) := by
  unfold sh_X10_readsText r_all x_floor
  obtain ⟨h2, e2, H2, f2⟩ := H.go hG
  generalize t_skip V.1 V.2.1 0 = s0 at H2 ⊢
  rw [e2, bs, M_word (j := 67) (q := 0) (by decide) (by decide) rfl (by omega) H2, bs, ne_of]
  unfold sh_X10_readsText_19
  by_cases c : sgV V s0 = 0
  · rw [decide_eq_true c, if_pos rfl, if_pos c, xb_as]
    obtain ⟨h3, e3, H3, f3⟩ := M_go hG H2
    rw [e3, bs]
    refine mr_nu2 (lo := 2) (hi := 8) hG (f2.trans f3) (by omega) (by omega) H3 (fun r h1 a1 a2 a3 H1 f1 => ?_) (fun h1 D => ?_)
    · rw [xb_as]
      refine mr_nu2 (lo := 2) (hi := 10) hG f1.u6 (by omega) (by omega) (H1.u6 (k := 0) (v := nI r) (Or.inl (by omega)) (Or.inl (by omega))) (fun c h4 b1 b2 b3 H4 f4 => ?_) (fun h1 D => ?_)
      · have H5 := H4.u6 (k := 1) (v := nI c) (Or.inl (by omega)) (Or.inl (by omega))
        rw [start_upd0] at H5
        have hX := XS_start (r := r) (c := c) a2 a3 b2 b3
        have hn := H.1.2.2.1
        have h1s : 1 ≤ nxV V s0 := by
          have := (nxV_b (V := V) (sg_lt_n (s := s0) (by rw [‹sgV V s0 = 0›]; decide))).1
          omega
        have h2s := nxV_le (V := V) H3.sn
        have h3s := nxV_le (V := V) h2s.2
        refine mr_text hG 501 _ _ _ false _ G (by omega) (by omega) (hX.IB (Nat.zero_le _)) (fun _ => ⟨hX, ?_⟩) H5 f4.u6
        unfold RG
        rw [RG_start]
        omega
      · obtain ⟨F, hF⟩ : ∃ F, G = F + 1 := ⟨G - 1, by omega⟩
        have D2 : Dd (am_u h1 (za 196) 1 (nI 2)) := fun z => D (by rw [au_a (fun q => by cases q)] at z; exact z)
        refine ⟨am_u h1 (za 196) 1 (nI 2), ?_, au_a (fun q => by cases q), au_a (fun q => by cases q), (fq_.refl h1).u6⟩
        show sh_X10_readsText_49 G (sh_rep G 5) G (am_u h1 (za 196) 1 (nI 2)) = _
        rw [show sh_X10_readsText_49 G (sh_rep G 5) G = sh_X10_readsText_49 G (sh_rep G 5) (F + 1) by rw [hF]]
        exact D_text D2
    · obtain ⟨F, hF⟩ : ∃ F, G = F + 1 := ⟨G - 1, by omega⟩
      have D1 : Dd (am_u h1 (za 196) 0 (nI 2)) := fun z => D (by rw [au_a (fun q => by cases q)] at z; exact z)
      have D2 : Dd (am_u (am_u h1 (za 196) 0 (nI 2)) (za 196) 1 2) := fun z => D1 (by rw [au_a (fun q => by cases q)] at z; exact z)
      refine ⟨am_u (am_u h1 (za 196) 0 (nI 2)) (za 196) 1 2, ?_, (au_a (fun q => by cases q)).trans (au_a (fun q => by cases q)), (au_a (fun q => by cases q)).trans (au_a (fun q => by cases q)), (fq_.refl h1).u6.u6⟩
      show ((sh_X10_number G (2 : Int32) (10 : Int32) (am_u h1 (za 196) 0 (nI 2))).bind fun v7 => sh_X10_readsText_49 G (sh_rep G 5) G (am_u v7.2 (za 196) 1 v7.1)) = _
      rw [D_num D1, bs, show sh_X10_readsText_49 G (sh_rep G 5) G = sh_X10_readsText_49 G (sh_rep G 5) (F + 1) by rw [hF]]
      exact D_text D2
  · rw [decide_eq_false c, if_neg (by decide), if_neg c]
    obtain ⟨h1, e1, x1, f1⟩ := M_flt (c := 1) (by omega) H2
    obtain ⟨F, hF⟩ : ∃ F, G = F + 1 := ⟨G - 1, by omega⟩
    have D1 : Dd (am_u h1 (za 196) 0 2) := fun z => x1.d (by rw [au_a (fun q => by cases q)] at z; exact z)
    have D2 : Dd (am_u (am_u h1 (za 196) 0 2) (za 196) 1 2) := fun z => D1 (by rw [au_a (fun q => by cases q)] at z; exact z)
    rw [show (1 : Int32) = nI 1 from rfl, e1, bs, D_go x1.d, bs, D_num x1.d, bs]
    show mr_ V true 0 ((sh_X10_number G (2 : Int32) (10 : Int32) (am_u h1 (za 196) 0 2)).bind fun v7 => sh_X10_readsText_49 G (sh_rep G 5) G (am_u v7.2 (za 196) 1 v7.1)) h (Sum.inl (1, s0))
    rw [D_num D1, bs, show sh_X10_readsText_49 G (sh_rep G 5) G = sh_X10_readsText_49 G (sh_rep G 5) (F + 1) by rw [hF], D_text D2]
    exact ⟨_, rfl, x1.cg ((au_a (fun q => by cases q)).trans (au_a (fun q => by cases q))) ((au_a (fun q => by cases q)).trans (au_a (fun q => by cases q))), (f2.trans f1).u6.u6⟩
end MX
