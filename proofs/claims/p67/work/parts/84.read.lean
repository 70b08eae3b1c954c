/-! the class reads a text as r_all says -/
/-- settings let no minutes pass -/
def SM (sim : Nat) (r : XR (Nat × Wd × Nat)) : Prop := ∀ s1 w1 sim1, r = Sum.inr (s1, w1, sim1) → sim1 = sim
section SMS
variable {V : TV} {sim : Nat}
theorem SM.l {e : Nat × Nat} : SM sim (Sum.inl e) := fun _ _ _ h => by cases h
theorem SM.r {s : Nat} {w : Wd} : SM sim (Sum.inr (s, w, sim)) := fun _ _ _ h => by cases h; rfl
theorem SM.b {α : Type} {r : XR α} {k : α → XR (Nat × Wd × Nat)} (h : ∀ v, SM sim (k v)) : SM sim (xb r k) := by
  cases r with
  | inl e => exact SM.l
  | inr v => exact h v
theorem SM.i {c : Prop} [Decidable c] {a b : XR (Nat × Wd × Nat)} (h1 : SM sim a) (h2 : SM sim b) : SM sim (if c then a else b) := by
  by_cases q : c
  · rw [if_pos q]; exact h1
  · rw [if_neg q]; exact h2
theorem SM_route : ∀ (f k s : Nat) (w : Wd), SM sim (x_route V f k s w sim)
  | 0, _, _, _ => SM.r
  | f + 1, k, s, w => by
    rw [x_route_s]
    cases x_mv (sgV V s) with
    | none => exact SM.r
    | some m => exact SM.i SM.l (SM_route f _ _ _)
theorem SM_cur {cl : Nat} : ∀ (f s : Nat) (w : Wd), SM sim (x_cur V cl f s w sim)
  | 0, _, _ => SM.l
  | f + 1, s, w => by
    rw [x_cur_s]
    exact SM.b fun v => SM.i SM.l (SM.i (SM_cur f _ _) SM.r)
theorem SM_line {q : Fin 37} {s a d len : Nat} {w : Wd} : SM sim (x_line V q s w sim a d len) := SM.i SM.l SM.r
theorem SM_item {q : Fin 37} {s : Nat} {w : Wd} : SM sim (x_item V q s w sim) := SM.i (SM.b fun _ => SM_line) (SM.i (SM.b fun _ => SM_line) (SM.b fun _ => SM.i SM_line SM.l))
theorem SM_items {q : Fin 37} : ∀ (f s : Nat) (w : Wd), SM sim (x_items V q f s w sim)
  | 0, _, _ => SM.l
  | f + 1, s, w => by
    rw [x_items_s]
    cases e : x_item V q s w sim with
    | inl cp => exact SM.l
    | inr r =>
      obtain ⟨s1, w1, sim1⟩ := r
      have es : sim1 = sim := SM_item _ _ _ e
      show SM sim (if sgV V s1 = 34 ∨ sgV V s1 = 24 ∨ sgV V s1 = 25 then x_items V q f s1 w1 sim1 else Sum.inr (s1, w1, sim1))
      rw [es]
      exact SM.i (SM_items f _ _) SM.r
theorem SM_set {s : Nat} {w : Wd} : SM sim (x_set V s w sim) := by
  unfold x_set
  refine SM.i (SM.b fun _ => SM.r) (SM.i (SM.b fun _ => SM.r) (SM.i (SM.b fun _ => SM.r) (SM.i (SM.b fun _ => SM.r) (SM.i (SM.b fun _ => SM.r) (SM.i (SM.b fun _ => SM.r) (SM.i (SM.b fun _ => SM.r) ?_))))))
  refine SM.i (SM.b fun _ => SM.i SM.r (SM.i SM.r SM.l)) (SM.i (SM.b fun _ => SM_route _ _ _ _) (SM.i (SM_cur _ _ _) ?_))
  exact SM.i (SM.b fun _ => SM.b fun _ => SM.r) (SM.i (SM.i SM.l (SM.b fun _ => SM.b fun _ => SM.r)) (SM_items _ _ _))
end SMS
section RD
variable {V : TV} {G : Nat} {x : AX}
theorem L_one {L : Nat} {stk : List (Nat × Nat)} {h : HI} {s sim : Nat} {w : Wd} {beg : Bool} {rep : Nat → Wd → Nat → XR (Nat × Wd × Nat)} (hG : 501 < G) (hx : x.1 = V.2.2.1) (hn : V.2.1 ≤ 500) (h2 : 2 ≤ s) (hI : IBp sim w) (H : CL V h s w sim beg true stk) (q0 : beg = true ∨ ¬ (1 ≤ (sgV V s).val ∧ (sgV V s).val ≤ 13)) (hrep : sgV V s = 23 → Lr_ V G x stk h (bC (5 ^ L) s) (5 ^ L * (V.2.1 - s) + 1) (rep s (if beg = true then w else p_reloc w) sim)) : Lr_ V G x stk h (bC (5 ^ L) s) (5 ^ L * (V.2.1 - s) + 1) (r_one V rep s (if beg = true then w else p_reloc w) sim) := by
  have hC : 1 ≤ 5 ^ L := Nat.le_trans (Nat.one_le_two_pow (n := L)) (Nat.pow_le_pow_left (by decide) L)
  unfold r_one
  by_cases c : sgV V s = 23
  · rw [if_pos c]
    exact hrep c
  rw [if_neg c]
  by_cases c1 : (sgV V s).val = 2 ∨ (14 ≤ (sgV V s).val ∧ (sgV V s).val ≤ 22)
  · rw [if_pos c1]
    have hst := C_evst (G := G) H (by omega) q0
    rw [if_pos c] at hst
    have g := xl_ev (G := G) hG hn h2 hI.1 hI.2 H c1
    rw [← hst] at g
    refine Lr_.of hx H.2.2.1 H.h9 g (by omega) (fun s1 w1 sim1 e => ?_)
    have hI3 : IBp sim (if beg = true then w else p_reloc w) := by
      cases beg with
      | true => exact hI
      | false => exact ⟨hI.1.reloc, hI.2⟩
    have gi := XI_ev (V := V) (s := s) (sg_lt_n (fun e => by rw [e] at c1; revert c1; decide)) hI3
    rw [e] at gi
    have : 5 ^ L * 1 ≤ 5 ^ L * (s1 - s) := Nat.mul_le_mul_left _ (by have := gi.2.1; omega)
    show 1 ≤ 5 ^ L * (s1 - s)
    omega
  · rw [if_neg c1]
    have hno : ¬ ((sgV V s).val = 2 ∨ (14 ≤ (sgV V s).val ∧ (sgV V s).val ≤ 23)) := fun q => by
      have : (sgV V s).val ≠ 23 := fun e => c (Fin.ext e)
      omega
    exact Lr_.of hx H.2.2.1 H.h9 (C_noev (G := G) hG hn h2 hI.1.1 hI.1.2.1 H hno q0) (by omega) (fun s1 w1 sim1 e => by cases e)
theorem L_ev (hG : 501 < G) (hx : x.1 = V.2.2.1) (hn : V.2.1 ≤ 500) : ∀ (L : Nat) (stk : List (Nat × Nat)) (h : HI) (s : Nat) (w : Wd) (sim : Nat) (beg : Bool), stk.length + L = 3 → 2 ≤ s → IBp sim w → CL V h s w sim beg true stk → (beg = true ∨ ¬ (1 ≤ (sgV V s).val ∧ (sgV V s).val ≤ 13)) → Lr_ V G x stk h (bC (5 ^ L) s) (5 ^ L * (V.2.1 - s) + 1) (r_ev V L s (if beg = true then w else p_reloc w) sim)
  | 0, stk, h, s, w, sim, beg, hl, h2, hI, H, q0 => by
    refine L_one (rep := fun s _ _ => Sum.inl (4, s)) hG hx hn h2 hI H q0 (fun c => ?_)
    have hst := C_evst (G := G) H (by rw [c]; decide) q0
    rw [if_neg (fun z => z c), H.2.2.2.1, show stk.length = 3 by omega, if_neg (by decide)] at hst
    obtain ⟨h1, e1, x1, f1⟩ := C_failT (c := 4) (by omega) H.1
    have e4 : stS V G h = some h1 := by
      rw [hst, show (4 : Int32) = nI 4 from rfl, e1, bs]
      exact pass_0 (by omega) h1
    exact ⟨1, h1, Lp_.s hx H.2.2.1 H.h9 e4, x1, fl_.of f1, by omega⟩
  | L + 1, stk, h, s, w, sim, beg, hl, h2, hI, H, q0 => by
    refine L_one (rep := r_brk V (r_ev V L)) hG hx hn h2 hI H q0 (fun c => ?_)
    have hI3 : IBp sim (if beg = true then w else p_reloc w) := by
      cases beg with
      | true => exact hI
      | false => exact ⟨hI.1.reloc, hI.2⟩
    have hC : 1 ≤ 5 ^ L := Nat.le_trans (Nat.one_le_two_pow (n := L)) (Nat.pow_le_pow_left (by decide) L)
    have hs := nxV_b (V := V) (sg_lt_n (s := s) (by rw [c]; decide))
    have hop := C_open (G := G) hG hI.1 H (by omega) c
    generalize (if beg = true then w else p_reloc w) = w3 at hI3 hop ⊢
    unfold r_brk
    cases em : x_num V (nxV V s) 1 5 with
    | inl cp =>
      obtain ⟨c1, p⟩ := cp
      rw [em] at hop
      obtain ⟨h1, e1, x1, f1⟩ := hop
      exact ⟨1, h1, Lp_.s hx H.2.2.1 H.h9 e1, x1, f1, by omega⟩
    | inr m =>
      rw [em] at hop
      obtain ⟨-, m1, m2, m3, m4⟩ := x_num_ok em
      have hs2 := nxV_b (V := V) m4
      show Lr_ V G x stk h _ _ (if sgV V (nxV V (nxV V s)) = 32 then xb (r_rep (r_evs V (r_ev V L) 501 (bod V s)) m 0 w3 sim) fun r => Sum.inr (nxV V r.1, r.2.1, r.2.2) else Sum.inl (1, nxV V (nxV V s)))
      by_cases c32 : sgV V (nxV V (nxV V s)) = 32
      case neg =>
        rw [if_neg c32]
        have hop : if sgV V (nxV V (nxV V s)) = 32 then _ else ∃ h1, stS V G h = some h1 ∧ XE V h1 1 (nxV V (nxV V s)) ∧ fl_ h h1 := hop
        rw [if_neg c32] at hop
        obtain ⟨h1, e1, x1, f1⟩ := hop
        exact ⟨1, h1, Lp_.s hx H.2.2.1 H.h9 e1, x1, f1, by omega⟩
      rw [if_pos c32]
      have hop : if sgV V (nxV V (nxV V s)) = 32 then ∃ h1, stS V G h = some h1 ∧ CL V h1 (bod V s) w3 sim true true ((bod V s, m - 1) :: stk) ∧ fl_ h h1 else _ := hop
      rw [if_pos c32] at hop
      obtain ⟨h1, e1, H1, f1⟩ := hop
      have hs3 := nxV_b (V := V) (sg_lt_n (by rw [c32]; decide))
      have hb0 : s + 3 ≤ bod V s := by unfold bod; omega
      have hbn : bod V s ≤ V.2.1 := hs3.2
      have hev : ∀ h w sim l, l < 5 → IBp sim w → CL V h (bod V s) w sim true true ((bod V s, l) :: stk) → Lr_ V G x ((bod V s, l) :: stk) h (bC (5 ^ L) (bod V s)) (5 ^ L * (V.2.1 - bod V s) + 1) (r_evs V (r_ev V L) 501 (bod V s) w sim) ∧ ∀ r, r_evs V (r_ev V L) 501 (bod V s) w sim = Sum.inr r → sgV V r.1 = 33 := fun h w sim l hl5 hI2 H2 => by
        refine L_evs hC hx hn (fun h w sim s2 b1 b2 b3 => ?_) (XI_rev L) 501 _ w sim h (by omega) (by omega) hI2 H2
        have g := L_ev hG hx hn L ((bod V s, l) :: stk) h w sim s2 true (by show stk.length + 1 + L = 3; omega) b1 b2 b3 (Or.inl rfl)
        rw [if_pos rfl] at g
        exact g
      have g := L_rep (C := 5 ^ L) (G := G) hx (stk := stk) (fun _ _ _ _ => PD_evs (PD_rev L) 501 (bod V s) _ _ _ _) (fun w sim a => XI_evs (XI_rev L) 501 (bod V s) w sim a) hev (m - 1) 0 w3 sim h1 (by omega) hI3 H1
      rw [show m - 1 + 1 = m by omega] at g
      have P1 := Lp_.s (G := G) hx H.2.2.1 H.h9 e1
      have e5 : 5 ^ (L + 1) = 5 * 5 ^ L := by rw [Nat.pow_succ, Nat.mul_comm]
      cases er : r_rep (r_evs V (r_ev V L) 501 (bod V s)) m 0 w3 sim with
      | inl cp =>
        obtain ⟨c1, p⟩ := cp
        rw [er] at g
        obtain ⟨k, h4, P4, x4, f4, b4⟩ := g
        refine ⟨_, h4, P1.t P4, x4, f1.trans f4, ?_⟩
        have q1 : m * (5 ^ L * (V.2.1 - bod V s) + 1) ≤ 5 * (5 ^ L * (V.2.1 - bod V s) + 1) := Nat.mul_le_mul_right _ m2
        have q2 : 5 ^ L * (V.2.1 - bod V s) + 5 ^ L * 3 ≤ 5 ^ L * (V.2.1 - s) := by
          rw [← Nat.mul_add]
          exact Nat.mul_le_mul_left _ (by omega)
        rw [e5, Nat.mul_assoc]
        omega
      | inr r4 =>
        obtain ⟨s4, w4, sim4⟩ := r4
        rw [er] at g
        obtain ⟨k, h4, P4, H4, f4, b4, c4⟩ := g
        refine ⟨_, h4, P1.t P4, H4, f1.trans f4, ?_⟩
        have hs4 := nxV_b (V := V) (sg_lt_n (s := s4) (by rw [c4]; decide))
        have gi := XI_rep (V := V) (s0 := bod V s + 1) (fun w sim a => XI_evs (XI_rev L) 501 (bod V s) w sim a) m 0 w3 sim (Or.inr (by omega)) (fun z => by omega) hI3
        rw [er] at gi
        have gi1 : bod V s + 1 ≤ s4 := gi.2.1
        have q1 : m * (5 ^ L * (s4 - bod V s) + 1) ≤ 5 * (5 ^ L * (s4 - bod V s) + 1) := Nat.mul_le_mul_right _ m2
        have q2 : 5 ^ L * (s4 - bod V s) + 5 ^ L * 3 ≤ 5 ^ L * (nxV V s4 - s) := by
          rw [← Nat.mul_add]
          exact Nat.mul_le_mul_left _ (by omega)
        show 1 + k ≤ 5 ^ (L + 1) * (nxV V s4 - s)
        rw [e5, Nat.mul_assoc]
        omega
/-- the last state of the loop -/
def FN (h : HI) (w : Wd) : Prop := h (za 34) 8 = 1 ∧ h (za 34) 9 = 0 ∧ h (za 34) 10 = -1 ∧ vw_ 1 h = w
theorem C_fin {h : HI} {s sim : Nat} {w : Wd} {beg : Bool} (hG : 501 < G) (hI : IBp sim w) (H : CL V h s w sim beg false []) (q : sgV V s = 36) : ∃ h1, stS V G h = some h1 ∧ FN h1 (if beg = true then w else p_reloc w) ∧ fl_ h h1 := by
  rw [H.st0]
  obtain ⟨Hb, a6, a8, a4, al, ak⟩ := H
  have a4' : h (za 34) 4 = 0 := a4
  have h7 := Hb.2.2.2.2.1
  unfold sh_X4_readSeparator sh_X4_readSeparator_51 sh_X4_finish
  rw [C_sgn Hb, bs, q, if_pos (by decide), if_pos (by decide), if_neg (fun q => q rfl), a4', if_neg (fun q => q rfl), h7]
  have f8 : fl_ h (am_u h (za 34) 8 (1 : Int32)) := (fl_.refl h).u (by omega)
  have hv : vw_ 1 (am_u h (za 34) 8 (1 : Int32)) = w := (V_f (fun j k => au_a (fun q => by cases q))).trans Hb.vw
  have h9 : am_u h (za 34) 8 (1 : Int32) (za 34) 9 = 0 := (au_k (by omega)).trans Hb.2.2.2.2.2.1
  have h10 : am_u h (za 34) 8 (1 : Int32) (za 34) 10 = -1 := (au_k (by omega)).trans Hb.2.2.2.2.2.2
  cases beg with
  | true =>
    rw [if_pos (by decide), bs]
    exact ⟨_, rfl, ⟨au_, h9, h10, hv⟩, f8⟩
  | false =>
    rw [if_neg (by decide)]
    have hI := hI.1
    have hc := hI.1.c
    obtain ⟨h3, e3, v3, f3⟩ := C_rel (G := G) (i := 1) (hi := am_u h (za 34) 8 (1 : Int32)) (by omega) (by rw [hv]; exact hI.1) (by rw [hv]; exact hI.2.2.2.2.2.1.1) (by rw [hv]; exact hI.2.2.2.2.2.1.2) (by rw [hv]; exact hI.2.2.1.1.2.1.1) (by rw [hv]; have := hI.2.2.1.1.2.1.2; omega) (by rw [hv]; exact hI.2.2.1.1.1)
    rw [e3, bs, bs]
    rw [hv] at v3
    have z : ∀ k, h3 (za 34) k = am_u h (za 34) 8 (1 : Int32) (za 34) k := fun k => f3 _ _ (fun j q => by cases q)
    exact ⟨h3, rfl, ⟨(z 8).trans au_, (z 9).trans h9, (z 10).trans h10, v3⟩, f8.trans (fl_.of (fe_.of f3))⟩
theorem L_text (hG : 501 < G) (hx : x.1 = V.2.2.1) (hn : V.2.1 ≤ 500) : ∀ (f : Nat) (s : Nat) (w : Wd) (sim : Nat) (beg : Bool) (h : HI), V.2.1 < s + f → 2 ≤ s → IBp sim w → (beg = false → XS w) → CL V h s w sim beg false [] → match r_text V f s w sim beg with
    | Sum.inl (c, p) => ∃ k h1, Lp_ V G x h k h1 ∧ XE V h1 c p ∧ fl_ h h1 ∧ k ≤ 125 * (V.2.1 - s) + 1
    | Sum.inr (s1, w1, sim1) => ∃ k h1, Lp_ V G x h k h1 ∧ FN h1 w1 ∧ fl_ h h1 ∧ k ≤ 125 * (V.2.1 - s) + 1
  | 0, s, w, sim, beg, h, hf, _, _, _, H => by have := H.le; omega
  | f + 1, s, w, sim, beg, h, hf, h2, hI, hX, H => by
    rw [r_text_s]
    by_cases c31 : sgV V s = 31
    case neg =>
      rw [if_neg c31]
      by_cases c36 : sgV V s = 36
      · rw [if_pos c36]
        obtain ⟨h1, e1, F1, f1⟩ := C_fin (G := G) hG hI H c36
        exact ⟨1, h1, Lp_.s hx H.2.2.1 H.h9 e1, F1, f1, by omega⟩
      · rw [if_neg c36]
        obtain ⟨h1, e1, x1, f1⟩ := C_nosep (G := G) H c31 (fun _ => rfl) (fun q => absurd q c36)
        exact ⟨1, h1, Lp_.s hx H.2.2.1 H.h9 e1, x1, f1, by omega⟩
    rw [if_pos c31]
    have hs := nxV_b (V := V) (sg_lt_n (s := s) (by rw [c31]; decide))
    obtain ⟨h3, e3, H3, f3⟩ := C_semi (G := G) H c31
    have P3 := Lp_.s (G := G) hx H.2.2.1 H.h9 e3
    by_cases cs : beg = false ∧ 1 ≤ (sgV V (nxV V s)).val ∧ (sgV V (nxV V s)).val ≤ 13
    · rw [if_pos cs]
      obtain ⟨rfl, cs2⟩ := cs
      have hX1 := hX rfl
      have est : stS V G h3 = sh_X4_readSetting G V.2.2.1 h3 := by rw [H3.st1, if_pos (Or.inr ⟨rfl, cs2⟩)]
      have g := xl_set (G := G) hG hn (by omega) hX1.1 hX1.2.1 H3
      rw [if_pos cs2, ← est] at g
      have gi := XI_set (V := V) (s := nxV V s) (sim := sim) (sg_lt_n (fun e => by rw [e] at cs2; revert cs2; decide)) hX1
      cases e : x_set V (nxV V s) w sim with
      | inl cp =>
        obtain ⟨c, p⟩ := cp
        rw [e] at g
        obtain ⟨h4, e4, x4, f4⟩ := g
        exact ⟨_, h4, P3.t (Lp_.s hx H3.2.2.1 H3.h9 e4), x4, f3.trans f4, by omega⟩
      | inr r1 =>
        obtain ⟨s1, w1, sim1⟩ := r1
        rw [e] at g gi
        obtain ⟨h4, e4, H4, f4⟩ := g
        obtain ⟨i1, i2, i3, i4⟩ := gi
        have P4 := P3.t (Lp_.s (G := G) hx H3.2.2.1 H3.h9 e4)
        have es : sim1 = sim := SM_set _ _ _ e
        subst es
        have ih := L_text hG hx hn f s1 w1 sim1 false h4 (by omega) (by omega) ⟨(i1 : XS w1).ib.mono (Nat.zero_le _) (Nat.zero_le _), hI.2⟩ (fun _ => i1) H4
        show match r_text V f s1 w1 sim1 false with
          | Sum.inl (c, p) => ∃ k h1, Lp_ V G x h k h1 ∧ XE V h1 c p ∧ fl_ h h1 ∧ k ≤ 125 * (V.2.1 - s) + 1
          | Sum.inr (s1, w1, sim1) => ∃ k h1, Lp_ V G x h k h1 ∧ FN h1 w1 ∧ fl_ h h1 ∧ k ≤ 125 * (V.2.1 - s) + 1
        cases e5 : r_text V f s1 w1 sim1 false with
        | inl cp =>
          rw [e5] at ih
          obtain ⟨k, h5, P5, x5, f5, b5⟩ := ih
          exact ⟨_, h5, P4.t P5, x5, (f3.trans f4).trans f5, by omega⟩
        | inr r5 =>
          rw [e5] at ih
          obtain ⟨k, h5, P5, F5, f5, b5⟩ := ih
          exact ⟨_, h5, P4.t P5, F5, (f3.trans f4).trans f5, by omega⟩
    · rw [if_neg cs]
      have q0 : beg = true ∨ ¬ (1 ≤ (sgV V (nxV V s)).val ∧ (sgV V (nxV V s)).val ≤ 13) := by
        cases beg with
        | true => exact Or.inl rfl
        | false => exact Or.inr (fun z => cs ⟨rfl, z⟩)
      have g := L_ev hG hx hn 3 [] h3 (nxV V s) w sim beg rfl (by omega) hI H3 q0
      have hI3 : IBp sim (if beg = true then w else p_reloc w) := by
        cases beg with
        | true => exact hI
        | false => exact ⟨hI.1.reloc, hI.2⟩
      have gi := XI_rev (V := V) 3 (nxV V s) (if beg = true then w else p_reloc w) sim hI3
      generalize (if beg = true then w else p_reloc w) = w3 at g gi ⊢
      cases e : r_ev V 3 (nxV V s) w3 sim with
      | inl cp =>
        obtain ⟨c, p⟩ := cp
        rw [e] at g
        obtain ⟨k, h4, P4, x4, f4, b4⟩ := g
        exact ⟨_, h4, P3.t P4, x4, f3.trans f4, by omega⟩
      | inr r1 =>
        obtain ⟨s1, w1, sim1⟩ := r1
        rw [e] at g gi
        obtain ⟨k, h4, P4, H4, f4, b4⟩ := g
        have b4 : k ≤ 125 * (s1 - nxV V s) := b4
        obtain ⟨i1, i2, i3, i4⟩ := gi
        have ih := L_text hG hx hn f s1 w1 sim1 true h4 (by omega) (by omega) i1 (fun z => by cases z) H4
        have P5 := P3.t P4
        show match r_text V f s1 w1 sim1 true with
          | Sum.inl (c, p) => ∃ k h1, Lp_ V G x h k h1 ∧ XE V h1 c p ∧ fl_ h h1 ∧ k ≤ 125 * (V.2.1 - s) + 1
          | Sum.inr (s1, w1, sim1) => ∃ k h1, Lp_ V G x h k h1 ∧ FN h1 w1 ∧ fl_ h h1 ∧ k ≤ 125 * (V.2.1 - s) + 1
        cases e5 : r_text V f s1 w1 sim1 true with
        | inl cp =>
          rw [e5] at ih
          obtain ⟨k5, h5, P6, x5, f5, b5⟩ := ih
          exact ⟨_, h5, P5.t P6, x5, (f3.trans f4).trans f5, by omega⟩
        | inr r5 =>
          rw [e5] at ih
          obtain ⟨k5, h5, P6, F5, f5, b5⟩ := ih
          exact ⟨_, h5, P5.t P6, F5, (f3.trans f4).trans f5, by omega⟩
end RD
