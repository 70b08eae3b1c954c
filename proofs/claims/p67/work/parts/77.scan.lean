/-! the class's table of tokens -/
def Ts_ (b : Nat → Nat) (n : Nat) (sg : Nat → AV) (hi : HI) (c : Nat) : Prop := ∀ p, p < c → sg p = gr' (t_sg b n (t_it b n p)) ∧ hi (za 37) p = nI (t_it b n p) ∧ (t_sg b n (t_it b n p) = 34 → hi (za 38) p = nI (t_nu b n (t_it b n p))) ∧ t_it b n p < n
def Tb_ (b : Nat → Nat) (n : Nat) (sg : Nat → AV) (hi : HI) (m : Nat) : Prop := m ≤ 500 ∧ hi (za 35) 3 = nI (m + 1) ∧ t_it b n m = n ∧ Ts_ b n sg hi m ∧ sg m = gr' 36 ∧ hi (za 37) m = nI n
/-- what a scan changes -/
def fs_ (h h1 : HI) : Prop := ∀ a k, ¬ (a = za 35 ∧ (k = 3 ∨ k = 4)) → a ≠ za 37 → a ≠ za 38 → h1 a k = h a k
theorem fs_.refl (h : HI) : fs_ h h := fun _ _ _ _ _ => rfl
theorem fs_.trans {h h1 h2 : HI} (a : fs_ h h1) (b : fs_ h1 h2) : fs_ h h2 := fun x k c1 c2 c3 => (b x k c1 c2 c3).trans (a x k c1 c2 c3)
theorem au_a {hi : HI} {a c : AA} {k j : Nat} {v : Int32} (h : c ≠ a) : am_u hi a k v c j = hi c j := by
  unfold am_u
  by_cases q : j = k
  · rw [if_pos q, if_neg h]
  · rw [if_neg q]
theorem au_k {hi : HI} {a c : AA} {k j : Nat} {v : Int32} (h : j ≠ k) : am_u hi a k v c j = hi c j := by
  unfold am_u
  rw [if_neg h]
section SC
variable {b : Nat → Nat} {n : Nat}
theorem C_addT {hi : HI} {x : AX} {c s : Nat} {q : Fin 37} {v : Int32} (hc : c < 501) (h3 : hi (za 35) 3 = nI c) : ∃ h1, sh_X6_add q (nI s) v hi x = some (h1, xs x c (gr' q)) ∧ h1 (za 35) 3 = nI (c + 1) ∧ (∀ p, p ≠ c → h1 (za 37) p = hi (za 37) p ∧ h1 (za 38) p = hi (za 38) p) ∧ h1 (za 37) c = nI s ∧ h1 (za 38) c = v ∧ h1 (za 35) 4 = hi (za 35) 4 ∧ fs_ hi h1 := by
  have d1 : (za 35) ≠ za 37 := fun e => by cases e
  have d2 : (za 35) ≠ za 38 := fun e => by cases e
  have d3 : (za 37) ≠ za 38 := fun e => by cases e
  unfold sh_X6_add
  rw [h3, if_neg (show ¬ (501 : Int32) ≤ nI c from nI_ge (b := 501) hc (by omega)), if_pos (ok_ hc (by decide)), nI_clamp (by omega), bs, put_n hc (by decide), au_a d1, h3, bs, put_n hc (by decide), au_a d2, au_a d1, h3, nI_1]
  refine ⟨_, rfl, au_, fun p hp => ⟨?_, ?_⟩, ?_, ?_, ?_, fun a k q1 q2 q3 => ?_⟩
  · rw [au_a (fun e => by cases e), au_k hp, au_k hp]
  · rw [au_a (fun e => by cases e), au_k hp, au_k hp]
  · rw [au_a (fun e => by cases e), au_a d3, au_]
  · rw [au_a (fun e => by cases e), au_]
  · rw [au_k (by omega), au_a d2, au_a d1]
  · by_cases e : a = za 35
    · subst e
      rw [au_k (fun e => q1 ⟨rfl, Or.inl e⟩), au_a d2, au_a d1]
    · rw [au_a e, au_a q3, au_a q2]
theorem xs_ne {x : AX} {c p : Nat} {v : AV} (h : p ≠ c) : (xs x c v).1 p = x.1 p := if_neg h
theorem xs_eq {x : AX} {c : Nat} {v : AV} : (xs x c v).1 c = v := if_pos rfl
theorem By_.fs {hi h1 : HI} (h : By_ hi b) (f : fs_ hi h1) : By_ h1 b := fun k hk => by
  rw [f _ _ (fun e => by cases e.1) (fun e => by cases e) (fun e => by cases e)]
  exact h k hk
theorem C_scan_15 {G : Nat} (hn : n ≤ 500) (hG : 600 < G) : ∀ f k e c F (hi : HI) (x : AX), k + f = n → f < F → Ts_ b n x.1 hi c → hi (za 35) 3 = nI c → By_ hi b → t_skip b n (max k e) = t_it b n c → c ≤ k → e ≤ n → ∃ h1 x1 m, sh_X6_scan_15 G (nI n) F (nI e) (nI k) hi x = some (h1, x1) ∧ Tb_ b n x1.1 h1 m ∧ h1 (za 35) 4 = hi (za 35) 4 ∧ fs_ hi h1 ∧ x1.2 = x.2
  | f, k, e, c, 0, hi, x, h, hF, _, _, _, _, _, _ => absurd hF (Nat.not_lt_zero _)
  | 0, k, e, c, F + 1, hi, x, h, hF, hT, h3, hb, hs, hc, he => by
    obtain rfl : k = n := by omega
    rw [Nat.max_eq_left he, t_skip_n] at hs
    show ∃ h1 x1 m, sh_X6_scan_15_b G (nI k) (sh_X6_scan_15 G (nI k) F) (nI e) (nI k) hi x = some (h1, x1) ∧ _
    unfold sh_X6_scan_15_b
    rw [if_pos (Int32.le_refl _)]
    obtain ⟨h1, e1, a3, ap, a37, a38, a4, fr⟩ := C_addT (q := 36) (v := (0 : Int32)) (s := k) (x := x) (show c < 501 by omega) h3
    rw [e1]
    refine ⟨h1, xs x c (gr' 36), c, rfl, ⟨by omega, a3, hs.symm, fun p hp => ?_, xs_eq, a37⟩, a4, fr, rfl⟩
    have hq := hT p hp
    rw [xs_ne (by omega), (ap p (by omega)).1, (ap p (by omega)).2]
    exact hq
  | f + 1, k, e, c, F + 1, hi, x, h, hF, hT, h3, hb, hs, hc, he => by
    have hk : k < n := by omega
    have ih := fun e c hi x => C_scan_15 (G := G) hn hG f (k + 1) e c F hi x (by omega) (by omega)
    show ∃ h1 x1 m, sh_X6_scan_15_b G (nI n) (sh_X6_scan_15 G (nI n) F) (nI e) (nI k) hi x = some (h1, x1) ∧ _
    unfold sh_X6_scan_15_b
    rw [if_neg (nI_ge hk (by omega)), nI_1]
    by_cases c1 : k < e
    · rw [if_pos (nI_lt c1 (by omega))]
      exact ih e c hi x hT h3 hb (by rw [Nat.max_eq_right (by omega)] at hs ⊢; exact hs) (by omega) he
    · rw [if_neg (fun q => c1 ((nI_ltI (by omega) (by omega)).mp q)), by_at hb (by omega)]
      rw [Nat.max_eq_left (by omega)] at hs
      have hbk := (hb k (by omega)).2
      by_cases c2 : b k = 32
      · rw [c2, if_pos (show nI 32 = (32 : Int32) from rfl)]
        exact ih e c hi x hT h3 hb (by rw [Nat.max_eq_left (by omega), ← t_skip_1 hk c2]; exact hs) (by omega) he
      · rw [if_neg (show ¬ nI (b k) = (32 : Int32) from fun q => c2 ((nI_eq (b := 32) (by omega) (by omega)).mp q))]
        rw [t_skip_0 c2] at hs
        have hte := t_end_b (b := b) hk
        rw [C_tend hb hn hk (by omega), bs, C_sign hb hn hk (by omega), bs]
        obtain ⟨v, hv, hv34⟩ : ∃ v, sh_X6_numberOf G (nI k) (nI (t_end b n k)) hi = some v ∧ (t_sg b n k = 34 → v = nI (t_nu b n k)) := by
          by_cases c3 : t_sg b n k = 34
          · obtain ⟨g1, g2, g3, g4⟩ := t_sg34 c3
            exact ⟨_, C_numD (G := G) hb (by omega) (by omega) (t_end b n k - k) k G 0 (by omega) (by omega) (by omega) g4, fun _ => rfl⟩
          · obtain ⟨v, hv⟩ := C_num_5 (G := G) (s := k) (hi := hi) hb (show t_end b n k ≤ 500 by omega) (t_end b n k - k) k G 0 (by omega) (by omega)
            exact ⟨v, hv, fun q => absurd q c3⟩
        rw [hv, bs]
        obtain ⟨h1, e1, a3, ap, a37, a38, a4, fr⟩ := C_addT (q := t_sg b n k) (v := v) (s := k) (x := x) (show c < 501 by omega) h3
        rw [e1, bs]
        obtain ⟨h2, x2, m, r1, r2, r3, r4, r5⟩ := ih (t_end b n k) (c + 1) h1 (xs x c (gr' (t_sg b n k))) (fun p hp => by
          by_cases c4 : p = c
          · subst c4
            rw [← hs, xs_eq, a37, a38]
            exact ⟨rfl, rfl, hv34, hk⟩
          · rw [xs_ne c4, (ap p c4).1, (ap p c4).2]
            exact hT p (by omega)) a3 (hb.fs fr) (by
          rw [Nat.max_eq_right (by omega)]
          show _ = t_nx b n (t_it b n c)
          rw [← hs]
          unfold t_nx
          rw [if_neg (by omega)]) (by omega) hte.2
        exact ⟨h2, x2, m, r1, r2, r3.trans a4, fr.trans r4, r5⟩
theorem C_scan {G : Nat} {hi : HI} {x : AX} (hn : n ≤ 500) (hG : 600 < G) (hb : By_ hi b) : ∃ h1 x1 m, sh_X6_scan G (nI n) hi x = some (h1, x1) ∧ Tb_ b n x1.1 h1 m ∧ h1 (za 35) 4 = 0 ∧ fs_ hi h1 ∧ x1.2 = x.2 := by
  unfold sh_X6_scan
  have f0 : fs_ hi (am_u (am_u hi (za 35) 3 (0 : Int32)) (za 35) 4 (0 : Int32)) := fun a k q1 q2 q3 => by
    by_cases e : a = za 35
    · subst e
      rw [au_k (fun e => q1 ⟨rfl, Or.inr e⟩), au_k (fun e => q1 ⟨rfl, Or.inl e⟩)]
    · rw [au_a e, au_a e]
  obtain ⟨h1, x1, m, r1, r2, r3, r4, r5⟩ := C_scan_15 (G := G) hn hG n 0 0 0 G (am_u (am_u hi (za 35) 3 (0 : Int32)) (za 35) 4 (0 : Int32)) x (by omega) (by omega) (fun p hp => by omega) (by rw [au_k (by omega), au_]; rfl) (hb.fs f0) rfl (Nat.le_refl _) (Nat.zero_le _)
  exact ⟨h1, x1, m, r1, r2, by rw [r3, au_], f0.trans r4, r5⟩
end SC
/-! the class's token at hand, and what else an entry wants -/
abbrev TV : Type := (Nat → Nat) × Nat × (Nat → AV) × Nat
/-- what an entry changes -/
def fe_ (h h1 : HI) : Prop := ∀ a k, (∀ j, a ≠ wa 1 j) → ¬ (a = za 35 ∧ k = 4) → ¬ (a = za 34 ∧ (k = 5 ∨ k = 7 ∨ k = 9 ∨ k = 10)) → h1 a k = h a k
theorem fe_.refl (h : HI) : fe_ h h := fun _ _ _ _ _ => rfl
theorem fe_.trans {h h1 h2 : HI} (a : fe_ h h1) (b : fe_ h1 h2) : fe_ h h2 := fun x k c1 c2 c3 => (b x k c1 c2 c3).trans (a x k c1 c2 c3)
theorem fe_.of {h h1 : HI} (a : fr_ 1 h h1) : fe_ h h1 := fun x k c1 _ _ => a x k c1
/-- V: bytes, how many, the table's signs, its last place; at hand the token that starts at s; the draft is w; sim minutes passed; beg: events have begun; no error -/
def CB (V : TV) (hi : HI) (s : Nat) (w : Wd) (sim : Nat) (beg : Bool) : Prop := Tb_ V.1 V.2.1 V.2.2.1 hi V.2.2.2 ∧ (∃ p, p ≤ V.2.2.2 ∧ hi (za 35) 4 = nI p ∧ t_it V.1 V.2.1 p = s) ∧ vw_ 1 hi = w ∧ hi (za 34) 5 = nI sim ∧ hi (za 34) 7 = b2 beg ∧ hi (za 34) 9 = 0 ∧ hi (za 34) 10 = -1
def XE (V : TV) (hi : HI) (c p : Nat) : Prop := hi (za 34) 9 = nI c ∧ hi (za 34) 10 = nI p ∧ (1 ≤ c ∧ c ≤ 4) ∧ p ≤ V.2.1
abbrev XR (α : Type) : Type := (Nat × Nat) ⊕ α
def xb {α β : Type} (r : XR α) (f : α → XR β) : XR β := match r with
  | Sum.inl e => Sum.inl e
  | Sum.inr v => f v
/-- piece S ends as r says -/
def xr_ (V : TV) (beg : Bool) (S : Option HI) (h : HI) : XR (Nat × Wd × Nat) → Prop
  | Sum.inl (c, p) => ∃ h1, S = some h1 ∧ XE V h1 c p ∧ fe_ h h1
  | Sum.inr (s, w, sim) => ∃ h1, S = some h1 ∧ CB V h1 s w sim beg ∧ fe_ h h1
def x_num (V : TV) (s lo hi : Nat) : XR Nat := if t_sg V.1 V.2.1 s = 34 then (if lo ≤ t_nu V.1 V.2.1 s ∧ t_nu V.1 V.2.1 s ≤ hi then Sum.inr (t_nu V.1 V.2.1 s) else Sum.inl (2, s)) else Sum.inl (1, s)
abbrev sgV (V : TV) (s : Nat) : Fin 37 := t_sg V.1 V.2.1 s
abbrev nxV (V : TV) (s : Nat) : Nat := t_nx V.1 V.2.1 s
section CBS
variable {V : TV} {h : HI} {s sim : Nat} {w : Wd} {beg : Bool}
theorem Tb_.cg {b : Nat → Nat} {n m : Nat} {sg : Nat → AV} {h h1 : HI} (e3 : h1 (za 35) 3 = h (za 35) 3) (e37 : ∀ k, h1 (za 37) k = h (za 37) k) (e38 : ∀ k, h1 (za 38) k = h (za 38) k) (T : Tb_ b n sg h m) : Tb_ b n sg h1 m := by
  obtain ⟨t1, t2, t3, t4, t5, t6⟩ := T
  refine ⟨t1, e3.trans t2, t3, fun p hp => ?_, t5, (e37 _).trans t6⟩
  rw [e37, e38]
  exact t4 p hp
theorem Tb_.fe {b : Nat → Nat} {n m : Nat} {sg : Nat → AV} {h h1 : HI} (f : fe_ h h1) (T : Tb_ b n sg h m) : Tb_ b n sg h1 m := T.cg (f _ _ (fun j e => by cases e) (fun e => by cases e.2) (fun e => by cases e.1)) (fun k => f _ _ (fun j e => by cases e) (fun e => by cases e.1) (fun e => by cases e.1)) (fun k => f _ _ (fun j e => by cases e) (fun e => by cases e.1) (fun e => by cases e.1))
theorem CB.le (H : CB V h s w sim beg) : s ≤ V.2.1 := by
  obtain ⟨-, ⟨p, -, -, e⟩, -⟩ := H
  rw [← e]
  exact t_it_le p
theorem C_sgn (H : CB V h s w sim beg) : sh_sign V.2.2.1 h = some (sgV V s) := by
  obtain ⟨⟨t1, t2, t3, t4, t5, t6⟩, ⟨p, hp, e4, e⟩, -⟩ := H
  unfold sh_sign
  rw [e4, t2, if_neg (nI_pos (by omega)), if_neg (nI_ge (by omega) (by omega)), if_neg (show ¬ (501 : Int32) ≤ nI p from nI_ge (b := 501) (by omega) (by omega)), if_pos (ok_ (by omega) (by decide)), nI_clamp (by omega), ← e]
  by_cases c : p = V.2.2.2
  · subst c
    rw [t5, t3]
    show some (36 : Fin 37) = some (t_sg V.1 V.2.1 V.2.1)
    unfold t_sg
    rw [if_pos (Nat.le_refl _)]
  · rw [(t4 p (by omega)).1]
    rfl
theorem C_startT (H : CB V h s w sim beg) : sh_X6_start h = some (nI s) := by
  obtain ⟨⟨t1, t2, t3, t4, t5, t6⟩, ⟨p, hp, e4, e⟩, -⟩ := H
  unfold sh_X6_start
  rw [e4, if_neg (nI_pos (by omega)), if_neg (show ¬ (501 : Int32) ≤ nI p from nI_ge (b := 501) (by omega) (by omega)), if_pos (ok_ (by omega) (by decide)), nI_clamp (by omega), ← e]
  by_cases c : p = V.2.2.2
  · subst c
    rw [t6, t3]
  · rw [(t4 p (by omega)).2.1]
theorem C_numT (H : CB V h s w sim beg) (hs : sgV V s = 34) : sh_X6_number h = nI (t_nu V.1 V.2.1 s) := by
  obtain ⟨⟨t1, t2, t3, t4, t5, t6⟩, ⟨p, hp, e4, e⟩, -⟩ := H
  unfold sh_X6_number
  have hp2 : p ≠ V.2.2.2 := fun c => by
    rw [c, t3] at e
    rw [← e] at hs
    have := (t_sg34 hs).1
    omega
  rw [e4, at_n (by omega) (by decide), (t4 p (by omega)).2.2.1 (by rw [e]; exact hs), e]
theorem C_goOn (H : CB V h s w sim beg) : ∃ h1, sh_X6_goOn h = some h1 ∧ CB V h1 (nxV V s) w sim beg ∧ fe_ h h1 := by
  have H0 := H
  obtain ⟨T, ⟨p, hp, e4, e⟩, hw, h5, h7, h9, h10⟩ := H
  obtain ⟨t1, t2, t3, t4, t5, t6⟩ := id T
  unfold sh_X6_goOn
  rw [e4, t2, nI_1]
  by_cases c : p = V.2.2.2
  · subst c
    rw [if_pos (Int32.le_refl _)]
    have es : s = V.2.1 := by rw [← e, t3]
    refine ⟨h, rfl, ?_, fe_.refl h⟩
    rw [es, show nxV V V.2.1 = V.2.1 from t_nx_n, ← es]
    exact H0
  · rw [if_neg (nI_ge (by omega) (by omega))]
    have f : fe_ h (am_u h (za 35) 4 (nI (p + 1))) := fun a k c1 c2 c3 => by
      by_cases q : a = za 35
      · subst q
        rw [au_k (fun q => c2 ⟨rfl, q⟩)]
      · rw [au_a q]
    refine ⟨_, rfl, ⟨T.fe f, ⟨p + 1, by omega, au_, by rw [← e]; rfl⟩, ?_, ?_, ?_, ?_, ?_⟩, f⟩
    · rw [V_f (fun j k => au_a (fun q => by cases q))]; exact hw
    · rw [au_a (fun q => by cases q)]; exact h5
    · rw [au_a (fun q => by cases q)]; exact h7
    · rw [au_a (fun q => by cases q)]; exact h9
    · rw [au_a (fun q => by cases q)]; exact h10
theorem C_failT {c : Nat} (hc : 1 ≤ c ∧ c ≤ 4) (H : CB V h s w sim beg) : ∃ h1, sh_X4_fail (nI c) h = some h1 ∧ XE V h1 c s ∧ fe_ h h1 := by
  have f : fe_ h (am_u h (za 34) 9 (nI c)) := fun a k c1 c2 c3 => by
    by_cases q : a = za 34
    · subst q
      rw [au_k (fun q => c3 ⟨rfl, by omega⟩)]
    · rw [au_a q]
  have H1 : sh_X6_start (am_u h (za 34) 9 (nI c)) = some (nI s) := by
    rw [← C_startT H]
    unfold sh_X6_start
    rw [au_a (fun q => by cases q), au_a (fun q => by cases q)]
  unfold sh_X4_fail
  rw [H1, bs]
  refine ⟨_, rfl, ⟨by rw [au_k (by omega), au_], au_, hc, H.le⟩, fun a k c1 c2 c3 => ?_⟩
  by_cases q : a = za 34
  · subst q
    rw [au_k (fun q => c3 ⟨rfl, by omega⟩), au_k (fun q => c3 ⟨rfl, by omega⟩)]
  · rw [au_a q, au_a q]
/-- an error ends the piece -/
theorem xr_fail {c : Nat} {c32 : Int32} (H : CB V h s w sim beg) {h0 : HI} (f : fe_ h0 h) (e : c32 = nI c) (hc : 1 ≤ c ∧ c ≤ 4) : xr_ V beg ((sh_X4_fail c32 h).bind fun h1 => some h1) h0 (Sum.inl (c, s)) := by
  obtain ⟨h1, e1, x1, f1⟩ := C_failT hc H
  rw [e, e1]
  exact ⟨h1, rfl, x1, f.trans f1⟩
theorem xr_ret {h0 : HI} (H : CB V h s w sim beg) (f : fe_ h0 h) : xr_ V beg (some h) h0 (Sum.inr (s, w, sim)) := ⟨h, rfl, H, f⟩
theorem C_number {lo hi : Nat} (hh : hi < 2 ^ 30) (hl : lo < 2 ^ 30) (H : CB V h s w sim beg) : match x_num V s lo hi with
    | Sum.inl (c, p) => ∃ h1, sh_X4_number V.2.2.1 (nI lo) (nI hi) h = some (-1, h1) ∧ XE V h1 c p ∧ fe_ h h1
    | Sum.inr v => sh_X4_number V.2.2.1 (nI lo) (nI hi) h = some (nI v, h) ∧ v < 1000 ∧ lo ≤ v ∧ v ≤ hi := by
  unfold sh_X4_number sh_X4_number_38 x_num
  rw [C_sgn H, bs]
  by_cases c : sgV V s = 34
  · have hv := t_nu_b c
    rw [if_pos c, if_pos c, C_numT H c]
    by_cases c1 : t_nu V.1 V.2.1 s < lo
    · rw [if_pos (nI_lt c1 (by omega)), if_neg (fun q => by omega)]
      obtain ⟨h1, e1, x1, f1⟩ := C_failT (c := 2) (by omega) H
      exact ⟨h1, by rw [show (2 : Int32) = nI 2 from rfl, e1]; rfl, x1, f1⟩
    · rw [if_neg (fun q => c1 ((nI_ltI (by omega) (by omega)).mp q))]
      by_cases c2 : t_nu V.1 V.2.1 s ≤ hi
      · rw [if_pos (nI_le c2 (by omega)), if_pos ⟨by omega, c2⟩]
        exact ⟨rfl, hv, by omega, c2⟩
      · rw [if_neg (fun q => c2 ((nI_leI (by omega) (by omega)).mp q)), if_neg (fun q => c2 q.2)]
        obtain ⟨h1, e1, x1, f1⟩ := C_failT (c := 2) (by omega) H
        exact ⟨h1, by rw [show (2 : Int32) = nI 2 from rfl, e1]; rfl, x1, f1⟩
  · rw [if_neg c, if_neg c]
    obtain ⟨h1, e1, x1, f1⟩ := C_failT (c := 1) (by omega) H
    exact ⟨h1, by rw [show (1 : Int32) = nI 1 from rfl, e1]; rfl, x1, f1⟩
theorem xr_num {lo hi : Nat} {T : Int32 × HI → Option HI} {k : Nat → XR (Nat × Wd × Nat)} {h0 : HI} (f0 : fe_ h0 h) (hh : hi < 2 ^ 30) (hl : lo < 2 ^ 30) (H : CB V h s w sim beg) (hT : ∀ v, v < 1000 → lo ≤ v → v ≤ hi → xr_ V beg (T (nI v, h)) h0 (k v)) (hE : ∀ h1, T (-1, h1) = some h1) : xr_ V beg ((sh_X4_number V.2.2.1 (nI lo) (nI hi) h).bind T) h0 (xb (x_num V s lo hi) k) := by
  have g := C_number hh hl H
  cases e : x_num V s lo hi with
  | inl q =>
    rw [e] at g
    obtain ⟨h1, e1, x1, f1⟩ := g
    rw [e1, bs, hE]
    exact ⟨h1, rfl, x1, f0.trans f1⟩
  | inr v =>
    rw [e] at g
    obtain ⟨e1, g1, g2, g3⟩ := g
    rw [e1, bs]
    exact hT v g1 g2 g3
theorem xr_take {lo hi : Nat} {T : Int32 × HI → Option HI} {k : Nat → XR (Nat × Wd × Nat)} {h0 : HI} (f0 : fe_ h0 h) (hh : hi < 2 ^ 30) (hl : lo < 2 ^ 30) (H : CB V h s w sim beg) (hT : ∀ v h1, v < 1000 → lo ≤ v → v ≤ hi → CB V h1 (nxV V s) w sim beg → fe_ h0 h1 → xr_ V beg (T (nI v, h1)) h0 (k v)) (hE : ∀ h1, ∃ h2, T (-1, h1) = some h2 ∧ (∀ c p, XE V h1 c p → XE V h2 c p) ∧ fe_ h1 h2) : xr_ V beg ((sh_X4_takeNumber V.2.2.1 (nI lo) (nI hi) h).bind T) h0 (xb (x_num V s lo hi) k) := by
  have g := C_number hh hl H
  unfold sh_X4_takeNumber
  cases e : x_num V s lo hi with
  | inl q =>
    rw [e] at g
    obtain ⟨h1, e1, x1, f1⟩ := g
    obtain ⟨h2, e2, x2, f2⟩ := hE h1
    rw [e1, bs]
    show xr_ V beg ((if (-1 : Int32) = -1 then some ((-1 : Int32), h1) else _).bind T) h0 (Sum.inl q)
    rw [if_pos rfl, bs, e2]
    exact ⟨h2, rfl, x2 _ _ x1, f0.trans (f1.trans f2)⟩
  | inr v =>
    rw [e] at g
    obtain ⟨e1, g1, g2, g3⟩ := g
    obtain ⟨h1, e2, H1, f1⟩ := C_goOn H
    rw [e1, bs]
    show xr_ V beg ((if nI v = -1 then _ else (sh_X6_goOn h).bind fun h3 => some (nI v, h3)).bind T) h0 (k v)
    rw [if_neg (nI_m1 (by omega)), e2]
    exact hT v h1 g1 g2 g3 H1 (f0.trans f1)
end CBS
