/-! the class's loop over entries comes to what the recursion says */ -/
def stS (V : TV) (G : Nat) (h : HI) : Option HI := if h (za 34) 6 ≠ 0 then (sh_X4_startsEvent V.2.2.1 h).bind fun v6 => if v6 = 0 then sh_X4_readSetting G V.2.2.1 h else evp G (sh_X4_readEvent G V.2.2.1 h) else sh_X4_readSeparator G V.2.2.1 h
def Lp_ (V : TV) (G : Nat) (x : AX) (h : HI) (k : Nat) (h1 : HI) : Prop := ∀ F l, l + k ≤ 1000000 → sh_X4_read_19 G (nI V.2.1) (F + k) (nI l) h x = sh_X4_read_19 G (nI V.2.1) F (nI (l + k)) h1 x
theorem mil_e : (1000000 : Int32) = nI 1000000 := by decide +kernel
theorem mil_ge {l : Nat} (h : l < 1000000) : ¬ (1000000 : Int32) ≤ nI l := by
  rw [mil_e]
  exact nI_ge h (by decide)
section LOOP
variable {V : TV} {G : Nat} {x : AX}
theorem Lp_.z {h : HI} : Lp_ V G x h 0 h := fun F l _ => by
  rw [Nat.add_zero, Nat.add_zero]
theorem Lp_.t {h h1 h2 : HI} {k k2 : Nat} (a : Lp_ V G x h k h1) (b : Lp_ V G x h1 k2 h2) : Lp_ V G x h (k + k2) h2 := fun F l hl => by
  rw [show F + (k + k2) = (F + k2) + k by omega, a (F + k2) l (by omega), b F (l + k) (by omega), Nat.add_assoc]
theorem Lp_.s {h h1 : HI} (hx : x.1 = V.2.2.1) (h8 : h (za 34) 8 = 0) (h9 : h (za 34) 9 = 0) (e : stS V G h = some h1) : Lp_ V G x h 1 h1 := fun F l hl => by
  show sh_X4_read_19_b G (nI V.2.1) (sh_X4_read_19 G (nI V.2.1) F) (nI l) h x = _
  unfold sh_X4_read_19_b
  rw [if_neg (mil_ge (by omega)), if_neg (fun q => q h8), if_neg (fun q => q h9), hx, nI_1]
  unfold stS at e
  by_cases c : h (za 34) 6 ≠ 0
  · rw [if_pos c] at e ⊢
    cases e6 : sh_X4_startsEvent V.2.2.1 h with
    | none => rw [e6] at e; cases e
    | some v6 =>
      rw [e6, bs] at e
      rw [bs]
      by_cases c6 : v6 = 0
      · rw [if_pos c6] at e ⊢
        rw [e, bs]
      · rw [if_neg c6] at e ⊢
        unfold evp at e
        cases e9 : sh_X4_readEvent G V.2.2.1 h with
        | none => rw [e9] at e; cases e
        | some v9 =>
          rw [e9, bs] at e
          rw [bs, e, bs]
  · rw [if_neg c] at e ⊢
    rw [e, bs]
/-- how a stretch of the loop ends; C: how many rounds a byte may cost -/
def Lr_ (V : TV) (G : Nat) (x : AX) (stk : List (Nat × Nat)) (h : HI) (bS : Nat → Nat) (bE : Nat) : XR (Nat × Wd × Nat) → Prop
  | Sum.inl (c, p) => ∃ k h1, Lp_ V G x h k h1 ∧ XE V h1 c p ∧ fl_ h h1 ∧ k ≤ bE
  | Sum.inr (s1, w1, sim1) => ∃ k h1, Lp_ V G x h k h1 ∧ CL V h1 s1 w1 sim1 true false stk ∧ fl_ h h1 ∧ k ≤ bS s1
theorem Lr_.of {stk : List (Nat × Nat)} {h : HI} {bS : Nat → Nat} {bE : Nat} {r : XR (Nat × Wd × Nat)} (hx : x.1 = V.2.2.1) (h8 : h (za 34) 8 = 0) (h9 : h (za 34) 9 = 0) (g : xl_ V true stk (stS V G h) h r) (hE : 1 ≤ bE) (hS : ∀ s1 w1 sim1, r = Sum.inr (s1, w1, sim1) → 1 ≤ bS s1) : Lr_ V G x stk h bS bE r := by
  cases r with
  | inl e =>
    obtain ⟨h1, a, b, c⟩ := g
    exact ⟨1, h1, Lp_.s hx h8 h9 a, b, c, hE⟩
  | inr e =>
    obtain ⟨h1, a, b, c⟩ := g
    exact ⟨1, h1, Lp_.s hx h8 h9 a, b, c, hS _ _ _ rfl⟩
/-! separators -/
theorem CL.le {h : HI} {s sim : Nat} {w : Wd} {beg ex : Bool} {stk : List (Nat × Nat)} (H : CL V h s w sim beg ex stk) : s ≤ V.2.1 := H.1.le
theorem CL.h9 {h : HI} {s sim : Nat} {w : Wd} {beg ex : Bool} {stk : List (Nat × Nat)} (H : CL V h s w sim beg ex stk) : h (za 34) 9 = 0 := H.1.2.2.2.2.2.1
theorem CL.st0 {h : HI} {s sim : Nat} {w : Wd} {beg : Bool} {stk : List (Nat × Nat)} (H : CL V h s w sim beg false stk) : stS V G h = sh_X4_readSeparator G V.2.2.1 h := by
  unfold stS
  rw [H.2.1, if_neg (by decide)]
/-- a semicolon -/
theorem C_semi {h : HI} {s sim : Nat} {w : Wd} {beg : Bool} {stk : List (Nat × Nat)} (H : CL V h s w sim beg false stk) (q : sgV V s = 31) : ∃ h1, stS V G h = some h1 ∧ CL V h1 (nxV V s) w sim beg true stk ∧ fl_ h h1 := by
  rw [H.st0]
  obtain ⟨H0, a6, a8, a4, al, ak⟩ := H
  unfold sh_X4_readSeparator
  obtain ⟨h9, e9, H9, f9⟩ := C_goOn H0
  rw [C_sgn H0, bs, q, if_neg (fun q => q rfl), e9, bs]
  have z : ∀ k, ¬ (k = 5 ∨ k = 7 ∨ k = 9 ∨ k = 10) → h9 (za 34) k = h (za 34) k := fun k hk => f9 _ _ (fun j q => by cases q) (fun q => by cases q.1) (fun q => hk q.2)
  refine ⟨_, rfl, ⟨H9.u34 (by omega), au_, (au_k (by omega)).trans ((z 8 (by omega)).trans a8), (au_k (by omega)).trans ((z 4 (by omega)).trans a4), al, ak.cg stk _ (Nat.le_refl _) (fun k _ => ⟨(au_a (fun q => by cases q)).trans (f9 _ _ (fun j q => by cases q) (fun q => by cases q.1) (fun q => by cases q.1)), (au_a (fun q => by cases q)).trans (f9 _ _ (fun j q => by cases q) (fun q => by cases q.1) (fun q => by cases q.1))⟩)⟩, (fl_.of f9).u (by omega)⟩
/-- a separator that is none -/
theorem C_nosep {h : HI} {s sim : Nat} {w : Wd} {beg : Bool} {stk : List (Nat × Nat)} (H : CL V h s w sim beg false stk) (q1 : sgV V s ≠ 31) (q2 : sgV V s = 33 → stk = []) (q3 : sgV V s = 36 → stk ≠ []) : ∃ h1, stS V G h = some h1 ∧ XE V h1 1 s ∧ fl_ h h1 := by
  rw [H.st0]
  have H0 := H
  obtain ⟨Hb, a6, a8, a4, al, ak⟩ := H
  obtain ⟨h1, e1, x1, f1⟩ := C_failT (c := 1) (by omega) Hb
  have e72 : sh_X4_readSeparator_72 G V.2.2.1 h = some h1 := by
    unfold sh_X4_readSeparator_72
    rw [show (1 : Int32) = nI 1 from rfl, e1, bs]
  refine ⟨h1, ?_, x1, fl_.of f1⟩
  unfold sh_X4_readSeparator sh_X4_readSeparator_51
  rw [C_sgn Hb, bs, if_pos q1, e72]
  have e51 : (if sgV V s ≠ 36 then some h1 else if h (za 34) 4 ≠ 0 then some h1 else (sh_X4_finish G h).bind fun h5 => some h5) = some h1 := by
    by_cases c : sgV V s = 36
    · rw [if_neg (fun q => q c), a4]
      have hne := q3 c
      have : 0 < stk.length := by
        cases stk with
        | nil => exact absurd rfl hne
        | cons a l => exact Nat.zero_lt_succ _
      rw [if_pos (nI_ne0 this (by omega))]
    · rw [if_pos c]
  by_cases c : sgV V s = 33
  · rw [if_neg (fun q => q c), a4, q2 c, if_pos (by decide)]
    rw [a4, q2 c] at e51
    exact e51
  · rw [if_pos c]
    exact e51
/-- a bracket closes, and opens again -/
theorem C_close1 {h : HI} {s sim b0 l : Nat} {w : Wd} {beg : Bool} {stk : List (Nat × Nat)} (H : CL V h s w sim beg false ((b0, l + 1) :: stk)) (q : sgV V s = 33) : ∃ h1, stS V G h = some h1 ∧ CL V h1 b0 w sim beg true ((b0, l) :: stk) ∧ fl_ h h1 := by
  rw [H.st0]
  obtain ⟨Hb, a6, a8, a4, al, ⟨ak, ⟨p, p1, p2, p3⟩, ak2, ak3⟩⟩ := H
  have hl : stk.length < 3 := al
  have a4' : h (za 34) 4 = nI (stk.length + 1) := a4
  have ak2' : h (za 40) stk.length = nI (l + 1) := ak2
  have ak3' : l + 1 < 5 := ak3
  unfold sh_X4_readSeparator sh_X4_closeBracket sh_X6_goBackTo
  rw [C_sgn Hb, bs, q, if_pos (by decide), if_neg (fun q => q rfl), a4', if_neg (nI_nle (by omega) (by omega)), nI_pred, at_n hl (by decide), ak2', if_neg (nI_nle (by omega) (by omega)), nI_pred, put_n hl (by decide), bs, at_n (hi := am_u h (za 40) stk.length (nI l)) hl (by decide), au_a (fun q => by cases q), p2, bs, bs]
  have f : fl_ h (am_u (am_u (am_u h (za 40) stk.length (nI l)) (za 35) 4 (nI p)) (za 34) 6 1) := fun a k c1 c2 c3 c4 c5 => by
    by_cases q : a = za 34
    · subst q
      rw [au_k (fun q => c3 ⟨rfl, by omega⟩), au_a (fun q => by cases q), au_a (fun q => by cases q)]
    · rw [au_a q]
      by_cases q : a = za 35
      · subst q
        rw [au_k (fun q => c2 ⟨rfl, q⟩), au_a (fun q => by cases q)]
      · rw [au_a q, au_a c5]
  refine ⟨_, rfl, ⟨?_, au_, ?_, ?_, al, ⟨?_, ⟨p, p1, ?_, p3⟩, ?_, by omega⟩⟩, f⟩
  · obtain ⟨T, -, hw, h5, h7, h9, h10⟩ := Hb
    exact ⟨T.cg (by rw [au_a (fun q => by cases q), au_k (by omega), au_a (fun q => by cases q)]) (fun _ => by rw [au_a (fun q => by cases q), au_a (fun q => by cases q), au_a (fun q => by cases q)]) (fun _ => by rw [au_a (fun q => by cases q), au_a (fun q => by cases q), au_a (fun q => by cases q)]), ⟨p, p1, by rw [au_a (fun q => by cases q), au_], p3⟩, by rw [V_f (fun j k => by rw [au_a (fun q => by cases q), au_a (fun q => by cases q), au_a (fun q => by cases q)])]; exact hw, by rw [au_k (by omega), au_a (fun q => by cases q), au_a (fun q => by cases q)]; exact h5, by rw [au_k (by omega), au_a (fun q => by cases q), au_a (fun q => by cases q)]; exact h7, by rw [au_k (by omega), au_a (fun q => by cases q), au_a (fun q => by cases q)]; exact h9, by rw [au_k (by omega), au_a (fun q => by cases q), au_a (fun q => by cases q)]; exact h10⟩
  · rw [au_k (by omega), au_a (fun q => by cases q), au_a (fun q => by cases q)]; exact a8
  · rw [au_k (by omega), au_a (fun q => by cases q), au_a (fun q => by cases q)]; exact a4
  · exact ak.cg stk stk.length (Nat.le_refl _) (fun k hk => ⟨by rw [au_a (fun q => by cases q), au_a (fun q => by cases q), au_a (fun q => by cases q)], by rw [au_a (fun q => by cases q), au_a (fun q => by cases q), au_k (by omega)]⟩)
  · show am_u (am_u (am_u h (za 40) stk.length (nI l)) (za 35) 4 (nI p)) (za 34) 6 1 (za 39) stk.length = nI p
    rw [au_a (fun q => by cases q), au_a (fun q => by cases q), au_a (fun q => by cases q)]; exact p2
  · show am_u (am_u (am_u h (za 40) stk.length (nI l)) (za 35) 4 (nI p)) (za 34) 6 1 (za 40) stk.length = nI l
    rw [au_a (fun q => by cases q), au_a (fun q => by cases q), au_]
/-- a bracket closes for good -/
theorem C_close0 {h : HI} {s sim b0 : Nat} {w : Wd} {beg : Bool} {stk : List (Nat × Nat)} (H : CL V h s w sim beg false ((b0, 0) :: stk)) (q : sgV V s = 33) : ∃ h1, stS V G h = some h1 ∧ CL V h1 (nxV V s) w sim beg false stk ∧ fl_ h h1 := by
  rw [H.st0]
  obtain ⟨Hb, a6, a8, a4, al, ⟨ak, ⟨p, p1, p2, p3⟩, ak2, ak3⟩⟩ := H
  have hl : stk.length < 3 := al
  have a4' : h (za 34) 4 = nI (stk.length + 1) := a4
  have ak2' : h (za 40) stk.length = nI 0 := ak2
  unfold sh_X4_readSeparator sh_X4_closeBracket
  rw [C_sgn Hb, bs, q, if_pos (by decide), if_neg (fun q => q rfl), a4', if_neg (nI_nle (by omega) (by omega)), nI_pred, at_n hl (by decide), ak2', if_pos (by decide)]
  obtain ⟨h2, e2, H2, f2⟩ := C_goOn (Hb.u34 (k := 4) (v := nI stk.length) (by omega))
  rw [e2, bs, bs]
  have z : ∀ k, ¬ (k = 4 ∨ k = 5 ∨ k = 7 ∨ k = 9 ∨ k = 10) → h2 (za 34) k = h (za 34) k := fun k hk => (f2 _ _ (fun j q => by cases q) (fun q => by cases q.1) (fun q => hk (by omega))).trans (au_k (by omega))
  refine ⟨h2, rfl, ⟨H2, (z 6 (by omega)).trans a6, (z 8 (by omega)).trans a8, (f2 _ _ (fun j q => by cases q) (fun q => by cases q.1) (by omega)).trans au_, by omega, ak.cg stk _ (Nat.le_refl _) (fun k _ => ⟨(f2 _ _ (fun j q => by cases q) (fun q => by cases q.1) (fun q => by cases q.1)).trans (au_a (fun q => by cases q)), (f2 _ _ (fun j q => by cases q) (fun q => by cases q.1) (fun q => by cases q.1)).trans (au_a (fun q => by cases q))⟩)⟩, ((fl_.refl h).u (by omega)).trans (fl_.of f2)⟩
/-! an entry -/
theorem CL.st1 {h : HI} {s sim : Nat} {w : Wd} {beg : Bool} {stk : List (Nat × Nat)} (H : CL V h s w sim beg true stk) : stS V G h = if beg = false ∧ ¬ ((sgV V s).val = 2 ∨ (14 ≤ (sgV V s).val ∧ (sgV V s).val ≤ 23)) ∨ beg = false ∧ 1 ≤ (sgV V s).val ∧ (sgV V s).val ≤ 13 then sh_X4_readSetting G V.2.2.1 h else evp G (sh_X4_readEvent G V.2.2.1 h) := by
  obtain ⟨i1, i2⟩ := am_set_iff (sgV V s)
  have h7 := H.1.2.2.2.2.1
  unfold stS sh_X4_startsEvent
  rw [H.2.1, if_pos (by decide), C_sgn H.1, bs, h7]
  cases beg with
  | true => rw [if_pos (by decide), bs, if_neg (by decide), if_neg (fun q => by rcases q with q | q <;> cases q.1)]
  | false =>
    rw [if_neg (by decide)]
    by_cases c1 : nI (am_evt.getD (sgV V s).val 0) = 0
    · rw [if_pos c1, bs, if_pos rfl, if_pos (Or.inl ⟨rfl, fun q => (i2.mpr q) c1⟩)]
    · rw [if_neg c1]
      by_cases c2 : nI (am_set.getD (sgV V s).val 0) ≠ 0
      · rw [if_pos c2, bs, if_pos rfl, if_pos (Or.inr ⟨rfl, i1.mp c2⟩)]
      · rw [if_neg c2, bs, if_neg (by decide), if_neg (fun q => by
          rcases q with q | q
          · exact q.2 (i2.mp c1)
          · exact c2 (i1.mpr q.2))]
/-- no event: an error -/
theorem C_noev {h : HI} {s sim : Nat} {w : Wd} {beg : Bool} {stk : List (Nat × Nat)} (hG : 501 < G) (hn : V.2.1 ≤ 500) (h2 : 2 ≤ s) (hs : st_ w) (hti : ti_ w) (H : CL V h s w sim beg true stk) (q : ¬ ((sgV V s).val = 2 ∨ (14 ≤ (sgV V s).val ∧ (sgV V s).val ≤ 23))) (q0 : beg = true ∨ ¬ (1 ≤ (sgV V s).val ∧ (sgV V s).val ≤ 13)) : xl_ V true stk (stS V G h) h (Sum.inl (1, s)) := by
  obtain ⟨i1, i2⟩ := am_set_iff (sgV V s)
  rw [H.st1]
  cases beg with
  | true =>
    rw [if_neg (fun q => by rcases q with q | q <;> cases q.1)]
    unfold sh_X4_readEvent evp
    obtain ⟨h1, e1, x1, f1⟩ := C_failT (c := 1) (by omega) H.1
    rw [C_sgn H.1, bs, if_neg (fun z => q (i2.mp z)), show (1 : Int32) = nI 1 from rfl, e1, bs, bs]
    exact ⟨h1, pass_0 (by omega) h1, x1, fl_.of f1⟩
  | false =>
    rw [if_pos (Or.inl ⟨rfl, q⟩)]
    have g := xl_set (G := G) hG hn h2 hs hti H
    rw [if_neg (q0.resolve_left (by decide))] at g
    obtain ⟨h1, a, b, c⟩ := g
    exact ⟨h1, a, b, c⟩
theorem C_evst {h : HI} {s sim : Nat} {w : Wd} {beg : Bool} {stk : List (Nat × Nat)} (H : CL V h s w sim beg true stk) (q : (sgV V s).val = 2 ∨ (14 ≤ (sgV V s).val ∧ (sgV V s).val ≤ 23)) (q0 : beg = true ∨ ¬ (1 ≤ (sgV V s).val ∧ (sgV V s).val ≤ 13)) : stS V G h = evp G (if sgV V s ≠ 23 then sh_X4_readEvent_44 G V.2.2.1 (sgV V s) h else if h (za 34) 4 < (3 : Int32) then sh_X4_readEvent_44 G V.2.2.1 (sgV V s) h else (sh_X4_fail (4 : Int32) h).bind fun h23 => some ((0 : Int32), h23)) := by
  obtain ⟨i1, i2⟩ := am_set_iff (sgV V s)
  rw [H.st1, if_neg (fun z => by
    rcases z with z | z
    · exact z.2 q
    · rcases q0 with y | y
      · rw [y] at z; cases z.1
      · exact y z.2)]
  unfold sh_X4_readEvent
  rw [C_sgn H.1, bs, if_pos (i2.mpr q)]
/-- "repeat": the bracket opens -/
theorem C_open {h : HI} {s sim : Nat} {w : Wd} {beg : Bool} {stk : List (Nat × Nat)} (hG : 501 < G) (hI : ib_ sim (5 * sim) 0 w) (H : CL V h s w sim beg true stk) (hl : stk.length < 3) (q : sgV V s = 23) : match x_num V (nxV V s) 1 5 with
    | Sum.inl (c, p) => ∃ h1, stS V G h = some h1 ∧ XE V h1 c p ∧ fl_ h h1
    | Sum.inr m => if sgV V (nxV V (nxV V s)) = 32 then ∃ h1, stS V G h = some h1 ∧ CL V h1 (bod V s) (if beg = true then w else p_reloc w) sim true true ((bod V s, m - 1) :: stk) ∧ fl_ h h1 else ∃ h1, stS V G h = some h1 ∧ XE V h1 1 (nxV V (nxV V s)) ∧ fl_ h h1 := by
  have hst := C_evst (G := G) H (by rw [q]; decide) (Or.inr (by rw [q]; decide))
  obtain ⟨Hb, a6, a8, a4, al, ak⟩ := H
  rw [if_neg (fun z => z q), a4, if_pos (show nI stk.length < (3 : Int32) from nI_lt (b := 3) hl (by omega))] at hst
  obtain ⟨h3, e3, H3, f3⟩ := C_startE (G := G) (by omega) hI Hb
  generalize (if beg = true then w else p_reloc w) = w3 at H3 ⊢
  obtain ⟨h5, e5, H5, f5⟩ := C_goOn (H3.u34 (k := 6) (v := 0) (by omega))
  have F5 : fl_ h h5 := (fl_.of f3).trans (((fl_.refl h3).u (by omega)).trans (fl_.of f5))
  have e44 : sh_X4_readEvent_44 G V.2.2.1 (sgV V s) h = (sh_X4_readRepeat V.2.2.1 h5).bind fun h9 => some ((0 : Int32), h9) := by
    unfold sh_X4_readEvent_44
    rw [e3, bs, q, if_pos (by decide), e5, bs, if_pos (by decide), if_neg (by decide), if_neg (by decide), if_neg (by decide), if_neg (by decide), if_neg (by decide), if_neg (by decide), if_pos (by decide)]
  rw [e44, evp_0 (by omega)] at hst
  rw [hst]
  have z5 : ∀ k, ¬ (k = 5 ∨ k = 6 ∨ k = 7 ∨ k = 9 ∨ k = 10) → h5 (za 34) k = h (za 34) k := fun k hk => ((f5 _ _ (fun j q => by cases q) (fun q => by cases q.1) (fun q => hk (by omega))).trans (au_k (by omega))).trans (f3 _ _ (fun j q => by cases q) (fun q => by cases q.1) (fun q => hk (by omega)))
  have z3 : ∀ (n : Nat) k, n ≠ 34 → n ≠ 35 → h5 (za n) k = h (za n) k := fun n k n4 n5 => ((f5 _ _ (fun j q => by cases q) (fun q => n5 (by cases q.1; rfl)) (fun q => n4 (by cases q.1; rfl))).trans (au_a (fun q => n4 (by cases q; rfl)))).trans (f3 _ _ (fun j q => by cases q) (fun q => n5 (by cases q.1; rfl)) (fun q => n4 (by cases q.1; rfl)))
  have g := C_number (lo := 1) (hi := 5) (by omega) (by omega) H5
  unfold sh_X4_readRepeat sh_X4_takeNumber
  cases e : x_num V (nxV V s) 1 5 with
  | inl cp =>
    obtain ⟨c, p⟩ := cp
    rw [e] at g
    obtain ⟨h1, e1, x1, f1⟩ := g
    rw [show sh_X4_number V.2.2.1 (1 : Int32) (5 : Int32) h5 = some (-1, h1) from e1, bs, if_pos rfl, bs, if_neg (fun q => q rfl)]
    exact ⟨h1, rfl, x1, F5.trans (fl_.of f1)⟩
  | inr m =>
    rw [e] at g
    obtain ⟨e1, m1, m2, m3⟩ := g
    obtain ⟨h6, e6, H6, f6⟩ := C_goOn H5
    rw [show sh_X4_number V.2.2.1 (1 : Int32) (5 : Int32) h5 = some (nI m, h5) from e1, bs]
    show if sgV V (nxV V (nxV V s)) = 32 then _ else _
    rw [if_neg (nI_m1 (by omega)), show (nI m, h5).2 = h5 from rfl, e6, bs, bs]
    show if sgV V (nxV V (nxV V s)) = 32 then ∃ h1, (if nI m ≠ -1 then (sh_sign V.2.2.1 h6).bind _ else some h6) = some h1 ∧ _ else ∃ h1, (if nI m ≠ -1 then (sh_sign V.2.2.1 h6).bind _ else some h6) = some h1 ∧ _
    rw [if_pos (nI_m1 (by omega)), C_sgn H6, bs]
    by_cases c : sgV V (nxV V (nxV V s)) = 32
    · rw [if_pos c, if_pos c]
      obtain ⟨h7, e7, H7, f7⟩ := C_goOn H6
      rw [e7, bs]
      have y : ∀ k, ¬ (k = 5 ∨ k = 6 ∨ k = 7 ∨ k = 9 ∨ k = 10) → h7 (za 34) k = h (za 34) k := fun k hk => ((f7 _ _ (fun j q => by cases q) (fun q => by cases q.1) (fun q => hk (by omega))).trans (f6 _ _ (fun j q => by cases q) (fun q => by cases q.1) (fun q => hk (by omega)))).trans (z5 k hk)
      have y3 : ∀ (n : Nat) k, n ≠ 34 → n ≠ 35 → h7 (za n) k = h (za n) k := fun n k n4 n5 => ((f7 _ _ (fun j q => by cases q) (fun q => n5 (by cases q.1; rfl)) (fun q => n4 (by cases q.1; rfl))).trans (f6 _ _ (fun j q => by cases q) (fun q => n5 (by cases q.1; rfl)) (fun q => n4 (by cases q.1; rfl)))).trans (z3 n k n4 n5)
      have y4 : h7 (za 34) 4 = nI stk.length := (y 4 (by omega)).trans a4
      have H7' := H7
      obtain ⟨T, ⟨p, hp, p4, pe⟩, hw, g5, g7, g9, g10⟩ := H7
      unfold sh_X6_mark
      rw [y4, p4, put_n hl (by decide), bs, au_a (fun q => by cases q), y4, S1_ m2, put_n hl (by decide), bs, au_a (fun q => by cases q), au_a (fun q => by cases q), y4, nI_1]
      refine ⟨_, rfl, ⟨⟨T.cg ?_ (fun _ => ?_) (fun _ => ?_), ⟨p, hp, ?_, pe⟩, ?_, ?_, ?_, ?_, ?_⟩, au_, ?_, ?_, hl, ⟨?_, ⟨p, hp, ?_, pe⟩, ?_, by show m - 1 < 5; omega⟩⟩, ?_⟩
      · rw [au_a (fun q => by cases q), au_a (fun q => by cases q), au_a (fun q => by cases q), au_a (fun q => by cases q)]
      · rw [au_a (fun q => by cases q), au_a (fun q => by cases q), au_a (fun q => by cases q), au_a (fun q => by cases q)]
      · rw [au_a (fun q => by cases q), au_a (fun q => by cases q), au_a (fun q => by cases q), au_a (fun q => by cases q)]
      · rw [au_a (fun q => by cases q), au_a (fun q => by cases q), au_a (fun q => by cases q), au_a (fun q => by cases q)]; exact p4
      · rw [V_f (fun j k => by rw [au_a (fun q => by cases q), au_a (fun q => by cases q), au_a (fun q => by cases q), au_a (fun q => by cases q)])]; exact hw
      · rw [au_k (by omega), au_k (by omega), au_a (fun q => by cases q), au_a (fun q => by cases q)]; exact g5
      · rw [au_k (by omega), au_k (by omega), au_a (fun q => by cases q), au_a (fun q => by cases q)]; exact g7
      · rw [au_k (by omega), au_k (by omega), au_a (fun q => by cases q), au_a (fun q => by cases q)]; exact g9
      · rw [au_k (by omega), au_k (by omega), au_a (fun q => by cases q), au_a (fun q => by cases q)]; exact g10
      · rw [au_k (by omega), au_k (by omega), au_a (fun q => by cases q), au_a (fun q => by cases q)]; exact (y 8 (by omega)).trans a8
      · rw [au_k (by omega), au_]; rfl
      · exact ak.cg stk stk.length (Nat.le_refl _) (fun k hk => ⟨by rw [au_a (fun q => by cases q), au_a (fun q => by cases q), au_a (fun q => by cases q), au_k (by omega)]; exact y3 _ _ (by omega) (by omega), by rw [au_a (fun q => by cases q), au_a (fun q => by cases q), au_k (by omega), au_a (fun q => by cases q)]; exact y3 _ _ (by omega) (by omega)⟩)
      · show am_u (am_u (am_u (am_u h7 (za 39) stk.length (nI p)) (za 40) stk.length (nI (m - 1))) (za 34) 4 (nI (stk.length + 1))) (za 34) 6 1 (za 39) stk.length = nI p
        rw [au_a (fun q => by cases q), au_a (fun q => by cases q), au_a (fun q => by cases q), au_]
      · show am_u (am_u (am_u (am_u h7 (za 39) stk.length (nI p)) (za 40) stk.length (nI (m - 1))) (za 34) 4 (nI (stk.length + 1))) (za 34) 6 1 (za 40) stk.length = nI (m - 1)
        rw [au_a (fun q => by cases q), au_a (fun q => by cases q), au_]
      · refine F5.trans (((fl_.of f6).trans (fl_.of f7)).trans fun a k c1 c2 c3 c4 c5 => ?_)
        by_cases q : a = za 34
        · subst q
          rw [au_k (fun q => c3 ⟨rfl, by omega⟩), au_k (fun q => c3 ⟨rfl, by omega⟩), au_a (fun q => by cases q), au_a (fun q => by cases q)]
        · rw [au_a q, au_a q, au_a c5, au_a c4]
    · rw [if_neg c, if_neg c]
      obtain ⟨h7, e7, x7, f7⟩ := C_failT (c := 1) (by omega) H6
      rw [show (1 : Int32) = nI 1 from rfl, e7, bs]
      exact ⟨h7, rfl, x7, F5.trans ((fl_.of f6).trans (fl_.of f7))⟩
/-! events in brackets -/
def bC (C s : Nat) : Nat → Nat := fun s1 => C * (s1 - s)
theorem L_evs {C : Nat} (hC : 1 ≤ C) (hx : x.1 = V.2.2.1) (hn : V.2.1 ≤ 500) {ev : Nat → Wd → Nat → XR (Nat × Wd × Nat)} {b0 l : Nat} {stk : List (Nat × Nat)} (hev : ∀ h s w sim, 2 ≤ s → IBp sim w → CL V h s w sim true true ((b0, l) :: stk) → Lr_ V G x ((b0, l) :: stk) h (bC C s) (C * (V.2.1 - s) + 1) (ev s w sim)) (hXI : ∀ s w sim, IBp sim w → XI V IBp (s + 1) sim (ev s w sim)) : ∀ (f s : Nat) (w : Wd) (sim : Nat) (h : HI), V.2.1 < s + f → 2 ≤ s → IBp sim w → CL V h s w sim true true ((b0, l) :: stk) → Lr_ V G x ((b0, l) :: stk) h (bC C s) (C * (V.2.1 - s) + 1) (r_evs V ev f s w sim) ∧ ∀ r, r_evs V ev f s w sim = Sum.inr r → sgV V r.1 = 33
  | 0, s, w, sim, h, hf, _, _, H => by have := H.le; omega
  | f + 1, s, w, sim, h, hf, h2, hI, H => by
    have g := hev h s w sim h2 hI H
    have gi := hXI s w sim hI
    rw [r_evs_s]
    cases e : ev s w sim with
    | inl cp =>
      rw [e] at g
      exact ⟨g, fun r hr => by cases hr⟩
    | inr r1 =>
      obtain ⟨s1, w1, sim1⟩ := r1
      rw [e] at g gi
      obtain ⟨k1, h1, P1, H1, f1, b1⟩ := g
      obtain ⟨i1, i2, i3, i4⟩ := gi
      have i2 : s + 1 ≤ s1 := i2
      have b1 : k1 ≤ C * (s1 - s) := b1
      show Lr_ V G x ((b0, l) :: stk) h (bC C s) (C * (V.2.1 - s) + 1) (if sgV V s1 = 31 then r_evs V ev f (nxV V s1) w1 sim1 else if sgV V s1 = 33 then Sum.inr (s1, w1, sim1) else Sum.inl (1, s1)) ∧ ∀ r, (if sgV V s1 = 31 then r_evs V ev f (nxV V s1) w1 sim1 else if sgV V s1 = 33 then Sum.inr (s1, w1, sim1) else Sum.inl (1, s1)) = Sum.inr r → sgV V r.1 = 33
      have mono : ∀ a c, a ≤ c → C * (a - s) ≤ C * (c - s) := fun a c hac => Nat.mul_le_mul_left _ (by omega)
      by_cases c1 : sgV V s1 = 31
      · rw [if_pos c1]
        obtain ⟨h3, e3, H3, f3⟩ := C_semi (G := G) H1 c1
        have hnx := nxV_b (V := V) (sg_lt_n (by rw [c1]; decide))
        obtain ⟨ih, ih2⟩ := L_evs hC hx hn hev hXI f (nxV V s1) w1 sim1 h3 (by omega) (by omega) i1 H3
        refine ⟨?_, ih2⟩
        have P3 := P1.t (Lp_.s hx H1.2.2.1 H1.h9 e3)
        have split1 : ∀ t, nxV V s1 ≤ t → C * (s1 - s) + 1 + C * (t - nxV V s1) ≤ C * (t - s) := fun t ht => by
          have h1 : C * (t - s) = C * (s1 - s) + C * (nxV V s1 - s1) + C * (t - nxV V s1) := by
            rw [← Nat.mul_add, ← Nat.mul_add]
            congr 1
            omega
          have h2 : C * 1 ≤ C * (nxV V s1 - s1) := Nat.mul_le_mul_left _ (by omega)
          omega
        cases e4 : r_evs V ev f (nxV V s1) w1 sim1 with
        | inl cp =>
          rw [e4] at ih
          obtain ⟨k4, h4, P4, x4, f4, b4⟩ := ih
          have := split1 V.2.1 (by omega)
          exact ⟨_, h4, P3.t P4, x4, (f1.trans f3).trans f4, by omega⟩
        | inr r4 =>
          obtain ⟨s4, w4, sim4⟩ := r4
          rw [e4] at ih
          obtain ⟨k4, h4, P4, H4, f4, b4⟩ := ih
          have b4 : k4 ≤ C * (s4 - nxV V s1) := b4
          have gi4 := XI_evs hXI f (nxV V s1) w1 sim1 i1
          rw [e4] at gi4
          have := split1 s4 (by have := gi4.2.1; omega)
          exact ⟨_, h4, P3.t P4, H4, (f1.trans f3).trans f4, by show _ ≤ C * (s4 - s); omega⟩
      · rw [if_neg c1]
        by_cases c2 : sgV V s1 = 33
        · rw [if_pos c2]
          exact ⟨⟨k1, h1, P1, H1, f1, b1⟩, fun r hr => by cases hr; exact c2⟩
        · rw [if_neg c2]
          obtain ⟨h3, e3, x3, f3⟩ := C_nosep (G := G) H1 c1 (fun q => absurd q c2) (fun _ => by intro q; cases q)
          refine ⟨⟨k1 + 1, h3, P1.t (Lp_.s hx H1.2.2.1 H1.h9 e3), x3, f1.trans f3, ?_⟩, fun r hr => by cases hr⟩
          have := mono s1 V.2.1 i3
          omega
theorem rep_pos {evs : Wd → Nat → XR (Nat × Wd × Nat)} (he : ∀ w w' sim sim', PD (evs w sim) (evs w' sim')) {sl : Nat} (h0 : ∃ w' sim' r', evs w' sim' = Sum.inr r' ∧ r'.1 = sl) : ∀ (m : Nat) (w : Wd) (sim : Nat) (r : Nat × Wd × Nat), r_rep evs m sl w sim = Sum.inr r → r.1 = sl
  | 0, w, sim, r, h => by cases h; rfl
  | m + 1, w, sim, r, h => by
    rw [r_rep_s] at h
    cases e : evs w sim with
    | inl cp => rw [e] at h; cases h
    | inr r1 =>
      rw [e] at h
      obtain ⟨w', sim', r', e', q⟩ := h0
      have : r1.1 = sl := (he _ _ _ _ _ _ e e').trans q
      have h : r_rep evs m r1.1 r1.2.1 r1.2.2 = Sum.inr r := h
      rw [this] at h
      exact rep_pos he ⟨w', sim', r', e', q⟩ m _ _ r h
theorem L_rep {C : Nat} (hx : x.1 = V.2.2.1) {evs : Wd → Nat → XR (Nat × Wd × Nat)} {b0 : Nat} {stk : List (Nat × Nat)} (hPD : ∀ w w' sim sim', PD (evs w sim) (evs w' sim')) (hXI : ∀ w sim, IBp sim w → XI V IBp (b0 + 1) sim (evs w sim)) (hev : ∀ h w sim l, l < 5 → IBp sim w → CL V h b0 w sim true true ((b0, l) :: stk) → Lr_ V G x ((b0, l) :: stk) h (bC C b0) (C * (V.2.1 - b0) + 1) (evs w sim) ∧ ∀ r, evs w sim = Sum.inr r → sgV V r.1 = 33) : ∀ (m sl : Nat) (w : Wd) (sim : Nat) (h : HI), m < 5 → IBp sim w → CL V h b0 w sim true true ((b0, m) :: stk) → match r_rep evs (m + 1) sl w sim with
    | Sum.inl (c, p) => ∃ k h1, Lp_ V G x h k h1 ∧ XE V h1 c p ∧ fl_ h h1 ∧ k ≤ (m + 1) * (C * (V.2.1 - b0) + 1)
    | Sum.inr (s1, w1, sim1) => ∃ k h1, Lp_ V G x h k h1 ∧ CL V h1 (nxV V s1) w1 sim1 true false stk ∧ fl_ h h1 ∧ k ≤ (m + 1) * (C * (s1 - b0) + 1) ∧ sgV V s1 = 33
  | m, sl, w, sim, h, hm, hI, H => by
    obtain ⟨g, g33⟩ := hev h w sim m hm hI H
    have gi := hXI w sim hI
    rw [r_rep_s]
    cases e : evs w sim with
    | inl cp =>
      obtain ⟨c, p⟩ := cp
      rw [e] at g
      obtain ⟨k, h1, a1, a2, a3, a4⟩ := g
      refine ⟨k, h1, a1, a2, a3, ?_⟩
      have : 1 * (C * (V.2.1 - b0) + 1) ≤ (m + 1) * (C * (V.2.1 - b0) + 1) := Nat.mul_le_mul_right _ (by omega)
      omega
    | inr r1 =>
      obtain ⟨s1, w1, sim1⟩ := r1
      rw [e] at g gi
      have c33 := g33 _ e
      obtain ⟨k1, h1, P1, H1, f1, b1⟩ := g
      obtain ⟨i1, i2, i3, i4⟩ := gi
      have b1 : k1 ≤ C * (s1 - b0) := b1
      show match r_rep evs m s1 w1 sim1 with
        | Sum.inl (c, p) => ∃ k h1, Lp_ V G x h k h1 ∧ XE V h1 c p ∧ fl_ h h1 ∧ k ≤ (m + 1) * (C * (V.2.1 - b0) + 1)
        | Sum.inr (s1, w1, sim1) => ∃ k h1, Lp_ V G x h k h1 ∧ CL V h1 (nxV V s1) w1 sim1 true false stk ∧ fl_ h h1 ∧ k ≤ (m + 1) * (C * (s1 - b0) + 1) ∧ sgV V s1 = 33
      cases m with
      | zero =>
        obtain ⟨h3, e3, H3, f3⟩ := C_close0 (G := G) H1 c33
        exact ⟨k1 + 1, h3, P1.t (Lp_.s hx H1.2.2.1 H1.h9 e3), H3, f1.trans f3, by omega, c33⟩
      | succ m =>
        obtain ⟨h3, e3, H3, f3⟩ := C_close1 (G := G) H1 c33
        have P3 := P1.t (Lp_.s hx H1.2.2.1 H1.h9 e3)
        have ih := L_rep hx hPD hXI hev m s1 w1 sim1 h3 (by omega) i1 H3
        have hpos := rep_pos hPD ⟨w, sim, _, e, rfl⟩ (m + 1) w1 sim1
        have hb : C * (s1 - b0) ≤ C * (V.2.1 - b0) := Nat.mul_le_mul_left _ (by omega)
        cases e4 : r_rep evs (m + 1) s1 w1 sim1 with
        | inl cp =>
          obtain ⟨c, p⟩ := cp
          rw [e4] at ih
          obtain ⟨k4, h4, P4, x4, f4, b4⟩ := ih
          refine ⟨_, h4, P3.t P4, x4, (f1.trans f3).trans f4, ?_⟩
          rw [Nat.succ_mul (m + 1)]
          omega
        | inr r4 =>
          obtain ⟨s4, w4, sim4⟩ := r4
          rw [e4] at ih
          have es : s4 = s1 := hpos _ e4
          subst es
          obtain ⟨k4, h4, P4, H4, f4, b4, c4⟩ := ih
          refine ⟨_, h4, P3.t P4, H4, (f1.trans f3).trans f4, ?_, c4⟩
          rw [Nat.succ_mul (m + 1)]
          omega
end LOOP
