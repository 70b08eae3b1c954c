/-! SHALLOW: what an abstract run comes to, method by method. CF: a place, locals, stack, heap. -/
abbrev CF : Type := Nat × AL × List AV × AH
abbrev HI : Type := AA → Nat → Int32
def Iv (ih : AK) (mr : MR) (d : Nat) (C : CF) : AR := ih mr (am_jmp C.1 mr.2.2.1) C.2.1 C.2.2.1 C.2.2.2 d
/-- k steps, then ih; a name of its own, so that no two states are held against each other -/
def am_seg (k : Nat) (ih : AK) : AK := Nat.rec ih (fun _ j => am_step j) k
def Sv (k : Nat) (ih : AK) (mr : MR) (d : Nat) (C : CF) : AR := am_seg k ih mr (am_jmp C.1 mr.2.2.1) C.2.1 C.2.2.1 C.2.2.2 d
abbrev Ev (g : Nat) (mr : MR) (d : Nat) (C : CF) : AR := Iv (am_ev g) mr d C
theorem am_seg_ev (g : Nat) : ∀ k, am_ev (g + k) = am_seg k (am_ev g)
  | 0 => rfl
  | k + 1 => congrArg am_step (am_seg_ev g k)
theorem sv_ev (g k : Nat) (mr : MR) (d : Nat) (C : CF) : Ev (g + k) mr d C = Sv k (am_ev g) mr d C := congrFun (congrFun (congrFun (congrFun (congrFun (congrFun (am_seg_ev g k) mr) _) _) _) _) d
def Ec (mr : MR) (d : Nat) (C : CF) (r : AO × AH) : Prop := ∃ f, ∀ g, Ev (g + f) mr d C = some r
def Rn (mr : MR) (as : List AV) (h : AH) (d : Nat) (r : AO × AH) : Prop := ∃ f, ∀ g, am_run (g + f) d mr as h = some r
/-- the exception's cell -/
def xc (x : AX) : AX := (x.1, x.2.1, x.2.2.1, x.2.2.2.1, x.2.2.2.2.1 + 1, x.2.2.2.2.2.1 + 6, x.2.2.2.2.2.2)
/-- ends: a number, nothing; over the heap as it was (0), new numbers (1), a new heap (2); of what may throw (T, U) -/
abbrev rI0 (hi : HI) (x : AX) (r : Int32) : AO × AH := (Sum.inl (some (vi r)), hp hi x)
abbrev rI1 (x : AX) (r : Int32 × HI) : AO × AH := (Sum.inl (some (vi r.1)), hp r.2 x)
abbrev rI2 (r : Int32 × HI × AX) : AO × AH := (Sum.inl (some (vi r.1)), hp r.2.1 r.2.2)
abbrev rV0 (hi : HI) (x : AX) (_ : Unit) : AO × AH := (Sum.inl none, hp hi x)
abbrev rV1 (x : AX) (r : HI) : AO × AH := (Sum.inl none, hp r x)
abbrev rV2 (r : HI × AX) : AO × AH := (Sum.inl none, hp r.1 r.2)
abbrev rG0 (hi : HI) (x : AX) (r : Fin 37) : AO × AH := (Sum.inl (some (gr' r)), hp hi x)
abbrev rF0 (hi : HI) (x : AX) (r : UInt32) : AO × AH := (Sum.inl (some (Sum.inl (Value.float r))), hp hi x)
abbrev rD0 (hi : HI) (x : AX) (r : UInt64) : AO × AH := (Sum.inl (some (Sum.inl (Value.double r))), hp hi x)
abbrev rF1 (x : AX) (r : UInt32 × HI) : AO × AH := (Sum.inl (some (Sum.inl (Value.float r.1))), hp r.2 x)
abbrev rD1 (x : AX) (r : UInt64 × HI) : AO × AH := (Sum.inl (some (Sum.inl (Value.double r.1))), hp r.2 x)
def rT0 (hi : HI) (x : AX) : Int32 ⊕ Nat → AO × AH
  | Sum.inl v => (Sum.inl (some (vi v)), hp hi x)
  | Sum.inr E => (Sum.inr E, hp hi (xc x))
def rU0 (hi : HI) (x : AX) : Unit ⊕ Nat → AO × AH
  | Sum.inl _ => (Sum.inl none, hp hi x)
  | Sum.inr E => (Sum.inr E, hp hi (xc x))
def rT1 (hi : HI) (x : AX) : (Int32 × HI) ⊕ Nat → AO × AH
  | Sum.inl (v, h) => (Sum.inl (some (vi v)), hp h x)
  | Sum.inr E => (Sum.inr E, hp hi (xc x))
def rT2 : (Int32 ⊕ Nat) × HI × AX → AO × AH
  | (Sum.inl v, hi, x) => (Sum.inl (some (vi v)), hp hi x)
  | (Sum.inr E, hi, x) => (Sum.inr E, hp hi x)
section SH
variable {mr : MR} {d : Nat} {C : CF} {ρ : Type} {R : ρ → AO × AH} {r : ρ} {q : AO × AH}
theorem Rn.of {as : List AV} {h : AH} (hk : ∀ ih : AK, ih mr mr.2.2.1 (am_pad mr.2.1 (am_args as)) [] h d = Iv ih mr d C) (H : Ec mr d C q) : Rn mr as h d q := by
  obtain ⟨f, hf⟩ := H
  exact ⟨f, fun g => (hk (am_ev (g + f))).trans (hf g)⟩
theorem ec_seg (k : Nat) (C1 : CF) (hk : ∀ ih : AK, Sv k ih mr d C = Iv ih mr d C1) (H : Ec mr d C1 q) : Ec mr d C q := by
  obtain ⟨f, hf⟩ := H
  refine ⟨f + k, fun g => ?_⟩
  have e : g + (f + k) = (g + f) + k := by omega
  rw [e, sv_ev, hk]
  exact hf g
theorem ec_ret {v : ρ} (H : some v = some r) (k : Nat) (hk : ∀ ih : AK, Sv k ih mr d C = some (R v)) : Ec mr d C (R r) := by
  cases H
  exact ⟨k, fun g => (sv_ev g k mr d C).trans (hk _)⟩
theorem ec_retT {v : ρ} (H : some v = some r) (k : Nat) (hk : ∀ ih : AK, Sv k ih mr d C = some (R v)) : Ec mr d C (R r) := ec_ret H k hk
theorem ec_rgd {v : ρ} {c : Prop} [Decidable c] (H : (if c then some v else none) = some r) (k : Nat) (hk : ∀ ih : AK, Sv k ih mr d C = if c then some (R v) else none) : Ec mr d C (R r) := by
  by_cases hc : c
  · rw [if_pos hc] at H
    cases H
    exact ⟨k, fun g => (sv_ev g k mr d C).trans ((hk _).trans (if_pos hc))⟩
  · rw [if_neg hc] at H
    cases H
theorem ec_ite {c : Prop} [Decidable c] {T1 T2 : Option ρ} (H : (if c then T1 else T2) = some r) (k : Nat) (C1 C2 : CF) (hk : ∀ ih : AK, Sv k ih mr d C = if c then Iv ih mr d C1 else Iv ih mr d C2) (h1 : T1 = some r → Ec mr d C1 q) (h2 : T2 = some r → Ec mr d C2 q) : Ec mr d C q := by
  by_cases hc : c
  · rw [if_pos hc] at H
    refine ec_seg k C1 (fun g => ?_) (h1 H)
    rw [hk, if_pos hc]
  · rw [if_neg hc] at H
    refine ec_seg k C2 (fun g => ?_) (h2 H)
    rw [hk, if_neg hc]
/-- a branch of a function that can't fail -/
theorem ec_iteT {c : Prop} [Decidable c] {T1 T2 : ρ} (H : some (if c then T1 else T2) = some r) (k : Nat) (C1 C2 : CF) (hk : ∀ ih : AK, Sv k ih mr d C = if c then Iv ih mr d C1 else Iv ih mr d C2) (h1 : some T1 = some r → Ec mr d C1 q) (h2 : some T2 = some r → Ec mr d C2 q) : Ec mr d C q := by
  refine ec_ite (T1 := some T1) (T2 := some T2) ?_ k C1 C2 hk h1 h2
  rw [← H]
  by_cases hc : c
  · rw [if_pos hc, if_pos hc]
  · rw [if_neg hc, if_neg hc]
theorem ec_grd {c : Prop} [Decidable c] {T : Option ρ} (H : (if c then T else none) = some r) (k : Nat) (C1 : CF) (hk : ∀ ih : AK, Sv k ih mr d C = if c then Iv ih mr d C1 else none) (h1 : T = some r → Ec mr d C1 q) : Ec mr d C q := by
  by_cases hc : c
  · rw [if_pos hc] at H
    refine ec_seg k C1 (fun g => ?_) (h1 H)
    rw [hk, if_pos hc]
  · rw [if_neg hc] at H
    cases H
/-- a store at an unknown place: the heap behind it gets a name -/
theorem ec_grdB {c : Prop} [Decidable c] {α : Type} {S : α} {T : α → Option ρ} (H : (if c then (some S).bind T else none) = some r) (k : Nat) (Cf : α → CF) (hk : ∀ ih : AK, Sv k ih mr d C = if c then Iv ih mr d (Cf S) else none) (h1 : ∀ v, T v = some r → Ec mr d (Cf v) q) : Ec mr d C q := by
  by_cases hc : c
  · rw [if_pos hc] at H
    refine ec_seg k (Cf S) (fun g => ?_) (h1 S H)
    rw [hk, if_pos hc]
  · rw [if_neg hc] at H
    cases H
theorem ec_grn {c : Prop} [Decidable c] {T : Option ρ} (H : (if c then none else T) = some r) (k : Nat) (C1 : CF) (hk : ∀ ih : AK, Sv k ih mr d C = if c then none else Iv ih mr d C1) (h1 : T = some r → Ec mr d C1 q) : Ec mr d C q := by
  by_cases hc : c
  · rw [if_pos hc] at H
    cases H
  · rw [if_neg hc] at H
    refine ec_seg k C1 (fun g => ?_) (h1 H)
    rw [hk, if_neg hc]
theorem ec_pcif {c : Prop} [Decidable c] {T1 T2 : Option ρ} {p1 p2 : Nat} {y : AL × List AV × AH} (H : (if c then T1 else T2) = some r) (h1 : T1 = some r → Ec mr d (p1, y) q) (h2 : T2 = some r → Ec mr d (p2, y) q) : Ec mr d ((if c then p1 else p2), y) q := by
  by_cases hc : c
  · rw [if_pos hc] at H ⊢
    exact h1 H
  · rw [if_neg hc] at H ⊢
    exact h2 H
theorem ec_pcifT {c : Prop} [Decidable c] {T1 T2 : ρ} {p1 p2 : Nat} {y : AL × List AV × AH} (H : some (if c then T1 else T2) = some r) (h1 : some T1 = some r → Ec mr d (p1, y) q) (h2 : some T2 = some r → Ec mr d (p2, y) q) : Ec mr d ((if c then p1 else p2), y) q := by
  by_cases hc : c
  · rw [if_pos hc] at H ⊢
    exact h1 H
  · rw [if_neg hc] at H ⊢
    exact h2 H
/-- calls -/
def am_rck (ci : Nat) (h : AH) (as : List AV) : Bool := match as with | Sum.inr a :: _ => Nat.beq (am_ty h a).1 ci && am_ex h a | _ => false
theorem am_call_eq {ih : AK} {pc d0 kind n0 ci n : Nat} {rest : List CI} {ls : AL} {st as t : List AV} {h : AH} {M : MR} (hn : (bif am_stk kind || Nat.beq kind 10 || Nat.beq kind 11 then n0 else n0 + 1) = n) (has : (st.take n).reverse = as) (ht : st.drop n = t) (hcl : (Nat.beq as.length n && am_clean ls t && Nat.ble (am_sum t) 8) = true) (hkd : (Nat.beq kind 3 || Nat.beq kind 7 || Nat.beq kind 8 || Nat.beq kind 10 || Nat.beq kind 11 || Nat.ble 15 kind) = false) (hrc : (Nat.ble (am_args as).length M.2.1 && (am_stk kind || am_rck ci h as)) = true) : am_call ih mr pc rest ls st h (d0 + 1) (kind, n0, ci, M) = (match ih M M.2.2.1 (am_pad M.2.1 (am_args as)) [] h d0 with
      | none => none
      | some (Sum.inl none, h1) => ih mr rest ls t h1 (d0 + 1)
      | some (Sum.inl (some v), h1) => ih mr rest ls (v :: t) h1 (d0 + 1)
      | some (Sum.inr E, h1) => bif !am_xck kind then none else am_thr pc E mr (fun tgt k => ih mr (am_jmp tgt mr.2.2.1) ((am_clr ls k).set k none) [] h1 (d0 + 1)) h1) := by
  obtain ⟨⟨k3, k7, k8, k10, k11⟩, k2⟩ : (Nat.beq kind 3 = false ∧ Nat.beq kind 7 = false ∧ Nat.beq kind 8 = false ∧ Nat.beq kind 10 = false ∧ Nat.beq kind 11 = false) ∧ Nat.ble 15 kind = false := by
    revert hkd
    cases Nat.beq kind 3 <;> cases Nat.beq kind 7 <;> cases Nat.beq kind 8 <;> cases Nat.beq kind 10 <;> cases Nat.beq kind 11 <;> cases Nat.ble 15 kind <;> intro h <;> first | exact ⟨⟨rfl, rfl, rfl, rfl, rfl⟩, rfl⟩ | cases h
  unfold am_call
  dsimp only
  rw [hn, has, ht]
  have hcl2 : (Nat.beq as.length n && am_cl kind ls t && Nat.ble (am_sum t) 8) = true := hcl
  rw [hcl2, k3, k7, k8, k10, k11, k2]
  show (bif Nat.ble (am_args as).length M.2.1 && (am_stk kind || am_rck ci h as) then _ else none) = _
  rw [hrc]
  rfl
section CALL
variable {d0 pc kind n0 ci n pc2 : Nat} {ls : AL} {st as t : List AV} {h h1 : AH} {M : MR} {v : AV}
theorem ec_call (pc2 : Nat) (as t : List AV) (hk : ∀ ih, am_step ih mr (am_jmp pc mr.2.2.1) ls st h (d0 + 1) = am_call ih mr pc (am_jmp pc2 mr.2.2.1) ls st h (d0 + 1) (kind, n0, ci, M)) (hn : (bif am_stk kind || Nat.beq kind 10 || Nat.beq kind 11 then n0 else n0 + 1) = n) (has : (st.take n).reverse = as) (ht : st.drop n = t) (hcl : (Nat.beq as.length n && am_clean ls t && Nat.ble (am_sum t) 8) = true) (hkd : (Nat.beq kind 3 || Nat.beq kind 7 || Nat.beq kind 8 || Nat.beq kind 10 || Nat.beq kind 11 || Nat.ble 15 kind) = false) (hrc : (Nat.ble (am_args as).length M.2.1 && (am_stk kind || am_rck ci h as)) = true) (hC : Rn M as h d0 (Sum.inl (some v), h1)) (H : Ec mr (d0 + 1) (pc2, ls, v :: t, h1) q) : Ec mr (d0 + 1) (pc, ls, st, h) q := by
  obtain ⟨f1, e1⟩ := hC
  obtain ⟨f2, e2⟩ := H
  refine ⟨f1 + f2 + 1, fun g => ?_⟩
  have e : g + (f1 + f2 + 1) = (g + f1 + f2) + 1 := by omega
  rw [e]
  show am_step (am_ev (g + f1 + f2)) mr (am_jmp pc mr.2.2.1) ls st h (d0 + 1) = _
  rw [hk, am_call_eq hn has ht hcl hkd hrc]
  have g1 : am_ev (g + f1 + f2) M M.2.2.1 (am_pad M.2.1 (am_args as)) [] h d0 = some (Sum.inl (some v), h1) := by
    have := e1 (g + f2)
    rw [show g + f2 + f1 = g + f1 + f2 by omega] at this
    exact this
  rw [g1]
  exact e2 (g + f1)
theorem ec_callv (pc2 : Nat) (as t : List AV) (hk : ∀ ih, am_step ih mr (am_jmp pc mr.2.2.1) ls st h (d0 + 1) = am_call ih mr pc (am_jmp pc2 mr.2.2.1) ls st h (d0 + 1) (kind, n0, ci, M)) (hn : (bif am_stk kind || Nat.beq kind 10 || Nat.beq kind 11 then n0 else n0 + 1) = n) (has : (st.take n).reverse = as) (ht : st.drop n = t) (hcl : (Nat.beq as.length n && am_clean ls t && Nat.ble (am_sum t) 8) = true) (hkd : (Nat.beq kind 3 || Nat.beq kind 7 || Nat.beq kind 8 || Nat.beq kind 10 || Nat.beq kind 11 || Nat.ble 15 kind) = false) (hrc : (Nat.ble (am_args as).length M.2.1 && (am_stk kind || am_rck ci h as)) = true) (hC : Rn M as h d0 (Sum.inl none, h1)) (H : Ec mr (d0 + 1) (pc2, ls, t, h1) q) : Ec mr (d0 + 1) (pc, ls, st, h) q := by
  obtain ⟨f1, e1⟩ := hC
  obtain ⟨f2, e2⟩ := H
  refine ⟨f1 + f2 + 1, fun g => ?_⟩
  have e : g + (f1 + f2 + 1) = (g + f1 + f2) + 1 := by omega
  rw [e]
  show am_step (am_ev (g + f1 + f2)) mr (am_jmp pc mr.2.2.1) ls st h (d0 + 1) = _
  rw [hk, am_call_eq hn has ht hcl hkd hrc]
  have g1 : am_ev (g + f1 + f2) M M.2.2.1 (am_pad M.2.1 (am_args as)) [] h d0 = some (Sum.inl none, h1) := by
    have := e1 (g + f2)
    rw [show g + f2 + f1 = g + f1 + f2 by omega] at this
    exact this
  rw [g1]
  exact e2 (g + f1)
/-- a call that throws, where nothing catches -/
theorem ec_calle {E : Nat} (as t : List AV) {rest : List CI} (hk : ∀ ih, am_step ih mr (am_jmp pc mr.2.2.1) ls st h (d0 + 1) = am_call ih mr pc rest ls st h (d0 + 1) (kind, n0, ci, M)) (hn : (bif am_stk kind || Nat.beq kind 10 || Nat.beq kind 11 then n0 else n0 + 1) = n) (has : (st.take n).reverse = as) (ht : st.drop n = t) (hcl : (Nat.beq as.length n && am_clean ls t && Nat.ble (am_sum t) 8) = true) (hkd : (Nat.beq kind 3 || Nat.beq kind 7 || Nat.beq kind 8 || Nat.beq kind 10 || Nat.beq kind 11 || Nat.ble 15 kind) = false) (hrc : (Nat.ble (am_args as).length M.2.1 && (am_stk kind || am_rck ci h as)) = true) (hx : am_xck kind = true) (hh : mr.2.2.2 = []) (hC : Rn M as h d0 (Sum.inr E, h1)) : Ec mr (d0 + 1) (pc, ls, st, h) (Sum.inr E, h1) := by
  obtain ⟨f1, e1⟩ := hC
  refine ⟨f1 + 1, fun g => ?_⟩
  show am_step (am_ev (g + f1)) mr (am_jmp pc mr.2.2.1) ls st h (d0 + 1) = _
  rw [hk, am_call_eq hn has ht hcl hkd hrc]
  have g1 : am_ev (g + f1) M M.2.2.1 (am_pad M.2.1 (am_args as)) [] h d0 = some (Sum.inr E, h1) := e1 g
  rw [g1]
  show (bif !am_xck kind then none else am_thr pc E mr _ h1) = _
  rw [hx]
  show am_thr pc E mr _ h1 = _
  unfold am_thr
  rw [hh]
  rfl
/-- a call that throws, and a handler catches -/
theorem ec_callh {E tgt k : Nat} (as t : List AV) {rest : List CI} (hk : ∀ ih, am_step ih mr (am_jmp pc mr.2.2.1) ls st h (d0 + 1) = am_call ih mr pc rest ls st h (d0 + 1) (kind, n0, ci, M)) (hn : (bif am_stk kind || Nat.beq kind 10 || Nat.beq kind 11 then n0 else n0 + 1) = n) (has : (st.take n).reverse = as) (ht : st.drop n = t) (hcl : (Nat.beq as.length n && am_clean ls t && Nat.ble (am_sum t) 8) = true) (hkd : (Nat.beq kind 3 || Nat.beq kind 7 || Nat.beq kind 8 || Nat.beq kind 10 || Nat.beq kind 11 || Nat.ble 15 kind) = false) (hrc : (Nat.ble (am_args as).length M.2.1 && (am_stk kind || am_rck ci h as)) = true) (hx : am_xck kind = true) (hh : am_hand pc E mr.2.2.2 = some (tgt, k)) (hC : Rn M as h d0 (Sum.inr E, h1)) (H : Ec mr (d0 + 1) (tgt, (am_clr ls k).set k none, [], h1) q) : Ec mr (d0 + 1) (pc, ls, st, h) q := by
  obtain ⟨f1, e1⟩ := hC
  obtain ⟨f2, e2⟩ := H
  refine ⟨f1 + f2 + 1, fun g => ?_⟩
  have e : g + (f1 + f2 + 1) = (g + f1 + f2) + 1 := by omega
  rw [e]
  show am_step (am_ev (g + f1 + f2)) mr (am_jmp pc mr.2.2.1) ls st h (d0 + 1) = _
  rw [hk, am_call_eq hn has ht hcl hkd hrc]
  have g1 : am_ev (g + f1 + f2) M M.2.2.1 (am_pad M.2.1 (am_args as)) [] h d0 = some (Sum.inr E, h1) := by
    have := e1 (g + f2)
    rw [show g + f2 + f1 = g + f1 + f2 by omega] at this
    exact this
  rw [g1]
  show (bif !am_xck kind then none else am_thr pc E mr _ h1) = _
  rw [hx]
  show am_thr pc E mr _ h1 = _
  unfold am_thr
  rw [hh]
  exact e2 (g + f1)
variable {α : Type} {S : Option α}
theorem ec_bind {T : α → Option ρ} (H : S.bind T = some r) (pc2 : Nat) (as t : List AV) (hk : ∀ ih, am_step ih mr (am_jmp pc mr.2.2.1) ls st h (d0 + 1) = am_call ih mr pc (am_jmp pc2 mr.2.2.1) ls st h (d0 + 1) (kind, n0, ci, M)) (hn : (bif am_stk kind || Nat.beq kind 10 || Nat.beq kind 11 then n0 else n0 + 1) = n) (has : (st.take n).reverse = as) (ht : st.drop n = t) (hcl : (Nat.beq as.length n && am_clean ls t && Nat.ble (am_sum t) 8) = true) (hkd : (Nat.beq kind 3 || Nat.beq kind 7 || Nat.beq kind 8 || Nat.beq kind 10 || Nat.beq kind 11 || Nat.ble 15 kind) = false) (hrc : (Nat.ble (am_args as).length M.2.1 && (am_stk kind || am_rck ci h as)) = true) {V : α → AV} {Hh : α → AH} (hC : ∀ v, S = some v → Rn M as h d0 (Sum.inl (some (V v)), Hh v)) (hT : ∀ v, T v = some r → Ec mr (d0 + 1) (pc2, ls, V v :: t, Hh v) q) : Ec mr (d0 + 1) (pc, ls, st, h) q := by
  cases hS : S with
  | none => rw [hS] at H; cases H
  | some v =>
    rw [hS] at H
    exact ec_call pc2 as t hk hn has ht hcl hkd hrc (hC v hS) (hT v H)
theorem ec_bindv {T : α → Option ρ} (H : S.bind T = some r) (pc2 : Nat) (as t : List AV) (hk : ∀ ih, am_step ih mr (am_jmp pc mr.2.2.1) ls st h (d0 + 1) = am_call ih mr pc (am_jmp pc2 mr.2.2.1) ls st h (d0 + 1) (kind, n0, ci, M)) (hn : (bif am_stk kind || Nat.beq kind 10 || Nat.beq kind 11 then n0 else n0 + 1) = n) (has : (st.take n).reverse = as) (ht : st.drop n = t) (hcl : (Nat.beq as.length n && am_clean ls t && Nat.ble (am_sum t) 8) = true) (hkd : (Nat.beq kind 3 || Nat.beq kind 7 || Nat.beq kind 8 || Nat.beq kind 10 || Nat.beq kind 11 || Nat.ble 15 kind) = false) (hrc : (Nat.ble (am_args as).length M.2.1 && (am_stk kind || am_rck ci h as)) = true) {Hh : α → AH} (hC : ∀ v, S = some v → Rn M as h d0 (Sum.inl none, Hh v)) (hT : ∀ v, T v = some r → Ec mr (d0 + 1) (pc2, ls, t, Hh v) q) : Ec mr (d0 + 1) (pc, ls, st, h) q := by
  cases hS : S with
  | none => rw [hS] at H; cases H
  | some v =>
    rw [hS] at H
    exact ec_callv pc2 as t hk hn has ht hcl hkd hrc (hC v hS) (hT v H)
theorem ec_bvT {S : α} {T : α → Option ρ} (H : (some S).bind T = some r) (pc2 : Nat) (as t : List AV) (hk : ∀ ih, am_step ih mr (am_jmp pc mr.2.2.1) ls st h (d0 + 1) = am_call ih mr pc (am_jmp pc2 mr.2.2.1) ls st h (d0 + 1) (kind, n0, ci, M)) (hn : (bif am_stk kind || Nat.beq kind 10 || Nat.beq kind 11 then n0 else n0 + 1) = n) (has : (st.take n).reverse = as) (ht : st.drop n = t) (hcl : (Nat.beq as.length n && am_clean ls t && Nat.ble (am_sum t) 8) = true) (hkd : (Nat.beq kind 3 || Nat.beq kind 7 || Nat.beq kind 8 || Nat.beq kind 10 || Nat.beq kind 11 || Nat.ble 15 kind) = false) (hrc : (Nat.ble (am_args as).length M.2.1 && (am_stk kind || am_rck ci h as)) = true) {Hh : α → AH} (hC : Rn M as h d0 (Sum.inl none, Hh S)) (hT : ∀ v, T v = some r → Ec mr (d0 + 1) (pc2, ls, t, Hh v) q) : Ec mr (d0 + 1) (pc, ls, st, h) q := ec_callv pc2 as t hk hn has ht hcl hkd hrc hC (hT S H)
end CALL
/-- the switches -/
theorem ec_sw (k : Nat) (C1 : CF) (hk : ∀ ih : AK, Sv k ih mr d C = Iv ih mr d C1) (H : Ec mr d C1 q) : Ec mr d C q := ec_seg k C1 hk H
theorem sw_tw {κ : Nat → AR} {x : Int32} {pc : Nat} {dflt lo hi : Int} {offs : Array Int} (h : x.toInt < lo ∨ hi < x.toInt ∨ (0 ≤ (pc : Int) + dflt ∧ offs.toList[(x.toInt - lo).toNat]? = some dflt)) (h0 : 0 ≤ (pc : Int) + dflt) : am_tsw κ pc dflt lo hi offs x = κ ((pc : Int) + dflt).toNat := by
  unfold am_tsw
  by_cases hc : x.toInt < lo ∨ hi < x.toInt
  · rw [if_pos hc, if_pos h0]
  · rw [if_neg hc]
    have h2 : offs.toList[(x.toInt - lo).toNat]? = some dflt := by
      rcases h with h | h | h
      · exact absurd (Or.inl h) hc
      · exact absurd (Or.inr h) hc
      · exact h.2
    rw [h2]
    show (if 0 ≤ (pc : Int) + dflt then _ else none) = _
    rw [if_pos h0]
end SH
/-- arrays of ints of ours -/
def Arr (a : AA) (n : Nat) : Prop := (∀ h, am_ty h a = (100, n)) ∧ (∀ h k, am_rI h a k = h.i a k) ∧ am_dyn a = true ∧ am_noS (Sum.inr a) = true
theorem ar_w (i : Fin 12) (j : Nat) {n : Nat} (h : am_lk j am_tw = some (100, n)) : Arr (wa i j) n := ⟨fun _ => by rw [am_ty_w, h], fun _ _ => rfl, rfl, rfl⟩
