/-! what may throw; what catches -/
abbrev AY : Type := Int64 × ((AA → Nat → AV) × AD) × Nat × Nat × Nat × Nat
def rTD0 (hi : HI) (x : AX) : UInt64 ⊕ Nat → AO × AH
  | Sum.inl v => (Sum.inl (some (Sum.inl (Value.double v))), hp hi x)
  | Sum.inr E => (Sum.inr E, hp hi (xc x))
def rTF0 (hi : HI) (x : AX) : UInt32 ⊕ Nat → AO × AH
  | Sum.inl v => (Sum.inl (some (Sum.inl (Value.float v))), hp hi x)
  | Sum.inr E => (Sum.inr E, hp hi (xc x))
def bT {α β : Type} (S : Option (α ⊕ Nat)) (T : α → Option (β ⊕ Nat)) : Option (β ⊕ Nat) := match S with
  | none => none
  | some (Sum.inl v) => T v
  | some (Sum.inr E) => some (Sum.inr E)
def bT2 {α β : Type} (hi : HI) (x : AX) (S : Option (α ⊕ Nat)) (T : α → Option ((β ⊕ Nat) × HI × AX)) : Option ((β ⊕ Nat) × HI × AX) := match S with
  | none => none
  | some (Sum.inl v) => T v
  | some (Sum.inr E) => some (Sum.inr E, hi, xc x)
def bW {α ρ : Type} (S : Option (α ⊕ Nat)) (T : α → Option ρ) (Tx : Nat → Option ρ) : Option ρ := match S with
  | none => none
  | some (Sum.inl v) => T v
  | some (Sum.inr E) => Tx E
def bW2 {α ρ : Type} (S : Option ((α ⊕ Nat) × HI × AX)) (T : α → HI → AX → Option ρ) (Tx : Nat → HI → AX → Option ρ) : Option ρ := match S with
  | none => none
  | some (Sum.inl v, h, x) => T v h x
  | some (Sum.inr E, h, x) => Tx E h x
theorem ec_arm {ρ : Type} {r : ρ} {E k : Nat} {T1 T2 : Option ρ} {P : Prop} (H : (if E = k then T1 else T2) = some r) (h1 : E = k → T1 = some r → P) (h2 : ¬ E = k → T2 = some r → P) : P := by
  by_cases hE : E = k
  · rw [if_pos hE] at H
    exact h1 hE H
  · rw [if_neg hE] at H
    exact h2 hE H
section THR
variable {mr : MR} {d0 pc kind n0 ci n : Nat} {ls : AL} {st : List AV} {h : AH} {M : MR} {hi : HI} {x : AX} {α β ρ : Type} {q : AO × AH}
theorem ec_bT {S : Option (Int32 ⊕ Nat)} {T : Int32 → Option (β ⊕ Nat)} {R : β ⊕ Nat → AO × AH} {r : β ⊕ Nat} (H : bT S T = some r) (pc2 : Nat) (as t : List AV) (hk : ∀ ih, am_step ih mr (am_jmp pc mr.2.2.1) ls st h (d0 + 1) = am_call ih mr pc (am_jmp pc2 mr.2.2.1) ls st h (d0 + 1) (kind, n0, ci, M)) (hn : (bif am_stk kind || Nat.beq kind 10 || Nat.beq kind 11 then n0 else n0 + 1) = n) (has : (st.take n).reverse = as) (ht : st.drop n = t) (hcl : (Nat.beq as.length n && am_clean ls t && Nat.ble (am_sum t) 8) = true) (hkd : (Nat.beq kind 3 || Nat.beq kind 7 || Nat.beq kind 8 || Nat.beq kind 10 || Nat.beq kind 11 || Nat.ble 15 kind) = false) (hrc : (Nat.ble (am_args as).length M.2.1 && (am_stk kind || am_rck ci h as)) = true) (hC : ∀ v, S = some v → Rn M as h d0 (rT0 hi x v)) (hR : ∀ E, R (Sum.inr E) = (Sum.inr E, hp hi (xc x))) (hx : am_xck kind = true) (hh : mr.2.2.2 = []) (hT : ∀ v, T v = some r → Ec mr (d0 + 1) (pc2, ls, vi v :: t, hp hi x) (R r)) : Ec mr (d0 + 1) (pc, ls, st, h) (R r) := by
  cases hS : S with
  | none => rw [hS] at H; cases H
  | some v =>
    cases v with
    | inl v =>
      rw [hS] at H
      exact ec_call pc2 as t hk hn has ht hcl hkd hrc (hC _ hS) (hT v H)
    | inr E =>
      rw [hS] at H
      have hr : Sum.inr E = r := Option.some.inj H
      subst hr
      rw [hR]
      exact ec_calle as t hk hn has ht hcl hkd hrc hx hh (hC _ hS)
theorem ec_bU {S : Option (Unit ⊕ Nat)} {T : Unit → Option (β ⊕ Nat)} {R : β ⊕ Nat → AO × AH} {r : β ⊕ Nat} (H : bT S T = some r) (pc2 : Nat) (as t : List AV) (hk : ∀ ih, am_step ih mr (am_jmp pc mr.2.2.1) ls st h (d0 + 1) = am_call ih mr pc (am_jmp pc2 mr.2.2.1) ls st h (d0 + 1) (kind, n0, ci, M)) (hn : (bif am_stk kind || Nat.beq kind 10 || Nat.beq kind 11 then n0 else n0 + 1) = n) (has : (st.take n).reverse = as) (ht : st.drop n = t) (hcl : (Nat.beq as.length n && am_clean ls t && Nat.ble (am_sum t) 8) = true) (hkd : (Nat.beq kind 3 || Nat.beq kind 7 || Nat.beq kind 8 || Nat.beq kind 10 || Nat.beq kind 11 || Nat.ble 15 kind) = false) (hrc : (Nat.ble (am_args as).length M.2.1 && (am_stk kind || am_rck ci h as)) = true) (hC : ∀ v, S = some v → Rn M as h d0 (rU0 hi x v)) (hR : ∀ E, R (Sum.inr E) = (Sum.inr E, hp hi (xc x))) (hx : am_xck kind = true) (hh : mr.2.2.2 = []) (hT : ∀ v, T v = some r → Ec mr (d0 + 1) (pc2, ls, t, hp hi x) (R r)) : Ec mr (d0 + 1) (pc, ls, st, h) (R r) := by
  cases hS : S with
  | none => rw [hS] at H; cases H
  | some v =>
    cases v with
    | inl v =>
      rw [hS] at H
      exact ec_callv pc2 as t hk hn has ht hcl hkd hrc (hC _ hS) (hT v H)
    | inr E =>
      rw [hS] at H
      have hr : Sum.inr E = r := Option.some.inj H
      subst hr
      rw [hR]
      exact ec_calle as t hk hn has ht hcl hkd hrc hx hh (hC _ hS)
theorem ec_bU2 {S : Option (Unit ⊕ Nat)} {T : Unit → Option ((Int32 ⊕ Nat) × HI × AX)} {r : (Int32 ⊕ Nat) × HI × AX} (H : bT2 hi x S T = some r) (pc2 : Nat) (as t : List AV) (hk : ∀ ih, am_step ih mr (am_jmp pc mr.2.2.1) ls st h (d0 + 1) = am_call ih mr pc (am_jmp pc2 mr.2.2.1) ls st h (d0 + 1) (kind, n0, ci, M)) (hn : (bif am_stk kind || Nat.beq kind 10 || Nat.beq kind 11 then n0 else n0 + 1) = n) (has : (st.take n).reverse = as) (ht : st.drop n = t) (hcl : (Nat.beq as.length n && am_clean ls t && Nat.ble (am_sum t) 8) = true) (hkd : (Nat.beq kind 3 || Nat.beq kind 7 || Nat.beq kind 8 || Nat.beq kind 10 || Nat.beq kind 11 || Nat.ble 15 kind) = false) (hrc : (Nat.ble (am_args as).length M.2.1 && (am_stk kind || am_rck ci h as)) = true) (hC : ∀ v, S = some v → Rn M as h d0 (rU0 hi x v)) (hx : am_xck kind = true) (hh : mr.2.2.2 = []) (hT : ∀ v, T v = some r → Ec mr (d0 + 1) (pc2, ls, t, hp hi x) (rT2 r)) : Ec mr (d0 + 1) (pc, ls, st, h) (rT2 r) := by
  cases hS : S with
  | none => rw [hS] at H; cases H
  | some v =>
    cases v with
    | inl v =>
      rw [hS] at H
      exact ec_callv pc2 as t hk hn has ht hcl hkd hrc (hC _ hS) (hT v H)
    | inr E =>
      rw [hS] at H
      have hr := Option.some.inj H
      subst hr
      exact ec_calle as t hk hn has ht hcl hkd hrc hx hh (hC _ hS)
theorem ec_wg {S : Option (α ⊕ Nat)} {T : α → Option ρ} {Tx : Nat → Option ρ} {r : ρ} (H : bW S T Tx = some r) (pc2 : Nat) (as t : List AV) (hk : ∀ ih, am_step ih mr (am_jmp pc mr.2.2.1) ls st h (d0 + 1) = am_call ih mr pc (am_jmp pc2 mr.2.2.1) ls st h (d0 + 1) (kind, n0, ci, M)) (hn : (bif am_stk kind || Nat.beq kind 10 || Nat.beq kind 11 then n0 else n0 + 1) = n) (has : (st.take n).reverse = as) (ht : st.drop n = t) (hcl : (Nat.beq as.length n && am_clean ls t && Nat.ble (am_sum t) 8) = true) (hkd : (Nat.beq kind 3 || Nat.beq kind 7 || Nat.beq kind 8 || Nat.beq kind 10 || Nat.beq kind 11 || Nat.ble 15 kind) = false) (hrc : (Nat.ble (am_args as).length M.2.1 && (am_stk kind || am_rck ci h as)) = true) {V : α → AV} {Hh : α → AH} {hx : AH} (hC : ∀ v, S = some (Sum.inl v) → Rn M as h d0 (Sum.inl (some (V v)), Hh v)) (hD : ∀ E, S = some (Sum.inr E) → Rn M as h d0 (Sum.inr E, hx)) (hT : ∀ v, T v = some r → Ec mr (d0 + 1) (pc2, ls, V v :: t, Hh v) q) (hX : ∀ E, Rn M as h d0 (Sum.inr E, hx) → Tx E = some r → Ec mr (d0 + 1) (pc, ls, st, h) q) : Ec mr (d0 + 1) (pc, ls, st, h) q := by
  cases hS : S with
  | none => rw [hS] at H; cases H
  | some v =>
    cases v with
    | inl v =>
      rw [hS] at H
      exact ec_call pc2 as t hk hn has ht hcl hkd hrc (hC _ hS) (hT v H)
    | inr E =>
      rw [hS] at H
      exact hX E (hD E hS) H
theorem ec_w0 {S : Option (Int32 ⊕ Nat)} {T : Int32 → Option ρ} {Tx : Nat → Option ρ} {r : ρ} (H : bW S T Tx = some r) (pc2 : Nat) (as t : List AV) (hk : ∀ ih, am_step ih mr (am_jmp pc mr.2.2.1) ls st h (d0 + 1) = am_call ih mr pc (am_jmp pc2 mr.2.2.1) ls st h (d0 + 1) (kind, n0, ci, M)) (hn : (bif am_stk kind || Nat.beq kind 10 || Nat.beq kind 11 then n0 else n0 + 1) = n) (has : (st.take n).reverse = as) (ht : st.drop n = t) (hcl : (Nat.beq as.length n && am_clean ls t && Nat.ble (am_sum t) 8) = true) (hkd : (Nat.beq kind 3 || Nat.beq kind 7 || Nat.beq kind 8 || Nat.beq kind 10 || Nat.beq kind 11 || Nat.ble 15 kind) = false) (hrc : (Nat.ble (am_args as).length M.2.1 && (am_stk kind || am_rck ci h as)) = true) (hC : ∀ v, S = some v → Rn M as h d0 (rT0 hi x v)) (hT : ∀ v, T v = some r → Ec mr (d0 + 1) (pc2, ls, vi v :: t, hp hi x) q) (hX : ∀ E, Rn M as h d0 (Sum.inr E, hp hi (xc x)) → Tx E = some r → Ec mr (d0 + 1) (pc, ls, st, h) q) : Ec mr (d0 + 1) (pc, ls, st, h) q := ec_wg H pc2 as t hk hn has ht hcl hkd hrc (V := fun v => vi v) (Hh := fun _ => hp hi x) (fun v hS => hC _ hS) (fun E hS => hC _ hS) hT hX
theorem ec_w1 {S : Option ((Int32 × HI) ⊕ Nat)} {T : Int32 × HI → Option ρ} {Tx : Nat → Option ρ} {r : ρ} (H : bW S T Tx = some r) (pc2 : Nat) (as t : List AV) (hk : ∀ ih, am_step ih mr (am_jmp pc mr.2.2.1) ls st h (d0 + 1) = am_call ih mr pc (am_jmp pc2 mr.2.2.1) ls st h (d0 + 1) (kind, n0, ci, M)) (hn : (bif am_stk kind || Nat.beq kind 10 || Nat.beq kind 11 then n0 else n0 + 1) = n) (has : (st.take n).reverse = as) (ht : st.drop n = t) (hcl : (Nat.beq as.length n && am_clean ls t && Nat.ble (am_sum t) 8) = true) (hkd : (Nat.beq kind 3 || Nat.beq kind 7 || Nat.beq kind 8 || Nat.beq kind 10 || Nat.beq kind 11 || Nat.ble 15 kind) = false) (hrc : (Nat.ble (am_args as).length M.2.1 && (am_stk kind || am_rck ci h as)) = true) (hC : ∀ v, S = some v → Rn M as h d0 (rT1 hi x v)) (hT : ∀ v, T v = some r → Ec mr (d0 + 1) (pc2, ls, vi v.1 :: t, hp v.2 x) q) (hX : ∀ E, Rn M as h d0 (Sum.inr E, hp hi (xc x)) → Tx E = some r → Ec mr (d0 + 1) (pc, ls, st, h) q) : Ec mr (d0 + 1) (pc, ls, st, h) q := ec_wg H pc2 as t hk hn has ht hcl hkd hrc (V := fun v => vi v.1) (Hh := fun v => hp v.2 x) (fun v hS => hC _ hS) (fun E hS => hC _ hS) hT hX
theorem ec_wd0 {S : Option (UInt64 ⊕ Nat)} {T : UInt64 → Option ρ} {Tx : Nat → Option ρ} {r : ρ} (H : bW S T Tx = some r) (pc2 : Nat) (as t : List AV) (hk : ∀ ih, am_step ih mr (am_jmp pc mr.2.2.1) ls st h (d0 + 1) = am_call ih mr pc (am_jmp pc2 mr.2.2.1) ls st h (d0 + 1) (kind, n0, ci, M)) (hn : (bif am_stk kind || Nat.beq kind 10 || Nat.beq kind 11 then n0 else n0 + 1) = n) (has : (st.take n).reverse = as) (ht : st.drop n = t) (hcl : (Nat.beq as.length n && am_clean ls t && Nat.ble (am_sum t) 8) = true) (hkd : (Nat.beq kind 3 || Nat.beq kind 7 || Nat.beq kind 8 || Nat.beq kind 10 || Nat.beq kind 11 || Nat.ble 15 kind) = false) (hrc : (Nat.ble (am_args as).length M.2.1 && (am_stk kind || am_rck ci h as)) = true) (hC : ∀ v, S = some v → Rn M as h d0 (rTD0 hi x v)) (hT : ∀ v, T v = some r → Ec mr (d0 + 1) (pc2, ls, Sum.inl (Value.double v) :: t, hp hi x) q) (hX : ∀ E, Rn M as h d0 (Sum.inr E, hp hi (xc x)) → Tx E = some r → Ec mr (d0 + 1) (pc, ls, st, h) q) : Ec mr (d0 + 1) (pc, ls, st, h) q := ec_wg H pc2 as t hk hn has ht hcl hkd hrc (V := fun v => Sum.inl (Value.double v)) (Hh := fun _ => hp hi x) (fun v hS => hC _ hS) (fun E hS => hC _ hS) hT hX
theorem ec_wf0 {S : Option (UInt32 ⊕ Nat)} {T : UInt32 → Option ρ} {Tx : Nat → Option ρ} {r : ρ} (H : bW S T Tx = some r) (pc2 : Nat) (as t : List AV) (hk : ∀ ih, am_step ih mr (am_jmp pc mr.2.2.1) ls st h (d0 + 1) = am_call ih mr pc (am_jmp pc2 mr.2.2.1) ls st h (d0 + 1) (kind, n0, ci, M)) (hn : (bif am_stk kind || Nat.beq kind 10 || Nat.beq kind 11 then n0 else n0 + 1) = n) (has : (st.take n).reverse = as) (ht : st.drop n = t) (hcl : (Nat.beq as.length n && am_clean ls t && Nat.ble (am_sum t) 8) = true) (hkd : (Nat.beq kind 3 || Nat.beq kind 7 || Nat.beq kind 8 || Nat.beq kind 10 || Nat.beq kind 11 || Nat.ble 15 kind) = false) (hrc : (Nat.ble (am_args as).length M.2.1 && (am_stk kind || am_rck ci h as)) = true) (hC : ∀ v, S = some v → Rn M as h d0 (rTF0 hi x v)) (hT : ∀ v, T v = some r → Ec mr (d0 + 1) (pc2, ls, Sum.inl (Value.float v) :: t, hp hi x) q) (hX : ∀ E, Rn M as h d0 (Sum.inr E, hp hi (xc x)) → Tx E = some r → Ec mr (d0 + 1) (pc, ls, st, h) q) : Ec mr (d0 + 1) (pc, ls, st, h) q := ec_wg H pc2 as t hk hn has ht hcl hkd hrc (V := fun v => Sum.inl (Value.float v)) (Hh := fun _ => hp hi x) (fun v hS => hC _ hS) (fun E hS => hC _ hS) hT hX
theorem ec_w2 {S : Option ((Int32 ⊕ Nat) × HI × AX)} {T : Int32 → HI → AX → Option ρ} {Tx : Nat → HI → AX → Option ρ} {r : ρ} (H : bW2 S T Tx = some r) (pc2 : Nat) (as t : List AV) (hk : ∀ ih, am_step ih mr (am_jmp pc mr.2.2.1) ls st h (d0 + 1) = am_call ih mr pc (am_jmp pc2 mr.2.2.1) ls st h (d0 + 1) (kind, n0, ci, M)) (hn : (bif am_stk kind || Nat.beq kind 10 || Nat.beq kind 11 then n0 else n0 + 1) = n) (has : (st.take n).reverse = as) (ht : st.drop n = t) (hcl : (Nat.beq as.length n && am_clean ls t && Nat.ble (am_sum t) 8) = true) (hkd : (Nat.beq kind 3 || Nat.beq kind 7 || Nat.beq kind 8 || Nat.beq kind 10 || Nat.beq kind 11 || Nat.ble 15 kind) = false) (hrc : (Nat.ble (am_args as).length M.2.1 && (am_stk kind || am_rck ci h as)) = true) (hC : ∀ v, S = some v → Rn M as h d0 (rT2 v)) (hT : ∀ v h9 x9, T v h9 x9 = some r → Ec mr (d0 + 1) (pc2, ls, vi v :: t, hp h9 x9) q) (hX : ∀ E h9 x9, Rn M as h d0 (Sum.inr E, hp h9 x9) → Tx E h9 x9 = some r → Ec mr (d0 + 1) (pc, ls, st, h) q) : Ec mr (d0 + 1) (pc, ls, st, h) q := by
  cases hS : S with
  | none => rw [hS] at H; cases H
  | some v =>
    obtain ⟨v, h9, x9⟩ := v
    rw [hS] at H
    cases v with
    | inl v => exact ec_call pc2 as t hk hn has ht hcl hkd hrc (hC _ hS) (hT v h9 x9 H)
    | inr E => exact hX E h9 x9 (hC _ hS) H
end THR
