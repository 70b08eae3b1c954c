/-! worlds out of rows; the text's capacity -/
def wo : Option (Fin 12) → AV
  | none => Sum.inl .null
  | some i => wr i
def sh_worldAt (n b : Nat) (j : Int32) : Option (Fin 12) := if 0 ≤ j ∧ j.toNatClampNeg < n then some (Fin.ofNat 12 (b + j.toNatClampNeg)) else none
def bO {ρ : Type} (S : Option (Fin 12)) (T0 : Option ρ) (T1 : Fin 12 → Option ρ) : Option ρ := match S with
  | none => T0
  | some i => T1 i
theorem st_aald {ih : AK} {mr : MR} {pc l tg : Nat} {r : List CI} {ls : AL} {st : List AV} {hi : HI} {x : AX} {d : Nat} {j : Int32} {a n b : Nat} (hty : ∀ h, am_ty h (za a) = (105, n)) (hrr : ∀ k, k < n → am_rR (hp hi x) (za a) k = wr (Fin.ofNat 12 (b + k))) (h : 0 ≤ j ∧ j.toNatClampNeg < n) : am_step ih mr ((pc, .aaload, l, tg) :: r) ls (vi j :: Sum.inr (za a) :: st) (hp hi x) d = ih mr r ls (wr (Fin.ofNat 12 (b + j.toNatClampNeg)) :: st) (hp hi x) d := by
  show (bif (Nat.beq (am_ty (hp hi x) (za a)).1 104 || Nat.beq (am_ty (hp hi x) (za a)).1 105 || Nat.beq (am_ty (hp hi x) (za a)).1 106) && true then (if 0 ≤ j ∧ j.toNatClampNeg < (am_ty (hp hi x) (za a)).2 then am_pr (fun v => ih mr r ls (v :: st) (hp hi x) d) (am_rR (hp hi x) (za a) j.toNatClampNeg) else none) else none) = _
  rw [hty]
  show (if 0 ≤ j ∧ j.toNatClampNeg < n then am_pr (fun v => ih mr r ls (v :: st) (hp hi x) d) (am_rR (hp hi x) (za a) j.toNatClampNeg) else none) = _
  rw [if_pos h, hrr _ h.2]
  rfl
theorem st_alen {ih : AK} {mr : MR} {pc l tg : Nat} {r : List CI} {ls : AL} {st : List AV} {hi : HI} {x : AX} {d a n : Nat} (hty : ∀ h, am_ty h (za a) = (105, n)) : am_step ih mr ((pc, .arraylength, l, tg) :: r) ls (Sum.inr (za a) :: st) (hp hi x) d = ih mr r ls (vi (nI n) :: st) (hp hi x) d := by
  show (bif Nat.ble 100 (am_ty (hp hi x) (za a)).1 && Nat.ble (am_ty (hp hi x) (za a)).1 106 && true then ih mr r ls (vi (nI (am_ty (hp hi x) (za a)).2) :: st) (hp hi x) d else none) = _
  rw [hty]
  rfl
theorem ec_worldAt {a n b : Nat} (hn : n < 2 ^ 31) (hty : ∀ h, am_ty h (za a) = (105, n)) (hi : HI) {x : AX} {d : Nat} (hrr : ∀ k, k < n → am_rR (hp hi x) (za a) k = wr (Fin.ofNat 12 (b + k))) (j : Int32) : Rn mX1_worldAt [Sum.inr (za a), vi j] (hp hi x) (d + 1) (Sum.inl (some (wo (sh_worldAt n b j))), hp hi x) := Rn.of (C := (0, [some (Sum.inr (za a)), some (vi j)], [], hp hi x)) (fun g => rfl) (by
  have hnull : Ec mX1_worldAt (d + 1) (16, [some (Sum.inr (za a)), some (vi j)], [], hp hi x) (Sum.inl (some (Sum.inl .null)), hp hi x) := ec_ret (R := fun _ : Unit => (Sum.inl (some (Sum.inl .null)), hp hi x)) (v := ()) (r := ()) rfl 2 (fun g => rfl)
  by_cases h0 : j < 0
  · have e : sh_worldAt n b j = none := if_neg (ix_neg hn (Or.inl h0))
    rw [e]
    exact ec_seg 2 (16, [some (Sum.inr (za a)), some (vi j)], [], hp hi x) (fun g => (if_pos h0 : (if j < 0 then Iv g mX1_worldAt (d + 1) (16, [some (Sum.inr (za a)), some (vi j)], [], hp hi x) else _) = _)) hnull
  · refine ec_seg 2 (4, [some (Sum.inr (za a)), some (vi j)], [], hp hi x) (fun g => (if_neg h0 : (if j < 0 then Iv g mX1_worldAt (d + 1) (16, [some (Sum.inr (za a)), some (vi j)], [], hp hi x) else _) = _)) ?_
    refine ec_seg 2 (6, [some (Sum.inr (za a)), some (vi j)], [Sum.inr (za a), vi j], hp hi x) (fun g => rfl) ?_
    refine ec_seg 1 (7, [some (Sum.inr (za a)), some (vi j)], [vi (nI n), vi j], hp hi x) (fun g => st_alen (pc := 6) (l := 1) (tg := 0) hty) ?_
    by_cases h1 : nI n ≤ j
    · have e : sh_worldAt n b j = none := if_neg (ix_neg hn (Or.inr h1))
      rw [e]
      exact ec_seg 1 (16, [some (Sum.inr (za a)), some (vi j)], [], hp hi x) (fun g => (if_pos h1 : (if nI n ≤ j then Iv g mX1_worldAt (d + 1) (16, [some (Sum.inr (za a)), some (vi j)], [], hp hi x) else _) = _)) hnull
    · refine ec_seg 1 (10, [some (Sum.inr (za a)), some (vi j)], [], hp hi x) (fun g => (if_neg h1 : (if nI n ≤ j then Iv g mX1_worldAt (d + 1) (16, [some (Sum.inr (za a)), some (vi j)], [], hp hi x) else _) = _)) ?_
      refine ec_seg 2 (12, [some (Sum.inr (za a)), some (vi j)], [vi j, Sum.inr (za a)], hp hi x) (fun g => rfl) ?_
      have hc := ix_of hn h0 h1
      have e : sh_worldAt n b j = some (Fin.ofNat 12 (b + j.toNatClampNeg)) := if_pos hc
      rw [e]
      refine ec_seg 1 (13, [some (Sum.inr (za a)), some (vi j)], [wr (Fin.ofNat 12 (b + j.toNatClampNeg))], hp hi x) (fun g => ?_) ?_
      · exact st_aald (ih := g) (mr := mX1_worldAt) (pc := 12) (l := 1) (tg := 0) (r := am_jmp 13 mX1_worldAt.2.2.1) (ls := [some (Sum.inr (za a)), some (vi j)]) (st := []) (d := d + 1) hty hrr hc
      · exact ec_ret (R := fun _ : Unit => (Sum.inl (some (wr (Fin.ofNat 12 (b + j.toNatClampNeg)))), hp hi x)) (v := ()) (r := ()) rfl 2 (fun g => rfl))
theorem ec_worldAt42 (j : Int32) (hi : HI) {x : AX} {d : Nat} : Rn mX1_worldAt [Sum.inr (za 42), vi j] (hp hi x) (d + 1) (Sum.inl (some (wo (sh_worldAt 8 2 j))), hp hi x) := ec_worldAt (by decide) (fun _ => rfl) hi (fun k hk => by
  show (if k < 8 then wr (Fin.ofNat 12 (2 + k)) else Sum.inl .null) = _
  rw [if_pos hk]) j
theorem ec_worldAt43 (j : Int32) (hi : HI) {x : AX} {d : Nat} : Rn mX1_worldAt [Sum.inr (za 43), vi j] (hp hi x) (d + 1) (Sum.inl (some (wo (sh_worldAt 2 10 j))), hp hi x) := ec_worldAt (by decide) (fun _ => rfl) hi (fun k hk => by
  show (if k < 2 then wr (Fin.ofNat 12 (10 + k)) else Sum.inl .null) = _
  rw [if_pos hk]) j
theorem ec_bO {mr : MR} {d0 pc kind n0 ci n : Nat} {ls : AL} {st : List AV} {h : AH} {M : MR} {ρ : Type} {q : AO × AH} {S : Option (Fin 12)} {T0 : Option ρ} {T1 : Fin 12 → Option ρ} {r : ρ} (H : bO S T0 T1 = some r) (pc2 : Nat) (as t : List AV) (hk : ∀ ih, am_step ih mr (am_jmp pc mr.2.2.1) ls st h (d0 + 1) = am_call ih mr pc (am_jmp pc2 mr.2.2.1) ls st h (d0 + 1) (kind, n0, ci, M)) (hn : (bif am_stk kind || Nat.beq kind 10 || Nat.beq kind 11 then n0 else n0 + 1) = n) (has : (st.take n).reverse = as) (ht : st.drop n = t) (hcl : (Nat.beq as.length n && am_clean ls t && Nat.ble (am_sum t) 8) = true) (hkd : (Nat.beq kind 3 || Nat.beq kind 7 || Nat.beq kind 8 || Nat.beq kind 10 || Nat.beq kind 11 || Nat.ble 15 kind) = false) (hrc : (Nat.ble (am_args as).length M.2.1 && (am_stk kind || am_rck ci h as)) = true) (hC : Rn M as h d0 (Sum.inl (some (wo S)), h)) (h0 : T0 = some r → Ec mr (d0 + 1) (pc2, ls, Sum.inl .null :: t, h) q) (h1 : ∀ i, T1 i = some r → Ec mr (d0 + 1) (pc2, ls, wr i :: t, h) q) : Ec mr (d0 + 1) (pc, ls, st, h) q := by
  cases S with
  | none => exact ec_call pc2 as t hk hn has ht hcl hkd hrc hC (h0 H)
  | some i => exact ec_call pc2 as t hk hn has ht hcl hkd hrc hC (h1 i H)
theorem ec_k11 {mr : MR} {d0 : Nat} {C : CF} {ρ : Type} {Q : AO × AH} {i len : Int32} {T : Option ρ} {r : ρ} (H : (if 0 ≤ i ∧ i < len then T else none) = some r) (k : Nat) (C1 : CF) (hk : ∀ ih, Sv k ih mr (d0 + 3) C = if 0 ≤ i ∧ i < len ∧ 3 ≤ d0 + 3 then Iv ih mr (d0 + 3) C1 else none) (h1 : T = some r → Ec mr (d0 + 3) C1 Q) : Ec mr (d0 + 3) C Q := by
  by_cases hc : 0 ≤ i ∧ i < len
  case neg =>
    rw [if_neg hc] at H
    cases H
  rw [if_pos hc] at H
  refine ec_seg k C1 (fun ih => ?_) (h1 H)
  rw [hk, if_pos ⟨hc.1, hc.2, by omega⟩]
abbrev rR2 (r : HI × AX) : AO × AH := (Sum.inl (some (zr 2)), hp r.1 r.2)
theorem ec_none {mr : MR} {d : Nat} {C : CF} {ρ : Type} {r : ρ} {q : AO × AH} (H : (none : Option ρ) = some r) : Ec mr d C q := by cases H
/-- two signs are held against each other: the other way round -/
theorem ac_ne {x y : Fin 37} {A B : AR} : (if x = y then A else B) = (if x ≠ y then B else A) := by
  by_cases h : x = y
  · rw [if_pos h, if_neg (fun z => z h)]
  · rw [if_neg h, if_pos h]
