/-! by hand: the empty list's array, clones, copies of references, constant texts -/
def cE {ρ : Type} (v : AV) (T : Option ρ) : Option ρ := match v with
  | Sum.inr (Sum.inr (Sum.inr (Sum.inl n))) => if n = 3005 then T else none
  | _ => none
/-- a clone of bytes -/
def clB (a : Nat) (hi : HI) (x : AX) : Option (HI × AX) := if lnx x a ≤ 65536 ∧ am_by (hi (da 101 a)) (lnx x a) = true then some ((fun b j => if b = da 101 (ndx x) ∧ j < lnx x a then hi (da 101 a) j else hi b j), xm x 101 (lnx x a)) else none
def is1 (v : AV) : Bool := match v with
  | Sum.inr (Sum.inr (Sum.inr (Sum.inr q))) => Nat.beq q.1 100
  | _ => false
/-- references are copied -/
def acR (a : Nat) (sp : Int32) (b : Nat) (dp n : Int32) (x : AX) : Option AX := if 0 ≤ sp ∧ 0 ≤ dp ∧ 0 ≤ n ∧ sp.toNatClampNeg + n.toNatClampNeg ≤ lnx x a ∧ dp.toNatClampNeg + n.toNatClampNeg ≤ lnx x b ∧ (List.range n.toNatClampNeg).all (fun j => is1 (rdx x (da 104 a) (sp.toNatClampNeg + j))) = true then some (x.1, x.2.1, (am_cps (rdx x (da 104 a)) (rdx x) (da 104 b) sp.toNatClampNeg dp.toNatClampNeg n.toNatClampNeg, x.2.2.1.2), x.2.2.2) else none
theorem rf_cps (sg : Nat → AV) (rd : AA → Nat → AV) (a b sp dp n : Nat) : am_cps (fun j => am_RF sg rd (da 104 a) j) (am_RF sg rd) (da 104 b) sp dp n = am_RF sg (am_cps (rd (da 104 a)) rd (da 104 b) sp dp n) := by
  funext c k
  unfold am_cps
  by_cases hc : c = da 104 b
  · subst hc
    by_cases hk : dp ≤ k ∧ k < dp + n
    · rw [if_pos ⟨rfl, hk⟩]
      show rd (da 104 a) (sp + (k - dp)) = (if da 104 b = da 104 b ∧ dp ≤ k ∧ k < dp + n then rd (da 104 a) (sp + (k - dp)) else rd (da 104 b) k)
      rw [if_pos ⟨rfl, hk⟩]
    · rw [if_neg (fun q => hk q.2)]
      show rd (da 104 b) k = (if da 104 b = da 104 b ∧ dp ≤ k ∧ k < dp + n then rd (da 104 a) (sp + (k - dp)) else rd (da 104 b) k)
      rw [if_neg (fun q => hk q.2)]
  · rw [if_neg (fun q => hc q.1)]
    rcases c with ⟨i2, j2⟩ | y | m | p
    · rfl
    · rfl
    · rfl
    · show rd _ k = (if (Sum.inr (Sum.inr (Sum.inr p)) : AA) = da 104 b ∧ dp ≤ k ∧ k < dp + n then rd (da 104 a) (sp + (k - dp)) else rd _ k)
      rw [if_neg (fun q => hc q.1)]
section LK
variable {mr : MR} {d : Nat} {C : CF} {ρ : Type} {r : ρ} {q : AO × AH}
theorem ec_cE {v : AV} {T : Option ρ} (H : cE v T = some r) (k : Nat) (Cf : AV → CF) (hk : ∀ ih : AK, Sv k ih mr d C = am_pr (fun u => Iv ih mr d (Cf u)) v) (h1 : T = some r → Ec mr d (Cf (Sum.inr (za 3005))) q) : Ec mr d C q := by
  rcases v with v | a | y | n | p
  · cases H
  · cases H
  · cases H
  · have H : (if n = 3005 then T else none) = some r := H
    by_cases e : n = 3005
    · subst e
      rw [if_pos rfl] at H
      exact ec_seg k (Cf (Sum.inr (za 3005))) hk (h1 H)
    · rw [if_neg e] at H; cases H
  · cases H
theorem ec_clB {a : Nat} {hi : HI} {x : AX} {T : HI → AX → Option ρ} (H : cB2 (clB a hi x) T = some r) (k : Nat) (Cf : AH → CF) (hk : ∀ ih : AK, Sv k ih mr d C = if 101 = 101 ∧ true = true ∧ true = true ∧ (none : Option Nat) = none ∧ 3 ≤ d ∧ lnx x a ≤ 65536 ∧ am_by (am_rI (hp hi x) (da 101 a)) (lnx x a) = true then Iv ih mr d (Cf ((fun b j => if b = da 101 (ndx x) ∧ j < lnx x a then hi (da 101 a) j else hi b j), (am_mkd (hp hi x) 101 (lnx x a)).2)) else none) (hd : 3 ≤ d) (h1 : ∀ h x, T h x = some r → Ec mr d (Cf (hp h x)) q) : Ec mr d C q := by
  unfold clB at H
  by_cases h : lnx x a ≤ 65536 ∧ am_by (hi (da 101 a)) (lnx x a) = true
  · rw [if_pos h] at H
    refine ec_seg k _ (fun ih => ?_) (h1 _ _ H)
    rw [hk, if_pos ⟨rfl, rfl, rfl, rfl, hd, h.1, h.2⟩]
    rfl
  · rw [if_neg h] at H; cases H
theorem ec_acR {a b : Nat} {sp dp n : Int32} {hi : HI} {x : AX} {T : AX → Option ρ} (H : cBd (acR a sp b dp n x) T = some r) (k : Nat) (Cf : AH → CF) (hk : ∀ ih : AK, Sv k ih mr d C = if true = true ∧ true = true ∧ true = true ∧ (none : Option Nat) = none ∧ 3 ≤ d ∧ 0 ≤ sp ∧ 0 ≤ dp ∧ 0 ≤ n ∧ sp.toNatClampNeg + n.toNatClampNeg ≤ lnx x a ∧ dp.toNatClampNeg + n.toNatClampNeg ≤ lnx x b then (match (if true = true ∧ (List.range n.toNatClampNeg).all (fun j => match am_RF x.1 x.2.2.1.1 (da 104 a) (sp.toNatClampNeg + j) with | Sum.inr c => Nat.beq (am_ty (hp hi x) c).1 100 && am_dyn c | Sum.inl Value.null => true | _ => false) = true then some (((hp hi x).1, am_cps (fun j => am_RF x.1 x.2.2.1.1 (da 104 a) j) (am_RF x.1 x.2.2.1.1) (da 104 b) sp.toNatClampNeg dp.toNatClampNeg n.toNatClampNeg, (hp hi x).2.2) : AH) else none) with | some h2 => Iv ih mr d (Cf h2) | none => none) else none) (hd : 3 ≤ d) (h1 : ∀ v, T v = some r → Ec mr d (Cf (hp hi v)) q) : Ec mr d C q := by
  unfold acR at H
  by_cases h : 0 ≤ sp ∧ 0 ≤ dp ∧ 0 ≤ n ∧ sp.toNatClampNeg + n.toNatClampNeg ≤ lnx x a ∧ dp.toNatClampNeg + n.toNatClampNeg ≤ lnx x b ∧ (List.range n.toNatClampNeg).all (fun j => is1 (rdx x (da 104 a) (sp.toNatClampNeg + j))) = true
  · rw [if_pos h] at H
    obtain ⟨q1, q2, q3, q4, q5, q6⟩ := h
    refine ec_seg k _ (fun ih => ?_) (h1 _ H)
    have q7 : (List.range n.toNatClampNeg).all (fun j => match am_RF x.1 x.2.2.1.1 (da 104 a) (sp.toNatClampNeg + j) with | Sum.inr c => Nat.beq (am_ty (hp hi x) c).1 100 && am_dyn c | Sum.inl Value.null => true | _ => false) = true := by
      rw [List.all_eq_true] at q6 ⊢
      intro j hj
      have q8 := q6 j hj
      show (match rdx x (da 104 a) (sp.toNatClampNeg + j) with | Sum.inr c => Nat.beq (am_ty (hp hi x) c).1 100 && am_dyn c | Sum.inl Value.null => true | _ => false) = true
      revert q8
      rcases rdx x (da 104 a) (sp.toNatClampNeg + j) with v | c | y | m | p
      · intro q8; cases q8
      · intro q8; cases q8
      · intro q8; cases q8
      · intro q8; cases q8
      · intro q8
        have q8 : Nat.beq p.1 100 = true := q8
        show (Nat.beq p.1 100 && true) = true
        rw [q8]; rfl
    rw [hk, if_pos ⟨rfl, rfl, rfl, rfl, hd, q1, q2, q3, q4, q5⟩, if_pos ⟨rfl, q7⟩, rf_cps]
  · rw [if_neg h] at H; cases H
theorem ec_bastd {pc a : Nat} {ls : AL} {st : List AV} {hi : HI} {x : AX} {j v : Int32} {T : HI → Option ρ} (H : (if 0 ≤ j ∧ j.toNatClampNeg < lnx x a then cH (am_u hi (da 101 a) j.toNatClampNeg (vp_nar .byte v)) T else none) = some r) (pc2 : Nat) (hj : am_jmp pc mr.2.2.1 = (pc, .bastore, 1, 0) :: am_jmp pc2 mr.2.2.1) (h1 : ∀ h, T h = some r → Ec mr d (pc2, ls, st, hp h x) q) : Ec mr d (pc, ls, vi v :: vi j :: dr 101 a :: st, hp hi x) q := ec_gcH H 1 (fun h => (pc2, ls, st, hp h x)) (fun ih => by
  show am_step ih mr (am_jmp pc mr.2.2.1) ls (vi v :: vi j :: dr 101 a :: st) (hp hi x) d = _
  rw [hj]
  rfl) h1
end LK
section STR
variable {x : AX} {d : Nat}
theorem ec_scod (w : Nat) (hw : w < 60) (hi : HI) : Rn mJ0_coder_7d493 [Sum.inr (za (1000 + w))] (hp hi x) (d + 1) (rI0 hi x 0) := Rn.of (C := (0, [some (Sum.inr (za (1000 + w)))], [], hp hi x)) (fun g => rfl) (by
  refine ec_seg 3 (7, [some (Sum.inr (za (1000 + w)))], [Sum.inr (za (1000 + w))], hp hi x) (fun g => rfl) ?_
  refine ec_seg 1 (10, [some (Sum.inr (za (1000 + w)))], [vi 0], hp hi x) (fun g => st_gcod (ih := g) (mr := mJ0_coder_7d493) (pc := 7) (l := 3) (tg := 0) (k := 15) (r := am_jmp 10 mJ0_coder_7d493.2.2.1) (ls := [some (Sum.inr (za (1000 + w)))]) (st := []) (hi := hi) (x := x) (d := d + 1) hw rfl) ?_
  exact ec_ret (R := rI0 hi x) (v := 0) rfl 2 (fun g => rfl))
/-- a constant text's bytes go into an array -/
def sl_gB (w b : Nat) (p c : Int32) (hi : HI) (x : AX) : Option (HI × AX) := if c = 0 ∧ 0 ≤ p ∧ p.toNatClampNeg + am_strlen w ≤ lnx x b then some (am_cps (fun j => nI ((am_str.getD w []).getD j 0)) hi (da 101 b) 0 p.toNatClampNeg (am_strlen w), x) else none
theorem ch_by : ∀ w, w < 60 → am_by (fun j => nI ((am_str.getD w []).getD j 0)) (am_strlen w) = true := by decide +kernel
theorem ec_gB (w : Nat) (hw : w < 60) (b : Nat) (p c : Int32) (hi : HI) {r : HI × AX} (H : sl_gB w b p c hi x = some r) : Rn mJ0_getBytes_840e7 [Sum.inr (za (1000 + w)), dr 101 b, vi p, vi c] (hp hi x) (d + 3) (qV r) := Rn.of (C := (0, [some (Sum.inr (za (1000 + w))), some (dr 101 b), some (vi p), some (vi c)], [], hp hi x)) (fun g => rfl) (by
  unfold sl_gB at H
  by_cases h : c = 0 ∧ 0 ≤ p ∧ p.toNatClampNeg + am_strlen w ≤ lnx x b
  case neg => rw [if_neg h] at H; cases H
  rw [if_pos h] at H
  obtain ⟨hc, h2, h3⟩ := h
  subst hc
  cases H
  have h31 : ((0 : Int32) &&& 31) = 0 := by decide
  have esh : p <<< ((0 : Int32) &&& 31) = p := by rw [h31]; exact Int32.shiftLeft_zero
  refine ec_seg 1 (1, [some (Sum.inr (za (1000 + w))), some (dr 101 b), some (vi p), some (vi 0)], [Sum.inr (za (1000 + w))], hp hi x) (fun g => rfl) ?_
  refine ec_call (kind := 0) (n0 := 0) (ci := 0) (n := 1) (v := vi 0) (h1 := hp hi x) 4 [Sum.inr (za (1000 + w))] [] (fun ih => rfl) rfl rfl rfl rfl rfl (rck_s hw rfl) (ec_scod w hw hi) ?_
  refine ec_seg 3 (9, [some (Sum.inr (za (1000 + w))), some (dr 101 b), some (vi p), some (vi 0)], [Sum.inr (za (1000 + w))], hp hi x) (fun g => rfl) ?_
  refine ec_seg 1 (12, [some (Sum.inr (za (1000 + w))), some (dr 101 b), some (vi p), some (vi 0)], [Sum.inr (za (2000 + w))], hp hi x) (fun g => st_gval (ih := g) (mr := mJ0_getBytes_840e7) (pc := 9) (l := 3) (tg := 0) (k := 9) (r := am_jmp 12 mJ0_getBytes_840e7.2.2.1) (ls := [some (Sum.inr (za (1000 + w))), some (dr 101 b), some (vi p), some (vi 0)]) (st := []) (hi := hi) (x := x) (d := d + 3) hw rfl) ?_
  refine ec_seg 6 (18, [some (Sum.inr (za (1000 + w))), some (dr 101 b), some (vi p), some (vi 0)], [Sum.inr (za (1000 + w)), vi (p <<< ((0 : Int32) &&& 31)), dr 101 b, vi 0, Sum.inr (za (2000 + w))], hp hi x) (fun g => rfl) ?_
  rw [esh]
  refine ec_seg 1 (21, [some (Sum.inr (za (1000 + w))), some (dr 101 b), some (vi p), some (vi 0)], [Sum.inr (za (2000 + w)), vi p, dr 101 b, vi 0, Sum.inr (za (2000 + w))], hp hi x) (fun g => st_gval (ih := g) (mr := mJ0_getBytes_840e7) (pc := 18) (l := 3) (tg := 0) (k := 9) (r := am_jmp 21 mJ0_getBytes_840e7.2.2.1) (ls := [some (Sum.inr (za (1000 + w))), some (dr 101 b), some (vi p), some (vi 0)]) (st := [vi p, dr 101 b, vi 0, Sum.inr (za (2000 + w))]) (hi := hi) (x := x) (d := d + 3) hw rfl) ?_
  refine ec_seg 1 (22, [some (Sum.inr (za (1000 + w))), some (dr 101 b), some (vi p), some (vi 0)], [vi (nI (am_strlen w)), vi p, dr 101 b, vi 0, Sum.inr (za (2000 + w))], hp hi x) (fun g => st_blen (pc := 21) (l := 1) (tg := 0) hw) ?_
  have hl := ch_len w hw
  refine ec_seg 1 (25, [some (Sum.inr (za (1000 + w))), some (dr 101 b), some (vi p), some (vi 0)], [], hp (am_cps (fun j => nI ((am_str.getD w []).getD j 0)) hi (da 101 b) 0 p.toNatClampNeg (am_strlen w)) x) (fun ih => ?_) ?_
  · show (if true = true ∧ true = true ∧ true = true ∧ (none : Option Nat) = none ∧ 3 ≤ d + 3 ∧ (0 : Int32) ≤ 0 ∧ 0 ≤ p ∧ 0 ≤ nI (am_strlen w) ∧ (0 : Int32).toNatClampNeg + (nI (am_strlen w)).toNatClampNeg ≤ (am_ty (hp hi x) (za (2000 + w))).2 ∧ p.toNatClampNeg + (nI (am_strlen w)).toNatClampNeg ≤ lnx x b then (match am_acp (hp hi x) (za (2000 + w)) (da 101 b) (0 : Int32).toNatClampNeg p.toNatClampNeg (nI (am_strlen w)).toNatClampNeg with | some h2 => ih mJ0_getBytes_840e7 (am_jmp 25 mJ0_getBytes_840e7.2.2.1) [some (Sum.inr (za (1000 + w))), some (dr 101 b), some (vi p), some (vi 0)] [] h2 (d + 3) | none => none) else none) = _
    rw [nI_clamp hl, ty_b hw, if_pos ⟨rfl, rfl, rfl, rfl, by omega, by decide, h2, nI_pos' hl, by show 0 + am_strlen w ≤ am_strlen w; omega, h3⟩]
    unfold am_acp
    rw [ty_b hw]
    show (match (if am_by (fun j => am_rI (hp hi x) (za (2000 + w)) (0 + j)) (am_strlen w) = true then some (am_cps (fun j => am_rI (hp hi x) (za (2000 + w)) j) hi (da 101 b) 0 p.toNatClampNeg (am_strlen w), (hp hi x).2) else none) with | some h2 => _ | none => none) = _
    have e1 : (fun j => am_rI (hp hi x) (za (2000 + w)) (0 + j)) = fun j => nI ((am_str.getD w []).getD j 0) := funext fun j => by rw [Nat.zero_add, am_rI_s (show w < am_nstr from hw)]
    have e2 : (fun j => am_rI (hp hi x) (za (2000 + w)) j) = fun j => nI ((am_str.getD w []).getD j 0) := funext fun j => by rw [am_rI_s (show w < am_nstr from hw)]
    rw [e1, e2, if_pos (ch_by w hw)]
    rfl
  · exact ec_ret (R := qV) rfl 2 (fun g => rfl))
end STR
