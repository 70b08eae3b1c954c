/-! the law's own methods as functions: tools. Each gives (value, numbers, rest). -/
abbrev rdx (x : AX) : AA → Nat → AV := x.2.2.1.1
abbrev lgx (x : AX) : Nat → Nat → Int64 := x.2.2.1.2.1
abbrev ndx (x : AX) : Nat := x.2.2.1.2.2.1
abbrev lnx (x : AX) : Nat → Nat := x.2.2.1.2.2.2.2
abbrev slx (x : AX) : Nat := x.2.2.2.2.2.2
/-- a reference is written; a long; a cell is made -/
def xr (x : AX) (a : AA) (j : Nat) (v : AV) : AX := (x.1, x.2.1, (am_u x.2.2.1.1 a j v, x.2.2.1.2), x.2.2.2)
def xls (x : AX) (i j : Nat) (v : Int64) : AX := (x.1, x.2.1, (x.2.2.1.1, ((fun b k => if b = i ∧ k = j then v else x.2.2.1.2.1 b k), x.2.2.1.2.2)), x.2.2.2)
def xm (x : AX) (tg z : Nat) : AX := (x.1, x.2.1, (x.2.2.1.1, (x.2.2.1.2.1, x.2.2.1.2.2.1 + 1, (fun i => if i = x.2.2.1.2.2.1 then tg else x.2.2.1.2.2.2.1 i), (fun i => if i = x.2.2.1.2.2.1 then z else x.2.2.1.2.2.2.2 i))), x.2.2.2.1, x.2.2.2.2.1 + 1, x.2.2.2.2.2.1 + z, x.2.2.2.2.2.2)
def cB3 {α ρ : Type} (S : Option (α × HI × AX)) (T : α → HI → AX → Option ρ) : Option ρ := match S with
  | some (a, h, x) => T a h x
  | none => none
def cB2 {ρ : Type} (S : Option (HI × AX)) (T : HI → AX → Option ρ) : Option ρ := match S with
  | some (h, x) => T h x
  | none => none
def cD {ρ : Type} (K : Nat) (v : AV) (T : Nat → Option ρ) : Option ρ := match v with
  | Sum.inr (Sum.inr (Sum.inr (Sum.inr (k, i)))) => if k = K then T i else none
  | _ => none
def cH {ρ : Type} (v : HI) (T : HI → Option ρ) : Option ρ := T v
def cAx {ρ : Type} (v : AX) (T : AX → Option ρ) : Option ρ := T v
def cMk {ρ : Type} (x : AX) (tg : Nat) (n : Int32) (T : AX → Option ρ) : Option ρ := if 0 ≤ n ∧ n.toNatClampNeg ≤ 65536 then T (xm x tg n.toNatClampNeg) else none
/-- a call's answers, in one form -/
def uI0 (S : Option Int32) (hi : HI) (x : AX) : Option (Int32 × HI × AX) := match S with
  | some v => some (v, hi, x)
  | none => none
def uT0 (S : Option (Int32 ⊕ Nat)) (hi : HI) (x : AX) : Option (Int32 × HI × AX) := match S with
  | some (Sum.inl v) => some (v, hi, x)
  | _ => none
def uI1 (S : Option (Int32 × HI)) (x : AX) : Option (Int32 × HI × AX) := match S with
  | some (v, h) => some (v, h, x)
  | none => none
def uT1 (S : Option ((Int32 × HI) ⊕ Nat)) (x : AX) : Option (Int32 × HI × AX) := match S with
  | some (Sum.inl (v, h)) => some (v, h, x)
  | _ => none
def uT2 (S : Option ((Int32 ⊕ Nat) × HI × AX)) : Option (Int32 × HI × AX) := match S with
  | some (Sum.inl v, h, x) => some (v, h, x)
  | _ => none
def uV0 (S : Option Unit) (hi : HI) (x : AX) : Option (HI × AX) := match S with
  | some _ => some (hi, x)
  | none => none
def uV1 (S : Option HI) (x : AX) : Option (HI × AX) := match S with
  | some h => some (h, x)
  | none => none
/-- a slot of no use -/
abbrev dsI : Option Int32 → Option AV := fun o => o.map (fun z => vi z)
abbrev dsA : Option AA → Option AV := fun o => o.map Sum.inr
abbrev dsL : Option Int64 → Option AV := fun o => o.map (fun z => Sum.inl (.long z))
abbrev dsX : Option (Int32 ⊕ AA) → Option AV := fun o => o.map (fun z => match z with | Sum.inl z => vi z | Sum.inr a => Sum.inr a)
abbrev qI (r : Int32 × HI × AX) : AO × AH := (Sum.inl (some (vi r.1)), hp r.2.1 r.2.2)
abbrev qL (r : Int64 × HI × AX) : AO × AH := (Sum.inl (some (Sum.inl (.long r.1))), hp r.2.1 r.2.2)
abbrev qR (K : Nat) (r : Nat × HI × AX) : AO × AH := (Sum.inl (some (dr K r.1)), hp r.2.1 r.2.2)
abbrev qV (r : HI × AX) : AO × AH := (Sum.inl none, hp r.1 r.2)
section LT
variable {M : MR} {as : List AV} {hi : HI} {x : AX} {d : Nat}
theorem cu_I0 {S : Option Int32} (h : ∀ v, S = some v → Rn M as (hp hi x) d (rI0 hi x v)) (v : Int32 × HI × AX) (e : uI0 S hi x = some v) : Rn M as (hp hi x) d (qI v) := by
  cases hS : S with
  | none => rw [hS] at e; cases e
  | some w => rw [hS] at e; cases e; exact h w hS
theorem cu_T0 {S : Option (Int32 ⊕ Nat)} (h : ∀ v, S = some v → Rn M as (hp hi x) d (rT0 hi x v)) (v : Int32 × HI × AX) (e : uT0 S hi x = some v) : Rn M as (hp hi x) d (qI v) := by
  cases hS : S with
  | none => rw [hS] at e; cases e
  | some w =>
    rw [hS] at e
    cases w with
    | inl w => cases e; exact h _ hS
    | inr w => cases e
theorem cu_I1 {S : Option (Int32 × HI)} (h : ∀ v, S = some v → Rn M as (hp hi x) d (rI1 x v)) (v : Int32 × HI × AX) (e : uI1 S x = some v) : Rn M as (hp hi x) d (qI v) := by
  cases hS : S with
  | none => rw [hS] at e; cases e
  | some w => rw [hS] at e; cases e; exact h w hS
theorem cu_T1 {S : Option ((Int32 × HI) ⊕ Nat)} (h : ∀ v, S = some v → Rn M as (hp hi x) d (rT1 hi x v)) (v : Int32 × HI × AX) (e : uT1 S x = some v) : Rn M as (hp hi x) d (qI v) := by
  cases hS : S with
  | none => rw [hS] at e; cases e
  | some w =>
    rw [hS] at e
    cases w with
    | inl w => cases e; exact h _ hS
    | inr w => cases e
theorem cu_T2 {S : Option ((Int32 ⊕ Nat) × HI × AX)} (h : ∀ v, S = some v → Rn M as (hp hi x) d (rT2 v)) (v : Int32 × HI × AX) (e : uT2 S = some v) : Rn M as (hp hi x) d (qI v) := by
  cases hS : S with
  | none => rw [hS] at e; cases e
  | some w =>
    rw [hS] at e
    obtain ⟨w, h2, x2⟩ := w
    cases w with
    | inl w => cases e; exact h _ hS
    | inr w => cases e
theorem cu_V0 {S : Option Unit} (h : ∀ v, S = some v → Rn M as (hp hi x) d (rV0 hi x v)) (v : HI × AX) (e : uV0 S hi x = some v) : Rn M as (hp hi x) d (qV v) := by
  cases hS : S with
  | none => rw [hS] at e; cases e
  | some w => rw [hS] at e; cases e; exact h w hS
theorem cu_V1 {S : Option HI} (h : ∀ v, S = some v → Rn M as (hp hi x) d (rV1 x v)) (v : HI × AX) (e : uV1 S x = some v) : Rn M as (hp hi x) d (qV v) := by
  cases hS : S with
  | none => rw [hS] at e; cases e
  | some w => rw [hS] at e; cases e; exact h w hS
end LT
section LE
variable {mr : MR} {d : Nat} {C : CF} {ρ : Type} {r : ρ} {q : AO × AH}
theorem ec_cH {v : HI} {T : HI → Option ρ} (H : cH v T = some r) (k : Nat) (Cf : HI → CF) (hk : ∀ ih : AK, Sv k ih mr d C = Iv ih mr d (Cf v)) (h1 : ∀ v, T v = some r → Ec mr d (Cf v) q) : Ec mr d C q := ec_seg k (Cf v) hk (h1 v H)
theorem ec_cX {v : AX} {T : AX → Option ρ} (H : cAx v T = some r) (k : Nat) (Cf : AX → CF) (hk : ∀ ih : AK, Sv k ih mr d C = Iv ih mr d (Cf v)) (h1 : ∀ v, T v = some r → Ec mr d (Cf v) q) : Ec mr d C q := ec_seg k (Cf v) hk (h1 v H)
theorem ec_gcH {c : Prop} [Decidable c] {v : HI} {T : HI → Option ρ} (H : (if c then cH v T else none) = some r) (k : Nat) (Cf : HI → CF) (hk : ∀ ih : AK, Sv k ih mr d C = if c then Iv ih mr d (Cf v) else none) (h1 : ∀ v, T v = some r → Ec mr d (Cf v) q) : Ec mr d C q := ec_grd H k (Cf v) hk (h1 v)
theorem ec_gcX {c : Prop} [Decidable c] {v : AX} {T : AX → Option ρ} (H : (if c then cAx v T else none) = some r) (k : Nat) (Cf : AX → CF) (hk : ∀ ih : AK, Sv k ih mr d C = if c then Iv ih mr d (Cf v) else none) (h1 : ∀ v, T v = some r → Ec mr d (Cf v) q) : Ec mr d C q := ec_grd H k (Cf v) hk (h1 v)
theorem ec_lga {c c2 : Prop} [Decidable c] [Decidable c2] {T : Option ρ} (hc : c → c2) (H : (if c then T else none) = some r) (k : Nat) (C1 : CF) (hk : ∀ ih : AK, Sv k ih mr d C = if c2 then Iv ih mr d C1 else none) (h1 : T = some r → Ec mr d C1 q) : Ec mr d C q := by
  by_cases h : c
  · rw [if_pos h] at H
    refine ec_seg k C1 (fun g => ?_) (h1 H)
    rw [hk, if_pos (hc h)]
  · rw [if_neg h] at H
    cases H
theorem ec_lgH {c c2 : Prop} [Decidable c] [Decidable c2] {v : HI} {T : HI → Option ρ} (hc : c → c2) (H : (if c then cH v T else none) = some r) (k : Nat) (Cf : HI → CF) (hk : ∀ ih : AK, Sv k ih mr d C = if c2 then Iv ih mr d (Cf v) else none) (h1 : ∀ v, T v = some r → Ec mr d (Cf v) q) : Ec mr d C q := ec_lga hc H k (Cf v) hk (h1 v)
theorem ec_lgX {c c2 : Prop} [Decidable c] [Decidable c2] {v : AX} {T : AX → Option ρ} (hc : c → c2) (H : (if c then cAx v T else none) = some r) (k : Nat) (Cf : AX → CF) (hk : ∀ ih : AK, Sv k ih mr d C = if c2 then Iv ih mr d (Cf v) else none) (h1 : ∀ v, T v = some r → Ec mr d (Cf v) q) : Ec mr d C q := ec_lga hc H k (Cf v) hk (h1 v)
/-- a reference is read -/
theorem ec_cD {K : Nat} {v : AV} {T : Nat → Option ρ} (H : cD K v T = some r) (k : Nat) (Cf : AV → CF) (hk : ∀ ih : AK, Sv k ih mr d C = am_pr (fun u => Iv ih mr d (Cf u)) v) (h1 : ∀ i, T i = some r → Ec mr d (Cf (dr K i)) q) : Ec mr d C q := by
  rcases v with v | a | y | n | ⟨k2, i⟩
  · cases H
  · cases H
  · cases H
  · cases H
  · have H : (if k2 = K then T i else none) = some r := H
    by_cases e : k2 = K
    · subst e
      rw [if_pos rfl] at H
      exact ec_seg k (Cf (dr k2 i)) hk (h1 i H)
    · rw [if_neg e] at H; cases H
theorem ec_gcD {c : Prop} [Decidable c] {K : Nat} {v : AV} {T : Nat → Option ρ} (H : (if c then cD K v T else none) = some r) (k : Nat) (Cf : AV → CF) (hk : ∀ ih : AK, Sv k ih mr d C = if c then am_pr (fun u => Iv ih mr d (Cf u)) v else none) (h1 : ∀ i, T i = some r → Ec mr d (Cf (dr K i)) q) : Ec mr d C q := by
  by_cases h : c
  · rw [if_pos h] at H
    exact ec_cD H k Cf (fun ih => (hk ih).trans (if_pos h)) h1
  · rw [if_neg h] at H; cases H
theorem rf_da (sg : Nat → AV) (rd : AA → Nat → AV) (K i j : Nat) (v : AV) : am_u (am_RF sg rd) (da K i) j v = am_RF sg (am_u rd (da K i) j v) := by
  funext b k
  unfold am_u
  by_cases hk : k = j
  · rw [if_pos hk]
    by_cases hb : b = da K i
    · subst hb
      rw [if_pos rfl]
      show v = (if k = j then (if da K i = da K i then v else rd (da K i) k) else rd (da K i) k)
      rw [if_pos hk, if_pos rfl]
    · rw [if_neg hb]
      rcases b with ⟨i2, j2⟩ | y | n | p
      · rfl
      · rfl
      · rfl
      · show rd _ k = (if k = j then (if (Sum.inr (Sum.inr (Sum.inr p)) : AA) = da K i then v else rd _ k) else rd _ k)
        rw [if_pos hk, if_neg hb]
  · rw [if_neg hk]
    rcases b with ⟨i2, j2⟩ | y | n | p
    · rfl
    · rfl
    · rfl
    · show rd _ k = (if k = j then (if (Sum.inr (Sum.inr (Sum.inr p)) : AA) = da K i then v else rd _ k) else rd _ k)
      rw [if_neg hk]
theorem hp_xr {hi : HI} {x : AX} {K i j : Nat} {v : AV} : ((hi, am_u (am_RF x.1 x.2.2.1.1) (da K i) j v, (hp hi x).2.2) : AH) = hp hi (xr x (da K i) j v) := by
  rw [rf_da]; rfl
/-- a reference is written -/
theorem ec_pr {hi : HI} {x : AX} {K i j : Nat} {v : AV} {T : AX → Option ρ} (H : cAx (xr x (da K i) j v) T = some r) (k : Nat) (Cf : AH → CF) (hk : ∀ ih : AK, Sv k ih mr d C = Iv ih mr d (Cf (hi, am_u (am_RF x.1 x.2.2.1.1) (da K i) j v, (hp hi x).2.2))) (h1 : ∀ x, T x = some r → Ec mr d (Cf (hp hi x)) q) : Ec mr d C q := ec_seg k (Cf (hp hi (xr x (da K i) j v))) (fun ih => by rw [hk, hp_xr]) (h1 _ H)
theorem ec_gpr {c : Prop} [Decidable c] {hi : HI} {x : AX} {K i j : Nat} {v : AV} {T : AX → Option ρ} (H : (if c then cAx (xr x (da K i) j v) T else none) = some r) (k : Nat) (Cf : AH → CF) (hk : ∀ ih : AK, Sv k ih mr d C = if c then Iv ih mr d (Cf (hi, am_u (am_RF x.1 x.2.2.1.1) (da K i) j v, (hp hi x).2.2)) else none) (h1 : ∀ x, T x = some r → Ec mr d (Cf (hp hi x)) q) : Ec mr d C q := ec_grd H k (Cf (hp hi (xr x (da K i) j v))) (fun ih => by rw [hk, hp_xr]) (h1 _)
/-- a cell is made -/
theorem ec_cM {x : AX} {tg : Nat} {n : Int32} {T : AX → Option ρ} (H : cMk x tg n T = some r) (k : Nat) (Cf : AX → CF) (hk : ∀ ih : AK, Sv k ih mr d C = if n < 0 then none else if am_kok tg = true ∧ n.toNatClampNeg ≤ 65536 then Iv ih mr d (Cf (xm x tg n.toNatClampNeg)) else none) (ho : am_kok tg = true) (h1 : ∀ x, T x = some r → Ec mr d (Cf x) q) : Ec mr d C q := by
  unfold cMk at H
  by_cases h : 0 ≤ n ∧ n.toNatClampNeg ≤ 65536
  · rw [if_pos h] at H
    refine ec_seg k (Cf (xm x tg n.toNatClampNeg)) (fun ih => ?_) (h1 _ H)
    rw [hk, if_neg (Int32.not_lt.mpr h.1), if_pos ⟨ho, h.2⟩]
  · rw [if_neg h] at H; cases H
end LE
def cBd {α ρ : Type} (S : Option α) (T : α → Option ρ) : Option ρ := match S with
  | some a => T a
  | none => none
/-- bytes are copied; references -/
def acB (a : Nat) (sp : Int32) (b : Nat) (dp n : Int32) (hi : HI) (x : AX) : Option HI := if 0 ≤ sp ∧ 0 ≤ dp ∧ 0 ≤ n ∧ sp.toNatClampNeg + n.toNatClampNeg ≤ lnx x a ∧ dp.toNatClampNeg + n.toNatClampNeg ≤ lnx x b ∧ am_by (fun j => hi (da 101 a) (sp.toNatClampNeg + j)) n.toNatClampNeg = true then some (am_cps (hi (da 101 a)) hi (da 101 b) sp.toNatClampNeg dp.toNatClampNeg n.toNatClampNeg) else none
section LK
variable {mr : MR} {d : Nat} {C : CF} {ρ : Type} {r : ρ} {q : AO × AH}
theorem ec_acB {a b : Nat} {sp dp n : Int32} {hi : HI} {x : AX} {T : HI → Option ρ} (H : cBd (acB a sp b dp n hi x) T = some r) (k : Nat) (Cf : HI → CF) (hk : ∀ ih : AK, Sv k ih mr d C = if true = true ∧ true = true ∧ true = true ∧ (none : Option Nat) = none ∧ 3 ≤ d ∧ 0 ≤ sp ∧ 0 ≤ dp ∧ 0 ≤ n ∧ sp.toNatClampNeg + n.toNatClampNeg ≤ lnx x a ∧ dp.toNatClampNeg + n.toNatClampNeg ≤ lnx x b then (match (if am_by (fun j => hi (da 101 a) (sp.toNatClampNeg + j)) n.toNatClampNeg = true then some (am_cps (fun j => hi (da 101 a) j) hi (da 101 b) sp.toNatClampNeg dp.toNatClampNeg n.toNatClampNeg, (hp hi x).2) else none) with | some h2 => Iv ih mr d ((Cf hi).1, (Cf hi).2.1, (Cf hi).2.2.1, h2) | none => none) else none) (hC : ∀ h, Cf h = ((Cf hi).1, (Cf hi).2.1, (Cf hi).2.2.1, hp h x)) (hd : 3 ≤ d) (h1 : ∀ v, T v = some r → Ec mr d (Cf v) q) : Ec mr d C q := by
  unfold acB at H
  by_cases h : 0 ≤ sp ∧ 0 ≤ dp ∧ 0 ≤ n ∧ sp.toNatClampNeg + n.toNatClampNeg ≤ lnx x a ∧ dp.toNatClampNeg + n.toNatClampNeg ≤ lnx x b ∧ am_by (fun j => hi (da 101 a) (sp.toNatClampNeg + j)) n.toNatClampNeg = true
  · rw [if_pos h] at H
    obtain ⟨q1, q2, q3, q4, q5, q6⟩ := h
    refine ec_seg k (Cf (am_cps (hi (da 101 a)) hi (da 101 b) sp.toNatClampNeg dp.toNatClampNeg n.toNatClampNeg)) (fun ih => ?_) (h1 _ H)
    rw [hk, if_pos ⟨rfl, rfl, rfl, rfl, hd, q1, q2, q3, q4, q5⟩, if_pos q6, hC (am_cps _ _ _ _ _ _)]
  · rw [if_neg h] at H; cases H
end LK
section LC
variable {mr : MR} {d0 pc kind n0 ci n : Nat} {ls : AL} {st : List AV} {h : AH} {M : MR} {ρ α : Type} {r : ρ} {q : AO × AH}
theorem ec_cB3 {S : Option (α × HI × AX)} {T : α → HI → AX → Option ρ} (H : cB3 S T = some r) (pc2 : Nat) (as t : List AV) (hk : ∀ ih, am_step ih mr (am_jmp pc mr.2.2.1) ls st h (d0 + 1) = am_call ih mr pc (am_jmp pc2 mr.2.2.1) ls st h (d0 + 1) (kind, n0, ci, M)) (hn : (bif am_stk kind || Nat.beq kind 10 || Nat.beq kind 11 then n0 else n0 + 1) = n) (has : (st.take n).reverse = as) (ht : st.drop n = t) (hcl : (Nat.beq as.length n && am_clean ls t && Nat.ble (am_sum t) 8) = true) (hkd : (Nat.beq kind 3 || Nat.beq kind 7 || Nat.beq kind 8 || Nat.beq kind 10 || Nat.beq kind 11 || Nat.ble 15 kind) = false) (hrc : (Nat.ble (am_args as).length M.2.1 && (am_stk kind || am_rck ci h as)) = true) {V : α → AV} (hC : ∀ v : α × HI × AX, S = some v → Rn M as h d0 (Sum.inl (some (V v.1)), hp v.2.1 v.2.2)) (hT : ∀ v h1 x1, T v h1 x1 = some r → Ec mr (d0 + 1) (pc2, ls, V v :: t, hp h1 x1) q) : Ec mr (d0 + 1) (pc, ls, st, h) q := by
  cases hS : S with
  | none => rw [hS] at H; cases H
  | some v =>
    obtain ⟨v, h1, x1⟩ := v
    rw [hS] at H
    exact ec_call pc2 as t hk hn has ht hcl hkd hrc (hC _ hS) (hT v h1 x1 H)
theorem ec_cB2 {S : Option (HI × AX)} {T : HI → AX → Option ρ} (H : cB2 S T = some r) (pc2 : Nat) (as t : List AV) (hk : ∀ ih, am_step ih mr (am_jmp pc mr.2.2.1) ls st h (d0 + 1) = am_call ih mr pc (am_jmp pc2 mr.2.2.1) ls st h (d0 + 1) (kind, n0, ci, M)) (hn : (bif am_stk kind || Nat.beq kind 10 || Nat.beq kind 11 then n0 else n0 + 1) = n) (has : (st.take n).reverse = as) (ht : st.drop n = t) (hcl : (Nat.beq as.length n && am_clean ls t && Nat.ble (am_sum t) 8) = true) (hkd : (Nat.beq kind 3 || Nat.beq kind 7 || Nat.beq kind 8 || Nat.beq kind 10 || Nat.beq kind 11 || Nat.ble 15 kind) = false) (hrc : (Nat.ble (am_args as).length M.2.1 && (am_stk kind || am_rck ci h as)) = true) (hC : ∀ v : HI × AX, S = some v → Rn M as h d0 (qV v)) (hT : ∀ h1 x1, T h1 x1 = some r → Ec mr (d0 + 1) (pc2, ls, t, hp h1 x1) q) : Ec mr (d0 + 1) (pc, ls, st, h) q := by
  cases hS : S with
  | none => rw [hS] at H; cases H
  | some v =>
    obtain ⟨h1, x1⟩ := v
    rw [hS] at H
    exact ec_callv pc2 as t hk hn has ht hcl hkd hrc (hC _ hS) (hT h1 x1 H)
end LC
