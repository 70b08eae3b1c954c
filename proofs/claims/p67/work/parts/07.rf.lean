/-! the heap when all is made -/
def am_RFz : List (Nat × List AV) := [(0, [zr 1, zr 2, wr 0, wr 1, zr 34, zr 41]), (2, [zr 3]), (34, [zr 35, wr 1, zr 39, zr 40]), (35, [zr 36, zr 37, zr 38]), (41, [zr 42, zr 43, zr 44])]
def am_RFw : List Nat := [1, 6, 7, 10, 11, 12, 13, 14]
/-- the references, all made; sg: the tokens' signs; rd: what the law's cells name -/
def am_RF (sg : Nat → AV) (rd : AA → Nat → AV) : AA → Nat → AV
  | Sum.inl (i, j), k => bif Nat.beq j 0 then (match am_RFw[k]? with | some n => Sum.inr (wa i n) | none => Sum.inl .null) else bif Nat.beq j 1 then (bif Nat.blt k 4 then Sum.inr (wa i (k + 2)) else Sum.inl .null) else bif Nat.beq j 7 then (bif Nat.blt k 2 then Sum.inr (wa i (k + 8)) else Sum.inl .null) else Sum.inl .null
  | Sum.inr (Sum.inl _), _ => Sum.inl .null
  | Sum.inr (Sum.inr (Sum.inr q)), k => rd (Sum.inr (Sum.inr (Sum.inr q))) k
  | Sum.inr (Sum.inr (Sum.inl n)), k => bif Nat.beq n 36 then sg k else bif Nat.beq n 42 then (if k < 8 then wr (Fin.ofNat 12 (2 + k)) else Sum.inl .null) else bif Nat.beq n 43 then (if k < 2 then wr (Fin.ofNat 12 (10 + k)) else Sum.inl .null) else match am_lk n am_RFz with | some l => l.getD k (Sum.inl .null) | none => Sum.inl .null
/-- what else a heap holds: signs, a long, what the law's cells name and what they are, a number, cells, elements, the script's length -/
abbrev AX : Type := (Nat → AV) × Int64 × ((AA → Nat → AV) × AD) × Nat × Nat × Nat × Nat
abbrev hp (hi : AA → Nat → Int32) (x : AX) : AH := (hi, am_RF x.1 x.2.2.1.1, x.2.1, x.2.2.1.2, x.2.2.2.1, x.2.2.2.2.1, x.2.2.2.2.2.1, x.2.2.2.2.2.2, none)
abbrev rt (v : AV) (h : AH) : AR := some (Sum.inl (some v), h)
abbrev rv0 (h : AH) : AR := some (Sum.inl none, h)
/-- words that go through calls by a way of their own -/
def am_nw : Cond → Bool
  | .castable .. => true
  | .methodLinkNest .. => true
  | .declares _ => true
  | .fieldLinkNest .. => true
  | _ => false
