/-! the law's own slots; the model's parser, its recursion tied -/
def lx : Int32 ⊕ UInt32 ⊕ UInt64 → AV
  | Sum.inl v => vi v
  | Sum.inr (Sum.inl v) => Sum.inl (Value.float v)
  | Sum.inr (Sum.inr v) => Sum.inl (Value.double v)
def sh_rep (G : Nat) : Nat → HI → Option HI
  | 0 => fun _ => none
  | R + 1 => fun hi => sh_X10_readsRepeat G (sh_rep G R) hi
theorem ec_rep (G : Nat) {x : AX} : ∀ (R : Nat) {d : Nat} (hi : HI) (r : HI), sh_rep G R hi = some r → Rn mX10_readsRepeat [Sum.inr (za 195)] (hp hi x) (d + 3 * R + 9) (rV1 x r)
  | 0, _, _, _, H => by cases H
  | R + 1, d, hi, r, H => by
    have h := ec_X10_readsRepeat G (sh_rep G R) (x := x) (d := d + 3 * R) (fun hi r H => ec_rep G R hi r H) hi (r := r) H
    have e : d + 3 * (R + 1) + 9 = d + 3 * R + 12 := by omega
    rw [e]
    exact h
def sh_parseS (G : Nat) (a1 : Int32) (hi : HI) : Option (Int32 × HI) := sh_X10_parseSetup G (sh_rep G 5) a1 hi
theorem ec_parseS (G : Nat) (a1 : Int32) (hi : HI) {x : AX} {d : Nat} {r : Int32 × HI} (H : sh_parseS G a1 hi = some r) : Rn mX10_parseSetup [Sum.inr (za 195), vi a1] (hp hi x) (d + 27) (rI1 x r) := ec_X10_parseSetup G (sh_rep G 5) (x := x) (d := d + 15) (fun hi r H => ec_rep G 5 (d := d) hi r H) a1 hi H
