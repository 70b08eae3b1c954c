/-! THE ABSTRACT MACHINE (am_): the same bytecode over a heap of numbers whose shape is known ahead. A cell's name (AA): cell j of the i-th World, the x-th Sign, a number (the class's other cells by the order of their making; from 1000 on what is constant), or a cell of kind k that the law makes as its i-th. -/
abbrev AA : Type := (Fin 12 × Nat) ⊕ (Fin 37 ⊕ (Nat ⊕ (Nat × Nat)))
abbrev AV : Type := Value ⊕ AA
/-- the law's cells: longs, how many, kinds, lengths -/
abbrev AD : Type := (Nat → Nat → Int64) × Nat × (Nat → Nat) × (Nat → Nat)
/-- numbers, references, a long (no use), the law's cells, a number (no use), cells and elements made, the script's length, the class's next cell to be made (none: all made) -/
abbrev AH : Type := (AA → Nat → Int32) × (AA → Nat → AV) × Int64 × AD × Nat × Nat × Nat × Nat × Option Nat
/-- an instruction: its place, itself, its length, where it jumps -/
abbrev CI : Type := Nat × Instr × Nat × Nat
/-- a method: its class's number, its locals, its code, its handlers (from, to, target, the local that takes the exception, class) -/
abbrev MR : Type := Nat × Nat × List CI × List (Nat × Nat × Nat × Nat × Nat)
abbrev AL : Type := List (Option AV)
abbrev AO : Type := (Option AV) ⊕ Nat
/-- the classes that are thrown -/
def am_xs : Nat → String
  | 0 => "java/lang/IllegalStateException"
  | 1 => "java/lang/IndexOutOfBoundsException"
  | _ => "java/lang/IllegalArgumentException"
abbrev AR : Type := Option (AO × AH)
abbrev vi (x : Int32) : AV := Sum.inl (Value.int x)
abbrev za (n : Nat) : AA := Sum.inr (Sum.inr (Sum.inl n))
abbrev da (k i : Nat) : AA := Sum.inr (Sum.inr (Sum.inr (k, i)))
abbrev dr (k i : Nat) : AV := Sum.inr (da k i)
abbrev zr (n : Nat) : AV := Sum.inr (za n)
abbrev wa (i : Fin 12) (j : Nat) : AA := Sum.inl (i, j)
abbrev wr (i : Fin 12) : AV := Sum.inr (wa i 0)
abbrev ga (x : Fin 37) : AA := Sum.inr (Sum.inl x)
abbrev gr' (x : Fin 37) : AV := Sum.inr (ga x)
abbrev AH.i (h : AH) : AA → Nat → Int32 := h.1
abbrev AH.r (h : AH) : AA → Nat → AV := h.2.1
abbrev AH.dy (h : AH) : AD := h.2.2.2.1
abbrev AH.lg (h : AH) : Nat → Nat → Int64 := h.2.2.2.1.1
abbrev AH.nd (h : AH) : Nat := h.2.2.2.1.2.1
abbrev AH.dk (h : AH) : Nat → Nat := h.2.2.2.1.2.2.1
abbrev AH.dl (h : AH) : Nat → Nat := h.2.2.2.1.2.2.2
abbrev AH.cp (h : AH) : Nat := h.2.2.2.2.1
abbrev AH.nc (h : AH) : Nat := h.2.2.2.2.2.1
abbrev AH.ns (h : AH) : Nat := h.2.2.2.2.2.2.1
abbrev AH.sl (h : AH) : Nat := h.2.2.2.2.2.2.2.1
abbrev AH.nx (h : AH) : Option Nat := h.2.2.2.2.2.2.2.2
def am_u {α : Type} (f : AA → Nat → α) (a : AA) (k : Nat) (v : α) : AA → Nat → α := fun b j => if j = k then (if b = a then v else f b j) else f b j
def am_cpy (f : AA → Nat → Int32) (src dst : AA) (sp dp n : Nat) : AA → Nat → Int32 := fun b j => if b = dst ∧ dp ≤ j ∧ j < dp + n then f src (sp + (j - dp)) else f b j
def am_lk {α : Type} (n : Nat) : List (Nat × α) → Option α
  | [] => none
  | e :: t => bif Nat.beq n e.1 then some e.2 else am_lk n t
def am_jmp (n : Nat) : List CI → List CI
  | [] => []
  | e :: t => bif Nat.beq n e.1 then e :: t else am_jmp n t
/-- the cells of a World: class or kind of array, fields or length -/
def am_tw : List (Nat × Nat × Nat) := [(0, 10, 14), (1, 5, 13), (2, 100, 10), (3, 100, 4), (4, 100, 4), (5, 100, 30), (6, 9, 9), (7, 6, 3), (8, 100, 10), (9, 100, 10), (10, 100, 10), (11, 100, 80), (12, 100, 80), (13, 100, 80), (14, 100, 80)]
def am_tz : List (Nat × Nat × Nat) := [(0, 11, 8), (1, 100, 500), (2, 1, 4), (3, 101, 16), (34, 7, 11), (35, 8, 5), (36, 106, 501), (37, 100, 501), (38, 100, 501), (39, 100, 3), (40, 100, 3), (41, 4, 5), (42, 105, 8), (43, 105, 2), (44, 100, 2)]
/-- which cell is made as the n-th -/
def am_lay (n : Nat) : AA := if 4 ≤ n ∧ n < 34 then wa (Fin.ofNat 12 ((n - 4) / 15)) ((n - 4) % 15) else if 45 ≤ n ∧ n < 195 then wa (Fin.ofNat 12 (2 + (n - 45) / 15)) ((n - 45) % 15) else za n
def am_ix : AA → Nat
  | Sum.inl (i, j) => if i.val < 2 then 4 + 15 * i.val + j else 45 + 15 * (i.val - 2) + j
  | Sum.inr (Sum.inl x) => x.val
  | Sum.inr (Sum.inr (Sum.inl n)) => n
  | Sum.inr (Sum.inr (Sum.inr q)) => 195 + q.2
