/-! the abstract machine's step -/
/-- how many fields a class's objects have -/
def am_nf : List (Nat × Nat) := [(0, 4), (1, 4), (2, 3), (4, 5), (5, 13), (6, 3), (7, 11), (8, 5), (9, 9), (10, 14), (11, 8), (12, 31)]
def am_nfs (k : Nat) : Nat := match am_lk k am_nf with | some n => n | none => 0
/-- the kinds that cells have -/
def am_kok (k : Nat) : Bool := (am_lk k am_nf).isSome || (Nat.ble 100 k && Nat.ble k 106)
def am_strlen (j : Nat) : Nat := (am_str.getD j []).length
/-- kind and length of a cell -/
def am_ty (h : AH) : AA → Nat × Nat
  | Sum.inl (_, j) => match am_lk j am_tw with | some t => t | none => (999, 0)
  | Sum.inr (Sum.inl _) => (13, 4)
  | Sum.inr (Sum.inr (Sum.inr q)) => (q.1, bif Nat.blt q.1 100 then am_nfs q.1 else h.dl q.2)
  | Sum.inr (Sum.inr (Sum.inl n)) => bif Nat.ble 1000 n then (bif Nat.ble 3000 n then (bif Nat.beq n 3000 then (106, 37) else bif Nat.beq n 3001 then (100, 37) else bif Nat.beq n 3002 then (101, 100) else bif Nat.beq n 3003 then (101, 100) else bif Nat.beq n 3004 then (100, h.sl) else bif Nat.beq n 3005 then (104, 0) else bif Nat.beq n 3007 then (15, 0) else (999, 0)) else bif Nat.ble 2000 n then (bif Nat.blt n (2000 + am_nstr) then (101, am_strlen (n - 2000)) else (999, 0)) else bif Nat.blt n (1000 + am_nstr) then (0, 4) else (999, 0))
      else match am_lk n am_tz with | some t => t | none => (999, 0)
def am_ex (h : AH) (a : AA) : Bool := match h.nx with
  | none => true
  | some n => match a with
    | Sum.inr (Sum.inl _) => true
    | Sum.inr (Sum.inr (Sum.inl k)) => Nat.ble 1000 k || Nat.blt k n
    | Sum.inr (Sum.inr (Sum.inr _)) => false
    | Sum.inl _ => Nat.blt (am_ix a) n
/-- a number of a cell -/
def am_rI (h : AH) : AA → Nat → Int32
  | Sum.inl w, k => h.i (Sum.inl w) k
  | Sum.inr (Sum.inl x), k => bif Nat.beq k 1 then nI (am_set.getD x.val 0) else bif Nat.beq k 2 then nI (am_evt.getD x.val 0) else nI x.val
  | Sum.inr (Sum.inr (Sum.inr q)), k => h.i (Sum.inr (Sum.inr (Sum.inr q))) k
  | Sum.inr (Sum.inr (Sum.inl n)), k => bif Nat.ble 1000 n then (bif Nat.ble 3000 n then (bif Nat.beq n 3001 then nI (am_swm.getD k 0) else bif Nat.beq n 3002 then nI (48 + k / 10) else bif Nat.beq n 3003 then nI (48 + k % 10) else h.i (za n) k) else bif Nat.ble 2000 n then nI ((am_str.getD (n - 2000) []).getD k 0) else 0) else h.i (za n) k
/-- a reference of a cell -/
def am_rR (h : AH) : AA → Nat → AV
  | Sum.inl w, k => h.r (Sum.inl w) k
  | Sum.inr (Sum.inl x), _ => zr (1000 + x.val)
  | Sum.inr (Sum.inr (Sum.inr q)), k => h.r (Sum.inr (Sum.inr (Sum.inr q))) k
  | Sum.inr (Sum.inr (Sum.inl n)), k => bif Nat.ble 1000 n then (bif Nat.beq n 3000 then gr' (Fin.ofNat 37 k) else zr (n + 1000)) else h.r (za n) k
def am_cat2 : AV → Bool
  | Sum.inl (Value.long _) => true
  | Sum.inl (Value.double _) => true
  | _ => false
def am_get (ls : AL) (n : Nat) : Option AV := match ls[n]? with | some (some v) => some v | _ => none
/-- what a local's store overlaps -/
def am_clr (ls : AL) : Nat → AL
  | 0 => ls
  | k + 1 => match ls[k]? with | some (some w) => bif am_cat2 w then ls.set k none else ls | _ => ls
/-- a local is stored: what it overlaps goes -/
def am_put (ls : AL) (n : Nat) (v : AV) : AL := bif am_cat2 v then ((am_clr ls n).set n (some v)).set (n + 1) none else (am_clr ls n).set n (some v)
/-- (no use) -/
def am_noS (_ : AV) : Bool := true
def am_clean (_ : AL) (_ : List AV) : Bool := true
def am_args : List AV → AL
  | [] => []
  | v :: t => bif am_cat2 v then some v :: none :: am_args t else some v :: am_args t
def am_pad (n : Nat) (l : AL) : AL := l ++ List.replicate (n - l.length) none
def am_hand (pc E : Nat) : List (Nat × Nat × Nat × Nat × Nat) → Option (Nat × Nat)
  | [] => none
  | e :: r => bif Nat.ble e.1 pc && Nat.blt pc e.2.1 && Nat.beq e.2.2.2.2 E then some (e.2.2.1, e.2.2.2.1) else am_hand pc E r
abbrev AK : Type := MR → List CI → AL → List AV → AH → Nat → AR
def am_in (j : Int32) (n : Nat) : Prop := 0 ≤ j ∧ j.toNatClampNeg < n


/-- one step's parts: what a small type's return keeps (k: 1 boolean, 2 char, 3 byte) -/
def am_nr (k : Nat) (x : Int32) (r : AR) : AR := bif Nat.beq k 0 then r else bif Nat.beq k 1 then (if x = 0 ∨ x = 1 then r else none) else bif Nat.beq k 2 then (if x.toUInt32.toUInt16.toUInt32.toInt32 = x then r else none) else bif Nat.beq k 3 then (if x.toInt8.toInt32 = x then r else none) else none
def am_tsw (k : Nat → AR) (pc : Nat) (dflt lo hi : Int) (offs : Array Int) (x : Int32) : AR :=
  if x.toInt < lo ∨ hi < x.toInt then (if 0 ≤ (pc : Int) + dflt then k ((pc : Int) + dflt).toNat else none)
  else match offs.toList[(x.toInt - lo).toNat]? with | some o => (if 0 ≤ (pc : Int) + o then k ((pc : Int) + o).toNat else none) | none => none
def am_lsw (k : Nat → AR) (pc : Nat) (dflt : Int) (ps : Array (Int × Int)) (x : Int32) : AR :=
  if 0 ≤ (pc : Int) + Op.lookupswitch.offset ps.toList dflt x.toInt then k ((pc : Int) + Op.lookupswitch.offset ps.toList dflt x.toInt).toNat else none
/-- what may be written -/
def am_dyn : AA → Bool
  | Sum.inl _ => true
  | Sum.inr (Sum.inl _) => false
  | Sum.inr (Sum.inr (Sum.inl n)) => Nat.blt n 1000
  | Sum.inr (Sum.inr (Sum.inr _)) => true
def am_pf (k : AH → AR) (h : AH) (a : AA) (j kd : Nat) (v : AV) : AR := match v with
  | Sum.inl (Value.int x) => bif Nat.beq kd 0 then k (am_u h.1 a j x, h.2) else bif Nat.beq kd 2 then (if x = 0 ∨ x = 1 then k (am_u h.1 a j x, h.2) else none) else bif Nat.beq kd 3 then (if x.toInt8.toInt32 = x then k (am_u h.1 a j x, h.2) else none) else none
  | Sum.inr b => bif Nat.beq kd 1 then k (h.1, am_u h.2.1 a j (Sum.inr b), h.2.2) else none
  | _ => none
def am_sto (t u : Nat) : Bool := (Nat.beq t 104 && Nat.beq u 100) || (Nat.beq t 105 && Nat.beq u 10) || (Nat.beq t 106 && Nat.beq u 13)
/-- no handler covers the throw that begins here -/
def am_xt (hs : List (Nat × Nat × Nat × Nat × Nat)) (_pc : Nat) : Bool := match hs with | [] => true | _ => false
/-- a reference goes on the stack -/
def am_pr (k : AV → AR) (v : AV) : AR := match v with
  | Sum.inr b => k (Sum.inr b)
  | Sum.inl Value.null => k (Sum.inl Value.null)
  | _ => none
def am_sum (st : List AV) : Nat := (st.map (fun v => bif am_cat2 v then 2 else 1)).sum
def am_cnt (h : AH) (k n : Nat) : AH := (h.1, h.2.1, h.2.2.1, h.2.2.2.1, h.cp, h.nc + k, h.ns + n, h.sl, h.nx)
def am_at : ArrayType → Nat
  | .int => 100
  | .byte => 101
  | .boolean => 102
  | .long => 103
  | _ => 998
/-- how many cells are made in all -/
def am_all : Nat := 195
/-- a cell of the law's is made -/
def am_mkd (h : AH) (tg z : Nat) : AH := (h.1, h.2.1, h.2.2.1, (h.lg, h.nd + 1, (fun i => if i = h.nd then tg else h.dk i), (fun i => if i = h.nd then z else h.dl i)), h.cp, h.nc + 1, h.ns + z, h.sl, none)
/-- a cell is made: the next one, as it is known ahead; behind the class's the law's (len: of an array) -/
def am_mk (k : AA → AH → AR) (h : AH) (tg : Nat) (len : Option Nat) : AR := match h.nx with
  | none => match len with
    | some z => if am_kok tg = true ∧ z ≤ 65536 then k (da tg h.nd) (am_mkd h tg z) else none
    | none => bif am_kok tg then k (da tg h.nd) (am_mkd h tg (am_nfs tg)) else none
  | some n => if (am_ty h (am_lay n)).1 = tg ∧ (match len with | some z => Nat.beq (am_ty h (am_lay n)).2 z | none => true) = true then k (am_lay n) (h.1, h.2.1, h.2.2.1, h.2.2.2.1, h.cp, h.nc + 1, h.ns + (am_ty h (am_lay n)).2, h.sl, if n + 1 = am_all then none else some (n + 1)) else none
def am_thr (pc E : Nat) (mr : MR) (k : Nat → Nat → AR) (h : AH) : AR := match am_hand pc E mr.2.2.2 with
  | some (t, q) => k t q
  | none => some (Sum.inr E, h)
/-- numbers that are bytes -/
def am_by (f : Nat → Int32) (n : Nat) : Bool := (List.range n).all (fun j => decide ((f j).toInt8.toInt32 = f j))
/-- bytes, references are copied -/
def am_cps {α : Type} (g : Nat → α) (f : AA → Nat → α) (dst : AA) (sp dp n : Nat) : AA → Nat → α := fun b j => if b = dst ∧ dp ≤ j ∧ j < dp + n then g (sp + (j - dp)) else f b j
/-- two references are held against each other (the two ends: the same, another) -/
def am_aq (k1 k2 : AR) : AA → AA → AR
  | Sum.inr (Sum.inl x), Sum.inr (Sum.inl y) => if x = y then k1 else k2
  | Sum.inr (Sum.inr (Sum.inr p)), Sum.inr (Sum.inr (Sum.inr q)) => if p.2 = q.2 then k1 else k2
  | Sum.inr (Sum.inr (Sum.inl n)), Sum.inr (Sum.inr (Sum.inl m)) => if n = 3005 ∧ m = 3005 then k1 else none
  | Sum.inr (Sum.inr (Sum.inr _)), Sum.inr (Sum.inr (Sum.inl m)) => if m = 3005 then k2 else none
  | Sum.inr (Sum.inr (Sum.inl n)), Sum.inr (Sum.inr (Sum.inr _)) => if n = 3005 then k2 else none
  | _, _ => none
/-- a long is stored -/
def am_ls (h : AH) (i j : Nat) (x : Int64) : AH := (h.1, h.2.1, h.2.2.1, ((fun b k => if b = i ∧ k = j then x else h.lg b k), h.2.2.2.1.2), h.2.2.2.2)
/-- System.arraycopy: of ints, of bytes, of references -/
def am_acp (h : AH) (a b : AA) (sp dp n : Nat) : Option AH :=
  bif Nat.beq (am_ty h a).1 100 && Nat.beq (am_ty h b).1 100 then (if am_dyn a = true then some (am_cpy h.1 a b sp dp n, h.2) else none)
  else bif Nat.beq (am_ty h a).1 101 && Nat.beq (am_ty h b).1 101 then (if am_by (fun j => am_rI h a (sp + j)) n = true then some (am_cps (fun j => am_rI h a j) h.1 b sp dp n, h.2) else none)
  else bif Nat.beq (am_ty h a).1 104 && Nat.beq (am_ty h b).1 104 then (if am_dyn a = true ∧ (List.range n).all (fun j => match h.r a (sp + j) with | Sum.inr c => Nat.beq (am_ty h c).1 100 && am_dyn c | Sum.inl Value.null => true | _ => false) = true then some (h.1, am_cps (fun j => h.2.1 a j) h.2.1 b sp dp n, h.2.2) else none)
  else none
/-- the kinds of calls: 1 static (12 of a nest mate, 14 with handlers); what may throw: 0, 1, 14 -/
def am_stk (k : Nat) : Bool := Nat.beq k 1 || Nat.beq k 12 || Nat.ble 14 k
def am_xck (k : Nat) : Bool := Nat.beq k 0 || Nat.beq k 1 || Nat.beq k 14
/-- Math's min (15), max (16), abs (17) -/
def am_mth (k : Nat) : List AV → Option Int32
  | [Sum.inl (Value.int x), Sum.inl (Value.int y)] => bif Nat.beq k 15 then some (if y < x then y else x) else bif Nat.beq k 16 then some (if x < y then y else x) else none
  | [Sum.inl (Value.int x)] => bif Nat.beq k 17 then some (if 0 ≤ x then x else 0 - x) else none
  | _ => none
/-- the kinds of calls: 0 virtual, 1 static (12 of a nest mate), 2 constructors (13 of a nest mate), 3 Object's constructor, 4 ordinal, 5 private, through an abstract class, 6 super, 7 clone of bytes, 8 Unsafe.getLong, 9 through an interface, 10 arraycopy, 11 checkIndex -/
def am_cl (_ : Nat) (_ : AL) (_ : List AV) : Bool := true
theorem am_cl_of {k : Nat} {ls : AL} {t : List AV} (_ : Nat.beq k 11 = false) (_ : Nat.ble 15 k = false) : am_cl k ls t = am_clean ls t := rfl
def am_call (ih : AK) (mr : MR) (pc : Nat) (r : List CI) (ls : AL) (st : List AV) (h : AH) (d : Nat) (q : Nat × Nat × Nat × MR) : AR :=
  let kind := q.1
  let n := bif am_stk kind || Nat.beq kind 10 || Nat.beq kind 11 then q.2.1 else q.2.1 + 1
  let as := (st.take n).reverse
  let t := st.drop n
  bif !(Nat.beq as.length n && am_cl kind ls t && Nat.ble (am_sum t) 8) then none else
  bif Nat.beq kind 3 then (match as with | [Sum.inr _] => bif Nat.ble 1 d then ih mr r ls t h d else none | _ => none) else
  bif Nat.beq kind 7 then (match as with | [Sum.inr a] => (if (am_ty h a).1 = 101 ∧ am_dyn a = true ∧ am_ex h a = true ∧ h.nx = none ∧ 3 ≤ d ∧ (am_ty h a).2 ≤ 65536 ∧ am_by (am_rI h a) (am_ty h a).2 = true then ih mr r ls (dr 101 h.nd :: t) ((fun b j => if b = da 101 h.nd ∧ j < (am_ty h a).2 then am_rI h a j else h.1 b j), (am_mkd h 101 (am_ty h a).2).2) d else none) | _ => none) else
  bif Nat.beq kind 8 then (match as with | [Sum.inr (Sum.inr (Sum.inr (Sum.inl u))), Sum.inr (Sum.inr (Sum.inr (Sum.inr q))), Sum.inl (Value.long off)] => (if u = 3007 ∧ q.1 = 103 ∧ 3 ≤ d ∧ ¬ off < 0 ∧ off.toNatClampNeg = 16 + 8 * ((off.toNatClampNeg - 16) / 8) ∧ (off.toNatClampNeg - 16) / 8 < h.dl q.2 then ih mr r ls (Sum.inl (Value.long (h.lg q.2 ((off.toNatClampNeg - 16) / 8))) :: t) h d else none) | _ => none) else
  bif Nat.beq kind 10 then (match as with
    | [Sum.inr a, Sum.inl (Value.int sp), Sum.inr b, Sum.inl (Value.int dp), Sum.inl (Value.int len)] => (if am_ex h a = true ∧ am_ex h b = true ∧ am_dyn b = true ∧ h.nx = none ∧ 3 ≤ d ∧ 0 ≤ sp ∧ 0 ≤ dp ∧ 0 ≤ len ∧ sp.toNatClampNeg + len.toNatClampNeg ≤ (am_ty h a).2 ∧ dp.toNatClampNeg + len.toNatClampNeg ≤ (am_ty h b).2 then (match am_acp h a b sp.toNatClampNeg dp.toNatClampNeg len.toNatClampNeg with | some h2 => ih mr r ls t h2 d | none => none) else none)
    | _ => none) else
  bif Nat.beq kind 11 then (match as with | [Sum.inl (Value.int i), Sum.inl (Value.int len)] => (if 0 ≤ i ∧ i < len ∧ 3 ≤ d then ih mr r ls t h d else none) | _ => none) else
  bif Nat.ble 15 kind then (match am_mth kind as with | some v => bif Nat.ble 1 d then ih mr r ls (vi v :: t) h d else none | none => none) else
  bif Nat.ble (am_args as).length q.2.2.2.2.1 && (am_stk kind || (match as with | Sum.inr a :: _ => Nat.beq (am_ty h a).1 q.2.2.1 && am_ex h a | _ => false)) then
    (match d with
    | 0 => none
    | d0 + 1 => match ih q.2.2.2 q.2.2.2.2.2.1 (am_pad q.2.2.2.2.1 (am_args as)) [] h d0 with
      | none => none
      | some (Sum.inl none, h1) => ih mr r ls t h1 d
      | some (Sum.inl (some v), h1) => ih mr r ls (v :: t) h1 d
      | some (Sum.inr E, h1) => bif !am_xck kind then none else am_thr pc E mr (fun tgt k => ih mr (am_jmp tgt mr.2.2.1) ((am_clr ls k).set k none) [] h1 d) h1)
  else none
/-- one step -/
def am_step (ih : AK) : AK := fun mr rest ls st h d => match rest with
  | [] => none
  | e :: r => match e.2.1 with
    | .iconst n => ih mr r ls (vi (Int32.ofInt n) :: st) h d
    | .bipush n => ih mr r ls (vi (Int8.ofInt n).toInt32 :: st) h d
    | .sipush n => ih mr r ls (vi (Int16.ofInt n).toInt32 :: st) h d
    | .lconst n => ih mr r ls (Sum.inl (Value.long (Int64.ofNat n)) :: st) h d
    | .fconst n => bif Nat.beq n.val 0 then ih mr r ls (Sum.inl (Value.float FP.fconst0) :: st) h d else none
    | .dconst n => bif Nat.beq n.val 0 then ih mr r ls (Sum.inl (Value.double FP.dconst0) :: st) h d else none
    | .aconst_null => ih mr r ls (Sum.inl Value.null :: st) h d
    | .ldc k => match am_C mr.1 k with | some v => ih mr r ls (v :: st) h d | none => none
    | .ldc_w k => match am_C mr.1 k with | some v => ih mr r ls (v :: st) h d | none => none
    | .iload_n k => match am_get ls k.val with | some (Sum.inl (Value.int x)) => ih mr r ls (Sum.inl (Value.int x) :: st) h d | _ => none
    | .iload k => match am_get ls k with | some (Sum.inl (Value.int x)) => ih mr r ls (Sum.inl (Value.int x) :: st) h d | _ => none
    | .istore_n k => match st with | Sum.inl (Value.int x) :: t => (ih mr r (am_put ls k.val (Sum.inl (Value.int x))) (t) h d) | _ => none
    | .istore k => match st with | Sum.inl (Value.int x) :: t => (ih mr r (am_put ls k (Sum.inl (Value.int x))) (t) h d) | _ => none
    | .fload_n k => match am_get ls k.val with | some (Sum.inl (Value.float x)) => ih mr r ls (Sum.inl (Value.float x) :: st) h d | _ => none
    | .fload k => match am_get ls k with | some (Sum.inl (Value.float x)) => ih mr r ls (Sum.inl (Value.float x) :: st) h d | _ => none
    | .fstore_n k => match st with | Sum.inl (Value.float x) :: t => (ih mr r (am_put ls k.val (Sum.inl (Value.float x))) (t) h d) | _ => none
    | .fstore k => match st with | Sum.inl (Value.float x) :: t => (ih mr r (am_put ls k (Sum.inl (Value.float x))) (t) h d) | _ => none
    | .dload_n k => match am_get ls k.val with | some (Sum.inl (Value.double x)) => ih mr r ls (Sum.inl (Value.double x) :: st) h d | _ => none
    | .dload k => match am_get ls k with | some (Sum.inl (Value.double x)) => ih mr r ls (Sum.inl (Value.double x) :: st) h d | _ => none
    | .dstore_n k => match st with | Sum.inl (Value.double x) :: t => (ih mr r (am_put ls k.val (Sum.inl (Value.double x))) (t) h d) | _ => none
    | .dstore k => match st with | Sum.inl (Value.double x) :: t => (ih mr r (am_put ls k (Sum.inl (Value.double x))) (t) h d) | _ => none
    | .aload_n k => match am_get ls k.val with | some (Sum.inr a) => ih mr r ls (Sum.inr a :: st) h d | some (Sum.inl Value.null) => ih mr r ls (Sum.inl Value.null :: st) h d | _ => none
    | .aload k => match am_get ls k with | some (Sum.inr a) => ih mr r ls (Sum.inr a :: st) h d | some (Sum.inl Value.null) => ih mr r ls (Sum.inl Value.null :: st) h d | _ => none
    | .astore_n k => match st with | Sum.inr a :: t => ih mr r (am_put ls k.val (Sum.inr a)) (t) h d | Sum.inl Value.null :: t => ih mr r (am_put ls k.val (Sum.inl Value.null)) (t) h d | _ => none
    | .astore k => match st with | Sum.inr a :: t => ih mr r (am_put ls k (Sum.inr a)) (t) h d | Sum.inl Value.null :: t => ih mr r (am_put ls k (Sum.inl Value.null)) (t) h d | _ => none
    | .lload_n k => match am_get ls k.val with | some (Sum.inl (Value.long x)) => ih mr r ls (Sum.inl (Value.long x) :: st) h d | _ => none
    | .lload k => match am_get ls k with | some (Sum.inl (Value.long x)) => ih mr r ls (Sum.inl (Value.long x) :: st) h d | _ => none
    | .lstore_n k => match st with | Sum.inl (Value.long x) :: t => (ih mr r (am_put ls k.val (Sum.inl (Value.long x))) (t) h d) | _ => none
    | .lstore k => match st with | Sum.inl (Value.long x) :: t => (ih mr r (am_put ls k (Sum.inl (Value.long x))) (t) h d) | _ => none
    | .ldc2_w k => match am_D mr.1 k with | some v => ih mr r ls (Sum.inl (Value.long v) :: st) h d | none => none
    | .iinc k n => match am_get ls k with | some (Sum.inl (Value.int x)) => ih mr r (am_put ls k (vi (x + Int32.ofInt n))) (st) h d | _ => none
    | .dup => match st with | v :: t => bif am_cat2 v then none else ih mr r ls (v :: v :: t) h d | _ => none
    | .pop => match st with | v :: t => bif am_cat2 v then none else ih mr r ls (t) h d | _ => none
    | .dup_x1 => match st with | v :: w :: t => bif am_cat2 v || am_cat2 w then none else ih mr r ls (v :: w :: v :: t) h d | _ => none
    | .dup2 => match st with | v :: w :: t => bif am_cat2 v || am_cat2 w then none else ih mr r ls (v :: w :: v :: w :: t) h d | _ => none
    | .iadd => match st with | Sum.inl (Value.int y) :: Sum.inl (Value.int x) :: t => (ih mr r ls (vi (x + y) :: t) h d) | _ => none
    | .isub => match st with | Sum.inl (Value.int y) :: Sum.inl (Value.int x) :: t => (ih mr r ls (vi (x - y) :: t) h d) | _ => none
    | .imul => match st with | Sum.inl (Value.int y) :: Sum.inl (Value.int x) :: t => (ih mr r ls (vi (x * y) :: t) h d) | _ => none
    | .iand => match st with | Sum.inl (Value.int y) :: Sum.inl (Value.int x) :: t => (ih mr r ls (vi (x &&& y) :: t) h d) | _ => none
    | .ior => match st with | Sum.inl (Value.int y) :: Sum.inl (Value.int x) :: t => (ih mr r ls (vi (x ||| y) :: t) h d) | _ => none
    | .ixor => match st with | Sum.inl (Value.int y) :: Sum.inl (Value.int x) :: t => (ih mr r ls (vi (x ^^^ y) :: t) h d) | _ => none
    | .ishl => match st with | Sum.inl (Value.int y) :: Sum.inl (Value.int x) :: t => (ih mr r ls (vi (x <<< (y &&& 31)) :: t) h d) | _ => none
    | .ishr => match st with | Sum.inl (Value.int y) :: Sum.inl (Value.int x) :: t => (ih mr r ls (vi (x >>> (y &&& 31)) :: t) h d) | _ => none
    | .iushr => match st with | Sum.inl (Value.int y) :: Sum.inl (Value.int x) :: t => (ih mr r ls (vi ((x.toUInt32 >>> (y.toUInt32 &&& Int32.toUInt32 31)).toInt32) :: t) h d) | _ => none
    | .idiv => match st with | Sum.inl (Value.int y) :: Sum.inl (Value.int x) :: t => (if y = 0 then none else ih mr r ls (vi (x / y) :: t) h d) | _ => none
    | .irem => match st with | Sum.inl (Value.int y) :: Sum.inl (Value.int x) :: t => (if y = 0 then none else ih mr r ls (vi (x - x / y * y) :: t) h d) | _ => none
    | .ineg => match st with | Sum.inl (Value.int x) :: t => (ih mr r ls (vi (-x) :: t) h d) | _ => none
    | .i2b => match st with | Sum.inl (Value.int x) :: t => (ih mr r ls (vi x.toInt8.toInt32 :: t) h d) | _ => none
    | .i2c => match st with | Sum.inl (Value.int x) :: t => (ih mr r ls (vi (x.toUInt32 % 65536).toInt32 :: t) h d) | _ => none
    | .i2l => match st with | Sum.inl (Value.int x) :: t => (ih mr r ls (Sum.inl (Value.long x.toInt64) :: t) h d) | _ => none
    | .i2d => match st with | Sum.inl (Value.int x) :: t => (ih mr r ls (Sum.inl (Value.double (FP.i2d x)) :: t) h d) | _ => none
    | .i2f => match st with | Sum.inl (Value.int x) :: t => (ih mr r ls (Sum.inl (Value.float (FP.i2f x)) :: t) h d) | _ => none
    | .ladd => match st with | Sum.inl (Value.long y) :: Sum.inl (Value.long x) :: t => (ih mr r ls (Sum.inl (Value.long (x + y)) :: t) h d) | _ => none
    | .lsub => match st with | Sum.inl (Value.long y) :: Sum.inl (Value.long x) :: t => (ih mr r ls (Sum.inl (Value.long (x - y)) :: t) h d) | _ => none
    | .lmul => match st with | Sum.inl (Value.long y) :: Sum.inl (Value.long x) :: t => (ih mr r ls (Sum.inl (Value.long (x * y)) :: t) h d) | _ => none
    | .land => match st with | Sum.inl (Value.long y) :: Sum.inl (Value.long x) :: t => (ih mr r ls (Sum.inl (Value.long (x &&& y)) :: t) h d) | _ => none
    | .lshl => match st with | Sum.inl (Value.int y) :: Sum.inl (Value.long x) :: t => (ih mr r ls (Sum.inl (Value.long (x <<< (y.toInt64 &&& 63))) :: t) h d) | _ => none
    | .lcmp => match st with | Sum.inl (Value.long y) :: Sum.inl (Value.long x) :: t => (ih mr r ls (vi (lg_cmp x y) :: t) h d) | _ => none
    | .dcmp op => match st with | Sum.inl (Value.double y) :: Sum.inl (Value.double x) :: t => (ih mr r ls (vi (Op.cmpValue (FP.dcmp x y) op) :: t) h d) | _ => none
    | .fcmp op => match st with | Sum.inl (Value.float y) :: Sum.inl (Value.float x) :: t => (ih mr r ls (vi (Op.cmpValue (FP.fcmp x y) op) :: t) h d) | _ => none
    | .ddiv => match st with | Sum.inl (Value.double y) :: Sum.inl (Value.double x) :: t => (if FP.ddiv x y &&& 0x7fffffffffffffff ≤ 0x7ff0000000000000 then ih mr r ls (Sum.inl (Value.double (FP.ddiv x y)) :: t) h d else none) | _ => none
    | .fdiv => match st with | Sum.inl (Value.float y) :: Sum.inl (Value.float x) :: t => (if FP.fdiv x y &&& 0x7fffffff ≤ 0x7f800000 then ih mr r ls (Sum.inl (Value.float (FP.fdiv x y)) :: t) h d else none) | _ => none
    | .f2d => match st with | Sum.inl (Value.float x) :: t => (if FP.f2d x &&& 0x7fffffffffffffff ≤ 0x7ff0000000000000 then ih mr r ls (Sum.inl (Value.double (FP.f2d x)) :: t) h d else none) | _ => none
    | .ifCond .eq _ => match st with | Sum.inl (Value.int x) :: t => (if x = 0 then ih mr (am_jmp e.2.2.2 mr.2.2.1) ls t h d else ih mr r ls (t) h d) | _ => none
    | .if_icmp .eq _ => match st with | Sum.inl (Value.int y) :: Sum.inl (Value.int x) :: t => (if x = y then ih mr (am_jmp e.2.2.2 mr.2.2.1) ls t h d else ih mr r ls (t) h d) | _ => none
    | .ifCond .ne _ => match st with | Sum.inl (Value.int x) :: t => (if x ≠ 0 then ih mr (am_jmp e.2.2.2 mr.2.2.1) ls t h d else ih mr r ls (t) h d) | _ => none
    | .if_icmp .ne _ => match st with | Sum.inl (Value.int y) :: Sum.inl (Value.int x) :: t => (if x ≠ y then ih mr (am_jmp e.2.2.2 mr.2.2.1) ls t h d else ih mr r ls (t) h d) | _ => none
    | .ifCond .lt _ => match st with | Sum.inl (Value.int x) :: t => (if x < 0 then ih mr (am_jmp e.2.2.2 mr.2.2.1) ls t h d else ih mr r ls (t) h d) | _ => none
    | .if_icmp .lt _ => match st with | Sum.inl (Value.int y) :: Sum.inl (Value.int x) :: t => (if x < y then ih mr (am_jmp e.2.2.2 mr.2.2.1) ls t h d else ih mr r ls (t) h d) | _ => none
    | .ifCond .ge _ => match st with | Sum.inl (Value.int x) :: t => (if 0 ≤ x then ih mr (am_jmp e.2.2.2 mr.2.2.1) ls t h d else ih mr r ls (t) h d) | _ => none
    | .if_icmp .ge _ => match st with | Sum.inl (Value.int y) :: Sum.inl (Value.int x) :: t => (if y ≤ x then ih mr (am_jmp e.2.2.2 mr.2.2.1) ls t h d else ih mr r ls (t) h d) | _ => none
    | .ifCond .gt _ => match st with | Sum.inl (Value.int x) :: t => (if 0 < x then ih mr (am_jmp e.2.2.2 mr.2.2.1) ls t h d else ih mr r ls (t) h d) | _ => none
    | .if_icmp .gt _ => match st with | Sum.inl (Value.int y) :: Sum.inl (Value.int x) :: t => (if y < x then ih mr (am_jmp e.2.2.2 mr.2.2.1) ls t h d else ih mr r ls (t) h d) | _ => none
    | .ifCond .le _ => match st with | Sum.inl (Value.int x) :: t => (if x ≤ 0 then ih mr (am_jmp e.2.2.2 mr.2.2.1) ls t h d else ih mr r ls (t) h d) | _ => none
    | .if_icmp .le _ => match st with | Sum.inl (Value.int y) :: Sum.inl (Value.int x) :: t => (if x ≤ y then ih mr (am_jmp e.2.2.2 mr.2.2.1) ls t h d else ih mr r ls (t) h d) | _ => none
    | .if_acmp .eq _ => match st with | Sum.inr y :: Sum.inr x :: t => am_aq (ih mr (am_jmp e.2.2.2 mr.2.2.1) ls t h d) (ih mr r ls (t) h d) x y | _ => none
    | .if_acmp .ne _ => match st with | Sum.inr y :: Sum.inr x :: t => am_aq (ih mr r ls (t) h d) (ih mr (am_jmp e.2.2.2 mr.2.2.1) ls t h d) x y | _ => none
    | .ifnull _ => match st with | Sum.inr _ :: t => ih mr r ls (t) h d | Sum.inl Value.null :: t => ih mr (am_jmp e.2.2.2 mr.2.2.1) ls t h d | _ => none
    | .ifnonnull _ => match st with | Sum.inr _ :: t => ih mr (am_jmp e.2.2.2 mr.2.2.1) ls t h d | Sum.inl Value.null :: t => ih mr r ls (t) h d | _ => none
    | .goto _ => ih mr (am_jmp e.2.2.2 mr.2.2.1) ls st h d
    | .tableswitch dflt lo hi offs => match st with | Sum.inl (Value.int x) :: t => (am_tsw (fun tgt => ih mr (am_jmp tgt mr.2.2.1) ls t h d) e.1 dflt lo hi offs x) | _ => none
    | .lookupswitch dflt ps => match st with | Sum.inl (Value.int x) :: t => (am_lsw (fun tgt => ih mr (am_jmp tgt mr.2.2.1) ls t h d) e.1 dflt ps x) | _ => none
    | .getfield k => match st with | Sum.inr a :: t => (match am_F mr.1 k with | some (ci, j, kd) => bif Nat.beq (am_ty h a).1 ci && am_ex h a then (bif Nat.beq kd 1 then am_pr (fun v => ih mr r ls (v :: t) h d) (am_rR h a j) else ih mr r ls (vi (am_rI h a j) :: t) h d) else none | none => none) | _ => none
    | .putfield k => match am_F mr.1 k with | some (ci, j, kd) => (match st with | v :: Sum.inr a :: t => bif Nat.beq (am_ty h a).1 ci && am_ex h a && am_dyn a then am_pf (fun h1 => ih mr r ls (t) h1 d) h a j kd v else none | _ => none) | none => none
    | .getstatic k => match am_S mr.1 k with | some v => ih mr r ls (v :: st) h d | none => none
    | .iaload => match st with | Sum.inl (Value.int j) :: Sum.inr a :: t => (bif Nat.beq (am_ty h a).1 100 && am_ex h a then (if 0 ≤ j ∧ j.toNatClampNeg < (am_ty h a).2 then ih mr r ls (vi (am_rI h a j.toNatClampNeg) :: t) h d else none) else none) | _ => none
    | .baload => match st with | Sum.inl (Value.int j) :: Sum.inr a :: t => (bif (Nat.beq (am_ty h a).1 101 || Nat.beq (am_ty h a).1 102) && am_ex h a then (if 0 ≤ j ∧ j.toNatClampNeg < (am_ty h a).2 then ih mr r ls (vi (am_rI h a j.toNatClampNeg) :: t) h d else none) else none) | _ => none
    | .aaload => match st with | Sum.inl (Value.int j) :: Sum.inr a :: t => (bif (Nat.beq (am_ty h a).1 104 || Nat.beq (am_ty h a).1 105 || Nat.beq (am_ty h a).1 106) && am_ex h a then (if 0 ≤ j ∧ j.toNatClampNeg < (am_ty h a).2 then am_pr (fun v => ih mr r ls (v :: t) h d) (am_rR h a j.toNatClampNeg) else none) else none) | _ => none
    | .laload => match st with | Sum.inl (Value.int j) :: Sum.inr (Sum.inr (Sum.inr (Sum.inr q))) :: t => (if q.1 = 103 ∧ h.nx = none ∧ 0 ≤ j ∧ j.toNatClampNeg < h.dl q.2 then ih mr r ls (Sum.inl (Value.long (h.lg q.2 j.toNatClampNeg)) :: t) h d else none) | _ => none
    | .iastore => match st with | Sum.inl (Value.int x) :: Sum.inl (Value.int j) :: Sum.inr a :: t => (bif Nat.beq (am_ty h a).1 100 && am_ex h a && am_dyn a && h.nx.isNone then (if 0 ≤ j ∧ j.toNatClampNeg < (am_ty h a).2 then ih mr r ls (t) (am_u h.1 a j.toNatClampNeg x, h.2) d else none) else none) | _ => none
    | .bastore => match st with | Sum.inl (Value.int x) :: Sum.inl (Value.int j) :: Sum.inr a :: t => (bif (Nat.beq (am_ty h a).1 101 || Nat.beq (am_ty h a).1 102) && am_ex h a && am_dyn a && h.nx.isNone then (if 0 ≤ j ∧ j.toNatClampNeg < (am_ty h a).2 then ih mr r ls (t) (am_u h.1 a j.toNatClampNeg (vp_nar (bif Nat.beq (am_ty h a).1 101 then .byte else .boolean) x), h.2) d else none) else none) | _ => none
    | .lastore => match st with | Sum.inl (Value.long x) :: Sum.inl (Value.int j) :: Sum.inr (Sum.inr (Sum.inr (Sum.inr q))) :: t => (if q.1 = 103 ∧ h.nx = none ∧ 0 ≤ j ∧ j.toNatClampNeg < h.dl q.2 then ih mr r ls (t) (am_ls h q.2 j.toNatClampNeg x) d else none) | _ => none
    | .aastore => match st with | Sum.inr b :: Sum.inl (Value.int j) :: Sum.inr a :: t => (bif am_sto (am_ty h a).1 (am_ty h b).1 && am_ex h a && am_dyn a && am_ex h b && (am_dyn b || Nat.beq (am_ty h b).1 13) then (if 0 ≤ j ∧ j.toNatClampNeg < (am_ty h a).2 then ih mr r ls (t) (h.1, am_u h.2.1 a j.toNatClampNeg (Sum.inr b), h.2.2) d else none) else none) | _ => none
    | .arraylength => match st with | Sum.inr a :: t => (bif Nat.ble 100 (am_ty h a).1 && Nat.ble (am_ty h a).1 106 && am_ex h a then ih mr r ls (vi (nI (am_ty h a).2) :: t) h d else none) | _ => none
    | .new k => match am_N mr.1 k with | some (m, tg, E) => bif Nat.beq m 0 then am_mk (fun a h1 => ih mr r ls (Sum.inr a :: st) h1 d) h tg none else (match st, h.nx with | [], none => bif Nat.ble 6 d && am_xt mr.2.2.2 e.1 then some (Sum.inr E, am_cnt h 1 6) else none | _, _ => none) | none => none
    | .newarray ty => match st with | Sum.inl (Value.int x) :: t => (if x < 0 then none else am_mk (fun a h1 => ih mr r ls (Sum.inr a :: t) h1 d) h (am_at ty) (some x.toNatClampNeg)) | _ => none
    | .anewarray k => match st with | Sum.inl (Value.int x) :: t => (match am_A mr.1 k with | some tg => if x < 0 then none else am_mk (fun a h1 => ih mr r ls (Sum.inr a :: t) h1 d) h tg (some x.toNatClampNeg) | none => none) | _ => none
    | .invokevirtual k => match am_M mr.1 k with | some q => am_call ih mr e.1 r ls st h d q | none => none
    | .invokestatic k => match am_M mr.1 k with | some q => am_call ih mr e.1 r ls st h d q | none => none
    | .invokespecial k => match am_M mr.1 k with | some q => am_call ih mr e.1 r ls st h d q | none => none
    | .invokeinterface k _ => match am_M mr.1 k with | some q => am_call ih mr e.1 r ls st h d q | none => none
    | .checkcast k => match am_K mr.1 k with | some tg => (match st with | Sum.inr a :: t => bif Nat.beq (am_ty h a).1 tg && am_dyn a && am_ex h a then ih mr r ls (Sum.inr a :: t) h d else none | _ => none) | none => none
    | .return_ => match st with | [] => some (Sum.inl none, h) | _ => none
    | .ireturn => match st with | [Sum.inl (Value.int x)] => (am_nr e.2.2.2 x (some (Sum.inl (some (vi x)), h))) | _ => none
    | .freturn => match st with | [Sum.inl (Value.float x)] => (some (Sum.inl (some (Sum.inl (Value.float x))), h)) | _ => none
    | .lreturn => match st with | [Sum.inl (Value.long x)] => (some (Sum.inl (some (Sum.inl (Value.long x))), h)) | _ => none
    | .dreturn => match st with | [Sum.inl (Value.double x)] => (some (Sum.inl (some (Sum.inl (Value.double x))), h)) | _ => none
    | .areturn => match st with | [Sum.inr a] => some (Sum.inl (some (Sum.inr a)), h) | [Sum.inl Value.null] => some (Sum.inl (some (Sum.inl Value.null)), h) | _ => none
    | _ => none
/-- the machine: f steps deep -/
def am_ev (f : Nat) : AK := Nat.rec (fun _ _ _ _ _ _ => none) (fun _ ih => am_step ih) f
theorem am_ev_s (f : Nat) (mr : MR) (rest : List CI) (ls : AL) (st : List AV) (h : AH) (d : Nat) : am_ev (f + 1) mr rest ls st h d = am_step (am_ev f) mr rest ls st h d := rfl
/-- a method, from its entry -/
def am_run (f d : Nat) (mr : MR) (as : List AV) (h : AH) : AR := am_ev f mr mr.2.2.1 (am_pad mr.2.1 (am_args as)) [] h d
