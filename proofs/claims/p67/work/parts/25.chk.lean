/-! what is checked of a method's code -/
def am_len : Instr → Nat
  | .bipush _ => 2 | .sipush _ => 3 | .ldc _ => 2 | .ldc_w _ => 3
  | .iload _ => 2 | .fload _ => 2 | .dload _ => 2 | .aload _ => 2 | .istore _ => 2 | .fstore _ => 2 | .dstore _ => 2 | .astore _ => 2
  | .lload _ => 2 | .lstore _ => 2 | .ldc2_w _ => 3 | .checkcast _ => 3 | .invokeinterface _ _ => 5
  | .iinc _ _ => 3 | .ifCond _ _ => 3 | .if_icmp _ _ => 3 | .if_acmp _ _ => 3 | .ifnull _ => 3 | .ifnonnull _ => 3 | .goto _ => 3
  | .getfield _ => 3 | .putfield _ => 3 | .getstatic _ => 3 | .invokevirtual _ => 3 | .invokestatic _ => 3 | .invokespecial _ => 3 | .new _ => 3 | .newarray _ => 2 | .anewarray _ => 3
  | _ => 1
def am_sw : Instr → Bool
  | .tableswitch .. => true
  | .lookupswitch .. => true
  | _ => false
def am_dck (bytes : ByteArray) (pc : Nat) (i : Instr) (n : Nat) : Bool := match decode bytes pc with
  | .ok (j, k) => decide (j = i) && Nat.beq k n
  | _ => false
theorem am_dck_ok {bytes : ByteArray} {pc n : Nat} {i : Instr} (h : am_dck bytes pc i n = true) : decode bytes pc = .ok (i, n) := by
  unfold am_dck at h
  split at h
  · next j k hd =>
    obtain ⟨h1, h2⟩ := Bool.and_eq_true_iff.mp h
    rw [hd, of_decide_eq_true h1, Nat.eq_of_beq_eq_true h2]
  · cases h
def am_ik : Nat → Nat × Nat
  | 0 => (291, 295)
  | 1 => (62, 66)
  | _ => (73, 77)
/-- a throw, from its new on -/
def am_tck (bytes : ByteArray) (pc ic : Nat) : Bool := am_dck bytes (pc + 3) .dup 1 && (match decode bytes (pc + 4) with
  | .ok (.ldc is, 2) => am_tx.any (Nat.beq is) && am_dck bytes (pc + 6) (.invokespecial ic) 3 && am_dck bytes (pc + 9) .athrow 1
  | .ok (.ldc_w is, 3) => am_tx.any (Nat.beq is) && am_dck bytes (pc + 7) (.invokespecial ic) 3 && am_dck bytes (pc + 10) .athrow 1
  | _ => false)
/-- which instruction makes which kind of call -/
def am_ivk (w kd : Nat) : Bool := match w with
  | 0 => Nat.beq kd 0 || Nat.beq kd 4 || Nat.beq kd 5 || Nat.beq kd 7 || Nat.beq kd 8
  | 1 => Nat.beq kd 1 || Nat.beq kd 12 || Nat.beq kd 14 || Nat.beq kd 10 || Nat.beq kd 11 || Nat.beq kd 15 || Nat.beq kd 16 || Nat.beq kd 17
  | _ => Nat.beq kd 2 || Nat.beq kd 13 || Nat.beq kd 6 || Nat.beq kd 3
def am_ick (en : ME) (e : CI) : Bool := match e.2.1 with
  | .istore_n k => Nat.blt k.val en.1.2.1
  | .fstore_n k => Nat.blt k.val en.1.2.1
  | .astore_n k => Nat.blt k.val en.1.2.1
  | .dstore_n k => Nat.blt (k.val + 1) en.1.2.1
  | .lstore_n k => Nat.blt (k.val + 1) en.1.2.1
  | .lstore k => Nat.blt (k + 1) en.1.2.1
  | .lreturn => decide (en.2.2.2.1 = some .long)
  | .invokeinterface k _ => (match am_M en.1.1 k with | some q => Nat.beq q.1 9 | none => true)
  | .istore k => Nat.blt k en.1.2.1
  | .fstore k => Nat.blt k en.1.2.1
  | .astore k => Nat.blt k en.1.2.1
  | .dstore k => Nat.blt (k + 1) en.1.2.1
  | .iinc k _ => Nat.blt k en.1.2.1
  | .ifCond _ off => decide ((e.1 : Int) + off = (e.2.2.2 : Int))
  | .if_icmp _ off => decide ((e.1 : Int) + off = (e.2.2.2 : Int))
  | .if_acmp _ off => decide ((e.1 : Int) + off = (e.2.2.2 : Int))
  | .ifnull off => decide ((e.1 : Int) + off = (e.2.2.2 : Int))
  | .ifnonnull off => decide ((e.1 : Int) + off = (e.2.2.2 : Int))
  | .goto off => decide ((e.1 : Int) + off = (e.2.2.2 : Int))
  | .lookupswitch _ ps => (ps.toList.zip (ps.toList.drop 1)).all (fun (a, next) => a.1 < next.1)
  | .return_ => en.2.2.2.1.isNone
  | .ireturn => decide (en.2.2.2.1 = some (am_rty e.2.2.2))
  | .freturn => decide (en.2.2.2.1 = some .float)
  | .dreturn => decide (en.2.2.2.1 = some .double)
  | .areturn => (match en.2.2.2.1 with | some (.object _) => true | some (.array _) => true | _ => false)
  | .putfield k => (match am_F en.1.1 k with | some v => (match vwCl[v.1]? with | some q => !(q.2.1 v.2.1).2.2.2 || (en.2.1.name == "<init>" && (q.2.1 v.2.1).1 == am_cn en.1.1) | none => true) | none => true)
  | .new k => (match am_N en.1.1 k with | some (m, tg, E) => bif Nat.beq m 0 then true else Nat.beq m 1 && Nat.beq en.1.1 11 && Nat.blt E 3 && en.2.2.2.2.isNone && Nat.beq tg 0 && Nat.beq k (am_ik E).1 && am_tck en.2.2.1 e.1 (am_ik E).2 | none => true)
  | .invokevirtual k => (match am_M en.1.1 k with | some q => am_ivk 0 q.1 | none => true)
  | .invokestatic k => (match am_M en.1.1 k with | some q => am_ivk 1 q.1 | none => true)
  | .invokespecial k => (match am_M en.1.1 k with | some q => am_ivk 2 q.1 | none => true)
  | _ => true
def am_nck (e : CI) : List CI → Bool
  | [] => true
  | e2 :: _ => Nat.beq e2.1 (e.1 + e.2.2.1)
def am_ck (en : ME) : List CI → Bool
  | [] => true
  | e :: r => am_dck en.2.2.1 e.1 e.2.1 e.2.2.1 && (am_sw e.2.1 || Nat.beq e.2.2.1 (am_len e.2.1)) && am_ick en e && am_nck e r && am_ck en r
